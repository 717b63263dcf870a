/-! Names on the tape: words, paths. -/
def mt (T ch : Nat → Nat) (a p ln : Nat) : Prop := ∀ j, j < ln → T (a + j) = ch (p + j)
/-- a word of the text: at p, so long -/
def Wd (ch : Nat → Nat) (n p ln : Nat) : Prop := 0 < ln ∧ p + ln ≤ n ∧ (∀ j, j < ln → cinn (ch (p + j)) = true) ∧ (p + ln = n ∨ cinn (ch (p + ln)) = false)
theorem cinn46 : cinn 46 = false := by decide
section FIND
variable {T ch : Nat → Nat} {m n N : Nat} {c s : ms}
theorem goes_L {i p ln a : Nat} (hi : i < 65540) (h5 : s.1 5 i = nI p) (h6 : s.1 6 i = nI (p + ln)) (hp : p + ln ≤ n) (hn : n ≤ 12000) (ha : a + ln ≤ m) (hm : m ≤ 12000) (hT : ∀ k, k < m → T k < 256 ∧ s.1 1 k = kch (T k)) (h90 : ∀ k, k < n → ch k < 256 ∧ s.1 90 k = kch (ch k)) : ∀ (F k j : Nat), j + k = ln → k < F → ∃ r : Int32, hd_M_goesOn_31 N F (nI a) (nI i) 1 (nI j) s = some (r, s) ∧ (r = 0 ∨ r = 1) ∧ (r = 1 ↔ ∀ x, j ≤ x → x < ln → T (a + x) = ch (p + x)) := by
  intro F
  induction F with
  | zero => intro k j h1 h2; omega
  | succ F ih =>
    intro k j h1 h2
    show ∃ r, bd_M_goesOn_31 N (hd_M_goesOn_31 N F) (nI a) (nI i) 1 (nI j) s = _ ∧ _
    unfold bd_M_goesOn_31
    rw [if_neg (show ¬ (1 : Int32) = 0 by decide), if_neg (nI_in hi (by decide)), if_neg (nI_in hi (by decide)), nI_clamp (show i < 2 ^ 31 by omega), h6, h5, nI_sub (by omega), show p + ln - p = ln by omega]
    cases k with
    | zero =>
      rw [if_pos (nI_le (by omega) (by omega)), if_neg (by decide)]
      exact ⟨1, rfl, Or.inr rfl, fun _ x x1 x2 => by omega, fun _ => rfl⟩
    | succ k =>
      obtain ⟨c1, c2⟩ := hT (a + j) (by omega)
      obtain ⟨c3, c4⟩ := h90 (p + j) (by omega)
      rw [if_neg (nI_ge (show j < ln by omega) (by omega)), nI_add, if_neg (nI_in (show a + j < 65536 by omega) (by decide)), if_neg (nI_in2 hi (by decide)), nI_add, if_neg (nI_in (show p + j < 65536 by omega) (by decide)), nI_clamp (show a + j < 2 ^ 31 by omega), nI_clamp (show p + j < 2 ^ 31 by omega), c2, c4, nI_1 j]
      by_cases z : T (a + j) = ch (p + j)
      · rw [if_pos ((kch_one c1 c3).mpr z)]
        obtain ⟨r, r1, r2, r3⟩ := ih k (j + 1) (by omega) (by omega)
        refine ⟨r, r1, r2, r3.trans ⟨fun q x x1 x2 => ?_, fun q x x1 x2 => q x (by omega) x2⟩⟩
        by_cases y : x = j
        · rw [y]; exact z
        · exact q x (by omega) x2
      · rw [if_neg (fun q => z ((kch_one c1 c3).mp q))]
        obtain ⟨F, rfl⟩ : ∃ q, F = q + 1 := ⟨F - 1, by omega⟩
        refine ⟨0, ?_, Or.inl rfl, fun q => absurd q (by decide), fun q => absurd (q j (Nat.le_refl _) (by omega)) z⟩
        show bd_M_goesOn_31 N (hd_M_goesOn_31 N F) (nI a) (nI i) 0 (nI (j + 1)) s = _
        unfold bd_M_goesOn_31
        rw [if_pos rfl, if_neg (by decide)]
theorem goes_M {i p ln a : Nat} (hN : 13000 < N) (hi : i < 65540) (h5 : s.1 5 i = nI p) (h6 : s.1 6 i = nI (p + ln)) (hp : p + ln ≤ n) (hn : n ≤ 12000) (ha : a ≤ m) (hm : m ≤ 12000) (h88 : s.1 88 0 = nI m) (hT : ∀ k, k < m → T k < 256 ∧ s.1 1 k = kch (T k)) (h90 : ∀ k, k < n → ch k < 256 ∧ s.1 90 k = kch (ch k)) : ∃ r : Int32, fn_M_goesOn N (nI a) (nI i) s = some (r, s) ∧ (r = 0 ∨ r = 1) ∧ (r = 1 ↔ a + ln ≤ m ∧ mt T ch a p ln) := by
  unfold fn_M_goesOn
  rw [if_neg (nI_in hi (by decide)), if_neg (nI_in hi (by decide)), nI_clamp (show i < 2 ^ 31 by omega), h6, h5, h88, nI_add, nI_sub (by omega), show a + (p + ln) - p = a + ln by omega]
  by_cases z : a + ln ≤ m
  · rw [if_neg (nI_nlt z (by omega))]
    obtain ⟨r, r1, r2, r3⟩ := goes_L (N := N) (T := T) (ch := ch) hi h5 h6 hp hn z hm hT h90 N ln 0 (by omega) (by omega)
    exact ⟨r, r1, r2, r3.trans ⟨fun q => ⟨z, fun j hj => q j (Nat.zero_le _) hj⟩, fun q x _ x2 => q.2 x x2⟩⟩
  · rw [if_pos (nI_lt (by omega) (by omega))]
    obtain ⟨F, rfl⟩ : ∃ q, N = q + 1 := ⟨N - 1, by omega⟩
    refine ⟨0, ?_, Or.inl rfl, fun q => absurd q (by decide), fun q => absurd q.1 z⟩
    show bd_M_goesOn_31 (F + 1) (hd_M_goesOn_31 (F + 1) F) (nI a) (nI i) 0 0 s = _
    unfold bd_M_goesOn_31
    rw [if_pos rfl, if_neg (by decide)]
theorem called_L {p a b : Nat} (hab : a ≤ b) (hb : b ≤ m) (hm : m ≤ 12000) (hp : p + (b - a) ≤ n) (hn : n ≤ 12000) (h358 : c.1 358 0 = nI n) (hT : ∀ k, k < m → T k < 256 ∧ c.1 307 k = kch (T k)) (h357 : ∀ k, k < n → ch k < 256 ∧ c.1 357 k = kch (ch k)) : ∀ (F k j : Nat), j + k = b - a → k < F → ∃ r : Int32, hd_Design_isCalled_Dc_307_37 N F (nI p) (nI a) (nI (b - a)) (nI j) c = some (r, c) ∧ (r = 0 ∨ r = 1) ∧ (r = 1 ↔ (∀ x, j ≤ x → x < b - a → T (a + x) = ch (p + x) ∧ cinn (T (a + x)) = true) ∧ (p + (b - a) = n ∨ cinn (ch (p + (b - a))) = false)) := by
  intro F
  induction F with
  | zero => intro k j h1 h2; omega
  | succ F ih =>
    intro k j h1 h2
    show ∃ r, bd_Design_isCalled_Dc_307_37 N (hd_Design_isCalled_Dc_307_37 N F) (nI p) (nI a) (nI (b - a)) (nI j) c = _ ∧ _
    unfold bd_Design_isCalled_Dc_307_37
    cases k with
    | zero =>
      rw [if_pos (nI_le (by omega) (by omega)), h358, nI_add]
      by_cases z : p + (b - a) = n
      · rw [if_pos (nI_le (by omega) (by omega))]
        exact ⟨1, rfl, Or.inr rfl, fun _ => ⟨fun x x1 x2 => by omega, Or.inl z⟩, fun _ => rfl⟩
      · obtain ⟨c3, c4⟩ := h357 (p + (b - a)) (by omega)
        rw [if_neg (nI_ge (by omega) (by omega)), if_neg (nI_in (show p + (b - a) < 65536 by omega) (by decide)), nI_clamp (by omega), c4, continuesWord_C (by omega), obind]
        dsimp only
        cases q : cinn (ch (p + (b - a))) with
        | false =>
          rw [if_pos (show b01 false = 0 by decide)]
          exact ⟨1, rfl, Or.inr rfl, fun _ => ⟨fun x x1 x2 => by omega, Or.inr rfl⟩, fun _ => rfl⟩
        | true =>
          rw [if_neg (show ¬ b01 true = 0 by decide)]
          exact ⟨0, rfl, Or.inl rfl, fun y => absurd y (by decide), fun y => absurd y.2 (fun w => w.elim z (fun v => by cases v))⟩
    | succ k =>
      obtain ⟨c1, c2⟩ := hT (a + j) (by omega)
      obtain ⟨c3, c4⟩ := h357 (p + j) (by omega)
      rw [if_neg (nI_ge (show j < b - a by omega) (by omega)), nI_add, if_neg (nI_in (show a + j < 65536 by omega) (by decide)), nI_add, if_neg (nI_in (show p + j < 65536 by omega) (by decide)), nI_clamp (show a + j < 2 ^ 31 by omega), nI_clamp (show p + j < 2 ^ 31 by omega), c2, c4, nI_1 j]
      by_cases z : T (a + j) = ch (p + j)
      · rw [if_pos ((kch_one c1 c3).mpr z), if_neg (nI_in2 (show a + j < 65536 by omega) (by decide)), continuesWord_C (by omega), obind]
        dsimp only
        cases q : cinn (T (a + j)) with
        | false =>
          rw [if_pos (show b01 false = 0 by decide)]
          exact ⟨0, rfl, Or.inl rfl, fun y => absurd y (by decide), fun y => by have := (y.1 j (Nat.le_refl _) (by omega)).2; rw [q] at this; cases this⟩
        | true =>
          rw [if_neg (show ¬ b01 true = 0 by decide)]
          obtain ⟨r, r1, r2, r3⟩ := ih k (j + 1) (by omega) (by omega)
          refine ⟨r, r1, r2, r3.trans ⟨fun w => ⟨fun x x1 x2 => ?_, w.2⟩, fun w => ⟨fun x x1 x2 => w.1 x (by omega) x2, w.2⟩⟩⟩
          by_cases y : x = j
          · rw [y]; exact ⟨z, q⟩
          · exact w.1 x (by omega) x2
      · rw [if_neg (fun q => z ((kch_one c1 c3).mp q))]
        exact ⟨0, rfl, Or.inl rfl, fun q => absurd q (by decide), fun q => absurd (q.1 j (Nat.le_refl _) (by omega)).1 z⟩
theorem called_C {p ln a b : Nat} (hN : 13000 < N) (hab : a ≤ b) (hb : b ≤ m) (hm : m ≤ 12000) (hw : Wd ch n p ln) (hn : n ≤ 12000) (h358 : c.1 358 0 = nI n) (hT : ∀ k, k < m → T k < 256 ∧ c.1 307 k = kch (T k)) (h357 : ∀ k, k < n → ch k < 256 ∧ c.1 357 k = kch (ch k)) : ∃ r : Int32, fn_Design_isCalled_Dc_307 N (nI p) (nI a) (nI b) c = some (r, c) ∧ (r = 0 ∨ r = 1) ∧ (r = 1 ↔ b - a = ln ∧ mt T ch a p ln) := by
  obtain ⟨w1, w2, w3, w4⟩ := hw
  unfold fn_Design_isCalled_Dc_307
  rw [if_neg (nI_pos (by omega)), if_neg (nI_pos (by omega)), if_neg (show ¬ (65536 : Int32) < nI b from of_eq_false (nltF (a := 65536) (by omega) (by omega))), nI_sub hab, nI_add, h358]
  by_cases z : p + (b - a) ≤ n
  · rw [if_pos (nI_le z (by omega))]
    obtain ⟨r, r1, r2, r3⟩ := called_L (N := N) (T := T) (ch := ch) hab hb hm z hn h358 hT h357 N (b - a) 0 (by omega) (by omega)
    refine ⟨r, r1, r2, r3.trans ⟨fun q => ?_, fun q => ⟨fun x _ x2 => ⟨q.2 x (by omega), ?_⟩, ?_⟩⟩⟩
    · have e : b - a = ln := by
        rcases Nat.lt_trichotomy (b - a) ln with y | y | y
        · rcases q.2 with v | v
          · omega
          · rw [w3 (b - a) y] at v; cases v
        · exact y
        · have := q.1 ln (Nat.zero_le _) y
          rcases w4 with v | v
          · omega
          · rw [this.1, v] at this; exact absurd this.2 (by decide)
      exact ⟨e, fun j hj => (q.1 j (Nat.zero_le _) (by omega)).1⟩
    · rw [q.2 x (by omega)]
      exact w3 x (by omega)
    · rw [q.1]
      exact w4
  · rw [if_neg (nI_ge (by omega) (by omega))]
    exact ⟨0, rfl, Or.inl rfl, fun q => absurd q (by decide), fun q => by omega⟩
/-- a match holds no dot -/
theorem mt.dot {a p ln z : Nat} (h : mt T ch a p ln) (hw : Wd ch n p ln) (h1 : a ≤ z) (h2 : z < a + ln) : T z ≠ 46 := fun q => by
  have e := h (z - a) (by omega)
  rw [show a + (z - a) = z by omega, q] at e
  have := hw.2.2.1 (z - a) (by omega)
  rw [← e] at this
  exact absurd this (by decide)
end FIND
/-- an item's path, read from the tape, ends at a -/
def PR (T ch : Nat → Nat) (m : Nat) (par : Nat → Nat) (it : Nat → Nat × Nat) : Nat → Nat → Nat → Prop
  | 0, _, _ => False
  | f + 1, y, a => (y = 0 ∧ a = 0) ∨ (0 < y ∧ ∃ a', PR T ch m par it f (par y) a' ∧ a = a' + (it y).2 + 1 ∧ a' + (it y).2 < m ∧ mt T ch a' (it y).1 (it y).2 ∧ T (a' + (it y).2) = 46)
def Pt (T ch : Nat → Nat) (m : Nat) (par : Nat → Nat) (it : Nat → Nat × Nat) (y a : Nat) : Prop := ∃ f, PR T ch m par it f y a
section PATH
variable {T ch : Nat → Nat} {m n n' : Nat} {par : Nat → Nat} {it : Nat → Nat × Nat}
theorem Pt.zero : Pt T ch m par it 0 0 := ⟨1, Or.inl ⟨rfl, rfl⟩⟩
theorem Pt.step {y a' : Nat} (hy : 0 < y) (h : Pt T ch m par it (par y) a') (h1 : a' + (it y).2 < m) (h2 : mt T ch a' (it y).1 (it y).2) (h3 : T (a' + (it y).2) = 46) : Pt T ch m par it y (a' + (it y).2 + 1) := by
  obtain ⟨f, hf⟩ := h
  exact ⟨f + 1, Or.inr ⟨hy, a', hf, rfl, h1, h2, h3⟩⟩
theorem Pt.inv {y a : Nat} (h : Pt T ch m par it y a) : (y = 0 ∧ a = 0) ∨ (0 < y ∧ ∃ a', Pt T ch m par it (par y) a' ∧ a = a' + (it y).2 + 1 ∧ a' + (it y).2 < m ∧ mt T ch a' (it y).1 (it y).2 ∧ T (a' + (it y).2) = 46) := by
  obtain ⟨f, hf⟩ := h
  cases f with
  | zero => exact absurd hf id
  | succ f =>
    rcases hf with hf | ⟨h1, a', h2, h3⟩
    · exact Or.inl hf
    · exact Or.inr ⟨h1, a', ⟨f, h2⟩, h3⟩
theorem PR.uniq : ∀ {f g y a b : Nat}, PR T ch m par it f y a → PR T ch m par it g y b → a = b
  | 0, _, _, _, _, h, _ => absurd h id
  | _ + 1, 0, _, _, _, _, h => absurd h id
  | f + 1, g + 1, y, a, b, h1, h2 => by
    rcases h1 with ⟨x1, x2⟩ | ⟨x1, a', x2, x3, -⟩
    · rcases h2 with ⟨-, y2⟩ | ⟨y1, -⟩
      · omega
      · omega
    · rcases h2 with ⟨y1, -⟩ | ⟨-, b', y2, y3, -⟩
      · omega
      · have := PR.uniq x2 y2
        omega
theorem Pt.uniq {y a b : Nat} (h : Pt T ch m par it y a) (g : Pt T ch m par it y b) : a = b := by
  obtain ⟨f, hf⟩ := h
  obtain ⟨e, he⟩ := g
  exact hf.uniq he
theorem Pt.dot {y a : Nat} (h : Pt T ch m par it y a) (ha : 0 < a) : T (a - 1) = 46 ∧ a ≤ m := by
  rcases h.inv with ⟨-, z⟩ | ⟨-, a', -, h2, h3, -, h5⟩
  · omega
  · rw [show a - 1 = a' + (it y).2 by omega]
    exact ⟨h5, by omega⟩
/-- for each dot before the end: one whose path ends there -/
theorem Pt.reach (hpar : ∀ y, 0 < y → y < n' → par y < y) (hw : ∀ y, 0 < y → y < n' → Wd ch n (it y).1 (it y).2) : ∀ (y a z : Nat), y < n' → Pt T ch m par it y a → z < a → T z = 46 → ∃ w, w < n' ∧ Pt T ch m par it w (z + 1) := by
  intro y
  induction y using Nat.strongRecOn with
  | ind y ih =>
    intro a z hy h hz hd
    rcases h.inv with ⟨-, q⟩ | ⟨h1, a', h2, h3, h4, h5, h6⟩
    · omega
    · by_cases e : a = z + 1
      · exact ⟨y, hy, by rw [← e]; exact h⟩
      · have p := hpar y h1 hy
        by_cases l : a' ≤ z
        · exact absurd hd (h5.dot (hw y h1 hy) l (by omega))
        · exact ih (par y) p a' z (by omega) h2 (by omega) hd
end PATH
