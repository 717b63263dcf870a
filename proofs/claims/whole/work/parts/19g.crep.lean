/-! Words of the class: two that are spelled alike. -/
def wend (ch : Nat → Nat) (n p : Nat) : Nat := ff (pni ch) n p
def weq (ch : Nat → Nat) (n p q : Nat) : Prop := wend ch n p - p = wend ch n q - q ∧ ∀ i, i < wend ch n q - q → ch (p + i) = ch (q + i)
theorem kch_int : ∀ c : Fin 257, (kch c.1).toInt = if c.1 < 128 then (c.1 : Int) else if c.1 = 256 then -1 else (c.1 : Int) - 256 := by decide +kernel
theorem kch_inj {a b : Nat} (ha : a < 256) (hb : b < 256) : kch a = kch b ↔ a = b := by
  constructor
  · intro h
    have e := congrArg Int32.toInt h
    have e1 := kch_int ⟨a, by omega⟩
    have e2 := kch_int ⟨b, by omega⟩
    dsimp only at e1 e2
    rw [e1, e2] at e
    by_cases c1 : a < 128
    · by_cases c2 : b < 128
      · rw [if_pos c1, if_pos c2] at e; omega
      · rw [if_pos c1, if_neg c2, if_neg (by omega)] at e; omega
    · by_cases c2 : b < 128
      · rw [if_neg c1, if_neg (by omega), if_pos c2] at e; omega
      · rw [if_neg c1, if_neg (by omega), if_neg c2, if_neg (by omega)] at e; omega
  · intro h; rw [h]
/-- the same f letters -/
def sml (ch : Nat → Nat) (p q : Nat) : Nat → Bool
  | 0 => true
  | f + 1 => decide (ch p = ch q) && sml ch (p + 1) (q + 1) f
theorem sml_iff (ch : Nat → Nat) : ∀ f p q, (sml ch p q f = true) ↔ ∀ i, i < f → ch (p + i) = ch (q + i)
  | 0, p, q => ⟨fun _ i h => by omega, fun _ => rfl⟩
  | f + 1, p, q => by
    simp only [sml, Bool.and_eq_true, decide_eq_true_eq]
    rw [sml_iff ch f]
    constructor
    · intro h i hi
      cases i with
      | zero => exact h.1
      | succ i =>
        have := h.2 i (by omega)
        rw [show p + (i + 1) = p + 1 + i by omega, show q + (i + 1) = q + 1 + i by omega]; exact this
    · intro h
      refine ⟨h 0 (by omega), fun i hi => ?_⟩
      have := h (i + 1) (by omega)
      rw [show p + 1 + i = p + (i + 1) by omega, show q + 1 + i = q + (i + 1) by omega]; exact this
theorem rep_C {N n p fr to : Nat} {ch : Nat → Nat} {s : ms} (h : Txt s n ch) (hp : p ≤ fr) (h1 : fr ≤ to) (hto : to ≤ n) : ∀ (f m i : Nat), fr + i + f = to → f < m → hd_Scanner_repeats_Sc_3 N m (nI p) (nI fr) (nI to) (nI (fr + i)) s = some (b01 (sml ch (p + i) (fr + i) f && !cinn (ch (p + (to - fr)))), s) := by
  have hn := h.2.1
  intro f
  induction f with
  | zero =>
    intro m i e hm
    obtain ⟨m, rfl⟩ : ∃ m', m = m' + 1 := ⟨m - 1, by omega⟩
    show bd_Scanner_repeats_Sc_3 N (hd_Scanner_repeats_Sc_3 N m) (nI p) (nI fr) (nI to) (nI (fr + i)) s = some (b01 (true && !cinn (ch (p + (to - fr)))), s)
    unfold bd_Scanner_repeats_Sc_3
    have e1 : nI p + nI to - nI fr = nI (p + (to - fr)) := by rw [nI_add, nI_sub (by omega)]; congr 1; omega
    rw [if_pos (nI_le (by omega) (by omega)), e1, byteAt_C h (by omega), ex_bind rfl]
    dsimp only
    rw [continuesWord_C (h.lt _), ex_bind rfl]
    dsimp only
    cases cinn (ch (p + (to - fr)))
    · rfl
    · rfl
  | succ f ih =>
    intro m i e hm
    obtain ⟨m, rfl⟩ : ∃ m', m = m' + 1 := ⟨m - 1, by omega⟩
    show bd_Scanner_repeats_Sc_3 N (hd_Scanner_repeats_Sc_3 N m) (nI p) (nI fr) (nI to) (nI (fr + i)) s = some (b01 ((decide (ch (p + i) = ch (fr + i)) && sml ch (p + i + 1) (fr + i + 1) f) && !cinn (ch (p + (to - fr)))), s)
    unfold bd_Scanner_repeats_Sc_3
    have e1 : nI p + nI (fr + i) - nI fr = nI (p + i) := by rw [nI_add, nI_sub (by omega)]; congr 1; omega
    have a1 := (h.2.2.1 (p + i) (by omega)).1
    have a2 := (h.2.2.1 (fr + i) (by omega)).1
    rw [if_neg (nI_ge (show fr + i < to by omega) (by omega)), e1, byteAt_C h (by omega), ex_bind rfl]
    dsimp only
    rw [byteAt_C h (by omega), ex_bind rfl]
    dsimp only
    rw [nI_1]
    by_cases c : ch (p + i) = ch (fr + i)
    · rw [if_pos ((kch_inj a1 a2).mpr c), decide_eq_true c, Bool.true_and, show fr + i + 1 = fr + (i + 1) by omega, show p + i + 1 = p + (i + 1) by omega]
      exact ih m (i + 1) (by omega) (by omega)
    · rw [if_neg (fun z => c ((kch_inj a1 a2).mp z)), decide_eq_false c, Bool.false_and, Bool.false_and]
      rfl
/-- where a word begins -/
def wst (ch : Nat → Nat) (n p : Nat) : Prop := p < n ∧ clet (ch p) = true
theorem wend_in {s : ms} {n p : Nat} {ch : Nat → Nat} (h : Txt s n ch) (hp : wst ch n p) : p < wend ch n p ∧ wend ch n p ≤ n ∧ cinn (ch (wend ch n p)) = false ∧ ∀ j, p ≤ j → j < wend ch n p → cinn (ch j) = true := by
  obtain ⟨b1, b2, b3⟩ := txt_ff h (pni ch) (fun j q => by rw [pni, q]; rfl) (show p ≤ n by have := hp.1; omega)
  have ci : cinn (ch p) = true := by unfold cinn; rw [hp.2]; rfl
  refine ⟨?_, b2, by show cinn (ch (ff (pni ch) n p)) = false; simpa [pni] using b3, fun j j1 j2 => by have := ff_no (pni ch) n p j j1 j2; simpa [pni] using this⟩
  show p < ff (pni ch) n p
  by_cases z : p < ff (pni ch) n p
  · exact z
  · have e : ff (pni ch) n p = p := by omega
    rw [e] at b3
    simp [pni, ci] at b3
theorem repeats_C {N n p q : Nat} {ch : Nat → Nat} {s : ms} (h : Txt s n ch) (hN : n < N) (hp : wst ch n p) (hq : wst ch n q) (hpq : p ≤ q) : ∃ b : Bool, fn_Scanner_repeats_Sc N (nI p) (nI q) (nI (wend ch n q)) s = some (b01 b, s) ∧ (b = true ↔ weq ch n p q) := by
  obtain ⟨p1, p2, p3, p4⟩ := wend_in h hp
  obtain ⟨q1, q2, q3, q4⟩ := wend_in h hq
  have hn := h.2.1
  have e := rep_C (N := N) h hpq (show q ≤ wend ch n q by omega) q2 (wend ch n q - q) N 0 (by omega) (by omega)
  rw [Nat.add_zero, Nat.add_zero] at e
  refine ⟨_, e, ?_⟩
  rw [Bool.and_eq_true, sml_iff]
  unfold weq
  constructor
  · intro z
    have nc : cinn (ch (p + (wend ch n q - q))) = false := by simpa using z.2
    have hin : ∀ i, i < wend ch n q - q → cinn (ch (p + i)) = true := fun i hi => by rw [z.1 i hi]; exact q4 _ (by omega) (by omega)
    refine ⟨?_, z.1⟩
    rcases Nat.lt_trichotomy (wend ch n p - p) (wend ch n q - q) with c | c | c
    · have := hin (wend ch n p - p) c
      rw [show p + (wend ch n p - p) = wend ch n p by omega, p3] at this; cases this
    · exact c
    · have := p4 (p + (wend ch n q - q)) (by omega) (by omega)
      rw [nc] at this; cases this
  · intro z
    refine ⟨z.2, ?_⟩
    rw [show p + (wend ch n q - q) = wend ch n p by omega, p3]; rfl
