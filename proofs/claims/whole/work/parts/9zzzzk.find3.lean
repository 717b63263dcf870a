/-! find, of both sides: the loops. -/
def FC (N : Nat) (T ch : Nat → Nat) (m n n' ns : Nat) (par : Nat → Nat) (it sg : Nat → Nat × Nat) (bas' ow itm : Nat → Nat) (c : ms) : Prop :=
  (c.1 342 0 = nI n' ∧ c.1 343 0 = nI ns ∧ c.1 200 0 = nI m ∧ c.1 358 0 = nI n) ∧ (∀ k, k < m → T k < 256 ∧ c.1 307 k = kch (T k)) ∧ (∀ k, k < n → ch k < 256 ∧ c.1 357 k = kch (ch k)) ∧
  (∀ y, 0 < y → y < n' → c.1 346 y = nI (par y) ∧ c.1 347 y = nI (itm y) ∧ itm y < 10923 ∧ c.1 380 (itm y) = nI (it y).1) ∧
  (∀ x, x < ns → fn_Circuit_placeOf_Cc N (nI x) c = some (nI (sg x).1, c)) ∧ ∀ i, i < n' → c.1 344 i = nI (bas' i) ∧ fn_Circuit_ownSignals_Cc N (c.1 345 i) c = some (nI (ow i), c)
/-- which signal a name means -/
def Fnd (ns : Nat) (P : Nat → Prop) (r : Int32) : Prop := (∃ x, x < ns ∧ r = nI x ∧ P x ∧ ∀ x', x' < x → ¬ P x') ∨ (r = -1 ∧ ∀ x, x < ns → ¬ P x)
theorem Fnd.uniq {ns : Nat} {P : Nat → Prop} {r r' : Int32} (h : Fnd ns P r) (g : Fnd ns P r') : r = r' := by
  rcases h with ⟨x, h1, h2, h3, h4⟩ | ⟨h1, h2⟩
  · rcases g with ⟨y, g1, g2, g3, g4⟩ | ⟨g1, g2⟩
    · have : x = y := by
        rcases Nat.lt_trichotomy x y with z | z | z
        · exact absurd h3 (g4 x z)
        · exact z
        · exact absurd g3 (h4 y z)
      rw [h2, g2, this]
    · exact absurd h3 (g2 x h1)
  · rcases g with ⟨y, g1, g2, g3, g4⟩ | ⟨g1, g2⟩
    · exact absurd g3 (h2 y g1)
    · rw [h1, g1]
section FINDL
variable {T ch : Nat → Nat} {m n n' ns N : Nat} {par : Nat → Nat} {it sg : Nat → Nat × Nat} {inst bas' ow itm tki dd tkx : Nat → Nat} {c s s' : ms}
theorem got_M {x0 : Nat} (hx0 : x0 < 2 ^ 31) (hns : ns ≤ 1024) : ∀ (k x F : Nat) (s : ms), x + k = ns → k < F → s.1 63 0 = nI ns → hd_M_find_29 N F (nI x0) (nI x) s = some (nI x0, upI s 88 (fun _ => 0)) := by
  intro k
  induction k with
  | zero =>
    intro x F s h1 h2 h63
    obtain ⟨F, rfl⟩ : ∃ q, F = q + 1 := ⟨F - 1, by omega⟩
    show bd_M_find_29 N (hd_M_find_29 N F) (nI x0) (nI x) s = _
    unfold bd_M_find_29
    rw [h63, if_pos (nI_le (by omega) (by omega))]
  | succ k ih =>
    intro x F s h1 h2 h63
    obtain ⟨F, rfl⟩ : ∃ q, F = q + 1 := ⟨F - 1, by omega⟩
    show bd_M_find_29 N (hd_M_find_29 N F) (nI x0) (nI x) s = _
    unfold bd_M_find_29
    rw [h63, if_neg (nI_ge (by omega) (by omega)), if_pos (nI_pos' hx0), nI_1]
    exact ih (x + 1) F s (by omega) (by omega) h63
theorem find_M (hS : FS ch m n n' ns par it sg inst bas' ow) (hN : 13000 < N) : ∀ (k x F : Nat) (s : ms), x + k = ns → k < F → FM T ch m n n' ns par it sg inst itm tki dd tkx s → (∀ x', x' < x → ¬ Nmd T ch m par it sg inst x') → ∃ (r : Int32) (s' : ms), hd_M_find_29 N F (-1) (nI x) s = some (r, upI s' 88 (fun _ => 0)) ∧ Eb [74] [] s s' ∧ Fnd ns (Nmd T ch m par it sg inst) r := by
  have ns1 := hS.1.2.2.2.1
  intro k
  induction k with
  | zero =>
    intro x F s h1 h2 hM h0
    obtain ⟨F, rfl⟩ : ∃ q, F = q + 1 := ⟨F - 1, by omega⟩
    show ∃ r s', bd_M_find_29 N (hd_M_find_29 N F) (-1) (nI x) s = _ ∧ _
    unfold bd_M_find_29
    rw [hM.1, if_pos (nI_le (by omega) (by omega))]
    exact ⟨-1, s, rfl, Eb.rfl, Or.inr ⟨rfl, fun x' h => h0 x' (by omega)⟩⟩
  | succ k ih =>
    intro x F s h1 h2 hM h0
    obtain ⟨F, rfl⟩ : ∃ q, F = q + 1 := ⟨F - 1, by omega⟩
    obtain ⟨r, s1, a1, a2, a3, a4⟩ := isNamed_M (N := N) hS hN (x := x) (by omega) hM
    show ∃ r s', bd_M_find_29 N (hd_M_find_29 N F) (-1) (nI x) s = _ ∧ _
    unfold bd_M_find_29
    rw [hM.1, if_neg (nI_ge (by omega) (by omega)), if_neg (show ¬ (0 : Int32) ≤ -1 by decide), a1, obind]
    dsimp only
    have M1 := hM.keep a2
    rcases a3 with a3 | a3
    · have nn : ¬ Nmd T ch m par it sg inst x := fun z => by have := a4.mpr z; rw [a3] at this; exact absurd this (by decide)
      rw [if_pos a3, nI_1]
      obtain ⟨r', s', b1, b2, b3⟩ := ih (x + 1) F s1 (by omega) (by omega) M1 (fun x' h => by
        by_cases z : x' = x
        · rw [z]; exact nn
        · exact h0 x' (by omega))
      exact ⟨r', s', b1, a2.trans b2, b3⟩
    · rw [if_neg (show ¬ r = 0 by rw [a3]; decide), nI_1, got_M (by omega) ns1 k (x + 1) F s1 (by omega) (by omega) M1.1]
      exact ⟨nI x, s1, rfl, a2, Or.inl ⟨x, by omega, rfl, a4.mp a3, h0⟩⟩
/-- the class: a child called so -/
theorem child_C (hS : FS ch m n n' ns par it sg inst bas' ow) (hN : 13000 < N) (hC : FC N T ch m n n' ns par it sg bas' ow itm c) {i a b : Nat} (hi : i < n') (hab : a ≤ b) (hb : b ≤ m) : ∀ (k y F : Nat), y + k = n' → k < F → 0 < y → ∃ r : Int32, hd_Circuit_childCalled_Cc_307_5 N F (nI i) (nI a) (nI b) (nI y) c = some (r, c) ∧ ((∃ z, y ≤ z ∧ z < n' ∧ r = nI z ∧ par z = i ∧ b - a = (it z).2 ∧ mt T ch a (it z).1 (it z).2) ∨ (r = -1 ∧ ∀ z, y ≤ z → z < n' → ¬ (par z = i ∧ b - a = (it z).2 ∧ mt T ch a (it z).1 (it z).2))) := by
  obtain ⟨⟨m1, n1, n2, ns1, n0⟩, hS2, -⟩ := hS
  obtain ⟨⟨c342, c343, c200, c358⟩, cT, c357, cI, -⟩ := hC
  intro k
  induction k with
  | zero =>
    intro y F h1 h2 hy
    obtain ⟨F, rfl⟩ : ∃ q, F = q + 1 := ⟨F - 1, by omega⟩
    show ∃ r, bd_Circuit_childCalled_Cc_307_5 N (hd_Circuit_childCalled_Cc_307_5 N F) (nI i) (nI a) (nI b) (nI y) c = _ ∧ _
    unfold bd_Circuit_childCalled_Cc_307_5
    rw [c342, if_pos (nI_le (by omega) (by omega))]
    exact ⟨-1, rfl, Or.inr ⟨rfl, fun z h3 h4 => by omega⟩⟩
  | succ k ih =>
    intro y F h1 h2 hy
    obtain ⟨F, rfl⟩ : ∃ q, F = q + 1 := ⟨F - 1, by omega⟩
    obtain ⟨r346, r347, i1, r380⟩ := cI y hy (by omega)
    obtain ⟨p, w⟩ := hS2 y hy (by omega)
    obtain ⟨r', g1, g2⟩ := ih (y + 1) F (by omega) (by omega) (by omega)
    -- not this one
    have go : ¬ (par y = i ∧ b - a = (it y).2 ∧ mt T ch a (it y).1 (it y).2) → ∃ r : Int32, hd_Circuit_childCalled_Cc_307_5 N F (nI i) (nI a) (nI b) (nI (y + 1)) c = some (r, c) ∧ ((∃ z, y ≤ z ∧ z < n' ∧ r = nI z ∧ par z = i ∧ b - a = (it z).2 ∧ mt T ch a (it z).1 (it z).2) ∨ (r = -1 ∧ ∀ z, y ≤ z → z < n' → ¬ (par z = i ∧ b - a = (it z).2 ∧ mt T ch a (it z).1 (it z).2))) := fun no => by
      refine ⟨r', g1, ?_⟩
      rcases g2 with ⟨z, h3, h4⟩ | ⟨h3, h4⟩
      · exact Or.inl ⟨z, by omega, h4⟩
      · refine Or.inr ⟨h3, fun z h5 h6 => ?_⟩
        by_cases e : z = y
        · rw [e]; exact no
        · exact h4 z (by omega) h6
    show ∃ r, bd_Circuit_childCalled_Cc_307_5 N (hd_Circuit_childCalled_Cc_307_5 N F) (nI i) (nI a) (nI b) (nI y) c = _ ∧ _
    unfold bd_Circuit_childCalled_Cc_307_5
    rw [c342, if_neg (nI_ge (by omega) (by omega)), if_neg (nI_in (show y < 257 by omega) (by decide)), nI_clamp (show y < 2 ^ 31 by omega), r346, nI_1]
    by_cases e : par y = i
    · obtain ⟨r, x1, x2, x3⟩ := called_C (N := N) (T := T) (ch := ch) hN hab hb m1 w n1 c358 cT c357
      rw [if_pos (by rw [e]), if_neg (nI_in2 (show y < 257 by omega) (by decide)), r347, if_neg (nI_in i1 (by decide)), nI_clamp (show itm y < 2 ^ 31 by omega), r380, x1, obind]
      dsimp only
      rcases x2 with x2 | x2
      · rw [if_pos x2]
        exact go (fun q => by have := x3.mpr q.2; rw [x2] at this; exact absurd this (by decide))
      · rw [if_neg (show ¬ r = 0 by rw [x2]; decide)]
        exact ⟨nI y, rfl, Or.inl ⟨y, Nat.le_refl _, by omega, rfl, e, x3.mp x2⟩⟩
    · rw [if_neg (fun q => e ((nI_eq (by omega) (by omega)).mp q))]
      exact go (fun q => e q.1)
/-- the class: a signal called so -/
theorem sig_C (hS : FS ch m n n' ns par it sg inst bas' ow) (hN : 13000 < N) (hC : FC N T ch m n n' ns par it sg bas' ow itm c) {a e : Nat} (ha : a ≤ m) (he : e ≤ ns) : ∀ (k x F : Nat), x + k = e → k < F → ∃ r : Int32, hd_Circuit_signalCalled_Cc_307_27 N F (nI a) (nI m) (nI e) (nI x) c = some (r, c) ∧ ((∃ z, x ≤ z ∧ z < e ∧ r = nI z ∧ (m - a = (sg z).2 ∧ mt T ch a (sg z).1 (sg z).2) ∧ ∀ z', x ≤ z' → z' < z → ¬ (m - a = (sg z').2 ∧ mt T ch a (sg z').1 (sg z').2)) ∨ (r = -1 ∧ ∀ z, x ≤ z → z < e → ¬ (m - a = (sg z).2 ∧ mt T ch a (sg z).1 (sg z).2))) := by
  obtain ⟨⟨m1, n1, n2, ns1, n0⟩, -, hS3, -⟩ := hS
  obtain ⟨⟨c342, c343, c200, c358⟩, cT, c357, -, cp, -⟩ := hC
  intro k
  induction k with
  | zero =>
    intro x F h1 h2
    obtain ⟨F, rfl⟩ : ∃ q, F = q + 1 := ⟨F - 1, by omega⟩
    show ∃ r, bd_Circuit_signalCalled_Cc_307_27 N (hd_Circuit_signalCalled_Cc_307_27 N F) (nI a) (nI m) (nI e) (nI x) c = _ ∧ _
    unfold bd_Circuit_signalCalled_Cc_307_27
    rw [if_pos (nI_le (by omega) (by omega))]
    exact ⟨-1, rfl, Or.inr ⟨rfl, fun z h3 h4 => by omega⟩⟩
  | succ k ih =>
    intro x F h1 h2
    obtain ⟨F, rfl⟩ : ∃ q, F = q + 1 := ⟨F - 1, by omega⟩
    obtain ⟨r', g1, g2⟩ := ih (x + 1) F (by omega) (by omega)
    obtain ⟨r, x1, x2, x3⟩ := called_C (N := N) (T := T) (ch := ch) hN ha (Nat.le_refl m) m1 (hS3 x (by omega)).1 n1 c358 cT c357
    show ∃ r, bd_Circuit_signalCalled_Cc_307_27 N (hd_Circuit_signalCalled_Cc_307_27 N F) (nI a) (nI m) (nI e) (nI x) c = _ ∧ _
    unfold bd_Circuit_signalCalled_Cc_307_27
    rw [if_neg (nI_ge (by omega) (by omega)), cp x (by omega), obind]
    dsimp only
    rw [x1, obind, nI_1]
    dsimp only
    rcases x2 with x2 | x2
    · have no : ¬ (m - a = (sg x).2 ∧ mt T ch a (sg x).1 (sg x).2) := fun q => by have := x3.mpr q; rw [x2] at this; exact absurd this (by decide)
      rw [if_pos x2]
      refine ⟨r', g1, ?_⟩
      rcases g2 with ⟨z, h3, h4, h5, h6, h7⟩ | ⟨h3, h4⟩
      · refine Or.inl ⟨z, by omega, h4, h5, h6, fun z' h8 h9 => ?_⟩
        by_cases q : z' = x
        · rw [q]; exact no
        · exact h7 z' (by omega) h9
      · refine Or.inr ⟨h3, fun z h5 h6 => ?_⟩
        by_cases q : z = x
        · rw [q]; exact no
        · exact h4 z (by omega) h6
    · rw [if_neg (show ¬ r = 0 by rw [x2]; decide)]
      exact ⟨nI x, rfl, Or.inl ⟨x, Nat.le_refl _, by omega, rfl, x3.mp x2, fun z' h8 h9 => by omega⟩⟩
theorem dead_C {F : Nat} {x4 x5 : Int32} : hd_Circuit_seek_Cc_307_8 N (F + 1) (nI m) (-1) x4 x5 c = some (-1, c) := by
  have e : bk_Circuit_seek_Cc_307_58 N (nI m) (-1) x4 c = some (-1, c) := by
    unfold bk_Circuit_seek_Cc_307_58
    rw [if_pos rfl]
  show bd_Circuit_seek_Cc_307_8 N (hd_Circuit_seek_Cc_307_8 N F) (nI m) (-1) x4 x5 c = _
  unfold bd_Circuit_seek_Cc_307_8
  rw [e, if_pos rfl, ite_self, ite_self]
theorem seek_C (hS : FS ch m n n' ns par it sg inst bas' ow) (hN : 13000 < N) (hC : FC N T ch m n n' ns par it sg bas' ow itm c) : ∀ (k i a b F : Nat), b + k = m → k + 1 < F → a ≤ b → i < n' → Pt T ch m par it i a → (∀ y, y < n' → Pt T ch m par it y a → y = i) → (∀ z, a ≤ z → z < b → T z ≠ 46) → ∃ r : Int32, hd_Circuit_seek_Cc_307_8 N F (nI m) (nI i) (nI a) (nI b) c = some (r, c) ∧ Fnd ns (Nmd T ch m par it sg inst) r := by
  obtain ⟨⟨m1, n1, n2, ns1, n0⟩, hS2, hS3, hS4, hS5⟩ := id hS
  obtain ⟨⟨c342, c343, c200, c358⟩, cT, c357, cI, cp, cB⟩ := id hC
  have hpar : ∀ y, 0 < y → y < n' → par y < y := fun y h1 h2 => (hS2 y h1 h2).1
  have hwd : ∀ y, 0 < y → y < n' → Wd ch n (it y).1 (it y).2 := fun y h1 h2 => (hS2 y h1 h2).2
  intro k
  induction k with
  | zero =>
    intro i a b F h1 h2 hab hi hp hu hd
    obtain ⟨F, rfl⟩ : ∃ q, F = q + 1 := ⟨F - 1, by omega⟩
    obtain rfl : b = m := by omega
    -- a signal is named if it is one of this item's
    have iff : ∀ x, x < ns → (Nmd T ch b par it sg inst x ↔ inst x = i ∧ b - a = (sg x).2 ∧ mt T ch a (sg x).1 (sg x).2) := fun x hx => by
      constructor
      · rintro ⟨a', h3, h4, h5⟩
        have w := (hS3 x hx).1
        have e : a' = a := by
          rcases Nat.lt_trichotomy a' a with q | q | q
          · have := hp.dot (by omega)
            exact absurd this.1 (h5.dot w (z := a - 1) (by omega) (by omega))
          · exact q
          · have := h3.dot (by omega)
            exact absurd this.1 (hd (a' - 1) (by omega) (by omega))
        subst e
        exact ⟨hu _ (hS3 x hx).2 h3, by omega, h5⟩
      · rintro ⟨h3, h4, h5⟩
        exact ⟨a, by rw [h3]; exact hp, by omega, h5⟩
    obtain ⟨bl, bx⟩ := hS5 i hi
    obtain ⟨r344, r345⟩ := cB i hi
    obtain ⟨r, g1, g2⟩ := sig_C (N := N) (a := a) (e := bas' i + ow i) hS hN hC hab bl (ow i) (bas' i) N rfl (by omega)
    show ∃ r, bd_Circuit_seek_Cc_307_8 N (hd_Circuit_seek_Cc_307_8 N F) (nI b) (nI i) (nI a) (nI b) c = _ ∧ _
    unfold bd_Circuit_seek_Cc_307_8 bk_Circuit_seek_Cc_307_58 fn_Circuit_signalCalled_Cc_307
    rw [if_pos (nI_le (Nat.le_refl _) (by omega)), if_neg (nI_nm1 (by omega)), if_neg (nI_in (show i < 257 by omega) (by decide)), if_neg (nI_in (show i < 257 by omega) (by decide)), nI_clamp (by omega), r345, obind]
    dsimp only
    rw [if_neg (nI_in2 (show i < 257 by omega) (by decide)), r344, nI_add, g1, obind]
    refine ⟨r, rfl, ?_⟩
    rcases g2 with ⟨x, h3, h4, h5, h6, h7⟩ | ⟨h3, h4⟩
    · refine Or.inl ⟨x, by omega, h5, (iff x (by omega)).mpr ⟨(bx x (by omega)).mpr ⟨h3, h4⟩, h6⟩, fun x' h8 q => ?_⟩
      obtain ⟨q1, q2⟩ := (iff x' (by omega)).mp q
      exact h7 x' ((bx x' (by omega)).mp q1).1 h8 q2
    · refine Or.inr ⟨h3, fun x hx q => ?_⟩
      obtain ⟨q1, q2⟩ := (iff x hx).mp q
      have := (bx x hx).mp q1
      exact h4 x this.1 this.2 q2
  | succ k ih =>
    intro i a b F h1 h2 hab hi hp hu hd
    obtain ⟨F, rfl⟩ : ∃ q, F = q + 1 := ⟨F - 1, by omega⟩
    obtain ⟨t1, t2⟩ := cT b (by omega)
    show ∃ r, bd_Circuit_seek_Cc_307_8 N (hd_Circuit_seek_Cc_307_8 N F) (nI m) (nI i) (nI a) (nI b) c = _ ∧ _
    unfold bd_Circuit_seek_Cc_307_8
    rw [if_neg (nI_ge (by omega) (by omega)), if_neg (show ¬ (65536 : Int32) ≤ nI b from nI_ge (b := 65536) (show b < 65536 by omega) (by decide)), if_neg (nI_nm1 (by omega)), if_neg (nI_in (show b < 65536 by omega) (by decide)), nI_clamp (by omega), t2, nI_1]
    by_cases v : T b = 46
    · rw [if_pos (show kch (T b) = 46 by rw [v]; decide)]
      -- whose path ends behind this dot
      have kid : ∀ z, z < n' → Pt T ch m par it z (b + 1) → 0 < z ∧ par z = i ∧ b - a = (it z).2 ∧ mt T ch a (it z).1 (it z).2 := fun z hz q => by
        rcases q.inv with ⟨-, q2⟩ | ⟨q1, a', q2, q3, q4, q5, q6⟩
        · omega
        · have e : a' = a := by
            rcases Nat.lt_trichotomy a' a with y | y | y
            · have := hp.dot (by omega)
              exact absurd this.1 (q5.dot (hwd z q1 hz) (z := a - 1) (by omega) (by omega))
            · exact y
            · have := q2.dot (by omega)
              exact absurd this.1 (hd (a' - 1) (by omega) (by omega))
          subst e
          have := hpar z q1 hz
          exact ⟨q1, hu _ (by omega) q2, by omega, q5⟩
      obtain ⟨r, g1, g2⟩ := child_C (N := N) (i := i) (a := a) (b := b) hS hN hC hi hab (by omega) (n' - (i + 1)) (i + 1) N (by omega) (by omega) (by omega)
      unfold fn_Circuit_childCalled_Cc_307
      rw [nI_1, g1, obind]
      dsimp only
      rcases g2 with ⟨y, y1, y2, rfl, y3, y4, y5⟩ | ⟨rfl, y1⟩
      · have py : Pt T ch m par it y (b + 1) := by
          have := Pt.step (T := T) (ch := ch) (m := m) (par := par) (it := it) (y := y) (a' := a) (by omega) (by rw [y3]; exact hp) (by omega) y5 (by rw [show a + (it y).2 = b by omega]; exact v)
          rw [show a + (it y).2 = b by omega] at this
          exact this
        refine ih y (b + 1) (b + 1) F (by omega) (by omega) (Nat.le_refl _) y2 py (fun z hz q => ?_) (fun z z1 z2 => by omega)
        obtain ⟨k1, k2, k3, k4⟩ := kid z hz q
        refine hS4 z y k1 hz (by omega) y2 (by rw [k2, y3]) (by omega) (fun j hj => ?_)
        rw [← k4 j hj, ← y5 j (by omega)]
      · obtain ⟨F, rfl⟩ : ∃ q, F = q + 1 := ⟨F - 1, by omega⟩
        refine ⟨-1, dead_C, Or.inr ⟨rfl, fun x hx => ?_⟩⟩
        rintro ⟨a', h3, h4, h5⟩
        have w := (hS3 x hx).1
        by_cases l : a' ≤ b
        · exact h5.dot w l (by omega) v
        · obtain ⟨z, z1, z2⟩ := Pt.reach hpar hwd (inst x) a' b (hS3 x hx).2 h3 (by omega) v
          obtain ⟨k1, k2⟩ := kid z z1 z2
          have := hpar z k1 z1
          exact y1 z (by have := k2.1; omega) z1 k2
    · rw [if_neg (show ¬ kch (T b) = 46 from fun q => v ((kq (d := 46) (by omega) (by decide)).mp q))]
      refine ih i a (b + 1) F (by omega) (by omega) (by omega) hi hp hu (fun z z1 z2 => ?_)
      by_cases e : z = b
      · rw [e]; exact v
      · exact hd z z1 (by omega)
end FINDL
