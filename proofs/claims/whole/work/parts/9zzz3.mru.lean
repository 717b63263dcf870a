/-! The reference: what tells a signal. -/
def lkOf (A : ds) (e d : Nat) : Nat := match fnd (fun k => decide (A.1 13 k = d)) (A.1 12 (e + 1) - A.1 12 e) (A.1 12 e) with
  | some k => k
  | none => 0
abbrev rul : Type := Nat × Nat × List aop × Nat
/-- what tells the q-th name of an instance: 0 nothing, 1 an exp within an instance, 2 a signal -/
def Ru (A : ds) (L : Nat → ly) (i q : Nat) : rul :=
  if A.1 2 (A.1 21 (L i).1 + q) = 0 then (if i = 0 then (0, 0, [], 0) else (1, (L i).2.2.1, A.2.1 1 (lkOf A (L i).2.2.2 (A.1 21 (L i).1 + q)), 0))
  else if A.1 2 (A.1 21 (L i).1 + q) = 1 ∨ A.1 2 (A.1 21 (L i).1 + q) = 3 then (if A.1 4 (A.1 21 (L i).1 + q) = 1 then (1, i, A.2.1 0 (A.1 21 (L i).1 + q), 0) else (2, 0, [], (L (i + 1 + ofI A (L i).1 (A.1 6 (A.1 21 (L i).1 + q) - A.1 22 (L i).1))).2.1 + (A.1 7 (A.1 21 (L i).1 + q) - A.1 21 (A.1 10 (A.1 6 (A.1 21 (L i).1 + q))))))
  else (0, 0, [], 0)
section MRU
variable {tk : Nat → Nat} {nt t : Nat} {A : ds} {s s' s0 : ms} {N m la nc : Nat} {L : Nat → ly} {n ns : Nat}
theorem Mv.m12 (h : Mv A) : ∀ {k i : Nat}, i ≤ k → k ≤ A.1 41 0 → A.1 12 i ≤ A.1 12 k
  | 0, i, h1, h2 => by have : i = 0 := by omega
                       subst this; exact Nat.le_refl _
  | k + 1, i, h1, h2 => by
    by_cases z : i = k + 1
    · subst z; exact Nat.le_refl _
    · have a := Mv.m12 h (k := k) (i := i) (by omega) (by omega)
      have b := (h.2.2.2.2.1 k (by omega)).1
      omega
theorem JB.name (h : JB A) {q : Nat} (hm : m < A.1 46 0) (hq : q < own A m) : A.1 8 (A.1 21 m + q) = m ∧ A.1 21 m + q < A.1 40 0 := by
  have r := h.r21 hm
  obtain ⟨⟨⟨hN, -, -, -, -, -, hM⟩, -⟩, b1, b2, -⟩ := h
  have hi : A.1 21 m + q < A.1 40 0 := by omega
  obtain ⟨a1, a2, a3, a4, -⟩ := hN _ hi
  refine ⟨?_, hi⟩
  by_cases z : A.1 8 (A.1 21 m + q) < m
  · unfold en at a4
    rw [if_pos (by omega)] at a4
    have := (hM.m22 (m := A.1 8 (A.1 21 m + q) + 1) (k := m) (by omega) (by omega)).2
    omega
  · by_cases y : m < A.1 8 (A.1 21 m + q)
    · have := (hM.m22 (m := m + 1) (k := A.1 8 (A.1 21 m + q)) (by omega) a1).2
      omega
    · omega
/-- links of an item -/
theorem JB.lnk (h : JB A) {e k : Nat} (he : e < A.1 41 0) (hk : k < A.1 42 0) : A.1 18 k = e ↔ A.1 12 e ≤ k ∧ k < A.1 12 (e + 1) := by
  obtain ⟨⟨⟨-, -, hL, -, -, -, hM⟩, h12⟩, -⟩ := h
  obtain ⟨a1, a2, a3, -⟩ := hL k hk
  have ne : A.1 18 k < A.1 41 0 := by
    by_cases z : A.1 18 k = A.1 41 0
    · rw [z] at a2
      omega
    · omega
  unfold le1 at a3
  rw [if_pos ne] at a3
  constructor
  · intro z
    rw [z] at a2 a3
    exact ⟨a2, a3⟩
  · intro ⟨z1, z2⟩
    by_cases y : A.1 18 k < e
    · have := hM.m12 (i := A.1 18 k + 1) (k := e) (by omega) (by omega)
      omega
    · by_cases w : e < A.1 18 k
      · have := hM.m12 (i := e + 1) (k := A.1 18 k) (by omega) (by omega)
        omega
      · omega
theorem JB.lk42 (h : JB A) {e : Nat} (he : e < A.1 41 0) : A.1 12 e ≤ A.1 12 (e + 1) ∧ A.1 12 (e + 1) ≤ A.1 42 0 := by
  obtain ⟨⟨⟨-, -, hL, -, -, -, hM⟩, h12⟩, -⟩ := h
  have := hM.2.2.2.2.1 e he
  omega
/-- the link of a port -/
theorem JB.port (h : JB A) {e d : Nat} (he : e < A.1 41 0) (h1 : A.1 21 (A.1 10 e) ≤ d) (h2 : d < A.1 21 (A.1 10 e + 1)) (h3 : A.1 2 d ≤ 2) : lkOf A e d < A.1 42 0 ∧ A.1 18 (lkOf A e d) = e ∧ A.1 13 (lkOf A e d) = d ∧ fnd (fun k => decide (A.1 13 k = d)) (A.1 12 (e + 1) - A.1 12 e) (A.1 12 e) = some (lkOf A e d) := by
  obtain ⟨-, -, -, -, g⟩ := h.1.1.2.1 e he
  obtain ⟨k, k1, k2, k3⟩ := g d h1 h2 h3
  have kr := (h.lnk he k1).mp k2
  unfold lkOf
  match er : fnd (fun k => decide (A.1 13 k = d)) (A.1 12 (e + 1) - A.1 12 e) (A.1 12 e) with
  | none =>
    have := fnd_none er k kr.1 (by omega)
    rw [k3] at this
    simp at this
  | some k' =>
    obtain ⟨f1, f2, f3, -⟩ := fnd_some er
    have l := h.lk42 he
    have k1' : k' < A.1 42 0 := by omega
    exact ⟨k1', (h.lnk he k1').mpr ⟨f1, by omega⟩, of_decide_eq_true f3, rfl⟩
/-- a name that an item drives -/
theorem JB.drv2 (h : JB A) {q : Nat} (hm : m < A.1 46 0) (hq : q < own A m) (h4 : A.1 4 (A.1 21 m + q) = 2) : ∃ j k, j < itn A m ∧ A.1 6 (A.1 21 m + q) = A.1 22 m + j ∧ k < A.1 42 0 ∧ A.1 18 k = A.1 22 m + j ∧ A.1 13 k = A.1 7 (A.1 21 m + q) ∧ A.1 14 k = A.1 21 m + q + 1 ∧ A.1 21 (A.1 10 (A.1 22 m + j)) ≤ A.1 7 (A.1 21 m + q) ∧ A.1 7 (A.1 21 m + q) < A.1 21 (A.1 10 (A.1 22 m + j) + 1) ∧ A.1 2 (A.1 7 (A.1 21 m + q)) ≠ 0 := by
  obtain ⟨n1, n2⟩ := h.name hm hq
  obtain ⟨k, k1, k2, k3, k4⟩ := (h.1.1.1 _ n2).2.2.2.2.2.2.2.2 h4
  have r := h.r21 hm
  obtain ⟨a1, a2, a3, a4, a5, a6, a7, a8, a9, a10, a11, a12, a13, a14, a15⟩ := h.1.1.2.2.1 k k1
  have ne : A.1 18 k < A.1 41 0 := by
    by_cases z : A.1 18 k = A.1 41 0
    · have := (h.1.1.2.2.1.cur h.1.1.2.2.2.2.2.2 k1).mp z
      have := h.1.2
      omega
    · omega
  obtain ⟨i1, i2, i3, i4, -⟩ := h.1.1.2.1 _ ne
  have m8 := (a14 _ k2).2.1
  rw [n1] at m8
  rw [← m8] at i3 i4
  unfold en at i4
  rw [if_pos hm] at i4
  refine ⟨A.1 18 k - A.1 22 m, k, by unfold itn; omega, by omega, k1, by omega, k4, k2, ?_, ?_, ?_⟩
  · rw [show A.1 22 m + (A.1 18 k - A.1 22 m) = A.1 18 k by omega, ← k4]
    omega
  · rw [show A.1 22 m + (A.1 18 k - A.1 22 m) = A.1 18 k by omega, ← k4]
    omega
  · rw [← k4]
    intro z
    have := a12.mpr z
    omega
def Mr1 (la nc : Nat) (s : ms) (x : Nat) (R : rul) : Prop := s.1 66 x = nI R.1 ∧ (R.1 = 1 → RL s la nc 67 68 x R.2.2.1 ∧ s.1 69 x = nI R.2.1) ∧ (R.1 = 2 → s.1 67 x = nI R.2.2.2)
theorem Ly.kid {i j : Nat} (hL : Ly A L n ns) (hJ : JB A) (hi : i < n) (hj : j < itn A (L i).1) : i + 1 + ofI A (L i).1 j + A.1 30 (A.1 10 (A.1 22 (L i).1 + j)) < n := by
  have hl := hL.2.2.2 i hi
  have h1 := ofI_lt (A := A) (m := (L i).1) hj
  have h2 := (hJ.sums hl.1).1
  have h3 := hl.2.1
  omega
/-- looking for an instance -/
theorem fr_L {i j c d x : Nat} (hJ : JB A) (hL : Ly A L n ns) (hn : n ≤ 257) (hi : i < n) (hj : j < itn A (L i).1) (hx : x < 1100) (hd : d < 11000) (hc : c = i + 1 + ofI A (L i).1 j) (hW : Wi A L n s) (h24 : s.1 24 d = nI (A.1 22 (L i).1 + j)) (hb : A.1 22 (L i).1 + j < 11000) (hbe : ∀ y, y < n → (L y).2.2.2 < 20000 ∨ y = 0) : ∀ (k y F : Nat), y + k = c → k < F → hd_M_findRule_178 N F (nI x) (nI d) (nI i) (nI y) s = (fn_M_signalOf N (nI c) (s.1 25 d) (upI s 66 (upd (s.1 66) x 2))).bind (fun q_6 => some ((), upI q_6.2 67 (upd (q_6.2.1 67) x q_6.1))) := by
  have hl := hL.2.2.2 i hi
  have hlc := hl.2.2.2.1 j hj
  have cn : c < n := by have := hL.kid hJ hi hj; omega
  intro k
  induction k with
  | zero =>
    intro y F hy hF
    obtain ⟨F, rfl⟩ : ∃ F', F = F' + 1 := ⟨F - 1, by omega⟩
    have : y = c := by omega
    subst this
    show bd_M_findRule_178 N (hd_M_findRule_178 N F) (nI x) (nI d) (nI i) (nI y) s = _
    unfold bd_M_findRule_178
    obtain ⟨w1, w2, w3, w4, w5⟩ := hW y cn
    obtain ⟨w6, w7⟩ := w3 (by omega)
    rw [hc, hlc] at w6 w7
    dsimp only at w6 w7
    rw [← hc] at w6 w7
    rw [if_neg (nI_in (show y < 260 by omega) (by decide)), nI_clamp (by omega), w6, if_pos rfl, if_neg (nI_in2 (show y < 260 by omega) (by decide)), if_neg (nI_in (show d < 11000 by omega) (by decide)), w7, nI_clamp (by omega), h24, if_pos rfl, if_neg (nI_in (show x < 1100 by omega) (by decide)), if_neg (nI_in2 (show d < 11000 by omega) (by decide)), nI_clamp (by omega)]
    congr 1
    funext q
    rw [if_neg (nI_in2 (show x < 1100 by omega) (by decide))]
  | succ k ih =>
    intro y F hy hF
    obtain ⟨F, rfl⟩ : ∃ F', F = F' + 1 := ⟨F - 1, by omega⟩
    show bd_M_findRule_178 N (hd_M_findRule_178 N F) (nI x) (nI d) (nI i) (nI y) s = _
    unfold bd_M_findRule_178
    obtain ⟨w1, w2, w3, w4, w5⟩ := hW y (by omega)
    have go := ih (y + 1) F (by omega) (by omega)
    rw [if_neg (nI_in (show y < 260 by omega) (by decide)), nI_clamp (by omega), nI_1]
    by_cases z0 : y = 0
    · rw [w4 z0, if_neg (fun z => by
        have : ¬ (nI i : Int32) < 0 := nI_pos (by omega)
        rw [← z] at this
        exact this (by decide))]
      exact go
    · obtain ⟨w6, w7⟩ := w3 (by omega)
      rw [w6]
      by_cases zp : (L y).2.2.1 = i
      · rw [zp, if_pos rfl, if_neg (nI_in2 (show y < 260 by omega) (by decide)), if_neg (nI_in (show d < 11000 by omega) (by decide)), w7, nI_clamp (by omega), h24, if_neg (fun z => ?_)]
        · exact go
        · have z := (nI_eq (by have := hbe y (by omega); omega) (by omega)).mp z
          obtain ⟨p1, j', p2, p3, p4⟩ := (hL.2.2.2 y (by omega)).2.2.2.2.1 (by omega)
          rw [zp] at p2 p3 p4
          have : j' = j := by omega
          subst this
          omega
      · rw [if_neg (fun z => zp ((nI_eq (by have := (hL.2.2.2 y (by omega)).2.2.2.2.1 (by omega); omega) (by omega)).mp z))]
        exact go
/-- what tells a signal is found -/
theorem findRule_M {i q : Nat} (hN : 13002 < N) (hJ : JB A) (hB : Bn A) (hWF : WF tk nt A t) (ht : t ≤ nt + 1) (hnt : nt ≤ 12001) (hL : Ly A L n ns) (hn : n ≤ 257) (hns : ns ≤ 1024) (hi : i < n) (hq : q < own A (L i).1) (hT : MTb A la nc s) (hW : Wi A L n s) : ∃ s', fn_M_findRule N (nI ((L i).2.1 + q)) s = some ((), s') ∧ Eb [66, 67, 68, 69] [] s s' ∧ (∀ x, x ≠ (L i).2.1 + q → s'.1 66 x = s.1 66 x ∧ s'.1 67 x = s.1 67 x ∧ s'.1 68 x = s.1 68 x ∧ s'.1 69 x = s.1 69 x) ∧ Mr1 la nc s' ((L i).2.1 + q) (Ru A L i q) := by
  obtain ⟨l1, l2, l3, l4, l5, l6, l7⟩ := hL.2.2.2 i hi
  obtain ⟨n1, n2⟩ := hJ.name l1 hq
  have r := hJ.r21 l1
  have sm := hJ.sums l1
  obtain ⟨b0, b1, b2, b3, b4, -⟩ := hB
  have x1 : (L i).2.1 + q < 1100 := by omega
  obtain ⟨w1, w2, w3, w4, w5⟩ := hW i hi
  obtain ⟨w6, w7⟩ := w5 q hq
  obtain ⟨⟨-, T1, T2, T3, T4, -⟩, ⟨C1, C2, -⟩, T5⟩ := hT
  obtain ⟨t1, t2, t3, t4, t5⟩ := T1 _ n2
  have k2 := (hWF.2.1 _ n2).2.2.2.2.1
  unfold fn_M_findRule
  have iX := nI_in (show (L i).2.1 + q < 1100 from x1) (by decide)
  have iX2 := nI_in2 (show (L i).2.1 + q < 1100 from x1) (by decide)
  rw [if_neg iX, if_neg iX, if_neg iX, nI_clamp (by omega), w6, w7, if_neg (nI_in (show A.1 21 (L i).1 + q < 11000 by omega) (by decide)), nI_clamp (by omega), t3]
  -- where no link tells it
  have dr : ∀ S : ms, S.1 21 = s.1 21 → fn_M_isDriven N (nI (A.1 21 (L i).1 + q)) S = some (b01 (dDrv A (A.1 21 (L i).1 + q)), S) := fun S hS => isDriven_M hWF ht hnt n2 (by rw [hS]; exact t3)
  have u66 : ∀ (x : Nat) (y : Int32), Eb [66, 67, 68, 69] [] s (upI s 66 (upd (s.1 66) x y)) := fun x y => Eb.rfl.upI (by decide)
  have b108 : ¬ (A.1 2 (A.1 21 (L i).1 + q) = 0 ∧ 0 < i) → ∃ s', bk_M_findRule_108 N (nI ((L i).2.1 + q)) (nI (A.1 21 (L i).1 + q)) (nI i) (upI s 66 (upd (s.1 66) ((L i).2.1 + q) 0)) = some ((), s') ∧ Eb [66, 67, 68, 69] [] s s' ∧ (∀ x, x ≠ (L i).2.1 + q → s'.1 66 x = s.1 66 x ∧ s'.1 67 x = s.1 67 x ∧ s'.1 68 x = s.1 68 x ∧ s'.1 69 x = s.1 69 x) ∧ Mr1 la nc s' ((L i).2.1 + q) (Ru A L i q) := fun hk => by
    unfold bk_M_findRule_108
    rw [dr (upI s 66 (upd (s.1 66) ((L i).2.1 + q) 0)) rfl, obind]
    dsimp only
    by_cases zd : dDrv A (A.1 21 (L i).1 + q) = true
    · have kd := dDrv_k zd
      rw [zd, if_neg (show ¬ b01 true = 0 by decide), if_neg (nI_in (show A.1 21 (L i).1 + q < 11000 by omega) (by decide)), nI_clamp (by omega)]
      have t5' : (upI s 66 (upd (s.1 66) ((L i).2.1 + q) 0)).1 23 (A.1 21 (L i).1 + q) = nI (A.1 4 (A.1 21 (L i).1 + q)) := t5
      have a4 := (hJ.1.1.1 _ n2).2.2.2.2.1
      have a7 := (hJ.1.1.1 _ n2).2.2.2.2.2.2.1 (by rw [n1]; exact l1) kd
      rw [t5']
      by_cases z1 : A.1 4 (A.1 21 (L i).1 + q) = 1
      · rw [z1, if_pos (show nI 1 = 1 from rfl), if_neg iX, if_neg (nI_in2 (show A.1 21 (L i).1 + q < 11000 by omega) (by decide)), if_neg iX, if_neg (nI_in2 (show A.1 21 (L i).1 + q < 11000 by omega) (by decide)), if_neg iX, if_neg iX, nI_clamp (by omega)]
        refine ⟨_, rfl, (((((u66 _ _).upI (by decide)).upI (by decide)).upI (by decide)).upI (by decide)), fun x hx => ?_, ?_⟩
        · refine ⟨?_, upd_ne hx, upd_ne hx, upd_ne hx⟩
          show upd (upd (s.1 66) ((L i).2.1 + q) 0) ((L i).2.1 + q) 1 x = _
          rw [upd_ne hx, upd_ne hx]
        · unfold Ru
          rw [if_neg (by omega), if_pos kd, if_pos z1]
          obtain ⟨a, g1, g2, g3, g4⟩ := (C1 _ n2).1 z1
          refine ⟨upd_at _ _ _, fun _ => ⟨⟨a, ?_, ?_, g3, g4⟩, upd_at _ _ _⟩, fun z => (by cases z)⟩
          · show upd (s.1 67) _ _ _ = _
            rw [upd_at]
            exact g1
          · show upd (s.1 68) _ _ _ = _
            rw [upd_at]
            exact g2
      · have z2 : A.1 4 (A.1 21 (L i).1 + q) = 2 := by omega
        obtain ⟨j, k, j1, j2, k1, k3, k4, k5, k6, k7, k8⟩ := hJ.drv2 l1 hq z2
        have cl := hL.kid hJ hi j1
        obtain ⟨i1, i2, i3⟩ := hJ.item l1 j1
        have rc := hJ.r21 (m := A.1 10 (A.1 22 (L i).1 + j)) (by omega)
        rw [z2, if_neg (show ¬ nI 2 = 1 by decide)]
        unfold bk_M_findRule_167
        rw [dr (upI s 66 (upd (s.1 66) ((L i).2.1 + q) 0)) rfl, obind]
        dsimp only
        rw [zd, if_neg (show ¬ b01 true = 0 by decide)]
        obtain ⟨h24, h25⟩ := (C1 _ n2).2 z2
        have hbe : ∀ y, y < n → (L y).2.2.2 < 20000 ∨ y = 0 := fun y hy => by
          by_cases y0 : y = 0
          · exact Or.inr y0
          · obtain ⟨-, j', p2, p3, p4⟩ := (hL.2.2.2 y hy).2.2.2.2.1 (by omega)
            have := hJ.item (hL.2.2.2 (L y).2.2.1 (by omega)).1 p2
            omega
        have W' : Wi A L n (upI s 66 (upd (s.1 66) ((L i).2.1 + q) 0)) := hW
        rw [show hd_M_findRule_178 N N (nI ((L i).2.1 + q)) (nI (A.1 21 (L i).1 + q)) (nI i) 0 (upI s 66 (upd (s.1 66) ((L i).2.1 + q) 0)) = hd_M_findRule_178 N N (nI ((L i).2.1 + q)) (nI (A.1 21 (L i).1 + q)) (nI i) (nI 0) (upI s 66 (upd (s.1 66) ((L i).2.1 + q) 0)) from rfl, fr_L (c := i + 1 + ofI A (L i).1 j) hJ hL hn hi j1 x1 (by omega) rfl W' (by show s.1 24 _ = _; rw [h24, j2]) (by omega) hbe (i + 1 + ofI A (L i).1 j) 0 N (by omega) (by omega)]
        obtain ⟨c1, c2, -⟩ := hW (i + 1 + ofI A (L i).1 j) (by omega)
        rw [l4 j j1] at c1 c2
        dsimp only at c1 c2
        have sg : ∀ S : ms, S.1 57 = s.1 57 → S.1 58 = s.1 58 → S.1 14 = s.1 14 → fn_M_signalOf N (nI (i + 1 + ofI A (L i).1 j)) (nI (A.1 7 (A.1 21 (L i).1 + q))) S = some (nI ((L i).2.1 + own A (L i).1 + ofS A (L i).1 j + (A.1 7 (A.1 21 (L i).1 + q) - A.1 21 (A.1 10 (A.1 22 (L i).1 + j)))), S) := fun S h57 h58 h14 => by
          unfold fn_M_signalOf
          rw [if_neg (nI_in (show i + 1 + ofI A (L i).1 j < 260 by omega) (by decide)), if_neg (nI_in (show i + 1 + ofI A (L i).1 j < 260 by omega) (by decide)), nI_clamp (by omega), h57, h58, h14, c1, c2, if_neg (nI_in (show A.1 10 (A.1 22 (L i).1 + j) < 3601 by omega) (by decide)), nI_clamp (by omega), (T5 _ (by omega)).1, nI_add, nI_sub (by omega)]
          congr 3
          omega
        rw [show (upI s 66 (upd (s.1 66) ((L i).2.1 + q) 0)).1 25 (A.1 21 (L i).1 + q) = nI (A.1 7 (A.1 21 (L i).1 + q)) from h25, sg (upI (upI s 66 (upd (s.1 66) ((L i).2.1 + q) 0)) 66 (upd ((upI s 66 (upd (s.1 66) ((L i).2.1 + q) 0)).1 66) ((L i).2.1 + q) 2)) rfl rfl rfl, obind]
        refine ⟨_, rfl, (((u66 _ _).upI (by decide)).upI (by decide)), fun x hx => ?_, ?_⟩
        · refine ⟨?_, upd_ne hx, rfl, rfl⟩
          show upd (upd (s.1 66) ((L i).2.1 + q) 0) ((L i).2.1 + q) 2 x = _
          rw [upd_ne hx, upd_ne hx]
        · unfold Ru
          rw [if_neg (by omega), if_pos kd, if_neg z1]
          refine ⟨upd_at _ _ _, fun z => (by cases z), fun _ => ?_⟩
          show upd (s.1 67) ((L i).2.1 + q) _ ((L i).2.1 + q) = _
          rw [upd_at, j2, show A.1 22 (L i).1 + j - A.1 22 (L i).1 = j by omega, l4 j j1]
    · have zf : dDrv A (A.1 21 (L i).1 + q) = false := by
        cases h : dDrv A (A.1 21 (L i).1 + q) with
        | true => exact absurd h zd
        | false => rfl
      have kd : ¬ (A.1 2 (A.1 21 (L i).1 + q) = 1 ∨ A.1 2 (A.1 21 (L i).1 + q) = 3) := of_decide_eq_false zf
      unfold bk_M_findRule_167
      rw [zf, if_pos (show b01 false = 0 from rfl), dr (upI s 66 (upd (s.1 66) ((L i).2.1 + q) 0)) rfl, obind]
      dsimp only
      rw [zf, if_pos (show b01 false = 0 from rfl)]
      refine ⟨_, rfl, u66 _ _, fun x hx => ⟨upd_ne hx, rfl, rfl, rfl⟩, ?_⟩
      unfold Ru
      by_cases y0 : A.1 2 (A.1 21 (L i).1 + q) = 0
      · have i0 : i = 0 := by
          by_cases z : i = 0
          · exact z
          · exact absurd ⟨y0, by omega⟩ hk
        rw [if_pos y0, if_pos i0]
        exact ⟨upd_at _ _ _, fun z => (by cases z), fun z => (by cases z)⟩
      · rw [if_neg y0, if_neg kd]
        exact ⟨upd_at _ _ _, fun z => (by cases z), fun z => (by cases z)⟩
  by_cases y0 : A.1 2 (A.1 21 (L i).1 + q) = 0
  · rw [y0, if_pos (show nI 0 = 0 from rfl)]
    by_cases i0 : i = 0
    · rw [i0, if_pos (show nI 0 ≤ 0 by decide), ← i0]
      exact b108 (fun z => by omega)
    · obtain ⟨p1, j, p2, p3, p4⟩ := l5 (by omega)
      obtain ⟨w8, w9⟩ := w3 (by omega)
      have lp := hL.2.2.2 (L i).2.2.1 (by omega)
      obtain ⟨i1, i2, i3⟩ := hJ.item lp.1 p2
      have e10 : A.1 10 (L i).2.2.2 = (L i).1 := by
        have := lp.2.2.2.1 j p2
        rw [← p3] at this
        rw [p4, this]
      rw [p4] at e10
      rw [← p4] at i1 i2 i3 e10
      obtain ⟨k1, k3, k4, k5⟩ := hJ.port (e := (L i).2.2.2) (d := A.1 21 (L i).1 + q) i3 (by rw [e10]; omega) (by rw [e10]; omega) (by omega)
      have l42 := hJ.lk42 i3
      rw [if_neg (show ¬ nI i ≤ 0 from nI_ge (a := 0) (b := i) (by omega) (by omega)), if_neg (nI_in (show i < 260 by omega) (by decide)), if_neg (nI_in (show i < 260 by omega) (by decide)), nI_clamp (by omega), w9, nI_1, if_neg (nI_in (show (L i).2.2.2 + 1 < 11001 by omega) (by decide)), nI_clamp (by omega), T3 _ (by omega)]
      have lo : ∀ S : ms, S.1 30 = s.1 30 → S.1 32 = s.1 32 → fn_M_linkOf N (nI (L i).2.2.2) (nI (A.1 12 ((L i).2.2.2 + 1))) (nI (A.1 21 (L i).1 + q)) S = some (nI (lkOf A (L i).2.2.2 (A.1 21 (L i).1 + q)), S) := fun S h30 h32 => by
        unfold fn_M_linkOf
        rw [if_neg (nI_in (show (L i).2.2.2 < 11001 by omega) (by decide)), nI_clamp (by omega), h30, T3 _ (by omega), linkOf_M (g := A.1 13) (by omega) (by omega) (A.1 12 ((L i).2.2.2 + 1) - A.1 12 (L i).2.2.2) (A.1 12 (L i).2.2.2) N (by omega) (by omega) (fun d d1 d2 => ⟨by rw [h32]; exact T4 d (by omega), by have := hWF.2.2.2.2.2.2 d (by omega); omega⟩), k5]
        rfl
      rw [lo (upI s 66 (upd (s.1 66) ((L i).2.1 + q) 0)) rfl rfl, obind]
      dsimp only
      have iK := nI_in (show lkOf A (L i).2.2.2 (A.1 21 (L i).1 + q) < 11000 by omega) (by decide)
      rw [if_neg iX2, if_neg iK, if_neg iX2, if_neg iK, if_neg iX2, if_neg (nI_in2 (show i < 260 by omega) (by decide)), if_neg iX2, nI_clamp (by omega)]
      refine ⟨_, rfl, (((((u66 _ _).upI (by decide)).upI (by decide)).upI (by decide)).upI (by decide)), fun x hx => ?_, ?_⟩
      · refine ⟨?_, upd_ne hx, upd_ne hx, upd_ne hx⟩
        show upd (upd (s.1 66) ((L i).2.1 + q) 0) ((L i).2.1 + q) 1 x = _
        rw [upd_ne hx, upd_ne hx]
      · unfold Ru
        rw [if_pos y0, if_neg i0]
        obtain ⟨a, g1, g2, g3, g4⟩ := C2 _ k1
        refine ⟨upd_at _ _ _, fun _ => ⟨⟨a, ?_, ?_, g3, g4⟩, ?_⟩, fun z => (by cases z)⟩
        · show upd (s.1 67) _ _ _ = _
          rw [upd_at]
          exact g1
        · show upd (s.1 68) _ _ _ = _
          rw [upd_at]
          exact g2
        · show upd (s.1 69) _ _ _ = _
          rw [upd_at]
          exact w8
  · rw [if_neg (show ¬ nI (A.1 2 (A.1 21 (L i).1 + q)) = 0 from fun z => y0 ((nI_eq (b := 0) (by omega) (by omega)).mp z))]
    exact b108 (fun z => y0 z.1)
end MRU
