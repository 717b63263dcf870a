/-! The reference: a circuit is written out: its instances. -/
def MTb (A : ds) (la nc : Nat) (s : ms) : Prop := Dtb A s ∧ Dcd A s la nc ∧ ∀ m, m ≤ A.1 46 0 → s.1 14 m = nI (A.1 21 m) ∧ s.1 15 m = nI (A.1 22 m) ∧ s.1 16 m = nI (A.1 23 m) ∧ s.1 17 m = nI (A.1 24 m)
abbrev WE (s s' : ms) : Prop := Eb [56, 57, 58, 59, 60, 61, 62, 63, 64, 65] [] s s'
/-- bounds of a design -/
def Bn (A : ds) : Prop := 0 < A.1 46 0 ∧ A.1 46 0 ≤ 3200 ∧ A.1 40 0 ≤ 6100 ∧ A.1 41 0 ≤ 6100 ∧ A.1 42 0 ≤ 6100 ∧ A.1 43 0 ≤ 6100 ∧ A.1 44 0 ≤ 6100 ∧ A.1 45 0 ≤ 6100
theorem m1_nI {d : Nat} : nI (d + 1) + (-1) = nI d := by
  rw [← nI_1]
  show nI d + 1 + (-1) = nI d
  rw [Int32.add_assoc, show (1 : Int32) + (-1) = 0 by decide, Int32.add_zero]
theorem s1_nI {d : Nat} : nI (d + 1) - 1 = nI d := by
  rw [Int32.sub_eq_add_neg]
  exact m1_nI
theorem nI_in2 {d k : Nat} (h : d < k) (hk : k < 2 ^ 31) : ¬ (nI d < 0 ∨ k ≤ d) := fun z => z.elim (fun y => nI_pos (by omega) y) (fun y => by omega)
section MWO
variable {A : ds} {s s' s0 : ms} {N m la nc : Nat}
theorem JB.r21 (h : JB A) (hm : m < A.1 46 0) : A.1 21 m + own A m = A.1 21 (m + 1) ∧ A.1 21 (m + 1) ≤ A.1 40 0 ∧ A.1 22 m + itn A m = A.1 22 (m + 1) ∧ A.1 22 (m + 1) ≤ A.1 41 0 := by
  have hM := h.1.1.2.2.2.2.2.2
  have c := (hM.2.1 m hm).1
  have l := hM.m22 (m := m + 1) (k := A.1 46 0) (by omega) (Nat.le_refl _)
  have b := h.2
  unfold own itn
  omega
theorem beg_L {x y : Nat} (hJ : JB A) (hB : Bn A) (hm : m < A.1 46 0) (hy : y + own A m ≤ 1100) : ∀ (k q n : Nat) (s : ms), q + k = own A m → k < n → s.1 14 (m + 1) = nI (A.1 21 (m + 1)) → s.1 56 0 = nI x → s.1 63 0 = nI (y + q) → ∃ s', hd_M_begin_51 N n (nI m) (nI (A.1 21 m + q)) s = some ((), s') ∧ Eb [56, 63, 64, 65] [] s s' ∧ s'.1 56 0 = nI (x + 1) ∧ s'.1 63 0 = nI (y + own A m) ∧ (∀ z, z < y + q → s'.1 64 z = s.1 64 z ∧ s'.1 65 z = s.1 65 z) ∧ (∀ r, q ≤ r → r < own A m → s'.1 64 (y + r) = nI (A.1 21 m + r) ∧ s'.1 65 (y + r) = nI x) := by
  have r := hJ.r21 hm
  have b := hB.2
  intro k
  induction k with
  | zero =>
    intro q n s hq hn h14 h56 h63
    obtain ⟨n, rfl⟩ : ∃ n', n = n' + 1 := ⟨n - 1, by omega⟩
    show ∃ s', bd_M_begin_51 N (hd_M_begin_51 N n) (nI m) (nI (A.1 21 m + q)) s = _ ∧ _
    unfold bd_M_begin_51
    rw [nI_1, if_neg (nI_in (show m + 1 < 3601 by omega) (by decide)), nI_clamp (by omega), h14, if_pos (nI_le (by omega) (by omega))]
    refine ⟨_, rfl, Eb.rfl.upI (by decide), ?_, ?_, fun z _ => ⟨rfl, rfl⟩, fun r h1 h2 => by omega⟩
    · show s.1 56 0 + 1 = _
      rw [h56, nI_1]
    · show s.1 63 0 = _
      rw [h63, show q = own A m by omega]
  | succ k ih =>
    intro q n s hq hn h14 h56 h63
    obtain ⟨n, rfl⟩ : ∃ n', n = n' + 1 := ⟨n - 1, by omega⟩
    show ∃ s', bd_M_begin_51 N (hd_M_begin_51 N n) (nI m) (nI (A.1 21 m + q)) s = _ ∧ _
    unfold bd_M_begin_51
    rw [nI_1, if_neg (nI_in (show m + 1 < 3601 by omega) (by decide)), nI_clamp (by omega), h14, if_neg (nI_ge (by omega) (by omega)), h63, if_neg (nI_in (show y + q < 1100 by omega) (by decide)), if_neg (nI_in (show y + q < 1100 by omega) (by decide)), nI_clamp (by omega), nI_1, nI_1, h56]
    have e : Eb [56, 63, 64, 65] [] s (upI (upI (upI s 64 (upd (s.1 64) (y + q) (nI (A.1 21 m + q)))) 65 (upd (s.1 65) (y + q) (nI x))) 63 (fun _ => nI (y + q + 1))) := ((Eb.rfl.upI (by decide)).upI (by decide)).upI (by decide)
    obtain ⟨s', y1, y2, y3, y4, y5, y6⟩ := ih (q + 1) n (upI (upI (upI s 64 (upd (s.1 64) (y + q) (nI (A.1 21 m + q)))) 65 (upd (s.1 65) (y + q) (nI x))) 63 (fun _ => nI (y + q + 1))) (by omega) (by omega) h14 h56 rfl
    refine ⟨s', y1, e.trans y2, y3, y4, fun z hz => ?_, fun r h1 h2 => ?_⟩
    · obtain ⟨z1, z2⟩ := y5 z (by omega)
      rw [z1, z2]
      exact ⟨upd_ne (by omega), upd_ne (by omega)⟩
    · by_cases z : r = q
      · subst z
        obtain ⟨z1, z2⟩ := y5 (y + r) (by omega)
        rw [z1, z2]
        exact ⟨upd_at _ _ _, upd_at _ _ _⟩
      · exact y6 r (by omega) h2
theorem begin_M {x y : Nat} {v2 v3 : Int32} (hJ : JB A) (hB : Bn A) (hN : 13002 < N) (hm : m < A.1 46 0) (hx : x < 260) (hy : y + own A m ≤ 1100) (h14 : s.1 14 (m + 1) = nI (A.1 21 (m + 1)) ∧ s.1 14 m = nI (A.1 21 m)) (h56 : s.1 56 0 = nI x) (h63 : s.1 63 0 = nI y) : ∃ s', fn_M_begin N (nI m) v2 v3 s = some ((), s') ∧ Eb [56, 57, 58, 59, 60, 63, 64, 65] [] s s' ∧ s'.1 56 0 = nI (x + 1) ∧ s'.1 63 0 = nI (y + own A m) ∧ s'.1 57 = upd (s.1 57) x (nI m) ∧ s'.1 58 = upd (s.1 58) x (nI y) ∧ s'.1 59 = upd (s.1 59) x v2 ∧ s'.1 60 = upd (s.1 60) x v3 ∧ (∀ z, z < y → s'.1 64 z = s.1 64 z ∧ s'.1 65 z = s.1 65 z) ∧ (∀ r, r < own A m → s'.1 64 (y + r) = nI (A.1 21 m + r) ∧ s'.1 65 (y + r) = nI x) := by
  have b := hB.2
  have r := hJ.r21 hm
  unfold fn_M_begin
  have i := nI_in (show x < 260 by omega) (by decide)
  rw [h56, if_neg i, if_neg i, if_neg i, if_neg i, if_neg (nI_in (show m < 3601 by omega) (by decide)), nI_clamp (by omega), nI_clamp (by omega), h14.2, h63]
  have e : Eb [56, 57, 58, 59, 60, 63, 64, 65] [] s (upI (upI (upI (upI s 57 (upd (s.1 57) x (nI m))) 58 (upd (s.1 58) x (nI y))) 59 (upd (s.1 59) x v2)) 60 (upd (s.1 60) x v3)) := (((Eb.rfl.upI (by decide)).upI (by decide)).upI (by decide)).upI (by decide)
  obtain ⟨s', y1, y2, y3, y4, y5, y6⟩ := beg_L (N := N) (x := x) (y := y) hJ hB hm hy (own A m) 0 N (upI (upI (upI (upI s 57 (upd (s.1 57) x (nI m))) 58 (upd (s.1 58) x (nI y))) 59 (upd (s.1 59) x v2)) 60 (upd (s.1 60) x v3)) (by omega) (by omega) h14.1 h56 h63
  refine ⟨s', y1, e.trans (y2.mono (by decide) (by decide)), y3, y4, by rw [y2.1 57 (by decide)]; rfl, by rw [y2.1 58 (by decide)]; rfl, by rw [y2.1 59 (by decide)]; rfl, by rw [y2.1 60 (by decide)]; rfl, fun z hz => y5 z hz, fun r hr => y6 r (Nat.zero_le _) hr⟩
/-- what stands by now -/
def Wi (A : ds) (L : Nat → ly) (x : Nat) (s : ms) : Prop := ∀ i, i < x → s.1 57 i = nI (L i).1 ∧ s.1 58 i = nI (L i).2.1 ∧ (0 < i → s.1 59 i = nI (L i).2.2.1 ∧ s.1 60 i = nI (L i).2.2.2) ∧ (i = 0 → s.1 59 i = -1) ∧ ∀ q, q < own A (L i).1 → s.1 64 ((L i).2.1 + q) = nI (A.1 21 (L i).1 + q) ∧ s.1 65 ((L i).2.1 + q) = nI i
/-- a circuit's layout -/
def Ly (A : ds) (L : Nat → ly) (n ns : Nat) : Prop := 0 < n ∧ ((L 0).1 + 1 = A.1 46 0 ∧ n = A.1 30 (L 0).1 + 1 ∧ ns = A.1 29 (L 0).1) ∧ (L 0).2.1 = 0 ∧ (∀ i, i < n → (L i).1 < A.1 46 0 ∧ i + A.1 30 (L i).1 < n ∧ (L i).2.1 + A.1 29 (L i).1 ≤ ns ∧ (∀ j, j < itn A (L i).1 → L (i + 1 + ofI A (L i).1 j) = (A.1 10 (A.1 22 (L i).1 + j), (L i).2.1 + own A (L i).1 + ofS A (L i).1 j, i, A.1 22 (L i).1 + j)) ∧ (0 < i → (L i).2.2.1 < i ∧ ∃ j, j < itn A (L (L i).2.2.1).1 ∧ i = (L i).2.2.1 + 1 + ofI A (L (L i).2.2.1).1 j ∧ (L i).2.2.2 = A.1 22 (L (L i).2.2.1).1 + j) ∧ (i + 1 < n → (L (i + 1)).2.1 = (L i).2.1 + own A (L i).1) ∧ (i + 1 = n → (L i).2.1 + own A (L i).1 = ns))
theorem JB.ly (h : JB A) (h0 : 0 < A.1 46 0) : Ly A (sub A (A.1 46 0) (A.1 46 0 - 1)) (A.1 30 (A.1 46 0 - 1) + 1) (A.1 29 (A.1 46 0 - 1)) := by
  have p := lay_P h (A.1 46 0) (A.1 46 0 - 1) (by omega) (by omega)
  refine ⟨by omega, by rw [sub_0]; exact ⟨by show A.1 46 0 - 1 + 1 = _; omega, rfl, rfl⟩, by rw [sub_0], fun i hi => ?_⟩
  obtain ⟨a1, a2, a3, a4, a5, a6, a7⟩ := p i (by omega)
  refine ⟨?_, ?_, a3, a4, a5, fun z => a6 ?_, fun z => a7 ?_⟩
  · clear a4 a5 a6 a7; omega
  · clear a4 a5 a6 a7; omega
  · clear a4 a5 a6 a7; omega
  · clear a4 a5 a6 a7; omega
theorem Ly.base {L : Nat → ly} {n ns : Nat} (h : Ly A L n ns) : ∀ {i k : Nat}, i < k → k < n → (L i).2.1 + own A (L i).1 ≤ (L k).2.1
  | i, 0, h1, _ => by omega
  | i, k + 1, h1, h2 => by
    have := ((h.2.2.2 k (by omega)).2.2.2.2.2.1) h2
    by_cases z : i = k
    · subst z; omega
    · have q := Ly.base h (i := i) (k := k) (by omega) (by omega)
      omega
/-- the stack's loop, from the j-th item of an instance on -/
theorem wo_run {L : Nat → ly} {n ns : Nat} (hJ : JB A) (hB : Bn A) (hN : 13002 < N) (hL : Ly A L n ns) (hn : n ≤ 257) (hns : ns ≤ 1024) (h14 : ∀ m, m ≤ A.1 46 0 → s0.1 14 m = nI (A.1 21 m) ∧ s0.1 15 m = nI (A.1 22 m)) (h28 : ∀ i, i < A.1 41 0 → s0.1 28 i = nI (A.1 10 i)) : ∀ (f m : Nat), m < f → ∀ (k j i d : Nat) (s : ms), j + k = itn A m → i < n → (L i).1 = m → d ≤ i → WE s0 s → s.1 56 0 = nI (i + 1 + ofI A m j) → s.1 63 0 = nI ((L i).2.1 + own A m + ofS A m j) → s.1 61 d = nI i → s.1 62 d = nI (A.1 22 m + j) → Wi A L (i + 1 + ofI A m j) s → ∃ s' e, e + 2 * ofI A m j ≤ 2 * A.1 30 m + 1 ∧ (∀ F, hd_M_writeOut_50 N (F + e) (nI (d + 1)) s = hd_M_writeOut_50 N F (nI d) s') ∧ WE s0 s' ∧ s'.1 56 0 = nI (i + 1 + A.1 30 m) ∧ s'.1 63 0 = nI ((L i).2.1 + A.1 29 m) ∧ Wi A L (i + 1 + A.1 30 m) s' ∧ (∀ q, q < d → s'.1 61 q = s.1 61 q ∧ s'.1 62 q = s.1 62 q) := by
  have b := hB.2
  intro f
  induction f with
  | zero => intro m h; omega
  | succ f ihf =>
    intro m hf k
    induction k with
    | zero =>
      intro j i d s hj hi hLi hd e h56 h63 h61 h62 hW
      have hl := hL.2.2.2 i hi
      rw [hLi] at hl
      have hm : m < A.1 46 0 := hl.1
      have r := hJ.r21 hm
      have sm := hJ.sums hm
      have j1 : j = itn A m := by omega
      have w57 : s.1 57 i = nI m := by rw [(hW i (by omega)).1, hLi]
      refine ⟨s, 1, by rw [j1, sm.1]; omega, fun F => ?_, e, by rw [h56, j1, sm.1], by rw [h63, j1, Nat.add_assoc, sm.2], by rw [j1, sm.1] at hW; exact hW, fun q _ => ⟨rfl, rfl⟩⟩
      show bd_M_writeOut_50 N (hd_M_writeOut_50 N F) (nI (d + 1)) s = _
      unfold bd_M_writeOut_50
      rw [if_neg (show ¬ nI (d + 1) ≤ 0 from nI_ge (a := 0) (b := d + 1) (by omega) (by omega)), s1_nI, if_neg (nI_in (show d < 260 by omega) (by decide)), if_neg (nI_in (show d < 260 by omega) (by decide)), nI_clamp (by omega), h61, if_neg (nI_in (show i < 260 by omega) (by decide)), nI_clamp (by omega), w57, nI_1, if_neg (nI_in (show m + 1 < 3601 by omega) (by decide)), nI_clamp (by omega), h62, e.1 15 (by decide), (h14 (m + 1) (by omega)).2, if_pos (by rw [j1, r.2.2.1]), m1_nI]
    | succ k ih =>
      intro j i d s hj hi hLi hd e h56 h63 h61 h62 hW
      have hl := hL.2.2.2 i hi
      rw [hLi] at hl
      obtain ⟨hm, l2, l3, l4, -⟩ := hl
      have r := hJ.r21 hm
      have sm := hJ.sums hm
      have jl : j < itn A m := by omega
      obtain ⟨i1, i2, i3⟩ := hJ.item hm jl
      have w57 : s.1 57 i = nI m := by rw [(hW i (by omega)).1, hLi]
      have lc := l4 j jl
      have bI := ofI_lt (A := A) (m := m) jl
      have hc : i + 1 + ofI A m j < n := by omega
      have hlc := hL.2.2.2 _ hc
      rw [lc] at hlc
      dsimp only at hlc
      have smc := hJ.sums (m := A.1 10 (A.1 22 m + j)) (by omega)
      -- the item's instance begins
      have eA : WE s0 (upI s 62 (upd (s.1 62) d (nI (A.1 22 m + j + 1)))) := e.upI (by decide)
      obtain ⟨s1, y1, y2, y3, y4, y5, y6, y7, y8, y9, y10⟩ := begin_M (N := N) (A := A) (m := A.1 10 (A.1 22 m + j)) (x := i + 1 + ofI A m j) (y := (L i).2.1 + own A m + ofS A m j) (v2 := nI i) (v3 := nI (A.1 22 m + j)) (s := upI s 62 (upd (s.1 62) d (nI (A.1 22 m + j + 1)))) hJ hB hN (by omega) (by omega) (by omega) ⟨by rw [eA.1 14 (by decide)]; exact (h14 _ (by omega)).1, by rw [eA.1 14 (by decide)]; exact (h14 _ (by omega)).1⟩ h56 h63
      have y56 : s1.1 56 0 - 1 = nI (i + 1 + ofI A m j) := by rw [y3, s1_nI]
      have E1 : WE s0 s1 := eA.trans (y2.mono (by decide) (by decide))
      have r28 : s1.1 28 (A.1 22 m + j) = nI (A.1 10 (A.1 22 m + j)) := by rw [E1.1 28 (by decide)]; exact h28 _ i3
      have r15 : s1.1 15 (A.1 10 (A.1 22 m + j)) = nI (A.1 22 (A.1 10 (A.1 22 m + j))) := by rw [E1.1 15 (by decide)]; exact (h14 _ (by omega)).2
      have step : ∀ F, hd_M_writeOut_50 N (F + 1) (nI (d + 1)) s = hd_M_writeOut_50 N F (nI (d + 1 + 1)) (upI (upI s1 61 (upd (s1.1 61) (d + 1) (nI (i + 1 + ofI A m j)))) 62 (upd (s1.1 62) (d + 1) (nI (A.1 22 (A.1 10 (A.1 22 m + j)))))) := fun F => by
        show bd_M_writeOut_50 N (hd_M_writeOut_50 N F) (nI (d + 1)) s = _
        unfold bd_M_writeOut_50
        rw [if_neg (show ¬ nI (d + 1) ≤ 0 from nI_ge (a := 0) (b := d + 1) (by omega) (by omega)), s1_nI, if_neg (nI_in (show d < 260 by omega) (by decide)), if_neg (nI_in (show d < 260 by omega) (by decide)), nI_clamp (by omega), h61, if_neg (nI_in (show i < 260 by omega) (by decide)), nI_clamp (by omega), w57, nI_1, if_neg (nI_in (show m + 1 < 3601 by omega) (by decide)), nI_clamp (by omega), h62, e.1 15 (by decide), (h14 (m + 1) (by omega)).2, if_neg (fun z => by have := (nI_eq (by omega) (by omega)).mp z; omega), if_neg (nI_in2 (show d < 260 by omega) (by decide)), if_neg (nI_in (show A.1 22 m + j < 11000 by omega) (by decide)), nI_clamp (by omega), e.1 28 (by decide), h28 _ i3, nI_1, y1, obind]
        dsimp only
        rw [if_neg (nI_in (show d + 1 < 260 by omega) (by decide)), if_neg (nI_in2 (show A.1 22 m + j < 11000 by omega) (by decide)), r28, if_neg (nI_in (show A.1 10 (A.1 22 m + j) < 3601 by omega) (by decide)), if_neg (nI_in (show d + 1 < 260 by omega) (by decide)), y56, nI_clamp (by omega), nI_clamp (by omega), r15, nI_1]
      generalize hS2 : upI (upI s1 61 (upd (s1.1 61) (d + 1) (nI (i + 1 + ofI A m j)))) 62 (upd (s1.1 62) (d + 1) (nI (A.1 22 (A.1 10 (A.1 22 m + j))))) = s2 at *
      have e12 : Eb [61, 62] [] s1 s2 := by rw [← hS2]; exact (Eb.rfl.upI (by decide)).upI (by decide)
      have E2 : WE s0 s2 := E1.trans (e12.mono (by decide) (by decide))
      have a61 : s2.1 61 (d + 1) = nI (i + 1 + ofI A m j) := by rw [← hS2]; exact upd_at _ _ _
      have a62 : s2.1 62 (d + 1) = nI (A.1 22 (A.1 10 (A.1 22 m + j)) + 0) := by rw [← hS2]; exact upd_at _ _ _
      have b61 : ∀ q, q ≤ d → s2.1 61 q = s.1 61 q := fun q hq => by
        have : s2.1 61 q = s1.1 61 q := by rw [← hS2]; exact upd_ne (by omega)
        rw [this, y2.1 61 (by decide)]
        rfl
      have b62 : ∀ q, q ≤ d → s2.1 62 q = upd (s.1 62) d (nI (A.1 22 m + j + 1)) q := fun q hq => by
        have : s2.1 62 q = s1.1 62 q := by rw [← hS2]; exact upd_ne (by omega)
        rw [this, y2.1 62 (by decide)]
        rfl
      have W2 : Wi A L (i + 1 + ofI A m j + 1) s2 := by
        intro x hx
        rw [e12.1 57 (by decide), e12.1 58 (by decide), e12.1 59 (by decide), e12.1 60 (by decide), e12.1 64 (by decide), e12.1 65 (by decide), y5, y6, y7, y8]
        by_cases z : x = i + 1 + ofI A m j
        · subst z
          rw [upd_at, upd_at, upd_at, upd_at, lc]
          exact ⟨rfl, rfl, fun _ => ⟨rfl, rfl⟩, fun z => by omega, y10⟩
        · obtain ⟨q1, q2, q3, q4, q5⟩ := hW x (by omega)
          rw [upd_ne z, upd_ne z, upd_ne z, upd_ne z]
          refine ⟨q1, q2, q3, q4, fun q hq => ?_⟩
          have bs := hL.base (i := x) (k := i + 1 + ofI A m j) (by omega) hc
          rw [lc] at bs
          dsimp only at bs
          obtain ⟨q6, q7⟩ := y9 ((L x).2.1 + q) (by omega)
          rw [q6, q7]
          exact q5 q hq
      -- what is within it
      obtain ⟨s3, e3, z1, z2, z3, z4, z5, z6, z7⟩ := ihf (A.1 10 (A.1 22 m + j)) (by omega) (itn A (A.1 10 (A.1 22 m + j))) 0 (i + 1 + ofI A m j) (d + 1) s2 (by omega) hc (by rw [lc]) (by omega) E2 (by rw [e12.1 56 (by decide), y3]; rfl) (by rw [e12.1 63 (by decide), y4, lc]; rfl) a61 a62 W2
      have c61 : s3.1 61 d = nI i := by rw [(z7 d (by omega)).1, b61 d (Nat.le_refl _)]; exact h61
      have c62 : s3.1 62 d = nI (A.1 22 m + (j + 1)) := by rw [(z7 d (by omega)).2, b62 d (Nat.le_refl _), upd_at]; rfl
      rw [lc] at z5
      dsimp only at z5
      have eI : i + 1 + ofI A m j + 1 + A.1 30 (A.1 10 (A.1 22 m + j)) = i + 1 + ofI A m (j + 1) := by rw [ofI_succ]; omega
      obtain ⟨s4, e4, w1, w2, w3, w4, w5, w6, w7⟩ := ih (j + 1) i d s3 (by omega) hi hLi hd z3 (by rw [z4, eI]) (by rw [z5, ofS_succ, Nat.add_assoc]) c61 c62 (by rw [← eI]; exact z6)
      refine ⟨s4, e4 + e3 + 1, ?_, fun F => ?_, w3, w4, w5, w6, fun q hq => ?_⟩
      · rw [ofI_succ] at w1
        have : ofI A (A.1 10 (A.1 22 m + j)) 0 = 0 := rfl
        omega
      · rw [show F + (e4 + e3 + 1) = (F + e4 + e3) + 1 by omega, step, z2, w2]
      · obtain ⟨q1, q2⟩ := w7 q hq
        obtain ⟨q3, q4⟩ := z7 q (by omega)
        rw [q1, q2, q3, q4, b61 q (by omega), b62 q (by omega), upd_ne (by omega)]
        exact ⟨rfl, rfl⟩
end MWO
