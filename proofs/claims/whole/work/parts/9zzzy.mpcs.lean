/-! The reference: pieces. -/
section MPCS
variable {tk : Nat → Nat} {nt t : Nat} {A : ds} {L : Nat → ly} {n ns N la nc cl nl : Nat} {V X : Nat → Int64} {ord : List Nat} {s s' : ms}
theorem MMs.kee (h : MMs A L n ns la nc cl nl ord s) (e : Eb [85] [81, 84] s s') : MMs A L n ns la nc cl nl ord s' := h.keep e (by decide) (by decide)
theorem Vt_name (hJ : JB A) (hL : Ly A L n ns) (h : Vt A L n ns V) {i d : Nat} (hi : i < n) (h1 : A.1 21 (L i).1 ≤ d) (h2 : d - A.1 21 (L i).1 < own A (L i).1) : Fw (ev A L V i d) (A.1 1 d) := by
  have := h _ (hL.lt hJ hi h2)
  rw [(RS_at hL hi h2).2, show A.1 21 (L i).1 + (d - A.1 21 (L i).1) = d by omega] at this
  exact this
theorem alw_run_M {i x : Nat} (hN : 70000 < N) (hJ : JB A) (hB : Bn A) (hL : Ly A L n ns) (hi : i < n) (hM : MMs A L n ns la nc cl nl ord s) (h1 : A.1 24 (L i).1 ≤ x) (h2 : x < A.1 24 ((L i).1 + 1)) (h85 : s.1 85 0 = nI 0) (hT : Vt A L n ns V) (hV : ∀ y, y < ns → s.2 80 y = V y) (hX : ∀ y, y < ns → s.2 81 y = X y) : ∃ s', fn_M_run N (s.1 39 x) (s.1 40 x) (nI i) s = some ((), s') ∧ Eb [85] [81, 84] s s' ∧ s'.1 85 0 = nI 0 ∧ ∀ y, y < ns → s'.2 81 y = apl A L V i x X y := by
  have hm := (hL.2.2.2 i hi).1
  have b := hB.2
  obtain ⟨ha, h34, h33, h3⟩ := hJ.alwf hm h1 h2
  have hns := hM.2.1.2.1
  have hc := hM.st hJ hB hL hi
  have h3l := hM.1.2.2.1
  obtain ⟨a, b', g1, g2, g3, g4, g5, g6⟩ := hM.2.2.2.1.2.1.2.2.2 x ha
  rw [g1, g2]
  rw [← h34] at hc
  obtain ⟨s', e1, e2, e3, e4⟩ := run_M (N := N) (n := ev A L X i) (v := ev A L V i) hN hc g3 (by omega) ⟨h85, trivial, fun d hd => by
    have hd : A.1 34 x ≤ d ∧ d < A.1 33 x := hd
    have hlt : (L i).2.1 + (d - A.1 34 x) < ns := hL.lt hJ hi (show d - A.1 34 x < own A (L i).1 by omega)
    refine ⟨hd.1, by omega, by omega, ?_, ?_⟩
    · unfold ev; rw [← h34]; exact (hV _ hlt).symm
    · unfold ev; rw [← h34]; exact (hX _ hlt).symm⟩ (g5 (ev A L V i) (ev A L X i) [] (fun d hd => by
      have hd : A.1 34 x ≤ d ∧ d < A.1 33 x := hd
      exact Vt_name hJ hL hT hi (by omega) (by omega)) (Nat.zero_le _))
  refine ⟨s', e1, e3, e2.1, fun y hy => ?_⟩
  unfold apl
  split
  · rename_i z
    obtain ⟨-, -, -, -, f4⟩ := e2.2.2 (A.1 34 x + (y - (L i).2.1)) ⟨by omega, by omega⟩
    rw [f4, show (L i).2.1 + (A.1 34 x + (y - (L i).2.1) - A.1 34 x) = y by omega]
  · rename_i z
    rw [e4 y (fun d hd q => by have hd : A.1 34 x ≤ d ∧ d < A.1 33 x := hd; omega)]
    exact hX y hy
theorem go50_L {k27 : Int32 → ms → Option (Unit × ms)} {i : Nat} (hN : 70000 < N) (hJ : JB A) (hB : Bn A) (hL : Ly A L n ns) (hi : i < n) (hT : Vt A L n ns V) : ∀ (r p F : Nat) (s : ms) (X : Nat → Int64), p + r = A.1 24 ((L i).1 + 1) → A.1 24 (L i).1 ≤ p → r < F → MMs A L n ns la nc cl nl ord s → s.1 85 0 = nI 0 → (∀ y, y < ns → s.2 80 y = V y) → (∀ y, y < ns → s.2 81 y = X y) → ∃ s', hd_M_goOn_82_50 N k27 F (nI i) (nI (L i).1) (nI p) s = k27 (nI (i + 1)) s' ∧ Eb [85] [81, 84] s s' ∧ s'.1 85 0 = nI 0 ∧ ∀ y, y < ns → s'.2 81 y = apls A L V i (rng p r) X y := by
  have hm := (hL.2.2.2 i hi).1
  have rr := hJ.p345 hm
  have b := hB.2
  intro r
  induction r with
  | zero =>
    intro p F s X hp h1 hF hM h85 hV hX
    obtain ⟨F, rfl⟩ : ∃ F', F = F' + 1 := ⟨F - 1, by omega⟩
    have m17 := (hM.2.2.2.1.2.2 ((L i).1 + 1) (by omega)).2.2.2
    refine ⟨s, ?_, Eb.rfl, h85, hX⟩
    show bd_M_goOn_82_50 N k27 (hd_M_goOn_82_50 N k27 F) (nI i) (nI (L i).1) (nI p) s = _
    unfold bd_M_goOn_82_50
    rw [nI_1, if_neg (nI_in (show (L i).1 + 1 < 3601 by omega) (by decide)), nI_clamp (show (L i).1 + 1 < 2 ^ 31 by omega), m17, if_pos (nI_le (by omega) (by omega)), nI_1]
  | succ r ih =>
    intro p F s X hp h1 hF hM h85 hV hX
    obtain ⟨F, rfl⟩ : ∃ F', F = F' + 1 := ⟨F - 1, by omega⟩
    have m17 := (hM.2.2.2.1.2.2 ((L i).1 + 1) (by omega)).2.2.2
    obtain ⟨s1, d1, d2, d3, d4⟩ := alw_run_M (N := N) hN hJ hB hL hi hM h1 (show p < _ by omega) h85 hT hV hX
    obtain ⟨s2, f1, f2, f3, f4⟩ := ih (p + 1) F s1 _ (by omega) (by omega) (by omega) (hM.kee d2) d3 (fun y hy => by rw [d2.2 80 (by decide)]; exact hV y hy) d4
    refine ⟨s2, ?_, d2.trans f2, f3, fun y hy => by rw [rng_cons]; exact f4 y hy⟩
    show bd_M_goOn_82_50 N k27 (hd_M_goOn_82_50 N k27 F) (nI i) (nI (L i).1) (nI p) s = _
    unfold bd_M_goOn_82_50
    rw [nI_1, if_neg (nI_in (show (L i).1 + 1 < 3601 by omega) (by decide)), nI_clamp (show (L i).1 + 1 < 2 ^ 31 by omega), m17, if_neg (nI_ge (show p < A.1 24 ((L i).1 + 1) by omega) (by omega)), if_neg (nI_in (show p < 6600 by omega) (by decide)), if_neg (nI_in (show p < 6600 by omega) (by decide)), nI_clamp (show p < 2 ^ 31 by omega), d1, obind]
    dsimp only
    rw [nI_1]
    exact f1
theorem go27_L (hN : 70000 < N) (hJ : JB A) (hB : Bn A) (hL : Ly A L n ns) (hT : Vt A L n ns V) : ∀ (k i F : Nat) (s : ms) (X : Nat → Int64), i + k = n → k < F → MMs A L n ns la nc cl nl ord s → s.1 85 0 = nI 0 → (∀ y, y < ns → s.2 80 y = V y) → (∀ y, y < ns → s.2 81 y = X y) → ∃ s', hd_M_goOn_82_27 N F (nI i) s = some ((), s') ∧ Eb [85] [81, 84] s s' ∧ s'.1 85 0 = nI 0 ∧ ∀ y, y < ns → s'.2 81 y = nxI A L V k i X y := by
  have b := hB.2
  intro k
  induction k with
  | zero =>
    intro i F s X hi hF hM h85 hV hX
    obtain ⟨F, rfl⟩ : ∃ F', F = F' + 1 := ⟨F - 1, by omega⟩
    obtain ⟨-, -, h56, hn⟩ := hM.2.1
    refine ⟨s, ?_, Eb.rfl, h85, hX⟩
    show bd_M_goOn_82_27 N (hd_M_goOn_82_27 N F) (nI i) s = _
    unfold bd_M_goOn_82_27
    rw [h56, if_pos (nI_le (by omega) (by omega))]
  | succ k ih =>
    intro i F s X hi hF hM h85 hV hX
    obtain ⟨F, rfl⟩ : ∃ F', F = F' + 1 := ⟨F - 1, by omega⟩
    obtain ⟨-, -, h56, hn⟩ := hM.2.1
    have il : i < n := by omega
    have hm := (hL.2.2.2 i il).1
    have rr := hJ.p345 hm
    have m17 := (hM.2.2.2.1.2.2 (L i).1 (by omega)).2.2.2
    have m57 := (hM.2.2.2.2.1 i il).1
    obtain ⟨s1, d1, d2, d3, d4⟩ := go50_L (N := N) (k27 := hd_M_goOn_82_27 N F) hN hJ hB hL il hT (A.1 24 ((L i).1 + 1) - A.1 24 (L i).1) (A.1 24 (L i).1) N s X (by omega) (Nat.le_refl _) (by omega) hM h85 hV hX
    obtain ⟨s2, f1, f2, f3, f4⟩ := ih (i + 1) F s1 _ (by omega) (by omega) (hM.kee d2) d3 (fun y hy => by rw [d2.2 80 (by decide)]; exact hV y hy) d4
    refine ⟨s2, ?_, d2.trans f2, f3, f4⟩
    show bd_M_goOn_82_27 N (hd_M_goOn_82_27 N F) (nI i) s = _
    unfold bd_M_goOn_82_27
    rw [h56, if_neg (nI_ge il (by omega)), if_neg (nI_in (show i < 260 by omega) (by decide)), nI_clamp (show i < 2 ^ 31 by omega), m57, if_neg (nI_in (show (L i).1 < 3601 by omega) (by decide)), nI_clamp (show (L i).1 < 2 ^ 31 by omega), m17, d1, f1]
theorem go2_L : ∀ (k x F : Nat) (s : ms), x + k = ns → k < F → s.1 63 0 = nI ns → ns ≤ 1024 → ∃ s', hd_M_goOn_82_2 N F (nI x) s = hd_M_goOn_82_27 N N 0 s' ∧ Eb [] [81] s s' ∧ (∀ y, x ≤ y → y < ns → s'.2 81 y = s.2 82 y) ∧ (∀ y, y < x → s'.2 81 y = s.2 81 y) := by
  intro k
  induction k with
  | zero =>
    intro x F s hx hF h63 hns
    obtain ⟨F, rfl⟩ : ∃ F', F = F' + 1 := ⟨F - 1, by omega⟩
    refine ⟨s, ?_, Eb.rfl, fun y h1 h2 => by omega, fun _ _ => rfl⟩
    show bd_M_goOn_82_2 N (hd_M_goOn_82_2 N F) (nI x) s = _
    unfold bd_M_goOn_82_2
    rw [h63, if_pos (nI_le (by omega) (by omega))]
  | succ k ih =>
    intro x F s hx hF h63 hns
    obtain ⟨F, rfl⟩ : ∃ F', F = F' + 1 := ⟨F - 1, by omega⟩
    obtain ⟨s', f1, f2, f3, f4⟩ := ih (x + 1) F (upJ s 81 (vp_updL (s.2 81) x (s.2 82 x))) (by omega) (by omega) h63 hns
    refine ⟨s', ?_, (Eb.rfl.upJ (by decide)).trans f2, fun y h1 h2 => ?_, fun y hy => ?_⟩
    · show bd_M_goOn_82_2 N (hd_M_goOn_82_2 N F) (nI x) s = _
      unfold bd_M_goOn_82_2
      rw [h63, if_neg (nI_ge (show x < ns by omega) (by omega)), if_neg (nI_in (show x < 1100 by omega) (by decide)), if_neg (nI_in (show x < 1100 by omega) (by decide)), nI_clamp (show x < 2 ^ 31 by omega), nI_1]
      exact f1
    · by_cases z : y = x
      · subst z
        rw [f4 y (by omega)]
        exact updL_at _ _ _
      · exact f3 y (by omega) h2
    · rw [f4 y (by omega)]
      exact updL_ne (by omega)
theorem goOn_M (hN : 70000 < N) (hJ : JB A) (hB : Bn A) (hL : Ly A L n ns) (hT : Vt A L n ns V) (hM : MMs A L n ns la nc cl nl ord s) (h85 : s.1 85 0 = nI 0) (hV : ∀ y, y < ns → s.2 80 y = V y) (hX : ∀ y, y < ns → s.2 82 y = X y) : ∃ s', fn_M_goOn_82 N s = some ((), s') ∧ Eb [85] [81, 84] s s' ∧ s'.1 85 0 = nI 0 ∧ ∀ y, y < ns → s'.2 81 y = nxI A L V n 0 X y := by
  obtain ⟨h63, hns, h56, hn⟩ := hM.2.1
  obtain ⟨s1, a1, a2, a3, -⟩ := go2_L (N := N) ns 0 N s (by omega) (by omega) h63 hns
  obtain ⟨s2, f1, f2, f3, f4⟩ := go27_L (N := N) hN hJ hB hL hT n 0 N s1 X (by omega) (by omega) (hM.keep a2 (by decide) (by decide)) (by rw [a2.1 85 (by decide)]; exact h85) (fun y hy => by rw [a2.2 80 (by decide)]; exact hV y hy) (fun y hy => by rw [a3 y (by omega) hy]; exact hX y hy)
  refine ⟨s2, ?_, (a2.mono (by decide) (by decide)).trans f2, f3, f4⟩
  unfold fn_M_goOn_82
  exact a1.trans f1
/-! asserts -/
theorem fl27_L {k4 : Int32 → Int32 → ms → Option (Int32 × ms)} {i : Nat} (hN : 70000 < N) (hJ : JB A) (hB : Bn A) (hL : Ly A L n ns) (hi : i < n) (hT : Vt A L n ns V) : ∀ (r p F cnt : Nat) (s : ms), p + r = A.1 23 ((L i).1 + 1) → A.1 23 (L i).1 ≤ p → r < F → MMs A L n ns la nc cl nl ord s → s.1 85 0 = nI 0 → (∀ y, y < ns → s.2 80 y = V y) → ∃ s', hd_M_failingNow_27 N k4 F (nI cnt) (nI i) (nI (L i).1) (nI p) s = k4 (nI (cnt + fcn A L V i (rng p r))) (nI (i + 1)) s' ∧ Eb [85] [81, 84] s s' ∧ s'.1 85 0 = nI 0 := by
  have hm := (hL.2.2.2 i hi).1
  have rr := hJ.p345 hm
  have b := hB.2
  intro r
  induction r with
  | zero =>
    intro p F cnt s hp h1 hF hM h85 hV
    obtain ⟨F, rfl⟩ : ∃ F', F = F' + 1 := ⟨F - 1, by omega⟩
    have m16 := (hM.2.2.2.1.2.2 ((L i).1 + 1) (by omega)).2.2.1
    refine ⟨s, ?_, Eb.rfl, h85⟩
    show bd_M_failingNow_27 N k4 (hd_M_failingNow_27 N k4 F) (nI cnt) (nI i) (nI (L i).1) (nI p) s = _
    unfold bd_M_failingNow_27
    rw [show nI (L i).1 + 1 = nI ((L i).1 + 1) from nI_1 _, if_neg (nI_in (show (L i).1 + 1 < 3601 by omega) (by decide)), nI_clamp (show (L i).1 + 1 < 2 ^ 31 by omega), m16, if_pos (nI_le (by omega) (by omega)), show nI i + 1 = nI (i + 1) from nI_1 _]
    rfl
  | succ r ih =>
    intro p F cnt s hp h1 hF hM h85 hV
    obtain ⟨F, rfl⟩ : ∃ F', F = F' + 1 := ⟨F - 1, by omega⟩
    have m16 := (hM.2.2.2.1.2.2 ((L i).1 + 1) (by omega)).2.2.1
    obtain ⟨e, pa⟩ := hJ.ast hm h1 (show p < _ by omega)
    obtain ⟨-, -, -, -, w, s5⟩ := hJ.1.1.2.2.2.1 p pa
    rw [e] at s5
    obtain ⟨a, g1, g2, g3, g4⟩ := hM.2.2.2.1.2.1.2.2.1 p pa
    obtain ⟨s1, s2, d1, d2, d3, d4⟩ := exp_run_M (N := N) hN hJ hB hL hi s5 hM g3 g4 h85 (fun o ho k => by
      obtain ⟨j, w', q⟩ := s5.1.ld o ho k
      obtain ⟨n1, n2, -⟩ := hJ.nms hm q
      have := Vt_name hJ hL hT hi n1 n2
      unfold ev at *
      rw [hV _ (hL.lt hJ hi n2)]
      exact this)
    rw [xv_congr hJ hL hi s5 hV] at d2
    have hV2 : ∀ y, y < ns → s2.2 80 y = V y := fun y hy => by rw [d3.2 80 (by decide)]; exact hV y hy
    rw [rng_cons]
    show ∃ s', bd_M_failingNow_27 N k4 (hd_M_failingNow_27 N k4 F) (nI cnt) (nI i) (nI (L i).1) (nI p) s = k4 (nI (cnt + ((if xval (ev A L V i) (A.2.1 2 p) = 0 then 1 else 0) + fcn A L V i (rng (p + 1) r)))) (nI (i + 1)) s' ∧ _
    unfold bd_M_failingNow_27
    rw [show nI (L i).1 + 1 = nI ((L i).1 + 1) from nI_1 _, if_neg (nI_in (show (L i).1 + 1 < 3601 by omega) (by decide)), nI_clamp (show (L i).1 + 1 < 2 ^ 31 by omega), m16, if_neg (nI_ge (show p < A.1 23 ((L i).1 + 1) by omega) (by omega)), if_neg (nI_in (show p < 6600 by omega) (by decide)), if_neg (nI_in (show p < 6600 by omega) (by decide)), nI_clamp (show p < 2 ^ 31 by omega), g1, g2, d1, obind]
    dsimp only
    rw [d2, obind]
    dsimp only
    rw [show nI p + 1 = nI (p + 1) from nI_1 _, show nI cnt + 1 = nI (cnt + 1) from nI_1 _]
    by_cases y : xval (ev A L V i) (A.2.1 2 p) = 0
    · rw [if_pos (lgE.mpr y), if_pos y]
      obtain ⟨s3, f1, f2, f3⟩ := ih (p + 1) F (cnt + 1) s2 (by omega) (by omega) (by omega) (hM.kee d3) d4 hV2
      refine ⟨s3, ?_, d3.trans f2, f3⟩
      rw [f1, Nat.add_assoc]
    · rw [if_neg (fun q => y (lgE.mp q)), if_neg y, Nat.zero_add]
      obtain ⟨s3, f1, f2, f3⟩ := ih (p + 1) F cnt s2 (by omega) (by omega) (by omega) (hM.kee d3) d4 hV2
      exact ⟨s3, f1, d3.trans f2, f3⟩
theorem fl4_L (hN : 70000 < N) (hJ : JB A) (hB : Bn A) (hL : Ly A L n ns) (hT : Vt A L n ns V) : ∀ (k i F cnt : Nat) (s : ms), i + k = n → k < F → MMs A L n ns la nc cl nl ord s → s.1 85 0 = nI 0 → (∀ y, y < ns → s.2 80 y = V y) → ∃ s', hd_M_failingNow_4 N F (nI cnt) (nI i) s = some (nI (cnt + fcI A L V k i), s') ∧ Eb [85] [81, 84] s s' ∧ s'.1 85 0 = nI 0 := by
  have b := hB.2
  intro k
  induction k with
  | zero =>
    intro i F cnt s hi hF hM h85 hV
    obtain ⟨F, rfl⟩ : ∃ F', F = F' + 1 := ⟨F - 1, by omega⟩
    obtain ⟨-, -, h56, hn⟩ := hM.2.1
    refine ⟨s, ?_, Eb.rfl, h85⟩
    show bd_M_failingNow_4 N (hd_M_failingNow_4 N F) (nI cnt) (nI i) s = _
    unfold bd_M_failingNow_4
    rw [h56, if_pos (nI_le (by omega) (by omega))]
    rfl
  | succ k ih =>
    intro i F cnt s hi hF hM h85 hV
    obtain ⟨F, rfl⟩ : ∃ F', F = F' + 1 := ⟨F - 1, by omega⟩
    obtain ⟨-, -, h56, hn⟩ := hM.2.1
    have il : i < n := by omega
    have hm := (hL.2.2.2 i il).1
    have rr := hJ.p345 hm
    have m16 := (hM.2.2.2.1.2.2 (L i).1 (by omega)).2.2.1
    have m57 := (hM.2.2.2.2.1 i il).1
    obtain ⟨s1, d1, d2, d3⟩ := fl27_L (N := N) (k4 := hd_M_failingNow_4 N F) hN hJ hB hL il hT (A.1 23 ((L i).1 + 1) - A.1 23 (L i).1) (A.1 23 (L i).1) N cnt s (by omega) (Nat.le_refl _) (by omega) hM h85 hV
    obtain ⟨s2, f1, f2, f3⟩ := ih (i + 1) F (cnt + fcn A L V i (asr A (L i).1)) s1 (by omega) (by omega) (hM.kee d2) d3 (fun y hy => by rw [d2.2 80 (by decide)]; exact hV y hy)
    refine ⟨s2, ?_, d2.trans f2, f3⟩
    show bd_M_failingNow_4 N (hd_M_failingNow_4 N F) (nI cnt) (nI i) s = _
    unfold bd_M_failingNow_4
    rw [h56, if_neg (nI_ge il (by omega)), if_neg (nI_in (show i < 260 by omega) (by decide)), nI_clamp (show i < 2 ^ 31 by omega), m57, if_neg (nI_in (show (L i).1 < 3601 by omega) (by decide)), nI_clamp (show (L i).1 < 2 ^ 31 by omega), m16, d1]
    refine f1.trans ?_
    show some (nI (cnt + fcn A L V i (asr A (L i).1) + fcI A L V k (i + 1)), s2) = some (nI (cnt + (fcn A L V i (asr A (L i).1) + fcI A L V k (i + 1))), s2)
    rw [Nat.add_assoc]
end MPCS
