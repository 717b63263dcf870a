/-! The class: pieces. -/
section CPCS
variable {tk pl : Nat → Nat} {nt t : Nat} {lit : Nat → Int64} {A : ds} {L : Nat → ly} {n ns N lc sz : Nat} {ord : List Nat} {c c' : ms} {V X : Nat → Int64}
theorem xv_congr {V' : Nat → Int64} {j w : Nat} {l : List aop} (hJ : JB A) (hL : Ly A L n ns) (hj : j < n) (hX : XG A (L j).1 l w) (h : ∀ x, x < ns → V x = V' x) : xval (ev A L V j) l = xval (ev A L V' j) l := by
  refine xval_congr (fun o ho k => ?_)
  obtain ⟨i, w', q⟩ := hX.1.ld o ho k
  obtain ⟨n1, n2, -⟩ := hJ.nms (hL.2.2.2 j hj).1 q
  exact h _ (hL.lt hJ hj n2)
theorem CSt.ins (hL : Ly A L n ns) (h : CSt pl lit lc A sz L n ns ord c) {i : Nat} (hi : i < n) : c.1 345 i = nI (L i).1 ∧ c.1 344 i = nI (L i).2.1 ∧ (0 < i → c.1 346 i = nI (L i).2.2.1 ∧ c.1 347 i = nI (L i).2.2.2) := by
  refine h.2.1.1 i hi ?_
  by_cases z : i = 0
  · exact Or.inl z
  · have := ((hL.2.2.2 i hi).2.2.2.2.1 (by omega)).1
    exact Or.inr (by omega)
theorem CSt.kee (h : CSt pl lit lc A sz L n ns ord c) (e : Eb [] [287, 288] c c') : CSt pl lit lc A sz L n ns ord c' := h.keep (SwE.of e (by decide) (by decide))
/-- an assert's piece -/
theorem CSt.pas (hJ : JB A) (hL : Ly A L n ns) (h : CSt pl lit lc A sz L n ns ord c) {i p : Nat} (hi : i < n) (h1 : A.1 25 (L i).1 ≤ p) (h2 : p < A.1 25 ((L i).1 + 1)) (h3 : A.1 15 p = 1) : ∃ a w, c.1 368 p = nI a ∧ c.1 369 p = nI (a + (A.2.1 2 (A.1 16 p)).length) ∧ a + (A.2.1 2 (A.1 16 p)).length ≤ sz ∧ cEnc (c.2 386) (A.1 21 (L i).1) lit lc a (A.2.1 2 (A.1 16 p)) ∧ XG A (L i).1 (A.2.1 2 (A.1 16 p)) w := by
  have hm := (hL.2.2.2 i hi).1
  have r := hJ.p345 hm
  obtain ⟨-, -, -, -, -, hP, -⟩ := h.1
  obtain ⟨-, -, a, b, p1, p2, p3, p4, p5, -⟩ := hP p (by omega)
  obtain ⟨q1, q2, q3⟩ := p5 h3
  have mem : A.1 16 p ∈ asr A (L i).1 := by
    rw [← (hJ.pcs hm).1]
    exact flt_mem h1 (by omega) h3
  unfold asr at mem
  obtain ⟨m1, m2⟩ := mem_rng mem
  obtain ⟨e, -⟩ := hJ.ast hm m1 (by omega)
  obtain ⟨-, -, -, s4, w, s5⟩ := hJ.1.1.2.2.2.1 _ q3
  rw [e] at s4 s5
  subst q1
  exact ⟨a, w, p1, p2, p4, by rw [← s4]; exact q2, s5⟩
/-- an always's piece -/
theorem CSt.pal (hJ : JB A) (hL : Ly A L n ns) (h : CSt pl lit lc A sz L n ns ord c) {i p : Nat} (hi : i < n) (h1 : A.1 25 (L i).1 ≤ p) (h2 : p < A.1 25 ((L i).1 + 1)) (h3 : A.1 15 p = 0) : ∃ a b, c.1 368 p = nI a ∧ c.1 369 p = nI b ∧ a ≤ b ∧ b ≤ sz ∧ Cg (c.2 386) (A.1 34 (A.1 16 p)) lit lc (fun d => A.1 34 (A.1 16 p) ≤ d ∧ d < A.1 33 (A.1 16 p)) 0 a b (A.2.2 (A.1 16 p)) ∧ A.1 34 (A.1 16 p) = A.1 21 (L i).1 ∧ A.1 33 (A.1 16 p) - A.1 34 (A.1 16 p) ≤ own A (L i).1 := by
  have hm := (hL.2.2.2 i hi).1
  have r := hJ.p345 hm
  obtain ⟨-, -, -, -, -, hP, -⟩ := h.1
  obtain ⟨-, -, a, b, p1, p2, p3, p4, -, p5⟩ := hP p (by omega)
  obtain ⟨q1, q2⟩ := p5 h3
  have mem : A.1 16 p ∈ flt (A.1 17) (fun a => a) 1 (A.1 24 (L i).1) (A.1 24 ((L i).1 + 1) - A.1 24 (L i).1) := by
    rw [← (hJ.pcs hm).2]
    exact flt_mem h1 (by omega) h3
  obtain ⟨a', m1, m2, m3, m4⟩ := mem_flt mem
  have m4 : a' = A.1 16 p := m4
  subst m4
  obtain ⟨-, s1, -, s3⟩ := hJ.alwf hm m1 (by omega)
  exact ⟨a, b, p1, p2, p3, p4, q1, s1, s3⟩
theorem alw_run_C {i a b x : Nat} (hN : 20000 < N) (hJ : JB A) (hL : Ly A L n ns) (hns : ns ≤ 1024) (hi : i < n) (hc : Cst c sz lc (c.2 386) lit) (hab : a ≤ b) (hb : b ≤ sz) (hC : Cg (c.2 386) (A.1 34 x) lit lc (fun d => A.1 34 x ≤ d ∧ d < A.1 33 x) 0 a b (A.2.2 x)) (h34 : A.1 34 x = A.1 21 (L i).1) (h33 : A.1 33 x - A.1 34 x ≤ own A (L i).1) (hV : ∀ y, y < ns → c.2 286 y = V y) (hX : ∀ y, y < ns → c.2 287 y = X y) : ∃ r c', fn_Machine_run_Ma_Kc N (nI a) (nI b) (nI (L i).2.1) c = some (r, c') ∧ Eb [] [287, 288] c c' ∧ ∀ y, y < ns → c'.2 287 y = apl A L V i x X y := by
  obtain ⟨c', e1, e2, e3, e4⟩ := run_C (N := N) (fd := A.1 34 x) (fr := (L i).2.1) (n := ev A L X i) (v := ev A L V i) hN hc hab hb ⟨trivial, fun d hd => by
    have hlt : (L i).2.1 + (d - A.1 34 x) < ns := hL.lt hJ hi (show d - A.1 34 x < own A (L i).1 by omega)
    refine ⟨hd.1, by omega, ?_, ?_⟩
    · unfold ev; rw [← h34]; exact (hV _ hlt).symm
    · unfold ev; rw [← h34]; exact (hX _ hlt).symm⟩ (hC (ev A L V i) (ev A L X i) [] (Nat.zero_le _))
  refine ⟨_, c', e1, e3, fun y hy => ?_⟩
  unfold apl
  split
  · rename_i z
    obtain ⟨-, -, -, f4⟩ := e2.2 (A.1 34 x + (y - (L i).2.1)) ⟨by omega, by omega⟩
    rw [f4, show (L i).2.1 + (A.1 34 x + (y - (L i).2.1) - A.1 34 x) = y by omega]
  · rename_i z
    rw [e4 y (fun d hd q => by omega)]
    exact hX y hy
theorem pc1_L {k11 : Int32 → Int32 → Int32 → ms → Option (Int32 × ms)} {i : Nat} (hN : 20000 < N) (hJ : JB A) (hB : Bn A) (hL : Ly A L n ns) (hi : i < n) : ∀ (r p F cnt : Nat) (c : ms), p + r = A.1 25 ((L i).1 + 1) → A.1 25 (L i).1 ≤ p → r < F → CSt pl lit lc A sz L n ns ord c → (∀ y, y < ns → c.2 286 y = V y) → ∃ c', hd_Machine_runPieces_Ma_Cc_48 N k11 F 1 (nI cnt) (nI i) (nI (A.1 25 ((L i).1 + 1))) (nI p) c = k11 1 (nI (cnt + fcn A L V i (flt (A.1 15) (A.1 16) 1 p r))) (nI (i + 1)) c' ∧ Eb [] [287, 288] c c' := by
  have hm := (hL.2.2.2 i hi).1
  have rr := hJ.p345 hm
  have b := hB.2
  intro r
  induction r with
  | zero =>
    intro p F cnt c hp h1 hF hC hV
    obtain ⟨F, rfl⟩ : ∃ F', F = F' + 1 := ⟨F - 1, by omega⟩
    refine ⟨c, ?_, Eb.rfl⟩
    show bd_Machine_runPieces_Ma_Cc_48 N k11 (hd_Machine_runPieces_Ma_Cc_48 N k11 F) 1 (nI cnt) (nI i) (nI (A.1 25 ((L i).1 + 1))) (nI p) c = _
    unfold bd_Machine_runPieces_Ma_Cc_48
    rw [if_pos (nI_le (by omega) (by omega)), nI_1]
    rfl
  | succ r ih =>
    intro p F cnt c hp h1 hF hC hV
    obtain ⟨F, rfl⟩ : ∃ F', F = F' + 1 := ⟨F - 1, by omega⟩
    have hn : n ≤ 257 := hC.2.2.1.2.1
    have hns : ns ≤ 1024 := hC.2.2.1.2.2.2
    have h370 : c.1 370 p = nI (A.1 15 p) ∧ A.1 15 p ≤ 1 := by
      obtain ⟨-, -, -, -, -, hP, -⟩ := hC.1
      obtain ⟨p1, p2, -⟩ := hP p (by omega)
      exact ⟨p1, p2⟩
    show ∃ c', bd_Machine_runPieces_Ma_Cc_48 N k11 (hd_Machine_runPieces_Ma_Cc_48 N k11 F) 1 (nI cnt) (nI i) (nI (A.1 25 ((L i).1 + 1))) (nI p) c = _ ∧ _
    unfold bd_Machine_runPieces_Ma_Cc_48
    rw [if_neg (nI_ge (show p < A.1 25 ((L i).1 + 1) by omega) (by omega)), if_neg (nI_in (show p < 6554 by omega) (by decide)), nI_clamp (show p < 2 ^ 31 by omega), h370.1, flt_cons]
    by_cases z : A.1 15 p = 1
    · obtain ⟨a, w, g1, g2, g3, g4, g5⟩ := hC.pas hJ hL hi h1 (by omega) z
      obtain ⟨c1, d1, d2⟩ := exp_run_C (N := N) hN hJ hL hns hi g5 hC.st g3 g4
      rw [z, if_pos (show nI 1 = 1 from rfl), if_neg (nI_in2 (show p < 6554 by omega) (by decide)), if_neg (nI_in2 (show p < 6554 by omega) (by decide)), if_neg (nI_in (show i < 257 by omega) (by decide)), nI_clamp (show i < 2 ^ 31 by omega), g1, g2, (hC.ins hL hi).2.1, d1, obind, if_pos rfl]
      dsimp only
      have hV1 : ∀ y, y < ns → c1.2 286 y = V y := fun y hy => by rw [d2.2 286 (by decide)]; exact hV y hy
      rw [xv_congr hJ hL hi g5 hV, nI_1, nI_1]
      show ∃ c', (if lg_cmp (xval (ev A L V i) (A.2.1 2 (A.1 16 p))) 0 = 0 then _ else _) = k11 1 (nI (cnt + ((if xval (ev A L V i) (A.2.1 2 (A.1 16 p)) = 0 then 1 else 0) + fcn A L V i (flt (A.1 15) (A.1 16) 1 (p + 1) r)))) (nI (i + 1)) c' ∧ _
      by_cases y : xval (ev A L V i) (A.2.1 2 (A.1 16 p)) = 0
      · rw [if_pos (lgE.mpr y), if_pos y]
        obtain ⟨c2, f1, f2⟩ := ih (p + 1) F (cnt + 1) c1 (by omega) (by omega) (by omega) (hC.kee d2) hV1
        refine ⟨c2, ?_, d2.trans f2⟩
        rw [f1, Nat.add_assoc]
      · rw [if_neg (fun q => y (lgE.mp q)), if_neg y, Nat.zero_add]
        obtain ⟨c2, f1, f2⟩ := ih (p + 1) F cnt c1 (by omega) (by omega) (by omega) (hC.kee d2) hV1
        exact ⟨c2, f1, d2.trans f2⟩
    · have z0 : A.1 15 p = 0 := by omega
      rw [z0, if_neg (show ¬ nI 0 = 1 by decide), nI_1, if_neg (show ¬ (0 : Nat) = 1 by decide)]
      exact ih (p + 1) F cnt c (by omega) (by omega) (by omega) hC hV
theorem pc0_L {k11 : Int32 → Int32 → Int32 → ms → Option (Int32 × ms)} {i : Nat} (hN : 20000 < N) (hJ : JB A) (hB : Bn A) (hL : Ly A L n ns) (hi : i < n) : ∀ (r p F : Nat) (x4 : Int32) (c : ms) (X : Nat → Int64), p + r = A.1 25 ((L i).1 + 1) → A.1 25 (L i).1 ≤ p → r < F → CSt pl lit lc A sz L n ns ord c → (∀ y, y < ns → c.2 286 y = V y) → (∀ y, y < ns → c.2 287 y = X y) → ∃ c' x4', hd_Machine_runPieces_Ma_Cc_48 N k11 F 0 x4 (nI i) (nI (A.1 25 ((L i).1 + 1))) (nI p) c = k11 0 x4' (nI (i + 1)) c' ∧ Eb [] [287, 288] c c' ∧ ∀ y, y < ns → c'.2 287 y = apls A L V i (flt (A.1 15) (A.1 16) 0 p r) X y := by
  have hm := (hL.2.2.2 i hi).1
  have rr := hJ.p345 hm
  have b := hB.2
  intro r
  induction r with
  | zero =>
    intro p F x4 c X hp h1 hF hC hV hX
    obtain ⟨F, rfl⟩ : ∃ F', F = F' + 1 := ⟨F - 1, by omega⟩
    refine ⟨c, x4, ?_, Eb.rfl, hX⟩
    show bd_Machine_runPieces_Ma_Cc_48 N k11 (hd_Machine_runPieces_Ma_Cc_48 N k11 F) 0 x4 (nI i) (nI (A.1 25 ((L i).1 + 1))) (nI p) c = _
    unfold bd_Machine_runPieces_Ma_Cc_48
    rw [if_pos (nI_le (by omega) (by omega)), nI_1]
  | succ r ih =>
    intro p F x4 c X hp h1 hF hC hV hX
    obtain ⟨F, rfl⟩ : ∃ F', F = F' + 1 := ⟨F - 1, by omega⟩
    have hn : n ≤ 257 := hC.2.2.1.2.1
    have hns : ns ≤ 1024 := hC.2.2.1.2.2.2
    have h370 : c.1 370 p = nI (A.1 15 p) ∧ A.1 15 p ≤ 1 := by
      obtain ⟨-, -, -, -, -, hP, -⟩ := hC.1
      obtain ⟨p1, p2, -⟩ := hP p (by omega)
      exact ⟨p1, p2⟩
    show ∃ c' x4', bd_Machine_runPieces_Ma_Cc_48 N k11 (hd_Machine_runPieces_Ma_Cc_48 N k11 F) 0 x4 (nI i) (nI (A.1 25 ((L i).1 + 1))) (nI p) c = _ ∧ _
    unfold bd_Machine_runPieces_Ma_Cc_48
    rw [if_neg (nI_ge (show p < A.1 25 ((L i).1 + 1) by omega) (by omega)), if_neg (nI_in (show p < 6554 by omega) (by decide)), nI_clamp (show p < 2 ^ 31 by omega), h370.1, flt_cons]
    by_cases z : A.1 15 p = 0
    · obtain ⟨a, b', g1, g2, g3, g4, g5, g6, g7⟩ := hC.pal hJ hL hi h1 (by omega) z
      obtain ⟨rv, c1, d1, d2, d3⟩ := alw_run_C (N := N) hN hJ hL hns hi hC.st g3 g4 g5 g6 g7 hV hX
      rw [z, if_pos (show nI 0 = 0 from rfl), if_neg (nI_in2 (show p < 6554 by omega) (by decide)), if_neg (nI_in2 (show p < 6554 by omega) (by decide)), if_neg (nI_in (show i < 257 by omega) (by decide)), nI_clamp (show i < 2 ^ 31 by omega), g1, g2, (hC.ins hL hi).2.1, d1, obind, if_pos rfl]
      dsimp only
      have hV1 : ∀ y, y < ns → c1.2 286 y = V y := fun y hy => by rw [d2.2 286 (by decide)]; exact hV y hy
      rw [nI_1]
      show ∃ c' x4', _ = k11 0 x4' (nI (i + 1)) c' ∧ _ ∧ ∀ y, y < ns → c'.2 287 y = apls A L V i (flt (A.1 15) (A.1 16) 0 (p + 1) r) (apl A L V i (A.1 16 p) X) y
      split
      · obtain ⟨c2, x5, f1, f2, f3⟩ := ih (p + 1) F (x4 + 1) c1 _ (by omega) (by omega) (by omega) (hC.kee d2) hV1 d3
        exact ⟨c2, x5, f1, d2.trans f2, f3⟩
      · obtain ⟨c2, x5, f1, f2, f3⟩ := ih (p + 1) F x4 c1 _ (by omega) (by omega) (by omega) (hC.kee d2) hV1 d3
        exact ⟨c2, x5, f1, d2.trans f2, f3⟩
    · have z0 : A.1 15 p = 1 := by omega
      rw [z0, if_neg (show ¬ nI 1 = 0 by decide), nI_1, if_neg (show ¬ (1 : Nat) = 0 by decide)]
      exact ih (p + 1) F x4 c X (by omega) (by omega) (by omega) hC hV hX
theorem pcI1_L (hN : 20000 < N) (hJ : JB A) (hB : Bn A) (hL : Ly A L n ns) : ∀ (k i F cnt : Nat) (c : ms), i + k = n → k < F → CSt pl lit lc A sz L n ns ord c → (∀ y, y < ns → c.2 286 y = V y) → ∃ c', hd_Machine_runPieces_Ma_Cc_11 N F 1 (nI cnt) (nI i) c = some (nI (cnt + fcI A L V k i), c') ∧ Eb [] [287, 288] c c' := by
  intro k
  induction k with
  | zero =>
    intro i F cnt c hi hF hC hV
    obtain ⟨F, rfl⟩ : ∃ F', F = F' + 1 := ⟨F - 1, by omega⟩
    have hn : n ≤ 257 := hC.2.2.1.2.1
    refine ⟨c, ?_, Eb.rfl⟩
    show bd_Machine_runPieces_Ma_Cc_11 N (hd_Machine_runPieces_Ma_Cc_11 N F) 1 (nI cnt) (nI i) c = _
    unfold bd_Machine_runPieces_Ma_Cc_11
    rw [hC.2.2.1.1, if_pos (nI_le (by omega) (by omega))]
    rfl
  | succ k ih =>
    intro i F cnt c hi hF hC hV
    obtain ⟨F, rfl⟩ : ∃ F', F = F' + 1 := ⟨F - 1, by omega⟩
    have hn : n ≤ 257 := hC.2.2.1.2.1
    have il : i < n := by omega
    have hm := (hL.2.2.2 i il).1
    have rr := hJ.p345 hm
    have b := hB.2
    show ∃ c', bd_Machine_runPieces_Ma_Cc_11 N (hd_Machine_runPieces_Ma_Cc_11 N F) 1 (nI cnt) (nI i) c = _ ∧ _
    unfold bd_Machine_runPieces_Ma_Cc_11
    rw [hC.2.2.1.1, if_neg (nI_ge il (by omega)), if_neg (nI_in (show i < 257 by omega) (by decide)), nI_clamp (show i < 2 ^ 31 by omega), (hC.ins hL il).1, nI_1, firstPiece_C hJ hB hC (by omega), obind]
    dsimp only
    rw [if_neg (nI_in2 (show i < 257 by omega) (by decide)), (hC.ins hL il).1, firstPiece_C hJ hB hC (by omega), obind]
    dsimp only
    obtain ⟨c1, f1, f2⟩ := pc1_L (N := N) (k11 := hd_Machine_runPieces_Ma_Cc_11 N F) hN hJ hB hL il (A.1 25 ((L i).1 + 1) - A.1 25 (L i).1) (A.1 25 (L i).1) N cnt c (by omega) (Nat.le_refl _) (by omega) hC hV
    rw [f1, (hJ.pcs hm).1]
    obtain ⟨c2, g1, g2⟩ := ih (i + 1) F (cnt + fcn A L V i (asr A (L i).1)) c1 (by omega) (by omega) (hC.kee f2) (fun y hy => by rw [f2.2 286 (by decide)]; exact hV y hy)
    refine ⟨c2, ?_, f2.trans g2⟩
    rw [g1, Nat.add_assoc]
    rfl
theorem pcI0_L (hN : 20000 < N) (hJ : JB A) (hB : Bn A) (hL : Ly A L n ns) : ∀ (k i F : Nat) (x4 : Int32) (c : ms) (X : Nat → Int64), i + k = n → k < F → CSt pl lit lc A sz L n ns ord c → (∀ y, y < ns → c.2 286 y = V y) → (∀ y, y < ns → c.2 287 y = X y) → ∃ c' r, hd_Machine_runPieces_Ma_Cc_11 N F 0 x4 (nI i) c = some (r, c') ∧ Eb [] [287, 288] c c' ∧ ∀ y, y < ns → c'.2 287 y = nxI A L V k i X y := by
  intro k
  induction k with
  | zero =>
    intro i F x4 c X hi hF hC hV hX
    obtain ⟨F, rfl⟩ : ∃ F', F = F' + 1 := ⟨F - 1, by omega⟩
    have hn : n ≤ 257 := hC.2.2.1.2.1
    refine ⟨c, x4, ?_, Eb.rfl, hX⟩
    show bd_Machine_runPieces_Ma_Cc_11 N (hd_Machine_runPieces_Ma_Cc_11 N F) 0 x4 (nI i) c = _
    unfold bd_Machine_runPieces_Ma_Cc_11
    rw [hC.2.2.1.1, if_pos (nI_le (by omega) (by omega))]
  | succ k ih =>
    intro i F x4 c X hi hF hC hV hX
    obtain ⟨F, rfl⟩ : ∃ F', F = F' + 1 := ⟨F - 1, by omega⟩
    have hn : n ≤ 257 := hC.2.2.1.2.1
    have il : i < n := by omega
    have hm := (hL.2.2.2 i il).1
    have rr := hJ.p345 hm
    have b := hB.2
    show ∃ c' r, bd_Machine_runPieces_Ma_Cc_11 N (hd_Machine_runPieces_Ma_Cc_11 N F) 0 x4 (nI i) c = _ ∧ _
    unfold bd_Machine_runPieces_Ma_Cc_11
    rw [hC.2.2.1.1, if_neg (nI_ge il (by omega)), if_neg (nI_in (show i < 257 by omega) (by decide)), nI_clamp (show i < 2 ^ 31 by omega), (hC.ins hL il).1, nI_1, firstPiece_C hJ hB hC (by omega), obind]
    dsimp only
    rw [if_neg (nI_in2 (show i < 257 by omega) (by decide)), (hC.ins hL il).1, firstPiece_C hJ hB hC (by omega), obind]
    dsimp only
    obtain ⟨c1, x5, f1, f2, f3⟩ := pc0_L (N := N) (k11 := hd_Machine_runPieces_Ma_Cc_11 N F) hN hJ hB hL il (A.1 25 ((L i).1 + 1) - A.1 25 (L i).1) (A.1 25 (L i).1) N x4 c X (by omega) (Nat.le_refl _) (by omega) hC hV hX
    rw [f1]
    rw [(hJ.pcs hm).2, apls_flt hJ hm _ _ _ (Nat.le_refl _) (by omega)] at f3
    obtain ⟨c2, r, g1, g2, g3⟩ := ih (i + 1) F x5 c1 _ (by omega) (by omega) (hC.kee f2) (fun y hy => by rw [f2.2 286 (by decide)]; exact hV y hy) f3
    exact ⟨c2, r, g1, f2.trans g2, g3⟩
end CPCS
