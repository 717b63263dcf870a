/-! Running: step, set, reset. -/
section RST2
variable {tk pl : Nat → Nat} {nt t : Nat} {lit : Nat → Int64} {A : ds} {L : Nat → ly} {n ns N lc sz la nc cl nl : Nat} {od or : List Nat} {c c' s s' : ms}
/-- step -/
theorem step_R (hN : 70000 < N) (h : Stn tk pl nt t lit lc A sz L n ns la nc cl nl od or c s) (hR : Rst A L n ns c s) : ∃ c' s' r, fn_Machine_advance_Ma_Cc N c = some (r, c') ∧ (fn_M_goOn_82 N s).bind (fun q_1 => hd_M_step_35 N N 0 q_1.2) = some (r, s') ∧ Eb [289, 290] [286, 287, 288] c c' ∧ Eb [85, 86] [80, 81, 82, 84] s s' ∧ Stn tk pl nt t lit lc A sz L n ns la nc cl nl od or c' s' ∧ Rst A L n ns c' s' := by
  obtain ⟨c1, e1, e2, e3, e4, e5, e6⟩ := settled hN h hR
  obtain ⟨hJ, hB, hWF, hL, hO, hO', hC, hM⟩ := id e3
  obtain ⟨r1, r2, r3, r4, r5, r6, r7, r8⟩ := id e4
  have hn : n ≤ 257 := hM.2.1.2.2.2
  have hns : ns ≤ 1024 := hM.2.1.2.1
  have h343 := hC.2.2.1.2.2.1
  -- the class
  have C2 : CSt pl lit lc A sz L n ns od (upJ c1 287 (va_cpy (c1.2 286) (c1.2 287) 0 0 ns)) := hC.keep (SwE.of (Eb.rfl.upJ (ks := []) (js := [287]) (by decide)) (by decide) (by decide))
  obtain ⟨c3, rr, f1, f2, f3⟩ := pcI0_L (N := N) (V := s.2 80) (by omega) hJ hB hL n 0 N 0 (upJ c1 287 (va_cpy (c1.2 286) (c1.2 287) 0 0 ns)) (s.2 80) (by omega) (by omega) C2 e6 (fun y hy => by
    show va_cpy (c1.2 286) (c1.2 287) 0 0 ns y = _
    rw [cpy_at, if_pos hy]
    exact e6 y hy)
  have f2' : Eb [] [287, 288] c1 c3 := (Eb.rfl.upJ (by decide)).trans f2
  have h343' : c3.1 343 0 = nI ns := by rw [f2'.1 343 (by decide)]; exact h343
  -- the reference
  obtain ⟨s1, g1, g2, g3, g4⟩ := goOn_M (N := N) (V := s.2 80) (X := s.2 82) hN hJ hB hL r6 hM r1 (fun _ _ => rfl) (fun _ _ => rfl)
  obtain ⟨s2, k1, k2, k3, -⟩ := st35_L (N := N) ns 0 N s1 (by omega) (by omega) (by rw [g2.1 63 (by decide)]; exact hM.2.1.1) hns
  have M2 : MMs A L n ns la nc cl nl or s2 := (hM.kee g2).keep k2 (by decide) (by decide)
  have x82 : ∀ y, y < ns → s2.2 82 y = nxI A L (s.2 80) n 0 (s.2 82) y := fun y hy => by rw [k3 y (Nat.zero_le _) hy, g4 y hy]
  have x83 : s2.2 83 = s.2 83 := by rw [k2.2 83 (by decide), g2.2 83 (by decide)]
  obtain ⟨n1, n2, n3⟩ := nxI_all (V := s.2 80) hJ hL n 0 (s.2 80) (s.2 82) (by omega)
  obtain ⟨-, -, n4⟩ := nxI_all (V := s.2 80) hJ hL n 0 (s.2 82) (s.2 82) (by omega)
  have v82 : Vt A L n ns (s2.2 82) := fun y hy => by rw [x82 y hy]; exact n4 r6 r3 y hy
  have fb : ∀ x, x < ns → (RS A L n x).1 = 0 → Fw (bas A L n s2 x) (A.1 1 (snm A L n x)) := fun x hx z => by
    have q := r4 x hx z
    unfold bas at q ⊢
    by_cases w : A.1 2 (snm A L n x) = 0
    · rw [if_pos w] at q ⊢
      rw [x83]
      exact q
    · rw [if_neg w]
      exact v82 x hx
  obtain ⟨s3, m1, m2, m3, m4, m5⟩ := settle_M (N := N) hN hJ hB hWF hL hO' M2 (by rw [k2.1 85 (by decide)]; exact g3) fb
  have e86 : s3.1 86 0 = c3.1 289 0 := by rw [m2.1 86 (by decide), k2.1 86 (by decide), g2.1 86 (by decide), f2'.1 289 (by decide)]; exact r2
  have bs : bas A L n (upI s3 86 (fun _ => s3.1 86 0 + 1)) = bas A L n s2 := by
    funext x
    unfold bas
    show (if _ then s3.2 83 x else s3.2 82 x) = _
    rw [m2.2 83 (by decide), m2.2 82 (by decide)]
  refine ⟨upI (upI (upJ c3 286 (va_cpy (c3.2 287) (c3.2 286) 0 0 ns)) 290 (fun _ => 0)) 289 (fun _ => c3.1 289 0 + 1), upI s3 86 (fun _ => s3.1 86 0 + 1), c3.1 289 0 + 1, ?_, ?_, ?_, ?_, ?_, ?_⟩
  · unfold fn_Machine_advance_Ma_Cc fn_Machine_runPieces_Ma_Cc
    rw [e1, obind]
    dsimp only
    rw [h343, nI_clamp (show ns < 2 ^ 31 by omega), if_neg (fun z => z.elim (fun y => nI_pos (by omega) y) (fun y => by omega)), show hd_Machine_runPieces_Ma_Cc_11 N N 0 0 0 (upJ c1 287 (va_cpy (c1.2 286) (c1.2 287) 0 0 ns)) = _ from f1, obind]
    dsimp only
    rw [h343', nI_clamp (show ns < 2 ^ 31 by omega), if_neg (fun z => z.elim (fun y => nI_pos (by omega) y) (fun y => by omega))]
  · rw [g1, obind]
    show hd_M_step_35 N N (nI 0) s1 = _
    rw [k1, m1, obind]
    dsimp only
    rw [e86]
  · exact (((e2.mono (by decide) (by decide)).trans (f2'.mono (by decide) (by decide))).upJ (by decide)).upI (by decide) |>.upI (by decide)
  · exact (((g2.mono (by decide) (by decide)).trans (k2.mono (by decide) (by decide))).trans (m2.mono (by decide) (by decide))).upI (by decide)
  · refine (e3.keepC (SwE.of (ks := [289, 290]) (js := [286, 287, 288]) ?_ (by decide) (by decide))).keepM (ks := [85, 86]) (js := [80, 81, 82, 84]) ?_ (by decide) (by decide)
    · exact (((f2'.mono (by decide) (by decide))).upJ (by decide)).upI (by decide) |>.upI (by decide)
    · exact (((g2.mono (by decide) (by decide)).trans (k2.mono (by decide) (by decide))).trans (m2.mono (by decide) (by decide))).upI (by decide)
  · refine ⟨m3, ?_, ?_, ?_, ?_, m5, ?_, Or.inl rfl⟩
    · show s3.1 86 0 + 1 = c3.1 289 0 + 1
      rw [e86]
    · show Vt A L n ns (s3.2 82)
      rw [m2.2 82 (by decide)]
      exact v82
    · rw [bs]; exact fb
    · rw [bs]; exact m4
    · intro x hx z
      rw [bs]
      show va_cpy (c3.2 287) (c3.2 286) 0 0 ns x = _
      rw [cpy_at, if_pos hx, f3 x hx]
      have q := (r5 x hx).1 z
      have ru := (rule_ok hJ hWF hL hx).2.2.1.mp z
      unfold bas at q ⊢
      by_cases w : A.1 2 (snm A L n x) = 0
      · rw [if_pos w] at q ⊢
        rw [n2 x (by omega), x83]
        exact q
      · rw [if_neg w] at q ⊢
        rw [x82 x hx]
        exact n1 x q
/-- set -/
theorem set_R (hN : 70000 < N) (h : Stn tk pl nt t lit lc A sz L n ns la nc cl nl od or c s) (hR : Rst A L n ns c s) {x : Nat} {v : Int64} (hx : x < ns) (h2 : A.1 2 (snm A L n x) = 0) (h3 : (RS A L n x).1 = 0) (hv : Fw v (A.1 1 (snm A L n x))) : ∃ c' s', fn_Machine_put_Ma N (nI x) v c = some ((), c') ∧ fn_M_settle_82_83 N (upJ s 83 (vp_updL (s.2 83) x v)) = some ((), s') ∧ Eb [290] [286] c c' ∧ Eb [85] [80, 81, 83, 84] s s' ∧ Stn tk pl nt t lit lc A sz L n ns la nc cl nl od or c' s' ∧ Rst A L n ns c' s' := by
  obtain ⟨hJ, hB, hWF, hL, hO, hO', hC, hM⟩ := id h
  obtain ⟨r1, r2, r3, r4, r5, r6, r7, r8⟩ := id hR
  have hns : ns ≤ 1024 := hM.2.1.2.1
  have b1 : ∀ y, bas A L n (upJ s 83 (vp_updL (s.2 83) x v)) y = if y = x then v else bas A L n s y := fun y => by
    unfold bas
    show (if _ then vp_updL (s.2 83) x v y else s.2 82 y) = _
    by_cases z : y = x
    · subst z
      rw [if_pos h2, if_pos rfl, updL_at]
    · rw [if_neg z, updL_ne z]
  have fb : ∀ y, y < ns → (RS A L n y).1 = 0 → Fw (bas A L n (upJ s 83 (vp_updL (s.2 83) x v)) y) (A.1 1 (snm A L n y)) := fun y hy z => by
    rw [b1]
    by_cases w : y = x
    · subst w; rw [if_pos rfl]; exact hv
    · rw [if_neg w]; exact r4 y hy z
  obtain ⟨s', m1, m2, m3, m4, m5⟩ := settle_M (N := N) hN hJ hB hWF hL hO' (hM.keep (Eb.rfl.upJ (ks := []) (js := [83]) (by decide)) (by decide) (by decide)) r1 fb
  have bs : bas A L n s' = bas A L n (upJ s 83 (vp_updL (s.2 83) x v)) := by
    funext y
    unfold bas
    rw [m2.2 83 (by decide), m2.2 82 (by decide)]
  have E : Eb [85] [80, 81, 83, 84] s s' := (Eb.rfl.upJ (by decide)).trans (m2.mono (by decide) (by decide))
  refine ⟨upI (upJ c 286 (vp_updL (c.2 286) x v)) 290 (fun _ => 0), s', ?_, m1, (Eb.rfl.upJ (by decide)).upI (by decide), E, ?_, ?_⟩
  · unfold fn_Machine_put_Ma
    rw [if_neg (nI_pos (by omega)), if_pos (show nI x < 1024 from nI_lt (b := 1024) (by omega) (by omega)), if_neg (nI_in (show x < 1024 by omega) (by decide)), nI_clamp (by omega)]
  · exact (h.keepC (SwE.of (ks := [290]) (js := [286]) ((Eb.rfl.upJ (by decide)).upI (by decide)) (by decide) (by decide))).keepM E (by decide) (by decide)
  · refine ⟨m3, ?_, ?_, ?_, ?_, m5, ?_, Or.inl rfl⟩
    · show s'.1 86 0 = c.1 289 0
      rw [E.1 86 (by decide)]
      exact r2
    · rw [E.2 82 (by decide)]; exact r3
    · rw [bs]; exact fb
    · rw [bs]; exact m4
    · intro y hy z
      rw [bs, b1]
      show vp_updL (c.2 286) x v y = _
      by_cases w : y = x
      · subst w; rw [if_pos rfl, updL_at]
      · rw [if_neg w, updL_ne w]; exact r7 y hy z
theorem CSt.nm (hL : Ly A L n ns) (h : CSt pl lit lc A sz L n ns od c) {x : Nat} (hx : x < ns) : c.1 348 x = nI (snm A L n x) := by
  obtain ⟨i, q, hi, hq, rfl⟩ := hL.sig hx
  rw [(RS_at hL hi hq).2]
  exact (h.2.1.2 i hi q hq).1
theorem MMs.nm (hL : Ly A L n ns) (h : MMs A L n ns la nc cl nl or s) {x : Nat} (hx : x < ns) : s.1 64 x = nI (snm A L n x) := by
  obtain ⟨i, q, hi, hq, rfl⟩ := hL.sig hx
  rw [(RS_at hL hi hq).2]
  exact ((h.2.2.2.2.1 i hi).2.2.2.2 q hq).1
theorem firstOf_C (hJ : JB A) (hB : Bn A) (hWF : WF tk nt A t) (hL : Ly A L n ns) (h : CSt pl lit lc A sz L n ns od c) {x : Nat} (hx : x < ns) : fn_Circuit_firstOf_Cc N (nI x) c = some (lN (A.1 3 (snm A L n x)), c) := by
  have hns := h.2.2.1.2.2.2
  have d := (rule_ok hJ hWF hL hx).2.2.2
  have b := hB.2
  have e : c.2 375 (snm A L n x) = lN (A.1 3 (snm A L n x)) := (h.1.2.1 _ d).2.2.2
  unfold fn_Circuit_firstOf_Cc fn_Circuit_isSignal_Cc
  rw [if_neg (nI_pos (by omega)), h.2.2.1.2.2.1, if_neg (nI_ge hx (by omega)), obind]
  dsimp only
  rw [if_neg (show ¬ (1 : Int32) = 0 by decide), if_neg (nI_in (show x < 1024 by omega) (by decide)), nI_clamp (by omega), h.nm hL hx, if_neg (nI_in (show snm A L n x < 10923 by omega) (by decide)), nI_clamp (by omega), e]
theorem rest_L (hJ : JB A) (hB : Bn A) (hWF : WF tk nt A t) (hL : Ly A L n ns) : ∀ (k x F : Nat) (c : ms), x + k = ns → k < F → CSt pl lit lc A sz L n ns od c → ∃ c', hd_Machine_restart_Ma_Cc_2 N F (nI x) c = some ((), c') ∧ Eb [289, 290] [286] c c' ∧ c'.1 289 0 = 0 ∧ c'.1 290 0 = 0 ∧ (∀ y, x ≤ y → y < ns → c'.2 286 y = lN (A.1 3 (snm A L n y))) ∧ ∀ y, y < x → c'.2 286 y = c.2 286 y := by
  intro k
  induction k with
  | zero =>
    intro x F c hx hF hC
    obtain ⟨F, rfl⟩ : ∃ F', F = F' + 1 := ⟨F - 1, by omega⟩
    have hns := hC.2.2.1.2.2.2
    show ∃ c', bd_Machine_restart_Ma_Cc_2 N (hd_Machine_restart_Ma_Cc_2 N F) (nI x) c = _ ∧ _
    unfold bd_Machine_restart_Ma_Cc_2
    rw [hC.2.2.1.2.2.1, if_pos (nI_le (by omega) (by omega))]
    exact ⟨_, rfl, (Eb.rfl.upI (by decide)).upI (by decide), rfl, rfl, fun y h1 h2 => by omega, fun _ _ => rfl⟩
  | succ k ih =>
    intro x F c hx hF hC
    obtain ⟨F, rfl⟩ : ∃ F', F = F' + 1 := ⟨F - 1, by omega⟩
    have hns := hC.2.2.1.2.2.2
    obtain ⟨c', f1, f2, f3, f4, f5, f6⟩ := ih (x + 1) F (upJ c 286 (vp_updL (c.2 286) x (lN (A.1 3 (snm A L n x))))) (by omega) (by omega) (hC.keep (SwE.of (Eb.rfl.upJ (ks := []) (js := [286]) (by decide)) (by decide) (by decide)))
    refine ⟨c', ?_, (Eb.rfl.upJ (by decide)).trans f2, f3, f4, fun y h1 h2 => ?_, fun y hy => ?_⟩
    · show bd_Machine_restart_Ma_Cc_2 N (hd_Machine_restart_Ma_Cc_2 N F) (nI x) c = _
      unfold bd_Machine_restart_Ma_Cc_2
      rw [hC.2.2.1.2.2.1, if_neg (nI_ge (show x < ns by omega) (by omega)), firstOf_C hJ hB hWF hL hC (by omega), obind]
      dsimp only
      rw [if_neg (nI_in (show x < 1024 by omega) (by decide)), nI_clamp (by omega), nI_1]
      exact f1
    · by_cases z : y = x
      · subst z
        rw [f6 y (by omega)]
        exact updL_at _ _ _
      · exact f5 y (by omega) h2
    · rw [f6 y (by omega)]
      exact updL_ne (by omega)
theorem beg0_L (hJ : JB A) (hB : Bn A) (hWF : WF tk nt A t) (hL : Ly A L n ns) : ∀ (k x F : Nat) (s : ms), x + k = ns → k < F → MMs A L n ns la nc cl nl or s → ∃ s', hd_M_begin0_7 N F (nI x) s = (fn_M_settle_82_83 N s').bind (fun q_1 => some ((), q_1.2)) ∧ Eb [] [82, 83] s s' ∧ (∀ y, x ≤ y → y < ns → s'.2 82 y = lN (A.1 3 (snm A L n y)) ∧ s'.2 83 y = 0) ∧ ∀ y, y < x → s'.2 82 y = s.2 82 y ∧ s'.2 83 y = s.2 83 y := by
  have b := hB.2
  intro k
  induction k with
  | zero =>
    intro x F s hx hF hM
    obtain ⟨F, rfl⟩ : ∃ F', F = F' + 1 := ⟨F - 1, by omega⟩
    have hns := hM.2.1.2.1
    refine ⟨s, ?_, Eb.rfl, fun y h1 h2 => by omega, fun _ _ => ⟨rfl, rfl⟩⟩
    show bd_M_begin0_7 N (hd_M_begin0_7 N F) (nI x) s = _
    unfold bd_M_begin0_7
    rw [hM.2.1.1, if_pos (nI_le (by omega) (by omega))]
  | succ k ih =>
    intro x F s hx hF hM
    obtain ⟨F, rfl⟩ : ∃ F', F = F' + 1 := ⟨F - 1, by omega⟩
    have hns := hM.2.1.2.1
    have d := (rule_ok hJ hWF hL (show x < ns by omega)).2.2.2
    have e22 : s.2 22 (snm A L n x) = lN (A.1 3 (snm A L n x)) := (hM.2.2.2.1.1.2.1 _ d).2.2.2.1
    obtain ⟨s', f1, f2, f3, f4⟩ := ih (x + 1) F (upJ (upJ s 82 (vp_updL (s.2 82) x (lN (A.1 3 (snm A L n x))))) 83 (vp_updL (s.2 83) x 0)) (by omega) (by omega) (hM.keep ((Eb.rfl.upJ (ks := []) (js := [82, 83]) (by decide)).upJ (by decide)) (by decide) (by decide))
    refine ⟨s', ?_, ((Eb.rfl.upJ (by decide)).upJ (by decide)).trans f2, fun y h1 h2 => ?_, fun y hy => ?_⟩
    · show bd_M_begin0_7 N (hd_M_begin0_7 N F) (nI x) s = _
      unfold bd_M_begin0_7
      rw [hM.2.1.1, if_neg (nI_ge (show x < ns by omega) (by omega)), if_neg (nI_in (show x < 1100 by omega) (by decide)), nI_clamp (show x < 2 ^ 31 by omega), hM.nm hL (by omega), if_neg (nI_in (show snm A L n x < 11000 by omega) (by decide)), if_neg (nI_in2 (show x < 1100 by omega) (by decide)), if_neg (nI_in2 (show x < 1100 by omega) (by decide)), nI_clamp (show snm A L n x < 2 ^ 31 by omega), e22, nI_1]
      exact f1
    · by_cases z : y = x
      · subst z
        obtain ⟨q1, q2⟩ := f4 y (by omega)
        rw [q1, q2]
        exact ⟨updL_at _ _ _, updL_at _ _ _⟩
      · exact f3 y (by omega) h2
    · obtain ⟨q1, q2⟩ := f4 y (by omega)
      rw [q1, q2]
      exact ⟨updL_ne (by omega), updL_ne (by omega)⟩
/-- reset, and what is behind a read -/
theorem reset_R (hN : 70000 < N) (h : Stn tk pl nt t lit lc A sz L n ns la nc cl nl od or c s) (h85 : s.1 85 0 = nI 0) : ∃ c' s', fn_Machine_restart_Ma_Cc N c = some ((), c') ∧ fn_M_begin0 N s = some ((), s') ∧ Eb [289, 290] [286] c c' ∧ Eb [85, 86] [80, 81, 82, 83, 84] s s' ∧ Stn tk pl nt t lit lc A sz L n ns la nc cl nl od or c' s' ∧ Rst A L n ns c' s' := by
  obtain ⟨hJ, hB, hWF, hL, hO, hO', hC, hM⟩ := id h
  have hns : ns ≤ 1024 := hM.2.1.2.1
  obtain ⟨c', f1, f2, f3, f4, f5, -⟩ := rest_L (N := N) hJ hB hWF hL ns 0 N c (by omega) (by omega) hC
  obtain ⟨s1, g1, g2, g3, -⟩ := beg0_L (N := N) hJ hB hWF hL ns 0 N (upI s 86 (fun _ => 0)) (by omega) (by omega) (hM.keep (Eb.rfl.upI (ks := [86]) (js := []) (by decide)) (by decide) (by decide))
  have M1 : MMs A L n ns la nc cl nl or s1 := (hM.keep (Eb.rfl.upI (ks := [86]) (js := []) (by decide)) (by decide) (by decide)).keep g2 (by decide) (by decide)
  have fit : ∀ x, x < ns → Fw (lN (A.1 3 (snm A L n x))) (A.1 1 (snm A L n x)) := fun x hx => ⟨_, (hWF.2.1 _ (rule_ok hJ hWF hL hx).2.2.2).2.2.2.2.2.2.1, rfl⟩
  have b1 : ∀ y, y < ns → bas A L n s1 y = lN (A.1 3 (snm A L n y)) := fun y hy => by
    unfold bas
    obtain ⟨q1, q2⟩ := g3 y (Nat.zero_le _) hy
    by_cases w : A.1 2 (snm A L n y) = 0
    · rw [if_pos w, q2, (hWF.2.1 _ (rule_ok hJ hWF hL hy).2.2.2).2.2.2.2.2.2.2 w]
      rfl
    · rw [if_neg w, q1]
  have fb : ∀ x, x < ns → (RS A L n x).1 = 0 → Fw (bas A L n s1 x) (A.1 1 (snm A L n x)) := fun x hx _ => by rw [b1 x hx]; exact fit x hx
  obtain ⟨s', m1, m2, m3, m4, m5⟩ := settle_M (N := N) hN hJ hB hWF hL hO' M1 (by rw [g2.1 85 (by decide)]; exact h85) fb
  have bs : bas A L n s' = bas A L n s1 := by
    funext y
    unfold bas
    rw [m2.2 83 (by decide), m2.2 82 (by decide)]
  have E : Eb [85, 86] [80, 81, 82, 83, 84] s s' := ((Eb.rfl.upI (by decide)).trans (g2.mono (by decide) (by decide))).trans (m2.mono (by decide) (by decide))
  refine ⟨c', s', f1, ?_, f2, E, (h.keepC (SwE.of f2 (by decide) (by decide))).keepM E (by decide) (by decide), m3, ?_, ?_, ?_, ?_, m5, ?_, Or.inl f4⟩
  · unfold fn_M_begin0
    rw [show hd_M_begin0_7 N N 0 (upI s 86 (fun _ => 0)) = _ from g1, m1]
    rfl
  · rw [f3, m2.1 86 (by decide), g2.1 86 (by decide)]
    rfl
  · rw [m2.2 82 (by decide)]
    exact fun y hy => by rw [(g3 y (Nat.zero_le _) hy).1]; exact fit y hy
  · rw [bs]; exact fb
  · rw [bs]; exact m4
  · intro y hy z
    rw [bs, b1 y hy, f5 y (Nat.zero_le _) hy]
end RST2
