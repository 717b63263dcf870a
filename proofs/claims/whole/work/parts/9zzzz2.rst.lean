/-! Running: both sides' states, call by call. -/
/-- a circuit stands on both sides -/
def Stn (tk pl : Nat → Nat) (nt t : Nat) (lit : Nat → Int64) (lc : Nat) (A : ds) (sz : Nat) (L : Nat → ly) (n ns la nc cl nl : Nat) (od or : List Nat) (c s : ms) : Prop := JB A ∧ Bn A ∧ WF tk nt A t ∧ Ly A L n ns ∧ Od A L n ns od ∧ Od A L n ns or ∧ CSt pl lit lc A sz L n ns od c ∧ MMs A L n ns la nc cl nl or s
/-- their values -/
def Rst (A : ds) (L : Nat → ly) (n ns : Nat) (c s : ms) : Prop := s.1 85 0 = nI 0 ∧ s.1 86 0 = c.1 289 0 ∧ Vt A L n ns (s.2 82) ∧ (∀ x, x < ns → (RS A L n x).1 = 0 → Fw (bas A L n s x) (A.1 1 (snm A L n x))) ∧ Sol A L n ns (s.2 80) (bas A L n s) ∧ Vt A L n ns (s.2 80) ∧ (∀ x, x < ns → (RS A L n x).1 = 0 → c.2 286 x = bas A L n s x) ∧ (c.1 290 0 = 0 ∨ (c.1 290 0 = 1 ∧ ∀ x, x < ns → c.2 286 x = s.2 80 x))
section RST
variable {tk pl : Nat → Nat} {nt t : Nat} {lit : Nat → Int64} {A : ds} {L : Nat → ly} {n ns N lc sz la nc cl nl : Nat} {od or : List Nat} {c c' s s' : ms}
theorem Stn.keepC (h : Stn tk pl nt t lit lc A sz L n ns la nc cl nl od or c s) (e : SwE c c') : Stn tk pl nt t lit lc A sz L n ns la nc cl nl od or c' s := ⟨h.1, h.2.1, h.2.2.1, h.2.2.2.1, h.2.2.2.2.1, h.2.2.2.2.2.1, h.2.2.2.2.2.2.1.keep e, h.2.2.2.2.2.2.2⟩
theorem Stn.keepM {ks js : List Nat} (h : Stn tk pl nt t lit lc A sz L n ns la nc cl nl od or c s) (e : Eb ks js s s') (hk : ∀ k, k ∈ [12, 13, 14, 15, 16, 17, 18, 19, 20, 21, 23, 24, 25, 27, 28, 29, 30, 31, 32, 33, 34, 35, 36, 37, 38, 39, 40, 41, 56, 57, 58, 59, 60, 63, 64, 65, 66, 67, 68, 69, 70, 71, 91, 92] → k ∉ ks) (hj : ∀ k, k ∈ [22, 43, 45, 46, 47, 48] → k ∉ js) : Stn tk pl nt t lit lc A sz L n ns la nc cl nl od or c s' := ⟨h.1, h.2.1, h.2.2.1, h.2.2.2.1, h.2.2.2.2.1, h.2.2.2.2.2.1, h.2.2.2.2.2.2.1, h.2.2.2.2.2.2.2.keep e hk hj⟩
/-- the class settles: the reference's values -/
theorem settled (hN : 70000 < N) (h : Stn tk pl nt t lit lc A sz L n ns la nc cl nl od or c s) (hR : Rst A L n ns c s) : ∃ c', fn_Machine_settle_Ma_Cc N c = some ((), c') ∧ Eb [290] [286, 287, 288] c c' ∧ Stn tk pl nt t lit lc A sz L n ns la nc cl nl od or c' s ∧ Rst A L n ns c' s ∧ c'.1 290 0 = 1 ∧ ∀ x, x < ns → c'.2 286 x = s.2 80 x := by
  obtain ⟨hJ, hB, hWF, hL, hO, hO', hC, hM⟩ := id h
  obtain ⟨r1, r2, r3, r4, r5, r6, r7, r8⟩ := id hR
  rcases r8 with r8 | ⟨r8, r9⟩
  · obtain ⟨c', e1, e2, e3, e4⟩ := settle_C (N := N) (by omega) hJ hWF hL hO (hC.ccs hJ hL) r8
    have eq : ∀ x, x < ns → c'.2 286 x = s.2 80 x := Sol.uniq hJ hWF hL e4 r5 r7 hO.2.1 hO.2.2
    refine ⟨c', e1, e2, h.keepC (SwE.of e2 (by decide) (by decide)), ⟨r1, by rw [e2.1 289 (by decide)]; exact r2, r3, r4, r5, r6, fun x hx z => ?_, Or.inr ⟨e3, eq⟩⟩, e3, eq⟩
    rw [eq x hx]
    exact (r5 x hx).1 z
  · refine ⟨c, ?_, Eb.rfl, h, hR, r8, r9⟩
    unfold fn_Machine_settle_Ma_Cc
    rw [r8, if_neg (by decide)]
/-- value -/
theorem value_R (hN : 70000 < N) (h : Stn tk pl nt t lit lc A sz L n ns la nc cl nl od or c s) (hR : Rst A L n ns c s) {x : Nat} (hx : x < ns) : ∃ c', fn_Machine_valueOf_Ma_Cc N (nI x) c = some (s.2 80 x, c') ∧ Eb [290] [286, 287, 288] c c' ∧ Stn tk pl nt t lit lc A sz L n ns la nc cl nl od or c' s ∧ Rst A L n ns c' s := by
  obtain ⟨c', e1, e2, e3, e4, e5, e6⟩ := settled hN h hR
  have hns : ns ≤ 1024 := h.2.2.2.2.2.2.2.2.1.2.1
  refine ⟨c', ?_, e2, e3, e4⟩
  unfold fn_Machine_valueOf_Ma_Cc
  rw [e1, obind]
  dsimp only
  rw [if_neg (nI_pos (by omega)), if_neg (show ¬ (1024 : Int32) ≤ nI x from nI_ge (b := 1024) (by omega) (by omega)), if_neg (nI_in (show x < 1024 by omega) (by decide)), nI_clamp (by omega), e6 x hx]
/-- failing -/
theorem failing_R (hN : 70000 < N) (h : Stn tk pl nt t lit lc A sz L n ns la nc cl nl od or c s) (hR : Rst A L n ns c s) : ∃ c' s' r, fn_Machine_unheld_Ma_Cc N c = some (r, c') ∧ fn_M_failingNow N s = some (r, s') ∧ Eb [290] [286, 287, 288] c c' ∧ Eb [85] [81, 84] s s' ∧ Stn tk pl nt t lit lc A sz L n ns la nc cl nl od or c' s' ∧ Rst A L n ns c' s' := by
  obtain ⟨c1, e1, e2, e3, e4, e5, e6⟩ := settled hN h hR
  obtain ⟨hJ, hB, hWF, hL, hO, hO', hC, hM⟩ := id e3
  obtain ⟨r1, r2, r3, r4, r5, r6, r7, r8⟩ := id e4
  have hn : n ≤ 257 := hM.2.1.2.2.2
  obtain ⟨c2, f1, f2⟩ := pcI1_L (N := N) (V := s.2 80) (by omega) hJ hB hL n 0 N 0 c1 (by omega) (by omega) hC e6
  obtain ⟨s2, g1, g2, g3⟩ := fl4_L (N := N) (V := s.2 80) hN hJ hB hL r6 n 0 N 0 s (by omega) (by omega) hM r1 (fun _ _ => rfl)
  refine ⟨c2, s2, nI (0 + fcI A L (s.2 80) n 0), ?_, g1, e2.trans (f2.mono (by decide) (by decide)), g2, (e3.keepC (SwE.of f2 (by decide) (by decide))).keepM g2 (by decide) (by decide), ?_⟩
  · unfold fn_Machine_unheld_Ma_Cc fn_Machine_runPieces_Ma_Cc
    rw [e1, obind]
    dsimp only
    rw [show hd_Machine_runPieces_Ma_Cc_11 N N 1 0 0 c1 = _ from f1, obind]
  · have eb : bas A L n s2 = bas A L n s := by funext x; unfold bas; rw [g2.2 82 (by decide), g2.2 83 (by decide)]
    unfold Rst
    rw [g3, g2.1 86 (by decide), g2.2 82 (by decide), g2.2 80 (by decide), eb, f2.1 289 (by decide), f2.1 290 (by decide), f2.2 286 (by decide)]
    exact ⟨rfl, r2, r3, r4, r5, r6, r7, r8⟩
theorem cpy_at {a b : Nat → Int64} {k x : Nat} : va_cpy a b 0 0 k x = if x < k then a x else b x := by
  unfold va_cpy
  by_cases z : x < k
  · simp [z]
  · simp [z]
theorem st35_L : ∀ (k x F : Nat) (s : ms), x + k = ns → k < F → s.1 63 0 = nI ns → ns ≤ 1024 → ∃ s', hd_M_step_35 N F (nI x) s = (fn_M_settle_82_83 N s').bind (fun q_1 => some (((q_1.2.1 86 0) + 1), upI q_1.2 86 (fun _ => ((q_1.2.1 86 0) + 1)))) ∧ Eb [] [82] s s' ∧ (∀ y, x ≤ y → y < ns → s'.2 82 y = s.2 81 y) ∧ (∀ y, y < x → s'.2 82 y = s.2 82 y) := by
  intro k
  induction k with
  | zero =>
    intro x F s hx hF h63 hns
    obtain ⟨F, rfl⟩ : ∃ F', F = F' + 1 := ⟨F - 1, by omega⟩
    refine ⟨s, ?_, Eb.rfl, fun y h1 h2 => by omega, fun _ _ => rfl⟩
    show bd_M_step_35 N (hd_M_step_35 N F) (nI x) s = _
    unfold bd_M_step_35
    rw [h63, if_pos (nI_le (by omega) (by omega))]
  | succ k ih =>
    intro x F s hx hF h63 hns
    obtain ⟨F, rfl⟩ : ∃ F', F = F' + 1 := ⟨F - 1, by omega⟩
    obtain ⟨s', f1, f2, f3, f4⟩ := ih (x + 1) F (upJ s 82 (vp_updL (s.2 82) x (s.2 81 x))) (by omega) (by omega) h63 hns
    refine ⟨s', ?_, (Eb.rfl.upJ (by decide)).trans f2, fun y h1 h2 => ?_, fun y hy => ?_⟩
    · show bd_M_step_35 N (hd_M_step_35 N F) (nI x) s = _
      unfold bd_M_step_35
      rw [h63, if_neg (nI_ge (show x < ns by omega) (by omega)), if_neg (nI_in (show x < 1100 by omega) (by decide)), if_neg (nI_in (show x < 1100 by omega) (by decide)), nI_clamp (show x < 2 ^ 31 by omega), nI_1]
      exact f1
    · by_cases z : y = x
      · subst z
        rw [f4 y (by omega)]
        exact updL_at _ _ _
      · exact f3 y (by omega) h2
    · rw [f4 y (by omega)]
      exact updL_ne (by omega)
end RST
