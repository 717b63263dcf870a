/-! The reference: a circuit is written out. -/
section MWO2
variable {tk : Nat → Nat} {nt t : Nat} {A : ds} {s s' s0 : ms} {N m la nc : Nat} {L : Nat → ly} {n ns : Nat}
abbrev WR (s s' : ms) : Prop := Eb [56, 57, 58, 59, 60, 61, 62, 63, 64, 65, 66, 67, 68, 69] [] s s'
theorem MTb.keep {ks js : List Nat} (h : MTb A la nc s) (e : Eb ks js s s') (hk : ∀ k, k ∈ [12, 13, 14, 15, 16, 17, 18, 19, 20, 21, 23, 24, 25, 27, 28, 29, 30, 31, 32, 33, 34, 35, 36, 37, 38, 39, 40, 41] → k ∉ ks) (hj : ∀ k, k ∈ [22, 43, 45, 46, 47, 48] → k ∉ js) : MTb A la nc s' := by
  obtain ⟨h1, h2, h3⟩ := h
  refine ⟨h1.keep e ⟨hk _ (by decide), hk _ (by decide), hk _ (by decide), hk _ (by decide), hk _ (by decide), hk _ (by decide), hk _ (by decide), hk _ (by decide), hk _ (by decide), hk _ (by decide), hk _ (by decide), hk _ (by decide), hk _ (by decide), hk _ (by decide), hk _ (by decide)⟩ ⟨hj _ (by decide), hj _ (by decide), hj _ (by decide), hj _ (by decide)⟩ (fun k _ => by rw [e.2 45 (hj _ (by decide))]), h2.keep e ⟨hk _ (by decide), hk _ (by decide), hk _ (by decide), hk _ (by decide), hk _ (by decide), hk _ (by decide), hk _ (by decide), hk _ (by decide)⟩ (fun k _ => by rw [e.1 41 (hk _ (by decide))]) (fun k _ => by rw [e.2 43 (hj _ (by decide))]) (Nat.le_refl _) (Nat.le_refl _), fun m hm => ?_⟩
  rw [e.1 14 (hk _ (by decide)), e.1 15 (hk _ (by decide)), e.1 16 (hk _ (by decide)), e.1 17 (hk _ (by decide))]
  exact h3 m hm
theorem Wi.keep {x : Nat} (h : Wi A L x s) (e : Eb [66, 67, 68, 69] [] s s') : Wi A L x s' := by
  unfold Wi at *
  rw [e.1 57 (by decide), e.1 58 (by decide), e.1 59 (by decide), e.1 60 (by decide), e.1 64 (by decide), e.1 65 (by decide)]
  exact h
/-- every signal is some instance's -/
theorem Ly.sig (h : Ly A L n ns) : ∀ {x : Nat}, x < ns → ∃ i q, i < n ∧ q < own A (L i).1 ∧ x = (L i).2.1 + q := by
  have go : ∀ k, k < n → ∀ x, x < (L k).2.1 → ∃ i q, i < n ∧ q < own A (L i).1 ∧ x = (L i).2.1 + q := by
    intro k
    induction k with
    | zero => intro _ x hx; rw [h.2.2.1] at hx; omega
    | succ k ih =>
      intro hk x hx
      have := (h.2.2.2 k (by omega)).2.2.2.2.2.1 hk
      by_cases z : x < (L k).2.1
      · exact ih (by omega) x z
      · exact ⟨k, x - (L k).2.1, by omega, by omega, by omega⟩
  intro x hx
  have n0 := h.1
  have := (h.2.2.2 (n - 1) (by omega)).2.2.2.2.2.2 (by omega)
  by_cases z : x < (L (n - 1)).2.1
  · exact go (n - 1) (by omega) x z
  · exact ⟨n - 1, x - (L (n - 1)).2.1, by omega, by omega, by omega⟩
theorem Ly.uniq (h : Ly A L n ns) {i i' q q' : Nat} (hi : i < n) (hi' : i' < n) (hq : q < own A (L i).1) (hq' : q' < own A (L i').1) (e : (L i).2.1 + q = (L i').2.1 + q') : i = i' ∧ q = q' := by
  by_cases z : i < i'
  · have := h.base z hi'; omega
  · by_cases y : i' < i
    · have := h.base y hi; omega
    · have : i = i' := by omega
      subst this
      exact ⟨rfl, by omega⟩
theorem Mr1.keep {x : Nat} {R : rul} (h : Mr1 la nc s x R) (e : Eb [66, 67, 68, 69] [] s s') (hx : s'.1 66 x = s.1 66 x ∧ s'.1 67 x = s.1 67 x ∧ s'.1 68 x = s.1 68 x ∧ s'.1 69 x = s.1 69 x) : Mr1 la nc s' x R := by
  obtain ⟨h1, h2, h3⟩ := h
  refine ⟨by rw [hx.1]; exact h1, fun z => ⟨(h2 z).1.keep hx.2.1 hx.2.2.1 (fun k _ => by rw [e.1 41 (by decide)]) (fun k _ => by rw [e.2 43 (by decide)]) (Nat.le_refl _) (Nat.le_refl _), by rw [hx.2.2.2]; exact (h2 z).2⟩, fun z => by rw [hx.2.1]; exact h3 z⟩
theorem Ly.lt (hL : Ly A L n ns) (hJ : JB A) {i q : Nat} (hi : i < n) (hq : q < own A (L i).1) : (L i).2.1 + q < ns := by
  have l := hL.2.2.2 i hi
  have := (hJ.sums l.1).2
  omega
theorem rules_L (hN : 13002 < N) (hJ : JB A) (hB : Bn A) (hWF : WF tk nt A t) (ht : t ≤ nt + 1) (hnt : nt ≤ 12001) (hL : Ly A L n ns) (hn : n ≤ 257) (hns : ns ≤ 1024) : ∀ (k x F : Nat) (s : ms), x + k = ns → k < F → s.1 63 0 = nI ns → MTb A la nc s → Wi A L n s → (∀ i q, i < n → q < own A (L i).1 → (L i).2.1 + q < x → Mr1 la nc s ((L i).2.1 + q) (Ru A L i q)) → ∃ s', hd_M_writeOut_155 N F (nI x) s = some ((), s') ∧ Eb [66, 67, 68, 69] [] s s' ∧ (∀ i q, i < n → q < own A (L i).1 → Mr1 la nc s' ((L i).2.1 + q) (Ru A L i q)) := by
  intro k
  induction k with
  | zero =>
    intro x F s hx hF h63 hT hW hR
    obtain ⟨F, rfl⟩ : ∃ F', F = F' + 1 := ⟨F - 1, by omega⟩
    show ∃ s', bd_M_writeOut_155 N (hd_M_writeOut_155 N F) (nI x) s = _ ∧ _
    unfold bd_M_writeOut_155
    rw [h63, if_pos (nI_le (by omega) (by omega))]
    exact ⟨s, rfl, Eb.rfl, fun i q hi hq => hR i q hi hq (by have := hL.lt hJ hi hq; omega)⟩
  | succ k ih =>
    intro x F s hx hF h63 hT hW hR
    obtain ⟨F, rfl⟩ : ∃ F', F = F' + 1 := ⟨F - 1, by omega⟩
    show ∃ s', bd_M_writeOut_155 N (hd_M_writeOut_155 N F) (nI x) s = _ ∧ _
    unfold bd_M_writeOut_155
    obtain ⟨i, q, hi, hq, rfl⟩ := hL.sig (x := x) (by omega)
    obtain ⟨s1, y1, y2, y3, y4⟩ := findRule_M (N := N) hN hJ hB hWF ht hnt hL hn hns hi hq hT hW
    rw [h63, if_neg (nI_ge (by omega) (by omega)), y1, obind]
    dsimp only
    rw [nI_1]
    obtain ⟨s', z1, z2, z3⟩ := ih ((L i).2.1 + q + 1) F s1 (by omega) (by omega) (by rw [y2.1 63 (by decide)]; exact h63) (hT.keep y2 (by decide) (by decide)) (hW.keep y2) (fun i' q' hi' hq' hx' => by
      by_cases z : (L i').2.1 + q' = (L i).2.1 + q
      · obtain ⟨u1, u2⟩ := hL.uniq hi' hi hq' hq z
        subst u1
        subst u2
        exact y4
      · exact (hR i' q' hi' hq' (by omega)).keep y2 (y3 _ z))
    exact ⟨s', z1, y2.trans z2, z3⟩
/-- a circuit is written out -/
theorem writeOut_M (hN : 13002 < N) (hJ : JB A) (hB : Bn A) (hWF : WF tk nt A t) (ht : t ≤ nt + 1) (hnt : nt ≤ 12001) (hL : Ly A L n ns) (hn : n ≤ 257) (hns : ns ≤ 1024) (hT : MTb A la nc s) : ∃ s', fn_M_writeOut N s = some ((), s') ∧ WR s s' ∧ s'.1 56 0 = nI n ∧ s'.1 63 0 = nI ns ∧ Wi A L n s' ∧ MTb A la nc s' ∧ (∀ i q, i < n → q < own A (L i).1 → Mr1 la nc s' ((L i).2.1 + q) (Ru A L i q)) := by
  obtain ⟨b0, b1, b2, b3, -⟩ := id hB
  obtain ⟨l0, l1, l2, l3⟩ := id hL
  have lz := l3 0 l0
  obtain ⟨M, hM⟩ : ∃ M, A.1 46 0 = M + 1 := ⟨A.1 46 0 - 1, by omega⟩
  have lM : (L 0).1 = M := by omega
  have sm := hJ.sums (m := M) (by omega)
  have T12 : s.1 12 0 = nI (M + 1) := by rw [hT.1.1.1, hM]
  have T5 := hT.2.2
  have T28 : ∀ i, i < A.1 41 0 → s.1 28 i = nI (A.1 10 i) := fun i hi => (hT.1.2.2.1 i hi).1
  have e0 : Eb [56, 63] [] s (upI (upI s 56 (fun _ => 0)) 63 (fun _ => 0)) := (Eb.rfl.upI (by decide)).upI (by decide)
  have nsl : own A M ≤ ns := by
    rw [lM, l2] at lz
    omega
  have n30 : A.1 30 M + 1 = n := by rw [l1.2.1, lM]
  obtain ⟨s1, y1, y2, y3, y4, y5, y6, y7, y8, y9, y10⟩ := begin_M (N := N) (A := A) (m := M) (x := 0) (y := 0) (v2 := -1) (v3 := -1) (s := upI (upI s 56 (fun _ => 0)) 63 (fun _ => 0)) hJ hB hN (by omega) (by omega) (by omega) ⟨(T5 _ (by omega)).1, (T5 _ (by omega)).1⟩ rfl rfl
  have E1 : WE s s1 := (e0.mono (by decide) (by decide)).trans (y2.mono (by decide) (by decide))
  have q12 : s1.1 12 0 - 1 = nI M := by rw [E1.1 12 (by decide), T12, s1_nI]
  have q15 : s1.1 15 M = nI (A.1 22 M) := by rw [E1.1 15 (by decide)]; exact (T5 M (by omega)).2.1
  unfold fn_M_writeOut
  rw [T12, s1_nI, y1, obind]
  dsimp only
  rw [q12, if_neg (nI_in (show M < 3601 by omega) (by decide)), nI_clamp (by omega), q15]
  generalize hS2 : upI (upI s1 61 (upd (s1.1 61) 0 0)) 62 (upd (s1.1 62) 0 (nI (A.1 22 M))) = s2
  have e12 : Eb [61, 62] [] s1 s2 := by rw [← hS2]; exact (Eb.rfl.upI (by decide)).upI (by decide)
  have E2 : WE s s2 := E1.trans (e12.mono (by decide) (by decide))
  have W2 : Wi A L (0 + 1) s2 := by
    intro x hx
    have : x = 0 := by omega
    subst this
    rw [e12.1 57 (by decide), e12.1 58 (by decide), e12.1 59 (by decide), e12.1 60 (by decide), e12.1 64 (by decide), e12.1 65 (by decide), y5, y6, y7, y8, upd_at, upd_at, upd_at, lM, l2]
    exact ⟨rfl, rfl, fun z => by omega, fun _ => rfl, y10⟩
  obtain ⟨s3, e3, z1, z2, z3, z4, z5, z6, z7⟩ := wo_run (s0 := s) hJ hB hN hL hn hns (fun m hm => ⟨(T5 m hm).1, (T5 m hm).2.1⟩) T28 (M + 1) M (by omega) (itn A M) 0 0 0 s2 (by omega) l0 lM (Nat.le_refl _) E2 (by rw [e12.1 56 (by decide), y3]; rfl) (by rw [e12.1 63 (by decide), y4, l2]; rfl) (by rw [← hS2]; show upd (s1.1 61) 0 0 0 = nI 0; rw [upd_at]; rfl) (by rw [← hS2]; show upd (s1.1 62) 0 (nI (A.1 22 M)) 0 = nI (A.1 22 M + 0); rw [upd_at]; rfl) W2
  have o0 : ofI A M 0 = 0 := rfl
  have fu : hd_M_writeOut_50 N N 1 s2 = hd_M_writeOut_155 N N (nI 0) s3 := by
    have a := z2 (N - e3)
    rw [show N - e3 + e3 = N by omega] at a
    rw [show hd_M_writeOut_50 N N 1 s2 = hd_M_writeOut_50 N N (nI (0 + 1)) s2 from rfl, a]
    obtain ⟨F, hF⟩ : ∃ F, N - e3 = F + 1 := ⟨N - e3 - 1, by omega⟩
    rw [hF]
    show bd_M_writeOut_50 N (hd_M_writeOut_50 N F) (nI 0) s3 = _
    unfold bd_M_writeOut_50
    rw [if_pos (show nI 0 ≤ 0 by decide)]
    rfl
  rw [fu]
  rw [show 0 + 1 + A.1 30 M = n by omega] at z4 z6
  have n29 : A.1 29 M = ns := by rw [l1.2.2, lM]
  rw [l2, Nat.zero_add, n29] at z5
  obtain ⟨s4, w1, w2, w3⟩ := rules_L (N := N) (la := la) (nc := nc) hN hJ hB hWF ht hnt hL hn hns ns 0 N s3 (by omega) (by omega) z5 (hT.keep z3 (by decide) (by decide)) z6 (fun i q _ _ h => by omega)
  exact ⟨s4, w1, (z3.mono (by decide) (by decide)).trans (w2.mono (by decide) (by decide)), by rw [w2.1 56 (by decide)]; exact z4, by rw [w2.1 63 (by decide)]; exact z5, z6.keep w2, (hT.keep z3 (by decide) (by decide)).keep w2 (by decide) (by decide), w3⟩
end MWO2
