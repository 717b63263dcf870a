/-! The reference: every step, and runs. -/
section MRN
variable {N F cl nl nc fd fr j e p p' : Nat} {code : Nat → Int32} {nums v n n' : Nat → Int64} {P : pw} {st st' : List Int64} {s : ms}
theorem step_M (hN : 100 < N) (hc : Mst s cl nl nc j fd fr code nums) (hp : p < e) (he : 3 * e ≤ cl) (hs : st.length ≤ 1000) (hR : MRn s fd fr P v n st) (h : rS code nums nc P v (p, st, n) (p', st', n')) : ∃ s', hd_M_run_3 N (F + 1) (nI (3 * e)) (nI j) (nI (3 * p)) s = hd_M_run_3 N F (nI (3 * e)) (nI j) (nI (3 * p')) s' ∧ MRn s' fd fr P v n' st' ∧ Eb [85] [81, 84] s s' ∧ ∀ x, (∀ d, (P d).1 → x ≠ fr + (d - fd)) → s'.2 81 x = s.2 81 x := by
  obtain ⟨h1, h2, h⟩ := h
  have h1 : p < p' := h1
  have h2 : st'.length ≤ 960 := h2
  have wk : ∀ {s s' : ms}, Eb [85] [84] s s' → Eb [85] [81, 84] s s' := fun q => q.mono (by decide) (by decide)
  obtain ⟨g1, g2, g3, g4, g5, g6, g7, g8, g9, m, m1, m2, m3, m4⟩ := id hc
  rcases h with ⟨o, a1, a2, a3, a4, a5, a6, a7, a8, a9⟩ | ⟨d, h, l, x, a0, a1, a1', a2, a3, a6, a7, a8, a9⟩ | ⟨x, a0, a1, a2, a3⟩ | ⟨a0, a1, a2⟩ | ⟨x, k, u, st0, a0, a1, a1', a1'', a2, a3, a4⟩ | ⟨x, a1, a2, a3, a4⟩
  · have a8 : p' = p + 1 := a8
    have a9 : n' = n := a9
    subst a8
    subst a9
    obtain ⟨s', b1, b2, b3⟩ := op_M (F := F) hN hc hp he hs hR a1 a2 a3 a4 a5 a6 a7
    exact ⟨s', b1, b2, wk b3, fun x _ => by rw [b3.2 81 (by decide)]⟩
  · have a7 : st = x :: st' := a7
    have a8 : n' = vp_updL n d (aSt h l (n d) x) := a8
    have a9 : p' = p + 1 := a9
    subst a7
    subst a8
    subst a9
    obtain ⟨d1, d2, d3, d4, d5⟩ := hR.2.2 _ a6
    rw [mhead_M (N := N) (F := F) (X := 9) hc hp he a0 a1 a1']
    simp (decide := true) only [reduceIte]
    rw [nI_rem256 (by omega), nI_div256 (by omega), show (256 * h + l) % 256 = l by omega, show (256 * h + l) / 256 = h by omega, sig_M hc d1, obind]
    dsimp only
    obtain ⟨s1, b1, b2, b3⟩ := pop_M (N := N) hR (by omega)
    rw [nI_sub a2, nI_1, mask_M (by omega), obind]
    dsimp only
    rw [if_neg (nI_in (show fr + (d - fd) < 1100 by omega) (by decide)), b1, obind]
    dsimp only
    rw [if_neg (nI_in (show fr + (d - fd) < 1100 by omega) (by decide)), nI_clamp (show fr + (d - fd) < 2 ^ 31 by omega)]
    refine ⟨_, rfl, ⟨b2.1, b2.2.1, fun d' hd' => ?_⟩, (wk b3).upJ (by decide), fun y hy => ?_⟩
    · obtain ⟨q1, q2, q3, q4, q5⟩ := b2.2.2 _ hd'
      refine ⟨q1, q2, q3, q4, ?_⟩
      show vp_updL n d _ d' = vp_updL (s1.2 81) (fr + (d - fd)) _ (fr + (d' - fd))
      by_cases z : d' = d
      · subst z
        rw [updL_at, updL_at, d5]
        rfl
      · rw [updL_ne z, updL_ne (by omega)]; exact q5
    · show vp_updL (s1.2 81) (fr + (d - fd)) _ y = _
      rw [updL_ne (hy _ a6), b3.2 81 (by decide)]
  · have a1 : st = x :: st' := a1
    have a2 : n' = n := a2
    subst a1
    subst a2
    obtain ⟨s1, b1, b2, b3⟩ := pop_M (N := N) hR (by omega)
    refine ⟨s1, ?_, b2, wk b3, fun x _ => by rw [b3.2 81 (by decide)]⟩
    rcases a3 with ⟨c1, c2⟩ | ⟨c1, c2⟩
    · rw [mhead_M (N := N) (F := F) (X := 10) hc hp he a0 c2 rfl]
      simp (decide := true) only [reduceIte]
      rw [b1, obind]
      dsimp only
      rw [if_pos (lgE.mpr c1)]
      rfl
    · have c2 : p' = p + 1 := c2
      subst c2
      rw [mhead_M (N := N) (F := F) (X := 10) hc hp he a0 rfl rfl]
      simp (decide := true) only [reduceIte]
      rw [b1, obind]
      dsimp only
      rw [if_neg (fun q => c1 (lgE.mp q))]
      rfl
  · have a2 : (st', n') = (st, n) := a2
    cases a2
    rw [mhead_M (N := N) (F := F) (X := 11) hc hp he a0 a1 rfl]
    simp (decide := true) only [reduceIte]
    exact ⟨s, rfl, hR, Eb.rfl, fun _ _ => rfl⟩
  · have a2 : st = x :: st0 := a2
    have a3 : (st', n') = (st, n) := a3
    cases a3
    subst a2
    refine ⟨s, ?_, hR, Eb.rfl, fun _ _ => rfl⟩
    have hs' : st0.length + 1 ≤ 1000 := hs
    have h85 : s.1 85 0 - 1 = nI st0.length := by rw [hR.1]; exact s1_nI
    rcases a4 with ⟨c1, c2⟩ | ⟨c1, c2⟩
    · rw [mhead_M (N := N) (F := F) (X := 12) hc hp he a0 c2 a1]
      simp (decide := true) only [reduceIte]
      rw [h85, if_neg (nI_in (show st0.length < 4096 by omega) (by decide)), g3, nI_clamp (show nl < 2 ^ 31 by omega), if_neg (nI_in (show k < nl by omega) g5), nI_clamp (show k < 2 ^ 31 by omega), nI_clamp (show st0.length < 2 ^ 31 by omega), hR.2.1.1, g7, a1'', if_pos (lgE.mpr c1)]
      rfl
    · have c2 : p' = p + 1 := c2
      subst c2
      rw [mhead_M (N := N) (F := F) (X := 12) hc hp he a0 rfl a1]
      simp (decide := true) only [reduceIte]
      rw [h85, if_neg (nI_in (show st0.length < 4096 by omega) (by decide)), g3, nI_clamp (show nl < 2 ^ 31 by omega), if_neg (nI_in (show k < nl by omega) g5), nI_clamp (show k < 2 ^ 31 by omega), nI_clamp (show st0.length < 2 ^ 31 by omega), hR.2.1.1, g7, a1'', if_neg (fun q => c1 (lgE.mp q))]
      rfl
  · have a2 : st = x :: st' := a2
    have a3 : n' = n := a3
    have a4 : p' = p + 1 := a4
    subst a4
    subst a3
    subst a2
    rw [mhead_M (N := N) (F := F) (X := 13) hc hp he a1 rfl rfl]
    simp (decide := true) only [reduceIte]
    have h85 : s.1 85 0 - 1 = nI st'.length := by rw [hR.1]; exact s1_nI
    rw [h85]
    exact ⟨_, rfl, ⟨rfl, hR.2.1.2, hR.2.2⟩, Eb.rfl.upI (by decide), fun _ _ => rfl⟩
theorem runs_M (hN : 100 < N) (he : 3 * e ≤ cl) : ∀ (k : Nat) {p : Nat} {st : List Int64} {n : Nat → Int64} {s : ms} {F : Nat}, Mst s cl nl nc j fd fr code nums → st.length ≤ 1000 → MRn s fd fr P v n st → Rn (rS code nums nc P v) k (p, st, n) (p', st', n') → p' ≤ e → ∃ s', hd_M_run_3 N (F + k) (nI (3 * e)) (nI j) (nI (3 * p)) s = hd_M_run_3 N F (nI (3 * e)) (nI j) (nI (3 * p')) s' ∧ MRn s' fd fr P v n' st' ∧ Eb [85] [81, 84] s s' ∧ ∀ x, (∀ d, (P d).1 → x ≠ fr + (d - fd)) → s'.2 81 x = s.2 81 x
  | 0, p, st, n, s, F, hc, hs, hR, h, hp => by
    cases h
    exact ⟨s, rfl, hR, Eb.rfl, fun _ _ => rfl⟩
  | k + 1, p, st, n, s, F, hc, hs, hR, h, hp => by
    obtain ⟨⟨p1, st1, n1⟩, h1, h2⟩ := h
    have l1 := Rn.le rS.fw h2
    have l1 : p1 + k ≤ p' := l1
    have l2 : p < p1 := h1.1
    have l3 : st1.length ≤ 960 := h1.2.1
    obtain ⟨c1, a1, a2, a3, a4⟩ := step_M (N := N) (F := F + k) hN hc (show p < e by omega) he hs hR h1
    obtain ⟨c2, b1, b2, b3, b4⟩ := runs_M hN he k (F := F) (hc.keep a3 (by decide)) (by omega) a2 h2 hp
    exact ⟨c2, by rw [show F + (k + 1) = F + k + 1 by omega, a1, b1], b2, a3.trans b3, fun x hx => (b4 x hx).trans (a4 x hx)⟩
/-- a piece of code run by itself -/
theorem run_M {a b : Nat} (hN : 70000 < N) (hc : Mst s cl nl nc j fd fr code nums) (hab : a ≤ b) (hb : 3 * b ≤ cl) (hR : MRn s fd fr P v n []) (h : Rt (rS code nums nc P v) (a, [], n) (b, st', n')) : ∃ s', fn_M_run N (nI (3 * a)) (nI (3 * b)) (nI j) s = some ((), s') ∧ MRn s' fd fr P v n' st' ∧ Eb [85] [81, 84] s s' ∧ ∀ x, (∀ d, (P d).1 → x ≠ fr + (d - fd)) → s'.2 81 x = s.2 81 x := by
  obtain ⟨k, h⟩ := h
  have g2 := hc.2.1
  have l1 : a + k ≤ b := Rn.le rS.fw h
  obtain ⟨s', e1, e2, e3, e4⟩ := runs_M (N := N) (e := b) (F := N - k) (by omega) hb k hc (by simp) hR h (Nat.le_refl _)
  refine ⟨s', ?_, e2, e3, e4⟩
  unfold fn_M_run
  rw [show N - k + k = N by omega] at e1
  rw [e1]
  obtain ⟨m, hm⟩ : ∃ m, N - k = m + 1 := ⟨N - k - 1, by omega⟩
  rw [hm]
  show bd_M_run_3 N (hd_M_run_3 N m) (nI (3 * b)) (nI j) (nI (3 * b)) s' = _
  unfold bd_M_run_3
  rw [if_pos (nI_le (Nat.le_refl _) (by omega))]
end MRN
