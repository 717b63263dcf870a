/-! Calls: tapes, faults, running. -/
section CALLS
variable {N0 i : Nat} {c c' s s' : ms}
/-- tapes change, what stands doesn't -/
theorem Rl.tape (h : Rl N0 i c s) (ec : Eb [200, 307] [] c c') (es : Eb [0, 1, 74, 88] [] s s') (tp : Tpe (20 * (i + 1)) c' s') : Rl N0 (i + 1) c' s' := by
  obtain ⟨-, h2, ⟨h3, h4, h5⟩, h6⟩ := h
  refine ⟨tp, by rw [ec.1 201 (by decide), es.1 3 (by decide)]; exact h2, ⟨by rw [es.1 4 (by decide)]; exact h3, h4.keep es (by decide) (by decide), by rw [es.1 85 (by decide)]; exact h5⟩, ?_⟩
  rw [ec.1 208 (by decide), es.1 54 (by decide)]
  rcases h6 with h6 | ⟨x1, x2, n0, ch0, wd0, t0, A, lit, lc, sz, la, nc, cl, nl, od, or, w1, w4, w5, ⟨k1, k2, k3, k4, k5, k6, k7, k8⟩, w7, ⟨w8, w9, w10⟩, w11, w12, w13, w14⟩
  · exact Or.inl h6
  · refine Or.inr ⟨x1, x2, n0, ch0, wd0, t0, A, lit, lc, sz, la, nc, cl, nl, od, or, w1, w4, w5, ⟨k1, k2, k3, k4, k5, k6, k7.keepS (StE.of ec (by decide)), k8.keep es (by decide) (by decide)⟩, w7.keep ⟨ec.1 289 (by decide), ec.1 290 (by decide), ec.2 286 (by decide)⟩ ⟨es.1 85 (by decide), es.1 86 (by decide), es.2 80 (by decide), es.2 82 (by decide), es.2 83 (by decide)⟩, ⟨by rw [ec.1 358 (by decide)]; exact w8, by rw [ec.1 357 (by decide)]; exact w9, by rw [ec.1 360 (by decide)]; exact w10⟩, by rw [es.1 89 (by decide)]; exact w11, by rw [es.1 55 (by decide), es.1 90 (by decide)]; exact w12, w13.keep es (by decide), ?_⟩
    unfold Cnt at *
    rw [es.1 75 (by decide), es.1 76 (by decide), es.1 77 (by decide), es.1 78 (by decide), es.2 79 (by decide)]
    exact w14
theorem Tpe.keep {m m' : Nat} {ks js ks' js' : List Nat} (h : Tpe m c s) (hm : m ≤ m') (ec : Eb ks js c c') (es : Eb ks' js' s s') (hk : 200 ∉ ks ∧ 307 ∉ ks) (hk' : 88 ∉ ks' ∧ 1 ∉ ks') : Tpe m' c' s' := by
  obtain ⟨n, h1, h2, h3, h4⟩ := h
  exact ⟨n, by omega, by rw [ec.1 200 hk.1]; exact h2, by rw [es.1 88 hk'.1]; exact h3, by rw [ec.1 307 hk.2, es.1 1 hk'.2]; exact h4⟩
/-- only what is thrown changes -/
theorem Rl.thr (h : Rl N0 i c s) {g : Nat → Int32} : Rl N0 (i + 1) c (upI s 0 g) :=
  have es : Eb [0] [] s (upI s 0 g) := Eb.rfl.upI (by decide)
  h.tape (Eb.rfl) (es.mono (by decide) (by decide)) (h.1.keep (by omega) (Eb.rfl (ks := []) (js := [])) es (by decide) (by decide))
/-- what stands runs on -/
theorem Rl.run {n : Nat} {ch wd : Nat → Nat} {t : Nat} {A : ds} {lit : Nat → Int64} {lc sz la nc cl nl : Nat} {od or : List Nat} (h : Rl N0 i c s) (x1 : c.1 208 0 = 1) (x2 : s.1 54 0 = 1) (hs : StP N0 n ch wd t A lit lc sz la nc cl nl od or c s) (ec : Eb [289, 290] [286, 287, 288] c c') (es : Eb [0, 85, 86] [80, 81, 82, 83, 84] s s') (st : Stn (TK ch n) (PL ch n) (NT ch n) t lit lc A sz (topL A) (topN A) (topS A) la nc cl nl od or c' s') (rs : Rst A (topL A) (topN A) (topS A) c' s') : Rl N0 (i + 1) c' s' := by
  obtain ⟨h1, h2, ⟨h3, h4, h5⟩, -⟩ := h
  obtain ⟨w1, w4, w5, -, -, ⟨w8, w9, w10⟩, w11, w12, w13, w14⟩ := hs
  refine ⟨h1.keep (by omega) ec es (by decide) (by decide), by rw [ec.1 201 (by decide), es.1 3 (by decide)]; exact h2, ⟨by rw [es.1 4 (by decide)]; exact h3, h4.keep es (by decide) (by decide), rs.1⟩, Or.inr ⟨by rw [ec.1 208 (by decide)]; exact x1, by rw [es.1 54 (by decide)]; exact x2, n, ch, wd, t, A, lit, lc, sz, la, nc, cl, nl, od, or, w1, w4, w5, st, rs, ⟨by rw [ec.1 358 (by decide)]; exact w8, by rw [ec.1 357 (by decide)]; exact w9, by rw [ec.1 360 (by decide)]; exact w10⟩, by rw [es.1 89 (by decide)]; exact w11, by rw [es.1 55 (by decide), es.1 90 (by decide)]; exact w12, w13.keep es (by decide), ?_⟩⟩
  unfold Cnt at *
  rw [es.1 75 (by decide), es.1 76 (by decide), es.1 77 (by decide), es.1 78 (by decide), es.2 79 (by decide)]
  exact w14
/-- what stands, with nothing thrown -/
theorem StP.thr {n : Nat} {ch wd : Nat → Nat} {t : Nat} {A : ds} {lit : Nat → Int64} {lc sz la nc cl nl : Nat} {od or : List Nat} (hs : StP N0 n ch wd t A lit lc sz la nc cl nl od or c s) (g : Nat → Int32) : Stn (TK ch n) (PL ch n) (NT ch n) t lit lc A sz (topL A) (topN A) (topS A) la nc cl nl od or c (upI s 0 g) ∧ Rst A (topL A) (topN A) (topS A) c (upI s 0 g) := by
  have es : Eb [0] [] s (upI s 0 g) := Eb.rfl.upI (by decide)
  exact ⟨hs.2.2.2.1.keepM es (by decide) (by decide), hs.2.2.2.2.1.keep ⟨rfl, rfl, rfl⟩ ⟨rfl, rfl, rfl, rfl, rfl⟩⟩
theorem feed_R (hN : 30 < N0) (hi : i < 512) (h : Rl N0 i c s) (o : Nat → Int64) (v1 v2 v3 v4 v5 : Int32) : ∃ (k : Int32) (c2 : ms) (o2 : Nat → Int64) (b : Int32) (s2 : ms), hp_feed (N0 + 1) v1 v2 v3 v4 v5 c o = some (k, c2, o2) ∧ fn_M_feed (N0 + 1) v1 v2 v3 v4 v5 s = some (b, s2) ∧ s2.1 0 0 = k ∧ (k = 0 → o2 0 = Int32.toInt64 b) ∧ Rl N0 (i + 1) c2 s2 := by
  obtain ⟨n, n1, n2, n3, n4⟩ := h.1
  obtain ⟨c2, a1, a2, a3, a4⟩ := feed_C (N := N0 + 1) (v1 := v1) (v2 := v2) (v3 := v3) (v4 := v4) (v5 := v5) (by omega) n2 (by omega)
  obtain ⟨s2, b1, b2, b3, b4, b5⟩ := feed_M (N := N0 + 1) (v1 := v1) (v2 := v2) (v3 := v3) (v4 := v4) (v5 := v5) (by omega) n3 (by omega)
  refine ⟨0, c2, vp_updL o 0 (Int32.toInt64 (nI (n + 20))), nI (n + 20), s2, ?_, b1, b2, fun _ => updL_at _ _ _, h.tape a4 (b5.mono (by decide) (by decide)) ⟨n + 20, by omega, a2, b3, fun k hk => ?_⟩⟩
  · unfold hp_feed tx_C_feed_C
    rw [n2, show (20 : Int32) = nI 20 from rfl, nI_add, if_pos (show nI (n + 20) ≤ (65536 : Int32) from nI_le (b := 65536) (show n + 20 ≤ 65536 by omega) (by decide))]
    dsimp only
    rw [a1, obind]
  · rw [a3, b4]
    unfold rput
    by_cases z : n ≤ k
    · rw [if_pos ⟨z, hk⟩, if_pos ⟨z, hk⟩]
      obtain ⟨b, c1, c2⟩ := fword_k v1 v2 v3 v4 v5 (k - n)
      exact ⟨b, c1, c2, c2⟩
    · rw [if_neg (fun y => z y.1), if_neg (fun y => z y.1)]
      exact n4 k (by omega)
theorem end_R (hi : i < 512) (h : Rl N0 i c s) (o : Nat → Int64) (v1 : Int32) : ∃ (k : Int32) (c2 : ms) (o2 : Nat → Int64) (s2 : ms), hp_end (N0 + 1) v1 c o = some (k, c2, o2) ∧ fn_M_end (N0 + 1) v1 s = some ((), s2) ∧ s2.1 0 0 = k ∧ Rl N0 (i + 1) c2 s2 := by
  obtain ⟨n, n1, n2, n3, n4⟩ := h.1
  rcases end_C (N := N0 + 1) (v := v1) n2 (by omega) with ⟨k, k1, rfl, k3, k4⟩ | ⟨k3, k4⟩
  · refine ⟨0, upI c 200 (fun _ => nI k), o, upI (upI s 0 (fun _ => 0)) 88 (fun _ => nI k), ?_, ?_, rfl, h.tape (Eb.rfl.upI (by decide)) ((Eb.rfl.upI (by decide)).upI (by decide)) ⟨k, by omega, rfl, rfl, fun j hj => n4 j (by omega)⟩⟩
    · unfold hp_end
      rw [k3]
      dsimp only
      rw [k4, obind]
    · unfold fn_M_end bk_M_end_18 bk_M_end_37
      rw [if_neg (nI_pos (by omega)), n3, if_pos (nI_le k1 (by omega)), if_pos (by decide)]
  · refine ⟨1, c, o, upI (upI s 0 (fun _ => 1)) 88 (fun _ => s.1 88 0), ?_, ?_, rfl, h.tape Eb.rfl ((Eb.rfl.upI (by decide)).upI (by decide)) ⟨n, by omega, n2, n3, n4⟩⟩
    · unfold hp_end
      rw [k3]
      rfl
    · unfold fn_M_end bk_M_end_13 bk_M_end_18 bk_M_end_37
      by_cases z : v1 < 0
      · rw [if_pos z, if_neg (by decide)]
      · rw [if_neg z, n3, if_neg (k4.resolve_left z), if_neg (by decide)]
theorem fault_R (h : Rl N0 i c s) : ∃ (r : Int32) (c2 s2 : ms), fn_C_fault_C (N0 + 1) c = some (r, c2) ∧ fn_M_fault (N0 + 1) s = some (r, s2) ∧ Rl N0 (i + 1) c2 s2 :=
  ⟨c.1 201 0, c, upI s 0 (fun _ => 0), rfl, by unfold fn_M_fault; rw [h.2.1], h.thr⟩
theorem c208 (x1 : c.1 208 0 = 1) : ¬ c.1 208 0 = 0 := by rw [x1]; decide
theorem s54 (x2 : s.1 54 0 = 1) : ¬ s.1 54 0 = 0 := by rw [x2]; decide
theorem reset_S (hN : 70000 < N0) (h : Rl N0 i c s) (o : Nat → Int64) : ∃ (k : Int32) (c2 : ms) (o2 : Nat → Int64) (s2 : ms), hp_reset (N0 + 1) c o = some (k, c2, o2) ∧ fn_M_reset (N0 + 1) s = some ((), s2) ∧ s2.1 0 0 = k ∧ Rl N0 (i + 1) c2 s2 := by
  rcases h.2.2.2 with ⟨x1, x2⟩ | ⟨x1, x2, n, ch, wd, t, A, lit, lc, sz, la, nc, cl, nl, od, or, hs⟩
  · refine ⟨1, c, o, upI s 0 (fun _ => 1), ?_, ?_, rfl, h.thr⟩
    · unfold hp_reset tx_C_reset_C
      rw [if_pos x1]
      rfl
    · unfold fn_M_reset bk_M_reset_13
      rw [if_pos x2, if_pos x2]
  · obtain ⟨st, rs⟩ := hs.thr (fun _ => 0)
    obtain ⟨c2, s2, a1, a2, a3, a4, a5, a6⟩ := reset_R (N := N0 + 1) (by omega) st rs.1
    have es : Eb [0, 85, 86] [80, 81, 82, 83, 84] s s2 := (Eb.rfl.upI (by decide)).trans (a4.mono (by decide) (by decide))
    refine ⟨0, c2, o, s2, ?_, ?_, by rw [a4.1 0 (by decide)]; rfl, h.run x1 x2 hs (a3.mono (by decide) (by decide)) es a5 a6⟩
    · unfold hp_reset tx_C_reset_C fn_C_reset_C
      rw [if_neg (c208 x1), if_neg (c208 x1)]
      dsimp only
      rw [a1, obind, obind]
    · unfold fn_M_reset bk_M_reset_13
      rw [if_neg (s54 x2), if_neg (s54 x2), a2, obind]
theorem step_S (hN : 70000 < N0) (h : Rl N0 i c s) (o : Nat → Int64) : ∃ (k : Int32) (c2 : ms) (o2 : Nat → Int64) (b : Int32) (s2 : ms), hp_step (N0 + 1) c o = some (k, c2, o2) ∧ fn_M_step (N0 + 1) s = some (b, s2) ∧ s2.1 0 0 = k ∧ (k = 0 → o2 0 = Int32.toInt64 b) ∧ Rl N0 (i + 1) c2 s2 := by
  rcases h.2.2.2 with ⟨x1, x2⟩ | ⟨x1, x2, n, ch, wd, t, A, lit, lc, sz, la, nc, cl, nl, od, or, hs⟩
  · refine ⟨1, c, o, 0, upI s 0 (fun _ => 1), ?_, ?_, rfl, fun z => absurd z (by decide), h.thr⟩
    · unfold hp_step tx_C_step_C
      rw [if_pos x1]
      rfl
    · unfold fn_M_step bk_M_step_13
      rw [if_pos x2, if_neg (by decide)]
  · obtain ⟨st, rs⟩ := hs.thr (fun _ => 0)
    obtain ⟨c2, s2, r, a1, a2, a3, a4, a5, a6⟩ := step_R (N := N0 + 1) (by omega) st rs
    have es : Eb [0, 85, 86] [80, 81, 82, 83, 84] s s2 := (Eb.rfl.upI (by decide)).trans (a4.mono (by decide) (by decide))
    refine ⟨0, c2, vp_updL o 0 (Int32.toInt64 r), r, s2, ?_, ?_, by rw [a4.1 0 (by decide)]; rfl, fun _ => updL_at _ _ _, h.run x1 x2 hs a3 es a5 a6⟩
    · unfold hp_step tx_C_step_C fn_C_step_C
      rw [if_neg (c208 x1), if_neg (c208 x1)]
      dsimp only
      rw [a1, obind, obind]
    · unfold fn_M_step bk_M_step_13
      rw [if_neg (s54 x2), if_pos (by decide)]
      exact a2
theorem failing_S (hN : 70000 < N0) (h : Rl N0 i c s) (o : Nat → Int64) : ∃ (k : Int32) (c2 : ms) (o2 : Nat → Int64) (b : Int32) (s2 : ms), hp_failing (N0 + 1) c o = some (k, c2, o2) ∧ fn_M_failing (N0 + 1) s = some (b, s2) ∧ s2.1 0 0 = k ∧ (k = 0 → o2 0 = Int32.toInt64 b) ∧ Rl N0 (i + 1) c2 s2 := by
  rcases h.2.2.2 with ⟨x1, x2⟩ | ⟨x1, x2, n, ch, wd, t, A, lit, lc, sz, la, nc, cl, nl, od, or, hs⟩
  · refine ⟨1, c, o, 0, upI s 0 (fun _ => 1), ?_, ?_, rfl, fun z => absurd z (by decide), h.thr⟩
    · unfold hp_failing tx_C_failing_C
      rw [if_pos x1]
      rfl
    · unfold fn_M_failing bk_M_failing_13
      rw [if_pos x2, if_neg (by decide)]
  · obtain ⟨st, rs⟩ := hs.thr (fun _ => 0)
    obtain ⟨c2, s2, r, a1, a2, a3, a4, a5, a6⟩ := failing_R (N := N0 + 1) (by omega) st rs
    have es : Eb [0, 85, 86] [80, 81, 82, 83, 84] s s2 := (Eb.rfl.upI (by decide)).trans (a4.mono (by decide) (by decide))
    refine ⟨0, c2, vp_updL o 0 (Int32.toInt64 r), r, s2, ?_, ?_, by rw [a4.1 0 (by decide)]; rfl, fun _ => updL_at _ _ _, h.run x1 x2 hs (a3.mono (by decide) (by decide)) es a5 a6⟩
    · unfold hp_failing tx_C_failing_C fn_C_failing_C
      rw [if_neg (c208 x1), if_neg (c208 x1)]
      dsimp only
      rw [a1, obind, obind]
    · unfold fn_M_failing bk_M_failing_13
      rw [if_neg (s54 x2), if_pos (by decide), a2, obind]
/-- which signal, or none -/
theorem isSig_M {N ns : Nat} (h63 : s.1 63 0 = nI ns) (hns : ns ≤ 1024) (v : Int32) : (∃ x, x < ns ∧ v = nI x ∧ fn_M_isSignal N v s = some (1, s)) ∨ ((v < 0 ∨ ¬ v < nI ns) ∧ fn_M_isSignal N v s = some (0, s)) := by
  unfold fn_M_isSignal
  by_cases z : v < 0
  · exact Or.inr ⟨Or.inl z, by rw [if_pos z]⟩
  · obtain ⟨k, hk, rfl⟩ := nI_of z
    by_cases y : k < ns
    · exact Or.inl ⟨k, y, rfl, by rw [if_neg z, h63, if_neg (nI_ge y (by omega))]⟩
    · exact Or.inr ⟨Or.inr (nI_nlt (by omega) hk), by rw [if_neg z, h63, if_pos (nI_le (by omega) hk)]⟩
theorem value_S (hN : 70000 < N0) (h : Rl N0 i c s) (o : Nat → Int64) (v1 : Int32) : ∃ (k : Int32) (c2 : ms) (o2 : Nat → Int64) (b : Int64) (s2 : ms), hp_value (N0 + 1) v1 c o = some (k, c2, o2) ∧ fn_M_value (N0 + 1) v1 s = some (b, s2) ∧ s2.1 0 0 = k ∧ (k = 0 → o2 0 = b) ∧ Rl N0 (i + 1) c2 s2 := by
  rcases h.2.2.2 with ⟨x1, x2⟩ | ⟨x1, x2, n, ch, wd, t, A, lit, lc, sz, la, nc, cl, nl, od, or, hs⟩
  · refine ⟨1, c, o, 0, upI s 0 (fun _ => 1), ?_, ?_, rfl, fun z => absurd z (by decide), h.thr⟩
    · unfold hp_value tx_C_value_C
      rw [if_pos x1]
      rfl
    · unfold fn_M_value bk_M_value_25
      rw [if_pos x2, if_neg (by decide)]
  · obtain ⟨hC, hM⟩ := hs.2.2.2.1.2.2.2.2.2.2
    have c343 := hC.2.2.1.2.2.1
    have hns := hC.2.2.1.2.2.2
    rcases isSig_M (N := N0 + 1) hM.2.1.1 hns v1 with ⟨x, hx, rfl, e⟩ | ⟨z, e⟩
    · obtain ⟨c2, a1, a2, a3, a4⟩ := value_R (N := N0 + 1) (by omega) hs.2.2.2.1 hs.2.2.2.2.1 hx
      have es : Eb [0] [] s (upI s 0 (fun _ => 0)) := Eb.rfl.upI (by decide)
      refine ⟨0, c2, vp_updL o 0 (s.2 80 x), s.2 80 x, upI s 0 (fun _ => 0), ?_, ?_, rfl, fun _ => updL_at _ _ _, h.run x1 x2 hs (a2.mono (by decide) (by decide)) (es.mono (by decide) (by decide)) (a3.keepM es (by decide) (by decide)) (a4.keep ⟨rfl, rfl, rfl⟩ ⟨rfl, rfl, rfl, rfl, rfl⟩)⟩
      · unfold hp_value tx_C_value_C fn_C_value_C
        rw [if_neg (c208 x1), if_neg (c208 x1), if_neg (nI_pos (by omega)), if_neg (nI_pos (by omega)), c343, if_pos (nI_lt hx (by omega)), if_pos (nI_lt hx (by omega))]
        dsimp only
        rw [a1, obind, obind]
      · unfold fn_M_value bk_M_value_25
        rw [if_neg (s54 x2), e, obind]
        dsimp only
        rw [if_neg (show ¬ (1 : Int32) = 0 by decide), if_pos (by decide), if_neg (nI_in (show x < 1100 by omega) (by decide)), nI_clamp (by omega)]
    · refine ⟨2, c, o, 0, upI s 0 (fun _ => 2), ?_, ?_, rfl, fun z => absurd z (by decide), h.thr⟩
      · unfold hp_value tx_C_value_C bx_C_value_C_30
        rw [if_neg (c208 x1), c343]
        by_cases y : v1 < 0
        · rw [if_pos y]; rfl
        · rw [if_neg y, if_neg (z.resolve_left y)]; rfl
      · unfold fn_M_value bk_M_value_25
        rw [if_neg (s54 x2), e, obind]
        dsimp only
        rw [if_pos rfl, if_neg (by decide)]
end CALLS
