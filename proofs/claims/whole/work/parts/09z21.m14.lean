theorem mo_M_run_211 (N : Nat) (k_3 : Int32 → Int32 → Int32 → ms → Option (Unit × ms)) (y : (Unit × ms)) (hkm_3 : ∀ (x2 : Int32) (x3 : Int32) (x4 : Int32) (s : ms), k_3 x2 x3 x4 s = some y → gl y.2 = gl s) (x2 : Int32) (x3 : Int32) (x7 : Int32) (t0 : Int64) (s : ms) (hf : bk_M_run_211 N k_3 x2 x3 x7 t0 s = some y) : gl y.2 = gl s := by
  unfold bk_M_run_211 at hf
  have hm : gl s = gl s := rfl
  obtain ⟨q_1, hc_2, hf⟩ := dc_b hf
  have hm := (mn_M_push N t0 s q_1 hc_2).trans hm
  exact (hkm_3 x2 x3 x7 q_1.2 hf).trans hm
theorem mo_M_run_199 (N : Nat) (k_3 : Int32 → Int32 → Int32 → ms → Option (Unit × ms)) (y : (Unit × ms)) (hkm_3 : ∀ (x2 : Int32) (x3 : Int32) (x4 : Int32) (s : ms), k_3 x2 x3 x4 s = some y → gl y.2 = gl s) (x2 : Int32) (x3 : Int32) (x7 : Int32) (s : ms) (hf : bk_M_run_199 N k_3 x2 x3 x7 s = some y) : gl y.2 = gl s := by
  unfold bk_M_run_199 at hf
  have hm : gl s = gl s := rfl
  exact (mo_M_run_211 N k_3 y hkm_3 x2 x3 x7 0 s hf).trans hm
theorem mo_M_run_294 (N : Nat) (k_3 : Int32 → Int32 → Int32 → ms → Option (Unit × ms)) (y : (Unit × ms)) (hkm_3 : ∀ (x2 : Int32) (x3 : Int32) (x4 : Int32) (s : ms), k_3 x2 x3 x4 s = some y → gl y.2 = gl s) (x2 : Int32) (x3 : Int32) (x7 : Int32) (t0 : Int64) (s : ms) (hf : bk_M_run_294 N k_3 x2 x3 x7 t0 s = some y) : gl y.2 = gl s := by
  unfold bk_M_run_294 at hf
  have hm : gl s = gl s := rfl
  obtain ⟨q_1, hc_2, hf⟩ := dc_b hf
  have hm := (mn_M_push N t0 s q_1 hc_2).trans hm
  exact (hkm_3 x2 x3 x7 q_1.2 hf).trans hm
theorem mb_M_run_336 (N : Nat) (k_3 : Int32 → Int32 → Int32 → ms → Option (Unit × ms)) (y : (Unit × ms)) (hkm_3 : ∀ (x2 : Int32) (x3 : Int32) (x4 : Int32) (s : ms), k_3 x2 x3 x4 s = some y → gl y.2 = gl s) (k_336 : Int32 → Int32 → Int32 → Int32 → Int32 → Int64 → Int64 → Int32 → ms → Option (Unit × ms)) (hkm_336 : ∀ (x2 : Int32) (x3 : Int32) (x5 : Int32) (x6 : Int32) (x7 : Int32) (x22 : Int64) (x24 : Int64) (x26 : Int32) (s : ms), k_336 x2 x3 x5 x6 x7 x22 x24 x26 s = some y → gl y.2 = gl s) (x2 : Int32) (x3 : Int32) (x5 : Int32) (x6 : Int32) (x7 : Int32) (x22 : Int64) (x24 : Int64) (x26 : Int32) (s : ms) (hf : bd_M_run_336 N k_3 k_336 x2 x3 x5 x6 x7 x22 x24 x26 s = some y) : gl y.2 = gl s := by
  unfold bd_M_run_336 at hf
  have hm : gl s = gl s := rfl
  by_cases h : x5 ≤ x26
  · have hf := (if_pos h).symm.trans hf
    obtain ⟨q_1, hc_2, hf⟩ := dc_b hf
    have hm := (mn_M_push N x24 s q_1 hc_2).trans hm
    exact (hkm_3 x2 x3 x7 q_1.2 hf).trans hm
  · have hf := (if_neg h).symm.trans hf
    exact (hkm_336 x2 x3 x5 x6 x7 x22 ((((x24 : Int64) <<< ((Int32.toInt64 x6) &&& 63)) ||| x22)) ((x26 + 1)) s hf).trans hm
theorem mh_M_run_336 (N : Nat) (k_3 : Int32 → Int32 → Int32 → ms → Option (Unit × ms)) (y : (Unit × ms)) (hkm_3 : ∀ (x2 : Int32) (x3 : Int32) (x4 : Int32) (s : ms), k_3 x2 x3 x4 s = some y → gl y.2 = gl s) : ∀ (n : Nat) (x2 : Int32) (x3 : Int32) (x5 : Int32) (x6 : Int32) (x7 : Int32) (x22 : Int64) (x24 : Int64) (x26 : Int32) (s : ms), hd_M_run_336 N k_3 n x2 x3 x5 x6 x7 x22 x24 x26 s = some y → gl y.2 = gl s := by
  intro n
  induction n with
  | zero => intro x2 x3 x5 x6 x7 x22 x24 x26 s hf; cases hf
  | succ n ih => intro x2 x3 x5 x6 x7 x22 x24 x26 s hf; exact mb_M_run_336 N k_3 y hkm_3 (hd_M_run_336 N k_3 n) ih x2 x3 x5 x6 x7 x22 x24 x26 s hf
theorem mo_M_run_456 (N : Nat) (k_3 : Int32 → Int32 → Int32 → ms → Option (Unit × ms)) (y : (Unit × ms)) (hkm_3 : ∀ (x2 : Int32) (x3 : Int32) (x4 : Int32) (s : ms), k_3 x2 x3 x4 s = some y → gl y.2 = gl s) (x2 : Int32) (x3 : Int32) (t0 : Int32) (s : ms) (hf : bk_M_run_456 N k_3 x2 x3 t0 s = some y) : gl y.2 = gl s := by
  unfold bk_M_run_456 at hf
  have hm : gl s = gl s := rfl
  exact (hkm_3 x2 x3 t0 s hf).trans hm
theorem mo_M_run_497 (N : Nat) (k_3 : Int32 → Int32 → Int32 → ms → Option (Unit × ms)) (y : (Unit × ms)) (hkm_3 : ∀ (x2 : Int32) (x3 : Int32) (x4 : Int32) (s : ms), k_3 x2 x3 x4 s = some y → gl y.2 = gl s) (x2 : Int32) (x3 : Int32) (t0 : Int32) (s : ms) (hf : bk_M_run_497 N k_3 x2 x3 t0 s = some y) : gl y.2 = gl s := by
  unfold bk_M_run_497 at hf
  have hm : gl s = gl s := rfl
  exact (hkm_3 x2 x3 t0 s hf).trans hm
theorem mb_M_run_3 (N : Nat) (y : (Unit × ms)) (k_3 : Int32 → Int32 → Int32 → ms → Option (Unit × ms)) (hkm_3 : ∀ (x2 : Int32) (x3 : Int32) (x4 : Int32) (s : ms), k_3 x2 x3 x4 s = some y → gl y.2 = gl s) (x2 : Int32) (x3 : Int32) (x4 : Int32) (s : ms) (hf : bd_M_run_3 N k_3 x2 x3 x4 s = some y) : gl y.2 = gl s := by
  unfold bd_M_run_3 at hf
  have hm : gl s = gl s := rfl
  by_cases h : x2 ≤ x4
  · have hf := (if_pos h).symm.trans hf
    exact (dc_e hf).trans hm
  · have hf := (if_neg h).symm.trans hf
    obtain ⟨_, hf⟩ := dc_g hf
    obtain ⟨_, hf⟩ := dc_g hf
    obtain ⟨_, hf⟩ := dc_g hf
    by_cases h_0 : ((s.1 41) (Int32.toNatClampNeg x4)) = 0
    · have hf := (if_pos h_0).symm.trans hf
      obtain ⟨_, hf⟩ := dc_g hf
      obtain ⟨q_5, hc_6, hf⟩ := dc_b hf
      have hm := (mn_M_push N (((s.2 43) (Int32.toNatClampNeg (((s.1 41) (Int32.toNatClampNeg ((x4 + 1)))))))) s q_5 hc_6).trans hm
      exact (hkm_3 x2 x3 ((x4 + 3)) q_5.2 hf).trans hm
    have hf := (if_neg h_0).symm.trans hf
    by_cases h_1 : ((s.1 41) (Int32.toNatClampNeg x4)) = 1
    · have hf := (if_pos h_1).symm.trans hf
      obtain ⟨q_4, hc_5, hf⟩ := dc_b hf
      have hm := (mn_M_signalOf N x3 (((s.1 41) (Int32.toNatClampNeg ((x4 + 1))))) s q_4 hc_5).trans hm
      obtain ⟨_, hf⟩ := dc_g hf
      obtain ⟨q_8, hc_9, hf⟩ := dc_b hf
      have hm := (mn_M_push N (((q_4.2.2 80) (Int32.toNatClampNeg q_4.1))) q_4.2 q_8 hc_9).trans hm
      exact (hkm_3 x2 x3 ((x4 + 3)) q_8.2 hf).trans hm
    have hf := (if_neg h_1).symm.trans hf
    by_cases h_2 : ((s.1 41) (Int32.toNatClampNeg x4)) = 2
    · have hf := (if_pos h_2).symm.trans hf
      obtain ⟨q_4, hc_5, hf⟩ := dc_b hf
      have hm := (mn_M_pop N s q_4 hc_5).trans hm
      obtain ⟨q_7, hc_8, hf⟩ := dc_b hf
      have hm := (mn_M_mask N (((((s.1 41) (Int32.toNatClampNeg ((x4 + 1)))) - ((s.1 41) (Int32.toNatClampNeg ((x4 + 2))))) + 1)) q_4.2 q_7 hc_8).trans hm
      obtain ⟨q_10, hc_11, hf⟩ := dc_b hf
      have hm := (mn_M_push N ((((Int64.toUInt64 q_4.1 >>> (Int64.toUInt64 (Int32.toInt64 (((s.1 41) (Int32.toNatClampNeg ((x4 + 2)))))) &&& Int64.toUInt64 63)).toInt64) &&& q_7.1)) q_7.2 q_10 hc_11).trans hm
      exact (hkm_3 x2 x3 ((x4 + 3)) q_10.2 hf).trans hm
    have hf := (if_neg h_2).symm.trans hf
    by_cases h_3 : ((s.1 41) (Int32.toNatClampNeg x4)) = 3
    · have hf := (if_pos h_3).symm.trans hf
      obtain ⟨q_4, hc_5, hf⟩ := dc_b hf
      have hm := (mn_M_pop N s q_4 hc_5).trans hm
      obtain ⟨q_7, hc_8, hf⟩ := dc_b hf
      have hm := (mn_M_pop N q_4.2 q_7 hc_8).trans hm
      by_cases h : (lg_cmp q_4.1 0) < 0
      · have hf := (if_pos h).symm.trans hf
        exact (mo_M_run_199 N k_3 y hkm_3 x2 x3 ((x4 + 3)) q_7.2 hf).trans hm
      · have hf := (if_neg h).symm.trans hf
        by_cases h : (lg_cmp q_4.1 ((Int32.toInt64 (((s.1 41) (Int32.toNatClampNeg ((x4 + 1)))))))) < 0
        · have hf := (if_pos h).symm.trans hf
          exact (mo_M_run_211 N k_3 y hkm_3 x2 x3 ((x4 + 3)) ((((Int64.toUInt64 q_7.1 >>> (Int64.toUInt64 (Int32.toInt64 ((Int64.toInt32 q_4.1))) &&& Int64.toUInt64 63)).toInt64) &&& 1)) q_7.2 hf).trans hm
        · have hf := (if_neg h).symm.trans hf
          exact (mo_M_run_199 N k_3 y hkm_3 x2 x3 ((x4 + 3)) q_7.2 hf).trans hm
    have hf := (if_neg h_3).symm.trans hf
    by_cases h_4 : ((s.1 41) (Int32.toNatClampNeg x4)) = 4
    · have hf := (if_pos h_4).symm.trans hf
      obtain ⟨q_4, hc_5, hf⟩ := dc_b hf
      have hm := (mn_M_pop N s q_4 hc_5).trans hm
      obtain ⟨q_7, hc_8, hf⟩ := dc_b hf
      have hm := (mn_M_one N (((s.1 41) (Int32.toNatClampNeg ((x4 + 1))))) (((s.1 41) (Int32.toNatClampNeg ((x4 + 2))))) q_4.1 q_4.2 q_7 hc_8).trans hm
      obtain ⟨q_10, hc_11, hf⟩ := dc_b hf
      have hm := (mn_M_push N q_7.1 q_7.2 q_10 hc_11).trans hm
      exact (hkm_3 x2 x3 ((x4 + 3)) q_10.2 hf).trans hm
    have hf := (if_neg h_4).symm.trans hf
    by_cases h_5 : ((s.1 41) (Int32.toNatClampNeg x4)) = 5
    · have hf := (if_pos h_5).symm.trans hf
      obtain ⟨q_4, hc_5, hf⟩ := dc_b hf
      have hm := (mn_M_pop N s q_4 hc_5).trans hm
      obtain ⟨q_7, hc_8, hf⟩ := dc_b hf
      have hm := (mn_M_pop N q_4.2 q_7 hc_8).trans hm
      obtain ⟨q_10, hc_11, hf⟩ := dc_b hf
      have hm := (mn_M_two N (((s.1 41) (Int32.toNatClampNeg ((x4 + 1))))) (((s.1 41) (Int32.toNatClampNeg ((x4 + 2))))) q_7.1 q_4.1 q_7.2 q_10 hc_11).trans hm
      obtain ⟨q_13, hc_14, hf⟩ := dc_b hf
      have hm := (mn_M_push N q_10.1 q_10.2 q_13 hc_14).trans hm
      exact (hkm_3 x2 x3 ((x4 + 3)) q_13.2 hf).trans hm
    have hf := (if_neg h_5).symm.trans hf
    by_cases h_6 : ((s.1 41) (Int32.toNatClampNeg x4)) = 6
    · have hf := (if_pos h_6).symm.trans hf
      obtain ⟨q_4, hc_5, hf⟩ := dc_b hf
      have hm := (mn_M_pop N s q_4 hc_5).trans hm
      obtain ⟨q_7, hc_8, hf⟩ := dc_b hf
      have hm := (mn_M_pop N q_4.2 q_7 hc_8).trans hm
      obtain ⟨q_10, hc_11, hf⟩ := dc_b hf
      have hm := (mn_M_pop N q_7.2 q_10 hc_11).trans hm
      by_cases h : (lg_cmp q_10.1 0) = 0
      · have hf := (if_pos h).symm.trans hf
        exact (mo_M_run_294 N k_3 y hkm_3 x2 x3 ((x4 + 3)) q_4.1 q_10.2 hf).trans hm
      · have hf := (if_neg h).symm.trans hf
        exact (mo_M_run_294 N k_3 y hkm_3 x2 x3 ((x4 + 3)) q_7.1 q_10.2 hf).trans hm
    have hf := (if_neg h_6).symm.trans hf
    by_cases h_7 : ((s.1 41) (Int32.toNatClampNeg x4)) = 7
    · have hf := (if_pos h_7).symm.trans hf
      obtain ⟨q_4, hc_5, hf⟩ := dc_b hf
      have hm := (mn_M_pop N s q_4 hc_5).trans hm
      obtain ⟨q_7, hc_8, hf⟩ := dc_b hf
      have hm := (mn_M_pop N q_4.2 q_7 hc_8).trans hm
      obtain ⟨q_10, hc_11, hf⟩ := dc_b hf
      have hm := (mn_M_push N ((((q_7.1 : Int64) <<< ((Int32.toInt64 (((s.1 41) (Int32.toNatClampNeg ((x4 + 1)))))) &&& 63)) ||| q_4.1)) q_7.2 q_10 hc_11).trans hm
      exact (hkm_3 x2 x3 ((x4 + 3)) q_10.2 hf).trans hm
    have hf := (if_neg h_7).symm.trans hf
    by_cases h_8 : ((s.1 41) (Int32.toNatClampNeg x4)) = 8
    · have hf := (if_pos h_8).symm.trans hf
      obtain ⟨q_4, hc_5, hf⟩ := dc_b hf
      have hm := (mn_M_pop N s q_4 hc_5).trans hm
      exact (mh_M_run_336 N k_3 y hkm_3 N x2 x3 (((s.1 41) (Int32.toNatClampNeg ((x4 + 1))))) (((s.1 41) (Int32.toNatClampNeg ((x4 + 2))))) ((x4 + 3)) q_4.1 q_4.1 1 q_4.2 hf).trans hm
    have hf := (if_neg h_8).symm.trans hf
    by_cases h_9 : ((s.1 41) (Int32.toNatClampNeg x4)) = 9
    · have hf := (if_pos h_9).symm.trans hf
      obtain ⟨q_4, hc_5, hf⟩ := dc_b hf
      have hm := (mn_M_signalOf N x3 (((s.1 41) (Int32.toNatClampNeg ((x4 + 1))))) s q_4 hc_5).trans hm
      obtain ⟨q_7, hc_8, hf⟩ := dc_b hf
      have hm := (mn_M_mask N ((((((s.1 41) (Int32.toNatClampNeg ((x4 + 2)))) / 256) - (((s.1 41) (Int32.toNatClampNeg ((x4 + 2)))) - ((s.1 41) (Int32.toNatClampNeg ((x4 + 2)))) / 256 * 256)) + 1)) q_4.2 q_7 hc_8).trans hm
      obtain ⟨_, hf⟩ := dc_g hf
      obtain ⟨q_11, hc_12, hf⟩ := dc_b hf
      have hm := (mn_M_pop N q_7.2 q_11 hc_12).trans hm
      obtain ⟨_, hf⟩ := dc_g hf
      exact (hkm_3 x2 x3 ((x4 + 3)) (upJ q_11.2 81 (vp_updL (q_11.2.2 81) (Int32.toNatClampNeg q_4.1) (((((q_7.2.2 81) (Int32.toNatClampNeg q_4.1)) &&& (((q_7.1 : Int64) <<< ((Int32.toInt64 ((((s.1 41) (Int32.toNatClampNeg ((x4 + 2)))) - ((s.1 41) (Int32.toNatClampNeg ((x4 + 2)))) / 256 * 256))) &&& 63)) ^^^ (-1))) ||| ((q_11.1 : Int64) <<< ((Int32.toInt64 ((((s.1 41) (Int32.toNatClampNeg ((x4 + 2)))) - ((s.1 41) (Int32.toNatClampNeg ((x4 + 2)))) / 256 * 256))) &&& 63)))))) hf).trans hm
    have hf := (if_neg h_9).symm.trans hf
    by_cases h_10 : ((s.1 41) (Int32.toNatClampNeg x4)) = 10
    · have hf := (if_pos h_10).symm.trans hf
      obtain ⟨q_4, hc_5, hf⟩ := dc_b hf
      have hm := (mn_M_pop N s q_4 hc_5).trans hm
      by_cases h : (lg_cmp q_4.1 0) = 0
      · have hf := (if_pos h).symm.trans hf
        exact (mo_M_run_456 N k_3 y hkm_3 x2 x3 (((s.1 41) (Int32.toNatClampNeg ((x4 + 1))))) q_4.2 hf).trans hm
      · have hf := (if_neg h).symm.trans hf
        exact (mo_M_run_456 N k_3 y hkm_3 x2 x3 ((x4 + 3)) q_4.2 hf).trans hm
    have hf := (if_neg h_10).symm.trans hf
    by_cases h_11 : ((s.1 41) (Int32.toNatClampNeg x4)) = 11
    · have hf := (if_pos h_11).symm.trans hf
      exact (hkm_3 x2 x3 (((s.1 41) (Int32.toNatClampNeg ((x4 + 1))))) s hf).trans hm
    have hf := (if_neg h_11).symm.trans hf
    by_cases h_12 : ((s.1 41) (Int32.toNatClampNeg x4)) = 12
    · have hf := (if_pos h_12).symm.trans hf
      obtain ⟨_, hf⟩ := dc_g hf
      obtain ⟨_, hf⟩ := dc_g hf
      by_cases h : (lg_cmp (((s.2 84) (Int32.toNatClampNeg (((s.1 85 0) - 1))))) (((s.2 43) (Int32.toNatClampNeg (((s.1 41) (Int32.toNatClampNeg ((x4 + 2))))))))) = 0
      · have hf := (if_pos h).symm.trans hf
        exact (mo_M_run_497 N k_3 y hkm_3 x2 x3 (((s.1 41) (Int32.toNatClampNeg ((x4 + 1))))) s hf).trans hm
      · have hf := (if_neg h).symm.trans hf
        exact (mo_M_run_497 N k_3 y hkm_3 x2 x3 ((x4 + 3)) s hf).trans hm
    have hf := (if_neg h_12).symm.trans hf
    exact (hkm_3 x2 x3 ((x4 + 3)) (upI s 85 (fun _ => ((s.1 85 0) - 1))) hf).trans hm
theorem mh_M_run_3 (N : Nat) (y : (Unit × ms)) : ∀ (n : Nat) (x2 : Int32) (x3 : Int32) (x4 : Int32) (s : ms), hd_M_run_3 N n x2 x3 x4 s = some y → gl y.2 = gl s := by
  intro n
  induction n with
  | zero => intro x2 x3 x4 s hf; cases hf
  | succ n ih => intro x2 x3 x4 s hf; exact mb_M_run_3 N y (hd_M_run_3 N n) ih x2 x3 x4 s hf
theorem mn_M_run (N : Nat) (v1 : Int32) (v2 : Int32) (v3 : Int32) (s : ms) (y : (Unit × ms)) (hf : fn_M_run N v1 v2 v3 s = some y) : gl y.2 = gl s := by
  unfold fn_M_run at hf
  have hm : gl s = gl s := rfl
  exact (mh_M_run_3 N y N v2 v3 v1 s hf).trans hm
set_option maxHeartbeats 8000000 in
set_option maxRecDepth 100000 in
theorem ct_M_run (l : Launch) (dC : Nat → ClassId) (dI : Nat → Nat → Nat) (cI cB cJ cZ cQ : ClassId) (N sz : Nat) (h0 : Nat) (a : Nat → Nat) (v1 : Int32) (v2 : Int32) (v3 : Int32) (s : ms) (y : (Unit × ms)) (hf : fn_M_run N v1 v2 v3 s = some y) : Met l yn_M_run (xw yn_M_run bn_M_run 29 none) ({ frames := 2, cells := 0, slots := 0, locals := 48 }) (dc_P (dC, dI) xcl (xt cI cB cJ cZ cQ) [.ref h0, .int v1, .int v2, .int v3] sz (wM h0 a cI cB cJ cZ s)) (xk_Qv (dC, dI) xcl (xt cI cB cJ cZ cQ) (fun _ : Unit => True) (fun u : Unit => (wM h0 a cI cB cJ cZ y.2)) (va_A (wM h0 a cI cB cJ cZ s) sz)) 0 0 (va_A (wM h0 a cI cB cJ cZ s) sz) := by
  refine dc_of (QA := xk_Qv (dC, dI) xcl (xt cI cB cJ cZ cQ) (fun _ : Unit => True) (fun u : Unit => (wM h0 a cI cB cJ cZ y.2))) (by decide) (Nat.le_of_ble_eq_true rfl) ?_
  intro p e s0 m below meth c hx hb hml hown hg hr hlocks hin hP hK hN A hA hD hT ls hl
  have hown : s0.vm.findClass rn_M = some m.cls := hown
  obtain ⟨H, hH⟩ : ∃ z, z = s0.heap := ⟨_, rfl⟩
  rw [← hH] at hP
  have hS : va_S A s0.heap H [] := by rw [hH]; exact va_S.rf
  suffices kk : ∀ QQ : State → Prop, QQ = MQ below (xk_Qv (dC, dI) xcl (xt cI cB cJ cZ cQ) (fun _ : Unit => True) (fun u : Unit => (wM h0 a cI cB cJ cZ y.2)) A) [.ref h0, .int v1, .int v2, .int v3].toArray s0 0 0 A → dcC p l e ({ frames := 2, cells := 0, slots := 0, locals := 48 }) s0 m [.ref h0, .int v1, .int v2, .int v3].toArray below meth c QQ (dC, dI) A (wM h0 a cI cB cJ cZ s) 0 29 [(0, .ref h0), (1, .int v1), (2, .int v2), (3, .int v3)] [] by
    have k9 := kk _ rfl H [] ls hP hD hS hl
    rw [hH] at k9; exact k9
  clear hP hD hS hl hH H ls
  intro QQ hQQ
  have bl_211 : ∀ (k_3 : Int32 → Int32 → Int32 → ms → Option (Unit × ms)) (hk_3 : ∀ (x2 : Int32) (x3 : Int32) (x4 : Int32) (s : ms), k_3 x2 x3 x4 s = some y → dcC p l e ({ frames := 2, cells := 0, slots := 0, locals := 48 }) s0 m [.ref h0, .int v1, .int v2, .int v3].toArray below meth c QQ (dC, dI) A (wM h0 a cI cB cJ cZ s) 3 29 [(0, .ref h0), (2, .int x2), (3, .int x3), (4, .int x4)] []) (x2 : Int32) (x3 : Int32) (x7 : Int32) (t0 : Int64) (s : ms), bk_M_run_211 N k_3 x2 x3 x7 t0 s = some y → dcC p l e ({ frames := 2, cells := 0, slots := 0, locals := 48 }) s0 m [.ref h0, .int v1, .int v2, .int v3].toArray below meth c QQ (dC, dI) A (wM h0 a cI cB cJ cZ s) 211 29 [(0, .ref h0), (2, .int x2), (3, .int x3), (7, .int x7)] [.long t0, .ref h0] := by
    intro k_3 hk_3 x2 x3 x7 t0 s hf H locs ls hP hD hS hl
    unfold bk_M_run_211 at hf
    obtain ⟨q_1, hc_2, hf⟩ := dc_b hf
    refine dc_callv (dc_runV (ar := 1) (As := [.long t0]) (rest := []) (ci := 0) (q0 := 0) ⟨hx, hb, hml, hown, hg⟩ hK hN hT hS hA (ct_M_push l dC dI cI cB cJ cZ cQ N H.size h0 a t0 s q_1 hc_2) hP hD rfl rfl wn_10_217 wn_10_219 sn_M_push wn_1_13 wn_10_220 rfl rfl (by decide +kernel) ⟨Nat.le_of_ble_eq_true rfl, Nat.le_of_ble_eq_true rfl⟩ rfl hl.1 rfl (Nat.le_of_ble_eq_true rfl) dn_M_run_211 ⟨Nat.le_of_ble_eq_true rfl, Nat.le_of_ble_eq_true rfl⟩) hP hD hS hA (fun _ H locs hw hP hD hS => ?_)
    refine lv_goto (tgt := 512) hx hb dn_M_run_214 (by decide) ?_
    refine lv_iload hx hb dn_M_run_512 (lv_at hl 3 rfl) ?_
    refine lv_istore (lv' := [(4, .int x7), (0, .ref h0), (2, .int x2), (3, .int x3), (7, .int x7)]) hx hb dn_M_run_514 hl (by decide) rfl (fun ls hl => ?_)
    refine lv_goto (tgt := 3) hx hb dn_M_run_516 (by decide) ?_
    exact hk_3 x2 x3 x7 q_1.2 hf H locs ls hP hD hS (lv_sub hl [1, 2, 3, 0] rfl)
  have bl_199 : ∀ (k_3 : Int32 → Int32 → Int32 → ms → Option (Unit × ms)) (hk_3 : ∀ (x2 : Int32) (x3 : Int32) (x4 : Int32) (s : ms), k_3 x2 x3 x4 s = some y → dcC p l e ({ frames := 2, cells := 0, slots := 0, locals := 48 }) s0 m [.ref h0, .int v1, .int v2, .int v3].toArray below meth c QQ (dC, dI) A (wM h0 a cI cB cJ cZ s) 3 29 [(0, .ref h0), (2, .int x2), (3, .int x3), (4, .int x4)] []) (x2 : Int32) (x3 : Int32) (x7 : Int32) (s : ms), bk_M_run_199 N k_3 x2 x3 x7 s = some y → dcC p l e ({ frames := 2, cells := 0, slots := 0, locals := 48 }) s0 m [.ref h0, .int v1, .int v2, .int v3].toArray below meth c QQ (dC, dI) A (wM h0 a cI cB cJ cZ s) 199 29 [(0, .ref h0), (2, .int x2), (3, .int x3), (7, .int x7)] [.ref h0] := by
    intro k_3 hk_3 x2 x3 x7 s hf H locs ls hP hD hS hl
    unfold bk_M_run_199 at hf
    refine lv_lconst (v := 0) hx hb dn_M_run_199 (by decide) ?_
    refine lv_goto (tgt := 211) hx hb dn_M_run_200 (by decide) ?_
    exact bl_211 k_3 hk_3 x2 x3 x7 0 s hf H locs ls hP hD hS hl
  have bl_294 : ∀ (k_3 : Int32 → Int32 → Int32 → ms → Option (Unit × ms)) (hk_3 : ∀ (x2 : Int32) (x3 : Int32) (x4 : Int32) (s : ms), k_3 x2 x3 x4 s = some y → dcC p l e ({ frames := 2, cells := 0, slots := 0, locals := 48 }) s0 m [.ref h0, .int v1, .int v2, .int v3].toArray below meth c QQ (dC, dI) A (wM h0 a cI cB cJ cZ s) 3 29 [(0, .ref h0), (2, .int x2), (3, .int x3), (4, .int x4)] []) (x2 : Int32) (x3 : Int32) (x7 : Int32) (t0 : Int64) (s : ms), bk_M_run_294 N k_3 x2 x3 x7 t0 s = some y → dcC p l e ({ frames := 2, cells := 0, slots := 0, locals := 48 }) s0 m [.ref h0, .int v1, .int v2, .int v3].toArray below meth c QQ (dC, dI) A (wM h0 a cI cB cJ cZ s) 294 29 [(0, .ref h0), (2, .int x2), (3, .int x3), (7, .int x7)] [.long t0, .ref h0] := by
    intro k_3 hk_3 x2 x3 x7 t0 s hf H locs ls hP hD hS hl
    unfold bk_M_run_294 at hf
    obtain ⟨q_1, hc_2, hf⟩ := dc_b hf
    refine dc_callv (dc_runV (ar := 1) (As := [.long t0]) (rest := []) (ci := 0) (q0 := 0) ⟨hx, hb, hml, hown, hg⟩ hK hN hT hS hA (ct_M_push l dC dI cI cB cJ cZ cQ N H.size h0 a t0 s q_1 hc_2) hP hD rfl rfl wn_10_217 wn_10_219 sn_M_push wn_1_13 wn_10_220 rfl rfl (by decide +kernel) ⟨Nat.le_of_ble_eq_true rfl, Nat.le_of_ble_eq_true rfl⟩ rfl hl.1 rfl (Nat.le_of_ble_eq_true rfl) dn_M_run_294 ⟨Nat.le_of_ble_eq_true rfl, Nat.le_of_ble_eq_true rfl⟩) hP hD hS hA (fun _ H locs hw hP hD hS => ?_)
    refine lv_goto (tgt := 512) hx hb dn_M_run_297 (by decide) ?_
    refine lv_iload hx hb dn_M_run_512 (lv_at hl 3 rfl) ?_
    refine lv_istore (lv' := [(4, .int x7), (0, .ref h0), (2, .int x2), (3, .int x3), (7, .int x7)]) hx hb dn_M_run_514 hl (by decide) rfl (fun ls hl => ?_)
    refine lv_goto (tgt := 3) hx hb dn_M_run_516 (by decide) ?_
    exact hk_3 x2 x3 x7 q_1.2 hf H locs ls hP hD hS (lv_sub hl [1, 2, 3, 0] rfl)
  have hd_336 : ∀ (k_3 : Int32 → Int32 → Int32 → ms → Option (Unit × ms)) (hk_3 : ∀ (x2 : Int32) (x3 : Int32) (x4 : Int32) (s : ms), k_3 x2 x3 x4 s = some y → dcC p l e ({ frames := 2, cells := 0, slots := 0, locals := 48 }) s0 m [.ref h0, .int v1, .int v2, .int v3].toArray below meth c QQ (dC, dI) A (wM h0 a cI cB cJ cZ s) 3 29 [(0, .ref h0), (2, .int x2), (3, .int x3), (4, .int x4)] []) (n : Nat) (x2 : Int32) (x3 : Int32) (x5 : Int32) (x6 : Int32) (x7 : Int32) (x22 : Int64) (x24 : Int64) (x26 : Int32) (s : ms), hd_M_run_336 N k_3 n x2 x3 x5 x6 x7 x22 x24 x26 s = some y → dcC p l e ({ frames := 2, cells := 0, slots := 0, locals := 48 }) s0 m [.ref h0, .int v1, .int v2, .int v3].toArray below meth c QQ (dC, dI) A (wM h0 a cI cB cJ cZ s) 336 29 [(0, .ref h0), (2, .int x2), (3, .int x3), (5, .int x5), (6, .int x6), (7, .int x7), (22, .long x22), (24, .long x24), (26, .int x26)] [] := by
    intro k_3 hk_3 n
    induction n with
    | zero => intro x2 x3 x5 x6 x7 x22 x24 x26 s hf; cases hf
    | succ n ih =>
      intro x2 x3 x5 x6 x7 x22 x24 x26 s hf H locs ls hP hD hS hl
      have hf : bd_M_run_336 N k_3 (hd_M_run_336 N k_3 n) x2 x3 x5 x6 x7 x22 x24 x26 s = some y := hf
      have hk_336 := ih
      generalize hd_M_run_336 N k_3 n = k_336 at hf hk_336
      unfold bd_M_run_336 at hf
      refine lv_iload hx hb dn_M_run_336 (lv_at hl 8 rfl) ?_
      refine lv_iload hx hb dn_M_run_338 (lv_at hl 3 rfl) ?_
      refine lv_icmp_ge (tgt := 359) hx hb dn_M_run_340 (by decide) (fun h => ?_) (fun h => ?_)
      · have hf := (if_pos h).symm.trans hf
        refine lv_aload_n hx hb dn_M_run_359 rfl (lv_at hl 0 rfl) ?_
        refine lv_lload hx hb dn_M_run_360 (lv_at hl 7 rfl) ?_
        obtain ⟨q_1, hc_2, hf⟩ := dc_b hf
        refine dc_callv (dc_runV (ar := 1) (As := [.long x24]) (rest := []) (ci := 0) (q0 := 0) ⟨hx, hb, hml, hown, hg⟩ hK hN hT hS hA (ct_M_push l dC dI cI cB cJ cZ cQ N H.size h0 a x24 s q_1 hc_2) hP hD rfl rfl wn_10_217 wn_10_219 sn_M_push wn_1_13 wn_10_220 rfl rfl (by decide +kernel) ⟨Nat.le_of_ble_eq_true rfl, Nat.le_of_ble_eq_true rfl⟩ rfl hl.1 rfl (Nat.le_of_ble_eq_true rfl) dn_M_run_362 ⟨Nat.le_of_ble_eq_true rfl, Nat.le_of_ble_eq_true rfl⟩) hP hD hS hA (fun _ H locs hw hP hD hS => ?_)
        refine lv_goto (tgt := 512) hx hb dn_M_run_365 (by decide) ?_
        refine lv_iload hx hb dn_M_run_512 (lv_at hl 5 rfl) ?_
        refine lv_istore (lv' := [(4, .int x7), (0, .ref h0), (2, .int x2), (3, .int x3), (5, .int x5), (6, .int x6), (7, .int x7), (22, .long x22), (24, .long x24), (26, .int x26)]) hx hb dn_M_run_514 hl (by decide) rfl (fun ls hl => ?_)
        refine lv_goto (tgt := 3) hx hb dn_M_run_516 (by decide) ?_
        exact hk_3 x2 x3 x7 q_1.2 hf H locs ls hP hD hS (lv_sub hl [1, 2, 3, 0] rfl)
      · have hf := (if_neg h).symm.trans hf
        refine lv_lload hx hb dn_M_run_343 (lv_at hl 7 rfl) ?_
        refine lv_iload hx hb dn_M_run_345 (lv_at hl 4 rfl) ?_
        refine lv_lshl (v := (x24 : Int64) <<< ((Int32.toInt64 x6) &&& 63)) hx hb dn_M_run_347 rfl ?_
        refine lv_lload hx hb dn_M_run_348 (lv_at hl 6 rfl) ?_
        refine lv_lor hx hb dn_M_run_350 ?_
        refine lv_lstore (lv' := [(24, .long ((((x24 : Int64) <<< ((Int32.toInt64 x6) &&& 63)) ||| x22))), (0, .ref h0), (2, .int x2), (3, .int x3), (5, .int x5), (6, .int x6), (7, .int x7), (22, .long x22), (26, .int x26)]) hx hb dn_M_run_351 hl (by decide) rfl (fun ls hl => ?_)
        refine lv_iinc (v := (x26 + 1)) (lv' := [(26, .int ((x26 + 1))), (24, .long ((((x24 : Int64) <<< ((Int32.toInt64 x6) &&& 63)) ||| x22))), (0, .ref h0), (2, .int x2), (3, .int x3), (5, .int x5), (6, .int x6), (7, .int x7), (22, .long x22)]) hx hb dn_M_run_353 hl (k := 8) rfl (dc_inc (by decide)) (by decide) rfl (fun ls hl => ?_)
        refine lv_goto (tgt := 336) hx hb dn_M_run_356 (by decide) ?_
        exact hk_336 x2 x3 x5 x6 x7 x22 ((((x24 : Int64) <<< ((Int32.toInt64 x6) &&& 63)) ||| x22)) ((x26 + 1)) s hf H locs ls hP hD hS (lv_sub hl [2, 3, 4, 5, 6, 7, 8, 1, 0] rfl)
  have bl_456 : ∀ (k_3 : Int32 → Int32 → Int32 → ms → Option (Unit × ms)) (hk_3 : ∀ (x2 : Int32) (x3 : Int32) (x4 : Int32) (s : ms), k_3 x2 x3 x4 s = some y → dcC p l e ({ frames := 2, cells := 0, slots := 0, locals := 48 }) s0 m [.ref h0, .int v1, .int v2, .int v3].toArray below meth c QQ (dC, dI) A (wM h0 a cI cB cJ cZ s) 3 29 [(0, .ref h0), (2, .int x2), (3, .int x3), (4, .int x4)] []) (x2 : Int32) (x3 : Int32) (t0 : Int32) (s : ms), bk_M_run_456 N k_3 x2 x3 t0 s = some y → dcC p l e ({ frames := 2, cells := 0, slots := 0, locals := 48 }) s0 m [.ref h0, .int v1, .int v2, .int v3].toArray below meth c QQ (dC, dI) A (wM h0 a cI cB cJ cZ s) 456 29 [(0, .ref h0), (2, .int x2), (3, .int x3)] [.int t0] := by
    intro k_3 hk_3 x2 x3 t0 s hf H locs ls hP hD hS hl
    unfold bk_M_run_456 at hf
    refine lv_istore (lv' := [(7, .int t0), (0, .ref h0), (2, .int x2), (3, .int x3)]) hx hb dn_M_run_456 hl (by decide) rfl (fun ls hl => ?_)
    refine lv_goto (tgt := 512) hx hb dn_M_run_458 (by decide) ?_
    refine lv_iload hx hb dn_M_run_512 (lv_at hl 0 rfl) ?_
    refine lv_istore (lv' := [(4, .int t0), (7, .int t0), (0, .ref h0), (2, .int x2), (3, .int x3)]) hx hb dn_M_run_514 hl (by decide) rfl (fun ls hl => ?_)
    refine lv_goto (tgt := 3) hx hb dn_M_run_516 (by decide) ?_
    exact hk_3 x2 x3 t0 s hf H locs ls hP hD hS (lv_sub hl [2, 3, 4, 0] rfl)
  have bl_497 : ∀ (k_3 : Int32 → Int32 → Int32 → ms → Option (Unit × ms)) (hk_3 : ∀ (x2 : Int32) (x3 : Int32) (x4 : Int32) (s : ms), k_3 x2 x3 x4 s = some y → dcC p l e ({ frames := 2, cells := 0, slots := 0, locals := 48 }) s0 m [.ref h0, .int v1, .int v2, .int v3].toArray below meth c QQ (dC, dI) A (wM h0 a cI cB cJ cZ s) 3 29 [(0, .ref h0), (2, .int x2), (3, .int x3), (4, .int x4)] []) (x2 : Int32) (x3 : Int32) (t0 : Int32) (s : ms), bk_M_run_497 N k_3 x2 x3 t0 s = some y → dcC p l e ({ frames := 2, cells := 0, slots := 0, locals := 48 }) s0 m [.ref h0, .int v1, .int v2, .int v3].toArray below meth c QQ (dC, dI) A (wM h0 a cI cB cJ cZ s) 497 29 [(0, .ref h0), (2, .int x2), (3, .int x3)] [.int t0] := by
    intro k_3 hk_3 x2 x3 t0 s hf H locs ls hP hD hS hl
    unfold bk_M_run_497 at hf
    refine lv_istore (lv' := [(7, .int t0), (0, .ref h0), (2, .int x2), (3, .int x3)]) hx hb dn_M_run_497 hl (by decide) rfl (fun ls hl => ?_)
    refine lv_goto (tgt := 512) hx hb dn_M_run_499 (by decide) ?_
    refine lv_iload hx hb dn_M_run_512 (lv_at hl 0 rfl) ?_
    refine lv_istore (lv' := [(4, .int t0), (7, .int t0), (0, .ref h0), (2, .int x2), (3, .int x3)]) hx hb dn_M_run_514 hl (by decide) rfl (fun ls hl => ?_)
    refine lv_goto (tgt := 3) hx hb dn_M_run_516 (by decide) ?_
    exact hk_3 x2 x3 t0 s hf H locs ls hP hD hS (lv_sub hl [2, 3, 4, 0] rfl)
  have hd_3 : ∀ (n : Nat) (x2 : Int32) (x3 : Int32) (x4 : Int32) (s : ms), hd_M_run_3 N n x2 x3 x4 s = some y → dcC p l e ({ frames := 2, cells := 0, slots := 0, locals := 48 }) s0 m [.ref h0, .int v1, .int v2, .int v3].toArray below meth c QQ (dC, dI) A (wM h0 a cI cB cJ cZ s) 3 29 [(0, .ref h0), (2, .int x2), (3, .int x3), (4, .int x4)] [] := by
    intro n
    induction n with
    | zero => intro x2 x3 x4 s hf; cases hf
    | succ n ih =>
      intro x2 x3 x4 s hf H locs ls hP hD hS hl
      have hf : bd_M_run_3 N (hd_M_run_3 N n) x2 x3 x4 s = some y := hf
      have hk_3 := ih
      generalize hd_M_run_3 N n = k_3 at hf hk_3
      unfold bd_M_run_3 at hf
      refine lv_iload hx hb dn_M_run_3 (lv_at hl 3 rfl) ?_
      refine lv_iload_n hx hb dn_M_run_5 rfl (lv_at hl 1 rfl) ?_
      refine lv_icmp_ge (tgt := 519) hx hb dn_M_run_6 (by decide) (fun h => ?_) (fun h => ?_)
      · have hf := (if_pos h).symm.trans hf
        rw [hQQ, ← Option.some.inj hf]
        exact xk_vret (w1 := fun u : Unit => (wM h0 a cI cB cJ cZ s)) () hx hb hr hlocks hK hS dn_M_run_519 hP hD trivial (Nat.le_refl _) (Nat.le_refl _)
      · have hf := (if_neg h).symm.trans hf
        refine lv_aload_n hx hb dn_M_run_9 rfl (lv_at hl 0 rfl) ?_
        refine va_get (D := (dC, dI)) (ci := 0) (v := .ref ((a 41))) (C := rn_M) (T := fn_M) (N := 91) hx hb hg in_M hown hK hP 0 rfl rfl 41 (by decide) (hg _ wn_8_114) (fun _ h9 => h9) rfl dn_M_run_10 ?_
        refine lv_iload hx hb dn_M_run_13 (lv_at hl 3 rfl) ?_
        refine lv_iconst (v := 1) hx hb dn_M_run_15 (by decide) ?_
        refine lv_iadd hx hb dn_M_run_16 ?_
        obtain ⟨hg_1, hf⟩ := dc_g hf
        refine va_iald hx hb hK hP 28 0 rfl rfl hg_1 dn_M_run_17 ?_
        refine xk_ti (y := ((s.1 41) (Int32.toNatClampNeg ((x4 + 1))))) rfl ?_
        refine lv_istore (lv' := [(5, .int (((s.1 41) (Int32.toNatClampNeg ((x4 + 1)))))), (0, .ref h0), (2, .int x2), (3, .int x3), (4, .int x4)]) hx hb dn_M_run_18 hl (by decide) rfl (fun ls hl => ?_)
        refine lv_aload_n hx hb dn_M_run_20 rfl (lv_at hl 1 rfl) ?_
        refine va_get (D := (dC, dI)) (ci := 0) (v := .ref ((a 41))) (C := rn_M) (T := fn_M) (N := 91) hx hb hg in_M hown hK hP 0 rfl rfl 41 (by decide) (hg _ wn_8_114) (fun _ h9 => h9) rfl dn_M_run_21 ?_
        refine lv_iload hx hb dn_M_run_24 (lv_at hl 4 rfl) ?_
        refine lv_iconst (v := 2) hx hb dn_M_run_26 (by decide) ?_
        refine lv_iadd hx hb dn_M_run_27 ?_
        obtain ⟨hg_2, hf⟩ := dc_g hf
        refine va_iald hx hb hK hP 28 0 rfl rfl hg_2 dn_M_run_28 ?_
        refine xk_ti (y := ((s.1 41) (Int32.toNatClampNeg ((x4 + 2))))) rfl ?_
        refine lv_istore (lv' := [(6, .int (((s.1 41) (Int32.toNatClampNeg ((x4 + 2)))))), (5, .int (((s.1 41) (Int32.toNatClampNeg ((x4 + 1)))))), (0, .ref h0), (2, .int x2), (3, .int x3), (4, .int x4)]) hx hb dn_M_run_29 hl (by decide) rfl (fun ls hl => ?_)
        refine lv_iload hx hb dn_M_run_31 (lv_at hl 5 rfl) ?_
        refine lv_iconst (v := 3) hx hb dn_M_run_33 (by decide) ?_
        refine lv_iadd hx hb dn_M_run_34 ?_
        refine lv_istore (lv' := [(7, .int ((x4 + 3))), (6, .int (((s.1 41) (Int32.toNatClampNeg ((x4 + 2)))))), (5, .int (((s.1 41) (Int32.toNatClampNeg ((x4 + 1)))))), (0, .ref h0), (2, .int x2), (3, .int x3), (4, .int x4)]) hx hb dn_M_run_35 hl (by decide) rfl (fun ls hl => ?_)
        refine lv_aload_n hx hb dn_M_run_37 rfl (lv_at hl 3 rfl) ?_
        refine va_get (D := (dC, dI)) (ci := 0) (v := .ref ((a 41))) (C := rn_M) (T := fn_M) (N := 91) hx hb hg in_M hown hK hP 0 rfl rfl 41 (by decide) (hg _ wn_8_114) (fun _ h9 => h9) rfl dn_M_run_38 ?_
        refine lv_iload hx hb dn_M_run_41 (lv_at hl 6 rfl) ?_
        obtain ⟨hg_3, hf⟩ := dc_g hf
        refine va_iald hx hb hK hP 28 0 rfl rfl hg_3 dn_M_run_43 ?_
        refine xk_ti (y := ((s.1 41) (Int32.toNatClampNeg x4))) rfl ?_
        by_cases h_0 : ((s.1 41) (Int32.toNatClampNeg x4)) = 0
        · have hf := (if_pos h_0).symm.trans hf
          refine xk_ti (y := 0) h_0 ?_
          refine lv_tableIn (tgt := 112) hx hb dn_M_run_44 (by decide) (by decide) rfl (by decide) ?_
          refine lv_aload_n hx hb dn_M_run_112 rfl (lv_at hl 3 rfl) ?_
          refine lv_aload_n hx hb dn_M_run_113 rfl (lv_at hl 3 rfl) ?_
          refine va_get (D := (dC, dI)) (ci := 0) (v := .ref ((a 43))) (C := rn_M) (T := fn_M) (N := 91) hx hb hg in_M hown hK hP 0 rfl rfl 43 (by decide) (hg _ wn_8_116) (fun _ h9 => h9) rfl dn_M_run_114 ?_
          refine lv_iload hx hb dn_M_run_117 (lv_at hl 2 rfl) ?_
          obtain ⟨hg_4, hf⟩ := dc_g hf
          refine va_lald hx hb hK hP 29 2 rfl rfl hg_4 dn_M_run_119 ?_
          refine xk_tl (y := ((s.2 43) (Int32.toNatClampNeg (((s.1 41) (Int32.toNatClampNeg ((x4 + 1)))))))) rfl ?_
          obtain ⟨q_5, hc_6, hf⟩ := dc_b hf
          refine dc_callv (dc_runV (ar := 1) (As := [.long (((s.2 43) (Int32.toNatClampNeg (((s.1 41) (Int32.toNatClampNeg ((x4 + 1))))))))]) (rest := []) (ci := 0) (q0 := 0) ⟨hx, hb, hml, hown, hg⟩ hK hN hT hS hA (ct_M_push l dC dI cI cB cJ cZ cQ N H.size h0 a (((s.2 43) (Int32.toNatClampNeg (((s.1 41) (Int32.toNatClampNeg ((x4 + 1)))))))) s q_5 hc_6) hP hD rfl rfl wn_10_217 wn_10_219 sn_M_push wn_1_13 wn_10_220 rfl rfl (by decide +kernel) ⟨Nat.le_of_ble_eq_true rfl, Nat.le_of_ble_eq_true rfl⟩ rfl hl.1 rfl (Nat.le_of_ble_eq_true rfl) dn_M_run_120 ⟨Nat.le_of_ble_eq_true rfl, Nat.le_of_ble_eq_true rfl⟩) hP hD hS hA (fun _ H locs hw hP hD hS => ?_)
          refine lv_goto (tgt := 512) hx hb dn_M_run_123 (by decide) ?_
          refine lv_iload hx hb dn_M_run_512 (lv_at hl 0 rfl) ?_
          refine lv_istore (lv' := [(4, .int ((x4 + 3))), (7, .int ((x4 + 3))), (6, .int (((s.1 41) (Int32.toNatClampNeg ((x4 + 2)))))), (5, .int (((s.1 41) (Int32.toNatClampNeg ((x4 + 1)))))), (0, .ref h0), (2, .int x2), (3, .int x3)]) hx hb dn_M_run_514 hl (by decide) rfl (fun ls hl => ?_)
          refine lv_goto (tgt := 3) hx hb dn_M_run_516 (by decide) ?_
          exact hk_3 x2 x3 ((x4 + 3)) q_5.2 hf H locs ls hP hD hS (lv_sub hl [4, 5, 6, 0] rfl)
        have hf := (if_neg h_0).symm.trans hf
        by_cases h_1 : ((s.1 41) (Int32.toNatClampNeg x4)) = 1
        · have hf := (if_pos h_1).symm.trans hf
          refine xk_ti (y := 1) h_1 ?_
          refine lv_tableIn (tgt := 126) hx hb dn_M_run_44 (by decide) (by decide) rfl (by decide) ?_
          refine lv_aload_n hx hb dn_M_run_126 rfl (lv_at hl 3 rfl) ?_
          refine lv_aload_n hx hb dn_M_run_127 rfl (lv_at hl 3 rfl) ?_
          refine va_get (D := (dC, dI)) (ci := 0) (v := .ref ((a 80))) (C := rn_M) (T := fn_M) (N := 91) hx hb hg in_M hown hK hP 0 rfl rfl 80 (by decide) (hg _ wn_8_153) (fun _ h9 => h9) rfl dn_M_run_128 ?_
          refine lv_aload_n hx hb dn_M_run_131 rfl (lv_at hl 3 rfl) ?_
          refine lv_iload_n hx hb dn_M_run_132 rfl (lv_at hl 5 rfl) ?_
          refine lv_iload hx hb dn_M_run_133 (lv_at hl 2 rfl) ?_
          obtain ⟨q_4, hc_5, hf⟩ := dc_b hf
          refine dc_calli (dc_runV (ar := 2) (As := [.int x3, .int (((s.1 41) (Int32.toNatClampNeg ((x4 + 1)))))]) (rest := [.ref ((a 80)), .ref h0]) (ci := 0) (q0 := 0) ⟨hx, hb, hml, hown, hg⟩ hK hN hT hS hA (ct_M_signalOf l dC dI cI cB cJ cZ cQ N H.size h0 a x3 (((s.1 41) (Int32.toNatClampNeg ((x4 + 1))))) s q_4 hc_5) hP hD rfl rfl wn_10_185 wn_10_187 sn_M_signalOf wn_1_13 wn_10_188 rfl rfl (by decide +kernel) ⟨Nat.le_of_ble_eq_true rfl, Nat.le_of_ble_eq_true rfl⟩ rfl hl.1 rfl (Nat.le_of_ble_eq_true rfl) dn_M_run_135 ⟨Nat.le_of_ble_eq_true rfl, Nat.le_of_ble_eq_true rfl⟩) hP hD hS hA (fun r_6 _ H locs hw hP hD hS => ?_)
          have hw : r_6 = q_4.1 := hw
          subst hw
          obtain ⟨hg_7, hf⟩ := dc_g hf
          refine va_lald hx hb hK hP 54 2 rfl rfl hg_7 dn_M_run_138 ?_
          refine xk_tl (y := ((q_4.2.2 80) (Int32.toNatClampNeg q_4.1))) rfl ?_
          obtain ⟨q_8, hc_9, hf⟩ := dc_b hf
          refine dc_callv (dc_runV (ar := 1) (As := [.long (((q_4.2.2 80) (Int32.toNatClampNeg q_4.1)))]) (rest := []) (ci := 0) (q0 := 0) ⟨hx, hb, hml, hown, hg⟩ hK hN hT hS hA (ct_M_push l dC dI cI cB cJ cZ cQ N H.size h0 a (((q_4.2.2 80) (Int32.toNatClampNeg q_4.1))) q_4.2 q_8 hc_9) hP hD rfl rfl wn_10_217 wn_10_219 sn_M_push wn_1_13 wn_10_220 rfl rfl (by decide +kernel) ⟨Nat.le_of_ble_eq_true rfl, Nat.le_of_ble_eq_true rfl⟩ rfl hl.1 rfl (Nat.le_of_ble_eq_true rfl) dn_M_run_139 ⟨Nat.le_of_ble_eq_true rfl, Nat.le_of_ble_eq_true rfl⟩) hP hD hS hA (fun _ H locs hw hP hD hS => ?_)
          refine lv_goto (tgt := 512) hx hb dn_M_run_142 (by decide) ?_
          refine lv_iload hx hb dn_M_run_512 (lv_at hl 0 rfl) ?_
          refine lv_istore (lv' := [(4, .int ((x4 + 3))), (7, .int ((x4 + 3))), (6, .int (((s.1 41) (Int32.toNatClampNeg ((x4 + 2)))))), (5, .int (((s.1 41) (Int32.toNatClampNeg ((x4 + 1)))))), (0, .ref h0), (2, .int x2), (3, .int x3)]) hx hb dn_M_run_514 hl (by decide) rfl (fun ls hl => ?_)
          refine lv_goto (tgt := 3) hx hb dn_M_run_516 (by decide) ?_
          exact hk_3 x2 x3 ((x4 + 3)) q_8.2 hf H locs ls hP hD hS (lv_sub hl [4, 5, 6, 0] rfl)
        have hf := (if_neg h_1).symm.trans hf
        by_cases h_2 : ((s.1 41) (Int32.toNatClampNeg x4)) = 2
        · have hf := (if_pos h_2).symm.trans hf
          refine xk_ti (y := 2) h_2 ?_
          refine lv_tableIn (tgt := 145) hx hb dn_M_run_44 (by decide) (by decide) rfl (by decide) ?_
          refine lv_aload_n hx hb dn_M_run_145 rfl (lv_at hl 3 rfl) ?_
          refine lv_aload_n hx hb dn_M_run_146 rfl (lv_at hl 3 rfl) ?_
          obtain ⟨q_4, hc_5, hf⟩ := dc_b hf
          refine dc_calll (dc_runV (ar := 0) (As := []) (rest := [.ref h0]) (ci := 0) (q0 := 0) ⟨hx, hb, hml, hown, hg⟩ hK hN hT hS hA (ct_M_pop l dC dI cI cB cJ cZ cQ N H.size h0 a s q_4 hc_5) hP hD rfl rfl wn_10_221 wn_10_223 sn_M_pop wn_1_13 wn_10_224 rfl rfl (by decide +kernel) ⟨Nat.le_of_ble_eq_true rfl, Nat.le_of_ble_eq_true rfl⟩ rfl hl.1 rfl (Nat.le_of_ble_eq_true rfl) dn_M_run_147 ⟨Nat.le_of_ble_eq_true rfl, Nat.le_of_ble_eq_true rfl⟩) hP hD hS hA (fun r_6 _ H locs hw hP hD hS => ?_)
          have hw : r_6 = q_4.1 := hw
          subst hw
          refine lv_iload hx hb dn_M_run_150 (lv_at hl 1 rfl) ?_
          refine lv_lushr (v := (Int64.toUInt64 q_4.1 >>> (Int64.toUInt64 (Int32.toInt64 (((s.1 41) (Int32.toNatClampNeg ((x4 + 2)))))) &&& Int64.toUInt64 63)).toInt64) hx hb dn_M_run_152 rfl ?_
          refine lv_iload hx hb dn_M_run_153 (lv_at hl 2 rfl) ?_
          refine lv_iload hx hb dn_M_run_155 (lv_at hl 1 rfl) ?_
          refine lv_isub hx hb dn_M_run_157 ?_
          refine lv_iconst (v := 1) hx hb dn_M_run_158 (by decide) ?_
          refine lv_iadd hx hb dn_M_run_159 ?_
          obtain ⟨q_7, hc_8, hf⟩ := dc_b hf
          refine dc_calll (dc_runS (ar := 1) (As := [.int (((((s.1 41) (Int32.toNatClampNeg ((x4 + 1)))) - ((s.1 41) (Int32.toNatClampNeg ((x4 + 2))))) + 1))]) (rest := [.long (((Int64.toUInt64 q_4.1 >>> (Int64.toUInt64 (Int32.toInt64 (((s.1 41) (Int32.toNatClampNeg ((x4 + 2)))))) &&& Int64.toUInt64 63)).toInt64)), .ref h0]) ⟨hx, hb, hml, hown, hg⟩ hK hN hT hS hA (ct_M_mask l dC dI cI cB cJ cZ cQ N H.size h0 a (((((s.1 41) (Int32.toNatClampNeg ((x4 + 1)))) - ((s.1 41) (Int32.toNatClampNeg ((x4 + 2))))) + 1)) q_4.2 q_7 hc_8) hP hD wn_10_225 wn_10_226 wn_1_13 wn_10_227 rfl rfl (by decide +kernel) ⟨Nat.le_of_ble_eq_true rfl, Nat.le_of_ble_eq_true rfl⟩ rfl hl.1 rfl (Nat.le_of_ble_eq_true rfl) dn_M_run_160 ⟨Nat.le_of_ble_eq_true rfl, Nat.le_of_ble_eq_true rfl⟩) hP hD hS hA (fun r_9 _ H locs hw hP hD hS => ?_)
          have hw : r_9 = q_7.1 := hw
          subst hw
          refine lv_land hx hb dn_M_run_163 ?_
          obtain ⟨q_10, hc_11, hf⟩ := dc_b hf
          refine dc_callv (dc_runV (ar := 1) (As := [.long ((((Int64.toUInt64 q_4.1 >>> (Int64.toUInt64 (Int32.toInt64 (((s.1 41) (Int32.toNatClampNeg ((x4 + 2)))))) &&& Int64.toUInt64 63)).toInt64) &&& q_7.1))]) (rest := []) (ci := 0) (q0 := 0) ⟨hx, hb, hml, hown, hg⟩ hK hN hT hS hA (ct_M_push l dC dI cI cB cJ cZ cQ N H.size h0 a ((((Int64.toUInt64 q_4.1 >>> (Int64.toUInt64 (Int32.toInt64 (((s.1 41) (Int32.toNatClampNeg ((x4 + 2)))))) &&& Int64.toUInt64 63)).toInt64) &&& q_7.1)) q_7.2 q_10 hc_11) hP hD rfl rfl wn_10_217 wn_10_219 sn_M_push wn_1_13 wn_10_220 rfl rfl (by decide +kernel) ⟨Nat.le_of_ble_eq_true rfl, Nat.le_of_ble_eq_true rfl⟩ rfl hl.1 rfl (Nat.le_of_ble_eq_true rfl) dn_M_run_164 ⟨Nat.le_of_ble_eq_true rfl, Nat.le_of_ble_eq_true rfl⟩) hP hD hS hA (fun _ H locs hw hP hD hS => ?_)
          refine lv_goto (tgt := 512) hx hb dn_M_run_167 (by decide) ?_
          refine lv_iload hx hb dn_M_run_512 (lv_at hl 0 rfl) ?_
          refine lv_istore (lv' := [(4, .int ((x4 + 3))), (7, .int ((x4 + 3))), (6, .int (((s.1 41) (Int32.toNatClampNeg ((x4 + 2)))))), (5, .int (((s.1 41) (Int32.toNatClampNeg ((x4 + 1)))))), (0, .ref h0), (2, .int x2), (3, .int x3)]) hx hb dn_M_run_514 hl (by decide) rfl (fun ls hl => ?_)
          refine lv_goto (tgt := 3) hx hb dn_M_run_516 (by decide) ?_
          exact hk_3 x2 x3 ((x4 + 3)) q_10.2 hf H locs ls hP hD hS (lv_sub hl [4, 5, 6, 0] rfl)
        have hf := (if_neg h_2).symm.trans hf
        by_cases h_3 : ((s.1 41) (Int32.toNatClampNeg x4)) = 3
        · have hf := (if_pos h_3).symm.trans hf
          refine xk_ti (y := 3) h_3 ?_
          refine lv_tableIn (tgt := 170) hx hb dn_M_run_44 (by decide) (by decide) rfl (by decide) ?_
          refine lv_aload_n hx hb dn_M_run_170 rfl (lv_at hl 3 rfl) ?_
          obtain ⟨q_4, hc_5, hf⟩ := dc_b hf
          refine dc_calll (dc_runV (ar := 0) (As := []) (rest := []) (ci := 0) (q0 := 0) ⟨hx, hb, hml, hown, hg⟩ hK hN hT hS hA (ct_M_pop l dC dI cI cB cJ cZ cQ N H.size h0 a s q_4 hc_5) hP hD rfl rfl wn_10_221 wn_10_223 sn_M_pop wn_1_13 wn_10_224 rfl rfl (by decide +kernel) ⟨Nat.le_of_ble_eq_true rfl, Nat.le_of_ble_eq_true rfl⟩ rfl hl.1 rfl (Nat.le_of_ble_eq_true rfl) dn_M_run_171 ⟨Nat.le_of_ble_eq_true rfl, Nat.le_of_ble_eq_true rfl⟩) hP hD hS hA (fun r_6 _ H locs hw hP hD hS => ?_)
          have hw : r_6 = q_4.1 := hw
          subst hw
          refine lv_lstore (lv' := [(8, .long q_4.1), (7, .int ((x4 + 3))), (6, .int (((s.1 41) (Int32.toNatClampNeg ((x4 + 2)))))), (5, .int (((s.1 41) (Int32.toNatClampNeg ((x4 + 1)))))), (0, .ref h0), (2, .int x2), (3, .int x3), (4, .int x4)]) hx hb dn_M_run_174 hl (by decide) rfl (fun ls hl => ?_)
          refine lv_aload_n hx hb dn_M_run_176 rfl (lv_at hl 4 rfl) ?_
          obtain ⟨q_7, hc_8, hf⟩ := dc_b hf
          refine dc_calll (dc_runV (ar := 0) (As := []) (rest := []) (ci := 0) (q0 := 0) ⟨hx, hb, hml, hown, hg⟩ hK hN hT hS hA (ct_M_pop l dC dI cI cB cJ cZ cQ N H.size h0 a q_4.2 q_7 hc_8) hP hD rfl rfl wn_10_221 wn_10_223 sn_M_pop wn_1_13 wn_10_224 rfl rfl (by decide +kernel) ⟨Nat.le_of_ble_eq_true rfl, Nat.le_of_ble_eq_true rfl⟩ rfl hl.1 rfl (Nat.le_of_ble_eq_true rfl) dn_M_run_177 ⟨Nat.le_of_ble_eq_true rfl, Nat.le_of_ble_eq_true rfl⟩) hP hD hS hA (fun r_9 _ H locs hw hP hD hS => ?_)
          have hw : r_9 = q_7.1 := hw
          subst hw
          refine lv_lstore (lv' := [(10, .long q_7.1), (8, .long q_4.1), (7, .int ((x4 + 3))), (6, .int (((s.1 41) (Int32.toNatClampNeg ((x4 + 2)))))), (5, .int (((s.1 41) (Int32.toNatClampNeg ((x4 + 1)))))), (0, .ref h0), (2, .int x2), (3, .int x3), (4, .int x4)]) hx hb dn_M_run_180 hl (by decide) rfl (fun ls hl => ?_)
          refine lv_aload_n hx hb dn_M_run_182 rfl (lv_at hl 5 rfl) ?_
          refine lv_lload hx hb dn_M_run_183 (lv_at hl 1 rfl) ?_
          refine lv_lconst (v := 0) hx hb dn_M_run_185 (by decide) ?_
          refine W.lcmp hx hb dn_M_run_186 ?_
          refine lv_if_lt (tgt := 199) hx hb dn_M_run_187 (by decide) (fun h => ?_) (fun h => ?_)
          · have hf := (if_pos h).symm.trans hf
            exact bl_199 k_3 hk_3 x2 x3 ((x4 + 3)) q_7.2 hf H locs ls hP hD hS (lv_sub hl [5, 6, 7, 2] rfl)
          · have hf := (if_neg h).symm.trans hf
            refine lv_lload hx hb dn_M_run_190 (lv_at hl 1 rfl) ?_
            refine lv_iload hx hb dn_M_run_192 (lv_at hl 4 rfl) ?_
            refine lv_i2l (v := Int32.toInt64 (((s.1 41) (Int32.toNatClampNeg ((x4 + 1)))))) hx hb dn_M_run_194 rfl ?_
            refine W.lcmp hx hb dn_M_run_195 ?_
            refine lv_if_lt (tgt := 203) hx hb dn_M_run_196 (by decide) (fun h => ?_) (fun h => ?_)
            · have hf := (if_pos h).symm.trans hf
              refine lv_lload hx hb dn_M_run_203 (lv_at hl 0 rfl) ?_
              refine lv_lload hx hb dn_M_run_205 (lv_at hl 1 rfl) ?_
              refine lv_l2i (v := Int64.toInt32 q_4.1) hx hb dn_M_run_207 rfl ?_
              refine lv_lushr (v := (Int64.toUInt64 q_7.1 >>> (Int64.toUInt64 (Int32.toInt64 ((Int64.toInt32 q_4.1))) &&& Int64.toUInt64 63)).toInt64) hx hb dn_M_run_208 rfl ?_
              refine lv_lconst (v := 1) hx hb dn_M_run_209 (by decide) ?_
              refine lv_land hx hb dn_M_run_210 ?_
              exact bl_211 k_3 hk_3 x2 x3 ((x4 + 3)) ((((Int64.toUInt64 q_7.1 >>> (Int64.toUInt64 (Int32.toInt64 ((Int64.toInt32 q_4.1))) &&& Int64.toUInt64 63)).toInt64) &&& 1)) q_7.2 hf H locs ls hP hD hS (lv_sub hl [5, 6, 7, 2] rfl)
            · have hf := (if_neg h).symm.trans hf
              exact bl_199 k_3 hk_3 x2 x3 ((x4 + 3)) q_7.2 hf H locs ls hP hD hS (lv_sub hl [5, 6, 7, 2] rfl)
        have hf := (if_neg h_3).symm.trans hf
        by_cases h_4 : ((s.1 41) (Int32.toNatClampNeg x4)) = 4
        · have hf := (if_pos h_4).symm.trans hf
          refine xk_ti (y := 4) h_4 ?_
          refine lv_tableIn (tgt := 217) hx hb dn_M_run_44 (by decide) (by decide) rfl (by decide) ?_
          refine lv_aload_n hx hb dn_M_run_217 rfl (lv_at hl 3 rfl) ?_
          refine lv_iload hx hb dn_M_run_218 (lv_at hl 2 rfl) ?_
          refine lv_iload hx hb dn_M_run_220 (lv_at hl 1 rfl) ?_
          refine lv_aload_n hx hb dn_M_run_222 rfl (lv_at hl 3 rfl) ?_
          obtain ⟨q_4, hc_5, hf⟩ := dc_b hf
          refine dc_calll (dc_runV (ar := 0) (As := []) (rest := [.int (((s.1 41) (Int32.toNatClampNeg ((x4 + 2))))), .int (((s.1 41) (Int32.toNatClampNeg ((x4 + 1))))), .ref h0]) (ci := 0) (q0 := 0) ⟨hx, hb, hml, hown, hg⟩ hK hN hT hS hA (ct_M_pop l dC dI cI cB cJ cZ cQ N H.size h0 a s q_4 hc_5) hP hD rfl rfl wn_10_221 wn_10_223 sn_M_pop wn_1_13 wn_10_224 rfl rfl (by decide +kernel) ⟨Nat.le_of_ble_eq_true rfl, Nat.le_of_ble_eq_true rfl⟩ rfl hl.1 rfl (Nat.le_of_ble_eq_true rfl) dn_M_run_223 ⟨Nat.le_of_ble_eq_true rfl, Nat.le_of_ble_eq_true rfl⟩) hP hD hS hA (fun r_6 _ H locs hw hP hD hS => ?_)
          have hw : r_6 = q_4.1 := hw
          subst hw
          obtain ⟨q_7, hc_8, hf⟩ := dc_b hf
          refine dc_calll (dc_runS (ar := 3) (As := [.int (((s.1 41) (Int32.toNatClampNeg ((x4 + 1))))), .int (((s.1 41) (Int32.toNatClampNeg ((x4 + 2))))), .long q_4.1]) (rest := [.ref h0]) ⟨hx, hb, hml, hown, hg⟩ hK hN hT hS hA (ct_M_one l dC dI cI cB cJ cZ cQ N H.size h0 a (((s.1 41) (Int32.toNatClampNeg ((x4 + 1))))) (((s.1 41) (Int32.toNatClampNeg ((x4 + 2))))) q_4.1 q_4.2 q_7 hc_8) hP hD wn_10_229 wn_10_230 wn_1_13 wn_10_231 rfl rfl (by decide +kernel) ⟨Nat.le_of_ble_eq_true rfl, Nat.le_of_ble_eq_true rfl⟩ rfl hl.1 rfl (Nat.le_of_ble_eq_true rfl) dn_M_run_226 ⟨Nat.le_of_ble_eq_true rfl, Nat.le_of_ble_eq_true rfl⟩) hP hD hS hA (fun r_9 _ H locs hw hP hD hS => ?_)
          have hw : r_9 = q_7.1 := hw
          subst hw
          obtain ⟨q_10, hc_11, hf⟩ := dc_b hf
          refine dc_callv (dc_runV (ar := 1) (As := [.long q_7.1]) (rest := []) (ci := 0) (q0 := 0) ⟨hx, hb, hml, hown, hg⟩ hK hN hT hS hA (ct_M_push l dC dI cI cB cJ cZ cQ N H.size h0 a q_7.1 q_7.2 q_10 hc_11) hP hD rfl rfl wn_10_217 wn_10_219 sn_M_push wn_1_13 wn_10_220 rfl rfl (by decide +kernel) ⟨Nat.le_of_ble_eq_true rfl, Nat.le_of_ble_eq_true rfl⟩ rfl hl.1 rfl (Nat.le_of_ble_eq_true rfl) dn_M_run_229 ⟨Nat.le_of_ble_eq_true rfl, Nat.le_of_ble_eq_true rfl⟩) hP hD hS hA (fun _ H locs hw hP hD hS => ?_)
          refine lv_goto (tgt := 512) hx hb dn_M_run_232 (by decide) ?_
          refine lv_iload hx hb dn_M_run_512 (lv_at hl 0 rfl) ?_
          refine lv_istore (lv' := [(4, .int ((x4 + 3))), (7, .int ((x4 + 3))), (6, .int (((s.1 41) (Int32.toNatClampNeg ((x4 + 2)))))), (5, .int (((s.1 41) (Int32.toNatClampNeg ((x4 + 1)))))), (0, .ref h0), (2, .int x2), (3, .int x3)]) hx hb dn_M_run_514 hl (by decide) rfl (fun ls hl => ?_)
          refine lv_goto (tgt := 3) hx hb dn_M_run_516 (by decide) ?_
          exact hk_3 x2 x3 ((x4 + 3)) q_10.2 hf H locs ls hP hD hS (lv_sub hl [4, 5, 6, 0] rfl)
        have hf := (if_neg h_4).symm.trans hf
        by_cases h_5 : ((s.1 41) (Int32.toNatClampNeg x4)) = 5
        · have hf := (if_pos h_5).symm.trans hf
          refine xk_ti (y := 5) h_5 ?_
          refine lv_tableIn (tgt := 235) hx hb dn_M_run_44 (by decide) (by decide) rfl (by decide) ?_
          refine lv_aload_n hx hb dn_M_run_235 rfl (lv_at hl 3 rfl) ?_
          obtain ⟨q_4, hc_5, hf⟩ := dc_b hf
          refine dc_calll (dc_runV (ar := 0) (As := []) (rest := []) (ci := 0) (q0 := 0) ⟨hx, hb, hml, hown, hg⟩ hK hN hT hS hA (ct_M_pop l dC dI cI cB cJ cZ cQ N H.size h0 a s q_4 hc_5) hP hD rfl rfl wn_10_221 wn_10_223 sn_M_pop wn_1_13 wn_10_224 rfl rfl (by decide +kernel) ⟨Nat.le_of_ble_eq_true rfl, Nat.le_of_ble_eq_true rfl⟩ rfl hl.1 rfl (Nat.le_of_ble_eq_true rfl) dn_M_run_236 ⟨Nat.le_of_ble_eq_true rfl, Nat.le_of_ble_eq_true rfl⟩) hP hD hS hA (fun r_6 _ H locs hw hP hD hS => ?_)
          have hw : r_6 = q_4.1 := hw
          subst hw
          refine lv_lstore (lv' := [(12, .long q_4.1), (7, .int ((x4 + 3))), (6, .int (((s.1 41) (Int32.toNatClampNeg ((x4 + 2)))))), (5, .int (((s.1 41) (Int32.toNatClampNeg ((x4 + 1)))))), (0, .ref h0), (2, .int x2), (3, .int x3), (4, .int x4)]) hx hb dn_M_run_239 hl (by decide) rfl (fun ls hl => ?_)
          refine lv_aload_n hx hb dn_M_run_241 rfl (lv_at hl 4 rfl) ?_
          obtain ⟨q_7, hc_8, hf⟩ := dc_b hf
          refine dc_calll (dc_runV (ar := 0) (As := []) (rest := []) (ci := 0) (q0 := 0) ⟨hx, hb, hml, hown, hg⟩ hK hN hT hS hA (ct_M_pop l dC dI cI cB cJ cZ cQ N H.size h0 a q_4.2 q_7 hc_8) hP hD rfl rfl wn_10_221 wn_10_223 sn_M_pop wn_1_13 wn_10_224 rfl rfl (by decide +kernel) ⟨Nat.le_of_ble_eq_true rfl, Nat.le_of_ble_eq_true rfl⟩ rfl hl.1 rfl (Nat.le_of_ble_eq_true rfl) dn_M_run_242 ⟨Nat.le_of_ble_eq_true rfl, Nat.le_of_ble_eq_true rfl⟩) hP hD hS hA (fun r_9 _ H locs hw hP hD hS => ?_)
          have hw : r_9 = q_7.1 := hw
          subst hw
          refine lv_lstore (lv' := [(14, .long q_7.1), (12, .long q_4.1), (7, .int ((x4 + 3))), (6, .int (((s.1 41) (Int32.toNatClampNeg ((x4 + 2)))))), (5, .int (((s.1 41) (Int32.toNatClampNeg ((x4 + 1)))))), (0, .ref h0), (2, .int x2), (3, .int x3), (4, .int x4)]) hx hb dn_M_run_245 hl (by decide) rfl (fun ls hl => ?_)
          refine lv_aload_n hx hb dn_M_run_247 rfl (lv_at hl 5 rfl) ?_
          refine lv_iload hx hb dn_M_run_248 (lv_at hl 4 rfl) ?_
          refine lv_iload hx hb dn_M_run_250 (lv_at hl 3 rfl) ?_
          refine lv_lload hx hb dn_M_run_252 (lv_at hl 0 rfl) ?_
          refine lv_lload hx hb dn_M_run_254 (lv_at hl 1 rfl) ?_
          obtain ⟨q_10, hc_11, hf⟩ := dc_b hf
          refine dc_calll (dc_runS (ar := 4) (As := [.int (((s.1 41) (Int32.toNatClampNeg ((x4 + 1))))), .int (((s.1 41) (Int32.toNatClampNeg ((x4 + 2))))), .long q_7.1, .long q_4.1]) (rest := [.ref h0]) ⟨hx, hb, hml, hown, hg⟩ hK hN hT hS hA (ct_M_two l dC dI cI cB cJ cZ cQ N H.size h0 a (((s.1 41) (Int32.toNatClampNeg ((x4 + 1))))) (((s.1 41) (Int32.toNatClampNeg ((x4 + 2))))) q_7.1 q_4.1 q_7.2 q_10 hc_11) hP hD wn_10_232 wn_10_233 wn_1_13 wn_10_234 rfl rfl (by decide +kernel) ⟨Nat.le_of_ble_eq_true rfl, Nat.le_of_ble_eq_true rfl⟩ rfl hl.1 rfl (Nat.le_of_ble_eq_true rfl) dn_M_run_256 ⟨Nat.le_of_ble_eq_true rfl, Nat.le_of_ble_eq_true rfl⟩) hP hD hS hA (fun r_12 _ H locs hw hP hD hS => ?_)
          have hw : r_12 = q_10.1 := hw
          subst hw
          obtain ⟨q_13, hc_14, hf⟩ := dc_b hf
          refine dc_callv (dc_runV (ar := 1) (As := [.long q_10.1]) (rest := []) (ci := 0) (q0 := 0) ⟨hx, hb, hml, hown, hg⟩ hK hN hT hS hA (ct_M_push l dC dI cI cB cJ cZ cQ N H.size h0 a q_10.1 q_10.2 q_13 hc_14) hP hD rfl rfl wn_10_217 wn_10_219 sn_M_push wn_1_13 wn_10_220 rfl rfl (by decide +kernel) ⟨Nat.le_of_ble_eq_true rfl, Nat.le_of_ble_eq_true rfl⟩ rfl hl.1 rfl (Nat.le_of_ble_eq_true rfl) dn_M_run_259 ⟨Nat.le_of_ble_eq_true rfl, Nat.le_of_ble_eq_true rfl⟩) hP hD hS hA (fun _ H locs hw hP hD hS => ?_)
          refine lv_goto (tgt := 512) hx hb dn_M_run_262 (by decide) ?_
          refine lv_iload hx hb dn_M_run_512 (lv_at hl 2 rfl) ?_
          refine lv_istore (lv' := [(4, .int ((x4 + 3))), (14, .long q_7.1), (12, .long q_4.1), (7, .int ((x4 + 3))), (6, .int (((s.1 41) (Int32.toNatClampNeg ((x4 + 2)))))), (5, .int (((s.1 41) (Int32.toNatClampNeg ((x4 + 1)))))), (0, .ref h0), (2, .int x2), (3, .int x3)]) hx hb dn_M_run_514 hl (by decide) rfl (fun ls hl => ?_)
          refine lv_goto (tgt := 3) hx hb dn_M_run_516 (by decide) ?_
          exact hk_3 x2 x3 ((x4 + 3)) q_13.2 hf H locs ls hP hD hS (lv_sub hl [6, 7, 8, 0] rfl)
        have hf := (if_neg h_5).symm.trans hf
        by_cases h_6 : ((s.1 41) (Int32.toNatClampNeg x4)) = 6
        · have hf := (if_pos h_6).symm.trans hf
          refine xk_ti (y := 6) h_6 ?_
          refine lv_tableIn (tgt := 265) hx hb dn_M_run_44 (by decide) (by decide) rfl (by decide) ?_
          refine lv_aload_n hx hb dn_M_run_265 rfl (lv_at hl 3 rfl) ?_
          obtain ⟨q_4, hc_5, hf⟩ := dc_b hf
          refine dc_calll (dc_runV (ar := 0) (As := []) (rest := []) (ci := 0) (q0 := 0) ⟨hx, hb, hml, hown, hg⟩ hK hN hT hS hA (ct_M_pop l dC dI cI cB cJ cZ cQ N H.size h0 a s q_4 hc_5) hP hD rfl rfl wn_10_221 wn_10_223 sn_M_pop wn_1_13 wn_10_224 rfl rfl (by decide +kernel) ⟨Nat.le_of_ble_eq_true rfl, Nat.le_of_ble_eq_true rfl⟩ rfl hl.1 rfl (Nat.le_of_ble_eq_true rfl) dn_M_run_266 ⟨Nat.le_of_ble_eq_true rfl, Nat.le_of_ble_eq_true rfl⟩) hP hD hS hA (fun r_6 _ H locs hw hP hD hS => ?_)
          have hw : r_6 = q_4.1 := hw
          subst hw
          refine lv_lstore (lv' := [(16, .long q_4.1), (7, .int ((x4 + 3))), (6, .int (((s.1 41) (Int32.toNatClampNeg ((x4 + 2)))))), (5, .int (((s.1 41) (Int32.toNatClampNeg ((x4 + 1)))))), (0, .ref h0), (2, .int x2), (3, .int x3), (4, .int x4)]) hx hb dn_M_run_269 hl (by decide) rfl (fun ls hl => ?_)
          refine lv_aload_n hx hb dn_M_run_271 rfl (lv_at hl 4 rfl) ?_
          obtain ⟨q_7, hc_8, hf⟩ := dc_b hf
          refine dc_calll (dc_runV (ar := 0) (As := []) (rest := []) (ci := 0) (q0 := 0) ⟨hx, hb, hml, hown, hg⟩ hK hN hT hS hA (ct_M_pop l dC dI cI cB cJ cZ cQ N H.size h0 a q_4.2 q_7 hc_8) hP hD rfl rfl wn_10_221 wn_10_223 sn_M_pop wn_1_13 wn_10_224 rfl rfl (by decide +kernel) ⟨Nat.le_of_ble_eq_true rfl, Nat.le_of_ble_eq_true rfl⟩ rfl hl.1 rfl (Nat.le_of_ble_eq_true rfl) dn_M_run_272 ⟨Nat.le_of_ble_eq_true rfl, Nat.le_of_ble_eq_true rfl⟩) hP hD hS hA (fun r_9 _ H locs hw hP hD hS => ?_)
          have hw : r_9 = q_7.1 := hw
          subst hw
          refine lv_lstore (lv' := [(18, .long q_7.1), (16, .long q_4.1), (7, .int ((x4 + 3))), (6, .int (((s.1 41) (Int32.toNatClampNeg ((x4 + 2)))))), (5, .int (((s.1 41) (Int32.toNatClampNeg ((x4 + 1)))))), (0, .ref h0), (2, .int x2), (3, .int x3), (4, .int x4)]) hx hb dn_M_run_275 hl (by decide) rfl (fun ls hl => ?_)
          refine lv_aload_n hx hb dn_M_run_277 rfl (lv_at hl 5 rfl) ?_
          refine lv_aload_n hx hb dn_M_run_278 rfl (lv_at hl 5 rfl) ?_
          obtain ⟨q_10, hc_11, hf⟩ := dc_b hf
          refine dc_calll (dc_runV (ar := 0) (As := []) (rest := [.ref h0]) (ci := 0) (q0 := 0) ⟨hx, hb, hml, hown, hg⟩ hK hN hT hS hA (ct_M_pop l dC dI cI cB cJ cZ cQ N H.size h0 a q_7.2 q_10 hc_11) hP hD rfl rfl wn_10_221 wn_10_223 sn_M_pop wn_1_13 wn_10_224 rfl rfl (by decide +kernel) ⟨Nat.le_of_ble_eq_true rfl, Nat.le_of_ble_eq_true rfl⟩ rfl hl.1 rfl (Nat.le_of_ble_eq_true rfl) dn_M_run_279 ⟨Nat.le_of_ble_eq_true rfl, Nat.le_of_ble_eq_true rfl⟩) hP hD hS hA (fun r_12 _ H locs hw hP hD hS => ?_)
          have hw : r_12 = q_10.1 := hw
          subst hw
          refine lv_lconst (v := 0) hx hb dn_M_run_282 (by decide) ?_
          refine W.lcmp hx hb dn_M_run_283 ?_
          refine lv_if_eq (tgt := 292) hx hb dn_M_run_284 (by decide) (fun h => ?_) (fun h => ?_)
          · have hf := (if_pos h).symm.trans hf
            refine lv_lload hx hb dn_M_run_292 (lv_at hl 1 rfl) ?_
            exact bl_294 k_3 hk_3 x2 x3 ((x4 + 3)) q_4.1 q_10.2 hf H locs ls hP hD hS (lv_sub hl [5, 6, 7, 2] rfl)
          · have hf := (if_neg h).symm.trans hf
            refine lv_lload hx hb dn_M_run_287 (lv_at hl 0 rfl) ?_
            refine lv_goto (tgt := 294) hx hb dn_M_run_289 (by decide) ?_
            exact bl_294 k_3 hk_3 x2 x3 ((x4 + 3)) q_7.1 q_10.2 hf H locs ls hP hD hS (lv_sub hl [5, 6, 7, 2] rfl)
        have hf := (if_neg h_6).symm.trans hf
        by_cases h_7 : ((s.1 41) (Int32.toNatClampNeg x4)) = 7
        · have hf := (if_pos h_7).symm.trans hf
          refine xk_ti (y := 7) h_7 ?_
          refine lv_tableIn (tgt := 300) hx hb dn_M_run_44 (by decide) (by decide) rfl (by decide) ?_
          refine lv_aload_n hx hb dn_M_run_300 rfl (lv_at hl 3 rfl) ?_
          obtain ⟨q_4, hc_5, hf⟩ := dc_b hf
          refine dc_calll (dc_runV (ar := 0) (As := []) (rest := []) (ci := 0) (q0 := 0) ⟨hx, hb, hml, hown, hg⟩ hK hN hT hS hA (ct_M_pop l dC dI cI cB cJ cZ cQ N H.size h0 a s q_4 hc_5) hP hD rfl rfl wn_10_221 wn_10_223 sn_M_pop wn_1_13 wn_10_224 rfl rfl (by decide +kernel) ⟨Nat.le_of_ble_eq_true rfl, Nat.le_of_ble_eq_true rfl⟩ rfl hl.1 rfl (Nat.le_of_ble_eq_true rfl) dn_M_run_301 ⟨Nat.le_of_ble_eq_true rfl, Nat.le_of_ble_eq_true rfl⟩) hP hD hS hA (fun r_6 _ H locs hw hP hD hS => ?_)
          have hw : r_6 = q_4.1 := hw
          subst hw
          refine lv_lstore (lv' := [(20, .long q_4.1), (7, .int ((x4 + 3))), (6, .int (((s.1 41) (Int32.toNatClampNeg ((x4 + 2)))))), (5, .int (((s.1 41) (Int32.toNatClampNeg ((x4 + 1)))))), (0, .ref h0), (2, .int x2), (3, .int x3), (4, .int x4)]) hx hb dn_M_run_304 hl (by decide) rfl (fun ls hl => ?_)
          refine lv_aload_n hx hb dn_M_run_306 rfl (lv_at hl 4 rfl) ?_
          refine lv_aload_n hx hb dn_M_run_307 rfl (lv_at hl 4 rfl) ?_
          obtain ⟨q_7, hc_8, hf⟩ := dc_b hf
          refine dc_calll (dc_runV (ar := 0) (As := []) (rest := [.ref h0]) (ci := 0) (q0 := 0) ⟨hx, hb, hml, hown, hg⟩ hK hN hT hS hA (ct_M_pop l dC dI cI cB cJ cZ cQ N H.size h0 a q_4.2 q_7 hc_8) hP hD rfl rfl wn_10_221 wn_10_223 sn_M_pop wn_1_13 wn_10_224 rfl rfl (by decide +kernel) ⟨Nat.le_of_ble_eq_true rfl, Nat.le_of_ble_eq_true rfl⟩ rfl hl.1 rfl (Nat.le_of_ble_eq_true rfl) dn_M_run_308 ⟨Nat.le_of_ble_eq_true rfl, Nat.le_of_ble_eq_true rfl⟩) hP hD hS hA (fun r_9 _ H locs hw hP hD hS => ?_)
          have hw : r_9 = q_7.1 := hw
          subst hw
          refine lv_iload hx hb dn_M_run_311 (lv_at hl 3 rfl) ?_
          refine lv_lshl (v := (q_7.1 : Int64) <<< ((Int32.toInt64 (((s.1 41) (Int32.toNatClampNeg ((x4 + 1)))))) &&& 63)) hx hb dn_M_run_313 rfl ?_
          refine lv_lload hx hb dn_M_run_314 (lv_at hl 0 rfl) ?_
          refine lv_lor hx hb dn_M_run_316 ?_
          obtain ⟨q_10, hc_11, hf⟩ := dc_b hf
          refine dc_callv (dc_runV (ar := 1) (As := [.long ((((q_7.1 : Int64) <<< ((Int32.toInt64 (((s.1 41) (Int32.toNatClampNeg ((x4 + 1)))))) &&& 63)) ||| q_4.1))]) (rest := []) (ci := 0) (q0 := 0) ⟨hx, hb, hml, hown, hg⟩ hK hN hT hS hA (ct_M_push l dC dI cI cB cJ cZ cQ N H.size h0 a ((((q_7.1 : Int64) <<< ((Int32.toInt64 (((s.1 41) (Int32.toNatClampNeg ((x4 + 1)))))) &&& 63)) ||| q_4.1)) q_7.2 q_10 hc_11) hP hD rfl rfl wn_10_217 wn_10_219 sn_M_push wn_1_13 wn_10_220 rfl rfl (by decide +kernel) ⟨Nat.le_of_ble_eq_true rfl, Nat.le_of_ble_eq_true rfl⟩ rfl hl.1 rfl (Nat.le_of_ble_eq_true rfl) dn_M_run_317 ⟨Nat.le_of_ble_eq_true rfl, Nat.le_of_ble_eq_true rfl⟩) hP hD hS hA (fun _ H locs hw hP hD hS => ?_)
          refine lv_goto (tgt := 512) hx hb dn_M_run_320 (by decide) ?_
          refine lv_iload hx hb dn_M_run_512 (lv_at hl 1 rfl) ?_
          refine lv_istore (lv' := [(4, .int ((x4 + 3))), (20, .long q_4.1), (7, .int ((x4 + 3))), (6, .int (((s.1 41) (Int32.toNatClampNeg ((x4 + 2)))))), (5, .int (((s.1 41) (Int32.toNatClampNeg ((x4 + 1)))))), (0, .ref h0), (2, .int x2), (3, .int x3)]) hx hb dn_M_run_514 hl (by decide) rfl (fun ls hl => ?_)
          refine lv_goto (tgt := 3) hx hb dn_M_run_516 (by decide) ?_
          exact hk_3 x2 x3 ((x4 + 3)) q_10.2 hf H locs ls hP hD hS (lv_sub hl [5, 6, 7, 0] rfl)
        have hf := (if_neg h_7).symm.trans hf
        by_cases h_8 : ((s.1 41) (Int32.toNatClampNeg x4)) = 8
        · have hf := (if_pos h_8).symm.trans hf
          refine xk_ti (y := 8) h_8 ?_
          refine lv_tableIn (tgt := 323) hx hb dn_M_run_44 (by decide) (by decide) rfl (by decide) ?_
          refine lv_aload_n hx hb dn_M_run_323 rfl (lv_at hl 3 rfl) ?_
          obtain ⟨q_4, hc_5, hf⟩ := dc_b hf
          refine dc_calll (dc_runV (ar := 0) (As := []) (rest := []) (ci := 0) (q0 := 0) ⟨hx, hb, hml, hown, hg⟩ hK hN hT hS hA (ct_M_pop l dC dI cI cB cJ cZ cQ N H.size h0 a s q_4 hc_5) hP hD rfl rfl wn_10_221 wn_10_223 sn_M_pop wn_1_13 wn_10_224 rfl rfl (by decide +kernel) ⟨Nat.le_of_ble_eq_true rfl, Nat.le_of_ble_eq_true rfl⟩ rfl hl.1 rfl (Nat.le_of_ble_eq_true rfl) dn_M_run_324 ⟨Nat.le_of_ble_eq_true rfl, Nat.le_of_ble_eq_true rfl⟩) hP hD hS hA (fun r_6 _ H locs hw hP hD hS => ?_)
          have hw : r_6 = q_4.1 := hw
          subst hw
          refine lv_lstore (lv' := [(22, .long q_4.1), (7, .int ((x4 + 3))), (6, .int (((s.1 41) (Int32.toNatClampNeg ((x4 + 2)))))), (5, .int (((s.1 41) (Int32.toNatClampNeg ((x4 + 1)))))), (0, .ref h0), (2, .int x2), (3, .int x3), (4, .int x4)]) hx hb dn_M_run_327 hl (by decide) rfl (fun ls hl => ?_)
          refine lv_lload hx hb dn_M_run_329 (lv_at hl 0 rfl) ?_
          refine lv_lstore (lv' := [(24, .long q_4.1), (22, .long q_4.1), (7, .int ((x4 + 3))), (6, .int (((s.1 41) (Int32.toNatClampNeg ((x4 + 2)))))), (5, .int (((s.1 41) (Int32.toNatClampNeg ((x4 + 1)))))), (0, .ref h0), (2, .int x2), (3, .int x3), (4, .int x4)]) hx hb dn_M_run_331 hl (by decide) rfl (fun ls hl => ?_)
          refine lv_iconst (v := 1) hx hb dn_M_run_333 (by decide) ?_
          refine lv_istore (lv' := [(26, .int 1), (24, .long q_4.1), (22, .long q_4.1), (7, .int ((x4 + 3))), (6, .int (((s.1 41) (Int32.toNatClampNeg ((x4 + 2)))))), (5, .int (((s.1 41) (Int32.toNatClampNeg ((x4 + 1)))))), (0, .ref h0), (2, .int x2), (3, .int x3), (4, .int x4)]) hx hb dn_M_run_334 hl (by decide) rfl (fun ls hl => ?_)
          exact hd_336 k_3 hk_3 N x2 x3 (((s.1 41) (Int32.toNatClampNeg ((x4 + 1))))) (((s.1 41) (Int32.toNatClampNeg ((x4 + 2))))) ((x4 + 3)) q_4.1 q_4.1 1 q_4.2 hf H locs ls hP hD hS (lv_sub hl [6, 7, 8, 5, 4, 3, 2, 1, 0] rfl)
        have hf := (if_neg h_8).symm.trans hf
        by_cases h_9 : ((s.1 41) (Int32.toNatClampNeg x4)) = 9
        · have hf := (if_pos h_9).symm.trans hf
          refine xk_ti (y := 9) h_9 ?_
          refine lv_tableIn (tgt := 368) hx hb dn_M_run_44 (by decide) (by decide) rfl (by decide) ?_
          refine lv_aload_n hx hb dn_M_run_368 rfl (lv_at hl 3 rfl) ?_
          refine lv_iload_n hx hb dn_M_run_369 rfl (lv_at hl 5 rfl) ?_
          refine lv_iload hx hb dn_M_run_370 (lv_at hl 2 rfl) ?_
          obtain ⟨q_4, hc_5, hf⟩ := dc_b hf
          refine dc_calli (dc_runV (ar := 2) (As := [.int x3, .int (((s.1 41) (Int32.toNatClampNeg ((x4 + 1)))))]) (rest := []) (ci := 0) (q0 := 0) ⟨hx, hb, hml, hown, hg⟩ hK hN hT hS hA (ct_M_signalOf l dC dI cI cB cJ cZ cQ N H.size h0 a x3 (((s.1 41) (Int32.toNatClampNeg ((x4 + 1))))) s q_4 hc_5) hP hD rfl rfl wn_10_185 wn_10_187 sn_M_signalOf wn_1_13 wn_10_188 rfl rfl (by decide +kernel) ⟨Nat.le_of_ble_eq_true rfl, Nat.le_of_ble_eq_true rfl⟩ rfl hl.1 rfl (Nat.le_of_ble_eq_true rfl) dn_M_run_372 ⟨Nat.le_of_ble_eq_true rfl, Nat.le_of_ble_eq_true rfl⟩) hP hD hS hA (fun r_6 _ H locs hw hP hD hS => ?_)
          have hw : r_6 = q_4.1 := hw
          subst hw
          refine lv_istore (lv' := [(26, .int q_4.1), (7, .int ((x4 + 3))), (6, .int (((s.1 41) (Int32.toNatClampNeg ((x4 + 2)))))), (5, .int (((s.1 41) (Int32.toNatClampNeg ((x4 + 1)))))), (0, .ref h0), (2, .int x2), (3, .int x3), (4, .int x4)]) hx hb dn_M_run_375 hl (by decide) rfl (fun ls hl => ?_)
          refine lv_iload hx hb dn_M_run_377 (lv_at hl 2 rfl) ?_
          refine lv_sipush (v := 256) hx hb dn_M_run_379 (by decide) ?_
          refine lv_idiv hx hb dn_M_run_382 (by decide) ?_
          refine lv_iload hx hb dn_M_run_383 (lv_at hl 2 rfl) ?_
          refine lv_sipush (v := 256) hx hb dn_M_run_385 (by decide) ?_
          refine lv_irem hx hb dn_M_run_388 (by decide) ?_
          refine lv_isub hx hb dn_M_run_389 ?_
          refine lv_iconst (v := 1) hx hb dn_M_run_390 (by decide) ?_
          refine lv_iadd hx hb dn_M_run_391 ?_
          obtain ⟨q_7, hc_8, hf⟩ := dc_b hf
          refine dc_calll (dc_runS (ar := 1) (As := [.int ((((((s.1 41) (Int32.toNatClampNeg ((x4 + 2)))) / 256) - (((s.1 41) (Int32.toNatClampNeg ((x4 + 2)))) - ((s.1 41) (Int32.toNatClampNeg ((x4 + 2)))) / 256 * 256)) + 1))]) (rest := []) ⟨hx, hb, hml, hown, hg⟩ hK hN hT hS hA (ct_M_mask l dC dI cI cB cJ cZ cQ N H.size h0 a ((((((s.1 41) (Int32.toNatClampNeg ((x4 + 2)))) / 256) - (((s.1 41) (Int32.toNatClampNeg ((x4 + 2)))) - ((s.1 41) (Int32.toNatClampNeg ((x4 + 2)))) / 256 * 256)) + 1)) q_4.2 q_7 hc_8) hP hD wn_10_225 wn_10_226 wn_1_13 wn_10_227 rfl rfl (by decide +kernel) ⟨Nat.le_of_ble_eq_true rfl, Nat.le_of_ble_eq_true rfl⟩ rfl hl.1 rfl (Nat.le_of_ble_eq_true rfl) dn_M_run_392 ⟨Nat.le_of_ble_eq_true rfl, Nat.le_of_ble_eq_true rfl⟩) hP hD hS hA (fun r_9 _ H locs hw hP hD hS => ?_)
          have hw : r_9 = q_7.1 := hw
          subst hw
          refine lv_iload hx hb dn_M_run_395 (lv_at hl 2 rfl) ?_
          refine lv_sipush (v := 256) hx hb dn_M_run_397 (by decide) ?_
          refine lv_irem hx hb dn_M_run_400 (by decide) ?_
          refine lv_lshl (v := (q_7.1 : Int64) <<< ((Int32.toInt64 ((((s.1 41) (Int32.toNatClampNeg ((x4 + 2)))) - ((s.1 41) (Int32.toNatClampNeg ((x4 + 2)))) / 256 * 256))) &&& 63)) hx hb dn_M_run_401 rfl ?_
          refine lv_lstore (lv' := [(27, .long (((q_7.1 : Int64) <<< ((Int32.toInt64 ((((s.1 41) (Int32.toNatClampNeg ((x4 + 2)))) - ((s.1 41) (Int32.toNatClampNeg ((x4 + 2)))) / 256 * 256))) &&& 63)))), (26, .int q_4.1), (7, .int ((x4 + 3))), (6, .int (((s.1 41) (Int32.toNatClampNeg ((x4 + 2)))))), (5, .int (((s.1 41) (Int32.toNatClampNeg ((x4 + 1)))))), (0, .ref h0), (2, .int x2), (3, .int x3), (4, .int x4)]) hx hb dn_M_run_402 hl (by decide) rfl (fun ls hl => ?_)
          refine lv_aload_n hx hb dn_M_run_404 rfl (lv_at hl 5 rfl) ?_
          refine va_get (D := (dC, dI)) (ci := 0) (v := .ref ((a 81))) (C := rn_M) (T := fn_M) (N := 91) hx hb hg in_M hown hK hP 0 rfl rfl 81 (by decide) (hg _ wn_8_154) (fun _ h9 => h9) rfl dn_M_run_405 ?_
          refine lv_iload hx hb dn_M_run_408 (lv_at hl 1 rfl) ?_
          refine lv_aload_n hx hb dn_M_run_410 rfl (lv_at hl 5 rfl) ?_
          refine va_get (D := (dC, dI)) (ci := 0) (v := .ref ((a 81))) (C := rn_M) (T := fn_M) (N := 91) hx hb hg in_M hown hK hP 0 rfl rfl 81 (by decide) (hg _ wn_8_154) (fun _ h9 => h9) rfl dn_M_run_411 ?_
          refine lv_iload hx hb dn_M_run_414 (lv_at hl 1 rfl) ?_
          obtain ⟨hg_10, hf⟩ := dc_g hf
          refine va_lald hx hb hK hP 55 2 rfl rfl hg_10 dn_M_run_416 ?_
          refine xk_tl (y := ((q_7.2.2 81) (Int32.toNatClampNeg q_4.1))) rfl ?_
          refine lv_lload hx hb dn_M_run_417 (lv_at hl 0 rfl) ?_
          refine lv_ldc2 hx hb hown (hg _ wn_10_228) dn_M_run_419 ?_
          refine lv_lxor hx hb dn_M_run_422 ?_
          refine lv_land hx hb dn_M_run_423 ?_
          refine lv_aload_n hx hb dn_M_run_424 rfl (lv_at hl 5 rfl) ?_
          obtain ⟨q_11, hc_12, hf⟩ := dc_b hf
          refine dc_calll (dc_runV (ar := 0) (As := []) (rest := [.long ((((q_7.2.2 81) (Int32.toNatClampNeg q_4.1)) &&& (((q_7.1 : Int64) <<< ((Int32.toInt64 ((((s.1 41) (Int32.toNatClampNeg ((x4 + 2)))) - ((s.1 41) (Int32.toNatClampNeg ((x4 + 2)))) / 256 * 256))) &&& 63)) ^^^ (-1)))), .int q_4.1, .ref ((a 81))]) (ci := 0) (q0 := 0) ⟨hx, hb, hml, hown, hg⟩ hK hN hT hS hA (ct_M_pop l dC dI cI cB cJ cZ cQ N H.size h0 a q_7.2 q_11 hc_12) hP hD rfl rfl wn_10_221 wn_10_223 sn_M_pop wn_1_13 wn_10_224 rfl rfl (by decide +kernel) ⟨Nat.le_of_ble_eq_true rfl, Nat.le_of_ble_eq_true rfl⟩ rfl hl.1 rfl (Nat.le_of_ble_eq_true rfl) dn_M_run_425 ⟨Nat.le_of_ble_eq_true rfl, Nat.le_of_ble_eq_true rfl⟩) hP hD hS hA (fun r_13 _ H locs hw hP hD hS => ?_)
          have hw : r_13 = q_11.1 := hw
          subst hw
          refine lv_iload hx hb dn_M_run_428 (lv_at hl 3 rfl) ?_
          refine lv_sipush (v := 256) hx hb dn_M_run_430 (by decide) ?_
          refine lv_irem hx hb dn_M_run_433 (by decide) ?_
          refine lv_lshl (v := (q_11.1 : Int64) <<< ((Int32.toInt64 ((((s.1 41) (Int32.toNatClampNeg ((x4 + 2)))) - ((s.1 41) (Int32.toNatClampNeg ((x4 + 2)))) / 256 * 256))) &&& 63)) hx hb dn_M_run_434 rfl ?_
          refine lv_lor hx hb dn_M_run_435 ?_
          obtain ⟨hg_14, hf⟩ := dc_g hf
          refine va_last hx hb hK hP hD hS 55 2 rfl rfl hg_14 dn_M_run_436 (fun H locs hP hD hS => ?_)
          have hP : va_P (dC, dI) xcl ((wM h0 a cI cB cJ cZ q_11.2).set 55 ((a 81), .inl (cJ, 1100, .inr (.inl (vp_updL (q_11.2.2 81) (Int32.toNatClampNeg q_4.1) (((((q_7.2.2 81) (Int32.toNatClampNeg q_4.1)) &&& (((q_7.1 : Int64) <<< ((Int32.toInt64 ((((s.1 41) (Int32.toNatClampNeg ((x4 + 2)))) - ((s.1 41) (Int32.toNatClampNeg ((x4 + 2)))) / 256 * 256))) &&& 63)) ^^^ (-1))) ||| ((q_11.1 : Int64) <<< ((Int32.toInt64 ((((s.1 41) (Int32.toNatClampNeg ((x4 + 2)))) - ((s.1 41) (Int32.toNatClampNeg ((x4 + 2)))) / 256 * 256))) &&& 63))))))))) H := hP
          have hD : va_D A ((wM h0 a cI cB cJ cZ q_11.2).set 55 ((a 81), .inl (cJ, 1100, .inr (.inl (vp_updL (q_11.2.2 81) (Int32.toNatClampNeg q_4.1) (((((q_7.2.2 81) (Int32.toNatClampNeg q_4.1)) &&& (((q_7.1 : Int64) <<< ((Int32.toInt64 ((((s.1 41) (Int32.toNatClampNeg ((x4 + 2)))) - ((s.1 41) (Int32.toNatClampNeg ((x4 + 2)))) / 256 * 256))) &&& 63)) ^^^ (-1))) ||| ((q_11.1 : Int64) <<< ((Int32.toInt64 ((((s.1 41) (Int32.toNatClampNeg ((x4 + 2)))) - ((s.1 41) (Int32.toNatClampNeg ((x4 + 2)))) / 256 * 256))) &&& 63))))))))) := hD
          have hP := wM_P_81 hP
          have hD := wM_D_81 hD
          refine lv_goto (tgt := 512) hx hb dn_M_run_437 (by decide) ?_
          refine lv_iload hx hb dn_M_run_512 (lv_at hl 2 rfl) ?_
          refine lv_istore (lv' := [(4, .int ((x4 + 3))), (27, .long (((q_7.1 : Int64) <<< ((Int32.toInt64 ((((s.1 41) (Int32.toNatClampNeg ((x4 + 2)))) - ((s.1 41) (Int32.toNatClampNeg ((x4 + 2)))) / 256 * 256))) &&& 63)))), (26, .int q_4.1), (7, .int ((x4 + 3))), (6, .int (((s.1 41) (Int32.toNatClampNeg ((x4 + 2)))))), (5, .int (((s.1 41) (Int32.toNatClampNeg ((x4 + 1)))))), (0, .ref h0), (2, .int x2), (3, .int x3)]) hx hb dn_M_run_514 hl (by decide) rfl (fun ls hl => ?_)
          refine lv_goto (tgt := 3) hx hb dn_M_run_516 (by decide) ?_
          exact hk_3 x2 x3 ((x4 + 3)) (upJ q_11.2 81 (vp_updL (q_11.2.2 81) (Int32.toNatClampNeg q_4.1) (((((q_7.2.2 81) (Int32.toNatClampNeg q_4.1)) &&& (((q_7.1 : Int64) <<< ((Int32.toInt64 ((((s.1 41) (Int32.toNatClampNeg ((x4 + 2)))) - ((s.1 41) (Int32.toNatClampNeg ((x4 + 2)))) / 256 * 256))) &&& 63)) ^^^ (-1))) ||| ((q_11.1 : Int64) <<< ((Int32.toInt64 ((((s.1 41) (Int32.toNatClampNeg ((x4 + 2)))) - ((s.1 41) (Int32.toNatClampNeg ((x4 + 2)))) / 256 * 256))) &&& 63)))))) hf H locs ls hP hD hS (lv_sub hl [6, 7, 8, 0] rfl)
        have hf := (if_neg h_9).symm.trans hf
        by_cases h_10 : ((s.1 41) (Int32.toNatClampNeg x4)) = 10
        · have hf := (if_pos h_10).symm.trans hf
          refine xk_ti (y := 10) h_10 ?_
          refine lv_tableIn (tgt := 440) hx hb dn_M_run_44 (by decide) (by decide) rfl (by decide) ?_
          refine lv_aload_n hx hb dn_M_run_440 rfl (lv_at hl 3 rfl) ?_
          obtain ⟨q_4, hc_5, hf⟩ := dc_b hf
          refine dc_calll (dc_runV (ar := 0) (As := []) (rest := []) (ci := 0) (q0 := 0) ⟨hx, hb, hml, hown, hg⟩ hK hN hT hS hA (ct_M_pop l dC dI cI cB cJ cZ cQ N H.size h0 a s q_4 hc_5) hP hD rfl rfl wn_10_221 wn_10_223 sn_M_pop wn_1_13 wn_10_224 rfl rfl (by decide +kernel) ⟨Nat.le_of_ble_eq_true rfl, Nat.le_of_ble_eq_true rfl⟩ rfl hl.1 rfl (Nat.le_of_ble_eq_true rfl) dn_M_run_441 ⟨Nat.le_of_ble_eq_true rfl, Nat.le_of_ble_eq_true rfl⟩) hP hD hS hA (fun r_6 _ H locs hw hP hD hS => ?_)
          have hw : r_6 = q_4.1 := hw
          subst hw
          refine lv_lconst (v := 0) hx hb dn_M_run_444 (by decide) ?_
          refine W.lcmp hx hb dn_M_run_445 ?_
          refine lv_if_ne (tgt := 454) hx hb dn_M_run_446 (by decide) (fun h => ?_) (fun h => ?_)
          · have hf := (if_neg h).symm.trans hf
            refine lv_iload hx hb dn_M_run_454 (lv_at hl 0 rfl) ?_
            exact bl_456 k_3 hk_3 x2 x3 ((x4 + 3)) q_4.2 hf H locs ls hP hD hS (lv_sub hl [3, 4, 5] rfl)
          · have hf := (if_pos h).symm.trans hf
            refine lv_iload hx hb dn_M_run_449 (lv_at hl 2 rfl) ?_
            refine lv_goto (tgt := 456) hx hb dn_M_run_451 (by decide) ?_
            exact bl_456 k_3 hk_3 x2 x3 (((s.1 41) (Int32.toNatClampNeg ((x4 + 1))))) q_4.2 hf H locs ls hP hD hS (lv_sub hl [3, 4, 5] rfl)
        have hf := (if_neg h_10).symm.trans hf
        by_cases h_11 : ((s.1 41) (Int32.toNatClampNeg x4)) = 11
        · have hf := (if_pos h_11).symm.trans hf
          refine xk_ti (y := 11) h_11 ?_
          refine lv_tableIn (tgt := 461) hx hb dn_M_run_44 (by decide) (by decide) rfl (by decide) ?_
          refine lv_iload hx hb dn_M_run_461 (lv_at hl 2 rfl) ?_
          refine lv_istore (lv' := [(7, .int (((s.1 41) (Int32.toNatClampNeg ((x4 + 1)))))), (6, .int (((s.1 41) (Int32.toNatClampNeg ((x4 + 2)))))), (5, .int (((s.1 41) (Int32.toNatClampNeg ((x4 + 1)))))), (0, .ref h0), (2, .int x2), (3, .int x3), (4, .int x4)]) hx hb dn_M_run_463 hl (by decide) rfl (fun ls hl => ?_)
          refine lv_goto (tgt := 512) hx hb dn_M_run_465 (by decide) ?_
          refine lv_iload hx hb dn_M_run_512 (lv_at hl 0 rfl) ?_
          refine lv_istore (lv' := [(4, .int (((s.1 41) (Int32.toNatClampNeg ((x4 + 1)))))), (7, .int (((s.1 41) (Int32.toNatClampNeg ((x4 + 1)))))), (6, .int (((s.1 41) (Int32.toNatClampNeg ((x4 + 2)))))), (5, .int (((s.1 41) (Int32.toNatClampNeg ((x4 + 1)))))), (0, .ref h0), (2, .int x2), (3, .int x3)]) hx hb dn_M_run_514 hl (by decide) rfl (fun ls hl => ?_)
          refine lv_goto (tgt := 3) hx hb dn_M_run_516 (by decide) ?_
          exact hk_3 x2 x3 (((s.1 41) (Int32.toNatClampNeg ((x4 + 1))))) s hf H locs ls hP hD hS (lv_sub hl [4, 5, 6, 0] rfl)
        have hf := (if_neg h_11).symm.trans hf
        by_cases h_12 : ((s.1 41) (Int32.toNatClampNeg x4)) = 12
        · have hf := (if_pos h_12).symm.trans hf
          refine xk_ti (y := 12) h_12 ?_
          refine lv_tableIn (tgt := 468) hx hb dn_M_run_44 (by decide) (by decide) rfl (by decide) ?_
          refine lv_aload_n hx hb dn_M_run_468 rfl (lv_at hl 3 rfl) ?_
          refine va_get (D := (dC, dI)) (ci := 0) (v := .ref ((a 84))) (C := rn_M) (T := fn_M) (N := 91) hx hb hg in_M hown hK hP 0 rfl rfl 84 (by decide) (hg _ wn_8_157) (fun _ h9 => h9) rfl dn_M_run_469 ?_
          refine lv_aload_n hx hb dn_M_run_472 rfl (lv_at hl 3 rfl) ?_
          refine va_get (D := (dC, dI)) (ci := 0) (v := .int ((s.1 85 0))) (C := rn_M) (T := fn_M) (N := 91) hx hb hg in_M hown hK hP 0 rfl rfl 85 (by decide) (hg _ wn_8_158) (fun _ h9 => h9) rfl dn_M_run_473 ?_
          refine lv_iconst (v := 1) hx hb dn_M_run_476 (by decide) ?_
          refine lv_isub hx hb dn_M_run_477 ?_
          obtain ⟨hg_4, hf⟩ := dc_g hf
          refine va_lald hx hb hK hP 58 2 rfl rfl hg_4 dn_M_run_478 ?_
          refine xk_tl (y := ((s.2 84) (Int32.toNatClampNeg (((s.1 85 0) - 1))))) rfl ?_
          refine lv_aload_n hx hb dn_M_run_479 rfl (lv_at hl 3 rfl) ?_
          refine va_get (D := (dC, dI)) (ci := 0) (v := .ref ((a 43))) (C := rn_M) (T := fn_M) (N := 91) hx hb hg in_M hown hK hP 0 rfl rfl 43 (by decide) (hg _ wn_8_116) (fun _ h9 => h9) rfl dn_M_run_480 ?_
          refine lv_iload hx hb dn_M_run_483 (lv_at hl 1 rfl) ?_
          obtain ⟨hg_5, hf⟩ := dc_g hf
          refine va_lald hx hb hK hP 29 2 rfl rfl hg_5 dn_M_run_485 ?_
          refine xk_tl (y := ((s.2 43) (Int32.toNatClampNeg (((s.1 41) (Int32.toNatClampNeg ((x4 + 2)))))))) rfl ?_
          refine W.lcmp hx hb dn_M_run_486 ?_
          refine lv_if_ne (tgt := 495) hx hb dn_M_run_487 (by decide) (fun h => ?_) (fun h => ?_)
          · have hf := (if_neg h).symm.trans hf
            refine lv_iload hx hb dn_M_run_495 (lv_at hl 0 rfl) ?_
            exact bl_497 k_3 hk_3 x2 x3 ((x4 + 3)) s hf H locs ls hP hD hS (lv_sub hl [3, 4, 5] rfl)
          · have hf := (if_pos h).symm.trans hf
            refine lv_iload hx hb dn_M_run_490 (lv_at hl 2 rfl) ?_
            refine lv_goto (tgt := 497) hx hb dn_M_run_492 (by decide) ?_
            exact bl_497 k_3 hk_3 x2 x3 (((s.1 41) (Int32.toNatClampNeg ((x4 + 1))))) s hf H locs ls hP hD hS (lv_sub hl [3, 4, 5] rfl)
        have hf := (if_neg h_12).symm.trans hf
        refine lv_tableOut (tgt := 502) hx hb dn_M_run_44 (dc_out (fun k h1 h2 => by rcases (show k = 0 ∨ k = 1 ∨ k = 2 ∨ k = 3 ∨ k = 4 ∨ k = 5 ∨ k = 6 ∨ k = 7 ∨ k = 8 ∨ k = 9 ∨ k = 10 ∨ k = 11 ∨ k = 12 by omega) with rfl | rfl | rfl | rfl | rfl | rfl | rfl | rfl | rfl | rfl | rfl | rfl | rfl <;> first | exact lv_neT h_0 (by decide) | exact lv_neT h_1 (by decide) | exact lv_neT h_2 (by decide) | exact lv_neT h_3 (by decide) | exact lv_neT h_4 (by decide) | exact lv_neT h_5 (by decide) | exact lv_neT h_6 (by decide) | exact lv_neT h_7 (by decide) | exact lv_neT h_8 (by decide) | exact lv_neT h_9 (by decide) | exact lv_neT h_10 (by decide) | exact lv_neT h_11 (by decide) | exact lv_neT h_12 (by decide)) (by decide)) (by decide) ?_
        refine lv_aload_n hx hb dn_M_run_502 rfl (lv_at hl 3 rfl) ?_
        refine lv_dup hx hb dn_M_run_503 rfl ?_
        refine va_get (D := (dC, dI)) (ci := 0) (v := .int ((s.1 85 0))) (C := rn_M) (T := fn_M) (N := 91) hx hb hg in_M hown hK hP 0 rfl rfl 85 (by decide) (hg _ wn_8_158) (fun _ h9 => h9) rfl dn_M_run_504 ?_
        refine lv_iconst (v := 1) hx hb dn_M_run_507 (by decide) ?_
        refine lv_isub hx hb dn_M_run_508 ?_
        refine va_put (D := (dC, dI)) (ci := 0) (v := .int (((s.1 85 0) - 1))) (ty := .int) (C := rn_M) (T := fn_M) (N := 91) hx hb hg in_M tn_M tk_M nn_M hown hK hP hD hS 0 rfl rfl 85 (by decide) (hg _ wn_8_158) (fun _ h9 => h9) rfl (tk_M 85 (by decide)) rfl rfl (Nat.le_of_ble_eq_true rfl) dn_M_run_509 (fun H locs hP hD hS => ?_)
        have hP := wM_P_85 hP
        have hD := wM_D_85 hD
        refine lv_iload hx hb dn_M_run_512 (lv_at hl 0 rfl) ?_
        refine lv_istore (lv' := [(4, .int ((x4 + 3))), (7, .int ((x4 + 3))), (6, .int (((s.1 41) (Int32.toNatClampNeg ((x4 + 2)))))), (5, .int (((s.1 41) (Int32.toNatClampNeg ((x4 + 1)))))), (0, .ref h0), (2, .int x2), (3, .int x3)]) hx hb dn_M_run_514 hl (by decide) rfl (fun ls hl => ?_)
        refine lv_goto (tgt := 3) hx hb dn_M_run_516 (by decide) ?_
        exact hk_3 x2 x3 ((x4 + 3)) (upI s 85 (fun _ => ((s.1 85 0) - 1))) hf H locs ls hP hD hS (lv_sub hl [4, 5, 6, 0] rfl)
  intro H locs ls hP hD hS hl
  unfold fn_M_run at hf
  refine lv_iload_n hx hb dn_M_run_0 rfl (lv_at hl 1 rfl) ?_
  refine lv_istore (lv' := [(4, .int v1), (0, .ref h0), (1, .int v1), (2, .int v2), (3, .int v3)]) hx hb dn_M_run_1 hl (by decide) rfl (fun ls hl => ?_)
  exact hd_3 N v2 v3 v1 s hf H locs ls hP hD hS (lv_sub hl [1, 3, 4, 0] rfl)
theorem mb_M_settle_82_83_56 (N : Nat) (y : (Unit × ms)) (k_56 : Int32 → ms → Option (Unit × ms)) (hkm_56 : ∀ (x3 : Int32) (s : ms), k_56 x3 s = some y → gl y.2 = gl s) (x3 : Int32) (s : ms) (hf : bd_M_settle_82_83_56 N k_56 x3 s = some y) : gl y.2 = gl s := by
  unfold bd_M_settle_82_83_56 at hf
  have hm : gl s = gl s := rfl
  by_cases h : (s.1 71 0) ≤ x3
  · have hf := (if_pos h).symm.trans hf
    exact (dc_e hf).trans hm
  · have hf := (if_neg h).symm.trans hf
    obtain ⟨_, hf⟩ := dc_g hf
    obtain ⟨_, hf⟩ := dc_g hf
    by_cases h : ((s.1 66) (Int32.toNatClampNeg (((s.1 70) (Int32.toNatClampNeg x3))))) = 2
    · have hf := (if_pos h).symm.trans hf
      obtain ⟨_, hf⟩ := dc_g hf
      obtain ⟨_, hf⟩ := dc_g hf
      obtain ⟨_, hf⟩ := dc_g hf
      exact (hkm_56 ((x3 + 1)) (upJ s 80 (vp_updL (s.2 80) (Int32.toNatClampNeg (((s.1 70) (Int32.toNatClampNeg x3)))) (((s.2 80) (Int32.toNatClampNeg (((s.1 67) (Int32.toNatClampNeg (((s.1 70) (Int32.toNatClampNeg x3))))))))))) hf).trans hm
    · have hf := (if_neg h).symm.trans hf
      obtain ⟨_, hf⟩ := dc_g hf
      obtain ⟨_, hf⟩ := dc_g hf
      obtain ⟨_, hf⟩ := dc_g hf
      obtain ⟨q_6, hc_7, hf⟩ := dc_b hf
      have hm := (mn_M_run N (((s.1 67) (Int32.toNatClampNeg (((s.1 70) (Int32.toNatClampNeg x3)))))) (((s.1 68) (Int32.toNatClampNeg (((s.1 70) (Int32.toNatClampNeg x3)))))) (((s.1 69) (Int32.toNatClampNeg (((s.1 70) (Int32.toNatClampNeg x3)))))) s q_6 hc_7).trans hm
      obtain ⟨q_8, hc_9, hf⟩ := dc_b hf
      have hm := (mn_M_pop N q_6.2 q_8 hc_9).trans hm
      obtain ⟨_, hf⟩ := dc_g hf
      exact (hkm_56 ((x3 + 1)) (upJ q_8.2 80 (vp_updL (q_8.2.2 80) (Int32.toNatClampNeg (((s.1 70) (Int32.toNatClampNeg x3)))) q_8.1)) hf).trans hm
theorem mh_M_settle_82_83_56 (N : Nat) (y : (Unit × ms)) : ∀ (n : Nat) (x3 : Int32) (s : ms), hd_M_settle_82_83_56 N n x3 s = some y → gl y.2 = gl s := by
  intro n
  induction n with
  | zero => intro x3 s hf; cases hf
  | succ n ih => intro x3 s hf; exact mb_M_settle_82_83_56 N y (hd_M_settle_82_83_56 N n) ih x3 s hf
theorem mo_M_settle_82_83_47 (N : Nat) (k_2 : Int32 → ms → Option (Unit × ms)) (y : (Unit × ms)) (hkm_2 : ∀ (x3 : Int32) (s : ms), k_2 x3 s = some y → gl y.2 = gl s) (x3 : Int32) (t0 : Int64) (t1 : Int32) (s : ms) (hf : bk_M_settle_82_83_47 N k_2 x3 t0 t1 s = some y) : gl y.2 = gl s := by
  unfold bk_M_settle_82_83_47 at hf
  have hm : gl s = gl s := rfl
  obtain ⟨_, hf⟩ := dc_g hf
  exact (hkm_2 ((x3 + 1)) (upJ s 80 (vp_updL (s.2 80) (Int32.toNatClampNeg t1) t0)) hf).trans hm
theorem mb_M_settle_82_83_2 (N : Nat) (y : (Unit × ms)) (k_2 : Int32 → ms → Option (Unit × ms)) (hkm_2 : ∀ (x3 : Int32) (s : ms), k_2 x3 s = some y → gl y.2 = gl s) (x3 : Int32) (s : ms) (hf : bd_M_settle_82_83_2 N k_2 x3 s = some y) : gl y.2 = gl s := by
  unfold bd_M_settle_82_83_2 at hf
  have hm : gl s = gl s := rfl
  by_cases h : (s.1 63 0) ≤ x3
  · have hf := (if_pos h).symm.trans hf
    exact (mh_M_settle_82_83_56 N y N 0 s hf).trans hm
  · have hf := (if_neg h).symm.trans hf
    obtain ⟨_, hf⟩ := dc_g hf
    by_cases h : ((s.1 66) (Int32.toNatClampNeg x3)) = 0
    · have hf := (if_pos h).symm.trans hf
      obtain ⟨_, hf⟩ := dc_g hf
      obtain ⟨_, hf⟩ := dc_g hf
      by_cases h : ((s.1 21) (Int32.toNatClampNeg (((s.1 64) (Int32.toNatClampNeg x3))))) = 0
      · have hf := (if_pos h).symm.trans hf
        obtain ⟨_, hf⟩ := dc_g hf
        exact (mo_M_settle_82_83_47 N k_2 y hkm_2 x3 (((s.2 83) (Int32.toNatClampNeg x3))) x3 s hf).trans hm
      · have hf := (if_neg h).symm.trans hf
        obtain ⟨_, hf⟩ := dc_g hf
        exact (mo_M_settle_82_83_47 N k_2 y hkm_2 x3 (((s.2 82) (Int32.toNatClampNeg x3))) x3 s hf).trans hm
    · have hf := (if_neg h).symm.trans hf
      exact (hkm_2 ((x3 + 1)) s hf).trans hm
theorem mh_M_settle_82_83_2 (N : Nat) (y : (Unit × ms)) : ∀ (n : Nat) (x3 : Int32) (s : ms), hd_M_settle_82_83_2 N n x3 s = some y → gl y.2 = gl s := by
  intro n
  induction n with
  | zero => intro x3 s hf; cases hf
  | succ n ih => intro x3 s hf; exact mb_M_settle_82_83_2 N y (hd_M_settle_82_83_2 N n) ih x3 s hf
theorem mn_M_settle_82_83 (N : Nat) (s : ms) (y : (Unit × ms)) (hf : fn_M_settle_82_83 N s = some y) : gl y.2 = gl s := by
  unfold fn_M_settle_82_83 at hf
  have hm : gl s = gl s := rfl
  exact (mh_M_settle_82_83_2 N y N 0 s hf).trans hm
set_option maxHeartbeats 8000000 in
set_option maxRecDepth 100000 in
theorem ct_M_settle_82_83 (l : Launch) (dC : Nat → ClassId) (dI : Nat → Nat → Nat) (cI cB cJ cZ cQ : ClassId) (N sz : Nat) (h0 : Nat) (a : Nat → Nat) (s : ms) (y : (Unit × ms)) (hf : fn_M_settle_82_83 N s = some y) : Met l yn_M_settle (xw yn_M_settle bn_M_settle 5 none) ({ frames := 3, cells := 0, slots := 0, locals := 96 }) (dc_P (dC, dI) xcl (xt cI cB cJ cZ cQ) [.ref h0, .ref ((a 82)), .ref ((a 83))] sz (wM h0 a cI cB cJ cZ s)) (xk_Qv (dC, dI) xcl (xt cI cB cJ cZ cQ) (fun _ : Unit => True) (fun u : Unit => (wM h0 a cI cB cJ cZ y.2)) (va_A (wM h0 a cI cB cJ cZ s) sz)) 0 0 (va_A (wM h0 a cI cB cJ cZ s) sz) := by
  refine dc_of (QA := xk_Qv (dC, dI) xcl (xt cI cB cJ cZ cQ) (fun _ : Unit => True) (fun u : Unit => (wM h0 a cI cB cJ cZ y.2))) (by decide) (Nat.le_of_ble_eq_true rfl) ?_
  intro p e s0 m below meth c hx hb hml hown hg hr hlocks hin hP hK hN A hA hD hT ls hl
  have hown : s0.vm.findClass rn_M = some m.cls := hown
  obtain ⟨H, hH⟩ : ∃ z, z = s0.heap := ⟨_, rfl⟩
  rw [← hH] at hP
  have hS : va_S A s0.heap H [] := by rw [hH]; exact va_S.rf
  suffices kk : ∀ QQ : State → Prop, QQ = MQ below (xk_Qv (dC, dI) xcl (xt cI cB cJ cZ cQ) (fun _ : Unit => True) (fun u : Unit => (wM h0 a cI cB cJ cZ y.2)) A) [.ref h0, .ref ((a 82)), .ref ((a 83))].toArray s0 0 0 A → dcC p l e ({ frames := 3, cells := 0, slots := 0, locals := 96 }) s0 m [.ref h0, .ref ((a 82)), .ref ((a 83))].toArray below meth c QQ (dC, dI) A (wM h0 a cI cB cJ cZ s) 0 5 [(0, .ref h0), (1, .ref ((a 82))), (2, .ref ((a 83)))] [] by
    have k9 := kk _ rfl H [] ls hP hD hS hl
    rw [hH] at k9; exact k9
  clear hP hD hS hl hH H ls
  intro QQ hQQ
  have hd_56 : ∀ (n : Nat) (x3 : Int32) (s : ms), hd_M_settle_82_83_56 N n x3 s = some y → dcC p l e ({ frames := 3, cells := 0, slots := 0, locals := 96 }) s0 m [.ref h0, .ref ((a 82)), .ref ((a 83))].toArray below meth c QQ (dC, dI) A (wM h0 a cI cB cJ cZ s) 56 5 [(0, .ref h0), (3, .int x3)] [] := by
    intro n
    induction n with
    | zero => intro x3 s hf; cases hf
    | succ n ih =>
      intro x3 s hf H locs ls hP hD hS hl
      have hf : bd_M_settle_82_83_56 N (hd_M_settle_82_83_56 N n) x3 s = some y := hf
      have hk_56 := ih
      generalize hd_M_settle_82_83_56 N n = k_56 at hf hk_56
      unfold bd_M_settle_82_83_56 at hf
      refine lv_iload_n hx hb dn_M_settle_56 rfl (lv_at hl 1 rfl) ?_
      refine lv_aload_n hx hb dn_M_settle_57 rfl (lv_at hl 0 rfl) ?_
      refine va_get (D := (dC, dI)) (ci := 0) (v := .int ((s.1 71 0))) (C := rn_M) (T := fn_M) (N := 91) hx hb hg in_M hown hK hP 0 rfl rfl 71 (by decide) (hg _ wn_8_144) (fun _ h9 => h9) rfl dn_M_settle_58 ?_
      refine lv_icmp_ge (tgt := 147) hx hb dn_M_settle_61 (by decide) (fun h => ?_) (fun h => ?_)
      · have hf := (if_pos h).symm.trans hf
        rw [hQQ, ← Option.some.inj hf]
        exact xk_vret (w1 := fun u : Unit => (wM h0 a cI cB cJ cZ s)) () hx hb hr hlocks hK hS dn_M_settle_147 hP hD trivial (Nat.le_refl _) (Nat.le_refl _)
      · have hf := (if_neg h).symm.trans hf
        refine lv_aload_n hx hb dn_M_settle_64 rfl (lv_at hl 0 rfl) ?_
        refine va_get (D := (dC, dI)) (ci := 0) (v := .ref ((a 70))) (C := rn_M) (T := fn_M) (N := 91) hx hb hg in_M hown hK hP 0 rfl rfl 70 (by decide) (hg _ wn_8_143) (fun _ h9 => h9) rfl dn_M_settle_65 ?_
        refine lv_iload_n hx hb dn_M_settle_68 rfl (lv_at hl 1 rfl) ?_
        obtain ⟨hg_1, hf⟩ := dc_g hf
        refine va_iald hx hb hK hP 50 0 rfl rfl hg_1 dn_M_settle_69 ?_
        refine xk_ti (y := ((s.1 70) (Int32.toNatClampNeg x3))) rfl ?_
        refine lv_istore (lv' := [(4, .int (((s.1 70) (Int32.toNatClampNeg x3)))), (0, .ref h0), (3, .int x3)]) hx hb dn_M_settle_70 hl (by decide) rfl (fun ls hl => ?_)
        refine lv_aload_n hx hb dn_M_settle_72 rfl (lv_at hl 1 rfl) ?_
        refine va_get (D := (dC, dI)) (ci := 0) (v := .ref ((a 66))) (C := rn_M) (T := fn_M) (N := 91) hx hb hg in_M hown hK hP 0 rfl rfl 66 (by decide) (hg _ wn_8_139) (fun _ h9 => h9) rfl dn_M_settle_73 ?_
        refine lv_iload hx hb dn_M_settle_76 (lv_at hl 0 rfl) ?_
        obtain ⟨hg_2, hf⟩ := dc_g hf
        refine va_iald hx hb hK hP 46 0 rfl rfl hg_2 dn_M_settle_78 ?_
        refine xk_ti (y := ((s.1 66) (Int32.toNatClampNeg (((s.1 70) (Int32.toNatClampNeg x3)))))) rfl ?_
        refine lv_iconst (v := 2) hx hb dn_M_settle_79 (by decide) ?_
        refine lv_icmp_ne (tgt := 105) hx hb dn_M_settle_80 (by decide) (fun h => ?_) (fun h => ?_)
        · have hf := (if_neg h).symm.trans hf
          refine lv_aload_n hx hb dn_M_settle_105 rfl (lv_at hl 1 rfl) ?_
          refine lv_aload_n hx hb dn_M_settle_106 rfl (lv_at hl 1 rfl) ?_
          refine va_get (D := (dC, dI)) (ci := 0) (v := .ref ((a 67))) (C := rn_M) (T := fn_M) (N := 91) hx hb hg in_M hown hK hP 0 rfl rfl 67 (by decide) (hg _ wn_8_140) (fun _ h9 => h9) rfl dn_M_settle_107 ?_
          refine lv_iload hx hb dn_M_settle_110 (lv_at hl 0 rfl) ?_
          obtain ⟨hg_3, hf⟩ := dc_g hf
          refine va_iald hx hb hK hP 47 0 rfl rfl hg_3 dn_M_settle_112 ?_
          refine xk_ti (y := ((s.1 67) (Int32.toNatClampNeg (((s.1 70) (Int32.toNatClampNeg x3)))))) rfl ?_
          refine lv_aload_n hx hb dn_M_settle_113 rfl (lv_at hl 1 rfl) ?_
          refine va_get (D := (dC, dI)) (ci := 0) (v := .ref ((a 68))) (C := rn_M) (T := fn_M) (N := 91) hx hb hg in_M hown hK hP 0 rfl rfl 68 (by decide) (hg _ wn_8_141) (fun _ h9 => h9) rfl dn_M_settle_114 ?_
          refine lv_iload hx hb dn_M_settle_117 (lv_at hl 0 rfl) ?_
          obtain ⟨hg_4, hf⟩ := dc_g hf
          refine va_iald hx hb hK hP 48 0 rfl rfl hg_4 dn_M_settle_119 ?_
          refine xk_ti (y := ((s.1 68) (Int32.toNatClampNeg (((s.1 70) (Int32.toNatClampNeg x3)))))) rfl ?_
          refine lv_aload_n hx hb dn_M_settle_120 rfl (lv_at hl 1 rfl) ?_
          refine va_get (D := (dC, dI)) (ci := 0) (v := .ref ((a 69))) (C := rn_M) (T := fn_M) (N := 91) hx hb hg in_M hown hK hP 0 rfl rfl 69 (by decide) (hg _ wn_8_142) (fun _ h9 => h9) rfl dn_M_settle_121 ?_
          refine lv_iload hx hb dn_M_settle_124 (lv_at hl 0 rfl) ?_
          obtain ⟨hg_5, hf⟩ := dc_g hf
          refine va_iald hx hb hK hP 49 0 rfl rfl hg_5 dn_M_settle_126 ?_
          refine xk_ti (y := ((s.1 69) (Int32.toNatClampNeg (((s.1 70) (Int32.toNatClampNeg x3)))))) rfl ?_
          obtain ⟨q_6, hc_7, hf⟩ := dc_b hf
          refine dc_callv (dc_runV (ar := 3) (As := [.int (((s.1 67) (Int32.toNatClampNeg (((s.1 70) (Int32.toNatClampNeg x3)))))), .int (((s.1 68) (Int32.toNatClampNeg (((s.1 70) (Int32.toNatClampNeg x3)))))), .int (((s.1 69) (Int32.toNatClampNeg (((s.1 70) (Int32.toNatClampNeg x3))))))]) (rest := []) (ci := 0) (q0 := 0) ⟨hx, hb, hml, hown, hg⟩ hK hN hT hS hA (ct_M_run l dC dI cI cB cJ cZ cQ N H.size h0 a (((s.1 67) (Int32.toNatClampNeg (((s.1 70) (Int32.toNatClampNeg x3)))))) (((s.1 68) (Int32.toNatClampNeg (((s.1 70) (Int32.toNatClampNeg x3)))))) (((s.1 69) (Int32.toNatClampNeg (((s.1 70) (Int32.toNatClampNeg x3)))))) s q_6 hc_7) hP hD rfl rfl wn_10_213 wn_10_215 sn_M_run wn_1_13 wn_10_216 rfl rfl (by decide +kernel) ⟨Nat.le_of_ble_eq_true rfl, Nat.le_of_ble_eq_true rfl⟩ rfl hl.1 rfl (Nat.le_of_ble_eq_true rfl) dn_M_settle_127 ⟨Nat.le_of_ble_eq_true rfl, Nat.le_of_ble_eq_true rfl⟩) hP hD hS hA (fun _ H locs hw hP hD hS => ?_)
          refine lv_aload_n hx hb dn_M_settle_130 rfl (lv_at hl 1 rfl) ?_
          refine va_get (D := (dC, dI)) (ci := 0) (v := .ref ((a 80))) (C := rn_M) (T := fn_M) (N := 91) hx hb hg in_M hown hK hP 0 rfl rfl 80 (by decide) (hg _ wn_8_153) (fun _ h9 => h9) rfl dn_M_settle_131 ?_
          refine lv_iload hx hb dn_M_settle_134 (lv_at hl 0 rfl) ?_
          refine lv_aload_n hx hb dn_M_settle_136 rfl (lv_at hl 1 rfl) ?_
          obtain ⟨q_8, hc_9, hf⟩ := dc_b hf
          refine dc_calll (dc_runV (ar := 0) (As := []) (rest := [.int (((s.1 70) (Int32.toNatClampNeg x3))), .ref ((a 80))]) (ci := 0) (q0 := 0) ⟨hx, hb, hml, hown, hg⟩ hK hN hT hS hA (ct_M_pop l dC dI cI cB cJ cZ cQ N H.size h0 a q_6.2 q_8 hc_9) hP hD rfl rfl wn_10_221 wn_10_223 sn_M_pop wn_1_13 wn_10_224 rfl rfl (by decide +kernel) ⟨Nat.le_of_ble_eq_true rfl, Nat.le_of_ble_eq_true rfl⟩ rfl hl.1 rfl (Nat.le_of_ble_eq_true rfl) dn_M_settle_137 ⟨Nat.le_of_ble_eq_true rfl, Nat.le_of_ble_eq_true rfl⟩) hP hD hS hA (fun r_10 _ H locs hw hP hD hS => ?_)
          have hw : r_10 = q_8.1 := hw
          subst hw
          obtain ⟨hg_11, hf⟩ := dc_g hf
          refine va_last hx hb hK hP hD hS 54 2 rfl rfl hg_11 dn_M_settle_140 (fun H locs hP hD hS => ?_)
          have hP : va_P (dC, dI) xcl ((wM h0 a cI cB cJ cZ q_8.2).set 54 ((a 80), .inl (cJ, 1100, .inr (.inl (vp_updL (q_8.2.2 80) (Int32.toNatClampNeg (((s.1 70) (Int32.toNatClampNeg x3)))) q_8.1))))) H := hP
          have hD : va_D A ((wM h0 a cI cB cJ cZ q_8.2).set 54 ((a 80), .inl (cJ, 1100, .inr (.inl (vp_updL (q_8.2.2 80) (Int32.toNatClampNeg (((s.1 70) (Int32.toNatClampNeg x3)))) q_8.1))))) := hD
          have hP := wM_P_80 hP
          have hD := wM_D_80 hD
          refine lv_iinc (v := (x3 + 1)) (lv' := [(3, .int ((x3 + 1))), (4, .int (((s.1 70) (Int32.toNatClampNeg x3)))), (0, .ref h0)]) hx hb dn_M_settle_141 hl (k := 2) rfl (dc_inc (by decide)) (by decide) rfl (fun ls hl => ?_)
          refine lv_goto (tgt := 56) hx hb dn_M_settle_144 (by decide) ?_
          exact hk_56 ((x3 + 1)) (upJ q_8.2 80 (vp_updL (q_8.2.2 80) (Int32.toNatClampNeg (((s.1 70) (Int32.toNatClampNeg x3)))) q_8.1)) hf H locs ls hP hD hS (lv_sub hl [2, 0] rfl)
        · have hf := (if_pos h).symm.trans hf
          refine lv_aload_n hx hb dn_M_settle_83 rfl (lv_at hl 1 rfl) ?_
          refine va_get (D := (dC, dI)) (ci := 0) (v := .ref ((a 80))) (C := rn_M) (T := fn_M) (N := 91) hx hb hg in_M hown hK hP 0 rfl rfl 80 (by decide) (hg _ wn_8_153) (fun _ h9 => h9) rfl dn_M_settle_84 ?_
          refine lv_iload hx hb dn_M_settle_87 (lv_at hl 0 rfl) ?_
          refine lv_aload_n hx hb dn_M_settle_89 rfl (lv_at hl 1 rfl) ?_
          refine va_get (D := (dC, dI)) (ci := 0) (v := .ref ((a 80))) (C := rn_M) (T := fn_M) (N := 91) hx hb hg in_M hown hK hP 0 rfl rfl 80 (by decide) (hg _ wn_8_153) (fun _ h9 => h9) rfl dn_M_settle_90 ?_
          refine lv_aload_n hx hb dn_M_settle_93 rfl (lv_at hl 1 rfl) ?_
          refine va_get (D := (dC, dI)) (ci := 0) (v := .ref ((a 67))) (C := rn_M) (T := fn_M) (N := 91) hx hb hg in_M hown hK hP 0 rfl rfl 67 (by decide) (hg _ wn_8_140) (fun _ h9 => h9) rfl dn_M_settle_94 ?_
          refine lv_iload hx hb dn_M_settle_97 (lv_at hl 0 rfl) ?_
          obtain ⟨hg_3, hf⟩ := dc_g hf
          refine va_iald hx hb hK hP 47 0 rfl rfl hg_3 dn_M_settle_99 ?_
          refine xk_ti (y := ((s.1 67) (Int32.toNatClampNeg (((s.1 70) (Int32.toNatClampNeg x3)))))) rfl ?_
          obtain ⟨hg_4, hf⟩ := dc_g hf
          refine va_lald hx hb hK hP 54 2 rfl rfl hg_4 dn_M_settle_100 ?_
          refine xk_tl (y := ((s.2 80) (Int32.toNatClampNeg (((s.1 67) (Int32.toNatClampNeg (((s.1 70) (Int32.toNatClampNeg x3))))))))) rfl ?_
          obtain ⟨hg_5, hf⟩ := dc_g hf
          refine va_last hx hb hK hP hD hS 54 2 rfl rfl hg_5 dn_M_settle_101 (fun H locs hP hD hS => ?_)
          have hP : va_P (dC, dI) xcl ((wM h0 a cI cB cJ cZ s).set 54 ((a 80), .inl (cJ, 1100, .inr (.inl (vp_updL (s.2 80) (Int32.toNatClampNeg (((s.1 70) (Int32.toNatClampNeg x3)))) (((s.2 80) (Int32.toNatClampNeg (((s.1 67) (Int32.toNatClampNeg (((s.1 70) (Int32.toNatClampNeg x3)))))))))))))) H := hP
          have hD : va_D A ((wM h0 a cI cB cJ cZ s).set 54 ((a 80), .inl (cJ, 1100, .inr (.inl (vp_updL (s.2 80) (Int32.toNatClampNeg (((s.1 70) (Int32.toNatClampNeg x3)))) (((s.2 80) (Int32.toNatClampNeg (((s.1 67) (Int32.toNatClampNeg (((s.1 70) (Int32.toNatClampNeg x3)))))))))))))) := hD
          have hP := wM_P_80 hP
          have hD := wM_D_80 hD
          refine lv_goto (tgt := 141) hx hb dn_M_settle_102 (by decide) ?_
          refine lv_iinc (v := (x3 + 1)) (lv' := [(3, .int ((x3 + 1))), (4, .int (((s.1 70) (Int32.toNatClampNeg x3)))), (0, .ref h0)]) hx hb dn_M_settle_141 hl (k := 2) rfl (dc_inc (by decide)) (by decide) rfl (fun ls hl => ?_)
          refine lv_goto (tgt := 56) hx hb dn_M_settle_144 (by decide) ?_
          exact hk_56 ((x3 + 1)) (upJ s 80 (vp_updL (s.2 80) (Int32.toNatClampNeg (((s.1 70) (Int32.toNatClampNeg x3)))) (((s.2 80) (Int32.toNatClampNeg (((s.1 67) (Int32.toNatClampNeg (((s.1 70) (Int32.toNatClampNeg x3))))))))))) hf H locs ls hP hD hS (lv_sub hl [2, 0] rfl)
  have bl_47 : ∀ (k_2 : Int32 → ms → Option (Unit × ms)) (hk_2 : ∀ (x3 : Int32) (s : ms), k_2 x3 s = some y → dcC p l e ({ frames := 3, cells := 0, slots := 0, locals := 96 }) s0 m [.ref h0, .ref ((a 82)), .ref ((a 83))].toArray below meth c QQ (dC, dI) A (wM h0 a cI cB cJ cZ s) 2 5 [(0, .ref h0), (1, .ref ((a 82))), (2, .ref ((a 83))), (3, .int x3)] []) (x3 : Int32) (t0 : Int64) (t1 : Int32) (s : ms), bk_M_settle_82_83_47 N k_2 x3 t0 t1 s = some y → dcC p l e ({ frames := 3, cells := 0, slots := 0, locals := 96 }) s0 m [.ref h0, .ref ((a 82)), .ref ((a 83))].toArray below meth c QQ (dC, dI) A (wM h0 a cI cB cJ cZ s) 47 5 [(0, .ref h0), (1, .ref ((a 82))), (2, .ref ((a 83))), (3, .int x3)] [.long t0, .int t1, .ref ((a 80))] := by
    intro k_2 hk_2 x3 t0 t1 s hf H locs ls hP hD hS hl
    unfold bk_M_settle_82_83_47 at hf
    obtain ⟨hg_1, hf⟩ := dc_g hf
    refine va_last hx hb hK hP hD hS 54 2 rfl rfl hg_1 dn_M_settle_47 (fun H locs hP hD hS => ?_)
    have hP : va_P (dC, dI) xcl ((wM h0 a cI cB cJ cZ s).set 54 ((a 80), .inl (cJ, 1100, .inr (.inl (vp_updL (s.2 80) (Int32.toNatClampNeg t1) t0))))) H := hP
    have hD : va_D A ((wM h0 a cI cB cJ cZ s).set 54 ((a 80), .inl (cJ, 1100, .inr (.inl (vp_updL (s.2 80) (Int32.toNatClampNeg t1) t0))))) := hD
    have hP := wM_P_80 hP
    have hD := wM_D_80 hD
    refine lv_iinc (v := (x3 + 1)) (lv' := [(3, .int ((x3 + 1))), (0, .ref h0), (1, .ref ((a 82))), (2, .ref ((a 83)))]) hx hb dn_M_settle_48 hl (k := 3) rfl (dc_inc (by decide)) (by decide) rfl (fun ls hl => ?_)
    refine lv_goto (tgt := 2) hx hb dn_M_settle_51 (by decide) ?_
    exact hk_2 ((x3 + 1)) (upJ s 80 (vp_updL (s.2 80) (Int32.toNatClampNeg t1) t0)) hf H locs ls hP hD hS (lv_sub hl [1, 2, 3, 0] rfl)
  have hd_2 : ∀ (n : Nat) (x3 : Int32) (s : ms), hd_M_settle_82_83_2 N n x3 s = some y → dcC p l e ({ frames := 3, cells := 0, slots := 0, locals := 96 }) s0 m [.ref h0, .ref ((a 82)), .ref ((a 83))].toArray below meth c QQ (dC, dI) A (wM h0 a cI cB cJ cZ s) 2 5 [(0, .ref h0), (1, .ref ((a 82))), (2, .ref ((a 83))), (3, .int x3)] [] := by
    intro n
    induction n with
    | zero => intro x3 s hf; cases hf
    | succ n ih =>
      intro x3 s hf H locs ls hP hD hS hl
      have hf : bd_M_settle_82_83_2 N (hd_M_settle_82_83_2 N n) x3 s = some y := hf
      have hk_2 := ih
      generalize hd_M_settle_82_83_2 N n = k_2 at hf hk_2
      unfold bd_M_settle_82_83_2 at hf
      refine lv_iload_n hx hb dn_M_settle_2 rfl (lv_at hl 3 rfl) ?_
      refine lv_aload_n hx hb dn_M_settle_3 rfl (lv_at hl 0 rfl) ?_
      refine va_get (D := (dC, dI)) (ci := 0) (v := .int ((s.1 63 0))) (C := rn_M) (T := fn_M) (N := 91) hx hb hg in_M hown hK hP 0 rfl rfl 63 (by decide) (hg _ wn_8_136) (fun _ h9 => h9) rfl dn_M_settle_4 ?_
      refine lv_icmp_ge (tgt := 54) hx hb dn_M_settle_7 (by decide) (fun h => ?_) (fun h => ?_)
      · have hf := (if_pos h).symm.trans hf
        refine lv_iconst (v := 0) hx hb dn_M_settle_54 (by decide) ?_
        refine lv_istore_n (lv' := [(3, .int 0), (0, .ref h0), (1, .ref ((a 82))), (2, .ref ((a 83)))]) hx hb dn_M_settle_55 rfl hl (by decide) rfl (fun ls hl => ?_)
        exact hd_56 N 0 s hf H locs ls hP hD hS (lv_sub hl [1, 0] rfl)
      · have hf := (if_neg h).symm.trans hf
        refine lv_aload_n hx hb dn_M_settle_10 rfl (lv_at hl 0 rfl) ?_
        refine va_get (D := (dC, dI)) (ci := 0) (v := .ref ((a 66))) (C := rn_M) (T := fn_M) (N := 91) hx hb hg in_M hown hK hP 0 rfl rfl 66 (by decide) (hg _ wn_8_139) (fun _ h9 => h9) rfl dn_M_settle_11 ?_
        refine lv_iload_n hx hb dn_M_settle_14 rfl (lv_at hl 3 rfl) ?_
        obtain ⟨hg_1, hf⟩ := dc_g hf
        refine va_iald hx hb hK hP 46 0 rfl rfl hg_1 dn_M_settle_15 ?_
        refine xk_ti (y := ((s.1 66) (Int32.toNatClampNeg x3))) rfl ?_
        refine lv_if_ne (tgt := 48) hx hb dn_M_settle_16 (by decide) (fun h => ?_) (fun h => ?_)
        · have hf := (if_neg h).symm.trans hf
          refine lv_iinc (v := (x3 + 1)) (lv' := [(3, .int ((x3 + 1))), (0, .ref h0), (1, .ref ((a 82))), (2, .ref ((a 83)))]) hx hb dn_M_settle_48 hl (k := 3) rfl (dc_inc (by decide)) (by decide) rfl (fun ls hl => ?_)
          refine lv_goto (tgt := 2) hx hb dn_M_settle_51 (by decide) ?_
          exact hk_2 ((x3 + 1)) s hf H locs ls hP hD hS (lv_sub hl [1, 2, 3, 0] rfl)
        · have hf := (if_pos h).symm.trans hf
          refine lv_aload_n hx hb dn_M_settle_19 rfl (lv_at hl 0 rfl) ?_
          refine va_get (D := (dC, dI)) (ci := 0) (v := .ref ((a 80))) (C := rn_M) (T := fn_M) (N := 91) hx hb hg in_M hown hK hP 0 rfl rfl 80 (by decide) (hg _ wn_8_153) (fun _ h9 => h9) rfl dn_M_settle_20 ?_
          refine lv_iload_n hx hb dn_M_settle_23 rfl (lv_at hl 3 rfl) ?_
          refine lv_aload_n hx hb dn_M_settle_24 rfl (lv_at hl 0 rfl) ?_
          refine va_get (D := (dC, dI)) (ci := 0) (v := .ref ((a 21))) (C := rn_M) (T := fn_M) (N := 91) hx hb hg in_M hown hK hP 0 rfl rfl 21 (by decide) (hg _ wn_8_94) (fun _ h9 => h9) rfl dn_M_settle_25 ?_
          refine lv_aload_n hx hb dn_M_settle_28 rfl (lv_at hl 0 rfl) ?_
          refine va_get (D := (dC, dI)) (ci := 0) (v := .ref ((a 64))) (C := rn_M) (T := fn_M) (N := 91) hx hb hg in_M hown hK hP 0 rfl rfl 64 (by decide) (hg _ wn_8_137) (fun _ h9 => h9) rfl dn_M_settle_29 ?_
          refine lv_iload_n hx hb dn_M_settle_32 rfl (lv_at hl 3 rfl) ?_
          obtain ⟨hg_2, hf⟩ := dc_g hf
          refine va_iald hx hb hK hP 44 0 rfl rfl hg_2 dn_M_settle_33 ?_
          refine xk_ti (y := ((s.1 64) (Int32.toNatClampNeg x3))) rfl ?_
          obtain ⟨hg_3, hf⟩ := dc_g hf
          refine va_iald hx hb hK hP 12 0 rfl rfl hg_3 dn_M_settle_34 ?_
          refine xk_ti (y := ((s.1 21) (Int32.toNatClampNeg (((s.1 64) (Int32.toNatClampNeg x3)))))) rfl ?_
          refine lv_if_ne (tgt := 44) hx hb dn_M_settle_35 (by decide) (fun h => ?_) (fun h => ?_)
          · have hf := (if_neg h).symm.trans hf
            refine lv_aload_n hx hb dn_M_settle_44 rfl (lv_at hl 1 rfl) ?_
            refine lv_iload_n hx hb dn_M_settle_45 rfl (lv_at hl 3 rfl) ?_
            obtain ⟨hg_4, hf⟩ := dc_g hf
            refine va_lald hx hb hK hP 56 2 rfl rfl hg_4 dn_M_settle_46 ?_
            refine xk_tl (y := ((s.2 82) (Int32.toNatClampNeg x3))) rfl ?_
            exact bl_47 k_2 hk_2 x3 (((s.2 82) (Int32.toNatClampNeg x3))) x3 s hf H locs ls hP hD hS hl
          · have hf := (if_pos h).symm.trans hf
            refine lv_aload_n hx hb dn_M_settle_38 rfl (lv_at hl 2 rfl) ?_
            refine lv_iload_n hx hb dn_M_settle_39 rfl (lv_at hl 3 rfl) ?_
            obtain ⟨hg_4, hf⟩ := dc_g hf
            refine va_lald hx hb hK hP 57 2 rfl rfl hg_4 dn_M_settle_40 ?_
            refine xk_tl (y := ((s.2 83) (Int32.toNatClampNeg x3))) rfl ?_
            refine lv_goto (tgt := 47) hx hb dn_M_settle_41 (by decide) ?_
            exact bl_47 k_2 hk_2 x3 (((s.2 83) (Int32.toNatClampNeg x3))) x3 s hf H locs ls hP hD hS hl
  intro H locs ls hP hD hS hl
  unfold fn_M_settle_82_83 at hf
  refine lv_iconst (v := 0) hx hb dn_M_settle_0 (by decide) ?_
  refine lv_istore_n (lv' := [(3, .int 0), (0, .ref h0), (1, .ref ((a 82))), (2, .ref ((a 83)))]) hx hb dn_M_settle_1 rfl hl (by decide) rfl (fun ls hl => ?_)
  exact hd_2 N 0 s hf H locs ls hP hD hS (lv_sub hl [1, 2, 3, 0] rfl)
