theorem mn_M_linkGrammar (N : Nat) (s : ms) (y : (Unit × ms)) (hf : fn_M_linkGrammar N s = some y) : gl y.2 = gl s := by
  unfold fn_M_linkGrammar at hf
  have hm : gl s = gl s := rfl
  obtain ⟨q_1, hc_2, hf⟩ := dc_b hf
  have hm := (mn_M_take N 46 s q_1 hc_2).trans hm
  obtain ⟨q_3, hc_4, hf⟩ := dc_b hf
  have hm := (mn_M_take N 400 q_1.2 q_3 hc_4).trans hm
  obtain ⟨q_5, hc_6, hf⟩ := dc_b hf
  have hm := (mn_M_open N 40 q_3.2 q_5 hc_6).trans hm
  obtain ⟨q_7, hc_8, hf⟩ := dc_b hf
  have hm := (mn_M_expGrammar N q_5.2 q_7 hc_8).trans hm
  obtain ⟨q_9, hc_10, hf⟩ := dc_b hf
  have hm := (mn_M_shut N 41 q_7.2 q_9 hc_10).trans hm
  exact (dc_e hf).trans hm
set_option maxHeartbeats 8000000 in
set_option maxRecDepth 100000 in
theorem ct_M_linkGrammar (l : Launch) (dC : Nat → ClassId) (dI : Nat → Nat → Nat) (cI cB cJ cZ cQ : ClassId) (N sz : Nat) (h0 : Nat) (a : Nat → Nat) (s : ms) (y : (Unit × ms)) (hf : fn_M_linkGrammar N s = some y) : Met l yn_M_linkGrammar (xw yn_M_linkGrammar bn_M_linkGrammar 1 none) ({ frames := 405, cells := 0, slots := 0, locals := 8104 }) (dc_P (dC, dI) xcl (xt cI cB cJ cZ cQ) [.ref h0] sz (wM h0 a cI cB cJ cZ s)) (xk_Qv (dC, dI) xcl (xt cI cB cJ cZ cQ) (fun _ : Unit => True) (fun u : Unit => (wM h0 a cI cB cJ cZ y.2)) (va_A (wM h0 a cI cB cJ cZ s) sz)) 0 0 (va_A (wM h0 a cI cB cJ cZ s) sz) := by
  refine dc_of (QA := xk_Qv (dC, dI) xcl (xt cI cB cJ cZ cQ) (fun _ : Unit => True) (fun u : Unit => (wM h0 a cI cB cJ cZ y.2))) (by decide) (Nat.le_of_ble_eq_true rfl) ?_
  intro p e s0 m below meth c hx hb hml hown hg hr hlocks hin hP hK hN A hA hD hT ls hl
  have hown : s0.vm.findClass rn_M = some m.cls := hown
  obtain ⟨H, hH⟩ : ∃ z, z = s0.heap := ⟨_, rfl⟩
  rw [← hH] at hP
  have hS : va_S A s0.heap H [] := by rw [hH]; exact va_S.rf
  suffices kk : ∀ QQ : State → Prop, QQ = MQ below (xk_Qv (dC, dI) xcl (xt cI cB cJ cZ cQ) (fun _ : Unit => True) (fun u : Unit => (wM h0 a cI cB cJ cZ y.2)) A) [.ref h0].toArray s0 0 0 A → dcC p l e ({ frames := 405, cells := 0, slots := 0, locals := 8104 }) s0 m [.ref h0].toArray below meth c QQ (dC, dI) A (wM h0 a cI cB cJ cZ s) 0 1 [(0, .ref h0)] [] by
    have k9 := kk _ rfl H [] ls hP hD hS hl
    rw [hH] at k9; exact k9
  clear hP hD hS hl hH H ls
  intro QQ hQQ
  intro H locs ls hP hD hS hl
  unfold fn_M_linkGrammar at hf
  refine lv_aload_n hx hb dn_M_linkGrammar_0 rfl (lv_at hl 0 rfl) ?_
  refine lv_bipush (v := 46) hx hb dn_M_linkGrammar_1 (by decide) ?_
  obtain ⟨q_1, hc_2, hf⟩ := dc_b hf
  refine dc_callv (dc_runV (ar := 1) (As := [.int 46]) (rest := []) (ci := 0) (q0 := 0) ⟨hx, hb, hml, hown, hg⟩ hK hN hT hS hA (ct_M_take l dC dI cI cB cJ cZ cQ N H.size h0 a 46 s q_1 hc_2) hP hD rfl rfl wn_9_178 wn_9_180 sn_M_take wn_1_13 wn_9_181 rfl rfl (by decide +kernel) ⟨Nat.le_of_ble_eq_true rfl, Nat.le_of_ble_eq_true rfl⟩ rfl hl.1 rfl (Nat.le_of_ble_eq_true rfl) dn_M_linkGrammar_3 ⟨Nat.le_of_ble_eq_true rfl, Nat.le_of_ble_eq_true rfl⟩) hP hD hS hA (fun _ H locs hw hP hD hS => ?_)
  refine lv_aload_n hx hb dn_M_linkGrammar_6 rfl (lv_at hl 0 rfl) ?_
  refine lv_sipush (v := 400) hx hb dn_M_linkGrammar_7 (by decide) ?_
  obtain ⟨q_3, hc_4, hf⟩ := dc_b hf
  refine dc_callv (dc_runV (ar := 1) (As := [.int 400]) (rest := []) (ci := 0) (q0 := 0) ⟨hx, hb, hml, hown, hg⟩ hK hN hT hS hA (ct_M_take l dC dI cI cB cJ cZ cQ N H.size h0 a 400 q_1.2 q_3 hc_4) hP hD rfl rfl wn_9_178 wn_9_180 sn_M_take wn_1_13 wn_9_181 rfl rfl (by decide +kernel) ⟨Nat.le_of_ble_eq_true rfl, Nat.le_of_ble_eq_true rfl⟩ rfl hl.1 rfl (Nat.le_of_ble_eq_true rfl) dn_M_linkGrammar_10 ⟨Nat.le_of_ble_eq_true rfl, Nat.le_of_ble_eq_true rfl⟩) hP hD hS hA (fun _ H locs hw hP hD hS => ?_)
  refine lv_aload_n hx hb dn_M_linkGrammar_13 rfl (lv_at hl 0 rfl) ?_
  refine lv_bipush (v := 40) hx hb dn_M_linkGrammar_14 (by decide) ?_
  obtain ⟨q_5, hc_6, hf⟩ := dc_b hf
  refine dc_callv (dc_runV (ar := 1) (As := [.int 40]) (rest := []) (ci := 0) (q0 := 0) ⟨hx, hb, hml, hown, hg⟩ hK hN hT hS hA (ct_M_open l dC dI cI cB cJ cZ cQ N H.size h0 a 40 q_3.2 q_5 hc_6) hP hD rfl rfl wn_9_190 wn_9_192 sn_M_open wn_1_13 wn_9_193 rfl rfl (by decide +kernel) ⟨Nat.le_of_ble_eq_true rfl, Nat.le_of_ble_eq_true rfl⟩ rfl hl.1 rfl (Nat.le_of_ble_eq_true rfl) dn_M_linkGrammar_16 ⟨Nat.le_of_ble_eq_true rfl, Nat.le_of_ble_eq_true rfl⟩) hP hD hS hA (fun _ H locs hw hP hD hS => ?_)
  refine lv_aload_n hx hb dn_M_linkGrammar_19 rfl (lv_at hl 0 rfl) ?_
  obtain ⟨q_7, hc_8, hf⟩ := dc_b hf
  refine dc_callv (dc_runV (ar := 0) (As := []) (rest := []) (ci := 0) (q0 := 0) ⟨hx, hb, hml, hown, hg⟩ hK hN hT hS hA (ct_M_expGrammar l dC dI cI cB cJ cZ cQ N H.size h0 a q_5.2 q_7 hc_8) hP hD rfl rfl wn_9_222 wn_9_224 sn_M_expGrammar wn_1_13 wn_9_225 rfl rfl (by decide +kernel) ⟨Nat.le_of_ble_eq_true rfl, Nat.le_of_ble_eq_true rfl⟩ rfl hl.1 rfl (Nat.le_of_ble_eq_true rfl) dn_M_linkGrammar_20 ⟨Nat.le_of_ble_eq_true rfl, Nat.le_of_ble_eq_true rfl⟩) hP hD hS hA (fun _ H locs hw hP hD hS => ?_)
  refine lv_aload_n hx hb dn_M_linkGrammar_23 rfl (lv_at hl 0 rfl) ?_
  refine lv_bipush (v := 41) hx hb dn_M_linkGrammar_24 (by decide) ?_
  obtain ⟨q_9, hc_10, hf⟩ := dc_b hf
  refine dc_callv (dc_runV (ar := 1) (As := [.int 41]) (rest := []) (ci := 0) (q0 := 0) ⟨hx, hb, hml, hown, hg⟩ hK hN hT hS hA (ct_M_shut l dC dI cI cB cJ cZ cQ N H.size h0 a 41 q_7.2 q_9 hc_10) hP hD rfl rfl wn_9_206 wn_9_208 sn_M_shut wn_1_13 wn_9_209 rfl rfl (by decide +kernel) ⟨Nat.le_of_ble_eq_true rfl, Nat.le_of_ble_eq_true rfl⟩ rfl hl.1 rfl (Nat.le_of_ble_eq_true rfl) dn_M_linkGrammar_26 ⟨Nat.le_of_ble_eq_true rfl, Nat.le_of_ble_eq_true rfl⟩) hP hD hS hA (fun _ H locs hw hP hD hS => ?_)
  rw [hQQ, ← Option.some.inj hf]
  exact xk_vret (w1 := fun u : Unit => (wM h0 a cI cB cJ cZ q_9.2)) () hx hb hr hlocks hK hS dn_M_linkGrammar_29 hP hD trivial (Nat.le_refl _) (Nat.le_refl _)
theorem mo_M_statementGrammar_174 (N : Nat) (r_M_statementGrammar : ms → Option (Unit × ms)) (r_M_caseGrammar : ms → Option (Unit × ms)) (hmr_M_statementGrammar : ∀ (s : ms) (y : (Unit × ms)), r_M_statementGrammar s = some y → gl y.2 = gl s) (hmr_M_caseGrammar : ∀ (s : ms) (y : (Unit × ms)), r_M_caseGrammar s = some y → gl y.2 = gl s) (y : (Unit × ms)) (s : ms) (hf : bk_M_statementGrammar_174 N r_M_statementGrammar r_M_caseGrammar s = some y) : gl y.2 = gl s := by
  unfold bk_M_statementGrammar_174 at hf
  have hm : gl s = gl s := rfl
  obtain ⟨q_1, hc_2, hf⟩ := dc_b hf
  have hm := (mn_M_take N 260 s q_1 hc_2).trans hm
  obtain ⟨q_3, hc_4, hf⟩ := dc_b hf
  have hm := (mn_M_expGrammar N q_1.2 q_3 hc_4).trans hm
  obtain ⟨q_5, hc_6, hf⟩ := dc_b hf
  have hm := (mn_M_take N 59 q_3.2 q_5 hc_6).trans hm
  exact (dc_e hf).trans hm
theorem mo_M_statementGrammar_112 (N : Nat) (r_M_statementGrammar : ms → Option (Unit × ms)) (r_M_caseGrammar : ms → Option (Unit × ms)) (hmr_M_statementGrammar : ∀ (s : ms) (y : (Unit × ms)), r_M_statementGrammar s = some y → gl y.2 = gl s) (hmr_M_caseGrammar : ∀ (s : ms) (y : (Unit × ms)), r_M_caseGrammar s = some y → gl y.2 = gl s) (y : (Unit × ms)) (s : ms) (hf : bk_M_statementGrammar_112 N r_M_statementGrammar r_M_caseGrammar s = some y) : gl y.2 = gl s := by
  unfold bk_M_statementGrammar_112 at hf
  have hm : gl s = gl s := rfl
  exact (dc_e hf).trans hm
theorem mo_M_statementGrammar_41 (N : Nat) (r_M_statementGrammar : ms → Option (Unit × ms)) (r_M_caseGrammar : ms → Option (Unit × ms)) (hmr_M_statementGrammar : ∀ (s : ms) (y : (Unit × ms)), r_M_statementGrammar s = some y → gl y.2 = gl s) (hmr_M_caseGrammar : ∀ (s : ms) (y : (Unit × ms)), r_M_caseGrammar s = some y → gl y.2 = gl s) (y : (Unit × ms)) (s : ms) (hf : bk_M_statementGrammar_41 N r_M_statementGrammar r_M_caseGrammar s = some y) : gl y.2 = gl s := by
  unfold bk_M_statementGrammar_41 at hf
  have hm : gl s = gl s := rfl
  obtain ⟨q_1, hc_2, hf⟩ := dc_b hf
  have hm := (mn_M_shut N 311 s q_1 hc_2).trans hm
  exact (dc_e hf).trans hm
theorem mb_M_statementGrammar_17 (N : Nat) (r_M_statementGrammar : ms → Option (Unit × ms)) (r_M_caseGrammar : ms → Option (Unit × ms)) (hmr_M_statementGrammar : ∀ (s : ms) (y : (Unit × ms)), r_M_statementGrammar s = some y → gl y.2 = gl s) (hmr_M_caseGrammar : ∀ (s : ms) (y : (Unit × ms)), r_M_caseGrammar s = some y → gl y.2 = gl s) (y : (Unit × ms)) (k_17 : ms → Option (Unit × ms)) (hkm_17 : ∀ (s : ms), k_17 s = some y → gl y.2 = gl s) (s : ms) (hf : bd_M_statementGrammar_17 N r_M_statementGrammar r_M_caseGrammar k_17 s = some y) : gl y.2 = gl s := by
  unfold bd_M_statementGrammar_17 at hf
  have hm : gl s = gl s := rfl
  by_cases h : (s.1 9 0) = 0
  · have hf := (if_pos h).symm.trans hf
    obtain ⟨q_1, hc_2, hf⟩ := dc_b hf
    have hm := (mn_M_kind N s q_1 hc_2).trans hm
    by_cases h : q_1.1 = 311
    · have hf := (if_pos h).symm.trans hf
      exact (mo_M_statementGrammar_41 N r_M_statementGrammar r_M_caseGrammar hmr_M_statementGrammar hmr_M_caseGrammar y q_1.2 hf).trans hm
    · have hf := (if_neg h).symm.trans hf
      obtain ⟨q_4, hc_5, hf⟩ := dc_b hf
      have hm := (hmr_M_statementGrammar q_1.2 q_4 hc_5).trans hm
      exact (hkm_17 q_4.2 hf).trans hm
  · have hf := (if_neg h).symm.trans hf
    exact (mo_M_statementGrammar_41 N r_M_statementGrammar r_M_caseGrammar hmr_M_statementGrammar hmr_M_caseGrammar y s hf).trans hm
theorem mh_M_statementGrammar_17 (N : Nat) (r_M_statementGrammar : ms → Option (Unit × ms)) (r_M_caseGrammar : ms → Option (Unit × ms)) (hmr_M_statementGrammar : ∀ (s : ms) (y : (Unit × ms)), r_M_statementGrammar s = some y → gl y.2 = gl s) (hmr_M_caseGrammar : ∀ (s : ms) (y : (Unit × ms)), r_M_caseGrammar s = some y → gl y.2 = gl s) (y : (Unit × ms)) : ∀ (n : Nat) (s : ms), hd_M_statementGrammar_17 N r_M_statementGrammar r_M_caseGrammar n s = some y → gl y.2 = gl s := by
  intro n
  induction n with
  | zero => intro s hf; cases hf
  | succ n ih => intro s hf; exact mb_M_statementGrammar_17 N r_M_statementGrammar r_M_caseGrammar hmr_M_statementGrammar hmr_M_caseGrammar y (hd_M_statementGrammar_17 N r_M_statementGrammar r_M_caseGrammar n) ih s hf
theorem mf_M_statementGrammar (N : Nat) (r_M_statementGrammar : ms → Option (Unit × ms)) (r_M_caseGrammar : ms → Option (Unit × ms)) (hmr_M_statementGrammar : ∀ (s : ms) (y : (Unit × ms)), r_M_statementGrammar s = some y → gl y.2 = gl s) (hmr_M_caseGrammar : ∀ (s : ms) (y : (Unit × ms)), r_M_caseGrammar s = some y → gl y.2 = gl s) (s : ms) (y : (Unit × ms)) (hf : fb_M_statementGrammar N r_M_statementGrammar r_M_caseGrammar s = some y) : gl y.2 = gl s := by
  unfold fb_M_statementGrammar at hf
  have hm : gl s = gl s := rfl
  obtain ⟨q_1, hc_2, hf⟩ := dc_b hf
  have hm := (mn_M_is N 310 s q_1 hc_2).trans hm
  by_cases h : q_1.1 = 0
  · have hf := (if_pos h).symm.trans hf
    obtain ⟨q_4, hc_5, hf⟩ := dc_b hf
    have hm := (mn_M_is N 312 q_1.2 q_4 hc_5).trans hm
    by_cases h : q_4.1 = 0
    · have hf := (if_pos h).symm.trans hf
      obtain ⟨q_7, hc_8, hf⟩ := dc_b hf
      have hm := (mn_M_is N 314 q_4.2 q_7 hc_8).trans hm
      by_cases h : q_7.1 = 0
      · have hf := (if_pos h).symm.trans hf
        obtain ⟨q_10, hc_11, hf⟩ := dc_b hf
        have hm := (mn_M_take N 400 q_7.2 q_10 hc_11).trans hm
        obtain ⟨q_12, hc_13, hf⟩ := dc_b hf
        have hm := (mn_M_is N 91 q_10.2 q_12 hc_13).trans hm
        by_cases h : q_12.1 = 0
        · have hf := (if_pos h).symm.trans hf
          exact (mo_M_statementGrammar_174 N r_M_statementGrammar r_M_caseGrammar hmr_M_statementGrammar hmr_M_caseGrammar y q_12.2 hf).trans hm
        · have hf := (if_neg h).symm.trans hf
          obtain ⟨q_15, hc_16, hf⟩ := dc_b hf
          have hm := (mn_M_open N 91 q_12.2 q_15 hc_16).trans hm
          obtain ⟨q_17, hc_18, hf⟩ := dc_b hf
          have hm := (mn_M_partGrammar N q_15.2 q_17 hc_18).trans hm
          obtain ⟨q_19, hc_20, hf⟩ := dc_b hf
          have hm := (mn_M_shut N 93 q_17.2 q_19 hc_20).trans hm
          exact (mo_M_statementGrammar_174 N r_M_statementGrammar r_M_caseGrammar hmr_M_statementGrammar hmr_M_caseGrammar y q_19.2 hf).trans hm
      · have hf := (if_neg h).symm.trans hf
        obtain ⟨q_10, hc_11, hf⟩ := dc_b hf
        have hm := (hmr_M_caseGrammar q_7.2 q_10 hc_11).trans hm
        exact (dc_e hf).trans hm
    · have hf := (if_neg h).symm.trans hf
      obtain ⟨q_7, hc_8, hf⟩ := dc_b hf
      have hm := (mn_M_open N 312 q_4.2 q_7 hc_8).trans hm
      obtain ⟨q_9, hc_10, hf⟩ := dc_b hf
      have hm := (mn_M_open N 40 q_7.2 q_9 hc_10).trans hm
      obtain ⟨q_11, hc_12, hf⟩ := dc_b hf
      have hm := (mn_M_expGrammar N q_9.2 q_11 hc_12).trans hm
      obtain ⟨q_13, hc_14, hf⟩ := dc_b hf
      have hm := (mn_M_shut N 41 q_11.2 q_13 hc_14).trans hm
      obtain ⟨q_15, hc_16, hf⟩ := dc_b hf
      have hm := (hmr_M_statementGrammar q_13.2 q_15 hc_16).trans hm
      obtain ⟨q_17, hc_18, hf⟩ := dc_b hf
      have hm := (mn_M_is N 313 q_15.2 q_17 hc_18).trans hm
      by_cases h : q_17.1 = 0
      · have hf := (if_pos h).symm.trans hf
        exact (mo_M_statementGrammar_112 N r_M_statementGrammar r_M_caseGrammar hmr_M_statementGrammar hmr_M_caseGrammar y q_17.2 hf).trans hm
      · have hf := (if_neg h).symm.trans hf
        obtain ⟨q_20, hc_21, hf⟩ := dc_b hf
        have hm := (hmr_M_statementGrammar (upI q_17.2 8 (fun _ => ((q_17.2.1 8 0) + 1))) q_20 hc_21).trans hm
        exact (mo_M_statementGrammar_112 N r_M_statementGrammar r_M_caseGrammar hmr_M_statementGrammar hmr_M_caseGrammar y q_20.2 hf).trans hm
  · have hf := (if_neg h).symm.trans hf
    obtain ⟨q_4, hc_5, hf⟩ := dc_b hf
    have hm := (mn_M_open N 310 q_1.2 q_4 hc_5).trans hm
    exact (mh_M_statementGrammar_17 N r_M_statementGrammar r_M_caseGrammar hmr_M_statementGrammar hmr_M_caseGrammar y N q_4.2 hf).trans hm
theorem mo_M_caseGrammar_115 (N : Nat) (r_M_statementGrammar : ms → Option (Unit × ms)) (r_M_caseGrammar : ms → Option (Unit × ms)) (hmr_M_statementGrammar : ∀ (s : ms) (y : (Unit × ms)), r_M_statementGrammar s = some y → gl y.2 = gl s) (hmr_M_caseGrammar : ∀ (s : ms) (y : (Unit × ms)), r_M_caseGrammar s = some y → gl y.2 = gl s) (y : (Unit × ms)) (s : ms) (hf : bk_M_caseGrammar_115 N r_M_statementGrammar r_M_caseGrammar s = some y) : gl y.2 = gl s := by
  unfold bk_M_caseGrammar_115 at hf
  have hm : gl s = gl s := rfl
  obtain ⟨q_1, hc_2, hf⟩ := dc_b hf
  have hm := (mn_M_shut N 315 s q_1 hc_2).trans hm
  exact (dc_e hf).trans hm
theorem mb_M_caseGrammar_43 (N : Nat) (r_M_statementGrammar : ms → Option (Unit × ms)) (r_M_caseGrammar : ms → Option (Unit × ms)) (hmr_M_statementGrammar : ∀ (s : ms) (y : (Unit × ms)), r_M_statementGrammar s = some y → gl y.2 = gl s) (hmr_M_caseGrammar : ∀ (s : ms) (y : (Unit × ms)), r_M_caseGrammar s = some y → gl y.2 = gl s) (k_23 : ms → Option (Unit × ms)) (y : (Unit × ms)) (hkm_23 : ∀ (s : ms), k_23 s = some y → gl y.2 = gl s) (k_43 : ms → Option (Unit × ms)) (hkm_43 : ∀ (s : ms), k_43 s = some y → gl y.2 = gl s) (s : ms) (hf : bd_M_caseGrammar_43 N r_M_statementGrammar r_M_caseGrammar k_23 k_43 s = some y) : gl y.2 = gl s := by
  unfold bd_M_caseGrammar_43 at hf
  have hm : gl s = gl s := rfl
  obtain ⟨q_1, hc_2, hf⟩ := dc_b hf
  have hm := (mn_M_is N 44 s q_1 hc_2).trans hm
  by_cases h : q_1.1 = 0
  · have hf := (if_pos h).symm.trans hf
    obtain ⟨q_4, hc_5, hf⟩ := dc_b hf
    have hm := (mn_M_take N 58 q_1.2 q_4 hc_5).trans hm
    obtain ⟨q_6, hc_7, hf⟩ := dc_b hf
    have hm := (hmr_M_statementGrammar q_4.2 q_6 hc_7).trans hm
    exact (hkm_23 q_6.2 hf).trans hm
  · have hf := (if_neg h).symm.trans hf
    obtain ⟨q_4, hc_5, hf⟩ := dc_b hf
    have hm := (mn_M_take N 402 (upI q_1.2 8 (fun _ => ((q_1.2.1 8 0) + 1))) q_4 hc_5).trans hm
    exact (hkm_43 q_4.2 hf).trans hm
theorem mh_M_caseGrammar_43 (N : Nat) (r_M_statementGrammar : ms → Option (Unit × ms)) (r_M_caseGrammar : ms → Option (Unit × ms)) (hmr_M_statementGrammar : ∀ (s : ms) (y : (Unit × ms)), r_M_statementGrammar s = some y → gl y.2 = gl s) (hmr_M_caseGrammar : ∀ (s : ms) (y : (Unit × ms)), r_M_caseGrammar s = some y → gl y.2 = gl s) (k_23 : ms → Option (Unit × ms)) (y : (Unit × ms)) (hkm_23 : ∀ (s : ms), k_23 s = some y → gl y.2 = gl s) : ∀ (n : Nat) (s : ms), hd_M_caseGrammar_43 N r_M_statementGrammar r_M_caseGrammar k_23 n s = some y → gl y.2 = gl s := by
  intro n
  induction n with
  | zero => intro s hf; cases hf
  | succ n ih => intro s hf; exact mb_M_caseGrammar_43 N r_M_statementGrammar r_M_caseGrammar hmr_M_statementGrammar hmr_M_caseGrammar k_23 y hkm_23 (hd_M_caseGrammar_43 N r_M_statementGrammar r_M_caseGrammar k_23 n) ih s hf
theorem mb_M_caseGrammar_23 (N : Nat) (r_M_statementGrammar : ms → Option (Unit × ms)) (r_M_caseGrammar : ms → Option (Unit × ms)) (hmr_M_statementGrammar : ∀ (s : ms) (y : (Unit × ms)), r_M_statementGrammar s = some y → gl y.2 = gl s) (hmr_M_caseGrammar : ∀ (s : ms) (y : (Unit × ms)), r_M_caseGrammar s = some y → gl y.2 = gl s) (y : (Unit × ms)) (k_23 : ms → Option (Unit × ms)) (hkm_23 : ∀ (s : ms), k_23 s = some y → gl y.2 = gl s) (s : ms) (hf : bd_M_caseGrammar_23 N r_M_statementGrammar r_M_caseGrammar k_23 s = some y) : gl y.2 = gl s := by
  unfold bd_M_caseGrammar_23 at hf
  have hm : gl s = gl s := rfl
  obtain ⟨q_1, hc_2, hf⟩ := dc_b hf
  have hm := (mn_M_is N 402 s q_1 hc_2).trans hm
  by_cases h : q_1.1 = 0
  · have hf := (if_pos h).symm.trans hf
    obtain ⟨q_4, hc_5, hf⟩ := dc_b hf
    have hm := (mn_M_is N 316 q_1.2 q_4 hc_5).trans hm
    by_cases h : q_4.1 = 0
    · have hf := (if_pos h).symm.trans hf
      exact (mo_M_caseGrammar_115 N r_M_statementGrammar r_M_caseGrammar hmr_M_statementGrammar hmr_M_caseGrammar y q_4.2 hf).trans hm
    · have hf := (if_neg h).symm.trans hf
      obtain ⟨q_7, hc_8, hf⟩ := dc_b hf
      have hm := (mn_M_take N 58 (upI q_4.2 8 (fun _ => ((q_4.2.1 8 0) + 1))) q_7 hc_8).trans hm
      obtain ⟨q_9, hc_10, hf⟩ := dc_b hf
      have hm := (hmr_M_statementGrammar q_7.2 q_9 hc_10).trans hm
      exact (mo_M_caseGrammar_115 N r_M_statementGrammar r_M_caseGrammar hmr_M_statementGrammar hmr_M_caseGrammar y q_9.2 hf).trans hm
  · have hf := (if_neg h).symm.trans hf
    exact (mh_M_caseGrammar_43 N r_M_statementGrammar r_M_caseGrammar hmr_M_statementGrammar hmr_M_caseGrammar k_23 y hkm_23 N (upI q_1.2 8 (fun _ => ((q_1.2.1 8 0) + 1))) hf).trans hm
theorem mh_M_caseGrammar_23 (N : Nat) (r_M_statementGrammar : ms → Option (Unit × ms)) (r_M_caseGrammar : ms → Option (Unit × ms)) (hmr_M_statementGrammar : ∀ (s : ms) (y : (Unit × ms)), r_M_statementGrammar s = some y → gl y.2 = gl s) (hmr_M_caseGrammar : ∀ (s : ms) (y : (Unit × ms)), r_M_caseGrammar s = some y → gl y.2 = gl s) (y : (Unit × ms)) : ∀ (n : Nat) (s : ms), hd_M_caseGrammar_23 N r_M_statementGrammar r_M_caseGrammar n s = some y → gl y.2 = gl s := by
  intro n
  induction n with
  | zero => intro s hf; cases hf
  | succ n ih => intro s hf; exact mb_M_caseGrammar_23 N r_M_statementGrammar r_M_caseGrammar hmr_M_statementGrammar hmr_M_caseGrammar y (hd_M_caseGrammar_23 N r_M_statementGrammar r_M_caseGrammar n) ih s hf
theorem mf_M_caseGrammar (N : Nat) (r_M_statementGrammar : ms → Option (Unit × ms)) (r_M_caseGrammar : ms → Option (Unit × ms)) (hmr_M_statementGrammar : ∀ (s : ms) (y : (Unit × ms)), r_M_statementGrammar s = some y → gl y.2 = gl s) (hmr_M_caseGrammar : ∀ (s : ms) (y : (Unit × ms)), r_M_caseGrammar s = some y → gl y.2 = gl s) (s : ms) (y : (Unit × ms)) (hf : fb_M_caseGrammar N r_M_statementGrammar r_M_caseGrammar s = some y) : gl y.2 = gl s := by
  unfold fb_M_caseGrammar at hf
  have hm : gl s = gl s := rfl
  obtain ⟨q_1, hc_2, hf⟩ := dc_b hf
  have hm := (mn_M_open N 314 s q_1 hc_2).trans hm
  obtain ⟨q_3, hc_4, hf⟩ := dc_b hf
  have hm := (mn_M_open N 40 q_1.2 q_3 hc_4).trans hm
  obtain ⟨q_5, hc_6, hf⟩ := dc_b hf
  have hm := (mn_M_expGrammar N q_3.2 q_5 hc_6).trans hm
  obtain ⟨q_7, hc_8, hf⟩ := dc_b hf
  have hm := (mn_M_shut N 41 q_5.2 q_7 hc_8).trans hm
  exact (mh_M_caseGrammar_23 N r_M_statementGrammar r_M_caseGrammar hmr_M_statementGrammar hmr_M_caseGrammar y N q_7.2 hf).trans hm
set_option maxHeartbeats 8000000 in
set_option maxRecDepth 100000 in
theorem cb_M_statementGrammar (l : Launch) (dC : Nat → ClassId) (dI : Nat → Nat → Nat) (cI cB cJ cZ cQ : ClassId) (N d : Nat) (r_M_statementGrammar : ms → Option (Unit × ms)) (r_M_caseGrammar : ms → Option (Unit × ms)) (hmr_M_statementGrammar : ∀ (s : ms) (y : (Unit × ms)), r_M_statementGrammar s = some y → gl y.2 = gl s) (hmr_M_caseGrammar : ∀ (s : ms) (y : (Unit × ms)), r_M_caseGrammar s = some y → gl y.2 = gl s) (hr_M_statementGrammar : ∀ (sz : Nat) (h0 : Nat) (a : Nat → Nat) (s : ms) (y : (Unit × ms)), r_M_statementGrammar s = some y → Met l yn_M_statementGrammar (xw yn_M_statementGrammar bn_M_statementGrammar 1 none) ({ frames := 405 + d, cells := 0, slots := 0, locals := 8104 + d * 20 }) (dc_P (dC, dI) xcl (xt cI cB cJ cZ cQ) [.ref h0] sz (wM h0 a cI cB cJ cZ s)) (xk_Qv (dC, dI) xcl (xt cI cB cJ cZ cQ) (fun _ : Unit => True) (fun u : Unit => (wM h0 a cI cB cJ cZ y.2)) (va_A (wM h0 a cI cB cJ cZ s) sz)) 0 0 (va_A (wM h0 a cI cB cJ cZ s) sz)) (hr_M_caseGrammar : ∀ (sz : Nat) (h0 : Nat) (a : Nat → Nat) (s : ms) (y : (Unit × ms)), r_M_caseGrammar s = some y → Met l yn_M_caseGrammar (xw yn_M_caseGrammar bn_M_caseGrammar 1 none) ({ frames := 405 + d, cells := 0, slots := 0, locals := 8104 + d * 20 }) (dc_P (dC, dI) xcl (xt cI cB cJ cZ cQ) [.ref h0] sz (wM h0 a cI cB cJ cZ s)) (xk_Qv (dC, dI) xcl (xt cI cB cJ cZ cQ) (fun _ : Unit => True) (fun u : Unit => (wM h0 a cI cB cJ cZ y.2)) (va_A (wM h0 a cI cB cJ cZ s) sz)) 0 0 (va_A (wM h0 a cI cB cJ cZ s) sz)) (sz : Nat) (h0 : Nat) (a : Nat → Nat) (s : ms) (y : (Unit × ms)) (hf : fb_M_statementGrammar N r_M_statementGrammar r_M_caseGrammar s = some y) : Met l yn_M_statementGrammar (xw yn_M_statementGrammar bn_M_statementGrammar 1 none) ({ frames := 405 + (d + 1), cells := 0, slots := 0, locals := 8104 + (d + 1) * 20 }) (dc_P (dC, dI) xcl (xt cI cB cJ cZ cQ) [.ref h0] sz (wM h0 a cI cB cJ cZ s)) (xk_Qv (dC, dI) xcl (xt cI cB cJ cZ cQ) (fun _ : Unit => True) (fun u : Unit => (wM h0 a cI cB cJ cZ y.2)) (va_A (wM h0 a cI cB cJ cZ s) sz)) 0 0 (va_A (wM h0 a cI cB cJ cZ s) sz) := by
  refine dc_of (QA := xk_Qv (dC, dI) xcl (xt cI cB cJ cZ cQ) (fun _ : Unit => True) (fun u : Unit => (wM h0 a cI cB cJ cZ y.2))) (by decide) (Nat.le_of_ble_eq_true rfl) ?_
  intro p e s0 m below meth c hx hb hml hown hg hr hlocks hin hP hK hN A hA hD hT ls hl
  have hown : s0.vm.findClass rn_M = some m.cls := hown
  obtain ⟨H, hH⟩ : ∃ z, z = s0.heap := ⟨_, rfl⟩
  rw [← hH] at hP
  have hS : va_S A s0.heap H [] := by rw [hH]; exact va_S.rf
  suffices kk : ∀ QQ : State → Prop, QQ = MQ below (xk_Qv (dC, dI) xcl (xt cI cB cJ cZ cQ) (fun _ : Unit => True) (fun u : Unit => (wM h0 a cI cB cJ cZ y.2)) A) [.ref h0].toArray s0 0 0 A → dcC p l e ({ frames := 405 + (d + 1), cells := 0, slots := 0, locals := 8104 + (d + 1) * 20 }) s0 m [.ref h0].toArray below meth c QQ (dC, dI) A (wM h0 a cI cB cJ cZ s) 0 1 [(0, .ref h0)] [] by
    have k9 := kk _ rfl H [] ls hP hD hS hl
    rw [hH] at k9; exact k9
  clear hP hD hS hl hH H ls
  intro QQ hQQ
  have bl_174 : ∀ (s : ms), bk_M_statementGrammar_174 N r_M_statementGrammar r_M_caseGrammar s = some y → dcC p l e ({ frames := 405 + (d + 1), cells := 0, slots := 0, locals := 8104 + (d + 1) * 20 }) s0 m [.ref h0].toArray below meth c QQ (dC, dI) A (wM h0 a cI cB cJ cZ s) 174 1 [(0, .ref h0)] [] := by
    intro s hf H locs ls hP hD hS hl
    unfold bk_M_statementGrammar_174 at hf
    refine lv_aload_n hx hb dn_M_statementGrammar_174 rfl (lv_at hl 0 rfl) ?_
    refine lv_sipush (v := 260) hx hb dn_M_statementGrammar_175 (by decide) ?_
    obtain ⟨q_1, hc_2, hf⟩ := dc_b hf
    refine dc_callv (dc_runV (ar := 1) (As := [.int 260]) (rest := []) (ci := 0) (q0 := 0) ⟨hx, hb, hml, hown, hg⟩ hK hN hT hS hA (ct_M_take l dC dI cI cB cJ cZ cQ N H.size h0 a 260 s q_1 hc_2) hP hD rfl rfl wn_9_178 wn_9_180 sn_M_take wn_1_13 wn_9_181 rfl rfl (by decide +kernel) ⟨dc_ra (Nat.le_of_ble_eq_true rfl), dc_ra (Nat.le_of_ble_eq_true rfl)⟩ rfl hl.1 rfl (Nat.le_of_ble_eq_true rfl) dn_M_statementGrammar_178 ⟨Nat.le_of_ble_eq_true rfl, Nat.le_of_ble_eq_true rfl⟩) hP hD hS hA (fun _ H locs hw hP hD hS => ?_)
    refine lv_aload_n hx hb dn_M_statementGrammar_181 rfl (lv_at hl 0 rfl) ?_
    obtain ⟨q_3, hc_4, hf⟩ := dc_b hf
    refine dc_callv (dc_runV (ar := 0) (As := []) (rest := []) (ci := 0) (q0 := 0) ⟨hx, hb, hml, hown, hg⟩ hK hN hT hS hA (ct_M_expGrammar l dC dI cI cB cJ cZ cQ N H.size h0 a q_1.2 q_3 hc_4) hP hD rfl rfl wn_9_222 wn_9_224 sn_M_expGrammar wn_1_13 wn_9_225 rfl rfl (by decide +kernel) ⟨dc_ra (Nat.le_of_ble_eq_true rfl), dc_ra (Nat.le_of_ble_eq_true rfl)⟩ rfl hl.1 rfl (Nat.le_of_ble_eq_true rfl) dn_M_statementGrammar_182 ⟨Nat.le_of_ble_eq_true rfl, Nat.le_of_ble_eq_true rfl⟩) hP hD hS hA (fun _ H locs hw hP hD hS => ?_)
    refine lv_aload_n hx hb dn_M_statementGrammar_185 rfl (lv_at hl 0 rfl) ?_
    refine lv_bipush (v := 59) hx hb dn_M_statementGrammar_186 (by decide) ?_
    obtain ⟨q_5, hc_6, hf⟩ := dc_b hf
    refine dc_callv (dc_runV (ar := 1) (As := [.int 59]) (rest := []) (ci := 0) (q0 := 0) ⟨hx, hb, hml, hown, hg⟩ hK hN hT hS hA (ct_M_take l dC dI cI cB cJ cZ cQ N H.size h0 a 59 q_3.2 q_5 hc_6) hP hD rfl rfl wn_9_178 wn_9_180 sn_M_take wn_1_13 wn_9_181 rfl rfl (by decide +kernel) ⟨dc_ra (Nat.le_of_ble_eq_true rfl), dc_ra (Nat.le_of_ble_eq_true rfl)⟩ rfl hl.1 rfl (Nat.le_of_ble_eq_true rfl) dn_M_statementGrammar_188 ⟨Nat.le_of_ble_eq_true rfl, Nat.le_of_ble_eq_true rfl⟩) hP hD hS hA (fun _ H locs hw hP hD hS => ?_)
    rw [hQQ, ← Option.some.inj hf]
    exact xk_vret (w1 := fun u : Unit => (wM h0 a cI cB cJ cZ q_5.2)) () hx hb hr hlocks hK hS dn_M_statementGrammar_191 hP hD trivial (Nat.le_refl _) (Nat.le_refl _)
  have bl_112 : ∀ (s : ms), bk_M_statementGrammar_112 N r_M_statementGrammar r_M_caseGrammar s = some y → dcC p l e ({ frames := 405 + (d + 1), cells := 0, slots := 0, locals := 8104 + (d + 1) * 20 }) s0 m [.ref h0].toArray below meth c QQ (dC, dI) A (wM h0 a cI cB cJ cZ s) 112 1 [(0, .ref h0)] [] := by
    intro s hf H locs ls hP hD hS hl
    unfold bk_M_statementGrammar_112 at hf
    refine lv_aload_n hx hb dn_M_statementGrammar_112 rfl (lv_at hl 0 rfl) ?_
    refine lv_dup hx hb dn_M_statementGrammar_113 rfl ?_
    refine va_get (D := (dC, dI)) (ci := 0) (v := .int ((s.1 11 0))) (C := rn_M) (T := fn_M) (N := 91) hx hb hg in_M hown hK hP 0 rfl rfl 11 (by decide) (hg _ wn_8_84) (fun _ h9 => h9) rfl dn_M_statementGrammar_114 ?_
    refine lv_iconst (v := 1) hx hb dn_M_statementGrammar_117 (by decide) ?_
    refine lv_isub hx hb dn_M_statementGrammar_118 ?_
    refine va_put (D := (dC, dI)) (ci := 0) (v := .int (((s.1 11 0) - 1))) (ty := .int) (C := rn_M) (T := fn_M) (N := 91) hx hb hg in_M tn_M tk_M nn_M hown hK hP hD hS 0 rfl rfl 11 (by decide) (hg _ wn_8_84) (fun _ h9 => h9) rfl (tk_M 11 (by decide)) rfl rfl (Nat.le_of_ble_eq_true rfl) dn_M_statementGrammar_119 (fun H locs hP hD hS => ?_)
    have hP := wM_P_11 hP
    have hD := wM_D_11 hD
    refine lv_goto (tgt := 191) hx hb dn_M_statementGrammar_122 (by decide) ?_
    rw [hQQ, ← Option.some.inj hf]
    exact xk_vret (w1 := fun u : Unit => (wM h0 a cI cB cJ cZ (upI s 11 (fun _ => ((s.1 11 0) - 1))))) () hx hb hr hlocks hK hS dn_M_statementGrammar_191 hP hD trivial (Nat.le_refl _) (Nat.le_refl _)
  have bl_41 : ∀ (s : ms), bk_M_statementGrammar_41 N r_M_statementGrammar r_M_caseGrammar s = some y → dcC p l e ({ frames := 405 + (d + 1), cells := 0, slots := 0, locals := 8104 + (d + 1) * 20 }) s0 m [.ref h0].toArray below meth c QQ (dC, dI) A (wM h0 a cI cB cJ cZ s) 41 1 [(0, .ref h0)] [] := by
    intro s hf H locs ls hP hD hS hl
    unfold bk_M_statementGrammar_41 at hf
    refine lv_aload_n hx hb dn_M_statementGrammar_41 rfl (lv_at hl 0 rfl) ?_
    refine lv_sipush (v := 311) hx hb dn_M_statementGrammar_42 (by decide) ?_
    obtain ⟨q_1, hc_2, hf⟩ := dc_b hf
    refine dc_callv (dc_runV (ar := 1) (As := [.int 311]) (rest := []) (ci := 0) (q0 := 0) ⟨hx, hb, hml, hown, hg⟩ hK hN hT hS hA (ct_M_shut l dC dI cI cB cJ cZ cQ N H.size h0 a 311 s q_1 hc_2) hP hD rfl rfl wn_9_206 wn_9_208 sn_M_shut wn_1_13 wn_9_209 rfl rfl (by decide +kernel) ⟨dc_ra (Nat.le_of_ble_eq_true rfl), dc_ra (Nat.le_of_ble_eq_true rfl)⟩ rfl hl.1 rfl (Nat.le_of_ble_eq_true rfl) dn_M_statementGrammar_45 ⟨Nat.le_of_ble_eq_true rfl, Nat.le_of_ble_eq_true rfl⟩) hP hD hS hA (fun _ H locs hw hP hD hS => ?_)
    refine lv_goto (tgt := 191) hx hb dn_M_statementGrammar_48 (by decide) ?_
    rw [hQQ, ← Option.some.inj hf]
    exact xk_vret (w1 := fun u : Unit => (wM h0 a cI cB cJ cZ q_1.2)) () hx hb hr hlocks hK hS dn_M_statementGrammar_191 hP hD trivial (Nat.le_refl _) (Nat.le_refl _)
  have hd_17 : ∀ (n : Nat) (s : ms), hd_M_statementGrammar_17 N r_M_statementGrammar r_M_caseGrammar n s = some y → dcC p l e ({ frames := 405 + (d + 1), cells := 0, slots := 0, locals := 8104 + (d + 1) * 20 }) s0 m [.ref h0].toArray below meth c QQ (dC, dI) A (wM h0 a cI cB cJ cZ s) 17 1 [(0, .ref h0)] [] := by
    intro n
    induction n with
    | zero => intro s hf; cases hf
    | succ n ih =>
      intro s hf H locs ls hP hD hS hl
      have hf : bd_M_statementGrammar_17 N r_M_statementGrammar r_M_caseGrammar (hd_M_statementGrammar_17 N r_M_statementGrammar r_M_caseGrammar n) s = some y := hf
      have hk_17 := ih
      generalize hd_M_statementGrammar_17 N r_M_statementGrammar r_M_caseGrammar n = k_17 at hf hk_17
      unfold bd_M_statementGrammar_17 at hf
      refine lv_aload_n hx hb dn_M_statementGrammar_17 rfl (lv_at hl 0 rfl) ?_
      refine va_get (D := (dC, dI)) (ci := 0) (v := .int ((s.1 9 0))) (C := rn_M) (T := fn_M) (N := 91) hx hb hg in_M hown hK hP 0 rfl rfl 9 (by decide) (hg _ wn_8_82) (fun _ h9 => h9) rfl dn_M_statementGrammar_18 ?_
      refine lv_if_ne (tgt := 41) hx hb dn_M_statementGrammar_21 (by decide) (fun h => ?_) (fun h => ?_)
      · have hf := (if_neg h).symm.trans hf
        exact bl_41 s hf H locs ls hP hD hS hl
      · have hf := (if_pos h).symm.trans hf
        refine lv_aload_n hx hb dn_M_statementGrammar_24 rfl (lv_at hl 0 rfl) ?_
        obtain ⟨q_1, hc_2, hf⟩ := dc_b hf
        refine dc_calli (dc_runV (ar := 0) (As := []) (rest := []) (ci := 0) (q0 := 0) ⟨hx, hb, hml, hown, hg⟩ hK hN hT hS hA (ct_M_kind l dC dI cI cB cJ cZ cQ N H.size h0 a s q_1 hc_2) hP hD rfl rfl wn_9_214 wn_9_216 sn_M_kind wn_1_13 wn_9_217 rfl rfl (by decide +kernel) ⟨dc_ra (Nat.le_of_ble_eq_true rfl), dc_ra (Nat.le_of_ble_eq_true rfl)⟩ rfl hl.1 rfl (Nat.le_of_ble_eq_true rfl) dn_M_statementGrammar_25 ⟨Nat.le_of_ble_eq_true rfl, Nat.le_of_ble_eq_true rfl⟩) hP hD hS hA (fun r_3 _ H locs hw hP hD hS => ?_)
        have hw : r_3 = q_1.1 := hw
        subst hw
        refine lv_sipush (v := 311) hx hb dn_M_statementGrammar_28 (by decide) ?_
        refine lv_icmp_eq (tgt := 41) hx hb dn_M_statementGrammar_31 (by decide) (fun h => ?_) (fun h => ?_)
        · have hf := (if_pos h).symm.trans hf
          exact bl_41 q_1.2 hf H locs ls hP hD hS hl
        · have hf := (if_neg h).symm.trans hf
          refine lv_aload_n hx hb dn_M_statementGrammar_34 rfl (lv_at hl 0 rfl) ?_
          obtain ⟨q_4, hc_5, hf⟩ := dc_b hf
          refine dc_callv (dc_runV (ar := 0) (As := []) (rest := []) (ci := 0) (q0 := 0) ⟨hx, hb, hml, hown, hg⟩ hK hN hT hS hA (hr_M_statementGrammar H.size h0 a q_1.2 q_4 hc_5) hP hD rfl rfl wn_10_4 wn_10_6 sn_M_statementGrammar wn_1_13 wn_10_7 rfl rfl (by decide +kernel) ⟨Nat.le_refl _, dc_lm (Nat.le_of_ble_eq_true rfl)⟩ rfl hl.1 rfl (Nat.le_of_ble_eq_true rfl) dn_M_statementGrammar_35 ⟨Nat.le_of_ble_eq_true rfl, Nat.le_of_ble_eq_true rfl⟩) hP hD hS hA (fun _ H locs hw hP hD hS => ?_)
          refine lv_goto (tgt := 17) hx hb dn_M_statementGrammar_38 (by decide) ?_
          exact hk_17 q_4.2 hf H locs ls hP hD hS hl
  intro H locs ls hP hD hS hl
  unfold fb_M_statementGrammar at hf
  refine lv_aload_n hx hb dn_M_statementGrammar_0 rfl (lv_at hl 0 rfl) ?_
  refine lv_sipush (v := 310) hx hb dn_M_statementGrammar_1 (by decide) ?_
  obtain ⟨q_1, hc_2, hf⟩ := dc_b hf
  refine dc_calli (dc_runV (ar := 1) (As := [.int 310]) (rest := []) (ci := 0) (q0 := 0) ⟨hx, hb, hml, hown, hg⟩ hK hN hT hS hA (ct_M_is l dC dI cI cB cJ cZ cQ N H.size h0 a 310 s q_1 hc_2) hP hD rfl rfl wn_9_194 wn_9_196 sn_M_is wn_1_13 wn_9_197 rfl rfl (by decide +kernel) ⟨dc_ra (Nat.le_of_ble_eq_true rfl), dc_ra (Nat.le_of_ble_eq_true rfl)⟩ rfl hl.1 rfl (Nat.le_of_ble_eq_true rfl) dn_M_statementGrammar_4 ⟨Nat.le_of_ble_eq_true rfl, Nat.le_of_ble_eq_true rfl⟩) hP hD hS hA (fun r_3 _ H locs hw hP hD hS => ?_)
  have hw : r_3 = q_1.1 := hw
  subst hw
  refine lv_if_eq (tgt := 51) hx hb dn_M_statementGrammar_7 (by decide) (fun h => ?_) (fun h => ?_)
  · have hf := (if_pos h).symm.trans hf
    refine lv_aload_n hx hb dn_M_statementGrammar_51 rfl (lv_at hl 0 rfl) ?_
    refine lv_sipush (v := 312) hx hb dn_M_statementGrammar_52 (by decide) ?_
    obtain ⟨q_4, hc_5, hf⟩ := dc_b hf
    refine dc_calli (dc_runV (ar := 1) (As := [.int 312]) (rest := []) (ci := 0) (q0 := 0) ⟨hx, hb, hml, hown, hg⟩ hK hN hT hS hA (ct_M_is l dC dI cI cB cJ cZ cQ N H.size h0 a 312 q_1.2 q_4 hc_5) hP hD rfl rfl wn_9_194 wn_9_196 sn_M_is wn_1_13 wn_9_197 rfl rfl (by decide +kernel) ⟨dc_ra (Nat.le_of_ble_eq_true rfl), dc_ra (Nat.le_of_ble_eq_true rfl)⟩ rfl hl.1 rfl (Nat.le_of_ble_eq_true rfl) dn_M_statementGrammar_55 ⟨Nat.le_of_ble_eq_true rfl, Nat.le_of_ble_eq_true rfl⟩) hP hD hS hA (fun r_6 _ H locs hw hP hD hS => ?_)
    have hw : r_6 = q_4.1 := hw
    subst hw
    refine lv_if_eq (tgt := 125) hx hb dn_M_statementGrammar_58 (by decide) (fun h => ?_) (fun h => ?_)
    · have hf := (if_pos h).symm.trans hf
      refine lv_aload_n hx hb dn_M_statementGrammar_125 rfl (lv_at hl 0 rfl) ?_
      refine lv_sipush (v := 314) hx hb dn_M_statementGrammar_126 (by decide) ?_
      obtain ⟨q_7, hc_8, hf⟩ := dc_b hf
      refine dc_calli (dc_runV (ar := 1) (As := [.int 314]) (rest := []) (ci := 0) (q0 := 0) ⟨hx, hb, hml, hown, hg⟩ hK hN hT hS hA (ct_M_is l dC dI cI cB cJ cZ cQ N H.size h0 a 314 q_4.2 q_7 hc_8) hP hD rfl rfl wn_9_194 wn_9_196 sn_M_is wn_1_13 wn_9_197 rfl rfl (by decide +kernel) ⟨dc_ra (Nat.le_of_ble_eq_true rfl), dc_ra (Nat.le_of_ble_eq_true rfl)⟩ rfl hl.1 rfl (Nat.le_of_ble_eq_true rfl) dn_M_statementGrammar_129 ⟨Nat.le_of_ble_eq_true rfl, Nat.le_of_ble_eq_true rfl⟩) hP hD hS hA (fun r_9 _ H locs hw hP hD hS => ?_)
      have hw : r_9 = q_7.1 := hw
      subst hw
      refine lv_if_eq (tgt := 142) hx hb dn_M_statementGrammar_132 (by decide) (fun h => ?_) (fun h => ?_)
      · have hf := (if_pos h).symm.trans hf
        refine lv_aload_n hx hb dn_M_statementGrammar_142 rfl (lv_at hl 0 rfl) ?_
        refine lv_sipush (v := 400) hx hb dn_M_statementGrammar_143 (by decide) ?_
        obtain ⟨q_10, hc_11, hf⟩ := dc_b hf
        refine dc_callv (dc_runV (ar := 1) (As := [.int 400]) (rest := []) (ci := 0) (q0 := 0) ⟨hx, hb, hml, hown, hg⟩ hK hN hT hS hA (ct_M_take l dC dI cI cB cJ cZ cQ N H.size h0 a 400 q_7.2 q_10 hc_11) hP hD rfl rfl wn_9_178 wn_9_180 sn_M_take wn_1_13 wn_9_181 rfl rfl (by decide +kernel) ⟨dc_ra (Nat.le_of_ble_eq_true rfl), dc_ra (Nat.le_of_ble_eq_true rfl)⟩ rfl hl.1 rfl (Nat.le_of_ble_eq_true rfl) dn_M_statementGrammar_146 ⟨Nat.le_of_ble_eq_true rfl, Nat.le_of_ble_eq_true rfl⟩) hP hD hS hA (fun _ H locs hw hP hD hS => ?_)
        refine lv_aload_n hx hb dn_M_statementGrammar_149 rfl (lv_at hl 0 rfl) ?_
        refine lv_bipush (v := 91) hx hb dn_M_statementGrammar_150 (by decide) ?_
        obtain ⟨q_12, hc_13, hf⟩ := dc_b hf
        refine dc_calli (dc_runV (ar := 1) (As := [.int 91]) (rest := []) (ci := 0) (q0 := 0) ⟨hx, hb, hml, hown, hg⟩ hK hN hT hS hA (ct_M_is l dC dI cI cB cJ cZ cQ N H.size h0 a 91 q_10.2 q_12 hc_13) hP hD rfl rfl wn_9_194 wn_9_196 sn_M_is wn_1_13 wn_9_197 rfl rfl (by decide +kernel) ⟨dc_ra (Nat.le_of_ble_eq_true rfl), dc_ra (Nat.le_of_ble_eq_true rfl)⟩ rfl hl.1 rfl (Nat.le_of_ble_eq_true rfl) dn_M_statementGrammar_152 ⟨Nat.le_of_ble_eq_true rfl, Nat.le_of_ble_eq_true rfl⟩) hP hD hS hA (fun r_14 _ H locs hw hP hD hS => ?_)
        have hw : r_14 = q_12.1 := hw
        subst hw
        refine lv_if_eq (tgt := 174) hx hb dn_M_statementGrammar_155 (by decide) (fun h => ?_) (fun h => ?_)
        · have hf := (if_pos h).symm.trans hf
          exact bl_174 q_12.2 hf H locs ls hP hD hS hl
        · have hf := (if_neg h).symm.trans hf
          refine lv_aload_n hx hb dn_M_statementGrammar_158 rfl (lv_at hl 0 rfl) ?_
          refine lv_bipush (v := 91) hx hb dn_M_statementGrammar_159 (by decide) ?_
          obtain ⟨q_15, hc_16, hf⟩ := dc_b hf
          refine dc_callv (dc_runV (ar := 1) (As := [.int 91]) (rest := []) (ci := 0) (q0 := 0) ⟨hx, hb, hml, hown, hg⟩ hK hN hT hS hA (ct_M_open l dC dI cI cB cJ cZ cQ N H.size h0 a 91 q_12.2 q_15 hc_16) hP hD rfl rfl wn_9_190 wn_9_192 sn_M_open wn_1_13 wn_9_193 rfl rfl (by decide +kernel) ⟨dc_ra (Nat.le_of_ble_eq_true rfl), dc_ra (Nat.le_of_ble_eq_true rfl)⟩ rfl hl.1 rfl (Nat.le_of_ble_eq_true rfl) dn_M_statementGrammar_161 ⟨Nat.le_of_ble_eq_true rfl, Nat.le_of_ble_eq_true rfl⟩) hP hD hS hA (fun _ H locs hw hP hD hS => ?_)
          refine lv_aload_n hx hb dn_M_statementGrammar_164 rfl (lv_at hl 0 rfl) ?_
          obtain ⟨q_17, hc_18, hf⟩ := dc_b hf
          refine dc_callv (dc_runV (ar := 0) (As := []) (rest := []) (ci := 0) (q0 := 0) ⟨hx, hb, hml, hown, hg⟩ hK hN hT hS hA (ct_M_partGrammar l dC dI cI cB cJ cZ cQ N H.size h0 a q_15.2 q_17 hc_18) hP hD rfl rfl wn_9_233 wn_9_235 sn_M_partGrammar wn_1_13 wn_9_236 rfl rfl (by decide +kernel) ⟨dc_ra (Nat.le_of_ble_eq_true rfl), dc_ra (Nat.le_of_ble_eq_true rfl)⟩ rfl hl.1 rfl (Nat.le_of_ble_eq_true rfl) dn_M_statementGrammar_165 ⟨Nat.le_of_ble_eq_true rfl, Nat.le_of_ble_eq_true rfl⟩) hP hD hS hA (fun _ H locs hw hP hD hS => ?_)
          refine lv_aload_n hx hb dn_M_statementGrammar_168 rfl (lv_at hl 0 rfl) ?_
          refine lv_bipush (v := 93) hx hb dn_M_statementGrammar_169 (by decide) ?_
          obtain ⟨q_19, hc_20, hf⟩ := dc_b hf
          refine dc_callv (dc_runV (ar := 1) (As := [.int 93]) (rest := []) (ci := 0) (q0 := 0) ⟨hx, hb, hml, hown, hg⟩ hK hN hT hS hA (ct_M_shut l dC dI cI cB cJ cZ cQ N H.size h0 a 93 q_17.2 q_19 hc_20) hP hD rfl rfl wn_9_206 wn_9_208 sn_M_shut wn_1_13 wn_9_209 rfl rfl (by decide +kernel) ⟨dc_ra (Nat.le_of_ble_eq_true rfl), dc_ra (Nat.le_of_ble_eq_true rfl)⟩ rfl hl.1 rfl (Nat.le_of_ble_eq_true rfl) dn_M_statementGrammar_171 ⟨Nat.le_of_ble_eq_true rfl, Nat.le_of_ble_eq_true rfl⟩) hP hD hS hA (fun _ H locs hw hP hD hS => ?_)
          exact bl_174 q_19.2 hf H locs ls hP hD hS hl
      · have hf := (if_neg h).symm.trans hf
        refine lv_aload_n hx hb dn_M_statementGrammar_135 rfl (lv_at hl 0 rfl) ?_
        obtain ⟨q_10, hc_11, hf⟩ := dc_b hf
        refine dc_callv (dc_runV (ar := 0) (As := []) (rest := []) (ci := 0) (q0 := 0) ⟨hx, hb, hml, hown, hg⟩ hK hN hT hS hA (hr_M_caseGrammar H.size h0 a q_7.2 q_10 hc_11) hP hD rfl rfl wn_10_8 wn_10_10 sn_M_caseGrammar wn_1_13 wn_10_11 rfl rfl (by decide +kernel) ⟨Nat.le_refl _, dc_lm (Nat.le_of_ble_eq_true rfl)⟩ rfl hl.1 rfl (Nat.le_of_ble_eq_true rfl) dn_M_statementGrammar_136 ⟨Nat.le_of_ble_eq_true rfl, Nat.le_of_ble_eq_true rfl⟩) hP hD hS hA (fun _ H locs hw hP hD hS => ?_)
        refine lv_goto (tgt := 191) hx hb dn_M_statementGrammar_139 (by decide) ?_
        rw [hQQ, ← Option.some.inj hf]
        exact xk_vret (w1 := fun u : Unit => (wM h0 a cI cB cJ cZ q_10.2)) () hx hb hr hlocks hK hS dn_M_statementGrammar_191 hP hD trivial (Nat.le_refl _) (Nat.le_refl _)
    · have hf := (if_neg h).symm.trans hf
      refine lv_aload_n hx hb dn_M_statementGrammar_61 rfl (lv_at hl 0 rfl) ?_
      refine lv_sipush (v := 312) hx hb dn_M_statementGrammar_62 (by decide) ?_
      obtain ⟨q_7, hc_8, hf⟩ := dc_b hf
      refine dc_callv (dc_runV (ar := 1) (As := [.int 312]) (rest := []) (ci := 0) (q0 := 0) ⟨hx, hb, hml, hown, hg⟩ hK hN hT hS hA (ct_M_open l dC dI cI cB cJ cZ cQ N H.size h0 a 312 q_4.2 q_7 hc_8) hP hD rfl rfl wn_9_190 wn_9_192 sn_M_open wn_1_13 wn_9_193 rfl rfl (by decide +kernel) ⟨dc_ra (Nat.le_of_ble_eq_true rfl), dc_ra (Nat.le_of_ble_eq_true rfl)⟩ rfl hl.1 rfl (Nat.le_of_ble_eq_true rfl) dn_M_statementGrammar_65 ⟨Nat.le_of_ble_eq_true rfl, Nat.le_of_ble_eq_true rfl⟩) hP hD hS hA (fun _ H locs hw hP hD hS => ?_)
      refine lv_aload_n hx hb dn_M_statementGrammar_68 rfl (lv_at hl 0 rfl) ?_
      refine lv_bipush (v := 40) hx hb dn_M_statementGrammar_69 (by decide) ?_
      obtain ⟨q_9, hc_10, hf⟩ := dc_b hf
      refine dc_callv (dc_runV (ar := 1) (As := [.int 40]) (rest := []) (ci := 0) (q0 := 0) ⟨hx, hb, hml, hown, hg⟩ hK hN hT hS hA (ct_M_open l dC dI cI cB cJ cZ cQ N H.size h0 a 40 q_7.2 q_9 hc_10) hP hD rfl rfl wn_9_190 wn_9_192 sn_M_open wn_1_13 wn_9_193 rfl rfl (by decide +kernel) ⟨dc_ra (Nat.le_of_ble_eq_true rfl), dc_ra (Nat.le_of_ble_eq_true rfl)⟩ rfl hl.1 rfl (Nat.le_of_ble_eq_true rfl) dn_M_statementGrammar_71 ⟨Nat.le_of_ble_eq_true rfl, Nat.le_of_ble_eq_true rfl⟩) hP hD hS hA (fun _ H locs hw hP hD hS => ?_)
      refine lv_aload_n hx hb dn_M_statementGrammar_74 rfl (lv_at hl 0 rfl) ?_
      obtain ⟨q_11, hc_12, hf⟩ := dc_b hf
      refine dc_callv (dc_runV (ar := 0) (As := []) (rest := []) (ci := 0) (q0 := 0) ⟨hx, hb, hml, hown, hg⟩ hK hN hT hS hA (ct_M_expGrammar l dC dI cI cB cJ cZ cQ N H.size h0 a q_9.2 q_11 hc_12) hP hD rfl rfl wn_9_222 wn_9_224 sn_M_expGrammar wn_1_13 wn_9_225 rfl rfl (by decide +kernel) ⟨dc_ra (Nat.le_of_ble_eq_true rfl), dc_ra (Nat.le_of_ble_eq_true rfl)⟩ rfl hl.1 rfl (Nat.le_of_ble_eq_true rfl) dn_M_statementGrammar_75 ⟨Nat.le_of_ble_eq_true rfl, Nat.le_of_ble_eq_true rfl⟩) hP hD hS hA (fun _ H locs hw hP hD hS => ?_)
      refine lv_aload_n hx hb dn_M_statementGrammar_78 rfl (lv_at hl 0 rfl) ?_
      refine lv_bipush (v := 41) hx hb dn_M_statementGrammar_79 (by decide) ?_
      obtain ⟨q_13, hc_14, hf⟩ := dc_b hf
      refine dc_callv (dc_runV (ar := 1) (As := [.int 41]) (rest := []) (ci := 0) (q0 := 0) ⟨hx, hb, hml, hown, hg⟩ hK hN hT hS hA (ct_M_shut l dC dI cI cB cJ cZ cQ N H.size h0 a 41 q_11.2 q_13 hc_14) hP hD rfl rfl wn_9_206 wn_9_208 sn_M_shut wn_1_13 wn_9_209 rfl rfl (by decide +kernel) ⟨dc_ra (Nat.le_of_ble_eq_true rfl), dc_ra (Nat.le_of_ble_eq_true rfl)⟩ rfl hl.1 rfl (Nat.le_of_ble_eq_true rfl) dn_M_statementGrammar_81 ⟨Nat.le_of_ble_eq_true rfl, Nat.le_of_ble_eq_true rfl⟩) hP hD hS hA (fun _ H locs hw hP hD hS => ?_)
      refine lv_aload_n hx hb dn_M_statementGrammar_84 rfl (lv_at hl 0 rfl) ?_
      obtain ⟨q_15, hc_16, hf⟩ := dc_b hf
      refine dc_callv (dc_runV (ar := 0) (As := []) (rest := []) (ci := 0) (q0 := 0) ⟨hx, hb, hml, hown, hg⟩ hK hN hT hS hA (hr_M_statementGrammar H.size h0 a q_13.2 q_15 hc_16) hP hD rfl rfl wn_10_4 wn_10_6 sn_M_statementGrammar wn_1_13 wn_10_7 rfl rfl (by decide +kernel) ⟨Nat.le_refl _, dc_lm (Nat.le_of_ble_eq_true rfl)⟩ rfl hl.1 rfl (Nat.le_of_ble_eq_true rfl) dn_M_statementGrammar_85 ⟨Nat.le_of_ble_eq_true rfl, Nat.le_of_ble_eq_true rfl⟩) hP hD hS hA (fun _ H locs hw hP hD hS => ?_)
      refine lv_aload_n hx hb dn_M_statementGrammar_88 rfl (lv_at hl 0 rfl) ?_
      refine lv_sipush (v := 313) hx hb dn_M_statementGrammar_89 (by decide) ?_
      obtain ⟨q_17, hc_18, hf⟩ := dc_b hf
      refine dc_calli (dc_runV (ar := 1) (As := [.int 313]) (rest := []) (ci := 0) (q0 := 0) ⟨hx, hb, hml, hown, hg⟩ hK hN hT hS hA (ct_M_is l dC dI cI cB cJ cZ cQ N H.size h0 a 313 q_15.2 q_17 hc_18) hP hD rfl rfl wn_9_194 wn_9_196 sn_M_is wn_1_13 wn_9_197 rfl rfl (by decide +kernel) ⟨dc_ra (Nat.le_of_ble_eq_true rfl), dc_ra (Nat.le_of_ble_eq_true rfl)⟩ rfl hl.1 rfl (Nat.le_of_ble_eq_true rfl) dn_M_statementGrammar_92 ⟨Nat.le_of_ble_eq_true rfl, Nat.le_of_ble_eq_true rfl⟩) hP hD hS hA (fun r_19 _ H locs hw hP hD hS => ?_)
      have hw : r_19 = q_17.1 := hw
      subst hw
      refine lv_if_eq (tgt := 112) hx hb dn_M_statementGrammar_95 (by decide) (fun h => ?_) (fun h => ?_)
      · have hf := (if_pos h).symm.trans hf
        exact bl_112 q_17.2 hf H locs ls hP hD hS hl
      · have hf := (if_neg h).symm.trans hf
        refine lv_aload_n hx hb dn_M_statementGrammar_98 rfl (lv_at hl 0 rfl) ?_
        refine lv_dup hx hb dn_M_statementGrammar_99 rfl ?_
        refine va_get (D := (dC, dI)) (ci := 0) (v := .int ((q_17.2.1 8 0))) (C := rn_M) (T := fn_M) (N := 91) hx hb hg in_M hown hK hP 0 rfl rfl 8 (by decide) (hg _ wn_8_81) (fun _ h9 => h9) rfl dn_M_statementGrammar_100 ?_
        refine lv_iconst (v := 1) hx hb dn_M_statementGrammar_103 (by decide) ?_
        refine lv_iadd hx hb dn_M_statementGrammar_104 ?_
        refine va_put (D := (dC, dI)) (ci := 0) (v := .int (((q_17.2.1 8 0) + 1))) (ty := .int) (C := rn_M) (T := fn_M) (N := 91) hx hb hg in_M tn_M tk_M nn_M hown hK hP hD hS 0 rfl rfl 8 (by decide) (hg _ wn_8_81) (fun _ h9 => h9) rfl (tk_M 8 (by decide)) rfl rfl (Nat.le_of_ble_eq_true rfl) dn_M_statementGrammar_105 (fun H locs hP hD hS => ?_)
        have hP := wM_P_8 hP
        have hD := wM_D_8 hD
        refine lv_aload_n hx hb dn_M_statementGrammar_108 rfl (lv_at hl 0 rfl) ?_
        obtain ⟨q_20, hc_21, hf⟩ := dc_b hf
        refine dc_callv (dc_runV (ar := 0) (As := []) (rest := []) (ci := 0) (q0 := 0) ⟨hx, hb, hml, hown, hg⟩ hK hN hT hS hA (hr_M_statementGrammar H.size h0 a (upI q_17.2 8 (fun _ => ((q_17.2.1 8 0) + 1))) q_20 hc_21) hP hD rfl rfl wn_10_4 wn_10_6 sn_M_statementGrammar wn_1_13 wn_10_7 rfl rfl (by decide +kernel) ⟨Nat.le_refl _, dc_lm (Nat.le_of_ble_eq_true rfl)⟩ rfl hl.1 rfl (Nat.le_of_ble_eq_true rfl) dn_M_statementGrammar_109 ⟨Nat.le_of_ble_eq_true rfl, Nat.le_of_ble_eq_true rfl⟩) hP hD hS hA (fun _ H locs hw hP hD hS => ?_)
        exact bl_112 q_20.2 hf H locs ls hP hD hS hl
  · have hf := (if_neg h).symm.trans hf
    refine lv_aload_n hx hb dn_M_statementGrammar_10 rfl (lv_at hl 0 rfl) ?_
    refine lv_sipush (v := 310) hx hb dn_M_statementGrammar_11 (by decide) ?_
    obtain ⟨q_4, hc_5, hf⟩ := dc_b hf
    refine dc_callv (dc_runV (ar := 1) (As := [.int 310]) (rest := []) (ci := 0) (q0 := 0) ⟨hx, hb, hml, hown, hg⟩ hK hN hT hS hA (ct_M_open l dC dI cI cB cJ cZ cQ N H.size h0 a 310 q_1.2 q_4 hc_5) hP hD rfl rfl wn_9_190 wn_9_192 sn_M_open wn_1_13 wn_9_193 rfl rfl (by decide +kernel) ⟨dc_ra (Nat.le_of_ble_eq_true rfl), dc_ra (Nat.le_of_ble_eq_true rfl)⟩ rfl hl.1 rfl (Nat.le_of_ble_eq_true rfl) dn_M_statementGrammar_14 ⟨Nat.le_of_ble_eq_true rfl, Nat.le_of_ble_eq_true rfl⟩) hP hD hS hA (fun _ H locs hw hP hD hS => ?_)
    exact hd_17 N q_4.2 hf H locs ls hP hD hS hl
set_option maxHeartbeats 8000000 in
set_option maxRecDepth 100000 in
theorem cb_M_caseGrammar (l : Launch) (dC : Nat → ClassId) (dI : Nat → Nat → Nat) (cI cB cJ cZ cQ : ClassId) (N d : Nat) (r_M_statementGrammar : ms → Option (Unit × ms)) (r_M_caseGrammar : ms → Option (Unit × ms)) (hmr_M_statementGrammar : ∀ (s : ms) (y : (Unit × ms)), r_M_statementGrammar s = some y → gl y.2 = gl s) (hmr_M_caseGrammar : ∀ (s : ms) (y : (Unit × ms)), r_M_caseGrammar s = some y → gl y.2 = gl s) (hr_M_statementGrammar : ∀ (sz : Nat) (h0 : Nat) (a : Nat → Nat) (s : ms) (y : (Unit × ms)), r_M_statementGrammar s = some y → Met l yn_M_statementGrammar (xw yn_M_statementGrammar bn_M_statementGrammar 1 none) ({ frames := 405 + d, cells := 0, slots := 0, locals := 8104 + d * 20 }) (dc_P (dC, dI) xcl (xt cI cB cJ cZ cQ) [.ref h0] sz (wM h0 a cI cB cJ cZ s)) (xk_Qv (dC, dI) xcl (xt cI cB cJ cZ cQ) (fun _ : Unit => True) (fun u : Unit => (wM h0 a cI cB cJ cZ y.2)) (va_A (wM h0 a cI cB cJ cZ s) sz)) 0 0 (va_A (wM h0 a cI cB cJ cZ s) sz)) (hr_M_caseGrammar : ∀ (sz : Nat) (h0 : Nat) (a : Nat → Nat) (s : ms) (y : (Unit × ms)), r_M_caseGrammar s = some y → Met l yn_M_caseGrammar (xw yn_M_caseGrammar bn_M_caseGrammar 1 none) ({ frames := 405 + d, cells := 0, slots := 0, locals := 8104 + d * 20 }) (dc_P (dC, dI) xcl (xt cI cB cJ cZ cQ) [.ref h0] sz (wM h0 a cI cB cJ cZ s)) (xk_Qv (dC, dI) xcl (xt cI cB cJ cZ cQ) (fun _ : Unit => True) (fun u : Unit => (wM h0 a cI cB cJ cZ y.2)) (va_A (wM h0 a cI cB cJ cZ s) sz)) 0 0 (va_A (wM h0 a cI cB cJ cZ s) sz)) (sz : Nat) (h0 : Nat) (a : Nat → Nat) (s : ms) (y : (Unit × ms)) (hf : fb_M_caseGrammar N r_M_statementGrammar r_M_caseGrammar s = some y) : Met l yn_M_caseGrammar (xw yn_M_caseGrammar bn_M_caseGrammar 1 none) ({ frames := 405 + (d + 1), cells := 0, slots := 0, locals := 8104 + (d + 1) * 20 }) (dc_P (dC, dI) xcl (xt cI cB cJ cZ cQ) [.ref h0] sz (wM h0 a cI cB cJ cZ s)) (xk_Qv (dC, dI) xcl (xt cI cB cJ cZ cQ) (fun _ : Unit => True) (fun u : Unit => (wM h0 a cI cB cJ cZ y.2)) (va_A (wM h0 a cI cB cJ cZ s) sz)) 0 0 (va_A (wM h0 a cI cB cJ cZ s) sz) := by
  refine dc_of (QA := xk_Qv (dC, dI) xcl (xt cI cB cJ cZ cQ) (fun _ : Unit => True) (fun u : Unit => (wM h0 a cI cB cJ cZ y.2))) (by decide) (Nat.le_of_ble_eq_true rfl) ?_
  intro p e s0 m below meth c hx hb hml hown hg hr hlocks hin hP hK hN A hA hD hT ls hl
  have hown : s0.vm.findClass rn_M = some m.cls := hown
  obtain ⟨H, hH⟩ : ∃ z, z = s0.heap := ⟨_, rfl⟩
  rw [← hH] at hP
  have hS : va_S A s0.heap H [] := by rw [hH]; exact va_S.rf
  suffices kk : ∀ QQ : State → Prop, QQ = MQ below (xk_Qv (dC, dI) xcl (xt cI cB cJ cZ cQ) (fun _ : Unit => True) (fun u : Unit => (wM h0 a cI cB cJ cZ y.2)) A) [.ref h0].toArray s0 0 0 A → dcC p l e ({ frames := 405 + (d + 1), cells := 0, slots := 0, locals := 8104 + (d + 1) * 20 }) s0 m [.ref h0].toArray below meth c QQ (dC, dI) A (wM h0 a cI cB cJ cZ s) 0 1 [(0, .ref h0)] [] by
    have k9 := kk _ rfl H [] ls hP hD hS hl
    rw [hH] at k9; exact k9
  clear hP hD hS hl hH H ls
  intro QQ hQQ
  have bl_115 : ∀ (s : ms), bk_M_caseGrammar_115 N r_M_statementGrammar r_M_caseGrammar s = some y → dcC p l e ({ frames := 405 + (d + 1), cells := 0, slots := 0, locals := 8104 + (d + 1) * 20 }) s0 m [.ref h0].toArray below meth c QQ (dC, dI) A (wM h0 a cI cB cJ cZ s) 115 1 [(0, .ref h0)] [] := by
    intro s hf H locs ls hP hD hS hl
    unfold bk_M_caseGrammar_115 at hf
    refine lv_aload_n hx hb dn_M_caseGrammar_115 rfl (lv_at hl 0 rfl) ?_
    refine lv_sipush (v := 315) hx hb dn_M_caseGrammar_116 (by decide) ?_
    obtain ⟨q_1, hc_2, hf⟩ := dc_b hf
    refine dc_callv (dc_runV (ar := 1) (As := [.int 315]) (rest := []) (ci := 0) (q0 := 0) ⟨hx, hb, hml, hown, hg⟩ hK hN hT hS hA (ct_M_shut l dC dI cI cB cJ cZ cQ N H.size h0 a 315 s q_1 hc_2) hP hD rfl rfl wn_9_206 wn_9_208 sn_M_shut wn_1_13 wn_9_209 rfl rfl (by decide +kernel) ⟨dc_ra (Nat.le_of_ble_eq_true rfl), dc_ra (Nat.le_of_ble_eq_true rfl)⟩ rfl hl.1 rfl (Nat.le_of_ble_eq_true rfl) dn_M_caseGrammar_119 ⟨Nat.le_of_ble_eq_true rfl, Nat.le_of_ble_eq_true rfl⟩) hP hD hS hA (fun _ H locs hw hP hD hS => ?_)
    rw [hQQ, ← Option.some.inj hf]
    exact xk_vret (w1 := fun u : Unit => (wM h0 a cI cB cJ cZ q_1.2)) () hx hb hr hlocks hK hS dn_M_caseGrammar_122 hP hD trivial (Nat.le_refl _) (Nat.le_refl _)
  have hd_43 : ∀ (k_23 : ms → Option (Unit × ms)) (hk_23 : ∀ (s : ms), k_23 s = some y → dcC p l e ({ frames := 405 + (d + 1), cells := 0, slots := 0, locals := 8104 + (d + 1) * 20 }) s0 m [.ref h0].toArray below meth c QQ (dC, dI) A (wM h0 a cI cB cJ cZ s) 23 1 [(0, .ref h0)] []) (n : Nat) (s : ms), hd_M_caseGrammar_43 N r_M_statementGrammar r_M_caseGrammar k_23 n s = some y → dcC p l e ({ frames := 405 + (d + 1), cells := 0, slots := 0, locals := 8104 + (d + 1) * 20 }) s0 m [.ref h0].toArray below meth c QQ (dC, dI) A (wM h0 a cI cB cJ cZ s) 43 1 [(0, .ref h0)] [] := by
    intro k_23 hk_23 n
    induction n with
    | zero => intro s hf; cases hf
    | succ n ih =>
      intro s hf H locs ls hP hD hS hl
      have hf : bd_M_caseGrammar_43 N r_M_statementGrammar r_M_caseGrammar k_23 (hd_M_caseGrammar_43 N r_M_statementGrammar r_M_caseGrammar k_23 n) s = some y := hf
      have hk_43 := ih
      generalize hd_M_caseGrammar_43 N r_M_statementGrammar r_M_caseGrammar k_23 n = k_43 at hf hk_43
      unfold bd_M_caseGrammar_43 at hf
      refine lv_aload_n hx hb dn_M_caseGrammar_43 rfl (lv_at hl 0 rfl) ?_
      refine lv_bipush (v := 44) hx hb dn_M_caseGrammar_44 (by decide) ?_
      obtain ⟨q_1, hc_2, hf⟩ := dc_b hf
      refine dc_calli (dc_runV (ar := 1) (As := [.int 44]) (rest := []) (ci := 0) (q0 := 0) ⟨hx, hb, hml, hown, hg⟩ hK hN hT hS hA (ct_M_is l dC dI cI cB cJ cZ cQ N H.size h0 a 44 s q_1 hc_2) hP hD rfl rfl wn_9_194 wn_9_196 sn_M_is wn_1_13 wn_9_197 rfl rfl (by decide +kernel) ⟨dc_ra (Nat.le_of_ble_eq_true rfl), dc_ra (Nat.le_of_ble_eq_true rfl)⟩ rfl hl.1 rfl (Nat.le_of_ble_eq_true rfl) dn_M_caseGrammar_46 ⟨Nat.le_of_ble_eq_true rfl, Nat.le_of_ble_eq_true rfl⟩) hP hD hS hA (fun r_3 _ H locs hw hP hD hS => ?_)
      have hw : r_3 = q_1.1 := hw
      subst hw
      refine lv_if_eq (tgt := 72) hx hb dn_M_caseGrammar_49 (by decide) (fun h => ?_) (fun h => ?_)
      · have hf := (if_pos h).symm.trans hf
        refine lv_aload_n hx hb dn_M_caseGrammar_72 rfl (lv_at hl 0 rfl) ?_
        refine lv_bipush (v := 58) hx hb dn_M_caseGrammar_73 (by decide) ?_
        obtain ⟨q_4, hc_5, hf⟩ := dc_b hf
        refine dc_callv (dc_runV (ar := 1) (As := [.int 58]) (rest := []) (ci := 0) (q0 := 0) ⟨hx, hb, hml, hown, hg⟩ hK hN hT hS hA (ct_M_take l dC dI cI cB cJ cZ cQ N H.size h0 a 58 q_1.2 q_4 hc_5) hP hD rfl rfl wn_9_178 wn_9_180 sn_M_take wn_1_13 wn_9_181 rfl rfl (by decide +kernel) ⟨dc_ra (Nat.le_of_ble_eq_true rfl), dc_ra (Nat.le_of_ble_eq_true rfl)⟩ rfl hl.1 rfl (Nat.le_of_ble_eq_true rfl) dn_M_caseGrammar_75 ⟨Nat.le_of_ble_eq_true rfl, Nat.le_of_ble_eq_true rfl⟩) hP hD hS hA (fun _ H locs hw hP hD hS => ?_)
        refine lv_aload_n hx hb dn_M_caseGrammar_78 rfl (lv_at hl 0 rfl) ?_
        obtain ⟨q_6, hc_7, hf⟩ := dc_b hf
        refine dc_callv (dc_runV (ar := 0) (As := []) (rest := []) (ci := 0) (q0 := 0) ⟨hx, hb, hml, hown, hg⟩ hK hN hT hS hA (hr_M_statementGrammar H.size h0 a q_4.2 q_6 hc_7) hP hD rfl rfl wn_10_4 wn_10_6 sn_M_statementGrammar wn_1_13 wn_10_7 rfl rfl (by decide +kernel) ⟨Nat.le_refl _, dc_lm (Nat.le_of_ble_eq_true rfl)⟩ rfl hl.1 rfl (Nat.le_of_ble_eq_true rfl) dn_M_caseGrammar_79 ⟨Nat.le_of_ble_eq_true rfl, Nat.le_of_ble_eq_true rfl⟩) hP hD hS hA (fun _ H locs hw hP hD hS => ?_)
        refine lv_goto (tgt := 23) hx hb dn_M_caseGrammar_82 (by decide) ?_
        exact hk_23 q_6.2 hf H locs ls hP hD hS hl
      · have hf := (if_neg h).symm.trans hf
        refine lv_aload_n hx hb dn_M_caseGrammar_52 rfl (lv_at hl 0 rfl) ?_
        refine lv_dup hx hb dn_M_caseGrammar_53 rfl ?_
        refine va_get (D := (dC, dI)) (ci := 0) (v := .int ((q_1.2.1 8 0))) (C := rn_M) (T := fn_M) (N := 91) hx hb hg in_M hown hK hP 0 rfl rfl 8 (by decide) (hg _ wn_8_81) (fun _ h9 => h9) rfl dn_M_caseGrammar_54 ?_
        refine lv_iconst (v := 1) hx hb dn_M_caseGrammar_57 (by decide) ?_
        refine lv_iadd hx hb dn_M_caseGrammar_58 ?_
        refine va_put (D := (dC, dI)) (ci := 0) (v := .int (((q_1.2.1 8 0) + 1))) (ty := .int) (C := rn_M) (T := fn_M) (N := 91) hx hb hg in_M tn_M tk_M nn_M hown hK hP hD hS 0 rfl rfl 8 (by decide) (hg _ wn_8_81) (fun _ h9 => h9) rfl (tk_M 8 (by decide)) rfl rfl (Nat.le_of_ble_eq_true rfl) dn_M_caseGrammar_59 (fun H locs hP hD hS => ?_)
        have hP := wM_P_8 hP
        have hD := wM_D_8 hD
        refine lv_aload_n hx hb dn_M_caseGrammar_62 rfl (lv_at hl 0 rfl) ?_
        refine lv_sipush (v := 402) hx hb dn_M_caseGrammar_63 (by decide) ?_
        obtain ⟨q_4, hc_5, hf⟩ := dc_b hf
        refine dc_callv (dc_runV (ar := 1) (As := [.int 402]) (rest := []) (ci := 0) (q0 := 0) ⟨hx, hb, hml, hown, hg⟩ hK hN hT hS hA (ct_M_take l dC dI cI cB cJ cZ cQ N H.size h0 a 402 (upI q_1.2 8 (fun _ => ((q_1.2.1 8 0) + 1))) q_4 hc_5) hP hD rfl rfl wn_9_178 wn_9_180 sn_M_take wn_1_13 wn_9_181 rfl rfl (by decide +kernel) ⟨dc_ra (Nat.le_of_ble_eq_true rfl), dc_ra (Nat.le_of_ble_eq_true rfl)⟩ rfl hl.1 rfl (Nat.le_of_ble_eq_true rfl) dn_M_caseGrammar_66 ⟨Nat.le_of_ble_eq_true rfl, Nat.le_of_ble_eq_true rfl⟩) hP hD hS hA (fun _ H locs hw hP hD hS => ?_)
        refine lv_goto (tgt := 43) hx hb dn_M_caseGrammar_69 (by decide) ?_
        exact hk_43 q_4.2 hf H locs ls hP hD hS hl
  have hd_23 : ∀ (n : Nat) (s : ms), hd_M_caseGrammar_23 N r_M_statementGrammar r_M_caseGrammar n s = some y → dcC p l e ({ frames := 405 + (d + 1), cells := 0, slots := 0, locals := 8104 + (d + 1) * 20 }) s0 m [.ref h0].toArray below meth c QQ (dC, dI) A (wM h0 a cI cB cJ cZ s) 23 1 [(0, .ref h0)] [] := by
    intro n
    induction n with
    | zero => intro s hf; cases hf
    | succ n ih =>
      intro s hf H locs ls hP hD hS hl
      have hf : bd_M_caseGrammar_23 N r_M_statementGrammar r_M_caseGrammar (hd_M_caseGrammar_23 N r_M_statementGrammar r_M_caseGrammar n) s = some y := hf
      have hk_23 := ih
      generalize hd_M_caseGrammar_23 N r_M_statementGrammar r_M_caseGrammar n = k_23 at hf hk_23
      unfold bd_M_caseGrammar_23 at hf
      refine lv_aload_n hx hb dn_M_caseGrammar_23 rfl (lv_at hl 0 rfl) ?_
      refine lv_sipush (v := 402) hx hb dn_M_caseGrammar_24 (by decide) ?_
      obtain ⟨q_1, hc_2, hf⟩ := dc_b hf
      refine dc_calli (dc_runV (ar := 1) (As := [.int 402]) (rest := []) (ci := 0) (q0 := 0) ⟨hx, hb, hml, hown, hg⟩ hK hN hT hS hA (ct_M_is l dC dI cI cB cJ cZ cQ N H.size h0 a 402 s q_1 hc_2) hP hD rfl rfl wn_9_194 wn_9_196 sn_M_is wn_1_13 wn_9_197 rfl rfl (by decide +kernel) ⟨dc_ra (Nat.le_of_ble_eq_true rfl), dc_ra (Nat.le_of_ble_eq_true rfl)⟩ rfl hl.1 rfl (Nat.le_of_ble_eq_true rfl) dn_M_caseGrammar_27 ⟨Nat.le_of_ble_eq_true rfl, Nat.le_of_ble_eq_true rfl⟩) hP hD hS hA (fun r_3 _ H locs hw hP hD hS => ?_)
      have hw : r_3 = q_1.1 := hw
      subst hw
      refine lv_if_eq (tgt := 85) hx hb dn_M_caseGrammar_30 (by decide) (fun h => ?_) (fun h => ?_)
      · have hf := (if_pos h).symm.trans hf
        refine lv_aload_n hx hb dn_M_caseGrammar_85 rfl (lv_at hl 0 rfl) ?_
        refine lv_sipush (v := 316) hx hb dn_M_caseGrammar_86 (by decide) ?_
        obtain ⟨q_4, hc_5, hf⟩ := dc_b hf
        refine dc_calli (dc_runV (ar := 1) (As := [.int 316]) (rest := []) (ci := 0) (q0 := 0) ⟨hx, hb, hml, hown, hg⟩ hK hN hT hS hA (ct_M_is l dC dI cI cB cJ cZ cQ N H.size h0 a 316 q_1.2 q_4 hc_5) hP hD rfl rfl wn_9_194 wn_9_196 sn_M_is wn_1_13 wn_9_197 rfl rfl (by decide +kernel) ⟨dc_ra (Nat.le_of_ble_eq_true rfl), dc_ra (Nat.le_of_ble_eq_true rfl)⟩ rfl hl.1 rfl (Nat.le_of_ble_eq_true rfl) dn_M_caseGrammar_89 ⟨Nat.le_of_ble_eq_true rfl, Nat.le_of_ble_eq_true rfl⟩) hP hD hS hA (fun r_6 _ H locs hw hP hD hS => ?_)
        have hw : r_6 = q_4.1 := hw
        subst hw
        refine lv_if_eq (tgt := 115) hx hb dn_M_caseGrammar_92 (by decide) (fun h => ?_) (fun h => ?_)
        · have hf := (if_pos h).symm.trans hf
          exact bl_115 q_4.2 hf H locs ls hP hD hS hl
        · have hf := (if_neg h).symm.trans hf
          refine lv_aload_n hx hb dn_M_caseGrammar_95 rfl (lv_at hl 0 rfl) ?_
          refine lv_dup hx hb dn_M_caseGrammar_96 rfl ?_
          refine va_get (D := (dC, dI)) (ci := 0) (v := .int ((q_4.2.1 8 0))) (C := rn_M) (T := fn_M) (N := 91) hx hb hg in_M hown hK hP 0 rfl rfl 8 (by decide) (hg _ wn_8_81) (fun _ h9 => h9) rfl dn_M_caseGrammar_97 ?_
          refine lv_iconst (v := 1) hx hb dn_M_caseGrammar_100 (by decide) ?_
          refine lv_iadd hx hb dn_M_caseGrammar_101 ?_
          refine va_put (D := (dC, dI)) (ci := 0) (v := .int (((q_4.2.1 8 0) + 1))) (ty := .int) (C := rn_M) (T := fn_M) (N := 91) hx hb hg in_M tn_M tk_M nn_M hown hK hP hD hS 0 rfl rfl 8 (by decide) (hg _ wn_8_81) (fun _ h9 => h9) rfl (tk_M 8 (by decide)) rfl rfl (Nat.le_of_ble_eq_true rfl) dn_M_caseGrammar_102 (fun H locs hP hD hS => ?_)
          have hP := wM_P_8 hP
          have hD := wM_D_8 hD
          refine lv_aload_n hx hb dn_M_caseGrammar_105 rfl (lv_at hl 0 rfl) ?_
          refine lv_bipush (v := 58) hx hb dn_M_caseGrammar_106 (by decide) ?_
          obtain ⟨q_7, hc_8, hf⟩ := dc_b hf
          refine dc_callv (dc_runV (ar := 1) (As := [.int 58]) (rest := []) (ci := 0) (q0 := 0) ⟨hx, hb, hml, hown, hg⟩ hK hN hT hS hA (ct_M_take l dC dI cI cB cJ cZ cQ N H.size h0 a 58 (upI q_4.2 8 (fun _ => ((q_4.2.1 8 0) + 1))) q_7 hc_8) hP hD rfl rfl wn_9_178 wn_9_180 sn_M_take wn_1_13 wn_9_181 rfl rfl (by decide +kernel) ⟨dc_ra (Nat.le_of_ble_eq_true rfl), dc_ra (Nat.le_of_ble_eq_true rfl)⟩ rfl hl.1 rfl (Nat.le_of_ble_eq_true rfl) dn_M_caseGrammar_108 ⟨Nat.le_of_ble_eq_true rfl, Nat.le_of_ble_eq_true rfl⟩) hP hD hS hA (fun _ H locs hw hP hD hS => ?_)
          refine lv_aload_n hx hb dn_M_caseGrammar_111 rfl (lv_at hl 0 rfl) ?_
          obtain ⟨q_9, hc_10, hf⟩ := dc_b hf
          refine dc_callv (dc_runV (ar := 0) (As := []) (rest := []) (ci := 0) (q0 := 0) ⟨hx, hb, hml, hown, hg⟩ hK hN hT hS hA (hr_M_statementGrammar H.size h0 a q_7.2 q_9 hc_10) hP hD rfl rfl wn_10_4 wn_10_6 sn_M_statementGrammar wn_1_13 wn_10_7 rfl rfl (by decide +kernel) ⟨Nat.le_refl _, dc_lm (Nat.le_of_ble_eq_true rfl)⟩ rfl hl.1 rfl (Nat.le_of_ble_eq_true rfl) dn_M_caseGrammar_112 ⟨Nat.le_of_ble_eq_true rfl, Nat.le_of_ble_eq_true rfl⟩) hP hD hS hA (fun _ H locs hw hP hD hS => ?_)
          exact bl_115 q_9.2 hf H locs ls hP hD hS hl
      · have hf := (if_neg h).symm.trans hf
        refine lv_aload_n hx hb dn_M_caseGrammar_33 rfl (lv_at hl 0 rfl) ?_
        refine lv_dup hx hb dn_M_caseGrammar_34 rfl ?_
        refine va_get (D := (dC, dI)) (ci := 0) (v := .int ((q_1.2.1 8 0))) (C := rn_M) (T := fn_M) (N := 91) hx hb hg in_M hown hK hP 0 rfl rfl 8 (by decide) (hg _ wn_8_81) (fun _ h9 => h9) rfl dn_M_caseGrammar_35 ?_
        refine lv_iconst (v := 1) hx hb dn_M_caseGrammar_38 (by decide) ?_
        refine lv_iadd hx hb dn_M_caseGrammar_39 ?_
        refine va_put (D := (dC, dI)) (ci := 0) (v := .int (((q_1.2.1 8 0) + 1))) (ty := .int) (C := rn_M) (T := fn_M) (N := 91) hx hb hg in_M tn_M tk_M nn_M hown hK hP hD hS 0 rfl rfl 8 (by decide) (hg _ wn_8_81) (fun _ h9 => h9) rfl (tk_M 8 (by decide)) rfl rfl (Nat.le_of_ble_eq_true rfl) dn_M_caseGrammar_40 (fun H locs hP hD hS => ?_)
        have hP := wM_P_8 hP
        have hD := wM_D_8 hD
        exact hd_43 k_23 hk_23 N (upI q_1.2 8 (fun _ => ((q_1.2.1 8 0) + 1))) hf H locs ls hP hD hS hl
  intro H locs ls hP hD hS hl
  unfold fb_M_caseGrammar at hf
  refine lv_aload_n hx hb dn_M_caseGrammar_0 rfl (lv_at hl 0 rfl) ?_
  refine lv_sipush (v := 314) hx hb dn_M_caseGrammar_1 (by decide) ?_
  obtain ⟨q_1, hc_2, hf⟩ := dc_b hf
  refine dc_callv (dc_runV (ar := 1) (As := [.int 314]) (rest := []) (ci := 0) (q0 := 0) ⟨hx, hb, hml, hown, hg⟩ hK hN hT hS hA (ct_M_open l dC dI cI cB cJ cZ cQ N H.size h0 a 314 s q_1 hc_2) hP hD rfl rfl wn_9_190 wn_9_192 sn_M_open wn_1_13 wn_9_193 rfl rfl (by decide +kernel) ⟨dc_ra (Nat.le_of_ble_eq_true rfl), dc_ra (Nat.le_of_ble_eq_true rfl)⟩ rfl hl.1 rfl (Nat.le_of_ble_eq_true rfl) dn_M_caseGrammar_4 ⟨Nat.le_of_ble_eq_true rfl, Nat.le_of_ble_eq_true rfl⟩) hP hD hS hA (fun _ H locs hw hP hD hS => ?_)
  refine lv_aload_n hx hb dn_M_caseGrammar_7 rfl (lv_at hl 0 rfl) ?_
  refine lv_bipush (v := 40) hx hb dn_M_caseGrammar_8 (by decide) ?_
  obtain ⟨q_3, hc_4, hf⟩ := dc_b hf
  refine dc_callv (dc_runV (ar := 1) (As := [.int 40]) (rest := []) (ci := 0) (q0 := 0) ⟨hx, hb, hml, hown, hg⟩ hK hN hT hS hA (ct_M_open l dC dI cI cB cJ cZ cQ N H.size h0 a 40 q_1.2 q_3 hc_4) hP hD rfl rfl wn_9_190 wn_9_192 sn_M_open wn_1_13 wn_9_193 rfl rfl (by decide +kernel) ⟨dc_ra (Nat.le_of_ble_eq_true rfl), dc_ra (Nat.le_of_ble_eq_true rfl)⟩ rfl hl.1 rfl (Nat.le_of_ble_eq_true rfl) dn_M_caseGrammar_10 ⟨Nat.le_of_ble_eq_true rfl, Nat.le_of_ble_eq_true rfl⟩) hP hD hS hA (fun _ H locs hw hP hD hS => ?_)
  refine lv_aload_n hx hb dn_M_caseGrammar_13 rfl (lv_at hl 0 rfl) ?_
  obtain ⟨q_5, hc_6, hf⟩ := dc_b hf
  refine dc_callv (dc_runV (ar := 0) (As := []) (rest := []) (ci := 0) (q0 := 0) ⟨hx, hb, hml, hown, hg⟩ hK hN hT hS hA (ct_M_expGrammar l dC dI cI cB cJ cZ cQ N H.size h0 a q_3.2 q_5 hc_6) hP hD rfl rfl wn_9_222 wn_9_224 sn_M_expGrammar wn_1_13 wn_9_225 rfl rfl (by decide +kernel) ⟨dc_ra (Nat.le_of_ble_eq_true rfl), dc_ra (Nat.le_of_ble_eq_true rfl)⟩ rfl hl.1 rfl (Nat.le_of_ble_eq_true rfl) dn_M_caseGrammar_14 ⟨Nat.le_of_ble_eq_true rfl, Nat.le_of_ble_eq_true rfl⟩) hP hD hS hA (fun _ H locs hw hP hD hS => ?_)
  refine lv_aload_n hx hb dn_M_caseGrammar_17 rfl (lv_at hl 0 rfl) ?_
  refine lv_bipush (v := 41) hx hb dn_M_caseGrammar_18 (by decide) ?_
  obtain ⟨q_7, hc_8, hf⟩ := dc_b hf
  refine dc_callv (dc_runV (ar := 1) (As := [.int 41]) (rest := []) (ci := 0) (q0 := 0) ⟨hx, hb, hml, hown, hg⟩ hK hN hT hS hA (ct_M_shut l dC dI cI cB cJ cZ cQ N H.size h0 a 41 q_5.2 q_7 hc_8) hP hD rfl rfl wn_9_206 wn_9_208 sn_M_shut wn_1_13 wn_9_209 rfl rfl (by decide +kernel) ⟨dc_ra (Nat.le_of_ble_eq_true rfl), dc_ra (Nat.le_of_ble_eq_true rfl)⟩ rfl hl.1 rfl (Nat.le_of_ble_eq_true rfl) dn_M_caseGrammar_20 ⟨Nat.le_of_ble_eq_true rfl, Nat.le_of_ble_eq_true rfl⟩) hP hD hS hA (fun _ H locs hw hP hD hS => ?_)
  exact hd_23 N q_7.2 hf H locs ls hP hD hS hl
theorem sm_M_statementGrammar (N : Nat) : ∀ d : Nat, (∀ (s : ms) (y : (Unit × ms)), (sg_M_statementGrammar N d).1 s = some y → gl y.2 = gl s) ∧ (∀ (s : ms) (y : (Unit × ms)), (sg_M_statementGrammar N d).2 s = some y → gl y.2 = gl s) := by
  intro d
  induction d with
  | zero => exact ⟨fun _ _ h => (by cases h), fun _ _ h => (by cases h)⟩
  | succ d ih =>
    obtain ⟨ih0, ih1⟩ := ih
    exact ⟨fun s y h => mf_M_statementGrammar N _ _ ih0 ih1 s y h, fun s y h => mf_M_caseGrammar N _ _ ih0 ih1 s y h⟩
set_option maxHeartbeats 4000000 in
theorem sc_M_statementGrammar (l : Launch) (dC : Nat → ClassId) (dI : Nat → Nat → Nat) (cI cB cJ cZ cQ : ClassId) (N : Nat) : ∀ d : Nat, (∀ (sz : Nat) (h0 : Nat) (a : Nat → Nat) (s : ms) (y : (Unit × ms)), (sg_M_statementGrammar N d).1 s = some y → Met l yn_M_statementGrammar (xw yn_M_statementGrammar bn_M_statementGrammar 1 none) ({ frames := 405 + d, cells := 0, slots := 0, locals := 8104 + d * 20 }) (dc_P (dC, dI) xcl (xt cI cB cJ cZ cQ) [.ref h0] sz (wM h0 a cI cB cJ cZ s)) (xk_Qv (dC, dI) xcl (xt cI cB cJ cZ cQ) (fun _ : Unit => True) (fun u : Unit => (wM h0 a cI cB cJ cZ y.2)) (va_A (wM h0 a cI cB cJ cZ s) sz)) 0 0 (va_A (wM h0 a cI cB cJ cZ s) sz)) ∧ (∀ (sz : Nat) (h0 : Nat) (a : Nat → Nat) (s : ms) (y : (Unit × ms)), (sg_M_statementGrammar N d).2 s = some y → Met l yn_M_caseGrammar (xw yn_M_caseGrammar bn_M_caseGrammar 1 none) ({ frames := 405 + d, cells := 0, slots := 0, locals := 8104 + d * 20 }) (dc_P (dC, dI) xcl (xt cI cB cJ cZ cQ) [.ref h0] sz (wM h0 a cI cB cJ cZ s)) (xk_Qv (dC, dI) xcl (xt cI cB cJ cZ cQ) (fun _ : Unit => True) (fun u : Unit => (wM h0 a cI cB cJ cZ y.2)) (va_A (wM h0 a cI cB cJ cZ s) sz)) 0 0 (va_A (wM h0 a cI cB cJ cZ s) sz)) := by
  intro d
  induction d with
  | zero => exact ⟨fun _ _ _ _ _ h => (by cases h), fun _ _ _ _ _ h => (by cases h)⟩
  | succ d ih =>
    obtain ⟨ih0, ih1⟩ := ih
    exact ⟨fun sz h0 a s y h => cb_M_statementGrammar l dC dI cI cB cJ cZ cQ N d _ _ (sm_M_statementGrammar N d).1 (sm_M_statementGrammar N d).2 ih0 ih1 sz h0 a s y h, fun sz h0 a s y h => cb_M_caseGrammar l dC dI cI cB cJ cZ cQ N d _ _ (sm_M_statementGrammar N d).1 (sm_M_statementGrammar N d).2 ih0 ih1 sz h0 a s y h⟩
theorem mn_M_statementGrammar (N : Nat) (s : ms) (y : (Unit × ms)) (hf : fn_M_statementGrammar N s = some y) : gl y.2 = gl s := (sm_M_statementGrammar N 400).1 s y hf
theorem ct_M_statementGrammar (l : Launch) (dC : Nat → ClassId) (dI : Nat → Nat → Nat) (cI cB cJ cZ cQ : ClassId) (N sz : Nat) (h0 : Nat) (a : Nat → Nat) (s : ms) (y : (Unit × ms)) (hf : fn_M_statementGrammar N s = some y) : Met l yn_M_statementGrammar (xw yn_M_statementGrammar bn_M_statementGrammar 1 none) ({ frames := 405 + 400, cells := 0, slots := 0, locals := 8104 + 400 * 20 }) (dc_P (dC, dI) xcl (xt cI cB cJ cZ cQ) [.ref h0] sz (wM h0 a cI cB cJ cZ s)) (xk_Qv (dC, dI) xcl (xt cI cB cJ cZ cQ) (fun _ : Unit => True) (fun u : Unit => (wM h0 a cI cB cJ cZ y.2)) (va_A (wM h0 a cI cB cJ cZ s) sz)) 0 0 (va_A (wM h0 a cI cB cJ cZ s) sz) := (sc_M_statementGrammar l dC dI cI cB cJ cZ cQ N 400).1 sz h0 a s y hf
theorem mn_M_caseGrammar (N : Nat) (s : ms) (y : (Unit × ms)) (hf : fn_M_caseGrammar N s = some y) : gl y.2 = gl s := (sm_M_statementGrammar N 400).2 s y hf
theorem ct_M_caseGrammar (l : Launch) (dC : Nat → ClassId) (dI : Nat → Nat → Nat) (cI cB cJ cZ cQ : ClassId) (N sz : Nat) (h0 : Nat) (a : Nat → Nat) (s : ms) (y : (Unit × ms)) (hf : fn_M_caseGrammar N s = some y) : Met l yn_M_caseGrammar (xw yn_M_caseGrammar bn_M_caseGrammar 1 none) ({ frames := 405 + 400, cells := 0, slots := 0, locals := 8104 + 400 * 20 }) (dc_P (dC, dI) xcl (xt cI cB cJ cZ cQ) [.ref h0] sz (wM h0 a cI cB cJ cZ s)) (xk_Qv (dC, dI) xcl (xt cI cB cJ cZ cQ) (fun _ : Unit => True) (fun u : Unit => (wM h0 a cI cB cJ cZ y.2)) (va_A (wM h0 a cI cB cJ cZ s) sz)) 0 0 (va_A (wM h0 a cI cB cJ cZ s) sz) := (sc_M_statementGrammar l dC dI cI cB cJ cZ cQ N 400).2 sz h0 a s y hf
theorem mo_M_itemGrammar_57 (N : Nat) (y : (Unit × ms)) (s : ms) (hf : bk_M_itemGrammar_57 N s = some y) : gl y.2 = gl s := by
  unfold bk_M_itemGrammar_57 at hf
  have hm : gl s = gl s := rfl
  obtain ⟨q_1, hc_2, hf⟩ := dc_b hf
  have hm := (mn_M_take N 59 s q_1 hc_2).trans hm
  exact (dc_e hf).trans hm
theorem mo_M_itemGrammar_20 (N : Nat) (y : (Unit × ms)) (s : ms) (hf : bk_M_itemGrammar_20 N s = some y) : gl y.2 = gl s := by
  unfold bk_M_itemGrammar_20 at hf
  have hm : gl s = gl s := rfl
  obtain ⟨q_1, hc_2, hf⟩ := dc_b hf
  have hm := (mn_M_is N 305 s q_1 hc_2).trans hm
  obtain ⟨q_4, hc_5, hf⟩ := dc_b hf
  have hm := (mn_M_rangeGrammar N (upI q_1.2 8 (fun _ => ((q_1.2.1 8 0) + 1))) q_4 hc_5).trans hm
  obtain ⟨q_6, hc_7, hf⟩ := dc_b hf
  have hm := (mn_M_take N 400 q_4.2 q_6 hc_7).trans hm
  by_cases h : q_1.1 = 0
  · have hf := (if_pos h).symm.trans hf
    exact (mo_M_itemGrammar_57 N y q_6.2 hf).trans hm
  · have hf := (if_neg h).symm.trans hf
    obtain ⟨q_8, hc_9, hf⟩ := dc_b hf
    have hm := (mn_M_beginGrammar N q_6.2 q_8 hc_9).trans hm
    exact (mo_M_itemGrammar_57 N y q_8.2 hf).trans hm
theorem mo_M_itemGrammar_275 (N : Nat) (y : (Unit × ms)) (s : ms) (hf : bk_M_itemGrammar_275 N s = some y) : gl y.2 = gl s := by
  unfold bk_M_itemGrammar_275 at hf
  have hm : gl s = gl s := rfl
  obtain ⟨q_1, hc_2, hf⟩ := dc_b hf
  have hm := (mn_M_shut N 41 s q_1 hc_2).trans hm
  obtain ⟨q_3, hc_4, hf⟩ := dc_b hf
  have hm := (mn_M_take N 59 q_1.2 q_3 hc_4).trans hm
  exact (dc_e hf).trans hm
theorem mb_M_itemGrammar_249 (N : Nat) (y : (Unit × ms)) (k_249 : ms → Option (Unit × ms)) (hkm_249 : ∀ (s : ms), k_249 s = some y → gl y.2 = gl s) (s : ms) (hf : bd_M_itemGrammar_249 N k_249 s = some y) : gl y.2 = gl s := by
  unfold bd_M_itemGrammar_249 at hf
  have hm : gl s = gl s := rfl
  obtain ⟨q_1, hc_2, hf⟩ := dc_b hf
  have hm := (mn_M_is N 44 s q_1 hc_2).trans hm
  by_cases h : q_1.1 = 0
  · have hf := (if_pos h).symm.trans hf
    exact (mo_M_itemGrammar_275 N y q_1.2 hf).trans hm
  · have hf := (if_neg h).symm.trans hf
    obtain ⟨q_4, hc_5, hf⟩ := dc_b hf
    have hm := (mn_M_linkGrammar N (upI q_1.2 8 (fun _ => ((q_1.2.1 8 0) + 1))) q_4 hc_5).trans hm
    exact (hkm_249 q_4.2 hf).trans hm
theorem mh_M_itemGrammar_249 (N : Nat) (y : (Unit × ms)) : ∀ (n : Nat) (s : ms), hd_M_itemGrammar_249 N n s = some y → gl y.2 = gl s := by
  intro n
  induction n with
  | zero => intro s hf; cases hf
  | succ n ih => intro s hf; exact mb_M_itemGrammar_249 N y (hd_M_itemGrammar_249 N n) ih s hf
theorem mn_M_itemGrammar (N : Nat) (s : ms) (y : (Unit × ms)) (hf : fn_M_itemGrammar N s = some y) : gl y.2 = gl s := by
  unfold fn_M_itemGrammar at hf
  have hm : gl s = gl s := rfl
  obtain ⟨q_1, hc_2, hf⟩ := dc_b hf
  have hm := (mn_M_is N 304 s q_1 hc_2).trans hm
  by_cases h : q_1.1 = 0
  · have hf := (if_pos h).symm.trans hf
    obtain ⟨q_4, hc_5, hf⟩ := dc_b hf
    have hm := (mn_M_is N 305 q_1.2 q_4 hc_5).trans hm
    by_cases h : q_4.1 = 0
    · have hf := (if_pos h).symm.trans hf
      obtain ⟨q_7, hc_8, hf⟩ := dc_b hf
      have hm := (mn_M_is N 306 q_4.2 q_7 hc_8).trans hm
      by_cases h : q_7.1 = 0
      · have hf := (if_pos h).symm.trans hf
        obtain ⟨q_10, hc_11, hf⟩ := dc_b hf
        have hm := (mn_M_is N 307 q_7.2 q_10 hc_11).trans hm
        by_cases h : q_10.1 = 0
        · have hf := (if_pos h).symm.trans hf
          obtain ⟨q_13, hc_14, hf⟩ := dc_b hf
          have hm := (mn_M_is N 317 q_10.2 q_13 hc_14).trans hm
          by_cases h : q_13.1 = 0
          · have hf := (if_pos h).symm.trans hf
            obtain ⟨q_16, hc_17, hf⟩ := dc_b hf
            have hm := (mn_M_take N 400 q_13.2 q_16 hc_17).trans hm
            obtain ⟨q_18, hc_19, hf⟩ := dc_b hf
            have hm := (mn_M_take N 400 q_16.2 q_18 hc_19).trans hm
            obtain ⟨q_20, hc_21, hf⟩ := dc_b hf
            have hm := (mn_M_open N 40 q_18.2 q_20 hc_21).trans hm
            obtain ⟨q_22, hc_23, hf⟩ := dc_b hf
            have hm := (mn_M_is N 46 q_20.2 q_22 hc_23).trans hm
            by_cases h : q_22.1 = 0
            · have hf := (if_pos h).symm.trans hf
              exact (mo_M_itemGrammar_275 N y q_22.2 hf).trans hm
            · have hf := (if_neg h).symm.trans hf
              obtain ⟨q_25, hc_26, hf⟩ := dc_b hf
              have hm := (mn_M_linkGrammar N q_22.2 q_25 hc_26).trans hm
              exact (mh_M_itemGrammar_249 N y N q_25.2 hf).trans hm
          · have hf := (if_neg h).symm.trans hf
            obtain ⟨q_16, hc_17, hf⟩ := dc_b hf
            have hm := (mn_M_open N 40 (upI q_13.2 8 (fun _ => ((q_13.2.1 8 0) + 1))) q_16 hc_17).trans hm
            obtain ⟨q_18, hc_19, hf⟩ := dc_b hf
            have hm := (mn_M_expGrammar N q_16.2 q_18 hc_19).trans hm
            obtain ⟨q_20, hc_21, hf⟩ := dc_b hf
            have hm := (mn_M_shut N 41 q_18.2 q_20 hc_21).trans hm
            obtain ⟨q_22, hc_23, hf⟩ := dc_b hf
            have hm := (mn_M_take N 59 q_20.2 q_22 hc_23).trans hm
            exact (dc_e hf).trans hm
        · have hf := (if_neg h).symm.trans hf
          obtain ⟨q_13, hc_14, hf⟩ := dc_b hf
          have hm := (mn_M_take N 64 (upI q_10.2 8 (fun _ => ((q_10.2.1 8 0) + 1))) q_13 hc_14).trans hm
          obtain ⟨q_15, hc_16, hf⟩ := dc_b hf
          have hm := (mn_M_open N 40 q_13.2 q_15 hc_16).trans hm
          obtain ⟨q_17, hc_18, hf⟩ := dc_b hf
          have hm := (mn_M_take N 308 q_15.2 q_17 hc_18).trans hm
          obtain ⟨q_19, hc_20, hf⟩ := dc_b hf
          have hm := (mn_M_take N 309 q_17.2 q_19 hc_20).trans hm
          obtain ⟨q_21, hc_22, hf⟩ := dc_b hf
          have hm := (mn_M_shut N 41 q_19.2 q_21 hc_22).trans hm
          obtain ⟨q_23, hc_24, hf⟩ := dc_b hf
          have hm := (mn_M_statementGrammar N q_21.2 q_23 hc_24).trans hm
          exact (dc_e hf).trans hm
      · have hf := (if_neg h).symm.trans hf
        obtain ⟨q_10, hc_11, hf⟩ := dc_b hf
        have hm := (mn_M_take N 400 (upI q_7.2 8 (fun _ => ((q_7.2.1 8 0) + 1))) q_10 hc_11).trans hm
        obtain ⟨q_12, hc_13, hf⟩ := dc_b hf
        have hm := (mn_M_take N 61 q_10.2 q_12 hc_13).trans hm
        obtain ⟨q_14, hc_15, hf⟩ := dc_b hf
        have hm := (mn_M_expGrammar N q_12.2 q_14 hc_15).trans hm
        obtain ⟨q_16, hc_17, hf⟩ := dc_b hf
        have hm := (mn_M_take N 59 q_14.2 q_16 hc_17).trans hm
        exact (dc_e hf).trans hm
    · have hf := (if_neg h).symm.trans hf
      exact (mo_M_itemGrammar_20 N y q_4.2 hf).trans hm
  · have hf := (if_neg h).symm.trans hf
    exact (mo_M_itemGrammar_20 N y q_1.2 hf).trans hm
set_option maxHeartbeats 8000000 in
set_option maxRecDepth 100000 in
theorem ct_M_itemGrammar (l : Launch) (dC : Nat → ClassId) (dI : Nat → Nat → Nat) (cI cB cJ cZ cQ : ClassId) (N sz : Nat) (h0 : Nat) (a : Nat → Nat) (s : ms) (y : (Unit × ms)) (hf : fn_M_itemGrammar N s = some y) : Met l yn_M_itemGrammar (xw yn_M_itemGrammar bn_M_itemGrammar 2 none) ({ frames := 806, cells := 0, slots := 0, locals := 16124 }) (dc_P (dC, dI) xcl (xt cI cB cJ cZ cQ) [.ref h0] sz (wM h0 a cI cB cJ cZ s)) (xk_Qv (dC, dI) xcl (xt cI cB cJ cZ cQ) (fun _ : Unit => True) (fun u : Unit => (wM h0 a cI cB cJ cZ y.2)) (va_A (wM h0 a cI cB cJ cZ s) sz)) 0 0 (va_A (wM h0 a cI cB cJ cZ s) sz) := by
  refine dc_of (QA := xk_Qv (dC, dI) xcl (xt cI cB cJ cZ cQ) (fun _ : Unit => True) (fun u : Unit => (wM h0 a cI cB cJ cZ y.2))) (by decide) (Nat.le_of_ble_eq_true rfl) ?_
  intro p e s0 m below meth c hx hb hml hown hg hr hlocks hin hP hK hN A hA hD hT ls hl
  have hown : s0.vm.findClass rn_M = some m.cls := hown
  obtain ⟨H, hH⟩ : ∃ z, z = s0.heap := ⟨_, rfl⟩
  rw [← hH] at hP
  have hS : va_S A s0.heap H [] := by rw [hH]; exact va_S.rf
  suffices kk : ∀ QQ : State → Prop, QQ = MQ below (xk_Qv (dC, dI) xcl (xt cI cB cJ cZ cQ) (fun _ : Unit => True) (fun u : Unit => (wM h0 a cI cB cJ cZ y.2)) A) [.ref h0].toArray s0 0 0 A → dcC p l e ({ frames := 806, cells := 0, slots := 0, locals := 16124 }) s0 m [.ref h0].toArray below meth c QQ (dC, dI) A (wM h0 a cI cB cJ cZ s) 0 2 [(0, .ref h0)] [] by
    have k9 := kk _ rfl H [] ls hP hD hS hl
    rw [hH] at k9; exact k9
  clear hP hD hS hl hH H ls
  intro QQ hQQ
  have bl_57 : ∀ (s : ms), bk_M_itemGrammar_57 N s = some y → dcC p l e ({ frames := 806, cells := 0, slots := 0, locals := 16124 }) s0 m [.ref h0].toArray below meth c QQ (dC, dI) A (wM h0 a cI cB cJ cZ s) 57 2 [(0, .ref h0)] [] := by
    intro s hf H locs ls hP hD hS hl
    unfold bk_M_itemGrammar_57 at hf
    refine lv_aload_n hx hb dn_M_itemGrammar_57 rfl (lv_at hl 0 rfl) ?_
    refine lv_bipush (v := 59) hx hb dn_M_itemGrammar_58 (by decide) ?_
    obtain ⟨q_1, hc_2, hf⟩ := dc_b hf
    refine dc_callv (dc_runV (ar := 1) (As := [.int 59]) (rest := []) (ci := 0) (q0 := 0) ⟨hx, hb, hml, hown, hg⟩ hK hN hT hS hA (ct_M_take l dC dI cI cB cJ cZ cQ N H.size h0 a 59 s q_1 hc_2) hP hD rfl rfl wn_9_178 wn_9_180 sn_M_take wn_1_13 wn_9_181 rfl rfl (by decide +kernel) ⟨Nat.le_of_ble_eq_true rfl, Nat.le_of_ble_eq_true rfl⟩ rfl hl.1 rfl (Nat.le_of_ble_eq_true rfl) dn_M_itemGrammar_60 ⟨Nat.le_of_ble_eq_true rfl, Nat.le_of_ble_eq_true rfl⟩) hP hD hS hA (fun _ H locs hw hP hD hS => ?_)
    refine lv_goto (tgt := 287) hx hb dn_M_itemGrammar_63 (by decide) ?_
    rw [hQQ, ← Option.some.inj hf]
    exact xk_vret (w1 := fun u : Unit => (wM h0 a cI cB cJ cZ q_1.2)) () hx hb hr hlocks hK hS dn_M_itemGrammar_287 hP hD trivial (Nat.le_refl _) (Nat.le_refl _)
  have bl_20 : ∀ (s : ms), bk_M_itemGrammar_20 N s = some y → dcC p l e ({ frames := 806, cells := 0, slots := 0, locals := 16124 }) s0 m [.ref h0].toArray below meth c QQ (dC, dI) A (wM h0 a cI cB cJ cZ s) 20 2 [(0, .ref h0)] [] := by
    intro s hf H locs ls hP hD hS hl
    unfold bk_M_itemGrammar_20 at hf
    refine lv_aload_n hx hb dn_M_itemGrammar_20 rfl (lv_at hl 0 rfl) ?_
    refine lv_sipush (v := 305) hx hb dn_M_itemGrammar_21 (by decide) ?_
    obtain ⟨q_1, hc_2, hf⟩ := dc_b hf
    refine dc_calli (dc_runV (ar := 1) (As := [.int 305]) (rest := []) (ci := 0) (q0 := 0) ⟨hx, hb, hml, hown, hg⟩ hK hN hT hS hA (ct_M_is l dC dI cI cB cJ cZ cQ N H.size h0 a 305 s q_1 hc_2) hP hD rfl rfl wn_9_194 wn_9_196 sn_M_is wn_1_13 wn_9_197 rfl rfl (by decide +kernel) ⟨Nat.le_of_ble_eq_true rfl, Nat.le_of_ble_eq_true rfl⟩ rfl hl.1 rfl (Nat.le_of_ble_eq_true rfl) dn_M_itemGrammar_24 ⟨Nat.le_of_ble_eq_true rfl, Nat.le_of_ble_eq_true rfl⟩) hP hD hS hA (fun r_3 _ H locs hw hP hD hS => ?_)
    have hw : r_3 = q_1.1 := hw
    subst hw
    refine lv_istore_n (lv' := [(1, .int q_1.1), (0, .ref h0)]) hx hb dn_M_itemGrammar_27 rfl hl (by decide) rfl (fun ls hl => ?_)
    refine lv_aload_n hx hb dn_M_itemGrammar_28 rfl (lv_at hl 1 rfl) ?_
    refine lv_dup hx hb dn_M_itemGrammar_29 rfl ?_
    refine va_get (D := (dC, dI)) (ci := 0) (v := .int ((q_1.2.1 8 0))) (C := rn_M) (T := fn_M) (N := 91) hx hb hg in_M hown hK hP 0 rfl rfl 8 (by decide) (hg _ wn_8_81) (fun _ h9 => h9) rfl dn_M_itemGrammar_30 ?_
    refine lv_iconst (v := 1) hx hb dn_M_itemGrammar_33 (by decide) ?_
    refine lv_iadd hx hb dn_M_itemGrammar_34 ?_
    refine va_put (D := (dC, dI)) (ci := 0) (v := .int (((q_1.2.1 8 0) + 1))) (ty := .int) (C := rn_M) (T := fn_M) (N := 91) hx hb hg in_M tn_M tk_M nn_M hown hK hP hD hS 0 rfl rfl 8 (by decide) (hg _ wn_8_81) (fun _ h9 => h9) rfl (tk_M 8 (by decide)) rfl rfl (Nat.le_of_ble_eq_true rfl) dn_M_itemGrammar_35 (fun H locs hP hD hS => ?_)
    have hP := wM_P_8 hP
    have hD := wM_D_8 hD
    refine lv_aload_n hx hb dn_M_itemGrammar_38 rfl (lv_at hl 1 rfl) ?_
    obtain ⟨q_4, hc_5, hf⟩ := dc_b hf
    refine dc_callv (dc_runV (ar := 0) (As := []) (rest := []) (ci := 0) (q0 := 0) ⟨hx, hb, hml, hown, hg⟩ hK hN hT hS hA (ct_M_rangeGrammar l dC dI cI cB cJ cZ cQ N H.size h0 a (upI q_1.2 8 (fun _ => ((q_1.2.1 8 0) + 1))) q_4 hc_5) hP hD rfl rfl wn_9_202 wn_9_204 sn_M_rangeGrammar wn_1_13 wn_9_205 rfl rfl (by decide +kernel) ⟨Nat.le_of_ble_eq_true rfl, Nat.le_of_ble_eq_true rfl⟩ rfl hl.1 rfl (Nat.le_of_ble_eq_true rfl) dn_M_itemGrammar_39 ⟨Nat.le_of_ble_eq_true rfl, Nat.le_of_ble_eq_true rfl⟩) hP hD hS hA (fun _ H locs hw hP hD hS => ?_)
    refine lv_aload_n hx hb dn_M_itemGrammar_42 rfl (lv_at hl 1 rfl) ?_
    refine lv_sipush (v := 400) hx hb dn_M_itemGrammar_43 (by decide) ?_
    obtain ⟨q_6, hc_7, hf⟩ := dc_b hf
    refine dc_callv (dc_runV (ar := 1) (As := [.int 400]) (rest := []) (ci := 0) (q0 := 0) ⟨hx, hb, hml, hown, hg⟩ hK hN hT hS hA (ct_M_take l dC dI cI cB cJ cZ cQ N H.size h0 a 400 q_4.2 q_6 hc_7) hP hD rfl rfl wn_9_178 wn_9_180 sn_M_take wn_1_13 wn_9_181 rfl rfl (by decide +kernel) ⟨Nat.le_of_ble_eq_true rfl, Nat.le_of_ble_eq_true rfl⟩ rfl hl.1 rfl (Nat.le_of_ble_eq_true rfl) dn_M_itemGrammar_46 ⟨Nat.le_of_ble_eq_true rfl, Nat.le_of_ble_eq_true rfl⟩) hP hD hS hA (fun _ H locs hw hP hD hS => ?_)
    refine lv_iload_n hx hb dn_M_itemGrammar_49 rfl (lv_at hl 0 rfl) ?_
    refine lv_if_eq (tgt := 57) hx hb dn_M_itemGrammar_50 (by decide) (fun h => ?_) (fun h => ?_)
    · have hf := (if_pos h).symm.trans hf
      exact bl_57 q_6.2 hf H locs ls hP hD hS (lv_sub hl [1] rfl)
    · have hf := (if_neg h).symm.trans hf
      refine lv_aload_n hx hb dn_M_itemGrammar_53 rfl (lv_at hl 1 rfl) ?_
      obtain ⟨q_8, hc_9, hf⟩ := dc_b hf
      refine dc_callv (dc_runV (ar := 0) (As := []) (rest := []) (ci := 0) (q0 := 0) ⟨hx, hb, hml, hown, hg⟩ hK hN hT hS hA (ct_M_beginGrammar l dC dI cI cB cJ cZ cQ N H.size h0 a q_6.2 q_8 hc_9) hP hD rfl rfl wn_9_210 wn_9_212 sn_M_beginGrammar wn_1_13 wn_9_213 rfl rfl (by decide +kernel) ⟨Nat.le_of_ble_eq_true rfl, Nat.le_of_ble_eq_true rfl⟩ rfl hl.1 rfl (Nat.le_of_ble_eq_true rfl) dn_M_itemGrammar_54 ⟨Nat.le_of_ble_eq_true rfl, Nat.le_of_ble_eq_true rfl⟩) hP hD hS hA (fun _ H locs hw hP hD hS => ?_)
      exact bl_57 q_8.2 hf H locs ls hP hD hS (lv_sub hl [1] rfl)
  have bl_275 : ∀ (s : ms), bk_M_itemGrammar_275 N s = some y → dcC p l e ({ frames := 806, cells := 0, slots := 0, locals := 16124 }) s0 m [.ref h0].toArray below meth c QQ (dC, dI) A (wM h0 a cI cB cJ cZ s) 275 2 [(0, .ref h0)] [] := by
    intro s hf H locs ls hP hD hS hl
    unfold bk_M_itemGrammar_275 at hf
    refine lv_aload_n hx hb dn_M_itemGrammar_275 rfl (lv_at hl 0 rfl) ?_
    refine lv_bipush (v := 41) hx hb dn_M_itemGrammar_276 (by decide) ?_
    obtain ⟨q_1, hc_2, hf⟩ := dc_b hf
    refine dc_callv (dc_runV (ar := 1) (As := [.int 41]) (rest := []) (ci := 0) (q0 := 0) ⟨hx, hb, hml, hown, hg⟩ hK hN hT hS hA (ct_M_shut l dC dI cI cB cJ cZ cQ N H.size h0 a 41 s q_1 hc_2) hP hD rfl rfl wn_9_206 wn_9_208 sn_M_shut wn_1_13 wn_9_209 rfl rfl (by decide +kernel) ⟨Nat.le_of_ble_eq_true rfl, Nat.le_of_ble_eq_true rfl⟩ rfl hl.1 rfl (Nat.le_of_ble_eq_true rfl) dn_M_itemGrammar_278 ⟨Nat.le_of_ble_eq_true rfl, Nat.le_of_ble_eq_true rfl⟩) hP hD hS hA (fun _ H locs hw hP hD hS => ?_)
    refine lv_aload_n hx hb dn_M_itemGrammar_281 rfl (lv_at hl 0 rfl) ?_
    refine lv_bipush (v := 59) hx hb dn_M_itemGrammar_282 (by decide) ?_
    obtain ⟨q_3, hc_4, hf⟩ := dc_b hf
    refine dc_callv (dc_runV (ar := 1) (As := [.int 59]) (rest := []) (ci := 0) (q0 := 0) ⟨hx, hb, hml, hown, hg⟩ hK hN hT hS hA (ct_M_take l dC dI cI cB cJ cZ cQ N H.size h0 a 59 q_1.2 q_3 hc_4) hP hD rfl rfl wn_9_178 wn_9_180 sn_M_take wn_1_13 wn_9_181 rfl rfl (by decide +kernel) ⟨Nat.le_of_ble_eq_true rfl, Nat.le_of_ble_eq_true rfl⟩ rfl hl.1 rfl (Nat.le_of_ble_eq_true rfl) dn_M_itemGrammar_284 ⟨Nat.le_of_ble_eq_true rfl, Nat.le_of_ble_eq_true rfl⟩) hP hD hS hA (fun _ H locs hw hP hD hS => ?_)
    rw [hQQ, ← Option.some.inj hf]
    exact xk_vret (w1 := fun u : Unit => (wM h0 a cI cB cJ cZ q_3.2)) () hx hb hr hlocks hK hS dn_M_itemGrammar_287 hP hD trivial (Nat.le_refl _) (Nat.le_refl _)
  have hd_249 : ∀ (n : Nat) (s : ms), hd_M_itemGrammar_249 N n s = some y → dcC p l e ({ frames := 806, cells := 0, slots := 0, locals := 16124 }) s0 m [.ref h0].toArray below meth c QQ (dC, dI) A (wM h0 a cI cB cJ cZ s) 249 2 [(0, .ref h0)] [] := by
    intro n
    induction n with
    | zero => intro s hf; cases hf
    | succ n ih =>
      intro s hf H locs ls hP hD hS hl
      have hf : bd_M_itemGrammar_249 N (hd_M_itemGrammar_249 N n) s = some y := hf
      have hk_249 := ih
      generalize hd_M_itemGrammar_249 N n = k_249 at hf hk_249
      unfold bd_M_itemGrammar_249 at hf
      refine lv_aload_n hx hb dn_M_itemGrammar_249 rfl (lv_at hl 0 rfl) ?_
      refine lv_bipush (v := 44) hx hb dn_M_itemGrammar_250 (by decide) ?_
      obtain ⟨q_1, hc_2, hf⟩ := dc_b hf
      refine dc_calli (dc_runV (ar := 1) (As := [.int 44]) (rest := []) (ci := 0) (q0 := 0) ⟨hx, hb, hml, hown, hg⟩ hK hN hT hS hA (ct_M_is l dC dI cI cB cJ cZ cQ N H.size h0 a 44 s q_1 hc_2) hP hD rfl rfl wn_9_194 wn_9_196 sn_M_is wn_1_13 wn_9_197 rfl rfl (by decide +kernel) ⟨Nat.le_of_ble_eq_true rfl, Nat.le_of_ble_eq_true rfl⟩ rfl hl.1 rfl (Nat.le_of_ble_eq_true rfl) dn_M_itemGrammar_252 ⟨Nat.le_of_ble_eq_true rfl, Nat.le_of_ble_eq_true rfl⟩) hP hD hS hA (fun r_3 _ H locs hw hP hD hS => ?_)
      have hw : r_3 = q_1.1 := hw
      subst hw
      refine lv_if_eq (tgt := 275) hx hb dn_M_itemGrammar_255 (by decide) (fun h => ?_) (fun h => ?_)
      · have hf := (if_pos h).symm.trans hf
        exact bl_275 q_1.2 hf H locs ls hP hD hS hl
      · have hf := (if_neg h).symm.trans hf
        refine lv_aload_n hx hb dn_M_itemGrammar_258 rfl (lv_at hl 0 rfl) ?_
        refine lv_dup hx hb dn_M_itemGrammar_259 rfl ?_
        refine va_get (D := (dC, dI)) (ci := 0) (v := .int ((q_1.2.1 8 0))) (C := rn_M) (T := fn_M) (N := 91) hx hb hg in_M hown hK hP 0 rfl rfl 8 (by decide) (hg _ wn_8_81) (fun _ h9 => h9) rfl dn_M_itemGrammar_260 ?_
        refine lv_iconst (v := 1) hx hb dn_M_itemGrammar_263 (by decide) ?_
        refine lv_iadd hx hb dn_M_itemGrammar_264 ?_
        refine va_put (D := (dC, dI)) (ci := 0) (v := .int (((q_1.2.1 8 0) + 1))) (ty := .int) (C := rn_M) (T := fn_M) (N := 91) hx hb hg in_M tn_M tk_M nn_M hown hK hP hD hS 0 rfl rfl 8 (by decide) (hg _ wn_8_81) (fun _ h9 => h9) rfl (tk_M 8 (by decide)) rfl rfl (Nat.le_of_ble_eq_true rfl) dn_M_itemGrammar_265 (fun H locs hP hD hS => ?_)
        have hP := wM_P_8 hP
        have hD := wM_D_8 hD
        refine lv_aload_n hx hb dn_M_itemGrammar_268 rfl (lv_at hl 0 rfl) ?_
        obtain ⟨q_4, hc_5, hf⟩ := dc_b hf
        refine dc_callv (dc_runV (ar := 0) (As := []) (rest := []) (ci := 0) (q0 := 0) ⟨hx, hb, hml, hown, hg⟩ hK hN hT hS hA (ct_M_linkGrammar l dC dI cI cB cJ cZ cQ N H.size h0 a (upI q_1.2 8 (fun _ => ((q_1.2.1 8 0) + 1))) q_4 hc_5) hP hD rfl rfl wn_10_12 wn_10_14 sn_M_linkGrammar wn_1_13 wn_10_15 rfl rfl (by decide +kernel) ⟨Nat.le_of_ble_eq_true rfl, Nat.le_of_ble_eq_true rfl⟩ rfl hl.1 rfl (Nat.le_of_ble_eq_true rfl) dn_M_itemGrammar_269 ⟨Nat.le_of_ble_eq_true rfl, Nat.le_of_ble_eq_true rfl⟩) hP hD hS hA (fun _ H locs hw hP hD hS => ?_)
        refine lv_goto (tgt := 249) hx hb dn_M_itemGrammar_272 (by decide) ?_
        exact hk_249 q_4.2 hf H locs ls hP hD hS hl
  intro H locs ls hP hD hS hl
  unfold fn_M_itemGrammar at hf
  refine lv_aload_n hx hb dn_M_itemGrammar_0 rfl (lv_at hl 0 rfl) ?_
  refine lv_sipush (v := 304) hx hb dn_M_itemGrammar_1 (by decide) ?_
  obtain ⟨q_1, hc_2, hf⟩ := dc_b hf
  refine dc_calli (dc_runV (ar := 1) (As := [.int 304]) (rest := []) (ci := 0) (q0 := 0) ⟨hx, hb, hml, hown, hg⟩ hK hN hT hS hA (ct_M_is l dC dI cI cB cJ cZ cQ N H.size h0 a 304 s q_1 hc_2) hP hD rfl rfl wn_9_194 wn_9_196 sn_M_is wn_1_13 wn_9_197 rfl rfl (by decide +kernel) ⟨Nat.le_of_ble_eq_true rfl, Nat.le_of_ble_eq_true rfl⟩ rfl hl.1 rfl (Nat.le_of_ble_eq_true rfl) dn_M_itemGrammar_4 ⟨Nat.le_of_ble_eq_true rfl, Nat.le_of_ble_eq_true rfl⟩) hP hD hS hA (fun r_3 _ H locs hw hP hD hS => ?_)
  have hw : r_3 = q_1.1 := hw
  subst hw
  refine lv_if_ne (tgt := 20) hx hb dn_M_itemGrammar_7 (by decide) (fun h => ?_) (fun h => ?_)
  · have hf := (if_neg h).symm.trans hf
    exact bl_20 q_1.2 hf H locs ls hP hD hS hl
  · have hf := (if_pos h).symm.trans hf
    refine lv_aload_n hx hb dn_M_itemGrammar_10 rfl (lv_at hl 0 rfl) ?_
    refine lv_sipush (v := 305) hx hb dn_M_itemGrammar_11 (by decide) ?_
    obtain ⟨q_4, hc_5, hf⟩ := dc_b hf
    refine dc_calli (dc_runV (ar := 1) (As := [.int 305]) (rest := []) (ci := 0) (q0 := 0) ⟨hx, hb, hml, hown, hg⟩ hK hN hT hS hA (ct_M_is l dC dI cI cB cJ cZ cQ N H.size h0 a 305 q_1.2 q_4 hc_5) hP hD rfl rfl wn_9_194 wn_9_196 sn_M_is wn_1_13 wn_9_197 rfl rfl (by decide +kernel) ⟨Nat.le_of_ble_eq_true rfl, Nat.le_of_ble_eq_true rfl⟩ rfl hl.1 rfl (Nat.le_of_ble_eq_true rfl) dn_M_itemGrammar_14 ⟨Nat.le_of_ble_eq_true rfl, Nat.le_of_ble_eq_true rfl⟩) hP hD hS hA (fun r_6 _ H locs hw hP hD hS => ?_)
    have hw : r_6 = q_4.1 := hw
    subst hw
    refine lv_if_eq (tgt := 66) hx hb dn_M_itemGrammar_17 (by decide) (fun h => ?_) (fun h => ?_)
    · have hf := (if_pos h).symm.trans hf
      refine lv_aload_n hx hb dn_M_itemGrammar_66 rfl (lv_at hl 0 rfl) ?_
      refine lv_sipush (v := 306) hx hb dn_M_itemGrammar_67 (by decide) ?_
      obtain ⟨q_7, hc_8, hf⟩ := dc_b hf
      refine dc_calli (dc_runV (ar := 1) (As := [.int 306]) (rest := []) (ci := 0) (q0 := 0) ⟨hx, hb, hml, hown, hg⟩ hK hN hT hS hA (ct_M_is l dC dI cI cB cJ cZ cQ N H.size h0 a 306 q_4.2 q_7 hc_8) hP hD rfl rfl wn_9_194 wn_9_196 sn_M_is wn_1_13 wn_9_197 rfl rfl (by decide +kernel) ⟨Nat.le_of_ble_eq_true rfl, Nat.le_of_ble_eq_true rfl⟩ rfl hl.1 rfl (Nat.le_of_ble_eq_true rfl) dn_M_itemGrammar_70 ⟨Nat.le_of_ble_eq_true rfl, Nat.le_of_ble_eq_true rfl⟩) hP hD hS hA (fun r_9 _ H locs hw hP hD hS => ?_)
      have hw : r_9 = q_7.1 := hw
      subst hw
      refine lv_if_eq (tgt := 112) hx hb dn_M_itemGrammar_73 (by decide) (fun h => ?_) (fun h => ?_)
      · have hf := (if_pos h).symm.trans hf
        refine lv_aload_n hx hb dn_M_itemGrammar_112 rfl (lv_at hl 0 rfl) ?_
        refine lv_sipush (v := 307) hx hb dn_M_itemGrammar_113 (by decide) ?_
        obtain ⟨q_10, hc_11, hf⟩ := dc_b hf
        refine dc_calli (dc_runV (ar := 1) (As := [.int 307]) (rest := []) (ci := 0) (q0 := 0) ⟨hx, hb, hml, hown, hg⟩ hK hN hT hS hA (ct_M_is l dC dI cI cB cJ cZ cQ N H.size h0 a 307 q_7.2 q_10 hc_11) hP hD rfl rfl wn_9_194 wn_9_196 sn_M_is wn_1_13 wn_9_197 rfl rfl (by decide +kernel) ⟨Nat.le_of_ble_eq_true rfl, Nat.le_of_ble_eq_true rfl⟩ rfl hl.1 rfl (Nat.le_of_ble_eq_true rfl) dn_M_itemGrammar_116 ⟨Nat.le_of_ble_eq_true rfl, Nat.le_of_ble_eq_true rfl⟩) hP hD hS hA (fun r_12 _ H locs hw hP hD hS => ?_)
        have hw : r_12 = q_10.1 := hw
        subst hw
        refine lv_if_eq (tgt := 171) hx hb dn_M_itemGrammar_119 (by decide) (fun h => ?_) (fun h => ?_)
        · have hf := (if_pos h).symm.trans hf
          refine lv_aload_n hx hb dn_M_itemGrammar_171 rfl (lv_at hl 0 rfl) ?_
          refine lv_sipush (v := 317) hx hb dn_M_itemGrammar_172 (by decide) ?_
          obtain ⟨q_13, hc_14, hf⟩ := dc_b hf
          refine dc_calli (dc_runV (ar := 1) (As := [.int 317]) (rest := []) (ci := 0) (q0 := 0) ⟨hx, hb, hml, hown, hg⟩ hK hN hT hS hA (ct_M_is l dC dI cI cB cJ cZ cQ N H.size h0 a 317 q_10.2 q_13 hc_14) hP hD rfl rfl wn_9_194 wn_9_196 sn_M_is wn_1_13 wn_9_197 rfl rfl (by decide +kernel) ⟨Nat.le_of_ble_eq_true rfl, Nat.le_of_ble_eq_true rfl⟩ rfl hl.1 rfl (Nat.le_of_ble_eq_true rfl) dn_M_itemGrammar_175 ⟨Nat.le_of_ble_eq_true rfl, Nat.le_of_ble_eq_true rfl⟩) hP hD hS hA (fun r_15 _ H locs hw hP hD hS => ?_)
          have hw : r_15 = q_13.1 := hw
          subst hw
          refine lv_if_eq (tgt := 216) hx hb dn_M_itemGrammar_178 (by decide) (fun h => ?_) (fun h => ?_)
          · have hf := (if_pos h).symm.trans hf
            refine lv_aload_n hx hb dn_M_itemGrammar_216 rfl (lv_at hl 0 rfl) ?_
            refine lv_sipush (v := 400) hx hb dn_M_itemGrammar_217 (by decide) ?_
            obtain ⟨q_16, hc_17, hf⟩ := dc_b hf
            refine dc_callv (dc_runV (ar := 1) (As := [.int 400]) (rest := []) (ci := 0) (q0 := 0) ⟨hx, hb, hml, hown, hg⟩ hK hN hT hS hA (ct_M_take l dC dI cI cB cJ cZ cQ N H.size h0 a 400 q_13.2 q_16 hc_17) hP hD rfl rfl wn_9_178 wn_9_180 sn_M_take wn_1_13 wn_9_181 rfl rfl (by decide +kernel) ⟨Nat.le_of_ble_eq_true rfl, Nat.le_of_ble_eq_true rfl⟩ rfl hl.1 rfl (Nat.le_of_ble_eq_true rfl) dn_M_itemGrammar_220 ⟨Nat.le_of_ble_eq_true rfl, Nat.le_of_ble_eq_true rfl⟩) hP hD hS hA (fun _ H locs hw hP hD hS => ?_)
            refine lv_aload_n hx hb dn_M_itemGrammar_223 rfl (lv_at hl 0 rfl) ?_
            refine lv_sipush (v := 400) hx hb dn_M_itemGrammar_224 (by decide) ?_
            obtain ⟨q_18, hc_19, hf⟩ := dc_b hf
            refine dc_callv (dc_runV (ar := 1) (As := [.int 400]) (rest := []) (ci := 0) (q0 := 0) ⟨hx, hb, hml, hown, hg⟩ hK hN hT hS hA (ct_M_take l dC dI cI cB cJ cZ cQ N H.size h0 a 400 q_16.2 q_18 hc_19) hP hD rfl rfl wn_9_178 wn_9_180 sn_M_take wn_1_13 wn_9_181 rfl rfl (by decide +kernel) ⟨Nat.le_of_ble_eq_true rfl, Nat.le_of_ble_eq_true rfl⟩ rfl hl.1 rfl (Nat.le_of_ble_eq_true rfl) dn_M_itemGrammar_227 ⟨Nat.le_of_ble_eq_true rfl, Nat.le_of_ble_eq_true rfl⟩) hP hD hS hA (fun _ H locs hw hP hD hS => ?_)
            refine lv_aload_n hx hb dn_M_itemGrammar_230 rfl (lv_at hl 0 rfl) ?_
            refine lv_bipush (v := 40) hx hb dn_M_itemGrammar_231 (by decide) ?_
            obtain ⟨q_20, hc_21, hf⟩ := dc_b hf
            refine dc_callv (dc_runV (ar := 1) (As := [.int 40]) (rest := []) (ci := 0) (q0 := 0) ⟨hx, hb, hml, hown, hg⟩ hK hN hT hS hA (ct_M_open l dC dI cI cB cJ cZ cQ N H.size h0 a 40 q_18.2 q_20 hc_21) hP hD rfl rfl wn_9_190 wn_9_192 sn_M_open wn_1_13 wn_9_193 rfl rfl (by decide +kernel) ⟨Nat.le_of_ble_eq_true rfl, Nat.le_of_ble_eq_true rfl⟩ rfl hl.1 rfl (Nat.le_of_ble_eq_true rfl) dn_M_itemGrammar_233 ⟨Nat.le_of_ble_eq_true rfl, Nat.le_of_ble_eq_true rfl⟩) hP hD hS hA (fun _ H locs hw hP hD hS => ?_)
            refine lv_aload_n hx hb dn_M_itemGrammar_236 rfl (lv_at hl 0 rfl) ?_
            refine lv_bipush (v := 46) hx hb dn_M_itemGrammar_237 (by decide) ?_
            obtain ⟨q_22, hc_23, hf⟩ := dc_b hf
            refine dc_calli (dc_runV (ar := 1) (As := [.int 46]) (rest := []) (ci := 0) (q0 := 0) ⟨hx, hb, hml, hown, hg⟩ hK hN hT hS hA (ct_M_is l dC dI cI cB cJ cZ cQ N H.size h0 a 46 q_20.2 q_22 hc_23) hP hD rfl rfl wn_9_194 wn_9_196 sn_M_is wn_1_13 wn_9_197 rfl rfl (by decide +kernel) ⟨Nat.le_of_ble_eq_true rfl, Nat.le_of_ble_eq_true rfl⟩ rfl hl.1 rfl (Nat.le_of_ble_eq_true rfl) dn_M_itemGrammar_239 ⟨Nat.le_of_ble_eq_true rfl, Nat.le_of_ble_eq_true rfl⟩) hP hD hS hA (fun r_24 _ H locs hw hP hD hS => ?_)
            have hw : r_24 = q_22.1 := hw
            subst hw
            refine lv_if_eq (tgt := 275) hx hb dn_M_itemGrammar_242 (by decide) (fun h => ?_) (fun h => ?_)
            · have hf := (if_pos h).symm.trans hf
              exact bl_275 q_22.2 hf H locs ls hP hD hS hl
            · have hf := (if_neg h).symm.trans hf
              refine lv_aload_n hx hb dn_M_itemGrammar_245 rfl (lv_at hl 0 rfl) ?_
              obtain ⟨q_25, hc_26, hf⟩ := dc_b hf
              refine dc_callv (dc_runV (ar := 0) (As := []) (rest := []) (ci := 0) (q0 := 0) ⟨hx, hb, hml, hown, hg⟩ hK hN hT hS hA (ct_M_linkGrammar l dC dI cI cB cJ cZ cQ N H.size h0 a q_22.2 q_25 hc_26) hP hD rfl rfl wn_10_12 wn_10_14 sn_M_linkGrammar wn_1_13 wn_10_15 rfl rfl (by decide +kernel) ⟨Nat.le_of_ble_eq_true rfl, Nat.le_of_ble_eq_true rfl⟩ rfl hl.1 rfl (Nat.le_of_ble_eq_true rfl) dn_M_itemGrammar_246 ⟨Nat.le_of_ble_eq_true rfl, Nat.le_of_ble_eq_true rfl⟩) hP hD hS hA (fun _ H locs hw hP hD hS => ?_)
              exact hd_249 N q_25.2 hf H locs ls hP hD hS hl
          · have hf := (if_neg h).symm.trans hf
            refine lv_aload_n hx hb dn_M_itemGrammar_181 rfl (lv_at hl 0 rfl) ?_
            refine lv_dup hx hb dn_M_itemGrammar_182 rfl ?_
            refine va_get (D := (dC, dI)) (ci := 0) (v := .int ((q_13.2.1 8 0))) (C := rn_M) (T := fn_M) (N := 91) hx hb hg in_M hown hK hP 0 rfl rfl 8 (by decide) (hg _ wn_8_81) (fun _ h9 => h9) rfl dn_M_itemGrammar_183 ?_
            refine lv_iconst (v := 1) hx hb dn_M_itemGrammar_186 (by decide) ?_
            refine lv_iadd hx hb dn_M_itemGrammar_187 ?_
            refine va_put (D := (dC, dI)) (ci := 0) (v := .int (((q_13.2.1 8 0) + 1))) (ty := .int) (C := rn_M) (T := fn_M) (N := 91) hx hb hg in_M tn_M tk_M nn_M hown hK hP hD hS 0 rfl rfl 8 (by decide) (hg _ wn_8_81) (fun _ h9 => h9) rfl (tk_M 8 (by decide)) rfl rfl (Nat.le_of_ble_eq_true rfl) dn_M_itemGrammar_188 (fun H locs hP hD hS => ?_)
            have hP := wM_P_8 hP
            have hD := wM_D_8 hD
            refine lv_aload_n hx hb dn_M_itemGrammar_191 rfl (lv_at hl 0 rfl) ?_
            refine lv_bipush (v := 40) hx hb dn_M_itemGrammar_192 (by decide) ?_
            obtain ⟨q_16, hc_17, hf⟩ := dc_b hf
            refine dc_callv (dc_runV (ar := 1) (As := [.int 40]) (rest := []) (ci := 0) (q0 := 0) ⟨hx, hb, hml, hown, hg⟩ hK hN hT hS hA (ct_M_open l dC dI cI cB cJ cZ cQ N H.size h0 a 40 (upI q_13.2 8 (fun _ => ((q_13.2.1 8 0) + 1))) q_16 hc_17) hP hD rfl rfl wn_9_190 wn_9_192 sn_M_open wn_1_13 wn_9_193 rfl rfl (by decide +kernel) ⟨Nat.le_of_ble_eq_true rfl, Nat.le_of_ble_eq_true rfl⟩ rfl hl.1 rfl (Nat.le_of_ble_eq_true rfl) dn_M_itemGrammar_194 ⟨Nat.le_of_ble_eq_true rfl, Nat.le_of_ble_eq_true rfl⟩) hP hD hS hA (fun _ H locs hw hP hD hS => ?_)
            refine lv_aload_n hx hb dn_M_itemGrammar_197 rfl (lv_at hl 0 rfl) ?_
            obtain ⟨q_18, hc_19, hf⟩ := dc_b hf
            refine dc_callv (dc_runV (ar := 0) (As := []) (rest := []) (ci := 0) (q0 := 0) ⟨hx, hb, hml, hown, hg⟩ hK hN hT hS hA (ct_M_expGrammar l dC dI cI cB cJ cZ cQ N H.size h0 a q_16.2 q_18 hc_19) hP hD rfl rfl wn_9_222 wn_9_224 sn_M_expGrammar wn_1_13 wn_9_225 rfl rfl (by decide +kernel) ⟨Nat.le_of_ble_eq_true rfl, Nat.le_of_ble_eq_true rfl⟩ rfl hl.1 rfl (Nat.le_of_ble_eq_true rfl) dn_M_itemGrammar_198 ⟨Nat.le_of_ble_eq_true rfl, Nat.le_of_ble_eq_true rfl⟩) hP hD hS hA (fun _ H locs hw hP hD hS => ?_)
            refine lv_aload_n hx hb dn_M_itemGrammar_201 rfl (lv_at hl 0 rfl) ?_
            refine lv_bipush (v := 41) hx hb dn_M_itemGrammar_202 (by decide) ?_
            obtain ⟨q_20, hc_21, hf⟩ := dc_b hf
            refine dc_callv (dc_runV (ar := 1) (As := [.int 41]) (rest := []) (ci := 0) (q0 := 0) ⟨hx, hb, hml, hown, hg⟩ hK hN hT hS hA (ct_M_shut l dC dI cI cB cJ cZ cQ N H.size h0 a 41 q_18.2 q_20 hc_21) hP hD rfl rfl wn_9_206 wn_9_208 sn_M_shut wn_1_13 wn_9_209 rfl rfl (by decide +kernel) ⟨Nat.le_of_ble_eq_true rfl, Nat.le_of_ble_eq_true rfl⟩ rfl hl.1 rfl (Nat.le_of_ble_eq_true rfl) dn_M_itemGrammar_204 ⟨Nat.le_of_ble_eq_true rfl, Nat.le_of_ble_eq_true rfl⟩) hP hD hS hA (fun _ H locs hw hP hD hS => ?_)
            refine lv_aload_n hx hb dn_M_itemGrammar_207 rfl (lv_at hl 0 rfl) ?_
            refine lv_bipush (v := 59) hx hb dn_M_itemGrammar_208 (by decide) ?_
            obtain ⟨q_22, hc_23, hf⟩ := dc_b hf
            refine dc_callv (dc_runV (ar := 1) (As := [.int 59]) (rest := []) (ci := 0) (q0 := 0) ⟨hx, hb, hml, hown, hg⟩ hK hN hT hS hA (ct_M_take l dC dI cI cB cJ cZ cQ N H.size h0 a 59 q_20.2 q_22 hc_23) hP hD rfl rfl wn_9_178 wn_9_180 sn_M_take wn_1_13 wn_9_181 rfl rfl (by decide +kernel) ⟨Nat.le_of_ble_eq_true rfl, Nat.le_of_ble_eq_true rfl⟩ rfl hl.1 rfl (Nat.le_of_ble_eq_true rfl) dn_M_itemGrammar_210 ⟨Nat.le_of_ble_eq_true rfl, Nat.le_of_ble_eq_true rfl⟩) hP hD hS hA (fun _ H locs hw hP hD hS => ?_)
            refine lv_goto (tgt := 287) hx hb dn_M_itemGrammar_213 (by decide) ?_
            rw [hQQ, ← Option.some.inj hf]
            exact xk_vret (w1 := fun u : Unit => (wM h0 a cI cB cJ cZ q_22.2)) () hx hb hr hlocks hK hS dn_M_itemGrammar_287 hP hD trivial (Nat.le_refl _) (Nat.le_refl _)
        · have hf := (if_neg h).symm.trans hf
          refine lv_aload_n hx hb dn_M_itemGrammar_122 rfl (lv_at hl 0 rfl) ?_
          refine lv_dup hx hb dn_M_itemGrammar_123 rfl ?_
          refine va_get (D := (dC, dI)) (ci := 0) (v := .int ((q_10.2.1 8 0))) (C := rn_M) (T := fn_M) (N := 91) hx hb hg in_M hown hK hP 0 rfl rfl 8 (by decide) (hg _ wn_8_81) (fun _ h9 => h9) rfl dn_M_itemGrammar_124 ?_
          refine lv_iconst (v := 1) hx hb dn_M_itemGrammar_127 (by decide) ?_
          refine lv_iadd hx hb dn_M_itemGrammar_128 ?_
          refine va_put (D := (dC, dI)) (ci := 0) (v := .int (((q_10.2.1 8 0) + 1))) (ty := .int) (C := rn_M) (T := fn_M) (N := 91) hx hb hg in_M tn_M tk_M nn_M hown hK hP hD hS 0 rfl rfl 8 (by decide) (hg _ wn_8_81) (fun _ h9 => h9) rfl (tk_M 8 (by decide)) rfl rfl (Nat.le_of_ble_eq_true rfl) dn_M_itemGrammar_129 (fun H locs hP hD hS => ?_)
          have hP := wM_P_8 hP
          have hD := wM_D_8 hD
          refine lv_aload_n hx hb dn_M_itemGrammar_132 rfl (lv_at hl 0 rfl) ?_
          refine lv_bipush (v := 64) hx hb dn_M_itemGrammar_133 (by decide) ?_
          obtain ⟨q_13, hc_14, hf⟩ := dc_b hf
          refine dc_callv (dc_runV (ar := 1) (As := [.int 64]) (rest := []) (ci := 0) (q0 := 0) ⟨hx, hb, hml, hown, hg⟩ hK hN hT hS hA (ct_M_take l dC dI cI cB cJ cZ cQ N H.size h0 a 64 (upI q_10.2 8 (fun _ => ((q_10.2.1 8 0) + 1))) q_13 hc_14) hP hD rfl rfl wn_9_178 wn_9_180 sn_M_take wn_1_13 wn_9_181 rfl rfl (by decide +kernel) ⟨Nat.le_of_ble_eq_true rfl, Nat.le_of_ble_eq_true rfl⟩ rfl hl.1 rfl (Nat.le_of_ble_eq_true rfl) dn_M_itemGrammar_135 ⟨Nat.le_of_ble_eq_true rfl, Nat.le_of_ble_eq_true rfl⟩) hP hD hS hA (fun _ H locs hw hP hD hS => ?_)
          refine lv_aload_n hx hb dn_M_itemGrammar_138 rfl (lv_at hl 0 rfl) ?_
          refine lv_bipush (v := 40) hx hb dn_M_itemGrammar_139 (by decide) ?_
          obtain ⟨q_15, hc_16, hf⟩ := dc_b hf
          refine dc_callv (dc_runV (ar := 1) (As := [.int 40]) (rest := []) (ci := 0) (q0 := 0) ⟨hx, hb, hml, hown, hg⟩ hK hN hT hS hA (ct_M_open l dC dI cI cB cJ cZ cQ N H.size h0 a 40 q_13.2 q_15 hc_16) hP hD rfl rfl wn_9_190 wn_9_192 sn_M_open wn_1_13 wn_9_193 rfl rfl (by decide +kernel) ⟨Nat.le_of_ble_eq_true rfl, Nat.le_of_ble_eq_true rfl⟩ rfl hl.1 rfl (Nat.le_of_ble_eq_true rfl) dn_M_itemGrammar_141 ⟨Nat.le_of_ble_eq_true rfl, Nat.le_of_ble_eq_true rfl⟩) hP hD hS hA (fun _ H locs hw hP hD hS => ?_)
          refine lv_aload_n hx hb dn_M_itemGrammar_144 rfl (lv_at hl 0 rfl) ?_
          refine lv_sipush (v := 308) hx hb dn_M_itemGrammar_145 (by decide) ?_
          obtain ⟨q_17, hc_18, hf⟩ := dc_b hf
          refine dc_callv (dc_runV (ar := 1) (As := [.int 308]) (rest := []) (ci := 0) (q0 := 0) ⟨hx, hb, hml, hown, hg⟩ hK hN hT hS hA (ct_M_take l dC dI cI cB cJ cZ cQ N H.size h0 a 308 q_15.2 q_17 hc_18) hP hD rfl rfl wn_9_178 wn_9_180 sn_M_take wn_1_13 wn_9_181 rfl rfl (by decide +kernel) ⟨Nat.le_of_ble_eq_true rfl, Nat.le_of_ble_eq_true rfl⟩ rfl hl.1 rfl (Nat.le_of_ble_eq_true rfl) dn_M_itemGrammar_148 ⟨Nat.le_of_ble_eq_true rfl, Nat.le_of_ble_eq_true rfl⟩) hP hD hS hA (fun _ H locs hw hP hD hS => ?_)
          refine lv_aload_n hx hb dn_M_itemGrammar_151 rfl (lv_at hl 0 rfl) ?_
          refine lv_sipush (v := 309) hx hb dn_M_itemGrammar_152 (by decide) ?_
          obtain ⟨q_19, hc_20, hf⟩ := dc_b hf
          refine dc_callv (dc_runV (ar := 1) (As := [.int 309]) (rest := []) (ci := 0) (q0 := 0) ⟨hx, hb, hml, hown, hg⟩ hK hN hT hS hA (ct_M_take l dC dI cI cB cJ cZ cQ N H.size h0 a 309 q_17.2 q_19 hc_20) hP hD rfl rfl wn_9_178 wn_9_180 sn_M_take wn_1_13 wn_9_181 rfl rfl (by decide +kernel) ⟨Nat.le_of_ble_eq_true rfl, Nat.le_of_ble_eq_true rfl⟩ rfl hl.1 rfl (Nat.le_of_ble_eq_true rfl) dn_M_itemGrammar_155 ⟨Nat.le_of_ble_eq_true rfl, Nat.le_of_ble_eq_true rfl⟩) hP hD hS hA (fun _ H locs hw hP hD hS => ?_)
          refine lv_aload_n hx hb dn_M_itemGrammar_158 rfl (lv_at hl 0 rfl) ?_
          refine lv_bipush (v := 41) hx hb dn_M_itemGrammar_159 (by decide) ?_
          obtain ⟨q_21, hc_22, hf⟩ := dc_b hf
          refine dc_callv (dc_runV (ar := 1) (As := [.int 41]) (rest := []) (ci := 0) (q0 := 0) ⟨hx, hb, hml, hown, hg⟩ hK hN hT hS hA (ct_M_shut l dC dI cI cB cJ cZ cQ N H.size h0 a 41 q_19.2 q_21 hc_22) hP hD rfl rfl wn_9_206 wn_9_208 sn_M_shut wn_1_13 wn_9_209 rfl rfl (by decide +kernel) ⟨Nat.le_of_ble_eq_true rfl, Nat.le_of_ble_eq_true rfl⟩ rfl hl.1 rfl (Nat.le_of_ble_eq_true rfl) dn_M_itemGrammar_161 ⟨Nat.le_of_ble_eq_true rfl, Nat.le_of_ble_eq_true rfl⟩) hP hD hS hA (fun _ H locs hw hP hD hS => ?_)
          refine lv_aload_n hx hb dn_M_itemGrammar_164 rfl (lv_at hl 0 rfl) ?_
          obtain ⟨q_23, hc_24, hf⟩ := dc_b hf
          refine dc_callv (dc_runV (ar := 0) (As := []) (rest := []) (ci := 0) (q0 := 0) ⟨hx, hb, hml, hown, hg⟩ hK hN hT hS hA (ct_M_statementGrammar l dC dI cI cB cJ cZ cQ N H.size h0 a q_21.2 q_23 hc_24) hP hD rfl rfl wn_10_4 wn_10_6 sn_M_statementGrammar wn_1_13 wn_10_7 rfl rfl (by decide +kernel) ⟨Nat.le_of_ble_eq_true rfl, Nat.le_of_ble_eq_true rfl⟩ rfl hl.1 rfl (Nat.le_of_ble_eq_true rfl) dn_M_itemGrammar_165 ⟨Nat.le_of_ble_eq_true rfl, Nat.le_of_ble_eq_true rfl⟩) hP hD hS hA (fun _ H locs hw hP hD hS => ?_)
          refine lv_goto (tgt := 287) hx hb dn_M_itemGrammar_168 (by decide) ?_
          rw [hQQ, ← Option.some.inj hf]
          exact xk_vret (w1 := fun u : Unit => (wM h0 a cI cB cJ cZ q_23.2)) () hx hb hr hlocks hK hS dn_M_itemGrammar_287 hP hD trivial (Nat.le_refl _) (Nat.le_refl _)
      · have hf := (if_neg h).symm.trans hf
        refine lv_aload_n hx hb dn_M_itemGrammar_76 rfl (lv_at hl 0 rfl) ?_
        refine lv_dup hx hb dn_M_itemGrammar_77 rfl ?_
        refine va_get (D := (dC, dI)) (ci := 0) (v := .int ((q_7.2.1 8 0))) (C := rn_M) (T := fn_M) (N := 91) hx hb hg in_M hown hK hP 0 rfl rfl 8 (by decide) (hg _ wn_8_81) (fun _ h9 => h9) rfl dn_M_itemGrammar_78 ?_
        refine lv_iconst (v := 1) hx hb dn_M_itemGrammar_81 (by decide) ?_
        refine lv_iadd hx hb dn_M_itemGrammar_82 ?_
        refine va_put (D := (dC, dI)) (ci := 0) (v := .int (((q_7.2.1 8 0) + 1))) (ty := .int) (C := rn_M) (T := fn_M) (N := 91) hx hb hg in_M tn_M tk_M nn_M hown hK hP hD hS 0 rfl rfl 8 (by decide) (hg _ wn_8_81) (fun _ h9 => h9) rfl (tk_M 8 (by decide)) rfl rfl (Nat.le_of_ble_eq_true rfl) dn_M_itemGrammar_83 (fun H locs hP hD hS => ?_)
        have hP := wM_P_8 hP
        have hD := wM_D_8 hD
        refine lv_aload_n hx hb dn_M_itemGrammar_86 rfl (lv_at hl 0 rfl) ?_
        refine lv_sipush (v := 400) hx hb dn_M_itemGrammar_87 (by decide) ?_
        obtain ⟨q_10, hc_11, hf⟩ := dc_b hf
        refine dc_callv (dc_runV (ar := 1) (As := [.int 400]) (rest := []) (ci := 0) (q0 := 0) ⟨hx, hb, hml, hown, hg⟩ hK hN hT hS hA (ct_M_take l dC dI cI cB cJ cZ cQ N H.size h0 a 400 (upI q_7.2 8 (fun _ => ((q_7.2.1 8 0) + 1))) q_10 hc_11) hP hD rfl rfl wn_9_178 wn_9_180 sn_M_take wn_1_13 wn_9_181 rfl rfl (by decide +kernel) ⟨Nat.le_of_ble_eq_true rfl, Nat.le_of_ble_eq_true rfl⟩ rfl hl.1 rfl (Nat.le_of_ble_eq_true rfl) dn_M_itemGrammar_90 ⟨Nat.le_of_ble_eq_true rfl, Nat.le_of_ble_eq_true rfl⟩) hP hD hS hA (fun _ H locs hw hP hD hS => ?_)
        refine lv_aload_n hx hb dn_M_itemGrammar_93 rfl (lv_at hl 0 rfl) ?_
        refine lv_bipush (v := 61) hx hb dn_M_itemGrammar_94 (by decide) ?_
        obtain ⟨q_12, hc_13, hf⟩ := dc_b hf
        refine dc_callv (dc_runV (ar := 1) (As := [.int 61]) (rest := []) (ci := 0) (q0 := 0) ⟨hx, hb, hml, hown, hg⟩ hK hN hT hS hA (ct_M_take l dC dI cI cB cJ cZ cQ N H.size h0 a 61 q_10.2 q_12 hc_13) hP hD rfl rfl wn_9_178 wn_9_180 sn_M_take wn_1_13 wn_9_181 rfl rfl (by decide +kernel) ⟨Nat.le_of_ble_eq_true rfl, Nat.le_of_ble_eq_true rfl⟩ rfl hl.1 rfl (Nat.le_of_ble_eq_true rfl) dn_M_itemGrammar_96 ⟨Nat.le_of_ble_eq_true rfl, Nat.le_of_ble_eq_true rfl⟩) hP hD hS hA (fun _ H locs hw hP hD hS => ?_)
        refine lv_aload_n hx hb dn_M_itemGrammar_99 rfl (lv_at hl 0 rfl) ?_
        obtain ⟨q_14, hc_15, hf⟩ := dc_b hf
        refine dc_callv (dc_runV (ar := 0) (As := []) (rest := []) (ci := 0) (q0 := 0) ⟨hx, hb, hml, hown, hg⟩ hK hN hT hS hA (ct_M_expGrammar l dC dI cI cB cJ cZ cQ N H.size h0 a q_12.2 q_14 hc_15) hP hD rfl rfl wn_9_222 wn_9_224 sn_M_expGrammar wn_1_13 wn_9_225 rfl rfl (by decide +kernel) ⟨Nat.le_of_ble_eq_true rfl, Nat.le_of_ble_eq_true rfl⟩ rfl hl.1 rfl (Nat.le_of_ble_eq_true rfl) dn_M_itemGrammar_100 ⟨Nat.le_of_ble_eq_true rfl, Nat.le_of_ble_eq_true rfl⟩) hP hD hS hA (fun _ H locs hw hP hD hS => ?_)
        refine lv_aload_n hx hb dn_M_itemGrammar_103 rfl (lv_at hl 0 rfl) ?_
        refine lv_bipush (v := 59) hx hb dn_M_itemGrammar_104 (by decide) ?_
        obtain ⟨q_16, hc_17, hf⟩ := dc_b hf
        refine dc_callv (dc_runV (ar := 1) (As := [.int 59]) (rest := []) (ci := 0) (q0 := 0) ⟨hx, hb, hml, hown, hg⟩ hK hN hT hS hA (ct_M_take l dC dI cI cB cJ cZ cQ N H.size h0 a 59 q_14.2 q_16 hc_17) hP hD rfl rfl wn_9_178 wn_9_180 sn_M_take wn_1_13 wn_9_181 rfl rfl (by decide +kernel) ⟨Nat.le_of_ble_eq_true rfl, Nat.le_of_ble_eq_true rfl⟩ rfl hl.1 rfl (Nat.le_of_ble_eq_true rfl) dn_M_itemGrammar_106 ⟨Nat.le_of_ble_eq_true rfl, Nat.le_of_ble_eq_true rfl⟩) hP hD hS hA (fun _ H locs hw hP hD hS => ?_)
        refine lv_goto (tgt := 287) hx hb dn_M_itemGrammar_109 (by decide) ?_
        rw [hQQ, ← Option.some.inj hf]
        exact xk_vret (w1 := fun u : Unit => (wM h0 a cI cB cJ cZ q_16.2)) () hx hb hr hlocks hK hS dn_M_itemGrammar_287 hP hD trivial (Nat.le_refl _) (Nat.le_refl _)
    · have hf := (if_neg h).symm.trans hf
      exact bl_20 q_4.2 hf H locs ls hP hD hS hl
