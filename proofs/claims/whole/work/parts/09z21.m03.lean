theorem mn_M_rangeGrammar (N : Nat) (s : ms) (y : (Unit × ms)) (hf : fn_M_rangeGrammar N s = some y) : gl y.2 = gl s := by
  unfold fn_M_rangeGrammar at hf
  have hm : gl s = gl s := rfl
  obtain ⟨q_1, hc_2, hf⟩ := dc_b hf
  have hm := (mn_M_is N 91 s q_1 hc_2).trans hm
  by_cases h : q_1.1 = 0
  · have hf := (if_pos h).symm.trans hf
    exact (dc_e hf).trans hm
  · have hf := (if_neg h).symm.trans hf
    obtain ⟨q_4, hc_5, hf⟩ := dc_b hf
    have hm := (mn_M_open N 91 q_1.2 q_4 hc_5).trans hm
    obtain ⟨q_6, hc_7, hf⟩ := dc_b hf
    have hm := (mn_M_take N 401 q_4.2 q_6 hc_7).trans hm
    obtain ⟨q_8, hc_9, hf⟩ := dc_b hf
    have hm := (mn_M_take N 58 q_6.2 q_8 hc_9).trans hm
    obtain ⟨q_10, hc_11, hf⟩ := dc_b hf
    have hm := (mn_M_take N 401 q_8.2 q_10 hc_11).trans hm
    obtain ⟨q_12, hc_13, hf⟩ := dc_b hf
    have hm := (mn_M_shut N 93 q_10.2 q_12 hc_13).trans hm
    exact (dc_e hf).trans hm
set_option maxHeartbeats 8000000 in
set_option maxRecDepth 100000 in
theorem ct_M_rangeGrammar (l : Launch) (dC : Nat → ClassId) (dI : Nat → Nat → Nat) (cI cB cJ cZ cQ : ClassId) (N sz : Nat) (h0 : Nat) (a : Nat → Nat) (s : ms) (y : (Unit × ms)) (hf : fn_M_rangeGrammar N s = some y) : Met l yn_M_rangeGrammar (xw yn_M_rangeGrammar bn_M_rangeGrammar 1 none) ({ frames := 4, cells := 0, slots := 0, locals := 84 }) (dc_P (dC, dI) xcl (xt cI cB cJ cZ cQ) [.ref h0] sz (wM h0 a cI cB cJ cZ s)) (xk_Qv (dC, dI) xcl (xt cI cB cJ cZ cQ) (fun _ : Unit => True) (fun u : Unit => (wM h0 a cI cB cJ cZ y.2)) (va_A (wM h0 a cI cB cJ cZ s) sz)) 0 0 (va_A (wM h0 a cI cB cJ cZ s) sz) := by
  refine dc_of (QA := xk_Qv (dC, dI) xcl (xt cI cB cJ cZ cQ) (fun _ : Unit => True) (fun u : Unit => (wM h0 a cI cB cJ cZ y.2))) (by decide) (Nat.le_of_ble_eq_true rfl) ?_
  intro p e s0 m below meth c hx hb hml hown hg hr hlocks hin hP hK hN A hA hD hT ls hl
  have hown : s0.vm.findClass rn_M = some m.cls := hown
  obtain ⟨H, hH⟩ : ∃ z, z = s0.heap := ⟨_, rfl⟩
  rw [← hH] at hP
  have hS : va_S A s0.heap H [] := by rw [hH]; exact va_S.rf
  suffices kk : ∀ QQ : State → Prop, QQ = MQ below (xk_Qv (dC, dI) xcl (xt cI cB cJ cZ cQ) (fun _ : Unit => True) (fun u : Unit => (wM h0 a cI cB cJ cZ y.2)) A) [.ref h0].toArray s0 0 0 A → dcC p l e ({ frames := 4, cells := 0, slots := 0, locals := 84 }) s0 m [.ref h0].toArray below meth c QQ (dC, dI) A (wM h0 a cI cB cJ cZ s) 0 1 [(0, .ref h0)] [] by
    have k9 := kk _ rfl H [] ls hP hD hS hl
    rw [hH] at k9; exact k9
  clear hP hD hS hl hH H ls
  intro QQ hQQ
  intro H locs ls hP hD hS hl
  unfold fn_M_rangeGrammar at hf
  refine lv_aload_n hx hb dn_M_rangeGrammar_0 rfl (lv_at hl 0 rfl) ?_
  refine lv_bipush (v := 91) hx hb dn_M_rangeGrammar_1 (by decide) ?_
  obtain ⟨q_1, hc_2, hf⟩ := dc_b hf
  refine dc_calli (dc_runV (ar := 1) (As := [.int 91]) (rest := []) (ci := 0) (q0 := 0) ⟨hx, hb, hml, hown, hg⟩ hK hN hT hS hA (ct_M_is l dC dI cI cB cJ cZ cQ N H.size h0 a 91 s q_1 hc_2) hP hD rfl rfl wn_9_194 wn_9_196 sn_M_is wn_1_13 wn_9_197 rfl rfl (by decide +kernel) ⟨Nat.le_of_ble_eq_true rfl, Nat.le_of_ble_eq_true rfl⟩ rfl hl.1 rfl (Nat.le_of_ble_eq_true rfl) dn_M_rangeGrammar_3 ⟨Nat.le_of_ble_eq_true rfl, Nat.le_of_ble_eq_true rfl⟩) hP hD hS hA (fun r_3 _ H locs hw hP hD hS => ?_)
  have hw : r_3 = q_1.1 := hw
  subst hw
  refine lv_if_eq (tgt := 41) hx hb dn_M_rangeGrammar_6 (by decide) (fun h => ?_) (fun h => ?_)
  · have hf := (if_pos h).symm.trans hf
    rw [hQQ, ← Option.some.inj hf]
    exact xk_vret (w1 := fun u : Unit => (wM h0 a cI cB cJ cZ q_1.2)) () hx hb hr hlocks hK hS dn_M_rangeGrammar_41 hP hD trivial (Nat.le_refl _) (Nat.le_refl _)
  · have hf := (if_neg h).symm.trans hf
    refine lv_aload_n hx hb dn_M_rangeGrammar_9 rfl (lv_at hl 0 rfl) ?_
    refine lv_bipush (v := 91) hx hb dn_M_rangeGrammar_10 (by decide) ?_
    obtain ⟨q_4, hc_5, hf⟩ := dc_b hf
    refine dc_callv (dc_runV (ar := 1) (As := [.int 91]) (rest := []) (ci := 0) (q0 := 0) ⟨hx, hb, hml, hown, hg⟩ hK hN hT hS hA (ct_M_open l dC dI cI cB cJ cZ cQ N H.size h0 a 91 q_1.2 q_4 hc_5) hP hD rfl rfl wn_9_190 wn_9_192 sn_M_open wn_1_13 wn_9_193 rfl rfl (by decide +kernel) ⟨Nat.le_of_ble_eq_true rfl, Nat.le_of_ble_eq_true rfl⟩ rfl hl.1 rfl (Nat.le_of_ble_eq_true rfl) dn_M_rangeGrammar_12 ⟨Nat.le_of_ble_eq_true rfl, Nat.le_of_ble_eq_true rfl⟩) hP hD hS hA (fun _ H locs hw hP hD hS => ?_)
    refine lv_aload_n hx hb dn_M_rangeGrammar_15 rfl (lv_at hl 0 rfl) ?_
    refine lv_sipush (v := 401) hx hb dn_M_rangeGrammar_16 (by decide) ?_
    obtain ⟨q_6, hc_7, hf⟩ := dc_b hf
    refine dc_callv (dc_runV (ar := 1) (As := [.int 401]) (rest := []) (ci := 0) (q0 := 0) ⟨hx, hb, hml, hown, hg⟩ hK hN hT hS hA (ct_M_take l dC dI cI cB cJ cZ cQ N H.size h0 a 401 q_4.2 q_6 hc_7) hP hD rfl rfl wn_9_178 wn_9_180 sn_M_take wn_1_13 wn_9_181 rfl rfl (by decide +kernel) ⟨Nat.le_of_ble_eq_true rfl, Nat.le_of_ble_eq_true rfl⟩ rfl hl.1 rfl (Nat.le_of_ble_eq_true rfl) dn_M_rangeGrammar_19 ⟨Nat.le_of_ble_eq_true rfl, Nat.le_of_ble_eq_true rfl⟩) hP hD hS hA (fun _ H locs hw hP hD hS => ?_)
    refine lv_aload_n hx hb dn_M_rangeGrammar_22 rfl (lv_at hl 0 rfl) ?_
    refine lv_bipush (v := 58) hx hb dn_M_rangeGrammar_23 (by decide) ?_
    obtain ⟨q_8, hc_9, hf⟩ := dc_b hf
    refine dc_callv (dc_runV (ar := 1) (As := [.int 58]) (rest := []) (ci := 0) (q0 := 0) ⟨hx, hb, hml, hown, hg⟩ hK hN hT hS hA (ct_M_take l dC dI cI cB cJ cZ cQ N H.size h0 a 58 q_6.2 q_8 hc_9) hP hD rfl rfl wn_9_178 wn_9_180 sn_M_take wn_1_13 wn_9_181 rfl rfl (by decide +kernel) ⟨Nat.le_of_ble_eq_true rfl, Nat.le_of_ble_eq_true rfl⟩ rfl hl.1 rfl (Nat.le_of_ble_eq_true rfl) dn_M_rangeGrammar_25 ⟨Nat.le_of_ble_eq_true rfl, Nat.le_of_ble_eq_true rfl⟩) hP hD hS hA (fun _ H locs hw hP hD hS => ?_)
    refine lv_aload_n hx hb dn_M_rangeGrammar_28 rfl (lv_at hl 0 rfl) ?_
    refine lv_sipush (v := 401) hx hb dn_M_rangeGrammar_29 (by decide) ?_
    obtain ⟨q_10, hc_11, hf⟩ := dc_b hf
    refine dc_callv (dc_runV (ar := 1) (As := [.int 401]) (rest := []) (ci := 0) (q0 := 0) ⟨hx, hb, hml, hown, hg⟩ hK hN hT hS hA (ct_M_take l dC dI cI cB cJ cZ cQ N H.size h0 a 401 q_8.2 q_10 hc_11) hP hD rfl rfl wn_9_178 wn_9_180 sn_M_take wn_1_13 wn_9_181 rfl rfl (by decide +kernel) ⟨Nat.le_of_ble_eq_true rfl, Nat.le_of_ble_eq_true rfl⟩ rfl hl.1 rfl (Nat.le_of_ble_eq_true rfl) dn_M_rangeGrammar_32 ⟨Nat.le_of_ble_eq_true rfl, Nat.le_of_ble_eq_true rfl⟩) hP hD hS hA (fun _ H locs hw hP hD hS => ?_)
    refine lv_aload_n hx hb dn_M_rangeGrammar_35 rfl (lv_at hl 0 rfl) ?_
    refine lv_bipush (v := 93) hx hb dn_M_rangeGrammar_36 (by decide) ?_
    obtain ⟨q_12, hc_13, hf⟩ := dc_b hf
    refine dc_callv (dc_runV (ar := 1) (As := [.int 93]) (rest := []) (ci := 0) (q0 := 0) ⟨hx, hb, hml, hown, hg⟩ hK hN hT hS hA (ct_M_shut l dC dI cI cB cJ cZ cQ N H.size h0 a 93 q_10.2 q_12 hc_13) hP hD rfl rfl wn_9_206 wn_9_208 sn_M_shut wn_1_13 wn_9_209 rfl rfl (by decide +kernel) ⟨Nat.le_of_ble_eq_true rfl, Nat.le_of_ble_eq_true rfl⟩ rfl hl.1 rfl (Nat.le_of_ble_eq_true rfl) dn_M_rangeGrammar_38 ⟨Nat.le_of_ble_eq_true rfl, Nat.le_of_ble_eq_true rfl⟩) hP hD hS hA (fun _ H locs hw hP hD hS => ?_)
    rw [hQQ, ← Option.some.inj hf]
    exact xk_vret (w1 := fun u : Unit => (wM h0 a cI cB cJ cZ q_12.2)) () hx hb hr hlocks hK hS dn_M_rangeGrammar_41 hP hD trivial (Nat.le_refl _) (Nat.le_refl _)
theorem mn_M_beginGrammar (N : Nat) (s : ms) (y : (Unit × ms)) (hf : fn_M_beginGrammar N s = some y) : gl y.2 = gl s := by
  unfold fn_M_beginGrammar at hf
  have hm : gl s = gl s := rfl
  obtain ⟨q_1, hc_2, hf⟩ := dc_b hf
  have hm := (mn_M_is N 61 s q_1 hc_2).trans hm
  by_cases h : q_1.1 = 0
  · have hf := (if_pos h).symm.trans hf
    exact (dc_e hf).trans hm
  · have hf := (if_neg h).symm.trans hf
    obtain ⟨q_4, hc_5, hf⟩ := dc_b hf
    have hm := (mn_M_take N 402 (upI q_1.2 8 (fun _ => ((q_1.2.1 8 0) + 1))) q_4 hc_5).trans hm
    exact (dc_e hf).trans hm
set_option maxHeartbeats 8000000 in
set_option maxRecDepth 100000 in
theorem ct_M_beginGrammar (l : Launch) (dC : Nat → ClassId) (dI : Nat → Nat → Nat) (cI cB cJ cZ cQ : ClassId) (N sz : Nat) (h0 : Nat) (a : Nat → Nat) (s : ms) (y : (Unit × ms)) (hf : fn_M_beginGrammar N s = some y) : Met l yn_M_beginGrammar (xw yn_M_beginGrammar bn_M_beginGrammar 1 none) ({ frames := 3, cells := 0, slots := 0, locals := 63 }) (dc_P (dC, dI) xcl (xt cI cB cJ cZ cQ) [.ref h0] sz (wM h0 a cI cB cJ cZ s)) (xk_Qv (dC, dI) xcl (xt cI cB cJ cZ cQ) (fun _ : Unit => True) (fun u : Unit => (wM h0 a cI cB cJ cZ y.2)) (va_A (wM h0 a cI cB cJ cZ s) sz)) 0 0 (va_A (wM h0 a cI cB cJ cZ s) sz) := by
  refine dc_of (QA := xk_Qv (dC, dI) xcl (xt cI cB cJ cZ cQ) (fun _ : Unit => True) (fun u : Unit => (wM h0 a cI cB cJ cZ y.2))) (by decide) (Nat.le_of_ble_eq_true rfl) ?_
  intro p e s0 m below meth c hx hb hml hown hg hr hlocks hin hP hK hN A hA hD hT ls hl
  have hown : s0.vm.findClass rn_M = some m.cls := hown
  obtain ⟨H, hH⟩ : ∃ z, z = s0.heap := ⟨_, rfl⟩
  rw [← hH] at hP
  have hS : va_S A s0.heap H [] := by rw [hH]; exact va_S.rf
  suffices kk : ∀ QQ : State → Prop, QQ = MQ below (xk_Qv (dC, dI) xcl (xt cI cB cJ cZ cQ) (fun _ : Unit => True) (fun u : Unit => (wM h0 a cI cB cJ cZ y.2)) A) [.ref h0].toArray s0 0 0 A → dcC p l e ({ frames := 3, cells := 0, slots := 0, locals := 63 }) s0 m [.ref h0].toArray below meth c QQ (dC, dI) A (wM h0 a cI cB cJ cZ s) 0 1 [(0, .ref h0)] [] by
    have k9 := kk _ rfl H [] ls hP hD hS hl
    rw [hH] at k9; exact k9
  clear hP hD hS hl hH H ls
  intro QQ hQQ
  intro H locs ls hP hD hS hl
  unfold fn_M_beginGrammar at hf
  refine lv_aload_n hx hb dn_M_beginGrammar_0 rfl (lv_at hl 0 rfl) ?_
  refine lv_bipush (v := 61) hx hb dn_M_beginGrammar_1 (by decide) ?_
  obtain ⟨q_1, hc_2, hf⟩ := dc_b hf
  refine dc_calli (dc_runV (ar := 1) (As := [.int 61]) (rest := []) (ci := 0) (q0 := 0) ⟨hx, hb, hml, hown, hg⟩ hK hN hT hS hA (ct_M_is l dC dI cI cB cJ cZ cQ N H.size h0 a 61 s q_1 hc_2) hP hD rfl rfl wn_9_194 wn_9_196 sn_M_is wn_1_13 wn_9_197 rfl rfl (by decide +kernel) ⟨Nat.le_of_ble_eq_true rfl, Nat.le_of_ble_eq_true rfl⟩ rfl hl.1 rfl (Nat.le_of_ble_eq_true rfl) dn_M_beginGrammar_3 ⟨Nat.le_of_ble_eq_true rfl, Nat.le_of_ble_eq_true rfl⟩) hP hD hS hA (fun r_3 _ H locs hw hP hD hS => ?_)
  have hw : r_3 = q_1.1 := hw
  subst hw
  refine lv_if_eq (tgt := 26) hx hb dn_M_beginGrammar_6 (by decide) (fun h => ?_) (fun h => ?_)
  · have hf := (if_pos h).symm.trans hf
    rw [hQQ, ← Option.some.inj hf]
    exact xk_vret (w1 := fun u : Unit => (wM h0 a cI cB cJ cZ q_1.2)) () hx hb hr hlocks hK hS dn_M_beginGrammar_26 hP hD trivial (Nat.le_refl _) (Nat.le_refl _)
  · have hf := (if_neg h).symm.trans hf
    refine lv_aload_n hx hb dn_M_beginGrammar_9 rfl (lv_at hl 0 rfl) ?_
    refine lv_dup hx hb dn_M_beginGrammar_10 rfl ?_
    refine va_get (D := (dC, dI)) (ci := 0) (v := .int ((q_1.2.1 8 0))) (C := rn_M) (T := fn_M) (N := 91) hx hb hg in_M hown hK hP 0 rfl rfl 8 (by decide) (hg _ wn_8_81) (fun _ h9 => h9) rfl dn_M_beginGrammar_11 ?_
    refine lv_iconst (v := 1) hx hb dn_M_beginGrammar_14 (by decide) ?_
    refine lv_iadd hx hb dn_M_beginGrammar_15 ?_
    refine va_put (D := (dC, dI)) (ci := 0) (v := .int (((q_1.2.1 8 0) + 1))) (ty := .int) (C := rn_M) (T := fn_M) (N := 91) hx hb hg in_M tn_M tk_M nn_M hown hK hP hD hS 0 rfl rfl 8 (by decide) (hg _ wn_8_81) (fun _ h9 => h9) rfl (tk_M 8 (by decide)) rfl rfl (Nat.le_of_ble_eq_true rfl) dn_M_beginGrammar_16 (fun H locs hP hD hS => ?_)
    have hP := wM_P_8 hP
    have hD := wM_D_8 hD
    refine lv_aload_n hx hb dn_M_beginGrammar_19 rfl (lv_at hl 0 rfl) ?_
    refine lv_sipush (v := 402) hx hb dn_M_beginGrammar_20 (by decide) ?_
    obtain ⟨q_4, hc_5, hf⟩ := dc_b hf
    refine dc_callv (dc_runV (ar := 1) (As := [.int 402]) (rest := []) (ci := 0) (q0 := 0) ⟨hx, hb, hml, hown, hg⟩ hK hN hT hS hA (ct_M_take l dC dI cI cB cJ cZ cQ N H.size h0 a 402 (upI q_1.2 8 (fun _ => ((q_1.2.1 8 0) + 1))) q_4 hc_5) hP hD rfl rfl wn_9_178 wn_9_180 sn_M_take wn_1_13 wn_9_181 rfl rfl (by decide +kernel) ⟨Nat.le_of_ble_eq_true rfl, Nat.le_of_ble_eq_true rfl⟩ rfl hl.1 rfl (Nat.le_of_ble_eq_true rfl) dn_M_beginGrammar_23 ⟨Nat.le_of_ble_eq_true rfl, Nat.le_of_ble_eq_true rfl⟩) hP hD hS hA (fun _ H locs hw hP hD hS => ?_)
    rw [hQQ, ← Option.some.inj hf]
    exact xk_vret (w1 := fun u : Unit => (wM h0 a cI cB cJ cZ q_4.2)) () hx hb hr hlocks hK hS dn_M_beginGrammar_26 hP hD trivial (Nat.le_refl _) (Nat.le_refl _)
theorem mn_M_portGrammar (N : Nat) (s : ms) (y : (Unit × ms)) (hf : fn_M_portGrammar N s = some y) : gl y.2 = gl s := by
  unfold fn_M_portGrammar at hf
  have hm : gl s = gl s := rfl
  obtain ⟨q_1, hc_2, hf⟩ := dc_b hf
  have hm := (mn_M_is N 302 s q_1 hc_2).trans hm
  by_cases h : q_1.1 = 0
  · have hf := (if_pos h).symm.trans hf
    obtain ⟨q_4, hc_5, hf⟩ := dc_b hf
    have hm := (mn_M_take N 303 q_1.2 q_4 hc_5).trans hm
    obtain ⟨q_6, hc_7, hf⟩ := dc_b hf
    have hm := (mn_M_is N 305 q_4.2 q_6 hc_7).trans hm
    by_cases h : q_6.1 = 0
    · have hf := (if_pos h).symm.trans hf
      obtain ⟨q_9, hc_10, hf⟩ := dc_b hf
      have hm := (mn_M_rangeGrammar N q_6.2 q_9 hc_10).trans hm
      obtain ⟨q_11, hc_12, hf⟩ := dc_b hf
      have hm := (mn_M_take N 400 q_9.2 q_11 hc_12).trans hm
      exact (dc_e hf).trans hm
    · have hf := (if_neg h).symm.trans hf
      obtain ⟨q_9, hc_10, hf⟩ := dc_b hf
      have hm := (mn_M_rangeGrammar N (upI q_6.2 8 (fun _ => ((q_6.2.1 8 0) + 1))) q_9 hc_10).trans hm
      obtain ⟨q_11, hc_12, hf⟩ := dc_b hf
      have hm := (mn_M_take N 400 q_9.2 q_11 hc_12).trans hm
      obtain ⟨q_13, hc_14, hf⟩ := dc_b hf
      have hm := (mn_M_beginGrammar N q_11.2 q_13 hc_14).trans hm
      exact (dc_e hf).trans hm
  · have hf := (if_neg h).symm.trans hf
    obtain ⟨q_4, hc_5, hf⟩ := dc_b hf
    have hm := (mn_M_rangeGrammar N (upI q_1.2 8 (fun _ => ((q_1.2.1 8 0) + 1))) q_4 hc_5).trans hm
    obtain ⟨q_6, hc_7, hf⟩ := dc_b hf
    have hm := (mn_M_take N 400 q_4.2 q_6 hc_7).trans hm
    exact (dc_e hf).trans hm
set_option maxHeartbeats 8000000 in
set_option maxRecDepth 100000 in
theorem ct_M_portGrammar (l : Launch) (dC : Nat → ClassId) (dI : Nat → Nat → Nat) (cI cB cJ cZ cQ : ClassId) (N sz : Nat) (h0 : Nat) (a : Nat → Nat) (s : ms) (y : (Unit × ms)) (hf : fn_M_portGrammar N s = some y) : Met l yn_M_portGrammar (xw yn_M_portGrammar bn_M_portGrammar 1 none) ({ frames := 5, cells := 0, slots := 0, locals := 104 }) (dc_P (dC, dI) xcl (xt cI cB cJ cZ cQ) [.ref h0] sz (wM h0 a cI cB cJ cZ s)) (xk_Qv (dC, dI) xcl (xt cI cB cJ cZ cQ) (fun _ : Unit => True) (fun u : Unit => (wM h0 a cI cB cJ cZ y.2)) (va_A (wM h0 a cI cB cJ cZ s) sz)) 0 0 (va_A (wM h0 a cI cB cJ cZ s) sz) := by
  refine dc_of (QA := xk_Qv (dC, dI) xcl (xt cI cB cJ cZ cQ) (fun _ : Unit => True) (fun u : Unit => (wM h0 a cI cB cJ cZ y.2))) (by decide) (Nat.le_of_ble_eq_true rfl) ?_
  intro p e s0 m below meth c hx hb hml hown hg hr hlocks hin hP hK hN A hA hD hT ls hl
  have hown : s0.vm.findClass rn_M = some m.cls := hown
  obtain ⟨H, hH⟩ : ∃ z, z = s0.heap := ⟨_, rfl⟩
  rw [← hH] at hP
  have hS : va_S A s0.heap H [] := by rw [hH]; exact va_S.rf
  suffices kk : ∀ QQ : State → Prop, QQ = MQ below (xk_Qv (dC, dI) xcl (xt cI cB cJ cZ cQ) (fun _ : Unit => True) (fun u : Unit => (wM h0 a cI cB cJ cZ y.2)) A) [.ref h0].toArray s0 0 0 A → dcC p l e ({ frames := 5, cells := 0, slots := 0, locals := 104 }) s0 m [.ref h0].toArray below meth c QQ (dC, dI) A (wM h0 a cI cB cJ cZ s) 0 1 [(0, .ref h0)] [] by
    have k9 := kk _ rfl H [] ls hP hD hS hl
    rw [hH] at k9; exact k9
  clear hP hD hS hl hH H ls
  intro QQ hQQ
  intro H locs ls hP hD hS hl
  unfold fn_M_portGrammar at hf
  refine lv_aload_n hx hb dn_M_portGrammar_0 rfl (lv_at hl 0 rfl) ?_
  refine lv_sipush (v := 302) hx hb dn_M_portGrammar_1 (by decide) ?_
  obtain ⟨q_1, hc_2, hf⟩ := dc_b hf
  refine dc_calli (dc_runV (ar := 1) (As := [.int 302]) (rest := []) (ci := 0) (q0 := 0) ⟨hx, hb, hml, hown, hg⟩ hK hN hT hS hA (ct_M_is l dC dI cI cB cJ cZ cQ N H.size h0 a 302 s q_1 hc_2) hP hD rfl rfl wn_9_194 wn_9_196 sn_M_is wn_1_13 wn_9_197 rfl rfl (by decide +kernel) ⟨Nat.le_of_ble_eq_true rfl, Nat.le_of_ble_eq_true rfl⟩ rfl hl.1 rfl (Nat.le_of_ble_eq_true rfl) dn_M_portGrammar_4 ⟨Nat.le_of_ble_eq_true rfl, Nat.le_of_ble_eq_true rfl⟩) hP hD hS hA (fun r_3 _ H locs hw hP hD hS => ?_)
  have hw : r_3 = q_1.1 := hw
  subst hw
  refine lv_if_eq (tgt := 34) hx hb dn_M_portGrammar_7 (by decide) (fun h => ?_) (fun h => ?_)
  · have hf := (if_pos h).symm.trans hf
    refine lv_aload_n hx hb dn_M_portGrammar_34 rfl (lv_at hl 0 rfl) ?_
    refine lv_sipush (v := 303) hx hb dn_M_portGrammar_35 (by decide) ?_
    obtain ⟨q_4, hc_5, hf⟩ := dc_b hf
    refine dc_callv (dc_runV (ar := 1) (As := [.int 303]) (rest := []) (ci := 0) (q0 := 0) ⟨hx, hb, hml, hown, hg⟩ hK hN hT hS hA (ct_M_take l dC dI cI cB cJ cZ cQ N H.size h0 a 303 q_1.2 q_4 hc_5) hP hD rfl rfl wn_9_178 wn_9_180 sn_M_take wn_1_13 wn_9_181 rfl rfl (by decide +kernel) ⟨Nat.le_of_ble_eq_true rfl, Nat.le_of_ble_eq_true rfl⟩ rfl hl.1 rfl (Nat.le_of_ble_eq_true rfl) dn_M_portGrammar_38 ⟨Nat.le_of_ble_eq_true rfl, Nat.le_of_ble_eq_true rfl⟩) hP hD hS hA (fun _ H locs hw hP hD hS => ?_)
    refine lv_aload_n hx hb dn_M_portGrammar_41 rfl (lv_at hl 0 rfl) ?_
    refine lv_sipush (v := 305) hx hb dn_M_portGrammar_42 (by decide) ?_
    obtain ⟨q_6, hc_7, hf⟩ := dc_b hf
    refine dc_calli (dc_runV (ar := 1) (As := [.int 305]) (rest := []) (ci := 0) (q0 := 0) ⟨hx, hb, hml, hown, hg⟩ hK hN hT hS hA (ct_M_is l dC dI cI cB cJ cZ cQ N H.size h0 a 305 q_4.2 q_6 hc_7) hP hD rfl rfl wn_9_194 wn_9_196 sn_M_is wn_1_13 wn_9_197 rfl rfl (by decide +kernel) ⟨Nat.le_of_ble_eq_true rfl, Nat.le_of_ble_eq_true rfl⟩ rfl hl.1 rfl (Nat.le_of_ble_eq_true rfl) dn_M_portGrammar_45 ⟨Nat.le_of_ble_eq_true rfl, Nat.le_of_ble_eq_true rfl⟩) hP hD hS hA (fun r_8 _ H locs hw hP hD hS => ?_)
    have hw : r_8 = q_6.1 := hw
    subst hw
    refine lv_if_eq (tgt := 79) hx hb dn_M_portGrammar_48 (by decide) (fun h => ?_) (fun h => ?_)
    · have hf := (if_pos h).symm.trans hf
      refine lv_aload_n hx hb dn_M_portGrammar_79 rfl (lv_at hl 0 rfl) ?_
      obtain ⟨q_9, hc_10, hf⟩ := dc_b hf
      refine dc_callv (dc_runV (ar := 0) (As := []) (rest := []) (ci := 0) (q0 := 0) ⟨hx, hb, hml, hown, hg⟩ hK hN hT hS hA (ct_M_rangeGrammar l dC dI cI cB cJ cZ cQ N H.size h0 a q_6.2 q_9 hc_10) hP hD rfl rfl wn_9_202 wn_9_204 sn_M_rangeGrammar wn_1_13 wn_9_205 rfl rfl (by decide +kernel) ⟨Nat.le_of_ble_eq_true rfl, Nat.le_of_ble_eq_true rfl⟩ rfl hl.1 rfl (Nat.le_of_ble_eq_true rfl) dn_M_portGrammar_80 ⟨Nat.le_of_ble_eq_true rfl, Nat.le_of_ble_eq_true rfl⟩) hP hD hS hA (fun _ H locs hw hP hD hS => ?_)
      refine lv_aload_n hx hb dn_M_portGrammar_83 rfl (lv_at hl 0 rfl) ?_
      refine lv_sipush (v := 400) hx hb dn_M_portGrammar_84 (by decide) ?_
      obtain ⟨q_11, hc_12, hf⟩ := dc_b hf
      refine dc_callv (dc_runV (ar := 1) (As := [.int 400]) (rest := []) (ci := 0) (q0 := 0) ⟨hx, hb, hml, hown, hg⟩ hK hN hT hS hA (ct_M_take l dC dI cI cB cJ cZ cQ N H.size h0 a 400 q_9.2 q_11 hc_12) hP hD rfl rfl wn_9_178 wn_9_180 sn_M_take wn_1_13 wn_9_181 rfl rfl (by decide +kernel) ⟨Nat.le_of_ble_eq_true rfl, Nat.le_of_ble_eq_true rfl⟩ rfl hl.1 rfl (Nat.le_of_ble_eq_true rfl) dn_M_portGrammar_87 ⟨Nat.le_of_ble_eq_true rfl, Nat.le_of_ble_eq_true rfl⟩) hP hD hS hA (fun _ H locs hw hP hD hS => ?_)
      rw [hQQ, ← Option.some.inj hf]
      exact xk_vret (w1 := fun u : Unit => (wM h0 a cI cB cJ cZ q_11.2)) () hx hb hr hlocks hK hS dn_M_portGrammar_90 hP hD trivial (Nat.le_refl _) (Nat.le_refl _)
    · have hf := (if_neg h).symm.trans hf
      refine lv_aload_n hx hb dn_M_portGrammar_51 rfl (lv_at hl 0 rfl) ?_
      refine lv_dup hx hb dn_M_portGrammar_52 rfl ?_
      refine va_get (D := (dC, dI)) (ci := 0) (v := .int ((q_6.2.1 8 0))) (C := rn_M) (T := fn_M) (N := 91) hx hb hg in_M hown hK hP 0 rfl rfl 8 (by decide) (hg _ wn_8_81) (fun _ h9 => h9) rfl dn_M_portGrammar_53 ?_
      refine lv_iconst (v := 1) hx hb dn_M_portGrammar_56 (by decide) ?_
      refine lv_iadd hx hb dn_M_portGrammar_57 ?_
      refine va_put (D := (dC, dI)) (ci := 0) (v := .int (((q_6.2.1 8 0) + 1))) (ty := .int) (C := rn_M) (T := fn_M) (N := 91) hx hb hg in_M tn_M tk_M nn_M hown hK hP hD hS 0 rfl rfl 8 (by decide) (hg _ wn_8_81) (fun _ h9 => h9) rfl (tk_M 8 (by decide)) rfl rfl (Nat.le_of_ble_eq_true rfl) dn_M_portGrammar_58 (fun H locs hP hD hS => ?_)
      have hP := wM_P_8 hP
      have hD := wM_D_8 hD
      refine lv_aload_n hx hb dn_M_portGrammar_61 rfl (lv_at hl 0 rfl) ?_
      obtain ⟨q_9, hc_10, hf⟩ := dc_b hf
      refine dc_callv (dc_runV (ar := 0) (As := []) (rest := []) (ci := 0) (q0 := 0) ⟨hx, hb, hml, hown, hg⟩ hK hN hT hS hA (ct_M_rangeGrammar l dC dI cI cB cJ cZ cQ N H.size h0 a (upI q_6.2 8 (fun _ => ((q_6.2.1 8 0) + 1))) q_9 hc_10) hP hD rfl rfl wn_9_202 wn_9_204 sn_M_rangeGrammar wn_1_13 wn_9_205 rfl rfl (by decide +kernel) ⟨Nat.le_of_ble_eq_true rfl, Nat.le_of_ble_eq_true rfl⟩ rfl hl.1 rfl (Nat.le_of_ble_eq_true rfl) dn_M_portGrammar_62 ⟨Nat.le_of_ble_eq_true rfl, Nat.le_of_ble_eq_true rfl⟩) hP hD hS hA (fun _ H locs hw hP hD hS => ?_)
      refine lv_aload_n hx hb dn_M_portGrammar_65 rfl (lv_at hl 0 rfl) ?_
      refine lv_sipush (v := 400) hx hb dn_M_portGrammar_66 (by decide) ?_
      obtain ⟨q_11, hc_12, hf⟩ := dc_b hf
      refine dc_callv (dc_runV (ar := 1) (As := [.int 400]) (rest := []) (ci := 0) (q0 := 0) ⟨hx, hb, hml, hown, hg⟩ hK hN hT hS hA (ct_M_take l dC dI cI cB cJ cZ cQ N H.size h0 a 400 q_9.2 q_11 hc_12) hP hD rfl rfl wn_9_178 wn_9_180 sn_M_take wn_1_13 wn_9_181 rfl rfl (by decide +kernel) ⟨Nat.le_of_ble_eq_true rfl, Nat.le_of_ble_eq_true rfl⟩ rfl hl.1 rfl (Nat.le_of_ble_eq_true rfl) dn_M_portGrammar_69 ⟨Nat.le_of_ble_eq_true rfl, Nat.le_of_ble_eq_true rfl⟩) hP hD hS hA (fun _ H locs hw hP hD hS => ?_)
      refine lv_aload_n hx hb dn_M_portGrammar_72 rfl (lv_at hl 0 rfl) ?_
      obtain ⟨q_13, hc_14, hf⟩ := dc_b hf
      refine dc_callv (dc_runV (ar := 0) (As := []) (rest := []) (ci := 0) (q0 := 0) ⟨hx, hb, hml, hown, hg⟩ hK hN hT hS hA (ct_M_beginGrammar l dC dI cI cB cJ cZ cQ N H.size h0 a q_11.2 q_13 hc_14) hP hD rfl rfl wn_9_210 wn_9_212 sn_M_beginGrammar wn_1_13 wn_9_213 rfl rfl (by decide +kernel) ⟨Nat.le_of_ble_eq_true rfl, Nat.le_of_ble_eq_true rfl⟩ rfl hl.1 rfl (Nat.le_of_ble_eq_true rfl) dn_M_portGrammar_73 ⟨Nat.le_of_ble_eq_true rfl, Nat.le_of_ble_eq_true rfl⟩) hP hD hS hA (fun _ H locs hw hP hD hS => ?_)
      refine lv_goto (tgt := 90) hx hb dn_M_portGrammar_76 (by decide) ?_
      rw [hQQ, ← Option.some.inj hf]
      exact xk_vret (w1 := fun u : Unit => (wM h0 a cI cB cJ cZ q_13.2)) () hx hb hr hlocks hK hS dn_M_portGrammar_90 hP hD trivial (Nat.le_refl _) (Nat.le_refl _)
  · have hf := (if_neg h).symm.trans hf
    refine lv_aload_n hx hb dn_M_portGrammar_10 rfl (lv_at hl 0 rfl) ?_
    refine lv_dup hx hb dn_M_portGrammar_11 rfl ?_
    refine va_get (D := (dC, dI)) (ci := 0) (v := .int ((q_1.2.1 8 0))) (C := rn_M) (T := fn_M) (N := 91) hx hb hg in_M hown hK hP 0 rfl rfl 8 (by decide) (hg _ wn_8_81) (fun _ h9 => h9) rfl dn_M_portGrammar_12 ?_
    refine lv_iconst (v := 1) hx hb dn_M_portGrammar_15 (by decide) ?_
    refine lv_iadd hx hb dn_M_portGrammar_16 ?_
    refine va_put (D := (dC, dI)) (ci := 0) (v := .int (((q_1.2.1 8 0) + 1))) (ty := .int) (C := rn_M) (T := fn_M) (N := 91) hx hb hg in_M tn_M tk_M nn_M hown hK hP hD hS 0 rfl rfl 8 (by decide) (hg _ wn_8_81) (fun _ h9 => h9) rfl (tk_M 8 (by decide)) rfl rfl (Nat.le_of_ble_eq_true rfl) dn_M_portGrammar_17 (fun H locs hP hD hS => ?_)
    have hP := wM_P_8 hP
    have hD := wM_D_8 hD
    refine lv_aload_n hx hb dn_M_portGrammar_20 rfl (lv_at hl 0 rfl) ?_
    obtain ⟨q_4, hc_5, hf⟩ := dc_b hf
    refine dc_callv (dc_runV (ar := 0) (As := []) (rest := []) (ci := 0) (q0 := 0) ⟨hx, hb, hml, hown, hg⟩ hK hN hT hS hA (ct_M_rangeGrammar l dC dI cI cB cJ cZ cQ N H.size h0 a (upI q_1.2 8 (fun _ => ((q_1.2.1 8 0) + 1))) q_4 hc_5) hP hD rfl rfl wn_9_202 wn_9_204 sn_M_rangeGrammar wn_1_13 wn_9_205 rfl rfl (by decide +kernel) ⟨Nat.le_of_ble_eq_true rfl, Nat.le_of_ble_eq_true rfl⟩ rfl hl.1 rfl (Nat.le_of_ble_eq_true rfl) dn_M_portGrammar_21 ⟨Nat.le_of_ble_eq_true rfl, Nat.le_of_ble_eq_true rfl⟩) hP hD hS hA (fun _ H locs hw hP hD hS => ?_)
    refine lv_aload_n hx hb dn_M_portGrammar_24 rfl (lv_at hl 0 rfl) ?_
    refine lv_sipush (v := 400) hx hb dn_M_portGrammar_25 (by decide) ?_
    obtain ⟨q_6, hc_7, hf⟩ := dc_b hf
    refine dc_callv (dc_runV (ar := 1) (As := [.int 400]) (rest := []) (ci := 0) (q0 := 0) ⟨hx, hb, hml, hown, hg⟩ hK hN hT hS hA (ct_M_take l dC dI cI cB cJ cZ cQ N H.size h0 a 400 q_4.2 q_6 hc_7) hP hD rfl rfl wn_9_178 wn_9_180 sn_M_take wn_1_13 wn_9_181 rfl rfl (by decide +kernel) ⟨Nat.le_of_ble_eq_true rfl, Nat.le_of_ble_eq_true rfl⟩ rfl hl.1 rfl (Nat.le_of_ble_eq_true rfl) dn_M_portGrammar_28 ⟨Nat.le_of_ble_eq_true rfl, Nat.le_of_ble_eq_true rfl⟩) hP hD hS hA (fun _ H locs hw hP hD hS => ?_)
    refine lv_goto (tgt := 90) hx hb dn_M_portGrammar_31 (by decide) ?_
    rw [hQQ, ← Option.some.inj hf]
    exact xk_vret (w1 := fun u : Unit => (wM h0 a cI cB cJ cZ q_6.2)) () hx hb hr hlocks hK hS dn_M_portGrammar_90 hP hD trivial (Nat.le_refl _) (Nat.le_refl _)
theorem mn_M_kind (N : Nat) (s : ms) (y : (Int32 × ms)) (hf : fn_M_kind N s = some y) : gl y.2 = gl s := by
  unfold fn_M_kind at hf
  have hm : gl s = gl s := rfl
  obtain ⟨_, hf⟩ := dc_g hf
  exact (dc_e hf).trans hm
set_option maxHeartbeats 8000000 in
set_option maxRecDepth 100000 in
theorem ct_M_kind (l : Launch) (dC : Nat → ClassId) (dI : Nat → Nat → Nat) (cI cB cJ cZ cQ : ClassId) (N sz : Nat) (h0 : Nat) (a : Nat → Nat) (s : ms) (y : (Int32 × ms)) (hf : fn_M_kind N s = some y) : Met l yn_M_kind (xw yn_M_kind bn_M_kind 1 (some .int)) ({ frames := 0, cells := 0, slots := 0, locals := 0 }) (dc_P (dC, dI) xcl (xt cI cB cJ cZ cQ) [.ref h0] sz (wM h0 a cI cB cJ cZ s)) (xk_Qi (dC, dI) xcl (xt cI cB cJ cZ cQ) (fun (r : Int32) (_ : Unit) => r = y.1) (fun u : Unit => (wM h0 a cI cB cJ cZ y.2)) (va_A (wM h0 a cI cB cJ cZ s) sz)) 0 0 (va_A (wM h0 a cI cB cJ cZ s) sz) := by
  refine dc_of (QA := xk_Qi (dC, dI) xcl (xt cI cB cJ cZ cQ) (fun (r : Int32) (_ : Unit) => r = y.1) (fun u : Unit => (wM h0 a cI cB cJ cZ y.2))) (by decide) (Nat.le_of_ble_eq_true rfl) ?_
  intro p e s0 m below meth c hx hb hml hown hg hr hlocks hin hP hK hN A hA hD hT ls hl
  have hown : s0.vm.findClass rn_M = some m.cls := hown
  obtain ⟨H, hH⟩ : ∃ z, z = s0.heap := ⟨_, rfl⟩
  rw [← hH] at hP
  have hS : va_S A s0.heap H [] := by rw [hH]; exact va_S.rf
  suffices kk : ∀ QQ : State → Prop, QQ = MQ below (xk_Qi (dC, dI) xcl (xt cI cB cJ cZ cQ) (fun (r : Int32) (_ : Unit) => r = y.1) (fun u : Unit => (wM h0 a cI cB cJ cZ y.2)) A) [.ref h0].toArray s0 0 0 A → dcC p l e ({ frames := 0, cells := 0, slots := 0, locals := 0 }) s0 m [.ref h0].toArray below meth c QQ (dC, dI) A (wM h0 a cI cB cJ cZ s) 0 1 [(0, .ref h0)] [] by
    have k9 := kk _ rfl H [] ls hP hD hS hl
    rw [hH] at k9; exact k9
  clear hP hD hS hl hH H ls
  intro QQ hQQ
  intro H locs ls hP hD hS hl
  unfold fn_M_kind at hf
  refine lv_aload_n hx hb dn_M_kind_0 rfl (lv_at hl 0 rfl) ?_
  refine va_get (D := (dC, dI)) (ci := 0) (v := .ref ((a 4))) (C := rn_M) (T := fn_M) (N := 91) hx hb hg in_M hown hK hP 0 rfl rfl 4 (by decide) (hg _ wn_8_77) (fun _ h9 => h9) rfl dn_M_kind_1 ?_
  refine lv_aload_n hx hb dn_M_kind_4 rfl (lv_at hl 0 rfl) ?_
  refine va_get (D := (dC, dI)) (ci := 0) (v := .int ((s.1 8 0))) (C := rn_M) (T := fn_M) (N := 91) hx hb hg in_M hown hK hP 0 rfl rfl 8 (by decide) (hg _ wn_8_81) (fun _ h9 => h9) rfl dn_M_kind_5 ?_
  obtain ⟨hg_1, hf⟩ := dc_g hf
  refine va_iald hx hb hK hP 2 0 rfl rfl hg_1 dn_M_kind_8 ?_
  refine xk_ti (y := ((s.1 4) (Int32.toNatClampNeg ((s.1 8 0))))) rfl ?_
  rw [hQQ, ← Option.some.inj hf]
  exact xk_iret (w1 := fun u : Unit => (wM h0 a cI cB cJ cZ s)) () hx hb hr hlocks hK hS dn_M_kind_9 hP hD rfl (Nat.le_refl _) (Nat.le_refl _)
theorem mn_M_rank (N : Nat) (v0 : Int32) (s : ms) (y : (Int32 × ms)) (hf : fn_M_rank N v0 s = some y) : gl y.2 = gl s := by
  unfold fn_M_rank at hf
  have hm : gl s = gl s := rfl
  by_cases h_0 : v0 = 38
  · have hf := (if_pos h_0).symm.trans hf
    exact (dc_e hf).trans hm
  have hf := (if_neg h_0).symm.trans hf
  by_cases h_1 : v0 = 42
  · have hf := (if_pos h_1).symm.trans hf
    exact (dc_e hf).trans hm
  have hf := (if_neg h_1).symm.trans hf
  by_cases h_2 : v0 = 43
  · have hf := (if_pos h_2).symm.trans hf
    exact (dc_e hf).trans hm
  have hf := (if_neg h_2).symm.trans hf
  by_cases h_3 : v0 = 45
  · have hf := (if_pos h_3).symm.trans hf
    exact (dc_e hf).trans hm
  have hf := (if_neg h_3).symm.trans hf
  by_cases h_4 : v0 = 60
  · have hf := (if_pos h_4).symm.trans hf
    exact (dc_e hf).trans hm
  have hf := (if_neg h_4).symm.trans hf
  by_cases h_5 : v0 = 62
  · have hf := (if_pos h_5).symm.trans hf
    exact (dc_e hf).trans hm
  have hf := (if_neg h_5).symm.trans hf
  by_cases h_6 : v0 = 94
  · have hf := (if_pos h_6).symm.trans hf
    exact (dc_e hf).trans hm
  have hf := (if_neg h_6).symm.trans hf
  by_cases h_7 : v0 = 124
  · have hf := (if_pos h_7).symm.trans hf
    exact (dc_e hf).trans hm
  have hf := (if_neg h_7).symm.trans hf
  by_cases h_8 : v0 = 256
  · have hf := (if_pos h_8).symm.trans hf
    exact (dc_e hf).trans hm
  have hf := (if_neg h_8).symm.trans hf
  by_cases h_9 : v0 = 257
  · have hf := (if_pos h_9).symm.trans hf
    exact (dc_e hf).trans hm
  have hf := (if_neg h_9).symm.trans hf
  by_cases h_10 : v0 = 258
  · have hf := (if_pos h_10).symm.trans hf
    exact (dc_e hf).trans hm
  have hf := (if_neg h_10).symm.trans hf
  by_cases h_11 : v0 = 259
  · have hf := (if_pos h_11).symm.trans hf
    exact (dc_e hf).trans hm
  have hf := (if_neg h_11).symm.trans hf
  by_cases h_12 : v0 = 260
  · have hf := (if_pos h_12).symm.trans hf
    exact (dc_e hf).trans hm
  have hf := (if_neg h_12).symm.trans hf
  by_cases h_13 : v0 = 261
  · have hf := (if_pos h_13).symm.trans hf
    exact (dc_e hf).trans hm
  have hf := (if_neg h_13).symm.trans hf
  by_cases h_14 : v0 = 262
  · have hf := (if_pos h_14).symm.trans hf
    exact (dc_e hf).trans hm
  have hf := (if_neg h_14).symm.trans hf
  by_cases h_15 : v0 = 263
  · have hf := (if_pos h_15).symm.trans hf
    exact (dc_e hf).trans hm
  have hf := (if_neg h_15).symm.trans hf
  exact (dc_e hf).trans hm
set_option maxHeartbeats 8000000 in
set_option maxRecDepth 100000 in
theorem ct_M_rank (l : Launch) (dC : Nat → ClassId) (dI : Nat → Nat → Nat) (cI cB cJ cZ cQ : ClassId) (N sz : Nat) (h0 : Nat) (a : Nat → Nat) (v0 : Int32) (s : ms) (y : (Int32 × ms)) (hf : fn_M_rank N v0 s = some y) : Met l yn_M_rank (xw yn_M_rank bn_M_rank 1 (some .int)) ({ frames := 0, cells := 0, slots := 0, locals := 0 }) (dc_P (dC, dI) xcl (xt cI cB cJ cZ cQ) [.int v0] sz (wM h0 a cI cB cJ cZ s)) (xk_Qi (dC, dI) xcl (xt cI cB cJ cZ cQ) (fun (r : Int32) (_ : Unit) => r = y.1) (fun u : Unit => (wM h0 a cI cB cJ cZ y.2)) (va_A (wM h0 a cI cB cJ cZ s) sz)) 0 0 (va_A (wM h0 a cI cB cJ cZ s) sz) := by
  refine dc_of (QA := xk_Qi (dC, dI) xcl (xt cI cB cJ cZ cQ) (fun (r : Int32) (_ : Unit) => r = y.1) (fun u : Unit => (wM h0 a cI cB cJ cZ y.2))) (by decide) (Nat.le_of_ble_eq_true rfl) ?_
  intro p e s0 m below meth c hx hb hml hown hg hr hlocks hin hP hK hN A hA hD hT ls hl
  have hown : s0.vm.findClass rn_M = some m.cls := hown
  obtain ⟨H, hH⟩ : ∃ z, z = s0.heap := ⟨_, rfl⟩
  rw [← hH] at hP
  have hS : va_S A s0.heap H [] := by rw [hH]; exact va_S.rf
  suffices kk : ∀ QQ : State → Prop, QQ = MQ below (xk_Qi (dC, dI) xcl (xt cI cB cJ cZ cQ) (fun (r : Int32) (_ : Unit) => r = y.1) (fun u : Unit => (wM h0 a cI cB cJ cZ y.2)) A) [.int v0].toArray s0 0 0 A → dcC p l e ({ frames := 0, cells := 0, slots := 0, locals := 0 }) s0 m [.int v0].toArray below meth c QQ (dC, dI) A (wM h0 a cI cB cJ cZ s) 0 1 [(0, .int v0)] [] by
    have k9 := kk _ rfl H [] ls hP hD hS hl
    rw [hH] at k9; exact k9
  clear hP hD hS hl hH H ls
  intro QQ hQQ
  intro H locs ls hP hD hS hl
  unfold fn_M_rank at hf
  refine lv_iload_n hx hb dn_M_rank_0 rfl (lv_at hl 0 rfl) ?_
  by_cases h_0 : v0 = 38
  · have hf := (if_pos h_0).symm.trans hf
    refine xk_ti (y := 38) h_0 ?_
    refine lv_lookup (off := 147) (tgt := 148) hx hb dn_M_rank_1 (by decide) (by decide) (by decide) ?_
    refine lv_iconst (v := 5) hx hb dn_M_rank_148 (by decide) ?_
    rw [hQQ, ← Option.some.inj hf]
    exact xk_iret (w1 := fun u : Unit => (wM h0 a cI cB cJ cZ s)) () hx hb hr hlocks hK hS dn_M_rank_149 hP hD rfl (Nat.le_refl _) (Nat.le_refl _)
  have hf := (if_neg h_0).symm.trans hf
  by_cases h_1 : v0 = 42
  · have hf := (if_pos h_1).symm.trans hf
    refine xk_ti (y := 42) h_1 ?_
    refine lv_lookup (off := 161) (tgt := 162) hx hb dn_M_rank_1 (by decide) (by decide) (by decide) ?_
    refine lv_bipush (v := 10) hx hb dn_M_rank_162 (by decide) ?_
    rw [hQQ, ← Option.some.inj hf]
    exact xk_iret (w1 := fun u : Unit => (wM h0 a cI cB cJ cZ s)) () hx hb hr hlocks hK hS dn_M_rank_164 hP hD rfl (Nat.le_refl _) (Nat.le_refl _)
  have hf := (if_neg h_1).symm.trans hf
  by_cases h_2 : v0 = 43
  · have hf := (if_pos h_2).symm.trans hf
    refine xk_ti (y := 43) h_2 ?_
    refine lv_lookup (off := 158) (tgt := 159) hx hb dn_M_rank_1 (by decide) (by decide) (by decide) ?_
    refine lv_bipush (v := 9) hx hb dn_M_rank_159 (by decide) ?_
    rw [hQQ, ← Option.some.inj hf]
    exact xk_iret (w1 := fun u : Unit => (wM h0 a cI cB cJ cZ s)) () hx hb hr hlocks hK hS dn_M_rank_161 hP hD rfl (Nat.le_refl _) (Nat.le_refl _)
  have hf := (if_neg h_2).symm.trans hf
  by_cases h_3 : v0 = 45
  · have hf := (if_pos h_3).symm.trans hf
    refine xk_ti (y := 45) h_3 ?_
    refine lv_lookup (off := 158) (tgt := 159) hx hb dn_M_rank_1 (by decide) (by decide) (by decide) ?_
    refine lv_bipush (v := 9) hx hb dn_M_rank_159 (by decide) ?_
    rw [hQQ, ← Option.some.inj hf]
    exact xk_iret (w1 := fun u : Unit => (wM h0 a cI cB cJ cZ s)) () hx hb hr hlocks hK hS dn_M_rank_161 hP hD rfl (Nat.le_refl _) (Nat.le_refl _)
  have hf := (if_neg h_3).symm.trans hf
  by_cases h_4 : v0 = 60
  · have hf := (if_pos h_4).symm.trans hf
    refine xk_ti (y := 60) h_4 ?_
    refine lv_lookup (off := 152) (tgt := 153) hx hb dn_M_rank_1 (by decide) (by decide) (by decide) ?_
    refine lv_bipush (v := 7) hx hb dn_M_rank_153 (by decide) ?_
    rw [hQQ, ← Option.some.inj hf]
    exact xk_iret (w1 := fun u : Unit => (wM h0 a cI cB cJ cZ s)) () hx hb hr hlocks hK hS dn_M_rank_155 hP hD rfl (Nat.le_refl _) (Nat.le_refl _)
  have hf := (if_neg h_4).symm.trans hf
  by_cases h_5 : v0 = 62
  · have hf := (if_pos h_5).symm.trans hf
    refine xk_ti (y := 62) h_5 ?_
    refine lv_lookup (off := 152) (tgt := 153) hx hb dn_M_rank_1 (by decide) (by decide) (by decide) ?_
    refine lv_bipush (v := 7) hx hb dn_M_rank_153 (by decide) ?_
    rw [hQQ, ← Option.some.inj hf]
    exact xk_iret (w1 := fun u : Unit => (wM h0 a cI cB cJ cZ s)) () hx hb hr hlocks hK hS dn_M_rank_155 hP hD rfl (Nat.le_refl _) (Nat.le_refl _)
  have hf := (if_neg h_5).symm.trans hf
  by_cases h_6 : v0 = 94
  · have hf := (if_pos h_6).symm.trans hf
    refine xk_ti (y := 94) h_6 ?_
    refine lv_lookup (off := 145) (tgt := 146) hx hb dn_M_rank_1 (by decide) (by decide) (by decide) ?_
    refine lv_iconst (v := 4) hx hb dn_M_rank_146 (by decide) ?_
    rw [hQQ, ← Option.some.inj hf]
    exact xk_iret (w1 := fun u : Unit => (wM h0 a cI cB cJ cZ s)) () hx hb hr hlocks hK hS dn_M_rank_147 hP hD rfl (Nat.le_refl _) (Nat.le_refl _)
  have hf := (if_neg h_6).symm.trans hf
  by_cases h_7 : v0 = 124
  · have hf := (if_pos h_7).symm.trans hf
    refine xk_ti (y := 124) h_7 ?_
    refine lv_lookup (off := 143) (tgt := 144) hx hb dn_M_rank_1 (by decide) (by decide) (by decide) ?_
    refine lv_iconst (v := 3) hx hb dn_M_rank_144 (by decide) ?_
    rw [hQQ, ← Option.some.inj hf]
    exact xk_iret (w1 := fun u : Unit => (wM h0 a cI cB cJ cZ s)) () hx hb hr hlocks hK hS dn_M_rank_145 hP hD rfl (Nat.le_refl _) (Nat.le_refl _)
  have hf := (if_neg h_7).symm.trans hf
  by_cases h_8 : v0 = 256
  · have hf := (if_pos h_8).symm.trans hf
    refine xk_ti (y := 256) h_8 ?_
    refine lv_lookup (off := 141) (tgt := 142) hx hb dn_M_rank_1 (by decide) (by decide) (by decide) ?_
    refine lv_iconst (v := 2) hx hb dn_M_rank_142 (by decide) ?_
    rw [hQQ, ← Option.some.inj hf]
    exact xk_iret (w1 := fun u : Unit => (wM h0 a cI cB cJ cZ s)) () hx hb hr hlocks hK hS dn_M_rank_143 hP hD rfl (Nat.le_refl _) (Nat.le_refl _)
  have hf := (if_neg h_8).symm.trans hf
  by_cases h_9 : v0 = 257
  · have hf := (if_pos h_9).symm.trans hf
    refine xk_ti (y := 257) h_9 ?_
    refine lv_lookup (off := 139) (tgt := 140) hx hb dn_M_rank_1 (by decide) (by decide) (by decide) ?_
    refine lv_iconst (v := 1) hx hb dn_M_rank_140 (by decide) ?_
    rw [hQQ, ← Option.some.inj hf]
    exact xk_iret (w1 := fun u : Unit => (wM h0 a cI cB cJ cZ s)) () hx hb hr hlocks hK hS dn_M_rank_141 hP hD rfl (Nat.le_refl _) (Nat.le_refl _)
  have hf := (if_neg h_9).symm.trans hf
  by_cases h_10 : v0 = 258
  · have hf := (if_pos h_10).symm.trans hf
    refine xk_ti (y := 258) h_10 ?_
    refine lv_lookup (off := 149) (tgt := 150) hx hb dn_M_rank_1 (by decide) (by decide) (by decide) ?_
    refine lv_bipush (v := 6) hx hb dn_M_rank_150 (by decide) ?_
    rw [hQQ, ← Option.some.inj hf]
    exact xk_iret (w1 := fun u : Unit => (wM h0 a cI cB cJ cZ s)) () hx hb hr hlocks hK hS dn_M_rank_152 hP hD rfl (Nat.le_refl _) (Nat.le_refl _)
  have hf := (if_neg h_10).symm.trans hf
  by_cases h_11 : v0 = 259
  · have hf := (if_pos h_11).symm.trans hf
    refine xk_ti (y := 259) h_11 ?_
    refine lv_lookup (off := 149) (tgt := 150) hx hb dn_M_rank_1 (by decide) (by decide) (by decide) ?_
    refine lv_bipush (v := 6) hx hb dn_M_rank_150 (by decide) ?_
    rw [hQQ, ← Option.some.inj hf]
    exact xk_iret (w1 := fun u : Unit => (wM h0 a cI cB cJ cZ s)) () hx hb hr hlocks hK hS dn_M_rank_152 hP hD rfl (Nat.le_refl _) (Nat.le_refl _)
  have hf := (if_neg h_11).symm.trans hf
  by_cases h_12 : v0 = 260
  · have hf := (if_pos h_12).symm.trans hf
    refine xk_ti (y := 260) h_12 ?_
    refine lv_lookup (off := 152) (tgt := 153) hx hb dn_M_rank_1 (by decide) (by decide) (by decide) ?_
    refine lv_bipush (v := 7) hx hb dn_M_rank_153 (by decide) ?_
    rw [hQQ, ← Option.some.inj hf]
    exact xk_iret (w1 := fun u : Unit => (wM h0 a cI cB cJ cZ s)) () hx hb hr hlocks hK hS dn_M_rank_155 hP hD rfl (Nat.le_refl _) (Nat.le_refl _)
  have hf := (if_neg h_12).symm.trans hf
  by_cases h_13 : v0 = 261
  · have hf := (if_pos h_13).symm.trans hf
    refine xk_ti (y := 261) h_13 ?_
    refine lv_lookup (off := 152) (tgt := 153) hx hb dn_M_rank_1 (by decide) (by decide) (by decide) ?_
    refine lv_bipush (v := 7) hx hb dn_M_rank_153 (by decide) ?_
    rw [hQQ, ← Option.some.inj hf]
    exact xk_iret (w1 := fun u : Unit => (wM h0 a cI cB cJ cZ s)) () hx hb hr hlocks hK hS dn_M_rank_155 hP hD rfl (Nat.le_refl _) (Nat.le_refl _)
  have hf := (if_neg h_13).symm.trans hf
  by_cases h_14 : v0 = 262
  · have hf := (if_pos h_14).symm.trans hf
    refine xk_ti (y := 262) h_14 ?_
    refine lv_lookup (off := 155) (tgt := 156) hx hb dn_M_rank_1 (by decide) (by decide) (by decide) ?_
    refine lv_bipush (v := 8) hx hb dn_M_rank_156 (by decide) ?_
    rw [hQQ, ← Option.some.inj hf]
    exact xk_iret (w1 := fun u : Unit => (wM h0 a cI cB cJ cZ s)) () hx hb hr hlocks hK hS dn_M_rank_158 hP hD rfl (Nat.le_refl _) (Nat.le_refl _)
  have hf := (if_neg h_14).symm.trans hf
  by_cases h_15 : v0 = 263
  · have hf := (if_pos h_15).symm.trans hf
    refine xk_ti (y := 263) h_15 ?_
    refine lv_lookup (off := 155) (tgt := 156) hx hb dn_M_rank_1 (by decide) (by decide) (by decide) ?_
    refine lv_bipush (v := 8) hx hb dn_M_rank_156 (by decide) ?_
    rw [hQQ, ← Option.some.inj hf]
    exact xk_iret (w1 := fun u : Unit => (wM h0 a cI cB cJ cZ s)) () hx hb hr hlocks hK hS dn_M_rank_158 hP hD rfl (Nat.le_refl _) (Nat.le_refl _)
  have hf := (if_neg h_15).symm.trans hf
  refine lv_lookup (off := 164) (tgt := 165) hx hb dn_M_rank_1 (by decide) (by rw [lv_osw h_0 (by decide)]; rw [lv_osw h_1 (by decide)]; rw [lv_osw h_2 (by decide)]; rw [lv_osw h_3 (by decide)]; rw [lv_osw h_4 (by decide)]; rw [lv_osw h_5 (by decide)]; rw [lv_osw h_6 (by decide)]; rw [lv_osw h_7 (by decide)]; rw [lv_osw h_8 (by decide)]; rw [lv_osw h_9 (by decide)]; rw [lv_osw h_10 (by decide)]; rw [lv_osw h_11 (by decide)]; rw [lv_osw h_12 (by decide)]; rw [lv_osw h_13 (by decide)]; rw [lv_osw h_14 (by decide)]; rw [lv_osw h_15 (by decide)]; rfl) (by decide) ?_
  refine lv_iconst (v := 0) hx hb dn_M_rank_165 (by decide) ?_
  rw [hQQ, ← Option.some.inj hf]
  exact xk_iret (w1 := fun u : Unit => (wM h0 a cI cB cJ cZ s)) () hx hb hr hlocks hK hS dn_M_rank_166 hP hD rfl (Nat.le_refl _) (Nat.le_refl _)
theorem mn_M_isUnary (N : Nat) (v0 : Int32) (s : ms) (y : (Int32 × ms)) (hf : fn_M_isUnary N v0 s = some y) : gl y.2 = gl s := by
  unfold fn_M_isUnary at hf
  have hm : gl s = gl s := rfl
  by_cases h : v0 = 126
  · have hf := (if_pos h).symm.trans hf
    exact (dc_e hf).trans hm
  · have hf := (if_neg h).symm.trans hf
    by_cases h : v0 = 33
    · have hf := (if_pos h).symm.trans hf
      exact (dc_e hf).trans hm
    · have hf := (if_neg h).symm.trans hf
      by_cases h : v0 = 45
      · have hf := (if_pos h).symm.trans hf
        exact (dc_e hf).trans hm
      · have hf := (if_neg h).symm.trans hf
        by_cases h : v0 = 38
        · have hf := (if_pos h).symm.trans hf
          exact (dc_e hf).trans hm
        · have hf := (if_neg h).symm.trans hf
          by_cases h : v0 = 124
          · have hf := (if_pos h).symm.trans hf
            exact (dc_e hf).trans hm
          · have hf := (if_neg h).symm.trans hf
            by_cases h : v0 = 94
            · have hf := (if_pos h).symm.trans hf
              exact (dc_e hf).trans hm
            · have hf := (if_neg h).symm.trans hf
              exact (dc_e hf).trans hm
set_option maxHeartbeats 8000000 in
set_option maxRecDepth 100000 in
theorem ct_M_isUnary (l : Launch) (dC : Nat → ClassId) (dI : Nat → Nat → Nat) (cI cB cJ cZ cQ : ClassId) (N sz : Nat) (h0 : Nat) (a : Nat → Nat) (v0 : Int32) (s : ms) (y : (Int32 × ms)) (hf : fn_M_isUnary N v0 s = some y) : Met l yn_M_isUnary (xw yn_M_isUnary bn_M_isUnary 1 (some .boolean)) ({ frames := 0, cells := 0, slots := 0, locals := 0 }) (dc_P (dC, dI) xcl (xt cI cB cJ cZ cQ) [.int v0] sz (wM h0 a cI cB cJ cZ s)) (xk_Qi (dC, dI) xcl (xt cI cB cJ cZ cQ) (fun (r : Int32) (_ : Unit) => r = y.1) (fun u : Unit => (wM h0 a cI cB cJ cZ y.2)) (va_A (wM h0 a cI cB cJ cZ s) sz)) 0 0 (va_A (wM h0 a cI cB cJ cZ s) sz) := by
  refine dc_of (QA := xk_Qi (dC, dI) xcl (xt cI cB cJ cZ cQ) (fun (r : Int32) (_ : Unit) => r = y.1) (fun u : Unit => (wM h0 a cI cB cJ cZ y.2))) (by decide) (Nat.le_of_ble_eq_true rfl) ?_
  intro p e s0 m below meth c hx hb hml hown hg hr hlocks hin hP hK hN A hA hD hT ls hl
  have hown : s0.vm.findClass rn_M = some m.cls := hown
  obtain ⟨H, hH⟩ : ∃ z, z = s0.heap := ⟨_, rfl⟩
  rw [← hH] at hP
  have hS : va_S A s0.heap H [] := by rw [hH]; exact va_S.rf
  suffices kk : ∀ QQ : State → Prop, QQ = MQ below (xk_Qi (dC, dI) xcl (xt cI cB cJ cZ cQ) (fun (r : Int32) (_ : Unit) => r = y.1) (fun u : Unit => (wM h0 a cI cB cJ cZ y.2)) A) [.int v0].toArray s0 0 0 A → dcC p l e ({ frames := 0, cells := 0, slots := 0, locals := 0 }) s0 m [.int v0].toArray below meth c QQ (dC, dI) A (wM h0 a cI cB cJ cZ s) 0 1 [(0, .int v0)] [] by
    have k9 := kk _ rfl H [] ls hP hD hS hl
    rw [hH] at k9; exact k9
  clear hP hD hS hl hH H ls
  intro QQ hQQ
  intro H locs ls hP hD hS hl
  unfold fn_M_isUnary at hf
  refine lv_iload_n hx hb dn_M_isUnary_0 rfl (lv_at hl 0 rfl) ?_
  refine lv_bipush (v := 126) hx hb dn_M_isUnary_1 (by decide) ?_
  refine lv_icmp_eq (tgt := 36) hx hb dn_M_isUnary_3 (by decide) (fun h => ?_) (fun h => ?_)
  · have hf := (if_pos h).symm.trans hf
    refine lv_iconst (v := 1) hx hb dn_M_isUnary_36 (by decide) ?_
    refine lv_goto (tgt := 41) hx hb dn_M_isUnary_37 (by decide) ?_
    rw [hQQ, ← Option.some.inj hf]
    exact xk_zret (w1 := fun u : Unit => (wM h0 a cI cB cJ cZ s)) () hx hb hr rfl hlocks hK hS dn_M_isUnary_41 hP hD rfl (Nat.le_refl _) (Nat.le_refl _)
  · have hf := (if_neg h).symm.trans hf
    refine lv_iload_n hx hb dn_M_isUnary_6 rfl (lv_at hl 0 rfl) ?_
    refine lv_bipush (v := 33) hx hb dn_M_isUnary_7 (by decide) ?_
    refine lv_icmp_eq (tgt := 36) hx hb dn_M_isUnary_9 (by decide) (fun h => ?_) (fun h => ?_)
    · have hf := (if_pos h).symm.trans hf
      refine lv_iconst (v := 1) hx hb dn_M_isUnary_36 (by decide) ?_
      refine lv_goto (tgt := 41) hx hb dn_M_isUnary_37 (by decide) ?_
      rw [hQQ, ← Option.some.inj hf]
      exact xk_zret (w1 := fun u : Unit => (wM h0 a cI cB cJ cZ s)) () hx hb hr rfl hlocks hK hS dn_M_isUnary_41 hP hD rfl (Nat.le_refl _) (Nat.le_refl _)
    · have hf := (if_neg h).symm.trans hf
      refine lv_iload_n hx hb dn_M_isUnary_12 rfl (lv_at hl 0 rfl) ?_
      refine lv_bipush (v := 45) hx hb dn_M_isUnary_13 (by decide) ?_
      refine lv_icmp_eq (tgt := 36) hx hb dn_M_isUnary_15 (by decide) (fun h => ?_) (fun h => ?_)
      · have hf := (if_pos h).symm.trans hf
        refine lv_iconst (v := 1) hx hb dn_M_isUnary_36 (by decide) ?_
        refine lv_goto (tgt := 41) hx hb dn_M_isUnary_37 (by decide) ?_
        rw [hQQ, ← Option.some.inj hf]
        exact xk_zret (w1 := fun u : Unit => (wM h0 a cI cB cJ cZ s)) () hx hb hr rfl hlocks hK hS dn_M_isUnary_41 hP hD rfl (Nat.le_refl _) (Nat.le_refl _)
      · have hf := (if_neg h).symm.trans hf
        refine lv_iload_n hx hb dn_M_isUnary_18 rfl (lv_at hl 0 rfl) ?_
        refine lv_bipush (v := 38) hx hb dn_M_isUnary_19 (by decide) ?_
        refine lv_icmp_eq (tgt := 36) hx hb dn_M_isUnary_21 (by decide) (fun h => ?_) (fun h => ?_)
        · have hf := (if_pos h).symm.trans hf
          refine lv_iconst (v := 1) hx hb dn_M_isUnary_36 (by decide) ?_
          refine lv_goto (tgt := 41) hx hb dn_M_isUnary_37 (by decide) ?_
          rw [hQQ, ← Option.some.inj hf]
          exact xk_zret (w1 := fun u : Unit => (wM h0 a cI cB cJ cZ s)) () hx hb hr rfl hlocks hK hS dn_M_isUnary_41 hP hD rfl (Nat.le_refl _) (Nat.le_refl _)
        · have hf := (if_neg h).symm.trans hf
          refine lv_iload_n hx hb dn_M_isUnary_24 rfl (lv_at hl 0 rfl) ?_
          refine lv_bipush (v := 124) hx hb dn_M_isUnary_25 (by decide) ?_
          refine lv_icmp_eq (tgt := 36) hx hb dn_M_isUnary_27 (by decide) (fun h => ?_) (fun h => ?_)
          · have hf := (if_pos h).symm.trans hf
            refine lv_iconst (v := 1) hx hb dn_M_isUnary_36 (by decide) ?_
            refine lv_goto (tgt := 41) hx hb dn_M_isUnary_37 (by decide) ?_
            rw [hQQ, ← Option.some.inj hf]
            exact xk_zret (w1 := fun u : Unit => (wM h0 a cI cB cJ cZ s)) () hx hb hr rfl hlocks hK hS dn_M_isUnary_41 hP hD rfl (Nat.le_refl _) (Nat.le_refl _)
          · have hf := (if_neg h).symm.trans hf
            refine lv_iload_n hx hb dn_M_isUnary_30 rfl (lv_at hl 0 rfl) ?_
            refine lv_bipush (v := 94) hx hb dn_M_isUnary_31 (by decide) ?_
            refine lv_icmp_ne (tgt := 40) hx hb dn_M_isUnary_33 (by decide) (fun h => ?_) (fun h => ?_)
            · have hf := (if_neg h).symm.trans hf
              refine lv_iconst (v := 0) hx hb dn_M_isUnary_40 (by decide) ?_
              rw [hQQ, ← Option.some.inj hf]
              exact xk_zret (w1 := fun u : Unit => (wM h0 a cI cB cJ cZ s)) () hx hb hr rfl hlocks hK hS dn_M_isUnary_41 hP hD rfl (Nat.le_refl _) (Nat.le_refl _)
            · have hf := (if_pos h).symm.trans hf
              refine lv_iconst (v := 1) hx hb dn_M_isUnary_36 (by decide) ?_
              refine lv_goto (tgt := 41) hx hb dn_M_isUnary_37 (by decide) ?_
              rw [hQQ, ← Option.some.inj hf]
              exact xk_zret (w1 := fun u : Unit => (wM h0 a cI cB cJ cZ s)) () hx hb hr rfl hlocks hK hS dn_M_isUnary_41 hP hD rfl (Nat.le_refl _) (Nat.le_refl _)
theorem mn_M_partGrammar (N : Nat) (s : ms) (y : (Unit × ms)) (hf : fn_M_partGrammar N s = some y) : gl y.2 = gl s := by
  unfold fn_M_partGrammar at hf
  have hm : gl s = gl s := rfl
  obtain ⟨q_1, hc_2, hf⟩ := dc_b hf
  have hm := (mn_M_take N 401 s q_1 hc_2).trans hm
  obtain ⟨q_3, hc_4, hf⟩ := dc_b hf
  have hm := (mn_M_is N 58 q_1.2 q_3 hc_4).trans hm
  by_cases h : q_3.1 = 0
  · have hf := (if_pos h).symm.trans hf
    exact (dc_e hf).trans hm
  · have hf := (if_neg h).symm.trans hf
    obtain ⟨q_6, hc_7, hf⟩ := dc_b hf
    have hm := (mn_M_take N 401 (upI q_3.2 8 (fun _ => ((q_3.2.1 8 0) + 1))) q_6 hc_7).trans hm
    exact (dc_e hf).trans hm
set_option maxHeartbeats 8000000 in
set_option maxRecDepth 100000 in
theorem ct_M_partGrammar (l : Launch) (dC : Nat → ClassId) (dI : Nat → Nat → Nat) (cI cB cJ cZ cQ : ClassId) (N sz : Nat) (h0 : Nat) (a : Nat → Nat) (s : ms) (y : (Unit × ms)) (hf : fn_M_partGrammar N s = some y) : Met l yn_M_partGrammar (xw yn_M_partGrammar bn_M_partGrammar 1 none) ({ frames := 3, cells := 0, slots := 0, locals := 63 }) (dc_P (dC, dI) xcl (xt cI cB cJ cZ cQ) [.ref h0] sz (wM h0 a cI cB cJ cZ s)) (xk_Qv (dC, dI) xcl (xt cI cB cJ cZ cQ) (fun _ : Unit => True) (fun u : Unit => (wM h0 a cI cB cJ cZ y.2)) (va_A (wM h0 a cI cB cJ cZ s) sz)) 0 0 (va_A (wM h0 a cI cB cJ cZ s) sz) := by
  refine dc_of (QA := xk_Qv (dC, dI) xcl (xt cI cB cJ cZ cQ) (fun _ : Unit => True) (fun u : Unit => (wM h0 a cI cB cJ cZ y.2))) (by decide) (Nat.le_of_ble_eq_true rfl) ?_
  intro p e s0 m below meth c hx hb hml hown hg hr hlocks hin hP hK hN A hA hD hT ls hl
  have hown : s0.vm.findClass rn_M = some m.cls := hown
  obtain ⟨H, hH⟩ : ∃ z, z = s0.heap := ⟨_, rfl⟩
  rw [← hH] at hP
  have hS : va_S A s0.heap H [] := by rw [hH]; exact va_S.rf
  suffices kk : ∀ QQ : State → Prop, QQ = MQ below (xk_Qv (dC, dI) xcl (xt cI cB cJ cZ cQ) (fun _ : Unit => True) (fun u : Unit => (wM h0 a cI cB cJ cZ y.2)) A) [.ref h0].toArray s0 0 0 A → dcC p l e ({ frames := 3, cells := 0, slots := 0, locals := 63 }) s0 m [.ref h0].toArray below meth c QQ (dC, dI) A (wM h0 a cI cB cJ cZ s) 0 1 [(0, .ref h0)] [] by
    have k9 := kk _ rfl H [] ls hP hD hS hl
    rw [hH] at k9; exact k9
  clear hP hD hS hl hH H ls
  intro QQ hQQ
  intro H locs ls hP hD hS hl
  unfold fn_M_partGrammar at hf
  refine lv_aload_n hx hb dn_M_partGrammar_0 rfl (lv_at hl 0 rfl) ?_
  refine lv_sipush (v := 401) hx hb dn_M_partGrammar_1 (by decide) ?_
  obtain ⟨q_1, hc_2, hf⟩ := dc_b hf
  refine dc_callv (dc_runV (ar := 1) (As := [.int 401]) (rest := []) (ci := 0) (q0 := 0) ⟨hx, hb, hml, hown, hg⟩ hK hN hT hS hA (ct_M_take l dC dI cI cB cJ cZ cQ N H.size h0 a 401 s q_1 hc_2) hP hD rfl rfl wn_9_178 wn_9_180 sn_M_take wn_1_13 wn_9_181 rfl rfl (by decide +kernel) ⟨Nat.le_of_ble_eq_true rfl, Nat.le_of_ble_eq_true rfl⟩ rfl hl.1 rfl (Nat.le_of_ble_eq_true rfl) dn_M_partGrammar_4 ⟨Nat.le_of_ble_eq_true rfl, Nat.le_of_ble_eq_true rfl⟩) hP hD hS hA (fun _ H locs hw hP hD hS => ?_)
  refine lv_aload_n hx hb dn_M_partGrammar_7 rfl (lv_at hl 0 rfl) ?_
  refine lv_bipush (v := 58) hx hb dn_M_partGrammar_8 (by decide) ?_
  obtain ⟨q_3, hc_4, hf⟩ := dc_b hf
  refine dc_calli (dc_runV (ar := 1) (As := [.int 58]) (rest := []) (ci := 0) (q0 := 0) ⟨hx, hb, hml, hown, hg⟩ hK hN hT hS hA (ct_M_is l dC dI cI cB cJ cZ cQ N H.size h0 a 58 q_1.2 q_3 hc_4) hP hD rfl rfl wn_9_194 wn_9_196 sn_M_is wn_1_13 wn_9_197 rfl rfl (by decide +kernel) ⟨Nat.le_of_ble_eq_true rfl, Nat.le_of_ble_eq_true rfl⟩ rfl hl.1 rfl (Nat.le_of_ble_eq_true rfl) dn_M_partGrammar_10 ⟨Nat.le_of_ble_eq_true rfl, Nat.le_of_ble_eq_true rfl⟩) hP hD hS hA (fun r_5 _ H locs hw hP hD hS => ?_)
  have hw : r_5 = q_3.1 := hw
  subst hw
  refine lv_if_eq (tgt := 33) hx hb dn_M_partGrammar_13 (by decide) (fun h => ?_) (fun h => ?_)
  · have hf := (if_pos h).symm.trans hf
    rw [hQQ, ← Option.some.inj hf]
    exact xk_vret (w1 := fun u : Unit => (wM h0 a cI cB cJ cZ q_3.2)) () hx hb hr hlocks hK hS dn_M_partGrammar_33 hP hD trivial (Nat.le_refl _) (Nat.le_refl _)
  · have hf := (if_neg h).symm.trans hf
    refine lv_aload_n hx hb dn_M_partGrammar_16 rfl (lv_at hl 0 rfl) ?_
    refine lv_dup hx hb dn_M_partGrammar_17 rfl ?_
    refine va_get (D := (dC, dI)) (ci := 0) (v := .int ((q_3.2.1 8 0))) (C := rn_M) (T := fn_M) (N := 91) hx hb hg in_M hown hK hP 0 rfl rfl 8 (by decide) (hg _ wn_8_81) (fun _ h9 => h9) rfl dn_M_partGrammar_18 ?_
    refine lv_iconst (v := 1) hx hb dn_M_partGrammar_21 (by decide) ?_
    refine lv_iadd hx hb dn_M_partGrammar_22 ?_
    refine va_put (D := (dC, dI)) (ci := 0) (v := .int (((q_3.2.1 8 0) + 1))) (ty := .int) (C := rn_M) (T := fn_M) (N := 91) hx hb hg in_M tn_M tk_M nn_M hown hK hP hD hS 0 rfl rfl 8 (by decide) (hg _ wn_8_81) (fun _ h9 => h9) rfl (tk_M 8 (by decide)) rfl rfl (Nat.le_of_ble_eq_true rfl) dn_M_partGrammar_23 (fun H locs hP hD hS => ?_)
    have hP := wM_P_8 hP
    have hD := wM_D_8 hD
    refine lv_aload_n hx hb dn_M_partGrammar_26 rfl (lv_at hl 0 rfl) ?_
    refine lv_sipush (v := 401) hx hb dn_M_partGrammar_27 (by decide) ?_
    obtain ⟨q_6, hc_7, hf⟩ := dc_b hf
    refine dc_callv (dc_runV (ar := 1) (As := [.int 401]) (rest := []) (ci := 0) (q0 := 0) ⟨hx, hb, hml, hown, hg⟩ hK hN hT hS hA (ct_M_take l dC dI cI cB cJ cZ cQ N H.size h0 a 401 (upI q_3.2 8 (fun _ => ((q_3.2.1 8 0) + 1))) q_6 hc_7) hP hD rfl rfl wn_9_178 wn_9_180 sn_M_take wn_1_13 wn_9_181 rfl rfl (by decide +kernel) ⟨Nat.le_of_ble_eq_true rfl, Nat.le_of_ble_eq_true rfl⟩ rfl hl.1 rfl (Nat.le_of_ble_eq_true rfl) dn_M_partGrammar_30 ⟨Nat.le_of_ble_eq_true rfl, Nat.le_of_ble_eq_true rfl⟩) hP hD hS hA (fun _ H locs hw hP hD hS => ?_)
    rw [hQQ, ← Option.some.inj hf]
    exact xk_vret (w1 := fun u : Unit => (wM h0 a cI cB cJ cZ q_6.2)) () hx hb hr hlocks hK hS dn_M_partGrammar_33 hP hD trivial (Nat.le_refl _) (Nat.le_refl _)
theorem mo_M_expGrammar_38 (N : Nat) (r_M_expGrammar : ms → Option (Unit × ms)) (r_M_operandGrammar : ms → Option (Unit × ms)) (r_M_bracesGrammar : ms → Option (Unit × ms)) (hmr_M_expGrammar : ∀ (s : ms) (y : (Unit × ms)), r_M_expGrammar s = some y → gl y.2 = gl s) (hmr_M_operandGrammar : ∀ (s : ms) (y : (Unit × ms)), r_M_operandGrammar s = some y → gl y.2 = gl s) (hmr_M_bracesGrammar : ∀ (s : ms) (y : (Unit × ms)), r_M_bracesGrammar s = some y → gl y.2 = gl s) (y : (Unit × ms)) (s : ms) (hf : bk_M_expGrammar_38 N r_M_expGrammar r_M_operandGrammar r_M_bracesGrammar s = some y) : gl y.2 = gl s := by
  unfold bk_M_expGrammar_38 at hf
  have hm : gl s = gl s := rfl
  obtain ⟨q_1, hc_2, hf⟩ := dc_b hf
  have hm := (mn_M_is N 63 s q_1 hc_2).trans hm
  by_cases h : q_1.1 = 0
  · have hf := (if_pos h).symm.trans hf
    exact (dc_e hf).trans hm
  · have hf := (if_neg h).symm.trans hf
    obtain ⟨q_4, hc_5, hf⟩ := dc_b hf
    have hm := (mn_M_open N 63 q_1.2 q_4 hc_5).trans hm
    obtain ⟨q_6, hc_7, hf⟩ := dc_b hf
    have hm := (hmr_M_expGrammar q_4.2 q_6 hc_7).trans hm
    obtain ⟨q_8, hc_9, hf⟩ := dc_b hf
    have hm := (mn_M_take N 58 q_6.2 q_8 hc_9).trans hm
    obtain ⟨q_10, hc_11, hf⟩ := dc_b hf
    have hm := (hmr_M_expGrammar q_8.2 q_10 hc_11).trans hm
    exact (dc_e hf).trans hm
theorem mb_M_expGrammar_4 (N : Nat) (r_M_expGrammar : ms → Option (Unit × ms)) (r_M_operandGrammar : ms → Option (Unit × ms)) (r_M_bracesGrammar : ms → Option (Unit × ms)) (hmr_M_expGrammar : ∀ (s : ms) (y : (Unit × ms)), r_M_expGrammar s = some y → gl y.2 = gl s) (hmr_M_operandGrammar : ∀ (s : ms) (y : (Unit × ms)), r_M_operandGrammar s = some y → gl y.2 = gl s) (hmr_M_bracesGrammar : ∀ (s : ms) (y : (Unit × ms)), r_M_bracesGrammar s = some y → gl y.2 = gl s) (y : (Unit × ms)) (k_4 : ms → Option (Unit × ms)) (hkm_4 : ∀ (s : ms), k_4 s = some y → gl y.2 = gl s) (s : ms) (hf : bd_M_expGrammar_4 N r_M_expGrammar r_M_operandGrammar r_M_bracesGrammar k_4 s = some y) : gl y.2 = gl s := by
  unfold bd_M_expGrammar_4 at hf
  have hm : gl s = gl s := rfl
  by_cases h : (s.1 9 0) = 0
  · have hf := (if_pos h).symm.trans hf
    obtain ⟨q_1, hc_2, hf⟩ := dc_b hf
    have hm := (mn_M_kind N s q_1 hc_2).trans hm
    obtain ⟨q_4, hc_5, hf⟩ := dc_b hf
    have hm := (mn_M_rank N q_1.1 q_1.2 q_4 hc_5).trans hm
    by_cases h : q_4.1 ≤ 0
    · have hf := (if_pos h).symm.trans hf
      exact (mo_M_expGrammar_38 N r_M_expGrammar r_M_operandGrammar r_M_bracesGrammar hmr_M_expGrammar hmr_M_operandGrammar hmr_M_bracesGrammar y q_4.2 hf).trans hm
    · have hf := (if_neg h).symm.trans hf
      obtain ⟨q_7, hc_8, hf⟩ := dc_b hf
      have hm := (hmr_M_operandGrammar (upI q_4.2 8 (fun _ => ((q_4.2.1 8 0) + 1))) q_7 hc_8).trans hm
      exact (hkm_4 q_7.2 hf).trans hm
  · have hf := (if_neg h).symm.trans hf
    exact (mo_M_expGrammar_38 N r_M_expGrammar r_M_operandGrammar r_M_bracesGrammar hmr_M_expGrammar hmr_M_operandGrammar hmr_M_bracesGrammar y s hf).trans hm
theorem mh_M_expGrammar_4 (N : Nat) (r_M_expGrammar : ms → Option (Unit × ms)) (r_M_operandGrammar : ms → Option (Unit × ms)) (r_M_bracesGrammar : ms → Option (Unit × ms)) (hmr_M_expGrammar : ∀ (s : ms) (y : (Unit × ms)), r_M_expGrammar s = some y → gl y.2 = gl s) (hmr_M_operandGrammar : ∀ (s : ms) (y : (Unit × ms)), r_M_operandGrammar s = some y → gl y.2 = gl s) (hmr_M_bracesGrammar : ∀ (s : ms) (y : (Unit × ms)), r_M_bracesGrammar s = some y → gl y.2 = gl s) (y : (Unit × ms)) : ∀ (n : Nat) (s : ms), hd_M_expGrammar_4 N r_M_expGrammar r_M_operandGrammar r_M_bracesGrammar n s = some y → gl y.2 = gl s := by
  intro n
  induction n with
  | zero => intro s hf; cases hf
  | succ n ih => intro s hf; exact mb_M_expGrammar_4 N r_M_expGrammar r_M_operandGrammar r_M_bracesGrammar hmr_M_expGrammar hmr_M_operandGrammar hmr_M_bracesGrammar y (hd_M_expGrammar_4 N r_M_expGrammar r_M_operandGrammar r_M_bracesGrammar n) ih s hf
theorem mf_M_expGrammar (N : Nat) (r_M_expGrammar : ms → Option (Unit × ms)) (r_M_operandGrammar : ms → Option (Unit × ms)) (r_M_bracesGrammar : ms → Option (Unit × ms)) (hmr_M_expGrammar : ∀ (s : ms) (y : (Unit × ms)), r_M_expGrammar s = some y → gl y.2 = gl s) (hmr_M_operandGrammar : ∀ (s : ms) (y : (Unit × ms)), r_M_operandGrammar s = some y → gl y.2 = gl s) (hmr_M_bracesGrammar : ∀ (s : ms) (y : (Unit × ms)), r_M_bracesGrammar s = some y → gl y.2 = gl s) (s : ms) (y : (Unit × ms)) (hf : fb_M_expGrammar N r_M_expGrammar r_M_operandGrammar r_M_bracesGrammar s = some y) : gl y.2 = gl s := by
  unfold fb_M_expGrammar at hf
  have hm : gl s = gl s := rfl
  obtain ⟨q_1, hc_2, hf⟩ := dc_b hf
  have hm := (hmr_M_operandGrammar s q_1 hc_2).trans hm
  exact (mh_M_expGrammar_4 N r_M_expGrammar r_M_operandGrammar r_M_bracesGrammar hmr_M_expGrammar hmr_M_operandGrammar hmr_M_bracesGrammar y N q_1.2 hf).trans hm
theorem mo_M_operandGrammar_109 (N : Nat) (r_M_expGrammar : ms → Option (Unit × ms)) (r_M_operandGrammar : ms → Option (Unit × ms)) (r_M_bracesGrammar : ms → Option (Unit × ms)) (hmr_M_expGrammar : ∀ (s : ms) (y : (Unit × ms)), r_M_expGrammar s = some y → gl y.2 = gl s) (hmr_M_operandGrammar : ∀ (s : ms) (y : (Unit × ms)), r_M_operandGrammar s = some y → gl y.2 = gl s) (hmr_M_bracesGrammar : ∀ (s : ms) (y : (Unit × ms)), r_M_bracesGrammar s = some y → gl y.2 = gl s) (y : (Unit × ms)) (s : ms) (hf : bk_M_operandGrammar_109 N r_M_expGrammar r_M_operandGrammar r_M_bracesGrammar s = some y) : gl y.2 = gl s := by
  unfold bk_M_operandGrammar_109 at hf
  have hm : gl s = gl s := rfl
  obtain ⟨q_1, hc_2, hf⟩ := dc_b hf
  have hm := (mn_M_shut N 93 s q_1 hc_2).trans hm
  exact (dc_e hf).trans hm
theorem mo_M_operandGrammar_30 (N : Nat) (r_M_expGrammar : ms → Option (Unit × ms)) (r_M_operandGrammar : ms → Option (Unit × ms)) (r_M_bracesGrammar : ms → Option (Unit × ms)) (hmr_M_expGrammar : ∀ (s : ms) (y : (Unit × ms)), r_M_expGrammar s = some y → gl y.2 = gl s) (hmr_M_operandGrammar : ∀ (s : ms) (y : (Unit × ms)), r_M_operandGrammar s = some y → gl y.2 = gl s) (hmr_M_bracesGrammar : ∀ (s : ms) (y : (Unit × ms)), r_M_bracesGrammar s = some y → gl y.2 = gl s) (y : (Unit × ms)) (s : ms) (hf : bk_M_operandGrammar_30 N r_M_expGrammar r_M_operandGrammar r_M_bracesGrammar s = some y) : gl y.2 = gl s := by
  unfold bk_M_operandGrammar_30 at hf
  have hm : gl s = gl s := rfl
  obtain ⟨q_1, hc_2, hf⟩ := dc_b hf
  have hm := (mn_M_is N 402 s q_1 hc_2).trans hm
  by_cases h : q_1.1 = 0
  · have hf := (if_pos h).symm.trans hf
    obtain ⟨q_4, hc_5, hf⟩ := dc_b hf
    have hm := (mn_M_is N 400 q_1.2 q_4 hc_5).trans hm
    by_cases h : q_4.1 = 0
    · have hf := (if_pos h).symm.trans hf
      obtain ⟨q_7, hc_8, hf⟩ := dc_b hf
      have hm := (mn_M_is N 40 q_4.2 q_7 hc_8).trans hm
      by_cases h : q_7.1 = 0
      · have hf := (if_pos h).symm.trans hf
        obtain ⟨q_10, hc_11, hf⟩ := dc_b hf
        have hm := (mn_M_is N 123 q_7.2 q_10 hc_11).trans hm
        by_cases h : q_10.1 = 0
        · have hf := (if_pos h).symm.trans hf
          obtain ⟨q_13, hc_14, hf⟩ := dc_b hf
          have hm := (mn_M_no N q_10.2 q_13 hc_14).trans hm
          exact (dc_e hf).trans hm
        · have hf := (if_neg h).symm.trans hf
          obtain ⟨q_13, hc_14, hf⟩ := dc_b hf
          have hm := (hmr_M_bracesGrammar q_10.2 q_13 hc_14).trans hm
          exact (dc_e hf).trans hm
      · have hf := (if_neg h).symm.trans hf
        obtain ⟨q_10, hc_11, hf⟩ := dc_b hf
        have hm := (mn_M_open N 40 q_7.2 q_10 hc_11).trans hm
        obtain ⟨q_12, hc_13, hf⟩ := dc_b hf
        have hm := (hmr_M_expGrammar q_10.2 q_12 hc_13).trans hm
        obtain ⟨q_14, hc_15, hf⟩ := dc_b hf
        have hm := (mn_M_shut N 41 q_12.2 q_14 hc_15).trans hm
        exact (dc_e hf).trans hm
    · have hf := (if_neg h).symm.trans hf
      obtain ⟨q_7, hc_8, hf⟩ := dc_b hf
      have hm := (mn_M_is N 91 (upI q_4.2 8 (fun _ => ((q_4.2.1 8 0) + 1))) q_7 hc_8).trans hm
      by_cases h : q_7.1 = 0
      · have hf := (if_pos h).symm.trans hf
        exact (dc_e hf).trans hm
      · have hf := (if_neg h).symm.trans hf
        obtain ⟨q_10, hc_11, hf⟩ := dc_b hf
        have hm := (mn_M_open N 91 q_7.2 q_10 hc_11).trans hm
        obtain ⟨q_12, hc_13, hf⟩ := dc_b hf
        have hm := (mn_M_is N 401 q_10.2 q_12 hc_13).trans hm
        by_cases h : q_12.1 = 0
        · have hf := (if_pos h).symm.trans hf
          obtain ⟨q_15, hc_16, hf⟩ := dc_b hf
          have hm := (hmr_M_expGrammar q_12.2 q_15 hc_16).trans hm
          exact (mo_M_operandGrammar_109 N r_M_expGrammar r_M_operandGrammar r_M_bracesGrammar hmr_M_expGrammar hmr_M_operandGrammar hmr_M_bracesGrammar y q_15.2 hf).trans hm
        · have hf := (if_neg h).symm.trans hf
          obtain ⟨q_15, hc_16, hf⟩ := dc_b hf
          have hm := (mn_M_partGrammar N q_12.2 q_15 hc_16).trans hm
          exact (mo_M_operandGrammar_109 N r_M_expGrammar r_M_operandGrammar r_M_bracesGrammar hmr_M_expGrammar hmr_M_operandGrammar hmr_M_bracesGrammar y q_15.2 hf).trans hm
  · have hf := (if_neg h).symm.trans hf
    exact (dc_e hf).trans hm
theorem mb_M_operandGrammar_0 (N : Nat) (r_M_expGrammar : ms → Option (Unit × ms)) (r_M_operandGrammar : ms → Option (Unit × ms)) (r_M_bracesGrammar : ms → Option (Unit × ms)) (hmr_M_expGrammar : ∀ (s : ms) (y : (Unit × ms)), r_M_expGrammar s = some y → gl y.2 = gl s) (hmr_M_operandGrammar : ∀ (s : ms) (y : (Unit × ms)), r_M_operandGrammar s = some y → gl y.2 = gl s) (hmr_M_bracesGrammar : ∀ (s : ms) (y : (Unit × ms)), r_M_bracesGrammar s = some y → gl y.2 = gl s) (y : (Unit × ms)) (k_0 : ms → Option (Unit × ms)) (hkm_0 : ∀ (s : ms), k_0 s = some y → gl y.2 = gl s) (s : ms) (hf : bd_M_operandGrammar_0 N r_M_expGrammar r_M_operandGrammar r_M_bracesGrammar k_0 s = some y) : gl y.2 = gl s := by
  unfold bd_M_operandGrammar_0 at hf
  have hm : gl s = gl s := rfl
  by_cases h : (s.1 9 0) = 0
  · have hf := (if_pos h).symm.trans hf
    obtain ⟨q_1, hc_2, hf⟩ := dc_b hf
    have hm := (mn_M_kind N s q_1 hc_2).trans hm
    obtain ⟨q_4, hc_5, hf⟩ := dc_b hf
    have hm := (mn_M_isUnary N q_1.1 q_1.2 q_4 hc_5).trans hm
    by_cases h : q_4.1 = 0
    · have hf := (if_pos h).symm.trans hf
      exact (mo_M_operandGrammar_30 N r_M_expGrammar r_M_operandGrammar r_M_bracesGrammar hmr_M_expGrammar hmr_M_operandGrammar hmr_M_bracesGrammar y q_4.2 hf).trans hm
    · have hf := (if_neg h).symm.trans hf
      exact (hkm_0 (upI q_4.2 8 (fun _ => ((q_4.2.1 8 0) + 1))) hf).trans hm
  · have hf := (if_neg h).symm.trans hf
    exact (mo_M_operandGrammar_30 N r_M_expGrammar r_M_operandGrammar r_M_bracesGrammar hmr_M_expGrammar hmr_M_operandGrammar hmr_M_bracesGrammar y s hf).trans hm
theorem mh_M_operandGrammar_0 (N : Nat) (r_M_expGrammar : ms → Option (Unit × ms)) (r_M_operandGrammar : ms → Option (Unit × ms)) (r_M_bracesGrammar : ms → Option (Unit × ms)) (hmr_M_expGrammar : ∀ (s : ms) (y : (Unit × ms)), r_M_expGrammar s = some y → gl y.2 = gl s) (hmr_M_operandGrammar : ∀ (s : ms) (y : (Unit × ms)), r_M_operandGrammar s = some y → gl y.2 = gl s) (hmr_M_bracesGrammar : ∀ (s : ms) (y : (Unit × ms)), r_M_bracesGrammar s = some y → gl y.2 = gl s) (y : (Unit × ms)) : ∀ (n : Nat) (s : ms), hd_M_operandGrammar_0 N r_M_expGrammar r_M_operandGrammar r_M_bracesGrammar n s = some y → gl y.2 = gl s := by
  intro n
  induction n with
  | zero => intro s hf; cases hf
  | succ n ih => intro s hf; exact mb_M_operandGrammar_0 N r_M_expGrammar r_M_operandGrammar r_M_bracesGrammar hmr_M_expGrammar hmr_M_operandGrammar hmr_M_bracesGrammar y (hd_M_operandGrammar_0 N r_M_expGrammar r_M_operandGrammar r_M_bracesGrammar n) ih s hf
theorem mf_M_operandGrammar (N : Nat) (r_M_expGrammar : ms → Option (Unit × ms)) (r_M_operandGrammar : ms → Option (Unit × ms)) (r_M_bracesGrammar : ms → Option (Unit × ms)) (hmr_M_expGrammar : ∀ (s : ms) (y : (Unit × ms)), r_M_expGrammar s = some y → gl y.2 = gl s) (hmr_M_operandGrammar : ∀ (s : ms) (y : (Unit × ms)), r_M_operandGrammar s = some y → gl y.2 = gl s) (hmr_M_bracesGrammar : ∀ (s : ms) (y : (Unit × ms)), r_M_bracesGrammar s = some y → gl y.2 = gl s) (s : ms) (y : (Unit × ms)) (hf : fb_M_operandGrammar N r_M_expGrammar r_M_operandGrammar r_M_bracesGrammar s = some y) : gl y.2 = gl s := by
  unfold fb_M_operandGrammar at hf
  have hm : gl s = gl s := rfl
  exact (mh_M_operandGrammar_0 N r_M_expGrammar r_M_operandGrammar r_M_bracesGrammar hmr_M_expGrammar hmr_M_operandGrammar hmr_M_bracesGrammar y N s hf).trans hm
theorem mo_M_bracesGrammar_75 (N : Nat) (r_M_expGrammar : ms → Option (Unit × ms)) (r_M_operandGrammar : ms → Option (Unit × ms)) (r_M_bracesGrammar : ms → Option (Unit × ms)) (hmr_M_expGrammar : ∀ (s : ms) (y : (Unit × ms)), r_M_expGrammar s = some y → gl y.2 = gl s) (hmr_M_operandGrammar : ∀ (s : ms) (y : (Unit × ms)), r_M_operandGrammar s = some y → gl y.2 = gl s) (hmr_M_bracesGrammar : ∀ (s : ms) (y : (Unit × ms)), r_M_bracesGrammar s = some y → gl y.2 = gl s) (y : (Unit × ms)) (s : ms) (hf : bk_M_bracesGrammar_75 N r_M_expGrammar r_M_operandGrammar r_M_bracesGrammar s = some y) : gl y.2 = gl s := by
  unfold bk_M_bracesGrammar_75 at hf
  have hm : gl s = gl s := rfl
  obtain ⟨q_1, hc_2, hf⟩ := dc_b hf
  have hm := (mn_M_shut N 125 s q_1 hc_2).trans hm
  exact (dc_e hf).trans hm
theorem mb_M_bracesGrammar_49 (N : Nat) (r_M_expGrammar : ms → Option (Unit × ms)) (r_M_operandGrammar : ms → Option (Unit × ms)) (r_M_bracesGrammar : ms → Option (Unit × ms)) (hmr_M_expGrammar : ∀ (s : ms) (y : (Unit × ms)), r_M_expGrammar s = some y → gl y.2 = gl s) (hmr_M_operandGrammar : ∀ (s : ms) (y : (Unit × ms)), r_M_operandGrammar s = some y → gl y.2 = gl s) (hmr_M_bracesGrammar : ∀ (s : ms) (y : (Unit × ms)), r_M_bracesGrammar s = some y → gl y.2 = gl s) (y : (Unit × ms)) (k_49 : ms → Option (Unit × ms)) (hkm_49 : ∀ (s : ms), k_49 s = some y → gl y.2 = gl s) (s : ms) (hf : bd_M_bracesGrammar_49 N r_M_expGrammar r_M_operandGrammar r_M_bracesGrammar k_49 s = some y) : gl y.2 = gl s := by
  unfold bd_M_bracesGrammar_49 at hf
  have hm : gl s = gl s := rfl
  obtain ⟨q_1, hc_2, hf⟩ := dc_b hf
  have hm := (mn_M_is N 44 s q_1 hc_2).trans hm
  by_cases h : q_1.1 = 0
  · have hf := (if_pos h).symm.trans hf
    exact (mo_M_bracesGrammar_75 N r_M_expGrammar r_M_operandGrammar r_M_bracesGrammar hmr_M_expGrammar hmr_M_operandGrammar hmr_M_bracesGrammar y q_1.2 hf).trans hm
  · have hf := (if_neg h).symm.trans hf
    obtain ⟨q_4, hc_5, hf⟩ := dc_b hf
    have hm := (hmr_M_expGrammar (upI q_1.2 8 (fun _ => ((q_1.2.1 8 0) + 1))) q_4 hc_5).trans hm
    exact (hkm_49 q_4.2 hf).trans hm
theorem mh_M_bracesGrammar_49 (N : Nat) (r_M_expGrammar : ms → Option (Unit × ms)) (r_M_operandGrammar : ms → Option (Unit × ms)) (r_M_bracesGrammar : ms → Option (Unit × ms)) (hmr_M_expGrammar : ∀ (s : ms) (y : (Unit × ms)), r_M_expGrammar s = some y → gl y.2 = gl s) (hmr_M_operandGrammar : ∀ (s : ms) (y : (Unit × ms)), r_M_operandGrammar s = some y → gl y.2 = gl s) (hmr_M_bracesGrammar : ∀ (s : ms) (y : (Unit × ms)), r_M_bracesGrammar s = some y → gl y.2 = gl s) (y : (Unit × ms)) : ∀ (n : Nat) (s : ms), hd_M_bracesGrammar_49 N r_M_expGrammar r_M_operandGrammar r_M_bracesGrammar n s = some y → gl y.2 = gl s := by
  intro n
  induction n with
  | zero => intro s hf; cases hf
  | succ n ih => intro s hf; exact mb_M_bracesGrammar_49 N r_M_expGrammar r_M_operandGrammar r_M_bracesGrammar hmr_M_expGrammar hmr_M_operandGrammar hmr_M_bracesGrammar y (hd_M_bracesGrammar_49 N r_M_expGrammar r_M_operandGrammar r_M_bracesGrammar n) ih s hf
theorem mf_M_bracesGrammar (N : Nat) (r_M_expGrammar : ms → Option (Unit × ms)) (r_M_operandGrammar : ms → Option (Unit × ms)) (r_M_bracesGrammar : ms → Option (Unit × ms)) (hmr_M_expGrammar : ∀ (s : ms) (y : (Unit × ms)), r_M_expGrammar s = some y → gl y.2 = gl s) (hmr_M_operandGrammar : ∀ (s : ms) (y : (Unit × ms)), r_M_operandGrammar s = some y → gl y.2 = gl s) (hmr_M_bracesGrammar : ∀ (s : ms) (y : (Unit × ms)), r_M_bracesGrammar s = some y → gl y.2 = gl s) (s : ms) (y : (Unit × ms)) (hf : fb_M_bracesGrammar N r_M_expGrammar r_M_operandGrammar r_M_bracesGrammar s = some y) : gl y.2 = gl s := by
  unfold fb_M_bracesGrammar at hf
  have hm : gl s = gl s := rfl
  obtain ⟨q_1, hc_2, hf⟩ := dc_b hf
  have hm := (mn_M_open N 123 s q_1 hc_2).trans hm
  obtain ⟨q_3, hc_4, hf⟩ := dc_b hf
  have hm := (mn_M_is N 401 q_1.2 q_3 hc_4).trans hm
  by_cases h : q_3.1 = 0
  · have hf := (if_pos h).symm.trans hf
    obtain ⟨q_6, hc_7, hf⟩ := dc_b hf
    have hm := (hmr_M_expGrammar q_3.2 q_6 hc_7).trans hm
    exact (mh_M_bracesGrammar_49 N r_M_expGrammar r_M_operandGrammar r_M_bracesGrammar hmr_M_expGrammar hmr_M_operandGrammar hmr_M_bracesGrammar y N q_6.2 hf).trans hm
  · have hf := (if_neg h).symm.trans hf
    obtain ⟨q_6, hc_7, hf⟩ := dc_b hf
    have hm := (mn_M_open N 123 (upI q_3.2 8 (fun _ => ((q_3.2.1 8 0) + 1))) q_6 hc_7).trans hm
    obtain ⟨q_8, hc_9, hf⟩ := dc_b hf
    have hm := (hmr_M_expGrammar q_6.2 q_8 hc_9).trans hm
    obtain ⟨q_10, hc_11, hf⟩ := dc_b hf
    have hm := (mn_M_shut N 125 q_8.2 q_10 hc_11).trans hm
    exact (mo_M_bracesGrammar_75 N r_M_expGrammar r_M_operandGrammar r_M_bracesGrammar hmr_M_expGrammar hmr_M_operandGrammar hmr_M_bracesGrammar y q_10.2 hf).trans hm
set_option maxHeartbeats 8000000 in
set_option maxRecDepth 100000 in
theorem cb_M_expGrammar (l : Launch) (dC : Nat → ClassId) (dI : Nat → Nat → Nat) (cI cB cJ cZ cQ : ClassId) (N d : Nat) (r_M_expGrammar : ms → Option (Unit × ms)) (r_M_operandGrammar : ms → Option (Unit × ms)) (r_M_bracesGrammar : ms → Option (Unit × ms)) (hmr_M_expGrammar : ∀ (s : ms) (y : (Unit × ms)), r_M_expGrammar s = some y → gl y.2 = gl s) (hmr_M_operandGrammar : ∀ (s : ms) (y : (Unit × ms)), r_M_operandGrammar s = some y → gl y.2 = gl s) (hmr_M_bracesGrammar : ∀ (s : ms) (y : (Unit × ms)), r_M_bracesGrammar s = some y → gl y.2 = gl s) (hr_M_expGrammar : ∀ (sz : Nat) (h0 : Nat) (a : Nat → Nat) (s : ms) (y : (Unit × ms)), r_M_expGrammar s = some y → Met l yn_M_expGrammar (xw yn_M_expGrammar bn_M_expGrammar 1 none) ({ frames := 4 + d, cells := 0, slots := 0, locals := 84 + d * 20 }) (dc_P (dC, dI) xcl (xt cI cB cJ cZ cQ) [.ref h0] sz (wM h0 a cI cB cJ cZ s)) (xk_Qv (dC, dI) xcl (xt cI cB cJ cZ cQ) (fun _ : Unit => True) (fun u : Unit => (wM h0 a cI cB cJ cZ y.2)) (va_A (wM h0 a cI cB cJ cZ s) sz)) 0 0 (va_A (wM h0 a cI cB cJ cZ s) sz)) (hr_M_operandGrammar : ∀ (sz : Nat) (h0 : Nat) (a : Nat → Nat) (s : ms) (y : (Unit × ms)), r_M_operandGrammar s = some y → Met l yn_M_operandGrammar (xw yn_M_operandGrammar bn_M_operandGrammar 1 none) ({ frames := 4 + d, cells := 0, slots := 0, locals := 84 + d * 20 }) (dc_P (dC, dI) xcl (xt cI cB cJ cZ cQ) [.ref h0] sz (wM h0 a cI cB cJ cZ s)) (xk_Qv (dC, dI) xcl (xt cI cB cJ cZ cQ) (fun _ : Unit => True) (fun u : Unit => (wM h0 a cI cB cJ cZ y.2)) (va_A (wM h0 a cI cB cJ cZ s) sz)) 0 0 (va_A (wM h0 a cI cB cJ cZ s) sz)) (hr_M_bracesGrammar : ∀ (sz : Nat) (h0 : Nat) (a : Nat → Nat) (s : ms) (y : (Unit × ms)), r_M_bracesGrammar s = some y → Met l yn_M_bracesGrammar (xw yn_M_bracesGrammar bn_M_bracesGrammar 1 none) ({ frames := 4 + d, cells := 0, slots := 0, locals := 84 + d * 20 }) (dc_P (dC, dI) xcl (xt cI cB cJ cZ cQ) [.ref h0] sz (wM h0 a cI cB cJ cZ s)) (xk_Qv (dC, dI) xcl (xt cI cB cJ cZ cQ) (fun _ : Unit => True) (fun u : Unit => (wM h0 a cI cB cJ cZ y.2)) (va_A (wM h0 a cI cB cJ cZ s) sz)) 0 0 (va_A (wM h0 a cI cB cJ cZ s) sz)) (sz : Nat) (h0 : Nat) (a : Nat → Nat) (s : ms) (y : (Unit × ms)) (hf : fb_M_expGrammar N r_M_expGrammar r_M_operandGrammar r_M_bracesGrammar s = some y) : Met l yn_M_expGrammar (xw yn_M_expGrammar bn_M_expGrammar 1 none) ({ frames := 4 + (d + 1), cells := 0, slots := 0, locals := 84 + (d + 1) * 20 }) (dc_P (dC, dI) xcl (xt cI cB cJ cZ cQ) [.ref h0] sz (wM h0 a cI cB cJ cZ s)) (xk_Qv (dC, dI) xcl (xt cI cB cJ cZ cQ) (fun _ : Unit => True) (fun u : Unit => (wM h0 a cI cB cJ cZ y.2)) (va_A (wM h0 a cI cB cJ cZ s) sz)) 0 0 (va_A (wM h0 a cI cB cJ cZ s) sz) := by
  refine dc_of (QA := xk_Qv (dC, dI) xcl (xt cI cB cJ cZ cQ) (fun _ : Unit => True) (fun u : Unit => (wM h0 a cI cB cJ cZ y.2))) (by decide) (Nat.le_of_ble_eq_true rfl) ?_
  intro p e s0 m below meth c hx hb hml hown hg hr hlocks hin hP hK hN A hA hD hT ls hl
  have hown : s0.vm.findClass rn_M = some m.cls := hown
  obtain ⟨H, hH⟩ : ∃ z, z = s0.heap := ⟨_, rfl⟩
  rw [← hH] at hP
  have hS : va_S A s0.heap H [] := by rw [hH]; exact va_S.rf
  suffices kk : ∀ QQ : State → Prop, QQ = MQ below (xk_Qv (dC, dI) xcl (xt cI cB cJ cZ cQ) (fun _ : Unit => True) (fun u : Unit => (wM h0 a cI cB cJ cZ y.2)) A) [.ref h0].toArray s0 0 0 A → dcC p l e ({ frames := 4 + (d + 1), cells := 0, slots := 0, locals := 84 + (d + 1) * 20 }) s0 m [.ref h0].toArray below meth c QQ (dC, dI) A (wM h0 a cI cB cJ cZ s) 0 1 [(0, .ref h0)] [] by
    have k9 := kk _ rfl H [] ls hP hD hS hl
    rw [hH] at k9; exact k9
  clear hP hD hS hl hH H ls
  intro QQ hQQ
  have bl_38 : ∀ (s : ms), bk_M_expGrammar_38 N r_M_expGrammar r_M_operandGrammar r_M_bracesGrammar s = some y → dcC p l e ({ frames := 4 + (d + 1), cells := 0, slots := 0, locals := 84 + (d + 1) * 20 }) s0 m [.ref h0].toArray below meth c QQ (dC, dI) A (wM h0 a cI cB cJ cZ s) 38 1 [(0, .ref h0)] [] := by
    intro s hf H locs ls hP hD hS hl
    unfold bk_M_expGrammar_38 at hf
    refine lv_aload_n hx hb dn_M_expGrammar_38 rfl (lv_at hl 0 rfl) ?_
    refine lv_bipush (v := 63) hx hb dn_M_expGrammar_39 (by decide) ?_
    obtain ⟨q_1, hc_2, hf⟩ := dc_b hf
    refine dc_calli (dc_runV (ar := 1) (As := [.int 63]) (rest := []) (ci := 0) (q0 := 0) ⟨hx, hb, hml, hown, hg⟩ hK hN hT hS hA (ct_M_is l dC dI cI cB cJ cZ cQ N H.size h0 a 63 s q_1 hc_2) hP hD rfl rfl wn_9_194 wn_9_196 sn_M_is wn_1_13 wn_9_197 rfl rfl (by decide +kernel) ⟨dc_ra (Nat.le_of_ble_eq_true rfl), dc_ra (Nat.le_of_ble_eq_true rfl)⟩ rfl hl.1 rfl (Nat.le_of_ble_eq_true rfl) dn_M_expGrammar_41 ⟨Nat.le_of_ble_eq_true rfl, Nat.le_of_ble_eq_true rfl⟩) hP hD hS hA (fun r_3 _ H locs hw hP hD hS => ?_)
    have hw : r_3 = q_1.1 := hw
    subst hw
    refine lv_if_eq (tgt := 77) hx hb dn_M_expGrammar_44 (by decide) (fun h => ?_) (fun h => ?_)
    · have hf := (if_pos h).symm.trans hf
      rw [hQQ, ← Option.some.inj hf]
      exact xk_vret (w1 := fun u : Unit => (wM h0 a cI cB cJ cZ q_1.2)) () hx hb hr hlocks hK hS dn_M_expGrammar_77 hP hD trivial (Nat.le_refl _) (Nat.le_refl _)
    · have hf := (if_neg h).symm.trans hf
      refine lv_aload_n hx hb dn_M_expGrammar_47 rfl (lv_at hl 0 rfl) ?_
      refine lv_bipush (v := 63) hx hb dn_M_expGrammar_48 (by decide) ?_
      obtain ⟨q_4, hc_5, hf⟩ := dc_b hf
      refine dc_callv (dc_runV (ar := 1) (As := [.int 63]) (rest := []) (ci := 0) (q0 := 0) ⟨hx, hb, hml, hown, hg⟩ hK hN hT hS hA (ct_M_open l dC dI cI cB cJ cZ cQ N H.size h0 a 63 q_1.2 q_4 hc_5) hP hD rfl rfl wn_9_190 wn_9_192 sn_M_open wn_1_13 wn_9_193 rfl rfl (by decide +kernel) ⟨dc_ra (Nat.le_of_ble_eq_true rfl), dc_ra (Nat.le_of_ble_eq_true rfl)⟩ rfl hl.1 rfl (Nat.le_of_ble_eq_true rfl) dn_M_expGrammar_50 ⟨Nat.le_of_ble_eq_true rfl, Nat.le_of_ble_eq_true rfl⟩) hP hD hS hA (fun _ H locs hw hP hD hS => ?_)
      refine lv_aload_n hx hb dn_M_expGrammar_53 rfl (lv_at hl 0 rfl) ?_
      obtain ⟨q_6, hc_7, hf⟩ := dc_b hf
      refine dc_callv (dc_runV (ar := 0) (As := []) (rest := []) (ci := 0) (q0 := 0) ⟨hx, hb, hml, hown, hg⟩ hK hN hT hS hA (hr_M_expGrammar H.size h0 a q_4.2 q_6 hc_7) hP hD rfl rfl wn_9_222 wn_9_224 sn_M_expGrammar wn_1_13 wn_9_225 rfl rfl (by decide +kernel) ⟨Nat.le_refl _, dc_lm (Nat.le_of_ble_eq_true rfl)⟩ rfl hl.1 rfl (Nat.le_of_ble_eq_true rfl) dn_M_expGrammar_54 ⟨Nat.le_of_ble_eq_true rfl, Nat.le_of_ble_eq_true rfl⟩) hP hD hS hA (fun _ H locs hw hP hD hS => ?_)
      refine lv_aload_n hx hb dn_M_expGrammar_57 rfl (lv_at hl 0 rfl) ?_
      refine lv_bipush (v := 58) hx hb dn_M_expGrammar_58 (by decide) ?_
      obtain ⟨q_8, hc_9, hf⟩ := dc_b hf
      refine dc_callv (dc_runV (ar := 1) (As := [.int 58]) (rest := []) (ci := 0) (q0 := 0) ⟨hx, hb, hml, hown, hg⟩ hK hN hT hS hA (ct_M_take l dC dI cI cB cJ cZ cQ N H.size h0 a 58 q_6.2 q_8 hc_9) hP hD rfl rfl wn_9_178 wn_9_180 sn_M_take wn_1_13 wn_9_181 rfl rfl (by decide +kernel) ⟨dc_ra (Nat.le_of_ble_eq_true rfl), dc_ra (Nat.le_of_ble_eq_true rfl)⟩ rfl hl.1 rfl (Nat.le_of_ble_eq_true rfl) dn_M_expGrammar_60 ⟨Nat.le_of_ble_eq_true rfl, Nat.le_of_ble_eq_true rfl⟩) hP hD hS hA (fun _ H locs hw hP hD hS => ?_)
      refine lv_aload_n hx hb dn_M_expGrammar_63 rfl (lv_at hl 0 rfl) ?_
      obtain ⟨q_10, hc_11, hf⟩ := dc_b hf
      refine dc_callv (dc_runV (ar := 0) (As := []) (rest := []) (ci := 0) (q0 := 0) ⟨hx, hb, hml, hown, hg⟩ hK hN hT hS hA (hr_M_expGrammar H.size h0 a q_8.2 q_10 hc_11) hP hD rfl rfl wn_9_222 wn_9_224 sn_M_expGrammar wn_1_13 wn_9_225 rfl rfl (by decide +kernel) ⟨Nat.le_refl _, dc_lm (Nat.le_of_ble_eq_true rfl)⟩ rfl hl.1 rfl (Nat.le_of_ble_eq_true rfl) dn_M_expGrammar_64 ⟨Nat.le_of_ble_eq_true rfl, Nat.le_of_ble_eq_true rfl⟩) hP hD hS hA (fun _ H locs hw hP hD hS => ?_)
      refine lv_aload_n hx hb dn_M_expGrammar_67 rfl (lv_at hl 0 rfl) ?_
      refine lv_dup hx hb dn_M_expGrammar_68 rfl ?_
      refine va_get (D := (dC, dI)) (ci := 0) (v := .int ((q_10.2.1 11 0))) (C := rn_M) (T := fn_M) (N := 91) hx hb hg in_M hown hK hP 0 rfl rfl 11 (by decide) (hg _ wn_8_84) (fun _ h9 => h9) rfl dn_M_expGrammar_69 ?_
      refine lv_iconst (v := 1) hx hb dn_M_expGrammar_72 (by decide) ?_
      refine lv_isub hx hb dn_M_expGrammar_73 ?_
      refine va_put (D := (dC, dI)) (ci := 0) (v := .int (((q_10.2.1 11 0) - 1))) (ty := .int) (C := rn_M) (T := fn_M) (N := 91) hx hb hg in_M tn_M tk_M nn_M hown hK hP hD hS 0 rfl rfl 11 (by decide) (hg _ wn_8_84) (fun _ h9 => h9) rfl (tk_M 11 (by decide)) rfl rfl (Nat.le_of_ble_eq_true rfl) dn_M_expGrammar_74 (fun H locs hP hD hS => ?_)
      have hP := wM_P_11 hP
      have hD := wM_D_11 hD
      rw [hQQ, ← Option.some.inj hf]
      exact xk_vret (w1 := fun u : Unit => (wM h0 a cI cB cJ cZ (upI q_10.2 11 (fun _ => ((q_10.2.1 11 0) - 1))))) () hx hb hr hlocks hK hS dn_M_expGrammar_77 hP hD trivial (Nat.le_refl _) (Nat.le_refl _)
  have hd_4 : ∀ (n : Nat) (s : ms), hd_M_expGrammar_4 N r_M_expGrammar r_M_operandGrammar r_M_bracesGrammar n s = some y → dcC p l e ({ frames := 4 + (d + 1), cells := 0, slots := 0, locals := 84 + (d + 1) * 20 }) s0 m [.ref h0].toArray below meth c QQ (dC, dI) A (wM h0 a cI cB cJ cZ s) 4 1 [(0, .ref h0)] [] := by
    intro n
    induction n with
    | zero => intro s hf; cases hf
    | succ n ih =>
      intro s hf H locs ls hP hD hS hl
      have hf : bd_M_expGrammar_4 N r_M_expGrammar r_M_operandGrammar r_M_bracesGrammar (hd_M_expGrammar_4 N r_M_expGrammar r_M_operandGrammar r_M_bracesGrammar n) s = some y := hf
      have hk_4 := ih
      generalize hd_M_expGrammar_4 N r_M_expGrammar r_M_operandGrammar r_M_bracesGrammar n = k_4 at hf hk_4
      unfold bd_M_expGrammar_4 at hf
      refine lv_aload_n hx hb dn_M_expGrammar_4 rfl (lv_at hl 0 rfl) ?_
      refine va_get (D := (dC, dI)) (ci := 0) (v := .int ((s.1 9 0))) (C := rn_M) (T := fn_M) (N := 91) hx hb hg in_M hown hK hP 0 rfl rfl 9 (by decide) (hg _ wn_8_82) (fun _ h9 => h9) rfl dn_M_expGrammar_5 ?_
      refine lv_if_ne (tgt := 38) hx hb dn_M_expGrammar_8 (by decide) (fun h => ?_) (fun h => ?_)
      · have hf := (if_neg h).symm.trans hf
        exact bl_38 s hf H locs ls hP hD hS hl
      · have hf := (if_pos h).symm.trans hf
        refine lv_aload_n hx hb dn_M_expGrammar_11 rfl (lv_at hl 0 rfl) ?_
        obtain ⟨q_1, hc_2, hf⟩ := dc_b hf
        refine dc_calli (dc_runV (ar := 0) (As := []) (rest := []) (ci := 0) (q0 := 0) ⟨hx, hb, hml, hown, hg⟩ hK hN hT hS hA (ct_M_kind l dC dI cI cB cJ cZ cQ N H.size h0 a s q_1 hc_2) hP hD rfl rfl wn_9_214 wn_9_216 sn_M_kind wn_1_13 wn_9_217 rfl rfl (by decide +kernel) ⟨dc_ra (Nat.le_of_ble_eq_true rfl), dc_ra (Nat.le_of_ble_eq_true rfl)⟩ rfl hl.1 rfl (Nat.le_of_ble_eq_true rfl) dn_M_expGrammar_12 ⟨Nat.le_of_ble_eq_true rfl, Nat.le_of_ble_eq_true rfl⟩) hP hD hS hA (fun r_3 _ H locs hw hP hD hS => ?_)
        have hw : r_3 = q_1.1 := hw
        subst hw
        obtain ⟨q_4, hc_5, hf⟩ := dc_b hf
        refine dc_calli (dc_runS (ar := 1) (As := [.int q_1.1]) (rest := []) ⟨hx, hb, hml, hown, hg⟩ hK hN hT hS hA (ct_M_rank l dC dI cI cB cJ cZ cQ N H.size h0 a q_1.1 q_1.2 q_4 hc_5) hP hD wn_10_1 wn_10_2 wn_1_13 wn_10_3 rfl rfl (by decide +kernel) ⟨dc_ra (Nat.le_of_ble_eq_true rfl), dc_ra (Nat.le_of_ble_eq_true rfl)⟩ rfl hl.1 rfl (Nat.le_of_ble_eq_true rfl) dn_M_expGrammar_15 ⟨Nat.le_of_ble_eq_true rfl, Nat.le_of_ble_eq_true rfl⟩) hP hD hS hA (fun r_6 _ H locs hw hP hD hS => ?_)
        have hw : r_6 = q_4.1 := hw
        subst hw
        refine lv_if_le (tgt := 38) hx hb dn_M_expGrammar_18 (by decide) (fun h => ?_) (fun h => ?_)
        · have hf := (if_pos h).symm.trans hf
          exact bl_38 q_4.2 hf H locs ls hP hD hS hl
        · have hf := (if_neg h).symm.trans hf
          refine lv_aload_n hx hb dn_M_expGrammar_21 rfl (lv_at hl 0 rfl) ?_
          refine lv_dup hx hb dn_M_expGrammar_22 rfl ?_
          refine va_get (D := (dC, dI)) (ci := 0) (v := .int ((q_4.2.1 8 0))) (C := rn_M) (T := fn_M) (N := 91) hx hb hg in_M hown hK hP 0 rfl rfl 8 (by decide) (hg _ wn_8_81) (fun _ h9 => h9) rfl dn_M_expGrammar_23 ?_
          refine lv_iconst (v := 1) hx hb dn_M_expGrammar_26 (by decide) ?_
          refine lv_iadd hx hb dn_M_expGrammar_27 ?_
          refine va_put (D := (dC, dI)) (ci := 0) (v := .int (((q_4.2.1 8 0) + 1))) (ty := .int) (C := rn_M) (T := fn_M) (N := 91) hx hb hg in_M tn_M tk_M nn_M hown hK hP hD hS 0 rfl rfl 8 (by decide) (hg _ wn_8_81) (fun _ h9 => h9) rfl (tk_M 8 (by decide)) rfl rfl (Nat.le_of_ble_eq_true rfl) dn_M_expGrammar_28 (fun H locs hP hD hS => ?_)
          have hP := wM_P_8 hP
          have hD := wM_D_8 hD
          refine lv_aload_n hx hb dn_M_expGrammar_31 rfl (lv_at hl 0 rfl) ?_
          obtain ⟨q_7, hc_8, hf⟩ := dc_b hf
          refine dc_callv (dc_runV (ar := 0) (As := []) (rest := []) (ci := 0) (q0 := 0) ⟨hx, hb, hml, hown, hg⟩ hK hN hT hS hA (hr_M_operandGrammar H.size h0 a (upI q_4.2 8 (fun _ => ((q_4.2.1 8 0) + 1))) q_7 hc_8) hP hD rfl rfl wn_9_226 wn_9_228 sn_M_operandGrammar wn_1_13 wn_9_229 rfl rfl (by decide +kernel) ⟨Nat.le_refl _, dc_lm (Nat.le_of_ble_eq_true rfl)⟩ rfl hl.1 rfl (Nat.le_of_ble_eq_true rfl) dn_M_expGrammar_32 ⟨Nat.le_of_ble_eq_true rfl, Nat.le_of_ble_eq_true rfl⟩) hP hD hS hA (fun _ H locs hw hP hD hS => ?_)
          refine lv_goto (tgt := 4) hx hb dn_M_expGrammar_35 (by decide) ?_
          exact hk_4 q_7.2 hf H locs ls hP hD hS hl
  intro H locs ls hP hD hS hl
  unfold fb_M_expGrammar at hf
  refine lv_aload_n hx hb dn_M_expGrammar_0 rfl (lv_at hl 0 rfl) ?_
  obtain ⟨q_1, hc_2, hf⟩ := dc_b hf
  refine dc_callv (dc_runV (ar := 0) (As := []) (rest := []) (ci := 0) (q0 := 0) ⟨hx, hb, hml, hown, hg⟩ hK hN hT hS hA (hr_M_operandGrammar H.size h0 a s q_1 hc_2) hP hD rfl rfl wn_9_226 wn_9_228 sn_M_operandGrammar wn_1_13 wn_9_229 rfl rfl (by decide +kernel) ⟨Nat.le_refl _, dc_lm (Nat.le_of_ble_eq_true rfl)⟩ rfl hl.1 rfl (Nat.le_of_ble_eq_true rfl) dn_M_expGrammar_1 ⟨Nat.le_of_ble_eq_true rfl, Nat.le_of_ble_eq_true rfl⟩) hP hD hS hA (fun _ H locs hw hP hD hS => ?_)
  exact hd_4 N q_1.2 hf H locs ls hP hD hS hl
set_option maxHeartbeats 8000000 in
set_option maxRecDepth 100000 in
theorem cb_M_operandGrammar (l : Launch) (dC : Nat → ClassId) (dI : Nat → Nat → Nat) (cI cB cJ cZ cQ : ClassId) (N d : Nat) (r_M_expGrammar : ms → Option (Unit × ms)) (r_M_operandGrammar : ms → Option (Unit × ms)) (r_M_bracesGrammar : ms → Option (Unit × ms)) (hmr_M_expGrammar : ∀ (s : ms) (y : (Unit × ms)), r_M_expGrammar s = some y → gl y.2 = gl s) (hmr_M_operandGrammar : ∀ (s : ms) (y : (Unit × ms)), r_M_operandGrammar s = some y → gl y.2 = gl s) (hmr_M_bracesGrammar : ∀ (s : ms) (y : (Unit × ms)), r_M_bracesGrammar s = some y → gl y.2 = gl s) (hr_M_expGrammar : ∀ (sz : Nat) (h0 : Nat) (a : Nat → Nat) (s : ms) (y : (Unit × ms)), r_M_expGrammar s = some y → Met l yn_M_expGrammar (xw yn_M_expGrammar bn_M_expGrammar 1 none) ({ frames := 4 + d, cells := 0, slots := 0, locals := 84 + d * 20 }) (dc_P (dC, dI) xcl (xt cI cB cJ cZ cQ) [.ref h0] sz (wM h0 a cI cB cJ cZ s)) (xk_Qv (dC, dI) xcl (xt cI cB cJ cZ cQ) (fun _ : Unit => True) (fun u : Unit => (wM h0 a cI cB cJ cZ y.2)) (va_A (wM h0 a cI cB cJ cZ s) sz)) 0 0 (va_A (wM h0 a cI cB cJ cZ s) sz)) (hr_M_operandGrammar : ∀ (sz : Nat) (h0 : Nat) (a : Nat → Nat) (s : ms) (y : (Unit × ms)), r_M_operandGrammar s = some y → Met l yn_M_operandGrammar (xw yn_M_operandGrammar bn_M_operandGrammar 1 none) ({ frames := 4 + d, cells := 0, slots := 0, locals := 84 + d * 20 }) (dc_P (dC, dI) xcl (xt cI cB cJ cZ cQ) [.ref h0] sz (wM h0 a cI cB cJ cZ s)) (xk_Qv (dC, dI) xcl (xt cI cB cJ cZ cQ) (fun _ : Unit => True) (fun u : Unit => (wM h0 a cI cB cJ cZ y.2)) (va_A (wM h0 a cI cB cJ cZ s) sz)) 0 0 (va_A (wM h0 a cI cB cJ cZ s) sz)) (hr_M_bracesGrammar : ∀ (sz : Nat) (h0 : Nat) (a : Nat → Nat) (s : ms) (y : (Unit × ms)), r_M_bracesGrammar s = some y → Met l yn_M_bracesGrammar (xw yn_M_bracesGrammar bn_M_bracesGrammar 1 none) ({ frames := 4 + d, cells := 0, slots := 0, locals := 84 + d * 20 }) (dc_P (dC, dI) xcl (xt cI cB cJ cZ cQ) [.ref h0] sz (wM h0 a cI cB cJ cZ s)) (xk_Qv (dC, dI) xcl (xt cI cB cJ cZ cQ) (fun _ : Unit => True) (fun u : Unit => (wM h0 a cI cB cJ cZ y.2)) (va_A (wM h0 a cI cB cJ cZ s) sz)) 0 0 (va_A (wM h0 a cI cB cJ cZ s) sz)) (sz : Nat) (h0 : Nat) (a : Nat → Nat) (s : ms) (y : (Unit × ms)) (hf : fb_M_operandGrammar N r_M_expGrammar r_M_operandGrammar r_M_bracesGrammar s = some y) : Met l yn_M_operandGrammar (xw yn_M_operandGrammar bn_M_operandGrammar 1 none) ({ frames := 4 + (d + 1), cells := 0, slots := 0, locals := 84 + (d + 1) * 20 }) (dc_P (dC, dI) xcl (xt cI cB cJ cZ cQ) [.ref h0] sz (wM h0 a cI cB cJ cZ s)) (xk_Qv (dC, dI) xcl (xt cI cB cJ cZ cQ) (fun _ : Unit => True) (fun u : Unit => (wM h0 a cI cB cJ cZ y.2)) (va_A (wM h0 a cI cB cJ cZ s) sz)) 0 0 (va_A (wM h0 a cI cB cJ cZ s) sz) := by
  refine dc_of (QA := xk_Qv (dC, dI) xcl (xt cI cB cJ cZ cQ) (fun _ : Unit => True) (fun u : Unit => (wM h0 a cI cB cJ cZ y.2))) (by decide) (Nat.le_of_ble_eq_true rfl) ?_
  intro p e s0 m below meth c hx hb hml hown hg hr hlocks hin hP hK hN A hA hD hT ls hl
  have hown : s0.vm.findClass rn_M = some m.cls := hown
  obtain ⟨H, hH⟩ : ∃ z, z = s0.heap := ⟨_, rfl⟩
  rw [← hH] at hP
  have hS : va_S A s0.heap H [] := by rw [hH]; exact va_S.rf
  suffices kk : ∀ QQ : State → Prop, QQ = MQ below (xk_Qv (dC, dI) xcl (xt cI cB cJ cZ cQ) (fun _ : Unit => True) (fun u : Unit => (wM h0 a cI cB cJ cZ y.2)) A) [.ref h0].toArray s0 0 0 A → dcC p l e ({ frames := 4 + (d + 1), cells := 0, slots := 0, locals := 84 + (d + 1) * 20 }) s0 m [.ref h0].toArray below meth c QQ (dC, dI) A (wM h0 a cI cB cJ cZ s) 0 1 [(0, .ref h0)] [] by
    have k9 := kk _ rfl H [] ls hP hD hS hl
    rw [hH] at k9; exact k9
  clear hP hD hS hl hH H ls
  intro QQ hQQ
  have bl_109 : ∀ (s : ms), bk_M_operandGrammar_109 N r_M_expGrammar r_M_operandGrammar r_M_bracesGrammar s = some y → dcC p l e ({ frames := 4 + (d + 1), cells := 0, slots := 0, locals := 84 + (d + 1) * 20 }) s0 m [.ref h0].toArray below meth c QQ (dC, dI) A (wM h0 a cI cB cJ cZ s) 109 1 [(0, .ref h0)] [] := by
    intro s hf H locs ls hP hD hS hl
    unfold bk_M_operandGrammar_109 at hf
    refine lv_aload_n hx hb dn_M_operandGrammar_109 rfl (lv_at hl 0 rfl) ?_
    refine lv_bipush (v := 93) hx hb dn_M_operandGrammar_110 (by decide) ?_
    obtain ⟨q_1, hc_2, hf⟩ := dc_b hf
    refine dc_callv (dc_runV (ar := 1) (As := [.int 93]) (rest := []) (ci := 0) (q0 := 0) ⟨hx, hb, hml, hown, hg⟩ hK hN hT hS hA (ct_M_shut l dC dI cI cB cJ cZ cQ N H.size h0 a 93 s q_1 hc_2) hP hD rfl rfl wn_9_206 wn_9_208 sn_M_shut wn_1_13 wn_9_209 rfl rfl (by decide +kernel) ⟨dc_ra (Nat.le_of_ble_eq_true rfl), dc_ra (Nat.le_of_ble_eq_true rfl)⟩ rfl hl.1 rfl (Nat.le_of_ble_eq_true rfl) dn_M_operandGrammar_112 ⟨Nat.le_of_ble_eq_true rfl, Nat.le_of_ble_eq_true rfl⟩) hP hD hS hA (fun _ H locs hw hP hD hS => ?_)
    refine lv_goto (tgt := 166) hx hb dn_M_operandGrammar_115 (by decide) ?_
    rw [hQQ, ← Option.some.inj hf]
    exact xk_vret (w1 := fun u : Unit => (wM h0 a cI cB cJ cZ q_1.2)) () hx hb hr hlocks hK hS dn_M_operandGrammar_166 hP hD trivial (Nat.le_refl _) (Nat.le_refl _)
  have bl_30 : ∀ (s : ms), bk_M_operandGrammar_30 N r_M_expGrammar r_M_operandGrammar r_M_bracesGrammar s = some y → dcC p l e ({ frames := 4 + (d + 1), cells := 0, slots := 0, locals := 84 + (d + 1) * 20 }) s0 m [.ref h0].toArray below meth c QQ (dC, dI) A (wM h0 a cI cB cJ cZ s) 30 1 [(0, .ref h0)] [] := by
    intro s hf H locs ls hP hD hS hl
    unfold bk_M_operandGrammar_30 at hf
    refine lv_aload_n hx hb dn_M_operandGrammar_30 rfl (lv_at hl 0 rfl) ?_
    refine lv_sipush (v := 402) hx hb dn_M_operandGrammar_31 (by decide) ?_
    obtain ⟨q_1, hc_2, hf⟩ := dc_b hf
    refine dc_calli (dc_runV (ar := 1) (As := [.int 402]) (rest := []) (ci := 0) (q0 := 0) ⟨hx, hb, hml, hown, hg⟩ hK hN hT hS hA (ct_M_is l dC dI cI cB cJ cZ cQ N H.size h0 a 402 s q_1 hc_2) hP hD rfl rfl wn_9_194 wn_9_196 sn_M_is wn_1_13 wn_9_197 rfl rfl (by decide +kernel) ⟨dc_ra (Nat.le_of_ble_eq_true rfl), dc_ra (Nat.le_of_ble_eq_true rfl)⟩ rfl hl.1 rfl (Nat.le_of_ble_eq_true rfl) dn_M_operandGrammar_34 ⟨Nat.le_of_ble_eq_true rfl, Nat.le_of_ble_eq_true rfl⟩) hP hD hS hA (fun r_3 _ H locs hw hP hD hS => ?_)
    have hw : r_3 = q_1.1 := hw
    subst hw
    refine lv_if_eq (tgt := 53) hx hb dn_M_operandGrammar_37 (by decide) (fun h => ?_) (fun h => ?_)
    · have hf := (if_pos h).symm.trans hf
      refine lv_aload_n hx hb dn_M_operandGrammar_53 rfl (lv_at hl 0 rfl) ?_
      refine lv_sipush (v := 400) hx hb dn_M_operandGrammar_54 (by decide) ?_
      obtain ⟨q_4, hc_5, hf⟩ := dc_b hf
      refine dc_calli (dc_runV (ar := 1) (As := [.int 400]) (rest := []) (ci := 0) (q0 := 0) ⟨hx, hb, hml, hown, hg⟩ hK hN hT hS hA (ct_M_is l dC dI cI cB cJ cZ cQ N H.size h0 a 400 q_1.2 q_4 hc_5) hP hD rfl rfl wn_9_194 wn_9_196 sn_M_is wn_1_13 wn_9_197 rfl rfl (by decide +kernel) ⟨dc_ra (Nat.le_of_ble_eq_true rfl), dc_ra (Nat.le_of_ble_eq_true rfl)⟩ rfl hl.1 rfl (Nat.le_of_ble_eq_true rfl) dn_M_operandGrammar_57 ⟨Nat.le_of_ble_eq_true rfl, Nat.le_of_ble_eq_true rfl⟩) hP hD hS hA (fun r_6 _ H locs hw hP hD hS => ?_)
      have hw : r_6 = q_4.1 := hw
      subst hw
      refine lv_if_eq (tgt := 118) hx hb dn_M_operandGrammar_60 (by decide) (fun h => ?_) (fun h => ?_)
      · have hf := (if_pos h).symm.trans hf
        refine lv_aload_n hx hb dn_M_operandGrammar_118 rfl (lv_at hl 0 rfl) ?_
        refine lv_bipush (v := 40) hx hb dn_M_operandGrammar_119 (by decide) ?_
        obtain ⟨q_7, hc_8, hf⟩ := dc_b hf
        refine dc_calli (dc_runV (ar := 1) (As := [.int 40]) (rest := []) (ci := 0) (q0 := 0) ⟨hx, hb, hml, hown, hg⟩ hK hN hT hS hA (ct_M_is l dC dI cI cB cJ cZ cQ N H.size h0 a 40 q_4.2 q_7 hc_8) hP hD rfl rfl wn_9_194 wn_9_196 sn_M_is wn_1_13 wn_9_197 rfl rfl (by decide +kernel) ⟨dc_ra (Nat.le_of_ble_eq_true rfl), dc_ra (Nat.le_of_ble_eq_true rfl)⟩ rfl hl.1 rfl (Nat.le_of_ble_eq_true rfl) dn_M_operandGrammar_121 ⟨Nat.le_of_ble_eq_true rfl, Nat.le_of_ble_eq_true rfl⟩) hP hD hS hA (fun r_9 _ H locs hw hP hD hS => ?_)
        have hw : r_9 = q_7.1 := hw
        subst hw
        refine lv_if_eq (tgt := 146) hx hb dn_M_operandGrammar_124 (by decide) (fun h => ?_) (fun h => ?_)
        · have hf := (if_pos h).symm.trans hf
          refine lv_aload_n hx hb dn_M_operandGrammar_146 rfl (lv_at hl 0 rfl) ?_
          refine lv_bipush (v := 123) hx hb dn_M_operandGrammar_147 (by decide) ?_
          obtain ⟨q_10, hc_11, hf⟩ := dc_b hf
          refine dc_calli (dc_runV (ar := 1) (As := [.int 123]) (rest := []) (ci := 0) (q0 := 0) ⟨hx, hb, hml, hown, hg⟩ hK hN hT hS hA (ct_M_is l dC dI cI cB cJ cZ cQ N H.size h0 a 123 q_7.2 q_10 hc_11) hP hD rfl rfl wn_9_194 wn_9_196 sn_M_is wn_1_13 wn_9_197 rfl rfl (by decide +kernel) ⟨dc_ra (Nat.le_of_ble_eq_true rfl), dc_ra (Nat.le_of_ble_eq_true rfl)⟩ rfl hl.1 rfl (Nat.le_of_ble_eq_true rfl) dn_M_operandGrammar_149 ⟨Nat.le_of_ble_eq_true rfl, Nat.le_of_ble_eq_true rfl⟩) hP hD hS hA (fun r_12 _ H locs hw hP hD hS => ?_)
          have hw : r_12 = q_10.1 := hw
          subst hw
          refine lv_if_eq (tgt := 162) hx hb dn_M_operandGrammar_152 (by decide) (fun h => ?_) (fun h => ?_)
          · have hf := (if_pos h).symm.trans hf
            refine lv_aload_n hx hb dn_M_operandGrammar_162 rfl (lv_at hl 0 rfl) ?_
            obtain ⟨q_13, hc_14, hf⟩ := dc_b hf
            refine dc_callv (dc_runV (ar := 0) (As := []) (rest := []) (ci := 0) (q0 := 0) ⟨hx, hb, hml, hown, hg⟩ hK hN hT hS hA (ct_M_no l dC dI cI cB cJ cZ cQ N H.size h0 a q_10.2 q_13 hc_14) hP hD rfl rfl wn_9_182 wn_9_184 sn_M_no wn_1_13 wn_9_185 rfl rfl (by decide +kernel) ⟨dc_ra (Nat.le_of_ble_eq_true rfl), dc_ra (Nat.le_of_ble_eq_true rfl)⟩ rfl hl.1 rfl (Nat.le_of_ble_eq_true rfl) dn_M_operandGrammar_163 ⟨Nat.le_of_ble_eq_true rfl, Nat.le_of_ble_eq_true rfl⟩) hP hD hS hA (fun _ H locs hw hP hD hS => ?_)
            rw [hQQ, ← Option.some.inj hf]
            exact xk_vret (w1 := fun u : Unit => (wM h0 a cI cB cJ cZ q_13.2)) () hx hb hr hlocks hK hS dn_M_operandGrammar_166 hP hD trivial (Nat.le_refl _) (Nat.le_refl _)
          · have hf := (if_neg h).symm.trans hf
            refine lv_aload_n hx hb dn_M_operandGrammar_155 rfl (lv_at hl 0 rfl) ?_
            obtain ⟨q_13, hc_14, hf⟩ := dc_b hf
            refine dc_callv (dc_runV (ar := 0) (As := []) (rest := []) (ci := 0) (q0 := 0) ⟨hx, hb, hml, hown, hg⟩ hK hN hT hS hA (hr_M_bracesGrammar H.size h0 a q_10.2 q_13 hc_14) hP hD rfl rfl wn_9_237 wn_9_239 sn_M_bracesGrammar wn_1_13 wn_10_0 rfl rfl (by decide +kernel) ⟨Nat.le_refl _, dc_lm (Nat.le_of_ble_eq_true rfl)⟩ rfl hl.1 rfl (Nat.le_of_ble_eq_true rfl) dn_M_operandGrammar_156 ⟨Nat.le_of_ble_eq_true rfl, Nat.le_of_ble_eq_true rfl⟩) hP hD hS hA (fun _ H locs hw hP hD hS => ?_)
            refine lv_goto (tgt := 166) hx hb dn_M_operandGrammar_159 (by decide) ?_
            rw [hQQ, ← Option.some.inj hf]
            exact xk_vret (w1 := fun u : Unit => (wM h0 a cI cB cJ cZ q_13.2)) () hx hb hr hlocks hK hS dn_M_operandGrammar_166 hP hD trivial (Nat.le_refl _) (Nat.le_refl _)
        · have hf := (if_neg h).symm.trans hf
          refine lv_aload_n hx hb dn_M_operandGrammar_127 rfl (lv_at hl 0 rfl) ?_
          refine lv_bipush (v := 40) hx hb dn_M_operandGrammar_128 (by decide) ?_
          obtain ⟨q_10, hc_11, hf⟩ := dc_b hf
          refine dc_callv (dc_runV (ar := 1) (As := [.int 40]) (rest := []) (ci := 0) (q0 := 0) ⟨hx, hb, hml, hown, hg⟩ hK hN hT hS hA (ct_M_open l dC dI cI cB cJ cZ cQ N H.size h0 a 40 q_7.2 q_10 hc_11) hP hD rfl rfl wn_9_190 wn_9_192 sn_M_open wn_1_13 wn_9_193 rfl rfl (by decide +kernel) ⟨dc_ra (Nat.le_of_ble_eq_true rfl), dc_ra (Nat.le_of_ble_eq_true rfl)⟩ rfl hl.1 rfl (Nat.le_of_ble_eq_true rfl) dn_M_operandGrammar_130 ⟨Nat.le_of_ble_eq_true rfl, Nat.le_of_ble_eq_true rfl⟩) hP hD hS hA (fun _ H locs hw hP hD hS => ?_)
          refine lv_aload_n hx hb dn_M_operandGrammar_133 rfl (lv_at hl 0 rfl) ?_
          obtain ⟨q_12, hc_13, hf⟩ := dc_b hf
          refine dc_callv (dc_runV (ar := 0) (As := []) (rest := []) (ci := 0) (q0 := 0) ⟨hx, hb, hml, hown, hg⟩ hK hN hT hS hA (hr_M_expGrammar H.size h0 a q_10.2 q_12 hc_13) hP hD rfl rfl wn_9_222 wn_9_224 sn_M_expGrammar wn_1_13 wn_9_225 rfl rfl (by decide +kernel) ⟨Nat.le_refl _, dc_lm (Nat.le_of_ble_eq_true rfl)⟩ rfl hl.1 rfl (Nat.le_of_ble_eq_true rfl) dn_M_operandGrammar_134 ⟨Nat.le_of_ble_eq_true rfl, Nat.le_of_ble_eq_true rfl⟩) hP hD hS hA (fun _ H locs hw hP hD hS => ?_)
          refine lv_aload_n hx hb dn_M_operandGrammar_137 rfl (lv_at hl 0 rfl) ?_
          refine lv_bipush (v := 41) hx hb dn_M_operandGrammar_138 (by decide) ?_
          obtain ⟨q_14, hc_15, hf⟩ := dc_b hf
          refine dc_callv (dc_runV (ar := 1) (As := [.int 41]) (rest := []) (ci := 0) (q0 := 0) ⟨hx, hb, hml, hown, hg⟩ hK hN hT hS hA (ct_M_shut l dC dI cI cB cJ cZ cQ N H.size h0 a 41 q_12.2 q_14 hc_15) hP hD rfl rfl wn_9_206 wn_9_208 sn_M_shut wn_1_13 wn_9_209 rfl rfl (by decide +kernel) ⟨dc_ra (Nat.le_of_ble_eq_true rfl), dc_ra (Nat.le_of_ble_eq_true rfl)⟩ rfl hl.1 rfl (Nat.le_of_ble_eq_true rfl) dn_M_operandGrammar_140 ⟨Nat.le_of_ble_eq_true rfl, Nat.le_of_ble_eq_true rfl⟩) hP hD hS hA (fun _ H locs hw hP hD hS => ?_)
          refine lv_goto (tgt := 166) hx hb dn_M_operandGrammar_143 (by decide) ?_
          rw [hQQ, ← Option.some.inj hf]
          exact xk_vret (w1 := fun u : Unit => (wM h0 a cI cB cJ cZ q_14.2)) () hx hb hr hlocks hK hS dn_M_operandGrammar_166 hP hD trivial (Nat.le_refl _) (Nat.le_refl _)
      · have hf := (if_neg h).symm.trans hf
        refine lv_aload_n hx hb dn_M_operandGrammar_63 rfl (lv_at hl 0 rfl) ?_
        refine lv_dup hx hb dn_M_operandGrammar_64 rfl ?_
        refine va_get (D := (dC, dI)) (ci := 0) (v := .int ((q_4.2.1 8 0))) (C := rn_M) (T := fn_M) (N := 91) hx hb hg in_M hown hK hP 0 rfl rfl 8 (by decide) (hg _ wn_8_81) (fun _ h9 => h9) rfl dn_M_operandGrammar_65 ?_
        refine lv_iconst (v := 1) hx hb dn_M_operandGrammar_68 (by decide) ?_
        refine lv_iadd hx hb dn_M_operandGrammar_69 ?_
        refine va_put (D := (dC, dI)) (ci := 0) (v := .int (((q_4.2.1 8 0) + 1))) (ty := .int) (C := rn_M) (T := fn_M) (N := 91) hx hb hg in_M tn_M tk_M nn_M hown hK hP hD hS 0 rfl rfl 8 (by decide) (hg _ wn_8_81) (fun _ h9 => h9) rfl (tk_M 8 (by decide)) rfl rfl (Nat.le_of_ble_eq_true rfl) dn_M_operandGrammar_70 (fun H locs hP hD hS => ?_)
        have hP := wM_P_8 hP
        have hD := wM_D_8 hD
        refine lv_aload_n hx hb dn_M_operandGrammar_73 rfl (lv_at hl 0 rfl) ?_
        refine lv_bipush (v := 91) hx hb dn_M_operandGrammar_74 (by decide) ?_
        obtain ⟨q_7, hc_8, hf⟩ := dc_b hf
        refine dc_calli (dc_runV (ar := 1) (As := [.int 91]) (rest := []) (ci := 0) (q0 := 0) ⟨hx, hb, hml, hown, hg⟩ hK hN hT hS hA (ct_M_is l dC dI cI cB cJ cZ cQ N H.size h0 a 91 (upI q_4.2 8 (fun _ => ((q_4.2.1 8 0) + 1))) q_7 hc_8) hP hD rfl rfl wn_9_194 wn_9_196 sn_M_is wn_1_13 wn_9_197 rfl rfl (by decide +kernel) ⟨dc_ra (Nat.le_of_ble_eq_true rfl), dc_ra (Nat.le_of_ble_eq_true rfl)⟩ rfl hl.1 rfl (Nat.le_of_ble_eq_true rfl) dn_M_operandGrammar_76 ⟨Nat.le_of_ble_eq_true rfl, Nat.le_of_ble_eq_true rfl⟩) hP hD hS hA (fun r_9 _ H locs hw hP hD hS => ?_)
        have hw : r_9 = q_7.1 := hw
        subst hw
        refine lv_if_eq (tgt := 166) hx hb dn_M_operandGrammar_79 (by decide) (fun h => ?_) (fun h => ?_)
        · have hf := (if_pos h).symm.trans hf
          rw [hQQ, ← Option.some.inj hf]
          exact xk_vret (w1 := fun u : Unit => (wM h0 a cI cB cJ cZ q_7.2)) () hx hb hr hlocks hK hS dn_M_operandGrammar_166 hP hD trivial (Nat.le_refl _) (Nat.le_refl _)
        · have hf := (if_neg h).symm.trans hf
          refine lv_aload_n hx hb dn_M_operandGrammar_82 rfl (lv_at hl 0 rfl) ?_
          refine lv_bipush (v := 91) hx hb dn_M_operandGrammar_83 (by decide) ?_
          obtain ⟨q_10, hc_11, hf⟩ := dc_b hf
          refine dc_callv (dc_runV (ar := 1) (As := [.int 91]) (rest := []) (ci := 0) (q0 := 0) ⟨hx, hb, hml, hown, hg⟩ hK hN hT hS hA (ct_M_open l dC dI cI cB cJ cZ cQ N H.size h0 a 91 q_7.2 q_10 hc_11) hP hD rfl rfl wn_9_190 wn_9_192 sn_M_open wn_1_13 wn_9_193 rfl rfl (by decide +kernel) ⟨dc_ra (Nat.le_of_ble_eq_true rfl), dc_ra (Nat.le_of_ble_eq_true rfl)⟩ rfl hl.1 rfl (Nat.le_of_ble_eq_true rfl) dn_M_operandGrammar_85 ⟨Nat.le_of_ble_eq_true rfl, Nat.le_of_ble_eq_true rfl⟩) hP hD hS hA (fun _ H locs hw hP hD hS => ?_)
          refine lv_aload_n hx hb dn_M_operandGrammar_88 rfl (lv_at hl 0 rfl) ?_
          refine lv_sipush (v := 401) hx hb dn_M_operandGrammar_89 (by decide) ?_
          obtain ⟨q_12, hc_13, hf⟩ := dc_b hf
          refine dc_calli (dc_runV (ar := 1) (As := [.int 401]) (rest := []) (ci := 0) (q0 := 0) ⟨hx, hb, hml, hown, hg⟩ hK hN hT hS hA (ct_M_is l dC dI cI cB cJ cZ cQ N H.size h0 a 401 q_10.2 q_12 hc_13) hP hD rfl rfl wn_9_194 wn_9_196 sn_M_is wn_1_13 wn_9_197 rfl rfl (by decide +kernel) ⟨dc_ra (Nat.le_of_ble_eq_true rfl), dc_ra (Nat.le_of_ble_eq_true rfl)⟩ rfl hl.1 rfl (Nat.le_of_ble_eq_true rfl) dn_M_operandGrammar_92 ⟨Nat.le_of_ble_eq_true rfl, Nat.le_of_ble_eq_true rfl⟩) hP hD hS hA (fun r_14 _ H locs hw hP hD hS => ?_)
          have hw : r_14 = q_12.1 := hw
          subst hw
          refine lv_if_eq (tgt := 105) hx hb dn_M_operandGrammar_95 (by decide) (fun h => ?_) (fun h => ?_)
          · have hf := (if_pos h).symm.trans hf
            refine lv_aload_n hx hb dn_M_operandGrammar_105 rfl (lv_at hl 0 rfl) ?_
            obtain ⟨q_15, hc_16, hf⟩ := dc_b hf
            refine dc_callv (dc_runV (ar := 0) (As := []) (rest := []) (ci := 0) (q0 := 0) ⟨hx, hb, hml, hown, hg⟩ hK hN hT hS hA (hr_M_expGrammar H.size h0 a q_12.2 q_15 hc_16) hP hD rfl rfl wn_9_222 wn_9_224 sn_M_expGrammar wn_1_13 wn_9_225 rfl rfl (by decide +kernel) ⟨Nat.le_refl _, dc_lm (Nat.le_of_ble_eq_true rfl)⟩ rfl hl.1 rfl (Nat.le_of_ble_eq_true rfl) dn_M_operandGrammar_106 ⟨Nat.le_of_ble_eq_true rfl, Nat.le_of_ble_eq_true rfl⟩) hP hD hS hA (fun _ H locs hw hP hD hS => ?_)
            exact bl_109 q_15.2 hf H locs ls hP hD hS hl
          · have hf := (if_neg h).symm.trans hf
            refine lv_aload_n hx hb dn_M_operandGrammar_98 rfl (lv_at hl 0 rfl) ?_
            obtain ⟨q_15, hc_16, hf⟩ := dc_b hf
            refine dc_callv (dc_runV (ar := 0) (As := []) (rest := []) (ci := 0) (q0 := 0) ⟨hx, hb, hml, hown, hg⟩ hK hN hT hS hA (ct_M_partGrammar l dC dI cI cB cJ cZ cQ N H.size h0 a q_12.2 q_15 hc_16) hP hD rfl rfl wn_9_233 wn_9_235 sn_M_partGrammar wn_1_13 wn_9_236 rfl rfl (by decide +kernel) ⟨dc_ra (Nat.le_of_ble_eq_true rfl), dc_ra (Nat.le_of_ble_eq_true rfl)⟩ rfl hl.1 rfl (Nat.le_of_ble_eq_true rfl) dn_M_operandGrammar_99 ⟨Nat.le_of_ble_eq_true rfl, Nat.le_of_ble_eq_true rfl⟩) hP hD hS hA (fun _ H locs hw hP hD hS => ?_)
            refine lv_goto (tgt := 109) hx hb dn_M_operandGrammar_102 (by decide) ?_
            exact bl_109 q_15.2 hf H locs ls hP hD hS hl
    · have hf := (if_neg h).symm.trans hf
      refine lv_aload_n hx hb dn_M_operandGrammar_40 rfl (lv_at hl 0 rfl) ?_
      refine lv_dup hx hb dn_M_operandGrammar_41 rfl ?_
      refine va_get (D := (dC, dI)) (ci := 0) (v := .int ((q_1.2.1 8 0))) (C := rn_M) (T := fn_M) (N := 91) hx hb hg in_M hown hK hP 0 rfl rfl 8 (by decide) (hg _ wn_8_81) (fun _ h9 => h9) rfl dn_M_operandGrammar_42 ?_
      refine lv_iconst (v := 1) hx hb dn_M_operandGrammar_45 (by decide) ?_
      refine lv_iadd hx hb dn_M_operandGrammar_46 ?_
      refine va_put (D := (dC, dI)) (ci := 0) (v := .int (((q_1.2.1 8 0) + 1))) (ty := .int) (C := rn_M) (T := fn_M) (N := 91) hx hb hg in_M tn_M tk_M nn_M hown hK hP hD hS 0 rfl rfl 8 (by decide) (hg _ wn_8_81) (fun _ h9 => h9) rfl (tk_M 8 (by decide)) rfl rfl (Nat.le_of_ble_eq_true rfl) dn_M_operandGrammar_47 (fun H locs hP hD hS => ?_)
      have hP := wM_P_8 hP
      have hD := wM_D_8 hD
      refine lv_goto (tgt := 166) hx hb dn_M_operandGrammar_50 (by decide) ?_
      rw [hQQ, ← Option.some.inj hf]
      exact xk_vret (w1 := fun u : Unit => (wM h0 a cI cB cJ cZ (upI q_1.2 8 (fun _ => ((q_1.2.1 8 0) + 1))))) () hx hb hr hlocks hK hS dn_M_operandGrammar_166 hP hD trivial (Nat.le_refl _) (Nat.le_refl _)
  have hd_0 : ∀ (n : Nat) (s : ms), hd_M_operandGrammar_0 N r_M_expGrammar r_M_operandGrammar r_M_bracesGrammar n s = some y → dcC p l e ({ frames := 4 + (d + 1), cells := 0, slots := 0, locals := 84 + (d + 1) * 20 }) s0 m [.ref h0].toArray below meth c QQ (dC, dI) A (wM h0 a cI cB cJ cZ s) 0 1 [(0, .ref h0)] [] := by
    intro n
    induction n with
    | zero => intro s hf; cases hf
    | succ n ih =>
      intro s hf H locs ls hP hD hS hl
      have hf : bd_M_operandGrammar_0 N r_M_expGrammar r_M_operandGrammar r_M_bracesGrammar (hd_M_operandGrammar_0 N r_M_expGrammar r_M_operandGrammar r_M_bracesGrammar n) s = some y := hf
      have hk_0 := ih
      generalize hd_M_operandGrammar_0 N r_M_expGrammar r_M_operandGrammar r_M_bracesGrammar n = k_0 at hf hk_0
      unfold bd_M_operandGrammar_0 at hf
      refine lv_aload_n hx hb dn_M_operandGrammar_0 rfl (lv_at hl 0 rfl) ?_
      refine va_get (D := (dC, dI)) (ci := 0) (v := .int ((s.1 9 0))) (C := rn_M) (T := fn_M) (N := 91) hx hb hg in_M hown hK hP 0 rfl rfl 9 (by decide) (hg _ wn_8_82) (fun _ h9 => h9) rfl dn_M_operandGrammar_1 ?_
      refine lv_if_ne (tgt := 30) hx hb dn_M_operandGrammar_4 (by decide) (fun h => ?_) (fun h => ?_)
      · have hf := (if_neg h).symm.trans hf
        exact bl_30 s hf H locs ls hP hD hS hl
      · have hf := (if_pos h).symm.trans hf
        refine lv_aload_n hx hb dn_M_operandGrammar_7 rfl (lv_at hl 0 rfl) ?_
        obtain ⟨q_1, hc_2, hf⟩ := dc_b hf
        refine dc_calli (dc_runV (ar := 0) (As := []) (rest := []) (ci := 0) (q0 := 0) ⟨hx, hb, hml, hown, hg⟩ hK hN hT hS hA (ct_M_kind l dC dI cI cB cJ cZ cQ N H.size h0 a s q_1 hc_2) hP hD rfl rfl wn_9_214 wn_9_216 sn_M_kind wn_1_13 wn_9_217 rfl rfl (by decide +kernel) ⟨dc_ra (Nat.le_of_ble_eq_true rfl), dc_ra (Nat.le_of_ble_eq_true rfl)⟩ rfl hl.1 rfl (Nat.le_of_ble_eq_true rfl) dn_M_operandGrammar_8 ⟨Nat.le_of_ble_eq_true rfl, Nat.le_of_ble_eq_true rfl⟩) hP hD hS hA (fun r_3 _ H locs hw hP hD hS => ?_)
        have hw : r_3 = q_1.1 := hw
        subst hw
        obtain ⟨q_4, hc_5, hf⟩ := dc_b hf
        refine dc_calli (dc_runS (ar := 1) (As := [.int q_1.1]) (rest := []) ⟨hx, hb, hml, hown, hg⟩ hK hN hT hS hA (ct_M_isUnary l dC dI cI cB cJ cZ cQ N H.size h0 a q_1.1 q_1.2 q_4 hc_5) hP hD wn_9_230 wn_9_231 wn_1_13 wn_9_232 rfl rfl (by decide +kernel) ⟨dc_ra (Nat.le_of_ble_eq_true rfl), dc_ra (Nat.le_of_ble_eq_true rfl)⟩ rfl hl.1 rfl (Nat.le_of_ble_eq_true rfl) dn_M_operandGrammar_11 ⟨Nat.le_of_ble_eq_true rfl, Nat.le_of_ble_eq_true rfl⟩) hP hD hS hA (fun r_6 _ H locs hw hP hD hS => ?_)
        have hw : r_6 = q_4.1 := hw
        subst hw
        refine lv_if_eq (tgt := 30) hx hb dn_M_operandGrammar_14 (by decide) (fun h => ?_) (fun h => ?_)
        · have hf := (if_pos h).symm.trans hf
          exact bl_30 q_4.2 hf H locs ls hP hD hS hl
        · have hf := (if_neg h).symm.trans hf
          refine lv_aload_n hx hb dn_M_operandGrammar_17 rfl (lv_at hl 0 rfl) ?_
          refine lv_dup hx hb dn_M_operandGrammar_18 rfl ?_
          refine va_get (D := (dC, dI)) (ci := 0) (v := .int ((q_4.2.1 8 0))) (C := rn_M) (T := fn_M) (N := 91) hx hb hg in_M hown hK hP 0 rfl rfl 8 (by decide) (hg _ wn_8_81) (fun _ h9 => h9) rfl dn_M_operandGrammar_19 ?_
          refine lv_iconst (v := 1) hx hb dn_M_operandGrammar_22 (by decide) ?_
          refine lv_iadd hx hb dn_M_operandGrammar_23 ?_
          refine va_put (D := (dC, dI)) (ci := 0) (v := .int (((q_4.2.1 8 0) + 1))) (ty := .int) (C := rn_M) (T := fn_M) (N := 91) hx hb hg in_M tn_M tk_M nn_M hown hK hP hD hS 0 rfl rfl 8 (by decide) (hg _ wn_8_81) (fun _ h9 => h9) rfl (tk_M 8 (by decide)) rfl rfl (Nat.le_of_ble_eq_true rfl) dn_M_operandGrammar_24 (fun H locs hP hD hS => ?_)
          have hP := wM_P_8 hP
          have hD := wM_D_8 hD
          refine lv_goto (tgt := 0) hx hb dn_M_operandGrammar_27 (by decide) ?_
          exact hk_0 (upI q_4.2 8 (fun _ => ((q_4.2.1 8 0) + 1))) hf H locs ls hP hD hS hl
  intro H locs ls hP hD hS hl
  unfold fb_M_operandGrammar at hf
  exact hd_0 N s hf H locs ls hP hD hS hl
set_option maxHeartbeats 8000000 in
set_option maxRecDepth 100000 in
theorem cb_M_bracesGrammar (l : Launch) (dC : Nat → ClassId) (dI : Nat → Nat → Nat) (cI cB cJ cZ cQ : ClassId) (N d : Nat) (r_M_expGrammar : ms → Option (Unit × ms)) (r_M_operandGrammar : ms → Option (Unit × ms)) (r_M_bracesGrammar : ms → Option (Unit × ms)) (hmr_M_expGrammar : ∀ (s : ms) (y : (Unit × ms)), r_M_expGrammar s = some y → gl y.2 = gl s) (hmr_M_operandGrammar : ∀ (s : ms) (y : (Unit × ms)), r_M_operandGrammar s = some y → gl y.2 = gl s) (hmr_M_bracesGrammar : ∀ (s : ms) (y : (Unit × ms)), r_M_bracesGrammar s = some y → gl y.2 = gl s) (hr_M_expGrammar : ∀ (sz : Nat) (h0 : Nat) (a : Nat → Nat) (s : ms) (y : (Unit × ms)), r_M_expGrammar s = some y → Met l yn_M_expGrammar (xw yn_M_expGrammar bn_M_expGrammar 1 none) ({ frames := 4 + d, cells := 0, slots := 0, locals := 84 + d * 20 }) (dc_P (dC, dI) xcl (xt cI cB cJ cZ cQ) [.ref h0] sz (wM h0 a cI cB cJ cZ s)) (xk_Qv (dC, dI) xcl (xt cI cB cJ cZ cQ) (fun _ : Unit => True) (fun u : Unit => (wM h0 a cI cB cJ cZ y.2)) (va_A (wM h0 a cI cB cJ cZ s) sz)) 0 0 (va_A (wM h0 a cI cB cJ cZ s) sz)) (hr_M_operandGrammar : ∀ (sz : Nat) (h0 : Nat) (a : Nat → Nat) (s : ms) (y : (Unit × ms)), r_M_operandGrammar s = some y → Met l yn_M_operandGrammar (xw yn_M_operandGrammar bn_M_operandGrammar 1 none) ({ frames := 4 + d, cells := 0, slots := 0, locals := 84 + d * 20 }) (dc_P (dC, dI) xcl (xt cI cB cJ cZ cQ) [.ref h0] sz (wM h0 a cI cB cJ cZ s)) (xk_Qv (dC, dI) xcl (xt cI cB cJ cZ cQ) (fun _ : Unit => True) (fun u : Unit => (wM h0 a cI cB cJ cZ y.2)) (va_A (wM h0 a cI cB cJ cZ s) sz)) 0 0 (va_A (wM h0 a cI cB cJ cZ s) sz)) (hr_M_bracesGrammar : ∀ (sz : Nat) (h0 : Nat) (a : Nat → Nat) (s : ms) (y : (Unit × ms)), r_M_bracesGrammar s = some y → Met l yn_M_bracesGrammar (xw yn_M_bracesGrammar bn_M_bracesGrammar 1 none) ({ frames := 4 + d, cells := 0, slots := 0, locals := 84 + d * 20 }) (dc_P (dC, dI) xcl (xt cI cB cJ cZ cQ) [.ref h0] sz (wM h0 a cI cB cJ cZ s)) (xk_Qv (dC, dI) xcl (xt cI cB cJ cZ cQ) (fun _ : Unit => True) (fun u : Unit => (wM h0 a cI cB cJ cZ y.2)) (va_A (wM h0 a cI cB cJ cZ s) sz)) 0 0 (va_A (wM h0 a cI cB cJ cZ s) sz)) (sz : Nat) (h0 : Nat) (a : Nat → Nat) (s : ms) (y : (Unit × ms)) (hf : fb_M_bracesGrammar N r_M_expGrammar r_M_operandGrammar r_M_bracesGrammar s = some y) : Met l yn_M_bracesGrammar (xw yn_M_bracesGrammar bn_M_bracesGrammar 1 none) ({ frames := 4 + (d + 1), cells := 0, slots := 0, locals := 84 + (d + 1) * 20 }) (dc_P (dC, dI) xcl (xt cI cB cJ cZ cQ) [.ref h0] sz (wM h0 a cI cB cJ cZ s)) (xk_Qv (dC, dI) xcl (xt cI cB cJ cZ cQ) (fun _ : Unit => True) (fun u : Unit => (wM h0 a cI cB cJ cZ y.2)) (va_A (wM h0 a cI cB cJ cZ s) sz)) 0 0 (va_A (wM h0 a cI cB cJ cZ s) sz) := by
  refine dc_of (QA := xk_Qv (dC, dI) xcl (xt cI cB cJ cZ cQ) (fun _ : Unit => True) (fun u : Unit => (wM h0 a cI cB cJ cZ y.2))) (by decide) (Nat.le_of_ble_eq_true rfl) ?_
  intro p e s0 m below meth c hx hb hml hown hg hr hlocks hin hP hK hN A hA hD hT ls hl
  have hown : s0.vm.findClass rn_M = some m.cls := hown
  obtain ⟨H, hH⟩ : ∃ z, z = s0.heap := ⟨_, rfl⟩
  rw [← hH] at hP
  have hS : va_S A s0.heap H [] := by rw [hH]; exact va_S.rf
  suffices kk : ∀ QQ : State → Prop, QQ = MQ below (xk_Qv (dC, dI) xcl (xt cI cB cJ cZ cQ) (fun _ : Unit => True) (fun u : Unit => (wM h0 a cI cB cJ cZ y.2)) A) [.ref h0].toArray s0 0 0 A → dcC p l e ({ frames := 4 + (d + 1), cells := 0, slots := 0, locals := 84 + (d + 1) * 20 }) s0 m [.ref h0].toArray below meth c QQ (dC, dI) A (wM h0 a cI cB cJ cZ s) 0 1 [(0, .ref h0)] [] by
    have k9 := kk _ rfl H [] ls hP hD hS hl
    rw [hH] at k9; exact k9
  clear hP hD hS hl hH H ls
  intro QQ hQQ
  have bl_75 : ∀ (s : ms), bk_M_bracesGrammar_75 N r_M_expGrammar r_M_operandGrammar r_M_bracesGrammar s = some y → dcC p l e ({ frames := 4 + (d + 1), cells := 0, slots := 0, locals := 84 + (d + 1) * 20 }) s0 m [.ref h0].toArray below meth c QQ (dC, dI) A (wM h0 a cI cB cJ cZ s) 75 1 [(0, .ref h0)] [] := by
    intro s hf H locs ls hP hD hS hl
    unfold bk_M_bracesGrammar_75 at hf
    refine lv_aload_n hx hb dn_M_bracesGrammar_75 rfl (lv_at hl 0 rfl) ?_
    refine lv_bipush (v := 125) hx hb dn_M_bracesGrammar_76 (by decide) ?_
    obtain ⟨q_1, hc_2, hf⟩ := dc_b hf
    refine dc_callv (dc_runV (ar := 1) (As := [.int 125]) (rest := []) (ci := 0) (q0 := 0) ⟨hx, hb, hml, hown, hg⟩ hK hN hT hS hA (ct_M_shut l dC dI cI cB cJ cZ cQ N H.size h0 a 125 s q_1 hc_2) hP hD rfl rfl wn_9_206 wn_9_208 sn_M_shut wn_1_13 wn_9_209 rfl rfl (by decide +kernel) ⟨dc_ra (Nat.le_of_ble_eq_true rfl), dc_ra (Nat.le_of_ble_eq_true rfl)⟩ rfl hl.1 rfl (Nat.le_of_ble_eq_true rfl) dn_M_bracesGrammar_78 ⟨Nat.le_of_ble_eq_true rfl, Nat.le_of_ble_eq_true rfl⟩) hP hD hS hA (fun _ H locs hw hP hD hS => ?_)
    rw [hQQ, ← Option.some.inj hf]
    exact xk_vret (w1 := fun u : Unit => (wM h0 a cI cB cJ cZ q_1.2)) () hx hb hr hlocks hK hS dn_M_bracesGrammar_81 hP hD trivial (Nat.le_refl _) (Nat.le_refl _)
  have hd_49 : ∀ (n : Nat) (s : ms), hd_M_bracesGrammar_49 N r_M_expGrammar r_M_operandGrammar r_M_bracesGrammar n s = some y → dcC p l e ({ frames := 4 + (d + 1), cells := 0, slots := 0, locals := 84 + (d + 1) * 20 }) s0 m [.ref h0].toArray below meth c QQ (dC, dI) A (wM h0 a cI cB cJ cZ s) 49 1 [(0, .ref h0)] [] := by
    intro n
    induction n with
    | zero => intro s hf; cases hf
    | succ n ih =>
      intro s hf H locs ls hP hD hS hl
      have hf : bd_M_bracesGrammar_49 N r_M_expGrammar r_M_operandGrammar r_M_bracesGrammar (hd_M_bracesGrammar_49 N r_M_expGrammar r_M_operandGrammar r_M_bracesGrammar n) s = some y := hf
      have hk_49 := ih
      generalize hd_M_bracesGrammar_49 N r_M_expGrammar r_M_operandGrammar r_M_bracesGrammar n = k_49 at hf hk_49
      unfold bd_M_bracesGrammar_49 at hf
      refine lv_aload_n hx hb dn_M_bracesGrammar_49 rfl (lv_at hl 0 rfl) ?_
      refine lv_bipush (v := 44) hx hb dn_M_bracesGrammar_50 (by decide) ?_
      obtain ⟨q_1, hc_2, hf⟩ := dc_b hf
      refine dc_calli (dc_runV (ar := 1) (As := [.int 44]) (rest := []) (ci := 0) (q0 := 0) ⟨hx, hb, hml, hown, hg⟩ hK hN hT hS hA (ct_M_is l dC dI cI cB cJ cZ cQ N H.size h0 a 44 s q_1 hc_2) hP hD rfl rfl wn_9_194 wn_9_196 sn_M_is wn_1_13 wn_9_197 rfl rfl (by decide +kernel) ⟨dc_ra (Nat.le_of_ble_eq_true rfl), dc_ra (Nat.le_of_ble_eq_true rfl)⟩ rfl hl.1 rfl (Nat.le_of_ble_eq_true rfl) dn_M_bracesGrammar_52 ⟨Nat.le_of_ble_eq_true rfl, Nat.le_of_ble_eq_true rfl⟩) hP hD hS hA (fun r_3 _ H locs hw hP hD hS => ?_)
      have hw : r_3 = q_1.1 := hw
      subst hw
      refine lv_if_eq (tgt := 75) hx hb dn_M_bracesGrammar_55 (by decide) (fun h => ?_) (fun h => ?_)
      · have hf := (if_pos h).symm.trans hf
        exact bl_75 q_1.2 hf H locs ls hP hD hS hl
      · have hf := (if_neg h).symm.trans hf
        refine lv_aload_n hx hb dn_M_bracesGrammar_58 rfl (lv_at hl 0 rfl) ?_
        refine lv_dup hx hb dn_M_bracesGrammar_59 rfl ?_
        refine va_get (D := (dC, dI)) (ci := 0) (v := .int ((q_1.2.1 8 0))) (C := rn_M) (T := fn_M) (N := 91) hx hb hg in_M hown hK hP 0 rfl rfl 8 (by decide) (hg _ wn_8_81) (fun _ h9 => h9) rfl dn_M_bracesGrammar_60 ?_
        refine lv_iconst (v := 1) hx hb dn_M_bracesGrammar_63 (by decide) ?_
        refine lv_iadd hx hb dn_M_bracesGrammar_64 ?_
        refine va_put (D := (dC, dI)) (ci := 0) (v := .int (((q_1.2.1 8 0) + 1))) (ty := .int) (C := rn_M) (T := fn_M) (N := 91) hx hb hg in_M tn_M tk_M nn_M hown hK hP hD hS 0 rfl rfl 8 (by decide) (hg _ wn_8_81) (fun _ h9 => h9) rfl (tk_M 8 (by decide)) rfl rfl (Nat.le_of_ble_eq_true rfl) dn_M_bracesGrammar_65 (fun H locs hP hD hS => ?_)
        have hP := wM_P_8 hP
        have hD := wM_D_8 hD
        refine lv_aload_n hx hb dn_M_bracesGrammar_68 rfl (lv_at hl 0 rfl) ?_
        obtain ⟨q_4, hc_5, hf⟩ := dc_b hf
        refine dc_callv (dc_runV (ar := 0) (As := []) (rest := []) (ci := 0) (q0 := 0) ⟨hx, hb, hml, hown, hg⟩ hK hN hT hS hA (hr_M_expGrammar H.size h0 a (upI q_1.2 8 (fun _ => ((q_1.2.1 8 0) + 1))) q_4 hc_5) hP hD rfl rfl wn_9_222 wn_9_224 sn_M_expGrammar wn_1_13 wn_9_225 rfl rfl (by decide +kernel) ⟨Nat.le_refl _, dc_lm (Nat.le_of_ble_eq_true rfl)⟩ rfl hl.1 rfl (Nat.le_of_ble_eq_true rfl) dn_M_bracesGrammar_69 ⟨Nat.le_of_ble_eq_true rfl, Nat.le_of_ble_eq_true rfl⟩) hP hD hS hA (fun _ H locs hw hP hD hS => ?_)
        refine lv_goto (tgt := 49) hx hb dn_M_bracesGrammar_72 (by decide) ?_
        exact hk_49 q_4.2 hf H locs ls hP hD hS hl
  intro H locs ls hP hD hS hl
  unfold fb_M_bracesGrammar at hf
  refine lv_aload_n hx hb dn_M_bracesGrammar_0 rfl (lv_at hl 0 rfl) ?_
  refine lv_bipush (v := 123) hx hb dn_M_bracesGrammar_1 (by decide) ?_
  obtain ⟨q_1, hc_2, hf⟩ := dc_b hf
  refine dc_callv (dc_runV (ar := 1) (As := [.int 123]) (rest := []) (ci := 0) (q0 := 0) ⟨hx, hb, hml, hown, hg⟩ hK hN hT hS hA (ct_M_open l dC dI cI cB cJ cZ cQ N H.size h0 a 123 s q_1 hc_2) hP hD rfl rfl wn_9_190 wn_9_192 sn_M_open wn_1_13 wn_9_193 rfl rfl (by decide +kernel) ⟨dc_ra (Nat.le_of_ble_eq_true rfl), dc_ra (Nat.le_of_ble_eq_true rfl)⟩ rfl hl.1 rfl (Nat.le_of_ble_eq_true rfl) dn_M_bracesGrammar_3 ⟨Nat.le_of_ble_eq_true rfl, Nat.le_of_ble_eq_true rfl⟩) hP hD hS hA (fun _ H locs hw hP hD hS => ?_)
  refine lv_aload_n hx hb dn_M_bracesGrammar_6 rfl (lv_at hl 0 rfl) ?_
  refine lv_sipush (v := 401) hx hb dn_M_bracesGrammar_7 (by decide) ?_
  obtain ⟨q_3, hc_4, hf⟩ := dc_b hf
  refine dc_calli (dc_runV (ar := 1) (As := [.int 401]) (rest := []) (ci := 0) (q0 := 0) ⟨hx, hb, hml, hown, hg⟩ hK hN hT hS hA (ct_M_is l dC dI cI cB cJ cZ cQ N H.size h0 a 401 q_1.2 q_3 hc_4) hP hD rfl rfl wn_9_194 wn_9_196 sn_M_is wn_1_13 wn_9_197 rfl rfl (by decide +kernel) ⟨dc_ra (Nat.le_of_ble_eq_true rfl), dc_ra (Nat.le_of_ble_eq_true rfl)⟩ rfl hl.1 rfl (Nat.le_of_ble_eq_true rfl) dn_M_bracesGrammar_10 ⟨Nat.le_of_ble_eq_true rfl, Nat.le_of_ble_eq_true rfl⟩) hP hD hS hA (fun r_5 _ H locs hw hP hD hS => ?_)
  have hw : r_5 = q_3.1 := hw
  subst hw
  refine lv_if_eq (tgt := 45) hx hb dn_M_bracesGrammar_13 (by decide) (fun h => ?_) (fun h => ?_)
  · have hf := (if_pos h).symm.trans hf
    refine lv_aload_n hx hb dn_M_bracesGrammar_45 rfl (lv_at hl 0 rfl) ?_
    obtain ⟨q_6, hc_7, hf⟩ := dc_b hf
    refine dc_callv (dc_runV (ar := 0) (As := []) (rest := []) (ci := 0) (q0 := 0) ⟨hx, hb, hml, hown, hg⟩ hK hN hT hS hA (hr_M_expGrammar H.size h0 a q_3.2 q_6 hc_7) hP hD rfl rfl wn_9_222 wn_9_224 sn_M_expGrammar wn_1_13 wn_9_225 rfl rfl (by decide +kernel) ⟨Nat.le_refl _, dc_lm (Nat.le_of_ble_eq_true rfl)⟩ rfl hl.1 rfl (Nat.le_of_ble_eq_true rfl) dn_M_bracesGrammar_46 ⟨Nat.le_of_ble_eq_true rfl, Nat.le_of_ble_eq_true rfl⟩) hP hD hS hA (fun _ H locs hw hP hD hS => ?_)
    exact hd_49 N q_6.2 hf H locs ls hP hD hS hl
  · have hf := (if_neg h).symm.trans hf
    refine lv_aload_n hx hb dn_M_bracesGrammar_16 rfl (lv_at hl 0 rfl) ?_
    refine lv_dup hx hb dn_M_bracesGrammar_17 rfl ?_
    refine va_get (D := (dC, dI)) (ci := 0) (v := .int ((q_3.2.1 8 0))) (C := rn_M) (T := fn_M) (N := 91) hx hb hg in_M hown hK hP 0 rfl rfl 8 (by decide) (hg _ wn_8_81) (fun _ h9 => h9) rfl dn_M_bracesGrammar_18 ?_
    refine lv_iconst (v := 1) hx hb dn_M_bracesGrammar_21 (by decide) ?_
    refine lv_iadd hx hb dn_M_bracesGrammar_22 ?_
    refine va_put (D := (dC, dI)) (ci := 0) (v := .int (((q_3.2.1 8 0) + 1))) (ty := .int) (C := rn_M) (T := fn_M) (N := 91) hx hb hg in_M tn_M tk_M nn_M hown hK hP hD hS 0 rfl rfl 8 (by decide) (hg _ wn_8_81) (fun _ h9 => h9) rfl (tk_M 8 (by decide)) rfl rfl (Nat.le_of_ble_eq_true rfl) dn_M_bracesGrammar_23 (fun H locs hP hD hS => ?_)
    have hP := wM_P_8 hP
    have hD := wM_D_8 hD
    refine lv_aload_n hx hb dn_M_bracesGrammar_26 rfl (lv_at hl 0 rfl) ?_
    refine lv_bipush (v := 123) hx hb dn_M_bracesGrammar_27 (by decide) ?_
    obtain ⟨q_6, hc_7, hf⟩ := dc_b hf
    refine dc_callv (dc_runV (ar := 1) (As := [.int 123]) (rest := []) (ci := 0) (q0 := 0) ⟨hx, hb, hml, hown, hg⟩ hK hN hT hS hA (ct_M_open l dC dI cI cB cJ cZ cQ N H.size h0 a 123 (upI q_3.2 8 (fun _ => ((q_3.2.1 8 0) + 1))) q_6 hc_7) hP hD rfl rfl wn_9_190 wn_9_192 sn_M_open wn_1_13 wn_9_193 rfl rfl (by decide +kernel) ⟨dc_ra (Nat.le_of_ble_eq_true rfl), dc_ra (Nat.le_of_ble_eq_true rfl)⟩ rfl hl.1 rfl (Nat.le_of_ble_eq_true rfl) dn_M_bracesGrammar_29 ⟨Nat.le_of_ble_eq_true rfl, Nat.le_of_ble_eq_true rfl⟩) hP hD hS hA (fun _ H locs hw hP hD hS => ?_)
    refine lv_aload_n hx hb dn_M_bracesGrammar_32 rfl (lv_at hl 0 rfl) ?_
    obtain ⟨q_8, hc_9, hf⟩ := dc_b hf
    refine dc_callv (dc_runV (ar := 0) (As := []) (rest := []) (ci := 0) (q0 := 0) ⟨hx, hb, hml, hown, hg⟩ hK hN hT hS hA (hr_M_expGrammar H.size h0 a q_6.2 q_8 hc_9) hP hD rfl rfl wn_9_222 wn_9_224 sn_M_expGrammar wn_1_13 wn_9_225 rfl rfl (by decide +kernel) ⟨Nat.le_refl _, dc_lm (Nat.le_of_ble_eq_true rfl)⟩ rfl hl.1 rfl (Nat.le_of_ble_eq_true rfl) dn_M_bracesGrammar_33 ⟨Nat.le_of_ble_eq_true rfl, Nat.le_of_ble_eq_true rfl⟩) hP hD hS hA (fun _ H locs hw hP hD hS => ?_)
    refine lv_aload_n hx hb dn_M_bracesGrammar_36 rfl (lv_at hl 0 rfl) ?_
    refine lv_bipush (v := 125) hx hb dn_M_bracesGrammar_37 (by decide) ?_
    obtain ⟨q_10, hc_11, hf⟩ := dc_b hf
    refine dc_callv (dc_runV (ar := 1) (As := [.int 125]) (rest := []) (ci := 0) (q0 := 0) ⟨hx, hb, hml, hown, hg⟩ hK hN hT hS hA (ct_M_shut l dC dI cI cB cJ cZ cQ N H.size h0 a 125 q_8.2 q_10 hc_11) hP hD rfl rfl wn_9_206 wn_9_208 sn_M_shut wn_1_13 wn_9_209 rfl rfl (by decide +kernel) ⟨dc_ra (Nat.le_of_ble_eq_true rfl), dc_ra (Nat.le_of_ble_eq_true rfl)⟩ rfl hl.1 rfl (Nat.le_of_ble_eq_true rfl) dn_M_bracesGrammar_39 ⟨Nat.le_of_ble_eq_true rfl, Nat.le_of_ble_eq_true rfl⟩) hP hD hS hA (fun _ H locs hw hP hD hS => ?_)
    refine lv_goto (tgt := 75) hx hb dn_M_bracesGrammar_42 (by decide) ?_
    exact bl_75 q_10.2 hf H locs ls hP hD hS hl
theorem sm_M_expGrammar (N : Nat) : ∀ d : Nat, (∀ (s : ms) (y : (Unit × ms)), (sg_M_expGrammar N d).1 s = some y → gl y.2 = gl s) ∧ (∀ (s : ms) (y : (Unit × ms)), (sg_M_expGrammar N d).2.1 s = some y → gl y.2 = gl s) ∧ (∀ (s : ms) (y : (Unit × ms)), (sg_M_expGrammar N d).2.2 s = some y → gl y.2 = gl s) := by
  intro d
  induction d with
  | zero => exact ⟨fun _ _ h => (by cases h), fun _ _ h => (by cases h), fun _ _ h => (by cases h)⟩
  | succ d ih =>
    obtain ⟨ih0, ih1, ih2⟩ := ih
    exact ⟨fun s y h => mf_M_expGrammar N _ _ _ ih0 ih1 ih2 s y h, fun s y h => mf_M_operandGrammar N _ _ _ ih0 ih1 ih2 s y h, fun s y h => mf_M_bracesGrammar N _ _ _ ih0 ih1 ih2 s y h⟩
set_option maxHeartbeats 4000000 in
theorem sc_M_expGrammar (l : Launch) (dC : Nat → ClassId) (dI : Nat → Nat → Nat) (cI cB cJ cZ cQ : ClassId) (N : Nat) : ∀ d : Nat, (∀ (sz : Nat) (h0 : Nat) (a : Nat → Nat) (s : ms) (y : (Unit × ms)), (sg_M_expGrammar N d).1 s = some y → Met l yn_M_expGrammar (xw yn_M_expGrammar bn_M_expGrammar 1 none) ({ frames := 4 + d, cells := 0, slots := 0, locals := 84 + d * 20 }) (dc_P (dC, dI) xcl (xt cI cB cJ cZ cQ) [.ref h0] sz (wM h0 a cI cB cJ cZ s)) (xk_Qv (dC, dI) xcl (xt cI cB cJ cZ cQ) (fun _ : Unit => True) (fun u : Unit => (wM h0 a cI cB cJ cZ y.2)) (va_A (wM h0 a cI cB cJ cZ s) sz)) 0 0 (va_A (wM h0 a cI cB cJ cZ s) sz)) ∧ (∀ (sz : Nat) (h0 : Nat) (a : Nat → Nat) (s : ms) (y : (Unit × ms)), (sg_M_expGrammar N d).2.1 s = some y → Met l yn_M_operandGrammar (xw yn_M_operandGrammar bn_M_operandGrammar 1 none) ({ frames := 4 + d, cells := 0, slots := 0, locals := 84 + d * 20 }) (dc_P (dC, dI) xcl (xt cI cB cJ cZ cQ) [.ref h0] sz (wM h0 a cI cB cJ cZ s)) (xk_Qv (dC, dI) xcl (xt cI cB cJ cZ cQ) (fun _ : Unit => True) (fun u : Unit => (wM h0 a cI cB cJ cZ y.2)) (va_A (wM h0 a cI cB cJ cZ s) sz)) 0 0 (va_A (wM h0 a cI cB cJ cZ s) sz)) ∧ (∀ (sz : Nat) (h0 : Nat) (a : Nat → Nat) (s : ms) (y : (Unit × ms)), (sg_M_expGrammar N d).2.2 s = some y → Met l yn_M_bracesGrammar (xw yn_M_bracesGrammar bn_M_bracesGrammar 1 none) ({ frames := 4 + d, cells := 0, slots := 0, locals := 84 + d * 20 }) (dc_P (dC, dI) xcl (xt cI cB cJ cZ cQ) [.ref h0] sz (wM h0 a cI cB cJ cZ s)) (xk_Qv (dC, dI) xcl (xt cI cB cJ cZ cQ) (fun _ : Unit => True) (fun u : Unit => (wM h0 a cI cB cJ cZ y.2)) (va_A (wM h0 a cI cB cJ cZ s) sz)) 0 0 (va_A (wM h0 a cI cB cJ cZ s) sz)) := by
  intro d
  induction d with
  | zero => exact ⟨fun _ _ _ _ _ h => (by cases h), fun _ _ _ _ _ h => (by cases h), fun _ _ _ _ _ h => (by cases h)⟩
  | succ d ih =>
    obtain ⟨ih0, ih1, ih2⟩ := ih
    exact ⟨fun sz h0 a s y h => cb_M_expGrammar l dC dI cI cB cJ cZ cQ N d _ _ _ (sm_M_expGrammar N d).1 (sm_M_expGrammar N d).2.1 (sm_M_expGrammar N d).2.2 ih0 ih1 ih2 sz h0 a s y h, fun sz h0 a s y h => cb_M_operandGrammar l dC dI cI cB cJ cZ cQ N d _ _ _ (sm_M_expGrammar N d).1 (sm_M_expGrammar N d).2.1 (sm_M_expGrammar N d).2.2 ih0 ih1 ih2 sz h0 a s y h, fun sz h0 a s y h => cb_M_bracesGrammar l dC dI cI cB cJ cZ cQ N d _ _ _ (sm_M_expGrammar N d).1 (sm_M_expGrammar N d).2.1 (sm_M_expGrammar N d).2.2 ih0 ih1 ih2 sz h0 a s y h⟩
theorem mn_M_expGrammar (N : Nat) (s : ms) (y : (Unit × ms)) (hf : fn_M_expGrammar N s = some y) : gl y.2 = gl s := (sm_M_expGrammar N 400).1 s y hf
theorem ct_M_expGrammar (l : Launch) (dC : Nat → ClassId) (dI : Nat → Nat → Nat) (cI cB cJ cZ cQ : ClassId) (N sz : Nat) (h0 : Nat) (a : Nat → Nat) (s : ms) (y : (Unit × ms)) (hf : fn_M_expGrammar N s = some y) : Met l yn_M_expGrammar (xw yn_M_expGrammar bn_M_expGrammar 1 none) ({ frames := 4 + 400, cells := 0, slots := 0, locals := 84 + 400 * 20 }) (dc_P (dC, dI) xcl (xt cI cB cJ cZ cQ) [.ref h0] sz (wM h0 a cI cB cJ cZ s)) (xk_Qv (dC, dI) xcl (xt cI cB cJ cZ cQ) (fun _ : Unit => True) (fun u : Unit => (wM h0 a cI cB cJ cZ y.2)) (va_A (wM h0 a cI cB cJ cZ s) sz)) 0 0 (va_A (wM h0 a cI cB cJ cZ s) sz) := (sc_M_expGrammar l dC dI cI cB cJ cZ cQ N 400).1 sz h0 a s y hf
theorem mn_M_operandGrammar (N : Nat) (s : ms) (y : (Unit × ms)) (hf : fn_M_operandGrammar N s = some y) : gl y.2 = gl s := (sm_M_expGrammar N 400).2.1 s y hf
theorem ct_M_operandGrammar (l : Launch) (dC : Nat → ClassId) (dI : Nat → Nat → Nat) (cI cB cJ cZ cQ : ClassId) (N sz : Nat) (h0 : Nat) (a : Nat → Nat) (s : ms) (y : (Unit × ms)) (hf : fn_M_operandGrammar N s = some y) : Met l yn_M_operandGrammar (xw yn_M_operandGrammar bn_M_operandGrammar 1 none) ({ frames := 4 + 400, cells := 0, slots := 0, locals := 84 + 400 * 20 }) (dc_P (dC, dI) xcl (xt cI cB cJ cZ cQ) [.ref h0] sz (wM h0 a cI cB cJ cZ s)) (xk_Qv (dC, dI) xcl (xt cI cB cJ cZ cQ) (fun _ : Unit => True) (fun u : Unit => (wM h0 a cI cB cJ cZ y.2)) (va_A (wM h0 a cI cB cJ cZ s) sz)) 0 0 (va_A (wM h0 a cI cB cJ cZ s) sz) := (sc_M_expGrammar l dC dI cI cB cJ cZ cQ N 400).2.1 sz h0 a s y hf
theorem mn_M_bracesGrammar (N : Nat) (s : ms) (y : (Unit × ms)) (hf : fn_M_bracesGrammar N s = some y) : gl y.2 = gl s := (sm_M_expGrammar N 400).2.2 s y hf
theorem ct_M_bracesGrammar (l : Launch) (dC : Nat → ClassId) (dI : Nat → Nat → Nat) (cI cB cJ cZ cQ : ClassId) (N sz : Nat) (h0 : Nat) (a : Nat → Nat) (s : ms) (y : (Unit × ms)) (hf : fn_M_bracesGrammar N s = some y) : Met l yn_M_bracesGrammar (xw yn_M_bracesGrammar bn_M_bracesGrammar 1 none) ({ frames := 4 + 400, cells := 0, slots := 0, locals := 84 + 400 * 20 }) (dc_P (dC, dI) xcl (xt cI cB cJ cZ cQ) [.ref h0] sz (wM h0 a cI cB cJ cZ s)) (xk_Qv (dC, dI) xcl (xt cI cB cJ cZ cQ) (fun _ : Unit => True) (fun u : Unit => (wM h0 a cI cB cJ cZ y.2)) (va_A (wM h0 a cI cB cJ cZ s) sz)) 0 0 (va_A (wM h0 a cI cB cJ cZ s) sz) := (sc_M_expGrammar l dC dI cI cB cJ cZ cQ N 400).2.2 sz h0 a s y hf
