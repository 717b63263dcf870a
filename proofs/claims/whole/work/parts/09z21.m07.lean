theorem mo_M_part_93 (N : Nat) (y : (Int32 × ms)) (x2 : Int32) (s : ms) (hf : bk_M_part_93 N x2 s = some y) : gl y.2 = gl s := by
  unfold bk_M_part_93 at hf
  have hm : gl s = gl s := rfl
  obtain ⟨q_1, hc_2, hf⟩ := dc_b hf
  have hm := (mn_M_fail N 30 x2 s q_1 hc_2).trans hm
  exact (dc_e hf).trans hm
theorem mo_M_part_67 (N : Nat) (y : (Int32 × ms)) (x1 : Int32) (x2 : Int32) (x3 : Int32) (x4 : Int32) (s : ms) (hf : bk_M_part_67 N x1 x2 x3 x4 s = some y) : gl y.2 = gl s := by
  unfold bk_M_part_67 at hf
  have hm : gl s = gl s := rfl
  by_cases h : x3 < x4
  · have hf := (if_pos h).symm.trans hf
    exact (mo_M_part_93 N y x2 (upI s 8 (fun _ => ((s.1 8 0) + 1))) hf).trans hm
  · have hf := (if_neg h).symm.trans hf
    obtain ⟨_, hf⟩ := dc_g hf
    by_cases h : x3 < ((s.1 20) (Int32.toNatClampNeg x1))
    · have hf := (if_pos h).symm.trans hf
      exact (dc_e hf).trans hm
    · have hf := (if_neg h).symm.trans hf
      exact (mo_M_part_93 N y x2 (upI s 8 (fun _ => ((s.1 8 0) + 1))) hf).trans hm
theorem mn_M_part (N : Nat) (v1 : Int32) (s : ms) (y : (Int32 × ms)) (hf : fn_M_part N v1 s = some y) : gl y.2 = gl s := by
  unfold fn_M_part at hf
  have hm : gl s = gl s := rfl
  obtain ⟨_, hf⟩ := dc_g hf
  obtain ⟨q_2, hc_3, hf⟩ := dc_b hf
  have hm := (mn_M_numberOf N (((s.1 8 0) + 1)) s q_2 hc_3).trans hm
  obtain ⟨q_5, hc_6, hf⟩ := dc_b hf
  have hm := (mn_M_kind N (upI q_2.2 8 (fun _ => ((q_2.2.1 8 0) + 2))) q_5 hc_6).trans hm
  by_cases h : q_5.1 = 58
  · have hf := (if_pos h).symm.trans hf
    obtain ⟨q_8, hc_9, hf⟩ := dc_b hf
    have hm := (mn_M_numberOf N (((q_5.2.1 8 0) + 1)) q_5.2 q_8 hc_9).trans hm
    exact (mo_M_part_67 N y v1 (((s.1 5) (Int32.toNatClampNeg ((s.1 8 0))))) ((Int64.toInt32 q_2.1)) ((Int64.toInt32 q_8.1)) (upI q_8.2 8 (fun _ => ((q_8.2.1 8 0) + 2))) hf).trans hm
  · have hf := (if_neg h).symm.trans hf
    exact (mo_M_part_67 N y v1 (((s.1 5) (Int32.toNatClampNeg ((s.1 8 0))))) ((Int64.toInt32 q_2.1)) ((Int64.toInt32 q_2.1)) q_5.2 hf).trans hm
set_option maxHeartbeats 8000000 in
set_option maxRecDepth 100000 in
theorem ct_M_part (l : Launch) (dC : Nat → ClassId) (dI : Nat → Nat → Nat) (cI cB cJ cZ cQ : ClassId) (N sz : Nat) (h0 : Nat) (a : Nat → Nat) (v1 : Int32) (s : ms) (y : (Int32 × ms)) (hf : fn_M_part N v1 s = some y) : Met l yn_M_part (xw yn_M_part bn_M_part 5 (some .int)) ({ frames := 4, cells := 0, slots := 0, locals := 93 }) (dc_P (dC, dI) xcl (xt cI cB cJ cZ cQ) [.ref h0, .int v1] sz (wM h0 a cI cB cJ cZ s)) (xk_Qi (dC, dI) xcl (xt cI cB cJ cZ cQ) (fun (r : Int32) (_ : Unit) => r = y.1) (fun u : Unit => (wM h0 a cI cB cJ cZ y.2)) (va_A (wM h0 a cI cB cJ cZ s) sz)) 0 0 (va_A (wM h0 a cI cB cJ cZ s) sz) := by
  refine dc_of (QA := xk_Qi (dC, dI) xcl (xt cI cB cJ cZ cQ) (fun (r : Int32) (_ : Unit) => r = y.1) (fun u : Unit => (wM h0 a cI cB cJ cZ y.2))) (by decide) (Nat.le_of_ble_eq_true rfl) ?_
  intro p e s0 m below meth c hx hb hml hown hg hr hlocks hin hP hK hN A hA hD hT ls hl
  have hown : s0.vm.findClass rn_M = some m.cls := hown
  obtain ⟨H, hH⟩ : ∃ z, z = s0.heap := ⟨_, rfl⟩
  rw [← hH] at hP
  have hS : va_S A s0.heap H [] := by rw [hH]; exact va_S.rf
  suffices kk : ∀ QQ : State → Prop, QQ = MQ below (xk_Qi (dC, dI) xcl (xt cI cB cJ cZ cQ) (fun (r : Int32) (_ : Unit) => r = y.1) (fun u : Unit => (wM h0 a cI cB cJ cZ y.2)) A) [.ref h0, .int v1].toArray s0 0 0 A → dcC p l e ({ frames := 4, cells := 0, slots := 0, locals := 93 }) s0 m [.ref h0, .int v1].toArray below meth c QQ (dC, dI) A (wM h0 a cI cB cJ cZ s) 0 5 [(0, .ref h0), (1, .int v1)] [] by
    have k9 := kk _ rfl H [] ls hP hD hS hl
    rw [hH] at k9; exact k9
  clear hP hD hS hl hH H ls
  intro QQ hQQ
  have bl_93 : ∀ (x2 : Int32) (s : ms), bk_M_part_93 N x2 s = some y → dcC p l e ({ frames := 4, cells := 0, slots := 0, locals := 93 }) s0 m [.ref h0, .int v1].toArray below meth c QQ (dC, dI) A (wM h0 a cI cB cJ cZ s) 93 5 [(0, .ref h0), (2, .int x2)] [] := by
    intro x2 s hf H locs ls hP hD hS hl
    unfold bk_M_part_93 at hf
    refine lv_aload_n hx hb dn_M_part_93 rfl (lv_at hl 0 rfl) ?_
    refine lv_bipush (v := 30) hx hb dn_M_part_94 (by decide) ?_
    refine lv_iload_n hx hb dn_M_part_96 rfl (lv_at hl 1 rfl) ?_
    obtain ⟨q_1, hc_2, hf⟩ := dc_b hf
    refine dc_callv (dc_runV (ar := 2) (As := [.int 30, .int x2]) (rest := []) (ci := 0) (q0 := 0) ⟨hx, hb, hml, hown, hg⟩ hK hN hT hS hA (ct_M_fail l dC dI cI cB cJ cZ cQ N H.size h0 a 30 x2 s q_1 hc_2) hP hD rfl rfl wn_9_186 wn_9_188 sn_M_fail wn_1_13 wn_9_189 rfl rfl (by decide +kernel) ⟨Nat.le_of_ble_eq_true rfl, Nat.le_of_ble_eq_true rfl⟩ rfl hl.1 rfl (Nat.le_of_ble_eq_true rfl) dn_M_part_97 ⟨Nat.le_of_ble_eq_true rfl, Nat.le_of_ble_eq_true rfl⟩) hP hD hS hA (fun _ H locs hw hP hD hS => ?_)
    refine lv_iconst (v := 0) hx hb dn_M_part_100 (by decide) ?_
    rw [hQQ, ← Option.some.inj hf]
    exact xk_iret (w1 := fun u : Unit => (wM h0 a cI cB cJ cZ q_1.2)) () hx hb hr hlocks hK hS dn_M_part_101 hP hD rfl (Nat.le_refl _) (Nat.le_refl _)
  have bl_67 : ∀ (x1 : Int32) (x2 : Int32) (x3 : Int32) (x4 : Int32) (s : ms), bk_M_part_67 N x1 x2 x3 x4 s = some y → dcC p l e ({ frames := 4, cells := 0, slots := 0, locals := 93 }) s0 m [.ref h0, .int v1].toArray below meth c QQ (dC, dI) A (wM h0 a cI cB cJ cZ s) 67 5 [(0, .ref h0), (1, .int x1), (2, .int x2), (3, .int x3), (4, .int x4)] [] := by
    intro x1 x2 x3 x4 s hf H locs ls hP hD hS hl
    unfold bk_M_part_67 at hf
    refine lv_aload_n hx hb dn_M_part_67 rfl (lv_at hl 0 rfl) ?_
    refine lv_dup hx hb dn_M_part_68 rfl ?_
    refine va_get (D := (dC, dI)) (ci := 0) (v := .int ((s.1 8 0))) (C := rn_M) (T := fn_M) (N := 91) hx hb hg in_M hown hK hP 0 rfl rfl 8 (by decide) (hg _ wn_8_81) (fun _ h9 => h9) rfl dn_M_part_69 ?_
    refine lv_iconst (v := 1) hx hb dn_M_part_72 (by decide) ?_
    refine lv_iadd hx hb dn_M_part_73 ?_
    refine va_put (D := (dC, dI)) (ci := 0) (v := .int (((s.1 8 0) + 1))) (ty := .int) (C := rn_M) (T := fn_M) (N := 91) hx hb hg in_M tn_M tk_M nn_M hown hK hP hD hS 0 rfl rfl 8 (by decide) (hg _ wn_8_81) (fun _ h9 => h9) rfl (tk_M 8 (by decide)) rfl rfl (Nat.le_of_ble_eq_true rfl) dn_M_part_74 (fun H locs hP hD hS => ?_)
    have hP := wM_P_8 hP
    have hD := wM_D_8 hD
    refine lv_iload_n hx hb dn_M_part_77 rfl (lv_at hl 3 rfl) ?_
    refine lv_iload hx hb dn_M_part_78 (lv_at hl 4 rfl) ?_
    refine lv_icmp_lt (tgt := 93) hx hb dn_M_part_80 (by decide) (fun h => ?_) (fun h => ?_)
    · have hf := (if_pos h).symm.trans hf
      exact bl_93 x2 (upI s 8 (fun _ => ((s.1 8 0) + 1))) hf H locs ls hP hD hS (lv_sub hl [0, 2] rfl)
    · have hf := (if_neg h).symm.trans hf
      refine lv_iload_n hx hb dn_M_part_83 rfl (lv_at hl 3 rfl) ?_
      refine lv_aload_n hx hb dn_M_part_84 rfl (lv_at hl 0 rfl) ?_
      refine va_get (D := (dC, dI)) (ci := 0) (v := .ref ((a 20))) (C := rn_M) (T := fn_M) (N := 91) hx hb hg in_M hown hK hP 0 rfl rfl 20 (by decide) (hg _ wn_8_93) (fun _ h9 => h9) rfl dn_M_part_85 ?_
      refine lv_iload_n hx hb dn_M_part_88 rfl (lv_at hl 1 rfl) ?_
      obtain ⟨hg_1, hf⟩ := dc_g hf
      refine va_iald hx hb hK hP 11 0 rfl rfl hg_1 dn_M_part_89 ?_
      refine xk_ti (y := ((s.1 20) (Int32.toNatClampNeg x1))) rfl ?_
      refine lv_icmp_lt (tgt := 102) hx hb dn_M_part_90 (by decide) (fun h => ?_) (fun h => ?_)
      · have hf := (if_pos h).symm.trans hf
        refine lv_sipush (v := 256) hx hb dn_M_part_102 (by decide) ?_
        refine lv_iload_n hx hb dn_M_part_105 rfl (lv_at hl 3 rfl) ?_
        refine lv_imul hx hb dn_M_part_106 ?_
        refine lv_iload hx hb dn_M_part_107 (lv_at hl 4 rfl) ?_
        refine lv_iadd hx hb dn_M_part_109 ?_
        rw [hQQ, ← Option.some.inj hf]
        exact xk_iret (w1 := fun u : Unit => (wM h0 a cI cB cJ cZ (upI s 8 (fun _ => ((s.1 8 0) + 1))))) () hx hb hr hlocks hK hS dn_M_part_110 hP hD rfl (Nat.le_refl _) (Nat.le_refl _)
      · have hf := (if_neg h).symm.trans hf
        exact bl_93 x2 (upI s 8 (fun _ => ((s.1 8 0) + 1))) hf H locs ls hP hD hS (lv_sub hl [0, 2] rfl)
  intro H locs ls hP hD hS hl
  unfold fn_M_part at hf
  refine lv_aload_n hx hb dn_M_part_0 rfl (lv_at hl 0 rfl) ?_
  refine va_get (D := (dC, dI)) (ci := 0) (v := .ref ((a 5))) (C := rn_M) (T := fn_M) (N := 91) hx hb hg in_M hown hK hP 0 rfl rfl 5 (by decide) (hg _ wn_8_78) (fun _ h9 => h9) rfl dn_M_part_1 ?_
  refine lv_aload_n hx hb dn_M_part_4 rfl (lv_at hl 0 rfl) ?_
  refine va_get (D := (dC, dI)) (ci := 0) (v := .int ((s.1 8 0))) (C := rn_M) (T := fn_M) (N := 91) hx hb hg in_M hown hK hP 0 rfl rfl 8 (by decide) (hg _ wn_8_81) (fun _ h9 => h9) rfl dn_M_part_5 ?_
  obtain ⟨hg_1, hf⟩ := dc_g hf
  refine va_iald hx hb hK hP 3 0 rfl rfl hg_1 dn_M_part_8 ?_
  refine xk_ti (y := ((s.1 5) (Int32.toNatClampNeg ((s.1 8 0))))) rfl ?_
  refine lv_istore_n (lv' := [(2, .int (((s.1 5) (Int32.toNatClampNeg ((s.1 8 0)))))), (0, .ref h0), (1, .int v1)]) hx hb dn_M_part_9 rfl hl (by decide) rfl (fun ls hl => ?_)
  refine lv_aload_n hx hb dn_M_part_10 rfl (lv_at hl 1 rfl) ?_
  refine lv_aload_n hx hb dn_M_part_11 rfl (lv_at hl 1 rfl) ?_
  refine va_get (D := (dC, dI)) (ci := 0) (v := .int ((s.1 8 0))) (C := rn_M) (T := fn_M) (N := 91) hx hb hg in_M hown hK hP 0 rfl rfl 8 (by decide) (hg _ wn_8_81) (fun _ h9 => h9) rfl dn_M_part_12 ?_
  refine lv_iconst (v := 1) hx hb dn_M_part_15 (by decide) ?_
  refine lv_iadd hx hb dn_M_part_16 ?_
  obtain ⟨q_2, hc_3, hf⟩ := dc_b hf
  refine dc_calll (dc_runV (ar := 1) (As := [.int (((s.1 8 0) + 1))]) (rest := []) (ci := 0) (q0 := 0) ⟨hx, hb, hml, hown, hg⟩ hK hN hT hS hA (ct_M_numberOf l dC dI cI cB cJ cZ cQ N H.size h0 a (((s.1 8 0) + 1)) s q_2 hc_3) hP hD rfl rfl wn_10_40 wn_10_42 sn_M_numberOf wn_1_13 wn_10_43 rfl rfl (by decide +kernel) ⟨Nat.le_of_ble_eq_true rfl, Nat.le_of_ble_eq_true rfl⟩ rfl hl.1 rfl (Nat.le_of_ble_eq_true rfl) dn_M_part_17 ⟨Nat.le_of_ble_eq_true rfl, Nat.le_of_ble_eq_true rfl⟩) hP hD hS hA (fun r_4 _ H locs hw hP hD hS => ?_)
  have hw : r_4 = q_2.1 := hw
  subst hw
  refine lv_l2i (v := Int64.toInt32 q_2.1) hx hb dn_M_part_20 rfl ?_
  refine lv_istore_n (lv' := [(3, .int ((Int64.toInt32 q_2.1))), (2, .int (((s.1 5) (Int32.toNatClampNeg ((s.1 8 0)))))), (0, .ref h0), (1, .int v1)]) hx hb dn_M_part_21 rfl hl (by decide) rfl (fun ls hl => ?_)
  refine lv_iload_n hx hb dn_M_part_22 rfl (lv_at hl 0 rfl) ?_
  refine lv_istore (lv' := [(4, .int ((Int64.toInt32 q_2.1))), (3, .int ((Int64.toInt32 q_2.1))), (2, .int (((s.1 5) (Int32.toNatClampNeg ((s.1 8 0)))))), (0, .ref h0), (1, .int v1)]) hx hb dn_M_part_23 hl (by decide) rfl (fun ls hl => ?_)
  refine lv_aload_n hx hb dn_M_part_25 rfl (lv_at hl 3 rfl) ?_
  refine lv_aload_n hx hb dn_M_part_26 rfl (lv_at hl 3 rfl) ?_
  refine va_get (D := (dC, dI)) (ci := 0) (v := .int ((q_2.2.1 8 0))) (C := rn_M) (T := fn_M) (N := 91) hx hb hg in_M hown hK hP 0 rfl rfl 8 (by decide) (hg _ wn_8_81) (fun _ h9 => h9) rfl dn_M_part_27 ?_
  refine lv_iconst (v := 2) hx hb dn_M_part_30 (by decide) ?_
  refine lv_iadd hx hb dn_M_part_31 ?_
  refine va_put (D := (dC, dI)) (ci := 0) (v := .int (((q_2.2.1 8 0) + 2))) (ty := .int) (C := rn_M) (T := fn_M) (N := 91) hx hb hg in_M tn_M tk_M nn_M hown hK hP hD hS 0 rfl rfl 8 (by decide) (hg _ wn_8_81) (fun _ h9 => h9) rfl (tk_M 8 (by decide)) rfl rfl (Nat.le_of_ble_eq_true rfl) dn_M_part_32 (fun H locs hP hD hS => ?_)
  have hP := wM_P_8 hP
  have hD := wM_D_8 hD
  refine lv_aload_n hx hb dn_M_part_35 rfl (lv_at hl 3 rfl) ?_
  obtain ⟨q_5, hc_6, hf⟩ := dc_b hf
  refine dc_calli (dc_runV (ar := 0) (As := []) (rest := []) (ci := 0) (q0 := 0) ⟨hx, hb, hml, hown, hg⟩ hK hN hT hS hA (ct_M_kind l dC dI cI cB cJ cZ cQ N H.size h0 a (upI q_2.2 8 (fun _ => ((q_2.2.1 8 0) + 2))) q_5 hc_6) hP hD rfl rfl wn_9_214 wn_9_216 sn_M_kind wn_1_13 wn_9_217 rfl rfl (by decide +kernel) ⟨Nat.le_of_ble_eq_true rfl, Nat.le_of_ble_eq_true rfl⟩ rfl hl.1 rfl (Nat.le_of_ble_eq_true rfl) dn_M_part_36 ⟨Nat.le_of_ble_eq_true rfl, Nat.le_of_ble_eq_true rfl⟩) hP hD hS hA (fun r_7 _ H locs hw hP hD hS => ?_)
  have hw : r_7 = q_5.1 := hw
  subst hw
  refine lv_bipush (v := 58) hx hb dn_M_part_39 (by decide) ?_
  refine lv_icmp_ne (tgt := 67) hx hb dn_M_part_41 (by decide) (fun h => ?_) (fun h => ?_)
  · have hf := (if_neg h).symm.trans hf
    exact bl_67 v1 (((s.1 5) (Int32.toNatClampNeg ((s.1 8 0))))) ((Int64.toInt32 q_2.1)) ((Int64.toInt32 q_2.1)) q_5.2 hf H locs ls hP hD hS (lv_sub hl [3, 4, 2, 1, 0] rfl)
  · have hf := (if_pos h).symm.trans hf
    refine lv_aload_n hx hb dn_M_part_44 rfl (lv_at hl 3 rfl) ?_
    refine lv_aload_n hx hb dn_M_part_45 rfl (lv_at hl 3 rfl) ?_
    refine va_get (D := (dC, dI)) (ci := 0) (v := .int ((q_5.2.1 8 0))) (C := rn_M) (T := fn_M) (N := 91) hx hb hg in_M hown hK hP 0 rfl rfl 8 (by decide) (hg _ wn_8_81) (fun _ h9 => h9) rfl dn_M_part_46 ?_
    refine lv_iconst (v := 1) hx hb dn_M_part_49 (by decide) ?_
    refine lv_iadd hx hb dn_M_part_50 ?_
    obtain ⟨q_8, hc_9, hf⟩ := dc_b hf
    refine dc_calll (dc_runV (ar := 1) (As := [.int (((q_5.2.1 8 0) + 1))]) (rest := []) (ci := 0) (q0 := 0) ⟨hx, hb, hml, hown, hg⟩ hK hN hT hS hA (ct_M_numberOf l dC dI cI cB cJ cZ cQ N H.size h0 a (((q_5.2.1 8 0) + 1)) q_5.2 q_8 hc_9) hP hD rfl rfl wn_10_40 wn_10_42 sn_M_numberOf wn_1_13 wn_10_43 rfl rfl (by decide +kernel) ⟨Nat.le_of_ble_eq_true rfl, Nat.le_of_ble_eq_true rfl⟩ rfl hl.1 rfl (Nat.le_of_ble_eq_true rfl) dn_M_part_51 ⟨Nat.le_of_ble_eq_true rfl, Nat.le_of_ble_eq_true rfl⟩) hP hD hS hA (fun r_10 _ H locs hw hP hD hS => ?_)
    have hw : r_10 = q_8.1 := hw
    subst hw
    refine lv_l2i (v := Int64.toInt32 q_8.1) hx hb dn_M_part_54 rfl ?_
    refine lv_istore (lv' := [(4, .int ((Int64.toInt32 q_8.1))), (3, .int ((Int64.toInt32 q_2.1))), (2, .int (((s.1 5) (Int32.toNatClampNeg ((s.1 8 0)))))), (0, .ref h0), (1, .int v1)]) hx hb dn_M_part_55 hl (by decide) rfl (fun ls hl => ?_)
    refine lv_aload_n hx hb dn_M_part_57 rfl (lv_at hl 3 rfl) ?_
    refine lv_aload_n hx hb dn_M_part_58 rfl (lv_at hl 3 rfl) ?_
    refine va_get (D := (dC, dI)) (ci := 0) (v := .int ((q_8.2.1 8 0))) (C := rn_M) (T := fn_M) (N := 91) hx hb hg in_M hown hK hP 0 rfl rfl 8 (by decide) (hg _ wn_8_81) (fun _ h9 => h9) rfl dn_M_part_59 ?_
    refine lv_iconst (v := 2) hx hb dn_M_part_62 (by decide) ?_
    refine lv_iadd hx hb dn_M_part_63 ?_
    refine va_put (D := (dC, dI)) (ci := 0) (v := .int (((q_8.2.1 8 0) + 2))) (ty := .int) (C := rn_M) (T := fn_M) (N := 91) hx hb hg in_M tn_M tk_M nn_M hown hK hP hD hS 0 rfl rfl 8 (by decide) (hg _ wn_8_81) (fun _ h9 => h9) rfl (tk_M 8 (by decide)) rfl rfl (Nat.le_of_ble_eq_true rfl) dn_M_part_64 (fun H locs hP hD hS => ?_)
    have hP := wM_P_8 hP
    have hD := wM_D_8 hD
    exact bl_67 v1 (((s.1 5) (Int32.toNatClampNeg ((s.1 8 0))))) ((Int64.toInt32 q_2.1)) ((Int64.toInt32 q_8.1)) (upI q_8.2 8 (fun _ => ((q_8.2.1 8 0) + 2))) hf H locs ls hP hD hS (lv_sub hl [3, 4, 2, 1, 0] rfl)
theorem mo_M_exp_101 (N : Nat) (r_M_exp : ms → Option (Int32 × ms)) (r_M_binary : ms → Option (Int32 × ms)) (r_M_operand : ms → Option (Int32 × ms)) (r_M_primary : ms → Option (Int32 × ms)) (r_M_braces : Int32 → ms → Option (Int32 × ms)) (hmr_M_exp : ∀ (s : ms) (y : (Int32 × ms)), r_M_exp s = some y → gl s ≤ gl y.2) (hmr_M_binary : ∀ (s : ms) (y : (Int32 × ms)), r_M_binary s = some y → gl s ≤ gl y.2) (hmr_M_operand : ∀ (s : ms) (y : (Int32 × ms)), r_M_operand s = some y → gl s ≤ gl y.2) (hmr_M_primary : ∀ (s : ms) (y : (Int32 × ms)), r_M_primary s = some y → gl s ≤ gl y.2) (hmr_M_braces : ∀ (v1 : Int32) (s : ms) (y : (Int32 × ms)), r_M_braces v1 s = some y → gl s ≤ gl y.2) (y : (Int32 × ms)) (x3 : Int32) (s : ms) (hf : bk_M_exp_101 N r_M_exp r_M_binary r_M_operand r_M_primary r_M_braces x3 s = some y) : gl s ≤ gl y.2 := by
  unfold bk_M_exp_101 at hf
  have hm : gl s ≤ gl s := Nat.le_refl _
  exact Nat.le_trans hm (Nat.le_of_eq (dc_e hf).symm)
theorem mo_M_exp_90 (N : Nat) (r_M_exp : ms → Option (Int32 × ms)) (r_M_binary : ms → Option (Int32 × ms)) (r_M_operand : ms → Option (Int32 × ms)) (r_M_primary : ms → Option (Int32 × ms)) (r_M_braces : Int32 → ms → Option (Int32 × ms)) (hmr_M_exp : ∀ (s : ms) (y : (Int32 × ms)), r_M_exp s = some y → gl s ≤ gl y.2) (hmr_M_binary : ∀ (s : ms) (y : (Int32 × ms)), r_M_binary s = some y → gl s ≤ gl y.2) (hmr_M_operand : ∀ (s : ms) (y : (Int32 × ms)), r_M_operand s = some y → gl s ≤ gl y.2) (hmr_M_primary : ∀ (s : ms) (y : (Int32 × ms)), r_M_primary s = some y → gl s ≤ gl y.2) (hmr_M_braces : ∀ (v1 : Int32) (s : ms) (y : (Int32 × ms)), r_M_braces v1 s = some y → gl s ≤ gl y.2) (y : (Int32 × ms)) (x3 : Int32) (t0 : Int64) (s : ms) (hf : bk_M_exp_90 N r_M_exp r_M_binary r_M_operand r_M_primary r_M_braces x3 t0 s = some y) : gl s ≤ gl y.2 := by
  unfold bk_M_exp_90 at hf
  have hm : gl s ≤ gl s := Nat.le_refl _
  obtain ⟨q_1, hc_2, hf⟩ := dc_b hf
  have hm := Nat.le_trans hm (Nat.le_of_eq (mn_M_cost N t0 s q_1 hc_2).symm)
  obtain ⟨q_3, hc_4, hf⟩ := dc_b hf
  have hm := Nat.le_trans hm (mn_M_lay N 6 0 0 q_1.2 q_3 hc_4)
  exact Nat.le_trans hm (mo_M_exp_101 N r_M_exp r_M_binary r_M_operand r_M_primary r_M_braces hmr_M_exp hmr_M_binary hmr_M_operand hmr_M_primary hmr_M_braces y x3 q_3.2 hf)
theorem mo_M_exp_77 (N : Nat) (r_M_exp : ms → Option (Int32 × ms)) (r_M_binary : ms → Option (Int32 × ms)) (r_M_operand : ms → Option (Int32 × ms)) (r_M_primary : ms → Option (Int32 × ms)) (r_M_braces : Int32 → ms → Option (Int32 × ms)) (hmr_M_exp : ∀ (s : ms) (y : (Int32 × ms)), r_M_exp s = some y → gl s ≤ gl y.2) (hmr_M_binary : ∀ (s : ms) (y : (Int32 × ms)), r_M_binary s = some y → gl s ≤ gl y.2) (hmr_M_operand : ∀ (s : ms) (y : (Int32 × ms)), r_M_operand s = some y → gl s ≤ gl y.2) (hmr_M_primary : ∀ (s : ms) (y : (Int32 × ms)), r_M_primary s = some y → gl s ≤ gl y.2) (hmr_M_braces : ∀ (v1 : Int32) (s : ms) (y : (Int32 × ms)), r_M_braces v1 s = some y → gl s ≤ gl y.2) (y : (Int32 × ms)) (x1 : Int32) (x3 : Int32) (s : ms) (hf : bk_M_exp_77 N r_M_exp r_M_binary r_M_operand r_M_primary r_M_braces x1 x3 s = some y) : gl s ≤ gl y.2 := by
  unfold bk_M_exp_77 at hf
  have hm : gl s ≤ gl s := Nat.le_refl _
  by_cases h : x3 ≤ x1
  · have hf := (if_pos h).symm.trans hf
    exact Nat.le_trans hm (mo_M_exp_90 N r_M_exp r_M_binary r_M_operand r_M_primary r_M_braces hmr_M_exp hmr_M_binary hmr_M_operand hmr_M_primary hmr_M_braces y x3 ((Int32.toInt64 x1)) s hf)
  · have hf := (if_neg h).symm.trans hf
    exact Nat.le_trans hm (mo_M_exp_90 N r_M_exp r_M_binary r_M_operand r_M_primary r_M_braces hmr_M_exp hmr_M_binary hmr_M_operand hmr_M_primary hmr_M_braces y x3 ((Int32.toInt64 x3)) s hf)
theorem mo_M_exp_55 (N : Nat) (r_M_exp : ms → Option (Int32 × ms)) (r_M_binary : ms → Option (Int32 × ms)) (r_M_operand : ms → Option (Int32 × ms)) (r_M_primary : ms → Option (Int32 × ms)) (r_M_braces : Int32 → ms → Option (Int32 × ms)) (hmr_M_exp : ∀ (s : ms) (y : (Int32 × ms)), r_M_exp s = some y → gl s ≤ gl y.2) (hmr_M_binary : ∀ (s : ms) (y : (Int32 × ms)), r_M_binary s = some y → gl s ≤ gl y.2) (hmr_M_operand : ∀ (s : ms) (y : (Int32 × ms)), r_M_operand s = some y → gl s ≤ gl y.2) (hmr_M_primary : ∀ (s : ms) (y : (Int32 × ms)), r_M_primary s = some y → gl s ≤ gl y.2) (hmr_M_braces : ∀ (v1 : Int32) (s : ms) (y : (Int32 × ms)), r_M_braces v1 s = some y → gl s ≤ gl y.2) (y : (Int32 × ms)) (x1 : Int32) (x2 : Int32) (x3 : Int32) (t0 : Int32) (s : ms) (hf : bk_M_exp_55 N r_M_exp r_M_binary r_M_operand r_M_primary r_M_braces x1 x2 x3 t0 s = some y) : gl s ≤ gl y.2 := by
  unfold bk_M_exp_55 at hf
  have hm : gl s ≤ gl s := Nat.le_refl _
  by_cases h : (s.1 9 0) = 0
  · have hf := (if_pos h).symm.trans hf
    by_cases h : x3 = t0
    · have hf := (if_pos h).symm.trans hf
      exact Nat.le_trans hm (mo_M_exp_77 N r_M_exp r_M_binary r_M_operand r_M_primary r_M_braces hmr_M_exp hmr_M_binary hmr_M_operand hmr_M_primary hmr_M_braces y x1 x3 s hf)
    · have hf := (if_neg h).symm.trans hf
      obtain ⟨q_1, hc_2, hf⟩ := dc_b hf
      have hm := Nat.le_trans hm (Nat.le_of_eq (mn_M_fail N 30 x2 s q_1 hc_2).symm)
      exact Nat.le_trans hm (mo_M_exp_77 N r_M_exp r_M_binary r_M_operand r_M_primary r_M_braces hmr_M_exp hmr_M_binary hmr_M_operand hmr_M_primary hmr_M_braces y x1 x3 q_1.2 hf)
  · have hf := (if_neg h).symm.trans hf
    exact Nat.le_trans hm (mo_M_exp_77 N r_M_exp r_M_binary r_M_operand r_M_primary r_M_braces hmr_M_exp hmr_M_binary hmr_M_operand hmr_M_primary hmr_M_braces y x1 x3 s hf)
theorem mo_M_exp_40 (N : Nat) (r_M_exp : ms → Option (Int32 × ms)) (r_M_binary : ms → Option (Int32 × ms)) (r_M_operand : ms → Option (Int32 × ms)) (r_M_primary : ms → Option (Int32 × ms)) (r_M_braces : Int32 → ms → Option (Int32 × ms)) (hmr_M_exp : ∀ (s : ms) (y : (Int32 × ms)), r_M_exp s = some y → gl s ≤ gl y.2) (hmr_M_binary : ∀ (s : ms) (y : (Int32 × ms)), r_M_binary s = some y → gl s ≤ gl y.2) (hmr_M_operand : ∀ (s : ms) (y : (Int32 × ms)), r_M_operand s = some y → gl s ≤ gl y.2) (hmr_M_primary : ∀ (s : ms) (y : (Int32 × ms)), r_M_primary s = some y → gl s ≤ gl y.2) (hmr_M_braces : ∀ (v1 : Int32) (s : ms) (y : (Int32 × ms)), r_M_braces v1 s = some y → gl s ≤ gl y.2) (y : (Int32 × ms)) (x1 : Int32) (x2 : Int32) (t0 : Int32) (s : ms) (hf : bk_M_exp_40 N r_M_exp r_M_binary r_M_operand r_M_primary r_M_braces x1 x2 t0 s = some y) : gl s ≤ gl y.2 := by
  unfold bk_M_exp_40 at hf
  have hm : gl s ≤ gl s := Nat.le_refl _
  obtain ⟨q_1, hc_2, hf⟩ := dc_b hf
  have hm := Nat.le_trans hm (hmr_M_exp (upI s 8 (fun _ => ((s.1 8 0) + 1))) q_1 hc_2)
  exact Nat.le_trans hm (mo_M_exp_55 N r_M_exp r_M_binary r_M_operand r_M_primary r_M_braces hmr_M_exp hmr_M_binary hmr_M_operand hmr_M_primary hmr_M_braces y x1 x2 t0 q_1.1 q_1.2 hf)
theorem mo_M_exp_4 (N : Nat) (r_M_exp : ms → Option (Int32 × ms)) (r_M_binary : ms → Option (Int32 × ms)) (r_M_operand : ms → Option (Int32 × ms)) (r_M_primary : ms → Option (Int32 × ms)) (r_M_braces : Int32 → ms → Option (Int32 × ms)) (hmr_M_exp : ∀ (s : ms) (y : (Int32 × ms)), r_M_exp s = some y → gl s ≤ gl y.2) (hmr_M_binary : ∀ (s : ms) (y : (Int32 × ms)), r_M_binary s = some y → gl s ≤ gl y.2) (hmr_M_operand : ∀ (s : ms) (y : (Int32 × ms)), r_M_operand s = some y → gl s ≤ gl y.2) (hmr_M_primary : ∀ (s : ms) (y : (Int32 × ms)), r_M_primary s = some y → gl s ≤ gl y.2) (hmr_M_braces : ∀ (v1 : Int32) (s : ms) (y : (Int32 × ms)), r_M_braces v1 s = some y → gl s ≤ gl y.2) (y : (Int32 × ms)) (t0 : Int32) (s : ms) (hf : bk_M_exp_4 N r_M_exp r_M_binary r_M_operand r_M_primary r_M_braces t0 s = some y) : gl s ≤ gl y.2 := by
  unfold bk_M_exp_4 at hf
  have hm : gl s ≤ gl s := Nat.le_refl _
  obtain ⟨q_1, hc_2, hf⟩ := dc_b hf
  have hm := Nat.le_trans hm (Nat.le_of_eq (mn_M_is N 63 s q_1 hc_2).symm)
  by_cases h : q_1.1 = 0
  · have hf := (if_pos h).symm.trans hf
    exact Nat.le_trans hm (Nat.le_of_eq (dc_e hf).symm)
  · have hf := (if_neg h).symm.trans hf
    obtain ⟨_, hf⟩ := dc_g hf
    obtain ⟨q_5, hc_6, hf⟩ := dc_b hf
    have hm := Nat.le_trans hm (hmr_M_exp (upI q_1.2 8 (fun _ => ((q_1.2.1 8 0) + 1))) q_5 hc_6)
    exact Nat.le_trans hm (mo_M_exp_40 N r_M_exp r_M_binary r_M_operand r_M_primary r_M_braces hmr_M_exp hmr_M_binary hmr_M_operand hmr_M_primary hmr_M_braces y t0 (((q_1.2.1 5) (Int32.toNatClampNeg ((q_1.2.1 8 0))))) q_5.1 q_5.2 hf)
theorem mf_M_exp (N : Nat) (r_M_exp : ms → Option (Int32 × ms)) (r_M_binary : ms → Option (Int32 × ms)) (r_M_operand : ms → Option (Int32 × ms)) (r_M_primary : ms → Option (Int32 × ms)) (r_M_braces : Int32 → ms → Option (Int32 × ms)) (hmr_M_exp : ∀ (s : ms) (y : (Int32 × ms)), r_M_exp s = some y → gl s ≤ gl y.2) (hmr_M_binary : ∀ (s : ms) (y : (Int32 × ms)), r_M_binary s = some y → gl s ≤ gl y.2) (hmr_M_operand : ∀ (s : ms) (y : (Int32 × ms)), r_M_operand s = some y → gl s ≤ gl y.2) (hmr_M_primary : ∀ (s : ms) (y : (Int32 × ms)), r_M_primary s = some y → gl s ≤ gl y.2) (hmr_M_braces : ∀ (v1 : Int32) (s : ms) (y : (Int32 × ms)), r_M_braces v1 s = some y → gl s ≤ gl y.2) (s1 : ms) (y : (Int32 × ms)) (hf : fb_M_exp N r_M_exp r_M_binary r_M_operand r_M_primary r_M_braces s1 = some y) : gl s1 ≤ gl y.2 := by
  unfold fb_M_exp at hf
  have hm : gl s1 ≤ gl s1 := Nat.le_refl _
  obtain ⟨q_1, hc_2, hf⟩ := dc_b hf
  have hm := Nat.le_trans hm (hmr_M_binary s1 q_1 hc_2)
  exact Nat.le_trans hm (mo_M_exp_4 N r_M_exp r_M_binary r_M_operand r_M_primary r_M_braces hmr_M_exp hmr_M_binary hmr_M_operand hmr_M_primary hmr_M_braces y q_1.1 q_1.2 hf)
theorem mo_M_binary_145 (N : Nat) (r_M_exp : ms → Option (Int32 × ms)) (r_M_binary : ms → Option (Int32 × ms)) (r_M_operand : ms → Option (Int32 × ms)) (r_M_primary : ms → Option (Int32 × ms)) (r_M_braces : Int32 → ms → Option (Int32 × ms)) (hmr_M_exp : ∀ (s : ms) (y : (Int32 × ms)), r_M_exp s = some y → gl s ≤ gl y.2) (hmr_M_binary : ∀ (s : ms) (y : (Int32 × ms)), r_M_binary s = some y → gl s ≤ gl y.2) (hmr_M_operand : ∀ (s : ms) (y : (Int32 × ms)), r_M_operand s = some y → gl s ≤ gl y.2) (hmr_M_primary : ∀ (s : ms) (y : (Int32 × ms)), r_M_primary s = some y → gl s ≤ gl y.2) (hmr_M_braces : ∀ (v1 : Int32) (s : ms) (y : (Int32 × ms)), r_M_braces v1 s = some y → gl s ≤ gl y.2) (k_133 : Int32 → ms → Option (Int32 × ms)) (y : (Int32 × ms)) (hkm_133 : ∀ (x1 : Int32) (s : ms), k_133 x1 s = some y → gl s ≤ gl y.2) (x1 : Int32) (s : ms) (hf : bk_M_binary_145 N r_M_exp r_M_binary r_M_operand r_M_primary r_M_braces k_133 x1 s = some y) : gl s ≤ gl y.2 := by
  unfold bk_M_binary_145 at hf
  have hm : gl s ≤ gl s := Nat.le_refl _
  exact Nat.le_trans hm (hkm_133 x1 s hf)
theorem mb_M_binary_133 (N : Nat) (r_M_exp : ms → Option (Int32 × ms)) (r_M_binary : ms → Option (Int32 × ms)) (r_M_operand : ms → Option (Int32 × ms)) (r_M_primary : ms → Option (Int32 × ms)) (r_M_braces : Int32 → ms → Option (Int32 × ms)) (hmr_M_exp : ∀ (s : ms) (y : (Int32 × ms)), r_M_exp s = some y → gl s ≤ gl y.2) (hmr_M_binary : ∀ (s : ms) (y : (Int32 × ms)), r_M_binary s = some y → gl s ≤ gl y.2) (hmr_M_operand : ∀ (s : ms) (y : (Int32 × ms)), r_M_operand s = some y → gl s ≤ gl y.2) (hmr_M_primary : ∀ (s : ms) (y : (Int32 × ms)), r_M_primary s = some y → gl s ≤ gl y.2) (hmr_M_braces : ∀ (v1 : Int32) (s : ms) (y : (Int32 × ms)), r_M_braces v1 s = some y → gl s ≤ gl y.2) (y : (Int32 × ms)) (k_133 : Int32 → ms → Option (Int32 × ms)) (hkm_133 : ∀ (x1 : Int32) (s : ms), k_133 x1 s = some y → gl s ≤ gl y.2) (x1 : Int32) (s : ms) (hf : bd_M_binary_133 N r_M_exp r_M_binary r_M_operand r_M_primary r_M_braces k_133 x1 s = some y) : gl s ≤ gl y.2 := by
  unfold bd_M_binary_133 at hf
  have hm : gl s ≤ gl s := Nat.le_refl _
  by_cases h : (s.1 51 0) ≤ x1
  · have hf := (if_pos h).symm.trans hf
    obtain ⟨_, hf⟩ := dc_g hf
    exact Nat.le_trans hm (Nat.le_of_eq (dc_e hf).symm)
  · have hf := (if_neg h).symm.trans hf
    obtain ⟨q_1, hc_2, hf⟩ := dc_b hf
    have hm := Nat.le_trans hm (mn_M_reckon N s q_1 hc_2)
    exact Nat.le_trans hm (mo_M_binary_145 N r_M_exp r_M_binary r_M_operand r_M_primary r_M_braces hmr_M_exp hmr_M_binary hmr_M_operand hmr_M_primary hmr_M_braces k_133 y hkm_133 x1 q_1.2 hf)
theorem mh_M_binary_133 (N : Nat) (r_M_exp : ms → Option (Int32 × ms)) (r_M_binary : ms → Option (Int32 × ms)) (r_M_operand : ms → Option (Int32 × ms)) (r_M_primary : ms → Option (Int32 × ms)) (r_M_braces : Int32 → ms → Option (Int32 × ms)) (hmr_M_exp : ∀ (s : ms) (y : (Int32 × ms)), r_M_exp s = some y → gl s ≤ gl y.2) (hmr_M_binary : ∀ (s : ms) (y : (Int32 × ms)), r_M_binary s = some y → gl s ≤ gl y.2) (hmr_M_operand : ∀ (s : ms) (y : (Int32 × ms)), r_M_operand s = some y → gl s ≤ gl y.2) (hmr_M_primary : ∀ (s : ms) (y : (Int32 × ms)), r_M_primary s = some y → gl s ≤ gl y.2) (hmr_M_braces : ∀ (v1 : Int32) (s : ms) (y : (Int32 × ms)), r_M_braces v1 s = some y → gl s ≤ gl y.2) (y : (Int32 × ms)) : ∀ (n : Nat) (x1 : Int32) (s : ms), hd_M_binary_133 N r_M_exp r_M_binary r_M_operand r_M_primary r_M_braces n x1 s = some y → gl s ≤ gl y.2 := by
  intro n
  induction n with
  | zero => intro x1 s hf; cases hf
  | succ n ih => intro x1 s hf; exact mb_M_binary_133 N r_M_exp r_M_binary r_M_operand r_M_primary r_M_braces hmr_M_exp hmr_M_binary hmr_M_operand hmr_M_primary hmr_M_braces y (hd_M_binary_133 N r_M_exp r_M_binary r_M_operand r_M_primary r_M_braces n) ih x1 s hf
theorem mo_M_binary_127 (N : Nat) (r_M_exp : ms → Option (Int32 × ms)) (r_M_binary : ms → Option (Int32 × ms)) (r_M_operand : ms → Option (Int32 × ms)) (r_M_primary : ms → Option (Int32 × ms)) (r_M_braces : Int32 → ms → Option (Int32 × ms)) (hmr_M_exp : ∀ (s : ms) (y : (Int32 × ms)), r_M_exp s = some y → gl s ≤ gl y.2) (hmr_M_binary : ∀ (s : ms) (y : (Int32 × ms)), r_M_binary s = some y → gl s ≤ gl y.2) (hmr_M_operand : ∀ (s : ms) (y : (Int32 × ms)), r_M_operand s = some y → gl s ≤ gl y.2) (hmr_M_primary : ∀ (s : ms) (y : (Int32 × ms)), r_M_primary s = some y → gl s ≤ gl y.2) (hmr_M_braces : ∀ (v1 : Int32) (s : ms) (y : (Int32 × ms)), r_M_braces v1 s = some y → gl s ≤ gl y.2) (k_13 : Int32 → ms → Option (Int32 × ms)) (y : (Int32 × ms)) (hkm_13 : ∀ (x1 : Int32) (s : ms), k_13 x1 s = some y → gl s ≤ gl y.2) (x1 : Int32) (t0 : Int32) (s : ms) (hf : bk_M_binary_127 N r_M_exp r_M_binary r_M_operand r_M_primary r_M_braces k_13 x1 t0 s = some y) : gl s ≤ gl y.2 := by
  unfold bk_M_binary_127 at hf
  have hm : gl s ≤ gl s := Nat.le_refl _
  obtain ⟨q_1, hc_2, hf⟩ := dc_b hf
  have hm := Nat.le_trans hm (Nat.le_of_eq (mn_M_pushWidth N t0 s q_1 hc_2).symm)
  exact Nat.le_trans hm (hkm_13 x1 q_1.2 hf)
theorem mo_M_binary_71 (N : Nat) (r_M_exp : ms → Option (Int32 × ms)) (r_M_binary : ms → Option (Int32 × ms)) (r_M_operand : ms → Option (Int32 × ms)) (r_M_primary : ms → Option (Int32 × ms)) (r_M_braces : Int32 → ms → Option (Int32 × ms)) (hmr_M_exp : ∀ (s : ms) (y : (Int32 × ms)), r_M_exp s = some y → gl s ≤ gl y.2) (hmr_M_binary : ∀ (s : ms) (y : (Int32 × ms)), r_M_binary s = some y → gl s ≤ gl y.2) (hmr_M_operand : ∀ (s : ms) (y : (Int32 × ms)), r_M_operand s = some y → gl s ≤ gl y.2) (hmr_M_primary : ∀ (s : ms) (y : (Int32 × ms)), r_M_primary s = some y → gl s ≤ gl y.2) (hmr_M_braces : ∀ (v1 : Int32) (s : ms) (y : (Int32 × ms)), r_M_braces v1 s = some y → gl s ≤ gl y.2) (k_13 : Int32 → ms → Option (Int32 × ms)) (y : (Int32 × ms)) (hkm_13 : ∀ (x1 : Int32) (s : ms), k_13 x1 s = some y → gl s ≤ gl y.2) (x1 : Int32) (s : ms) (hf : bk_M_binary_71 N r_M_exp r_M_binary r_M_operand r_M_primary r_M_braces k_13 x1 s = some y) : gl s ≤ gl y.2 := by
  unfold bk_M_binary_71 at hf
  have hm : gl s ≤ gl s := Nat.le_refl _
  obtain ⟨q_1, hc_2, hf⟩ := dc_b hf
  have hm := Nat.le_trans hm (Nat.le_of_eq (mn_M_kind N s q_1 hc_2).symm)
  obtain ⟨_, hf⟩ := dc_g hf
  obtain ⟨_, hf⟩ := dc_g hf
  obtain ⟨_, hf⟩ := dc_g hf
  obtain ⟨q_7, hc_8, hf⟩ := dc_b hf
  have hm := Nat.le_trans hm (hmr_M_operand (upI (upI (upI (upI q_1.2 49 (upd (q_1.2.1 49) (Int32.toNatClampNeg ((s.1 51 0))) q_1.1)) 50 (upd (q_1.2.1 50) (Int32.toNatClampNeg ((q_1.2.1 51 0))) (((q_1.2.1 5) (Int32.toNatClampNeg ((q_1.2.1 8 0))))))) 51 (fun _ => ((q_1.2.1 51 0) + 1))) 8 (fun _ => ((q_1.2.1 8 0) + 1))) q_7 hc_8)
  exact Nat.le_trans hm (mo_M_binary_127 N r_M_exp r_M_binary r_M_operand r_M_primary r_M_braces hmr_M_exp hmr_M_binary hmr_M_operand hmr_M_primary hmr_M_braces k_13 y hkm_13 x1 q_7.1 q_7.2 hf)
theorem mo_M_binary_68 (N : Nat) (r_M_exp : ms → Option (Int32 × ms)) (r_M_binary : ms → Option (Int32 × ms)) (r_M_operand : ms → Option (Int32 × ms)) (r_M_primary : ms → Option (Int32 × ms)) (r_M_braces : Int32 → ms → Option (Int32 × ms)) (hmr_M_exp : ∀ (s : ms) (y : (Int32 × ms)), r_M_exp s = some y → gl s ≤ gl y.2) (hmr_M_binary : ∀ (s : ms) (y : (Int32 × ms)), r_M_binary s = some y → gl s ≤ gl y.2) (hmr_M_operand : ∀ (s : ms) (y : (Int32 × ms)), r_M_operand s = some y → gl s ≤ gl y.2) (hmr_M_primary : ∀ (s : ms) (y : (Int32 × ms)), r_M_primary s = some y → gl s ≤ gl y.2) (hmr_M_braces : ∀ (v1 : Int32) (s : ms) (y : (Int32 × ms)), r_M_braces v1 s = some y → gl s ≤ gl y.2) (k_13 : Int32 → ms → Option (Int32 × ms)) (k_38 : Int32 → Int32 → ms → Option (Int32 × ms)) (y : (Int32 × ms)) (hkm_13 : ∀ (x1 : Int32) (s : ms), k_13 x1 s = some y → gl s ≤ gl y.2) (hkm_38 : ∀ (x1 : Int32) (x2 : Int32) (s : ms), k_38 x1 x2 s = some y → gl s ≤ gl y.2) (x1 : Int32) (x2 : Int32) (s : ms) (hf : bk_M_binary_68 N r_M_exp r_M_binary r_M_operand r_M_primary r_M_braces k_13 k_38 x1 x2 s = some y) : gl s ≤ gl y.2 := by
  unfold bk_M_binary_68 at hf
  have hm : gl s ≤ gl s := Nat.le_refl _
  exact Nat.le_trans hm (hkm_38 x1 x2 s hf)
theorem mb_M_binary_38 (N : Nat) (r_M_exp : ms → Option (Int32 × ms)) (r_M_binary : ms → Option (Int32 × ms)) (r_M_operand : ms → Option (Int32 × ms)) (r_M_primary : ms → Option (Int32 × ms)) (r_M_braces : Int32 → ms → Option (Int32 × ms)) (hmr_M_exp : ∀ (s : ms) (y : (Int32 × ms)), r_M_exp s = some y → gl s ≤ gl y.2) (hmr_M_binary : ∀ (s : ms) (y : (Int32 × ms)), r_M_binary s = some y → gl s ≤ gl y.2) (hmr_M_operand : ∀ (s : ms) (y : (Int32 × ms)), r_M_operand s = some y → gl s ≤ gl y.2) (hmr_M_primary : ∀ (s : ms) (y : (Int32 × ms)), r_M_primary s = some y → gl s ≤ gl y.2) (hmr_M_braces : ∀ (v1 : Int32) (s : ms) (y : (Int32 × ms)), r_M_braces v1 s = some y → gl s ≤ gl y.2) (k_13 : Int32 → ms → Option (Int32 × ms)) (y : (Int32 × ms)) (hkm_13 : ∀ (x1 : Int32) (s : ms), k_13 x1 s = some y → gl s ≤ gl y.2) (k_38 : Int32 → Int32 → ms → Option (Int32 × ms)) (hkm_38 : ∀ (x1 : Int32) (x2 : Int32) (s : ms), k_38 x1 x2 s = some y → gl s ≤ gl y.2) (x1 : Int32) (x2 : Int32) (s : ms) (hf : bd_M_binary_38 N r_M_exp r_M_binary r_M_operand r_M_primary r_M_braces k_13 k_38 x1 x2 s = some y) : gl s ≤ gl y.2 := by
  unfold bd_M_binary_38 at hf
  have hm : gl s ≤ gl s := Nat.le_refl _
  by_cases h : (s.1 51 0) ≤ x1
  · have hf := (if_pos h).symm.trans hf
    exact Nat.le_trans hm (mo_M_binary_71 N r_M_exp r_M_binary r_M_operand r_M_primary r_M_braces hmr_M_exp hmr_M_binary hmr_M_operand hmr_M_primary hmr_M_braces k_13 y hkm_13 x1 s hf)
  · have hf := (if_neg h).symm.trans hf
    obtain ⟨_, hf⟩ := dc_g hf
    obtain ⟨q_2, hc_3, hf⟩ := dc_b hf
    have hm := Nat.le_trans hm (Nat.le_of_eq (mn_M_rank N (((s.1 49) (Int32.toNatClampNeg (((s.1 51 0) - 1))))) s q_2 hc_3).symm)
    by_cases h : q_2.1 < x2
    · have hf := (if_pos h).symm.trans hf
      exact Nat.le_trans hm (mo_M_binary_71 N r_M_exp r_M_binary r_M_operand r_M_primary r_M_braces hmr_M_exp hmr_M_binary hmr_M_operand hmr_M_primary hmr_M_braces k_13 y hkm_13 x1 q_2.2 hf)
    · have hf := (if_neg h).symm.trans hf
      obtain ⟨q_5, hc_6, hf⟩ := dc_b hf
      have hm := Nat.le_trans hm (mn_M_reckon N q_2.2 q_5 hc_6)
      exact Nat.le_trans hm (mo_M_binary_68 N r_M_exp r_M_binary r_M_operand r_M_primary r_M_braces hmr_M_exp hmr_M_binary hmr_M_operand hmr_M_primary hmr_M_braces k_13 k_38 y hkm_13 hkm_38 x1 x2 q_5.2 hf)
theorem mh_M_binary_38 (N : Nat) (r_M_exp : ms → Option (Int32 × ms)) (r_M_binary : ms → Option (Int32 × ms)) (r_M_operand : ms → Option (Int32 × ms)) (r_M_primary : ms → Option (Int32 × ms)) (r_M_braces : Int32 → ms → Option (Int32 × ms)) (hmr_M_exp : ∀ (s : ms) (y : (Int32 × ms)), r_M_exp s = some y → gl s ≤ gl y.2) (hmr_M_binary : ∀ (s : ms) (y : (Int32 × ms)), r_M_binary s = some y → gl s ≤ gl y.2) (hmr_M_operand : ∀ (s : ms) (y : (Int32 × ms)), r_M_operand s = some y → gl s ≤ gl y.2) (hmr_M_primary : ∀ (s : ms) (y : (Int32 × ms)), r_M_primary s = some y → gl s ≤ gl y.2) (hmr_M_braces : ∀ (v1 : Int32) (s : ms) (y : (Int32 × ms)), r_M_braces v1 s = some y → gl s ≤ gl y.2) (k_13 : Int32 → ms → Option (Int32 × ms)) (y : (Int32 × ms)) (hkm_13 : ∀ (x1 : Int32) (s : ms), k_13 x1 s = some y → gl s ≤ gl y.2) : ∀ (n : Nat) (x1 : Int32) (x2 : Int32) (s : ms), hd_M_binary_38 N r_M_exp r_M_binary r_M_operand r_M_primary r_M_braces k_13 n x1 x2 s = some y → gl s ≤ gl y.2 := by
  intro n
  induction n with
  | zero => intro x1 x2 s hf; cases hf
  | succ n ih => intro x1 x2 s hf; exact mb_M_binary_38 N r_M_exp r_M_binary r_M_operand r_M_primary r_M_braces hmr_M_exp hmr_M_binary hmr_M_operand hmr_M_primary hmr_M_braces k_13 y hkm_13 (hd_M_binary_38 N r_M_exp r_M_binary r_M_operand r_M_primary r_M_braces k_13 n) ih x1 x2 s hf
theorem mb_M_binary_13 (N : Nat) (r_M_exp : ms → Option (Int32 × ms)) (r_M_binary : ms → Option (Int32 × ms)) (r_M_operand : ms → Option (Int32 × ms)) (r_M_primary : ms → Option (Int32 × ms)) (r_M_braces : Int32 → ms → Option (Int32 × ms)) (hmr_M_exp : ∀ (s : ms) (y : (Int32 × ms)), r_M_exp s = some y → gl s ≤ gl y.2) (hmr_M_binary : ∀ (s : ms) (y : (Int32 × ms)), r_M_binary s = some y → gl s ≤ gl y.2) (hmr_M_operand : ∀ (s : ms) (y : (Int32 × ms)), r_M_operand s = some y → gl s ≤ gl y.2) (hmr_M_primary : ∀ (s : ms) (y : (Int32 × ms)), r_M_primary s = some y → gl s ≤ gl y.2) (hmr_M_braces : ∀ (v1 : Int32) (s : ms) (y : (Int32 × ms)), r_M_braces v1 s = some y → gl s ≤ gl y.2) (y : (Int32 × ms)) (k_13 : Int32 → ms → Option (Int32 × ms)) (hkm_13 : ∀ (x1 : Int32) (s : ms), k_13 x1 s = some y → gl s ≤ gl y.2) (x1 : Int32) (s : ms) (hf : bd_M_binary_13 N r_M_exp r_M_binary r_M_operand r_M_primary r_M_braces k_13 x1 s = some y) : gl s ≤ gl y.2 := by
  unfold bd_M_binary_13 at hf
  have hm : gl s ≤ gl s := Nat.le_refl _
  by_cases h : (s.1 9 0) = 0
  · have hf := (if_pos h).symm.trans hf
    obtain ⟨q_1, hc_2, hf⟩ := dc_b hf
    have hm := Nat.le_trans hm (Nat.le_of_eq (mn_M_kind N s q_1 hc_2).symm)
    obtain ⟨q_4, hc_5, hf⟩ := dc_b hf
    have hm := Nat.le_trans hm (Nat.le_of_eq (mn_M_rank N q_1.1 q_1.2 q_4 hc_5).symm)
    by_cases h : q_4.1 ≤ 0
    · have hf := (if_pos h).symm.trans hf
      exact Nat.le_trans hm (mh_M_binary_133 N r_M_exp r_M_binary r_M_operand r_M_primary r_M_braces hmr_M_exp hmr_M_binary hmr_M_operand hmr_M_primary hmr_M_braces y N x1 q_4.2 hf)
    · have hf := (if_neg h).symm.trans hf
      obtain ⟨q_7, hc_8, hf⟩ := dc_b hf
      have hm := Nat.le_trans hm (Nat.le_of_eq (mn_M_kind N q_4.2 q_7 hc_8).symm)
      obtain ⟨q_10, hc_11, hf⟩ := dc_b hf
      have hm := Nat.le_trans hm (Nat.le_of_eq (mn_M_rank N q_7.1 q_7.2 q_10 hc_11).symm)
      exact Nat.le_trans hm (mh_M_binary_38 N r_M_exp r_M_binary r_M_operand r_M_primary r_M_braces hmr_M_exp hmr_M_binary hmr_M_operand hmr_M_primary hmr_M_braces k_13 y hkm_13 N x1 q_10.1 q_10.2 hf)
  · have hf := (if_neg h).symm.trans hf
    exact Nat.le_trans hm (mh_M_binary_133 N r_M_exp r_M_binary r_M_operand r_M_primary r_M_braces hmr_M_exp hmr_M_binary hmr_M_operand hmr_M_primary hmr_M_braces y N x1 s hf)
theorem mh_M_binary_13 (N : Nat) (r_M_exp : ms → Option (Int32 × ms)) (r_M_binary : ms → Option (Int32 × ms)) (r_M_operand : ms → Option (Int32 × ms)) (r_M_primary : ms → Option (Int32 × ms)) (r_M_braces : Int32 → ms → Option (Int32 × ms)) (hmr_M_exp : ∀ (s : ms) (y : (Int32 × ms)), r_M_exp s = some y → gl s ≤ gl y.2) (hmr_M_binary : ∀ (s : ms) (y : (Int32 × ms)), r_M_binary s = some y → gl s ≤ gl y.2) (hmr_M_operand : ∀ (s : ms) (y : (Int32 × ms)), r_M_operand s = some y → gl s ≤ gl y.2) (hmr_M_primary : ∀ (s : ms) (y : (Int32 × ms)), r_M_primary s = some y → gl s ≤ gl y.2) (hmr_M_braces : ∀ (v1 : Int32) (s : ms) (y : (Int32 × ms)), r_M_braces v1 s = some y → gl s ≤ gl y.2) (y : (Int32 × ms)) : ∀ (n : Nat) (x1 : Int32) (s : ms), hd_M_binary_13 N r_M_exp r_M_binary r_M_operand r_M_primary r_M_braces n x1 s = some y → gl s ≤ gl y.2 := by
  intro n
  induction n with
  | zero => intro x1 s hf; cases hf
  | succ n ih => intro x1 s hf; exact mb_M_binary_13 N r_M_exp r_M_binary r_M_operand r_M_primary r_M_braces hmr_M_exp hmr_M_binary hmr_M_operand hmr_M_primary hmr_M_braces y (hd_M_binary_13 N r_M_exp r_M_binary r_M_operand r_M_primary r_M_braces n) ih x1 s hf
theorem mo_M_binary_10 (N : Nat) (r_M_exp : ms → Option (Int32 × ms)) (r_M_binary : ms → Option (Int32 × ms)) (r_M_operand : ms → Option (Int32 × ms)) (r_M_primary : ms → Option (Int32 × ms)) (r_M_braces : Int32 → ms → Option (Int32 × ms)) (hmr_M_exp : ∀ (s : ms) (y : (Int32 × ms)), r_M_exp s = some y → gl s ≤ gl y.2) (hmr_M_binary : ∀ (s : ms) (y : (Int32 × ms)), r_M_binary s = some y → gl s ≤ gl y.2) (hmr_M_operand : ∀ (s : ms) (y : (Int32 × ms)), r_M_operand s = some y → gl s ≤ gl y.2) (hmr_M_primary : ∀ (s : ms) (y : (Int32 × ms)), r_M_primary s = some y → gl s ≤ gl y.2) (hmr_M_braces : ∀ (v1 : Int32) (s : ms) (y : (Int32 × ms)), r_M_braces v1 s = some y → gl s ≤ gl y.2) (y : (Int32 × ms)) (x1 : Int32) (t0 : Int32) (s : ms) (hf : bk_M_binary_10 N r_M_exp r_M_binary r_M_operand r_M_primary r_M_braces x1 t0 s = some y) : gl s ≤ gl y.2 := by
  unfold bk_M_binary_10 at hf
  have hm : gl s ≤ gl s := Nat.le_refl _
  obtain ⟨q_1, hc_2, hf⟩ := dc_b hf
  have hm := Nat.le_trans hm (Nat.le_of_eq (mn_M_pushWidth N t0 s q_1 hc_2).symm)
  exact Nat.le_trans hm (mh_M_binary_13 N r_M_exp r_M_binary r_M_operand r_M_primary r_M_braces hmr_M_exp hmr_M_binary hmr_M_operand hmr_M_primary hmr_M_braces y N x1 q_1.2 hf)
theorem mf_M_binary (N : Nat) (r_M_exp : ms → Option (Int32 × ms)) (r_M_binary : ms → Option (Int32 × ms)) (r_M_operand : ms → Option (Int32 × ms)) (r_M_primary : ms → Option (Int32 × ms)) (r_M_braces : Int32 → ms → Option (Int32 × ms)) (hmr_M_exp : ∀ (s : ms) (y : (Int32 × ms)), r_M_exp s = some y → gl s ≤ gl y.2) (hmr_M_binary : ∀ (s : ms) (y : (Int32 × ms)), r_M_binary s = some y → gl s ≤ gl y.2) (hmr_M_operand : ∀ (s : ms) (y : (Int32 × ms)), r_M_operand s = some y → gl s ≤ gl y.2) (hmr_M_primary : ∀ (s : ms) (y : (Int32 × ms)), r_M_primary s = some y → gl s ≤ gl y.2) (hmr_M_braces : ∀ (v1 : Int32) (s : ms) (y : (Int32 × ms)), r_M_braces v1 s = some y → gl s ≤ gl y.2) (s1 : ms) (y : (Int32 × ms)) (hf : fb_M_binary N r_M_exp r_M_binary r_M_operand r_M_primary r_M_braces s1 = some y) : gl s1 ≤ gl y.2 := by
  unfold fb_M_binary at hf
  have hm : gl s1 ≤ gl s1 := Nat.le_refl _
  obtain ⟨q_1, hc_2, hf⟩ := dc_b hf
  have hm := Nat.le_trans hm (hmr_M_operand s1 q_1 hc_2)
  exact Nat.le_trans hm (mo_M_binary_10 N r_M_exp r_M_binary r_M_operand r_M_primary r_M_braces hmr_M_exp hmr_M_binary hmr_M_operand hmr_M_primary hmr_M_braces y ((s1.1 51 0)) q_1.1 q_1.2 hf)
theorem mo_M_operand_99 (N : Nat) (r_M_exp : ms → Option (Int32 × ms)) (r_M_binary : ms → Option (Int32 × ms)) (r_M_operand : ms → Option (Int32 × ms)) (r_M_primary : ms → Option (Int32 × ms)) (r_M_braces : Int32 → ms → Option (Int32 × ms)) (hmr_M_exp : ∀ (s : ms) (y : (Int32 × ms)), r_M_exp s = some y → gl s ≤ gl y.2) (hmr_M_binary : ∀ (s : ms) (y : (Int32 × ms)), r_M_binary s = some y → gl s ≤ gl y.2) (hmr_M_operand : ∀ (s : ms) (y : (Int32 × ms)), r_M_operand s = some y → gl s ≤ gl y.2) (hmr_M_primary : ∀ (s : ms) (y : (Int32 × ms)), r_M_primary s = some y → gl s ≤ gl y.2) (hmr_M_braces : ∀ (v1 : Int32) (s : ms) (y : (Int32 × ms)), r_M_braces v1 s = some y → gl s ≤ gl y.2) (k_43 : Int32 → Int32 → Int32 → ms → Option (Int32 × ms)) (y : (Int32 × ms)) (hkm_43 : ∀ (x1 : Int32) (x3 : Int32) (x4 : Int32) (s : ms), k_43 x1 x3 x4 s = some y → gl s ≤ gl y.2) (x1 : Int32) (x3 : Int32) (x4 : Int32) (s : ms) (hf : bk_M_operand_99 N r_M_exp r_M_binary r_M_operand r_M_primary r_M_braces k_43 x1 x3 x4 s = some y) : gl s ≤ gl y.2 := by
  unfold bk_M_operand_99 at hf
  have hm : gl s ≤ gl s := Nat.le_refl _
  exact Nat.le_trans hm (hkm_43 x1 x3 ((x4 + (-1))) s hf)
theorem mo_M_operand_75 (N : Nat) (r_M_exp : ms → Option (Int32 × ms)) (r_M_binary : ms → Option (Int32 × ms)) (r_M_operand : ms → Option (Int32 × ms)) (r_M_primary : ms → Option (Int32 × ms)) (r_M_braces : Int32 → ms → Option (Int32 × ms)) (hmr_M_exp : ∀ (s : ms) (y : (Int32 × ms)), r_M_exp s = some y → gl s ≤ gl y.2) (hmr_M_binary : ∀ (s : ms) (y : (Int32 × ms)), r_M_binary s = some y → gl s ≤ gl y.2) (hmr_M_operand : ∀ (s : ms) (y : (Int32 × ms)), r_M_operand s = some y → gl s ≤ gl y.2) (hmr_M_primary : ∀ (s : ms) (y : (Int32 × ms)), r_M_primary s = some y → gl s ≤ gl y.2) (hmr_M_braces : ∀ (v1 : Int32) (s : ms) (y : (Int32 × ms)), r_M_braces v1 s = some y → gl s ≤ gl y.2) (k_43 : Int32 → Int32 → Int32 → ms → Option (Int32 × ms)) (y : (Int32 × ms)) (hkm_43 : ∀ (x1 : Int32) (x3 : Int32) (x4 : Int32) (s : ms), k_43 x1 x3 x4 s = some y → gl s ≤ gl y.2) (x1 : Int32) (x3 : Int32) (x4 : Int32) (s : ms) (hf : bk_M_operand_75 N r_M_exp r_M_binary r_M_operand r_M_primary r_M_braces k_43 x1 x3 x4 s = some y) : gl s ≤ gl y.2 := by
  unfold bk_M_operand_75 at hf
  have hm : gl s ≤ gl s := Nat.le_refl _
  obtain ⟨_, hf⟩ := dc_g hf
  by_cases h : ((s.1 4) (Int32.toNatClampNeg x4)) = 126
  · have hf := (if_pos h).symm.trans hf
    exact Nat.le_trans hm (mo_M_operand_99 N r_M_exp r_M_binary r_M_operand r_M_primary r_M_braces hmr_M_exp hmr_M_binary hmr_M_operand hmr_M_primary hmr_M_braces k_43 y hkm_43 x1 x3 x4 s hf)
  · have hf := (if_neg h).symm.trans hf
    obtain ⟨_, hf⟩ := dc_g hf
    by_cases h : ((s.1 4) (Int32.toNatClampNeg x4)) = 45
    · have hf := (if_pos h).symm.trans hf
      exact Nat.le_trans hm (mo_M_operand_99 N r_M_exp r_M_binary r_M_operand r_M_primary r_M_braces hmr_M_exp hmr_M_binary hmr_M_operand hmr_M_primary hmr_M_braces k_43 y hkm_43 x1 x3 x4 s hf)
    · have hf := (if_neg h).symm.trans hf
      exact Nat.le_trans hm (hkm_43 x1 1 ((x4 + (-1))) s hf)
theorem mb_M_operand_43 (N : Nat) (r_M_exp : ms → Option (Int32 × ms)) (r_M_binary : ms → Option (Int32 × ms)) (r_M_operand : ms → Option (Int32 × ms)) (r_M_primary : ms → Option (Int32 × ms)) (r_M_braces : Int32 → ms → Option (Int32 × ms)) (hmr_M_exp : ∀ (s : ms) (y : (Int32 × ms)), r_M_exp s = some y → gl s ≤ gl y.2) (hmr_M_binary : ∀ (s : ms) (y : (Int32 × ms)), r_M_binary s = some y → gl s ≤ gl y.2) (hmr_M_operand : ∀ (s : ms) (y : (Int32 × ms)), r_M_operand s = some y → gl s ≤ gl y.2) (hmr_M_primary : ∀ (s : ms) (y : (Int32 × ms)), r_M_primary s = some y → gl s ≤ gl y.2) (hmr_M_braces : ∀ (v1 : Int32) (s : ms) (y : (Int32 × ms)), r_M_braces v1 s = some y → gl s ≤ gl y.2) (y : (Int32 × ms)) (k_43 : Int32 → Int32 → Int32 → ms → Option (Int32 × ms)) (hkm_43 : ∀ (x1 : Int32) (x3 : Int32) (x4 : Int32) (s : ms), k_43 x1 x3 x4 s = some y → gl s ≤ gl y.2) (x1 : Int32) (x3 : Int32) (x4 : Int32) (s : ms) (hf : bd_M_operand_43 N r_M_exp r_M_binary r_M_operand r_M_primary r_M_braces k_43 x1 x3 x4 s = some y) : gl s ≤ gl y.2 := by
  unfold bd_M_operand_43 at hf
  have hm : gl s ≤ gl s := Nat.le_refl _
  by_cases h : x4 < x1
  · have hf := (if_pos h).symm.trans hf
    exact Nat.le_trans hm (Nat.le_of_eq (dc_e hf).symm)
  · have hf := (if_neg h).symm.trans hf
    by_cases h : (s.1 9 0) = 0
    · have hf := (if_pos h).symm.trans hf
      obtain ⟨q_1, hc_2, hf⟩ := dc_b hf
      have hm := Nat.le_trans hm (Nat.le_of_eq (mn_M_cost N ((Int32.toInt64 x3)) s q_1 hc_2).symm)
      obtain ⟨_, hf⟩ := dc_g hf
      obtain ⟨q_4, hc_5, hf⟩ := dc_b hf
      have hm := Nat.le_trans hm (mn_M_lay N 4 (((q_1.2.1 4) (Int32.toNatClampNeg x4))) x3 q_1.2 q_4 hc_5)
      exact Nat.le_trans hm (mo_M_operand_75 N r_M_exp r_M_binary r_M_operand r_M_primary r_M_braces hmr_M_exp hmr_M_binary hmr_M_operand hmr_M_primary hmr_M_braces k_43 y hkm_43 x1 x3 x4 q_4.2 hf)
    · have hf := (if_neg h).symm.trans hf
      exact Nat.le_trans hm (Nat.le_of_eq (dc_e hf).symm)
theorem mh_M_operand_43 (N : Nat) (r_M_exp : ms → Option (Int32 × ms)) (r_M_binary : ms → Option (Int32 × ms)) (r_M_operand : ms → Option (Int32 × ms)) (r_M_primary : ms → Option (Int32 × ms)) (r_M_braces : Int32 → ms → Option (Int32 × ms)) (hmr_M_exp : ∀ (s : ms) (y : (Int32 × ms)), r_M_exp s = some y → gl s ≤ gl y.2) (hmr_M_binary : ∀ (s : ms) (y : (Int32 × ms)), r_M_binary s = some y → gl s ≤ gl y.2) (hmr_M_operand : ∀ (s : ms) (y : (Int32 × ms)), r_M_operand s = some y → gl s ≤ gl y.2) (hmr_M_primary : ∀ (s : ms) (y : (Int32 × ms)), r_M_primary s = some y → gl s ≤ gl y.2) (hmr_M_braces : ∀ (v1 : Int32) (s : ms) (y : (Int32 × ms)), r_M_braces v1 s = some y → gl s ≤ gl y.2) (y : (Int32 × ms)) : ∀ (n : Nat) (x1 : Int32) (x3 : Int32) (x4 : Int32) (s : ms), hd_M_operand_43 N r_M_exp r_M_binary r_M_operand r_M_primary r_M_braces n x1 x3 x4 s = some y → gl s ≤ gl y.2 := by
  intro n
  induction n with
  | zero => intro x1 x3 x4 s hf; cases hf
  | succ n ih => intro x1 x3 x4 s hf; exact mb_M_operand_43 N r_M_exp r_M_binary r_M_operand r_M_primary r_M_braces hmr_M_exp hmr_M_binary hmr_M_operand hmr_M_primary hmr_M_braces y (hd_M_operand_43 N r_M_exp r_M_binary r_M_operand r_M_primary r_M_braces n) ih x1 x3 x4 s hf
theorem mo_M_operand_37 (N : Nat) (r_M_exp : ms → Option (Int32 × ms)) (r_M_binary : ms → Option (Int32 × ms)) (r_M_operand : ms → Option (Int32 × ms)) (r_M_primary : ms → Option (Int32 × ms)) (r_M_braces : Int32 → ms → Option (Int32 × ms)) (hmr_M_exp : ∀ (s : ms) (y : (Int32 × ms)), r_M_exp s = some y → gl s ≤ gl y.2) (hmr_M_binary : ∀ (s : ms) (y : (Int32 × ms)), r_M_binary s = some y → gl s ≤ gl y.2) (hmr_M_operand : ∀ (s : ms) (y : (Int32 × ms)), r_M_operand s = some y → gl s ≤ gl y.2) (hmr_M_primary : ∀ (s : ms) (y : (Int32 × ms)), r_M_primary s = some y → gl s ≤ gl y.2) (hmr_M_braces : ∀ (v1 : Int32) (s : ms) (y : (Int32 × ms)), r_M_braces v1 s = some y → gl s ≤ gl y.2) (y : (Int32 × ms)) (x1 : Int32) (x2 : Int32) (t0 : Int32) (s : ms) (hf : bk_M_operand_37 N r_M_exp r_M_binary r_M_operand r_M_primary r_M_braces x1 x2 t0 s = some y) : gl s ≤ gl y.2 := by
  unfold bk_M_operand_37 at hf
  have hm : gl s ≤ gl s := Nat.le_refl _
  exact Nat.le_trans hm (mh_M_operand_43 N r_M_exp r_M_binary r_M_operand r_M_primary r_M_braces hmr_M_exp hmr_M_binary hmr_M_operand hmr_M_primary hmr_M_braces y N x1 t0 ((x2 - 1)) s hf)
theorem mb_M_operand_5 (N : Nat) (r_M_exp : ms → Option (Int32 × ms)) (r_M_binary : ms → Option (Int32 × ms)) (r_M_operand : ms → Option (Int32 × ms)) (r_M_primary : ms → Option (Int32 × ms)) (r_M_braces : Int32 → ms → Option (Int32 × ms)) (hmr_M_exp : ∀ (s : ms) (y : (Int32 × ms)), r_M_exp s = some y → gl s ≤ gl y.2) (hmr_M_binary : ∀ (s : ms) (y : (Int32 × ms)), r_M_binary s = some y → gl s ≤ gl y.2) (hmr_M_operand : ∀ (s : ms) (y : (Int32 × ms)), r_M_operand s = some y → gl s ≤ gl y.2) (hmr_M_primary : ∀ (s : ms) (y : (Int32 × ms)), r_M_primary s = some y → gl s ≤ gl y.2) (hmr_M_braces : ∀ (v1 : Int32) (s : ms) (y : (Int32 × ms)), r_M_braces v1 s = some y → gl s ≤ gl y.2) (y : (Int32 × ms)) (k_5 : Int32 → ms → Option (Int32 × ms)) (hkm_5 : ∀ (x1 : Int32) (s : ms), k_5 x1 s = some y → gl s ≤ gl y.2) (x1 : Int32) (s : ms) (hf : bd_M_operand_5 N r_M_exp r_M_binary r_M_operand r_M_primary r_M_braces k_5 x1 s = some y) : gl s ≤ gl y.2 := by
  unfold bd_M_operand_5 at hf
  have hm : gl s ≤ gl s := Nat.le_refl _
  obtain ⟨q_1, hc_2, hf⟩ := dc_b hf
  have hm := Nat.le_trans hm (Nat.le_of_eq (mn_M_kind N s q_1 hc_2).symm)
  obtain ⟨q_4, hc_5, hf⟩ := dc_b hf
  have hm := Nat.le_trans hm (Nat.le_of_eq (mn_M_isUnary N q_1.1 q_1.2 q_4 hc_5).symm)
  by_cases h : q_4.1 = 0
  · have hf := (if_pos h).symm.trans hf
    obtain ⟨q_7, hc_8, hf⟩ := dc_b hf
    have hm := Nat.le_trans hm (hmr_M_primary q_4.2 q_7 hc_8)
    exact Nat.le_trans hm (mo_M_operand_37 N r_M_exp r_M_binary r_M_operand r_M_primary r_M_braces hmr_M_exp hmr_M_binary hmr_M_operand hmr_M_primary hmr_M_braces y x1 ((q_4.2.1 8 0)) q_7.1 q_7.2 hf)
  · have hf := (if_neg h).symm.trans hf
    exact Nat.le_trans hm (hkm_5 x1 (upI q_4.2 8 (fun _ => ((q_4.2.1 8 0) + 1))) hf)
theorem mh_M_operand_5 (N : Nat) (r_M_exp : ms → Option (Int32 × ms)) (r_M_binary : ms → Option (Int32 × ms)) (r_M_operand : ms → Option (Int32 × ms)) (r_M_primary : ms → Option (Int32 × ms)) (r_M_braces : Int32 → ms → Option (Int32 × ms)) (hmr_M_exp : ∀ (s : ms) (y : (Int32 × ms)), r_M_exp s = some y → gl s ≤ gl y.2) (hmr_M_binary : ∀ (s : ms) (y : (Int32 × ms)), r_M_binary s = some y → gl s ≤ gl y.2) (hmr_M_operand : ∀ (s : ms) (y : (Int32 × ms)), r_M_operand s = some y → gl s ≤ gl y.2) (hmr_M_primary : ∀ (s : ms) (y : (Int32 × ms)), r_M_primary s = some y → gl s ≤ gl y.2) (hmr_M_braces : ∀ (v1 : Int32) (s : ms) (y : (Int32 × ms)), r_M_braces v1 s = some y → gl s ≤ gl y.2) (y : (Int32 × ms)) : ∀ (n : Nat) (x1 : Int32) (s : ms), hd_M_operand_5 N r_M_exp r_M_binary r_M_operand r_M_primary r_M_braces n x1 s = some y → gl s ≤ gl y.2 := by
  intro n
  induction n with
  | zero => intro x1 s hf; cases hf
  | succ n ih => intro x1 s hf; exact mb_M_operand_5 N r_M_exp r_M_binary r_M_operand r_M_primary r_M_braces hmr_M_exp hmr_M_binary hmr_M_operand hmr_M_primary hmr_M_braces y (hd_M_operand_5 N r_M_exp r_M_binary r_M_operand r_M_primary r_M_braces n) ih x1 s hf
theorem mf_M_operand (N : Nat) (r_M_exp : ms → Option (Int32 × ms)) (r_M_binary : ms → Option (Int32 × ms)) (r_M_operand : ms → Option (Int32 × ms)) (r_M_primary : ms → Option (Int32 × ms)) (r_M_braces : Int32 → ms → Option (Int32 × ms)) (hmr_M_exp : ∀ (s : ms) (y : (Int32 × ms)), r_M_exp s = some y → gl s ≤ gl y.2) (hmr_M_binary : ∀ (s : ms) (y : (Int32 × ms)), r_M_binary s = some y → gl s ≤ gl y.2) (hmr_M_operand : ∀ (s : ms) (y : (Int32 × ms)), r_M_operand s = some y → gl s ≤ gl y.2) (hmr_M_primary : ∀ (s : ms) (y : (Int32 × ms)), r_M_primary s = some y → gl s ≤ gl y.2) (hmr_M_braces : ∀ (v1 : Int32) (s : ms) (y : (Int32 × ms)), r_M_braces v1 s = some y → gl s ≤ gl y.2) (s1 : ms) (y : (Int32 × ms)) (hf : fb_M_operand N r_M_exp r_M_binary r_M_operand r_M_primary r_M_braces s1 = some y) : gl s1 ≤ gl y.2 := by
  unfold fb_M_operand at hf
  have hm : gl s1 ≤ gl s1 := Nat.le_refl _
  exact Nat.le_trans hm (mh_M_operand_5 N r_M_exp r_M_binary r_M_operand r_M_primary r_M_braces hmr_M_exp hmr_M_binary hmr_M_operand hmr_M_primary hmr_M_braces y N ((s1.1 8 0)) s1 hf)
theorem mo_M_primary_269 (N : Nat) (r_M_exp : ms → Option (Int32 × ms)) (r_M_binary : ms → Option (Int32 × ms)) (r_M_operand : ms → Option (Int32 × ms)) (r_M_primary : ms → Option (Int32 × ms)) (r_M_braces : Int32 → ms → Option (Int32 × ms)) (hmr_M_exp : ∀ (s : ms) (y : (Int32 × ms)), r_M_exp s = some y → gl s ≤ gl y.2) (hmr_M_binary : ∀ (s : ms) (y : (Int32 × ms)), r_M_binary s = some y → gl s ≤ gl y.2) (hmr_M_operand : ∀ (s : ms) (y : (Int32 × ms)), r_M_operand s = some y → gl s ≤ gl y.2) (hmr_M_primary : ∀ (s : ms) (y : (Int32 × ms)), r_M_primary s = some y → gl s ≤ gl y.2) (hmr_M_braces : ∀ (v1 : Int32) (s : ms) (y : (Int32 × ms)), r_M_braces v1 s = some y → gl s ≤ gl y.2) (y : (Int32 × ms)) (s : ms) (hf : bk_M_primary_269 N r_M_exp r_M_binary r_M_operand r_M_primary r_M_braces s = some y) : gl s ≤ gl y.2 := by
  unfold bk_M_primary_269 at hf
  have hm : gl s ≤ gl s := Nat.le_refl _
  exact Nat.le_trans hm (Nat.le_of_eq (dc_e hf).symm)
theorem mo_M_primary_254 (N : Nat) (r_M_exp : ms → Option (Int32 × ms)) (r_M_binary : ms → Option (Int32 × ms)) (r_M_operand : ms → Option (Int32 × ms)) (r_M_primary : ms → Option (Int32 × ms)) (r_M_braces : Int32 → ms → Option (Int32 × ms)) (hmr_M_exp : ∀ (s : ms) (y : (Int32 × ms)), r_M_exp s = some y → gl s ≤ gl y.2) (hmr_M_binary : ∀ (s : ms) (y : (Int32 × ms)), r_M_binary s = some y → gl s ≤ gl y.2) (hmr_M_operand : ∀ (s : ms) (y : (Int32 × ms)), r_M_operand s = some y → gl s ≤ gl y.2) (hmr_M_primary : ∀ (s : ms) (y : (Int32 × ms)), r_M_primary s = some y → gl s ≤ gl y.2) (hmr_M_braces : ∀ (v1 : Int32) (s : ms) (y : (Int32 × ms)), r_M_braces v1 s = some y → gl s ≤ gl y.2) (y : (Int32 × ms)) (x2 : Int32) (t0 : Int64) (s : ms) (hf : bk_M_primary_254 N r_M_exp r_M_binary r_M_operand r_M_primary r_M_braces x2 t0 s = some y) : gl s ≤ gl y.2 := by
  unfold bk_M_primary_254 at hf
  have hm : gl s ≤ gl s := Nat.le_refl _
  obtain ⟨q_1, hc_2, hf⟩ := dc_b hf
  have hm := Nat.le_trans hm (Nat.le_of_eq (mn_M_cost N t0 s q_1 hc_2).symm)
  obtain ⟨_, hf⟩ := dc_g hf
  obtain ⟨q_4, hc_5, hf⟩ := dc_b hf
  have hm := Nat.le_trans hm (mn_M_lay N 3 (((q_1.2.1 20) (Int32.toNatClampNeg x2))) 0 q_1.2 q_4 hc_5)
  exact Nat.le_trans hm (mo_M_primary_269 N r_M_exp r_M_binary r_M_operand r_M_primary r_M_braces hmr_M_exp hmr_M_binary hmr_M_operand hmr_M_primary hmr_M_braces y q_4.2 hf)
theorem mo_M_primary_220 (N : Nat) (r_M_exp : ms → Option (Int32 × ms)) (r_M_binary : ms → Option (Int32 × ms)) (r_M_operand : ms → Option (Int32 × ms)) (r_M_primary : ms → Option (Int32 × ms)) (r_M_braces : Int32 → ms → Option (Int32 × ms)) (hmr_M_exp : ∀ (s : ms) (y : (Int32 × ms)), r_M_exp s = some y → gl s ≤ gl y.2) (hmr_M_binary : ∀ (s : ms) (y : (Int32 × ms)), r_M_binary s = some y → gl s ≤ gl y.2) (hmr_M_operand : ∀ (s : ms) (y : (Int32 × ms)), r_M_operand s = some y → gl s ≤ gl y.2) (hmr_M_primary : ∀ (s : ms) (y : (Int32 × ms)), r_M_primary s = some y → gl s ≤ gl y.2) (hmr_M_braces : ∀ (v1 : Int32) (s : ms) (y : (Int32 × ms)), r_M_braces v1 s = some y → gl s ≤ gl y.2) (y : (Int32 × ms)) (x2 : Int32) (t0 : Int32) (s : ms) (hf : bk_M_primary_220 N r_M_exp r_M_binary r_M_operand r_M_primary r_M_braces x2 t0 s = some y) : gl s ≤ gl y.2 := by
  unfold bk_M_primary_220 at hf
  have hm : gl s ≤ gl s := Nat.le_refl _
  obtain ⟨_, hf⟩ := dc_g hf
  by_cases h : t0 ≤ ((s.1 20) (Int32.toNatClampNeg x2))
  · have hf := (if_pos h).symm.trans hf
    obtain ⟨_, hf⟩ := dc_g hf
    exact Nat.le_trans hm (mo_M_primary_254 N r_M_exp r_M_binary r_M_operand r_M_primary r_M_braces hmr_M_exp hmr_M_binary hmr_M_operand hmr_M_primary hmr_M_braces y x2 ((Int32.toInt64 (((s.1 20) (Int32.toNatClampNeg x2))))) (upI s 8 (fun _ => ((s.1 8 0) + 1))) hf)
  · have hf := (if_neg h).symm.trans hf
    exact Nat.le_trans hm (mo_M_primary_254 N r_M_exp r_M_binary r_M_operand r_M_primary r_M_braces hmr_M_exp hmr_M_binary hmr_M_operand hmr_M_primary hmr_M_braces y x2 ((Int32.toInt64 t0)) (upI s 8 (fun _ => ((s.1 8 0) + 1))) hf)
theorem mo_M_primary_192 (N : Nat) (r_M_exp : ms → Option (Int32 × ms)) (r_M_binary : ms → Option (Int32 × ms)) (r_M_operand : ms → Option (Int32 × ms)) (r_M_primary : ms → Option (Int32 × ms)) (r_M_braces : Int32 → ms → Option (Int32 × ms)) (hmr_M_exp : ∀ (s : ms) (y : (Int32 × ms)), r_M_exp s = some y → gl s ≤ gl y.2) (hmr_M_binary : ∀ (s : ms) (y : (Int32 × ms)), r_M_binary s = some y → gl s ≤ gl y.2) (hmr_M_operand : ∀ (s : ms) (y : (Int32 × ms)), r_M_operand s = some y → gl s ≤ gl y.2) (hmr_M_primary : ∀ (s : ms) (y : (Int32 × ms)), r_M_primary s = some y → gl s ≤ gl y.2) (hmr_M_braces : ∀ (v1 : Int32) (s : ms) (y : (Int32 × ms)), r_M_braces v1 s = some y → gl s ≤ gl y.2) (y : (Int32 × ms)) (x3 : Int32) (s : ms) (hf : bk_M_primary_192 N r_M_exp r_M_binary r_M_operand r_M_primary r_M_braces x3 s = some y) : gl s ≤ gl y.2 := by
  unfold bk_M_primary_192 at hf
  have hm : gl s ≤ gl s := Nat.le_refl _
  exact Nat.le_trans hm (Nat.le_of_eq (dc_e hf).symm)
theorem mo_M_primary_138 (N : Nat) (r_M_exp : ms → Option (Int32 × ms)) (r_M_binary : ms → Option (Int32 × ms)) (r_M_operand : ms → Option (Int32 × ms)) (r_M_primary : ms → Option (Int32 × ms)) (r_M_braces : Int32 → ms → Option (Int32 × ms)) (hmr_M_exp : ∀ (s : ms) (y : (Int32 × ms)), r_M_exp s = some y → gl s ≤ gl y.2) (hmr_M_binary : ∀ (s : ms) (y : (Int32 × ms)), r_M_binary s = some y → gl s ≤ gl y.2) (hmr_M_operand : ∀ (s : ms) (y : (Int32 × ms)), r_M_operand s = some y → gl s ≤ gl y.2) (hmr_M_primary : ∀ (s : ms) (y : (Int32 × ms)), r_M_primary s = some y → gl s ≤ gl y.2) (hmr_M_braces : ∀ (v1 : Int32) (s : ms) (y : (Int32 × ms)), r_M_braces v1 s = some y → gl s ≤ gl y.2) (y : (Int32 × ms)) (x2 : Int32) (s : ms) (hf : bk_M_primary_138 N r_M_exp r_M_binary r_M_operand r_M_primary r_M_braces x2 s = some y) : gl s ≤ gl y.2 := by
  unfold bk_M_primary_138 at hf
  have hm : gl s ≤ gl s := Nat.le_refl _
  obtain ⟨q_1, hc_2, hf⟩ := dc_b hf
  have hm := Nat.le_trans hm (Nat.le_of_eq (mn_M_kind N s q_1 hc_2).symm)
  by_cases h : q_1.1 = 91
  · have hf := (if_pos h).symm.trans hf
    obtain ⟨_, hf⟩ := dc_g hf
    by_cases h : ((q_1.2.1 4) (Int32.toNatClampNeg (((q_1.2.1 8 0) + 1)))) = 401
    · have hf := (if_pos h).symm.trans hf
      obtain ⟨q_5, hc_6, hf⟩ := dc_b hf
      have hm := Nat.le_trans hm (Nat.le_of_eq (mn_M_part N x2 q_1.2 q_5 hc_6).symm)
      obtain ⟨q_8, hc_9, hf⟩ := dc_b hf
      have hm := Nat.le_trans hm (mn_M_lay N 2 ((q_5.1 / 256)) ((q_5.1 - q_5.1 / 256 * 256)) q_5.2 q_8 hc_9)
      exact Nat.le_trans hm (mo_M_primary_192 N r_M_exp r_M_binary r_M_operand r_M_primary r_M_braces hmr_M_exp hmr_M_binary hmr_M_operand hmr_M_primary hmr_M_braces y q_5.1 q_8.2 hf)
    · have hf := (if_neg h).symm.trans hf
      obtain ⟨q_5, hc_6, hf⟩ := dc_b hf
      have hm := Nat.le_trans hm (hmr_M_exp (upI q_1.2 8 (fun _ => ((q_1.2.1 8 0) + 1))) q_5 hc_6)
      exact Nat.le_trans hm (mo_M_primary_220 N r_M_exp r_M_binary r_M_operand r_M_primary r_M_braces hmr_M_exp hmr_M_binary hmr_M_operand hmr_M_primary hmr_M_braces y x2 q_5.1 q_5.2 hf)
  · have hf := (if_neg h).symm.trans hf
    obtain ⟨_, hf⟩ := dc_g hf
    exact Nat.le_trans hm (Nat.le_of_eq (dc_e hf).symm)
theorem mo_M_primary_106 (N : Nat) (r_M_exp : ms → Option (Int32 × ms)) (r_M_binary : ms → Option (Int32 × ms)) (r_M_operand : ms → Option (Int32 × ms)) (r_M_primary : ms → Option (Int32 × ms)) (r_M_braces : Int32 → ms → Option (Int32 × ms)) (hmr_M_exp : ∀ (s : ms) (y : (Int32 × ms)), r_M_exp s = some y → gl s ≤ gl y.2) (hmr_M_binary : ∀ (s : ms) (y : (Int32 × ms)), r_M_binary s = some y → gl s ≤ gl y.2) (hmr_M_operand : ∀ (s : ms) (y : (Int32 × ms)), r_M_operand s = some y → gl s ≤ gl y.2) (hmr_M_primary : ∀ (s : ms) (y : (Int32 × ms)), r_M_primary s = some y → gl s ≤ gl y.2) (hmr_M_braces : ∀ (v1 : Int32) (s : ms) (y : (Int32 × ms)), r_M_braces v1 s = some y → gl s ≤ gl y.2) (y : (Int32 × ms)) (t0 : Int32) (s : ms) (hf : bk_M_primary_106 N r_M_exp r_M_binary r_M_operand r_M_primary r_M_braces t0 s = some y) : gl s ≤ gl y.2 := by
  unfold bk_M_primary_106 at hf
  have hm : gl s ≤ gl s := Nat.le_refl _
  exact Nat.le_trans hm (Nat.le_of_eq (dc_e hf).symm)
theorem mo_M_primary_72 (N : Nat) (r_M_exp : ms → Option (Int32 × ms)) (r_M_binary : ms → Option (Int32 × ms)) (r_M_operand : ms → Option (Int32 × ms)) (r_M_primary : ms → Option (Int32 × ms)) (r_M_braces : Int32 → ms → Option (Int32 × ms)) (hmr_M_exp : ∀ (s : ms) (y : (Int32 × ms)), r_M_exp s = some y → gl s ≤ gl y.2) (hmr_M_binary : ∀ (s : ms) (y : (Int32 × ms)), r_M_binary s = some y → gl s ≤ gl y.2) (hmr_M_operand : ∀ (s : ms) (y : (Int32 × ms)), r_M_operand s = some y → gl s ≤ gl y.2) (hmr_M_primary : ∀ (s : ms) (y : (Int32 × ms)), r_M_primary s = some y → gl s ≤ gl y.2) (hmr_M_braces : ∀ (v1 : Int32) (s : ms) (y : (Int32 × ms)), r_M_braces v1 s = some y → gl s ≤ gl y.2) (y : (Int32 × ms)) (t0 : Int32) (s : ms) (hf : bk_M_primary_72 N r_M_exp r_M_binary r_M_operand r_M_primary r_M_braces t0 s = some y) : gl s ≤ gl y.2 := by
  unfold bk_M_primary_72 at hf
  have hm : gl s ≤ gl s := Nat.le_refl _
  exact Nat.le_trans hm (Nat.le_of_eq (dc_e hf).symm)
theorem mo_M_primary_51 (N : Nat) (r_M_exp : ms → Option (Int32 × ms)) (r_M_binary : ms → Option (Int32 × ms)) (r_M_operand : ms → Option (Int32 × ms)) (r_M_primary : ms → Option (Int32 × ms)) (r_M_braces : Int32 → ms → Option (Int32 × ms)) (hmr_M_exp : ∀ (s : ms) (y : (Int32 × ms)), r_M_exp s = some y → gl s ≤ gl y.2) (hmr_M_binary : ∀ (s : ms) (y : (Int32 × ms)), r_M_binary s = some y → gl s ≤ gl y.2) (hmr_M_operand : ∀ (s : ms) (y : (Int32 × ms)), r_M_operand s = some y → gl s ≤ gl y.2) (hmr_M_primary : ∀ (s : ms) (y : (Int32 × ms)), r_M_primary s = some y → gl s ≤ gl y.2) (hmr_M_braces : ∀ (v1 : Int32) (s : ms) (y : (Int32 × ms)), r_M_braces v1 s = some y → gl s ≤ gl y.2) (y : (Int32 × ms)) (x1 : Int32) (s : ms) (hf : bk_M_primary_51 N r_M_exp r_M_binary r_M_operand r_M_primary r_M_braces x1 s = some y) : gl s ≤ gl y.2 := by
  unfold bk_M_primary_51 at hf
  have hm : gl s ≤ gl s := Nat.le_refl _
  obtain ⟨q_1, hc_2, hf⟩ := dc_b hf
  have hm := Nat.le_trans hm (Nat.le_of_eq (mn_M_widthOfNumber N x1 s q_1 hc_2).symm)
  exact Nat.le_trans hm (Nat.le_of_eq (dc_e hf).symm)
theorem mo_M_primary_47 (N : Nat) (r_M_exp : ms → Option (Int32 × ms)) (r_M_binary : ms → Option (Int32 × ms)) (r_M_operand : ms → Option (Int32 × ms)) (r_M_primary : ms → Option (Int32 × ms)) (r_M_braces : Int32 → ms → Option (Int32 × ms)) (hmr_M_exp : ∀ (s : ms) (y : (Int32 × ms)), r_M_exp s = some y → gl s ≤ gl y.2) (hmr_M_binary : ∀ (s : ms) (y : (Int32 × ms)), r_M_binary s = some y → gl s ≤ gl y.2) (hmr_M_operand : ∀ (s : ms) (y : (Int32 × ms)), r_M_operand s = some y → gl s ≤ gl y.2) (hmr_M_primary : ∀ (s : ms) (y : (Int32 × ms)), r_M_primary s = some y → gl s ≤ gl y.2) (hmr_M_braces : ∀ (v1 : Int32) (s : ms) (y : (Int32 × ms)), r_M_braces v1 s = some y → gl s ≤ gl y.2) (y : (Int32 × ms)) (x1 : Int32) (t0 : Int32) (t1 : Int32) (s : ms) (hf : bk_M_primary_47 N r_M_exp r_M_binary r_M_operand r_M_primary r_M_braces x1 t0 t1 s = some y) : gl s ≤ gl y.2 := by
  unfold bk_M_primary_47 at hf
  have hm : gl s ≤ gl s := Nat.le_refl _
  obtain ⟨q_1, hc_2, hf⟩ := dc_b hf
  have hm := Nat.le_trans hm (mn_M_lay N t1 t0 0 s q_1 hc_2)
  exact Nat.le_trans hm (mo_M_primary_51 N r_M_exp r_M_binary r_M_operand r_M_primary r_M_braces hmr_M_exp hmr_M_binary hmr_M_operand hmr_M_primary hmr_M_braces y x1 q_1.2 hf)
theorem mf_M_primary (N : Nat) (r_M_exp : ms → Option (Int32 × ms)) (r_M_binary : ms → Option (Int32 × ms)) (r_M_operand : ms → Option (Int32 × ms)) (r_M_primary : ms → Option (Int32 × ms)) (r_M_braces : Int32 → ms → Option (Int32 × ms)) (hmr_M_exp : ∀ (s : ms) (y : (Int32 × ms)), r_M_exp s = some y → gl s ≤ gl y.2) (hmr_M_binary : ∀ (s : ms) (y : (Int32 × ms)), r_M_binary s = some y → gl s ≤ gl y.2) (hmr_M_operand : ∀ (s : ms) (y : (Int32 × ms)), r_M_operand s = some y → gl s ≤ gl y.2) (hmr_M_primary : ∀ (s : ms) (y : (Int32 × ms)), r_M_primary s = some y → gl s ≤ gl y.2) (hmr_M_braces : ∀ (v1 : Int32) (s : ms) (y : (Int32 × ms)), r_M_braces v1 s = some y → gl s ≤ gl y.2) (s1 : ms) (y : (Int32 × ms)) (hf : fb_M_primary N r_M_exp r_M_binary r_M_operand r_M_primary r_M_braces s1 = some y) : gl s1 ≤ gl y.2 := by
  unfold fb_M_primary at hf
  have hm : gl s1 ≤ gl s1 := Nat.le_refl _
  by_cases h : (s1.1 9 0) = 0
  · have hf := (if_pos h).symm.trans hf
    obtain ⟨_, hf⟩ := dc_g hf
    by_cases h : ((s1.1 4) (Int32.toNatClampNeg ((s1.1 8 0)))) = 402
    · have hf := (if_pos h).symm.trans hf
      obtain ⟨q_2, hc_3, hf⟩ := dc_b hf
      have hm := Nat.le_trans hm (Nat.le_of_eq (mn_M_numberOf N ((s1.1 8 0)) (upI s1 8 (fun _ => ((s1.1 8 0) + 1))) q_2 hc_3).symm)
      obtain ⟨q_5, hc_6, hf⟩ := dc_b hf
      have hm := Nat.le_trans hm (mn_M_keepNumber N q_2.1 q_2.2 q_5 hc_6)
      exact Nat.le_trans hm (mo_M_primary_47 N r_M_exp r_M_binary r_M_operand r_M_primary r_M_braces hmr_M_exp hmr_M_binary hmr_M_operand hmr_M_primary hmr_M_braces y ((s1.1 8 0)) q_5.1 0 q_5.2 hf)
    · have hf := (if_neg h).symm.trans hf
      obtain ⟨_, hf⟩ := dc_g hf
      by_cases h : ((s1.1 4) (Int32.toNatClampNeg ((s1.1 8 0)))) = 40
      · have hf := (if_pos h).symm.trans hf
        obtain ⟨q_3, hc_4, hf⟩ := dc_b hf
        have hm := Nat.le_trans hm (hmr_M_exp (upI s1 8 (fun _ => ((s1.1 8 0) + 1))) q_3 hc_4)
        exact Nat.le_trans hm (mo_M_primary_72 N r_M_exp r_M_binary r_M_operand r_M_primary r_M_braces hmr_M_exp hmr_M_binary hmr_M_operand hmr_M_primary hmr_M_braces y q_3.1 q_3.2 hf)
      · have hf := (if_neg h).symm.trans hf
        obtain ⟨_, hf⟩ := dc_g hf
        by_cases h : ((s1.1 4) (Int32.toNatClampNeg ((s1.1 8 0)))) = 123
        · have hf := (if_pos h).symm.trans hf
          obtain ⟨_, hf⟩ := dc_g hf
          obtain ⟨q_5, hc_6, hf⟩ := dc_b hf
          have hm := Nat.le_trans hm (hmr_M_braces (((s1.1 5) (Int32.toNatClampNeg ((s1.1 8 0))))) (upI s1 8 (fun _ => ((s1.1 8 0) + 1))) q_5 hc_6)
          exact Nat.le_trans hm (mo_M_primary_106 N r_M_exp r_M_binary r_M_operand r_M_primary r_M_braces hmr_M_exp hmr_M_binary hmr_M_operand hmr_M_primary hmr_M_braces y q_5.1 q_5.2 hf)
        · have hf := (if_neg h).symm.trans hf
          obtain ⟨q_4, hc_5, hf⟩ := dc_b hf
          have hm := Nat.le_trans hm (Nat.le_of_eq (mn_M_here N ((s1.1 8 0)) (upI s1 8 (fun _ => ((s1.1 8 0) + 1))) q_4 hc_5).symm)
          by_cases h : 0 ≤ q_4.1
          · have hf := (if_pos h).symm.trans hf
            obtain ⟨q_7, hc_8, hf⟩ := dc_b hf
            have hm := Nat.le_trans hm (mn_M_lay N 1 q_4.1 0 q_4.2 q_7 hc_8)
            exact Nat.le_trans hm (mo_M_primary_138 N r_M_exp r_M_binary r_M_operand r_M_primary r_M_braces hmr_M_exp hmr_M_binary hmr_M_operand hmr_M_primary hmr_M_braces y q_4.1 q_7.2 hf)
          · have hf := (if_neg h).symm.trans hf
            obtain ⟨_, hf⟩ := dc_g hf
            obtain ⟨q_8, hc_9, hf⟩ := dc_b hf
            have hm := Nat.le_trans hm (Nat.le_of_eq (mn_M_fail N 22 (((q_4.2.1 5) (Int32.toNatClampNeg ((s1.1 8 0))))) q_4.2 q_8 hc_9).symm)
            exact Nat.le_trans hm (Nat.le_of_eq (dc_e hf).symm)
  · have hf := (if_neg h).symm.trans hf
    exact Nat.le_trans hm (Nat.le_of_eq (dc_e hf).symm)
theorem mo_M_braces_185 (N : Nat) (r_M_exp : ms → Option (Int32 × ms)) (r_M_binary : ms → Option (Int32 × ms)) (r_M_operand : ms → Option (Int32 × ms)) (r_M_primary : ms → Option (Int32 × ms)) (r_M_braces : Int32 → ms → Option (Int32 × ms)) (hmr_M_exp : ∀ (s : ms) (y : (Int32 × ms)), r_M_exp s = some y → gl s ≤ gl y.2) (hmr_M_binary : ∀ (s : ms) (y : (Int32 × ms)), r_M_binary s = some y → gl s ≤ gl y.2) (hmr_M_operand : ∀ (s : ms) (y : (Int32 × ms)), r_M_operand s = some y → gl s ≤ gl y.2) (hmr_M_primary : ∀ (s : ms) (y : (Int32 × ms)), r_M_primary s = some y → gl s ≤ gl y.2) (hmr_M_braces : ∀ (v1 : Int32) (s : ms) (y : (Int32 × ms)), r_M_braces v1 s = some y → gl s ≤ gl y.2) (y : (Int32 × ms)) (x2 : Int64) (s : ms) (hf : bk_M_braces_185 N r_M_exp r_M_binary r_M_operand r_M_primary r_M_braces x2 s = some y) : gl s ≤ gl y.2 := by
  unfold bk_M_braces_185 at hf
  have hm : gl s ≤ gl s := Nat.le_refl _
  by_cases h : (s.1 9 0) = 0
  · have hf := (if_pos h).symm.trans hf
    exact Nat.le_trans hm (Nat.le_of_eq (dc_e hf).symm)
  · have hf := (if_neg h).symm.trans hf
    exact Nat.le_trans hm (Nat.le_of_eq (dc_e hf).symm)
theorem mo_M_braces_144 (N : Nat) (r_M_exp : ms → Option (Int32 × ms)) (r_M_binary : ms → Option (Int32 × ms)) (r_M_operand : ms → Option (Int32 × ms)) (r_M_primary : ms → Option (Int32 × ms)) (r_M_braces : Int32 → ms → Option (Int32 × ms)) (hmr_M_exp : ∀ (s : ms) (y : (Int32 × ms)), r_M_exp s = some y → gl s ≤ gl y.2) (hmr_M_binary : ∀ (s : ms) (y : (Int32 × ms)), r_M_binary s = some y → gl s ≤ gl y.2) (hmr_M_operand : ∀ (s : ms) (y : (Int32 × ms)), r_M_operand s = some y → gl s ≤ gl y.2) (hmr_M_primary : ∀ (s : ms) (y : (Int32 × ms)), r_M_primary s = some y → gl s ≤ gl y.2) (hmr_M_braces : ∀ (v1 : Int32) (s : ms) (y : (Int32 × ms)), r_M_braces v1 s = some y → gl s ≤ gl y.2) (k_110 : Int32 → Int64 → ms → Option (Int32 × ms)) (y : (Int32 × ms)) (hkm_110 : ∀ (x1 : Int32) (x2 : Int64) (s : ms), k_110 x1 x2 s = some y → gl s ≤ gl y.2) (x1 : Int32) (x2 : Int64) (x4 : Int32) (s : ms) (hf : bk_M_braces_144 N r_M_exp r_M_binary r_M_operand r_M_primary r_M_braces k_110 x1 x2 x4 s = some y) : gl s ≤ gl y.2 := by
  unfold bk_M_braces_144 at hf
  have hm : gl s ≤ gl s := Nat.le_refl _
  exact Nat.le_trans hm (hkm_110 x1 ((x2 + (Int32.toInt64 x4))) s hf)
theorem mo_M_braces_133 (N : Nat) (r_M_exp : ms → Option (Int32 × ms)) (r_M_binary : ms → Option (Int32 × ms)) (r_M_operand : ms → Option (Int32 × ms)) (r_M_primary : ms → Option (Int32 × ms)) (r_M_braces : Int32 → ms → Option (Int32 × ms)) (hmr_M_exp : ∀ (s : ms) (y : (Int32 × ms)), r_M_exp s = some y → gl s ≤ gl y.2) (hmr_M_binary : ∀ (s : ms) (y : (Int32 × ms)), r_M_binary s = some y → gl s ≤ gl y.2) (hmr_M_operand : ∀ (s : ms) (y : (Int32 × ms)), r_M_operand s = some y → gl s ≤ gl y.2) (hmr_M_primary : ∀ (s : ms) (y : (Int32 × ms)), r_M_primary s = some y → gl s ≤ gl y.2) (hmr_M_braces : ∀ (v1 : Int32) (s : ms) (y : (Int32 × ms)), r_M_braces v1 s = some y → gl s ≤ gl y.2) (k_110 : Int32 → Int64 → ms → Option (Int32 × ms)) (y : (Int32 × ms)) (hkm_110 : ∀ (x1 : Int32) (x2 : Int64) (s : ms), k_110 x1 x2 s = some y → gl s ≤ gl y.2) (x1 : Int32) (x2 : Int64) (t0 : Int32) (s : ms) (hf : bk_M_braces_133 N r_M_exp r_M_binary r_M_operand r_M_primary r_M_braces k_110 x1 x2 t0 s = some y) : gl s ≤ gl y.2 := by
  unfold bk_M_braces_133 at hf
  have hm : gl s ≤ gl s := Nat.le_refl _
  obtain ⟨q_1, hc_2, hf⟩ := dc_b hf
  have hm := Nat.le_trans hm (mn_M_lay N 7 t0 0 s q_1 hc_2)
  exact Nat.le_trans hm (mo_M_braces_144 N r_M_exp r_M_binary r_M_operand r_M_primary r_M_braces hmr_M_exp hmr_M_binary hmr_M_operand hmr_M_primary hmr_M_braces k_110 y hkm_110 x1 x2 t0 q_1.2 hf)
theorem mb_M_braces_110 (N : Nat) (r_M_exp : ms → Option (Int32 × ms)) (r_M_binary : ms → Option (Int32 × ms)) (r_M_operand : ms → Option (Int32 × ms)) (r_M_primary : ms → Option (Int32 × ms)) (r_M_braces : Int32 → ms → Option (Int32 × ms)) (hmr_M_exp : ∀ (s : ms) (y : (Int32 × ms)), r_M_exp s = some y → gl s ≤ gl y.2) (hmr_M_binary : ∀ (s : ms) (y : (Int32 × ms)), r_M_binary s = some y → gl s ≤ gl y.2) (hmr_M_operand : ∀ (s : ms) (y : (Int32 × ms)), r_M_operand s = some y → gl s ≤ gl y.2) (hmr_M_primary : ∀ (s : ms) (y : (Int32 × ms)), r_M_primary s = some y → gl s ≤ gl y.2) (hmr_M_braces : ∀ (v1 : Int32) (s : ms) (y : (Int32 × ms)), r_M_braces v1 s = some y → gl s ≤ gl y.2) (y : (Int32 × ms)) (k_110 : Int32 → Int64 → ms → Option (Int32 × ms)) (hkm_110 : ∀ (x1 : Int32) (x2 : Int64) (s : ms), k_110 x1 x2 s = some y → gl s ≤ gl y.2) (x1 : Int32) (x2 : Int64) (s : ms) (hf : bd_M_braces_110 N r_M_exp r_M_binary r_M_operand r_M_primary r_M_braces k_110 x1 x2 s = some y) : gl s ≤ gl y.2 := by
  unfold bd_M_braces_110 at hf
  have hm : gl s ≤ gl s := Nat.le_refl _
  obtain ⟨q_1, hc_2, hf⟩ := dc_b hf
  have hm := Nat.le_trans hm (Nat.le_of_eq (mn_M_is N 44 s q_1 hc_2).symm)
  by_cases h : q_1.1 = 0
  · have hf := (if_pos h).symm.trans hf
    by_cases h : (q_1.2.1 9 0) = 0
    · have hf := (if_pos h).symm.trans hf
      by_cases h : (lg_cmp x2 64) ≤ 0
      · have hf := (if_pos h).symm.trans hf
        exact Nat.le_trans hm (mo_M_braces_185 N r_M_exp r_M_binary r_M_operand r_M_primary r_M_braces hmr_M_exp hmr_M_binary hmr_M_operand hmr_M_primary hmr_M_braces y x2 (upI q_1.2 8 (fun _ => ((q_1.2.1 8 0) + 1))) hf)
      · have hf := (if_neg h).symm.trans hf
        obtain ⟨q_4, hc_5, hf⟩ := dc_b hf
        have hm := Nat.le_trans hm (Nat.le_of_eq (mn_M_fail N 30 x1 (upI q_1.2 8 (fun _ => ((q_1.2.1 8 0) + 1))) q_4 hc_5).symm)
        exact Nat.le_trans hm (mo_M_braces_185 N r_M_exp r_M_binary r_M_operand r_M_primary r_M_braces hmr_M_exp hmr_M_binary hmr_M_operand hmr_M_primary hmr_M_braces y x2 q_4.2 hf)
    · have hf := (if_neg h).symm.trans hf
      exact Nat.le_trans hm (mo_M_braces_185 N r_M_exp r_M_binary r_M_operand r_M_primary r_M_braces hmr_M_exp hmr_M_binary hmr_M_operand hmr_M_primary hmr_M_braces y x2 (upI q_1.2 8 (fun _ => ((q_1.2.1 8 0) + 1))) hf)
  · have hf := (if_neg h).symm.trans hf
    obtain ⟨q_4, hc_5, hf⟩ := dc_b hf
    have hm := Nat.le_trans hm (hmr_M_exp (upI q_1.2 8 (fun _ => ((q_1.2.1 8 0) + 1))) q_4 hc_5)
    exact Nat.le_trans hm (mo_M_braces_133 N r_M_exp r_M_binary r_M_operand r_M_primary r_M_braces hmr_M_exp hmr_M_binary hmr_M_operand hmr_M_primary hmr_M_braces k_110 y hkm_110 x1 x2 q_4.1 q_4.2 hf)
theorem mh_M_braces_110 (N : Nat) (r_M_exp : ms → Option (Int32 × ms)) (r_M_binary : ms → Option (Int32 × ms)) (r_M_operand : ms → Option (Int32 × ms)) (r_M_primary : ms → Option (Int32 × ms)) (r_M_braces : Int32 → ms → Option (Int32 × ms)) (hmr_M_exp : ∀ (s : ms) (y : (Int32 × ms)), r_M_exp s = some y → gl s ≤ gl y.2) (hmr_M_binary : ∀ (s : ms) (y : (Int32 × ms)), r_M_binary s = some y → gl s ≤ gl y.2) (hmr_M_operand : ∀ (s : ms) (y : (Int32 × ms)), r_M_operand s = some y → gl s ≤ gl y.2) (hmr_M_primary : ∀ (s : ms) (y : (Int32 × ms)), r_M_primary s = some y → gl s ≤ gl y.2) (hmr_M_braces : ∀ (v1 : Int32) (s : ms) (y : (Int32 × ms)), r_M_braces v1 s = some y → gl s ≤ gl y.2) (y : (Int32 × ms)) : ∀ (n : Nat) (x1 : Int32) (x2 : Int64) (s : ms), hd_M_braces_110 N r_M_exp r_M_binary r_M_operand r_M_primary r_M_braces n x1 x2 s = some y → gl s ≤ gl y.2 := by
  intro n
  induction n with
  | zero => intro x1 x2 s hf; cases hf
  | succ n ih => intro x1 x2 s hf; exact mb_M_braces_110 N r_M_exp r_M_binary r_M_operand r_M_primary r_M_braces hmr_M_exp hmr_M_binary hmr_M_operand hmr_M_primary hmr_M_braces y (hd_M_braces_110 N r_M_exp r_M_binary r_M_operand r_M_primary r_M_braces n) ih x1 x2 s hf
theorem mo_M_braces_108 (N : Nat) (r_M_exp : ms → Option (Int32 × ms)) (r_M_binary : ms → Option (Int32 × ms)) (r_M_operand : ms → Option (Int32 × ms)) (r_M_primary : ms → Option (Int32 × ms)) (r_M_braces : Int32 → ms → Option (Int32 × ms)) (hmr_M_exp : ∀ (s : ms) (y : (Int32 × ms)), r_M_exp s = some y → gl s ≤ gl y.2) (hmr_M_binary : ∀ (s : ms) (y : (Int32 × ms)), r_M_binary s = some y → gl s ≤ gl y.2) (hmr_M_operand : ∀ (s : ms) (y : (Int32 × ms)), r_M_operand s = some y → gl s ≤ gl y.2) (hmr_M_primary : ∀ (s : ms) (y : (Int32 × ms)), r_M_primary s = some y → gl s ≤ gl y.2) (hmr_M_braces : ∀ (v1 : Int32) (s : ms) (y : (Int32 × ms)), r_M_braces v1 s = some y → gl s ≤ gl y.2) (y : (Int32 × ms)) (x1 : Int32) (t0 : Int32) (s : ms) (hf : bk_M_braces_108 N r_M_exp r_M_binary r_M_operand r_M_primary r_M_braces x1 t0 s = some y) : gl s ≤ gl y.2 := by
  unfold bk_M_braces_108 at hf
  have hm : gl s ≤ gl s := Nat.le_refl _
  exact Nat.le_trans hm (mh_M_braces_110 N r_M_exp r_M_binary r_M_operand r_M_primary r_M_braces hmr_M_exp hmr_M_binary hmr_M_operand hmr_M_primary hmr_M_braces y N x1 ((Int32.toInt64 t0)) s hf)
theorem mo_M_braces_87 (N : Nat) (r_M_exp : ms → Option (Int32 × ms)) (r_M_binary : ms → Option (Int32 × ms)) (r_M_operand : ms → Option (Int32 × ms)) (r_M_primary : ms → Option (Int32 × ms)) (r_M_braces : Int32 → ms → Option (Int32 × ms)) (hmr_M_exp : ∀ (s : ms) (y : (Int32 × ms)), r_M_exp s = some y → gl s ≤ gl y.2) (hmr_M_binary : ∀ (s : ms) (y : (Int32 × ms)), r_M_binary s = some y → gl s ≤ gl y.2) (hmr_M_operand : ∀ (s : ms) (y : (Int32 × ms)), r_M_operand s = some y → gl s ≤ gl y.2) (hmr_M_primary : ∀ (s : ms) (y : (Int32 × ms)), r_M_primary s = some y → gl s ≤ gl y.2) (hmr_M_braces : ∀ (v1 : Int32) (s : ms) (y : (Int32 × ms)), r_M_braces v1 s = some y → gl s ≤ gl y.2) (y : (Int32 × ms)) (x2 : Int64) (x4 : Int32) (s : ms) (hf : bk_M_braces_87 N r_M_exp r_M_binary r_M_operand r_M_primary r_M_braces x2 x4 s = some y) : gl s ≤ gl y.2 := by
  unfold bk_M_braces_87 at hf
  have hm : gl s ≤ gl s := Nat.le_refl _
  by_cases h : (s.1 9 0) = 0
  · have hf := (if_pos h).symm.trans hf
    exact Nat.le_trans hm (Nat.le_of_eq (dc_e hf).symm)
  · have hf := (if_neg h).symm.trans hf
    exact Nat.le_trans hm (Nat.le_of_eq (dc_e hf).symm)
theorem mo_M_braces_77 (N : Nat) (r_M_exp : ms → Option (Int32 × ms)) (r_M_binary : ms → Option (Int32 × ms)) (r_M_operand : ms → Option (Int32 × ms)) (r_M_primary : ms → Option (Int32 × ms)) (r_M_braces : Int32 → ms → Option (Int32 × ms)) (hmr_M_exp : ∀ (s : ms) (y : (Int32 × ms)), r_M_exp s = some y → gl s ≤ gl y.2) (hmr_M_binary : ∀ (s : ms) (y : (Int32 × ms)), r_M_binary s = some y → gl s ≤ gl y.2) (hmr_M_operand : ∀ (s : ms) (y : (Int32 × ms)), r_M_operand s = some y → gl s ≤ gl y.2) (hmr_M_primary : ∀ (s : ms) (y : (Int32 × ms)), r_M_primary s = some y → gl s ≤ gl y.2) (hmr_M_braces : ∀ (v1 : Int32) (s : ms) (y : (Int32 × ms)), r_M_braces v1 s = some y → gl s ≤ gl y.2) (y : (Int32 × ms)) (x2 : Int64) (x4 : Int32) (s : ms) (hf : bk_M_braces_77 N r_M_exp r_M_binary r_M_operand r_M_primary r_M_braces x2 x4 s = some y) : gl s ≤ gl y.2 := by
  unfold bk_M_braces_77 at hf
  have hm : gl s ≤ gl s := Nat.le_refl _
  obtain ⟨q_1, hc_2, hf⟩ := dc_b hf
  have hm := Nat.le_trans hm (mn_M_lay N 8 ((Int64.toInt32 x2)) x4 s q_1 hc_2)
  exact Nat.le_trans hm (mo_M_braces_87 N r_M_exp r_M_binary r_M_operand r_M_primary r_M_braces hmr_M_exp hmr_M_binary hmr_M_operand hmr_M_primary hmr_M_braces y x2 x4 q_1.2 hf)
theorem mo_M_braces_70 (N : Nat) (r_M_exp : ms → Option (Int32 × ms)) (r_M_binary : ms → Option (Int32 × ms)) (r_M_operand : ms → Option (Int32 × ms)) (r_M_primary : ms → Option (Int32 × ms)) (r_M_braces : Int32 → ms → Option (Int32 × ms)) (hmr_M_exp : ∀ (s : ms) (y : (Int32 × ms)), r_M_exp s = some y → gl s ≤ gl y.2) (hmr_M_binary : ∀ (s : ms) (y : (Int32 × ms)), r_M_binary s = some y → gl s ≤ gl y.2) (hmr_M_operand : ∀ (s : ms) (y : (Int32 × ms)), r_M_operand s = some y → gl s ≤ gl y.2) (hmr_M_primary : ∀ (s : ms) (y : (Int32 × ms)), r_M_primary s = some y → gl s ≤ gl y.2) (hmr_M_braces : ∀ (v1 : Int32) (s : ms) (y : (Int32 × ms)), r_M_braces v1 s = some y → gl s ≤ gl y.2) (y : (Int32 × ms)) (x1 : Int32) (x2 : Int64) (x4 : Int32) (s : ms) (hf : bk_M_braces_70 N r_M_exp r_M_binary r_M_operand r_M_primary r_M_braces x1 x2 x4 s = some y) : gl s ≤ gl y.2 := by
  unfold bk_M_braces_70 at hf
  have hm : gl s ≤ gl s := Nat.le_refl _
  obtain ⟨q_1, hc_2, hf⟩ := dc_b hf
  have hm := Nat.le_trans hm (Nat.le_of_eq (mn_M_fail N 30 x1 s q_1 hc_2).symm)
  exact Nat.le_trans hm (mo_M_braces_77 N r_M_exp r_M_binary r_M_operand r_M_primary r_M_braces hmr_M_exp hmr_M_binary hmr_M_operand hmr_M_primary hmr_M_braces y x2 x4 q_1.2 hf)
theorem mo_M_braces_33 (N : Nat) (r_M_exp : ms → Option (Int32 × ms)) (r_M_binary : ms → Option (Int32 × ms)) (r_M_operand : ms → Option (Int32 × ms)) (r_M_primary : ms → Option (Int32 × ms)) (r_M_braces : Int32 → ms → Option (Int32 × ms)) (hmr_M_exp : ∀ (s : ms) (y : (Int32 × ms)), r_M_exp s = some y → gl s ≤ gl y.2) (hmr_M_binary : ∀ (s : ms) (y : (Int32 × ms)), r_M_binary s = some y → gl s ≤ gl y.2) (hmr_M_operand : ∀ (s : ms) (y : (Int32 × ms)), r_M_operand s = some y → gl s ≤ gl y.2) (hmr_M_primary : ∀ (s : ms) (y : (Int32 × ms)), r_M_primary s = some y → gl s ≤ gl y.2) (hmr_M_braces : ∀ (v1 : Int32) (s : ms) (y : (Int32 × ms)), r_M_braces v1 s = some y → gl s ≤ gl y.2) (y : (Int32 × ms)) (x1 : Int32) (x2 : Int64) (t0 : Int32) (s : ms) (hf : bk_M_braces_33 N r_M_exp r_M_binary r_M_operand r_M_primary r_M_braces x1 x2 t0 s = some y) : gl s ≤ gl y.2 := by
  unfold bk_M_braces_33 at hf
  have hm : gl s ≤ gl s := Nat.le_refl _
  by_cases h : (s.1 9 0) = 0
  · have hf := (if_pos h).symm.trans hf
    by_cases h : (lg_cmp x2 0) = 0
    · have hf := (if_pos h).symm.trans hf
      exact Nat.le_trans hm (mo_M_braces_70 N r_M_exp r_M_binary r_M_operand r_M_primary r_M_braces hmr_M_exp hmr_M_binary hmr_M_operand hmr_M_primary hmr_M_braces y x1 x2 t0 (upI s 8 (fun _ => ((s.1 8 0) + 2))) hf)
    · have hf := (if_neg h).symm.trans hf
      by_cases h : (lg_cmp ((x2 * (Int32.toInt64 t0))) 64) ≤ 0
      · have hf := (if_pos h).symm.trans hf
        exact Nat.le_trans hm (mo_M_braces_77 N r_M_exp r_M_binary r_M_operand r_M_primary r_M_braces hmr_M_exp hmr_M_binary hmr_M_operand hmr_M_primary hmr_M_braces y x2 t0 (upI s 8 (fun _ => ((s.1 8 0) + 2))) hf)
      · have hf := (if_neg h).symm.trans hf
        exact Nat.le_trans hm (mo_M_braces_70 N r_M_exp r_M_binary r_M_operand r_M_primary r_M_braces hmr_M_exp hmr_M_binary hmr_M_operand hmr_M_primary hmr_M_braces y x1 x2 t0 (upI s 8 (fun _ => ((s.1 8 0) + 2))) hf)
  · have hf := (if_neg h).symm.trans hf
    exact Nat.le_trans hm (mo_M_braces_77 N r_M_exp r_M_binary r_M_operand r_M_primary r_M_braces hmr_M_exp hmr_M_binary hmr_M_operand hmr_M_primary hmr_M_braces y x2 t0 (upI s 8 (fun _ => ((s.1 8 0) + 2))) hf)
theorem mf_M_braces (N : Nat) (r_M_exp : ms → Option (Int32 × ms)) (r_M_binary : ms → Option (Int32 × ms)) (r_M_operand : ms → Option (Int32 × ms)) (r_M_primary : ms → Option (Int32 × ms)) (r_M_braces : Int32 → ms → Option (Int32 × ms)) (hmr_M_exp : ∀ (s : ms) (y : (Int32 × ms)), r_M_exp s = some y → gl s ≤ gl y.2) (hmr_M_binary : ∀ (s : ms) (y : (Int32 × ms)), r_M_binary s = some y → gl s ≤ gl y.2) (hmr_M_operand : ∀ (s : ms) (y : (Int32 × ms)), r_M_operand s = some y → gl s ≤ gl y.2) (hmr_M_primary : ∀ (s : ms) (y : (Int32 × ms)), r_M_primary s = some y → gl s ≤ gl y.2) (hmr_M_braces : ∀ (v1 : Int32) (s : ms) (y : (Int32 × ms)), r_M_braces v1 s = some y → gl s ≤ gl y.2) (v1 : Int32) (s1 : ms) (y : (Int32 × ms)) (hf : fb_M_braces N r_M_exp r_M_binary r_M_operand r_M_primary r_M_braces v1 s1 = some y) : gl s1 ≤ gl y.2 := by
  unfold fb_M_braces at hf
  have hm : gl s1 ≤ gl s1 := Nat.le_refl _
  obtain ⟨q_1, hc_2, hf⟩ := dc_b hf
  have hm := Nat.le_trans hm (Nat.le_of_eq (mn_M_kind N s1 q_1 hc_2).symm)
  by_cases h : q_1.1 = 401
  · have hf := (if_pos h).symm.trans hf
    obtain ⟨q_4, hc_5, hf⟩ := dc_b hf
    have hm := Nat.le_trans hm (Nat.le_of_eq (mn_M_numberOf N ((q_1.2.1 8 0)) q_1.2 q_4 hc_5).symm)
    obtain ⟨q_7, hc_8, hf⟩ := dc_b hf
    have hm := Nat.le_trans hm (hmr_M_exp (upI q_4.2 8 (fun _ => ((q_4.2.1 8 0) + 2))) q_7 hc_8)
    exact Nat.le_trans hm (mo_M_braces_33 N r_M_exp r_M_binary r_M_operand r_M_primary r_M_braces hmr_M_exp hmr_M_binary hmr_M_operand hmr_M_primary hmr_M_braces y v1 q_4.1 q_7.1 q_7.2 hf)
  · have hf := (if_neg h).symm.trans hf
    obtain ⟨q_4, hc_5, hf⟩ := dc_b hf
    have hm := Nat.le_trans hm (hmr_M_exp q_1.2 q_4 hc_5)
    exact Nat.le_trans hm (mo_M_braces_108 N r_M_exp r_M_binary r_M_operand r_M_primary r_M_braces hmr_M_exp hmr_M_binary hmr_M_operand hmr_M_primary hmr_M_braces y v1 q_4.1 q_4.2 hf)
set_option maxHeartbeats 8000000 in
set_option maxRecDepth 100000 in
theorem cb_M_exp (l : Launch) (dC : Nat → ClassId) (dI : Nat → Nat → Nat) (cI cB cJ cZ cQ : ClassId) (N d : Nat) (r_M_exp : ms → Option (Int32 × ms)) (r_M_binary : ms → Option (Int32 × ms)) (r_M_operand : ms → Option (Int32 × ms)) (r_M_primary : ms → Option (Int32 × ms)) (r_M_braces : Int32 → ms → Option (Int32 × ms)) (hmr_M_exp : ∀ (s : ms) (y : (Int32 × ms)), r_M_exp s = some y → gl s ≤ gl y.2) (hmr_M_binary : ∀ (s : ms) (y : (Int32 × ms)), r_M_binary s = some y → gl s ≤ gl y.2) (hmr_M_operand : ∀ (s : ms) (y : (Int32 × ms)), r_M_operand s = some y → gl s ≤ gl y.2) (hmr_M_primary : ∀ (s : ms) (y : (Int32 × ms)), r_M_primary s = some y → gl s ≤ gl y.2) (hmr_M_braces : ∀ (v1 : Int32) (s : ms) (y : (Int32 × ms)), r_M_braces v1 s = some y → gl s ≤ gl y.2) (hr_M_exp : ∀ (sz : Nat) (h0 : Nat) (a : Nat → Nat) (s : ms) (y : (Int32 × ms)), r_M_exp s = some y → Met l yn_M_exp (xw yn_M_exp bn_M_exp 5 (some .int)) ({ frames := 5 + d, cells := 2 * (gl y.2 - gl s), slots := 2 * (gl y.2 - gl s), locals := 117 + d * 24 }) (dc_P (dC, dI) xcl (xt cI cB cJ cZ cQ) [.ref h0] sz (wM h0 a cI cB cJ cZ s)) (xk_Qi (dC, dI) xcl (xt cI cB cJ cZ cQ) (fun (r : Int32) (_ : Nat → Nat) => r = y.1) (fun u : Nat → Nat => (wM h0 u cI cB cJ cZ y.2)) (va_A (wM h0 a cI cB cJ cZ s) sz)) (2 * (gl y.2 - gl s)) (2 * (gl y.2 - gl s)) (va_A (wM h0 a cI cB cJ cZ s) sz)) (hr_M_binary : ∀ (sz : Nat) (h0 : Nat) (a : Nat → Nat) (s : ms) (y : (Int32 × ms)), r_M_binary s = some y → Met l yn_M_binary (xw yn_M_binary bn_M_binary 3 (some .int)) ({ frames := 5 + d, cells := 2 * (gl y.2 - gl s), slots := 2 * (gl y.2 - gl s), locals := 117 + d * 24 }) (dc_P (dC, dI) xcl (xt cI cB cJ cZ cQ) [.ref h0] sz (wM h0 a cI cB cJ cZ s)) (xk_Qi (dC, dI) xcl (xt cI cB cJ cZ cQ) (fun (r : Int32) (_ : Nat → Nat) => r = y.1) (fun u : Nat → Nat => (wM h0 u cI cB cJ cZ y.2)) (va_A (wM h0 a cI cB cJ cZ s) sz)) (2 * (gl y.2 - gl s)) (2 * (gl y.2 - gl s)) (va_A (wM h0 a cI cB cJ cZ s) sz)) (hr_M_operand : ∀ (sz : Nat) (h0 : Nat) (a : Nat → Nat) (s : ms) (y : (Int32 × ms)), r_M_operand s = some y → Met l yn_M_operand (xw yn_M_operand bn_M_operand 5 (some .int)) ({ frames := 5 + d, cells := 2 * (gl y.2 - gl s), slots := 2 * (gl y.2 - gl s), locals := 117 + d * 24 }) (dc_P (dC, dI) xcl (xt cI cB cJ cZ cQ) [.ref h0] sz (wM h0 a cI cB cJ cZ s)) (xk_Qi (dC, dI) xcl (xt cI cB cJ cZ cQ) (fun (r : Int32) (_ : Nat → Nat) => r = y.1) (fun u : Nat → Nat => (wM h0 u cI cB cJ cZ y.2)) (va_A (wM h0 a cI cB cJ cZ s) sz)) (2 * (gl y.2 - gl s)) (2 * (gl y.2 - gl s)) (va_A (wM h0 a cI cB cJ cZ s) sz)) (hr_M_primary : ∀ (sz : Nat) (h0 : Nat) (a : Nat → Nat) (s : ms) (y : (Int32 × ms)), r_M_primary s = some y → Met l yn_M_primary (xw yn_M_primary bn_M_primary 4 (some .int)) ({ frames := 5 + d, cells := 2 * (gl y.2 - gl s), slots := 2 * (gl y.2 - gl s), locals := 117 + d * 24 }) (dc_P (dC, dI) xcl (xt cI cB cJ cZ cQ) [.ref h0] sz (wM h0 a cI cB cJ cZ s)) (xk_Qi (dC, dI) xcl (xt cI cB cJ cZ cQ) (fun (r : Int32) (_ : Nat → Nat) => r = y.1) (fun u : Nat → Nat => (wM h0 u cI cB cJ cZ y.2)) (va_A (wM h0 a cI cB cJ cZ s) sz)) (2 * (gl y.2 - gl s)) (2 * (gl y.2 - gl s)) (va_A (wM h0 a cI cB cJ cZ s) sz)) (hr_M_braces : ∀ (sz : Nat) (h0 : Nat) (a : Nat → Nat) (v1 : Int32) (s : ms) (y : (Int32 × ms)), r_M_braces v1 s = some y → Met l yn_M_braces (xw yn_M_braces bn_M_braces 5 (some .int)) ({ frames := 5 + d, cells := 2 * (gl y.2 - gl s), slots := 2 * (gl y.2 - gl s), locals := 117 + d * 24 }) (dc_P (dC, dI) xcl (xt cI cB cJ cZ cQ) [.ref h0, .int v1] sz (wM h0 a cI cB cJ cZ s)) (xk_Qi (dC, dI) xcl (xt cI cB cJ cZ cQ) (fun (r : Int32) (_ : Nat → Nat) => r = y.1) (fun u : Nat → Nat => (wM h0 u cI cB cJ cZ y.2)) (va_A (wM h0 a cI cB cJ cZ s) sz)) (2 * (gl y.2 - gl s)) (2 * (gl y.2 - gl s)) (va_A (wM h0 a cI cB cJ cZ s) sz)) (sz : Nat) (h0 : Nat) (a : Nat → Nat) (s1 : ms) (y : (Int32 × ms)) (hf : fb_M_exp N r_M_exp r_M_binary r_M_operand r_M_primary r_M_braces s1 = some y) : Met l yn_M_exp (xw yn_M_exp bn_M_exp 5 (some .int)) ({ frames := 5 + (d + 1), cells := 2 * (gl y.2 - gl s1), slots := 2 * (gl y.2 - gl s1), locals := 117 + (d + 1) * 24 }) (dc_P (dC, dI) xcl (xt cI cB cJ cZ cQ) [.ref h0] sz (wM h0 a cI cB cJ cZ s1)) (xk_Qi (dC, dI) xcl (xt cI cB cJ cZ cQ) (fun (r : Int32) (_ : Nat → Nat) => r = y.1) (fun u : Nat → Nat => (wM h0 u cI cB cJ cZ y.2)) (va_A (wM h0 a cI cB cJ cZ s1) sz)) (2 * (gl y.2 - gl s1)) (2 * (gl y.2 - gl s1)) (va_A (wM h0 a cI cB cJ cZ s1) sz) := by
  refine dc_of (QA := xk_Qi (dC, dI) xcl (xt cI cB cJ cZ cQ) (fun (r : Int32) (_ : Nat → Nat) => r = y.1) (fun u : Nat → Nat => (wM h0 u cI cB cJ cZ y.2))) (by decide) (Nat.le_of_ble_eq_true rfl) ?_
  intro p e s0 m below meth c hx hb hml hown hg hr hlocks hin hP hK hN A hA hD hT ls hl
  have hown : s0.vm.findClass rn_M = some m.cls := hown
  obtain ⟨H, hH⟩ : ∃ z, z = s0.heap := ⟨_, rfl⟩
  rw [← hH] at hP
  have hS : va_S A s0.heap H [] := by rw [hH]; exact va_S.rf
  suffices kk : ∀ QQ : State → Prop, QQ = MQ below (xk_Qi (dC, dI) xcl (xt cI cB cJ cZ cQ) (fun (r : Int32) (_ : Nat → Nat) => r = y.1) (fun u : Nat → Nat => (wM h0 u cI cB cJ cZ y.2)) A) [.ref h0].toArray s0 (2 * (gl y.2 - gl s1)) (2 * (gl y.2 - gl s1)) A → gl s1 ≤ gl s1 → dcG p l e ({ frames := 5 + (d + 1), cells := 2 * (gl y.2 - gl s1), slots := 2 * (gl y.2 - gl s1), locals := 117 + (d + 1) * 24 }) s0 m [.ref h0].toArray below meth c QQ (dC, dI) A (fun a => (wM h0 a cI cB cJ cZ s1)) (2 * (gl s1 - gl s1)) 0 5 [(0, .ref h0)] [] by
    have k9 := kk _ rfl (Nat.le_refl _) a H [] ls hP hD hS hl
    rw [hH, Nat.sub_self] at k9; exact k9
  clear hP hD hS hl hH H ls
  intro QQ hQQ
  have bl_101 : ∀ (x3 : Int32) (s : ms), bk_M_exp_101 N r_M_exp r_M_binary r_M_operand r_M_primary r_M_braces x3 s = some y → gl s1 ≤ gl s → dcG p l e ({ frames := 5 + (d + 1), cells := 2 * (gl y.2 - gl s1), slots := 2 * (gl y.2 - gl s1), locals := 117 + (d + 1) * 24 }) s0 m [.ref h0].toArray below meth c QQ (dC, dI) A (fun a => (wM h0 a cI cB cJ cZ s)) (2 * (gl s - gl s1)) 101 5 [(3, .int x3)] [] := by
    intro x3 s hf hge a H locs ls hP hD hS hl
    have hle := mo_M_exp_101 N r_M_exp r_M_binary r_M_operand r_M_primary r_M_braces hmr_M_exp hmr_M_binary hmr_M_operand hmr_M_primary hmr_M_braces y x3 s hf
    unfold bk_M_exp_101 at hf
    refine lv_iload_n hx hb dn_M_exp_101 rfl (lv_at hl 0 rfl) ?_
    rw [hQQ, ← Option.some.inj hf]
    exact xk_iret (w1 := fun u : Nat → Nat => (wM h0 u cI cB cJ cZ s)) a hx hb hr hlocks hK hS dn_M_exp_102 hP hD rfl (Nat.le_refl _) (Nat.le_refl _)
  have bl_90 : ∀ (x3 : Int32) (t0 : Int64) (s : ms), bk_M_exp_90 N r_M_exp r_M_binary r_M_operand r_M_primary r_M_braces x3 t0 s = some y → gl s1 ≤ gl s → dcG p l e ({ frames := 5 + (d + 1), cells := 2 * (gl y.2 - gl s1), slots := 2 * (gl y.2 - gl s1), locals := 117 + (d + 1) * 24 }) s0 m [.ref h0].toArray below meth c QQ (dC, dI) A (fun a => (wM h0 a cI cB cJ cZ s)) (2 * (gl s - gl s1)) 90 5 [(0, .ref h0), (3, .int x3)] [.long t0, .ref h0] := by
    intro x3 t0 s hf hge a H locs ls hP hD hS hl
    have hle := mo_M_exp_90 N r_M_exp r_M_binary r_M_operand r_M_primary r_M_braces hmr_M_exp hmr_M_binary hmr_M_operand hmr_M_primary hmr_M_braces y x3 t0 s hf
    unfold bk_M_exp_90 at hf
    obtain ⟨q_1, hc_2, hf⟩ := dc_b hf
    have hme := mn_M_cost N t0 s q_1 hc_2
    refine dc_callv (dc_runV (ar := 1) (As := [.long t0]) (rest := []) (ci := 0) (q0 := 0) ⟨hx, hb, hml, hown, hg⟩ hK hN hT hS hA (ct_M_cost l dC dI cI cB cJ cZ cQ N H.size h0 a t0 s q_1 hc_2) hP hD rfl rfl wn_10_109 wn_10_111 sn_M_cost wn_1_13 wn_10_112 rfl rfl (by decide +kernel) ⟨dc_ra (Nat.le_of_ble_eq_true rfl), dc_ra (Nat.le_of_ble_eq_true rfl)⟩ rfl hl.1 rfl (Nat.le_of_ble_eq_true rfl) dn_M_exp_90 (dc_rm0 hle)) hP hD hS hA (fun _ H locs hw hP hD hS => ?_)
    refine W.widen (k := 2 * (gl q_1.2 - gl s1)) (n := 2 * (gl q_1.2 - gl s1)) (dc_we hme) (dc_we hme) ?_
    have hge := Nat.le_trans hge (Nat.le_of_eq hme.symm)
    have hle := Nat.le_trans (Nat.le_of_eq hme) hle
    refine lv_aload_n hx hb dn_M_exp_93 rfl (lv_at hl 0 rfl) ?_
    refine lv_bipush (v := 6) hx hb dn_M_exp_94 (by decide) ?_
    refine lv_iconst (v := 0) hx hb dn_M_exp_96 (by decide) ?_
    refine lv_iconst (v := 0) hx hb dn_M_exp_97 (by decide) ?_
    obtain ⟨q_3, hc_4, hf⟩ := dc_b hf
    have hmg := mn_M_lay N 6 0 0 q_1.2 q_3 hc_4
    have hle2 : gl q_3.2 ≤ gl y.2 := mo_M_exp_101 N r_M_exp r_M_binary r_M_operand r_M_primary r_M_braces hmr_M_exp hmr_M_binary hmr_M_operand hmr_M_primary hmr_M_braces y _ _ hf
    refine dc_callv (dc_runV (ar := 3) (As := [.int 6, .int 0, .int 0]) (rest := []) (ci := 0) (q0 := 0) ⟨hx, hb, hml, hown, hg⟩ hK hN hT hS hA (ct_M_lay l dC dI cI cB cJ cZ cQ N H.size h0 a 6 0 0 q_1.2 q_3 hc_4) hP hD rfl rfl wn_10_97 wn_10_99 sn_M_lay wn_1_13 wn_10_100 rfl rfl (by decide +kernel) ⟨dc_ra (Nat.le_of_ble_eq_true rfl), dc_ra (Nat.le_of_ble_eq_true rfl)⟩ rfl hl.1 rfl (Nat.le_of_ble_eq_true rfl) dn_M_exp_98 (dc_rm hge hmg hle2)) hP hD hS hA (fun a H locs hw hP hD hS => ?_)
    refine W.widen (k := 2 * (gl q_3.2 - gl s1)) (n := 2 * (gl q_3.2 - gl s1)) (dc_wa hge hmg) (dc_wa hge hmg) ?_
    have hge := Nat.le_trans hge hmg
    have hle := hle2
    exact bl_101 x3 q_3.2 hf hge a H locs ls hP hD hS (lv_sub hl [1] rfl)
  have bl_77 : ∀ (x1 : Int32) (x3 : Int32) (s : ms), bk_M_exp_77 N r_M_exp r_M_binary r_M_operand r_M_primary r_M_braces x1 x3 s = some y → gl s1 ≤ gl s → dcG p l e ({ frames := 5 + (d + 1), cells := 2 * (gl y.2 - gl s1), slots := 2 * (gl y.2 - gl s1), locals := 117 + (d + 1) * 24 }) s0 m [.ref h0].toArray below meth c QQ (dC, dI) A (fun a => (wM h0 a cI cB cJ cZ s)) (2 * (gl s - gl s1)) 77 5 [(0, .ref h0), (1, .int x1), (3, .int x3)] [] := by
    intro x1 x3 s hf hge a H locs ls hP hD hS hl
    have hle := mo_M_exp_77 N r_M_exp r_M_binary r_M_operand r_M_primary r_M_braces hmr_M_exp hmr_M_binary hmr_M_operand hmr_M_primary hmr_M_braces y x1 x3 s hf
    unfold bk_M_exp_77 at hf
    refine lv_aload_n hx hb dn_M_exp_77 rfl (lv_at hl 0 rfl) ?_
    refine lv_iload_n hx hb dn_M_exp_78 rfl (lv_at hl 2 rfl) ?_
    refine lv_iload_n hx hb dn_M_exp_79 rfl (lv_at hl 1 rfl) ?_
    refine lv_icmp_le (tgt := 88) hx hb dn_M_exp_80 (by decide) (fun h => ?_) (fun h => ?_)
    · have hf := (if_pos h).symm.trans hf
      refine lv_iload_n hx hb dn_M_exp_88 rfl (lv_at hl 1 rfl) ?_
      refine lv_i2l (v := Int32.toInt64 x1) hx hb dn_M_exp_89 rfl ?_
      exact bl_90 x3 ((Int32.toInt64 x1)) s hf hge a H locs ls hP hD hS (lv_sub hl [0, 2] rfl)
    · have hf := (if_neg h).symm.trans hf
      refine lv_iload_n hx hb dn_M_exp_83 rfl (lv_at hl 2 rfl) ?_
      refine lv_i2l (v := Int32.toInt64 x3) hx hb dn_M_exp_84 rfl ?_
      refine lv_goto (tgt := 90) hx hb dn_M_exp_85 (by decide) ?_
      exact bl_90 x3 ((Int32.toInt64 x3)) s hf hge a H locs ls hP hD hS (lv_sub hl [0, 2] rfl)
  have bl_55 : ∀ (x1 : Int32) (x2 : Int32) (x3 : Int32) (t0 : Int32) (s : ms), bk_M_exp_55 N r_M_exp r_M_binary r_M_operand r_M_primary r_M_braces x1 x2 x3 t0 s = some y → gl s1 ≤ gl s → dcG p l e ({ frames := 5 + (d + 1), cells := 2 * (gl y.2 - gl s1), slots := 2 * (gl y.2 - gl s1), locals := 117 + (d + 1) * 24 }) s0 m [.ref h0].toArray below meth c QQ (dC, dI) A (fun a => (wM h0 a cI cB cJ cZ s)) (2 * (gl s - gl s1)) 55 5 [(0, .ref h0), (1, .int x1), (2, .int x2), (3, .int x3)] [.int t0] := by
    intro x1 x2 x3 t0 s hf hge a H locs ls hP hD hS hl
    have hle := mo_M_exp_55 N r_M_exp r_M_binary r_M_operand r_M_primary r_M_braces hmr_M_exp hmr_M_binary hmr_M_operand hmr_M_primary hmr_M_braces y x1 x2 x3 t0 s hf
    unfold bk_M_exp_55 at hf
    refine lv_istore (lv' := [(4, .int t0), (0, .ref h0), (1, .int x1), (2, .int x2), (3, .int x3)]) hx hb dn_M_exp_55 hl (by decide) rfl (fun ls hl => ?_)
    refine lv_aload_n hx hb dn_M_exp_57 rfl (lv_at hl 1 rfl) ?_
    refine va_get (D := (dC, dI)) (ci := 0) (v := .int ((s.1 9 0))) (C := rn_M) (T := fn_M) (N := 91) hx hb hg in_M hown hK hP 0 rfl rfl 9 (by decide) (hg _ wn_8_82) (fun _ h9 => h9) rfl dn_M_exp_58 ?_
    refine lv_if_ne (tgt := 77) hx hb dn_M_exp_61 (by decide) (fun h => ?_) (fun h => ?_)
    · have hf := (if_neg h).symm.trans hf
      exact bl_77 x1 x3 s hf hge a H locs ls hP hD hS (lv_sub hl [1, 2, 4] rfl)
    · have hf := (if_pos h).symm.trans hf
      refine lv_iload_n hx hb dn_M_exp_64 rfl (lv_at hl 4 rfl) ?_
      refine lv_iload hx hb dn_M_exp_65 (lv_at hl 0 rfl) ?_
      refine lv_icmp_eq (tgt := 77) hx hb dn_M_exp_67 (by decide) (fun h => ?_) (fun h => ?_)
      · have hf := (if_pos h).symm.trans hf
        exact bl_77 x1 x3 s hf hge a H locs ls hP hD hS (lv_sub hl [1, 2, 4] rfl)
      · have hf := (if_neg h).symm.trans hf
        refine lv_aload_n hx hb dn_M_exp_70 rfl (lv_at hl 1 rfl) ?_
        refine lv_bipush (v := 30) hx hb dn_M_exp_71 (by decide) ?_
        refine lv_iload_n hx hb dn_M_exp_73 rfl (lv_at hl 3 rfl) ?_
        obtain ⟨q_1, hc_2, hf⟩ := dc_b hf
        have hme := mn_M_fail N 30 x2 s q_1 hc_2
        refine dc_callv (dc_runV (ar := 2) (As := [.int 30, .int x2]) (rest := []) (ci := 0) (q0 := 0) ⟨hx, hb, hml, hown, hg⟩ hK hN hT hS hA (ct_M_fail l dC dI cI cB cJ cZ cQ N H.size h0 a 30 x2 s q_1 hc_2) hP hD rfl rfl wn_9_186 wn_9_188 sn_M_fail wn_1_13 wn_9_189 rfl rfl (by decide +kernel) ⟨dc_ra (Nat.le_of_ble_eq_true rfl), dc_ra (Nat.le_of_ble_eq_true rfl)⟩ rfl hl.1 rfl (Nat.le_of_ble_eq_true rfl) dn_M_exp_74 (dc_rm0 hle)) hP hD hS hA (fun _ H locs hw hP hD hS => ?_)
        refine W.widen (k := 2 * (gl q_1.2 - gl s1)) (n := 2 * (gl q_1.2 - gl s1)) (dc_we hme) (dc_we hme) ?_
        have hge := Nat.le_trans hge (Nat.le_of_eq hme.symm)
        have hle := Nat.le_trans (Nat.le_of_eq hme) hle
        exact bl_77 x1 x3 q_1.2 hf hge a H locs ls hP hD hS (lv_sub hl [1, 2, 4] rfl)
  have bl_40 : ∀ (x1 : Int32) (x2 : Int32) (t0 : Int32) (s : ms), bk_M_exp_40 N r_M_exp r_M_binary r_M_operand r_M_primary r_M_braces x1 x2 t0 s = some y → gl s1 ≤ gl s → dcG p l e ({ frames := 5 + (d + 1), cells := 2 * (gl y.2 - gl s1), slots := 2 * (gl y.2 - gl s1), locals := 117 + (d + 1) * 24 }) s0 m [.ref h0].toArray below meth c QQ (dC, dI) A (fun a => (wM h0 a cI cB cJ cZ s)) (2 * (gl s - gl s1)) 40 5 [(0, .ref h0), (1, .int x1), (2, .int x2)] [.int t0] := by
    intro x1 x2 t0 s hf hge a H locs ls hP hD hS hl
    have hle := mo_M_exp_40 N r_M_exp r_M_binary r_M_operand r_M_primary r_M_braces hmr_M_exp hmr_M_binary hmr_M_operand hmr_M_primary hmr_M_braces y x1 x2 t0 s hf
    unfold bk_M_exp_40 at hf
    refine lv_istore_n (lv' := [(3, .int t0), (0, .ref h0), (1, .int x1), (2, .int x2)]) hx hb dn_M_exp_40 rfl hl (by decide) rfl (fun ls hl => ?_)
    refine lv_aload_n hx hb dn_M_exp_41 rfl (lv_at hl 1 rfl) ?_
    refine lv_dup hx hb dn_M_exp_42 rfl ?_
    refine va_get (D := (dC, dI)) (ci := 0) (v := .int ((s.1 8 0))) (C := rn_M) (T := fn_M) (N := 91) hx hb hg in_M hown hK hP 0 rfl rfl 8 (by decide) (hg _ wn_8_81) (fun _ h9 => h9) rfl dn_M_exp_43 ?_
    refine lv_iconst (v := 1) hx hb dn_M_exp_46 (by decide) ?_
    refine lv_iadd hx hb dn_M_exp_47 ?_
    refine va_put (D := (dC, dI)) (ci := 0) (v := .int (((s.1 8 0) + 1))) (ty := .int) (C := rn_M) (T := fn_M) (N := 91) hx hb hg in_M tn_M tk_M nn_M hown hK hP hD hS 0 rfl rfl 8 (by decide) (hg _ wn_8_81) (fun _ h9 => h9) rfl (tk_M 8 (by decide)) rfl rfl (Nat.le_of_ble_eq_true rfl) dn_M_exp_48 (fun H locs hP hD hS => ?_)
    have hP := wM_P_8 hP
    have hD := wM_D_8 hD
    refine lv_aload_n hx hb dn_M_exp_51 rfl (lv_at hl 1 rfl) ?_
    obtain ⟨q_1, hc_2, hf⟩ := dc_b hf
    have hmg := hmr_M_exp (upI s 8 (fun _ => ((s.1 8 0) + 1))) q_1 hc_2
    have hle2 : gl q_1.2 ≤ gl y.2 := mo_M_exp_55 N r_M_exp r_M_binary r_M_operand r_M_primary r_M_braces hmr_M_exp hmr_M_binary hmr_M_operand hmr_M_primary hmr_M_braces y _ _ _ _ _ hf
    refine dc_calli (dc_runV (ar := 0) (As := []) (rest := []) (ci := 0) (q0 := 0) ⟨hx, hb, hml, hown, hg⟩ hK hN hT hS hA (hr_M_exp H.size h0 a (upI s 8 (fun _ => ((s.1 8 0) + 1))) q_1 hc_2) hP hD rfl rfl wn_10_77 wn_10_79 sn_M_exp wn_1_13 wn_10_80 rfl rfl (by decide +kernel) ⟨Nat.le_refl _, dc_lm (Nat.le_of_ble_eq_true rfl)⟩ rfl hl.1 rfl (Nat.le_of_ble_eq_true rfl) dn_M_exp_52 (dc_rm hge hmg hle2)) hP hD hS hA (fun r_3 a H locs hw hP hD hS => ?_)
    refine W.widen (k := 2 * (gl q_1.2 - gl s1)) (n := 2 * (gl q_1.2 - gl s1)) (dc_wa hge hmg) (dc_wa hge hmg) ?_
    have hge := Nat.le_trans hge hmg
    have hle := hle2
    have hw : r_3 = q_1.1 := hw
    subst hw
    exact bl_55 x1 x2 t0 q_1.1 q_1.2 hf hge a H locs ls hP hD hS (lv_sub hl [1, 2, 3, 0] rfl)
  have bl_4 : ∀ (t0 : Int32) (s : ms), bk_M_exp_4 N r_M_exp r_M_binary r_M_operand r_M_primary r_M_braces t0 s = some y → gl s1 ≤ gl s → dcG p l e ({ frames := 5 + (d + 1), cells := 2 * (gl y.2 - gl s1), slots := 2 * (gl y.2 - gl s1), locals := 117 + (d + 1) * 24 }) s0 m [.ref h0].toArray below meth c QQ (dC, dI) A (fun a => (wM h0 a cI cB cJ cZ s)) (2 * (gl s - gl s1)) 4 5 [(0, .ref h0)] [.int t0] := by
    intro t0 s hf hge a H locs ls hP hD hS hl
    have hle := mo_M_exp_4 N r_M_exp r_M_binary r_M_operand r_M_primary r_M_braces hmr_M_exp hmr_M_binary hmr_M_operand hmr_M_primary hmr_M_braces y t0 s hf
    unfold bk_M_exp_4 at hf
    refine lv_istore_n (lv' := [(1, .int t0), (0, .ref h0)]) hx hb dn_M_exp_4 rfl hl (by decide) rfl (fun ls hl => ?_)
    refine lv_aload_n hx hb dn_M_exp_5 rfl (lv_at hl 1 rfl) ?_
    refine lv_bipush (v := 63) hx hb dn_M_exp_6 (by decide) ?_
    obtain ⟨q_1, hc_2, hf⟩ := dc_b hf
    have hme := mn_M_is N 63 s q_1 hc_2
    refine dc_calli (dc_runV (ar := 1) (As := [.int 63]) (rest := []) (ci := 0) (q0 := 0) ⟨hx, hb, hml, hown, hg⟩ hK hN hT hS hA (ct_M_is l dC dI cI cB cJ cZ cQ N H.size h0 a 63 s q_1 hc_2) hP hD rfl rfl wn_9_194 wn_9_196 sn_M_is wn_1_13 wn_9_197 rfl rfl (by decide +kernel) ⟨dc_ra (Nat.le_of_ble_eq_true rfl), dc_ra (Nat.le_of_ble_eq_true rfl)⟩ rfl hl.1 rfl (Nat.le_of_ble_eq_true rfl) dn_M_exp_8 (dc_rm0 hle)) hP hD hS hA (fun r_3 _ H locs hw hP hD hS => ?_)
    refine W.widen (k := 2 * (gl q_1.2 - gl s1)) (n := 2 * (gl q_1.2 - gl s1)) (dc_we hme) (dc_we hme) ?_
    have hge := Nat.le_trans hge (Nat.le_of_eq hme.symm)
    have hle := Nat.le_trans (Nat.le_of_eq hme) hle
    have hw : r_3 = q_1.1 := hw
    subst hw
    refine lv_if_ne (tgt := 16) hx hb dn_M_exp_11 (by decide) (fun h => ?_) (fun h => ?_)
    · have hf := (if_neg h).symm.trans hf
      refine lv_aload_n hx hb dn_M_exp_16 rfl (lv_at hl 1 rfl) ?_
      refine va_get (D := (dC, dI)) (ci := 0) (v := .ref ((a 5))) (C := rn_M) (T := fn_M) (N := 91) hx hb hg in_M hown hK hP 0 rfl rfl 5 (by decide) (hg _ wn_8_78) (fun _ h9 => h9) rfl dn_M_exp_17 ?_
      refine lv_aload_n hx hb dn_M_exp_20 rfl (lv_at hl 1 rfl) ?_
      refine va_get (D := (dC, dI)) (ci := 0) (v := .int ((q_1.2.1 8 0))) (C := rn_M) (T := fn_M) (N := 91) hx hb hg in_M hown hK hP 0 rfl rfl 8 (by decide) (hg _ wn_8_81) (fun _ h9 => h9) rfl dn_M_exp_21 ?_
      obtain ⟨hg_4, hf⟩ := dc_g hf
      refine va_iald hx hb hK hP 3 0 rfl rfl hg_4 dn_M_exp_24 ?_
      refine xk_ti (y := ((q_1.2.1 5) (Int32.toNatClampNeg ((q_1.2.1 8 0))))) rfl ?_
      refine lv_istore_n (lv' := [(2, .int (((q_1.2.1 5) (Int32.toNatClampNeg ((q_1.2.1 8 0)))))), (1, .int t0), (0, .ref h0)]) hx hb dn_M_exp_25 rfl hl (by decide) rfl (fun ls hl => ?_)
      refine lv_aload_n hx hb dn_M_exp_26 rfl (lv_at hl 2 rfl) ?_
      refine lv_dup hx hb dn_M_exp_27 rfl ?_
      refine va_get (D := (dC, dI)) (ci := 0) (v := .int ((q_1.2.1 8 0))) (C := rn_M) (T := fn_M) (N := 91) hx hb hg in_M hown hK hP 0 rfl rfl 8 (by decide) (hg _ wn_8_81) (fun _ h9 => h9) rfl dn_M_exp_28 ?_
      refine lv_iconst (v := 1) hx hb dn_M_exp_31 (by decide) ?_
      refine lv_iadd hx hb dn_M_exp_32 ?_
      refine va_put (D := (dC, dI)) (ci := 0) (v := .int (((q_1.2.1 8 0) + 1))) (ty := .int) (C := rn_M) (T := fn_M) (N := 91) hx hb hg in_M tn_M tk_M nn_M hown hK hP hD hS 0 rfl rfl 8 (by decide) (hg _ wn_8_81) (fun _ h9 => h9) rfl (tk_M 8 (by decide)) rfl rfl (Nat.le_of_ble_eq_true rfl) dn_M_exp_33 (fun H locs hP hD hS => ?_)
      have hP := wM_P_8 hP
      have hD := wM_D_8 hD
      refine lv_aload_n hx hb dn_M_exp_36 rfl (lv_at hl 2 rfl) ?_
      obtain ⟨q_5, hc_6, hf⟩ := dc_b hf
      have hmg := hmr_M_exp (upI q_1.2 8 (fun _ => ((q_1.2.1 8 0) + 1))) q_5 hc_6
      have hle2 : gl q_5.2 ≤ gl y.2 := mo_M_exp_40 N r_M_exp r_M_binary r_M_operand r_M_primary r_M_braces hmr_M_exp hmr_M_binary hmr_M_operand hmr_M_primary hmr_M_braces y _ _ _ _ hf
      refine dc_calli (dc_runV (ar := 0) (As := []) (rest := []) (ci := 0) (q0 := 0) ⟨hx, hb, hml, hown, hg⟩ hK hN hT hS hA (hr_M_exp H.size h0 a (upI q_1.2 8 (fun _ => ((q_1.2.1 8 0) + 1))) q_5 hc_6) hP hD rfl rfl wn_10_77 wn_10_79 sn_M_exp wn_1_13 wn_10_80 rfl rfl (by decide +kernel) ⟨Nat.le_refl _, dc_lm (Nat.le_of_ble_eq_true rfl)⟩ rfl hl.1 rfl (Nat.le_of_ble_eq_true rfl) dn_M_exp_37 (dc_rm hge hmg hle2)) hP hD hS hA (fun r_7 a H locs hw hP hD hS => ?_)
      refine W.widen (k := 2 * (gl q_5.2 - gl s1)) (n := 2 * (gl q_5.2 - gl s1)) (dc_wa hge hmg) (dc_wa hge hmg) ?_
      have hge := Nat.le_trans hge hmg
      have hle := hle2
      have hw : r_7 = q_5.1 := hw
      subst hw
      exact bl_40 t0 (((q_1.2.1 5) (Int32.toNatClampNeg ((q_1.2.1 8 0))))) q_5.1 q_5.2 hf hge a H locs ls hP hD hS (lv_sub hl [2, 1, 0] rfl)
    · have hf := (if_pos h).symm.trans hf
      refine lv_iload_n hx hb dn_M_exp_14 rfl (lv_at hl 0 rfl) ?_
      rw [hQQ, ← Option.some.inj hf]
      exact xk_iret (w1 := fun u : Nat → Nat => (wM h0 u cI cB cJ cZ q_1.2)) a hx hb hr hlocks hK hS dn_M_exp_15 hP hD rfl (Nat.le_refl _) (Nat.le_refl _)
  intro hge a H locs ls hP hD hS hl
  have hle := mf_M_exp N r_M_exp r_M_binary r_M_operand r_M_primary r_M_braces hmr_M_exp hmr_M_binary hmr_M_operand hmr_M_primary hmr_M_braces s1 y hf
  unfold fb_M_exp at hf
  refine lv_aload_n hx hb dn_M_exp_0 rfl (lv_at hl 0 rfl) ?_
  obtain ⟨q_1, hc_2, hf⟩ := dc_b hf
  have hmg := hmr_M_binary s1 q_1 hc_2
  have hle2 : gl q_1.2 ≤ gl y.2 := mo_M_exp_4 N r_M_exp r_M_binary r_M_operand r_M_primary r_M_braces hmr_M_exp hmr_M_binary hmr_M_operand hmr_M_primary hmr_M_braces y _ _ hf
  refine dc_calli (dc_runV (ar := 0) (As := []) (rest := []) (ci := 0) (q0 := 0) ⟨hx, hb, hml, hown, hg⟩ hK hN hT hS hA (hr_M_binary H.size h0 a s1 q_1 hc_2) hP hD rfl rfl wn_10_81 wn_10_83 sn_M_binary wn_1_13 wn_10_84 rfl rfl (by decide +kernel) ⟨Nat.le_refl _, dc_lm (Nat.le_of_ble_eq_true rfl)⟩ rfl hl.1 rfl (Nat.le_of_ble_eq_true rfl) dn_M_exp_1 (dc_rm hge hmg hle2)) hP hD hS hA (fun r_3 a H locs hw hP hD hS => ?_)
  refine W.widen (k := 2 * (gl q_1.2 - gl s1)) (n := 2 * (gl q_1.2 - gl s1)) (dc_wa hge hmg) (dc_wa hge hmg) ?_
  have hge := Nat.le_trans hge hmg
  have hle := hle2
  have hw : r_3 = q_1.1 := hw
  subst hw
  exact bl_4 q_1.1 q_1.2 hf hge a H locs ls hP hD hS hl
set_option maxHeartbeats 8000000 in
set_option maxRecDepth 100000 in
theorem cb_M_binary (l : Launch) (dC : Nat → ClassId) (dI : Nat → Nat → Nat) (cI cB cJ cZ cQ : ClassId) (N d : Nat) (r_M_exp : ms → Option (Int32 × ms)) (r_M_binary : ms → Option (Int32 × ms)) (r_M_operand : ms → Option (Int32 × ms)) (r_M_primary : ms → Option (Int32 × ms)) (r_M_braces : Int32 → ms → Option (Int32 × ms)) (hmr_M_exp : ∀ (s : ms) (y : (Int32 × ms)), r_M_exp s = some y → gl s ≤ gl y.2) (hmr_M_binary : ∀ (s : ms) (y : (Int32 × ms)), r_M_binary s = some y → gl s ≤ gl y.2) (hmr_M_operand : ∀ (s : ms) (y : (Int32 × ms)), r_M_operand s = some y → gl s ≤ gl y.2) (hmr_M_primary : ∀ (s : ms) (y : (Int32 × ms)), r_M_primary s = some y → gl s ≤ gl y.2) (hmr_M_braces : ∀ (v1 : Int32) (s : ms) (y : (Int32 × ms)), r_M_braces v1 s = some y → gl s ≤ gl y.2) (hr_M_exp : ∀ (sz : Nat) (h0 : Nat) (a : Nat → Nat) (s : ms) (y : (Int32 × ms)), r_M_exp s = some y → Met l yn_M_exp (xw yn_M_exp bn_M_exp 5 (some .int)) ({ frames := 5 + d, cells := 2 * (gl y.2 - gl s), slots := 2 * (gl y.2 - gl s), locals := 117 + d * 24 }) (dc_P (dC, dI) xcl (xt cI cB cJ cZ cQ) [.ref h0] sz (wM h0 a cI cB cJ cZ s)) (xk_Qi (dC, dI) xcl (xt cI cB cJ cZ cQ) (fun (r : Int32) (_ : Nat → Nat) => r = y.1) (fun u : Nat → Nat => (wM h0 u cI cB cJ cZ y.2)) (va_A (wM h0 a cI cB cJ cZ s) sz)) (2 * (gl y.2 - gl s)) (2 * (gl y.2 - gl s)) (va_A (wM h0 a cI cB cJ cZ s) sz)) (hr_M_binary : ∀ (sz : Nat) (h0 : Nat) (a : Nat → Nat) (s : ms) (y : (Int32 × ms)), r_M_binary s = some y → Met l yn_M_binary (xw yn_M_binary bn_M_binary 3 (some .int)) ({ frames := 5 + d, cells := 2 * (gl y.2 - gl s), slots := 2 * (gl y.2 - gl s), locals := 117 + d * 24 }) (dc_P (dC, dI) xcl (xt cI cB cJ cZ cQ) [.ref h0] sz (wM h0 a cI cB cJ cZ s)) (xk_Qi (dC, dI) xcl (xt cI cB cJ cZ cQ) (fun (r : Int32) (_ : Nat → Nat) => r = y.1) (fun u : Nat → Nat => (wM h0 u cI cB cJ cZ y.2)) (va_A (wM h0 a cI cB cJ cZ s) sz)) (2 * (gl y.2 - gl s)) (2 * (gl y.2 - gl s)) (va_A (wM h0 a cI cB cJ cZ s) sz)) (hr_M_operand : ∀ (sz : Nat) (h0 : Nat) (a : Nat → Nat) (s : ms) (y : (Int32 × ms)), r_M_operand s = some y → Met l yn_M_operand (xw yn_M_operand bn_M_operand 5 (some .int)) ({ frames := 5 + d, cells := 2 * (gl y.2 - gl s), slots := 2 * (gl y.2 - gl s), locals := 117 + d * 24 }) (dc_P (dC, dI) xcl (xt cI cB cJ cZ cQ) [.ref h0] sz (wM h0 a cI cB cJ cZ s)) (xk_Qi (dC, dI) xcl (xt cI cB cJ cZ cQ) (fun (r : Int32) (_ : Nat → Nat) => r = y.1) (fun u : Nat → Nat => (wM h0 u cI cB cJ cZ y.2)) (va_A (wM h0 a cI cB cJ cZ s) sz)) (2 * (gl y.2 - gl s)) (2 * (gl y.2 - gl s)) (va_A (wM h0 a cI cB cJ cZ s) sz)) (hr_M_primary : ∀ (sz : Nat) (h0 : Nat) (a : Nat → Nat) (s : ms) (y : (Int32 × ms)), r_M_primary s = some y → Met l yn_M_primary (xw yn_M_primary bn_M_primary 4 (some .int)) ({ frames := 5 + d, cells := 2 * (gl y.2 - gl s), slots := 2 * (gl y.2 - gl s), locals := 117 + d * 24 }) (dc_P (dC, dI) xcl (xt cI cB cJ cZ cQ) [.ref h0] sz (wM h0 a cI cB cJ cZ s)) (xk_Qi (dC, dI) xcl (xt cI cB cJ cZ cQ) (fun (r : Int32) (_ : Nat → Nat) => r = y.1) (fun u : Nat → Nat => (wM h0 u cI cB cJ cZ y.2)) (va_A (wM h0 a cI cB cJ cZ s) sz)) (2 * (gl y.2 - gl s)) (2 * (gl y.2 - gl s)) (va_A (wM h0 a cI cB cJ cZ s) sz)) (hr_M_braces : ∀ (sz : Nat) (h0 : Nat) (a : Nat → Nat) (v1 : Int32) (s : ms) (y : (Int32 × ms)), r_M_braces v1 s = some y → Met l yn_M_braces (xw yn_M_braces bn_M_braces 5 (some .int)) ({ frames := 5 + d, cells := 2 * (gl y.2 - gl s), slots := 2 * (gl y.2 - gl s), locals := 117 + d * 24 }) (dc_P (dC, dI) xcl (xt cI cB cJ cZ cQ) [.ref h0, .int v1] sz (wM h0 a cI cB cJ cZ s)) (xk_Qi (dC, dI) xcl (xt cI cB cJ cZ cQ) (fun (r : Int32) (_ : Nat → Nat) => r = y.1) (fun u : Nat → Nat => (wM h0 u cI cB cJ cZ y.2)) (va_A (wM h0 a cI cB cJ cZ s) sz)) (2 * (gl y.2 - gl s)) (2 * (gl y.2 - gl s)) (va_A (wM h0 a cI cB cJ cZ s) sz)) (sz : Nat) (h0 : Nat) (a : Nat → Nat) (s1 : ms) (y : (Int32 × ms)) (hf : fb_M_binary N r_M_exp r_M_binary r_M_operand r_M_primary r_M_braces s1 = some y) : Met l yn_M_binary (xw yn_M_binary bn_M_binary 3 (some .int)) ({ frames := 5 + (d + 1), cells := 2 * (gl y.2 - gl s1), slots := 2 * (gl y.2 - gl s1), locals := 117 + (d + 1) * 24 }) (dc_P (dC, dI) xcl (xt cI cB cJ cZ cQ) [.ref h0] sz (wM h0 a cI cB cJ cZ s1)) (xk_Qi (dC, dI) xcl (xt cI cB cJ cZ cQ) (fun (r : Int32) (_ : Nat → Nat) => r = y.1) (fun u : Nat → Nat => (wM h0 u cI cB cJ cZ y.2)) (va_A (wM h0 a cI cB cJ cZ s1) sz)) (2 * (gl y.2 - gl s1)) (2 * (gl y.2 - gl s1)) (va_A (wM h0 a cI cB cJ cZ s1) sz) := by
  refine dc_of (QA := xk_Qi (dC, dI) xcl (xt cI cB cJ cZ cQ) (fun (r : Int32) (_ : Nat → Nat) => r = y.1) (fun u : Nat → Nat => (wM h0 u cI cB cJ cZ y.2))) (by decide) (Nat.le_of_ble_eq_true rfl) ?_
  intro p e s0 m below meth c hx hb hml hown hg hr hlocks hin hP hK hN A hA hD hT ls hl
  have hown : s0.vm.findClass rn_M = some m.cls := hown
  obtain ⟨H, hH⟩ : ∃ z, z = s0.heap := ⟨_, rfl⟩
  rw [← hH] at hP
  have hS : va_S A s0.heap H [] := by rw [hH]; exact va_S.rf
  suffices kk : ∀ QQ : State → Prop, QQ = MQ below (xk_Qi (dC, dI) xcl (xt cI cB cJ cZ cQ) (fun (r : Int32) (_ : Nat → Nat) => r = y.1) (fun u : Nat → Nat => (wM h0 u cI cB cJ cZ y.2)) A) [.ref h0].toArray s0 (2 * (gl y.2 - gl s1)) (2 * (gl y.2 - gl s1)) A → gl s1 ≤ gl s1 → dcG p l e ({ frames := 5 + (d + 1), cells := 2 * (gl y.2 - gl s1), slots := 2 * (gl y.2 - gl s1), locals := 117 + (d + 1) * 24 }) s0 m [.ref h0].toArray below meth c QQ (dC, dI) A (fun a => (wM h0 a cI cB cJ cZ s1)) (2 * (gl s1 - gl s1)) 0 3 [(0, .ref h0)] [] by
    have k9 := kk _ rfl (Nat.le_refl _) a H [] ls hP hD hS hl
    rw [hH, Nat.sub_self] at k9; exact k9
  clear hP hD hS hl hH H ls
  intro QQ hQQ
  have bl_145 : ∀ (k_133 : Int32 → ms → Option (Int32 × ms)) (hk_133 : ∀ (x1 : Int32) (s : ms), k_133 x1 s = some y → gl s1 ≤ gl s → dcG p l e ({ frames := 5 + (d + 1), cells := 2 * (gl y.2 - gl s1), slots := 2 * (gl y.2 - gl s1), locals := 117 + (d + 1) * 24 }) s0 m [.ref h0].toArray below meth c QQ (dC, dI) A (fun a => (wM h0 a cI cB cJ cZ s)) (2 * (gl s - gl s1)) 133 3 [(0, .ref h0), (1, .int x1)] []) (hkm_133 : ∀ (x1 : Int32) (s : ms), k_133 x1 s = some y → gl s ≤ gl y.2) (x1 : Int32) (s : ms), bk_M_binary_145 N r_M_exp r_M_binary r_M_operand r_M_primary r_M_braces k_133 x1 s = some y → gl s1 ≤ gl s → dcG p l e ({ frames := 5 + (d + 1), cells := 2 * (gl y.2 - gl s1), slots := 2 * (gl y.2 - gl s1), locals := 117 + (d + 1) * 24 }) s0 m [.ref h0].toArray below meth c QQ (dC, dI) A (fun a => (wM h0 a cI cB cJ cZ s)) (2 * (gl s - gl s1)) 145 3 [(0, .ref h0), (1, .int x1)] [] := by
    intro k_133 hk_133 hkm_133 x1 s hf hge a H locs ls hP hD hS hl
    have hle := mo_M_binary_145 N r_M_exp r_M_binary r_M_operand r_M_primary r_M_braces hmr_M_exp hmr_M_binary hmr_M_operand hmr_M_primary hmr_M_braces k_133 y hkm_133 x1 s hf
    unfold bk_M_binary_145 at hf
    refine lv_goto (tgt := 133) hx hb dn_M_binary_145 (by decide) ?_
    exact hk_133 x1 s hf hge a H locs ls hP hD hS hl
  have hd_133 : ∀ (n : Nat) (x1 : Int32) (s : ms), hd_M_binary_133 N r_M_exp r_M_binary r_M_operand r_M_primary r_M_braces n x1 s = some y → gl s1 ≤ gl s → dcG p l e ({ frames := 5 + (d + 1), cells := 2 * (gl y.2 - gl s1), slots := 2 * (gl y.2 - gl s1), locals := 117 + (d + 1) * 24 }) s0 m [.ref h0].toArray below meth c QQ (dC, dI) A (fun a => (wM h0 a cI cB cJ cZ s)) (2 * (gl s - gl s1)) 133 3 [(0, .ref h0), (1, .int x1)] [] := by
    intro n
    induction n with
    | zero => intro x1 s hf; cases hf
    | succ n ih =>
      intro x1 s hf hge a H locs ls hP hD hS hl
      have hle := mh_M_binary_133 N r_M_exp r_M_binary r_M_operand r_M_primary r_M_braces hmr_M_exp hmr_M_binary hmr_M_operand hmr_M_primary hmr_M_braces y (n + 1) x1 s hf
      have hkm_133 := mh_M_binary_133 N r_M_exp r_M_binary r_M_operand r_M_primary r_M_braces hmr_M_exp hmr_M_binary hmr_M_operand hmr_M_primary hmr_M_braces y n
      have hf : bd_M_binary_133 N r_M_exp r_M_binary r_M_operand r_M_primary r_M_braces (hd_M_binary_133 N r_M_exp r_M_binary r_M_operand r_M_primary r_M_braces n) x1 s = some y := hf
      have hk_133 := ih
      generalize hd_M_binary_133 N r_M_exp r_M_binary r_M_operand r_M_primary r_M_braces n = k_133 at hf hk_133 hkm_133
      unfold bd_M_binary_133 at hf
      refine lv_aload_n hx hb dn_M_binary_133 rfl (lv_at hl 0 rfl) ?_
      refine va_get (D := (dC, dI)) (ci := 0) (v := .int ((s.1 51 0))) (C := rn_M) (T := fn_M) (N := 91) hx hb hg in_M hown hK hP 0 rfl rfl 51 (by decide) (hg _ wn_8_124) (fun _ h9 => h9) rfl dn_M_binary_134 ?_
      refine lv_iload_n hx hb dn_M_binary_137 rfl (lv_at hl 1 rfl) ?_
      refine lv_icmp_le (tgt := 148) hx hb dn_M_binary_138 (by decide) (fun h => ?_) (fun h => ?_)
      · have hf := (if_pos h).symm.trans hf
        refine lv_aload_n hx hb dn_M_binary_148 rfl (lv_at hl 0 rfl) ?_
        refine lv_dup hx hb dn_M_binary_149 rfl ?_
        refine va_get (D := (dC, dI)) (ci := 0) (v := .int ((s.1 53 0))) (C := rn_M) (T := fn_M) (N := 91) hx hb hg in_M hown hK hP 0 rfl rfl 53 (by decide) (hg _ wn_8_126) (fun _ h9 => h9) rfl dn_M_binary_150 ?_
        refine lv_iconst (v := 1) hx hb dn_M_binary_153 (by decide) ?_
        refine lv_isub hx hb dn_M_binary_154 ?_
        refine va_put (D := (dC, dI)) (ci := 0) (v := .int (((s.1 53 0) - 1))) (ty := .int) (C := rn_M) (T := fn_M) (N := 91) hx hb hg in_M tn_M tk_M nn_M hown hK hP hD hS 0 rfl rfl 53 (by decide) (hg _ wn_8_126) (fun _ h9 => h9) rfl (tk_M 53 (by decide)) rfl rfl (Nat.le_of_ble_eq_true rfl) dn_M_binary_155 (fun H locs hP hD hS => ?_)
        have hP := wM_P_53 hP
        have hD := wM_D_53 hD
        refine lv_aload_n hx hb dn_M_binary_158 rfl (lv_at hl 0 rfl) ?_
        refine va_get (D := (dC, dI)) (ci := 0) (v := .ref ((a 52))) (C := rn_M) (T := fn_M) (N := 91) hx hb hg in_M hown hK hP 0 rfl rfl 52 (by decide) (hg _ wn_8_125) (fun _ h9 => h9) rfl dn_M_binary_159 ?_
        refine lv_aload_n hx hb dn_M_binary_162 rfl (lv_at hl 0 rfl) ?_
        refine va_get (D := (dC, dI)) (ci := 0) (v := .int (((s.1 53 0) - 1))) (C := rn_M) (T := fn_M) (N := 91) hx hb hg in_M hown hK hP 0 rfl rfl 53 (by decide) (hg _ wn_8_126) (fun _ h9 => h9) rfl dn_M_binary_163 ?_
        obtain ⟨hg_1, hf⟩ := dc_g hf
        refine va_iald hx hb hK hP 36 0 rfl rfl hg_1 dn_M_binary_166 ?_
        refine xk_ti (y := ((s.1 52) (Int32.toNatClampNeg (((s.1 53 0) - 1))))) rfl ?_
        rw [hQQ, ← Option.some.inj hf]
        exact xk_iret (w1 := fun u : Nat → Nat => (wM h0 u cI cB cJ cZ (upI s 53 (fun _ => ((s.1 53 0) - 1))))) a hx hb hr hlocks hK hS dn_M_binary_167 hP hD rfl (Nat.le_refl _) (Nat.le_refl _)
      · have hf := (if_neg h).symm.trans hf
        refine lv_aload_n hx hb dn_M_binary_141 rfl (lv_at hl 0 rfl) ?_
        obtain ⟨q_1, hc_2, hf⟩ := dc_b hf
        have hmg := mn_M_reckon N s q_1 hc_2
        have hle2 : gl q_1.2 ≤ gl y.2 := mo_M_binary_145 N r_M_exp r_M_binary r_M_operand r_M_primary r_M_braces hmr_M_exp hmr_M_binary hmr_M_operand hmr_M_primary hmr_M_braces k_133 y hkm_133 _ _ hf
        refine dc_callv (dc_runV (ar := 0) (As := []) (rest := []) (ci := 0) (q0 := 0) ⟨hx, hb, hml, hown, hg⟩ hK hN hT hS hA (ct_M_reckon l dC dI cI cB cJ cZ cQ N H.size h0 a s q_1 hc_2) hP hD rfl rfl wn_10_117 wn_10_119 sn_M_reckon wn_1_13 wn_10_120 rfl rfl (by decide +kernel) ⟨dc_ra (Nat.le_of_ble_eq_true rfl), dc_ra (Nat.le_of_ble_eq_true rfl)⟩ rfl hl.1 rfl (Nat.le_of_ble_eq_true rfl) dn_M_binary_142 (dc_rm hge hmg hle2)) hP hD hS hA (fun a H locs hw hP hD hS => ?_)
        refine W.widen (k := 2 * (gl q_1.2 - gl s1)) (n := 2 * (gl q_1.2 - gl s1)) (dc_wa hge hmg) (dc_wa hge hmg) ?_
        have hge := Nat.le_trans hge hmg
        have hle := hle2
        exact bl_145 k_133 hk_133 hkm_133 x1 q_1.2 hf hge a H locs ls hP hD hS hl
  have bl_127 : ∀ (k_13 : Int32 → ms → Option (Int32 × ms)) (hk_13 : ∀ (x1 : Int32) (s : ms), k_13 x1 s = some y → gl s1 ≤ gl s → dcG p l e ({ frames := 5 + (d + 1), cells := 2 * (gl y.2 - gl s1), slots := 2 * (gl y.2 - gl s1), locals := 117 + (d + 1) * 24 }) s0 m [.ref h0].toArray below meth c QQ (dC, dI) A (fun a => (wM h0 a cI cB cJ cZ s)) (2 * (gl s - gl s1)) 13 3 [(0, .ref h0), (1, .int x1)] []) (hkm_13 : ∀ (x1 : Int32) (s : ms), k_13 x1 s = some y → gl s ≤ gl y.2) (x1 : Int32) (t0 : Int32) (s : ms), bk_M_binary_127 N r_M_exp r_M_binary r_M_operand r_M_primary r_M_braces k_13 x1 t0 s = some y → gl s1 ≤ gl s → dcG p l e ({ frames := 5 + (d + 1), cells := 2 * (gl y.2 - gl s1), slots := 2 * (gl y.2 - gl s1), locals := 117 + (d + 1) * 24 }) s0 m [.ref h0].toArray below meth c QQ (dC, dI) A (fun a => (wM h0 a cI cB cJ cZ s)) (2 * (gl s - gl s1)) 127 3 [(0, .ref h0), (1, .int x1)] [.int t0, .ref h0] := by
    intro k_13 hk_13 hkm_13 x1 t0 s hf hge a H locs ls hP hD hS hl
    have hle := mo_M_binary_127 N r_M_exp r_M_binary r_M_operand r_M_primary r_M_braces hmr_M_exp hmr_M_binary hmr_M_operand hmr_M_primary hmr_M_braces k_13 y hkm_13 x1 t0 s hf
    unfold bk_M_binary_127 at hf
    obtain ⟨q_1, hc_2, hf⟩ := dc_b hf
    have hme := mn_M_pushWidth N t0 s q_1 hc_2
    refine dc_callv (dc_runV (ar := 1) (As := [.int t0]) (rest := []) (ci := 0) (q0 := 0) ⟨hx, hb, hml, hown, hg⟩ hK hN hT hS hA (ct_M_pushWidth l dC dI cI cB cJ cZ cQ N H.size h0 a t0 s q_1 hc_2) hP hD rfl rfl wn_10_113 wn_10_115 sn_M_pushWidth wn_1_13 wn_10_116 rfl rfl (by decide +kernel) ⟨dc_ra (Nat.le_of_ble_eq_true rfl), dc_ra (Nat.le_of_ble_eq_true rfl)⟩ rfl hl.1 rfl (Nat.le_of_ble_eq_true rfl) dn_M_binary_127 (dc_rm0 hle)) hP hD hS hA (fun _ H locs hw hP hD hS => ?_)
    refine W.widen (k := 2 * (gl q_1.2 - gl s1)) (n := 2 * (gl q_1.2 - gl s1)) (dc_we hme) (dc_we hme) ?_
    have hge := Nat.le_trans hge (Nat.le_of_eq hme.symm)
    have hle := Nat.le_trans (Nat.le_of_eq hme) hle
    refine lv_goto (tgt := 13) hx hb dn_M_binary_130 (by decide) ?_
    exact hk_13 x1 q_1.2 hf hge a H locs ls hP hD hS hl
  have bl_71 : ∀ (k_13 : Int32 → ms → Option (Int32 × ms)) (hk_13 : ∀ (x1 : Int32) (s : ms), k_13 x1 s = some y → gl s1 ≤ gl s → dcG p l e ({ frames := 5 + (d + 1), cells := 2 * (gl y.2 - gl s1), slots := 2 * (gl y.2 - gl s1), locals := 117 + (d + 1) * 24 }) s0 m [.ref h0].toArray below meth c QQ (dC, dI) A (fun a => (wM h0 a cI cB cJ cZ s)) (2 * (gl s - gl s1)) 13 3 [(0, .ref h0), (1, .int x1)] []) (hkm_13 : ∀ (x1 : Int32) (s : ms), k_13 x1 s = some y → gl s ≤ gl y.2) (x1 : Int32) (s : ms), bk_M_binary_71 N r_M_exp r_M_binary r_M_operand r_M_primary r_M_braces k_13 x1 s = some y → gl s1 ≤ gl s → dcG p l e ({ frames := 5 + (d + 1), cells := 2 * (gl y.2 - gl s1), slots := 2 * (gl y.2 - gl s1), locals := 117 + (d + 1) * 24 }) s0 m [.ref h0].toArray below meth c QQ (dC, dI) A (fun a => (wM h0 a cI cB cJ cZ s)) (2 * (gl s - gl s1)) 71 3 [(0, .ref h0), (1, .int x1)] [] := by
    intro k_13 hk_13 hkm_13 x1 s hf hge a H locs ls hP hD hS hl
    have hle := mo_M_binary_71 N r_M_exp r_M_binary r_M_operand r_M_primary r_M_braces hmr_M_exp hmr_M_binary hmr_M_operand hmr_M_primary hmr_M_braces k_13 y hkm_13 x1 s hf
    unfold bk_M_binary_71 at hf
    refine lv_aload_n hx hb dn_M_binary_71 rfl (lv_at hl 0 rfl) ?_
    refine va_get (D := (dC, dI)) (ci := 0) (v := .ref ((a 49))) (C := rn_M) (T := fn_M) (N := 91) hx hb hg in_M hown hK hP 0 rfl rfl 49 (by decide) (hg _ wn_8_122) (fun _ h9 => h9) rfl dn_M_binary_72 ?_
    refine lv_aload_n hx hb dn_M_binary_75 rfl (lv_at hl 0 rfl) ?_
    refine va_get (D := (dC, dI)) (ci := 0) (v := .int ((s.1 51 0))) (C := rn_M) (T := fn_M) (N := 91) hx hb hg in_M hown hK hP 0 rfl rfl 51 (by decide) (hg _ wn_8_124) (fun _ h9 => h9) rfl dn_M_binary_76 ?_
    refine lv_aload_n hx hb dn_M_binary_79 rfl (lv_at hl 0 rfl) ?_
    obtain ⟨q_1, hc_2, hf⟩ := dc_b hf
    have hme := mn_M_kind N s q_1 hc_2
    refine dc_calli (dc_runV (ar := 0) (As := []) (rest := [.int ((s.1 51 0)), .ref ((a 49))]) (ci := 0) (q0 := 0) ⟨hx, hb, hml, hown, hg⟩ hK hN hT hS hA (ct_M_kind l dC dI cI cB cJ cZ cQ N H.size h0 a s q_1 hc_2) hP hD rfl rfl wn_9_214 wn_9_216 sn_M_kind wn_1_13 wn_9_217 rfl rfl (by decide +kernel) ⟨dc_ra (Nat.le_of_ble_eq_true rfl), dc_ra (Nat.le_of_ble_eq_true rfl)⟩ rfl hl.1 rfl (Nat.le_of_ble_eq_true rfl) dn_M_binary_80 (dc_rm0 hle)) hP hD hS hA (fun r_3 _ H locs hw hP hD hS => ?_)
    refine W.widen (k := 2 * (gl q_1.2 - gl s1)) (n := 2 * (gl q_1.2 - gl s1)) (dc_we hme) (dc_we hme) ?_
    have hge := Nat.le_trans hge (Nat.le_of_eq hme.symm)
    have hle := Nat.le_trans (Nat.le_of_eq hme) hle
    have hw : r_3 = q_1.1 := hw
    subst hw
    obtain ⟨hg_4, hf⟩ := dc_g hf
    refine va_iast hx hb hK hP hD hS 34 0 rfl rfl hg_4 dn_M_binary_83 (fun H locs hP hD hS => ?_)
    have hP : va_P (dC, dI) xcl ((wM h0 a cI cB cJ cZ q_1.2).set 34 ((a 49), .inl (cI, 4096, .inl (upd (q_1.2.1 49) (Int32.toNatClampNeg ((s.1 51 0))) q_1.1)))) H := hP
    have hD : va_D A ((wM h0 a cI cB cJ cZ q_1.2).set 34 ((a 49), .inl (cI, 4096, .inl (upd (q_1.2.1 49) (Int32.toNatClampNeg ((s.1 51 0))) q_1.1)))) := hD
    have hP := wM_P_49 hP
    have hD := wM_D_49 hD
    refine lv_aload_n hx hb dn_M_binary_84 rfl (lv_at hl 0 rfl) ?_
    refine va_get (D := (dC, dI)) (ci := 0) (v := .ref ((a 50))) (C := rn_M) (T := fn_M) (N := 91) hx hb hg in_M hown hK hP 0 rfl rfl 50 (by decide) (hg _ wn_8_123) (fun _ h9 => h9) rfl dn_M_binary_85 ?_
    refine lv_aload_n hx hb dn_M_binary_88 rfl (lv_at hl 0 rfl) ?_
    refine va_get (D := (dC, dI)) (ci := 0) (v := .int ((q_1.2.1 51 0))) (C := rn_M) (T := fn_M) (N := 91) hx hb hg in_M hown hK hP 0 rfl rfl 51 (by decide) (hg _ wn_8_124) (fun _ h9 => h9) rfl dn_M_binary_89 ?_
    refine lv_aload_n hx hb dn_M_binary_92 rfl (lv_at hl 0 rfl) ?_
    refine va_get (D := (dC, dI)) (ci := 0) (v := .ref ((a 5))) (C := rn_M) (T := fn_M) (N := 91) hx hb hg in_M hown hK hP 0 rfl rfl 5 (by decide) (hg _ wn_8_78) (fun _ h9 => h9) rfl dn_M_binary_93 ?_
    refine lv_aload_n hx hb dn_M_binary_96 rfl (lv_at hl 0 rfl) ?_
    refine va_get (D := (dC, dI)) (ci := 0) (v := .int ((q_1.2.1 8 0))) (C := rn_M) (T := fn_M) (N := 91) hx hb hg in_M hown hK hP 0 rfl rfl 8 (by decide) (hg _ wn_8_81) (fun _ h9 => h9) rfl dn_M_binary_97 ?_
    obtain ⟨hg_5, hf⟩ := dc_g hf
    refine va_iald hx hb hK hP 3 0 rfl rfl hg_5 dn_M_binary_100 ?_
    refine xk_ti (y := ((q_1.2.1 5) (Int32.toNatClampNeg ((q_1.2.1 8 0))))) rfl ?_
    obtain ⟨hg_6, hf⟩ := dc_g hf
    refine va_iast hx hb hK hP hD hS 35 0 rfl rfl hg_6 dn_M_binary_101 (fun H locs hP hD hS => ?_)
    have hP : va_P (dC, dI) xcl ((wM h0 a cI cB cJ cZ (upI q_1.2 49 (upd (q_1.2.1 49) (Int32.toNatClampNeg ((s.1 51 0))) q_1.1))).set 35 ((a 50), .inl (cI, 4096, .inl (upd (q_1.2.1 50) (Int32.toNatClampNeg ((q_1.2.1 51 0))) (((q_1.2.1 5) (Int32.toNatClampNeg ((q_1.2.1 8 0))))))))) H := hP
    have hD : va_D A ((wM h0 a cI cB cJ cZ (upI q_1.2 49 (upd (q_1.2.1 49) (Int32.toNatClampNeg ((s.1 51 0))) q_1.1))).set 35 ((a 50), .inl (cI, 4096, .inl (upd (q_1.2.1 50) (Int32.toNatClampNeg ((q_1.2.1 51 0))) (((q_1.2.1 5) (Int32.toNatClampNeg ((q_1.2.1 8 0))))))))) := hD
    have hP := wM_P_50 hP
    have hD := wM_D_50 hD
    refine lv_aload_n hx hb dn_M_binary_102 rfl (lv_at hl 0 rfl) ?_
    refine lv_dup hx hb dn_M_binary_103 rfl ?_
    refine va_get (D := (dC, dI)) (ci := 0) (v := .int ((q_1.2.1 51 0))) (C := rn_M) (T := fn_M) (N := 91) hx hb hg in_M hown hK hP 0 rfl rfl 51 (by decide) (hg _ wn_8_124) (fun _ h9 => h9) rfl dn_M_binary_104 ?_
    refine lv_iconst (v := 1) hx hb dn_M_binary_107 (by decide) ?_
    refine lv_iadd hx hb dn_M_binary_108 ?_
    refine va_put (D := (dC, dI)) (ci := 0) (v := .int (((q_1.2.1 51 0) + 1))) (ty := .int) (C := rn_M) (T := fn_M) (N := 91) hx hb hg in_M tn_M tk_M nn_M hown hK hP hD hS 0 rfl rfl 51 (by decide) (hg _ wn_8_124) (fun _ h9 => h9) rfl (tk_M 51 (by decide)) rfl rfl (Nat.le_of_ble_eq_true rfl) dn_M_binary_109 (fun H locs hP hD hS => ?_)
    have hP := wM_P_51 hP
    have hD := wM_D_51 hD
    refine lv_aload_n hx hb dn_M_binary_112 rfl (lv_at hl 0 rfl) ?_
    refine lv_dup hx hb dn_M_binary_113 rfl ?_
    refine va_get (D := (dC, dI)) (ci := 0) (v := .int ((q_1.2.1 8 0))) (C := rn_M) (T := fn_M) (N := 91) hx hb hg in_M hown hK hP 0 rfl rfl 8 (by decide) (hg _ wn_8_81) (fun _ h9 => h9) rfl dn_M_binary_114 ?_
    refine lv_iconst (v := 1) hx hb dn_M_binary_117 (by decide) ?_
    refine lv_iadd hx hb dn_M_binary_118 ?_
    refine va_put (D := (dC, dI)) (ci := 0) (v := .int (((q_1.2.1 8 0) + 1))) (ty := .int) (C := rn_M) (T := fn_M) (N := 91) hx hb hg in_M tn_M tk_M nn_M hown hK hP hD hS 0 rfl rfl 8 (by decide) (hg _ wn_8_81) (fun _ h9 => h9) rfl (tk_M 8 (by decide)) rfl rfl (Nat.le_of_ble_eq_true rfl) dn_M_binary_119 (fun H locs hP hD hS => ?_)
    have hP := wM_P_8 hP
    have hD := wM_D_8 hD
    refine lv_aload_n hx hb dn_M_binary_122 rfl (lv_at hl 0 rfl) ?_
    refine lv_aload_n hx hb dn_M_binary_123 rfl (lv_at hl 0 rfl) ?_
    obtain ⟨q_7, hc_8, hf⟩ := dc_b hf
    have hmg := hmr_M_operand (upI (upI (upI (upI q_1.2 49 (upd (q_1.2.1 49) (Int32.toNatClampNeg ((s.1 51 0))) q_1.1)) 50 (upd (q_1.2.1 50) (Int32.toNatClampNeg ((q_1.2.1 51 0))) (((q_1.2.1 5) (Int32.toNatClampNeg ((q_1.2.1 8 0))))))) 51 (fun _ => ((q_1.2.1 51 0) + 1))) 8 (fun _ => ((q_1.2.1 8 0) + 1))) q_7 hc_8
    have hle2 : gl q_7.2 ≤ gl y.2 := mo_M_binary_127 N r_M_exp r_M_binary r_M_operand r_M_primary r_M_braces hmr_M_exp hmr_M_binary hmr_M_operand hmr_M_primary hmr_M_braces k_13 y hkm_13 _ _ _ hf
    refine dc_calli (dc_runV (ar := 0) (As := []) (rest := [.ref h0]) (ci := 0) (q0 := 0) ⟨hx, hb, hml, hown, hg⟩ hK hN hT hS hA (hr_M_operand H.size h0 a (upI (upI (upI (upI q_1.2 49 (upd (q_1.2.1 49) (Int32.toNatClampNeg ((s.1 51 0))) q_1.1)) 50 (upd (q_1.2.1 50) (Int32.toNatClampNeg ((q_1.2.1 51 0))) (((q_1.2.1 5) (Int32.toNatClampNeg ((q_1.2.1 8 0))))))) 51 (fun _ => ((q_1.2.1 51 0) + 1))) 8 (fun _ => ((q_1.2.1 8 0) + 1))) q_7 hc_8) hP hD rfl rfl wn_10_85 wn_10_87 sn_M_operand wn_1_13 wn_10_88 rfl rfl (by decide +kernel) ⟨Nat.le_refl _, dc_lm (Nat.le_of_ble_eq_true rfl)⟩ rfl hl.1 rfl (Nat.le_of_ble_eq_true rfl) dn_M_binary_124 (dc_rm hge hmg hle2)) hP hD hS hA (fun r_9 a H locs hw hP hD hS => ?_)
    refine W.widen (k := 2 * (gl q_7.2 - gl s1)) (n := 2 * (gl q_7.2 - gl s1)) (dc_wa hge hmg) (dc_wa hge hmg) ?_
    have hge := Nat.le_trans hge hmg
    have hle := hle2
    have hw : r_9 = q_7.1 := hw
    subst hw
    exact bl_127 k_13 hk_13 hkm_13 x1 q_7.1 q_7.2 hf hge a H locs ls hP hD hS hl
  have bl_68 : ∀ (k_13 : Int32 → ms → Option (Int32 × ms)) (hk_13 : ∀ (x1 : Int32) (s : ms), k_13 x1 s = some y → gl s1 ≤ gl s → dcG p l e ({ frames := 5 + (d + 1), cells := 2 * (gl y.2 - gl s1), slots := 2 * (gl y.2 - gl s1), locals := 117 + (d + 1) * 24 }) s0 m [.ref h0].toArray below meth c QQ (dC, dI) A (fun a => (wM h0 a cI cB cJ cZ s)) (2 * (gl s - gl s1)) 13 3 [(0, .ref h0), (1, .int x1)] []) (hkm_13 : ∀ (x1 : Int32) (s : ms), k_13 x1 s = some y → gl s ≤ gl y.2) (k_38 : Int32 → Int32 → ms → Option (Int32 × ms)) (hk_38 : ∀ (x1 : Int32) (x2 : Int32) (s : ms), k_38 x1 x2 s = some y → gl s1 ≤ gl s → dcG p l e ({ frames := 5 + (d + 1), cells := 2 * (gl y.2 - gl s1), slots := 2 * (gl y.2 - gl s1), locals := 117 + (d + 1) * 24 }) s0 m [.ref h0].toArray below meth c QQ (dC, dI) A (fun a => (wM h0 a cI cB cJ cZ s)) (2 * (gl s - gl s1)) 38 3 [(0, .ref h0), (1, .int x1), (2, .int x2)] []) (hkm_38 : ∀ (x1 : Int32) (x2 : Int32) (s : ms), k_38 x1 x2 s = some y → gl s ≤ gl y.2) (x1 : Int32) (x2 : Int32) (s : ms), bk_M_binary_68 N r_M_exp r_M_binary r_M_operand r_M_primary r_M_braces k_13 k_38 x1 x2 s = some y → gl s1 ≤ gl s → dcG p l e ({ frames := 5 + (d + 1), cells := 2 * (gl y.2 - gl s1), slots := 2 * (gl y.2 - gl s1), locals := 117 + (d + 1) * 24 }) s0 m [.ref h0].toArray below meth c QQ (dC, dI) A (fun a => (wM h0 a cI cB cJ cZ s)) (2 * (gl s - gl s1)) 68 3 [(0, .ref h0), (1, .int x1), (2, .int x2)] [] := by
    intro k_13 hk_13 hkm_13 k_38 hk_38 hkm_38 x1 x2 s hf hge a H locs ls hP hD hS hl
    have hle := mo_M_binary_68 N r_M_exp r_M_binary r_M_operand r_M_primary r_M_braces hmr_M_exp hmr_M_binary hmr_M_operand hmr_M_primary hmr_M_braces k_13 k_38 y hkm_13 hkm_38 x1 x2 s hf
    unfold bk_M_binary_68 at hf
    refine lv_goto (tgt := 38) hx hb dn_M_binary_68 (by decide) ?_
    exact hk_38 x1 x2 s hf hge a H locs ls hP hD hS hl
  have hd_38 : ∀ (k_13 : Int32 → ms → Option (Int32 × ms)) (hk_13 : ∀ (x1 : Int32) (s : ms), k_13 x1 s = some y → gl s1 ≤ gl s → dcG p l e ({ frames := 5 + (d + 1), cells := 2 * (gl y.2 - gl s1), slots := 2 * (gl y.2 - gl s1), locals := 117 + (d + 1) * 24 }) s0 m [.ref h0].toArray below meth c QQ (dC, dI) A (fun a => (wM h0 a cI cB cJ cZ s)) (2 * (gl s - gl s1)) 13 3 [(0, .ref h0), (1, .int x1)] []) (hkm_13 : ∀ (x1 : Int32) (s : ms), k_13 x1 s = some y → gl s ≤ gl y.2) (n : Nat) (x1 : Int32) (x2 : Int32) (s : ms), hd_M_binary_38 N r_M_exp r_M_binary r_M_operand r_M_primary r_M_braces k_13 n x1 x2 s = some y → gl s1 ≤ gl s → dcG p l e ({ frames := 5 + (d + 1), cells := 2 * (gl y.2 - gl s1), slots := 2 * (gl y.2 - gl s1), locals := 117 + (d + 1) * 24 }) s0 m [.ref h0].toArray below meth c QQ (dC, dI) A (fun a => (wM h0 a cI cB cJ cZ s)) (2 * (gl s - gl s1)) 38 3 [(0, .ref h0), (1, .int x1), (2, .int x2)] [] := by
    intro k_13 hk_13 hkm_13 n
    induction n with
    | zero => intro x1 x2 s hf; cases hf
    | succ n ih =>
      intro x1 x2 s hf hge a H locs ls hP hD hS hl
      have hle := mh_M_binary_38 N r_M_exp r_M_binary r_M_operand r_M_primary r_M_braces hmr_M_exp hmr_M_binary hmr_M_operand hmr_M_primary hmr_M_braces k_13 y hkm_13 (n + 1) x1 x2 s hf
      have hkm_38 := mh_M_binary_38 N r_M_exp r_M_binary r_M_operand r_M_primary r_M_braces hmr_M_exp hmr_M_binary hmr_M_operand hmr_M_primary hmr_M_braces k_13 y hkm_13 n
      have hf : bd_M_binary_38 N r_M_exp r_M_binary r_M_operand r_M_primary r_M_braces k_13 (hd_M_binary_38 N r_M_exp r_M_binary r_M_operand r_M_primary r_M_braces k_13 n) x1 x2 s = some y := hf
      have hk_38 := ih
      generalize hd_M_binary_38 N r_M_exp r_M_binary r_M_operand r_M_primary r_M_braces k_13 n = k_38 at hf hk_38 hkm_38
      unfold bd_M_binary_38 at hf
      refine lv_aload_n hx hb dn_M_binary_38 rfl (lv_at hl 0 rfl) ?_
      refine va_get (D := (dC, dI)) (ci := 0) (v := .int ((s.1 51 0))) (C := rn_M) (T := fn_M) (N := 91) hx hb hg in_M hown hK hP 0 rfl rfl 51 (by decide) (hg _ wn_8_124) (fun _ h9 => h9) rfl dn_M_binary_39 ?_
      refine lv_iload_n hx hb dn_M_binary_42 rfl (lv_at hl 1 rfl) ?_
      refine lv_icmp_le (tgt := 71) hx hb dn_M_binary_43 (by decide) (fun h => ?_) (fun h => ?_)
      · have hf := (if_pos h).symm.trans hf
        exact bl_71 k_13 hk_13 hkm_13 x1 s hf hge a H locs ls hP hD hS (lv_sub hl [0, 1] rfl)
      · have hf := (if_neg h).symm.trans hf
        refine lv_aload_n hx hb dn_M_binary_46 rfl (lv_at hl 0 rfl) ?_
        refine va_get (D := (dC, dI)) (ci := 0) (v := .ref ((a 49))) (C := rn_M) (T := fn_M) (N := 91) hx hb hg in_M hown hK hP 0 rfl rfl 49 (by decide) (hg _ wn_8_122) (fun _ h9 => h9) rfl dn_M_binary_47 ?_
        refine lv_aload_n hx hb dn_M_binary_50 rfl (lv_at hl 0 rfl) ?_
        refine va_get (D := (dC, dI)) (ci := 0) (v := .int ((s.1 51 0))) (C := rn_M) (T := fn_M) (N := 91) hx hb hg in_M hown hK hP 0 rfl rfl 51 (by decide) (hg _ wn_8_124) (fun _ h9 => h9) rfl dn_M_binary_51 ?_
        refine lv_iconst (v := 1) hx hb dn_M_binary_54 (by decide) ?_
        refine lv_isub hx hb dn_M_binary_55 ?_
        obtain ⟨hg_1, hf⟩ := dc_g hf
        refine va_iald hx hb hK hP 34 0 rfl rfl hg_1 dn_M_binary_56 ?_
        refine xk_ti (y := ((s.1 49) (Int32.toNatClampNeg (((s.1 51 0) - 1))))) rfl ?_
        obtain ⟨q_2, hc_3, hf⟩ := dc_b hf
        have hme := mn_M_rank N (((s.1 49) (Int32.toNatClampNeg (((s.1 51 0) - 1))))) s q_2 hc_3
        refine dc_calli (dc_runS (ar := 1) (As := [.int (((s.1 49) (Int32.toNatClampNeg (((s.1 51 0) - 1)))))]) (rest := []) ⟨hx, hb, hml, hown, hg⟩ hK hN hT hS hA (ct_M_rank l dC dI cI cB cJ cZ cQ N H.size h0 a (((s.1 49) (Int32.toNatClampNeg (((s.1 51 0) - 1))))) s q_2 hc_3) hP hD wn_10_1 wn_10_2 wn_1_13 wn_10_3 rfl rfl (by decide +kernel) ⟨dc_ra (Nat.le_of_ble_eq_true rfl), dc_ra (Nat.le_of_ble_eq_true rfl)⟩ rfl hl.1 rfl (Nat.le_of_ble_eq_true rfl) dn_M_binary_57 (dc_rm0 hle)) hP hD hS hA (fun r_4 _ H locs hw hP hD hS => ?_)
        refine W.widen (k := 2 * (gl q_2.2 - gl s1)) (n := 2 * (gl q_2.2 - gl s1)) (dc_we hme) (dc_we hme) ?_
        have hge := Nat.le_trans hge (Nat.le_of_eq hme.symm)
        have hle := Nat.le_trans (Nat.le_of_eq hme) hle
        have hw : r_4 = q_2.1 := hw
        subst hw
        refine lv_iload_n hx hb dn_M_binary_60 rfl (lv_at hl 2 rfl) ?_
        refine lv_icmp_lt (tgt := 71) hx hb dn_M_binary_61 (by decide) (fun h => ?_) (fun h => ?_)
        · have hf := (if_pos h).symm.trans hf
          exact bl_71 k_13 hk_13 hkm_13 x1 q_2.2 hf hge a H locs ls hP hD hS (lv_sub hl [0, 1] rfl)
        · have hf := (if_neg h).symm.trans hf
          refine lv_aload_n hx hb dn_M_binary_64 rfl (lv_at hl 0 rfl) ?_
          obtain ⟨q_5, hc_6, hf⟩ := dc_b hf
          have hmg := mn_M_reckon N q_2.2 q_5 hc_6
          have hle2 : gl q_5.2 ≤ gl y.2 := mo_M_binary_68 N r_M_exp r_M_binary r_M_operand r_M_primary r_M_braces hmr_M_exp hmr_M_binary hmr_M_operand hmr_M_primary hmr_M_braces k_13 k_38 y hkm_13 hkm_38 _ _ _ hf
          refine dc_callv (dc_runV (ar := 0) (As := []) (rest := []) (ci := 0) (q0 := 0) ⟨hx, hb, hml, hown, hg⟩ hK hN hT hS hA (ct_M_reckon l dC dI cI cB cJ cZ cQ N H.size h0 a q_2.2 q_5 hc_6) hP hD rfl rfl wn_10_117 wn_10_119 sn_M_reckon wn_1_13 wn_10_120 rfl rfl (by decide +kernel) ⟨dc_ra (Nat.le_of_ble_eq_true rfl), dc_ra (Nat.le_of_ble_eq_true rfl)⟩ rfl hl.1 rfl (Nat.le_of_ble_eq_true rfl) dn_M_binary_65 (dc_rm hge hmg hle2)) hP hD hS hA (fun a H locs hw hP hD hS => ?_)
          refine W.widen (k := 2 * (gl q_5.2 - gl s1)) (n := 2 * (gl q_5.2 - gl s1)) (dc_wa hge hmg) (dc_wa hge hmg) ?_
          have hge := Nat.le_trans hge hmg
          have hle := hle2
          exact bl_68 k_13 hk_13 hkm_13 k_38 hk_38 hkm_38 x1 x2 q_5.2 hf hge a H locs ls hP hD hS hl
  have hd_13 : ∀ (n : Nat) (x1 : Int32) (s : ms), hd_M_binary_13 N r_M_exp r_M_binary r_M_operand r_M_primary r_M_braces n x1 s = some y → gl s1 ≤ gl s → dcG p l e ({ frames := 5 + (d + 1), cells := 2 * (gl y.2 - gl s1), slots := 2 * (gl y.2 - gl s1), locals := 117 + (d + 1) * 24 }) s0 m [.ref h0].toArray below meth c QQ (dC, dI) A (fun a => (wM h0 a cI cB cJ cZ s)) (2 * (gl s - gl s1)) 13 3 [(0, .ref h0), (1, .int x1)] [] := by
    intro n
    induction n with
    | zero => intro x1 s hf; cases hf
    | succ n ih =>
      intro x1 s hf hge a H locs ls hP hD hS hl
      have hle := mh_M_binary_13 N r_M_exp r_M_binary r_M_operand r_M_primary r_M_braces hmr_M_exp hmr_M_binary hmr_M_operand hmr_M_primary hmr_M_braces y (n + 1) x1 s hf
      have hkm_13 := mh_M_binary_13 N r_M_exp r_M_binary r_M_operand r_M_primary r_M_braces hmr_M_exp hmr_M_binary hmr_M_operand hmr_M_primary hmr_M_braces y n
      have hf : bd_M_binary_13 N r_M_exp r_M_binary r_M_operand r_M_primary r_M_braces (hd_M_binary_13 N r_M_exp r_M_binary r_M_operand r_M_primary r_M_braces n) x1 s = some y := hf
      have hk_13 := ih
      generalize hd_M_binary_13 N r_M_exp r_M_binary r_M_operand r_M_primary r_M_braces n = k_13 at hf hk_13 hkm_13
      unfold bd_M_binary_13 at hf
      refine lv_aload_n hx hb dn_M_binary_13 rfl (lv_at hl 0 rfl) ?_
      refine va_get (D := (dC, dI)) (ci := 0) (v := .int ((s.1 9 0))) (C := rn_M) (T := fn_M) (N := 91) hx hb hg in_M hown hK hP 0 rfl rfl 9 (by decide) (hg _ wn_8_82) (fun _ h9 => h9) rfl dn_M_binary_14 ?_
      refine lv_if_ne (tgt := 133) hx hb dn_M_binary_17 (by decide) (fun h => ?_) (fun h => ?_)
      · have hf := (if_neg h).symm.trans hf
        exact hd_133 N x1 s hf hge a H locs ls hP hD hS hl
      · have hf := (if_pos h).symm.trans hf
        refine lv_aload_n hx hb dn_M_binary_20 rfl (lv_at hl 0 rfl) ?_
        obtain ⟨q_1, hc_2, hf⟩ := dc_b hf
        have hme := mn_M_kind N s q_1 hc_2
        refine dc_calli (dc_runV (ar := 0) (As := []) (rest := []) (ci := 0) (q0 := 0) ⟨hx, hb, hml, hown, hg⟩ hK hN hT hS hA (ct_M_kind l dC dI cI cB cJ cZ cQ N H.size h0 a s q_1 hc_2) hP hD rfl rfl wn_9_214 wn_9_216 sn_M_kind wn_1_13 wn_9_217 rfl rfl (by decide +kernel) ⟨dc_ra (Nat.le_of_ble_eq_true rfl), dc_ra (Nat.le_of_ble_eq_true rfl)⟩ rfl hl.1 rfl (Nat.le_of_ble_eq_true rfl) dn_M_binary_21 (dc_rm0 hle)) hP hD hS hA (fun r_3 _ H locs hw hP hD hS => ?_)
        refine W.widen (k := 2 * (gl q_1.2 - gl s1)) (n := 2 * (gl q_1.2 - gl s1)) (dc_we hme) (dc_we hme) ?_
        have hge := Nat.le_trans hge (Nat.le_of_eq hme.symm)
        have hle := Nat.le_trans (Nat.le_of_eq hme) hle
        have hw : r_3 = q_1.1 := hw
        subst hw
        obtain ⟨q_4, hc_5, hf⟩ := dc_b hf
        have hme := mn_M_rank N q_1.1 q_1.2 q_4 hc_5
        refine dc_calli (dc_runS (ar := 1) (As := [.int q_1.1]) (rest := []) ⟨hx, hb, hml, hown, hg⟩ hK hN hT hS hA (ct_M_rank l dC dI cI cB cJ cZ cQ N H.size h0 a q_1.1 q_1.2 q_4 hc_5) hP hD wn_10_1 wn_10_2 wn_1_13 wn_10_3 rfl rfl (by decide +kernel) ⟨dc_ra (Nat.le_of_ble_eq_true rfl), dc_ra (Nat.le_of_ble_eq_true rfl)⟩ rfl hl.1 rfl (Nat.le_of_ble_eq_true rfl) dn_M_binary_24 (dc_rm0 hle)) hP hD hS hA (fun r_6 _ H locs hw hP hD hS => ?_)
        refine W.widen (k := 2 * (gl q_4.2 - gl s1)) (n := 2 * (gl q_4.2 - gl s1)) (dc_we hme) (dc_we hme) ?_
        have hge := Nat.le_trans hge (Nat.le_of_eq hme.symm)
        have hle := Nat.le_trans (Nat.le_of_eq hme) hle
        have hw : r_6 = q_4.1 := hw
        subst hw
        refine lv_if_le (tgt := 133) hx hb dn_M_binary_27 (by decide) (fun h => ?_) (fun h => ?_)
        · have hf := (if_pos h).symm.trans hf
          exact hd_133 N x1 q_4.2 hf hge a H locs ls hP hD hS hl
        · have hf := (if_neg h).symm.trans hf
          refine lv_aload_n hx hb dn_M_binary_30 rfl (lv_at hl 0 rfl) ?_
          obtain ⟨q_7, hc_8, hf⟩ := dc_b hf
          have hme := mn_M_kind N q_4.2 q_7 hc_8
          refine dc_calli (dc_runV (ar := 0) (As := []) (rest := []) (ci := 0) (q0 := 0) ⟨hx, hb, hml, hown, hg⟩ hK hN hT hS hA (ct_M_kind l dC dI cI cB cJ cZ cQ N H.size h0 a q_4.2 q_7 hc_8) hP hD rfl rfl wn_9_214 wn_9_216 sn_M_kind wn_1_13 wn_9_217 rfl rfl (by decide +kernel) ⟨dc_ra (Nat.le_of_ble_eq_true rfl), dc_ra (Nat.le_of_ble_eq_true rfl)⟩ rfl hl.1 rfl (Nat.le_of_ble_eq_true rfl) dn_M_binary_31 (dc_rm0 hle)) hP hD hS hA (fun r_9 _ H locs hw hP hD hS => ?_)
          refine W.widen (k := 2 * (gl q_7.2 - gl s1)) (n := 2 * (gl q_7.2 - gl s1)) (dc_we hme) (dc_we hme) ?_
          have hge := Nat.le_trans hge (Nat.le_of_eq hme.symm)
          have hle := Nat.le_trans (Nat.le_of_eq hme) hle
          have hw : r_9 = q_7.1 := hw
          subst hw
          obtain ⟨q_10, hc_11, hf⟩ := dc_b hf
          have hme := mn_M_rank N q_7.1 q_7.2 q_10 hc_11
          refine dc_calli (dc_runS (ar := 1) (As := [.int q_7.1]) (rest := []) ⟨hx, hb, hml, hown, hg⟩ hK hN hT hS hA (ct_M_rank l dC dI cI cB cJ cZ cQ N H.size h0 a q_7.1 q_7.2 q_10 hc_11) hP hD wn_10_1 wn_10_2 wn_1_13 wn_10_3 rfl rfl (by decide +kernel) ⟨dc_ra (Nat.le_of_ble_eq_true rfl), dc_ra (Nat.le_of_ble_eq_true rfl)⟩ rfl hl.1 rfl (Nat.le_of_ble_eq_true rfl) dn_M_binary_34 (dc_rm0 hle)) hP hD hS hA (fun r_12 _ H locs hw hP hD hS => ?_)
          refine W.widen (k := 2 * (gl q_10.2 - gl s1)) (n := 2 * (gl q_10.2 - gl s1)) (dc_we hme) (dc_we hme) ?_
          have hge := Nat.le_trans hge (Nat.le_of_eq hme.symm)
          have hle := Nat.le_trans (Nat.le_of_eq hme) hle
          have hw : r_12 = q_10.1 := hw
          subst hw
          refine lv_istore_n (lv' := [(2, .int q_10.1), (0, .ref h0), (1, .int x1)]) hx hb dn_M_binary_37 rfl hl (by decide) rfl (fun ls hl => ?_)
          exact hd_38 k_13 hk_13 hkm_13 N x1 q_10.1 q_10.2 hf hge a H locs ls hP hD hS (lv_sub hl [1, 2, 0] rfl)
  have bl_10 : ∀ (x1 : Int32) (t0 : Int32) (s : ms), bk_M_binary_10 N r_M_exp r_M_binary r_M_operand r_M_primary r_M_braces x1 t0 s = some y → gl s1 ≤ gl s → dcG p l e ({ frames := 5 + (d + 1), cells := 2 * (gl y.2 - gl s1), slots := 2 * (gl y.2 - gl s1), locals := 117 + (d + 1) * 24 }) s0 m [.ref h0].toArray below meth c QQ (dC, dI) A (fun a => (wM h0 a cI cB cJ cZ s)) (2 * (gl s - gl s1)) 10 3 [(0, .ref h0), (1, .int x1)] [.int t0, .ref h0] := by
    intro x1 t0 s hf hge a H locs ls hP hD hS hl
    have hle := mo_M_binary_10 N r_M_exp r_M_binary r_M_operand r_M_primary r_M_braces hmr_M_exp hmr_M_binary hmr_M_operand hmr_M_primary hmr_M_braces y x1 t0 s hf
    unfold bk_M_binary_10 at hf
    obtain ⟨q_1, hc_2, hf⟩ := dc_b hf
    have hme := mn_M_pushWidth N t0 s q_1 hc_2
    refine dc_callv (dc_runV (ar := 1) (As := [.int t0]) (rest := []) (ci := 0) (q0 := 0) ⟨hx, hb, hml, hown, hg⟩ hK hN hT hS hA (ct_M_pushWidth l dC dI cI cB cJ cZ cQ N H.size h0 a t0 s q_1 hc_2) hP hD rfl rfl wn_10_113 wn_10_115 sn_M_pushWidth wn_1_13 wn_10_116 rfl rfl (by decide +kernel) ⟨dc_ra (Nat.le_of_ble_eq_true rfl), dc_ra (Nat.le_of_ble_eq_true rfl)⟩ rfl hl.1 rfl (Nat.le_of_ble_eq_true rfl) dn_M_binary_10 (dc_rm0 hle)) hP hD hS hA (fun _ H locs hw hP hD hS => ?_)
    refine W.widen (k := 2 * (gl q_1.2 - gl s1)) (n := 2 * (gl q_1.2 - gl s1)) (dc_we hme) (dc_we hme) ?_
    have hge := Nat.le_trans hge (Nat.le_of_eq hme.symm)
    have hle := Nat.le_trans (Nat.le_of_eq hme) hle
    exact hd_13 N x1 q_1.2 hf hge a H locs ls hP hD hS hl
  intro hge a H locs ls hP hD hS hl
  have hle := mf_M_binary N r_M_exp r_M_binary r_M_operand r_M_primary r_M_braces hmr_M_exp hmr_M_binary hmr_M_operand hmr_M_primary hmr_M_braces s1 y hf
  unfold fb_M_binary at hf
  refine lv_aload_n hx hb dn_M_binary_0 rfl (lv_at hl 0 rfl) ?_
  refine va_get (D := (dC, dI)) (ci := 0) (v := .int ((s1.1 51 0))) (C := rn_M) (T := fn_M) (N := 91) hx hb hg in_M hown hK hP 0 rfl rfl 51 (by decide) (hg _ wn_8_124) (fun _ h9 => h9) rfl dn_M_binary_1 ?_
  refine lv_istore_n (lv' := [(1, .int ((s1.1 51 0))), (0, .ref h0)]) hx hb dn_M_binary_4 rfl hl (by decide) rfl (fun ls hl => ?_)
  refine lv_aload_n hx hb dn_M_binary_5 rfl (lv_at hl 1 rfl) ?_
  refine lv_aload_n hx hb dn_M_binary_6 rfl (lv_at hl 1 rfl) ?_
  obtain ⟨q_1, hc_2, hf⟩ := dc_b hf
  have hmg := hmr_M_operand s1 q_1 hc_2
  have hle2 : gl q_1.2 ≤ gl y.2 := mo_M_binary_10 N r_M_exp r_M_binary r_M_operand r_M_primary r_M_braces hmr_M_exp hmr_M_binary hmr_M_operand hmr_M_primary hmr_M_braces y _ _ _ hf
  refine dc_calli (dc_runV (ar := 0) (As := []) (rest := [.ref h0]) (ci := 0) (q0 := 0) ⟨hx, hb, hml, hown, hg⟩ hK hN hT hS hA (hr_M_operand H.size h0 a s1 q_1 hc_2) hP hD rfl rfl wn_10_85 wn_10_87 sn_M_operand wn_1_13 wn_10_88 rfl rfl (by decide +kernel) ⟨Nat.le_refl _, dc_lm (Nat.le_of_ble_eq_true rfl)⟩ rfl hl.1 rfl (Nat.le_of_ble_eq_true rfl) dn_M_binary_7 (dc_rm hge hmg hle2)) hP hD hS hA (fun r_3 a H locs hw hP hD hS => ?_)
  refine W.widen (k := 2 * (gl q_1.2 - gl s1)) (n := 2 * (gl q_1.2 - gl s1)) (dc_wa hge hmg) (dc_wa hge hmg) ?_
  have hge := Nat.le_trans hge hmg
  have hle := hle2
  have hw : r_3 = q_1.1 := hw
  subst hw
  exact bl_10 ((s1.1 51 0)) q_1.1 q_1.2 hf hge a H locs ls hP hD hS (lv_sub hl [1, 0] rfl)
set_option maxHeartbeats 8000000 in
set_option maxRecDepth 100000 in
theorem cb_M_operand (l : Launch) (dC : Nat → ClassId) (dI : Nat → Nat → Nat) (cI cB cJ cZ cQ : ClassId) (N d : Nat) (r_M_exp : ms → Option (Int32 × ms)) (r_M_binary : ms → Option (Int32 × ms)) (r_M_operand : ms → Option (Int32 × ms)) (r_M_primary : ms → Option (Int32 × ms)) (r_M_braces : Int32 → ms → Option (Int32 × ms)) (hmr_M_exp : ∀ (s : ms) (y : (Int32 × ms)), r_M_exp s = some y → gl s ≤ gl y.2) (hmr_M_binary : ∀ (s : ms) (y : (Int32 × ms)), r_M_binary s = some y → gl s ≤ gl y.2) (hmr_M_operand : ∀ (s : ms) (y : (Int32 × ms)), r_M_operand s = some y → gl s ≤ gl y.2) (hmr_M_primary : ∀ (s : ms) (y : (Int32 × ms)), r_M_primary s = some y → gl s ≤ gl y.2) (hmr_M_braces : ∀ (v1 : Int32) (s : ms) (y : (Int32 × ms)), r_M_braces v1 s = some y → gl s ≤ gl y.2) (hr_M_exp : ∀ (sz : Nat) (h0 : Nat) (a : Nat → Nat) (s : ms) (y : (Int32 × ms)), r_M_exp s = some y → Met l yn_M_exp (xw yn_M_exp bn_M_exp 5 (some .int)) ({ frames := 5 + d, cells := 2 * (gl y.2 - gl s), slots := 2 * (gl y.2 - gl s), locals := 117 + d * 24 }) (dc_P (dC, dI) xcl (xt cI cB cJ cZ cQ) [.ref h0] sz (wM h0 a cI cB cJ cZ s)) (xk_Qi (dC, dI) xcl (xt cI cB cJ cZ cQ) (fun (r : Int32) (_ : Nat → Nat) => r = y.1) (fun u : Nat → Nat => (wM h0 u cI cB cJ cZ y.2)) (va_A (wM h0 a cI cB cJ cZ s) sz)) (2 * (gl y.2 - gl s)) (2 * (gl y.2 - gl s)) (va_A (wM h0 a cI cB cJ cZ s) sz)) (hr_M_binary : ∀ (sz : Nat) (h0 : Nat) (a : Nat → Nat) (s : ms) (y : (Int32 × ms)), r_M_binary s = some y → Met l yn_M_binary (xw yn_M_binary bn_M_binary 3 (some .int)) ({ frames := 5 + d, cells := 2 * (gl y.2 - gl s), slots := 2 * (gl y.2 - gl s), locals := 117 + d * 24 }) (dc_P (dC, dI) xcl (xt cI cB cJ cZ cQ) [.ref h0] sz (wM h0 a cI cB cJ cZ s)) (xk_Qi (dC, dI) xcl (xt cI cB cJ cZ cQ) (fun (r : Int32) (_ : Nat → Nat) => r = y.1) (fun u : Nat → Nat => (wM h0 u cI cB cJ cZ y.2)) (va_A (wM h0 a cI cB cJ cZ s) sz)) (2 * (gl y.2 - gl s)) (2 * (gl y.2 - gl s)) (va_A (wM h0 a cI cB cJ cZ s) sz)) (hr_M_operand : ∀ (sz : Nat) (h0 : Nat) (a : Nat → Nat) (s : ms) (y : (Int32 × ms)), r_M_operand s = some y → Met l yn_M_operand (xw yn_M_operand bn_M_operand 5 (some .int)) ({ frames := 5 + d, cells := 2 * (gl y.2 - gl s), slots := 2 * (gl y.2 - gl s), locals := 117 + d * 24 }) (dc_P (dC, dI) xcl (xt cI cB cJ cZ cQ) [.ref h0] sz (wM h0 a cI cB cJ cZ s)) (xk_Qi (dC, dI) xcl (xt cI cB cJ cZ cQ) (fun (r : Int32) (_ : Nat → Nat) => r = y.1) (fun u : Nat → Nat => (wM h0 u cI cB cJ cZ y.2)) (va_A (wM h0 a cI cB cJ cZ s) sz)) (2 * (gl y.2 - gl s)) (2 * (gl y.2 - gl s)) (va_A (wM h0 a cI cB cJ cZ s) sz)) (hr_M_primary : ∀ (sz : Nat) (h0 : Nat) (a : Nat → Nat) (s : ms) (y : (Int32 × ms)), r_M_primary s = some y → Met l yn_M_primary (xw yn_M_primary bn_M_primary 4 (some .int)) ({ frames := 5 + d, cells := 2 * (gl y.2 - gl s), slots := 2 * (gl y.2 - gl s), locals := 117 + d * 24 }) (dc_P (dC, dI) xcl (xt cI cB cJ cZ cQ) [.ref h0] sz (wM h0 a cI cB cJ cZ s)) (xk_Qi (dC, dI) xcl (xt cI cB cJ cZ cQ) (fun (r : Int32) (_ : Nat → Nat) => r = y.1) (fun u : Nat → Nat => (wM h0 u cI cB cJ cZ y.2)) (va_A (wM h0 a cI cB cJ cZ s) sz)) (2 * (gl y.2 - gl s)) (2 * (gl y.2 - gl s)) (va_A (wM h0 a cI cB cJ cZ s) sz)) (hr_M_braces : ∀ (sz : Nat) (h0 : Nat) (a : Nat → Nat) (v1 : Int32) (s : ms) (y : (Int32 × ms)), r_M_braces v1 s = some y → Met l yn_M_braces (xw yn_M_braces bn_M_braces 5 (some .int)) ({ frames := 5 + d, cells := 2 * (gl y.2 - gl s), slots := 2 * (gl y.2 - gl s), locals := 117 + d * 24 }) (dc_P (dC, dI) xcl (xt cI cB cJ cZ cQ) [.ref h0, .int v1] sz (wM h0 a cI cB cJ cZ s)) (xk_Qi (dC, dI) xcl (xt cI cB cJ cZ cQ) (fun (r : Int32) (_ : Nat → Nat) => r = y.1) (fun u : Nat → Nat => (wM h0 u cI cB cJ cZ y.2)) (va_A (wM h0 a cI cB cJ cZ s) sz)) (2 * (gl y.2 - gl s)) (2 * (gl y.2 - gl s)) (va_A (wM h0 a cI cB cJ cZ s) sz)) (sz : Nat) (h0 : Nat) (a : Nat → Nat) (s1 : ms) (y : (Int32 × ms)) (hf : fb_M_operand N r_M_exp r_M_binary r_M_operand r_M_primary r_M_braces s1 = some y) : Met l yn_M_operand (xw yn_M_operand bn_M_operand 5 (some .int)) ({ frames := 5 + (d + 1), cells := 2 * (gl y.2 - gl s1), slots := 2 * (gl y.2 - gl s1), locals := 117 + (d + 1) * 24 }) (dc_P (dC, dI) xcl (xt cI cB cJ cZ cQ) [.ref h0] sz (wM h0 a cI cB cJ cZ s1)) (xk_Qi (dC, dI) xcl (xt cI cB cJ cZ cQ) (fun (r : Int32) (_ : Nat → Nat) => r = y.1) (fun u : Nat → Nat => (wM h0 u cI cB cJ cZ y.2)) (va_A (wM h0 a cI cB cJ cZ s1) sz)) (2 * (gl y.2 - gl s1)) (2 * (gl y.2 - gl s1)) (va_A (wM h0 a cI cB cJ cZ s1) sz) := by
  refine dc_of (QA := xk_Qi (dC, dI) xcl (xt cI cB cJ cZ cQ) (fun (r : Int32) (_ : Nat → Nat) => r = y.1) (fun u : Nat → Nat => (wM h0 u cI cB cJ cZ y.2))) (by decide) (Nat.le_of_ble_eq_true rfl) ?_
  intro p e s0 m below meth c hx hb hml hown hg hr hlocks hin hP hK hN A hA hD hT ls hl
  have hown : s0.vm.findClass rn_M = some m.cls := hown
  obtain ⟨H, hH⟩ : ∃ z, z = s0.heap := ⟨_, rfl⟩
  rw [← hH] at hP
  have hS : va_S A s0.heap H [] := by rw [hH]; exact va_S.rf
  suffices kk : ∀ QQ : State → Prop, QQ = MQ below (xk_Qi (dC, dI) xcl (xt cI cB cJ cZ cQ) (fun (r : Int32) (_ : Nat → Nat) => r = y.1) (fun u : Nat → Nat => (wM h0 u cI cB cJ cZ y.2)) A) [.ref h0].toArray s0 (2 * (gl y.2 - gl s1)) (2 * (gl y.2 - gl s1)) A → gl s1 ≤ gl s1 → dcG p l e ({ frames := 5 + (d + 1), cells := 2 * (gl y.2 - gl s1), slots := 2 * (gl y.2 - gl s1), locals := 117 + (d + 1) * 24 }) s0 m [.ref h0].toArray below meth c QQ (dC, dI) A (fun a => (wM h0 a cI cB cJ cZ s1)) (2 * (gl s1 - gl s1)) 0 5 [(0, .ref h0)] [] by
    have k9 := kk _ rfl (Nat.le_refl _) a H [] ls hP hD hS hl
    rw [hH, Nat.sub_self] at k9; exact k9
  clear hP hD hS hl hH H ls
  intro QQ hQQ
  have bl_99 : ∀ (k_43 : Int32 → Int32 → Int32 → ms → Option (Int32 × ms)) (hk_43 : ∀ (x1 : Int32) (x3 : Int32) (x4 : Int32) (s : ms), k_43 x1 x3 x4 s = some y → gl s1 ≤ gl s → dcG p l e ({ frames := 5 + (d + 1), cells := 2 * (gl y.2 - gl s1), slots := 2 * (gl y.2 - gl s1), locals := 117 + (d + 1) * 24 }) s0 m [.ref h0].toArray below meth c QQ (dC, dI) A (fun a => (wM h0 a cI cB cJ cZ s)) (2 * (gl s - gl s1)) 43 5 [(0, .ref h0), (1, .int x1), (3, .int x3), (4, .int x4)] []) (hkm_43 : ∀ (x1 : Int32) (x3 : Int32) (x4 : Int32) (s : ms), k_43 x1 x3 x4 s = some y → gl s ≤ gl y.2) (x1 : Int32) (x3 : Int32) (x4 : Int32) (s : ms), bk_M_operand_99 N r_M_exp r_M_binary r_M_operand r_M_primary r_M_braces k_43 x1 x3 x4 s = some y → gl s1 ≤ gl s → dcG p l e ({ frames := 5 + (d + 1), cells := 2 * (gl y.2 - gl s1), slots := 2 * (gl y.2 - gl s1), locals := 117 + (d + 1) * 24 }) s0 m [.ref h0].toArray below meth c QQ (dC, dI) A (fun a => (wM h0 a cI cB cJ cZ s)) (2 * (gl s - gl s1)) 99 5 [(0, .ref h0), (1, .int x1), (3, .int x3), (4, .int x4)] [] := by
    intro k_43 hk_43 hkm_43 x1 x3 x4 s hf hge a H locs ls hP hD hS hl
    have hle := mo_M_operand_99 N r_M_exp r_M_binary r_M_operand r_M_primary r_M_braces hmr_M_exp hmr_M_binary hmr_M_operand hmr_M_primary hmr_M_braces k_43 y hkm_43 x1 x3 x4 s hf
    unfold bk_M_operand_99 at hf
    refine lv_iload_n hx hb dn_M_operand_99 rfl (lv_at hl 2 rfl) ?_
    refine lv_goto (tgt := 104) hx hb dn_M_operand_100 (by decide) ?_
    refine lv_istore_n (lv' := [(3, .int x3), (0, .ref h0), (1, .int x1), (4, .int x4)]) hx hb dn_M_operand_104 rfl hl (by decide) rfl (fun ls hl => ?_)
    refine lv_iinc (v := (x4 + (-1))) (lv' := [(4, .int ((x4 + (-1)))), (3, .int x3), (0, .ref h0), (1, .int x1)]) hx hb dn_M_operand_105 hl (k := 3) rfl (dc_inc (by decide)) (by decide) rfl (fun ls hl => ?_)
    refine lv_goto (tgt := 43) hx hb dn_M_operand_108 (by decide) ?_
    exact hk_43 x1 x3 ((x4 + (-1))) s hf hge a H locs ls hP hD hS (lv_sub hl [2, 3, 1, 0] rfl)
  have bl_75 : ∀ (k_43 : Int32 → Int32 → Int32 → ms → Option (Int32 × ms)) (hk_43 : ∀ (x1 : Int32) (x3 : Int32) (x4 : Int32) (s : ms), k_43 x1 x3 x4 s = some y → gl s1 ≤ gl s → dcG p l e ({ frames := 5 + (d + 1), cells := 2 * (gl y.2 - gl s1), slots := 2 * (gl y.2 - gl s1), locals := 117 + (d + 1) * 24 }) s0 m [.ref h0].toArray below meth c QQ (dC, dI) A (fun a => (wM h0 a cI cB cJ cZ s)) (2 * (gl s - gl s1)) 43 5 [(0, .ref h0), (1, .int x1), (3, .int x3), (4, .int x4)] []) (hkm_43 : ∀ (x1 : Int32) (x3 : Int32) (x4 : Int32) (s : ms), k_43 x1 x3 x4 s = some y → gl s ≤ gl y.2) (x1 : Int32) (x3 : Int32) (x4 : Int32) (s : ms), bk_M_operand_75 N r_M_exp r_M_binary r_M_operand r_M_primary r_M_braces k_43 x1 x3 x4 s = some y → gl s1 ≤ gl s → dcG p l e ({ frames := 5 + (d + 1), cells := 2 * (gl y.2 - gl s1), slots := 2 * (gl y.2 - gl s1), locals := 117 + (d + 1) * 24 }) s0 m [.ref h0].toArray below meth c QQ (dC, dI) A (fun a => (wM h0 a cI cB cJ cZ s)) (2 * (gl s - gl s1)) 75 5 [(0, .ref h0), (1, .int x1), (3, .int x3), (4, .int x4)] [] := by
    intro k_43 hk_43 hkm_43 x1 x3 x4 s hf hge a H locs ls hP hD hS hl
    have hle := mo_M_operand_75 N r_M_exp r_M_binary r_M_operand r_M_primary r_M_braces hmr_M_exp hmr_M_binary hmr_M_operand hmr_M_primary hmr_M_braces k_43 y hkm_43 x1 x3 x4 s hf
    unfold bk_M_operand_75 at hf
    refine lv_aload_n hx hb dn_M_operand_75 rfl (lv_at hl 0 rfl) ?_
    refine va_get (D := (dC, dI)) (ci := 0) (v := .ref ((a 4))) (C := rn_M) (T := fn_M) (N := 91) hx hb hg in_M hown hK hP 0 rfl rfl 4 (by decide) (hg _ wn_8_77) (fun _ h9 => h9) rfl dn_M_operand_76 ?_
    refine lv_iload hx hb dn_M_operand_79 (lv_at hl 3 rfl) ?_
    obtain ⟨hg_1, hf⟩ := dc_g hf
    refine va_iald hx hb hK hP 2 0 rfl rfl hg_1 dn_M_operand_81 ?_
    refine xk_ti (y := ((s.1 4) (Int32.toNatClampNeg x4))) rfl ?_
    refine lv_bipush (v := 126) hx hb dn_M_operand_82 (by decide) ?_
    refine lv_icmp_eq (tgt := 99) hx hb dn_M_operand_84 (by decide) (fun h => ?_) (fun h => ?_)
    · have hf := (if_pos h).symm.trans hf
      exact bl_99 k_43 hk_43 hkm_43 x1 x3 x4 s hf hge a H locs ls hP hD hS hl
    · have hf := (if_neg h).symm.trans hf
      refine lv_aload_n hx hb dn_M_operand_87 rfl (lv_at hl 0 rfl) ?_
      refine va_get (D := (dC, dI)) (ci := 0) (v := .ref ((a 4))) (C := rn_M) (T := fn_M) (N := 91) hx hb hg in_M hown hK hP 0 rfl rfl 4 (by decide) (hg _ wn_8_77) (fun _ h9 => h9) rfl dn_M_operand_88 ?_
      refine lv_iload hx hb dn_M_operand_91 (lv_at hl 3 rfl) ?_
      obtain ⟨hg_2, hf⟩ := dc_g hf
      refine va_iald hx hb hK hP 2 0 rfl rfl hg_2 dn_M_operand_93 ?_
      refine xk_ti (y := ((s.1 4) (Int32.toNatClampNeg x4))) rfl ?_
      refine lv_bipush (v := 45) hx hb dn_M_operand_94 (by decide) ?_
      refine lv_icmp_ne (tgt := 103) hx hb dn_M_operand_96 (by decide) (fun h => ?_) (fun h => ?_)
      · have hf := (if_neg h).symm.trans hf
        refine lv_iconst (v := 1) hx hb dn_M_operand_103 (by decide) ?_
        refine lv_istore_n (lv' := [(3, .int 1), (0, .ref h0), (1, .int x1), (4, .int x4)]) hx hb dn_M_operand_104 rfl hl (by decide) rfl (fun ls hl => ?_)
        refine lv_iinc (v := (x4 + (-1))) (lv' := [(4, .int ((x4 + (-1)))), (3, .int 1), (0, .ref h0), (1, .int x1)]) hx hb dn_M_operand_105 hl (k := 3) rfl (dc_inc (by decide)) (by decide) rfl (fun ls hl => ?_)
        refine lv_goto (tgt := 43) hx hb dn_M_operand_108 (by decide) ?_
        exact hk_43 x1 1 ((x4 + (-1))) s hf hge a H locs ls hP hD hS (lv_sub hl [2, 3, 1, 0] rfl)
      · have hf := (if_pos h).symm.trans hf
        exact bl_99 k_43 hk_43 hkm_43 x1 x3 x4 s hf hge a H locs ls hP hD hS hl
  have hd_43 : ∀ (n : Nat) (x1 : Int32) (x3 : Int32) (x4 : Int32) (s : ms), hd_M_operand_43 N r_M_exp r_M_binary r_M_operand r_M_primary r_M_braces n x1 x3 x4 s = some y → gl s1 ≤ gl s → dcG p l e ({ frames := 5 + (d + 1), cells := 2 * (gl y.2 - gl s1), slots := 2 * (gl y.2 - gl s1), locals := 117 + (d + 1) * 24 }) s0 m [.ref h0].toArray below meth c QQ (dC, dI) A (fun a => (wM h0 a cI cB cJ cZ s)) (2 * (gl s - gl s1)) 43 5 [(0, .ref h0), (1, .int x1), (3, .int x3), (4, .int x4)] [] := by
    intro n
    induction n with
    | zero => intro x1 x3 x4 s hf; cases hf
    | succ n ih =>
      intro x1 x3 x4 s hf hge a H locs ls hP hD hS hl
      have hle := mh_M_operand_43 N r_M_exp r_M_binary r_M_operand r_M_primary r_M_braces hmr_M_exp hmr_M_binary hmr_M_operand hmr_M_primary hmr_M_braces y (n + 1) x1 x3 x4 s hf
      have hkm_43 := mh_M_operand_43 N r_M_exp r_M_binary r_M_operand r_M_primary r_M_braces hmr_M_exp hmr_M_binary hmr_M_operand hmr_M_primary hmr_M_braces y n
      have hf : bd_M_operand_43 N r_M_exp r_M_binary r_M_operand r_M_primary r_M_braces (hd_M_operand_43 N r_M_exp r_M_binary r_M_operand r_M_primary r_M_braces n) x1 x3 x4 s = some y := hf
      have hk_43 := ih
      generalize hd_M_operand_43 N r_M_exp r_M_binary r_M_operand r_M_primary r_M_braces n = k_43 at hf hk_43 hkm_43
      unfold bd_M_operand_43 at hf
      refine lv_iload hx hb dn_M_operand_43 (lv_at hl 3 rfl) ?_
      refine lv_iload_n hx hb dn_M_operand_45 rfl (lv_at hl 1 rfl) ?_
      refine lv_icmp_lt (tgt := 111) hx hb dn_M_operand_46 (by decide) (fun h => ?_) (fun h => ?_)
      · have hf := (if_pos h).symm.trans hf
        refine lv_iload_n hx hb dn_M_operand_111 rfl (lv_at hl 2 rfl) ?_
        rw [hQQ, ← Option.some.inj hf]
        exact xk_iret (w1 := fun u : Nat → Nat => (wM h0 u cI cB cJ cZ s)) a hx hb hr hlocks hK hS dn_M_operand_112 hP hD rfl (Nat.le_refl _) (Nat.le_refl _)
      · have hf := (if_neg h).symm.trans hf
        refine lv_aload_n hx hb dn_M_operand_49 rfl (lv_at hl 0 rfl) ?_
        refine va_get (D := (dC, dI)) (ci := 0) (v := .int ((s.1 9 0))) (C := rn_M) (T := fn_M) (N := 91) hx hb hg in_M hown hK hP 0 rfl rfl 9 (by decide) (hg _ wn_8_82) (fun _ h9 => h9) rfl dn_M_operand_50 ?_
        refine lv_if_ne (tgt := 111) hx hb dn_M_operand_53 (by decide) (fun h => ?_) (fun h => ?_)
        · have hf := (if_neg h).symm.trans hf
          refine lv_iload_n hx hb dn_M_operand_111 rfl (lv_at hl 2 rfl) ?_
          rw [hQQ, ← Option.some.inj hf]
          exact xk_iret (w1 := fun u : Nat → Nat => (wM h0 u cI cB cJ cZ s)) a hx hb hr hlocks hK hS dn_M_operand_112 hP hD rfl (Nat.le_refl _) (Nat.le_refl _)
        · have hf := (if_pos h).symm.trans hf
          refine lv_aload_n hx hb dn_M_operand_56 rfl (lv_at hl 0 rfl) ?_
          refine lv_iload_n hx hb dn_M_operand_57 rfl (lv_at hl 2 rfl) ?_
          refine lv_i2l (v := Int32.toInt64 x3) hx hb dn_M_operand_58 rfl ?_
          obtain ⟨q_1, hc_2, hf⟩ := dc_b hf
          have hme := mn_M_cost N ((Int32.toInt64 x3)) s q_1 hc_2
          refine dc_callv (dc_runV (ar := 1) (As := [.long ((Int32.toInt64 x3))]) (rest := []) (ci := 0) (q0 := 0) ⟨hx, hb, hml, hown, hg⟩ hK hN hT hS hA (ct_M_cost l dC dI cI cB cJ cZ cQ N H.size h0 a ((Int32.toInt64 x3)) s q_1 hc_2) hP hD rfl rfl wn_10_109 wn_10_111 sn_M_cost wn_1_13 wn_10_112 rfl rfl (by decide +kernel) ⟨dc_ra (Nat.le_of_ble_eq_true rfl), dc_ra (Nat.le_of_ble_eq_true rfl)⟩ rfl hl.1 rfl (Nat.le_of_ble_eq_true rfl) dn_M_operand_59 (dc_rm0 hle)) hP hD hS hA (fun _ H locs hw hP hD hS => ?_)
          refine W.widen (k := 2 * (gl q_1.2 - gl s1)) (n := 2 * (gl q_1.2 - gl s1)) (dc_we hme) (dc_we hme) ?_
          have hge := Nat.le_trans hge (Nat.le_of_eq hme.symm)
          have hle := Nat.le_trans (Nat.le_of_eq hme) hle
          refine lv_aload_n hx hb dn_M_operand_62 rfl (lv_at hl 0 rfl) ?_
          refine lv_iconst (v := 4) hx hb dn_M_operand_63 (by decide) ?_
          refine lv_aload_n hx hb dn_M_operand_64 rfl (lv_at hl 0 rfl) ?_
          refine va_get (D := (dC, dI)) (ci := 0) (v := .ref ((a 4))) (C := rn_M) (T := fn_M) (N := 91) hx hb hg in_M hown hK hP 0 rfl rfl 4 (by decide) (hg _ wn_8_77) (fun _ h9 => h9) rfl dn_M_operand_65 ?_
          refine lv_iload hx hb dn_M_operand_68 (lv_at hl 3 rfl) ?_
          obtain ⟨hg_3, hf⟩ := dc_g hf
          refine va_iald hx hb hK hP 2 0 rfl rfl hg_3 dn_M_operand_70 ?_
          refine xk_ti (y := ((q_1.2.1 4) (Int32.toNatClampNeg x4))) rfl ?_
          refine lv_iload_n hx hb dn_M_operand_71 rfl (lv_at hl 2 rfl) ?_
          obtain ⟨q_4, hc_5, hf⟩ := dc_b hf
          have hmg := mn_M_lay N 4 (((q_1.2.1 4) (Int32.toNatClampNeg x4))) x3 q_1.2 q_4 hc_5
          have hle2 : gl q_4.2 ≤ gl y.2 := mo_M_operand_75 N r_M_exp r_M_binary r_M_operand r_M_primary r_M_braces hmr_M_exp hmr_M_binary hmr_M_operand hmr_M_primary hmr_M_braces k_43 y hkm_43 _ _ _ _ hf
          refine dc_callv (dc_runV (ar := 3) (As := [.int 4, .int (((q_1.2.1 4) (Int32.toNatClampNeg x4))), .int x3]) (rest := []) (ci := 0) (q0 := 0) ⟨hx, hb, hml, hown, hg⟩ hK hN hT hS hA (ct_M_lay l dC dI cI cB cJ cZ cQ N H.size h0 a 4 (((q_1.2.1 4) (Int32.toNatClampNeg x4))) x3 q_1.2 q_4 hc_5) hP hD rfl rfl wn_10_97 wn_10_99 sn_M_lay wn_1_13 wn_10_100 rfl rfl (by decide +kernel) ⟨dc_ra (Nat.le_of_ble_eq_true rfl), dc_ra (Nat.le_of_ble_eq_true rfl)⟩ rfl hl.1 rfl (Nat.le_of_ble_eq_true rfl) dn_M_operand_72 (dc_rm hge hmg hle2)) hP hD hS hA (fun a H locs hw hP hD hS => ?_)
          refine W.widen (k := 2 * (gl q_4.2 - gl s1)) (n := 2 * (gl q_4.2 - gl s1)) (dc_wa hge hmg) (dc_wa hge hmg) ?_
          have hge := Nat.le_trans hge hmg
          have hle := hle2
          exact bl_75 k_43 hk_43 hkm_43 x1 x3 x4 q_4.2 hf hge a H locs ls hP hD hS hl
  have bl_37 : ∀ (x1 : Int32) (x2 : Int32) (t0 : Int32) (s : ms), bk_M_operand_37 N r_M_exp r_M_binary r_M_operand r_M_primary r_M_braces x1 x2 t0 s = some y → gl s1 ≤ gl s → dcG p l e ({ frames := 5 + (d + 1), cells := 2 * (gl y.2 - gl s1), slots := 2 * (gl y.2 - gl s1), locals := 117 + (d + 1) * 24 }) s0 m [.ref h0].toArray below meth c QQ (dC, dI) A (fun a => (wM h0 a cI cB cJ cZ s)) (2 * (gl s - gl s1)) 37 5 [(0, .ref h0), (1, .int x1), (2, .int x2)] [.int t0] := by
    intro x1 x2 t0 s hf hge a H locs ls hP hD hS hl
    have hle := mo_M_operand_37 N r_M_exp r_M_binary r_M_operand r_M_primary r_M_braces hmr_M_exp hmr_M_binary hmr_M_operand hmr_M_primary hmr_M_braces y x1 x2 t0 s hf
    unfold bk_M_operand_37 at hf
    refine lv_istore_n (lv' := [(3, .int t0), (0, .ref h0), (1, .int x1), (2, .int x2)]) hx hb dn_M_operand_37 rfl hl (by decide) rfl (fun ls hl => ?_)
    refine lv_iload_n hx hb dn_M_operand_38 rfl (lv_at hl 3 rfl) ?_
    refine lv_iconst (v := 1) hx hb dn_M_operand_39 (by decide) ?_
    refine lv_isub hx hb dn_M_operand_40 ?_
    refine lv_istore (lv' := [(4, .int ((x2 - 1))), (3, .int t0), (0, .ref h0), (1, .int x1), (2, .int x2)]) hx hb dn_M_operand_41 hl (by decide) rfl (fun ls hl => ?_)
    exact hd_43 N x1 t0 ((x2 - 1)) s hf hge a H locs ls hP hD hS (lv_sub hl [2, 3, 1, 0] rfl)
  have hd_5 : ∀ (n : Nat) (x1 : Int32) (s : ms), hd_M_operand_5 N r_M_exp r_M_binary r_M_operand r_M_primary r_M_braces n x1 s = some y → gl s1 ≤ gl s → dcG p l e ({ frames := 5 + (d + 1), cells := 2 * (gl y.2 - gl s1), slots := 2 * (gl y.2 - gl s1), locals := 117 + (d + 1) * 24 }) s0 m [.ref h0].toArray below meth c QQ (dC, dI) A (fun a => (wM h0 a cI cB cJ cZ s)) (2 * (gl s - gl s1)) 5 5 [(0, .ref h0), (1, .int x1)] [] := by
    intro n
    induction n with
    | zero => intro x1 s hf; cases hf
    | succ n ih =>
      intro x1 s hf hge a H locs ls hP hD hS hl
      have hle := mh_M_operand_5 N r_M_exp r_M_binary r_M_operand r_M_primary r_M_braces hmr_M_exp hmr_M_binary hmr_M_operand hmr_M_primary hmr_M_braces y (n + 1) x1 s hf
      have hkm_5 := mh_M_operand_5 N r_M_exp r_M_binary r_M_operand r_M_primary r_M_braces hmr_M_exp hmr_M_binary hmr_M_operand hmr_M_primary hmr_M_braces y n
      have hf : bd_M_operand_5 N r_M_exp r_M_binary r_M_operand r_M_primary r_M_braces (hd_M_operand_5 N r_M_exp r_M_binary r_M_operand r_M_primary r_M_braces n) x1 s = some y := hf
      have hk_5 := ih
      generalize hd_M_operand_5 N r_M_exp r_M_binary r_M_operand r_M_primary r_M_braces n = k_5 at hf hk_5 hkm_5
      unfold bd_M_operand_5 at hf
      refine lv_aload_n hx hb dn_M_operand_5 rfl (lv_at hl 0 rfl) ?_
      obtain ⟨q_1, hc_2, hf⟩ := dc_b hf
      have hme := mn_M_kind N s q_1 hc_2
      refine dc_calli (dc_runV (ar := 0) (As := []) (rest := []) (ci := 0) (q0 := 0) ⟨hx, hb, hml, hown, hg⟩ hK hN hT hS hA (ct_M_kind l dC dI cI cB cJ cZ cQ N H.size h0 a s q_1 hc_2) hP hD rfl rfl wn_9_214 wn_9_216 sn_M_kind wn_1_13 wn_9_217 rfl rfl (by decide +kernel) ⟨dc_ra (Nat.le_of_ble_eq_true rfl), dc_ra (Nat.le_of_ble_eq_true rfl)⟩ rfl hl.1 rfl (Nat.le_of_ble_eq_true rfl) dn_M_operand_6 (dc_rm0 hle)) hP hD hS hA (fun r_3 _ H locs hw hP hD hS => ?_)
      refine W.widen (k := 2 * (gl q_1.2 - gl s1)) (n := 2 * (gl q_1.2 - gl s1)) (dc_we hme) (dc_we hme) ?_
      have hge := Nat.le_trans hge (Nat.le_of_eq hme.symm)
      have hle := Nat.le_trans (Nat.le_of_eq hme) hle
      have hw : r_3 = q_1.1 := hw
      subst hw
      obtain ⟨q_4, hc_5, hf⟩ := dc_b hf
      have hme := mn_M_isUnary N q_1.1 q_1.2 q_4 hc_5
      refine dc_calli (dc_runS (ar := 1) (As := [.int q_1.1]) (rest := []) ⟨hx, hb, hml, hown, hg⟩ hK hN hT hS hA (ct_M_isUnary l dC dI cI cB cJ cZ cQ N H.size h0 a q_1.1 q_1.2 q_4 hc_5) hP hD wn_9_230 wn_9_231 wn_1_13 wn_9_232 rfl rfl (by decide +kernel) ⟨dc_ra (Nat.le_of_ble_eq_true rfl), dc_ra (Nat.le_of_ble_eq_true rfl)⟩ rfl hl.1 rfl (Nat.le_of_ble_eq_true rfl) dn_M_operand_9 (dc_rm0 hle)) hP hD hS hA (fun r_6 _ H locs hw hP hD hS => ?_)
      refine W.widen (k := 2 * (gl q_4.2 - gl s1)) (n := 2 * (gl q_4.2 - gl s1)) (dc_we hme) (dc_we hme) ?_
      have hge := Nat.le_trans hge (Nat.le_of_eq hme.symm)
      have hle := Nat.le_trans (Nat.le_of_eq hme) hle
      have hw : r_6 = q_4.1 := hw
      subst hw
      refine lv_if_eq (tgt := 28) hx hb dn_M_operand_12 (by decide) (fun h => ?_) (fun h => ?_)
      · have hf := (if_pos h).symm.trans hf
        refine lv_aload_n hx hb dn_M_operand_28 rfl (lv_at hl 0 rfl) ?_
        refine va_get (D := (dC, dI)) (ci := 0) (v := .int ((q_4.2.1 8 0))) (C := rn_M) (T := fn_M) (N := 91) hx hb hg in_M hown hK hP 0 rfl rfl 8 (by decide) (hg _ wn_8_81) (fun _ h9 => h9) rfl dn_M_operand_29 ?_
        refine lv_istore_n (lv' := [(2, .int ((q_4.2.1 8 0))), (0, .ref h0), (1, .int x1)]) hx hb dn_M_operand_32 rfl hl (by decide) rfl (fun ls hl => ?_)
        refine lv_aload_n hx hb dn_M_operand_33 rfl (lv_at hl 1 rfl) ?_
        obtain ⟨q_7, hc_8, hf⟩ := dc_b hf
        have hmg := hmr_M_primary q_4.2 q_7 hc_8
        have hle2 : gl q_7.2 ≤ gl y.2 := mo_M_operand_37 N r_M_exp r_M_binary r_M_operand r_M_primary r_M_braces hmr_M_exp hmr_M_binary hmr_M_operand hmr_M_primary hmr_M_braces y _ _ _ _ hf
        refine dc_calli (dc_runV (ar := 0) (As := []) (rest := []) (ci := 0) (q0 := 0) ⟨hx, hb, hml, hown, hg⟩ hK hN hT hS hA (hr_M_primary H.size h0 a q_4.2 q_7 hc_8) hP hD rfl rfl wn_10_89 wn_10_91 sn_M_primary wn_1_13 wn_10_92 rfl rfl (by decide +kernel) ⟨Nat.le_refl _, dc_lm (Nat.le_of_ble_eq_true rfl)⟩ rfl hl.1 rfl (Nat.le_of_ble_eq_true rfl) dn_M_operand_34 (dc_rm hge hmg hle2)) hP hD hS hA (fun r_9 a H locs hw hP hD hS => ?_)
        refine W.widen (k := 2 * (gl q_7.2 - gl s1)) (n := 2 * (gl q_7.2 - gl s1)) (dc_wa hge hmg) (dc_wa hge hmg) ?_
        have hge := Nat.le_trans hge hmg
        have hle := hle2
        have hw : r_9 = q_7.1 := hw
        subst hw
        exact bl_37 x1 ((q_4.2.1 8 0)) q_7.1 q_7.2 hf hge a H locs ls hP hD hS (lv_sub hl [1, 2, 0] rfl)
      · have hf := (if_neg h).symm.trans hf
        refine lv_aload_n hx hb dn_M_operand_15 rfl (lv_at hl 0 rfl) ?_
        refine lv_dup hx hb dn_M_operand_16 rfl ?_
        refine va_get (D := (dC, dI)) (ci := 0) (v := .int ((q_4.2.1 8 0))) (C := rn_M) (T := fn_M) (N := 91) hx hb hg in_M hown hK hP 0 rfl rfl 8 (by decide) (hg _ wn_8_81) (fun _ h9 => h9) rfl dn_M_operand_17 ?_
        refine lv_iconst (v := 1) hx hb dn_M_operand_20 (by decide) ?_
        refine lv_iadd hx hb dn_M_operand_21 ?_
        refine va_put (D := (dC, dI)) (ci := 0) (v := .int (((q_4.2.1 8 0) + 1))) (ty := .int) (C := rn_M) (T := fn_M) (N := 91) hx hb hg in_M tn_M tk_M nn_M hown hK hP hD hS 0 rfl rfl 8 (by decide) (hg _ wn_8_81) (fun _ h9 => h9) rfl (tk_M 8 (by decide)) rfl rfl (Nat.le_of_ble_eq_true rfl) dn_M_operand_22 (fun H locs hP hD hS => ?_)
        have hP := wM_P_8 hP
        have hD := wM_D_8 hD
        refine lv_goto (tgt := 5) hx hb dn_M_operand_25 (by decide) ?_
        exact hk_5 x1 (upI q_4.2 8 (fun _ => ((q_4.2.1 8 0) + 1))) hf hge a H locs ls hP hD hS hl
  intro hge a H locs ls hP hD hS hl
  have hle := mf_M_operand N r_M_exp r_M_binary r_M_operand r_M_primary r_M_braces hmr_M_exp hmr_M_binary hmr_M_operand hmr_M_primary hmr_M_braces s1 y hf
  unfold fb_M_operand at hf
  refine lv_aload_n hx hb dn_M_operand_0 rfl (lv_at hl 0 rfl) ?_
  refine va_get (D := (dC, dI)) (ci := 0) (v := .int ((s1.1 8 0))) (C := rn_M) (T := fn_M) (N := 91) hx hb hg in_M hown hK hP 0 rfl rfl 8 (by decide) (hg _ wn_8_81) (fun _ h9 => h9) rfl dn_M_operand_1 ?_
  refine lv_istore_n (lv' := [(1, .int ((s1.1 8 0))), (0, .ref h0)]) hx hb dn_M_operand_4 rfl hl (by decide) rfl (fun ls hl => ?_)
  exact hd_5 N ((s1.1 8 0)) s1 hf hge a H locs ls hP hD hS (lv_sub hl [1, 0] rfl)
set_option maxHeartbeats 8000000 in
set_option maxRecDepth 100000 in
theorem cb_M_primary (l : Launch) (dC : Nat → ClassId) (dI : Nat → Nat → Nat) (cI cB cJ cZ cQ : ClassId) (N d : Nat) (r_M_exp : ms → Option (Int32 × ms)) (r_M_binary : ms → Option (Int32 × ms)) (r_M_operand : ms → Option (Int32 × ms)) (r_M_primary : ms → Option (Int32 × ms)) (r_M_braces : Int32 → ms → Option (Int32 × ms)) (hmr_M_exp : ∀ (s : ms) (y : (Int32 × ms)), r_M_exp s = some y → gl s ≤ gl y.2) (hmr_M_binary : ∀ (s : ms) (y : (Int32 × ms)), r_M_binary s = some y → gl s ≤ gl y.2) (hmr_M_operand : ∀ (s : ms) (y : (Int32 × ms)), r_M_operand s = some y → gl s ≤ gl y.2) (hmr_M_primary : ∀ (s : ms) (y : (Int32 × ms)), r_M_primary s = some y → gl s ≤ gl y.2) (hmr_M_braces : ∀ (v1 : Int32) (s : ms) (y : (Int32 × ms)), r_M_braces v1 s = some y → gl s ≤ gl y.2) (hr_M_exp : ∀ (sz : Nat) (h0 : Nat) (a : Nat → Nat) (s : ms) (y : (Int32 × ms)), r_M_exp s = some y → Met l yn_M_exp (xw yn_M_exp bn_M_exp 5 (some .int)) ({ frames := 5 + d, cells := 2 * (gl y.2 - gl s), slots := 2 * (gl y.2 - gl s), locals := 117 + d * 24 }) (dc_P (dC, dI) xcl (xt cI cB cJ cZ cQ) [.ref h0] sz (wM h0 a cI cB cJ cZ s)) (xk_Qi (dC, dI) xcl (xt cI cB cJ cZ cQ) (fun (r : Int32) (_ : Nat → Nat) => r = y.1) (fun u : Nat → Nat => (wM h0 u cI cB cJ cZ y.2)) (va_A (wM h0 a cI cB cJ cZ s) sz)) (2 * (gl y.2 - gl s)) (2 * (gl y.2 - gl s)) (va_A (wM h0 a cI cB cJ cZ s) sz)) (hr_M_binary : ∀ (sz : Nat) (h0 : Nat) (a : Nat → Nat) (s : ms) (y : (Int32 × ms)), r_M_binary s = some y → Met l yn_M_binary (xw yn_M_binary bn_M_binary 3 (some .int)) ({ frames := 5 + d, cells := 2 * (gl y.2 - gl s), slots := 2 * (gl y.2 - gl s), locals := 117 + d * 24 }) (dc_P (dC, dI) xcl (xt cI cB cJ cZ cQ) [.ref h0] sz (wM h0 a cI cB cJ cZ s)) (xk_Qi (dC, dI) xcl (xt cI cB cJ cZ cQ) (fun (r : Int32) (_ : Nat → Nat) => r = y.1) (fun u : Nat → Nat => (wM h0 u cI cB cJ cZ y.2)) (va_A (wM h0 a cI cB cJ cZ s) sz)) (2 * (gl y.2 - gl s)) (2 * (gl y.2 - gl s)) (va_A (wM h0 a cI cB cJ cZ s) sz)) (hr_M_operand : ∀ (sz : Nat) (h0 : Nat) (a : Nat → Nat) (s : ms) (y : (Int32 × ms)), r_M_operand s = some y → Met l yn_M_operand (xw yn_M_operand bn_M_operand 5 (some .int)) ({ frames := 5 + d, cells := 2 * (gl y.2 - gl s), slots := 2 * (gl y.2 - gl s), locals := 117 + d * 24 }) (dc_P (dC, dI) xcl (xt cI cB cJ cZ cQ) [.ref h0] sz (wM h0 a cI cB cJ cZ s)) (xk_Qi (dC, dI) xcl (xt cI cB cJ cZ cQ) (fun (r : Int32) (_ : Nat → Nat) => r = y.1) (fun u : Nat → Nat => (wM h0 u cI cB cJ cZ y.2)) (va_A (wM h0 a cI cB cJ cZ s) sz)) (2 * (gl y.2 - gl s)) (2 * (gl y.2 - gl s)) (va_A (wM h0 a cI cB cJ cZ s) sz)) (hr_M_primary : ∀ (sz : Nat) (h0 : Nat) (a : Nat → Nat) (s : ms) (y : (Int32 × ms)), r_M_primary s = some y → Met l yn_M_primary (xw yn_M_primary bn_M_primary 4 (some .int)) ({ frames := 5 + d, cells := 2 * (gl y.2 - gl s), slots := 2 * (gl y.2 - gl s), locals := 117 + d * 24 }) (dc_P (dC, dI) xcl (xt cI cB cJ cZ cQ) [.ref h0] sz (wM h0 a cI cB cJ cZ s)) (xk_Qi (dC, dI) xcl (xt cI cB cJ cZ cQ) (fun (r : Int32) (_ : Nat → Nat) => r = y.1) (fun u : Nat → Nat => (wM h0 u cI cB cJ cZ y.2)) (va_A (wM h0 a cI cB cJ cZ s) sz)) (2 * (gl y.2 - gl s)) (2 * (gl y.2 - gl s)) (va_A (wM h0 a cI cB cJ cZ s) sz)) (hr_M_braces : ∀ (sz : Nat) (h0 : Nat) (a : Nat → Nat) (v1 : Int32) (s : ms) (y : (Int32 × ms)), r_M_braces v1 s = some y → Met l yn_M_braces (xw yn_M_braces bn_M_braces 5 (some .int)) ({ frames := 5 + d, cells := 2 * (gl y.2 - gl s), slots := 2 * (gl y.2 - gl s), locals := 117 + d * 24 }) (dc_P (dC, dI) xcl (xt cI cB cJ cZ cQ) [.ref h0, .int v1] sz (wM h0 a cI cB cJ cZ s)) (xk_Qi (dC, dI) xcl (xt cI cB cJ cZ cQ) (fun (r : Int32) (_ : Nat → Nat) => r = y.1) (fun u : Nat → Nat => (wM h0 u cI cB cJ cZ y.2)) (va_A (wM h0 a cI cB cJ cZ s) sz)) (2 * (gl y.2 - gl s)) (2 * (gl y.2 - gl s)) (va_A (wM h0 a cI cB cJ cZ s) sz)) (sz : Nat) (h0 : Nat) (a : Nat → Nat) (s1 : ms) (y : (Int32 × ms)) (hf : fb_M_primary N r_M_exp r_M_binary r_M_operand r_M_primary r_M_braces s1 = some y) : Met l yn_M_primary (xw yn_M_primary bn_M_primary 4 (some .int)) ({ frames := 5 + (d + 1), cells := 2 * (gl y.2 - gl s1), slots := 2 * (gl y.2 - gl s1), locals := 117 + (d + 1) * 24 }) (dc_P (dC, dI) xcl (xt cI cB cJ cZ cQ) [.ref h0] sz (wM h0 a cI cB cJ cZ s1)) (xk_Qi (dC, dI) xcl (xt cI cB cJ cZ cQ) (fun (r : Int32) (_ : Nat → Nat) => r = y.1) (fun u : Nat → Nat => (wM h0 u cI cB cJ cZ y.2)) (va_A (wM h0 a cI cB cJ cZ s1) sz)) (2 * (gl y.2 - gl s1)) (2 * (gl y.2 - gl s1)) (va_A (wM h0 a cI cB cJ cZ s1) sz) := by
  refine dc_of (QA := xk_Qi (dC, dI) xcl (xt cI cB cJ cZ cQ) (fun (r : Int32) (_ : Nat → Nat) => r = y.1) (fun u : Nat → Nat => (wM h0 u cI cB cJ cZ y.2))) (by decide) (Nat.le_of_ble_eq_true rfl) ?_
  intro p e s0 m below meth c hx hb hml hown hg hr hlocks hin hP hK hN A hA hD hT ls hl
  have hown : s0.vm.findClass rn_M = some m.cls := hown
  obtain ⟨H, hH⟩ : ∃ z, z = s0.heap := ⟨_, rfl⟩
  rw [← hH] at hP
  have hS : va_S A s0.heap H [] := by rw [hH]; exact va_S.rf
  suffices kk : ∀ QQ : State → Prop, QQ = MQ below (xk_Qi (dC, dI) xcl (xt cI cB cJ cZ cQ) (fun (r : Int32) (_ : Nat → Nat) => r = y.1) (fun u : Nat → Nat => (wM h0 u cI cB cJ cZ y.2)) A) [.ref h0].toArray s0 (2 * (gl y.2 - gl s1)) (2 * (gl y.2 - gl s1)) A → gl s1 ≤ gl s1 → dcG p l e ({ frames := 5 + (d + 1), cells := 2 * (gl y.2 - gl s1), slots := 2 * (gl y.2 - gl s1), locals := 117 + (d + 1) * 24 }) s0 m [.ref h0].toArray below meth c QQ (dC, dI) A (fun a => (wM h0 a cI cB cJ cZ s1)) (2 * (gl s1 - gl s1)) 0 4 [(0, .ref h0)] [] by
    have k9 := kk _ rfl (Nat.le_refl _) a H [] ls hP hD hS hl
    rw [hH, Nat.sub_self] at k9; exact k9
  clear hP hD hS hl hH H ls
  intro QQ hQQ
  have bl_269 : ∀ (s : ms), bk_M_primary_269 N r_M_exp r_M_binary r_M_operand r_M_primary r_M_braces s = some y → gl s1 ≤ gl s → dcG p l e ({ frames := 5 + (d + 1), cells := 2 * (gl y.2 - gl s1), slots := 2 * (gl y.2 - gl s1), locals := 117 + (d + 1) * 24 }) s0 m [.ref h0].toArray below meth c QQ (dC, dI) A (fun a => (wM h0 a cI cB cJ cZ s)) (2 * (gl s - gl s1)) 269 4 [] [] := by
    intro s hf hge a H locs ls hP hD hS hl
    have hle := mo_M_primary_269 N r_M_exp r_M_binary r_M_operand r_M_primary r_M_braces hmr_M_exp hmr_M_binary hmr_M_operand hmr_M_primary hmr_M_braces y s hf
    unfold bk_M_primary_269 at hf
    refine lv_iconst (v := 1) hx hb dn_M_primary_269 (by decide) ?_
    rw [hQQ, ← Option.some.inj hf]
    exact xk_iret (w1 := fun u : Nat → Nat => (wM h0 u cI cB cJ cZ s)) a hx hb hr hlocks hK hS dn_M_primary_270 hP hD rfl (Nat.le_refl _) (Nat.le_refl _)
  have bl_254 : ∀ (x2 : Int32) (t0 : Int64) (s : ms), bk_M_primary_254 N r_M_exp r_M_binary r_M_operand r_M_primary r_M_braces x2 t0 s = some y → gl s1 ≤ gl s → dcG p l e ({ frames := 5 + (d + 1), cells := 2 * (gl y.2 - gl s1), slots := 2 * (gl y.2 - gl s1), locals := 117 + (d + 1) * 24 }) s0 m [.ref h0].toArray below meth c QQ (dC, dI) A (fun a => (wM h0 a cI cB cJ cZ s)) (2 * (gl s - gl s1)) 254 4 [(0, .ref h0), (2, .int x2)] [.long t0, .ref h0] := by
    intro x2 t0 s hf hge a H locs ls hP hD hS hl
    have hle := mo_M_primary_254 N r_M_exp r_M_binary r_M_operand r_M_primary r_M_braces hmr_M_exp hmr_M_binary hmr_M_operand hmr_M_primary hmr_M_braces y x2 t0 s hf
    unfold bk_M_primary_254 at hf
    obtain ⟨q_1, hc_2, hf⟩ := dc_b hf
    have hme := mn_M_cost N t0 s q_1 hc_2
    refine dc_callv (dc_runV (ar := 1) (As := [.long t0]) (rest := []) (ci := 0) (q0 := 0) ⟨hx, hb, hml, hown, hg⟩ hK hN hT hS hA (ct_M_cost l dC dI cI cB cJ cZ cQ N H.size h0 a t0 s q_1 hc_2) hP hD rfl rfl wn_10_109 wn_10_111 sn_M_cost wn_1_13 wn_10_112 rfl rfl (by decide +kernel) ⟨dc_ra (Nat.le_of_ble_eq_true rfl), dc_ra (Nat.le_of_ble_eq_true rfl)⟩ rfl hl.1 rfl (Nat.le_of_ble_eq_true rfl) dn_M_primary_254 (dc_rm0 hle)) hP hD hS hA (fun _ H locs hw hP hD hS => ?_)
    refine W.widen (k := 2 * (gl q_1.2 - gl s1)) (n := 2 * (gl q_1.2 - gl s1)) (dc_we hme) (dc_we hme) ?_
    have hge := Nat.le_trans hge (Nat.le_of_eq hme.symm)
    have hle := Nat.le_trans (Nat.le_of_eq hme) hle
    refine lv_aload_n hx hb dn_M_primary_257 rfl (lv_at hl 0 rfl) ?_
    refine lv_iconst (v := 3) hx hb dn_M_primary_258 (by decide) ?_
    refine lv_aload_n hx hb dn_M_primary_259 rfl (lv_at hl 0 rfl) ?_
    refine va_get (D := (dC, dI)) (ci := 0) (v := .ref ((a 20))) (C := rn_M) (T := fn_M) (N := 91) hx hb hg in_M hown hK hP 0 rfl rfl 20 (by decide) (hg _ wn_8_93) (fun _ h9 => h9) rfl dn_M_primary_260 ?_
    refine lv_iload_n hx hb dn_M_primary_263 rfl (lv_at hl 1 rfl) ?_
    obtain ⟨hg_3, hf⟩ := dc_g hf
    refine va_iald hx hb hK hP 11 0 rfl rfl hg_3 dn_M_primary_264 ?_
    refine xk_ti (y := ((q_1.2.1 20) (Int32.toNatClampNeg x2))) rfl ?_
    refine lv_iconst (v := 0) hx hb dn_M_primary_265 (by decide) ?_
    obtain ⟨q_4, hc_5, hf⟩ := dc_b hf
    have hmg := mn_M_lay N 3 (((q_1.2.1 20) (Int32.toNatClampNeg x2))) 0 q_1.2 q_4 hc_5
    have hle2 : gl q_4.2 ≤ gl y.2 := mo_M_primary_269 N r_M_exp r_M_binary r_M_operand r_M_primary r_M_braces hmr_M_exp hmr_M_binary hmr_M_operand hmr_M_primary hmr_M_braces y _ hf
    refine dc_callv (dc_runV (ar := 3) (As := [.int 3, .int (((q_1.2.1 20) (Int32.toNatClampNeg x2))), .int 0]) (rest := []) (ci := 0) (q0 := 0) ⟨hx, hb, hml, hown, hg⟩ hK hN hT hS hA (ct_M_lay l dC dI cI cB cJ cZ cQ N H.size h0 a 3 (((q_1.2.1 20) (Int32.toNatClampNeg x2))) 0 q_1.2 q_4 hc_5) hP hD rfl rfl wn_10_97 wn_10_99 sn_M_lay wn_1_13 wn_10_100 rfl rfl (by decide +kernel) ⟨dc_ra (Nat.le_of_ble_eq_true rfl), dc_ra (Nat.le_of_ble_eq_true rfl)⟩ rfl hl.1 rfl (Nat.le_of_ble_eq_true rfl) dn_M_primary_266 (dc_rm hge hmg hle2)) hP hD hS hA (fun a H locs hw hP hD hS => ?_)
    refine W.widen (k := 2 * (gl q_4.2 - gl s1)) (n := 2 * (gl q_4.2 - gl s1)) (dc_wa hge hmg) (dc_wa hge hmg) ?_
    have hge := Nat.le_trans hge hmg
    have hle := hle2
    exact bl_269 q_4.2 hf hge a H locs ls hP hD hS (lv_sub hl [] rfl)
  have bl_220 : ∀ (x2 : Int32) (t0 : Int32) (s : ms), bk_M_primary_220 N r_M_exp r_M_binary r_M_operand r_M_primary r_M_braces x2 t0 s = some y → gl s1 ≤ gl s → dcG p l e ({ frames := 5 + (d + 1), cells := 2 * (gl y.2 - gl s1), slots := 2 * (gl y.2 - gl s1), locals := 117 + (d + 1) * 24 }) s0 m [.ref h0].toArray below meth c QQ (dC, dI) A (fun a => (wM h0 a cI cB cJ cZ s)) (2 * (gl s - gl s1)) 220 4 [(0, .ref h0), (2, .int x2)] [.int t0] := by
    intro x2 t0 s hf hge a H locs ls hP hD hS hl
    have hle := mo_M_primary_220 N r_M_exp r_M_binary r_M_operand r_M_primary r_M_braces hmr_M_exp hmr_M_binary hmr_M_operand hmr_M_primary hmr_M_braces y x2 t0 s hf
    unfold bk_M_primary_220 at hf
    refine lv_istore_n (lv' := [(3, .int t0), (0, .ref h0), (2, .int x2)]) hx hb dn_M_primary_220 rfl hl (by decide) rfl (fun ls hl => ?_)
    refine lv_aload_n hx hb dn_M_primary_221 rfl (lv_at hl 1 rfl) ?_
    refine lv_dup hx hb dn_M_primary_222 rfl ?_
    refine va_get (D := (dC, dI)) (ci := 0) (v := .int ((s.1 8 0))) (C := rn_M) (T := fn_M) (N := 91) hx hb hg in_M hown hK hP 0 rfl rfl 8 (by decide) (hg _ wn_8_81) (fun _ h9 => h9) rfl dn_M_primary_223 ?_
    refine lv_iconst (v := 1) hx hb dn_M_primary_226 (by decide) ?_
    refine lv_iadd hx hb dn_M_primary_227 ?_
    refine va_put (D := (dC, dI)) (ci := 0) (v := .int (((s.1 8 0) + 1))) (ty := .int) (C := rn_M) (T := fn_M) (N := 91) hx hb hg in_M tn_M tk_M nn_M hown hK hP hD hS 0 rfl rfl 8 (by decide) (hg _ wn_8_81) (fun _ h9 => h9) rfl (tk_M 8 (by decide)) rfl rfl (Nat.le_of_ble_eq_true rfl) dn_M_primary_228 (fun H locs hP hD hS => ?_)
    have hP := wM_P_8 hP
    have hD := wM_D_8 hD
    refine lv_aload_n hx hb dn_M_primary_231 rfl (lv_at hl 1 rfl) ?_
    refine lv_iload_n hx hb dn_M_primary_232 rfl (lv_at hl 0 rfl) ?_
    refine lv_aload_n hx hb dn_M_primary_233 rfl (lv_at hl 1 rfl) ?_
    refine va_get (D := (dC, dI)) (ci := 0) (v := .ref ((a 20))) (C := rn_M) (T := fn_M) (N := 91) hx hb hg in_M hown hK hP 0 rfl rfl 20 (by decide) (hg _ wn_8_93) (fun _ h9 => h9) rfl dn_M_primary_234 ?_
    refine lv_iload_n hx hb dn_M_primary_237 rfl (lv_at hl 2 rfl) ?_
    obtain ⟨hg_1, hf⟩ := dc_g hf
    refine va_iald hx hb hK hP 11 0 rfl rfl hg_1 dn_M_primary_238 ?_
    refine xk_ti (y := ((s.1 20) (Int32.toNatClampNeg x2))) rfl ?_
    refine lv_icmp_le (tgt := 247) hx hb dn_M_primary_239 (by decide) (fun h => ?_) (fun h => ?_)
    · have hf := (if_pos h).symm.trans hf
      refine lv_aload_n hx hb dn_M_primary_247 rfl (lv_at hl 1 rfl) ?_
      refine va_get (D := (dC, dI)) (ci := 0) (v := .ref ((a 20))) (C := rn_M) (T := fn_M) (N := 91) hx hb hg in_M hown hK hP 0 rfl rfl 20 (by decide) (hg _ wn_8_93) (fun _ h9 => h9) rfl dn_M_primary_248 ?_
      refine lv_iload_n hx hb dn_M_primary_251 rfl (lv_at hl 2 rfl) ?_
      obtain ⟨hg_2, hf⟩ := dc_g hf
      refine va_iald hx hb hK hP 11 0 rfl rfl hg_2 dn_M_primary_252 ?_
      refine xk_ti (y := ((s.1 20) (Int32.toNatClampNeg x2))) rfl ?_
      refine lv_i2l (v := Int32.toInt64 (((s.1 20) (Int32.toNatClampNeg x2)))) hx hb dn_M_primary_253 rfl ?_
      exact bl_254 x2 ((Int32.toInt64 (((s.1 20) (Int32.toNatClampNeg x2))))) (upI s 8 (fun _ => ((s.1 8 0) + 1))) hf hge a H locs ls hP hD hS (lv_sub hl [1, 2] rfl)
    · have hf := (if_neg h).symm.trans hf
      refine lv_iload_n hx hb dn_M_primary_242 rfl (lv_at hl 0 rfl) ?_
      refine lv_i2l (v := Int32.toInt64 t0) hx hb dn_M_primary_243 rfl ?_
      refine lv_goto (tgt := 254) hx hb dn_M_primary_244 (by decide) ?_
      exact bl_254 x2 ((Int32.toInt64 t0)) (upI s 8 (fun _ => ((s.1 8 0) + 1))) hf hge a H locs ls hP hD hS (lv_sub hl [1, 2] rfl)
  have bl_192 : ∀ (x3 : Int32) (s : ms), bk_M_primary_192 N r_M_exp r_M_binary r_M_operand r_M_primary r_M_braces x3 s = some y → gl s1 ≤ gl s → dcG p l e ({ frames := 5 + (d + 1), cells := 2 * (gl y.2 - gl s1), slots := 2 * (gl y.2 - gl s1), locals := 117 + (d + 1) * 24 }) s0 m [.ref h0].toArray below meth c QQ (dC, dI) A (fun a => (wM h0 a cI cB cJ cZ s)) (2 * (gl s - gl s1)) 192 4 [(3, .int x3)] [] := by
    intro x3 s hf hge a H locs ls hP hD hS hl
    have hle := mo_M_primary_192 N r_M_exp r_M_binary r_M_operand r_M_primary r_M_braces hmr_M_exp hmr_M_binary hmr_M_operand hmr_M_primary hmr_M_braces y x3 s hf
    unfold bk_M_primary_192 at hf
    refine lv_iload_n hx hb dn_M_primary_192 rfl (lv_at hl 0 rfl) ?_
    refine lv_sipush (v := 256) hx hb dn_M_primary_193 (by decide) ?_
    refine lv_idiv hx hb dn_M_primary_196 (by decide) ?_
    refine lv_iload_n hx hb dn_M_primary_197 rfl (lv_at hl 0 rfl) ?_
    refine lv_sipush (v := 256) hx hb dn_M_primary_198 (by decide) ?_
    refine lv_irem hx hb dn_M_primary_201 (by decide) ?_
    refine lv_isub hx hb dn_M_primary_202 ?_
    refine lv_iconst (v := 1) hx hb dn_M_primary_203 (by decide) ?_
    refine lv_iadd hx hb dn_M_primary_204 ?_
    rw [hQQ, ← Option.some.inj hf]
    exact xk_iret (w1 := fun u : Nat → Nat => (wM h0 u cI cB cJ cZ s)) a hx hb hr hlocks hK hS dn_M_primary_205 hP hD rfl (Nat.le_refl _) (Nat.le_refl _)
  have bl_138 : ∀ (x2 : Int32) (s : ms), bk_M_primary_138 N r_M_exp r_M_binary r_M_operand r_M_primary r_M_braces x2 s = some y → gl s1 ≤ gl s → dcG p l e ({ frames := 5 + (d + 1), cells := 2 * (gl y.2 - gl s1), slots := 2 * (gl y.2 - gl s1), locals := 117 + (d + 1) * 24 }) s0 m [.ref h0].toArray below meth c QQ (dC, dI) A (fun a => (wM h0 a cI cB cJ cZ s)) (2 * (gl s - gl s1)) 138 4 [(0, .ref h0), (2, .int x2)] [] := by
    intro x2 s hf hge a H locs ls hP hD hS hl
    have hle := mo_M_primary_138 N r_M_exp r_M_binary r_M_operand r_M_primary r_M_braces hmr_M_exp hmr_M_binary hmr_M_operand hmr_M_primary hmr_M_braces y x2 s hf
    unfold bk_M_primary_138 at hf
    refine lv_aload_n hx hb dn_M_primary_138 rfl (lv_at hl 0 rfl) ?_
    obtain ⟨q_1, hc_2, hf⟩ := dc_b hf
    have hme := mn_M_kind N s q_1 hc_2
    refine dc_calli (dc_runV (ar := 0) (As := []) (rest := []) (ci := 0) (q0 := 0) ⟨hx, hb, hml, hown, hg⟩ hK hN hT hS hA (ct_M_kind l dC dI cI cB cJ cZ cQ N H.size h0 a s q_1 hc_2) hP hD rfl rfl wn_9_214 wn_9_216 sn_M_kind wn_1_13 wn_9_217 rfl rfl (by decide +kernel) ⟨dc_ra (Nat.le_of_ble_eq_true rfl), dc_ra (Nat.le_of_ble_eq_true rfl)⟩ rfl hl.1 rfl (Nat.le_of_ble_eq_true rfl) dn_M_primary_139 (dc_rm0 hle)) hP hD hS hA (fun r_3 _ H locs hw hP hD hS => ?_)
    refine W.widen (k := 2 * (gl q_1.2 - gl s1)) (n := 2 * (gl q_1.2 - gl s1)) (dc_we hme) (dc_we hme) ?_
    have hge := Nat.le_trans hge (Nat.le_of_eq hme.symm)
    have hle := Nat.le_trans (Nat.le_of_eq hme) hle
    have hw : r_3 = q_1.1 := hw
    subst hw
    refine lv_bipush (v := 91) hx hb dn_M_primary_142 (by decide) ?_
    refine lv_icmp_eq (tgt := 154) hx hb dn_M_primary_144 (by decide) (fun h => ?_) (fun h => ?_)
    · have hf := (if_pos h).symm.trans hf
      refine lv_aload_n hx hb dn_M_primary_154 rfl (lv_at hl 0 rfl) ?_
      refine va_get (D := (dC, dI)) (ci := 0) (v := .ref ((a 4))) (C := rn_M) (T := fn_M) (N := 91) hx hb hg in_M hown hK hP 0 rfl rfl 4 (by decide) (hg _ wn_8_77) (fun _ h9 => h9) rfl dn_M_primary_155 ?_
      refine lv_aload_n hx hb dn_M_primary_158 rfl (lv_at hl 0 rfl) ?_
      refine va_get (D := (dC, dI)) (ci := 0) (v := .int ((q_1.2.1 8 0))) (C := rn_M) (T := fn_M) (N := 91) hx hb hg in_M hown hK hP 0 rfl rfl 8 (by decide) (hg _ wn_8_81) (fun _ h9 => h9) rfl dn_M_primary_159 ?_
      refine lv_iconst (v := 1) hx hb dn_M_primary_162 (by decide) ?_
      refine lv_iadd hx hb dn_M_primary_163 ?_
      obtain ⟨hg_4, hf⟩ := dc_g hf
      refine va_iald hx hb hK hP 2 0 rfl rfl hg_4 dn_M_primary_164 ?_
      refine xk_ti (y := ((q_1.2.1 4) (Int32.toNatClampNeg (((q_1.2.1 8 0) + 1))))) rfl ?_
      refine lv_sipush (v := 401) hx hb dn_M_primary_165 (by decide) ?_
      refine lv_icmp_ne (tgt := 206) hx hb dn_M_primary_168 (by decide) (fun h => ?_) (fun h => ?_)
      · have hf := (if_neg h).symm.trans hf
        refine lv_aload_n hx hb dn_M_primary_206 rfl (lv_at hl 0 rfl) ?_
        refine lv_dup hx hb dn_M_primary_207 rfl ?_
        refine va_get (D := (dC, dI)) (ci := 0) (v := .int ((q_1.2.1 8 0))) (C := rn_M) (T := fn_M) (N := 91) hx hb hg in_M hown hK hP 0 rfl rfl 8 (by decide) (hg _ wn_8_81) (fun _ h9 => h9) rfl dn_M_primary_208 ?_
        refine lv_iconst (v := 1) hx hb dn_M_primary_211 (by decide) ?_
        refine lv_iadd hx hb dn_M_primary_212 ?_
        refine va_put (D := (dC, dI)) (ci := 0) (v := .int (((q_1.2.1 8 0) + 1))) (ty := .int) (C := rn_M) (T := fn_M) (N := 91) hx hb hg in_M tn_M tk_M nn_M hown hK hP hD hS 0 rfl rfl 8 (by decide) (hg _ wn_8_81) (fun _ h9 => h9) rfl (tk_M 8 (by decide)) rfl rfl (Nat.le_of_ble_eq_true rfl) dn_M_primary_213 (fun H locs hP hD hS => ?_)
        have hP := wM_P_8 hP
        have hD := wM_D_8 hD
        refine lv_aload_n hx hb dn_M_primary_216 rfl (lv_at hl 0 rfl) ?_
        obtain ⟨q_5, hc_6, hf⟩ := dc_b hf
        have hmg := hmr_M_exp (upI q_1.2 8 (fun _ => ((q_1.2.1 8 0) + 1))) q_5 hc_6
        have hle2 : gl q_5.2 ≤ gl y.2 := mo_M_primary_220 N r_M_exp r_M_binary r_M_operand r_M_primary r_M_braces hmr_M_exp hmr_M_binary hmr_M_operand hmr_M_primary hmr_M_braces y _ _ _ hf
        refine dc_calli (dc_runV (ar := 0) (As := []) (rest := []) (ci := 0) (q0 := 0) ⟨hx, hb, hml, hown, hg⟩ hK hN hT hS hA (hr_M_exp H.size h0 a (upI q_1.2 8 (fun _ => ((q_1.2.1 8 0) + 1))) q_5 hc_6) hP hD rfl rfl wn_10_77 wn_10_79 sn_M_exp wn_1_13 wn_10_80 rfl rfl (by decide +kernel) ⟨Nat.le_refl _, dc_lm (Nat.le_of_ble_eq_true rfl)⟩ rfl hl.1 rfl (Nat.le_of_ble_eq_true rfl) dn_M_primary_217 (dc_rm hge hmg hle2)) hP hD hS hA (fun r_7 a H locs hw hP hD hS => ?_)
        refine W.widen (k := 2 * (gl q_5.2 - gl s1)) (n := 2 * (gl q_5.2 - gl s1)) (dc_wa hge hmg) (dc_wa hge hmg) ?_
        have hge := Nat.le_trans hge hmg
        have hle := hle2
        have hw : r_7 = q_5.1 := hw
        subst hw
        exact bl_220 x2 q_5.1 q_5.2 hf hge a H locs ls hP hD hS hl
      · have hf := (if_pos h).symm.trans hf
        refine lv_aload_n hx hb dn_M_primary_171 rfl (lv_at hl 0 rfl) ?_
        refine lv_iload_n hx hb dn_M_primary_172 rfl (lv_at hl 1 rfl) ?_
        obtain ⟨q_5, hc_6, hf⟩ := dc_b hf
        have hme := mn_M_part N x2 q_1.2 q_5 hc_6
        refine dc_calli (dc_runV (ar := 1) (As := [.int x2]) (rest := []) (ci := 0) (q0 := 0) ⟨hx, hb, hml, hown, hg⟩ hK hN hT hS hA (ct_M_part l dC dI cI cB cJ cZ cQ N H.size h0 a x2 q_1.2 q_5 hc_6) hP hD rfl rfl wn_10_105 wn_10_107 sn_M_part wn_1_13 wn_10_108 rfl rfl (by decide +kernel) ⟨dc_ra (Nat.le_of_ble_eq_true rfl), dc_ra (Nat.le_of_ble_eq_true rfl)⟩ rfl hl.1 rfl (Nat.le_of_ble_eq_true rfl) dn_M_primary_173 (dc_rm0 hle)) hP hD hS hA (fun r_7 _ H locs hw hP hD hS => ?_)
        refine W.widen (k := 2 * (gl q_5.2 - gl s1)) (n := 2 * (gl q_5.2 - gl s1)) (dc_we hme) (dc_we hme) ?_
        have hge := Nat.le_trans hge (Nat.le_of_eq hme.symm)
        have hle := Nat.le_trans (Nat.le_of_eq hme) hle
        have hw : r_7 = q_5.1 := hw
        subst hw
        refine lv_istore_n (lv' := [(3, .int q_5.1), (0, .ref h0), (2, .int x2)]) hx hb dn_M_primary_176 rfl hl (by decide) rfl (fun ls hl => ?_)
        refine lv_aload_n hx hb dn_M_primary_177 rfl (lv_at hl 1 rfl) ?_
        refine lv_iconst (v := 2) hx hb dn_M_primary_178 (by decide) ?_
        refine lv_iload_n hx hb dn_M_primary_179 rfl (lv_at hl 0 rfl) ?_
        refine lv_sipush (v := 256) hx hb dn_M_primary_180 (by decide) ?_
        refine lv_idiv hx hb dn_M_primary_183 (by decide) ?_
        refine lv_iload_n hx hb dn_M_primary_184 rfl (lv_at hl 0 rfl) ?_
        refine lv_sipush (v := 256) hx hb dn_M_primary_185 (by decide) ?_
        refine lv_irem hx hb dn_M_primary_188 (by decide) ?_
        obtain ⟨q_8, hc_9, hf⟩ := dc_b hf
        have hmg := mn_M_lay N 2 ((q_5.1 / 256)) ((q_5.1 - q_5.1 / 256 * 256)) q_5.2 q_8 hc_9
        have hle2 : gl q_8.2 ≤ gl y.2 := mo_M_primary_192 N r_M_exp r_M_binary r_M_operand r_M_primary r_M_braces hmr_M_exp hmr_M_binary hmr_M_operand hmr_M_primary hmr_M_braces y _ _ hf
        refine dc_callv (dc_runV (ar := 3) (As := [.int 2, .int ((q_5.1 / 256)), .int ((q_5.1 - q_5.1 / 256 * 256))]) (rest := []) (ci := 0) (q0 := 0) ⟨hx, hb, hml, hown, hg⟩ hK hN hT hS hA (ct_M_lay l dC dI cI cB cJ cZ cQ N H.size h0 a 2 ((q_5.1 / 256)) ((q_5.1 - q_5.1 / 256 * 256)) q_5.2 q_8 hc_9) hP hD rfl rfl wn_10_97 wn_10_99 sn_M_lay wn_1_13 wn_10_100 rfl rfl (by decide +kernel) ⟨dc_ra (Nat.le_of_ble_eq_true rfl), dc_ra (Nat.le_of_ble_eq_true rfl)⟩ rfl hl.1 rfl (Nat.le_of_ble_eq_true rfl) dn_M_primary_189 (dc_rm hge hmg hle2)) hP hD hS hA (fun a H locs hw hP hD hS => ?_)
        refine W.widen (k := 2 * (gl q_8.2 - gl s1)) (n := 2 * (gl q_8.2 - gl s1)) (dc_wa hge hmg) (dc_wa hge hmg) ?_
        have hge := Nat.le_trans hge hmg
        have hle := hle2
        exact bl_192 q_5.1 q_8.2 hf hge a H locs ls hP hD hS (lv_sub hl [0] rfl)
    · have hf := (if_neg h).symm.trans hf
      refine lv_aload_n hx hb dn_M_primary_147 rfl (lv_at hl 0 rfl) ?_
      refine va_get (D := (dC, dI)) (ci := 0) (v := .ref ((a 20))) (C := rn_M) (T := fn_M) (N := 91) hx hb hg in_M hown hK hP 0 rfl rfl 20 (by decide) (hg _ wn_8_93) (fun _ h9 => h9) rfl dn_M_primary_148 ?_
      refine lv_iload_n hx hb dn_M_primary_151 rfl (lv_at hl 1 rfl) ?_
      obtain ⟨hg_4, hf⟩ := dc_g hf
      refine va_iald hx hb hK hP 11 0 rfl rfl hg_4 dn_M_primary_152 ?_
      refine xk_ti (y := ((q_1.2.1 20) (Int32.toNatClampNeg x2))) rfl ?_
      rw [hQQ, ← Option.some.inj hf]
      exact xk_iret (w1 := fun u : Nat → Nat => (wM h0 u cI cB cJ cZ q_1.2)) a hx hb hr hlocks hK hS dn_M_primary_153 hP hD rfl (Nat.le_refl _) (Nat.le_refl _)
  have bl_106 : ∀ (t0 : Int32) (s : ms), bk_M_primary_106 N r_M_exp r_M_binary r_M_operand r_M_primary r_M_braces t0 s = some y → gl s1 ≤ gl s → dcG p l e ({ frames := 5 + (d + 1), cells := 2 * (gl y.2 - gl s1), slots := 2 * (gl y.2 - gl s1), locals := 117 + (d + 1) * 24 }) s0 m [.ref h0].toArray below meth c QQ (dC, dI) A (fun a => (wM h0 a cI cB cJ cZ s)) (2 * (gl s - gl s1)) 106 4 [] [.int t0] := by
    intro t0 s hf hge a H locs ls hP hD hS hl
    have hle := mo_M_primary_106 N r_M_exp r_M_binary r_M_operand r_M_primary r_M_braces hmr_M_exp hmr_M_binary hmr_M_operand hmr_M_primary hmr_M_braces y t0 s hf
    unfold bk_M_primary_106 at hf
    rw [hQQ, ← Option.some.inj hf]
    exact xk_iret (w1 := fun u : Nat → Nat => (wM h0 u cI cB cJ cZ s)) a hx hb hr hlocks hK hS dn_M_primary_106 hP hD rfl (Nat.le_refl _) (Nat.le_refl _)
  have bl_72 : ∀ (t0 : Int32) (s : ms), bk_M_primary_72 N r_M_exp r_M_binary r_M_operand r_M_primary r_M_braces t0 s = some y → gl s1 ≤ gl s → dcG p l e ({ frames := 5 + (d + 1), cells := 2 * (gl y.2 - gl s1), slots := 2 * (gl y.2 - gl s1), locals := 117 + (d + 1) * 24 }) s0 m [.ref h0].toArray below meth c QQ (dC, dI) A (fun a => (wM h0 a cI cB cJ cZ s)) (2 * (gl s - gl s1)) 72 4 [(0, .ref h0)] [.int t0] := by
    intro t0 s hf hge a H locs ls hP hD hS hl
    have hle := mo_M_primary_72 N r_M_exp r_M_binary r_M_operand r_M_primary r_M_braces hmr_M_exp hmr_M_binary hmr_M_operand hmr_M_primary hmr_M_braces y t0 s hf
    unfold bk_M_primary_72 at hf
    refine lv_istore_n (lv' := [(2, .int t0), (0, .ref h0)]) hx hb dn_M_primary_72 rfl hl (by decide) rfl (fun ls hl => ?_)
    refine lv_aload_n hx hb dn_M_primary_73 rfl (lv_at hl 1 rfl) ?_
    refine lv_dup hx hb dn_M_primary_74 rfl ?_
    refine va_get (D := (dC, dI)) (ci := 0) (v := .int ((s.1 8 0))) (C := rn_M) (T := fn_M) (N := 91) hx hb hg in_M hown hK hP 0 rfl rfl 8 (by decide) (hg _ wn_8_81) (fun _ h9 => h9) rfl dn_M_primary_75 ?_
    refine lv_iconst (v := 1) hx hb dn_M_primary_78 (by decide) ?_
    refine lv_iadd hx hb dn_M_primary_79 ?_
    refine va_put (D := (dC, dI)) (ci := 0) (v := .int (((s.1 8 0) + 1))) (ty := .int) (C := rn_M) (T := fn_M) (N := 91) hx hb hg in_M tn_M tk_M nn_M hown hK hP hD hS 0 rfl rfl 8 (by decide) (hg _ wn_8_81) (fun _ h9 => h9) rfl (tk_M 8 (by decide)) rfl rfl (Nat.le_of_ble_eq_true rfl) dn_M_primary_80 (fun H locs hP hD hS => ?_)
    have hP := wM_P_8 hP
    have hD := wM_D_8 hD
    refine lv_iload_n hx hb dn_M_primary_83 rfl (lv_at hl 0 rfl) ?_
    rw [hQQ, ← Option.some.inj hf]
    exact xk_iret (w1 := fun u : Nat → Nat => (wM h0 u cI cB cJ cZ (upI s 8 (fun _ => ((s.1 8 0) + 1))))) a hx hb hr hlocks hK hS dn_M_primary_84 hP hD rfl (Nat.le_refl _) (Nat.le_refl _)
  have bl_51 : ∀ (x1 : Int32) (s : ms), bk_M_primary_51 N r_M_exp r_M_binary r_M_operand r_M_primary r_M_braces x1 s = some y → gl s1 ≤ gl s → dcG p l e ({ frames := 5 + (d + 1), cells := 2 * (gl y.2 - gl s1), slots := 2 * (gl y.2 - gl s1), locals := 117 + (d + 1) * 24 }) s0 m [.ref h0].toArray below meth c QQ (dC, dI) A (fun a => (wM h0 a cI cB cJ cZ s)) (2 * (gl s - gl s1)) 51 4 [(0, .ref h0), (1, .int x1)] [] := by
    intro x1 s hf hge a H locs ls hP hD hS hl
    have hle := mo_M_primary_51 N r_M_exp r_M_binary r_M_operand r_M_primary r_M_braces hmr_M_exp hmr_M_binary hmr_M_operand hmr_M_primary hmr_M_braces y x1 s hf
    unfold bk_M_primary_51 at hf
    refine lv_aload_n hx hb dn_M_primary_51 rfl (lv_at hl 0 rfl) ?_
    refine lv_iload_n hx hb dn_M_primary_52 rfl (lv_at hl 1 rfl) ?_
    obtain ⟨q_1, hc_2, hf⟩ := dc_b hf
    have hme := mn_M_widthOfNumber N x1 s q_1 hc_2
    refine dc_calli (dc_runV (ar := 1) (As := [.int x1]) (rest := []) (ci := 0) (q0 := 0) ⟨hx, hb, hml, hown, hg⟩ hK hN hT hS hA (ct_M_widthOfNumber l dC dI cI cB cJ cZ cQ N H.size h0 a x1 s q_1 hc_2) hP hD rfl rfl wn_10_61 wn_10_63 sn_M_widthOfNumber wn_1_13 wn_10_64 rfl rfl (by decide +kernel) ⟨dc_ra (Nat.le_of_ble_eq_true rfl), dc_ra (Nat.le_of_ble_eq_true rfl)⟩ rfl hl.1 rfl (Nat.le_of_ble_eq_true rfl) dn_M_primary_53 (dc_rm0 hle)) hP hD hS hA (fun r_3 _ H locs hw hP hD hS => ?_)
    refine W.widen (k := 2 * (gl q_1.2 - gl s1)) (n := 2 * (gl q_1.2 - gl s1)) (dc_we hme) (dc_we hme) ?_
    have hge := Nat.le_trans hge (Nat.le_of_eq hme.symm)
    have hle := Nat.le_trans (Nat.le_of_eq hme) hle
    have hw : r_3 = q_1.1 := hw
    subst hw
    rw [hQQ, ← Option.some.inj hf]
    exact xk_iret (w1 := fun u : Nat → Nat => (wM h0 u cI cB cJ cZ q_1.2)) a hx hb hr hlocks hK hS dn_M_primary_56 hP hD rfl (Nat.le_refl _) (Nat.le_refl _)
  have bl_47 : ∀ (x1 : Int32) (t0 : Int32) (t1 : Int32) (s : ms), bk_M_primary_47 N r_M_exp r_M_binary r_M_operand r_M_primary r_M_braces x1 t0 t1 s = some y → gl s1 ≤ gl s → dcG p l e ({ frames := 5 + (d + 1), cells := 2 * (gl y.2 - gl s1), slots := 2 * (gl y.2 - gl s1), locals := 117 + (d + 1) * 24 }) s0 m [.ref h0].toArray below meth c QQ (dC, dI) A (fun a => (wM h0 a cI cB cJ cZ s)) (2 * (gl s - gl s1)) 47 4 [(0, .ref h0), (1, .int x1)] [.int t0, .int t1, .ref h0] := by
    intro x1 t0 t1 s hf hge a H locs ls hP hD hS hl
    have hle := mo_M_primary_47 N r_M_exp r_M_binary r_M_operand r_M_primary r_M_braces hmr_M_exp hmr_M_binary hmr_M_operand hmr_M_primary hmr_M_braces y x1 t0 t1 s hf
    unfold bk_M_primary_47 at hf
    refine lv_iconst (v := 0) hx hb dn_M_primary_47 (by decide) ?_
    obtain ⟨q_1, hc_2, hf⟩ := dc_b hf
    have hmg := mn_M_lay N t1 t0 0 s q_1 hc_2
    have hle2 : gl q_1.2 ≤ gl y.2 := mo_M_primary_51 N r_M_exp r_M_binary r_M_operand r_M_primary r_M_braces hmr_M_exp hmr_M_binary hmr_M_operand hmr_M_primary hmr_M_braces y _ _ hf
    refine dc_callv (dc_runV (ar := 3) (As := [.int t1, .int t0, .int 0]) (rest := []) (ci := 0) (q0 := 0) ⟨hx, hb, hml, hown, hg⟩ hK hN hT hS hA (ct_M_lay l dC dI cI cB cJ cZ cQ N H.size h0 a t1 t0 0 s q_1 hc_2) hP hD rfl rfl wn_10_97 wn_10_99 sn_M_lay wn_1_13 wn_10_100 rfl rfl (by decide +kernel) ⟨dc_ra (Nat.le_of_ble_eq_true rfl), dc_ra (Nat.le_of_ble_eq_true rfl)⟩ rfl hl.1 rfl (Nat.le_of_ble_eq_true rfl) dn_M_primary_48 (dc_rm hge hmg hle2)) hP hD hS hA (fun a H locs hw hP hD hS => ?_)
    refine W.widen (k := 2 * (gl q_1.2 - gl s1)) (n := 2 * (gl q_1.2 - gl s1)) (dc_wa hge hmg) (dc_wa hge hmg) ?_
    have hge := Nat.le_trans hge hmg
    have hle := hle2
    exact bl_51 x1 q_1.2 hf hge a H locs ls hP hD hS hl
  intro hge a H locs ls hP hD hS hl
  have hle := mf_M_primary N r_M_exp r_M_binary r_M_operand r_M_primary r_M_braces hmr_M_exp hmr_M_binary hmr_M_operand hmr_M_primary hmr_M_braces s1 y hf
  unfold fb_M_primary at hf
  refine lv_aload_n hx hb dn_M_primary_0 rfl (lv_at hl 0 rfl) ?_
  refine va_get (D := (dC, dI)) (ci := 0) (v := .int ((s1.1 9 0))) (C := rn_M) (T := fn_M) (N := 91) hx hb hg in_M hown hK hP 0 rfl rfl 9 (by decide) (hg _ wn_8_82) (fun _ h9 => h9) rfl dn_M_primary_1 ?_
  refine lv_if_eq (tgt := 9) hx hb dn_M_primary_4 (by decide) (fun h => ?_) (fun h => ?_)
  · have hf := (if_pos h).symm.trans hf
    refine lv_aload_n hx hb dn_M_primary_9 rfl (lv_at hl 0 rfl) ?_
    refine va_get (D := (dC, dI)) (ci := 0) (v := .int ((s1.1 8 0))) (C := rn_M) (T := fn_M) (N := 91) hx hb hg in_M hown hK hP 0 rfl rfl 8 (by decide) (hg _ wn_8_81) (fun _ h9 => h9) rfl dn_M_primary_10 ?_
    refine lv_istore_n (lv' := [(1, .int ((s1.1 8 0))), (0, .ref h0)]) hx hb dn_M_primary_13 rfl hl (by decide) rfl (fun ls hl => ?_)
    refine lv_aload_n hx hb dn_M_primary_14 rfl (lv_at hl 1 rfl) ?_
    refine lv_dup hx hb dn_M_primary_15 rfl ?_
    refine va_get (D := (dC, dI)) (ci := 0) (v := .int ((s1.1 8 0))) (C := rn_M) (T := fn_M) (N := 91) hx hb hg in_M hown hK hP 0 rfl rfl 8 (by decide) (hg _ wn_8_81) (fun _ h9 => h9) rfl dn_M_primary_16 ?_
    refine lv_iconst (v := 1) hx hb dn_M_primary_19 (by decide) ?_
    refine lv_iadd hx hb dn_M_primary_20 ?_
    refine va_put (D := (dC, dI)) (ci := 0) (v := .int (((s1.1 8 0) + 1))) (ty := .int) (C := rn_M) (T := fn_M) (N := 91) hx hb hg in_M tn_M tk_M nn_M hown hK hP hD hS 0 rfl rfl 8 (by decide) (hg _ wn_8_81) (fun _ h9 => h9) rfl (tk_M 8 (by decide)) rfl rfl (Nat.le_of_ble_eq_true rfl) dn_M_primary_21 (fun H locs hP hD hS => ?_)
    have hP := wM_P_8 hP
    have hD := wM_D_8 hD
    refine lv_aload_n hx hb dn_M_primary_24 rfl (lv_at hl 1 rfl) ?_
    refine va_get (D := (dC, dI)) (ci := 0) (v := .ref ((a 4))) (C := rn_M) (T := fn_M) (N := 91) hx hb hg in_M hown hK hP 0 rfl rfl 4 (by decide) (hg _ wn_8_77) (fun _ h9 => h9) rfl dn_M_primary_25 ?_
    refine lv_iload_n hx hb dn_M_primary_28 rfl (lv_at hl 0 rfl) ?_
    obtain ⟨hg_1, hf⟩ := dc_g hf
    refine va_iald hx hb hK hP 2 0 rfl rfl hg_1 dn_M_primary_29 ?_
    refine xk_ti (y := ((s1.1 4) (Int32.toNatClampNeg ((s1.1 8 0))))) rfl ?_
    refine lv_sipush (v := 402) hx hb dn_M_primary_30 (by decide) ?_
    refine lv_icmp_ne (tgt := 57) hx hb dn_M_primary_33 (by decide) (fun h => ?_) (fun h => ?_)
    · have hf := (if_neg h).symm.trans hf
      refine lv_aload_n hx hb dn_M_primary_57 rfl (lv_at hl 1 rfl) ?_
      refine va_get (D := (dC, dI)) (ci := 0) (v := .ref ((a 4))) (C := rn_M) (T := fn_M) (N := 91) hx hb hg in_M hown hK hP 0 rfl rfl 4 (by decide) (hg _ wn_8_77) (fun _ h9 => h9) rfl dn_M_primary_58 ?_
      refine lv_iload_n hx hb dn_M_primary_61 rfl (lv_at hl 0 rfl) ?_
      obtain ⟨hg_2, hf⟩ := dc_g hf
      refine va_iald hx hb hK hP 2 0 rfl rfl hg_2 dn_M_primary_62 ?_
      refine xk_ti (y := ((s1.1 4) (Int32.toNatClampNeg ((s1.1 8 0))))) rfl ?_
      refine lv_bipush (v := 40) hx hb dn_M_primary_63 (by decide) ?_
      refine lv_icmp_ne (tgt := 85) hx hb dn_M_primary_65 (by decide) (fun h => ?_) (fun h => ?_)
      · have hf := (if_neg h).symm.trans hf
        refine lv_aload_n hx hb dn_M_primary_85 rfl (lv_at hl 1 rfl) ?_
        refine va_get (D := (dC, dI)) (ci := 0) (v := .ref ((a 4))) (C := rn_M) (T := fn_M) (N := 91) hx hb hg in_M hown hK hP 0 rfl rfl 4 (by decide) (hg _ wn_8_77) (fun _ h9 => h9) rfl dn_M_primary_86 ?_
        refine lv_iload_n hx hb dn_M_primary_89 rfl (lv_at hl 0 rfl) ?_
        obtain ⟨hg_3, hf⟩ := dc_g hf
        refine va_iald hx hb hK hP 2 0 rfl rfl hg_3 dn_M_primary_90 ?_
        refine xk_ti (y := ((s1.1 4) (Int32.toNatClampNeg ((s1.1 8 0))))) rfl ?_
        refine lv_bipush (v := 123) hx hb dn_M_primary_91 (by decide) ?_
        refine lv_icmp_ne (tgt := 107) hx hb dn_M_primary_93 (by decide) (fun h => ?_) (fun h => ?_)
        · have hf := (if_neg h).symm.trans hf
          refine lv_aload_n hx hb dn_M_primary_107 rfl (lv_at hl 1 rfl) ?_
          refine lv_iload_n hx hb dn_M_primary_108 rfl (lv_at hl 0 rfl) ?_
          obtain ⟨q_4, hc_5, hf⟩ := dc_b hf
          have hme := mn_M_here N ((s1.1 8 0)) (upI s1 8 (fun _ => ((s1.1 8 0) + 1))) q_4 hc_5
          refine dc_calli (dc_runV (ar := 1) (As := [.int ((s1.1 8 0))]) (rest := []) (ci := 0) (q0 := 0) ⟨hx, hb, hml, hown, hg⟩ hK hN hT hS hA (ct_M_here l dC dI cI cB cJ cZ cQ N H.size h0 a ((s1.1 8 0)) (upI s1 8 (fun _ => ((s1.1 8 0) + 1))) q_4 hc_5) hP hD rfl rfl wn_10_49 wn_10_51 sn_M_here wn_1_13 wn_10_52 rfl rfl (by decide +kernel) ⟨dc_ra (Nat.le_of_ble_eq_true rfl), dc_ra (Nat.le_of_ble_eq_true rfl)⟩ rfl hl.1 rfl (Nat.le_of_ble_eq_true rfl) dn_M_primary_109 (dc_rm0 hle)) hP hD hS hA (fun r_6 _ H locs hw hP hD hS => ?_)
          refine W.widen (k := 2 * (gl q_4.2 - gl s1)) (n := 2 * (gl q_4.2 - gl s1)) (dc_we hme) (dc_we hme) ?_
          have hge := Nat.le_trans hge (Nat.le_of_eq hme.symm)
          have hle := Nat.le_trans (Nat.le_of_eq hme) hle
          have hw : r_6 = q_4.1 := hw
          subst hw
          refine lv_istore_n (lv' := [(2, .int q_4.1), (1, .int ((s1.1 8 0))), (0, .ref h0)]) hx hb dn_M_primary_112 rfl hl (by decide) rfl (fun ls hl => ?_)
          refine lv_iload_n hx hb dn_M_primary_113 rfl (lv_at hl 0 rfl) ?_
          refine lv_if_ge (tgt := 131) hx hb dn_M_primary_114 (by decide) (fun h => ?_) (fun h => ?_)
          · have hf := (if_pos h).symm.trans hf
            refine lv_aload_n hx hb dn_M_primary_131 rfl (lv_at hl 2 rfl) ?_
            refine lv_iconst (v := 1) hx hb dn_M_primary_132 (by decide) ?_
            refine lv_iload_n hx hb dn_M_primary_133 rfl (lv_at hl 0 rfl) ?_
            refine lv_iconst (v := 0) hx hb dn_M_primary_134 (by decide) ?_
            obtain ⟨q_7, hc_8, hf⟩ := dc_b hf
            have hmg := mn_M_lay N 1 q_4.1 0 q_4.2 q_7 hc_8
            have hle2 : gl q_7.2 ≤ gl y.2 := mo_M_primary_138 N r_M_exp r_M_binary r_M_operand r_M_primary r_M_braces hmr_M_exp hmr_M_binary hmr_M_operand hmr_M_primary hmr_M_braces y _ _ hf
            refine dc_callv (dc_runV (ar := 3) (As := [.int 1, .int q_4.1, .int 0]) (rest := []) (ci := 0) (q0 := 0) ⟨hx, hb, hml, hown, hg⟩ hK hN hT hS hA (ct_M_lay l dC dI cI cB cJ cZ cQ N H.size h0 a 1 q_4.1 0 q_4.2 q_7 hc_8) hP hD rfl rfl wn_10_97 wn_10_99 sn_M_lay wn_1_13 wn_10_100 rfl rfl (by decide +kernel) ⟨dc_ra (Nat.le_of_ble_eq_true rfl), dc_ra (Nat.le_of_ble_eq_true rfl)⟩ rfl hl.1 rfl (Nat.le_of_ble_eq_true rfl) dn_M_primary_135 (dc_rm hge hmg hle2)) hP hD hS hA (fun a H locs hw hP hD hS => ?_)
            refine W.widen (k := 2 * (gl q_7.2 - gl s1)) (n := 2 * (gl q_7.2 - gl s1)) (dc_wa hge hmg) (dc_wa hge hmg) ?_
            have hge := Nat.le_trans hge hmg
            have hle := hle2
            exact bl_138 q_4.1 q_7.2 hf hge a H locs ls hP hD hS (lv_sub hl [2, 0] rfl)
          · have hf := (if_neg h).symm.trans hf
            refine lv_aload_n hx hb dn_M_primary_117 rfl (lv_at hl 2 rfl) ?_
            refine lv_bipush (v := 22) hx hb dn_M_primary_118 (by decide) ?_
            refine lv_aload_n hx hb dn_M_primary_120 rfl (lv_at hl 2 rfl) ?_
            refine va_get (D := (dC, dI)) (ci := 0) (v := .ref ((a 5))) (C := rn_M) (T := fn_M) (N := 91) hx hb hg in_M hown hK hP 0 rfl rfl 5 (by decide) (hg _ wn_8_78) (fun _ h9 => h9) rfl dn_M_primary_121 ?_
            refine lv_iload_n hx hb dn_M_primary_124 rfl (lv_at hl 1 rfl) ?_
            obtain ⟨hg_7, hf⟩ := dc_g hf
            refine va_iald hx hb hK hP 3 0 rfl rfl hg_7 dn_M_primary_125 ?_
            refine xk_ti (y := ((q_4.2.1 5) (Int32.toNatClampNeg ((s1.1 8 0))))) rfl ?_
            obtain ⟨q_8, hc_9, hf⟩ := dc_b hf
            have hme := mn_M_fail N 22 (((q_4.2.1 5) (Int32.toNatClampNeg ((s1.1 8 0))))) q_4.2 q_8 hc_9
            refine dc_callv (dc_runV (ar := 2) (As := [.int 22, .int (((q_4.2.1 5) (Int32.toNatClampNeg ((s1.1 8 0)))))]) (rest := []) (ci := 0) (q0 := 0) ⟨hx, hb, hml, hown, hg⟩ hK hN hT hS hA (ct_M_fail l dC dI cI cB cJ cZ cQ N H.size h0 a 22 (((q_4.2.1 5) (Int32.toNatClampNeg ((s1.1 8 0))))) q_4.2 q_8 hc_9) hP hD rfl rfl wn_9_186 wn_9_188 sn_M_fail wn_1_13 wn_9_189 rfl rfl (by decide +kernel) ⟨dc_ra (Nat.le_of_ble_eq_true rfl), dc_ra (Nat.le_of_ble_eq_true rfl)⟩ rfl hl.1 rfl (Nat.le_of_ble_eq_true rfl) dn_M_primary_126 (dc_rm0 hle)) hP hD hS hA (fun _ H locs hw hP hD hS => ?_)
            refine W.widen (k := 2 * (gl q_8.2 - gl s1)) (n := 2 * (gl q_8.2 - gl s1)) (dc_we hme) (dc_we hme) ?_
            have hge := Nat.le_trans hge (Nat.le_of_eq hme.symm)
            have hle := Nat.le_trans (Nat.le_of_eq hme) hle
            refine lv_iconst (v := 1) hx hb dn_M_primary_129 (by decide) ?_
            rw [hQQ, ← Option.some.inj hf]
            exact xk_iret (w1 := fun u : Nat → Nat => (wM h0 u cI cB cJ cZ q_8.2)) a hx hb hr hlocks hK hS dn_M_primary_130 hP hD rfl (Nat.le_refl _) (Nat.le_refl _)
        · have hf := (if_pos h).symm.trans hf
          refine lv_aload_n hx hb dn_M_primary_96 rfl (lv_at hl 1 rfl) ?_
          refine lv_aload_n hx hb dn_M_primary_97 rfl (lv_at hl 1 rfl) ?_
          refine va_get (D := (dC, dI)) (ci := 0) (v := .ref ((a 5))) (C := rn_M) (T := fn_M) (N := 91) hx hb hg in_M hown hK hP 0 rfl rfl 5 (by decide) (hg _ wn_8_78) (fun _ h9 => h9) rfl dn_M_primary_98 ?_
          refine lv_iload_n hx hb dn_M_primary_101 rfl (lv_at hl 0 rfl) ?_
          obtain ⟨hg_4, hf⟩ := dc_g hf
          refine va_iald hx hb hK hP 3 0 rfl rfl hg_4 dn_M_primary_102 ?_
          refine xk_ti (y := ((s1.1 5) (Int32.toNatClampNeg ((s1.1 8 0))))) rfl ?_
          obtain ⟨q_5, hc_6, hf⟩ := dc_b hf
          have hmg := hmr_M_braces (((s1.1 5) (Int32.toNatClampNeg ((s1.1 8 0))))) (upI s1 8 (fun _ => ((s1.1 8 0) + 1))) q_5 hc_6
          have hle2 : gl q_5.2 ≤ gl y.2 := mo_M_primary_106 N r_M_exp r_M_binary r_M_operand r_M_primary r_M_braces hmr_M_exp hmr_M_binary hmr_M_operand hmr_M_primary hmr_M_braces y _ _ hf
          refine dc_calli (dc_runV (ar := 1) (As := [.int (((s1.1 5) (Int32.toNatClampNeg ((s1.1 8 0)))))]) (rest := []) (ci := 0) (q0 := 0) ⟨hx, hb, hml, hown, hg⟩ hK hN hT hS hA (hr_M_braces H.size h0 a (((s1.1 5) (Int32.toNatClampNeg ((s1.1 8 0))))) (upI s1 8 (fun _ => ((s1.1 8 0) + 1))) q_5 hc_6) hP hD rfl rfl wn_10_101 wn_10_103 sn_M_braces wn_1_13 wn_10_104 rfl rfl (by decide +kernel) ⟨Nat.le_refl _, dc_lm (Nat.le_of_ble_eq_true rfl)⟩ rfl hl.1 rfl (Nat.le_of_ble_eq_true rfl) dn_M_primary_103 (dc_rm hge hmg hle2)) hP hD hS hA (fun r_7 a H locs hw hP hD hS => ?_)
          refine W.widen (k := 2 * (gl q_5.2 - gl s1)) (n := 2 * (gl q_5.2 - gl s1)) (dc_wa hge hmg) (dc_wa hge hmg) ?_
          have hge := Nat.le_trans hge hmg
          have hle := hle2
          have hw : r_7 = q_5.1 := hw
          subst hw
          exact bl_106 q_5.1 q_5.2 hf hge a H locs ls hP hD hS (lv_sub hl [] rfl)
      · have hf := (if_pos h).symm.trans hf
        refine lv_aload_n hx hb dn_M_primary_68 rfl (lv_at hl 1 rfl) ?_
        obtain ⟨q_3, hc_4, hf⟩ := dc_b hf
        have hmg := hmr_M_exp (upI s1 8 (fun _ => ((s1.1 8 0) + 1))) q_3 hc_4
        have hle2 : gl q_3.2 ≤ gl y.2 := mo_M_primary_72 N r_M_exp r_M_binary r_M_operand r_M_primary r_M_braces hmr_M_exp hmr_M_binary hmr_M_operand hmr_M_primary hmr_M_braces y _ _ hf
        refine dc_calli (dc_runV (ar := 0) (As := []) (rest := []) (ci := 0) (q0 := 0) ⟨hx, hb, hml, hown, hg⟩ hK hN hT hS hA (hr_M_exp H.size h0 a (upI s1 8 (fun _ => ((s1.1 8 0) + 1))) q_3 hc_4) hP hD rfl rfl wn_10_77 wn_10_79 sn_M_exp wn_1_13 wn_10_80 rfl rfl (by decide +kernel) ⟨Nat.le_refl _, dc_lm (Nat.le_of_ble_eq_true rfl)⟩ rfl hl.1 rfl (Nat.le_of_ble_eq_true rfl) dn_M_primary_69 (dc_rm hge hmg hle2)) hP hD hS hA (fun r_5 a H locs hw hP hD hS => ?_)
        refine W.widen (k := 2 * (gl q_3.2 - gl s1)) (n := 2 * (gl q_3.2 - gl s1)) (dc_wa hge hmg) (dc_wa hge hmg) ?_
        have hge := Nat.le_trans hge hmg
        have hle := hle2
        have hw : r_5 = q_3.1 := hw
        subst hw
        exact bl_72 q_3.1 q_3.2 hf hge a H locs ls hP hD hS (lv_sub hl [1] rfl)
    · have hf := (if_pos h).symm.trans hf
      refine lv_aload_n hx hb dn_M_primary_36 rfl (lv_at hl 1 rfl) ?_
      refine lv_iconst (v := 0) hx hb dn_M_primary_37 (by decide) ?_
      refine lv_aload_n hx hb dn_M_primary_38 rfl (lv_at hl 1 rfl) ?_
      refine lv_aload_n hx hb dn_M_primary_39 rfl (lv_at hl 1 rfl) ?_
      refine lv_iload_n hx hb dn_M_primary_40 rfl (lv_at hl 0 rfl) ?_
      obtain ⟨q_2, hc_3, hf⟩ := dc_b hf
      have hme := mn_M_numberOf N ((s1.1 8 0)) (upI s1 8 (fun _ => ((s1.1 8 0) + 1))) q_2 hc_3
      refine dc_calll (dc_runV (ar := 1) (As := [.int ((s1.1 8 0))]) (rest := [.ref h0, .int 0, .ref h0]) (ci := 0) (q0 := 0) ⟨hx, hb, hml, hown, hg⟩ hK hN hT hS hA (ct_M_numberOf l dC dI cI cB cJ cZ cQ N H.size h0 a ((s1.1 8 0)) (upI s1 8 (fun _ => ((s1.1 8 0) + 1))) q_2 hc_3) hP hD rfl rfl wn_10_40 wn_10_42 sn_M_numberOf wn_1_13 wn_10_43 rfl rfl (by decide +kernel) ⟨dc_ra (Nat.le_of_ble_eq_true rfl), dc_ra (Nat.le_of_ble_eq_true rfl)⟩ rfl hl.1 rfl (Nat.le_of_ble_eq_true rfl) dn_M_primary_41 (dc_rm0 hle)) hP hD hS hA (fun r_4 _ H locs hw hP hD hS => ?_)
      refine W.widen (k := 2 * (gl q_2.2 - gl s1)) (n := 2 * (gl q_2.2 - gl s1)) (dc_we hme) (dc_we hme) ?_
      have hge := Nat.le_trans hge (Nat.le_of_eq hme.symm)
      have hle := Nat.le_trans (Nat.le_of_eq hme) hle
      have hw : r_4 = q_2.1 := hw
      subst hw
      obtain ⟨q_5, hc_6, hf⟩ := dc_b hf
      have hmg := mn_M_keepNumber N q_2.1 q_2.2 q_5 hc_6
      have hle2 : gl q_5.2 ≤ gl y.2 := mo_M_primary_47 N r_M_exp r_M_binary r_M_operand r_M_primary r_M_braces hmr_M_exp hmr_M_binary hmr_M_operand hmr_M_primary hmr_M_braces y _ _ _ _ hf
      refine dc_calli (dc_runV (ar := 1) (As := [.long q_2.1]) (rest := [.int 0, .ref h0]) (ci := 0) (q0 := 0) ⟨hx, hb, hml, hown, hg⟩ hK hN hT hS hA (ct_M_keepNumber l dC dI cI cB cJ cZ cQ N H.size h0 a q_2.1 q_2.2 q_5 hc_6) hP hD rfl rfl wn_10_93 wn_10_95 sn_M_keepNumber wn_1_13 wn_10_96 rfl rfl (by decide +kernel) ⟨dc_ra (Nat.le_of_ble_eq_true rfl), dc_ra (Nat.le_of_ble_eq_true rfl)⟩ rfl hl.1 rfl (Nat.le_of_ble_eq_true rfl) dn_M_primary_44 (dc_rm hge hmg hle2)) hP hD hS hA (fun r_7 a H locs hw hP hD hS => ?_)
      refine W.widen (k := 2 * (gl q_5.2 - gl s1)) (n := 2 * (gl q_5.2 - gl s1)) (dc_wa hge hmg) (dc_wa hge hmg) ?_
      have hge := Nat.le_trans hge hmg
      have hle := hle2
      have hw : r_7 = q_5.1 := hw
      subst hw
      exact bl_47 ((s1.1 8 0)) q_5.1 0 q_5.2 hf hge a H locs ls hP hD hS (lv_sub hl [1, 0] rfl)
  · have hf := (if_neg h).symm.trans hf
    refine lv_iconst (v := 1) hx hb dn_M_primary_7 (by decide) ?_
    rw [hQQ, ← Option.some.inj hf]
    exact xk_iret (w1 := fun u : Nat → Nat => (wM h0 u cI cB cJ cZ s1)) a hx hb hr hlocks hK hS dn_M_primary_8 hP hD rfl (Nat.le_refl _) (Nat.le_refl _)
set_option maxHeartbeats 8000000 in
set_option maxRecDepth 100000 in
theorem cb_M_braces (l : Launch) (dC : Nat → ClassId) (dI : Nat → Nat → Nat) (cI cB cJ cZ cQ : ClassId) (N d : Nat) (r_M_exp : ms → Option (Int32 × ms)) (r_M_binary : ms → Option (Int32 × ms)) (r_M_operand : ms → Option (Int32 × ms)) (r_M_primary : ms → Option (Int32 × ms)) (r_M_braces : Int32 → ms → Option (Int32 × ms)) (hmr_M_exp : ∀ (s : ms) (y : (Int32 × ms)), r_M_exp s = some y → gl s ≤ gl y.2) (hmr_M_binary : ∀ (s : ms) (y : (Int32 × ms)), r_M_binary s = some y → gl s ≤ gl y.2) (hmr_M_operand : ∀ (s : ms) (y : (Int32 × ms)), r_M_operand s = some y → gl s ≤ gl y.2) (hmr_M_primary : ∀ (s : ms) (y : (Int32 × ms)), r_M_primary s = some y → gl s ≤ gl y.2) (hmr_M_braces : ∀ (v1 : Int32) (s : ms) (y : (Int32 × ms)), r_M_braces v1 s = some y → gl s ≤ gl y.2) (hr_M_exp : ∀ (sz : Nat) (h0 : Nat) (a : Nat → Nat) (s : ms) (y : (Int32 × ms)), r_M_exp s = some y → Met l yn_M_exp (xw yn_M_exp bn_M_exp 5 (some .int)) ({ frames := 5 + d, cells := 2 * (gl y.2 - gl s), slots := 2 * (gl y.2 - gl s), locals := 117 + d * 24 }) (dc_P (dC, dI) xcl (xt cI cB cJ cZ cQ) [.ref h0] sz (wM h0 a cI cB cJ cZ s)) (xk_Qi (dC, dI) xcl (xt cI cB cJ cZ cQ) (fun (r : Int32) (_ : Nat → Nat) => r = y.1) (fun u : Nat → Nat => (wM h0 u cI cB cJ cZ y.2)) (va_A (wM h0 a cI cB cJ cZ s) sz)) (2 * (gl y.2 - gl s)) (2 * (gl y.2 - gl s)) (va_A (wM h0 a cI cB cJ cZ s) sz)) (hr_M_binary : ∀ (sz : Nat) (h0 : Nat) (a : Nat → Nat) (s : ms) (y : (Int32 × ms)), r_M_binary s = some y → Met l yn_M_binary (xw yn_M_binary bn_M_binary 3 (some .int)) ({ frames := 5 + d, cells := 2 * (gl y.2 - gl s), slots := 2 * (gl y.2 - gl s), locals := 117 + d * 24 }) (dc_P (dC, dI) xcl (xt cI cB cJ cZ cQ) [.ref h0] sz (wM h0 a cI cB cJ cZ s)) (xk_Qi (dC, dI) xcl (xt cI cB cJ cZ cQ) (fun (r : Int32) (_ : Nat → Nat) => r = y.1) (fun u : Nat → Nat => (wM h0 u cI cB cJ cZ y.2)) (va_A (wM h0 a cI cB cJ cZ s) sz)) (2 * (gl y.2 - gl s)) (2 * (gl y.2 - gl s)) (va_A (wM h0 a cI cB cJ cZ s) sz)) (hr_M_operand : ∀ (sz : Nat) (h0 : Nat) (a : Nat → Nat) (s : ms) (y : (Int32 × ms)), r_M_operand s = some y → Met l yn_M_operand (xw yn_M_operand bn_M_operand 5 (some .int)) ({ frames := 5 + d, cells := 2 * (gl y.2 - gl s), slots := 2 * (gl y.2 - gl s), locals := 117 + d * 24 }) (dc_P (dC, dI) xcl (xt cI cB cJ cZ cQ) [.ref h0] sz (wM h0 a cI cB cJ cZ s)) (xk_Qi (dC, dI) xcl (xt cI cB cJ cZ cQ) (fun (r : Int32) (_ : Nat → Nat) => r = y.1) (fun u : Nat → Nat => (wM h0 u cI cB cJ cZ y.2)) (va_A (wM h0 a cI cB cJ cZ s) sz)) (2 * (gl y.2 - gl s)) (2 * (gl y.2 - gl s)) (va_A (wM h0 a cI cB cJ cZ s) sz)) (hr_M_primary : ∀ (sz : Nat) (h0 : Nat) (a : Nat → Nat) (s : ms) (y : (Int32 × ms)), r_M_primary s = some y → Met l yn_M_primary (xw yn_M_primary bn_M_primary 4 (some .int)) ({ frames := 5 + d, cells := 2 * (gl y.2 - gl s), slots := 2 * (gl y.2 - gl s), locals := 117 + d * 24 }) (dc_P (dC, dI) xcl (xt cI cB cJ cZ cQ) [.ref h0] sz (wM h0 a cI cB cJ cZ s)) (xk_Qi (dC, dI) xcl (xt cI cB cJ cZ cQ) (fun (r : Int32) (_ : Nat → Nat) => r = y.1) (fun u : Nat → Nat => (wM h0 u cI cB cJ cZ y.2)) (va_A (wM h0 a cI cB cJ cZ s) sz)) (2 * (gl y.2 - gl s)) (2 * (gl y.2 - gl s)) (va_A (wM h0 a cI cB cJ cZ s) sz)) (hr_M_braces : ∀ (sz : Nat) (h0 : Nat) (a : Nat → Nat) (v1 : Int32) (s : ms) (y : (Int32 × ms)), r_M_braces v1 s = some y → Met l yn_M_braces (xw yn_M_braces bn_M_braces 5 (some .int)) ({ frames := 5 + d, cells := 2 * (gl y.2 - gl s), slots := 2 * (gl y.2 - gl s), locals := 117 + d * 24 }) (dc_P (dC, dI) xcl (xt cI cB cJ cZ cQ) [.ref h0, .int v1] sz (wM h0 a cI cB cJ cZ s)) (xk_Qi (dC, dI) xcl (xt cI cB cJ cZ cQ) (fun (r : Int32) (_ : Nat → Nat) => r = y.1) (fun u : Nat → Nat => (wM h0 u cI cB cJ cZ y.2)) (va_A (wM h0 a cI cB cJ cZ s) sz)) (2 * (gl y.2 - gl s)) (2 * (gl y.2 - gl s)) (va_A (wM h0 a cI cB cJ cZ s) sz)) (sz : Nat) (h0 : Nat) (a : Nat → Nat) (v1 : Int32) (s1 : ms) (y : (Int32 × ms)) (hf : fb_M_braces N r_M_exp r_M_binary r_M_operand r_M_primary r_M_braces v1 s1 = some y) : Met l yn_M_braces (xw yn_M_braces bn_M_braces 5 (some .int)) ({ frames := 5 + (d + 1), cells := 2 * (gl y.2 - gl s1), slots := 2 * (gl y.2 - gl s1), locals := 117 + (d + 1) * 24 }) (dc_P (dC, dI) xcl (xt cI cB cJ cZ cQ) [.ref h0, .int v1] sz (wM h0 a cI cB cJ cZ s1)) (xk_Qi (dC, dI) xcl (xt cI cB cJ cZ cQ) (fun (r : Int32) (_ : Nat → Nat) => r = y.1) (fun u : Nat → Nat => (wM h0 u cI cB cJ cZ y.2)) (va_A (wM h0 a cI cB cJ cZ s1) sz)) (2 * (gl y.2 - gl s1)) (2 * (gl y.2 - gl s1)) (va_A (wM h0 a cI cB cJ cZ s1) sz) := by
  refine dc_of (QA := xk_Qi (dC, dI) xcl (xt cI cB cJ cZ cQ) (fun (r : Int32) (_ : Nat → Nat) => r = y.1) (fun u : Nat → Nat => (wM h0 u cI cB cJ cZ y.2))) (by decide) (Nat.le_of_ble_eq_true rfl) ?_
  intro p e s0 m below meth c hx hb hml hown hg hr hlocks hin hP hK hN A hA hD hT ls hl
  have hown : s0.vm.findClass rn_M = some m.cls := hown
  obtain ⟨H, hH⟩ : ∃ z, z = s0.heap := ⟨_, rfl⟩
  rw [← hH] at hP
  have hS : va_S A s0.heap H [] := by rw [hH]; exact va_S.rf
  suffices kk : ∀ QQ : State → Prop, QQ = MQ below (xk_Qi (dC, dI) xcl (xt cI cB cJ cZ cQ) (fun (r : Int32) (_ : Nat → Nat) => r = y.1) (fun u : Nat → Nat => (wM h0 u cI cB cJ cZ y.2)) A) [.ref h0, .int v1].toArray s0 (2 * (gl y.2 - gl s1)) (2 * (gl y.2 - gl s1)) A → gl s1 ≤ gl s1 → dcG p l e ({ frames := 5 + (d + 1), cells := 2 * (gl y.2 - gl s1), slots := 2 * (gl y.2 - gl s1), locals := 117 + (d + 1) * 24 }) s0 m [.ref h0, .int v1].toArray below meth c QQ (dC, dI) A (fun a => (wM h0 a cI cB cJ cZ s1)) (2 * (gl s1 - gl s1)) 0 5 [(0, .ref h0), (1, .int v1)] [] by
    have k9 := kk _ rfl (Nat.le_refl _) a H [] ls hP hD hS hl
    rw [hH, Nat.sub_self] at k9; exact k9
  clear hP hD hS hl hH H ls
  intro QQ hQQ
  have bl_185 : ∀ (x2 : Int64) (s : ms), bk_M_braces_185 N r_M_exp r_M_binary r_M_operand r_M_primary r_M_braces x2 s = some y → gl s1 ≤ gl s → dcG p l e ({ frames := 5 + (d + 1), cells := 2 * (gl y.2 - gl s1), slots := 2 * (gl y.2 - gl s1), locals := 117 + (d + 1) * 24 }) s0 m [.ref h0, .int v1].toArray below meth c QQ (dC, dI) A (fun a => (wM h0 a cI cB cJ cZ s)) (2 * (gl s - gl s1)) 185 5 [(0, .ref h0), (2, .long x2)] [] := by
    intro x2 s hf hge a H locs ls hP hD hS hl
    have hle := mo_M_braces_185 N r_M_exp r_M_binary r_M_operand r_M_primary r_M_braces hmr_M_exp hmr_M_binary hmr_M_operand hmr_M_primary hmr_M_braces y x2 s hf
    unfold bk_M_braces_185 at hf
    refine lv_aload_n hx hb dn_M_braces_185 rfl (lv_at hl 0 rfl) ?_
    refine va_get (D := (dC, dI)) (ci := 0) (v := .int ((s.1 9 0))) (C := rn_M) (T := fn_M) (N := 91) hx hb hg in_M hown hK hP 0 rfl rfl 9 (by decide) (hg _ wn_8_82) (fun _ h9 => h9) rfl dn_M_braces_186 ?_
    refine lv_if_ne (tgt := 197) hx hb dn_M_braces_189 (by decide) (fun h => ?_) (fun h => ?_)
    · have hf := (if_neg h).symm.trans hf
      refine lv_iconst (v := 1) hx hb dn_M_braces_197 (by decide) ?_
      rw [hQQ, ← Option.some.inj hf]
      exact xk_iret (w1 := fun u : Nat → Nat => (wM h0 u cI cB cJ cZ s)) a hx hb hr hlocks hK hS dn_M_braces_198 hP hD rfl (Nat.le_refl _) (Nat.le_refl _)
    · have hf := (if_pos h).symm.trans hf
      refine lv_lload_n hx hb dn_M_braces_192 rfl (lv_at hl 1 rfl) ?_
      refine lv_l2i (v := Int64.toInt32 x2) hx hb dn_M_braces_193 rfl ?_
      refine lv_goto (tgt := 198) hx hb dn_M_braces_194 (by decide) ?_
      rw [hQQ, ← Option.some.inj hf]
      exact xk_iret (w1 := fun u : Nat → Nat => (wM h0 u cI cB cJ cZ s)) a hx hb hr hlocks hK hS dn_M_braces_198 hP hD rfl (Nat.le_refl _) (Nat.le_refl _)
  have bl_144 : ∀ (k_110 : Int32 → Int64 → ms → Option (Int32 × ms)) (hk_110 : ∀ (x1 : Int32) (x2 : Int64) (s : ms), k_110 x1 x2 s = some y → gl s1 ≤ gl s → dcG p l e ({ frames := 5 + (d + 1), cells := 2 * (gl y.2 - gl s1), slots := 2 * (gl y.2 - gl s1), locals := 117 + (d + 1) * 24 }) s0 m [.ref h0, .int v1].toArray below meth c QQ (dC, dI) A (fun a => (wM h0 a cI cB cJ cZ s)) (2 * (gl s - gl s1)) 110 5 [(0, .ref h0), (1, .int x1), (2, .long x2)] []) (hkm_110 : ∀ (x1 : Int32) (x2 : Int64) (s : ms), k_110 x1 x2 s = some y → gl s ≤ gl y.2) (x1 : Int32) (x2 : Int64) (x4 : Int32) (s : ms), bk_M_braces_144 N r_M_exp r_M_binary r_M_operand r_M_primary r_M_braces k_110 x1 x2 x4 s = some y → gl s1 ≤ gl s → dcG p l e ({ frames := 5 + (d + 1), cells := 2 * (gl y.2 - gl s1), slots := 2 * (gl y.2 - gl s1), locals := 117 + (d + 1) * 24 }) s0 m [.ref h0, .int v1].toArray below meth c QQ (dC, dI) A (fun a => (wM h0 a cI cB cJ cZ s)) (2 * (gl s - gl s1)) 144 5 [(0, .ref h0), (1, .int x1), (2, .long x2), (4, .int x4)] [] := by
    intro k_110 hk_110 hkm_110 x1 x2 x4 s hf hge a H locs ls hP hD hS hl
    have hle := mo_M_braces_144 N r_M_exp r_M_binary r_M_operand r_M_primary r_M_braces hmr_M_exp hmr_M_binary hmr_M_operand hmr_M_primary hmr_M_braces k_110 y hkm_110 x1 x2 x4 s hf
    unfold bk_M_braces_144 at hf
    refine lv_lload_n hx hb dn_M_braces_144 rfl (lv_at hl 2 rfl) ?_
    refine lv_iload hx hb dn_M_braces_145 (lv_at hl 3 rfl) ?_
    refine lv_i2l (v := Int32.toInt64 x4) hx hb dn_M_braces_147 rfl ?_
    refine lv_ladd hx hb dn_M_braces_148 ?_
    refine lv_lstore_n (lv' := [(2, .long ((x2 + (Int32.toInt64 x4)))), (0, .ref h0), (1, .int x1), (4, .int x4)]) hx hb dn_M_braces_149 rfl hl (by decide) rfl (fun ls hl => ?_)
    refine lv_goto (tgt := 110) hx hb dn_M_braces_150 (by decide) ?_
    exact hk_110 x1 ((x2 + (Int32.toInt64 x4))) s hf hge a H locs ls hP hD hS (lv_sub hl [1, 2, 0] rfl)
  have bl_133 : ∀ (k_110 : Int32 → Int64 → ms → Option (Int32 × ms)) (hk_110 : ∀ (x1 : Int32) (x2 : Int64) (s : ms), k_110 x1 x2 s = some y → gl s1 ≤ gl s → dcG p l e ({ frames := 5 + (d + 1), cells := 2 * (gl y.2 - gl s1), slots := 2 * (gl y.2 - gl s1), locals := 117 + (d + 1) * 24 }) s0 m [.ref h0, .int v1].toArray below meth c QQ (dC, dI) A (fun a => (wM h0 a cI cB cJ cZ s)) (2 * (gl s - gl s1)) 110 5 [(0, .ref h0), (1, .int x1), (2, .long x2)] []) (hkm_110 : ∀ (x1 : Int32) (x2 : Int64) (s : ms), k_110 x1 x2 s = some y → gl s ≤ gl y.2) (x1 : Int32) (x2 : Int64) (t0 : Int32) (s : ms), bk_M_braces_133 N r_M_exp r_M_binary r_M_operand r_M_primary r_M_braces k_110 x1 x2 t0 s = some y → gl s1 ≤ gl s → dcG p l e ({ frames := 5 + (d + 1), cells := 2 * (gl y.2 - gl s1), slots := 2 * (gl y.2 - gl s1), locals := 117 + (d + 1) * 24 }) s0 m [.ref h0, .int v1].toArray below meth c QQ (dC, dI) A (fun a => (wM h0 a cI cB cJ cZ s)) (2 * (gl s - gl s1)) 133 5 [(0, .ref h0), (1, .int x1), (2, .long x2)] [.int t0] := by
    intro k_110 hk_110 hkm_110 x1 x2 t0 s hf hge a H locs ls hP hD hS hl
    have hle := mo_M_braces_133 N r_M_exp r_M_binary r_M_operand r_M_primary r_M_braces hmr_M_exp hmr_M_binary hmr_M_operand hmr_M_primary hmr_M_braces k_110 y hkm_110 x1 x2 t0 s hf
    unfold bk_M_braces_133 at hf
    refine lv_istore (lv' := [(4, .int t0), (0, .ref h0), (1, .int x1), (2, .long x2)]) hx hb dn_M_braces_133 hl (by decide) rfl (fun ls hl => ?_)
    refine lv_aload_n hx hb dn_M_braces_135 rfl (lv_at hl 1 rfl) ?_
    refine lv_bipush (v := 7) hx hb dn_M_braces_136 (by decide) ?_
    refine lv_iload hx hb dn_M_braces_138 (lv_at hl 0 rfl) ?_
    refine lv_iconst (v := 0) hx hb dn_M_braces_140 (by decide) ?_
    obtain ⟨q_1, hc_2, hf⟩ := dc_b hf
    have hmg := mn_M_lay N 7 t0 0 s q_1 hc_2
    have hle2 : gl q_1.2 ≤ gl y.2 := mo_M_braces_144 N r_M_exp r_M_binary r_M_operand r_M_primary r_M_braces hmr_M_exp hmr_M_binary hmr_M_operand hmr_M_primary hmr_M_braces k_110 y hkm_110 _ _ _ _ hf
    refine dc_callv (dc_runV (ar := 3) (As := [.int 7, .int t0, .int 0]) (rest := []) (ci := 0) (q0 := 0) ⟨hx, hb, hml, hown, hg⟩ hK hN hT hS hA (ct_M_lay l dC dI cI cB cJ cZ cQ N H.size h0 a 7 t0 0 s q_1 hc_2) hP hD rfl rfl wn_10_97 wn_10_99 sn_M_lay wn_1_13 wn_10_100 rfl rfl (by decide +kernel) ⟨dc_ra (Nat.le_of_ble_eq_true rfl), dc_ra (Nat.le_of_ble_eq_true rfl)⟩ rfl hl.1 rfl (Nat.le_of_ble_eq_true rfl) dn_M_braces_141 (dc_rm hge hmg hle2)) hP hD hS hA (fun a H locs hw hP hD hS => ?_)
    refine W.widen (k := 2 * (gl q_1.2 - gl s1)) (n := 2 * (gl q_1.2 - gl s1)) (dc_wa hge hmg) (dc_wa hge hmg) ?_
    have hge := Nat.le_trans hge hmg
    have hle := hle2
    exact bl_144 k_110 hk_110 hkm_110 x1 x2 t0 q_1.2 hf hge a H locs ls hP hD hS (lv_sub hl [1, 2, 3, 0] rfl)
  have hd_110 : ∀ (n : Nat) (x1 : Int32) (x2 : Int64) (s : ms), hd_M_braces_110 N r_M_exp r_M_binary r_M_operand r_M_primary r_M_braces n x1 x2 s = some y → gl s1 ≤ gl s → dcG p l e ({ frames := 5 + (d + 1), cells := 2 * (gl y.2 - gl s1), slots := 2 * (gl y.2 - gl s1), locals := 117 + (d + 1) * 24 }) s0 m [.ref h0, .int v1].toArray below meth c QQ (dC, dI) A (fun a => (wM h0 a cI cB cJ cZ s)) (2 * (gl s - gl s1)) 110 5 [(0, .ref h0), (1, .int x1), (2, .long x2)] [] := by
    intro n
    induction n with
    | zero => intro x1 x2 s hf; cases hf
    | succ n ih =>
      intro x1 x2 s hf hge a H locs ls hP hD hS hl
      have hle := mh_M_braces_110 N r_M_exp r_M_binary r_M_operand r_M_primary r_M_braces hmr_M_exp hmr_M_binary hmr_M_operand hmr_M_primary hmr_M_braces y (n + 1) x1 x2 s hf
      have hkm_110 := mh_M_braces_110 N r_M_exp r_M_binary r_M_operand r_M_primary r_M_braces hmr_M_exp hmr_M_binary hmr_M_operand hmr_M_primary hmr_M_braces y n
      have hf : bd_M_braces_110 N r_M_exp r_M_binary r_M_operand r_M_primary r_M_braces (hd_M_braces_110 N r_M_exp r_M_binary r_M_operand r_M_primary r_M_braces n) x1 x2 s = some y := hf
      have hk_110 := ih
      generalize hd_M_braces_110 N r_M_exp r_M_binary r_M_operand r_M_primary r_M_braces n = k_110 at hf hk_110 hkm_110
      unfold bd_M_braces_110 at hf
      refine lv_aload_n hx hb dn_M_braces_110 rfl (lv_at hl 0 rfl) ?_
      refine lv_bipush (v := 44) hx hb dn_M_braces_111 (by decide) ?_
      obtain ⟨q_1, hc_2, hf⟩ := dc_b hf
      have hme := mn_M_is N 44 s q_1 hc_2
      refine dc_calli (dc_runV (ar := 1) (As := [.int 44]) (rest := []) (ci := 0) (q0 := 0) ⟨hx, hb, hml, hown, hg⟩ hK hN hT hS hA (ct_M_is l dC dI cI cB cJ cZ cQ N H.size h0 a 44 s q_1 hc_2) hP hD rfl rfl wn_9_194 wn_9_196 sn_M_is wn_1_13 wn_9_197 rfl rfl (by decide +kernel) ⟨dc_ra (Nat.le_of_ble_eq_true rfl), dc_ra (Nat.le_of_ble_eq_true rfl)⟩ rfl hl.1 rfl (Nat.le_of_ble_eq_true rfl) dn_M_braces_113 (dc_rm0 hle)) hP hD hS hA (fun r_3 _ H locs hw hP hD hS => ?_)
      refine W.widen (k := 2 * (gl q_1.2 - gl s1)) (n := 2 * (gl q_1.2 - gl s1)) (dc_we hme) (dc_we hme) ?_
      have hge := Nat.le_trans hge (Nat.le_of_eq hme.symm)
      have hle := Nat.le_trans (Nat.le_of_eq hme) hle
      have hw : r_3 = q_1.1 := hw
      subst hw
      refine lv_if_eq (tgt := 153) hx hb dn_M_braces_116 (by decide) (fun h => ?_) (fun h => ?_)
      · have hf := (if_pos h).symm.trans hf
        refine lv_aload_n hx hb dn_M_braces_153 rfl (lv_at hl 0 rfl) ?_
        refine lv_dup hx hb dn_M_braces_154 rfl ?_
        refine va_get (D := (dC, dI)) (ci := 0) (v := .int ((q_1.2.1 8 0))) (C := rn_M) (T := fn_M) (N := 91) hx hb hg in_M hown hK hP 0 rfl rfl 8 (by decide) (hg _ wn_8_81) (fun _ h9 => h9) rfl dn_M_braces_155 ?_
        refine lv_iconst (v := 1) hx hb dn_M_braces_158 (by decide) ?_
        refine lv_iadd hx hb dn_M_braces_159 ?_
        refine va_put (D := (dC, dI)) (ci := 0) (v := .int (((q_1.2.1 8 0) + 1))) (ty := .int) (C := rn_M) (T := fn_M) (N := 91) hx hb hg in_M tn_M tk_M nn_M hown hK hP hD hS 0 rfl rfl 8 (by decide) (hg _ wn_8_81) (fun _ h9 => h9) rfl (tk_M 8 (by decide)) rfl rfl (Nat.le_of_ble_eq_true rfl) dn_M_braces_160 (fun H locs hP hD hS => ?_)
        have hP := wM_P_8 hP
        have hD := wM_D_8 hD
        refine lv_aload_n hx hb dn_M_braces_163 rfl (lv_at hl 0 rfl) ?_
        refine va_get (D := (dC, dI)) (ci := 0) (v := .int ((q_1.2.1 9 0))) (C := rn_M) (T := fn_M) (N := 91) hx hb hg in_M hown hK hP 0 rfl rfl 9 (by decide) (hg _ wn_8_82) (fun _ h9 => h9) rfl dn_M_braces_164 ?_
        refine lv_if_ne (tgt := 185) hx hb dn_M_braces_167 (by decide) (fun h => ?_) (fun h => ?_)
        · have hf := (if_neg h).symm.trans hf
          exact bl_185 x2 (upI q_1.2 8 (fun _ => ((q_1.2.1 8 0) + 1))) hf hge a H locs ls hP hD hS (lv_sub hl [0, 2] rfl)
        · have hf := (if_pos h).symm.trans hf
          refine lv_lload_n hx hb dn_M_braces_170 rfl (lv_at hl 2 rfl) ?_
          refine lv_ldc2 hx hb hown (hg _ wn_9_167) dn_M_braces_171 ?_
          refine W.lcmp hx hb dn_M_braces_174 ?_
          refine lv_if_le (tgt := 185) hx hb dn_M_braces_175 (by decide) (fun h => ?_) (fun h => ?_)
          · have hf := (if_pos h).symm.trans hf
            exact bl_185 x2 (upI q_1.2 8 (fun _ => ((q_1.2.1 8 0) + 1))) hf hge a H locs ls hP hD hS (lv_sub hl [0, 2] rfl)
          · have hf := (if_neg h).symm.trans hf
            refine lv_aload_n hx hb dn_M_braces_178 rfl (lv_at hl 0 rfl) ?_
            refine lv_bipush (v := 30) hx hb dn_M_braces_179 (by decide) ?_
            refine lv_iload_n hx hb dn_M_braces_181 rfl (lv_at hl 1 rfl) ?_
            obtain ⟨q_4, hc_5, hf⟩ := dc_b hf
            have hme := mn_M_fail N 30 x1 (upI q_1.2 8 (fun _ => ((q_1.2.1 8 0) + 1))) q_4 hc_5
            refine dc_callv (dc_runV (ar := 2) (As := [.int 30, .int x1]) (rest := []) (ci := 0) (q0 := 0) ⟨hx, hb, hml, hown, hg⟩ hK hN hT hS hA (ct_M_fail l dC dI cI cB cJ cZ cQ N H.size h0 a 30 x1 (upI q_1.2 8 (fun _ => ((q_1.2.1 8 0) + 1))) q_4 hc_5) hP hD rfl rfl wn_9_186 wn_9_188 sn_M_fail wn_1_13 wn_9_189 rfl rfl (by decide +kernel) ⟨dc_ra (Nat.le_of_ble_eq_true rfl), dc_ra (Nat.le_of_ble_eq_true rfl)⟩ rfl hl.1 rfl (Nat.le_of_ble_eq_true rfl) dn_M_braces_182 (dc_rm0 hle)) hP hD hS hA (fun _ H locs hw hP hD hS => ?_)
            refine W.widen (k := 2 * (gl q_4.2 - gl s1)) (n := 2 * (gl q_4.2 - gl s1)) (dc_we hme) (dc_we hme) ?_
            have hge := Nat.le_trans hge (Nat.le_of_eq hme.symm)
            have hle := Nat.le_trans (Nat.le_of_eq hme) hle
            exact bl_185 x2 q_4.2 hf hge a H locs ls hP hD hS (lv_sub hl [0, 2] rfl)
      · have hf := (if_neg h).symm.trans hf
        refine lv_aload_n hx hb dn_M_braces_119 rfl (lv_at hl 0 rfl) ?_
        refine lv_dup hx hb dn_M_braces_120 rfl ?_
        refine va_get (D := (dC, dI)) (ci := 0) (v := .int ((q_1.2.1 8 0))) (C := rn_M) (T := fn_M) (N := 91) hx hb hg in_M hown hK hP 0 rfl rfl 8 (by decide) (hg _ wn_8_81) (fun _ h9 => h9) rfl dn_M_braces_121 ?_
        refine lv_iconst (v := 1) hx hb dn_M_braces_124 (by decide) ?_
        refine lv_iadd hx hb dn_M_braces_125 ?_
        refine va_put (D := (dC, dI)) (ci := 0) (v := .int (((q_1.2.1 8 0) + 1))) (ty := .int) (C := rn_M) (T := fn_M) (N := 91) hx hb hg in_M tn_M tk_M nn_M hown hK hP hD hS 0 rfl rfl 8 (by decide) (hg _ wn_8_81) (fun _ h9 => h9) rfl (tk_M 8 (by decide)) rfl rfl (Nat.le_of_ble_eq_true rfl) dn_M_braces_126 (fun H locs hP hD hS => ?_)
        have hP := wM_P_8 hP
        have hD := wM_D_8 hD
        refine lv_aload_n hx hb dn_M_braces_129 rfl (lv_at hl 0 rfl) ?_
        obtain ⟨q_4, hc_5, hf⟩ := dc_b hf
        have hmg := hmr_M_exp (upI q_1.2 8 (fun _ => ((q_1.2.1 8 0) + 1))) q_4 hc_5
        have hle2 : gl q_4.2 ≤ gl y.2 := mo_M_braces_133 N r_M_exp r_M_binary r_M_operand r_M_primary r_M_braces hmr_M_exp hmr_M_binary hmr_M_operand hmr_M_primary hmr_M_braces k_110 y hkm_110 _ _ _ _ hf
        refine dc_calli (dc_runV (ar := 0) (As := []) (rest := []) (ci := 0) (q0 := 0) ⟨hx, hb, hml, hown, hg⟩ hK hN hT hS hA (hr_M_exp H.size h0 a (upI q_1.2 8 (fun _ => ((q_1.2.1 8 0) + 1))) q_4 hc_5) hP hD rfl rfl wn_10_77 wn_10_79 sn_M_exp wn_1_13 wn_10_80 rfl rfl (by decide +kernel) ⟨Nat.le_refl _, dc_lm (Nat.le_of_ble_eq_true rfl)⟩ rfl hl.1 rfl (Nat.le_of_ble_eq_true rfl) dn_M_braces_130 (dc_rm hge hmg hle2)) hP hD hS hA (fun r_6 a H locs hw hP hD hS => ?_)
        refine W.widen (k := 2 * (gl q_4.2 - gl s1)) (n := 2 * (gl q_4.2 - gl s1)) (dc_wa hge hmg) (dc_wa hge hmg) ?_
        have hge := Nat.le_trans hge hmg
        have hle := hle2
        have hw : r_6 = q_4.1 := hw
        subst hw
        exact bl_133 k_110 hk_110 hkm_110 x1 x2 q_4.1 q_4.2 hf hge a H locs ls hP hD hS hl
  have bl_108 : ∀ (x1 : Int32) (t0 : Int32) (s : ms), bk_M_braces_108 N r_M_exp r_M_binary r_M_operand r_M_primary r_M_braces x1 t0 s = some y → gl s1 ≤ gl s → dcG p l e ({ frames := 5 + (d + 1), cells := 2 * (gl y.2 - gl s1), slots := 2 * (gl y.2 - gl s1), locals := 117 + (d + 1) * 24 }) s0 m [.ref h0, .int v1].toArray below meth c QQ (dC, dI) A (fun a => (wM h0 a cI cB cJ cZ s)) (2 * (gl s - gl s1)) 108 5 [(0, .ref h0), (1, .int x1)] [.int t0] := by
    intro x1 t0 s hf hge a H locs ls hP hD hS hl
    have hle := mo_M_braces_108 N r_M_exp r_M_binary r_M_operand r_M_primary r_M_braces hmr_M_exp hmr_M_binary hmr_M_operand hmr_M_primary hmr_M_braces y x1 t0 s hf
    unfold bk_M_braces_108 at hf
    refine lv_i2l (v := Int32.toInt64 t0) hx hb dn_M_braces_108 rfl ?_
    refine lv_lstore_n (lv' := [(2, .long ((Int32.toInt64 t0))), (0, .ref h0), (1, .int x1)]) hx hb dn_M_braces_109 rfl hl (by decide) rfl (fun ls hl => ?_)
    exact hd_110 N x1 ((Int32.toInt64 t0)) s hf hge a H locs ls hP hD hS (lv_sub hl [1, 2, 0] rfl)
  have bl_87 : ∀ (x2 : Int64) (x4 : Int32) (s : ms), bk_M_braces_87 N r_M_exp r_M_binary r_M_operand r_M_primary r_M_braces x2 x4 s = some y → gl s1 ≤ gl s → dcG p l e ({ frames := 5 + (d + 1), cells := 2 * (gl y.2 - gl s1), slots := 2 * (gl y.2 - gl s1), locals := 117 + (d + 1) * 24 }) s0 m [.ref h0, .int v1].toArray below meth c QQ (dC, dI) A (fun a => (wM h0 a cI cB cJ cZ s)) (2 * (gl s - gl s1)) 87 5 [(0, .ref h0), (2, .long x2), (4, .int x4)] [] := by
    intro x2 x4 s hf hge a H locs ls hP hD hS hl
    have hle := mo_M_braces_87 N r_M_exp r_M_binary r_M_operand r_M_primary r_M_braces hmr_M_exp hmr_M_binary hmr_M_operand hmr_M_primary hmr_M_braces y x2 x4 s hf
    unfold bk_M_braces_87 at hf
    refine lv_aload_n hx hb dn_M_braces_87 rfl (lv_at hl 0 rfl) ?_
    refine va_get (D := (dC, dI)) (ci := 0) (v := .int ((s.1 9 0))) (C := rn_M) (T := fn_M) (N := 91) hx hb hg in_M hown hK hP 0 rfl rfl 9 (by decide) (hg _ wn_8_82) (fun _ h9 => h9) rfl dn_M_braces_88 ?_
    refine lv_if_ne (tgt := 102) hx hb dn_M_braces_91 (by decide) (fun h => ?_) (fun h => ?_)
    · have hf := (if_neg h).symm.trans hf
      refine lv_iconst (v := 1) hx hb dn_M_braces_102 (by decide) ?_
      rw [hQQ, ← Option.some.inj hf]
      exact xk_iret (w1 := fun u : Nat → Nat => (wM h0 u cI cB cJ cZ s)) a hx hb hr hlocks hK hS dn_M_braces_103 hP hD rfl (Nat.le_refl _) (Nat.le_refl _)
    · have hf := (if_pos h).symm.trans hf
      refine lv_lload_n hx hb dn_M_braces_94 rfl (lv_at hl 1 rfl) ?_
      refine lv_l2i (v := Int64.toInt32 x2) hx hb dn_M_braces_95 rfl ?_
      refine lv_iload hx hb dn_M_braces_96 (lv_at hl 2 rfl) ?_
      refine lv_imul hx hb dn_M_braces_98 ?_
      refine lv_goto (tgt := 103) hx hb dn_M_braces_99 (by decide) ?_
      rw [hQQ, ← Option.some.inj hf]
      exact xk_iret (w1 := fun u : Nat → Nat => (wM h0 u cI cB cJ cZ s)) a hx hb hr hlocks hK hS dn_M_braces_103 hP hD rfl (Nat.le_refl _) (Nat.le_refl _)
  have bl_77 : ∀ (x2 : Int64) (x4 : Int32) (s : ms), bk_M_braces_77 N r_M_exp r_M_binary r_M_operand r_M_primary r_M_braces x2 x4 s = some y → gl s1 ≤ gl s → dcG p l e ({ frames := 5 + (d + 1), cells := 2 * (gl y.2 - gl s1), slots := 2 * (gl y.2 - gl s1), locals := 117 + (d + 1) * 24 }) s0 m [.ref h0, .int v1].toArray below meth c QQ (dC, dI) A (fun a => (wM h0 a cI cB cJ cZ s)) (2 * (gl s - gl s1)) 77 5 [(0, .ref h0), (2, .long x2), (4, .int x4)] [] := by
    intro x2 x4 s hf hge a H locs ls hP hD hS hl
    have hle := mo_M_braces_77 N r_M_exp r_M_binary r_M_operand r_M_primary r_M_braces hmr_M_exp hmr_M_binary hmr_M_operand hmr_M_primary hmr_M_braces y x2 x4 s hf
    unfold bk_M_braces_77 at hf
    refine lv_aload_n hx hb dn_M_braces_77 rfl (lv_at hl 0 rfl) ?_
    refine lv_bipush (v := 8) hx hb dn_M_braces_78 (by decide) ?_
    refine lv_lload_n hx hb dn_M_braces_80 rfl (lv_at hl 1 rfl) ?_
    refine lv_l2i (v := Int64.toInt32 x2) hx hb dn_M_braces_81 rfl ?_
    refine lv_iload hx hb dn_M_braces_82 (lv_at hl 2 rfl) ?_
    obtain ⟨q_1, hc_2, hf⟩ := dc_b hf
    have hmg := mn_M_lay N 8 ((Int64.toInt32 x2)) x4 s q_1 hc_2
    have hle2 : gl q_1.2 ≤ gl y.2 := mo_M_braces_87 N r_M_exp r_M_binary r_M_operand r_M_primary r_M_braces hmr_M_exp hmr_M_binary hmr_M_operand hmr_M_primary hmr_M_braces y _ _ _ hf
    refine dc_callv (dc_runV (ar := 3) (As := [.int 8, .int ((Int64.toInt32 x2)), .int x4]) (rest := []) (ci := 0) (q0 := 0) ⟨hx, hb, hml, hown, hg⟩ hK hN hT hS hA (ct_M_lay l dC dI cI cB cJ cZ cQ N H.size h0 a 8 ((Int64.toInt32 x2)) x4 s q_1 hc_2) hP hD rfl rfl wn_10_97 wn_10_99 sn_M_lay wn_1_13 wn_10_100 rfl rfl (by decide +kernel) ⟨dc_ra (Nat.le_of_ble_eq_true rfl), dc_ra (Nat.le_of_ble_eq_true rfl)⟩ rfl hl.1 rfl (Nat.le_of_ble_eq_true rfl) dn_M_braces_84 (dc_rm hge hmg hle2)) hP hD hS hA (fun a H locs hw hP hD hS => ?_)
    refine W.widen (k := 2 * (gl q_1.2 - gl s1)) (n := 2 * (gl q_1.2 - gl s1)) (dc_wa hge hmg) (dc_wa hge hmg) ?_
    have hge := Nat.le_trans hge hmg
    have hle := hle2
    exact bl_87 x2 x4 q_1.2 hf hge a H locs ls hP hD hS hl
  have bl_70 : ∀ (x1 : Int32) (x2 : Int64) (x4 : Int32) (s : ms), bk_M_braces_70 N r_M_exp r_M_binary r_M_operand r_M_primary r_M_braces x1 x2 x4 s = some y → gl s1 ≤ gl s → dcG p l e ({ frames := 5 + (d + 1), cells := 2 * (gl y.2 - gl s1), slots := 2 * (gl y.2 - gl s1), locals := 117 + (d + 1) * 24 }) s0 m [.ref h0, .int v1].toArray below meth c QQ (dC, dI) A (fun a => (wM h0 a cI cB cJ cZ s)) (2 * (gl s - gl s1)) 70 5 [(0, .ref h0), (1, .int x1), (2, .long x2), (4, .int x4)] [] := by
    intro x1 x2 x4 s hf hge a H locs ls hP hD hS hl
    have hle := mo_M_braces_70 N r_M_exp r_M_binary r_M_operand r_M_primary r_M_braces hmr_M_exp hmr_M_binary hmr_M_operand hmr_M_primary hmr_M_braces y x1 x2 x4 s hf
    unfold bk_M_braces_70 at hf
    refine lv_aload_n hx hb dn_M_braces_70 rfl (lv_at hl 0 rfl) ?_
    refine lv_bipush (v := 30) hx hb dn_M_braces_71 (by decide) ?_
    refine lv_iload_n hx hb dn_M_braces_73 rfl (lv_at hl 1 rfl) ?_
    obtain ⟨q_1, hc_2, hf⟩ := dc_b hf
    have hme := mn_M_fail N 30 x1 s q_1 hc_2
    refine dc_callv (dc_runV (ar := 2) (As := [.int 30, .int x1]) (rest := []) (ci := 0) (q0 := 0) ⟨hx, hb, hml, hown, hg⟩ hK hN hT hS hA (ct_M_fail l dC dI cI cB cJ cZ cQ N H.size h0 a 30 x1 s q_1 hc_2) hP hD rfl rfl wn_9_186 wn_9_188 sn_M_fail wn_1_13 wn_9_189 rfl rfl (by decide +kernel) ⟨dc_ra (Nat.le_of_ble_eq_true rfl), dc_ra (Nat.le_of_ble_eq_true rfl)⟩ rfl hl.1 rfl (Nat.le_of_ble_eq_true rfl) dn_M_braces_74 (dc_rm0 hle)) hP hD hS hA (fun _ H locs hw hP hD hS => ?_)
    refine W.widen (k := 2 * (gl q_1.2 - gl s1)) (n := 2 * (gl q_1.2 - gl s1)) (dc_we hme) (dc_we hme) ?_
    have hge := Nat.le_trans hge (Nat.le_of_eq hme.symm)
    have hle := Nat.le_trans (Nat.le_of_eq hme) hle
    exact bl_77 x2 x4 q_1.2 hf hge a H locs ls hP hD hS (lv_sub hl [0, 2, 3] rfl)
  have bl_33 : ∀ (x1 : Int32) (x2 : Int64) (t0 : Int32) (s : ms), bk_M_braces_33 N r_M_exp r_M_binary r_M_operand r_M_primary r_M_braces x1 x2 t0 s = some y → gl s1 ≤ gl s → dcG p l e ({ frames := 5 + (d + 1), cells := 2 * (gl y.2 - gl s1), slots := 2 * (gl y.2 - gl s1), locals := 117 + (d + 1) * 24 }) s0 m [.ref h0, .int v1].toArray below meth c QQ (dC, dI) A (fun a => (wM h0 a cI cB cJ cZ s)) (2 * (gl s - gl s1)) 33 5 [(0, .ref h0), (1, .int x1), (2, .long x2)] [.int t0] := by
    intro x1 x2 t0 s hf hge a H locs ls hP hD hS hl
    have hle := mo_M_braces_33 N r_M_exp r_M_binary r_M_operand r_M_primary r_M_braces hmr_M_exp hmr_M_binary hmr_M_operand hmr_M_primary hmr_M_braces y x1 x2 t0 s hf
    unfold bk_M_braces_33 at hf
    refine lv_istore (lv' := [(4, .int t0), (0, .ref h0), (1, .int x1), (2, .long x2)]) hx hb dn_M_braces_33 hl (by decide) rfl (fun ls hl => ?_)
    refine lv_aload_n hx hb dn_M_braces_35 rfl (lv_at hl 1 rfl) ?_
    refine lv_aload_n hx hb dn_M_braces_36 rfl (lv_at hl 1 rfl) ?_
    refine va_get (D := (dC, dI)) (ci := 0) (v := .int ((s.1 8 0))) (C := rn_M) (T := fn_M) (N := 91) hx hb hg in_M hown hK hP 0 rfl rfl 8 (by decide) (hg _ wn_8_81) (fun _ h9 => h9) rfl dn_M_braces_37 ?_
    refine lv_iconst (v := 2) hx hb dn_M_braces_40 (by decide) ?_
    refine lv_iadd hx hb dn_M_braces_41 ?_
    refine va_put (D := (dC, dI)) (ci := 0) (v := .int (((s.1 8 0) + 2))) (ty := .int) (C := rn_M) (T := fn_M) (N := 91) hx hb hg in_M tn_M tk_M nn_M hown hK hP hD hS 0 rfl rfl 8 (by decide) (hg _ wn_8_81) (fun _ h9 => h9) rfl (tk_M 8 (by decide)) rfl rfl (Nat.le_of_ble_eq_true rfl) dn_M_braces_42 (fun H locs hP hD hS => ?_)
    have hP := wM_P_8 hP
    have hD := wM_D_8 hD
    refine lv_aload_n hx hb dn_M_braces_45 rfl (lv_at hl 1 rfl) ?_
    refine va_get (D := (dC, dI)) (ci := 0) (v := .int ((s.1 9 0))) (C := rn_M) (T := fn_M) (N := 91) hx hb hg in_M hown hK hP 0 rfl rfl 9 (by decide) (hg _ wn_8_82) (fun _ h9 => h9) rfl dn_M_braces_46 ?_
    refine lv_if_ne (tgt := 77) hx hb dn_M_braces_49 (by decide) (fun h => ?_) (fun h => ?_)
    · have hf := (if_neg h).symm.trans hf
      exact bl_77 x2 t0 (upI s 8 (fun _ => ((s.1 8 0) + 2))) hf hge a H locs ls hP hD hS (lv_sub hl [1, 3, 0] rfl)
    · have hf := (if_pos h).symm.trans hf
      refine lv_lload_n hx hb dn_M_braces_52 rfl (lv_at hl 3 rfl) ?_
      refine lv_lconst (v := 0) hx hb dn_M_braces_53 (by decide) ?_
      refine W.lcmp hx hb dn_M_braces_54 ?_
      refine lv_if_eq (tgt := 70) hx hb dn_M_braces_55 (by decide) (fun h => ?_) (fun h => ?_)
      · have hf := (if_pos h).symm.trans hf
        exact bl_70 x1 x2 t0 (upI s 8 (fun _ => ((s.1 8 0) + 2))) hf hge a H locs ls hP hD hS (lv_sub hl [1, 2, 3, 0] rfl)
      · have hf := (if_neg h).symm.trans hf
        refine lv_lload_n hx hb dn_M_braces_58 rfl (lv_at hl 3 rfl) ?_
        refine lv_iload hx hb dn_M_braces_59 (lv_at hl 0 rfl) ?_
        refine lv_i2l (v := Int32.toInt64 t0) hx hb dn_M_braces_61 rfl ?_
        refine lv_lmul hx hb dn_M_braces_62 ?_
        refine lv_ldc2 hx hb hown (hg _ wn_9_167) dn_M_braces_63 ?_
        refine W.lcmp hx hb dn_M_braces_66 ?_
        refine lv_if_le (tgt := 77) hx hb dn_M_braces_67 (by decide) (fun h => ?_) (fun h => ?_)
        · have hf := (if_pos h).symm.trans hf
          exact bl_77 x2 t0 (upI s 8 (fun _ => ((s.1 8 0) + 2))) hf hge a H locs ls hP hD hS (lv_sub hl [1, 3, 0] rfl)
        · have hf := (if_neg h).symm.trans hf
          exact bl_70 x1 x2 t0 (upI s 8 (fun _ => ((s.1 8 0) + 2))) hf hge a H locs ls hP hD hS (lv_sub hl [1, 2, 3, 0] rfl)
  intro hge a H locs ls hP hD hS hl
  have hle := mf_M_braces N r_M_exp r_M_binary r_M_operand r_M_primary r_M_braces hmr_M_exp hmr_M_binary hmr_M_operand hmr_M_primary hmr_M_braces v1 s1 y hf
  unfold fb_M_braces at hf
  refine lv_aload_n hx hb dn_M_braces_0 rfl (lv_at hl 0 rfl) ?_
  obtain ⟨q_1, hc_2, hf⟩ := dc_b hf
  have hme := mn_M_kind N s1 q_1 hc_2
  refine dc_calli (dc_runV (ar := 0) (As := []) (rest := []) (ci := 0) (q0 := 0) ⟨hx, hb, hml, hown, hg⟩ hK hN hT hS hA (ct_M_kind l dC dI cI cB cJ cZ cQ N H.size h0 a s1 q_1 hc_2) hP hD rfl rfl wn_9_214 wn_9_216 sn_M_kind wn_1_13 wn_9_217 rfl rfl (by decide +kernel) ⟨dc_ra (Nat.le_of_ble_eq_true rfl), dc_ra (Nat.le_of_ble_eq_true rfl)⟩ rfl hl.1 rfl (Nat.le_of_ble_eq_true rfl) dn_M_braces_1 (dc_rm0 hle)) hP hD hS hA (fun r_3 _ H locs hw hP hD hS => ?_)
  refine W.widen (k := 2 * (gl q_1.2 - gl s1)) (n := 2 * (gl q_1.2 - gl s1)) (dc_we hme) (dc_we hme) ?_
  have hge := Nat.le_trans hge (Nat.le_of_eq hme.symm)
  have hle := Nat.le_trans (Nat.le_of_eq hme) hle
  have hw : r_3 = q_1.1 := hw
  subst hw
  refine lv_sipush (v := 401) hx hb dn_M_braces_4 (by decide) ?_
  refine lv_icmp_ne (tgt := 104) hx hb dn_M_braces_7 (by decide) (fun h => ?_) (fun h => ?_)
  · have hf := (if_neg h).symm.trans hf
    refine lv_aload_n hx hb dn_M_braces_104 rfl (lv_at hl 0 rfl) ?_
    obtain ⟨q_4, hc_5, hf⟩ := dc_b hf
    have hmg := hmr_M_exp q_1.2 q_4 hc_5
    have hle2 : gl q_4.2 ≤ gl y.2 := mo_M_braces_108 N r_M_exp r_M_binary r_M_operand r_M_primary r_M_braces hmr_M_exp hmr_M_binary hmr_M_operand hmr_M_primary hmr_M_braces y _ _ _ hf
    refine dc_calli (dc_runV (ar := 0) (As := []) (rest := []) (ci := 0) (q0 := 0) ⟨hx, hb, hml, hown, hg⟩ hK hN hT hS hA (hr_M_exp H.size h0 a q_1.2 q_4 hc_5) hP hD rfl rfl wn_10_77 wn_10_79 sn_M_exp wn_1_13 wn_10_80 rfl rfl (by decide +kernel) ⟨Nat.le_refl _, dc_lm (Nat.le_of_ble_eq_true rfl)⟩ rfl hl.1 rfl (Nat.le_of_ble_eq_true rfl) dn_M_braces_105 (dc_rm hge hmg hle2)) hP hD hS hA (fun r_6 a H locs hw hP hD hS => ?_)
    refine W.widen (k := 2 * (gl q_4.2 - gl s1)) (n := 2 * (gl q_4.2 - gl s1)) (dc_wa hge hmg) (dc_wa hge hmg) ?_
    have hge := Nat.le_trans hge hmg
    have hle := hle2
    have hw : r_6 = q_4.1 := hw
    subst hw
    exact bl_108 v1 q_4.1 q_4.2 hf hge a H locs ls hP hD hS hl
  · have hf := (if_pos h).symm.trans hf
    refine lv_aload_n hx hb dn_M_braces_10 rfl (lv_at hl 0 rfl) ?_
    refine lv_aload_n hx hb dn_M_braces_11 rfl (lv_at hl 0 rfl) ?_
    refine va_get (D := (dC, dI)) (ci := 0) (v := .int ((q_1.2.1 8 0))) (C := rn_M) (T := fn_M) (N := 91) hx hb hg in_M hown hK hP 0 rfl rfl 8 (by decide) (hg _ wn_8_81) (fun _ h9 => h9) rfl dn_M_braces_12 ?_
    obtain ⟨q_4, hc_5, hf⟩ := dc_b hf
    have hme := mn_M_numberOf N ((q_1.2.1 8 0)) q_1.2 q_4 hc_5
    refine dc_calll (dc_runV (ar := 1) (As := [.int ((q_1.2.1 8 0))]) (rest := []) (ci := 0) (q0 := 0) ⟨hx, hb, hml, hown, hg⟩ hK hN hT hS hA (ct_M_numberOf l dC dI cI cB cJ cZ cQ N H.size h0 a ((q_1.2.1 8 0)) q_1.2 q_4 hc_5) hP hD rfl rfl wn_10_40 wn_10_42 sn_M_numberOf wn_1_13 wn_10_43 rfl rfl (by decide +kernel) ⟨dc_ra (Nat.le_of_ble_eq_true rfl), dc_ra (Nat.le_of_ble_eq_true rfl)⟩ rfl hl.1 rfl (Nat.le_of_ble_eq_true rfl) dn_M_braces_15 (dc_rm0 hle)) hP hD hS hA (fun r_6 _ H locs hw hP hD hS => ?_)
    refine W.widen (k := 2 * (gl q_4.2 - gl s1)) (n := 2 * (gl q_4.2 - gl s1)) (dc_we hme) (dc_we hme) ?_
    have hge := Nat.le_trans hge (Nat.le_of_eq hme.symm)
    have hle := Nat.le_trans (Nat.le_of_eq hme) hle
    have hw : r_6 = q_4.1 := hw
    subst hw
    refine lv_lstore_n (lv' := [(2, .long q_4.1), (0, .ref h0), (1, .int v1)]) hx hb dn_M_braces_18 rfl hl (by decide) rfl (fun ls hl => ?_)
    refine lv_aload_n hx hb dn_M_braces_19 rfl (lv_at hl 1 rfl) ?_
    refine lv_aload_n hx hb dn_M_braces_20 rfl (lv_at hl 1 rfl) ?_
    refine va_get (D := (dC, dI)) (ci := 0) (v := .int ((q_4.2.1 8 0))) (C := rn_M) (T := fn_M) (N := 91) hx hb hg in_M hown hK hP 0 rfl rfl 8 (by decide) (hg _ wn_8_81) (fun _ h9 => h9) rfl dn_M_braces_21 ?_
    refine lv_iconst (v := 2) hx hb dn_M_braces_24 (by decide) ?_
    refine lv_iadd hx hb dn_M_braces_25 ?_
    refine va_put (D := (dC, dI)) (ci := 0) (v := .int (((q_4.2.1 8 0) + 2))) (ty := .int) (C := rn_M) (T := fn_M) (N := 91) hx hb hg in_M tn_M tk_M nn_M hown hK hP hD hS 0 rfl rfl 8 (by decide) (hg _ wn_8_81) (fun _ h9 => h9) rfl (tk_M 8 (by decide)) rfl rfl (Nat.le_of_ble_eq_true rfl) dn_M_braces_26 (fun H locs hP hD hS => ?_)
    have hP := wM_P_8 hP
    have hD := wM_D_8 hD
    refine lv_aload_n hx hb dn_M_braces_29 rfl (lv_at hl 1 rfl) ?_
    obtain ⟨q_7, hc_8, hf⟩ := dc_b hf
    have hmg := hmr_M_exp (upI q_4.2 8 (fun _ => ((q_4.2.1 8 0) + 2))) q_7 hc_8
    have hle2 : gl q_7.2 ≤ gl y.2 := mo_M_braces_33 N r_M_exp r_M_binary r_M_operand r_M_primary r_M_braces hmr_M_exp hmr_M_binary hmr_M_operand hmr_M_primary hmr_M_braces y _ _ _ _ hf
    refine dc_calli (dc_runV (ar := 0) (As := []) (rest := []) (ci := 0) (q0 := 0) ⟨hx, hb, hml, hown, hg⟩ hK hN hT hS hA (hr_M_exp H.size h0 a (upI q_4.2 8 (fun _ => ((q_4.2.1 8 0) + 2))) q_7 hc_8) hP hD rfl rfl wn_10_77 wn_10_79 sn_M_exp wn_1_13 wn_10_80 rfl rfl (by decide +kernel) ⟨Nat.le_refl _, dc_lm (Nat.le_of_ble_eq_true rfl)⟩ rfl hl.1 rfl (Nat.le_of_ble_eq_true rfl) dn_M_braces_30 (dc_rm hge hmg hle2)) hP hD hS hA (fun r_9 a H locs hw hP hD hS => ?_)
    refine W.widen (k := 2 * (gl q_7.2 - gl s1)) (n := 2 * (gl q_7.2 - gl s1)) (dc_wa hge hmg) (dc_wa hge hmg) ?_
    have hge := Nat.le_trans hge hmg
    have hle := hle2
    have hw : r_9 = q_7.1 := hw
    subst hw
    exact bl_33 v1 q_4.1 q_7.1 q_7.2 hf hge a H locs ls hP hD hS (lv_sub hl [1, 2, 0] rfl)
theorem sm_M_exp (N : Nat) : ∀ d : Nat, (∀ (s : ms) (y : (Int32 × ms)), (sg_M_exp N d).1 s = some y → gl s ≤ gl y.2) ∧ (∀ (s : ms) (y : (Int32 × ms)), (sg_M_exp N d).2.1 s = some y → gl s ≤ gl y.2) ∧ (∀ (s : ms) (y : (Int32 × ms)), (sg_M_exp N d).2.2.1 s = some y → gl s ≤ gl y.2) ∧ (∀ (s : ms) (y : (Int32 × ms)), (sg_M_exp N d).2.2.2.1 s = some y → gl s ≤ gl y.2) ∧ (∀ (v1 : Int32) (s : ms) (y : (Int32 × ms)), (sg_M_exp N d).2.2.2.2 v1 s = some y → gl s ≤ gl y.2) := by
  intro d
  induction d with
  | zero => exact ⟨fun _ _ h => (by cases h), fun _ _ h => (by cases h), fun _ _ h => (by cases h), fun _ _ h => (by cases h), fun _ _ _ h => (by cases h)⟩
  | succ d ih =>
    obtain ⟨ih0, ih1, ih2, ih3, ih4⟩ := ih
    exact ⟨fun s y h => mf_M_exp N _ _ _ _ _ ih0 ih1 ih2 ih3 ih4 s y h, fun s y h => mf_M_binary N _ _ _ _ _ ih0 ih1 ih2 ih3 ih4 s y h, fun s y h => mf_M_operand N _ _ _ _ _ ih0 ih1 ih2 ih3 ih4 s y h, fun s y h => mf_M_primary N _ _ _ _ _ ih0 ih1 ih2 ih3 ih4 s y h, fun v1 s y h => mf_M_braces N _ _ _ _ _ ih0 ih1 ih2 ih3 ih4 v1 s y h⟩
set_option maxHeartbeats 4000000 in
theorem sc_M_exp (l : Launch) (dC : Nat → ClassId) (dI : Nat → Nat → Nat) (cI cB cJ cZ cQ : ClassId) (N : Nat) : ∀ d : Nat, (∀ (sz : Nat) (h0 : Nat) (a : Nat → Nat) (s : ms) (y : (Int32 × ms)), (sg_M_exp N d).1 s = some y → Met l yn_M_exp (xw yn_M_exp bn_M_exp 5 (some .int)) ({ frames := 5 + d, cells := 2 * (gl y.2 - gl s), slots := 2 * (gl y.2 - gl s), locals := 117 + d * 24 }) (dc_P (dC, dI) xcl (xt cI cB cJ cZ cQ) [.ref h0] sz (wM h0 a cI cB cJ cZ s)) (xk_Qi (dC, dI) xcl (xt cI cB cJ cZ cQ) (fun (r : Int32) (_ : Nat → Nat) => r = y.1) (fun u : Nat → Nat => (wM h0 u cI cB cJ cZ y.2)) (va_A (wM h0 a cI cB cJ cZ s) sz)) (2 * (gl y.2 - gl s)) (2 * (gl y.2 - gl s)) (va_A (wM h0 a cI cB cJ cZ s) sz)) ∧ (∀ (sz : Nat) (h0 : Nat) (a : Nat → Nat) (s : ms) (y : (Int32 × ms)), (sg_M_exp N d).2.1 s = some y → Met l yn_M_binary (xw yn_M_binary bn_M_binary 3 (some .int)) ({ frames := 5 + d, cells := 2 * (gl y.2 - gl s), slots := 2 * (gl y.2 - gl s), locals := 117 + d * 24 }) (dc_P (dC, dI) xcl (xt cI cB cJ cZ cQ) [.ref h0] sz (wM h0 a cI cB cJ cZ s)) (xk_Qi (dC, dI) xcl (xt cI cB cJ cZ cQ) (fun (r : Int32) (_ : Nat → Nat) => r = y.1) (fun u : Nat → Nat => (wM h0 u cI cB cJ cZ y.2)) (va_A (wM h0 a cI cB cJ cZ s) sz)) (2 * (gl y.2 - gl s)) (2 * (gl y.2 - gl s)) (va_A (wM h0 a cI cB cJ cZ s) sz)) ∧ (∀ (sz : Nat) (h0 : Nat) (a : Nat → Nat) (s : ms) (y : (Int32 × ms)), (sg_M_exp N d).2.2.1 s = some y → Met l yn_M_operand (xw yn_M_operand bn_M_operand 5 (some .int)) ({ frames := 5 + d, cells := 2 * (gl y.2 - gl s), slots := 2 * (gl y.2 - gl s), locals := 117 + d * 24 }) (dc_P (dC, dI) xcl (xt cI cB cJ cZ cQ) [.ref h0] sz (wM h0 a cI cB cJ cZ s)) (xk_Qi (dC, dI) xcl (xt cI cB cJ cZ cQ) (fun (r : Int32) (_ : Nat → Nat) => r = y.1) (fun u : Nat → Nat => (wM h0 u cI cB cJ cZ y.2)) (va_A (wM h0 a cI cB cJ cZ s) sz)) (2 * (gl y.2 - gl s)) (2 * (gl y.2 - gl s)) (va_A (wM h0 a cI cB cJ cZ s) sz)) ∧ (∀ (sz : Nat) (h0 : Nat) (a : Nat → Nat) (s : ms) (y : (Int32 × ms)), (sg_M_exp N d).2.2.2.1 s = some y → Met l yn_M_primary (xw yn_M_primary bn_M_primary 4 (some .int)) ({ frames := 5 + d, cells := 2 * (gl y.2 - gl s), slots := 2 * (gl y.2 - gl s), locals := 117 + d * 24 }) (dc_P (dC, dI) xcl (xt cI cB cJ cZ cQ) [.ref h0] sz (wM h0 a cI cB cJ cZ s)) (xk_Qi (dC, dI) xcl (xt cI cB cJ cZ cQ) (fun (r : Int32) (_ : Nat → Nat) => r = y.1) (fun u : Nat → Nat => (wM h0 u cI cB cJ cZ y.2)) (va_A (wM h0 a cI cB cJ cZ s) sz)) (2 * (gl y.2 - gl s)) (2 * (gl y.2 - gl s)) (va_A (wM h0 a cI cB cJ cZ s) sz)) ∧ (∀ (sz : Nat) (h0 : Nat) (a : Nat → Nat) (v1 : Int32) (s : ms) (y : (Int32 × ms)), (sg_M_exp N d).2.2.2.2 v1 s = some y → Met l yn_M_braces (xw yn_M_braces bn_M_braces 5 (some .int)) ({ frames := 5 + d, cells := 2 * (gl y.2 - gl s), slots := 2 * (gl y.2 - gl s), locals := 117 + d * 24 }) (dc_P (dC, dI) xcl (xt cI cB cJ cZ cQ) [.ref h0, .int v1] sz (wM h0 a cI cB cJ cZ s)) (xk_Qi (dC, dI) xcl (xt cI cB cJ cZ cQ) (fun (r : Int32) (_ : Nat → Nat) => r = y.1) (fun u : Nat → Nat => (wM h0 u cI cB cJ cZ y.2)) (va_A (wM h0 a cI cB cJ cZ s) sz)) (2 * (gl y.2 - gl s)) (2 * (gl y.2 - gl s)) (va_A (wM h0 a cI cB cJ cZ s) sz)) := by
  intro d
  induction d with
  | zero => exact ⟨fun _ _ _ _ _ h => (by cases h), fun _ _ _ _ _ h => (by cases h), fun _ _ _ _ _ h => (by cases h), fun _ _ _ _ _ h => (by cases h), fun _ _ _ _ _ _ h => (by cases h)⟩
  | succ d ih =>
    obtain ⟨ih0, ih1, ih2, ih3, ih4⟩ := ih
    exact ⟨fun sz h0 a s y h => cb_M_exp l dC dI cI cB cJ cZ cQ N d _ _ _ _ _ (sm_M_exp N d).1 (sm_M_exp N d).2.1 (sm_M_exp N d).2.2.1 (sm_M_exp N d).2.2.2.1 (sm_M_exp N d).2.2.2.2 ih0 ih1 ih2 ih3 ih4 sz h0 a s y h, fun sz h0 a s y h => cb_M_binary l dC dI cI cB cJ cZ cQ N d _ _ _ _ _ (sm_M_exp N d).1 (sm_M_exp N d).2.1 (sm_M_exp N d).2.2.1 (sm_M_exp N d).2.2.2.1 (sm_M_exp N d).2.2.2.2 ih0 ih1 ih2 ih3 ih4 sz h0 a s y h, fun sz h0 a s y h => cb_M_operand l dC dI cI cB cJ cZ cQ N d _ _ _ _ _ (sm_M_exp N d).1 (sm_M_exp N d).2.1 (sm_M_exp N d).2.2.1 (sm_M_exp N d).2.2.2.1 (sm_M_exp N d).2.2.2.2 ih0 ih1 ih2 ih3 ih4 sz h0 a s y h, fun sz h0 a s y h => cb_M_primary l dC dI cI cB cJ cZ cQ N d _ _ _ _ _ (sm_M_exp N d).1 (sm_M_exp N d).2.1 (sm_M_exp N d).2.2.1 (sm_M_exp N d).2.2.2.1 (sm_M_exp N d).2.2.2.2 ih0 ih1 ih2 ih3 ih4 sz h0 a s y h, fun sz h0 a v1 s y h => cb_M_braces l dC dI cI cB cJ cZ cQ N d _ _ _ _ _ (sm_M_exp N d).1 (sm_M_exp N d).2.1 (sm_M_exp N d).2.2.1 (sm_M_exp N d).2.2.2.1 (sm_M_exp N d).2.2.2.2 ih0 ih1 ih2 ih3 ih4 sz h0 a v1 s y h⟩
theorem mn_M_exp (N : Nat) (s : ms) (y : (Int32 × ms)) (hf : fn_M_exp N s = some y) : gl s ≤ gl y.2 := (sm_M_exp N 400).1 s y hf
theorem ct_M_exp (l : Launch) (dC : Nat → ClassId) (dI : Nat → Nat → Nat) (cI cB cJ cZ cQ : ClassId) (N sz : Nat) (h0 : Nat) (a : Nat → Nat) (s : ms) (y : (Int32 × ms)) (hf : fn_M_exp N s = some y) : Met l yn_M_exp (xw yn_M_exp bn_M_exp 5 (some .int)) ({ frames := 5 + 400, cells := 2 * (gl y.2 - gl s), slots := 2 * (gl y.2 - gl s), locals := 117 + 400 * 24 }) (dc_P (dC, dI) xcl (xt cI cB cJ cZ cQ) [.ref h0] sz (wM h0 a cI cB cJ cZ s)) (xk_Qi (dC, dI) xcl (xt cI cB cJ cZ cQ) (fun (r : Int32) (_ : Nat → Nat) => r = y.1) (fun u : Nat → Nat => (wM h0 u cI cB cJ cZ y.2)) (va_A (wM h0 a cI cB cJ cZ s) sz)) (2 * (gl y.2 - gl s)) (2 * (gl y.2 - gl s)) (va_A (wM h0 a cI cB cJ cZ s) sz) := (sc_M_exp l dC dI cI cB cJ cZ cQ N 400).1 sz h0 a s y hf
theorem mn_M_binary (N : Nat) (s : ms) (y : (Int32 × ms)) (hf : fn_M_binary N s = some y) : gl s ≤ gl y.2 := (sm_M_exp N 400).2.1 s y hf
theorem ct_M_binary (l : Launch) (dC : Nat → ClassId) (dI : Nat → Nat → Nat) (cI cB cJ cZ cQ : ClassId) (N sz : Nat) (h0 : Nat) (a : Nat → Nat) (s : ms) (y : (Int32 × ms)) (hf : fn_M_binary N s = some y) : Met l yn_M_binary (xw yn_M_binary bn_M_binary 3 (some .int)) ({ frames := 5 + 400, cells := 2 * (gl y.2 - gl s), slots := 2 * (gl y.2 - gl s), locals := 117 + 400 * 24 }) (dc_P (dC, dI) xcl (xt cI cB cJ cZ cQ) [.ref h0] sz (wM h0 a cI cB cJ cZ s)) (xk_Qi (dC, dI) xcl (xt cI cB cJ cZ cQ) (fun (r : Int32) (_ : Nat → Nat) => r = y.1) (fun u : Nat → Nat => (wM h0 u cI cB cJ cZ y.2)) (va_A (wM h0 a cI cB cJ cZ s) sz)) (2 * (gl y.2 - gl s)) (2 * (gl y.2 - gl s)) (va_A (wM h0 a cI cB cJ cZ s) sz) := (sc_M_exp l dC dI cI cB cJ cZ cQ N 400).2.1 sz h0 a s y hf
theorem mn_M_operand (N : Nat) (s : ms) (y : (Int32 × ms)) (hf : fn_M_operand N s = some y) : gl s ≤ gl y.2 := (sm_M_exp N 400).2.2.1 s y hf
theorem ct_M_operand (l : Launch) (dC : Nat → ClassId) (dI : Nat → Nat → Nat) (cI cB cJ cZ cQ : ClassId) (N sz : Nat) (h0 : Nat) (a : Nat → Nat) (s : ms) (y : (Int32 × ms)) (hf : fn_M_operand N s = some y) : Met l yn_M_operand (xw yn_M_operand bn_M_operand 5 (some .int)) ({ frames := 5 + 400, cells := 2 * (gl y.2 - gl s), slots := 2 * (gl y.2 - gl s), locals := 117 + 400 * 24 }) (dc_P (dC, dI) xcl (xt cI cB cJ cZ cQ) [.ref h0] sz (wM h0 a cI cB cJ cZ s)) (xk_Qi (dC, dI) xcl (xt cI cB cJ cZ cQ) (fun (r : Int32) (_ : Nat → Nat) => r = y.1) (fun u : Nat → Nat => (wM h0 u cI cB cJ cZ y.2)) (va_A (wM h0 a cI cB cJ cZ s) sz)) (2 * (gl y.2 - gl s)) (2 * (gl y.2 - gl s)) (va_A (wM h0 a cI cB cJ cZ s) sz) := (sc_M_exp l dC dI cI cB cJ cZ cQ N 400).2.2.1 sz h0 a s y hf
theorem mn_M_primary (N : Nat) (s : ms) (y : (Int32 × ms)) (hf : fn_M_primary N s = some y) : gl s ≤ gl y.2 := (sm_M_exp N 400).2.2.2.1 s y hf
theorem ct_M_primary (l : Launch) (dC : Nat → ClassId) (dI : Nat → Nat → Nat) (cI cB cJ cZ cQ : ClassId) (N sz : Nat) (h0 : Nat) (a : Nat → Nat) (s : ms) (y : (Int32 × ms)) (hf : fn_M_primary N s = some y) : Met l yn_M_primary (xw yn_M_primary bn_M_primary 4 (some .int)) ({ frames := 5 + 400, cells := 2 * (gl y.2 - gl s), slots := 2 * (gl y.2 - gl s), locals := 117 + 400 * 24 }) (dc_P (dC, dI) xcl (xt cI cB cJ cZ cQ) [.ref h0] sz (wM h0 a cI cB cJ cZ s)) (xk_Qi (dC, dI) xcl (xt cI cB cJ cZ cQ) (fun (r : Int32) (_ : Nat → Nat) => r = y.1) (fun u : Nat → Nat => (wM h0 u cI cB cJ cZ y.2)) (va_A (wM h0 a cI cB cJ cZ s) sz)) (2 * (gl y.2 - gl s)) (2 * (gl y.2 - gl s)) (va_A (wM h0 a cI cB cJ cZ s) sz) := (sc_M_exp l dC dI cI cB cJ cZ cQ N 400).2.2.2.1 sz h0 a s y hf
theorem mn_M_braces (N : Nat) (v1 : Int32) (s : ms) (y : (Int32 × ms)) (hf : fn_M_braces N v1 s = some y) : gl s ≤ gl y.2 := (sm_M_exp N 400).2.2.2.2 v1 s y hf
theorem ct_M_braces (l : Launch) (dC : Nat → ClassId) (dI : Nat → Nat → Nat) (cI cB cJ cZ cQ : ClassId) (N sz : Nat) (h0 : Nat) (a : Nat → Nat) (v1 : Int32) (s : ms) (y : (Int32 × ms)) (hf : fn_M_braces N v1 s = some y) : Met l yn_M_braces (xw yn_M_braces bn_M_braces 5 (some .int)) ({ frames := 5 + 400, cells := 2 * (gl y.2 - gl s), slots := 2 * (gl y.2 - gl s), locals := 117 + 400 * 24 }) (dc_P (dC, dI) xcl (xt cI cB cJ cZ cQ) [.ref h0, .int v1] sz (wM h0 a cI cB cJ cZ s)) (xk_Qi (dC, dI) xcl (xt cI cB cJ cZ cQ) (fun (r : Int32) (_ : Nat → Nat) => r = y.1) (fun u : Nat → Nat => (wM h0 u cI cB cJ cZ y.2)) (va_A (wM h0 a cI cB cJ cZ s) sz)) (2 * (gl y.2 - gl s)) (2 * (gl y.2 - gl s)) (va_A (wM h0 a cI cB cJ cZ s) sz) := (sc_M_exp l dC dI cI cB cJ cZ cQ N 400).2.2.2.2 sz h0 a v1 s y hf
