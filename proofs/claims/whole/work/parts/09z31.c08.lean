set_option maxHeartbeats 8000000 in
set_option maxRecDepth 100000 in
theorem ct_Code_emit_Ks (l : Launch) (dC : Nat → ClassId) (dI : Nat → Nat → Nat) (cI cB cJ cZ cQ : ClassId) (N sz : Nat) (a : Nat → Nat) (v : Nat → Value) (v1 : Int32) (v2 : Int32) (s : ms) (y : (Int32 × ms)) (hf : fn_Code_emit_Ks N v1 v2 s = some y) : Met l yn_Code_emit (xw yn_Code_emit bn_Code_emit 3 (some .int)) ({ frames := 0, cells := 0, slots := 0, locals := 0 }) (dc_P (dC, dI) xcl (xt cI cB cJ cZ cQ) [.ref ((a 111)), .int v1, .int v2] sz (wC a v cI cB cJ cZ cQ s)) (xk_Qi (dC, dI) xcl (xt cI cB cJ cZ cQ) (fun (r : Int32) (_ : Unit) => r = y.1) (fun u : Unit => (wC a v cI cB cJ cZ cQ y.2)) (va_A (wC a v cI cB cJ cZ cQ s) sz)) 0 0 (va_A (wC a v cI cB cJ cZ cQ s) sz) := by
  refine dc_of (QA := xk_Qi (dC, dI) xcl (xt cI cB cJ cZ cQ) (fun (r : Int32) (_ : Unit) => r = y.1) (fun u : Unit => (wC a v cI cB cJ cZ cQ y.2))) (by decide) (Nat.le_of_ble_eq_true rfl) ?_
  intro p e s0 m below meth c hx hb hml hown hg hr hlocks hin hP hK hN A hA hD hT ls hl
  have hown : s0.vm.findClass rn_Code = some m.cls := hown
  obtain ⟨H, hH⟩ : ∃ z, z = s0.heap := ⟨_, rfl⟩
  rw [← hH] at hP
  have hS : va_S A s0.heap H [] := by rw [hH]; exact va_S.rf
  suffices kk : ∀ QQ : State → Prop, QQ = MQ below (xk_Qi (dC, dI) xcl (xt cI cB cJ cZ cQ) (fun (r : Int32) (_ : Unit) => r = y.1) (fun u : Unit => (wC a v cI cB cJ cZ cQ y.2)) A) [.ref ((a 111)), .int v1, .int v2].toArray s0 0 0 A → dcC p l e ({ frames := 0, cells := 0, slots := 0, locals := 0 }) s0 m [.ref ((a 111)), .int v1, .int v2].toArray below meth c QQ (dC, dI) A (wC a v cI cB cJ cZ cQ s) 0 3 [(0, .ref ((a 111))), (1, .int v1), (2, .int v2)] [] by
    have k9 := kk _ rfl H [] ls hP hD hS hl
    rw [hH] at k9; exact k9
  clear hP hD hS hl hH H ls
  intro QQ hQQ
  intro H locs ls hP hD hS hl
  unfold fn_Code_emit_Ks at hf
  refine lv_aload_n hx hb dn_Code_emit_0 rfl (lv_at hl 0 rfl) ?_
  refine va_get (D := (dC, dI)) (ci := 12) (v := .int ((s.1 337 0))) (C := rn_Code) (T := fn_Code) (N := 5) hx hb hg in_Code hown hK hP 11 rfl rfl 1 (by decide) (hg _ wn_2_211) (fun _ h9 => h9) rfl dn_Code_emit_1 ?_
  refine lv_ldc hx hb hown (hg _ wn_2_209) dn_Code_emit_4 ?_
  refine lv_icmp_lt (tgt := 11) hx hb dn_Code_emit_6 (by decide) (fun h => ?_) (fun h => ?_)
  · have hf := (if_pos h).symm.trans hf
    refine lv_aload_n hx hb dn_Code_emit_11 rfl (lv_at hl 0 rfl) ?_
    refine va_get (D := (dC, dI)) (ci := 12) (v := .ref ((a 336))) (C := rn_Code) (T := fn_Code) (N := 5) hx hb hg in_Code hown hK hP 11 rfl rfl 0 (by decide) (hg _ wn_2_210) (fun _ h9 => h9) rfl dn_Code_emit_12 ?_
    refine lv_aload_n hx hb dn_Code_emit_15 rfl (lv_at hl 0 rfl) ?_
    refine va_get (D := (dC, dI)) (ci := 12) (v := .int ((s.1 337 0))) (C := rn_Code) (T := fn_Code) (N := 5) hx hb hg in_Code hown hK hP 11 rfl rfl 1 (by decide) (hg _ wn_2_211) (fun _ h9 => h9) rfl dn_Code_emit_16 ?_
    refine lv_iload_n hx hb dn_Code_emit_19 rfl (lv_at hl 1 rfl) ?_
    refine lv_i2l (v := Int32.toInt64 v1) hx hb dn_Code_emit_20 rfl ?_
    refine lv_bipush (v := 32) hx hb dn_Code_emit_21 (by decide) ?_
    refine lv_lshl (v := ((Int32.toInt64 v1) : Int64) <<< ((Int32.toInt64 32) &&& 63)) hx hb dn_Code_emit_23 rfl ?_
    refine lv_iload_n hx hb dn_Code_emit_24 rfl (lv_at hl 2 rfl) ?_
    refine lv_i2l (v := Int32.toInt64 v2) hx hb dn_Code_emit_25 rfl ?_
    refine lv_ldc2 hx hb hown (hg _ wn_5_201) dn_Code_emit_26 ?_
    refine lv_land hx hb dn_Code_emit_29 ?_
    refine lv_lor hx hb dn_Code_emit_30 ?_
    obtain ⟨hg_1, hf⟩ := dc_g hf
    refine va_last hx hb hK hP hD hS 73 2 rfl rfl hg_1 dn_Code_emit_31 (fun H locs hP hD hS => ?_)
    have hP : va_P (dC, dI) xcl ((wC a v cI cB cJ cZ cQ s).set 73 ((a 336), .inl (cJ, 65537, .inr (.inl (vp_updL (s.2 336) (Int32.toNatClampNeg ((s.1 337 0))) (((((Int32.toInt64 v1) : Int64) <<< ((Int32.toInt64 32) &&& 63)) ||| ((Int32.toInt64 v2) &&& 4294967295)))))))) H := hP
    have hD : va_D A ((wC a v cI cB cJ cZ cQ s).set 73 ((a 336), .inl (cJ, 65537, .inr (.inl (vp_updL (s.2 336) (Int32.toNatClampNeg ((s.1 337 0))) (((((Int32.toInt64 v1) : Int64) <<< ((Int32.toInt64 32) &&& 63)) ||| ((Int32.toInt64 v2) &&& 4294967295)))))))) := hD
    have hP := wC_P_336 hP
    have hD := wC_D_336 hD
    refine lv_aload_n hx hb dn_Code_emit_32 rfl (lv_at hl 0 rfl) ?_
    refine lv_dup hx hb dn_Code_emit_33 rfl ?_
    refine va_get (D := (dC, dI)) (ci := 12) (v := .int ((s.1 337 0))) (C := rn_Code) (T := fn_Code) (N := 5) hx hb hg in_Code hown hK hP 11 rfl rfl 1 (by decide) (hg _ wn_2_211) (fun _ h9 => h9) rfl dn_Code_emit_34 ?_
    refine lv_iconst (v := 1) hx hb dn_Code_emit_37 (by decide) ?_
    refine lv_iadd hx hb dn_Code_emit_38 ?_
    refine va_put (D := (dC, dI)) (ci := 12) (v := .int (((s.1 337 0) + 1))) (ty := .int) (C := rn_Code) (T := fn_Code) (N := 5) hx hb hg in_Code tn_Code tk_Code nn_Code hown hK hP hD hS 11 rfl rfl 1 (by decide) (hg _ wn_2_211) (fun _ h9 => h9) rfl (tk_Code 1 (by decide)) rfl rfl (Nat.le_of_ble_eq_true rfl) dn_Code_emit_39 (fun H locs hP hD hS => ?_)
    have hP := wC_P_337 hP
    have hD := wC_D_337 hD
    refine lv_aload_n hx hb dn_Code_emit_42 rfl (lv_at hl 0 rfl) ?_
    refine va_get (D := (dC, dI)) (ci := 12) (v := .int (((s.1 337 0) + 1))) (C := rn_Code) (T := fn_Code) (N := 5) hx hb hg in_Code hown hK hP 11 rfl rfl 1 (by decide) (hg _ wn_2_211) (fun _ h9 => h9) rfl dn_Code_emit_43 ?_
    refine lv_iconst (v := 1) hx hb dn_Code_emit_46 (by decide) ?_
    refine lv_isub hx hb dn_Code_emit_47 ?_
    rw [hQQ, ← Option.some.inj hf]
    exact xk_iret (w1 := fun u : Unit => (wC a v cI cB cJ cZ cQ (upI (upJ s 336 (vp_updL (s.2 336) (Int32.toNatClampNeg ((s.1 337 0))) (((((Int32.toInt64 v1) : Int64) <<< ((Int32.toInt64 32) &&& 63)) ||| ((Int32.toInt64 v2) &&& 4294967295))))) 337 (fun _ => ((s.1 337 0) + 1))))) () hx hb hr hlocks hK hS dn_Code_emit_48 hP hD rfl (Nat.le_refl _) (Nat.le_refl _)
  · have hf := (if_neg h).symm.trans hf
    refine lv_iconst (v := (-1)) hx hb dn_Code_emit_9 (by decide) ?_
    rw [hQQ, ← Option.some.inj hf]
    exact xk_iret (w1 := fun u : Unit => (wC a v cI cB cJ cZ cQ s)) () hx hb hr hlocks hK hS dn_Code_emit_10 hP hD rfl (Nat.le_refl _) (Nat.le_refl _)
set_option maxHeartbeats 8000000 in
set_option maxRecDepth 100000 in
theorem ct_Meaning_otherwise_Me (l : Launch) (dC : Nat → ClassId) (dI : Nat → Nat → Nat) (cI cB cJ cZ cQ : ClassId) (N sz : Nat) (a : Nat → Nat) (v : Nat → Value) (hv_6 : v 6 = .ref (a 111)) (s : ms) (y : (Unit × ms)) (hf : fn_Meaning_otherwise_Me N s = some y) : Met l yn_Meaning_otherwise (xw yn_Meaning_otherwise bn_Meaning_otherwise 2 none) ({ frames := 1, cells := 0, slots := 0, locals := 22 }) (dc_P (dC, dI) xcl (xt cI cB cJ cZ cQ) [.ref ((a 104))] sz (wC a v cI cB cJ cZ cQ s)) (xk_Qv (dC, dI) xcl (xt cI cB cJ cZ cQ) (fun _ : Unit => True) (fun u : Unit => (wC a v cI cB cJ cZ cQ y.2)) (va_A (wC a v cI cB cJ cZ cQ s) sz)) 0 0 (va_A (wC a v cI cB cJ cZ cQ s) sz) := by
  refine dc_of (QA := xk_Qv (dC, dI) xcl (xt cI cB cJ cZ cQ) (fun _ : Unit => True) (fun u : Unit => (wC a v cI cB cJ cZ cQ y.2))) (by decide) (Nat.le_of_ble_eq_true rfl) ?_
  intro p e s0 m below meth c hx hb hml hown hg hr hlocks hin hP hK hN A hA hD hT ls hl
  have hown : s0.vm.findClass rn_Meaning = some m.cls := hown
  obtain ⟨H, hH⟩ : ∃ z, z = s0.heap := ⟨_, rfl⟩
  rw [← hH] at hP
  have hS : va_S A s0.heap H [] := by rw [hH]; exact va_S.rf
  suffices kk : ∀ QQ : State → Prop, QQ = MQ below (xk_Qv (dC, dI) xcl (xt cI cB cJ cZ cQ) (fun _ : Unit => True) (fun u : Unit => (wC a v cI cB cJ cZ cQ y.2)) A) [.ref ((a 104))].toArray s0 0 0 A → dcC p l e ({ frames := 1, cells := 0, slots := 0, locals := 22 }) s0 m [.ref ((a 104))].toArray below meth c QQ (dC, dI) A (wC a v cI cB cJ cZ cQ s) 0 2 [(0, .ref ((a 104)))] [] by
    have k9 := kk _ rfl H [] ls hP hD hS hl
    rw [hH] at k9; exact k9
  clear hP hD hS hl hH H ls
  intro QQ hQQ
  intro H locs ls hP hD hS hl
  unfold fn_Meaning_otherwise_Me at hf
  refine lv_aload_n hx hb dn_Meaning_otherwise_0 rfl (lv_at hl 0 rfl) ?_
  refine va_get (D := (dC, dI)) (ci := 5) (v := .ref ((a 103))) (C := rn_Meaning) (T := fn_Meaning) (N := 17) hx hb hg in_Meaning hown hK hP 4 rfl rfl 0 (by decide) (hg _ wn_1_184) (fun _ h9 => h9) rfl dn_Meaning_otherwise_1 ?_
  obtain ⟨q_1, hc_2, hf⟩ := dc_b hf
  refine dc_calli (dc_runV (ar := 0) (As := []) (rest := []) (ci := 4) (q0 := 3) ⟨hx, hb, hml, hown, hg⟩ hK hN hT hS hA (ct_Checker_isOff_Ch l dC dI cI cB cJ cZ cQ N H.size a v s q_1 hc_2) hP hD rfl rfl wn_4_193 wn_4_194 wn_4_195 wn_1_4 wn_4_196 rfl rfl (by decide +kernel) ⟨Nat.le_of_ble_eq_true rfl, Nat.le_of_ble_eq_true rfl⟩ rfl hl.1 rfl (Nat.le_of_ble_eq_true rfl) dn_Meaning_otherwise_4 ⟨Nat.le_of_ble_eq_true rfl, Nat.le_of_ble_eq_true rfl⟩) hP hD hS hA (fun r_3 _ H locs hw hP hD hS => ?_)
  have hw : r_3 = q_1.1 := hw
  subst hw
  refine lv_if_ne (tgt := 17) hx hb dn_Meaning_otherwise_7 (by decide) (fun h => ?_) (fun h => ?_)
  · have hf := (if_neg h).symm.trans hf
    rw [hQQ, ← Option.some.inj hf]
    exact xk_vret (w1 := fun u : Unit => (wC a v cI cB cJ cZ cQ q_1.2)) () hx hb hr hlocks hK hS dn_Meaning_otherwise_17 hP hD trivial (Nat.le_refl _) (Nat.le_refl _)
  · have hf := (if_pos h).symm.trans hf
    refine lv_aload_n hx hb dn_Meaning_otherwise_10 rfl (lv_at hl 0 rfl) ?_
    refine va_get (D := (dC, dI)) (ci := 5) (v := .int ((q_1.2.1 260 0))) (C := rn_Meaning) (T := fn_Meaning) (N := 17) hx hb hg in_Meaning hown hK hP 4 rfl rfl 16 (by decide) (hg _ wn_1_200) (fun _ h9 => h9) rfl dn_Meaning_otherwise_11 ?_
    refine lv_if_ne (tgt := 18) hx hb dn_Meaning_otherwise_14 (by decide) (fun h => ?_) (fun h => ?_)
    · have hf := (if_neg h).symm.trans hf
      refine lv_aload_n hx hb dn_Meaning_otherwise_18 rfl (lv_at hl 0 rfl) ?_
      refine va_get (D := (dC, dI)) (ci := 5) (v := .ref ((a 111))) (C := rn_Meaning) (T := fn_Meaning) (N := 17) hx hb hg in_Meaning hown hK hP 4 rfl rfl 3 (by decide) (hg _ wn_1_187) (fun _ h9 => h9) (congrArg some hv_6) dn_Meaning_otherwise_19 ?_
      refine lv_sipush (v := 517) hx hb dn_Meaning_otherwise_22 (by decide) ?_
      refine lv_iconst (v := (-1)) hx hb dn_Meaning_otherwise_25 (by decide) ?_
      obtain ⟨q_4, hc_5, hf⟩ := dc_b hf
      refine dc_calli (dc_runV (ar := 2) (As := [.int 517, .int ((-1))]) (rest := []) (ci := 12) (q0 := 11) ⟨hx, hb, hml, hown, hg⟩ hK hN hT hS hA (ct_Code_emit_Ks l dC dI cI cB cJ cZ cQ N H.size a v 517 ((-1)) q_1.2 q_4 hc_5) hP hD rfl rfl wn_5_197 wn_5_198 wn_5_199 wn_1_12 wn_5_200 rfl rfl (by decide +kernel) ⟨Nat.le_of_ble_eq_true rfl, Nat.le_of_ble_eq_true rfl⟩ rfl hl.1 rfl (Nat.le_of_ble_eq_true rfl) dn_Meaning_otherwise_26 ⟨Nat.le_of_ble_eq_true rfl, Nat.le_of_ble_eq_true rfl⟩) hP hD hS hA (fun r_6 _ H locs hw hP hD hS => ?_)
      have hw : r_6 = q_4.1 := hw
      subst hw
      refine lv_istore_n (lv' := [(1, .int q_4.1), (0, .ref ((a 104)))]) hx hb dn_Meaning_otherwise_29 rfl hl (by decide) rfl (fun ls hl => ?_)
      refine lv_aload_n hx hb dn_Meaning_otherwise_30 rfl (lv_at hl 1 rfl) ?_
      refine va_get (D := (dC, dI)) (ci := 5) (v := .ref ((a 111))) (C := rn_Meaning) (T := fn_Meaning) (N := 17) hx hb hg in_Meaning hown hK hP 4 rfl rfl 3 (by decide) (hg _ wn_1_187) (fun _ h9 => h9) (congrArg some hv_6) dn_Meaning_otherwise_31 ?_
      refine lv_aload_n hx hb dn_Meaning_otherwise_34 rfl (lv_at hl 1 rfl) ?_
      refine va_get (D := (dC, dI)) (ci := 5) (v := .ref ((a 256))) (C := rn_Meaning) (T := fn_Meaning) (N := 17) hx hb hg in_Meaning hown hK hP 4 rfl rfl 12 (by decide) (hg _ wn_1_196) (fun _ h9 => h9) rfl dn_Meaning_otherwise_35 ?_
      refine lv_aload_n hx hb dn_Meaning_otherwise_38 rfl (lv_at hl 1 rfl) ?_
      refine va_get (D := (dC, dI)) (ci := 5) (v := .int ((q_4.2.1 260 0))) (C := rn_Meaning) (T := fn_Meaning) (N := 17) hx hb hg in_Meaning hown hK hP 4 rfl rfl 16 (by decide) (hg _ wn_1_200) (fun _ h9 => h9) rfl dn_Meaning_otherwise_39 ?_
      refine lv_iconst (v := 1) hx hb dn_Meaning_otherwise_42 (by decide) ?_
      refine lv_isub hx hb dn_Meaning_otherwise_43 ?_
      obtain ⟨hg_7, hf⟩ := dc_g hf
      refine va_iald hx hb hK hP 26 0 rfl rfl hg_7 dn_Meaning_otherwise_44 ?_
      refine xk_ti (y := ((q_4.2.1 256) (Int32.toNatClampNeg (((q_4.2.1 260 0) - 1))))) rfl ?_
      obtain ⟨q_8, hc_9, hf⟩ := dc_b hf
      refine dc_callv (dc_runV (ar := 1) (As := [.int (((q_4.2.1 256) (Int32.toNatClampNeg (((q_4.2.1 260 0) - 1)))))]) (rest := []) (ci := 12) (q0 := 11) ⟨hx, hb, hml, hown, hg⟩ hK hN hT hS hA (ct_Code_aim_Ks l dC dI cI cB cJ cZ cQ N H.size a v (((q_4.2.1 256) (Int32.toNatClampNeg (((q_4.2.1 260 0) - 1))))) q_4.2 q_8 hc_9) hP hD rfl rfl wn_5_202 wn_5_203 wn_5_204 wn_1_12 wn_5_205 rfl rfl (by decide +kernel) ⟨Nat.le_of_ble_eq_true rfl, Nat.le_of_ble_eq_true rfl⟩ rfl hl.1 rfl (Nat.le_of_ble_eq_true rfl) dn_Meaning_otherwise_45 ⟨Nat.le_of_ble_eq_true rfl, Nat.le_of_ble_eq_true rfl⟩) hP hD hS hA (fun _ H locs hw hP hD hS => ?_)
      refine lv_aload_n hx hb dn_Meaning_otherwise_48 rfl (lv_at hl 1 rfl) ?_
      refine va_get (D := (dC, dI)) (ci := 5) (v := .ref ((a 256))) (C := rn_Meaning) (T := fn_Meaning) (N := 17) hx hb hg in_Meaning hown hK hP 4 rfl rfl 12 (by decide) (hg _ wn_1_196) (fun _ h9 => h9) rfl dn_Meaning_otherwise_49 ?_
      refine lv_aload_n hx hb dn_Meaning_otherwise_52 rfl (lv_at hl 1 rfl) ?_
      refine va_get (D := (dC, dI)) (ci := 5) (v := .int ((q_8.2.1 260 0))) (C := rn_Meaning) (T := fn_Meaning) (N := 17) hx hb hg in_Meaning hown hK hP 4 rfl rfl 16 (by decide) (hg _ wn_1_200) (fun _ h9 => h9) rfl dn_Meaning_otherwise_53 ?_
      refine lv_iconst (v := 1) hx hb dn_Meaning_otherwise_56 (by decide) ?_
      refine lv_isub hx hb dn_Meaning_otherwise_57 ?_
      refine lv_iload_n hx hb dn_Meaning_otherwise_58 rfl (lv_at hl 0 rfl) ?_
      obtain ⟨hg_10, hf⟩ := dc_g hf
      refine va_iast hx hb hK hP hD hS 26 0 rfl rfl hg_10 dn_Meaning_otherwise_59 (fun H locs hP hD hS => ?_)
      have hP : va_P (dC, dI) xcl ((wC a v cI cB cJ cZ cQ q_8.2).set 26 ((a 256), .inl (cI, 60, .inl (upd (q_8.2.1 256) (Int32.toNatClampNeg (((q_8.2.1 260 0) - 1))) q_4.1)))) H := hP
      have hD : va_D A ((wC a v cI cB cJ cZ cQ q_8.2).set 26 ((a 256), .inl (cI, 60, .inl (upd (q_8.2.1 256) (Int32.toNatClampNeg (((q_8.2.1 260 0) - 1))) q_4.1)))) := hD
      have hP := wC_P_256 hP
      have hD := wC_D_256 hD
      rw [hQQ, ← Option.some.inj hf]
      exact xk_vret (w1 := fun u : Unit => (wC a v cI cB cJ cZ cQ (upI q_8.2 256 (upd (q_8.2.1 256) (Int32.toNatClampNeg (((q_8.2.1 260 0) - 1))) q_4.1)))) () hx hb hr hlocks hK hS dn_Meaning_otherwise_60 hP hD trivial (Nat.le_refl _) (Nat.le_refl _)
    · have hf := (if_pos h).symm.trans hf
      rw [hQQ, ← Option.some.inj hf]
      exact xk_vret (w1 := fun u : Unit => (wC a v cI cB cJ cZ cQ q_1.2)) () hx hb hr hlocks hK hS dn_Meaning_otherwise_17 hP hD trivial (Nat.le_refl _) (Nat.le_refl _)
set_option maxHeartbeats 8000000 in
set_option maxRecDepth 100000 in
theorem ct_Grammar_otherwise_Gr (l : Launch) (dC : Nat → ClassId) (dI : Nat → Nat → Nat) (cI cB cJ cZ cQ : ClassId) (N sz : Nat) (a : Nat → Nat) (v : Nat → Value) (hv_6 : v 6 = .ref (a 111)) (s : ms) (y : (Unit × ms)) (hf : fn_Grammar_otherwise_Gr N s = some y) : Met l yn_Grammar_otherwise (xw yn_Grammar_otherwise bn_Grammar_otherwise 1 none) ({ frames := 2, cells := 0, slots := 0, locals := 43 }) (dc_P (dC, dI) xcl (xt cI cB cJ cZ cQ) [.ref ((a 105))] sz (wC a v cI cB cJ cZ cQ s)) (xk_Qv (dC, dI) xcl (xt cI cB cJ cZ cQ) (fun _ : Unit => True) (fun u : Unit => (wC a v cI cB cJ cZ cQ y.2)) (va_A (wC a v cI cB cJ cZ cQ s) sz)) 0 0 (va_A (wC a v cI cB cJ cZ cQ s) sz) := by
  refine dc_of (QA := xk_Qv (dC, dI) xcl (xt cI cB cJ cZ cQ) (fun _ : Unit => True) (fun u : Unit => (wC a v cI cB cJ cZ cQ y.2))) (by decide) (Nat.le_of_ble_eq_true rfl) ?_
  intro p e s0 m below meth c hx hb hml hown hg hr hlocks hin hP hK hN A hA hD hT ls hl
  have hown : s0.vm.findClass rn_Grammar = some m.cls := hown
  obtain ⟨H, hH⟩ : ∃ z, z = s0.heap := ⟨_, rfl⟩
  rw [← hH] at hP
  have hS : va_S A s0.heap H [] := by rw [hH]; exact va_S.rf
  suffices kk : ∀ QQ : State → Prop, QQ = MQ below (xk_Qv (dC, dI) xcl (xt cI cB cJ cZ cQ) (fun _ : Unit => True) (fun u : Unit => (wC a v cI cB cJ cZ cQ y.2)) A) [.ref ((a 105))].toArray s0 0 0 A → dcC p l e ({ frames := 2, cells := 0, slots := 0, locals := 43 }) s0 m [.ref ((a 105))].toArray below meth c QQ (dC, dI) A (wC a v cI cB cJ cZ cQ s) 0 1 [(0, .ref ((a 105)))] [] by
    have k9 := kk _ rfl H [] ls hP hD hS hl
    rw [hH] at k9; exact k9
  clear hP hD hS hl hH H ls
  intro QQ hQQ
  intro H locs ls hP hD hS hl
  unfold fn_Grammar_otherwise_Gr at hf
  refine lv_aload_n hx hb dn_Grammar_otherwise_0 rfl (lv_at hl 0 rfl) ?_
  refine va_get (D := (dC, dI)) (ci := 6) (v := .ref ((a 101))) (C := rn_Grammar) (T := fn_Grammar) (N := 15) hx hb hg in_Grammar hown hK hP 5 rfl rfl 0 (by decide) (hg _ wn_2_0) (fun _ h9 => h9) rfl dn_Grammar_otherwise_1 ?_
  obtain ⟨q_1, hc_2, hf⟩ := dc_b hf
  refine dc_callv (dc_runV (ar := 0) (As := []) (rest := []) (ci := 2) (q0 := 1) ⟨hx, hb, hml, hown, hg⟩ hK hN hT hS hA (ct_Tokens_take_Tk l dC dI cI cB cJ cZ cQ N H.size a v s q_1 hc_2) hP hD rfl rfl wn_4_213 wn_4_149 wn_4_150 wn_1_2 wn_4_151 rfl rfl (by decide +kernel) ⟨Nat.le_of_ble_eq_true rfl, Nat.le_of_ble_eq_true rfl⟩ rfl hl.1 rfl (Nat.le_of_ble_eq_true rfl) dn_Grammar_otherwise_4 ⟨Nat.le_of_ble_eq_true rfl, Nat.le_of_ble_eq_true rfl⟩) hP hD hS hA (fun _ H locs hw hP hD hS => ?_)
  refine lv_aload_n hx hb dn_Grammar_otherwise_7 rfl (lv_at hl 0 rfl) ?_
  refine va_get (D := (dC, dI)) (ci := 6) (v := .ref ((a 104))) (C := rn_Grammar) (T := fn_Grammar) (N := 15) hx hb hg in_Grammar hown hK hP 5 rfl rfl 2 (by decide) (hg _ wn_2_2) (fun _ h9 => h9) rfl dn_Grammar_otherwise_8 ?_
  obtain ⟨q_3, hc_4, hf⟩ := dc_b hf
  refine dc_callv (dc_runV (ar := 0) (As := []) (rest := []) (ci := 5) (q0 := 4) ⟨hx, hb, hml, hown, hg⟩ hK hN hT hS hA (ct_Meaning_otherwise_Me l dC dI cI cB cJ cZ cQ N H.size a v hv_6 q_1.2 q_3 hc_4) hP hD rfl rfl wn_5_193 wn_5_194 wn_5_195 wn_1_6 wn_5_196 rfl rfl (by decide +kernel) ⟨Nat.le_of_ble_eq_true rfl, Nat.le_of_ble_eq_true rfl⟩ rfl hl.1 rfl (Nat.le_of_ble_eq_true rfl) dn_Grammar_otherwise_11 ⟨Nat.le_of_ble_eq_true rfl, Nat.le_of_ble_eq_true rfl⟩) hP hD hS hA (fun _ H locs hw hP hD hS => ?_)
  refine lv_aload_n hx hb dn_Grammar_otherwise_14 rfl (lv_at hl 0 rfl) ?_
  refine lv_sipush (v := 141) hx hb dn_Grammar_otherwise_15 (by decide) ?_
  obtain ⟨q_5, hc_6, hf⟩ := dc_b hf
  refine dc_callv (dc_runV (ar := 1) (As := [.int 141]) (rest := []) (ci := 6) (q0 := 5) ⟨hx, hb, hml, hown, hg⟩ hK hN hT hS hA (ct_Grammar_goOnIn_Gr l dC dI cI cB cJ cZ cQ N H.size a v 141 q_3.2 q_5 hc_6) hP hD rfl rfl wn_5_149 wn_5_151 sn_Grammar_goOnIn wn_1_5 wn_5_152 rfl rfl (by decide +kernel) ⟨Nat.le_of_ble_eq_true rfl, Nat.le_of_ble_eq_true rfl⟩ rfl hl.1 rfl (Nat.le_of_ble_eq_true rfl) dn_Grammar_otherwise_18 ⟨Nat.le_of_ble_eq_true rfl, Nat.le_of_ble_eq_true rfl⟩) hP hD hS hA (fun _ H locs hw hP hD hS => ?_)
  refine lv_aload_n hx hb dn_Grammar_otherwise_21 rfl (lv_at hl 0 rfl) ?_
  refine lv_iconst (v := 4) hx hb dn_Grammar_otherwise_22 (by decide) ?_
  refine va_put (D := (dC, dI)) (ci := 6) (v := .int 4) (ty := .int) (C := rn_Grammar) (T := fn_Grammar) (N := 15) hx hb hg in_Grammar tn_Grammar tk_Grammar nn_Grammar hown hK hP hD hS 5 rfl rfl 3 (by decide) (hg _ wn_2_3) (fun _ h9 => h9) rfl (tk_Grammar 3 (by decide)) rfl rfl (Nat.le_of_ble_eq_true rfl) dn_Grammar_otherwise_23 (fun H locs hP hD hS => ?_)
  have hP := wC_P_264 hP
  have hD := wC_D_264 hD
  rw [hQQ, ← Option.some.inj hf]
  exact xk_vret (w1 := fun u : Unit => (wC a v cI cB cJ cZ cQ (upI q_5.2 264 (fun _ => 4)))) () hx hb hr hlocks hK hS dn_Grammar_otherwise_26 hP hD trivial (Nat.le_refl _) (Nat.le_refl _)
set_option maxHeartbeats 8000000 in
set_option maxRecDepth 100000 in
theorem ct_Code_argAt_Ks (l : Launch) (dC : Nat → ClassId) (dI : Nat → Nat → Nat) (cI cB cJ cZ cQ : ClassId) (N sz : Nat) (a : Nat → Nat) (v : Nat → Value) (v1 : Int32) (s : ms) (y : (Int32 × ms)) (hf : fn_Code_argAt_Ks N v1 s = some y) : Met l yn_Code_argAt (xw yn_Code_argAt bn_Code_argAt 2 (some .int)) ({ frames := 0, cells := 0, slots := 0, locals := 0 }) (dc_P (dC, dI) xcl (xt cI cB cJ cZ cQ) [.ref ((a 111)), .int v1] sz (wC a v cI cB cJ cZ cQ s)) (xk_Qi (dC, dI) xcl (xt cI cB cJ cZ cQ) (fun (r : Int32) (_ : Unit) => r = y.1) (fun u : Unit => (wC a v cI cB cJ cZ cQ y.2)) (va_A (wC a v cI cB cJ cZ cQ s) sz)) 0 0 (va_A (wC a v cI cB cJ cZ cQ s) sz) := by
  refine dc_of (QA := xk_Qi (dC, dI) xcl (xt cI cB cJ cZ cQ) (fun (r : Int32) (_ : Unit) => r = y.1) (fun u : Unit => (wC a v cI cB cJ cZ cQ y.2))) (by decide) (Nat.le_of_ble_eq_true rfl) ?_
  intro p e s0 m below meth c hx hb hml hown hg hr hlocks hin hP hK hN A hA hD hT ls hl
  have hown : s0.vm.findClass rn_Code = some m.cls := hown
  obtain ⟨H, hH⟩ : ∃ z, z = s0.heap := ⟨_, rfl⟩
  rw [← hH] at hP
  have hS : va_S A s0.heap H [] := by rw [hH]; exact va_S.rf
  suffices kk : ∀ QQ : State → Prop, QQ = MQ below (xk_Qi (dC, dI) xcl (xt cI cB cJ cZ cQ) (fun (r : Int32) (_ : Unit) => r = y.1) (fun u : Unit => (wC a v cI cB cJ cZ cQ y.2)) A) [.ref ((a 111)), .int v1].toArray s0 0 0 A → dcC p l e ({ frames := 0, cells := 0, slots := 0, locals := 0 }) s0 m [.ref ((a 111)), .int v1].toArray below meth c QQ (dC, dI) A (wC a v cI cB cJ cZ cQ s) 0 2 [(0, .ref ((a 111))), (1, .int v1)] [] by
    have k9 := kk _ rfl H [] ls hP hD hS hl
    rw [hH] at k9; exact k9
  clear hP hD hS hl hH H ls
  intro QQ hQQ
  intro H locs ls hP hD hS hl
  unfold fn_Code_argAt_Ks at hf
  refine lv_iload_n hx hb dn_Code_argAt_0 rfl (lv_at hl 1 rfl) ?_
  refine lv_if_lt (tgt := 22) hx hb dn_Code_argAt_1 (by decide) (fun h => ?_) (fun h => ?_)
  · have hf := (if_pos h).symm.trans hf
    refine lv_iconst (v := (-1)) hx hb dn_Code_argAt_22 (by decide) ?_
    rw [hQQ, ← Option.some.inj hf]
    exact xk_iret (w1 := fun u : Unit => (wC a v cI cB cJ cZ cQ s)) () hx hb hr hlocks hK hS dn_Code_argAt_23 hP hD rfl (Nat.le_refl _) (Nat.le_refl _)
  · have hf := (if_neg h).symm.trans hf
    refine lv_iload_n hx hb dn_Code_argAt_4 rfl (lv_at hl 1 rfl) ?_
    refine lv_aload_n hx hb dn_Code_argAt_5 rfl (lv_at hl 0 rfl) ?_
    refine va_get (D := (dC, dI)) (ci := 12) (v := .int ((s.1 337 0))) (C := rn_Code) (T := fn_Code) (N := 5) hx hb hg in_Code hown hK hP 11 rfl rfl 1 (by decide) (hg _ wn_2_211) (fun _ h9 => h9) rfl dn_Code_argAt_6 ?_
    refine lv_icmp_ge (tgt := 22) hx hb dn_Code_argAt_9 (by decide) (fun h => ?_) (fun h => ?_)
    · have hf := (if_pos h).symm.trans hf
      refine lv_iconst (v := (-1)) hx hb dn_Code_argAt_22 (by decide) ?_
      rw [hQQ, ← Option.some.inj hf]
      exact xk_iret (w1 := fun u : Unit => (wC a v cI cB cJ cZ cQ s)) () hx hb hr hlocks hK hS dn_Code_argAt_23 hP hD rfl (Nat.le_refl _) (Nat.le_refl _)
    · have hf := (if_neg h).symm.trans hf
      refine lv_aload_n hx hb dn_Code_argAt_12 rfl (lv_at hl 0 rfl) ?_
      refine va_get (D := (dC, dI)) (ci := 12) (v := .ref ((a 336))) (C := rn_Code) (T := fn_Code) (N := 5) hx hb hg in_Code hown hK hP 11 rfl rfl 0 (by decide) (hg _ wn_2_210) (fun _ h9 => h9) rfl dn_Code_argAt_13 ?_
      refine lv_iload_n hx hb dn_Code_argAt_16 rfl (lv_at hl 1 rfl) ?_
      obtain ⟨hg_1, hf⟩ := dc_g hf
      refine va_lald hx hb hK hP 73 2 rfl rfl hg_1 dn_Code_argAt_17 ?_
      refine xk_tl (y := ((s.2 336) (Int32.toNatClampNeg v1))) rfl ?_
      refine lv_l2i (v := Int64.toInt32 (((s.2 336) (Int32.toNatClampNeg v1)))) hx hb dn_Code_argAt_18 rfl ?_
      refine lv_goto (tgt := 23) hx hb dn_Code_argAt_19 (by decide) ?_
      rw [hQQ, ← Option.some.inj hf]
      exact xk_iret (w1 := fun u : Unit => (wC a v cI cB cJ cZ cQ s)) () hx hb hr hlocks hK hS dn_Code_argAt_23 hP hD rfl (Nat.le_refl _) (Nat.le_refl _)
set_option maxHeartbeats 8000000 in
set_option maxRecDepth 100000 in
theorem ct_Code_aimAll_Ks (l : Launch) (dC : Nat → ClassId) (dI : Nat → Nat → Nat) (cI cB cJ cZ cQ : ClassId) (N sz : Nat) (a : Nat → Nat) (v : Nat → Value) (v1 : Int32) (s : ms) (y : (Unit × ms)) (hf : fn_Code_aimAll_Ks N v1 s = some y) : Met l yn_Code_aimAll (xw yn_Code_aimAll bn_Code_aimAll 5 none) ({ frames := 1, cells := 0, slots := 0, locals := 21 }) (dc_P (dC, dI) xcl (xt cI cB cJ cZ cQ) [.ref ((a 111)), .int v1] sz (wC a v cI cB cJ cZ cQ s)) (xk_Qv (dC, dI) xcl (xt cI cB cJ cZ cQ) (fun _ : Unit => True) (fun u : Unit => (wC a v cI cB cJ cZ cQ y.2)) (va_A (wC a v cI cB cJ cZ cQ s) sz)) 0 0 (va_A (wC a v cI cB cJ cZ cQ s) sz) := by
  refine dc_of (QA := xk_Qv (dC, dI) xcl (xt cI cB cJ cZ cQ) (fun _ : Unit => True) (fun u : Unit => (wC a v cI cB cJ cZ cQ y.2))) (by decide) (Nat.le_of_ble_eq_true rfl) ?_
  intro p e s0 m below meth c hx hb hml hown hg hr hlocks hin hP hK hN A hA hD hT ls hl
  have hown : s0.vm.findClass rn_Code = some m.cls := hown
  obtain ⟨H, hH⟩ : ∃ z, z = s0.heap := ⟨_, rfl⟩
  rw [← hH] at hP
  have hS : va_S A s0.heap H [] := by rw [hH]; exact va_S.rf
  suffices kk : ∀ QQ : State → Prop, QQ = MQ below (xk_Qv (dC, dI) xcl (xt cI cB cJ cZ cQ) (fun _ : Unit => True) (fun u : Unit => (wC a v cI cB cJ cZ cQ y.2)) A) [.ref ((a 111)), .int v1].toArray s0 0 0 A → dcC p l e ({ frames := 1, cells := 0, slots := 0, locals := 21 }) s0 m [.ref ((a 111)), .int v1].toArray below meth c QQ (dC, dI) A (wC a v cI cB cJ cZ cQ s) 0 5 [(0, .ref ((a 111))), (1, .int v1)] [] by
    have k9 := kk _ rfl H [] ls hP hD hS hl
    rw [hH] at k9; exact k9
  clear hP hD hS hl hH H ls
  intro QQ hQQ
  have hd_4 : ∀ (n : Nat) (x2 : Int32) (x3 : Int32) (s : ms), hd_Code_aimAll_Ks_4 N n x2 x3 s = some y → dcC p l e ({ frames := 1, cells := 0, slots := 0, locals := 21 }) s0 m [.ref ((a 111)), .int v1].toArray below meth c QQ (dC, dI) A (wC a v cI cB cJ cZ cQ s) 4 5 [(0, .ref ((a 111))), (2, .int x2), (3, .int x3)] [] := by
    intro n
    induction n with
    | zero => intro x2 x3 s hf; cases hf
    | succ n ih =>
      intro x2 x3 s hf H locs ls hP hD hS hl
      have hf : bd_Code_aimAll_Ks_4 N (hd_Code_aimAll_Ks_4 N n) x2 x3 s = some y := hf
      have hk_4 := ih
      generalize hd_Code_aimAll_Ks_4 N n = k_4 at hf hk_4
      unfold bd_Code_aimAll_Ks_4 at hf
      refine lv_iload_n hx hb dn_Code_aimAll_4 rfl (lv_at hl 2 rfl) ?_
      refine lv_aload_n hx hb dn_Code_aimAll_5 rfl (lv_at hl 0 rfl) ?_
      refine va_get (D := (dC, dI)) (ci := 12) (v := .int ((s.1 337 0))) (C := rn_Code) (T := fn_Code) (N := 5) hx hb hg in_Code hown hK hP 11 rfl rfl 1 (by decide) (hg _ wn_2_211) (fun _ h9 => h9) rfl dn_Code_aimAll_6 ?_
      refine lv_icmp_ge (tgt := 45) hx hb dn_Code_aimAll_9 (by decide) (fun h => ?_) (fun h => ?_)
      · have hf := (if_pos h).symm.trans hf
        rw [hQQ, ← Option.some.inj hf]
        exact xk_vret (w1 := fun u : Unit => (wC a v cI cB cJ cZ cQ s)) () hx hb hr hlocks hK hS dn_Code_aimAll_45 hP hD trivial (Nat.le_refl _) (Nat.le_refl _)
      · have hf := (if_neg h).symm.trans hf
        refine lv_iload_n hx hb dn_Code_aimAll_12 rfl (lv_at hl 1 rfl) ?_
        refine lv_if_lt (tgt := 45) hx hb dn_Code_aimAll_13 (by decide) (fun h => ?_) (fun h => ?_)
        · have hf := (if_pos h).symm.trans hf
          rw [hQQ, ← Option.some.inj hf]
          exact xk_vret (w1 := fun u : Unit => (wC a v cI cB cJ cZ cQ s)) () hx hb hr hlocks hK hS dn_Code_aimAll_45 hP hD trivial (Nat.le_refl _) (Nat.le_refl _)
        · have hf := (if_neg h).symm.trans hf
          refine lv_iload_n hx hb dn_Code_aimAll_16 rfl (lv_at hl 1 rfl) ?_
          refine lv_aload_n hx hb dn_Code_aimAll_17 rfl (lv_at hl 0 rfl) ?_
          refine va_get (D := (dC, dI)) (ci := 12) (v := .int ((s.1 337 0))) (C := rn_Code) (T := fn_Code) (N := 5) hx hb hg in_Code hown hK hP 11 rfl rfl 1 (by decide) (hg _ wn_2_211) (fun _ h9 => h9) rfl dn_Code_aimAll_18 ?_
          refine lv_icmp_ge (tgt := 45) hx hb dn_Code_aimAll_21 (by decide) (fun h => ?_) (fun h => ?_)
          · have hf := (if_pos h).symm.trans hf
            rw [hQQ, ← Option.some.inj hf]
            exact xk_vret (w1 := fun u : Unit => (wC a v cI cB cJ cZ cQ s)) () hx hb hr hlocks hK hS dn_Code_aimAll_45 hP hD trivial (Nat.le_refl _) (Nat.le_refl _)
          · have hf := (if_neg h).symm.trans hf
            refine lv_aload_n hx hb dn_Code_aimAll_24 rfl (lv_at hl 0 rfl) ?_
            refine lv_iload_n hx hb dn_Code_aimAll_25 rfl (lv_at hl 1 rfl) ?_
            obtain ⟨q_1, hc_2, hf⟩ := dc_b hf
            refine dc_calli (dc_runV (ar := 1) (As := [.int x2]) (rest := []) (ci := 12) (q0 := 11) ⟨hx, hb, hml, hown, hg⟩ hK hN hT hS hA (ct_Code_argAt_Ks l dC dI cI cB cJ cZ cQ N H.size a v x2 s q_1 hc_2) hP hD rfl rfl wn_6_0 wn_6_1 wn_6_2 wn_1_12 wn_6_3 rfl rfl (by decide +kernel) ⟨Nat.le_of_ble_eq_true rfl, Nat.le_of_ble_eq_true rfl⟩ rfl hl.1 rfl (Nat.le_of_ble_eq_true rfl) dn_Code_aimAll_26 ⟨Nat.le_of_ble_eq_true rfl, Nat.le_of_ble_eq_true rfl⟩) hP hD hS hA (fun r_3 _ H locs hw hP hD hS => ?_)
            have hw : r_3 = q_1.1 := hw
            subst hw
            refine lv_istore (lv' := [(4, .int q_1.1), (0, .ref ((a 111))), (2, .int x2), (3, .int x3)]) hx hb dn_Code_aimAll_29 hl (by decide) rfl (fun ls hl => ?_)
            refine lv_aload_n hx hb dn_Code_aimAll_31 rfl (lv_at hl 1 rfl) ?_
            refine lv_iload_n hx hb dn_Code_aimAll_32 rfl (lv_at hl 2 rfl) ?_
            obtain ⟨q_4, hc_5, hf⟩ := dc_b hf
            refine dc_callv (dc_runV (ar := 1) (As := [.int x2]) (rest := []) (ci := 12) (q0 := 11) ⟨hx, hb, hml, hown, hg⟩ hK hN hT hS hA (ct_Code_aim_Ks l dC dI cI cB cJ cZ cQ N H.size a v x2 q_1.2 q_4 hc_5) hP hD rfl rfl wn_6_4 wn_5_203 wn_5_204 wn_1_12 wn_5_205 rfl rfl (by decide +kernel) ⟨Nat.le_of_ble_eq_true rfl, Nat.le_of_ble_eq_true rfl⟩ rfl hl.1 rfl (Nat.le_of_ble_eq_true rfl) dn_Code_aimAll_33 ⟨Nat.le_of_ble_eq_true rfl, Nat.le_of_ble_eq_true rfl⟩) hP hD hS hA (fun _ H locs hw hP hD hS => ?_)
            refine lv_iload hx hb dn_Code_aimAll_36 (lv_at hl 0 rfl) ?_
            refine lv_istore_n (lv' := [(2, .int q_1.1), (4, .int q_1.1), (0, .ref ((a 111))), (3, .int x3)]) hx hb dn_Code_aimAll_38 rfl hl (by decide) rfl (fun ls hl => ?_)
            refine lv_iinc (v := (x3 + 1)) (lv' := [(3, .int ((x3 + 1))), (2, .int q_1.1), (4, .int q_1.1), (0, .ref ((a 111)))]) hx hb dn_Code_aimAll_39 hl (k := 3) rfl (dc_inc (by decide)) (by decide) rfl (fun ls hl => ?_)
            refine lv_goto (tgt := 4) hx hb dn_Code_aimAll_42 (by decide) ?_
            exact hk_4 q_1.1 ((x3 + 1)) q_4.2 hf H locs ls hP hD hS (lv_sub hl [3, 1, 0] rfl)
  intro H locs ls hP hD hS hl
  unfold fn_Code_aimAll_Ks at hf
  refine lv_iload_n hx hb dn_Code_aimAll_0 rfl (lv_at hl 1 rfl) ?_
  refine lv_istore_n (lv' := [(2, .int v1), (0, .ref ((a 111))), (1, .int v1)]) hx hb dn_Code_aimAll_1 rfl hl (by decide) rfl (fun ls hl => ?_)
  refine lv_iconst (v := 0) hx hb dn_Code_aimAll_2 (by decide) ?_
  refine lv_istore_n (lv' := [(3, .int 0), (2, .int v1), (0, .ref ((a 111))), (1, .int v1)]) hx hb dn_Code_aimAll_3 rfl hl (by decide) rfl (fun ls hl => ?_)
  exact hd_4 N v1 0 s hf H locs ls hP hD hS (lv_sub hl [2, 1, 0] rfl)
set_option maxHeartbeats 8000000 in
set_option maxRecDepth 100000 in
theorem ct_Meaning_caseEnd_Me (l : Launch) (dC : Nat → ClassId) (dI : Nat → Nat → Nat) (cI cB cJ cZ cQ : ClassId) (N sz : Nat) (a : Nat → Nat) (v : Nat → Value) (hv_6 : v 6 = .ref (a 111)) (s : ms) (y : (Unit × ms)) (hf : fn_Meaning_caseEnd_Me N s = some y) : Met l yn_Meaning_caseEnd (xw yn_Meaning_caseEnd bn_Meaning_caseEnd 1 none) ({ frames := 2, cells := 0, slots := 0, locals := 45 }) (dc_P (dC, dI) xcl (xt cI cB cJ cZ cQ) [.ref ((a 104))] sz (wC a v cI cB cJ cZ cQ s)) (xk_Qv (dC, dI) xcl (xt cI cB cJ cZ cQ) (fun _ : Unit => True) (fun u : Unit => (wC a v cI cB cJ cZ cQ y.2)) (va_A (wC a v cI cB cJ cZ cQ s) sz)) 0 0 (va_A (wC a v cI cB cJ cZ cQ s) sz) := by
  refine dc_of (QA := xk_Qv (dC, dI) xcl (xt cI cB cJ cZ cQ) (fun _ : Unit => True) (fun u : Unit => (wC a v cI cB cJ cZ cQ y.2))) (by decide) (Nat.le_of_ble_eq_true rfl) ?_
  intro p e s0 m below meth c hx hb hml hown hg hr hlocks hin hP hK hN A hA hD hT ls hl
  have hown : s0.vm.findClass rn_Meaning = some m.cls := hown
  obtain ⟨H, hH⟩ : ∃ z, z = s0.heap := ⟨_, rfl⟩
  rw [← hH] at hP
  have hS : va_S A s0.heap H [] := by rw [hH]; exact va_S.rf
  suffices kk : ∀ QQ : State → Prop, QQ = MQ below (xk_Qv (dC, dI) xcl (xt cI cB cJ cZ cQ) (fun _ : Unit => True) (fun u : Unit => (wC a v cI cB cJ cZ cQ y.2)) A) [.ref ((a 104))].toArray s0 0 0 A → dcC p l e ({ frames := 2, cells := 0, slots := 0, locals := 45 }) s0 m [.ref ((a 104))].toArray below meth c QQ (dC, dI) A (wC a v cI cB cJ cZ cQ s) 0 1 [(0, .ref ((a 104)))] [] by
    have k9 := kk _ rfl H [] ls hP hD hS hl
    rw [hH] at k9; exact k9
  clear hP hD hS hl hH H ls
  intro QQ hQQ
  intro H locs ls hP hD hS hl
  unfold fn_Meaning_caseEnd_Me at hf
  refine lv_aload_n hx hb dn_Meaning_caseEnd_0 rfl (lv_at hl 0 rfl) ?_
  refine va_get (D := (dC, dI)) (ci := 5) (v := .ref ((a 103))) (C := rn_Meaning) (T := fn_Meaning) (N := 17) hx hb hg in_Meaning hown hK hP 4 rfl rfl 0 (by decide) (hg _ wn_1_184) (fun _ h9 => h9) rfl dn_Meaning_caseEnd_1 ?_
  obtain ⟨q_1, hc_2, hf⟩ := dc_b hf
  refine dc_calli (dc_runV (ar := 0) (As := []) (rest := []) (ci := 4) (q0 := 3) ⟨hx, hb, hml, hown, hg⟩ hK hN hT hS hA (ct_Checker_isOff_Ch l dC dI cI cB cJ cZ cQ N H.size a v s q_1 hc_2) hP hD rfl rfl wn_4_193 wn_4_194 wn_4_195 wn_1_4 wn_4_196 rfl rfl (by decide +kernel) ⟨Nat.le_of_ble_eq_true rfl, Nat.le_of_ble_eq_true rfl⟩ rfl hl.1 rfl (Nat.le_of_ble_eq_true rfl) dn_Meaning_caseEnd_4 ⟨Nat.le_of_ble_eq_true rfl, Nat.le_of_ble_eq_true rfl⟩) hP hD hS hA (fun r_3 _ H locs hw hP hD hS => ?_)
  have hw : r_3 = q_1.1 := hw
  subst hw
  refine lv_if_ne (tgt := 17) hx hb dn_Meaning_caseEnd_7 (by decide) (fun h => ?_) (fun h => ?_)
  · have hf := (if_neg h).symm.trans hf
    rw [hQQ, ← Option.some.inj hf]
    exact xk_vret (w1 := fun u : Unit => (wC a v cI cB cJ cZ cQ q_1.2)) () hx hb hr hlocks hK hS dn_Meaning_caseEnd_17 hP hD trivial (Nat.le_refl _) (Nat.le_refl _)
  · have hf := (if_pos h).symm.trans hf
    refine lv_aload_n hx hb dn_Meaning_caseEnd_10 rfl (lv_at hl 0 rfl) ?_
    refine va_get (D := (dC, dI)) (ci := 5) (v := .int ((q_1.2.1 260 0))) (C := rn_Meaning) (T := fn_Meaning) (N := 17) hx hb hg in_Meaning hown hK hP 4 rfl rfl 16 (by decide) (hg _ wn_1_200) (fun _ h9 => h9) rfl dn_Meaning_caseEnd_11 ?_
    refine lv_if_ne (tgt := 18) hx hb dn_Meaning_caseEnd_14 (by decide) (fun h => ?_) (fun h => ?_)
    · have hf := (if_neg h).symm.trans hf
      refine lv_aload_n hx hb dn_Meaning_caseEnd_18 rfl (lv_at hl 0 rfl) ?_
      refine lv_dup hx hb dn_Meaning_caseEnd_19 rfl ?_
      refine va_get (D := (dC, dI)) (ci := 5) (v := .int ((q_1.2.1 260 0))) (C := rn_Meaning) (T := fn_Meaning) (N := 17) hx hb hg in_Meaning hown hK hP 4 rfl rfl 16 (by decide) (hg _ wn_1_200) (fun _ h9 => h9) rfl dn_Meaning_caseEnd_20 ?_
      refine lv_iconst (v := 1) hx hb dn_Meaning_caseEnd_23 (by decide) ?_
      refine lv_isub hx hb dn_Meaning_caseEnd_24 ?_
      refine va_put (D := (dC, dI)) (ci := 5) (v := .int (((q_1.2.1 260 0) - 1))) (ty := .int) (C := rn_Meaning) (T := fn_Meaning) (N := 17) hx hb hg in_Meaning tn_Meaning tk_Meaning nn_Meaning hown hK hP hD hS 4 rfl rfl 16 (by decide) (hg _ wn_1_200) (fun _ h9 => h9) rfl (tk_Meaning 16 (by decide)) rfl rfl (Nat.le_of_ble_eq_true rfl) dn_Meaning_caseEnd_25 (fun H locs hP hD hS => ?_)
      have hP := wC_P_260 hP
      have hD := wC_D_260 hD
      refine lv_aload_n hx hb dn_Meaning_caseEnd_28 rfl (lv_at hl 0 rfl) ?_
      refine va_get (D := (dC, dI)) (ci := 5) (v := .ref ((a 111))) (C := rn_Meaning) (T := fn_Meaning) (N := 17) hx hb hg in_Meaning hown hK hP 4 rfl rfl 3 (by decide) (hg _ wn_1_187) (fun _ h9 => h9) (congrArg some hv_6) dn_Meaning_caseEnd_29 ?_
      refine lv_aload_n hx hb dn_Meaning_caseEnd_32 rfl (lv_at hl 0 rfl) ?_
      refine va_get (D := (dC, dI)) (ci := 5) (v := .ref ((a 257))) (C := rn_Meaning) (T := fn_Meaning) (N := 17) hx hb hg in_Meaning hown hK hP 4 rfl rfl 13 (by decide) (hg _ wn_1_197) (fun _ h9 => h9) rfl dn_Meaning_caseEnd_33 ?_
      refine lv_aload_n hx hb dn_Meaning_caseEnd_36 rfl (lv_at hl 0 rfl) ?_
      refine va_get (D := (dC, dI)) (ci := 5) (v := .int (((q_1.2.1 260 0) - 1))) (C := rn_Meaning) (T := fn_Meaning) (N := 17) hx hb hg in_Meaning hown hK hP 4 rfl rfl 16 (by decide) (hg _ wn_1_200) (fun _ h9 => h9) rfl dn_Meaning_caseEnd_37 ?_
      obtain ⟨hg_4, hf⟩ := dc_g hf
      refine va_iald hx hb hK hP 27 0 rfl rfl hg_4 dn_Meaning_caseEnd_40 ?_
      refine xk_ti (y := ((q_1.2.1 257) (Int32.toNatClampNeg (((q_1.2.1 260 0) - 1))))) rfl ?_
      obtain ⟨q_5, hc_6, hf⟩ := dc_b hf
      refine dc_callv (dc_runV (ar := 1) (As := [.int (((q_1.2.1 257) (Int32.toNatClampNeg (((q_1.2.1 260 0) - 1)))))]) (rest := []) (ci := 12) (q0 := 11) ⟨hx, hb, hml, hown, hg⟩ hK hN hT hS hA (ct_Code_aimAll_Ks l dC dI cI cB cJ cZ cQ N H.size a v (((q_1.2.1 257) (Int32.toNatClampNeg (((q_1.2.1 260 0) - 1))))) (upI q_1.2 260 (fun _ => ((q_1.2.1 260 0) - 1))) q_5 hc_6) hP hD rfl rfl wn_5_236 wn_5_237 wn_5_238 wn_1_12 wn_5_239 rfl rfl (by decide +kernel) ⟨Nat.le_of_ble_eq_true rfl, Nat.le_of_ble_eq_true rfl⟩ rfl hl.1 rfl (Nat.le_of_ble_eq_true rfl) dn_Meaning_caseEnd_41 ⟨Nat.le_of_ble_eq_true rfl, Nat.le_of_ble_eq_true rfl⟩) hP hD hS hA (fun _ H locs hw hP hD hS => ?_)
      refine lv_aload_n hx hb dn_Meaning_caseEnd_44 rfl (lv_at hl 0 rfl) ?_
      refine va_get (D := (dC, dI)) (ci := 5) (v := .ref ((a 111))) (C := rn_Meaning) (T := fn_Meaning) (N := 17) hx hb hg in_Meaning hown hK hP 4 rfl rfl 3 (by decide) (hg _ wn_1_187) (fun _ h9 => h9) (congrArg some hv_6) dn_Meaning_caseEnd_45 ?_
      refine lv_sipush (v := 516) hx hb dn_Meaning_caseEnd_48 (by decide) ?_
      refine lv_iconst (v := 0) hx hb dn_Meaning_caseEnd_51 (by decide) ?_
      obtain ⟨q_7, hc_8, hf⟩ := dc_b hf
      refine dc_calli (dc_runV (ar := 2) (As := [.int 516, .int 0]) (rest := []) (ci := 12) (q0 := 11) ⟨hx, hb, hml, hown, hg⟩ hK hN hT hS hA (ct_Code_emit_Ks l dC dI cI cB cJ cZ cQ N H.size a v 516 0 q_5.2 q_7 hc_8) hP hD rfl rfl wn_5_197 wn_5_198 wn_5_199 wn_1_12 wn_5_200 rfl rfl (by decide +kernel) ⟨Nat.le_of_ble_eq_true rfl, Nat.le_of_ble_eq_true rfl⟩ rfl hl.1 rfl (Nat.le_of_ble_eq_true rfl) dn_Meaning_caseEnd_52 ⟨Nat.le_of_ble_eq_true rfl, Nat.le_of_ble_eq_true rfl⟩) hP hD hS hA (fun r_9 _ H locs hw hP hD hS => ?_)
      have hw : r_9 = q_7.1 := hw
      subst hw
      refine lv_pop hx hb dn_Meaning_caseEnd_55 rfl ?_
      rw [hQQ, ← Option.some.inj hf]
      exact xk_vret (w1 := fun u : Unit => (wC a v cI cB cJ cZ cQ q_7.2)) () hx hb hr hlocks hK hS dn_Meaning_caseEnd_56 hP hD trivial (Nat.le_refl _) (Nat.le_refl _)
    · have hf := (if_pos h).symm.trans hf
      rw [hQQ, ← Option.some.inj hf]
      exact xk_vret (w1 := fun u : Unit => (wC a v cI cB cJ cZ cQ q_1.2)) () hx hb hr hlocks hK hS dn_Meaning_caseEnd_17 hP hD trivial (Nat.le_refl _) (Nat.le_refl _)
set_option maxHeartbeats 8000000 in
set_option maxRecDepth 100000 in
theorem ct_Grammar_caseEnd_Gr (l : Launch) (dC : Nat → ClassId) (dI : Nat → Nat → Nat) (cI cB cJ cZ cQ : ClassId) (N sz : Nat) (a : Nat → Nat) (v : Nat → Value) (hv_6 : v 6 = .ref (a 111)) (s : ms) (y : (Unit × ms)) (hf : fn_Grammar_caseEnd_Gr N s = some y) : Met l yn_Grammar_caseEnd (xw yn_Grammar_caseEnd bn_Grammar_caseEnd 1 none) ({ frames := 3, cells := 0, slots := 0, locals := 65 }) (dc_P (dC, dI) xcl (xt cI cB cJ cZ cQ) [.ref ((a 105))] sz (wC a v cI cB cJ cZ cQ s)) (xk_Qv (dC, dI) xcl (xt cI cB cJ cZ cQ) (fun _ : Unit => True) (fun u : Unit => (wC a v cI cB cJ cZ cQ y.2)) (va_A (wC a v cI cB cJ cZ cQ s) sz)) 0 0 (va_A (wC a v cI cB cJ cZ cQ s) sz) := by
  refine dc_of (QA := xk_Qv (dC, dI) xcl (xt cI cB cJ cZ cQ) (fun _ : Unit => True) (fun u : Unit => (wC a v cI cB cJ cZ cQ y.2))) (by decide) (Nat.le_of_ble_eq_true rfl) ?_
  intro p e s0 m below meth c hx hb hml hown hg hr hlocks hin hP hK hN A hA hD hT ls hl
  have hown : s0.vm.findClass rn_Grammar = some m.cls := hown
  obtain ⟨H, hH⟩ : ∃ z, z = s0.heap := ⟨_, rfl⟩
  rw [← hH] at hP
  have hS : va_S A s0.heap H [] := by rw [hH]; exact va_S.rf
  suffices kk : ∀ QQ : State → Prop, QQ = MQ below (xk_Qv (dC, dI) xcl (xt cI cB cJ cZ cQ) (fun _ : Unit => True) (fun u : Unit => (wC a v cI cB cJ cZ cQ y.2)) A) [.ref ((a 105))].toArray s0 0 0 A → dcC p l e ({ frames := 3, cells := 0, slots := 0, locals := 65 }) s0 m [.ref ((a 105))].toArray below meth c QQ (dC, dI) A (wC a v cI cB cJ cZ cQ s) 0 1 [(0, .ref ((a 105)))] [] by
    have k9 := kk _ rfl H [] ls hP hD hS hl
    rw [hH] at k9; exact k9
  clear hP hD hS hl hH H ls
  intro QQ hQQ
  intro H locs ls hP hD hS hl
  unfold fn_Grammar_caseEnd_Gr at hf
  refine lv_aload_n hx hb dn_Grammar_caseEnd_0 rfl (lv_at hl 0 rfl) ?_
  refine va_get (D := (dC, dI)) (ci := 6) (v := .ref ((a 101))) (C := rn_Grammar) (T := fn_Grammar) (N := 15) hx hb hg in_Grammar hown hK hP 5 rfl rfl 0 (by decide) (hg _ wn_2_0) (fun _ h9 => h9) rfl dn_Grammar_caseEnd_1 ?_
  refine lv_sipush (v := 143) hx hb dn_Grammar_caseEnd_4 (by decide) ?_
  obtain ⟨q_1, hc_2, hf⟩ := dc_b hf
  refine dc_callv (dc_runV (ar := 1) (As := [.int 143]) (rest := []) (ci := 2) (q0 := 1) ⟨hx, hb, hml, hown, hg⟩ hK hN hT hS hA (ct_Tokens_shut_Tk l dC dI cI cB cJ cZ cQ N H.size a v 143 s q_1 hc_2) hP hD rfl rfl wn_4_226 wn_4_227 wn_4_228 wn_1_2 wn_4_229 rfl rfl (by decide +kernel) ⟨Nat.le_of_ble_eq_true rfl, Nat.le_of_ble_eq_true rfl⟩ rfl hl.1 rfl (Nat.le_of_ble_eq_true rfl) dn_Grammar_caseEnd_7 ⟨Nat.le_of_ble_eq_true rfl, Nat.le_of_ble_eq_true rfl⟩) hP hD hS hA (fun _ H locs hw hP hD hS => ?_)
  refine lv_aload_n hx hb dn_Grammar_caseEnd_10 rfl (lv_at hl 0 rfl) ?_
  refine va_get (D := (dC, dI)) (ci := 6) (v := .ref ((a 104))) (C := rn_Grammar) (T := fn_Grammar) (N := 15) hx hb hg in_Grammar hown hK hP 5 rfl rfl 2 (by decide) (hg _ wn_2_2) (fun _ h9 => h9) rfl dn_Grammar_caseEnd_11 ?_
  obtain ⟨q_3, hc_4, hf⟩ := dc_b hf
  refine dc_callv (dc_runV (ar := 0) (As := []) (rest := []) (ci := 5) (q0 := 4) ⟨hx, hb, hml, hown, hg⟩ hK hN hT hS hA (ct_Meaning_caseEnd_Me l dC dI cI cB cJ cZ cQ N H.size a v hv_6 q_1.2 q_3 hc_4) hP hD rfl rfl wn_6_9 wn_6_10 wn_6_11 wn_1_6 wn_6_12 rfl rfl (by decide +kernel) ⟨Nat.le_of_ble_eq_true rfl, Nat.le_of_ble_eq_true rfl⟩ rfl hl.1 rfl (Nat.le_of_ble_eq_true rfl) dn_Grammar_caseEnd_14 ⟨Nat.le_of_ble_eq_true rfl, Nat.le_of_ble_eq_true rfl⟩) hP hD hS hA (fun _ H locs hw hP hD hS => ?_)
  refine lv_aload_n hx hb dn_Grammar_caseEnd_17 rfl (lv_at hl 0 rfl) ?_
  refine lv_dup hx hb dn_Grammar_caseEnd_18 rfl ?_
  refine va_get (D := (dC, dI)) (ci := 6) (v := .int ((q_3.2.1 271 0))) (C := rn_Grammar) (T := fn_Grammar) (N := 15) hx hb hg in_Grammar hown hK hP 5 rfl rfl 10 (by decide) (hg _ wn_2_10) (fun _ h9 => h9) rfl dn_Grammar_caseEnd_19 ?_
  refine lv_iconst (v := 1) hx hb dn_Grammar_caseEnd_22 (by decide) ?_
  refine lv_isub hx hb dn_Grammar_caseEnd_23 ?_
  refine va_put (D := (dC, dI)) (ci := 6) (v := .int (((q_3.2.1 271 0) - 1))) (ty := .int) (C := rn_Grammar) (T := fn_Grammar) (N := 15) hx hb hg in_Grammar tn_Grammar tk_Grammar nn_Grammar hown hK hP hD hS 5 rfl rfl 10 (by decide) (hg _ wn_2_10) (fun _ h9 => h9) rfl (tk_Grammar 10 (by decide)) rfl rfl (Nat.le_of_ble_eq_true rfl) dn_Grammar_caseEnd_24 (fun H locs hP hD hS => ?_)
  have hP := wC_P_271 hP
  have hD := wC_D_271 hD
  rw [hQQ, ← Option.some.inj hf]
  exact xk_vret (w1 := fun u : Unit => (wC a v cI cB cJ cZ cQ (upI q_3.2 271 (fun _ => ((q_3.2.1 271 0) - 1))))) () hx hb hr hlocks hK hS dn_Grammar_caseEnd_27 hP hD trivial (Nat.le_refl _) (Nat.le_refl _)
set_option maxHeartbeats 8000000 in
set_option maxRecDepth 100000 in
theorem ct_Checker_spend_Ch (l : Launch) (dC : Nat → ClassId) (dI : Nat → Nat → Nat) (cI cB cJ cZ cQ : ClassId) (N sz : Nat) (a : Nat → Nat) (v : Nat → Value) (v1 : Int32) (s : ms) (y : (Unit × ms)) (hf : fn_Checker_spend_Ch N v1 s = some y) : Met l yn_Checker_spend (xw yn_Checker_spend bn_Checker_spend 2 none) ({ frames := 2, cells := 0, slots := 0, locals := 61 }) (dc_P (dC, dI) xcl (xt cI cB cJ cZ cQ) [.ref ((a 103)), .int v1] sz (wC a v cI cB cJ cZ cQ s)) (xk_Qv (dC, dI) xcl (xt cI cB cJ cZ cQ) (fun _ : Unit => True) (fun u : Unit => (wC a v cI cB cJ cZ cQ y.2)) (va_A (wC a v cI cB cJ cZ cQ s) sz)) 0 0 (va_A (wC a v cI cB cJ cZ cQ s) sz) := by
  refine dc_of (QA := xk_Qv (dC, dI) xcl (xt cI cB cJ cZ cQ) (fun _ : Unit => True) (fun u : Unit => (wC a v cI cB cJ cZ cQ y.2))) (by decide) (Nat.le_of_ble_eq_true rfl) ?_
  intro p e s0 m below meth c hx hb hml hown hg hr hlocks hin hP hK hN A hA hD hT ls hl
  have hown : s0.vm.findClass rn_Checker = some m.cls := hown
  obtain ⟨H, hH⟩ : ∃ z, z = s0.heap := ⟨_, rfl⟩
  rw [← hH] at hP
  have hS : va_S A s0.heap H [] := by rw [hH]; exact va_S.rf
  suffices kk : ∀ QQ : State → Prop, QQ = MQ below (xk_Qv (dC, dI) xcl (xt cI cB cJ cZ cQ) (fun _ : Unit => True) (fun u : Unit => (wC a v cI cB cJ cZ cQ y.2)) A) [.ref ((a 103)), .int v1].toArray s0 0 0 A → dcC p l e ({ frames := 2, cells := 0, slots := 0, locals := 61 }) s0 m [.ref ((a 103)), .int v1].toArray below meth c QQ (dC, dI) A (wC a v cI cB cJ cZ cQ s) 0 2 [(0, .ref ((a 103))), (1, .int v1)] [] by
    have k9 := kk _ rfl H [] ls hP hD hS hl
    rw [hH] at k9; exact k9
  clear hP hD hS hl hH H ls
  intro QQ hQQ
  intro H locs ls hP hD hS hl
  unfold fn_Checker_spend_Ch at hf
  refine lv_aload_n hx hb dn_Checker_spend_0 rfl (lv_at hl 0 rfl) ?_
  refine lv_aload_n hx hb dn_Checker_spend_1 rfl (lv_at hl 0 rfl) ?_
  refine va_get (D := (dC, dI)) (ci := 4) (v := .int ((s.1 241 0))) (C := rn_Checker) (T := fn_Checker) (N := 15) hx hb hg in_Checker hown hK hP 3 rfl rfl 12 (by decide) (hg _ wn_1_139) (fun _ h9 => h9) rfl dn_Checker_spend_2 ?_
  refine lv_iload_n hx hb dn_Checker_spend_5 rfl (lv_at hl 1 rfl) ?_
  obtain ⟨q_1, hc_2, hf⟩ := dc_b hf
  refine dc_calli (dc_runSN (ar := 2) (As := [.int ((s.1 241 0)), .int v1]) (rest := [.ref ((a 103))]) (host := "CircuitCycles") ⟨hx, hb, hml, hown, hg⟩ hK hN hT hS hA (ct_C_capped l dC dI cI cB cJ cZ cQ N H.size a v ((s.1 241 0)) v1 s q_1 hc_2) hP hD nl_Checker_79 wn_5_108 wn_1_1 wn_5_109 rfl rfl (by decide +kernel) ⟨Nat.le_of_ble_eq_true rfl, Nat.le_of_ble_eq_true rfl⟩ rfl hl.1 rfl (Nat.le_of_ble_eq_true rfl) dn_Checker_spend_6 ⟨Nat.le_of_ble_eq_true rfl, Nat.le_of_ble_eq_true rfl⟩) hP hD hS hA (fun r_3 _ H locs hw hP hD hS => ?_)
  have hw : r_3 = q_1.1 := hw
  subst hw
  refine va_put (D := (dC, dI)) (ci := 4) (v := .int q_1.1) (ty := .int) (C := rn_Checker) (T := fn_Checker) (N := 15) hx hb hg in_Checker tn_Checker tk_Checker nn_Checker hown hK hP hD hS 3 rfl rfl 12 (by decide) (hg _ wn_1_139) (fun _ h9 => h9) rfl (tk_Checker 12 (by decide)) rfl rfl (Nat.le_of_ble_eq_true rfl) dn_Checker_spend_9 (fun H locs hP hD hS => ?_)
  have hP := wC_P_241 hP
  have hD := wC_D_241 hD
  rw [hQQ, ← Option.some.inj hf]
  exact xk_vret (w1 := fun u : Unit => (wC a v cI cB cJ cZ cQ (upI q_1.2 241 (fun _ => q_1.1)))) () hx hb hr hlocks hK hS dn_Checker_spend_12 hP hD trivial (Nat.le_refl _) (Nat.le_refl _)
set_option maxHeartbeats 8000000 in
set_option maxRecDepth 100000 in
theorem ct_Meaning_label_Me (l : Launch) (dC : Nat → ClassId) (dI : Nat → Nat → Nat) (cI cB cJ cZ cQ : ClassId) (N sz : Nat) (a : Nat → Nat) (v : Nat → Value) (hv_6 : v 6 = .ref (a 111)) (v1 : Int32) (v2 : Int32) (s : ms) (y : (Unit × ms)) (hf : fn_Meaning_label_Me N v1 v2 s = some y) : Met l yn_Meaning_label (xw yn_Meaning_label bn_Meaning_label 4 none) ({ frames := 3, cells := 0, slots := 0, locals := 82 }) (dc_P (dC, dI) xcl (xt cI cB cJ cZ cQ) [.ref ((a 104)), .int v1, .int v2] sz (wC a v cI cB cJ cZ cQ s)) (xk_Qv (dC, dI) xcl (xt cI cB cJ cZ cQ) (fun _ : Unit => True) (fun u : Unit => (wC a v cI cB cJ cZ cQ y.2)) (va_A (wC a v cI cB cJ cZ cQ s) sz)) 0 0 (va_A (wC a v cI cB cJ cZ cQ s) sz) := by
  refine dc_of (QA := xk_Qv (dC, dI) xcl (xt cI cB cJ cZ cQ) (fun _ : Unit => True) (fun u : Unit => (wC a v cI cB cJ cZ cQ y.2))) (by decide) (Nat.le_of_ble_eq_true rfl) ?_
  intro p e s0 m below meth c hx hb hml hown hg hr hlocks hin hP hK hN A hA hD hT ls hl
  have hown : s0.vm.findClass rn_Meaning = some m.cls := hown
  obtain ⟨H, hH⟩ : ∃ z, z = s0.heap := ⟨_, rfl⟩
  rw [← hH] at hP
  have hS : va_S A s0.heap H [] := by rw [hH]; exact va_S.rf
  suffices kk : ∀ QQ : State → Prop, QQ = MQ below (xk_Qv (dC, dI) xcl (xt cI cB cJ cZ cQ) (fun _ : Unit => True) (fun u : Unit => (wC a v cI cB cJ cZ cQ y.2)) A) [.ref ((a 104)), .int v1, .int v2].toArray s0 0 0 A → dcC p l e ({ frames := 3, cells := 0, slots := 0, locals := 82 }) s0 m [.ref ((a 104)), .int v1, .int v2].toArray below meth c QQ (dC, dI) A (wC a v cI cB cJ cZ cQ s) 0 4 [(0, .ref ((a 104))), (1, .int v1), (2, .int v2)] [] by
    have k9 := kk _ rfl H [] ls hP hD hS hl
    rw [hH] at k9; exact k9
  clear hP hD hS hl hH H ls
  intro QQ hQQ
  have bl_52 : ∀ (x1 : Int32) (x3 : Int32) (s : ms), bk_Meaning_label_Me_52 N x1 x3 s = some y → dcC p l e ({ frames := 3, cells := 0, slots := 0, locals := 82 }) s0 m [.ref ((a 104)), .int v1, .int v2].toArray below meth c QQ (dC, dI) A (wC a v cI cB cJ cZ cQ s) 52 4 [(0, .ref ((a 104))), (1, .int x1), (3, .int x3)] [] := by
    intro x1 x3 s hf H locs ls hP hD hS hl
    unfold bk_Meaning_label_Me_52 at hf
    refine lv_aload_n hx hb dn_Meaning_label_52 rfl (lv_at hl 0 rfl) ?_
    refine va_get (D := (dC, dI)) (ci := 5) (v := .ref ((a 103))) (C := rn_Meaning) (T := fn_Meaning) (N := 17) hx hb hg in_Meaning hown hK hP 4 rfl rfl 0 (by decide) (hg _ wn_1_184) (fun _ h9 => h9) rfl dn_Meaning_label_53 ?_
    refine lv_iload_n hx hb dn_Meaning_label_56 rfl (lv_at hl 2 rfl) ?_
    obtain ⟨q_1, hc_2, hf⟩ := dc_b hf
    refine dc_callv (dc_runV (ar := 1) (As := [.int x3]) (rest := []) (ci := 4) (q0 := 3) ⟨hx, hb, hml, hown, hg⟩ hK hN hT hS hA (ct_Checker_spend_Ch l dC dI cI cB cJ cZ cQ N H.size a v x3 s q_1 hc_2) hP hD rfl rfl wn_5_227 wn_5_228 wn_5_229 wn_1_4 wn_5_230 rfl rfl (by decide +kernel) ⟨Nat.le_of_ble_eq_true rfl, Nat.le_of_ble_eq_true rfl⟩ rfl hl.1 rfl (Nat.le_of_ble_eq_true rfl) dn_Meaning_label_57 ⟨Nat.le_of_ble_eq_true rfl, Nat.le_of_ble_eq_true rfl⟩) hP hD hS hA (fun _ H locs hw hP hD hS => ?_)
    refine lv_aload_n hx hb dn_Meaning_label_60 rfl (lv_at hl 0 rfl) ?_
    refine va_get (D := (dC, dI)) (ci := 5) (v := .ref ((a 111))) (C := rn_Meaning) (T := fn_Meaning) (N := 17) hx hb hg in_Meaning hown hK hP 4 rfl rfl 3 (by decide) (hg _ wn_1_187) (fun _ h9 => h9) (congrArg some hv_6) dn_Meaning_label_61 ?_
    refine lv_sipush (v := 513) hx hb dn_Meaning_label_64 (by decide) ?_
    refine lv_iload_n hx hb dn_Meaning_label_67 rfl (lv_at hl 1 rfl) ?_
    obtain ⟨q_3, hc_4, hf⟩ := dc_b hf
    refine dc_calli (dc_runV (ar := 2) (As := [.int 513, .int x1]) (rest := []) (ci := 12) (q0 := 11) ⟨hx, hb, hml, hown, hg⟩ hK hN hT hS hA (ct_Code_emit_Ks l dC dI cI cB cJ cZ cQ N H.size a v 513 x1 q_1.2 q_3 hc_4) hP hD rfl rfl wn_5_197 wn_5_198 wn_5_199 wn_1_12 wn_5_200 rfl rfl (by decide +kernel) ⟨Nat.le_of_ble_eq_true rfl, Nat.le_of_ble_eq_true rfl⟩ rfl hl.1 rfl (Nat.le_of_ble_eq_true rfl) dn_Meaning_label_68 ⟨Nat.le_of_ble_eq_true rfl, Nat.le_of_ble_eq_true rfl⟩) hP hD hS hA (fun r_5 _ H locs hw hP hD hS => ?_)
    have hw : r_5 = q_3.1 := hw
    subst hw
    refine lv_pop hx hb dn_Meaning_label_71 rfl ?_
    refine lv_aload_n hx hb dn_Meaning_label_72 rfl (lv_at hl 0 rfl) ?_
    refine va_get (D := (dC, dI)) (ci := 5) (v := .ref ((a 258))) (C := rn_Meaning) (T := fn_Meaning) (N := 17) hx hb hg in_Meaning hown hK hP 4 rfl rfl 14 (by decide) (hg _ wn_1_198) (fun _ h9 => h9) rfl dn_Meaning_label_73 ?_
    refine lv_aload_n hx hb dn_Meaning_label_76 rfl (lv_at hl 0 rfl) ?_
    refine va_get (D := (dC, dI)) (ci := 5) (v := .int ((q_3.2.1 260 0))) (C := rn_Meaning) (T := fn_Meaning) (N := 17) hx hb hg in_Meaning hown hK hP 4 rfl rfl 16 (by decide) (hg _ wn_1_200) (fun _ h9 => h9) rfl dn_Meaning_label_77 ?_
    refine lv_iconst (v := 1) hx hb dn_Meaning_label_80 (by decide) ?_
    refine lv_isub hx hb dn_Meaning_label_81 ?_
    refine lv_aload_n hx hb dn_Meaning_label_82 rfl (lv_at hl 0 rfl) ?_
    refine va_get (D := (dC, dI)) (ci := 5) (v := .ref ((a 111))) (C := rn_Meaning) (T := fn_Meaning) (N := 17) hx hb hg in_Meaning hown hK hP 4 rfl rfl 3 (by decide) (hg _ wn_1_187) (fun _ h9 => h9) (congrArg some hv_6) dn_Meaning_label_83 ?_
    refine lv_sipush (v := 519) hx hb dn_Meaning_label_86 (by decide) ?_
    refine lv_aload_n hx hb dn_Meaning_label_89 rfl (lv_at hl 0 rfl) ?_
    refine va_get (D := (dC, dI)) (ci := 5) (v := .ref ((a 258))) (C := rn_Meaning) (T := fn_Meaning) (N := 17) hx hb hg in_Meaning hown hK hP 4 rfl rfl 14 (by decide) (hg _ wn_1_198) (fun _ h9 => h9) rfl dn_Meaning_label_90 ?_
    refine lv_aload_n hx hb dn_Meaning_label_93 rfl (lv_at hl 0 rfl) ?_
    refine va_get (D := (dC, dI)) (ci := 5) (v := .int ((q_3.2.1 260 0))) (C := rn_Meaning) (T := fn_Meaning) (N := 17) hx hb hg in_Meaning hown hK hP 4 rfl rfl 16 (by decide) (hg _ wn_1_200) (fun _ h9 => h9) rfl dn_Meaning_label_94 ?_
    refine lv_iconst (v := 1) hx hb dn_Meaning_label_97 (by decide) ?_
    refine lv_isub hx hb dn_Meaning_label_98 ?_
    obtain ⟨hg_6, hf⟩ := dc_g hf
    refine va_iald hx hb hK hP 28 0 rfl rfl hg_6 dn_Meaning_label_99 ?_
    refine xk_ti (y := ((q_3.2.1 258) (Int32.toNatClampNeg (((q_3.2.1 260 0) - 1))))) rfl ?_
    obtain ⟨q_7, hc_8, hf⟩ := dc_b hf
    refine dc_calli (dc_runV (ar := 2) (As := [.int 519, .int (((q_3.2.1 258) (Int32.toNatClampNeg (((q_3.2.1 260 0) - 1)))))]) (rest := [.int (((q_3.2.1 260 0) - 1)), .ref ((a 258))]) (ci := 12) (q0 := 11) ⟨hx, hb, hml, hown, hg⟩ hK hN hT hS hA (ct_Code_emit_Ks l dC dI cI cB cJ cZ cQ N H.size a v 519 (((q_3.2.1 258) (Int32.toNatClampNeg (((q_3.2.1 260 0) - 1))))) q_3.2 q_7 hc_8) hP hD rfl rfl wn_5_197 wn_5_198 wn_5_199 wn_1_12 wn_5_200 rfl rfl (by decide +kernel) ⟨Nat.le_of_ble_eq_true rfl, Nat.le_of_ble_eq_true rfl⟩ rfl hl.1 rfl (Nat.le_of_ble_eq_true rfl) dn_Meaning_label_100 ⟨Nat.le_of_ble_eq_true rfl, Nat.le_of_ble_eq_true rfl⟩) hP hD hS hA (fun r_9 _ H locs hw hP hD hS => ?_)
    have hw : r_9 = q_7.1 := hw
    subst hw
    obtain ⟨hg_10, hf⟩ := dc_g hf
    refine va_iast hx hb hK hP hD hS 28 0 rfl rfl hg_10 dn_Meaning_label_103 (fun H locs hP hD hS => ?_)
    have hP : va_P (dC, dI) xcl ((wC a v cI cB cJ cZ cQ q_7.2).set 28 ((a 258), .inl (cI, 60, .inl (upd (q_7.2.1 258) (Int32.toNatClampNeg (((q_3.2.1 260 0) - 1))) q_7.1)))) H := hP
    have hD : va_D A ((wC a v cI cB cJ cZ cQ q_7.2).set 28 ((a 258), .inl (cI, 60, .inl (upd (q_7.2.1 258) (Int32.toNatClampNeg (((q_3.2.1 260 0) - 1))) q_7.1)))) := hD
    have hP := wC_P_258 hP
    have hD := wC_D_258 hD
    rw [hQQ, ← Option.some.inj hf]
    exact xk_vret (w1 := fun u : Unit => (wC a v cI cB cJ cZ cQ (upI q_7.2 258 (upd (q_7.2.1 258) (Int32.toNatClampNeg (((q_3.2.1 260 0) - 1))) q_7.1)))) () hx hb hr hlocks hK hS dn_Meaning_label_104 hP hD trivial (Nat.le_refl _) (Nat.le_refl _)
  intro H locs ls hP hD hS hl
  unfold fn_Meaning_label_Me at hf
  refine lv_aload_n hx hb dn_Meaning_label_0 rfl (lv_at hl 0 rfl) ?_
  refine va_get (D := (dC, dI)) (ci := 5) (v := .ref ((a 103))) (C := rn_Meaning) (T := fn_Meaning) (N := 17) hx hb hg in_Meaning hown hK hP 4 rfl rfl 0 (by decide) (hg _ wn_1_184) (fun _ h9 => h9) rfl dn_Meaning_label_1 ?_
  obtain ⟨q_1, hc_2, hf⟩ := dc_b hf
  refine dc_calli (dc_runV (ar := 0) (As := []) (rest := []) (ci := 4) (q0 := 3) ⟨hx, hb, hml, hown, hg⟩ hK hN hT hS hA (ct_Checker_isOff_Ch l dC dI cI cB cJ cZ cQ N H.size a v s q_1 hc_2) hP hD rfl rfl wn_4_193 wn_4_194 wn_4_195 wn_1_4 wn_4_196 rfl rfl (by decide +kernel) ⟨Nat.le_of_ble_eq_true rfl, Nat.le_of_ble_eq_true rfl⟩ rfl hl.1 rfl (Nat.le_of_ble_eq_true rfl) dn_Meaning_label_4 ⟨Nat.le_of_ble_eq_true rfl, Nat.le_of_ble_eq_true rfl⟩) hP hD hS hA (fun r_3 _ H locs hw hP hD hS => ?_)
  have hw : r_3 = q_1.1 := hw
  subst hw
  refine lv_if_ne (tgt := 17) hx hb dn_Meaning_label_7 (by decide) (fun h => ?_) (fun h => ?_)
  · have hf := (if_neg h).symm.trans hf
    rw [hQQ, ← Option.some.inj hf]
    exact xk_vret (w1 := fun u : Unit => (wC a v cI cB cJ cZ cQ q_1.2)) () hx hb hr hlocks hK hS dn_Meaning_label_17 hP hD trivial (Nat.le_refl _) (Nat.le_refl _)
  · have hf := (if_pos h).symm.trans hf
    refine lv_aload_n hx hb dn_Meaning_label_10 rfl (lv_at hl 0 rfl) ?_
    refine va_get (D := (dC, dI)) (ci := 5) (v := .int ((q_1.2.1 260 0))) (C := rn_Meaning) (T := fn_Meaning) (N := 17) hx hb hg in_Meaning hown hK hP 4 rfl rfl 16 (by decide) (hg _ wn_1_200) (fun _ h9 => h9) rfl dn_Meaning_label_11 ?_
    refine lv_if_ne (tgt := 18) hx hb dn_Meaning_label_14 (by decide) (fun h => ?_) (fun h => ?_)
    · have hf := (if_neg h).symm.trans hf
      refine lv_aload_n hx hb dn_Meaning_label_18 rfl (lv_at hl 0 rfl) ?_
      refine va_get (D := (dC, dI)) (ci := 5) (v := .ref ((a 259))) (C := rn_Meaning) (T := fn_Meaning) (N := 17) hx hb hg in_Meaning hown hK hP 4 rfl rfl 15 (by decide) (hg _ wn_1_199) (fun _ h9 => h9) rfl dn_Meaning_label_19 ?_
      refine lv_aload_n hx hb dn_Meaning_label_22 rfl (lv_at hl 0 rfl) ?_
      refine va_get (D := (dC, dI)) (ci := 5) (v := .int ((q_1.2.1 260 0))) (C := rn_Meaning) (T := fn_Meaning) (N := 17) hx hb hg in_Meaning hown hK hP 4 rfl rfl 16 (by decide) (hg _ wn_1_200) (fun _ h9 => h9) rfl dn_Meaning_label_23 ?_
      refine lv_iconst (v := 1) hx hb dn_Meaning_label_26 (by decide) ?_
      refine lv_isub hx hb dn_Meaning_label_27 ?_
      obtain ⟨hg_4, hf⟩ := dc_g hf
      refine va_iald hx hb hK hP 29 0 rfl rfl hg_4 dn_Meaning_label_28 ?_
      refine xk_ti (y := ((q_1.2.1 259) (Int32.toNatClampNeg (((q_1.2.1 260 0) - 1))))) rfl ?_
      refine lv_istore_n (lv' := [(3, .int (((q_1.2.1 259) (Int32.toNatClampNeg (((q_1.2.1 260 0) - 1)))))), (0, .ref ((a 104))), (1, .int v1), (2, .int v2)]) hx hb dn_Meaning_label_29 rfl hl (by decide) rfl (fun ls hl => ?_)
      refine lv_aload_n hx hb dn_Meaning_label_30 rfl (lv_at hl 1 rfl) ?_
      refine va_get (D := (dC, dI)) (ci := 5) (v := .ref ((a 111))) (C := rn_Meaning) (T := fn_Meaning) (N := 17) hx hb hg in_Meaning hown hK hP 4 rfl rfl 3 (by decide) (hg _ wn_1_187) (fun _ h9 => h9) (congrArg some hv_6) dn_Meaning_label_31 ?_
      refine lv_iload_n hx hb dn_Meaning_label_34 rfl (lv_at hl 2 rfl) ?_
      obtain ⟨q_5, hc_6, hf⟩ := dc_b hf
      refine dc_calli (dc_runV (ar := 1) (As := [.int v1]) (rest := []) (ci := 12) (q0 := 11) ⟨hx, hb, hml, hown, hg⟩ hK hN hT hS hA (ct_Code_widthOf_Ks l dC dI cI cB cJ cZ cQ N H.size a v v1 q_1.2 q_5 hc_6) hP hD rfl rfl wn_5_14 wn_5_15 wn_5_16 wn_1_12 wn_5_17 rfl rfl (by decide +kernel) ⟨Nat.le_of_ble_eq_true rfl, Nat.le_of_ble_eq_true rfl⟩ rfl hl.1 rfl (Nat.le_of_ble_eq_true rfl) dn_Meaning_label_35 ⟨Nat.le_of_ble_eq_true rfl, Nat.le_of_ble_eq_true rfl⟩) hP hD hS hA (fun r_7 _ H locs hw hP hD hS => ?_)
      have hw : r_7 = q_5.1 := hw
      subst hw
      refine lv_iload_n hx hb dn_Meaning_label_38 rfl (lv_at hl 0 rfl) ?_
      refine lv_icmp_eq (tgt := 52) hx hb dn_Meaning_label_39 (by decide) (fun h => ?_) (fun h => ?_)
      · have hf := (if_pos h).symm.trans hf
        exact bl_52 v1 (((q_1.2.1 259) (Int32.toNatClampNeg (((q_1.2.1 260 0) - 1))))) q_5.2 hf H locs ls hP hD hS (lv_sub hl [1, 2, 0] rfl)
      · have hf := (if_neg h).symm.trans hf
        refine lv_aload_n hx hb dn_Meaning_label_42 rfl (lv_at hl 1 rfl) ?_
        refine va_get (D := (dC, dI)) (ci := 5) (v := .ref ((a 103))) (C := rn_Meaning) (T := fn_Meaning) (N := 17) hx hb hg in_Meaning hown hK hP 4 rfl rfl 0 (by decide) (hg _ wn_1_184) (fun _ h9 => h9) rfl dn_Meaning_label_43 ?_
        refine lv_bipush (v := 30) hx hb dn_Meaning_label_46 (by decide) ?_
        refine lv_iload_n hx hb dn_Meaning_label_48 rfl (lv_at hl 3 rfl) ?_
        obtain ⟨q_8, hc_9, hf⟩ := dc_b hf
        refine dc_callv (dc_runV (ar := 2) (As := [.int 30, .int v2]) (rest := []) (ci := 4) (q0 := 3) ⟨hx, hb, hml, hown, hg⟩ hK hN hT hS hA (ct_Checker_refuse_Ch l dC dI cI cB cJ cZ cQ N H.size a v 30 v2 q_5.2 q_8 hc_9) hP hD rfl rfl wn_4_201 wn_4_202 wn_4_203 wn_1_4 wn_4_204 rfl rfl (by decide +kernel) ⟨Nat.le_of_ble_eq_true rfl, Nat.le_of_ble_eq_true rfl⟩ rfl hl.1 rfl (Nat.le_of_ble_eq_true rfl) dn_Meaning_label_49 ⟨Nat.le_of_ble_eq_true rfl, Nat.le_of_ble_eq_true rfl⟩) hP hD hS hA (fun _ H locs hw hP hD hS => ?_)
        exact bl_52 v1 (((q_1.2.1 259) (Int32.toNatClampNeg (((q_1.2.1 260 0) - 1))))) q_8.2 hf H locs ls hP hD hS (lv_sub hl [1, 2, 0] rfl)
    · have hf := (if_pos h).symm.trans hf
      rw [hQQ, ← Option.some.inj hf]
      exact xk_vret (w1 := fun u : Unit => (wC a v cI cB cJ cZ cQ q_1.2)) () hx hb hr hlocks hK hS dn_Meaning_label_17 hP hD trivial (Nat.le_refl _) (Nat.le_refl _)
set_option maxHeartbeats 8000000 in
set_option maxRecDepth 100000 in
theorem ct_Meaning_labelsEnd_Me (l : Launch) (dC : Nat → ClassId) (dI : Nat → Nat → Nat) (cI cB cJ cZ cQ : ClassId) (N sz : Nat) (a : Nat → Nat) (v : Nat → Value) (hv_6 : v 6 = .ref (a 111)) (s : ms) (y : (Unit × ms)) (hf : fn_Meaning_labelsEnd_Me N s = some y) : Met l yn_Meaning_labelsEnd (xw yn_Meaning_labelsEnd bn_Meaning_labelsEnd 1 none) ({ frames := 2, cells := 0, slots := 0, locals := 45 }) (dc_P (dC, dI) xcl (xt cI cB cJ cZ cQ) [.ref ((a 104))] sz (wC a v cI cB cJ cZ cQ s)) (xk_Qv (dC, dI) xcl (xt cI cB cJ cZ cQ) (fun _ : Unit => True) (fun u : Unit => (wC a v cI cB cJ cZ cQ y.2)) (va_A (wC a v cI cB cJ cZ cQ s) sz)) 0 0 (va_A (wC a v cI cB cJ cZ cQ s) sz) := by
  refine dc_of (QA := xk_Qv (dC, dI) xcl (xt cI cB cJ cZ cQ) (fun _ : Unit => True) (fun u : Unit => (wC a v cI cB cJ cZ cQ y.2))) (by decide) (Nat.le_of_ble_eq_true rfl) ?_
  intro p e s0 m below meth c hx hb hml hown hg hr hlocks hin hP hK hN A hA hD hT ls hl
  have hown : s0.vm.findClass rn_Meaning = some m.cls := hown
  obtain ⟨H, hH⟩ : ∃ z, z = s0.heap := ⟨_, rfl⟩
  rw [← hH] at hP
  have hS : va_S A s0.heap H [] := by rw [hH]; exact va_S.rf
  suffices kk : ∀ QQ : State → Prop, QQ = MQ below (xk_Qv (dC, dI) xcl (xt cI cB cJ cZ cQ) (fun _ : Unit => True) (fun u : Unit => (wC a v cI cB cJ cZ cQ y.2)) A) [.ref ((a 104))].toArray s0 0 0 A → dcC p l e ({ frames := 2, cells := 0, slots := 0, locals := 45 }) s0 m [.ref ((a 104))].toArray below meth c QQ (dC, dI) A (wC a v cI cB cJ cZ cQ s) 0 1 [(0, .ref ((a 104)))] [] by
    have k9 := kk _ rfl H [] ls hP hD hS hl
    rw [hH] at k9; exact k9
  clear hP hD hS hl hH H ls
  intro QQ hQQ
  intro H locs ls hP hD hS hl
  unfold fn_Meaning_labelsEnd_Me at hf
  refine lv_aload_n hx hb dn_Meaning_labelsEnd_0 rfl (lv_at hl 0 rfl) ?_
  refine va_get (D := (dC, dI)) (ci := 5) (v := .ref ((a 103))) (C := rn_Meaning) (T := fn_Meaning) (N := 17) hx hb hg in_Meaning hown hK hP 4 rfl rfl 0 (by decide) (hg _ wn_1_184) (fun _ h9 => h9) rfl dn_Meaning_labelsEnd_1 ?_
  obtain ⟨q_1, hc_2, hf⟩ := dc_b hf
  refine dc_calli (dc_runV (ar := 0) (As := []) (rest := []) (ci := 4) (q0 := 3) ⟨hx, hb, hml, hown, hg⟩ hK hN hT hS hA (ct_Checker_isOff_Ch l dC dI cI cB cJ cZ cQ N H.size a v s q_1 hc_2) hP hD rfl rfl wn_4_193 wn_4_194 wn_4_195 wn_1_4 wn_4_196 rfl rfl (by decide +kernel) ⟨Nat.le_of_ble_eq_true rfl, Nat.le_of_ble_eq_true rfl⟩ rfl hl.1 rfl (Nat.le_of_ble_eq_true rfl) dn_Meaning_labelsEnd_4 ⟨Nat.le_of_ble_eq_true rfl, Nat.le_of_ble_eq_true rfl⟩) hP hD hS hA (fun r_3 _ H locs hw hP hD hS => ?_)
  have hw : r_3 = q_1.1 := hw
  subst hw
  refine lv_if_ne (tgt := 17) hx hb dn_Meaning_labelsEnd_7 (by decide) (fun h => ?_) (fun h => ?_)
  · have hf := (if_neg h).symm.trans hf
    rw [hQQ, ← Option.some.inj hf]
    exact xk_vret (w1 := fun u : Unit => (wC a v cI cB cJ cZ cQ q_1.2)) () hx hb hr hlocks hK hS dn_Meaning_labelsEnd_17 hP hD trivial (Nat.le_refl _) (Nat.le_refl _)
  · have hf := (if_pos h).symm.trans hf
    refine lv_aload_n hx hb dn_Meaning_labelsEnd_10 rfl (lv_at hl 0 rfl) ?_
    refine va_get (D := (dC, dI)) (ci := 5) (v := .int ((q_1.2.1 260 0))) (C := rn_Meaning) (T := fn_Meaning) (N := 17) hx hb hg in_Meaning hown hK hP 4 rfl rfl 16 (by decide) (hg _ wn_1_200) (fun _ h9 => h9) rfl dn_Meaning_labelsEnd_11 ?_
    refine lv_if_ne (tgt := 18) hx hb dn_Meaning_labelsEnd_14 (by decide) (fun h => ?_) (fun h => ?_)
    · have hf := (if_neg h).symm.trans hf
      refine lv_aload_n hx hb dn_Meaning_labelsEnd_18 rfl (lv_at hl 0 rfl) ?_
      refine va_get (D := (dC, dI)) (ci := 5) (v := .ref ((a 256))) (C := rn_Meaning) (T := fn_Meaning) (N := 17) hx hb hg in_Meaning hown hK hP 4 rfl rfl 12 (by decide) (hg _ wn_1_196) (fun _ h9 => h9) rfl dn_Meaning_labelsEnd_19 ?_
      refine lv_aload_n hx hb dn_Meaning_labelsEnd_22 rfl (lv_at hl 0 rfl) ?_
      refine va_get (D := (dC, dI)) (ci := 5) (v := .int ((q_1.2.1 260 0))) (C := rn_Meaning) (T := fn_Meaning) (N := 17) hx hb hg in_Meaning hown hK hP 4 rfl rfl 16 (by decide) (hg _ wn_1_200) (fun _ h9 => h9) rfl dn_Meaning_labelsEnd_23 ?_
      refine lv_iconst (v := 1) hx hb dn_Meaning_labelsEnd_26 (by decide) ?_
      refine lv_isub hx hb dn_Meaning_labelsEnd_27 ?_
      refine lv_aload_n hx hb dn_Meaning_labelsEnd_28 rfl (lv_at hl 0 rfl) ?_
      refine va_get (D := (dC, dI)) (ci := 5) (v := .ref ((a 111))) (C := rn_Meaning) (T := fn_Meaning) (N := 17) hx hb hg in_Meaning hown hK hP 4 rfl rfl 3 (by decide) (hg _ wn_1_187) (fun _ h9 => h9) (congrArg some hv_6) dn_Meaning_labelsEnd_29 ?_
      refine lv_sipush (v := 517) hx hb dn_Meaning_labelsEnd_32 (by decide) ?_
      refine lv_iconst (v := (-1)) hx hb dn_Meaning_labelsEnd_35 (by decide) ?_
      obtain ⟨q_4, hc_5, hf⟩ := dc_b hf
      refine dc_calli (dc_runV (ar := 2) (As := [.int 517, .int ((-1))]) (rest := [.int (((q_1.2.1 260 0) - 1)), .ref ((a 256))]) (ci := 12) (q0 := 11) ⟨hx, hb, hml, hown, hg⟩ hK hN hT hS hA (ct_Code_emit_Ks l dC dI cI cB cJ cZ cQ N H.size a v 517 ((-1)) q_1.2 q_4 hc_5) hP hD rfl rfl wn_5_197 wn_5_198 wn_5_199 wn_1_12 wn_5_200 rfl rfl (by decide +kernel) ⟨Nat.le_of_ble_eq_true rfl, Nat.le_of_ble_eq_true rfl⟩ rfl hl.1 rfl (Nat.le_of_ble_eq_true rfl) dn_Meaning_labelsEnd_36 ⟨Nat.le_of_ble_eq_true rfl, Nat.le_of_ble_eq_true rfl⟩) hP hD hS hA (fun r_6 _ H locs hw hP hD hS => ?_)
      have hw : r_6 = q_4.1 := hw
      subst hw
      obtain ⟨hg_7, hf⟩ := dc_g hf
      refine va_iast hx hb hK hP hD hS 26 0 rfl rfl hg_7 dn_Meaning_labelsEnd_39 (fun H locs hP hD hS => ?_)
      have hP : va_P (dC, dI) xcl ((wC a v cI cB cJ cZ cQ q_4.2).set 26 ((a 256), .inl (cI, 60, .inl (upd (q_4.2.1 256) (Int32.toNatClampNeg (((q_1.2.1 260 0) - 1))) q_4.1)))) H := hP
      have hD : va_D A ((wC a v cI cB cJ cZ cQ q_4.2).set 26 ((a 256), .inl (cI, 60, .inl (upd (q_4.2.1 256) (Int32.toNatClampNeg (((q_1.2.1 260 0) - 1))) q_4.1)))) := hD
      have hP := wC_P_256 hP
      have hD := wC_D_256 hD
      refine lv_aload_n hx hb dn_Meaning_labelsEnd_40 rfl (lv_at hl 0 rfl) ?_
      refine va_get (D := (dC, dI)) (ci := 5) (v := .ref ((a 111))) (C := rn_Meaning) (T := fn_Meaning) (N := 17) hx hb hg in_Meaning hown hK hP 4 rfl rfl 3 (by decide) (hg _ wn_1_187) (fun _ h9 => h9) (congrArg some hv_6) dn_Meaning_labelsEnd_41 ?_
      refine lv_aload_n hx hb dn_Meaning_labelsEnd_44 rfl (lv_at hl 0 rfl) ?_
      refine va_get (D := (dC, dI)) (ci := 5) (v := .ref ((a 258))) (C := rn_Meaning) (T := fn_Meaning) (N := 17) hx hb hg in_Meaning hown hK hP 4 rfl rfl 14 (by decide) (hg _ wn_1_198) (fun _ h9 => h9) rfl dn_Meaning_labelsEnd_45 ?_
      refine lv_aload_n hx hb dn_Meaning_labelsEnd_48 rfl (lv_at hl 0 rfl) ?_
      refine va_get (D := (dC, dI)) (ci := 5) (v := .int ((q_4.2.1 260 0))) (C := rn_Meaning) (T := fn_Meaning) (N := 17) hx hb hg in_Meaning hown hK hP 4 rfl rfl 16 (by decide) (hg _ wn_1_200) (fun _ h9 => h9) rfl dn_Meaning_labelsEnd_49 ?_
      refine lv_iconst (v := 1) hx hb dn_Meaning_labelsEnd_52 (by decide) ?_
      refine lv_isub hx hb dn_Meaning_labelsEnd_53 ?_
      obtain ⟨hg_8, hf⟩ := dc_g hf
      refine va_iald hx hb hK hP 28 0 rfl rfl hg_8 dn_Meaning_labelsEnd_54 ?_
      refine xk_ti (y := ((q_4.2.1 258) (Int32.toNatClampNeg (((q_4.2.1 260 0) - 1))))) rfl ?_
      obtain ⟨q_9, hc_10, hf⟩ := dc_b hf
      refine dc_callv (dc_runV (ar := 1) (As := [.int (((q_4.2.1 258) (Int32.toNatClampNeg (((q_4.2.1 260 0) - 1)))))]) (rest := []) (ci := 12) (q0 := 11) ⟨hx, hb, hml, hown, hg⟩ hK hN hT hS hA (ct_Code_aimAll_Ks l dC dI cI cB cJ cZ cQ N H.size a v (((q_4.2.1 258) (Int32.toNatClampNeg (((q_4.2.1 260 0) - 1))))) (upI q_4.2 256 (upd (q_4.2.1 256) (Int32.toNatClampNeg (((q_1.2.1 260 0) - 1))) q_4.1)) q_9 hc_10) hP hD rfl rfl wn_5_236 wn_5_237 wn_5_238 wn_1_12 wn_5_239 rfl rfl (by decide +kernel) ⟨Nat.le_of_ble_eq_true rfl, Nat.le_of_ble_eq_true rfl⟩ rfl hl.1 rfl (Nat.le_of_ble_eq_true rfl) dn_Meaning_labelsEnd_55 ⟨Nat.le_of_ble_eq_true rfl, Nat.le_of_ble_eq_true rfl⟩) hP hD hS hA (fun _ H locs hw hP hD hS => ?_)
      refine lv_aload_n hx hb dn_Meaning_labelsEnd_58 rfl (lv_at hl 0 rfl) ?_
      refine va_get (D := (dC, dI)) (ci := 5) (v := .ref ((a 258))) (C := rn_Meaning) (T := fn_Meaning) (N := 17) hx hb hg in_Meaning hown hK hP 4 rfl rfl 14 (by decide) (hg _ wn_1_198) (fun _ h9 => h9) rfl dn_Meaning_labelsEnd_59 ?_
      refine lv_aload_n hx hb dn_Meaning_labelsEnd_62 rfl (lv_at hl 0 rfl) ?_
      refine va_get (D := (dC, dI)) (ci := 5) (v := .int ((q_9.2.1 260 0))) (C := rn_Meaning) (T := fn_Meaning) (N := 17) hx hb hg in_Meaning hown hK hP 4 rfl rfl 16 (by decide) (hg _ wn_1_200) (fun _ h9 => h9) rfl dn_Meaning_labelsEnd_63 ?_
      refine lv_iconst (v := 1) hx hb dn_Meaning_labelsEnd_66 (by decide) ?_
      refine lv_isub hx hb dn_Meaning_labelsEnd_67 ?_
      refine lv_iconst (v := (-1)) hx hb dn_Meaning_labelsEnd_68 (by decide) ?_
      obtain ⟨hg_11, hf⟩ := dc_g hf
      refine va_iast hx hb hK hP hD hS 28 0 rfl rfl hg_11 dn_Meaning_labelsEnd_69 (fun H locs hP hD hS => ?_)
      have hP : va_P (dC, dI) xcl ((wC a v cI cB cJ cZ cQ q_9.2).set 28 ((a 258), .inl (cI, 60, .inl (upd (q_9.2.1 258) (Int32.toNatClampNeg (((q_9.2.1 260 0) - 1))) ((-1)))))) H := hP
      have hD : va_D A ((wC a v cI cB cJ cZ cQ q_9.2).set 28 ((a 258), .inl (cI, 60, .inl (upd (q_9.2.1 258) (Int32.toNatClampNeg (((q_9.2.1 260 0) - 1))) ((-1)))))) := hD
      have hP := wC_P_258 hP
      have hD := wC_D_258 hD
      rw [hQQ, ← Option.some.inj hf]
      exact xk_vret (w1 := fun u : Unit => (wC a v cI cB cJ cZ cQ (upI q_9.2 258 (upd (q_9.2.1 258) (Int32.toNatClampNeg (((q_9.2.1 260 0) - 1))) ((-1)))))) () hx hb hr hlocks hK hS dn_Meaning_labelsEnd_70 hP hD trivial (Nat.le_refl _) (Nat.le_refl _)
    · have hf := (if_pos h).symm.trans hf
      rw [hQQ, ← Option.some.inj hf]
      exact xk_vret (w1 := fun u : Unit => (wC a v cI cB cJ cZ cQ q_1.2)) () hx hb hr hlocks hK hS dn_Meaning_labelsEnd_17 hP hD trivial (Nat.le_refl _) (Nat.le_refl _)
set_option maxHeartbeats 8000000 in
set_option maxRecDepth 100000 in
theorem ct_Grammar_arm_Gr (l : Launch) (dC : Nat → ClassId) (dI : Nat → Nat → Nat) (cI cB cJ cZ cQ : ClassId) (N sz : Nat) (a : Nat → Nat) (v : Nat → Value) (hv_6 : v 6 = .ref (a 111)) (s : ms) (y : (Unit × ms)) (hf : fn_Grammar_arm_Gr N s = some y) : Met l yn_Grammar_arm (xw yn_Grammar_arm bn_Grammar_arm 2 none) ({ frames := 4, cells := 0, slots := 0, locals := 105 }) (dc_P (dC, dI) xcl (xt cI cB cJ cZ cQ) [.ref ((a 105))] sz (wC a v cI cB cJ cZ cQ s)) (xk_Qv (dC, dI) xcl (xt cI cB cJ cZ cQ) (fun _ : Unit => True) (fun u : Unit => (wC a v cI cB cJ cZ cQ y.2)) (va_A (wC a v cI cB cJ cZ cQ s) sz)) 0 0 (va_A (wC a v cI cB cJ cZ cQ s) sz) := by
  refine dc_of (QA := xk_Qv (dC, dI) xcl (xt cI cB cJ cZ cQ) (fun _ : Unit => True) (fun u : Unit => (wC a v cI cB cJ cZ cQ y.2))) (by decide) (Nat.le_of_ble_eq_true rfl) ?_
  intro p e s0 m below meth c hx hb hml hown hg hr hlocks hin hP hK hN A hA hD hT ls hl
  have hown : s0.vm.findClass rn_Grammar = some m.cls := hown
  obtain ⟨H, hH⟩ : ∃ z, z = s0.heap := ⟨_, rfl⟩
  rw [← hH] at hP
  have hS : va_S A s0.heap H [] := by rw [hH]; exact va_S.rf
  suffices kk : ∀ QQ : State → Prop, QQ = MQ below (xk_Qv (dC, dI) xcl (xt cI cB cJ cZ cQ) (fun _ : Unit => True) (fun u : Unit => (wC a v cI cB cJ cZ cQ y.2)) A) [.ref ((a 105))].toArray s0 0 0 A → dcC p l e ({ frames := 4, cells := 0, slots := 0, locals := 105 }) s0 m [.ref ((a 105))].toArray below meth c QQ (dC, dI) A (wC a v cI cB cJ cZ cQ s) 0 2 [(0, .ref ((a 105)))] [] by
    have k9 := kk _ rfl H [] ls hP hD hS hl
    rw [hH] at k9; exact k9
  clear hP hD hS hl hH H ls
  intro QQ hQQ
  have bl_116 : ∀ (s : ms), bk_Grammar_arm_Gr_116 N s = some y → dcC p l e ({ frames := 4, cells := 0, slots := 0, locals := 105 }) s0 m [.ref ((a 105))].toArray below meth c QQ (dC, dI) A (wC a v cI cB cJ cZ cQ s) 116 2 [(0, .ref ((a 105)))] [] := by
    intro s hf H locs ls hP hD hS hl
    unfold bk_Grammar_arm_Gr_116 at hf
    refine lv_aload_n hx hb dn_Grammar_arm_116 rfl (lv_at hl 0 rfl) ?_
    refine va_get (D := (dC, dI)) (ci := 6) (v := .ref ((a 101))) (C := rn_Grammar) (T := fn_Grammar) (N := 15) hx hb hg in_Grammar hown hK hP 5 rfl rfl 0 (by decide) (hg _ wn_2_0) (fun _ h9 => h9) rfl dn_Grammar_arm_117 ?_
    refine lv_bipush (v := 58) hx hb dn_Grammar_arm_120 (by decide) ?_
    obtain ⟨q_1, hc_2, hf⟩ := dc_b hf
    refine dc_callv (dc_runV (ar := 1) (As := [.int 58]) (rest := []) (ci := 2) (q0 := 1) ⟨hx, hb, hml, hown, hg⟩ hK hN hT hS hA (ct_Tokens_need_Tk l dC dI cI cB cJ cZ cQ N H.size a v 58 s q_1 hc_2) hP hD rfl rfl wn_4_173 wn_4_174 wn_4_175 wn_1_2 wn_4_176 rfl rfl (by decide +kernel) ⟨Nat.le_of_ble_eq_true rfl, Nat.le_of_ble_eq_true rfl⟩ rfl hl.1 rfl (Nat.le_of_ble_eq_true rfl) dn_Grammar_arm_122 ⟨Nat.le_of_ble_eq_true rfl, Nat.le_of_ble_eq_true rfl⟩) hP hD hS hA (fun _ H locs hw hP hD hS => ?_)
    refine lv_aload_n hx hb dn_Grammar_arm_125 rfl (lv_at hl 0 rfl) ?_
    refine va_get (D := (dC, dI)) (ci := 6) (v := .ref ((a 104))) (C := rn_Grammar) (T := fn_Grammar) (N := 15) hx hb hg in_Grammar hown hK hP 5 rfl rfl 2 (by decide) (hg _ wn_2_2) (fun _ h9 => h9) rfl dn_Grammar_arm_126 ?_
    obtain ⟨q_3, hc_4, hf⟩ := dc_b hf
    refine dc_callv (dc_runV (ar := 0) (As := []) (rest := []) (ci := 5) (q0 := 4) ⟨hx, hb, hml, hown, hg⟩ hK hN hT hS hA (ct_Meaning_labelsEnd_Me l dC dI cI cB cJ cZ cQ N H.size a v hv_6 q_1.2 q_3 hc_4) hP hD rfl rfl wn_5_232 wn_5_233 wn_5_234 wn_1_6 wn_5_235 rfl rfl (by decide +kernel) ⟨Nat.le_of_ble_eq_true rfl, Nat.le_of_ble_eq_true rfl⟩ rfl hl.1 rfl (Nat.le_of_ble_eq_true rfl) dn_Grammar_arm_129 ⟨Nat.le_of_ble_eq_true rfl, Nat.le_of_ble_eq_true rfl⟩) hP hD hS hA (fun _ H locs hw hP hD hS => ?_)
    refine lv_aload_n hx hb dn_Grammar_arm_132 rfl (lv_at hl 0 rfl) ?_
    refine lv_sipush (v := 201) hx hb dn_Grammar_arm_133 (by decide) ?_
    obtain ⟨q_5, hc_6, hf⟩ := dc_b hf
    refine dc_callv (dc_runV (ar := 1) (As := [.int 201]) (rest := []) (ci := 6) (q0 := 5) ⟨hx, hb, hml, hown, hg⟩ hK hN hT hS hA (ct_Grammar_goOnIn_Gr l dC dI cI cB cJ cZ cQ N H.size a v 201 q_3.2 q_5 hc_6) hP hD rfl rfl wn_5_149 wn_5_151 sn_Grammar_goOnIn wn_1_5 wn_5_152 rfl rfl (by decide +kernel) ⟨Nat.le_of_ble_eq_true rfl, Nat.le_of_ble_eq_true rfl⟩ rfl hl.1 rfl (Nat.le_of_ble_eq_true rfl) dn_Grammar_arm_136 ⟨Nat.le_of_ble_eq_true rfl, Nat.le_of_ble_eq_true rfl⟩) hP hD hS hA (fun _ H locs hw hP hD hS => ?_)
    refine lv_aload_n hx hb dn_Grammar_arm_139 rfl (lv_at hl 0 rfl) ?_
    refine lv_iconst (v := 4) hx hb dn_Grammar_arm_140 (by decide) ?_
    refine va_put (D := (dC, dI)) (ci := 6) (v := .int 4) (ty := .int) (C := rn_Grammar) (T := fn_Grammar) (N := 15) hx hb hg in_Grammar tn_Grammar tk_Grammar nn_Grammar hown hK hP hD hS 5 rfl rfl 3 (by decide) (hg _ wn_2_3) (fun _ h9 => h9) rfl (tk_Grammar 3 (by decide)) rfl rfl (Nat.le_of_ble_eq_true rfl) dn_Grammar_arm_141 (fun H locs hP hD hS => ?_)
    have hP := wC_P_264 hP
    have hD := wC_D_264 hD
    refine lv_goto (tgt := 195) hx hb dn_Grammar_arm_144 (by decide) ?_
    rw [hQQ, ← Option.some.inj hf]
    exact xk_vret (w1 := fun u : Unit => (wC a v cI cB cJ cZ cQ (upI q_5.2 264 (fun _ => 4)))) () hx hb hr hlocks hK hS dn_Grammar_arm_195 hP hD trivial (Nat.le_refl _) (Nat.le_refl _)
  have bl_103 : ∀ (k_41 : Int32 → ms → Option (Unit × ms)) (hk_41 : ∀ (x1 : Int32) (s : ms), k_41 x1 s = some y → dcC p l e ({ frames := 4, cells := 0, slots := 0, locals := 105 }) s0 m [.ref ((a 105))].toArray below meth c QQ (dC, dI) A (wC a v cI cB cJ cZ cQ s) 41 2 [(0, .ref ((a 105))), (1, .int x1)] []) (x1 : Int32) (s : ms), bk_Grammar_arm_Gr_103 N k_41 x1 s = some y → dcC p l e ({ frames := 4, cells := 0, slots := 0, locals := 105 }) s0 m [.ref ((a 105))].toArray below meth c QQ (dC, dI) A (wC a v cI cB cJ cZ cQ s) 103 2 [(0, .ref ((a 105))), (1, .int x1)] [] := by
    intro k_41 hk_41 x1 s hf H locs ls hP hD hS hl
    unfold bk_Grammar_arm_Gr_103 at hf
    refine lv_aload_n hx hb dn_Grammar_arm_103 rfl (lv_at hl 0 rfl) ?_
    refine va_get (D := (dC, dI)) (ci := 6) (v := .ref ((a 101))) (C := rn_Grammar) (T := fn_Grammar) (N := 15) hx hb hg in_Grammar hown hK hP 5 rfl rfl 0 (by decide) (hg _ wn_2_0) (fun _ h9 => h9) rfl dn_Grammar_arm_104 ?_
    obtain ⟨q_1, hc_2, hf⟩ := dc_b hf
    refine dc_callv (dc_runV (ar := 0) (As := []) (rest := []) (ci := 2) (q0 := 1) ⟨hx, hb, hml, hown, hg⟩ hK hN hT hS hA (ct_Tokens_take_Tk l dC dI cI cB cJ cZ cQ N H.size a v s q_1 hc_2) hP hD rfl rfl wn_4_213 wn_4_149 wn_4_150 wn_1_2 wn_4_151 rfl rfl (by decide +kernel) ⟨Nat.le_of_ble_eq_true rfl, Nat.le_of_ble_eq_true rfl⟩ rfl hl.1 rfl (Nat.le_of_ble_eq_true rfl) dn_Grammar_arm_107 ⟨Nat.le_of_ble_eq_true rfl, Nat.le_of_ble_eq_true rfl⟩) hP hD hS hA (fun _ H locs hw hP hD hS => ?_)
    refine lv_iinc (v := (x1 + 1)) (lv' := [(1, .int ((x1 + 1))), (0, .ref ((a 105)))]) hx hb dn_Grammar_arm_110 hl (k := 1) rfl (dc_inc (by decide)) (by decide) rfl (fun ls hl => ?_)
    refine lv_goto (tgt := 41) hx hb dn_Grammar_arm_113 (by decide) ?_
    exact hk_41 ((x1 + 1)) q_1.2 hf H locs ls hP hD hS (lv_sub hl [1, 0] rfl)
  have hd_41 : ∀ (n : Nat) (x1 : Int32) (s : ms), hd_Grammar_arm_Gr_41 N n x1 s = some y → dcC p l e ({ frames := 4, cells := 0, slots := 0, locals := 105 }) s0 m [.ref ((a 105))].toArray below meth c QQ (dC, dI) A (wC a v cI cB cJ cZ cQ s) 41 2 [(0, .ref ((a 105))), (1, .int x1)] [] := by
    intro n
    induction n with
    | zero => intro x1 s hf; cases hf
    | succ n ih =>
      intro x1 s hf H locs ls hP hD hS hl
      have hf : bd_Grammar_arm_Gr_41 N (hd_Grammar_arm_Gr_41 N n) x1 s = some y := hf
      have hk_41 := ih
      generalize hd_Grammar_arm_Gr_41 N n = k_41 at hf hk_41
      unfold bd_Grammar_arm_Gr_41 at hf
      refine lv_iload_n hx hb dn_Grammar_arm_41 rfl (lv_at hl 1 rfl) ?_
      refine lv_aload_n hx hb dn_Grammar_arm_42 rfl (lv_at hl 0 rfl) ?_
      refine va_get (D := (dC, dI)) (ci := 6) (v := .ref ((a 101))) (C := rn_Grammar) (T := fn_Grammar) (N := 15) hx hb hg in_Grammar hown hK hP 5 rfl rfl 0 (by decide) (hg _ wn_2_0) (fun _ h9 => h9) rfl dn_Grammar_arm_43 ?_
      refine va_get (D := (dC, dI)) (ci := 2) (v := .int ((s.1 212 0))) (C := rn_Tokens) (T := fn_Tokens) (N := 9) hx hb hg in_Tokens hown hK hP 1 rfl rfl 1 (by decide) (hg _ wn_1_47) (fun _ h9 => h9) rfl dn_Grammar_arm_46 ?_
      refine lv_icmp_ge (tgt := 116) hx hb dn_Grammar_arm_49 (by decide) (fun h => ?_) (fun h => ?_)
      · have hf := (if_pos h).symm.trans hf
        exact bl_116 s hf H locs ls hP hD hS (lv_sub hl [0] rfl)
      · have hf := (if_neg h).symm.trans hf
        refine lv_aload_n hx hb dn_Grammar_arm_52 rfl (lv_at hl 0 rfl) ?_
        refine va_get (D := (dC, dI)) (ci := 6) (v := .ref ((a 101))) (C := rn_Grammar) (T := fn_Grammar) (N := 15) hx hb hg in_Grammar hown hK hP 5 rfl rfl 0 (by decide) (hg _ wn_2_0) (fun _ h9 => h9) rfl dn_Grammar_arm_53 ?_
        refine va_get (D := (dC, dI)) (ci := 2) (v := .int ((s.1 214 0))) (C := rn_Tokens) (T := fn_Tokens) (N := 9) hx hb hg in_Tokens hown hK hP 1 rfl rfl 3 (by decide) (hg _ wn_1_50) (fun _ h9 => h9) rfl dn_Grammar_arm_56 ?_
        refine lv_bipush (v := 44) hx hb dn_Grammar_arm_59 (by decide) ?_
        refine lv_icmp_ne (tgt := 116) hx hb dn_Grammar_arm_61 (by decide) (fun h => ?_) (fun h => ?_)
        · have hf := (if_neg h).symm.trans hf
          exact bl_116 s hf H locs ls hP hD hS (lv_sub hl [0] rfl)
        · have hf := (if_pos h).symm.trans hf
          refine lv_aload_n hx hb dn_Grammar_arm_64 rfl (lv_at hl 0 rfl) ?_
          refine va_get (D := (dC, dI)) (ci := 6) (v := .ref ((a 101))) (C := rn_Grammar) (T := fn_Grammar) (N := 15) hx hb hg in_Grammar hown hK hP 5 rfl rfl 0 (by decide) (hg _ wn_2_0) (fun _ h9 => h9) rfl dn_Grammar_arm_65 ?_
          obtain ⟨q_1, hc_2, hf⟩ := dc_b hf
          refine dc_callv (dc_runV (ar := 0) (As := []) (rest := []) (ci := 2) (q0 := 1) ⟨hx, hb, hml, hown, hg⟩ hK hN hT hS hA (ct_Tokens_take_Tk l dC dI cI cB cJ cZ cQ N H.size a v s q_1 hc_2) hP hD rfl rfl wn_4_213 wn_4_149 wn_4_150 wn_1_2 wn_4_151 rfl rfl (by decide +kernel) ⟨Nat.le_of_ble_eq_true rfl, Nat.le_of_ble_eq_true rfl⟩ rfl hl.1 rfl (Nat.le_of_ble_eq_true rfl) dn_Grammar_arm_68 ⟨Nat.le_of_ble_eq_true rfl, Nat.le_of_ble_eq_true rfl⟩) hP hD hS hA (fun _ H locs hw hP hD hS => ?_)
          refine lv_aload_n hx hb dn_Grammar_arm_71 rfl (lv_at hl 0 rfl) ?_
          refine va_get (D := (dC, dI)) (ci := 6) (v := .ref ((a 101))) (C := rn_Grammar) (T := fn_Grammar) (N := 15) hx hb hg in_Grammar hown hK hP 5 rfl rfl 0 (by decide) (hg _ wn_2_0) (fun _ h9 => h9) rfl dn_Grammar_arm_72 ?_
          refine lv_iconst (v := 4) hx hb dn_Grammar_arm_75 (by decide) ?_
          obtain ⟨q_3, hc_4, hf⟩ := dc_b hf
          refine dc_calli (dc_runV (ar := 1) (As := [.int 4]) (rest := []) (ci := 2) (q0 := 1) ⟨hx, hb, hml, hown, hg⟩ hK hN hT hS hA (ct_Tokens_due_Tk l dC dI cI cB cJ cZ cQ N H.size a v 4 q_1.2 q_3 hc_4) hP hD rfl rfl wn_4_185 wn_4_186 wn_4_187 wn_1_2 wn_4_188 rfl rfl (by decide +kernel) ⟨Nat.le_of_ble_eq_true rfl, Nat.le_of_ble_eq_true rfl⟩ rfl hl.1 rfl (Nat.le_of_ble_eq_true rfl) dn_Grammar_arm_76 ⟨Nat.le_of_ble_eq_true rfl, Nat.le_of_ble_eq_true rfl⟩) hP hD hS hA (fun r_5 _ H locs hw hP hD hS => ?_)
          have hw : r_5 = q_3.1 := hw
          subst hw
          refine lv_if_eq (tgt := 103) hx hb dn_Grammar_arm_79 (by decide) (fun h => ?_) (fun h => ?_)
          · have hf := (if_pos h).symm.trans hf
            exact bl_103 k_41 hk_41 x1 q_3.2 hf H locs ls hP hD hS hl
          · have hf := (if_neg h).symm.trans hf
            refine lv_aload_n hx hb dn_Grammar_arm_82 rfl (lv_at hl 0 rfl) ?_
            refine va_get (D := (dC, dI)) (ci := 6) (v := .ref ((a 104))) (C := rn_Grammar) (T := fn_Grammar) (N := 15) hx hb hg in_Grammar hown hK hP 5 rfl rfl 2 (by decide) (hg _ wn_2_2) (fun _ h9 => h9) rfl dn_Grammar_arm_83 ?_
            refine lv_aload_n hx hb dn_Grammar_arm_86 rfl (lv_at hl 0 rfl) ?_
            refine va_get (D := (dC, dI)) (ci := 6) (v := .ref ((a 101))) (C := rn_Grammar) (T := fn_Grammar) (N := 15) hx hb hg in_Grammar hown hK hP 5 rfl rfl 0 (by decide) (hg _ wn_2_0) (fun _ h9 => h9) rfl dn_Grammar_arm_87 ?_
            refine va_get (D := (dC, dI)) (ci := 2) (v := .int ((q_3.2.1 216 0))) (C := rn_Tokens) (T := fn_Tokens) (N := 9) hx hb hg in_Tokens hown hK hP 1 rfl rfl 5 (by decide) (hg _ wn_1_54) (fun _ h9 => h9) rfl dn_Grammar_arm_90 ?_
            refine lv_aload_n hx hb dn_Grammar_arm_93 rfl (lv_at hl 0 rfl) ?_
            refine va_get (D := (dC, dI)) (ci := 6) (v := .ref ((a 101))) (C := rn_Grammar) (T := fn_Grammar) (N := 15) hx hb hg in_Grammar hown hK hP 5 rfl rfl 0 (by decide) (hg _ wn_2_0) (fun _ h9 => h9) rfl dn_Grammar_arm_94 ?_
            refine va_get (D := (dC, dI)) (ci := 2) (v := .int ((q_3.2.1 215 0))) (C := rn_Tokens) (T := fn_Tokens) (N := 9) hx hb hg in_Tokens hown hK hP 1 rfl rfl 4 (by decide) (hg _ wn_1_52) (fun _ h9 => h9) rfl dn_Grammar_arm_97 ?_
            obtain ⟨q_6, hc_7, hf⟩ := dc_b hf
            refine dc_callv (dc_runV (ar := 2) (As := [.int ((q_3.2.1 216 0)), .int ((q_3.2.1 215 0))]) (rest := []) (ci := 5) (q0 := 4) ⟨hx, hb, hml, hown, hg⟩ hK hN hT hS hA (ct_Meaning_label_Me l dC dI cI cB cJ cZ cQ N H.size a v hv_6 ((q_3.2.1 216 0)) ((q_3.2.1 215 0)) q_3.2 q_6 hc_7) hP hD rfl rfl wn_5_223 wn_5_224 wn_5_225 wn_1_6 wn_5_226 rfl rfl (by decide +kernel) ⟨Nat.le_of_ble_eq_true rfl, Nat.le_of_ble_eq_true rfl⟩ rfl hl.1 rfl (Nat.le_of_ble_eq_true rfl) dn_Grammar_arm_100 ⟨Nat.le_of_ble_eq_true rfl, Nat.le_of_ble_eq_true rfl⟩) hP hD hS hA (fun _ H locs hw hP hD hS => ?_)
            exact bl_103 k_41 hk_41 x1 q_6.2 hf H locs ls hP hD hS hl
  intro H locs ls hP hD hS hl
  unfold fn_Grammar_arm_Gr at hf
  refine lv_aload_n hx hb dn_Grammar_arm_0 rfl (lv_at hl 0 rfl) ?_
  refine va_get (D := (dC, dI)) (ci := 6) (v := .ref ((a 101))) (C := rn_Grammar) (T := fn_Grammar) (N := 15) hx hb hg in_Grammar hown hK hP 5 rfl rfl 0 (by decide) (hg _ wn_2_0) (fun _ h9 => h9) rfl dn_Grammar_arm_1 ?_
  refine va_get (D := (dC, dI)) (ci := 2) (v := .int ((s.1 214 0))) (C := rn_Tokens) (T := fn_Tokens) (N := 9) hx hb hg in_Tokens hown hK hP 1 rfl rfl 3 (by decide) (hg _ wn_1_50) (fun _ h9 => h9) rfl dn_Grammar_arm_4 ?_
  refine lv_iconst (v := 4) hx hb dn_Grammar_arm_7 (by decide) ?_
  refine lv_icmp_ne (tgt := 147) hx hb dn_Grammar_arm_8 (by decide) (fun h => ?_) (fun h => ?_)
  · have hf := (if_neg h).symm.trans hf
    refine lv_aload_n hx hb dn_Grammar_arm_147 rfl (lv_at hl 0 rfl) ?_
    refine va_get (D := (dC, dI)) (ci := 6) (v := .ref ((a 101))) (C := rn_Grammar) (T := fn_Grammar) (N := 15) hx hb hg in_Grammar hown hK hP 5 rfl rfl 0 (by decide) (hg _ wn_2_0) (fun _ h9 => h9) rfl dn_Grammar_arm_148 ?_
    refine va_get (D := (dC, dI)) (ci := 2) (v := .int ((s.1 214 0))) (C := rn_Tokens) (T := fn_Tokens) (N := 9) hx hb hg in_Tokens hown hK hP 1 rfl rfl 3 (by decide) (hg _ wn_1_50) (fun _ h9 => h9) rfl dn_Grammar_arm_151 ?_
    refine lv_sipush (v := 144) hx hb dn_Grammar_arm_154 (by decide) ?_
    refine lv_icmp_ne (tgt := 191) hx hb dn_Grammar_arm_157 (by decide) (fun h => ?_) (fun h => ?_)
    · have hf := (if_neg h).symm.trans hf
      refine lv_aload_n hx hb dn_Grammar_arm_191 rfl (lv_at hl 0 rfl) ?_
      obtain ⟨q_1, hc_2, hf⟩ := dc_b hf
      refine dc_callv (dc_runV (ar := 0) (As := []) (rest := []) (ci := 6) (q0 := 5) ⟨hx, hb, hml, hown, hg⟩ hK hN hT hS hA (ct_Grammar_caseEnd_Gr l dC dI cI cB cJ cZ cQ N H.size a v hv_6 s q_1 hc_2) hP hD rfl rfl wn_6_5 wn_6_7 sn_Grammar_caseEnd wn_1_5 wn_6_8 rfl rfl (by decide +kernel) ⟨Nat.le_of_ble_eq_true rfl, Nat.le_of_ble_eq_true rfl⟩ rfl hl.1 rfl (Nat.le_of_ble_eq_true rfl) dn_Grammar_arm_192 ⟨Nat.le_of_ble_eq_true rfl, Nat.le_of_ble_eq_true rfl⟩) hP hD hS hA (fun _ H locs hw hP hD hS => ?_)
      rw [hQQ, ← Option.some.inj hf]
      exact xk_vret (w1 := fun u : Unit => (wC a v cI cB cJ cZ cQ q_1.2)) () hx hb hr hlocks hK hS dn_Grammar_arm_195 hP hD trivial (Nat.le_refl _) (Nat.le_refl _)
    · have hf := (if_pos h).symm.trans hf
      refine lv_aload_n hx hb dn_Grammar_arm_160 rfl (lv_at hl 0 rfl) ?_
      refine va_get (D := (dC, dI)) (ci := 6) (v := .ref ((a 101))) (C := rn_Grammar) (T := fn_Grammar) (N := 15) hx hb hg in_Grammar hown hK hP 5 rfl rfl 0 (by decide) (hg _ wn_2_0) (fun _ h9 => h9) rfl dn_Grammar_arm_161 ?_
      obtain ⟨q_1, hc_2, hf⟩ := dc_b hf
      refine dc_callv (dc_runV (ar := 0) (As := []) (rest := []) (ci := 2) (q0 := 1) ⟨hx, hb, hml, hown, hg⟩ hK hN hT hS hA (ct_Tokens_take_Tk l dC dI cI cB cJ cZ cQ N H.size a v s q_1 hc_2) hP hD rfl rfl wn_4_213 wn_4_149 wn_4_150 wn_1_2 wn_4_151 rfl rfl (by decide +kernel) ⟨Nat.le_of_ble_eq_true rfl, Nat.le_of_ble_eq_true rfl⟩ rfl hl.1 rfl (Nat.le_of_ble_eq_true rfl) dn_Grammar_arm_164 ⟨Nat.le_of_ble_eq_true rfl, Nat.le_of_ble_eq_true rfl⟩) hP hD hS hA (fun _ H locs hw hP hD hS => ?_)
      refine lv_aload_n hx hb dn_Grammar_arm_167 rfl (lv_at hl 0 rfl) ?_
      refine va_get (D := (dC, dI)) (ci := 6) (v := .ref ((a 101))) (C := rn_Grammar) (T := fn_Grammar) (N := 15) hx hb hg in_Grammar hown hK hP 5 rfl rfl 0 (by decide) (hg _ wn_2_0) (fun _ h9 => h9) rfl dn_Grammar_arm_168 ?_
      refine lv_bipush (v := 58) hx hb dn_Grammar_arm_171 (by decide) ?_
      obtain ⟨q_3, hc_4, hf⟩ := dc_b hf
      refine dc_callv (dc_runV (ar := 1) (As := [.int 58]) (rest := []) (ci := 2) (q0 := 1) ⟨hx, hb, hml, hown, hg⟩ hK hN hT hS hA (ct_Tokens_need_Tk l dC dI cI cB cJ cZ cQ N H.size a v 58 q_1.2 q_3 hc_4) hP hD rfl rfl wn_4_173 wn_4_174 wn_4_175 wn_1_2 wn_4_176 rfl rfl (by decide +kernel) ⟨Nat.le_of_ble_eq_true rfl, Nat.le_of_ble_eq_true rfl⟩ rfl hl.1 rfl (Nat.le_of_ble_eq_true rfl) dn_Grammar_arm_173 ⟨Nat.le_of_ble_eq_true rfl, Nat.le_of_ble_eq_true rfl⟩) hP hD hS hA (fun _ H locs hw hP hD hS => ?_)
      refine lv_aload_n hx hb dn_Grammar_arm_176 rfl (lv_at hl 0 rfl) ?_
      refine lv_sipush (v := 144) hx hb dn_Grammar_arm_177 (by decide) ?_
      obtain ⟨q_5, hc_6, hf⟩ := dc_b hf
      refine dc_callv (dc_runV (ar := 1) (As := [.int 144]) (rest := []) (ci := 6) (q0 := 5) ⟨hx, hb, hml, hown, hg⟩ hK hN hT hS hA (ct_Grammar_goOnIn_Gr l dC dI cI cB cJ cZ cQ N H.size a v 144 q_3.2 q_5 hc_6) hP hD rfl rfl wn_5_149 wn_5_151 sn_Grammar_goOnIn wn_1_5 wn_5_152 rfl rfl (by decide +kernel) ⟨Nat.le_of_ble_eq_true rfl, Nat.le_of_ble_eq_true rfl⟩ rfl hl.1 rfl (Nat.le_of_ble_eq_true rfl) dn_Grammar_arm_180 ⟨Nat.le_of_ble_eq_true rfl, Nat.le_of_ble_eq_true rfl⟩) hP hD hS hA (fun _ H locs hw hP hD hS => ?_)
      refine lv_aload_n hx hb dn_Grammar_arm_183 rfl (lv_at hl 0 rfl) ?_
      refine lv_iconst (v := 4) hx hb dn_Grammar_arm_184 (by decide) ?_
      refine va_put (D := (dC, dI)) (ci := 6) (v := .int 4) (ty := .int) (C := rn_Grammar) (T := fn_Grammar) (N := 15) hx hb hg in_Grammar tn_Grammar tk_Grammar nn_Grammar hown hK hP hD hS 5 rfl rfl 3 (by decide) (hg _ wn_2_3) (fun _ h9 => h9) rfl (tk_Grammar 3 (by decide)) rfl rfl (Nat.le_of_ble_eq_true rfl) dn_Grammar_arm_185 (fun H locs hP hD hS => ?_)
      have hP := wC_P_264 hP
      have hD := wC_D_264 hD
      refine lv_goto (tgt := 195) hx hb dn_Grammar_arm_188 (by decide) ?_
      rw [hQQ, ← Option.some.inj hf]
      exact xk_vret (w1 := fun u : Unit => (wC a v cI cB cJ cZ cQ (upI q_5.2 264 (fun _ => 4)))) () hx hb hr hlocks hK hS dn_Grammar_arm_195 hP hD trivial (Nat.le_refl _) (Nat.le_refl _)
  · have hf := (if_pos h).symm.trans hf
    refine lv_aload_n hx hb dn_Grammar_arm_11 rfl (lv_at hl 0 rfl) ?_
    refine va_get (D := (dC, dI)) (ci := 6) (v := .ref ((a 104))) (C := rn_Grammar) (T := fn_Grammar) (N := 15) hx hb hg in_Grammar hown hK hP 5 rfl rfl 2 (by decide) (hg _ wn_2_2) (fun _ h9 => h9) rfl dn_Grammar_arm_12 ?_
    refine lv_aload_n hx hb dn_Grammar_arm_15 rfl (lv_at hl 0 rfl) ?_
    refine va_get (D := (dC, dI)) (ci := 6) (v := .ref ((a 101))) (C := rn_Grammar) (T := fn_Grammar) (N := 15) hx hb hg in_Grammar hown hK hP 5 rfl rfl 0 (by decide) (hg _ wn_2_0) (fun _ h9 => h9) rfl dn_Grammar_arm_16 ?_
    refine va_get (D := (dC, dI)) (ci := 2) (v := .int ((s.1 216 0))) (C := rn_Tokens) (T := fn_Tokens) (N := 9) hx hb hg in_Tokens hown hK hP 1 rfl rfl 5 (by decide) (hg _ wn_1_54) (fun _ h9 => h9) rfl dn_Grammar_arm_19 ?_
    refine lv_aload_n hx hb dn_Grammar_arm_22 rfl (lv_at hl 0 rfl) ?_
    refine va_get (D := (dC, dI)) (ci := 6) (v := .ref ((a 101))) (C := rn_Grammar) (T := fn_Grammar) (N := 15) hx hb hg in_Grammar hown hK hP 5 rfl rfl 0 (by decide) (hg _ wn_2_0) (fun _ h9 => h9) rfl dn_Grammar_arm_23 ?_
    refine va_get (D := (dC, dI)) (ci := 2) (v := .int ((s.1 215 0))) (C := rn_Tokens) (T := fn_Tokens) (N := 9) hx hb hg in_Tokens hown hK hP 1 rfl rfl 4 (by decide) (hg _ wn_1_52) (fun _ h9 => h9) rfl dn_Grammar_arm_26 ?_
    obtain ⟨q_1, hc_2, hf⟩ := dc_b hf
    refine dc_callv (dc_runV (ar := 2) (As := [.int ((s.1 216 0)), .int ((s.1 215 0))]) (rest := []) (ci := 5) (q0 := 4) ⟨hx, hb, hml, hown, hg⟩ hK hN hT hS hA (ct_Meaning_label_Me l dC dI cI cB cJ cZ cQ N H.size a v hv_6 ((s.1 216 0)) ((s.1 215 0)) s q_1 hc_2) hP hD rfl rfl wn_5_223 wn_5_224 wn_5_225 wn_1_6 wn_5_226 rfl rfl (by decide +kernel) ⟨Nat.le_of_ble_eq_true rfl, Nat.le_of_ble_eq_true rfl⟩ rfl hl.1 rfl (Nat.le_of_ble_eq_true rfl) dn_Grammar_arm_29 ⟨Nat.le_of_ble_eq_true rfl, Nat.le_of_ble_eq_true rfl⟩) hP hD hS hA (fun _ H locs hw hP hD hS => ?_)
    refine lv_aload_n hx hb dn_Grammar_arm_32 rfl (lv_at hl 0 rfl) ?_
    refine va_get (D := (dC, dI)) (ci := 6) (v := .ref ((a 101))) (C := rn_Grammar) (T := fn_Grammar) (N := 15) hx hb hg in_Grammar hown hK hP 5 rfl rfl 0 (by decide) (hg _ wn_2_0) (fun _ h9 => h9) rfl dn_Grammar_arm_33 ?_
    obtain ⟨q_3, hc_4, hf⟩ := dc_b hf
    refine dc_callv (dc_runV (ar := 0) (As := []) (rest := []) (ci := 2) (q0 := 1) ⟨hx, hb, hml, hown, hg⟩ hK hN hT hS hA (ct_Tokens_take_Tk l dC dI cI cB cJ cZ cQ N H.size a v q_1.2 q_3 hc_4) hP hD rfl rfl wn_4_213 wn_4_149 wn_4_150 wn_1_2 wn_4_151 rfl rfl (by decide +kernel) ⟨Nat.le_of_ble_eq_true rfl, Nat.le_of_ble_eq_true rfl⟩ rfl hl.1 rfl (Nat.le_of_ble_eq_true rfl) dn_Grammar_arm_36 ⟨Nat.le_of_ble_eq_true rfl, Nat.le_of_ble_eq_true rfl⟩) hP hD hS hA (fun _ H locs hw hP hD hS => ?_)
    refine lv_iconst (v := 0) hx hb dn_Grammar_arm_39 (by decide) ?_
    refine lv_istore_n (lv' := [(1, .int 0), (0, .ref ((a 105)))]) hx hb dn_Grammar_arm_40 rfl hl (by decide) rfl (fun ls hl => ?_)
    exact hd_41 N 0 q_3.2 hf H locs ls hP hD hS (lv_sub hl [1, 0] rfl)
set_option maxHeartbeats 8000000 in
set_option maxRecDepth 100000 in
theorem ct_Meaning_armEnd_Me (l : Launch) (dC : Nat → ClassId) (dI : Nat → Nat → Nat) (cI cB cJ cZ cQ : ClassId) (N sz : Nat) (a : Nat → Nat) (v : Nat → Value) (hv_6 : v 6 = .ref (a 111)) (s : ms) (y : (Unit × ms)) (hf : fn_Meaning_armEnd_Me N s = some y) : Met l yn_Meaning_armEnd (xw yn_Meaning_armEnd bn_Meaning_armEnd 1 none) ({ frames := 1, cells := 0, slots := 0, locals := 22 }) (dc_P (dC, dI) xcl (xt cI cB cJ cZ cQ) [.ref ((a 104))] sz (wC a v cI cB cJ cZ cQ s)) (xk_Qv (dC, dI) xcl (xt cI cB cJ cZ cQ) (fun _ : Unit => True) (fun u : Unit => (wC a v cI cB cJ cZ cQ y.2)) (va_A (wC a v cI cB cJ cZ cQ s) sz)) 0 0 (va_A (wC a v cI cB cJ cZ cQ s) sz) := by
  refine dc_of (QA := xk_Qv (dC, dI) xcl (xt cI cB cJ cZ cQ) (fun _ : Unit => True) (fun u : Unit => (wC a v cI cB cJ cZ cQ y.2))) (by decide) (Nat.le_of_ble_eq_true rfl) ?_
  intro p e s0 m below meth c hx hb hml hown hg hr hlocks hin hP hK hN A hA hD hT ls hl
  have hown : s0.vm.findClass rn_Meaning = some m.cls := hown
  obtain ⟨H, hH⟩ : ∃ z, z = s0.heap := ⟨_, rfl⟩
  rw [← hH] at hP
  have hS : va_S A s0.heap H [] := by rw [hH]; exact va_S.rf
  suffices kk : ∀ QQ : State → Prop, QQ = MQ below (xk_Qv (dC, dI) xcl (xt cI cB cJ cZ cQ) (fun _ : Unit => True) (fun u : Unit => (wC a v cI cB cJ cZ cQ y.2)) A) [.ref ((a 104))].toArray s0 0 0 A → dcC p l e ({ frames := 1, cells := 0, slots := 0, locals := 22 }) s0 m [.ref ((a 104))].toArray below meth c QQ (dC, dI) A (wC a v cI cB cJ cZ cQ s) 0 1 [(0, .ref ((a 104)))] [] by
    have k9 := kk _ rfl H [] ls hP hD hS hl
    rw [hH] at k9; exact k9
  clear hP hD hS hl hH H ls
  intro QQ hQQ
  intro H locs ls hP hD hS hl
  unfold fn_Meaning_armEnd_Me at hf
  refine lv_aload_n hx hb dn_Meaning_armEnd_0 rfl (lv_at hl 0 rfl) ?_
  refine va_get (D := (dC, dI)) (ci := 5) (v := .ref ((a 103))) (C := rn_Meaning) (T := fn_Meaning) (N := 17) hx hb hg in_Meaning hown hK hP 4 rfl rfl 0 (by decide) (hg _ wn_1_184) (fun _ h9 => h9) rfl dn_Meaning_armEnd_1 ?_
  obtain ⟨q_1, hc_2, hf⟩ := dc_b hf
  refine dc_calli (dc_runV (ar := 0) (As := []) (rest := []) (ci := 4) (q0 := 3) ⟨hx, hb, hml, hown, hg⟩ hK hN hT hS hA (ct_Checker_isOff_Ch l dC dI cI cB cJ cZ cQ N H.size a v s q_1 hc_2) hP hD rfl rfl wn_4_193 wn_4_194 wn_4_195 wn_1_4 wn_4_196 rfl rfl (by decide +kernel) ⟨Nat.le_of_ble_eq_true rfl, Nat.le_of_ble_eq_true rfl⟩ rfl hl.1 rfl (Nat.le_of_ble_eq_true rfl) dn_Meaning_armEnd_4 ⟨Nat.le_of_ble_eq_true rfl, Nat.le_of_ble_eq_true rfl⟩) hP hD hS hA (fun r_3 _ H locs hw hP hD hS => ?_)
  have hw : r_3 = q_1.1 := hw
  subst hw
  refine lv_if_ne (tgt := 17) hx hb dn_Meaning_armEnd_7 (by decide) (fun h => ?_) (fun h => ?_)
  · have hf := (if_neg h).symm.trans hf
    rw [hQQ, ← Option.some.inj hf]
    exact xk_vret (w1 := fun u : Unit => (wC a v cI cB cJ cZ cQ q_1.2)) () hx hb hr hlocks hK hS dn_Meaning_armEnd_17 hP hD trivial (Nat.le_refl _) (Nat.le_refl _)
  · have hf := (if_pos h).symm.trans hf
    refine lv_aload_n hx hb dn_Meaning_armEnd_10 rfl (lv_at hl 0 rfl) ?_
    refine va_get (D := (dC, dI)) (ci := 5) (v := .int ((q_1.2.1 260 0))) (C := rn_Meaning) (T := fn_Meaning) (N := 17) hx hb hg in_Meaning hown hK hP 4 rfl rfl 16 (by decide) (hg _ wn_1_200) (fun _ h9 => h9) rfl dn_Meaning_armEnd_11 ?_
    refine lv_if_ne (tgt := 18) hx hb dn_Meaning_armEnd_14 (by decide) (fun h => ?_) (fun h => ?_)
    · have hf := (if_neg h).symm.trans hf
      refine lv_aload_n hx hb dn_Meaning_armEnd_18 rfl (lv_at hl 0 rfl) ?_
      refine va_get (D := (dC, dI)) (ci := 5) (v := .ref ((a 257))) (C := rn_Meaning) (T := fn_Meaning) (N := 17) hx hb hg in_Meaning hown hK hP 4 rfl rfl 13 (by decide) (hg _ wn_1_197) (fun _ h9 => h9) rfl dn_Meaning_armEnd_19 ?_
      refine lv_aload_n hx hb dn_Meaning_armEnd_22 rfl (lv_at hl 0 rfl) ?_
      refine va_get (D := (dC, dI)) (ci := 5) (v := .int ((q_1.2.1 260 0))) (C := rn_Meaning) (T := fn_Meaning) (N := 17) hx hb hg in_Meaning hown hK hP 4 rfl rfl 16 (by decide) (hg _ wn_1_200) (fun _ h9 => h9) rfl dn_Meaning_armEnd_23 ?_
      refine lv_iconst (v := 1) hx hb dn_Meaning_armEnd_26 (by decide) ?_
      refine lv_isub hx hb dn_Meaning_armEnd_27 ?_
      refine lv_aload_n hx hb dn_Meaning_armEnd_28 rfl (lv_at hl 0 rfl) ?_
      refine va_get (D := (dC, dI)) (ci := 5) (v := .ref ((a 111))) (C := rn_Meaning) (T := fn_Meaning) (N := 17) hx hb hg in_Meaning hown hK hP 4 rfl rfl 3 (by decide) (hg _ wn_1_187) (fun _ h9 => h9) (congrArg some hv_6) dn_Meaning_armEnd_29 ?_
      refine lv_sipush (v := 517) hx hb dn_Meaning_armEnd_32 (by decide) ?_
      refine lv_aload_n hx hb dn_Meaning_armEnd_35 rfl (lv_at hl 0 rfl) ?_
      refine va_get (D := (dC, dI)) (ci := 5) (v := .ref ((a 257))) (C := rn_Meaning) (T := fn_Meaning) (N := 17) hx hb hg in_Meaning hown hK hP 4 rfl rfl 13 (by decide) (hg _ wn_1_197) (fun _ h9 => h9) rfl dn_Meaning_armEnd_36 ?_
      refine lv_aload_n hx hb dn_Meaning_armEnd_39 rfl (lv_at hl 0 rfl) ?_
      refine va_get (D := (dC, dI)) (ci := 5) (v := .int ((q_1.2.1 260 0))) (C := rn_Meaning) (T := fn_Meaning) (N := 17) hx hb hg in_Meaning hown hK hP 4 rfl rfl 16 (by decide) (hg _ wn_1_200) (fun _ h9 => h9) rfl dn_Meaning_armEnd_40 ?_
      refine lv_iconst (v := 1) hx hb dn_Meaning_armEnd_43 (by decide) ?_
      refine lv_isub hx hb dn_Meaning_armEnd_44 ?_
      obtain ⟨hg_4, hf⟩ := dc_g hf
      refine va_iald hx hb hK hP 27 0 rfl rfl hg_4 dn_Meaning_armEnd_45 ?_
      refine xk_ti (y := ((q_1.2.1 257) (Int32.toNatClampNeg (((q_1.2.1 260 0) - 1))))) rfl ?_
      obtain ⟨q_5, hc_6, hf⟩ := dc_b hf
      refine dc_calli (dc_runV (ar := 2) (As := [.int 517, .int (((q_1.2.1 257) (Int32.toNatClampNeg (((q_1.2.1 260 0) - 1)))))]) (rest := [.int (((q_1.2.1 260 0) - 1)), .ref ((a 257))]) (ci := 12) (q0 := 11) ⟨hx, hb, hml, hown, hg⟩ hK hN hT hS hA (ct_Code_emit_Ks l dC dI cI cB cJ cZ cQ N H.size a v 517 (((q_1.2.1 257) (Int32.toNatClampNeg (((q_1.2.1 260 0) - 1))))) q_1.2 q_5 hc_6) hP hD rfl rfl wn_5_197 wn_5_198 wn_5_199 wn_1_12 wn_5_200 rfl rfl (by decide +kernel) ⟨Nat.le_of_ble_eq_true rfl, Nat.le_of_ble_eq_true rfl⟩ rfl hl.1 rfl (Nat.le_of_ble_eq_true rfl) dn_Meaning_armEnd_46 ⟨Nat.le_of_ble_eq_true rfl, Nat.le_of_ble_eq_true rfl⟩) hP hD hS hA (fun r_7 _ H locs hw hP hD hS => ?_)
      have hw : r_7 = q_5.1 := hw
      subst hw
      obtain ⟨hg_8, hf⟩ := dc_g hf
      refine va_iast hx hb hK hP hD hS 27 0 rfl rfl hg_8 dn_Meaning_armEnd_49 (fun H locs hP hD hS => ?_)
      have hP : va_P (dC, dI) xcl ((wC a v cI cB cJ cZ cQ q_5.2).set 27 ((a 257), .inl (cI, 60, .inl (upd (q_5.2.1 257) (Int32.toNatClampNeg (((q_1.2.1 260 0) - 1))) q_5.1)))) H := hP
      have hD : va_D A ((wC a v cI cB cJ cZ cQ q_5.2).set 27 ((a 257), .inl (cI, 60, .inl (upd (q_5.2.1 257) (Int32.toNatClampNeg (((q_1.2.1 260 0) - 1))) q_5.1)))) := hD
      have hP := wC_P_257 hP
      have hD := wC_D_257 hD
      refine lv_aload_n hx hb dn_Meaning_armEnd_50 rfl (lv_at hl 0 rfl) ?_
      refine va_get (D := (dC, dI)) (ci := 5) (v := .ref ((a 111))) (C := rn_Meaning) (T := fn_Meaning) (N := 17) hx hb hg in_Meaning hown hK hP 4 rfl rfl 3 (by decide) (hg _ wn_1_187) (fun _ h9 => h9) (congrArg some hv_6) dn_Meaning_armEnd_51 ?_
      refine lv_aload_n hx hb dn_Meaning_armEnd_54 rfl (lv_at hl 0 rfl) ?_
      refine va_get (D := (dC, dI)) (ci := 5) (v := .ref ((a 256))) (C := rn_Meaning) (T := fn_Meaning) (N := 17) hx hb hg in_Meaning hown hK hP 4 rfl rfl 12 (by decide) (hg _ wn_1_196) (fun _ h9 => h9) rfl dn_Meaning_armEnd_55 ?_
      refine lv_aload_n hx hb dn_Meaning_armEnd_58 rfl (lv_at hl 0 rfl) ?_
      refine va_get (D := (dC, dI)) (ci := 5) (v := .int ((q_5.2.1 260 0))) (C := rn_Meaning) (T := fn_Meaning) (N := 17) hx hb hg in_Meaning hown hK hP 4 rfl rfl 16 (by decide) (hg _ wn_1_200) (fun _ h9 => h9) rfl dn_Meaning_armEnd_59 ?_
      refine lv_iconst (v := 1) hx hb dn_Meaning_armEnd_62 (by decide) ?_
      refine lv_isub hx hb dn_Meaning_armEnd_63 ?_
      obtain ⟨hg_9, hf⟩ := dc_g hf
      refine va_iald hx hb hK hP 26 0 rfl rfl hg_9 dn_Meaning_armEnd_64 ?_
      refine xk_ti (y := ((q_5.2.1 256) (Int32.toNatClampNeg (((q_5.2.1 260 0) - 1))))) rfl ?_
      obtain ⟨q_10, hc_11, hf⟩ := dc_b hf
      refine dc_callv (dc_runV (ar := 1) (As := [.int (((q_5.2.1 256) (Int32.toNatClampNeg (((q_5.2.1 260 0) - 1)))))]) (rest := []) (ci := 12) (q0 := 11) ⟨hx, hb, hml, hown, hg⟩ hK hN hT hS hA (ct_Code_aim_Ks l dC dI cI cB cJ cZ cQ N H.size a v (((q_5.2.1 256) (Int32.toNatClampNeg (((q_5.2.1 260 0) - 1))))) (upI q_5.2 257 (upd (q_5.2.1 257) (Int32.toNatClampNeg (((q_1.2.1 260 0) - 1))) q_5.1)) q_10 hc_11) hP hD rfl rfl wn_5_202 wn_5_203 wn_5_204 wn_1_12 wn_5_205 rfl rfl (by decide +kernel) ⟨Nat.le_of_ble_eq_true rfl, Nat.le_of_ble_eq_true rfl⟩ rfl hl.1 rfl (Nat.le_of_ble_eq_true rfl) dn_Meaning_armEnd_65 ⟨Nat.le_of_ble_eq_true rfl, Nat.le_of_ble_eq_true rfl⟩) hP hD hS hA (fun _ H locs hw hP hD hS => ?_)
      refine lv_aload_n hx hb dn_Meaning_armEnd_68 rfl (lv_at hl 0 rfl) ?_
      refine va_get (D := (dC, dI)) (ci := 5) (v := .ref ((a 256))) (C := rn_Meaning) (T := fn_Meaning) (N := 17) hx hb hg in_Meaning hown hK hP 4 rfl rfl 12 (by decide) (hg _ wn_1_196) (fun _ h9 => h9) rfl dn_Meaning_armEnd_69 ?_
      refine lv_aload_n hx hb dn_Meaning_armEnd_72 rfl (lv_at hl 0 rfl) ?_
      refine va_get (D := (dC, dI)) (ci := 5) (v := .int ((q_10.2.1 260 0))) (C := rn_Meaning) (T := fn_Meaning) (N := 17) hx hb hg in_Meaning hown hK hP 4 rfl rfl 16 (by decide) (hg _ wn_1_200) (fun _ h9 => h9) rfl dn_Meaning_armEnd_73 ?_
      refine lv_iconst (v := 1) hx hb dn_Meaning_armEnd_76 (by decide) ?_
      refine lv_isub hx hb dn_Meaning_armEnd_77 ?_
      refine lv_iconst (v := (-1)) hx hb dn_Meaning_armEnd_78 (by decide) ?_
      obtain ⟨hg_12, hf⟩ := dc_g hf
      refine va_iast hx hb hK hP hD hS 26 0 rfl rfl hg_12 dn_Meaning_armEnd_79 (fun H locs hP hD hS => ?_)
      have hP : va_P (dC, dI) xcl ((wC a v cI cB cJ cZ cQ q_10.2).set 26 ((a 256), .inl (cI, 60, .inl (upd (q_10.2.1 256) (Int32.toNatClampNeg (((q_10.2.1 260 0) - 1))) ((-1)))))) H := hP
      have hD : va_D A ((wC a v cI cB cJ cZ cQ q_10.2).set 26 ((a 256), .inl (cI, 60, .inl (upd (q_10.2.1 256) (Int32.toNatClampNeg (((q_10.2.1 260 0) - 1))) ((-1)))))) := hD
      have hP := wC_P_256 hP
      have hD := wC_D_256 hD
      rw [hQQ, ← Option.some.inj hf]
      exact xk_vret (w1 := fun u : Unit => (wC a v cI cB cJ cZ cQ (upI q_10.2 256 (upd (q_10.2.1 256) (Int32.toNatClampNeg (((q_10.2.1 260 0) - 1))) ((-1)))))) () hx hb hr hlocks hK hS dn_Meaning_armEnd_80 hP hD trivial (Nat.le_refl _) (Nat.le_refl _)
    · have hf := (if_pos h).symm.trans hf
      rw [hQQ, ← Option.some.inj hf]
      exact xk_vret (w1 := fun u : Unit => (wC a v cI cB cJ cZ cQ q_1.2)) () hx hb hr hlocks hK hS dn_Meaning_armEnd_17 hP hD trivial (Nat.le_refl _) (Nat.le_refl _)
