def fn_Machine_put_Ma (N : Nat) (v1 : Int32) (v2 : Int64) (s : ms) : Option (Unit × ms) :=
  if v1 < 0 then (some ((), s)) else (if v1 < 1024 then (if (v1 < 0 ∨ 1024 ≤ Int32.toNatClampNeg v1) then none else some ((), upI (upJ s 286 (vp_updL (s.2 286) (Int32.toNatClampNeg v1) v2)) 290 (fun _ => 0))) else (some ((), s)))
set_option maxHeartbeats 8000000 in
set_option maxRecDepth 100000 in
theorem ct_Machine_put_Ma (l : Launch) (dC : Nat → ClassId) (dI : Nat → Nat → Nat) (cI cB cJ cZ cQ : ClassId) (N sz : Nat) (a : Nat → Nat) (v : Nat → Value) (v1 : Int32) (v2 : Int64) (s : ms) (y : (Unit × ms)) (hf : fn_Machine_put_Ma N v1 v2 s = some y) : Met l yn_Machine_put (xw yn_Machine_put bn_Machine_put 4 none) ({ frames := 0, cells := 0, slots := 0, locals := 0 }) (dc_P (dC, dI) xcl (xt cI cB cJ cZ cQ) [.ref ((a 107)), .int v1, .long v2] sz (wC a v cI cB cJ cZ cQ s)) (xk_Qv (dC, dI) xcl (xt cI cB cJ cZ cQ) (fun _ : Unit => True) (fun u : Unit => (wC a v cI cB cJ cZ cQ y.2)) (va_A (wC a v cI cB cJ cZ cQ s) sz)) 0 0 (va_A (wC a v cI cB cJ cZ cQ s) sz) := by
  refine dc_of (QA := xk_Qv (dC, dI) xcl (xt cI cB cJ cZ cQ) (fun _ : Unit => True) (fun u : Unit => (wC a v cI cB cJ cZ cQ y.2))) (by decide) (Nat.le_of_ble_eq_true rfl) ?_
  intro p e s0 m below meth c hx hb hml hown hg hr hlocks hin hP hK hN A hA hD hT ls hl
  have hown : s0.vm.findClass rn_Machine = some m.cls := hown
  obtain ⟨H, hH⟩ : ∃ z, z = s0.heap := ⟨_, rfl⟩
  rw [← hH] at hP
  have hS : va_S A s0.heap H [] := by rw [hH]; exact va_S.rf
  suffices kk : ∀ QQ : State → Prop, QQ = MQ below (xk_Qv (dC, dI) xcl (xt cI cB cJ cZ cQ) (fun _ : Unit => True) (fun u : Unit => (wC a v cI cB cJ cZ cQ y.2)) A) [.ref ((a 107)), .int v1, .long v2].toArray s0 0 0 A → dcC p l e ({ frames := 0, cells := 0, slots := 0, locals := 0 }) s0 m [.ref ((a 107)), .int v1, .long v2].toArray below meth c QQ (dC, dI) A (wC a v cI cB cJ cZ cQ s) 0 4 [(0, .ref ((a 107))), (1, .int v1), (2, .long v2)] [] by
    have k9 := kk _ rfl H [] ls hP hD hS hl
    rw [hH] at k9; exact k9
  clear hP hD hS hl hH H ls
  intro QQ hQQ
  intro H locs ls hP hD hS hl
  unfold fn_Machine_put_Ma at hf
  refine lv_iload_n hx hb dn_Machine_put_0 rfl (lv_at hl 1 rfl) ?_
  refine lv_if_lt (tgt := 13) hx hb dn_Machine_put_1 (by decide) (fun h => ?_) (fun h => ?_)
  · have hf := (if_pos h).symm.trans hf
    rw [hQQ, ← Option.some.inj hf]
    exact xk_vret (w1 := fun u : Unit => (wC a v cI cB cJ cZ cQ s)) () hx hb hr hlocks hK hS dn_Machine_put_13 hP hD trivial (Nat.le_refl _) (Nat.le_refl _)
  · have hf := (if_neg h).symm.trans hf
    refine lv_iload_n hx hb dn_Machine_put_4 rfl (lv_at hl 1 rfl) ?_
    refine lv_aload_n hx hb dn_Machine_put_5 rfl (lv_at hl 0 rfl) ?_
    refine va_get (D := (dC, dI)) (ci := 8) (v := .ref ((a 286))) (C := rn_Machine) (T := fn_Machine) (N := 5) hx hb hg in_Machine hown hK hP 7 rfl rfl 0 (by decide) (hg _ wn_2_89) (fun _ h9 => h9) rfl dn_Machine_put_6 ?_
    refine va_alen (v := 1024) hx hb hK hP 39 2 rfl rfl rfl dn_Machine_put_9 ?_
    refine lv_icmp_lt (tgt := 14) hx hb dn_Machine_put_10 (by decide) (fun h => ?_) (fun h => ?_)
    · have hf := (if_pos h).symm.trans hf
      refine lv_aload_n hx hb dn_Machine_put_14 rfl (lv_at hl 0 rfl) ?_
      refine va_get (D := (dC, dI)) (ci := 8) (v := .ref ((a 286))) (C := rn_Machine) (T := fn_Machine) (N := 5) hx hb hg in_Machine hown hK hP 7 rfl rfl 0 (by decide) (hg _ wn_2_89) (fun _ h9 => h9) rfl dn_Machine_put_15 ?_
      refine lv_iload_n hx hb dn_Machine_put_18 rfl (lv_at hl 1 rfl) ?_
      refine lv_lload_n hx hb dn_Machine_put_19 rfl (lv_at hl 2 rfl) ?_
      obtain ⟨hg_1, hf⟩ := dc_g hf
      refine va_last hx hb hK hP hD hS 39 2 rfl rfl hg_1 dn_Machine_put_20 (fun H locs hP hD hS => ?_)
      have hP : va_P (dC, dI) xcl ((wC a v cI cB cJ cZ cQ s).set 39 ((a 286), .inl (cJ, 1024, .inr (.inl (vp_updL (s.2 286) (Int32.toNatClampNeg v1) v2))))) H := hP
      have hD : va_D A ((wC a v cI cB cJ cZ cQ s).set 39 ((a 286), .inl (cJ, 1024, .inr (.inl (vp_updL (s.2 286) (Int32.toNatClampNeg v1) v2))))) := hD
      have hP := wC_P_286 hP
      have hD := wC_D_286 hD
      refine lv_aload_n hx hb dn_Machine_put_21 rfl (lv_at hl 0 rfl) ?_
      refine lv_iconst (v := 0) hx hb dn_Machine_put_22 (by decide) ?_
      refine va_put (D := (dC, dI)) (ci := 8) (v := .int 0) (ty := .boolean) (C := rn_Machine) (T := fn_Machine) (N := 5) hx hb hg in_Machine tn_Machine tk_Machine nn_Machine hown hK hP hD hS 7 rfl rfl 4 (by decide) (hg _ wn_2_93) (fun _ h9 => h9) rfl (tk_Machine 4 (by decide)) rfl rfl (Nat.le_of_ble_eq_true rfl) dn_Machine_put_23 (fun H locs hP hD hS => ?_)
      have hP := wC_P_290 hP
      have hD := wC_D_290 hD
      rw [hQQ, ← Option.some.inj hf]
      exact xk_vret (w1 := fun u : Unit => (wC a v cI cB cJ cZ cQ (upI (upJ s 286 (vp_updL (s.2 286) (Int32.toNatClampNeg v1) v2)) 290 (fun _ => 0)))) () hx hb hr hlocks hK hS dn_Machine_put_26 hP hD trivial (Nat.le_refl _) (Nat.le_refl _)
    · have hf := (if_neg h).symm.trans hf
      rw [hQQ, ← Option.some.inj hf]
      exact xk_vret (w1 := fun u : Unit => (wC a v cI cB cJ cZ cQ s)) () hx hb hr hlocks hK hS dn_Machine_put_13 hP hD trivial (Nat.le_refl _) (Nat.le_refl _)
def fn_Machine_store_Ma (N : Nat) (v1 : Int32) (v2 : Int32) (v3 : Int64) (s : ms) : Option (Unit × ms) :=
  if (v1 + ((Int32.toUInt32 v2 >>> (Int32.toUInt32 14 &&& Int32.toUInt32 31)).toInt32)) < 0 then (some ((), s)) else (if (v1 + ((Int32.toUInt32 v2 >>> (Int32.toUInt32 14 &&& Int32.toUInt32 31)).toInt32)) < 1024 then ((fn_C_mask N ((v2 &&& 127)) s).bind (fun q_1 => if ((v1 + ((Int32.toUInt32 v2 >>> (Int32.toUInt32 14 &&& Int32.toUInt32 31)).toInt32)) < 0 ∨ 1024 ≤ Int32.toNatClampNeg ((v1 + ((Int32.toUInt32 v2 >>> (Int32.toUInt32 14 &&& Int32.toUInt32 31)).toInt32)))) then none else if ((v1 + ((Int32.toUInt32 v2 >>> (Int32.toUInt32 14 &&& Int32.toUInt32 31)).toInt32)) < 0 ∨ 1024 ≤ Int32.toNatClampNeg ((v1 + ((Int32.toUInt32 v2 >>> (Int32.toUInt32 14 &&& Int32.toUInt32 31)).toInt32)))) then none else some ((), upJ q_1.2 287 (vp_updL (q_1.2.2 287) (Int32.toNatClampNeg ((v1 + ((Int32.toUInt32 v2 >>> (Int32.toUInt32 14 &&& Int32.toUInt32 31)).toInt32)))) (((((q_1.2.2 287) (Int32.toNatClampNeg ((v1 + ((Int32.toUInt32 v2 >>> (Int32.toUInt32 14 &&& Int32.toUInt32 31)).toInt32))))) &&& (((q_1.1 : Int64) <<< ((Int32.toInt64 ((((Int32.toUInt32 v2 >>> (Int32.toUInt32 7 &&& Int32.toUInt32 31)).toInt32) &&& 127))) &&& 63)) ^^^ (-1))) ||| ((v3 : Int64) <<< ((Int32.toInt64 ((((Int32.toUInt32 v2 >>> (Int32.toUInt32 7 &&& Int32.toUInt32 31)).toInt32) &&& 127))) &&& 63)))))))) else (some ((), s)))
set_option maxHeartbeats 8000000 in
set_option maxRecDepth 100000 in
theorem ct_Machine_store_Ma (l : Launch) (dC : Nat → ClassId) (dI : Nat → Nat → Nat) (cI cB cJ cZ cQ : ClassId) (N sz : Nat) (a : Nat → Nat) (v : Nat → Value) (v1 : Int32) (v2 : Int32) (v3 : Int64) (s : ms) (y : (Unit × ms)) (hf : fn_Machine_store_Ma N v1 v2 v3 s = some y) : Met l yn_Machine_store (xw yn_Machine_store bn_Machine_store 9 none) ({ frames := 1, cells := 0, slots := 0, locals := 20 }) (dc_P (dC, dI) xcl (xt cI cB cJ cZ cQ) [.ref ((a 107)), .int v1, .int v2, .long v3] sz (wC a v cI cB cJ cZ cQ s)) (xk_Qv (dC, dI) xcl (xt cI cB cJ cZ cQ) (fun _ : Unit => True) (fun u : Unit => (wC a v cI cB cJ cZ cQ y.2)) (va_A (wC a v cI cB cJ cZ cQ s) sz)) 0 0 (va_A (wC a v cI cB cJ cZ cQ s) sz) := by
  refine dc_of (QA := xk_Qv (dC, dI) xcl (xt cI cB cJ cZ cQ) (fun _ : Unit => True) (fun u : Unit => (wC a v cI cB cJ cZ cQ y.2))) (by decide) (Nat.le_of_ble_eq_true rfl) ?_
  intro p e s0 m below meth c hx hb hml hown hg hr hlocks hin hP hK hN A hA hD hT ls hl
  have hown : s0.vm.findClass rn_Machine = some m.cls := hown
  obtain ⟨H, hH⟩ : ∃ z, z = s0.heap := ⟨_, rfl⟩
  rw [← hH] at hP
  have hS : va_S A s0.heap H [] := by rw [hH]; exact va_S.rf
  suffices kk : ∀ QQ : State → Prop, QQ = MQ below (xk_Qv (dC, dI) xcl (xt cI cB cJ cZ cQ) (fun _ : Unit => True) (fun u : Unit => (wC a v cI cB cJ cZ cQ y.2)) A) [.ref ((a 107)), .int v1, .int v2, .long v3].toArray s0 0 0 A → dcC p l e ({ frames := 1, cells := 0, slots := 0, locals := 20 }) s0 m [.ref ((a 107)), .int v1, .int v2, .long v3].toArray below meth c QQ (dC, dI) A (wC a v cI cB cJ cZ cQ s) 0 9 [(0, .ref ((a 107))), (1, .int v1), (2, .int v2), (3, .long v3)] [] by
    have k9 := kk _ rfl H [] ls hP hD hS hl
    rw [hH] at k9; exact k9
  clear hP hD hS hl hH H ls
  intro QQ hQQ
  intro H locs ls hP hD hS hl
  unfold fn_Machine_store_Ma at hf
  refine lv_iload_n hx hb dn_Machine_store_0 rfl (lv_at hl 1 rfl) ?_
  refine lv_iload_n hx hb dn_Machine_store_1 rfl (lv_at hl 2 rfl) ?_
  refine lv_bipush (v := 14) hx hb dn_Machine_store_2 (by decide) ?_
  refine lv_iushr (v := (Int32.toUInt32 v2 >>> (Int32.toUInt32 14 &&& Int32.toUInt32 31)).toInt32) hx hb dn_Machine_store_4 rfl ?_
  refine lv_iadd hx hb dn_Machine_store_5 ?_
  refine lv_istore (lv' := [(5, .int ((v1 + ((Int32.toUInt32 v2 >>> (Int32.toUInt32 14 &&& Int32.toUInt32 31)).toInt32)))), (0, .ref ((a 107))), (1, .int v1), (2, .int v2), (3, .long v3)]) hx hb dn_Machine_store_6 hl (by decide) rfl (fun ls hl => ?_)
  refine lv_iload_n hx hb dn_Machine_store_8 rfl (lv_at hl 3 rfl) ?_
  refine lv_bipush (v := 7) hx hb dn_Machine_store_9 (by decide) ?_
  refine lv_iushr (v := (Int32.toUInt32 v2 >>> (Int32.toUInt32 7 &&& Int32.toUInt32 31)).toInt32) hx hb dn_Machine_store_11 rfl ?_
  refine lv_bipush (v := 127) hx hb dn_Machine_store_12 (by decide) ?_
  refine lv_iand hx hb dn_Machine_store_14 ?_
  refine lv_istore (lv' := [(6, .int ((((Int32.toUInt32 v2 >>> (Int32.toUInt32 7 &&& Int32.toUInt32 31)).toInt32) &&& 127))), (5, .int ((v1 + ((Int32.toUInt32 v2 >>> (Int32.toUInt32 14 &&& Int32.toUInt32 31)).toInt32)))), (0, .ref ((a 107))), (1, .int v1), (2, .int v2), (3, .long v3)]) hx hb dn_Machine_store_15 hl (by decide) rfl (fun ls hl => ?_)
  refine lv_iload hx hb dn_Machine_store_17 (lv_at hl 1 rfl) ?_
  refine lv_if_lt (tgt := 32) hx hb dn_Machine_store_19 (by decide) (fun h => ?_) (fun h => ?_)
  · have hf := (if_pos h).symm.trans hf
    rw [hQQ, ← Option.some.inj hf]
    exact xk_vret (w1 := fun u : Unit => (wC a v cI cB cJ cZ cQ s)) () hx hb hr hlocks hK hS dn_Machine_store_32 hP hD trivial (Nat.le_refl _) (Nat.le_refl _)
  · have hf := (if_neg h).symm.trans hf
    refine lv_iload hx hb dn_Machine_store_22 (lv_at hl 1 rfl) ?_
    refine lv_aload_n hx hb dn_Machine_store_24 rfl (lv_at hl 2 rfl) ?_
    refine va_get (D := (dC, dI)) (ci := 8) (v := .ref ((a 287))) (C := rn_Machine) (T := fn_Machine) (N := 5) hx hb hg in_Machine hown hK hP 7 rfl rfl 1 (by decide) (hg _ wn_2_90) (fun _ h9 => h9) rfl dn_Machine_store_25 ?_
    refine va_alen (v := 1024) hx hb hK hP 40 2 rfl rfl rfl dn_Machine_store_28 ?_
    refine lv_icmp_lt (tgt := 33) hx hb dn_Machine_store_29 (by decide) (fun h => ?_) (fun h => ?_)
    · have hf := (if_pos h).symm.trans hf
      refine lv_iload_n hx hb dn_Machine_store_33 rfl (lv_at hl 4 rfl) ?_
      refine lv_bipush (v := 127) hx hb dn_Machine_store_34 (by decide) ?_
      refine lv_iand hx hb dn_Machine_store_36 ?_
      obtain ⟨q_1, hc_2, hf⟩ := dc_b hf
      refine dc_calll (dc_runSN (ar := 1) (As := [.int ((v2 &&& 127))]) (rest := []) (host := "CircuitCycles") ⟨hx, hb, hml, hown, hg⟩ hK hN hT hS hA (ct_C_mask l dC dI cI cB cJ cZ cQ N H.size a v ((v2 &&& 127)) s q_1 hc_2) hP hD nl_Machine_142 wn_4_71 wn_1_1 wn_4_72 rfl rfl (by decide +kernel) ⟨Nat.le_of_ble_eq_true rfl, Nat.le_of_ble_eq_true rfl⟩ rfl hl.1 rfl (Nat.le_of_ble_eq_true rfl) dn_Machine_store_37 ⟨Nat.le_of_ble_eq_true rfl, Nat.le_of_ble_eq_true rfl⟩) hP hD hS hA (fun r_3 _ H locs hw hP hD hS => ?_)
      have hw : r_3 = q_1.1 := hw
      subst hw
      refine lv_iload hx hb dn_Machine_store_40 (lv_at hl 0 rfl) ?_
      refine lv_lshl (v := (q_1.1 : Int64) <<< ((Int32.toInt64 ((((Int32.toUInt32 v2 >>> (Int32.toUInt32 7 &&& Int32.toUInt32 31)).toInt32) &&& 127))) &&& 63)) hx hb dn_Machine_store_42 rfl ?_
      refine lv_lstore (lv' := [(7, .long (((q_1.1 : Int64) <<< ((Int32.toInt64 ((((Int32.toUInt32 v2 >>> (Int32.toUInt32 7 &&& Int32.toUInt32 31)).toInt32) &&& 127))) &&& 63)))), (6, .int ((((Int32.toUInt32 v2 >>> (Int32.toUInt32 7 &&& Int32.toUInt32 31)).toInt32) &&& 127))), (5, .int ((v1 + ((Int32.toUInt32 v2 >>> (Int32.toUInt32 14 &&& Int32.toUInt32 31)).toInt32)))), (0, .ref ((a 107))), (1, .int v1), (2, .int v2), (3, .long v3)]) hx hb dn_Machine_store_43 hl (by decide) rfl (fun ls hl => ?_)
      refine lv_aload_n hx hb dn_Machine_store_45 rfl (lv_at hl 3 rfl) ?_
      refine va_get (D := (dC, dI)) (ci := 8) (v := .ref ((a 287))) (C := rn_Machine) (T := fn_Machine) (N := 5) hx hb hg in_Machine hown hK hP 7 rfl rfl 1 (by decide) (hg _ wn_2_90) (fun _ h9 => h9) rfl dn_Machine_store_46 ?_
      refine lv_iload hx hb dn_Machine_store_49 (lv_at hl 2 rfl) ?_
      refine lv_aload_n hx hb dn_Machine_store_51 rfl (lv_at hl 3 rfl) ?_
      refine va_get (D := (dC, dI)) (ci := 8) (v := .ref ((a 287))) (C := rn_Machine) (T := fn_Machine) (N := 5) hx hb hg in_Machine hown hK hP 7 rfl rfl 1 (by decide) (hg _ wn_2_90) (fun _ h9 => h9) rfl dn_Machine_store_52 ?_
      refine lv_iload hx hb dn_Machine_store_55 (lv_at hl 2 rfl) ?_
      obtain ⟨hg_4, hf⟩ := dc_g hf
      refine va_lald hx hb hK hP 40 2 rfl rfl hg_4 dn_Machine_store_57 ?_
      refine xk_tl (y := ((q_1.2.2 287) (Int32.toNatClampNeg ((v1 + ((Int32.toUInt32 v2 >>> (Int32.toUInt32 14 &&& Int32.toUInt32 31)).toInt32)))))) rfl ?_
      refine lv_lload hx hb dn_Machine_store_58 (lv_at hl 0 rfl) ?_
      refine lv_ldc2 hx hb hown (hg _ wn_8_12) dn_Machine_store_60 ?_
      refine lv_lxor hx hb dn_Machine_store_63 ?_
      refine lv_land hx hb dn_Machine_store_64 ?_
      refine lv_lload_n hx hb dn_Machine_store_65 rfl (lv_at hl 6 rfl) ?_
      refine lv_iload hx hb dn_Machine_store_66 (lv_at hl 1 rfl) ?_
      refine lv_lshl (v := (v3 : Int64) <<< ((Int32.toInt64 ((((Int32.toUInt32 v2 >>> (Int32.toUInt32 7 &&& Int32.toUInt32 31)).toInt32) &&& 127))) &&& 63)) hx hb dn_Machine_store_68 rfl ?_
      refine lv_lor hx hb dn_Machine_store_69 ?_
      obtain ⟨hg_5, hf⟩ := dc_g hf
      refine va_last hx hb hK hP hD hS 40 2 rfl rfl hg_5 dn_Machine_store_70 (fun H locs hP hD hS => ?_)
      have hP : va_P (dC, dI) xcl ((wC a v cI cB cJ cZ cQ q_1.2).set 40 ((a 287), .inl (cJ, 1024, .inr (.inl (vp_updL (q_1.2.2 287) (Int32.toNatClampNeg ((v1 + ((Int32.toUInt32 v2 >>> (Int32.toUInt32 14 &&& Int32.toUInt32 31)).toInt32)))) (((((q_1.2.2 287) (Int32.toNatClampNeg ((v1 + ((Int32.toUInt32 v2 >>> (Int32.toUInt32 14 &&& Int32.toUInt32 31)).toInt32))))) &&& (((q_1.1 : Int64) <<< ((Int32.toInt64 ((((Int32.toUInt32 v2 >>> (Int32.toUInt32 7 &&& Int32.toUInt32 31)).toInt32) &&& 127))) &&& 63)) ^^^ (-1))) ||| ((v3 : Int64) <<< ((Int32.toInt64 ((((Int32.toUInt32 v2 >>> (Int32.toUInt32 7 &&& Int32.toUInt32 31)).toInt32) &&& 127))) &&& 63))))))))) H := hP
      have hD : va_D A ((wC a v cI cB cJ cZ cQ q_1.2).set 40 ((a 287), .inl (cJ, 1024, .inr (.inl (vp_updL (q_1.2.2 287) (Int32.toNatClampNeg ((v1 + ((Int32.toUInt32 v2 >>> (Int32.toUInt32 14 &&& Int32.toUInt32 31)).toInt32)))) (((((q_1.2.2 287) (Int32.toNatClampNeg ((v1 + ((Int32.toUInt32 v2 >>> (Int32.toUInt32 14 &&& Int32.toUInt32 31)).toInt32))))) &&& (((q_1.1 : Int64) <<< ((Int32.toInt64 ((((Int32.toUInt32 v2 >>> (Int32.toUInt32 7 &&& Int32.toUInt32 31)).toInt32) &&& 127))) &&& 63)) ^^^ (-1))) ||| ((v3 : Int64) <<< ((Int32.toInt64 ((((Int32.toUInt32 v2 >>> (Int32.toUInt32 7 &&& Int32.toUInt32 31)).toInt32) &&& 127))) &&& 63))))))))) := hD
      have hP := wC_P_287 hP
      have hD := wC_D_287 hD
      rw [hQQ, ← Option.some.inj hf]
      exact xk_vret (w1 := fun u : Unit => (wC a v cI cB cJ cZ cQ (upJ q_1.2 287 (vp_updL (q_1.2.2 287) (Int32.toNatClampNeg ((v1 + ((Int32.toUInt32 v2 >>> (Int32.toUInt32 14 &&& Int32.toUInt32 31)).toInt32)))) (((((q_1.2.2 287) (Int32.toNatClampNeg ((v1 + ((Int32.toUInt32 v2 >>> (Int32.toUInt32 14 &&& Int32.toUInt32 31)).toInt32))))) &&& (((q_1.1 : Int64) <<< ((Int32.toInt64 ((((Int32.toUInt32 v2 >>> (Int32.toUInt32 7 &&& Int32.toUInt32 31)).toInt32) &&& 127))) &&& 63)) ^^^ (-1))) ||| ((v3 : Int64) <<< ((Int32.toInt64 ((((Int32.toUInt32 v2 >>> (Int32.toUInt32 7 &&& Int32.toUInt32 31)).toInt32) &&& 127))) &&& 63)))))))) () hx hb hr hlocks hK hS dn_Machine_store_71 hP hD trivial (Nat.le_refl _) (Nat.le_refl _)
    · have hf := (if_neg h).symm.trans hf
      rw [hQQ, ← Option.some.inj hf]
      exact xk_vret (w1 := fun u : Unit => (wC a v cI cB cJ cZ cQ s)) () hx hb hr hlocks hK hS dn_Machine_store_32 hP hD trivial (Nat.le_refl _) (Nat.le_refl _)
def fn_Machine_isBeyond (N : Nat) (v0 : Int64) (s : ms) : Option (Int32 × ms) :=
  if (lg_cmp v0 0) < 0 then (some (1, s)) else (if (lg_cmp v0 64) < 0 then (some (0, s)) else (some (1, s)))
set_option maxHeartbeats 8000000 in
set_option maxRecDepth 100000 in
theorem ct_Machine_isBeyond (l : Launch) (dC : Nat → ClassId) (dI : Nat → Nat → Nat) (cI cB cJ cZ cQ : ClassId) (N sz : Nat) (a : Nat → Nat) (v : Nat → Value) (v0 : Int64) (s : ms) (y : (Int32 × ms)) (hf : fn_Machine_isBeyond N v0 s = some y) : Met l yn_Machine_isBeyond (xw yn_Machine_isBeyond bn_Machine_isBeyond 2 (some .boolean)) ({ frames := 0, cells := 0, slots := 0, locals := 0 }) (dc_P (dC, dI) xcl (xt cI cB cJ cZ cQ) [.long v0] sz (wC a v cI cB cJ cZ cQ s)) (xk_Qi (dC, dI) xcl (xt cI cB cJ cZ cQ) (fun (r : Int32) (_ : Unit) => r = y.1) (fun u : Unit => (wC a v cI cB cJ cZ cQ y.2)) (va_A (wC a v cI cB cJ cZ cQ s) sz)) 0 0 (va_A (wC a v cI cB cJ cZ cQ s) sz) := by
  refine dc_of (QA := xk_Qi (dC, dI) xcl (xt cI cB cJ cZ cQ) (fun (r : Int32) (_ : Unit) => r = y.1) (fun u : Unit => (wC a v cI cB cJ cZ cQ y.2))) (by decide) (Nat.le_of_ble_eq_true rfl) ?_
  intro p e s0 m below meth c hx hb hml hown hg hr hlocks hin hP hK hN A hA hD hT ls hl
  have hown : s0.vm.findClass rn_Machine = some m.cls := hown
  obtain ⟨H, hH⟩ : ∃ z, z = s0.heap := ⟨_, rfl⟩
  rw [← hH] at hP
  have hS : va_S A s0.heap H [] := by rw [hH]; exact va_S.rf
  suffices kk : ∀ QQ : State → Prop, QQ = MQ below (xk_Qi (dC, dI) xcl (xt cI cB cJ cZ cQ) (fun (r : Int32) (_ : Unit) => r = y.1) (fun u : Unit => (wC a v cI cB cJ cZ cQ y.2)) A) [.long v0].toArray s0 0 0 A → dcC p l e ({ frames := 0, cells := 0, slots := 0, locals := 0 }) s0 m [.long v0].toArray below meth c QQ (dC, dI) A (wC a v cI cB cJ cZ cQ s) 0 2 [(0, .long v0)] [] by
    have k9 := kk _ rfl H [] ls hP hD hS hl
    rw [hH] at k9; exact k9
  clear hP hD hS hl hH H ls
  intro QQ hQQ
  intro H locs ls hP hD hS hl
  unfold fn_Machine_isBeyond at hf
  refine lv_lload_n hx hb dn_Machine_isBeyond_0 rfl (lv_at hl 0 rfl) ?_
  refine lv_lconst (v := 0) hx hb dn_Machine_isBeyond_1 (by decide) ?_
  refine W.lcmp hx hb dn_Machine_isBeyond_2 ?_
  refine lv_if_lt (tgt := 14) hx hb dn_Machine_isBeyond_3 (by decide) (fun h => ?_) (fun h => ?_)
  · have hf := (if_pos h).symm.trans hf
    refine lv_iconst (v := 1) hx hb dn_Machine_isBeyond_14 (by decide) ?_
    refine lv_goto (tgt := 19) hx hb dn_Machine_isBeyond_15 (by decide) ?_
    rw [hQQ, ← Option.some.inj hf]
    exact xk_zret (w1 := fun u : Unit => (wC a v cI cB cJ cZ cQ s)) () hx hb hr rfl hlocks hK hS dn_Machine_isBeyond_19 hP hD rfl (Nat.le_refl _) (Nat.le_refl _)
  · have hf := (if_neg h).symm.trans hf
    refine lv_lload_n hx hb dn_Machine_isBeyond_6 rfl (lv_at hl 0 rfl) ?_
    refine lv_ldc2 hx hb hown (hg _ wn_8_4) dn_Machine_isBeyond_7 ?_
    refine W.lcmp hx hb dn_Machine_isBeyond_10 ?_
    refine lv_if_lt (tgt := 18) hx hb dn_Machine_isBeyond_11 (by decide) (fun h => ?_) (fun h => ?_)
    · have hf := (if_pos h).symm.trans hf
      refine lv_iconst (v := 0) hx hb dn_Machine_isBeyond_18 (by decide) ?_
      rw [hQQ, ← Option.some.inj hf]
      exact xk_zret (w1 := fun u : Unit => (wC a v cI cB cJ cZ cQ s)) () hx hb hr rfl hlocks hK hS dn_Machine_isBeyond_19 hP hD rfl (Nat.le_refl _) (Nat.le_refl _)
    · have hf := (if_neg h).symm.trans hf
      refine lv_iconst (v := 1) hx hb dn_Machine_isBeyond_14 (by decide) ?_
      refine lv_goto (tgt := 19) hx hb dn_Machine_isBeyond_15 (by decide) ?_
      rw [hQQ, ← Option.some.inj hf]
      exact xk_zret (w1 := fun u : Unit => (wC a v cI cB cJ cZ cQ s)) () hx hb hr rfl hlocks hK hS dn_Machine_isBeyond_19 hP hD rfl (Nat.le_refl _) (Nat.le_refl _)
def fn_Machine_asked (N : Nat) (v0 : Int32) (v1 : Int64) (v3 : Int64) (s : ms) : Option (Int32 × ms) :=
  if v0 = 5 then (if (lg_cmp v1 0) = 0 then (some (0, s)) else (if (lg_cmp v3 0) = 0 then (some (0, s)) else (some (1, s)))) else (if v0 = 7 then (if (lg_cmp v1 v3) = 0 then (some (1, s)) else (some (0, s))) else (if v0 = 8 then (if (lg_cmp v1 v3) = 0 then (some (0, s)) else (some (1, s))) else (if v0 = 9 then (if 0 < (lg_cmp ((v1 ^^^ (-9223372036854775808))) ((v3 ^^^ (-9223372036854775808)))) then (some (0, s)) else (some (1, s))) else (if v0 = 10 then (if (lg_cmp ((v1 ^^^ (-9223372036854775808))) ((v3 ^^^ (-9223372036854775808)))) < 0 then (some (0, s)) else (some (1, s))) else (if v0 = 60 then (if 0 ≤ (lg_cmp ((v1 ^^^ (-9223372036854775808))) ((v3 ^^^ (-9223372036854775808)))) then (some (0, s)) else (some (1, s))) else (if v0 = 62 then (if (lg_cmp ((v1 ^^^ (-9223372036854775808))) ((v3 ^^^ (-9223372036854775808)))) ≤ 0 then (some (0, s)) else (some (1, s))) else (if (lg_cmp v1 0) = 0 then (if (lg_cmp v3 0) = 0 then (some (0, s)) else (some (1, s))) else (some (1, s)))))))))
set_option maxHeartbeats 8000000 in
set_option maxRecDepth 100000 in
theorem ct_Machine_asked (l : Launch) (dC : Nat → ClassId) (dI : Nat → Nat → Nat) (cI cB cJ cZ cQ : ClassId) (N sz : Nat) (a : Nat → Nat) (v : Nat → Value) (v0 : Int32) (v1 : Int64) (v3 : Int64) (s : ms) (y : (Int32 × ms)) (hf : fn_Machine_asked N v0 v1 v3 s = some y) : Met l yn_Machine_asked (xw yn_Machine_asked bn_Machine_asked 5 (some .boolean)) ({ frames := 0, cells := 0, slots := 0, locals := 0 }) (dc_P (dC, dI) xcl (xt cI cB cJ cZ cQ) [.int v0, .long v1, .long v3] sz (wC a v cI cB cJ cZ cQ s)) (xk_Qi (dC, dI) xcl (xt cI cB cJ cZ cQ) (fun (r : Int32) (_ : Unit) => r = y.1) (fun u : Unit => (wC a v cI cB cJ cZ cQ y.2)) (va_A (wC a v cI cB cJ cZ cQ s) sz)) 0 0 (va_A (wC a v cI cB cJ cZ cQ s) sz) := by
  refine dc_of (QA := xk_Qi (dC, dI) xcl (xt cI cB cJ cZ cQ) (fun (r : Int32) (_ : Unit) => r = y.1) (fun u : Unit => (wC a v cI cB cJ cZ cQ y.2))) (by decide) (Nat.le_of_ble_eq_true rfl) ?_
  intro p e s0 m below meth c hx hb hml hown hg hr hlocks hin hP hK hN A hA hD hT ls hl
  have hown : s0.vm.findClass rn_Machine = some m.cls := hown
  obtain ⟨H, hH⟩ : ∃ z, z = s0.heap := ⟨_, rfl⟩
  rw [← hH] at hP
  have hS : va_S A s0.heap H [] := by rw [hH]; exact va_S.rf
  suffices kk : ∀ QQ : State → Prop, QQ = MQ below (xk_Qi (dC, dI) xcl (xt cI cB cJ cZ cQ) (fun (r : Int32) (_ : Unit) => r = y.1) (fun u : Unit => (wC a v cI cB cJ cZ cQ y.2)) A) [.int v0, .long v1, .long v3].toArray s0 0 0 A → dcC p l e ({ frames := 0, cells := 0, slots := 0, locals := 0 }) s0 m [.int v0, .long v1, .long v3].toArray below meth c QQ (dC, dI) A (wC a v cI cB cJ cZ cQ s) 0 5 [(0, .int v0), (1, .long v1), (3, .long v3)] [] by
    have k9 := kk _ rfl H [] ls hP hD hS hl
    rw [hH] at k9; exact k9
  clear hP hD hS hl hH H ls
  intro QQ hQQ
  intro H locs ls hP hD hS hl
  unfold fn_Machine_asked at hf
  refine lv_iload_n hx hb dn_Machine_asked_0 rfl (lv_at hl 0 rfl) ?_
  by_cases h_0 : v0 = 5
  · have hf := (if_pos h_0).symm.trans hf
    refine xk_ti (y := 5) h_0 ?_
    refine lv_lookup (off := 171) (tgt := 172) hx hb dn_Machine_asked_1 (by decide) (by decide) (by decide) ?_
    refine lv_lload_n hx hb dn_Machine_asked_172 rfl (lv_at hl 1 rfl) ?_
    refine lv_lconst (v := 0) hx hb dn_Machine_asked_173 (by decide) ?_
    refine W.lcmp hx hb dn_Machine_asked_174 ?_
    refine lv_if_eq (tgt := 188) hx hb dn_Machine_asked_175 (by decide) (fun h => ?_) (fun h => ?_)
    · have hf := (if_pos h).symm.trans hf
      refine lv_iconst (v := 0) hx hb dn_Machine_asked_188 (by decide) ?_
      rw [hQQ, ← Option.some.inj hf]
      exact xk_zret (w1 := fun u : Unit => (wC a v cI cB cJ cZ cQ s)) () hx hb hr rfl hlocks hK hS dn_Machine_asked_189 hP hD rfl (Nat.le_refl _) (Nat.le_refl _)
    · have hf := (if_neg h).symm.trans hf
      refine lv_lload_n hx hb dn_Machine_asked_178 rfl (lv_at hl 2 rfl) ?_
      refine lv_lconst (v := 0) hx hb dn_Machine_asked_179 (by decide) ?_
      refine W.lcmp hx hb dn_Machine_asked_180 ?_
      refine lv_if_eq (tgt := 188) hx hb dn_Machine_asked_181 (by decide) (fun h => ?_) (fun h => ?_)
      · have hf := (if_pos h).symm.trans hf
        refine lv_iconst (v := 0) hx hb dn_Machine_asked_188 (by decide) ?_
        rw [hQQ, ← Option.some.inj hf]
        exact xk_zret (w1 := fun u : Unit => (wC a v cI cB cJ cZ cQ s)) () hx hb hr rfl hlocks hK hS dn_Machine_asked_189 hP hD rfl (Nat.le_refl _) (Nat.le_refl _)
      · have hf := (if_neg h).symm.trans hf
        refine lv_iconst (v := 1) hx hb dn_Machine_asked_184 (by decide) ?_
        refine lv_goto (tgt := 189) hx hb dn_Machine_asked_185 (by decide) ?_
        rw [hQQ, ← Option.some.inj hf]
        exact xk_zret (w1 := fun u : Unit => (wC a v cI cB cJ cZ cQ s)) () hx hb hr rfl hlocks hK hS dn_Machine_asked_189 hP hD rfl (Nat.le_refl _) (Nat.le_refl _)
  have hf := (if_neg h_0).symm.trans hf
  by_cases h_1 : v0 = 7
  · have hf := (if_pos h_1).symm.trans hf
    refine xk_ti (y := 7) h_1 ?_
    refine lv_lookup (off := 67) (tgt := 68) hx hb dn_Machine_asked_1 (by decide) (by decide) (by decide) ?_
    refine lv_lload_n hx hb dn_Machine_asked_68 rfl (lv_at hl 1 rfl) ?_
    refine lv_lload_n hx hb dn_Machine_asked_69 rfl (lv_at hl 2 rfl) ?_
    refine W.lcmp hx hb dn_Machine_asked_70 ?_
    refine lv_if_ne (tgt := 78) hx hb dn_Machine_asked_71 (by decide) (fun h => ?_) (fun h => ?_)
    · have hf := (if_neg h).symm.trans hf
      refine lv_iconst (v := 0) hx hb dn_Machine_asked_78 (by decide) ?_
      rw [hQQ, ← Option.some.inj hf]
      exact xk_zret (w1 := fun u : Unit => (wC a v cI cB cJ cZ cQ s)) () hx hb hr rfl hlocks hK hS dn_Machine_asked_79 hP hD rfl (Nat.le_refl _) (Nat.le_refl _)
    · have hf := (if_pos h).symm.trans hf
      refine lv_iconst (v := 1) hx hb dn_Machine_asked_74 (by decide) ?_
      refine lv_goto (tgt := 79) hx hb dn_Machine_asked_75 (by decide) ?_
      rw [hQQ, ← Option.some.inj hf]
      exact xk_zret (w1 := fun u : Unit => (wC a v cI cB cJ cZ cQ s)) () hx hb hr rfl hlocks hK hS dn_Machine_asked_79 hP hD rfl (Nat.le_refl _) (Nat.le_refl _)
  have hf := (if_neg h_1).symm.trans hf
  by_cases h_2 : v0 = 8
  · have hf := (if_pos h_2).symm.trans hf
    refine xk_ti (y := 8) h_2 ?_
    refine lv_lookup (off := 79) (tgt := 80) hx hb dn_Machine_asked_1 (by decide) (by decide) (by decide) ?_
    refine lv_lload_n hx hb dn_Machine_asked_80 rfl (lv_at hl 1 rfl) ?_
    refine lv_lload_n hx hb dn_Machine_asked_81 rfl (lv_at hl 2 rfl) ?_
    refine W.lcmp hx hb dn_Machine_asked_82 ?_
    refine lv_if_eq (tgt := 90) hx hb dn_Machine_asked_83 (by decide) (fun h => ?_) (fun h => ?_)
    · have hf := (if_pos h).symm.trans hf
      refine lv_iconst (v := 0) hx hb dn_Machine_asked_90 (by decide) ?_
      rw [hQQ, ← Option.some.inj hf]
      exact xk_zret (w1 := fun u : Unit => (wC a v cI cB cJ cZ cQ s)) () hx hb hr rfl hlocks hK hS dn_Machine_asked_91 hP hD rfl (Nat.le_refl _) (Nat.le_refl _)
    · have hf := (if_neg h).symm.trans hf
      refine lv_iconst (v := 1) hx hb dn_Machine_asked_86 (by decide) ?_
      refine lv_goto (tgt := 91) hx hb dn_Machine_asked_87 (by decide) ?_
      rw [hQQ, ← Option.some.inj hf]
      exact xk_zret (w1 := fun u : Unit => (wC a v cI cB cJ cZ cQ s)) () hx hb hr rfl hlocks hK hS dn_Machine_asked_91 hP hD rfl (Nat.le_refl _) (Nat.le_refl _)
  have hf := (if_neg h_2).symm.trans hf
  by_cases h_3 : v0 = 9
  · have hf := (if_pos h_3).symm.trans hf
    refine xk_ti (y := 9) h_3 ?_
    refine lv_lookup (off := 111) (tgt := 112) hx hb dn_Machine_asked_1 (by decide) (by decide) (by decide) ?_
    refine lv_lload_n hx hb dn_Machine_asked_112 rfl (lv_at hl 1 rfl) ?_
    refine lv_ldc2 hx hb hown (hg _ wn_8_8) dn_Machine_asked_113 ?_
    refine lv_lxor hx hb dn_Machine_asked_116 ?_
    refine lv_lload_n hx hb dn_Machine_asked_117 rfl (lv_at hl 2 rfl) ?_
    refine lv_ldc2 hx hb hown (hg _ wn_8_8) dn_Machine_asked_118 ?_
    refine lv_lxor hx hb dn_Machine_asked_121 ?_
    refine W.lcmp hx hb dn_Machine_asked_122 ?_
    refine lv_if_gt (tgt := 130) hx hb dn_Machine_asked_123 (by decide) (fun h => ?_) (fun h => ?_)
    · have hf := (if_pos h).symm.trans hf
      refine lv_iconst (v := 0) hx hb dn_Machine_asked_130 (by decide) ?_
      rw [hQQ, ← Option.some.inj hf]
      exact xk_zret (w1 := fun u : Unit => (wC a v cI cB cJ cZ cQ s)) () hx hb hr rfl hlocks hK hS dn_Machine_asked_131 hP hD rfl (Nat.le_refl _) (Nat.le_refl _)
    · have hf := (if_neg h).symm.trans hf
      refine lv_iconst (v := 1) hx hb dn_Machine_asked_126 (by decide) ?_
      refine lv_goto (tgt := 131) hx hb dn_Machine_asked_127 (by decide) ?_
      rw [hQQ, ← Option.some.inj hf]
      exact xk_zret (w1 := fun u : Unit => (wC a v cI cB cJ cZ cQ s)) () hx hb hr rfl hlocks hK hS dn_Machine_asked_131 hP hD rfl (Nat.le_refl _) (Nat.le_refl _)
  have hf := (if_neg h_3).symm.trans hf
  by_cases h_4 : v0 = 10
  · have hf := (if_pos h_4).symm.trans hf
    refine xk_ti (y := 10) h_4 ?_
    refine lv_lookup (off := 151) (tgt := 152) hx hb dn_Machine_asked_1 (by decide) (by decide) (by decide) ?_
    refine lv_lload_n hx hb dn_Machine_asked_152 rfl (lv_at hl 1 rfl) ?_
    refine lv_ldc2 hx hb hown (hg _ wn_8_8) dn_Machine_asked_153 ?_
    refine lv_lxor hx hb dn_Machine_asked_156 ?_
    refine lv_lload_n hx hb dn_Machine_asked_157 rfl (lv_at hl 2 rfl) ?_
    refine lv_ldc2 hx hb hown (hg _ wn_8_8) dn_Machine_asked_158 ?_
    refine lv_lxor hx hb dn_Machine_asked_161 ?_
    refine W.lcmp hx hb dn_Machine_asked_162 ?_
    refine lv_if_lt (tgt := 170) hx hb dn_Machine_asked_163 (by decide) (fun h => ?_) (fun h => ?_)
    · have hf := (if_pos h).symm.trans hf
      refine lv_iconst (v := 0) hx hb dn_Machine_asked_170 (by decide) ?_
      rw [hQQ, ← Option.some.inj hf]
      exact xk_zret (w1 := fun u : Unit => (wC a v cI cB cJ cZ cQ s)) () hx hb hr rfl hlocks hK hS dn_Machine_asked_171 hP hD rfl (Nat.le_refl _) (Nat.le_refl _)
    · have hf := (if_neg h).symm.trans hf
      refine lv_iconst (v := 1) hx hb dn_Machine_asked_166 (by decide) ?_
      refine lv_goto (tgt := 171) hx hb dn_Machine_asked_167 (by decide) ?_
      rw [hQQ, ← Option.some.inj hf]
      exact xk_zret (w1 := fun u : Unit => (wC a v cI cB cJ cZ cQ s)) () hx hb hr rfl hlocks hK hS dn_Machine_asked_171 hP hD rfl (Nat.le_refl _) (Nat.le_refl _)
  have hf := (if_neg h_4).symm.trans hf
  by_cases h_5 : v0 = 60
  · have hf := (if_pos h_5).symm.trans hf
    refine xk_ti (y := 60) h_5 ?_
    refine lv_lookup (off := 91) (tgt := 92) hx hb dn_Machine_asked_1 (by decide) (by decide) (by decide) ?_
    refine lv_lload_n hx hb dn_Machine_asked_92 rfl (lv_at hl 1 rfl) ?_
    refine lv_ldc2 hx hb hown (hg _ wn_8_8) dn_Machine_asked_93 ?_
    refine lv_lxor hx hb dn_Machine_asked_96 ?_
    refine lv_lload_n hx hb dn_Machine_asked_97 rfl (lv_at hl 2 rfl) ?_
    refine lv_ldc2 hx hb hown (hg _ wn_8_8) dn_Machine_asked_98 ?_
    refine lv_lxor hx hb dn_Machine_asked_101 ?_
    refine W.lcmp hx hb dn_Machine_asked_102 ?_
    refine lv_if_ge (tgt := 110) hx hb dn_Machine_asked_103 (by decide) (fun h => ?_) (fun h => ?_)
    · have hf := (if_pos h).symm.trans hf
      refine lv_iconst (v := 0) hx hb dn_Machine_asked_110 (by decide) ?_
      rw [hQQ, ← Option.some.inj hf]
      exact xk_zret (w1 := fun u : Unit => (wC a v cI cB cJ cZ cQ s)) () hx hb hr rfl hlocks hK hS dn_Machine_asked_111 hP hD rfl (Nat.le_refl _) (Nat.le_refl _)
    · have hf := (if_neg h).symm.trans hf
      refine lv_iconst (v := 1) hx hb dn_Machine_asked_106 (by decide) ?_
      refine lv_goto (tgt := 111) hx hb dn_Machine_asked_107 (by decide) ?_
      rw [hQQ, ← Option.some.inj hf]
      exact xk_zret (w1 := fun u : Unit => (wC a v cI cB cJ cZ cQ s)) () hx hb hr rfl hlocks hK hS dn_Machine_asked_111 hP hD rfl (Nat.le_refl _) (Nat.le_refl _)
  have hf := (if_neg h_5).symm.trans hf
  by_cases h_6 : v0 = 62
  · have hf := (if_pos h_6).symm.trans hf
    refine xk_ti (y := 62) h_6 ?_
    refine lv_lookup (off := 131) (tgt := 132) hx hb dn_Machine_asked_1 (by decide) (by decide) (by decide) ?_
    refine lv_lload_n hx hb dn_Machine_asked_132 rfl (lv_at hl 1 rfl) ?_
    refine lv_ldc2 hx hb hown (hg _ wn_8_8) dn_Machine_asked_133 ?_
    refine lv_lxor hx hb dn_Machine_asked_136 ?_
    refine lv_lload_n hx hb dn_Machine_asked_137 rfl (lv_at hl 2 rfl) ?_
    refine lv_ldc2 hx hb hown (hg _ wn_8_8) dn_Machine_asked_138 ?_
    refine lv_lxor hx hb dn_Machine_asked_141 ?_
    refine W.lcmp hx hb dn_Machine_asked_142 ?_
    refine lv_if_le (tgt := 150) hx hb dn_Machine_asked_143 (by decide) (fun h => ?_) (fun h => ?_)
    · have hf := (if_pos h).symm.trans hf
      refine lv_iconst (v := 0) hx hb dn_Machine_asked_150 (by decide) ?_
      rw [hQQ, ← Option.some.inj hf]
      exact xk_zret (w1 := fun u : Unit => (wC a v cI cB cJ cZ cQ s)) () hx hb hr rfl hlocks hK hS dn_Machine_asked_151 hP hD rfl (Nat.le_refl _) (Nat.le_refl _)
    · have hf := (if_neg h).symm.trans hf
      refine lv_iconst (v := 1) hx hb dn_Machine_asked_146 (by decide) ?_
      refine lv_goto (tgt := 151) hx hb dn_Machine_asked_147 (by decide) ?_
      rw [hQQ, ← Option.some.inj hf]
      exact xk_zret (w1 := fun u : Unit => (wC a v cI cB cJ cZ cQ s)) () hx hb hr rfl hlocks hK hS dn_Machine_asked_151 hP hD rfl (Nat.le_refl _) (Nat.le_refl _)
  have hf := (if_neg h_6).symm.trans hf
  refine lv_lookup (off := 189) (tgt := 190) hx hb dn_Machine_asked_1 (by decide) (by rw [lv_osw h_0 (by decide)]; rw [lv_osw h_1 (by decide)]; rw [lv_osw h_2 (by decide)]; rw [lv_osw h_3 (by decide)]; rw [lv_osw h_4 (by decide)]; rw [lv_osw h_5 (by decide)]; rw [lv_osw h_6 (by decide)]; rfl) (by decide) ?_
  refine lv_lload_n hx hb dn_Machine_asked_190 rfl (lv_at hl 1 rfl) ?_
  refine lv_lconst (v := 0) hx hb dn_Machine_asked_191 (by decide) ?_
  refine W.lcmp hx hb dn_Machine_asked_192 ?_
  refine lv_if_ne (tgt := 202) hx hb dn_Machine_asked_193 (by decide) (fun h => ?_) (fun h => ?_)
  · have hf := (if_neg h).symm.trans hf
    refine lv_iconst (v := 1) hx hb dn_Machine_asked_202 (by decide) ?_
    refine lv_goto (tgt := 207) hx hb dn_Machine_asked_203 (by decide) ?_
    rw [hQQ, ← Option.some.inj hf]
    exact xk_zret (w1 := fun u : Unit => (wC a v cI cB cJ cZ cQ s)) () hx hb hr rfl hlocks hK hS dn_Machine_asked_207 hP hD rfl (Nat.le_refl _) (Nat.le_refl _)
  · have hf := (if_pos h).symm.trans hf
    refine lv_lload_n hx hb dn_Machine_asked_196 rfl (lv_at hl 2 rfl) ?_
    refine lv_lconst (v := 0) hx hb dn_Machine_asked_197 (by decide) ?_
    refine W.lcmp hx hb dn_Machine_asked_198 ?_
    refine lv_if_eq (tgt := 206) hx hb dn_Machine_asked_199 (by decide) (fun h => ?_) (fun h => ?_)
    · have hf := (if_pos h).symm.trans hf
      refine lv_iconst (v := 0) hx hb dn_Machine_asked_206 (by decide) ?_
      rw [hQQ, ← Option.some.inj hf]
      exact xk_zret (w1 := fun u : Unit => (wC a v cI cB cJ cZ cQ s)) () hx hb hr rfl hlocks hK hS dn_Machine_asked_207 hP hD rfl (Nat.le_refl _) (Nat.le_refl _)
    · have hf := (if_neg h).symm.trans hf
      refine lv_iconst (v := 1) hx hb dn_Machine_asked_202 (by decide) ?_
      refine lv_goto (tgt := 207) hx hb dn_Machine_asked_203 (by decide) ?_
      rw [hQQ, ← Option.some.inj hf]
      exact xk_zret (w1 := fun u : Unit => (wC a v cI cB cJ cZ cQ s)) () hx hb hr rfl hlocks hK hS dn_Machine_asked_207 hP hD rfl (Nat.le_refl _) (Nat.le_refl _)
def fn_Machine_two (N : Nat) (v0 : Int32) (v1 : Int32) (v2 : Int64) (v4 : Int64) (s : ms) : Option (Int64 × ms) :=
  if v0 = 11 then ((fn_Machine_isBeyond N v4 s).bind (fun q_1 => if q_1.1 = 0 then ((fn_C_mask N v1 q_1.2).bind (fun q_4 => some ((((v2 : Int64) <<< ((Int32.toInt64 ((Int64.toInt32 v4))) &&& 63)) &&& q_4.1), q_4.2))) else (some (0, q_1.2)))) else (if v0 = 12 then ((fn_Machine_isBeyond N v4 s).bind (fun q_1 => if q_1.1 = 0 then (some (((Int64.toUInt64 v2 >>> (Int64.toUInt64 (Int32.toInt64 ((Int64.toInt32 v4))) &&& Int64.toUInt64 63)).toInt64), q_1.2)) else (some (0, q_1.2)))) else (if v0 = 38 then (some ((v2 &&& v4), s)) else (if v0 = 42 then ((fn_C_mask N v1 s).bind (fun q_1 => some (((v2 * v4) &&& q_1.1), q_1.2))) else (if v0 = 43 then ((fn_C_mask N v1 s).bind (fun q_1 => some (((v2 + v4) &&& q_1.1), q_1.2))) else (if v0 = 44 then (some ((((v2 : Int64) <<< ((Int32.toInt64 v1) &&& 63)) ||| v4), s)) else (if v0 = 45 then ((fn_C_mask N v1 s).bind (fun q_1 => some (((v2 - v4) &&& q_1.1), q_1.2))) else (if v0 = 91 then ((fn_Machine_isBeyond N v4 s).bind (fun q_1 => if q_1.1 = 0 then (some ((((Int64.toUInt64 v2 >>> (Int64.toUInt64 (Int32.toInt64 ((Int64.toInt32 v4))) &&& Int64.toUInt64 63)).toInt64) &&& 1), q_1.2)) else (some (0, q_1.2)))) else (if v0 = 94 then (some ((v2 ^^^ v4), s)) else (if v0 = 124 then (some ((v2 ||| v4), s)) else ((fn_Machine_asked N v0 v2 v4 s).bind (fun q_1 => if q_1.1 = 0 then (some (0, q_1.2)) else (some (1, q_1.2)))))))))))))
set_option maxHeartbeats 8000000 in
set_option maxRecDepth 100000 in
theorem ct_Machine_two (l : Launch) (dC : Nat → ClassId) (dI : Nat → Nat → Nat) (cI cB cJ cZ cQ : ClassId) (N sz : Nat) (a : Nat → Nat) (v : Nat → Value) (v0 : Int32) (v1 : Int32) (v2 : Int64) (v4 : Int64) (s : ms) (y : (Int64 × ms)) (hf : fn_Machine_two N v0 v1 v2 v4 s = some y) : Met l yn_Machine_two (xw yn_Machine_two bn_Machine_two 6 (some .long)) ({ frames := 1, cells := 0, slots := 0, locals := 24 }) (dc_P (dC, dI) xcl (xt cI cB cJ cZ cQ) [.int v0, .int v1, .long v2, .long v4] sz (wC a v cI cB cJ cZ cQ s)) (xk_Ql (dC, dI) xcl (xt cI cB cJ cZ cQ) (fun (r : Int64) (_ : Unit) => r = y.1) (fun u : Unit => (wC a v cI cB cJ cZ cQ y.2)) (va_A (wC a v cI cB cJ cZ cQ s) sz)) 0 0 (va_A (wC a v cI cB cJ cZ cQ s) sz) := by
  refine dc_of (QA := xk_Ql (dC, dI) xcl (xt cI cB cJ cZ cQ) (fun (r : Int64) (_ : Unit) => r = y.1) (fun u : Unit => (wC a v cI cB cJ cZ cQ y.2))) (by decide) (Nat.le_of_ble_eq_true rfl) ?_
  intro p e s0 m below meth c hx hb hml hown hg hr hlocks hin hP hK hN A hA hD hT ls hl
  have hown : s0.vm.findClass rn_Machine = some m.cls := hown
  obtain ⟨H, hH⟩ : ∃ z, z = s0.heap := ⟨_, rfl⟩
  rw [← hH] at hP
  have hS : va_S A s0.heap H [] := by rw [hH]; exact va_S.rf
  suffices kk : ∀ QQ : State → Prop, QQ = MQ below (xk_Ql (dC, dI) xcl (xt cI cB cJ cZ cQ) (fun (r : Int64) (_ : Unit) => r = y.1) (fun u : Unit => (wC a v cI cB cJ cZ cQ y.2)) A) [.int v0, .int v1, .long v2, .long v4].toArray s0 0 0 A → dcC p l e ({ frames := 1, cells := 0, slots := 0, locals := 24 }) s0 m [.int v0, .int v1, .long v2, .long v4].toArray below meth c QQ (dC, dI) A (wC a v cI cB cJ cZ cQ s) 0 6 [(0, .int v0), (1, .int v1), (2, .long v2), (4, .long v4)] [] by
    have k9 := kk _ rfl H [] ls hP hD hS hl
    rw [hH] at k9; exact k9
  clear hP hD hS hl hH H ls
  intro QQ hQQ
  intro H locs ls hP hD hS hl
  unfold fn_Machine_two at hf
  refine lv_iload_n hx hb dn_Machine_two_0 rfl (lv_at hl 0 rfl) ?_
  by_cases h_0 : v0 = 11
  · have hf := (if_pos h_0).symm.trans hf
    refine xk_ti (y := 11) h_0 ?_
    refine lv_lookup (off := 136) (tgt := 137) hx hb dn_Machine_two_1 (by decide) (by decide) (by decide) ?_
    refine lv_lload hx hb dn_Machine_two_137 (lv_at hl 3 rfl) ?_
    obtain ⟨q_1, hc_2, hf⟩ := dc_b hf
    refine dc_calli (dc_runS (ar := 1) (As := [.long v4]) (rest := []) ⟨hx, hb, hml, hown, hg⟩ hK hN hT hS hA (ct_Machine_isBeyond l dC dI cI cB cJ cZ cQ N H.size a v v4 s q_1 hc_2) hP hD wn_8_1 wn_8_2 wn_1_8 wn_8_3 rfl rfl (by decide +kernel) ⟨Nat.le_of_ble_eq_true rfl, Nat.le_of_ble_eq_true rfl⟩ rfl hl.1 rfl (Nat.le_of_ble_eq_true rfl) dn_Machine_two_139 ⟨Nat.le_of_ble_eq_true rfl, Nat.le_of_ble_eq_true rfl⟩) hP hD hS hA (fun r_3 _ H locs hw hP hD hS => ?_)
    have hw : r_3 = q_1.1 := hw
    subst hw
    refine lv_if_eq (tgt := 149) hx hb dn_Machine_two_142 (by decide) (fun h => ?_) (fun h => ?_)
    · have hf := (if_pos h).symm.trans hf
      refine lv_lload_n hx hb dn_Machine_two_149 rfl (lv_at hl 2 rfl) ?_
      refine lv_lload hx hb dn_Machine_two_150 (lv_at hl 3 rfl) ?_
      refine lv_l2i (v := Int64.toInt32 v4) hx hb dn_Machine_two_152 rfl ?_
      refine lv_lshl (v := (v2 : Int64) <<< ((Int32.toInt64 ((Int64.toInt32 v4))) &&& 63)) hx hb dn_Machine_two_153 rfl ?_
      refine lv_iload_n hx hb dn_Machine_two_154 rfl (lv_at hl 1 rfl) ?_
      obtain ⟨q_4, hc_5, hf⟩ := dc_b hf
      refine dc_calll (dc_runSN (ar := 1) (As := [.int v1]) (rest := [.long (((v2 : Int64) <<< ((Int32.toInt64 ((Int64.toInt32 v4))) &&& 63)))]) (host := "CircuitCycles") ⟨hx, hb, hml, hown, hg⟩ hK hN hT hS hA (ct_C_mask l dC dI cI cB cJ cZ cQ N H.size a v v1 q_1.2 q_4 hc_5) hP hD nl_Machine_142 wn_4_71 wn_1_1 wn_4_72 rfl rfl (by decide +kernel) ⟨Nat.le_of_ble_eq_true rfl, Nat.le_of_ble_eq_true rfl⟩ rfl hl.1 rfl (Nat.le_of_ble_eq_true rfl) dn_Machine_two_155 ⟨Nat.le_of_ble_eq_true rfl, Nat.le_of_ble_eq_true rfl⟩) hP hD hS hA (fun r_6 _ H locs hw hP hD hS => ?_)
      have hw : r_6 = q_4.1 := hw
      subst hw
      refine lv_land hx hb dn_Machine_two_158 ?_
      rw [hQQ, ← Option.some.inj hf]
      exact xk_lret (w1 := fun u : Unit => (wC a v cI cB cJ cZ cQ q_4.2)) () hx hb hr hlocks hK hS dn_Machine_two_159 hP hD rfl (Nat.le_refl _) (Nat.le_refl _)
    · have hf := (if_neg h).symm.trans hf
      refine lv_lconst (v := 0) hx hb dn_Machine_two_145 (by decide) ?_
      refine lv_goto (tgt := 159) hx hb dn_Machine_two_146 (by decide) ?_
      rw [hQQ, ← Option.some.inj hf]
      exact xk_lret (w1 := fun u : Unit => (wC a v cI cB cJ cZ cQ q_1.2)) () hx hb hr hlocks hK hS dn_Machine_two_159 hP hD rfl (Nat.le_refl _) (Nat.le_refl _)
  have hf := (if_neg h_0).symm.trans hf
  by_cases h_1 : v0 = 12
  · have hf := (if_pos h_1).symm.trans hf
    refine xk_ti (y := 12) h_1 ?_
    refine lv_lookup (off := 159) (tgt := 160) hx hb dn_Machine_two_1 (by decide) (by decide) (by decide) ?_
    refine lv_lload hx hb dn_Machine_two_160 (lv_at hl 3 rfl) ?_
    obtain ⟨q_1, hc_2, hf⟩ := dc_b hf
    refine dc_calli (dc_runS (ar := 1) (As := [.long v4]) (rest := []) ⟨hx, hb, hml, hown, hg⟩ hK hN hT hS hA (ct_Machine_isBeyond l dC dI cI cB cJ cZ cQ N H.size a v v4 s q_1 hc_2) hP hD wn_8_1 wn_8_2 wn_1_8 wn_8_3 rfl rfl (by decide +kernel) ⟨Nat.le_of_ble_eq_true rfl, Nat.le_of_ble_eq_true rfl⟩ rfl hl.1 rfl (Nat.le_of_ble_eq_true rfl) dn_Machine_two_162 ⟨Nat.le_of_ble_eq_true rfl, Nat.le_of_ble_eq_true rfl⟩) hP hD hS hA (fun r_3 _ H locs hw hP hD hS => ?_)
    have hw : r_3 = q_1.1 := hw
    subst hw
    refine lv_if_eq (tgt := 172) hx hb dn_Machine_two_165 (by decide) (fun h => ?_) (fun h => ?_)
    · have hf := (if_pos h).symm.trans hf
      refine lv_lload_n hx hb dn_Machine_two_172 rfl (lv_at hl 2 rfl) ?_
      refine lv_lload hx hb dn_Machine_two_173 (lv_at hl 3 rfl) ?_
      refine lv_l2i (v := Int64.toInt32 v4) hx hb dn_Machine_two_175 rfl ?_
      refine lv_lushr (v := (Int64.toUInt64 v2 >>> (Int64.toUInt64 (Int32.toInt64 ((Int64.toInt32 v4))) &&& Int64.toUInt64 63)).toInt64) hx hb dn_Machine_two_176 rfl ?_
      rw [hQQ, ← Option.some.inj hf]
      exact xk_lret (w1 := fun u : Unit => (wC a v cI cB cJ cZ cQ q_1.2)) () hx hb hr hlocks hK hS dn_Machine_two_177 hP hD rfl (Nat.le_refl _) (Nat.le_refl _)
    · have hf := (if_neg h).symm.trans hf
      refine lv_lconst (v := 0) hx hb dn_Machine_two_168 (by decide) ?_
      refine lv_goto (tgt := 177) hx hb dn_Machine_two_169 (by decide) ?_
      rw [hQQ, ← Option.some.inj hf]
      exact xk_lret (w1 := fun u : Unit => (wC a v cI cB cJ cZ cQ q_1.2)) () hx hb hr hlocks hK hS dn_Machine_two_177 hP hD rfl (Nat.le_refl _) (Nat.le_refl _)
  have hf := (if_neg h_1).symm.trans hf
  by_cases h_2 : v0 = 38
  · have hf := (if_pos h_2).symm.trans hf
    refine xk_ti (y := 38) h_2 ?_
    refine lv_lookup (off := 121) (tgt := 122) hx hb dn_Machine_two_1 (by decide) (by decide) (by decide) ?_
    refine lv_lload_n hx hb dn_Machine_two_122 rfl (lv_at hl 2 rfl) ?_
    refine lv_lload hx hb dn_Machine_two_123 (lv_at hl 3 rfl) ?_
    refine lv_land hx hb dn_Machine_two_125 ?_
    rw [hQQ, ← Option.some.inj hf]
    exact xk_lret (w1 := fun u : Unit => (wC a v cI cB cJ cZ cQ s)) () hx hb hr hlocks hK hS dn_Machine_two_126 hP hD rfl (Nat.le_refl _) (Nat.le_refl _)
  have hf := (if_neg h_2).symm.trans hf
  by_cases h_3 : v0 = 42
  · have hf := (if_pos h_3).symm.trans hf
    refine xk_ti (y := 42) h_3 ?_
    refine lv_lookup (off := 111) (tgt := 112) hx hb dn_Machine_two_1 (by decide) (by decide) (by decide) ?_
    refine lv_lload_n hx hb dn_Machine_two_112 rfl (lv_at hl 2 rfl) ?_
    refine lv_lload hx hb dn_Machine_two_113 (lv_at hl 3 rfl) ?_
    refine lv_lmul hx hb dn_Machine_two_115 ?_
    refine lv_iload_n hx hb dn_Machine_two_116 rfl (lv_at hl 1 rfl) ?_
    obtain ⟨q_1, hc_2, hf⟩ := dc_b hf
    refine dc_calll (dc_runSN (ar := 1) (As := [.int v1]) (rest := [.long ((v2 * v4))]) (host := "CircuitCycles") ⟨hx, hb, hml, hown, hg⟩ hK hN hT hS hA (ct_C_mask l dC dI cI cB cJ cZ cQ N H.size a v v1 s q_1 hc_2) hP hD nl_Machine_142 wn_4_71 wn_1_1 wn_4_72 rfl rfl (by decide +kernel) ⟨Nat.le_of_ble_eq_true rfl, Nat.le_of_ble_eq_true rfl⟩ rfl hl.1 rfl (Nat.le_of_ble_eq_true rfl) dn_Machine_two_117 ⟨Nat.le_of_ble_eq_true rfl, Nat.le_of_ble_eq_true rfl⟩) hP hD hS hA (fun r_3 _ H locs hw hP hD hS => ?_)
    have hw : r_3 = q_1.1 := hw
    subst hw
    refine lv_land hx hb dn_Machine_two_120 ?_
    rw [hQQ, ← Option.some.inj hf]
    exact xk_lret (w1 := fun u : Unit => (wC a v cI cB cJ cZ cQ q_1.2)) () hx hb hr hlocks hK hS dn_Machine_two_121 hP hD rfl (Nat.le_refl _) (Nat.le_refl _)
  have hf := (if_neg h_3).symm.trans hf
  by_cases h_4 : v0 = 43
  · have hf := (if_pos h_4).symm.trans hf
    refine xk_ti (y := 43) h_4 ?_
    refine lv_lookup (off := 91) (tgt := 92) hx hb dn_Machine_two_1 (by decide) (by decide) (by decide) ?_
    refine lv_lload_n hx hb dn_Machine_two_92 rfl (lv_at hl 2 rfl) ?_
    refine lv_lload hx hb dn_Machine_two_93 (lv_at hl 3 rfl) ?_
    refine lv_ladd hx hb dn_Machine_two_95 ?_
    refine lv_iload_n hx hb dn_Machine_two_96 rfl (lv_at hl 1 rfl) ?_
    obtain ⟨q_1, hc_2, hf⟩ := dc_b hf
    refine dc_calll (dc_runSN (ar := 1) (As := [.int v1]) (rest := [.long ((v2 + v4))]) (host := "CircuitCycles") ⟨hx, hb, hml, hown, hg⟩ hK hN hT hS hA (ct_C_mask l dC dI cI cB cJ cZ cQ N H.size a v v1 s q_1 hc_2) hP hD nl_Machine_142 wn_4_71 wn_1_1 wn_4_72 rfl rfl (by decide +kernel) ⟨Nat.le_of_ble_eq_true rfl, Nat.le_of_ble_eq_true rfl⟩ rfl hl.1 rfl (Nat.le_of_ble_eq_true rfl) dn_Machine_two_97 ⟨Nat.le_of_ble_eq_true rfl, Nat.le_of_ble_eq_true rfl⟩) hP hD hS hA (fun r_3 _ H locs hw hP hD hS => ?_)
    have hw : r_3 = q_1.1 := hw
    subst hw
    refine lv_land hx hb dn_Machine_two_100 ?_
    rw [hQQ, ← Option.some.inj hf]
    exact xk_lret (w1 := fun u : Unit => (wC a v cI cB cJ cZ cQ q_1.2)) () hx hb hr hlocks hK hS dn_Machine_two_101 hP hD rfl (Nat.le_refl _) (Nat.le_refl _)
  have hf := (if_neg h_4).symm.trans hf
  by_cases h_5 : v0 = 44
  · have hf := (if_pos h_5).symm.trans hf
    refine xk_ti (y := 44) h_5 ?_
    refine lv_lookup (off := 197) (tgt := 198) hx hb dn_Machine_two_1 (by decide) (by decide) (by decide) ?_
    refine lv_lload_n hx hb dn_Machine_two_198 rfl (lv_at hl 2 rfl) ?_
    refine lv_iload_n hx hb dn_Machine_two_199 rfl (lv_at hl 1 rfl) ?_
    refine lv_lshl (v := (v2 : Int64) <<< ((Int32.toInt64 v1) &&& 63)) hx hb dn_Machine_two_200 rfl ?_
    refine lv_lload hx hb dn_Machine_two_201 (lv_at hl 3 rfl) ?_
    refine lv_lor hx hb dn_Machine_two_203 ?_
    rw [hQQ, ← Option.some.inj hf]
    exact xk_lret (w1 := fun u : Unit => (wC a v cI cB cJ cZ cQ s)) () hx hb hr hlocks hK hS dn_Machine_two_204 hP hD rfl (Nat.le_refl _) (Nat.le_refl _)
  have hf := (if_neg h_5).symm.trans hf
  by_cases h_6 : v0 = 45
  · have hf := (if_pos h_6).symm.trans hf
    refine xk_ti (y := 45) h_6 ?_
    refine lv_lookup (off := 101) (tgt := 102) hx hb dn_Machine_two_1 (by decide) (by decide) (by decide) ?_
    refine lv_lload_n hx hb dn_Machine_two_102 rfl (lv_at hl 2 rfl) ?_
    refine lv_lload hx hb dn_Machine_two_103 (lv_at hl 3 rfl) ?_
    refine lv_lsub hx hb dn_Machine_two_105 ?_
    refine lv_iload_n hx hb dn_Machine_two_106 rfl (lv_at hl 1 rfl) ?_
    obtain ⟨q_1, hc_2, hf⟩ := dc_b hf
    refine dc_calll (dc_runSN (ar := 1) (As := [.int v1]) (rest := [.long ((v2 - v4))]) (host := "CircuitCycles") ⟨hx, hb, hml, hown, hg⟩ hK hN hT hS hA (ct_C_mask l dC dI cI cB cJ cZ cQ N H.size a v v1 s q_1 hc_2) hP hD nl_Machine_142 wn_4_71 wn_1_1 wn_4_72 rfl rfl (by decide +kernel) ⟨Nat.le_of_ble_eq_true rfl, Nat.le_of_ble_eq_true rfl⟩ rfl hl.1 rfl (Nat.le_of_ble_eq_true rfl) dn_Machine_two_107 ⟨Nat.le_of_ble_eq_true rfl, Nat.le_of_ble_eq_true rfl⟩) hP hD hS hA (fun r_3 _ H locs hw hP hD hS => ?_)
    have hw : r_3 = q_1.1 := hw
    subst hw
    refine lv_land hx hb dn_Machine_two_110 ?_
    rw [hQQ, ← Option.some.inj hf]
    exact xk_lret (w1 := fun u : Unit => (wC a v cI cB cJ cZ cQ q_1.2)) () hx hb hr hlocks hK hS dn_Machine_two_111 hP hD rfl (Nat.le_refl _) (Nat.le_refl _)
  have hf := (if_neg h_6).symm.trans hf
  by_cases h_7 : v0 = 91
  · have hf := (if_pos h_7).symm.trans hf
    refine xk_ti (y := 91) h_7 ?_
    refine lv_lookup (off := 177) (tgt := 178) hx hb dn_Machine_two_1 (by decide) (by decide) (by decide) ?_
    refine lv_lload hx hb dn_Machine_two_178 (lv_at hl 3 rfl) ?_
    obtain ⟨q_1, hc_2, hf⟩ := dc_b hf
    refine dc_calli (dc_runS (ar := 1) (As := [.long v4]) (rest := []) ⟨hx, hb, hml, hown, hg⟩ hK hN hT hS hA (ct_Machine_isBeyond l dC dI cI cB cJ cZ cQ N H.size a v v4 s q_1 hc_2) hP hD wn_8_1 wn_8_2 wn_1_8 wn_8_3 rfl rfl (by decide +kernel) ⟨Nat.le_of_ble_eq_true rfl, Nat.le_of_ble_eq_true rfl⟩ rfl hl.1 rfl (Nat.le_of_ble_eq_true rfl) dn_Machine_two_180 ⟨Nat.le_of_ble_eq_true rfl, Nat.le_of_ble_eq_true rfl⟩) hP hD hS hA (fun r_3 _ H locs hw hP hD hS => ?_)
    have hw : r_3 = q_1.1 := hw
    subst hw
    refine lv_if_eq (tgt := 190) hx hb dn_Machine_two_183 (by decide) (fun h => ?_) (fun h => ?_)
    · have hf := (if_pos h).symm.trans hf
      refine lv_lload_n hx hb dn_Machine_two_190 rfl (lv_at hl 2 rfl) ?_
      refine lv_lload hx hb dn_Machine_two_191 (lv_at hl 3 rfl) ?_
      refine lv_l2i (v := Int64.toInt32 v4) hx hb dn_Machine_two_193 rfl ?_
      refine lv_lushr (v := (Int64.toUInt64 v2 >>> (Int64.toUInt64 (Int32.toInt64 ((Int64.toInt32 v4))) &&& Int64.toUInt64 63)).toInt64) hx hb dn_Machine_two_194 rfl ?_
      refine lv_lconst (v := 1) hx hb dn_Machine_two_195 (by decide) ?_
      refine lv_land hx hb dn_Machine_two_196 ?_
      rw [hQQ, ← Option.some.inj hf]
      exact xk_lret (w1 := fun u : Unit => (wC a v cI cB cJ cZ cQ q_1.2)) () hx hb hr hlocks hK hS dn_Machine_two_197 hP hD rfl (Nat.le_refl _) (Nat.le_refl _)
    · have hf := (if_neg h).symm.trans hf
      refine lv_lconst (v := 0) hx hb dn_Machine_two_186 (by decide) ?_
      refine lv_goto (tgt := 197) hx hb dn_Machine_two_187 (by decide) ?_
      rw [hQQ, ← Option.some.inj hf]
      exact xk_lret (w1 := fun u : Unit => (wC a v cI cB cJ cZ cQ q_1.2)) () hx hb hr hlocks hK hS dn_Machine_two_197 hP hD rfl (Nat.le_refl _) (Nat.le_refl _)
  have hf := (if_neg h_7).symm.trans hf
  by_cases h_8 : v0 = 94
  · have hf := (if_pos h_8).symm.trans hf
    refine xk_ti (y := 94) h_8 ?_
    refine lv_lookup (off := 131) (tgt := 132) hx hb dn_Machine_two_1 (by decide) (by decide) (by decide) ?_
    refine lv_lload_n hx hb dn_Machine_two_132 rfl (lv_at hl 2 rfl) ?_
    refine lv_lload hx hb dn_Machine_two_133 (lv_at hl 3 rfl) ?_
    refine lv_lxor hx hb dn_Machine_two_135 ?_
    rw [hQQ, ← Option.some.inj hf]
    exact xk_lret (w1 := fun u : Unit => (wC a v cI cB cJ cZ cQ s)) () hx hb hr hlocks hK hS dn_Machine_two_136 hP hD rfl (Nat.le_refl _) (Nat.le_refl _)
  have hf := (if_neg h_8).symm.trans hf
  by_cases h_9 : v0 = 124
  · have hf := (if_pos h_9).symm.trans hf
    refine xk_ti (y := 124) h_9 ?_
    refine lv_lookup (off := 126) (tgt := 127) hx hb dn_Machine_two_1 (by decide) (by decide) (by decide) ?_
    refine lv_lload_n hx hb dn_Machine_two_127 rfl (lv_at hl 2 rfl) ?_
    refine lv_lload hx hb dn_Machine_two_128 (lv_at hl 3 rfl) ?_
    refine lv_lor hx hb dn_Machine_two_130 ?_
    rw [hQQ, ← Option.some.inj hf]
    exact xk_lret (w1 := fun u : Unit => (wC a v cI cB cJ cZ cQ s)) () hx hb hr hlocks hK hS dn_Machine_two_131 hP hD rfl (Nat.le_refl _) (Nat.le_refl _)
  have hf := (if_neg h_9).symm.trans hf
  refine lv_lookup (off := 204) (tgt := 205) hx hb dn_Machine_two_1 (by decide) (by rw [lv_osw h_0 (by decide)]; rw [lv_osw h_1 (by decide)]; rw [lv_osw h_2 (by decide)]; rw [lv_osw h_3 (by decide)]; rw [lv_osw h_4 (by decide)]; rw [lv_osw h_5 (by decide)]; rw [lv_osw h_6 (by decide)]; rw [lv_osw h_7 (by decide)]; rw [lv_osw h_8 (by decide)]; rw [lv_osw h_9 (by decide)]; rfl) (by decide) ?_
  refine lv_iload_n hx hb dn_Machine_two_205 rfl (lv_at hl 0 rfl) ?_
  refine lv_lload_n hx hb dn_Machine_two_206 rfl (lv_at hl 2 rfl) ?_
  refine lv_lload hx hb dn_Machine_two_207 (lv_at hl 3 rfl) ?_
  obtain ⟨q_1, hc_2, hf⟩ := dc_b hf
  refine dc_calli (dc_runS (ar := 3) (As := [.int v0, .long v2, .long v4]) (rest := []) ⟨hx, hb, hml, hown, hg⟩ hK hN hT hS hA (ct_Machine_asked l dC dI cI cB cJ cZ cQ N H.size a v v0 v2 v4 s q_1 hc_2) hP hD wn_8_5 wn_8_6 wn_1_8 wn_8_7 rfl rfl (by decide +kernel) ⟨Nat.le_of_ble_eq_true rfl, Nat.le_of_ble_eq_true rfl⟩ rfl hl.1 rfl (Nat.le_of_ble_eq_true rfl) dn_Machine_two_209 ⟨Nat.le_of_ble_eq_true rfl, Nat.le_of_ble_eq_true rfl⟩) hP hD hS hA (fun r_3 _ H locs hw hP hD hS => ?_)
  have hw : r_3 = q_1.1 := hw
  subst hw
  refine lv_if_eq (tgt := 219) hx hb dn_Machine_two_212 (by decide) (fun h => ?_) (fun h => ?_)
  · have hf := (if_pos h).symm.trans hf
    refine lv_lconst (v := 0) hx hb dn_Machine_two_219 (by decide) ?_
    rw [hQQ, ← Option.some.inj hf]
    exact xk_lret (w1 := fun u : Unit => (wC a v cI cB cJ cZ cQ q_1.2)) () hx hb hr hlocks hK hS dn_Machine_two_220 hP hD rfl (Nat.le_refl _) (Nat.le_refl _)
  · have hf := (if_neg h).symm.trans hf
    refine lv_lconst (v := 1) hx hb dn_Machine_two_215 (by decide) ?_
    refine lv_goto (tgt := 220) hx hb dn_Machine_two_216 (by decide) ?_
    rw [hQQ, ← Option.some.inj hf]
    exact xk_lret (w1 := fun u : Unit => (wC a v cI cB cJ cZ cQ q_1.2)) () hx hb hr hlocks hK hS dn_Machine_two_220 hP hD rfl (Nat.le_refl _) (Nat.le_refl _)
def bd_Machine_repeated_6 (N : Nat) (k_6 : Int32 → Int32 → Int64 → Int64 → Int32 → ms → Option (Int64 × ms)) (x0 : Int32) (x1 : Int32) (x2 : Int64) (x4 : Int64) (x6 : Int32) (s : ms) : Option (Int64 × ms) :=
  if x0 ≤ x6 then (some (x4, s)) else (k_6 x0 x1 x2 ((((x4 : Int64) <<< ((Int32.toInt64 x1) &&& 63)) ||| x2)) ((x6 + 1)) s)
def hd_Machine_repeated_6 (N : Nat) : Nat → Int32 → Int32 → Int64 → Int64 → Int32 → ms → Option (Int64 × ms)
  | 0, _, _, _, _, _, _ => none
  | n + 1, x0, x1, x2, x4, x6, s => bd_Machine_repeated_6 N (hd_Machine_repeated_6 N n) x0 x1 x2 x4 x6 s
def fn_Machine_repeated (N : Nat) (v0 : Int32) (v1 : Int32) (v2 : Int64) (s : ms) : Option (Int64 × ms) :=
  hd_Machine_repeated_6 N N v0 v1 v2 v2 1 s
set_option maxHeartbeats 8000000 in
set_option maxRecDepth 100000 in
theorem ct_Machine_repeated (l : Launch) (dC : Nat → ClassId) (dI : Nat → Nat → Nat) (cI cB cJ cZ cQ : ClassId) (N sz : Nat) (a : Nat → Nat) (v : Nat → Value) (v0 : Int32) (v1 : Int32) (v2 : Int64) (s : ms) (y : (Int64 × ms)) (hf : fn_Machine_repeated N v0 v1 v2 s = some y) : Met l yn_Machine_repeated (xw yn_Machine_repeated bn_Machine_repeated 7 (some .long)) ({ frames := 0, cells := 0, slots := 0, locals := 0 }) (dc_P (dC, dI) xcl (xt cI cB cJ cZ cQ) [.int v0, .int v1, .long v2] sz (wC a v cI cB cJ cZ cQ s)) (xk_Ql (dC, dI) xcl (xt cI cB cJ cZ cQ) (fun (r : Int64) (_ : Unit) => r = y.1) (fun u : Unit => (wC a v cI cB cJ cZ cQ y.2)) (va_A (wC a v cI cB cJ cZ cQ s) sz)) 0 0 (va_A (wC a v cI cB cJ cZ cQ s) sz) := by
  refine dc_of (QA := xk_Ql (dC, dI) xcl (xt cI cB cJ cZ cQ) (fun (r : Int64) (_ : Unit) => r = y.1) (fun u : Unit => (wC a v cI cB cJ cZ cQ y.2))) (by decide) (Nat.le_of_ble_eq_true rfl) ?_
  intro p e s0 m below meth c hx hb hml hown hg hr hlocks hin hP hK hN A hA hD hT ls hl
  have hown : s0.vm.findClass rn_Machine = some m.cls := hown
  obtain ⟨H, hH⟩ : ∃ z, z = s0.heap := ⟨_, rfl⟩
  rw [← hH] at hP
  have hS : va_S A s0.heap H [] := by rw [hH]; exact va_S.rf
  suffices kk : ∀ QQ : State → Prop, QQ = MQ below (xk_Ql (dC, dI) xcl (xt cI cB cJ cZ cQ) (fun (r : Int64) (_ : Unit) => r = y.1) (fun u : Unit => (wC a v cI cB cJ cZ cQ y.2)) A) [.int v0, .int v1, .long v2].toArray s0 0 0 A → dcC p l e ({ frames := 0, cells := 0, slots := 0, locals := 0 }) s0 m [.int v0, .int v1, .long v2].toArray below meth c QQ (dC, dI) A (wC a v cI cB cJ cZ cQ s) 0 7 [(0, .int v0), (1, .int v1), (2, .long v2)] [] by
    have k9 := kk _ rfl H [] ls hP hD hS hl
    rw [hH] at k9; exact k9
  clear hP hD hS hl hH H ls
  intro QQ hQQ
  have hd_6 : ∀ (n : Nat) (x0 : Int32) (x1 : Int32) (x2 : Int64) (x4 : Int64) (x6 : Int32) (s : ms), hd_Machine_repeated_6 N n x0 x1 x2 x4 x6 s = some y → dcC p l e ({ frames := 0, cells := 0, slots := 0, locals := 0 }) s0 m [.int v0, .int v1, .long v2].toArray below meth c QQ (dC, dI) A (wC a v cI cB cJ cZ cQ s) 6 7 [(0, .int x0), (1, .int x1), (2, .long x2), (4, .long x4), (6, .int x6)] [] := by
    intro n
    induction n with
    | zero => intro x0 x1 x2 x4 x6 s hf; cases hf
    | succ n ih =>
      intro x0 x1 x2 x4 x6 s hf H locs ls hP hD hS hl
      have hf : bd_Machine_repeated_6 N (hd_Machine_repeated_6 N n) x0 x1 x2 x4 x6 s = some y := hf
      have hk_6 := ih
      generalize hd_Machine_repeated_6 N n = k_6 at hf hk_6
      unfold bd_Machine_repeated_6 at hf
      refine lv_iload hx hb dn_Machine_repeated_6 (lv_at hl 4 rfl) ?_
      refine lv_iload_n hx hb dn_Machine_repeated_8 rfl (lv_at hl 0 rfl) ?_
      refine lv_icmp_ge (tgt := 26) hx hb dn_Machine_repeated_9 (by decide) (fun h => ?_) (fun h => ?_)
      · have hf := (if_pos h).symm.trans hf
        refine lv_lload hx hb dn_Machine_repeated_26 (lv_at hl 3 rfl) ?_
        rw [hQQ, ← Option.some.inj hf]
        exact xk_lret (w1 := fun u : Unit => (wC a v cI cB cJ cZ cQ s)) () hx hb hr hlocks hK hS dn_Machine_repeated_28 hP hD rfl (Nat.le_refl _) (Nat.le_refl _)
      · have hf := (if_neg h).symm.trans hf
        refine lv_lload hx hb dn_Machine_repeated_12 (lv_at hl 3 rfl) ?_
        refine lv_iload_n hx hb dn_Machine_repeated_14 rfl (lv_at hl 1 rfl) ?_
        refine lv_lshl (v := (x4 : Int64) <<< ((Int32.toInt64 x1) &&& 63)) hx hb dn_Machine_repeated_15 rfl ?_
        refine lv_lload_n hx hb dn_Machine_repeated_16 rfl (lv_at hl 2 rfl) ?_
        refine lv_lor hx hb dn_Machine_repeated_17 ?_
        refine lv_lstore (lv' := [(4, .long ((((x4 : Int64) <<< ((Int32.toInt64 x1) &&& 63)) ||| x2))), (0, .int x0), (1, .int x1), (2, .long x2), (6, .int x6)]) hx hb dn_Machine_repeated_18 hl (by decide) rfl (fun ls hl => ?_)
        refine lv_iinc (v := (x6 + 1)) (lv' := [(6, .int ((x6 + 1))), (4, .long ((((x4 : Int64) <<< ((Int32.toInt64 x1) &&& 63)) ||| x2))), (0, .int x0), (1, .int x1), (2, .long x2)]) hx hb dn_Machine_repeated_20 hl (k := 4) rfl (dc_inc (by decide)) (by decide) rfl (fun ls hl => ?_)
        refine lv_goto (tgt := 6) hx hb dn_Machine_repeated_23 (by decide) ?_
        exact hk_6 x0 x1 x2 ((((x4 : Int64) <<< ((Int32.toInt64 x1) &&& 63)) ||| x2)) ((x6 + 1)) s hf H locs ls hP hD hS (lv_sub hl [2, 3, 4, 1, 0] rfl)
  intro H locs ls hP hD hS hl
  unfold fn_Machine_repeated at hf
  refine lv_lload_n hx hb dn_Machine_repeated_0 rfl (lv_at hl 2 rfl) ?_
  refine lv_lstore (lv' := [(4, .long v2), (0, .int v0), (1, .int v1), (2, .long v2)]) hx hb dn_Machine_repeated_1 hl (by decide) rfl (fun ls hl => ?_)
  refine lv_iconst (v := 1) hx hb dn_Machine_repeated_3 (by decide) ?_
  refine lv_istore (lv' := [(6, .int 1), (4, .long v2), (0, .int v0), (1, .int v1), (2, .long v2)]) hx hb dn_Machine_repeated_4 hl (by decide) rfl (fun ls hl => ?_)
  exact hd_6 N v0 v1 v2 v2 1 s hf H locs ls hP hD hS (lv_sub hl [2, 3, 4, 1, 0] rfl)
def fn_Design_firstPiece_Ds (N : Nat) (v1 : Int32) (s : ms) : Option (Int32 × ms) :=
  (fn_Design_isModule_Ds N v1 s).bind (fun q_1 => if q_1.1 = 0 then (some ((q_1.2.1 317 0), q_1.2)) else (if (v1 < 0 ∨ 3277 ≤ Int32.toNatClampNeg v1) then none else some (((q_1.2.1 315) (Int32.toNatClampNeg v1)), q_1.2)))
set_option maxHeartbeats 8000000 in
set_option maxRecDepth 100000 in
theorem ct_Design_firstPiece_Ds (l : Launch) (dC : Nat → ClassId) (dI : Nat → Nat → Nat) (cI cB cJ cZ cQ : ClassId) (N sz : Nat) (a : Nat → Nat) (v : Nat → Value) (v1 : Int32) (s : ms) (y : (Int32 × ms)) (hf : fn_Design_firstPiece_Ds N v1 s = some y) : Met l yn_Design_firstPiece (xw yn_Design_firstPiece bn_Design_firstPiece 2 (some .int)) ({ frames := 1, cells := 0, slots := 0, locals := 21 }) (dc_P (dC, dI) xcl (xt cI cB cJ cZ cQ) [.ref ((a 109)), .int v1] sz (wC a v cI cB cJ cZ cQ s)) (xk_Qi (dC, dI) xcl (xt cI cB cJ cZ cQ) (fun (r : Int32) (_ : Unit) => r = y.1) (fun u : Unit => (wC a v cI cB cJ cZ cQ y.2)) (va_A (wC a v cI cB cJ cZ cQ s) sz)) 0 0 (va_A (wC a v cI cB cJ cZ cQ s) sz) := by
  refine dc_of (QA := xk_Qi (dC, dI) xcl (xt cI cB cJ cZ cQ) (fun (r : Int32) (_ : Unit) => r = y.1) (fun u : Unit => (wC a v cI cB cJ cZ cQ y.2))) (by decide) (Nat.le_of_ble_eq_true rfl) ?_
  intro p e s0 m below meth c hx hb hml hown hg hr hlocks hin hP hK hN A hA hD hT ls hl
  have hown : s0.vm.findClass rn_Design = some m.cls := hown
  obtain ⟨H, hH⟩ : ∃ z, z = s0.heap := ⟨_, rfl⟩
  rw [← hH] at hP
  have hS : va_S A s0.heap H [] := by rw [hH]; exact va_S.rf
  suffices kk : ∀ QQ : State → Prop, QQ = MQ below (xk_Qi (dC, dI) xcl (xt cI cB cJ cZ cQ) (fun (r : Int32) (_ : Unit) => r = y.1) (fun u : Unit => (wC a v cI cB cJ cZ cQ y.2)) A) [.ref ((a 109)), .int v1].toArray s0 0 0 A → dcC p l e ({ frames := 1, cells := 0, slots := 0, locals := 21 }) s0 m [.ref ((a 109)), .int v1].toArray below meth c QQ (dC, dI) A (wC a v cI cB cJ cZ cQ s) 0 2 [(0, .ref ((a 109))), (1, .int v1)] [] by
    have k9 := kk _ rfl H [] ls hP hD hS hl
    rw [hH] at k9; exact k9
  clear hP hD hS hl hH H ls
  intro QQ hQQ
  intro H locs ls hP hD hS hl
  unfold fn_Design_firstPiece_Ds at hf
  refine lv_aload_n hx hb dn_Design_firstPiece_0 rfl (lv_at hl 0 rfl) ?_
  refine lv_iload_n hx hb dn_Design_firstPiece_1 rfl (lv_at hl 1 rfl) ?_
  obtain ⟨q_1, hc_2, hf⟩ := dc_b hf
  refine dc_calli (dc_runV (ar := 1) (As := [.int v1]) (rest := []) (ci := 10) (q0 := 9) ⟨hx, hb, hml, hown, hg⟩ hK hN hT hS hA (ct_Design_isModule_Ds l dC dI cI cB cJ cZ cQ N H.size a v v1 s q_1 hc_2) hP hD rfl rfl wn_5_91 wn_5_93 sn_Design_isModule wn_1_10 wn_5_94 rfl rfl (by decide +kernel) ⟨Nat.le_of_ble_eq_true rfl, Nat.le_of_ble_eq_true rfl⟩ rfl hl.1 rfl (Nat.le_of_ble_eq_true rfl) dn_Design_firstPiece_2 ⟨Nat.le_of_ble_eq_true rfl, Nat.le_of_ble_eq_true rfl⟩) hP hD hS hA (fun r_3 _ H locs hw hP hD hS => ?_)
  have hw : r_3 = q_1.1 := hw
  subst hw
  refine lv_if_eq (tgt := 17) hx hb dn_Design_firstPiece_5 (by decide) (fun h => ?_) (fun h => ?_)
  · have hf := (if_pos h).symm.trans hf
    refine lv_aload_n hx hb dn_Design_firstPiece_17 rfl (lv_at hl 0 rfl) ?_
    refine va_get (D := (dC, dI)) (ci := 10) (v := .int ((q_1.2.1 317 0))) (C := rn_Design) (T := fn_Design) (N := 16) hx hb hg in_Design hown hK hP 9 rfl rfl 12 (by decide) (hg _ wn_3_21) (fun _ h9 => h9) rfl dn_Design_firstPiece_18 ?_
    rw [hQQ, ← Option.some.inj hf]
    exact xk_iret (w1 := fun u : Unit => (wC a v cI cB cJ cZ cQ q_1.2)) () hx hb hr hlocks hK hS dn_Design_firstPiece_21 hP hD rfl (Nat.le_refl _) (Nat.le_refl _)
  · have hf := (if_neg h).symm.trans hf
    refine lv_aload_n hx hb dn_Design_firstPiece_8 rfl (lv_at hl 0 rfl) ?_
    refine va_get (D := (dC, dI)) (ci := 10) (v := .ref ((a 315))) (C := rn_Design) (T := fn_Design) (N := 16) hx hb hg in_Design hown hK hP 9 rfl rfl 10 (by decide) (hg _ wn_3_19) (fun _ h9 => h9) rfl dn_Design_firstPiece_9 ?_
    refine lv_iload_n hx hb dn_Design_firstPiece_12 rfl (lv_at hl 1 rfl) ?_
    obtain ⟨hg_4, hf⟩ := dc_g hf
    refine va_iald hx hb hK hP 57 0 rfl rfl hg_4 dn_Design_firstPiece_13 ?_
    refine xk_ti (y := ((q_1.2.1 315) (Int32.toNatClampNeg v1))) rfl ?_
    refine lv_goto (tgt := 21) hx hb dn_Design_firstPiece_14 (by decide) ?_
    rw [hQQ, ← Option.some.inj hf]
    exact xk_iret (w1 := fun u : Unit => (wC a v cI cB cJ cZ cQ q_1.2)) () hx hb hr hlocks hK hS dn_Design_firstPiece_21 hP hD rfl (Nat.le_refl _) (Nat.le_refl _)
def fn_Design_firstPiece_Dc (N : Nat) (v1 : Int32) (s : ms) : Option (Int32 × ms) :=
  (fn_Design_isModule_Dc N v1 s).bind (fun q_1 => if q_1.1 = 0 then (some ((q_1.2.1 367 0), q_1.2)) else (if (v1 < 0 ∨ 3277 ≤ Int32.toNatClampNeg v1) then none else some (((q_1.2.1 365) (Int32.toNatClampNeg v1)), q_1.2)))
set_option maxHeartbeats 8000000 in
set_option maxRecDepth 100000 in
theorem ct_Design_firstPiece_Dc (l : Launch) (dC : Nat → ClassId) (dI : Nat → Nat → Nat) (cI cB cJ cZ cQ : ClassId) (N sz : Nat) (a : Nat → Nat) (v : Nat → Value) (v1 : Int32) (s : ms) (y : (Int32 × ms)) (hf : fn_Design_firstPiece_Dc N v1 s = some y) : Met l yn_Design_firstPiece (xw yn_Design_firstPiece bn_Design_firstPiece 2 (some .int)) ({ frames := 1, cells := 0, slots := 0, locals := 21 }) (dc_P (dC, dI) xcl (xt cI cB cJ cZ cQ) [.ref ((a 113)), .int v1] sz (wC a v cI cB cJ cZ cQ s)) (xk_Qi (dC, dI) xcl (xt cI cB cJ cZ cQ) (fun (r : Int32) (_ : Unit) => r = y.1) (fun u : Unit => (wC a v cI cB cJ cZ cQ y.2)) (va_A (wC a v cI cB cJ cZ cQ s) sz)) 0 0 (va_A (wC a v cI cB cJ cZ cQ s) sz) := by
  refine dc_of (QA := xk_Qi (dC, dI) xcl (xt cI cB cJ cZ cQ) (fun (r : Int32) (_ : Unit) => r = y.1) (fun u : Unit => (wC a v cI cB cJ cZ cQ y.2))) (by decide) (Nat.le_of_ble_eq_true rfl) ?_
  intro p e s0 m below meth c hx hb hml hown hg hr hlocks hin hP hK hN A hA hD hT ls hl
  have hown : s0.vm.findClass rn_Design = some m.cls := hown
  obtain ⟨H, hH⟩ : ∃ z, z = s0.heap := ⟨_, rfl⟩
  rw [← hH] at hP
  have hS : va_S A s0.heap H [] := by rw [hH]; exact va_S.rf
  suffices kk : ∀ QQ : State → Prop, QQ = MQ below (xk_Qi (dC, dI) xcl (xt cI cB cJ cZ cQ) (fun (r : Int32) (_ : Unit) => r = y.1) (fun u : Unit => (wC a v cI cB cJ cZ cQ y.2)) A) [.ref ((a 113)), .int v1].toArray s0 0 0 A → dcC p l e ({ frames := 1, cells := 0, slots := 0, locals := 21 }) s0 m [.ref ((a 113)), .int v1].toArray below meth c QQ (dC, dI) A (wC a v cI cB cJ cZ cQ s) 0 2 [(0, .ref ((a 113))), (1, .int v1)] [] by
    have k9 := kk _ rfl H [] ls hP hD hS hl
    rw [hH] at k9; exact k9
  clear hP hD hS hl hH H ls
  intro QQ hQQ
  intro H locs ls hP hD hS hl
  unfold fn_Design_firstPiece_Dc at hf
  refine lv_aload_n hx hb dn_Design_firstPiece_0 rfl (lv_at hl 0 rfl) ?_
  refine lv_iload_n hx hb dn_Design_firstPiece_1 rfl (lv_at hl 1 rfl) ?_
  obtain ⟨q_1, hc_2, hf⟩ := dc_b hf
  refine dc_calli (dc_runV (ar := 1) (As := [.int v1]) (rest := []) (ci := 10) (q0 := 13) ⟨hx, hb, hml, hown, hg⟩ hK hN hT hS hA (ct_Design_isModule_Dc l dC dI cI cB cJ cZ cQ N H.size a v v1 s q_1 hc_2) hP hD rfl rfl wn_5_91 wn_5_93 sn_Design_isModule wn_1_10 wn_5_94 rfl rfl (by decide +kernel) ⟨Nat.le_of_ble_eq_true rfl, Nat.le_of_ble_eq_true rfl⟩ rfl hl.1 rfl (Nat.le_of_ble_eq_true rfl) dn_Design_firstPiece_2 ⟨Nat.le_of_ble_eq_true rfl, Nat.le_of_ble_eq_true rfl⟩) hP hD hS hA (fun r_3 _ H locs hw hP hD hS => ?_)
  have hw : r_3 = q_1.1 := hw
  subst hw
  refine lv_if_eq (tgt := 17) hx hb dn_Design_firstPiece_5 (by decide) (fun h => ?_) (fun h => ?_)
  · have hf := (if_pos h).symm.trans hf
    refine lv_aload_n hx hb dn_Design_firstPiece_17 rfl (lv_at hl 0 rfl) ?_
    refine va_get (D := (dC, dI)) (ci := 10) (v := .int ((q_1.2.1 367 0))) (C := rn_Design) (T := fn_Design) (N := 16) hx hb hg in_Design hown hK hP 13 rfl rfl 12 (by decide) (hg _ wn_3_21) (fun _ h9 => h9) rfl dn_Design_firstPiece_18 ?_
    rw [hQQ, ← Option.some.inj hf]
    exact xk_iret (w1 := fun u : Unit => (wC a v cI cB cJ cZ cQ q_1.2)) () hx hb hr hlocks hK hS dn_Design_firstPiece_21 hP hD rfl (Nat.le_refl _) (Nat.le_refl _)
  · have hf := (if_neg h).symm.trans hf
    refine lv_aload_n hx hb dn_Design_firstPiece_8 rfl (lv_at hl 0 rfl) ?_
    refine va_get (D := (dC, dI)) (ci := 10) (v := .ref ((a 365))) (C := rn_Design) (T := fn_Design) (N := 16) hx hb hg in_Design hown hK hP 13 rfl rfl 10 (by decide) (hg _ wn_3_19) (fun _ h9 => h9) rfl dn_Design_firstPiece_9 ?_
    refine lv_iload_n hx hb dn_Design_firstPiece_12 rfl (lv_at hl 1 rfl) ?_
    obtain ⟨hg_4, hf⟩ := dc_g hf
    refine va_iald hx hb hK hP 91 0 rfl rfl hg_4 dn_Design_firstPiece_13 ?_
    refine xk_ti (y := ((q_1.2.1 365) (Int32.toNatClampNeg v1))) rfl ?_
    refine lv_goto (tgt := 21) hx hb dn_Design_firstPiece_14 (by decide) ?_
    rw [hQQ, ← Option.some.inj hf]
    exact xk_iret (w1 := fun u : Unit => (wC a v cI cB cJ cZ cQ q_1.2)) () hx hb hr hlocks hK hS dn_Design_firstPiece_21 hP hD rfl (Nat.le_refl _) (Nat.le_refl _)
