set_option maxHeartbeats 8000000 in
set_option maxRecDepth 100000 in
theorem ct_Scanner_decimal_Sc (l : Launch) (dC : Nat → ClassId) (dI : Nat → Nat → Nat) (cI cB cJ cZ cQ : ClassId) (N sz : Nat) (a : Nat → Nat) (v : Nat → Value) (hv_0 : v 0 = .ref (a 307)) (v1 : Int32) (v2 : Int32) (v3 : Int32) (s : ms) (y : (Int32 × ms)) (hf : fn_Scanner_decimal_Sc N v1 v2 v3 s = some y) : Met l yn_Scanner_decimal (xw yn_Scanner_decimal bn_Scanner_decimal 7 (some .int)) ({ frames := 2, cells := 0, slots := 0, locals := 40 }) (dc_P (dC, dI) xcl (xt cI cB cJ cZ cQ) [.ref ((a 102)), .int v1, .int v2, .int v3] sz (wC a v cI cB cJ cZ cQ s)) (xk_Qi (dC, dI) xcl (xt cI cB cJ cZ cQ) (fun (r : Int32) (_ : Unit) => r = y.1) (fun u : Unit => (wC a v cI cB cJ cZ cQ y.2)) (va_A (wC a v cI cB cJ cZ cQ s) sz)) 0 0 (va_A (wC a v cI cB cJ cZ cQ s) sz) := by
  refine dc_of (QA := xk_Qi (dC, dI) xcl (xt cI cB cJ cZ cQ) (fun (r : Int32) (_ : Unit) => r = y.1) (fun u : Unit => (wC a v cI cB cJ cZ cQ y.2))) (by decide) (Nat.le_of_ble_eq_true rfl) ?_
  intro p e s0 m below meth c hx hb hml hown hg hr hlocks hin hP hK hN A hA hD hT ls hl
  have hown : s0.vm.findClass rn_Scanner = some m.cls := hown
  obtain ⟨H, hH⟩ : ∃ z, z = s0.heap := ⟨_, rfl⟩
  rw [← hH] at hP
  have hS : va_S A s0.heap H [] := by rw [hH]; exact va_S.rf
  suffices kk : ∀ QQ : State → Prop, QQ = MQ below (xk_Qi (dC, dI) xcl (xt cI cB cJ cZ cQ) (fun (r : Int32) (_ : Unit) => r = y.1) (fun u : Unit => (wC a v cI cB cJ cZ cQ y.2)) A) [.ref ((a 102)), .int v1, .int v2, .int v3].toArray s0 0 0 A → dcC p l e ({ frames := 2, cells := 0, slots := 0, locals := 40 }) s0 m [.ref ((a 102)), .int v1, .int v2, .int v3].toArray below meth c QQ (dC, dI) A (wC a v cI cB cJ cZ cQ s) 0 7 [(0, .ref ((a 102))), (1, .int v1), (2, .int v2), (3, .int v3)] [] by
    have k9 := kk _ rfl H [] ls hP hD hS hl
    rw [hH] at k9; exact k9
  clear hP hD hS hl hH H ls
  intro QQ hQQ
  have hd_6 : ∀ (n : Nat) (x2 : Int32) (x3 : Int32) (x4 : Int32) (x5 : Int32) (s : ms), hd_Scanner_decimal_Sc_6 N n x2 x3 x4 x5 s = some y → dcC p l e ({ frames := 2, cells := 0, slots := 0, locals := 40 }) s0 m [.ref ((a 102)), .int v1, .int v2, .int v3].toArray below meth c QQ (dC, dI) A (wC a v cI cB cJ cZ cQ s) 6 7 [(0, .ref ((a 102))), (2, .int x2), (3, .int x3), (4, .int x4), (5, .int x5)] [] := by
    intro n
    induction n with
    | zero => intro x2 x3 x4 x5 s hf; cases hf
    | succ n ih =>
      intro x2 x3 x4 x5 s hf H locs ls hP hD hS hl
      have hf : bd_Scanner_decimal_Sc_6 N (hd_Scanner_decimal_Sc_6 N n) x2 x3 x4 x5 s = some y := hf
      have hk_6 := ih
      generalize hd_Scanner_decimal_Sc_6 N n = k_6 at hf hk_6
      unfold bd_Scanner_decimal_Sc_6 at hf
      refine lv_iload hx hb dn_Scanner_decimal_6 (lv_at hl 4 rfl) ?_
      refine lv_iload_n hx hb dn_Scanner_decimal_8 rfl (lv_at hl 1 rfl) ?_
      refine lv_icmp_ge (tgt := 54) hx hb dn_Scanner_decimal_9 (by decide) (fun h => ?_) (fun h => ?_)
      · have hf := (if_pos h).symm.trans hf
        refine lv_iload hx hb dn_Scanner_decimal_54 (lv_at hl 3 rfl) ?_
        refine lv_iload_n hx hb dn_Scanner_decimal_56 rfl (lv_at hl 2 rfl) ?_
        refine lv_icmp_le (tgt := 64) hx hb dn_Scanner_decimal_57 (by decide) (fun h => ?_) (fun h => ?_)
        · have hf := (if_pos h).symm.trans hf
          refine lv_iload hx hb dn_Scanner_decimal_64 (lv_at hl 3 rfl) ?_
          rw [hQQ, ← Option.some.inj hf]
          exact xk_iret (w1 := fun u : Unit => (wC a v cI cB cJ cZ cQ s)) () hx hb hr hlocks hK hS dn_Scanner_decimal_66 hP hD rfl (Nat.le_refl _) (Nat.le_refl _)
        · have hf := (if_neg h).symm.trans hf
          refine lv_iconst (v := (-1)) hx hb dn_Scanner_decimal_60 (by decide) ?_
          refine lv_goto (tgt := 66) hx hb dn_Scanner_decimal_61 (by decide) ?_
          rw [hQQ, ← Option.some.inj hf]
          exact xk_iret (w1 := fun u : Unit => (wC a v cI cB cJ cZ cQ s)) () hx hb hr hlocks hK hS dn_Scanner_decimal_66 hP hD rfl (Nat.le_refl _) (Nat.le_refl _)
      · have hf := (if_neg h).symm.trans hf
        refine lv_aload_n hx hb dn_Scanner_decimal_12 rfl (lv_at hl 0 rfl) ?_
        refine lv_iload hx hb dn_Scanner_decimal_13 (lv_at hl 4 rfl) ?_
        obtain ⟨q_1, hc_2, hf⟩ := dc_b hf
        refine dc_calli (dc_runV (ar := 1) (As := [.int x5]) (rest := []) (ci := 3) (q0 := 2) ⟨hx, hb, hml, hown, hg⟩ hK hN hT hS hA (ct_Scanner_byteAt_Sc l dC dI cI cB cJ cZ cQ N H.size a v hv_0 x5 s q_1 hc_2) hP hD rfl rfl wn_3_194 wn_3_196 sn_Scanner_byteAt wn_1_3 wn_3_197 rfl rfl (by decide +kernel) ⟨Nat.le_of_ble_eq_true rfl, Nat.le_of_ble_eq_true rfl⟩ rfl hl.1 rfl (Nat.le_of_ble_eq_true rfl) dn_Scanner_decimal_15 ⟨Nat.le_of_ble_eq_true rfl, Nat.le_of_ble_eq_true rfl⟩) hP hD hS hA (fun r_3 _ H locs hw hP hD hS => ?_)
        have hw : r_3 = q_1.1 := hw
        subst hw
        obtain ⟨q_4, hc_5, hf⟩ := dc_b hf
        refine dc_calli (dc_runS (ar := 1) (As := [.int q_1.1]) (rest := []) ⟨hx, hb, hml, hown, hg⟩ hK hN hT hS hA (ct_Scanner_digitOf l dC dI cI cB cJ cZ cQ N H.size a v q_1.1 q_1.2 q_4 hc_5) hP hD wn_4_62 wn_4_63 wn_1_3 wn_4_64 rfl rfl (by decide +kernel) ⟨Nat.le_of_ble_eq_true rfl, Nat.le_of_ble_eq_true rfl⟩ rfl hl.1 rfl (Nat.le_of_ble_eq_true rfl) dn_Scanner_decimal_18 ⟨Nat.le_of_ble_eq_true rfl, Nat.le_of_ble_eq_true rfl⟩) hP hD hS hA (fun r_6 _ H locs hw hP hD hS => ?_)
        have hw : r_6 = q_4.1 := hw
        subst hw
        refine lv_istore (lv' := [(6, .int q_4.1), (0, .ref ((a 102))), (2, .int x2), (3, .int x3), (4, .int x4), (5, .int x5)]) hx hb dn_Scanner_decimal_21 hl (by decide) rfl (fun ls hl => ?_)
        refine lv_iload hx hb dn_Scanner_decimal_23 (lv_at hl 0 rfl) ?_
        refine lv_bipush (v := 9) hx hb dn_Scanner_decimal_25 (by decide) ?_
        refine lv_icmp_le (tgt := 32) hx hb dn_Scanner_decimal_27 (by decide) (fun h => ?_) (fun h => ?_)
        · have hf := (if_pos h).symm.trans hf
          refine lv_iload_n hx hb dn_Scanner_decimal_32 rfl (lv_at hl 3 rfl) ?_
          refine lv_iconst (v := 1) hx hb dn_Scanner_decimal_33 (by decide) ?_
          refine lv_iadd hx hb dn_Scanner_decimal_34 ?_
          refine lv_bipush (v := 10) hx hb dn_Scanner_decimal_35 (by decide) ?_
          refine lv_iload hx hb dn_Scanner_decimal_37 (lv_at hl 4 rfl) ?_
          refine lv_imul hx hb dn_Scanner_decimal_39 ?_
          refine lv_iload hx hb dn_Scanner_decimal_40 (lv_at hl 0 rfl) ?_
          refine lv_iadd hx hb dn_Scanner_decimal_42 ?_
          refine va_mmin (x := (x3 + 1)) (y := ((10 * x4) + q_4.1)) (rest := []) hx hb (by rw [hml]; exact hl.1.symm) hown (hg _ wn_3_182) (hg _ wn_3_168) (hg _ wn_1_19) (hg _ wn_3_169) (Nat.le_of_ble_eq_true rfl) (Nat.le_of_ble_eq_true rfl) (Nat.zero_le _) (Nat.zero_le _) dn_Scanner_decimal_43 ?_
          refine lv_istore (lv' := [(4, .int ((if ((10 * x4) + q_4.1) < (x3 + 1) then ((10 * x4) + q_4.1) else (x3 + 1)))), (6, .int q_4.1), (0, .ref ((a 102))), (2, .int x2), (3, .int x3), (5, .int x5)]) hx hb dn_Scanner_decimal_46 hl (by decide) rfl (fun ls hl => ?_)
          refine lv_iinc (v := (x5 + 1)) (lv' := [(5, .int ((x5 + 1))), (4, .int ((if ((10 * x4) + q_4.1) < (x3 + 1) then ((10 * x4) + q_4.1) else (x3 + 1)))), (6, .int q_4.1), (0, .ref ((a 102))), (2, .int x2), (3, .int x3)]) hx hb dn_Scanner_decimal_48 hl (k := 5) rfl (dc_inc (by decide)) (by decide) rfl (fun ls hl => ?_)
          refine lv_goto (tgt := 6) hx hb dn_Scanner_decimal_51 (by decide) ?_
          exact hk_6 x2 x3 ((if ((10 * x4) + q_4.1) < (x3 + 1) then ((10 * x4) + q_4.1) else (x3 + 1))) ((x5 + 1)) q_4.2 hf H locs ls hP hD hS (lv_sub hl [3, 4, 5, 1, 0] rfl)
        · have hf := (if_neg h).symm.trans hf
          refine lv_iconst (v := (-1)) hx hb dn_Scanner_decimal_30 (by decide) ?_
          rw [hQQ, ← Option.some.inj hf]
          exact xk_iret (w1 := fun u : Unit => (wC a v cI cB cJ cZ cQ q_4.2)) () hx hb hr hlocks hK hS dn_Scanner_decimal_31 hP hD rfl (Nat.le_refl _) (Nat.le_refl _)
  intro H locs ls hP hD hS hl
  unfold fn_Scanner_decimal_Sc at hf
  refine lv_iconst (v := 0) hx hb dn_Scanner_decimal_0 (by decide) ?_
  refine lv_istore (lv' := [(4, .int 0), (0, .ref ((a 102))), (1, .int v1), (2, .int v2), (3, .int v3)]) hx hb dn_Scanner_decimal_1 hl (by decide) rfl (fun ls hl => ?_)
  refine lv_iload_n hx hb dn_Scanner_decimal_3 rfl (lv_at hl 2 rfl) ?_
  refine lv_istore (lv' := [(5, .int v1), (4, .int 0), (0, .ref ((a 102))), (1, .int v1), (2, .int v2), (3, .int v3)]) hx hb dn_Scanner_decimal_4 hl (by decide) rfl (fun ls hl => ?_)
  exact hd_6 N v2 v3 0 v1 s hf H locs ls hP hD hS (lv_sub hl [2, 4, 5, 1, 0] rfl)
set_option maxHeartbeats 8000000 in
set_option maxRecDepth 100000 in
theorem ct_Scanner_shiftOf (l : Launch) (dC : Nat → ClassId) (dI : Nat → Nat → Nat) (cI cB cJ cZ cQ : ClassId) (N sz : Nat) (a : Nat → Nat) (v : Nat → Value) (v0 : Int32) (s : ms) (y : (Int32 × ms)) (hf : fn_Scanner_shiftOf N v0 s = some y) : Met l yn_Scanner_shiftOf (xw yn_Scanner_shiftOf bn_Scanner_shiftOf 1 (some .int)) ({ frames := 0, cells := 0, slots := 0, locals := 0 }) (dc_P (dC, dI) xcl (xt cI cB cJ cZ cQ) [.int v0] sz (wC a v cI cB cJ cZ cQ s)) (xk_Qi (dC, dI) xcl (xt cI cB cJ cZ cQ) (fun (r : Int32) (_ : Unit) => r = y.1) (fun u : Unit => (wC a v cI cB cJ cZ cQ y.2)) (va_A (wC a v cI cB cJ cZ cQ s) sz)) 0 0 (va_A (wC a v cI cB cJ cZ cQ s) sz) := by
  refine dc_of (QA := xk_Qi (dC, dI) xcl (xt cI cB cJ cZ cQ) (fun (r : Int32) (_ : Unit) => r = y.1) (fun u : Unit => (wC a v cI cB cJ cZ cQ y.2))) (by decide) (Nat.le_of_ble_eq_true rfl) ?_
  intro p e s0 m below meth c hx hb hml hown hg hr hlocks hin hP hK hN A hA hD hT ls hl
  have hown : s0.vm.findClass rn_Scanner = some m.cls := hown
  obtain ⟨H, hH⟩ : ∃ z, z = s0.heap := ⟨_, rfl⟩
  rw [← hH] at hP
  have hS : va_S A s0.heap H [] := by rw [hH]; exact va_S.rf
  suffices kk : ∀ QQ : State → Prop, QQ = MQ below (xk_Qi (dC, dI) xcl (xt cI cB cJ cZ cQ) (fun (r : Int32) (_ : Unit) => r = y.1) (fun u : Unit => (wC a v cI cB cJ cZ cQ y.2)) A) [.int v0].toArray s0 0 0 A → dcC p l e ({ frames := 0, cells := 0, slots := 0, locals := 0 }) s0 m [.int v0].toArray below meth c QQ (dC, dI) A (wC a v cI cB cJ cZ cQ s) 0 1 [(0, .int v0)] [] by
    have k9 := kk _ rfl H [] ls hP hD hS hl
    rw [hH] at k9; exact k9
  clear hP hD hS hl hH H ls
  intro QQ hQQ
  intro H locs ls hP hD hS hl
  unfold fn_Scanner_shiftOf at hf
  refine lv_iload_n hx hb dn_Scanner_shiftOf_0 rfl (lv_at hl 0 rfl) ?_
  by_cases h_0 : v0 = 98
  · have hf := (if_pos h_0).symm.trans hf
    refine xk_ti (y := 98) h_0 ?_
    refine lv_lookup (off := 43) (tgt := 44) hx hb dn_Scanner_shiftOf_1 (by decide) (by decide) (by decide) ?_
    refine lv_iconst (v := 1) hx hb dn_Scanner_shiftOf_44 (by decide) ?_
    rw [hQQ, ← Option.some.inj hf]
    exact xk_iret (w1 := fun u : Unit => (wC a v cI cB cJ cZ cQ s)) () hx hb hr hlocks hK hS dn_Scanner_shiftOf_45 hP hD rfl (Nat.le_refl _) (Nat.le_refl _)
  have hf := (if_neg h_0).symm.trans hf
  by_cases h_1 : v0 = 100
  · have hf := (if_pos h_1).symm.trans hf
    refine xk_ti (y := 100) h_1 ?_
    refine lv_lookup (off := 47) (tgt := 48) hx hb dn_Scanner_shiftOf_1 (by decide) (by decide) (by decide) ?_
    refine lv_iconst (v := 0) hx hb dn_Scanner_shiftOf_48 (by decide) ?_
    rw [hQQ, ← Option.some.inj hf]
    exact xk_iret (w1 := fun u : Unit => (wC a v cI cB cJ cZ cQ s)) () hx hb hr hlocks hK hS dn_Scanner_shiftOf_49 hP hD rfl (Nat.le_refl _) (Nat.le_refl _)
  have hf := (if_neg h_1).symm.trans hf
  by_cases h_2 : v0 = 104
  · have hf := (if_pos h_2).symm.trans hf
    refine xk_ti (y := 104) h_2 ?_
    refine lv_lookup (off := 49) (tgt := 50) hx hb dn_Scanner_shiftOf_1 (by decide) (by decide) (by decide) ?_
    refine lv_iconst (v := 4) hx hb dn_Scanner_shiftOf_50 (by decide) ?_
    rw [hQQ, ← Option.some.inj hf]
    exact xk_iret (w1 := fun u : Unit => (wC a v cI cB cJ cZ cQ s)) () hx hb hr hlocks hK hS dn_Scanner_shiftOf_51 hP hD rfl (Nat.le_refl _) (Nat.le_refl _)
  have hf := (if_neg h_2).symm.trans hf
  by_cases h_3 : v0 = 111
  · have hf := (if_pos h_3).symm.trans hf
    refine xk_ti (y := 111) h_3 ?_
    refine lv_lookup (off := 45) (tgt := 46) hx hb dn_Scanner_shiftOf_1 (by decide) (by decide) (by decide) ?_
    refine lv_iconst (v := 3) hx hb dn_Scanner_shiftOf_46 (by decide) ?_
    rw [hQQ, ← Option.some.inj hf]
    exact xk_iret (w1 := fun u : Unit => (wC a v cI cB cJ cZ cQ s)) () hx hb hr hlocks hK hS dn_Scanner_shiftOf_47 hP hD rfl (Nat.le_refl _) (Nat.le_refl _)
  have hf := (if_neg h_3).symm.trans hf
  refine lv_lookup (off := 51) (tgt := 52) hx hb dn_Scanner_shiftOf_1 (by decide) (by rw [lv_osw h_0 (by decide)]; rw [lv_osw h_1 (by decide)]; rw [lv_osw h_2 (by decide)]; rw [lv_osw h_3 (by decide)]; rfl) (by decide) ?_
  refine lv_iconst (v := (-1)) hx hb dn_Scanner_shiftOf_52 (by decide) ?_
  rw [hQQ, ← Option.some.inj hf]
  exact xk_iret (w1 := fun u : Unit => (wC a v cI cB cJ cZ cQ s)) () hx hb hr hlocks hK hS dn_Scanner_shiftOf_53 hP hD rfl (Nat.le_refl _) (Nat.le_refl _)
set_option maxHeartbeats 8000000 in
set_option maxRecDepth 100000 in
theorem ct_C_mask (l : Launch) (dC : Nat → ClassId) (dI : Nat → Nat → Nat) (cI cB cJ cZ cQ : ClassId) (N sz : Nat) (a : Nat → Nat) (v : Nat → Value) (v0 : Int32) (s : ms) (y : (Int64 × ms)) (hf : fn_C_mask N v0 s = some y) : Met l yn_C_mask (xw yn_C_mask bn_C_mask 1 (some .long)) ({ frames := 0, cells := 0, slots := 0, locals := 0 }) (dc_P (dC, dI) xcl (xt cI cB cJ cZ cQ) [.int v0] sz (wC a v cI cB cJ cZ cQ s)) (xk_Ql (dC, dI) xcl (xt cI cB cJ cZ cQ) (fun (r : Int64) (_ : Unit) => r = y.1) (fun u : Unit => (wC a v cI cB cJ cZ cQ y.2)) (va_A (wC a v cI cB cJ cZ cQ s) sz)) 0 0 (va_A (wC a v cI cB cJ cZ cQ s) sz) := by
  refine dc_of (QA := xk_Ql (dC, dI) xcl (xt cI cB cJ cZ cQ) (fun (r : Int64) (_ : Unit) => r = y.1) (fun u : Unit => (wC a v cI cB cJ cZ cQ y.2))) (by decide) (Nat.le_of_ble_eq_true rfl) ?_
  intro p e s0 m below meth c hx hb hml hown hg hr hlocks hin hP hK hN A hA hD hT ls hl
  have hown : s0.vm.findClass rn_C = some m.cls := hown
  obtain ⟨H, hH⟩ : ∃ z, z = s0.heap := ⟨_, rfl⟩
  rw [← hH] at hP
  have hS : va_S A s0.heap H [] := by rw [hH]; exact va_S.rf
  suffices kk : ∀ QQ : State → Prop, QQ = MQ below (xk_Ql (dC, dI) xcl (xt cI cB cJ cZ cQ) (fun (r : Int64) (_ : Unit) => r = y.1) (fun u : Unit => (wC a v cI cB cJ cZ cQ y.2)) A) [.int v0].toArray s0 0 0 A → dcC p l e ({ frames := 0, cells := 0, slots := 0, locals := 0 }) s0 m [.int v0].toArray below meth c QQ (dC, dI) A (wC a v cI cB cJ cZ cQ s) 0 1 [(0, .int v0)] [] by
    have k9 := kk _ rfl H [] ls hP hD hS hl
    rw [hH] at k9; exact k9
  clear hP hD hS hl hH H ls
  intro QQ hQQ
  intro H locs ls hP hD hS hl
  unfold fn_C_mask at hf
  refine lv_iload_n hx hb dn_C_mask_0 rfl (lv_at hl 0 rfl) ?_
  refine lv_bipush (v := 64) hx hb dn_C_mask_1 (by decide) ?_
  refine lv_icmp_lt (tgt := 12) hx hb dn_C_mask_3 (by decide) (fun h => ?_) (fun h => ?_)
  · have hf := (if_pos h).symm.trans hf
    refine lv_lconst (v := 1) hx hb dn_C_mask_12 (by decide) ?_
    refine lv_iload_n hx hb dn_C_mask_13 rfl (lv_at hl 0 rfl) ?_
    refine lv_lshl (v := (1 : Int64) <<< ((Int32.toInt64 v0) &&& 63)) hx hb dn_C_mask_14 rfl ?_
    refine lv_lconst (v := 1) hx hb dn_C_mask_15 (by decide) ?_
    refine lv_lsub hx hb dn_C_mask_16 ?_
    rw [hQQ, ← Option.some.inj hf]
    exact xk_lret (w1 := fun u : Unit => (wC a v cI cB cJ cZ cQ s)) () hx hb hr hlocks hK hS dn_C_mask_17 hP hD rfl (Nat.le_refl _) (Nat.le_refl _)
  · have hf := (if_neg h).symm.trans hf
    refine lv_ldc2 hx hb hown (hg _ wn_4_73) dn_C_mask_6 ?_
    refine lv_goto (tgt := 17) hx hb dn_C_mask_9 (by decide) ?_
    rw [hQQ, ← Option.some.inj hf]
    exact xk_lret (w1 := fun u : Unit => (wC a v cI cB cJ cZ cQ s)) () hx hb hr hlocks hK hS dn_C_mask_17 hP hD rfl (Nat.le_refl _) (Nat.le_refl _)
set_option maxHeartbeats 8000000 in
set_option maxRecDepth 100000 in
theorem ct_Code_literal_Ks (l : Launch) (dC : Nat → ClassId) (dI : Nat → Nat → Nat) (cI cB cJ cZ cQ : ClassId) (N sz : Nat) (a : Nat → Nat) (v : Nat → Value) (v1 : Int32) (v2 : Int64) (s : ms) (y : (Int32 × ms)) (hf : fn_Code_literal_Ks N v1 v2 s = some y) : Met l yn_Code_literal (xw yn_Code_literal bn_Code_literal 4 (some .int)) ({ frames := 0, cells := 0, slots := 0, locals := 0 }) (dc_P (dC, dI) xcl (xt cI cB cJ cZ cQ) [.ref ((a 111)), .int v1, .long v2] sz (wC a v cI cB cJ cZ cQ s)) (xk_Qi (dC, dI) xcl (xt cI cB cJ cZ cQ) (fun (r : Int32) (_ : Unit) => r = y.1) (fun u : Unit => (wC a v cI cB cJ cZ cQ y.2)) (va_A (wC a v cI cB cJ cZ cQ s) sz)) 0 0 (va_A (wC a v cI cB cJ cZ cQ s) sz) := by
  refine dc_of (QA := xk_Qi (dC, dI) xcl (xt cI cB cJ cZ cQ) (fun (r : Int32) (_ : Unit) => r = y.1) (fun u : Unit => (wC a v cI cB cJ cZ cQ y.2))) (by decide) (Nat.le_of_ble_eq_true rfl) ?_
  intro p e s0 m below meth c hx hb hml hown hg hr hlocks hin hP hK hN A hA hD hT ls hl
  have hown : s0.vm.findClass rn_Code = some m.cls := hown
  obtain ⟨H, hH⟩ : ∃ z, z = s0.heap := ⟨_, rfl⟩
  rw [← hH] at hP
  have hS : va_S A s0.heap H [] := by rw [hH]; exact va_S.rf
  suffices kk : ∀ QQ : State → Prop, QQ = MQ below (xk_Qi (dC, dI) xcl (xt cI cB cJ cZ cQ) (fun (r : Int32) (_ : Unit) => r = y.1) (fun u : Unit => (wC a v cI cB cJ cZ cQ y.2)) A) [.ref ((a 111)), .int v1, .long v2].toArray s0 0 0 A → dcC p l e ({ frames := 0, cells := 0, slots := 0, locals := 0 }) s0 m [.ref ((a 111)), .int v1, .long v2].toArray below meth c QQ (dC, dI) A (wC a v cI cB cJ cZ cQ s) 0 4 [(0, .ref ((a 111))), (1, .int v1), (2, .long v2)] [] by
    have k9 := kk _ rfl H [] ls hP hD hS hl
    rw [hH] at k9; exact k9
  clear hP hD hS hl hH H ls
  intro QQ hQQ
  intro H locs ls hP hD hS hl
  unfold fn_Code_literal_Ks at hf
  refine lv_aload_n hx hb dn_Code_literal_0 rfl (lv_at hl 0 rfl) ?_
  refine va_get (D := (dC, dI)) (ci := 12) (v := .int ((s.1 340 0))) (C := rn_Code) (T := fn_Code) (N := 5) hx hb hg in_Code hown hK hP 11 rfl rfl 4 (by decide) (hg _ wn_2_219) (fun _ h9 => h9) rfl dn_Code_literal_1 ?_
  refine lv_sipush (v := 13108) hx hb dn_Code_literal_4 (by decide) ?_
  refine lv_icmp_lt (tgt := 12) hx hb dn_Code_literal_7 (by decide) (fun h => ?_) (fun h => ?_)
  · have hf := (if_pos h).symm.trans hf
    refine lv_aload_n hx hb dn_Code_literal_12 rfl (lv_at hl 0 rfl) ?_
    refine va_get (D := (dC, dI)) (ci := 12) (v := .ref ((a 338))) (C := rn_Code) (T := fn_Code) (N := 5) hx hb hg in_Code hown hK hP 11 rfl rfl 2 (by decide) (hg _ wn_2_217) (fun _ h9 => h9) rfl dn_Code_literal_13 ?_
    refine lv_aload_n hx hb dn_Code_literal_16 rfl (lv_at hl 0 rfl) ?_
    refine va_get (D := (dC, dI)) (ci := 12) (v := .int ((s.1 340 0))) (C := rn_Code) (T := fn_Code) (N := 5) hx hb hg in_Code hown hK hP 11 rfl rfl 4 (by decide) (hg _ wn_2_219) (fun _ h9 => h9) rfl dn_Code_literal_17 ?_
    refine lv_iload_n hx hb dn_Code_literal_20 rfl (lv_at hl 1 rfl) ?_
    obtain ⟨hg_1, hf⟩ := dc_g hf
    refine va_iast hx hb hK hP hD hS 74 0 rfl rfl hg_1 dn_Code_literal_21 (fun H locs hP hD hS => ?_)
    have hP : va_P (dC, dI) xcl ((wC a v cI cB cJ cZ cQ s).set 74 ((a 338), .inl (cI, 13108, .inl (upd (s.1 338) (Int32.toNatClampNeg ((s.1 340 0))) v1)))) H := hP
    have hD : va_D A ((wC a v cI cB cJ cZ cQ s).set 74 ((a 338), .inl (cI, 13108, .inl (upd (s.1 338) (Int32.toNatClampNeg ((s.1 340 0))) v1)))) := hD
    have hP := wC_P_338 hP
    have hD := wC_D_338 hD
    refine lv_aload_n hx hb dn_Code_literal_22 rfl (lv_at hl 0 rfl) ?_
    refine va_get (D := (dC, dI)) (ci := 12) (v := .ref ((a 339))) (C := rn_Code) (T := fn_Code) (N := 5) hx hb hg in_Code hown hK hP 11 rfl rfl 3 (by decide) (hg _ wn_2_218) (fun _ h9 => h9) rfl dn_Code_literal_23 ?_
    refine lv_aload_n hx hb dn_Code_literal_26 rfl (lv_at hl 0 rfl) ?_
    refine va_get (D := (dC, dI)) (ci := 12) (v := .int ((s.1 340 0))) (C := rn_Code) (T := fn_Code) (N := 5) hx hb hg in_Code hown hK hP 11 rfl rfl 4 (by decide) (hg _ wn_2_219) (fun _ h9 => h9) rfl dn_Code_literal_27 ?_
    refine lv_lload_n hx hb dn_Code_literal_30 rfl (lv_at hl 2 rfl) ?_
    obtain ⟨hg_2, hf⟩ := dc_g hf
    refine va_last hx hb hK hP hD hS 75 2 rfl rfl hg_2 dn_Code_literal_31 (fun H locs hP hD hS => ?_)
    have hP : va_P (dC, dI) xcl ((wC a v cI cB cJ cZ cQ (upI s 338 (upd (s.1 338) (Int32.toNatClampNeg ((s.1 340 0))) v1))).set 75 ((a 339), .inl (cJ, 13108, .inr (.inl (vp_updL (s.2 339) (Int32.toNatClampNeg ((s.1 340 0))) v2))))) H := hP
    have hD : va_D A ((wC a v cI cB cJ cZ cQ (upI s 338 (upd (s.1 338) (Int32.toNatClampNeg ((s.1 340 0))) v1))).set 75 ((a 339), .inl (cJ, 13108, .inr (.inl (vp_updL (s.2 339) (Int32.toNatClampNeg ((s.1 340 0))) v2))))) := hD
    have hP := wC_P_339 hP
    have hD := wC_D_339 hD
    refine lv_aload_n hx hb dn_Code_literal_32 rfl (lv_at hl 0 rfl) ?_
    refine lv_dup hx hb dn_Code_literal_33 rfl ?_
    refine va_get (D := (dC, dI)) (ci := 12) (v := .int ((s.1 340 0))) (C := rn_Code) (T := fn_Code) (N := 5) hx hb hg in_Code hown hK hP 11 rfl rfl 4 (by decide) (hg _ wn_2_219) (fun _ h9 => h9) rfl dn_Code_literal_34 ?_
    refine lv_iconst (v := 1) hx hb dn_Code_literal_37 (by decide) ?_
    refine lv_iadd hx hb dn_Code_literal_38 ?_
    refine va_put (D := (dC, dI)) (ci := 12) (v := .int (((s.1 340 0) + 1))) (ty := .int) (C := rn_Code) (T := fn_Code) (N := 5) hx hb hg in_Code tn_Code tk_Code nn_Code hown hK hP hD hS 11 rfl rfl 4 (by decide) (hg _ wn_2_219) (fun _ h9 => h9) rfl (tk_Code 4 (by decide)) rfl rfl (Nat.le_of_ble_eq_true rfl) dn_Code_literal_39 (fun H locs hP hD hS => ?_)
    have hP := wC_P_340 hP
    have hD := wC_D_340 hD
    refine lv_aload_n hx hb dn_Code_literal_42 rfl (lv_at hl 0 rfl) ?_
    refine va_get (D := (dC, dI)) (ci := 12) (v := .int (((s.1 340 0) + 1))) (C := rn_Code) (T := fn_Code) (N := 5) hx hb hg in_Code hown hK hP 11 rfl rfl 4 (by decide) (hg _ wn_2_219) (fun _ h9 => h9) rfl dn_Code_literal_43 ?_
    refine lv_iconst (v := 1) hx hb dn_Code_literal_46 (by decide) ?_
    refine lv_isub hx hb dn_Code_literal_47 ?_
    rw [hQQ, ← Option.some.inj hf]
    exact xk_iret (w1 := fun u : Unit => (wC a v cI cB cJ cZ cQ (upI (upJ (upI s 338 (upd (s.1 338) (Int32.toNatClampNeg ((s.1 340 0))) v1)) 339 (vp_updL (s.2 339) (Int32.toNatClampNeg ((s.1 340 0))) v2)) 340 (fun _ => ((s.1 340 0) + 1))))) () hx hb hr hlocks hK hS dn_Code_literal_48 hP hD rfl (Nat.le_refl _) (Nat.le_refl _)
  · have hf := (if_neg h).symm.trans hf
    refine lv_iconst (v := (-1)) hx hb dn_Code_literal_10 (by decide) ?_
    rw [hQQ, ← Option.some.inj hf]
    exact xk_iret (w1 := fun u : Unit => (wC a v cI cB cJ cZ cQ s)) () hx hb hr hlocks hK hS dn_Code_literal_11 hP hD rfl (Nat.le_refl _) (Nat.le_refl _)
set_option maxHeartbeats 8000000 in
set_option maxRecDepth 100000 in
theorem ct_Scanner_sized_Sc (l : Launch) (dC : Nat → ClassId) (dI : Nat → Nat → Nat) (cI cB cJ cZ cQ : ClassId) (N sz : Nat) (a : Nat → Nat) (v : Nat → Value) (hv_0 : v 0 = .ref (a 307)) (hv_1 : v 1 = .ref (a 111)) (v1 : Int32) (v2 : Int32) (v3 : Int32) (s : ms) (y : (Int32 × ms)) (hf : fn_Scanner_sized_Sc N v1 v2 v3 s = some y) : Met l yn_Scanner_sized (xw yn_Scanner_sized bn_Scanner_sized 13 (some .boolean)) ({ frames := 3, cells := 0, slots := 0, locals := 66 }) (dc_P (dC, dI) xcl (xt cI cB cJ cZ cQ) [.ref ((a 102)), .int v1, .int v2, .int v3] sz (wC a v cI cB cJ cZ cQ s)) (xk_Qi (dC, dI) xcl (xt cI cB cJ cZ cQ) (fun (r : Int32) (_ : Unit) => r = y.1) (fun u : Unit => (wC a v cI cB cJ cZ cQ y.2)) (va_A (wC a v cI cB cJ cZ cQ s) sz)) 0 0 (va_A (wC a v cI cB cJ cZ cQ s) sz) := by
  refine dc_of (QA := xk_Qi (dC, dI) xcl (xt cI cB cJ cZ cQ) (fun (r : Int32) (_ : Unit) => r = y.1) (fun u : Unit => (wC a v cI cB cJ cZ cQ y.2))) (by decide) (Nat.le_of_ble_eq_true rfl) ?_
  intro p e s0 m below meth c hx hb hml hown hg hr hlocks hin hP hK hN A hA hD hT ls hl
  have hown : s0.vm.findClass rn_Scanner = some m.cls := hown
  obtain ⟨H, hH⟩ : ∃ z, z = s0.heap := ⟨_, rfl⟩
  rw [← hH] at hP
  have hS : va_S A s0.heap H [] := by rw [hH]; exact va_S.rf
  suffices kk : ∀ QQ : State → Prop, QQ = MQ below (xk_Qi (dC, dI) xcl (xt cI cB cJ cZ cQ) (fun (r : Int32) (_ : Unit) => r = y.1) (fun u : Unit => (wC a v cI cB cJ cZ cQ y.2)) A) [.ref ((a 102)), .int v1, .int v2, .int v3].toArray s0 0 0 A → dcC p l e ({ frames := 3, cells := 0, slots := 0, locals := 66 }) s0 m [.ref ((a 102)), .int v1, .int v2, .int v3].toArray below meth c QQ (dC, dI) A (wC a v cI cB cJ cZ cQ s) 0 13 [(0, .ref ((a 102))), (1, .int v1), (2, .int v2), (3, .int v3)] [] by
    have k9 := kk _ rfl H [] ls hP hD hS hl
    rw [hH] at k9; exact k9
  clear hP hD hS hl hH H ls
  intro QQ hQQ
  have bl_148 : ∀ (k_86 : Int32 → Int32 → Int32 → Int32 → Int32 → Int64 → Int64 → Int32 → ms → Option (Int32 × ms)) (hk_86 : ∀ (x1 : Int32) (x3 : Int32) (x4 : Int32) (x5 : Int32) (x6 : Int32) (x7 : Int64) (x9 : Int64) (x11 : Int32) (s : ms), k_86 x1 x3 x4 x5 x6 x7 x9 x11 s = some y → dcC p l e ({ frames := 3, cells := 0, slots := 0, locals := 66 }) s0 m [.ref ((a 102)), .int v1, .int v2, .int v3].toArray below meth c QQ (dC, dI) A (wC a v cI cB cJ cZ cQ s) 86 13 [(0, .ref ((a 102))), (1, .int x1), (3, .int x3), (4, .int x4), (5, .int x5), (6, .int x6), (7, .long x7), (9, .long x9), (11, .int x11)] []) (x1 : Int32) (x3 : Int32) (x4 : Int32) (x5 : Int32) (x6 : Int32) (x7 : Int64) (x9 : Int64) (x11 : Int32) (x12 : Int32) (s : ms), bk_Scanner_sized_Sc_148 N k_86 x1 x3 x4 x5 x6 x7 x9 x11 x12 s = some y → dcC p l e ({ frames := 3, cells := 0, slots := 0, locals := 66 }) s0 m [.ref ((a 102)), .int v1, .int v2, .int v3].toArray below meth c QQ (dC, dI) A (wC a v cI cB cJ cZ cQ s) 148 13 [(0, .ref ((a 102))), (1, .int x1), (3, .int x3), (4, .int x4), (5, .int x5), (6, .int x6), (7, .long x7), (9, .long x9), (11, .int x11), (12, .int x12)] [] := by
    intro k_86 hk_86 x1 x3 x4 x5 x6 x7 x9 x11 x12 s hf H locs ls hP hD hS hl
    unfold bk_Scanner_sized_Sc_148 at hf
    refine lv_lload hx hb dn_Scanner_sized_148 (lv_at hl 7 rfl) ?_
    refine lv_iload hx hb dn_Scanner_sized_150 (lv_at hl 5 rfl) ?_
    refine lv_i2l (v := Int32.toInt64 x6) hx hb dn_Scanner_sized_152 rfl ?_
    refine lv_lmul hx hb dn_Scanner_sized_153 ?_
    refine lv_iload hx hb dn_Scanner_sized_154 (lv_at hl 9 rfl) ?_
    refine lv_i2l (v := Int32.toInt64 x12) hx hb dn_Scanner_sized_156 rfl ?_
    refine lv_ladd hx hb dn_Scanner_sized_157 ?_
    refine lv_lstore (lv' := [(9, .long (((x9 * (Int32.toInt64 x6)) + (Int32.toInt64 x12)))), (0, .ref ((a 102))), (1, .int x1), (3, .int x3), (4, .int x4), (5, .int x5), (6, .int x6), (7, .long x7), (11, .int x11), (12, .int x12)]) hx hb dn_Scanner_sized_158 hl (by decide) rfl (fun ls hl => ?_)
    refine lv_iinc (v := (x11 + 1)) (lv' := [(11, .int ((x11 + 1))), (9, .long (((x9 * (Int32.toInt64 x6)) + (Int32.toInt64 x12)))), (0, .ref ((a 102))), (1, .int x1), (3, .int x3), (4, .int x4), (5, .int x5), (6, .int x6), (7, .long x7), (12, .int x12)]) hx hb dn_Scanner_sized_160 hl (k := 8) rfl (dc_inc (by decide)) (by decide) rfl (fun ls hl => ?_)
    refine lv_goto (tgt := 86) hx hb dn_Scanner_sized_163 (by decide) ?_
    exact hk_86 x1 x3 x4 x5 x6 x7 (((x9 * (Int32.toInt64 x6)) + (Int32.toInt64 x12))) ((x11 + 1)) s hf H locs ls hP hD hS (lv_sub hl [2, 3, 4, 5, 6, 7, 8, 1, 0] rfl)
  have hd_86 : ∀ (n : Nat) (x1 : Int32) (x3 : Int32) (x4 : Int32) (x5 : Int32) (x6 : Int32) (x7 : Int64) (x9 : Int64) (x11 : Int32) (s : ms), hd_Scanner_sized_Sc_86 N n x1 x3 x4 x5 x6 x7 x9 x11 s = some y → dcC p l e ({ frames := 3, cells := 0, slots := 0, locals := 66 }) s0 m [.ref ((a 102)), .int v1, .int v2, .int v3].toArray below meth c QQ (dC, dI) A (wC a v cI cB cJ cZ cQ s) 86 13 [(0, .ref ((a 102))), (1, .int x1), (3, .int x3), (4, .int x4), (5, .int x5), (6, .int x6), (7, .long x7), (9, .long x9), (11, .int x11)] [] := by
    intro n
    induction n with
    | zero => intro x1 x3 x4 x5 x6 x7 x9 x11 s hf; cases hf
    | succ n ih =>
      intro x1 x3 x4 x5 x6 x7 x9 x11 s hf H locs ls hP hD hS hl
      have hf : bd_Scanner_sized_Sc_86 N (hd_Scanner_sized_Sc_86 N n) x1 x3 x4 x5 x6 x7 x9 x11 s = some y := hf
      have hk_86 := ih
      generalize hd_Scanner_sized_Sc_86 N n = k_86 at hf hk_86
      unfold bd_Scanner_sized_Sc_86 at hf
      refine lv_iload hx hb dn_Scanner_sized_86 (lv_at hl 8 rfl) ?_
      refine lv_iload_n hx hb dn_Scanner_sized_88 rfl (lv_at hl 2 rfl) ?_
      refine lv_icmp_ge (tgt := 166) hx hb dn_Scanner_sized_89 (by decide) (fun h => ?_) (fun h => ?_)
      · have hf := (if_pos h).symm.trans hf
        refine lv_lload hx hb dn_Scanner_sized_166 (lv_at hl 7 rfl) ?_
        refine lv_iload hx hb dn_Scanner_sized_168 (lv_at hl 3 rfl) ?_
        obtain ⟨q_1, hc_2, hf⟩ := dc_b hf
        refine dc_calll (dc_runSN (ar := 1) (As := [.int x4]) (rest := [.long x9]) (host := "CircuitCycles") ⟨hx, hb, hml, hown, hg⟩ hK hN hT hS hA (ct_C_mask l dC dI cI cB cJ cZ cQ N H.size a v x4 s q_1 hc_2) hP hD nl_Scanner_148 wn_4_71 wn_1_1 wn_4_72 rfl rfl (by decide +kernel) ⟨Nat.le_of_ble_eq_true rfl, Nat.le_of_ble_eq_true rfl⟩ rfl hl.1 rfl (Nat.le_of_ble_eq_true rfl) dn_Scanner_sized_170 ⟨Nat.le_of_ble_eq_true rfl, Nat.le_of_ble_eq_true rfl⟩) hP hD hS hA (fun r_3 _ H locs hw hP hD hS => ?_)
        have hw : r_3 = q_1.1 := hw
        subst hw
        refine lv_ldc2 hx hb hown (hg _ wn_4_69) dn_Scanner_sized_173 ?_
        refine lv_lxor hx hb dn_Scanner_sized_176 ?_
        refine lv_land hx hb dn_Scanner_sized_177 ?_
        refine lv_lconst (v := 0) hx hb dn_Scanner_sized_178 (by decide) ?_
        refine W.lcmp hx hb dn_Scanner_sized_179 ?_
        refine lv_if_eq (tgt := 185) hx hb dn_Scanner_sized_180 (by decide) (fun h => ?_) (fun h => ?_)
        · have hf := (if_pos h).symm.trans hf
          refine lv_aload_n hx hb dn_Scanner_sized_185 rfl (lv_at hl 0 rfl) ?_
          refine va_get (D := (dC, dI)) (ci := 3) (v := .ref ((a 101))) (C := rn_Scanner) (T := fn_Scanner) (N := 9) hx hb hg in_Scanner hown hK hP 2 rfl rfl 0 (by decide) (hg _ wn_1_89) (fun _ h9 => h9) rfl dn_Scanner_sized_186 ?_
          refine lv_iconst (v := 4) hx hb dn_Scanner_sized_189 (by decide) ?_
          refine lv_iload_n hx hb dn_Scanner_sized_190 rfl (lv_at hl 1 rfl) ?_
          refine lv_aload_n hx hb dn_Scanner_sized_191 rfl (lv_at hl 0 rfl) ?_
          refine va_get (D := (dC, dI)) (ci := 3) (v := .ref ((a 111))) (C := rn_Scanner) (T := fn_Scanner) (N := 9) hx hb hg in_Scanner hown hK hP 2 rfl rfl 3 (by decide) (hg _ wn_1_92) (fun _ h9 => h9) (congrArg some hv_1) dn_Scanner_sized_192 ?_
          refine lv_iload hx hb dn_Scanner_sized_195 (lv_at hl 3 rfl) ?_
          refine lv_lload hx hb dn_Scanner_sized_197 (lv_at hl 7 rfl) ?_
          obtain ⟨q_4, hc_5, hf⟩ := dc_b hf
          refine dc_calli (dc_runV (ar := 2) (As := [.int x4, .long x9]) (rest := [.int x1, .int 4, .ref ((a 101))]) (ci := 12) (q0 := 11) ⟨hx, hb, hml, hown, hg⟩ hK hN hT hS hA (ct_Code_literal_Ks l dC dI cI cB cJ cZ cQ N H.size a v x4 x9 q_1.2 q_4 hc_5) hP hD rfl rfl wn_4_74 wn_4_75 wn_4_76 wn_1_12 wn_4_77 rfl rfl (by decide +kernel) ⟨Nat.le_of_ble_eq_true rfl, Nat.le_of_ble_eq_true rfl⟩ rfl hl.1 rfl (Nat.le_of_ble_eq_true rfl) dn_Scanner_sized_199 ⟨Nat.le_of_ble_eq_true rfl, Nat.le_of_ble_eq_true rfl⟩) hP hD hS hA (fun r_6 _ H locs hw hP hD hS => ?_)
          have hw : r_6 = q_4.1 := hw
          subst hw
          obtain ⟨q_7, hc_8, hf⟩ := dc_b hf
          refine dc_callv (dc_runV (ar := 3) (As := [.int 4, .int x1, .int q_4.1]) (rest := []) (ci := 2) (q0 := 1) ⟨hx, hb, hml, hown, hg⟩ hK hN hT hS hA (ct_Tokens_add_Tk l dC dI cI cB cJ cZ cQ N H.size a v 4 x1 q_4.1 q_4.2 q_7 hc_8) hP hD rfl rfl wn_4_45 wn_4_46 wn_4_47 wn_1_2 wn_4_48 rfl rfl (by decide +kernel) ⟨Nat.le_of_ble_eq_true rfl, Nat.le_of_ble_eq_true rfl⟩ rfl hl.1 rfl (Nat.le_of_ble_eq_true rfl) dn_Scanner_sized_202 ⟨Nat.le_of_ble_eq_true rfl, Nat.le_of_ble_eq_true rfl⟩) hP hD hS hA (fun _ H locs hw hP hD hS => ?_)
          refine lv_iconst (v := 1) hx hb dn_Scanner_sized_205 (by decide) ?_
          rw [hQQ, ← Option.some.inj hf]
          exact xk_zret (w1 := fun u : Unit => (wC a v cI cB cJ cZ cQ q_7.2)) () hx hb hr rfl hlocks hK hS dn_Scanner_sized_206 hP hD rfl (Nat.le_refl _) (Nat.le_refl _)
        · have hf := (if_neg h).symm.trans hf
          refine lv_iconst (v := 0) hx hb dn_Scanner_sized_183 (by decide) ?_
          rw [hQQ, ← Option.some.inj hf]
          exact xk_zret (w1 := fun u : Unit => (wC a v cI cB cJ cZ cQ q_1.2)) () hx hb hr rfl hlocks hK hS dn_Scanner_sized_184 hP hD rfl (Nat.le_refl _) (Nat.le_refl _)
      · have hf := (if_neg h).symm.trans hf
        refine lv_aload_n hx hb dn_Scanner_sized_92 rfl (lv_at hl 0 rfl) ?_
        refine lv_iload hx hb dn_Scanner_sized_93 (lv_at hl 8 rfl) ?_
        obtain ⟨q_1, hc_2, hf⟩ := dc_b hf
        refine dc_calli (dc_runV (ar := 1) (As := [.int x11]) (rest := []) (ci := 3) (q0 := 2) ⟨hx, hb, hml, hown, hg⟩ hK hN hT hS hA (ct_Scanner_byteAt_Sc l dC dI cI cB cJ cZ cQ N H.size a v hv_0 x11 s q_1 hc_2) hP hD rfl rfl wn_3_194 wn_3_196 sn_Scanner_byteAt wn_1_3 wn_3_197 rfl rfl (by decide +kernel) ⟨Nat.le_of_ble_eq_true rfl, Nat.le_of_ble_eq_true rfl⟩ rfl hl.1 rfl (Nat.le_of_ble_eq_true rfl) dn_Scanner_sized_95 ⟨Nat.le_of_ble_eq_true rfl, Nat.le_of_ble_eq_true rfl⟩) hP hD hS hA (fun r_3 _ H locs hw hP hD hS => ?_)
        have hw : r_3 = q_1.1 := hw
        subst hw
        obtain ⟨q_4, hc_5, hf⟩ := dc_b hf
        refine dc_calli (dc_runS (ar := 1) (As := [.int q_1.1]) (rest := []) ⟨hx, hb, hml, hown, hg⟩ hK hN hT hS hA (ct_Scanner_digitOf l dC dI cI cB cJ cZ cQ N H.size a v q_1.1 q_1.2 q_4 hc_5) hP hD wn_4_62 wn_4_63 wn_1_3 wn_4_64 rfl rfl (by decide +kernel) ⟨Nat.le_of_ble_eq_true rfl, Nat.le_of_ble_eq_true rfl⟩ rfl hl.1 rfl (Nat.le_of_ble_eq_true rfl) dn_Scanner_sized_98 ⟨Nat.le_of_ble_eq_true rfl, Nat.le_of_ble_eq_true rfl⟩) hP hD hS hA (fun r_6 _ H locs hw hP hD hS => ?_)
        have hw : r_6 = q_4.1 := hw
        subst hw
        refine lv_istore (lv' := [(12, .int q_4.1), (0, .ref ((a 102))), (1, .int x1), (3, .int x3), (4, .int x4), (5, .int x5), (6, .int x6), (7, .long x7), (9, .long x9), (11, .int x11)]) hx hb dn_Scanner_sized_101 hl (by decide) rfl (fun ls hl => ?_)
        refine lv_iload hx hb dn_Scanner_sized_103 (lv_at hl 0 rfl) ?_
        refine lv_iload hx hb dn_Scanner_sized_105 (lv_at hl 6 rfl) ?_
        refine lv_icmp_ge (tgt := 125) hx hb dn_Scanner_sized_107 (by decide) (fun h => ?_) (fun h => ?_)
        · have hf := (if_pos h).symm.trans hf
          refine lv_iconst (v := 0) hx hb dn_Scanner_sized_125 (by decide) ?_
          rw [hQQ, ← Option.some.inj hf]
          exact xk_zret (w1 := fun u : Unit => (wC a v cI cB cJ cZ cQ q_4.2)) () hx hb hr rfl hlocks hK hS dn_Scanner_sized_126 hP hD rfl (Nat.le_refl _) (Nat.le_refl _)
        · have hf := (if_neg h).symm.trans hf
          refine lv_lload hx hb dn_Scanner_sized_110 (lv_at hl 8 rfl) ?_
          refine lv_lconst (v := 0) hx hb dn_Scanner_sized_112 (by decide) ?_
          refine W.lcmp hx hb dn_Scanner_sized_113 ?_
          refine lv_if_lt (tgt := 125) hx hb dn_Scanner_sized_114 (by decide) (fun h => ?_) (fun h => ?_)
          · have hf := (if_pos h).symm.trans hf
            refine lv_iconst (v := 0) hx hb dn_Scanner_sized_125 (by decide) ?_
            rw [hQQ, ← Option.some.inj hf]
            exact xk_zret (w1 := fun u : Unit => (wC a v cI cB cJ cZ cQ q_4.2)) () hx hb hr rfl hlocks hK hS dn_Scanner_sized_126 hP hD rfl (Nat.le_refl _) (Nat.le_refl _)
          · have hf := (if_neg h).symm.trans hf
            refine lv_lload hx hb dn_Scanner_sized_117 (lv_at hl 8 rfl) ?_
            refine lv_lload hx hb dn_Scanner_sized_119 (lv_at hl 7 rfl) ?_
            refine W.lcmp hx hb dn_Scanner_sized_121 ?_
            refine lv_if_le (tgt := 127) hx hb dn_Scanner_sized_122 (by decide) (fun h => ?_) (fun h => ?_)
            · have hf := (if_pos h).symm.trans hf
              refine lv_iload hx hb dn_Scanner_sized_127 (lv_at hl 5 rfl) ?_
              refine lv_if_ne (tgt := 148) hx hb dn_Scanner_sized_129 (by decide) (fun h => ?_) (fun h => ?_)
              · have hf := (if_neg h).symm.trans hf
                exact bl_148 k_86 hk_86 x1 x3 x4 x5 x6 x7 x9 x11 q_4.1 q_4.2 hf H locs ls hP hD hS (lv_sub hl [1, 2, 3, 4, 5, 6, 7, 8, 9, 0] rfl)
              · have hf := (if_pos h).symm.trans hf
                refine lv_lload hx hb dn_Scanner_sized_132 (lv_at hl 8 rfl) ?_
                refine lv_lload hx hb dn_Scanner_sized_134 (lv_at hl 7 rfl) ?_
                refine W.lcmp hx hb dn_Scanner_sized_136 ?_
                refine lv_if_ne (tgt := 148) hx hb dn_Scanner_sized_137 (by decide) (fun h => ?_) (fun h => ?_)
                · have hf := (if_neg h).symm.trans hf
                  exact bl_148 k_86 hk_86 x1 x3 x4 x5 x6 x7 x9 x11 q_4.1 q_4.2 hf H locs ls hP hD hS (lv_sub hl [1, 2, 3, 4, 5, 6, 7, 8, 9, 0] rfl)
                · have hf := (if_pos h).symm.trans hf
                  refine lv_iload hx hb dn_Scanner_sized_140 (lv_at hl 0 rfl) ?_
                  refine lv_iconst (v := 5) hx hb dn_Scanner_sized_142 (by decide) ?_
                  refine lv_icmp_le (tgt := 148) hx hb dn_Scanner_sized_143 (by decide) (fun h => ?_) (fun h => ?_)
                  · have hf := (if_pos h).symm.trans hf
                    exact bl_148 k_86 hk_86 x1 x3 x4 x5 x6 x7 x9 x11 q_4.1 q_4.2 hf H locs ls hP hD hS (lv_sub hl [1, 2, 3, 4, 5, 6, 7, 8, 9, 0] rfl)
                  · have hf := (if_neg h).symm.trans hf
                    refine lv_iconst (v := 0) hx hb dn_Scanner_sized_146 (by decide) ?_
                    rw [hQQ, ← Option.some.inj hf]
                    exact xk_zret (w1 := fun u : Unit => (wC a v cI cB cJ cZ cQ q_4.2)) () hx hb hr rfl hlocks hK hS dn_Scanner_sized_147 hP hD rfl (Nat.le_refl _) (Nat.le_refl _)
            · have hf := (if_neg h).symm.trans hf
              refine lv_iconst (v := 0) hx hb dn_Scanner_sized_125 (by decide) ?_
              rw [hQQ, ← Option.some.inj hf]
              exact xk_zret (w1 := fun u : Unit => (wC a v cI cB cJ cZ cQ q_4.2)) () hx hb hr rfl hlocks hK hS dn_Scanner_sized_126 hP hD rfl (Nat.le_refl _) (Nat.le_refl _)
  have bl_76 : ∀ (x1 : Int32) (x2 : Int32) (x3 : Int32) (x4 : Int32) (x5 : Int32) (x6 : Int32) (t0 : Int64) (s : ms), bk_Scanner_sized_Sc_76 N x1 x2 x3 x4 x5 x6 t0 s = some y → dcC p l e ({ frames := 3, cells := 0, slots := 0, locals := 66 }) s0 m [.ref ((a 102)), .int v1, .int v2, .int v3].toArray below meth c QQ (dC, dI) A (wC a v cI cB cJ cZ cQ s) 76 13 [(0, .ref ((a 102))), (1, .int x1), (2, .int x2), (3, .int x3), (4, .int x4), (5, .int x5), (6, .int x6)] [.long t0] := by
    intro x1 x2 x3 x4 x5 x6 t0 s hf H locs ls hP hD hS hl
    unfold bk_Scanner_sized_Sc_76 at hf
    refine lv_lstore (lv' := [(7, .long t0), (0, .ref ((a 102))), (1, .int x1), (2, .int x2), (3, .int x3), (4, .int x4), (5, .int x5), (6, .int x6)]) hx hb dn_Scanner_sized_76 hl (by decide) rfl (fun ls hl => ?_)
    refine lv_lconst (v := 0) hx hb dn_Scanner_sized_78 (by decide) ?_
    refine lv_lstore (lv' := [(9, .long 0), (7, .long t0), (0, .ref ((a 102))), (1, .int x1), (2, .int x2), (3, .int x3), (4, .int x4), (5, .int x5), (6, .int x6)]) hx hb dn_Scanner_sized_79 hl (by decide) rfl (fun ls hl => ?_)
    refine lv_iload_n hx hb dn_Scanner_sized_81 rfl (lv_at hl 4 rfl) ?_
    refine lv_iconst (v := 2) hx hb dn_Scanner_sized_82 (by decide) ?_
    refine lv_iadd hx hb dn_Scanner_sized_83 ?_
    refine lv_istore (lv' := [(11, .int ((x2 + 2))), (9, .long 0), (7, .long t0), (0, .ref ((a 102))), (1, .int x1), (2, .int x2), (3, .int x3), (4, .int x4), (5, .int x5), (6, .int x6)]) hx hb dn_Scanner_sized_84 hl (by decide) rfl (fun ls hl => ?_)
    exact hd_86 N x1 x3 x4 x5 x6 t0 0 ((x2 + 2)) s hf H locs ls hP hD hS (lv_sub hl [3, 4, 6, 7, 8, 9, 2, 1, 0] rfl)
  have bl_57 : ∀ (x1 : Int32) (x2 : Int32) (x3 : Int32) (x4 : Int32) (x5 : Int32) (t0 : Int32) (s : ms), bk_Scanner_sized_Sc_57 N x1 x2 x3 x4 x5 t0 s = some y → dcC p l e ({ frames := 3, cells := 0, slots := 0, locals := 66 }) s0 m [.ref ((a 102)), .int v1, .int v2, .int v3].toArray below meth c QQ (dC, dI) A (wC a v cI cB cJ cZ cQ s) 57 13 [(0, .ref ((a 102))), (1, .int x1), (2, .int x2), (3, .int x3), (4, .int x4), (5, .int x5)] [.int t0] := by
    intro x1 x2 x3 x4 x5 t0 s hf H locs ls hP hD hS hl
    unfold bk_Scanner_sized_Sc_57 at hf
    refine lv_istore (lv' := [(6, .int t0), (0, .ref ((a 102))), (1, .int x1), (2, .int x2), (3, .int x3), (4, .int x4), (5, .int x5)]) hx hb dn_Scanner_sized_57 hl (by decide) rfl (fun ls hl => ?_)
    refine lv_iload hx hb dn_Scanner_sized_59 (lv_at hl 6 rfl) ?_
    refine lv_if_ne (tgt := 70) hx hb dn_Scanner_sized_61 (by decide) (fun h => ?_) (fun h => ?_)
    · have hf := (if_neg h).symm.trans hf
      refine lv_ldc2 hx hb hown (hg _ wn_4_69) dn_Scanner_sized_70 ?_
      refine lv_iload hx hb dn_Scanner_sized_73 (lv_at hl 6 rfl) ?_
      refine lv_lushr (v := (Int64.toUInt64 ((-1)) >>> (Int64.toUInt64 (Int32.toInt64 x5) &&& Int64.toUInt64 63)).toInt64) hx hb dn_Scanner_sized_75 rfl ?_
      exact bl_76 x1 x2 x3 x4 x5 t0 (((Int64.toUInt64 ((-1)) >>> (Int64.toUInt64 (Int32.toInt64 x5) &&& Int64.toUInt64 63)).toInt64)) s hf H locs ls hP hD hS (lv_sub hl [1, 2, 3, 4, 5, 6, 0] rfl)
    · have hf := (if_pos h).symm.trans hf
      refine lv_ldc2 hx hb hown (hg _ wn_4_68) dn_Scanner_sized_64 ?_
      refine lv_goto (tgt := 76) hx hb dn_Scanner_sized_67 (by decide) ?_
      exact bl_76 x1 x2 x3 x4 x5 t0 1844674407370955161 s hf H locs ls hP hD hS (lv_sub hl [1, 2, 3, 4, 5, 6, 0] rfl)
  intro H locs ls hP hD hS hl
  unfold fn_Scanner_sized_Sc at hf
  refine lv_aload_n hx hb dn_Scanner_sized_0 rfl (lv_at hl 0 rfl) ?_
  refine lv_iload_n hx hb dn_Scanner_sized_1 rfl (lv_at hl 1 rfl) ?_
  refine lv_iload_n hx hb dn_Scanner_sized_2 rfl (lv_at hl 2 rfl) ?_
  refine lv_bipush (v := 64) hx hb dn_Scanner_sized_3 (by decide) ?_
  obtain ⟨q_1, hc_2, hf⟩ := dc_b hf
  refine dc_calli (dc_runV (ar := 3) (As := [.int v1, .int v2, .int 64]) (rest := []) (ci := 3) (q0 := 2) ⟨hx, hb, hml, hown, hg⟩ hK hN hT hS hA (ct_Scanner_decimal_Sc l dC dI cI cB cJ cZ cQ N H.size a v hv_0 v1 v2 64 s q_1 hc_2) hP hD rfl rfl wn_4_58 wn_4_60 sn_Scanner_decimal wn_1_3 wn_4_61 rfl rfl (by decide +kernel) ⟨Nat.le_of_ble_eq_true rfl, Nat.le_of_ble_eq_true rfl⟩ rfl hl.1 rfl (Nat.le_of_ble_eq_true rfl) dn_Scanner_sized_5 ⟨Nat.le_of_ble_eq_true rfl, Nat.le_of_ble_eq_true rfl⟩) hP hD hS hA (fun r_3 _ H locs hw hP hD hS => ?_)
  have hw : r_3 = q_1.1 := hw
  subst hw
  refine lv_istore (lv' := [(4, .int q_1.1), (0, .ref ((a 102))), (1, .int v1), (2, .int v2), (3, .int v3)]) hx hb dn_Scanner_sized_8 hl (by decide) rfl (fun ls hl => ?_)
  refine lv_aload_n hx hb dn_Scanner_sized_10 rfl (lv_at hl 1 rfl) ?_
  refine lv_iload_n hx hb dn_Scanner_sized_11 rfl (lv_at hl 3 rfl) ?_
  refine lv_iconst (v := 1) hx hb dn_Scanner_sized_12 (by decide) ?_
  refine lv_iadd hx hb dn_Scanner_sized_13 ?_
  obtain ⟨q_4, hc_5, hf⟩ := dc_b hf
  refine dc_calli (dc_runV (ar := 1) (As := [.int ((v2 + 1))]) (rest := []) (ci := 3) (q0 := 2) ⟨hx, hb, hml, hown, hg⟩ hK hN hT hS hA (ct_Scanner_byteAt_Sc l dC dI cI cB cJ cZ cQ N H.size a v hv_0 ((v2 + 1)) q_1.2 q_4 hc_5) hP hD rfl rfl wn_3_194 wn_3_196 sn_Scanner_byteAt wn_1_3 wn_3_197 rfl rfl (by decide +kernel) ⟨Nat.le_of_ble_eq_true rfl, Nat.le_of_ble_eq_true rfl⟩ rfl hl.1 rfl (Nat.le_of_ble_eq_true rfl) dn_Scanner_sized_14 ⟨Nat.le_of_ble_eq_true rfl, Nat.le_of_ble_eq_true rfl⟩) hP hD hS hA (fun r_6 _ H locs hw hP hD hS => ?_)
  have hw : r_6 = q_4.1 := hw
  subst hw
  obtain ⟨q_7, hc_8, hf⟩ := dc_b hf
  refine dc_calli (dc_runS (ar := 1) (As := [.int q_4.1]) (rest := []) ⟨hx, hb, hml, hown, hg⟩ hK hN hT hS hA (ct_Scanner_shiftOf l dC dI cI cB cJ cZ cQ N H.size a v q_4.1 q_4.2 q_7 hc_8) hP hD wn_4_65 wn_4_66 wn_1_3 wn_4_67 rfl rfl (by decide +kernel) ⟨Nat.le_of_ble_eq_true rfl, Nat.le_of_ble_eq_true rfl⟩ rfl hl.1 rfl (Nat.le_of_ble_eq_true rfl) dn_Scanner_sized_17 ⟨Nat.le_of_ble_eq_true rfl, Nat.le_of_ble_eq_true rfl⟩) hP hD hS hA (fun r_9 _ H locs hw hP hD hS => ?_)
  have hw : r_9 = q_7.1 := hw
  subst hw
  refine lv_istore (lv' := [(5, .int q_7.1), (4, .int q_1.1), (0, .ref ((a 102))), (1, .int v1), (2, .int v2), (3, .int v3)]) hx hb dn_Scanner_sized_20 hl (by decide) rfl (fun ls hl => ?_)
  refine lv_iload hx hb dn_Scanner_sized_22 (lv_at hl 1 rfl) ?_
  refine lv_iconst (v := 1) hx hb dn_Scanner_sized_24 (by decide) ?_
  refine lv_icmp_lt (tgt := 41) hx hb dn_Scanner_sized_25 (by decide) (fun h => ?_) (fun h => ?_)
  · have hf := (if_pos h).symm.trans hf
    refine lv_iconst (v := 0) hx hb dn_Scanner_sized_41 (by decide) ?_
    rw [hQQ, ← Option.some.inj hf]
    exact xk_zret (w1 := fun u : Unit => (wC a v cI cB cJ cZ cQ q_7.2)) () hx hb hr rfl hlocks hK hS dn_Scanner_sized_42 hP hD rfl (Nat.le_refl _) (Nat.le_refl _)
  · have hf := (if_neg h).symm.trans hf
    refine lv_iload hx hb dn_Scanner_sized_28 (lv_at hl 0 rfl) ?_
    refine lv_iconst (v := (-1)) hx hb dn_Scanner_sized_30 (by decide) ?_
    refine lv_icmp_eq (tgt := 41) hx hb dn_Scanner_sized_31 (by decide) (fun h => ?_) (fun h => ?_)
    · have hf := (if_pos h).symm.trans hf
      refine lv_iconst (v := 0) hx hb dn_Scanner_sized_41 (by decide) ?_
      rw [hQQ, ← Option.some.inj hf]
      exact xk_zret (w1 := fun u : Unit => (wC a v cI cB cJ cZ cQ q_7.2)) () hx hb hr rfl hlocks hK hS dn_Scanner_sized_42 hP hD rfl (Nat.le_refl _) (Nat.le_refl _)
    · have hf := (if_neg h).symm.trans hf
      refine lv_iload_n hx hb dn_Scanner_sized_34 rfl (lv_at hl 4 rfl) ?_
      refine lv_iconst (v := 2) hx hb dn_Scanner_sized_35 (by decide) ?_
      refine lv_iadd hx hb dn_Scanner_sized_36 ?_
      refine lv_iload_n hx hb dn_Scanner_sized_37 rfl (lv_at hl 5 rfl) ?_
      refine lv_icmp_lt (tgt := 43) hx hb dn_Scanner_sized_38 (by decide) (fun h => ?_) (fun h => ?_)
      · have hf := (if_pos h).symm.trans hf
        refine lv_iload hx hb dn_Scanner_sized_43 (lv_at hl 0 rfl) ?_
        refine lv_if_ne (tgt := 53) hx hb dn_Scanner_sized_45 (by decide) (fun h => ?_) (fun h => ?_)
        · have hf := (if_neg h).symm.trans hf
          refine lv_iconst (v := 1) hx hb dn_Scanner_sized_53 (by decide) ?_
          refine lv_iload hx hb dn_Scanner_sized_54 (lv_at hl 0 rfl) ?_
          refine lv_ishl hx hb dn_Scanner_sized_56 ?_
          exact bl_57 v1 v2 v3 q_1.1 q_7.1 (((1 : Int32) <<< (q_7.1 &&& 31))) q_7.2 hf H locs ls hP hD hS (lv_sub hl [2, 3, 4, 5, 1, 0] rfl)
        · have hf := (if_pos h).symm.trans hf
          refine lv_bipush (v := 10) hx hb dn_Scanner_sized_48 (by decide) ?_
          refine lv_goto (tgt := 57) hx hb dn_Scanner_sized_50 (by decide) ?_
          exact bl_57 v1 v2 v3 q_1.1 q_7.1 10 q_7.2 hf H locs ls hP hD hS (lv_sub hl [2, 3, 4, 5, 1, 0] rfl)
      · have hf := (if_neg h).symm.trans hf
        refine lv_iconst (v := 0) hx hb dn_Scanner_sized_41 (by decide) ?_
        rw [hQQ, ← Option.some.inj hf]
        exact xk_zret (w1 := fun u : Unit => (wC a v cI cB cJ cZ cQ q_7.2)) () hx hb hr rfl hlocks hK hS dn_Scanner_sized_42 hP hD rfl (Nat.le_refl _) (Nat.le_refl _)
set_option maxHeartbeats 8000000 in
set_option maxRecDepth 100000 in
theorem ct_Scanner_number_Sc (l : Launch) (dC : Nat → ClassId) (dI : Nat → Nat → Nat) (cI cB cJ cZ cQ : ClassId) (N sz : Nat) (a : Nat → Nat) (v : Nat → Value) (hv_0 : v 0 = .ref (a 307)) (hv_1 : v 1 = .ref (a 111)) (v1 : Int32) (s : ms) (y : (Int32 × ms)) (hf : fn_Scanner_number_Sc N v1 s = some y) : Met l yn_Scanner_number (xw yn_Scanner_number bn_Scanner_number 5 (some .int)) ({ frames := 4, cells := 0, slots := 0, locals := 98 }) (dc_P (dC, dI) xcl (xt cI cB cJ cZ cQ) [.ref ((a 102)), .int v1] sz (wC a v cI cB cJ cZ cQ s)) (xk_Qi (dC, dI) xcl (xt cI cB cJ cZ cQ) (fun (r : Int32) (_ : Unit) => r = y.1) (fun u : Unit => (wC a v cI cB cJ cZ cQ y.2)) (va_A (wC a v cI cB cJ cZ cQ s) sz)) 0 0 (va_A (wC a v cI cB cJ cZ cQ s) sz) := by
  refine dc_of (QA := xk_Qi (dC, dI) xcl (xt cI cB cJ cZ cQ) (fun (r : Int32) (_ : Unit) => r = y.1) (fun u : Unit => (wC a v cI cB cJ cZ cQ y.2))) (by decide) (Nat.le_of_ble_eq_true rfl) ?_
  intro p e s0 m below meth c hx hb hml hown hg hr hlocks hin hP hK hN A hA hD hT ls hl
  have hown : s0.vm.findClass rn_Scanner = some m.cls := hown
  obtain ⟨H, hH⟩ : ∃ z, z = s0.heap := ⟨_, rfl⟩
  rw [← hH] at hP
  have hS : va_S A s0.heap H [] := by rw [hH]; exact va_S.rf
  suffices kk : ∀ QQ : State → Prop, QQ = MQ below (xk_Qi (dC, dI) xcl (xt cI cB cJ cZ cQ) (fun (r : Int32) (_ : Unit) => r = y.1) (fun u : Unit => (wC a v cI cB cJ cZ cQ y.2)) A) [.ref ((a 102)), .int v1].toArray s0 0 0 A → dcC p l e ({ frames := 4, cells := 0, slots := 0, locals := 98 }) s0 m [.ref ((a 102)), .int v1].toArray below meth c QQ (dC, dI) A (wC a v cI cB cJ cZ cQ s) 0 5 [(0, .ref ((a 102))), (1, .int v1)] [] by
    have k9 := kk _ rfl H [] ls hP hD hS hl
    rw [hH] at k9; exact k9
  clear hP hD hS hl hH H ls
  intro QQ hQQ
  have bl_59 : ∀ (x1 : Int32) (x2 : Int32) (x3 : Int32) (s : ms), bk_Scanner_number_Sc_59 N x1 x2 x3 s = some y → dcC p l e ({ frames := 4, cells := 0, slots := 0, locals := 98 }) s0 m [.ref ((a 102)), .int v1].toArray below meth c QQ (dC, dI) A (wC a v cI cB cJ cZ cQ s) 59 5 [(0, .ref ((a 102))), (1, .int x1), (2, .int x2), (3, .int x3)] [] := by
    intro x1 x2 x3 s hf H locs ls hP hD hS hl
    unfold bk_Scanner_number_Sc_59 at hf
    refine lv_iload_n hx hb dn_Scanner_number_59 rfl (lv_at hl 2 rfl) ?_
    refine lv_iconst (v := (-1)) hx hb dn_Scanner_number_60 (by decide) ?_
    refine lv_icmp_eq (tgt := 80) hx hb dn_Scanner_number_61 (by decide) (fun h => ?_) (fun h => ?_)
    · have hf := (if_pos h).symm.trans hf
      refine lv_aload_n hx hb dn_Scanner_number_80 rfl (lv_at hl 0 rfl) ?_
      refine lv_iload_n hx hb dn_Scanner_number_81 rfl (lv_at hl 1 rfl) ?_
      refine lv_iload_n hx hb dn_Scanner_number_82 rfl (lv_at hl 3 rfl) ?_
      refine lv_ldc hx hb hown (hg _ wn_4_78) dn_Scanner_number_83 ?_
      obtain ⟨q_1, hc_2, hf⟩ := dc_b hf
      refine dc_calli (dc_runV (ar := 3) (As := [.int x1, .int x3, .int 65535]) (rest := []) (ci := 3) (q0 := 2) ⟨hx, hb, hml, hown, hg⟩ hK hN hT hS hA (ct_Scanner_decimal_Sc l dC dI cI cB cJ cZ cQ N H.size a v hv_0 x1 x3 65535 s q_1 hc_2) hP hD rfl rfl wn_4_58 wn_4_60 sn_Scanner_decimal wn_1_3 wn_4_61 rfl rfl (by decide +kernel) ⟨Nat.le_of_ble_eq_true rfl, Nat.le_of_ble_eq_true rfl⟩ rfl hl.1 rfl (Nat.le_of_ble_eq_true rfl) dn_Scanner_number_85 ⟨Nat.le_of_ble_eq_true rfl, Nat.le_of_ble_eq_true rfl⟩) hP hD hS hA (fun r_3 _ H locs hw hP hD hS => ?_)
      have hw : r_3 = q_1.1 := hw
      subst hw
      refine lv_istore (lv' := [(4, .int q_1.1), (0, .ref ((a 102))), (1, .int x1), (2, .int x2), (3, .int x3)]) hx hb dn_Scanner_number_88 hl (by decide) rfl (fun ls hl => ?_)
      refine lv_iload hx hb dn_Scanner_number_90 (lv_at hl 0 rfl) ?_
      refine lv_iconst (v := (-1)) hx hb dn_Scanner_number_92 (by decide) ?_
      refine lv_icmp_ne (tgt := 98) hx hb dn_Scanner_number_93 (by decide) (fun h => ?_) (fun h => ?_)
      · have hf := (if_neg h).symm.trans hf
        refine lv_aload_n hx hb dn_Scanner_number_98 rfl (lv_at hl 1 rfl) ?_
        refine va_get (D := (dC, dI)) (ci := 3) (v := .ref ((a 101))) (C := rn_Scanner) (T := fn_Scanner) (N := 9) hx hb hg in_Scanner hown hK hP 2 rfl rfl 0 (by decide) (hg _ wn_1_89) (fun _ h9 => h9) rfl dn_Scanner_number_99 ?_
        refine lv_iconst (v := 3) hx hb dn_Scanner_number_102 (by decide) ?_
        refine lv_iload_n hx hb dn_Scanner_number_103 rfl (lv_at hl 2 rfl) ?_
        refine lv_iload hx hb dn_Scanner_number_104 (lv_at hl 0 rfl) ?_
        obtain ⟨q_4, hc_5, hf⟩ := dc_b hf
        refine dc_callv (dc_runV (ar := 3) (As := [.int 3, .int x1, .int q_1.1]) (rest := []) (ci := 2) (q0 := 1) ⟨hx, hb, hml, hown, hg⟩ hK hN hT hS hA (ct_Tokens_add_Tk l dC dI cI cB cJ cZ cQ N H.size a v 3 x1 q_1.1 q_1.2 q_4 hc_5) hP hD rfl rfl wn_4_45 wn_4_46 wn_4_47 wn_1_2 wn_4_48 rfl rfl (by decide +kernel) ⟨Nat.le_of_ble_eq_true rfl, Nat.le_of_ble_eq_true rfl⟩ rfl hl.1 rfl (Nat.le_of_ble_eq_true rfl) dn_Scanner_number_106 ⟨Nat.le_of_ble_eq_true rfl, Nat.le_of_ble_eq_true rfl⟩) hP hD hS hA (fun _ H locs hw hP hD hS => ?_)
        refine lv_iload_n hx hb dn_Scanner_number_109 rfl (lv_at hl 4 rfl) ?_
        rw [hQQ, ← Option.some.inj hf]
        exact xk_iret (w1 := fun u : Unit => (wC a v cI cB cJ cZ cQ q_4.2)) () hx hb hr hlocks hK hS dn_Scanner_number_110 hP hD rfl (Nat.le_refl _) (Nat.le_refl _)
      · have hf := (if_pos h).symm.trans hf
        refine lv_iconst (v := (-1)) hx hb dn_Scanner_number_96 (by decide) ?_
        rw [hQQ, ← Option.some.inj hf]
        exact xk_iret (w1 := fun u : Unit => (wC a v cI cB cJ cZ cQ q_1.2)) () hx hb hr hlocks hK hS dn_Scanner_number_97 hP hD rfl (Nat.le_refl _) (Nat.le_refl _)
    · have hf := (if_neg h).symm.trans hf
      refine lv_aload_n hx hb dn_Scanner_number_64 rfl (lv_at hl 0 rfl) ?_
      refine lv_iload_n hx hb dn_Scanner_number_65 rfl (lv_at hl 1 rfl) ?_
      refine lv_iload_n hx hb dn_Scanner_number_66 rfl (lv_at hl 2 rfl) ?_
      refine lv_iload_n hx hb dn_Scanner_number_67 rfl (lv_at hl 3 rfl) ?_
      obtain ⟨q_1, hc_2, hf⟩ := dc_b hf
      refine dc_calli (dc_runV (ar := 3) (As := [.int x1, .int x2, .int x3]) (rest := []) (ci := 3) (q0 := 2) ⟨hx, hb, hml, hown, hg⟩ hK hN hT hS hA (ct_Scanner_sized_Sc l dC dI cI cB cJ cZ cQ N H.size a v hv_0 hv_1 x1 x2 x3 s q_1 hc_2) hP hD rfl rfl wn_4_54 wn_4_56 sn_Scanner_sized wn_1_3 wn_4_57 rfl rfl (by decide +kernel) ⟨Nat.le_of_ble_eq_true rfl, Nat.le_of_ble_eq_true rfl⟩ rfl hl.1 rfl (Nat.le_of_ble_eq_true rfl) dn_Scanner_number_68 ⟨Nat.le_of_ble_eq_true rfl, Nat.le_of_ble_eq_true rfl⟩) hP hD hS hA (fun r_3 _ H locs hw hP hD hS => ?_)
      have hw : r_3 = q_1.1 := hw
      subst hw
      refine lv_if_eq (tgt := 78) hx hb dn_Scanner_number_71 (by decide) (fun h => ?_) (fun h => ?_)
      · have hf := (if_pos h).symm.trans hf
        refine lv_iconst (v := (-1)) hx hb dn_Scanner_number_78 (by decide) ?_
        rw [hQQ, ← Option.some.inj hf]
        exact xk_iret (w1 := fun u : Unit => (wC a v cI cB cJ cZ cQ q_1.2)) () hx hb hr hlocks hK hS dn_Scanner_number_79 hP hD rfl (Nat.le_refl _) (Nat.le_refl _)
      · have hf := (if_neg h).symm.trans hf
        refine lv_iload_n hx hb dn_Scanner_number_74 rfl (lv_at hl 3 rfl) ?_
        refine lv_goto (tgt := 79) hx hb dn_Scanner_number_75 (by decide) ?_
        rw [hQQ, ← Option.some.inj hf]
        exact xk_iret (w1 := fun u : Unit => (wC a v cI cB cJ cZ cQ q_1.2)) () hx hb hr hlocks hK hS dn_Scanner_number_79 hP hD rfl (Nat.le_refl _) (Nat.le_refl _)
  have bl_40 : ∀ (k_4 : Int32 → Int32 → Int32 → ms → Option (Int32 × ms)) (hk_4 : ∀ (x1 : Int32) (x2 : Int32) (x3 : Int32) (s : ms), k_4 x1 x2 x3 s = some y → dcC p l e ({ frames := 4, cells := 0, slots := 0, locals := 98 }) s0 m [.ref ((a 102)), .int v1].toArray below meth c QQ (dC, dI) A (wC a v cI cB cJ cZ cQ s) 4 5 [(0, .ref ((a 102))), (1, .int x1), (2, .int x2), (3, .int x3)] []) (x1 : Int32) (x2 : Int32) (x3 : Int32) (s : ms), bk_Scanner_number_Sc_40 N k_4 x1 x2 x3 s = some y → dcC p l e ({ frames := 4, cells := 0, slots := 0, locals := 98 }) s0 m [.ref ((a 102)), .int v1].toArray below meth c QQ (dC, dI) A (wC a v cI cB cJ cZ cQ s) 40 5 [(0, .ref ((a 102))), (1, .int x1), (2, .int x2), (3, .int x3)] [] := by
    intro k_4 hk_4 x1 x2 x3 s hf H locs ls hP hD hS hl
    unfold bk_Scanner_number_Sc_40 at hf
    refine lv_aload_n hx hb dn_Scanner_number_40 rfl (lv_at hl 0 rfl) ?_
    refine va_get (D := (dC, dI)) (ci := 3) (v := .ref ((a 307))) (C := rn_Scanner) (T := fn_Scanner) (N := 9) hx hb hg in_Scanner hown hK hP 2 rfl rfl 1 (by decide) (hg _ wn_1_90) (fun _ h9 => h9) (congrArg some hv_0) dn_Scanner_number_41 ?_
    refine lv_iload_n hx hb dn_Scanner_number_44 rfl (lv_at hl 3 rfl) ?_
    obtain ⟨hg_1, hf⟩ := dc_g hf
    refine va_bald hx hb hK hP 52 1 rfl rfl hg_1 dn_Scanner_number_45 ?_
    refine xk_ti (y := ((s.1 307) (Int32.toNatClampNeg x3))) rfl ?_
    refine lv_bipush (v := 39) hx hb dn_Scanner_number_46 (by decide) ?_
    refine lv_icmp_ne (tgt := 53) hx hb dn_Scanner_number_48 (by decide) (fun h => ?_) (fun h => ?_)
    · have hf := (if_neg h).symm.trans hf
      refine lv_iinc (v := (x3 + 1)) (lv' := [(3, .int ((x3 + 1))), (0, .ref ((a 102))), (1, .int x1), (2, .int x2)]) hx hb dn_Scanner_number_53 hl (k := 3) rfl (dc_inc (by decide)) (by decide) rfl (fun ls hl => ?_)
      refine lv_goto (tgt := 4) hx hb dn_Scanner_number_56 (by decide) ?_
      exact hk_4 x1 x2 ((x3 + 1)) s hf H locs ls hP hD hS (lv_sub hl [1, 2, 3, 0] rfl)
    · have hf := (if_pos h).symm.trans hf
      refine lv_iload_n hx hb dn_Scanner_number_51 rfl (lv_at hl 3 rfl) ?_
      refine lv_istore_n (lv' := [(2, .int x3), (0, .ref ((a 102))), (1, .int x1), (3, .int x3)]) hx hb dn_Scanner_number_52 rfl hl (by decide) rfl (fun ls hl => ?_)
      refine lv_iinc (v := (x3 + 1)) (lv' := [(3, .int ((x3 + 1))), (2, .int x3), (0, .ref ((a 102))), (1, .int x1)]) hx hb dn_Scanner_number_53 hl (k := 3) rfl (dc_inc (by decide)) (by decide) rfl (fun ls hl => ?_)
      refine lv_goto (tgt := 4) hx hb dn_Scanner_number_56 (by decide) ?_
      exact hk_4 x1 x3 ((x3 + 1)) s hf H locs ls hP hD hS (lv_sub hl [2, 3, 1, 0] rfl)
  have hd_4 : ∀ (n : Nat) (x1 : Int32) (x2 : Int32) (x3 : Int32) (s : ms), hd_Scanner_number_Sc_4 N n x1 x2 x3 s = some y → dcC p l e ({ frames := 4, cells := 0, slots := 0, locals := 98 }) s0 m [.ref ((a 102)), .int v1].toArray below meth c QQ (dC, dI) A (wC a v cI cB cJ cZ cQ s) 4 5 [(0, .ref ((a 102))), (1, .int x1), (2, .int x2), (3, .int x3)] [] := by
    intro n
    induction n with
    | zero => intro x1 x2 x3 s hf; cases hf
    | succ n ih =>
      intro x1 x2 x3 s hf H locs ls hP hD hS hl
      have hf : bd_Scanner_number_Sc_4 N (hd_Scanner_number_Sc_4 N n) x1 x2 x3 s = some y := hf
      have hk_4 := ih
      generalize hd_Scanner_number_Sc_4 N n = k_4 at hf hk_4
      unfold bd_Scanner_number_Sc_4 at hf
      refine lv_iload_n hx hb dn_Scanner_number_4 rfl (lv_at hl 3 rfl) ?_
      refine lv_aload_n hx hb dn_Scanner_number_5 rfl (lv_at hl 0 rfl) ?_
      refine va_get (D := (dC, dI)) (ci := 3) (v := .int ((s.1 222 0))) (C := rn_Scanner) (T := fn_Scanner) (N := 9) hx hb hg in_Scanner hown hK hP 2 rfl rfl 2 (by decide) (hg _ wn_1_91) (fun _ h9 => h9) rfl dn_Scanner_number_6 ?_
      refine lv_icmp_ge (tgt := 59) hx hb dn_Scanner_number_9 (by decide) (fun h => ?_) (fun h => ?_)
      · have hf := (if_pos h).symm.trans hf
        exact bl_59 x1 x2 x3 s hf H locs ls hP hD hS hl
      · have hf := (if_neg h).symm.trans hf
        refine lv_aload_n hx hb dn_Scanner_number_12 rfl (lv_at hl 0 rfl) ?_
        refine va_get (D := (dC, dI)) (ci := 3) (v := .ref ((a 307))) (C := rn_Scanner) (T := fn_Scanner) (N := 9) hx hb hg in_Scanner hown hK hP 2 rfl rfl 1 (by decide) (hg _ wn_1_90) (fun _ h9 => h9) (congrArg some hv_0) dn_Scanner_number_13 ?_
        refine lv_iload_n hx hb dn_Scanner_number_16 rfl (lv_at hl 3 rfl) ?_
        obtain ⟨hg_1, hf⟩ := dc_g hf
        refine va_bald hx hb hK hP 52 1 rfl rfl hg_1 dn_Scanner_number_17 ?_
        refine xk_ti (y := ((s.1 307) (Int32.toNatClampNeg x3))) rfl ?_
        obtain ⟨q_2, hc_3, hf⟩ := dc_b hf
        refine dc_calli (dc_runSN (ar := 1) (As := [.int (((s.1 307) (Int32.toNatClampNeg x3)))]) (rest := []) (host := "CircuitCycles") ⟨hx, hb, hml, hown, hg⟩ hK hN hT hS hA (ct_C_continuesWord l dC dI cI cB cJ cZ cQ N H.size a v (((s.1 307) (Int32.toNatClampNeg x3))) s q_2 hc_3) hP hD nl_Scanner_102 wn_3_210 wn_1_1 wn_3_211 rfl rfl (by decide +kernel) ⟨Nat.le_of_ble_eq_true rfl, Nat.le_of_ble_eq_true rfl⟩ rfl hl.1 rfl (Nat.le_of_ble_eq_true rfl) dn_Scanner_number_18 ⟨Nat.le_of_ble_eq_true rfl, Nat.le_of_ble_eq_true rfl⟩) hP hD hS hA (fun r_4 _ H locs hw hP hD hS => ?_)
        have hw : r_4 = q_2.1 := hw
        subst hw
        refine lv_if_ne (tgt := 40) hx hb dn_Scanner_number_21 (by decide) (fun h => ?_) (fun h => ?_)
        · have hf := (if_neg h).symm.trans hf
          exact bl_40 k_4 hk_4 x1 x2 x3 q_2.2 hf H locs ls hP hD hS hl
        · have hf := (if_pos h).symm.trans hf
          refine lv_aload_n hx hb dn_Scanner_number_24 rfl (lv_at hl 0 rfl) ?_
          refine va_get (D := (dC, dI)) (ci := 3) (v := .ref ((a 307))) (C := rn_Scanner) (T := fn_Scanner) (N := 9) hx hb hg in_Scanner hown hK hP 2 rfl rfl 1 (by decide) (hg _ wn_1_90) (fun _ h9 => h9) (congrArg some hv_0) dn_Scanner_number_25 ?_
          refine lv_iload_n hx hb dn_Scanner_number_28 rfl (lv_at hl 3 rfl) ?_
          obtain ⟨hg_5, hf⟩ := dc_g hf
          refine va_bald hx hb hK hP 52 1 rfl rfl hg_5 dn_Scanner_number_29 ?_
          refine xk_ti (y := ((q_2.2.1 307) (Int32.toNatClampNeg x3))) rfl ?_
          refine lv_bipush (v := 39) hx hb dn_Scanner_number_30 (by decide) ?_
          refine lv_icmp_ne (tgt := 59) hx hb dn_Scanner_number_32 (by decide) (fun h => ?_) (fun h => ?_)
          · have hf := (if_neg h).symm.trans hf
            exact bl_59 x1 x2 x3 q_2.2 hf H locs ls hP hD hS hl
          · have hf := (if_pos h).symm.trans hf
            refine lv_iload_n hx hb dn_Scanner_number_35 rfl (lv_at hl 2 rfl) ?_
            refine lv_iconst (v := (-1)) hx hb dn_Scanner_number_36 (by decide) ?_
            refine lv_icmp_ne (tgt := 59) hx hb dn_Scanner_number_37 (by decide) (fun h => ?_) (fun h => ?_)
            · have hf := (if_neg h).symm.trans hf
              exact bl_59 x1 x2 x3 q_2.2 hf H locs ls hP hD hS hl
            · have hf := (if_pos h).symm.trans hf
              exact bl_40 k_4 hk_4 x1 x2 x3 q_2.2 hf H locs ls hP hD hS hl
  intro H locs ls hP hD hS hl
  unfold fn_Scanner_number_Sc at hf
  refine lv_iconst (v := (-1)) hx hb dn_Scanner_number_0 (by decide) ?_
  refine lv_istore_n (lv' := [(2, .int ((-1))), (0, .ref ((a 102))), (1, .int v1)]) hx hb dn_Scanner_number_1 rfl hl (by decide) rfl (fun ls hl => ?_)
  refine lv_iload_n hx hb dn_Scanner_number_2 rfl (lv_at hl 2 rfl) ?_
  refine lv_istore_n (lv' := [(3, .int v1), (2, .int ((-1))), (0, .ref ((a 102))), (1, .int v1)]) hx hb dn_Scanner_number_3 rfl hl (by decide) rfl (fun ls hl => ?_)
  exact hd_4 N v1 ((-1)) v1 s hf H locs ls hP hD hS (lv_sub hl [2, 3, 1, 0] rfl)
set_option maxHeartbeats 8000000 in
set_option maxRecDepth 100000 in
theorem ct_Code_literal_Kc (l : Launch) (dC : Nat → ClassId) (dI : Nat → Nat → Nat) (cI cB cJ cZ cQ : ClassId) (N sz : Nat) (a : Nat → Nat) (v : Nat → Value) (v1 : Int32) (v2 : Int64) (s : ms) (y : (Int32 × ms)) (hf : fn_Code_literal_Kc N v1 v2 s = some y) : Met l yn_Code_literal (xw yn_Code_literal bn_Code_literal 4 (some .int)) ({ frames := 0, cells := 0, slots := 0, locals := 0 }) (dc_P (dC, dI) xcl (xt cI cB cJ cZ cQ) [.ref ((a 115)), .int v1, .long v2] sz (wC a v cI cB cJ cZ cQ s)) (xk_Qi (dC, dI) xcl (xt cI cB cJ cZ cQ) (fun (r : Int32) (_ : Unit) => r = y.1) (fun u : Unit => (wC a v cI cB cJ cZ cQ y.2)) (va_A (wC a v cI cB cJ cZ cQ s) sz)) 0 0 (va_A (wC a v cI cB cJ cZ cQ s) sz) := by
  refine dc_of (QA := xk_Qi (dC, dI) xcl (xt cI cB cJ cZ cQ) (fun (r : Int32) (_ : Unit) => r = y.1) (fun u : Unit => (wC a v cI cB cJ cZ cQ y.2))) (by decide) (Nat.le_of_ble_eq_true rfl) ?_
  intro p e s0 m below meth c hx hb hml hown hg hr hlocks hin hP hK hN A hA hD hT ls hl
  have hown : s0.vm.findClass rn_Code = some m.cls := hown
  obtain ⟨H, hH⟩ : ∃ z, z = s0.heap := ⟨_, rfl⟩
  rw [← hH] at hP
  have hS : va_S A s0.heap H [] := by rw [hH]; exact va_S.rf
  suffices kk : ∀ QQ : State → Prop, QQ = MQ below (xk_Qi (dC, dI) xcl (xt cI cB cJ cZ cQ) (fun (r : Int32) (_ : Unit) => r = y.1) (fun u : Unit => (wC a v cI cB cJ cZ cQ y.2)) A) [.ref ((a 115)), .int v1, .long v2].toArray s0 0 0 A → dcC p l e ({ frames := 0, cells := 0, slots := 0, locals := 0 }) s0 m [.ref ((a 115)), .int v1, .long v2].toArray below meth c QQ (dC, dI) A (wC a v cI cB cJ cZ cQ s) 0 4 [(0, .ref ((a 115))), (1, .int v1), (2, .long v2)] [] by
    have k9 := kk _ rfl H [] ls hP hD hS hl
    rw [hH] at k9; exact k9
  clear hP hD hS hl hH H ls
  intro QQ hQQ
  intro H locs ls hP hD hS hl
  unfold fn_Code_literal_Kc at hf
  refine lv_aload_n hx hb dn_Code_literal_0 rfl (lv_at hl 0 rfl) ?_
  refine va_get (D := (dC, dI)) (ci := 12) (v := .int ((s.1 390 0))) (C := rn_Code) (T := fn_Code) (N := 5) hx hb hg in_Code hown hK hP 15 rfl rfl 4 (by decide) (hg _ wn_2_219) (fun _ h9 => h9) rfl dn_Code_literal_1 ?_
  refine lv_sipush (v := 13108) hx hb dn_Code_literal_4 (by decide) ?_
  refine lv_icmp_lt (tgt := 12) hx hb dn_Code_literal_7 (by decide) (fun h => ?_) (fun h => ?_)
  · have hf := (if_pos h).symm.trans hf
    refine lv_aload_n hx hb dn_Code_literal_12 rfl (lv_at hl 0 rfl) ?_
    refine va_get (D := (dC, dI)) (ci := 12) (v := .ref ((a 388))) (C := rn_Code) (T := fn_Code) (N := 5) hx hb hg in_Code hown hK hP 15 rfl rfl 2 (by decide) (hg _ wn_2_217) (fun _ h9 => h9) rfl dn_Code_literal_13 ?_
    refine lv_aload_n hx hb dn_Code_literal_16 rfl (lv_at hl 0 rfl) ?_
    refine va_get (D := (dC, dI)) (ci := 12) (v := .int ((s.1 390 0))) (C := rn_Code) (T := fn_Code) (N := 5) hx hb hg in_Code hown hK hP 15 rfl rfl 4 (by decide) (hg _ wn_2_219) (fun _ h9 => h9) rfl dn_Code_literal_17 ?_
    refine lv_iload_n hx hb dn_Code_literal_20 rfl (lv_at hl 1 rfl) ?_
    obtain ⟨hg_1, hf⟩ := dc_g hf
    refine va_iast hx hb hK hP hD hS 108 0 rfl rfl hg_1 dn_Code_literal_21 (fun H locs hP hD hS => ?_)
    have hP : va_P (dC, dI) xcl ((wC a v cI cB cJ cZ cQ s).set 108 ((a 388), .inl (cI, 13108, .inl (upd (s.1 388) (Int32.toNatClampNeg ((s.1 390 0))) v1)))) H := hP
    have hD : va_D A ((wC a v cI cB cJ cZ cQ s).set 108 ((a 388), .inl (cI, 13108, .inl (upd (s.1 388) (Int32.toNatClampNeg ((s.1 390 0))) v1)))) := hD
    have hP := wC_P_388 hP
    have hD := wC_D_388 hD
    refine lv_aload_n hx hb dn_Code_literal_22 rfl (lv_at hl 0 rfl) ?_
    refine va_get (D := (dC, dI)) (ci := 12) (v := .ref ((a 389))) (C := rn_Code) (T := fn_Code) (N := 5) hx hb hg in_Code hown hK hP 15 rfl rfl 3 (by decide) (hg _ wn_2_218) (fun _ h9 => h9) rfl dn_Code_literal_23 ?_
    refine lv_aload_n hx hb dn_Code_literal_26 rfl (lv_at hl 0 rfl) ?_
    refine va_get (D := (dC, dI)) (ci := 12) (v := .int ((s.1 390 0))) (C := rn_Code) (T := fn_Code) (N := 5) hx hb hg in_Code hown hK hP 15 rfl rfl 4 (by decide) (hg _ wn_2_219) (fun _ h9 => h9) rfl dn_Code_literal_27 ?_
    refine lv_lload_n hx hb dn_Code_literal_30 rfl (lv_at hl 2 rfl) ?_
    obtain ⟨hg_2, hf⟩ := dc_g hf
    refine va_last hx hb hK hP hD hS 109 2 rfl rfl hg_2 dn_Code_literal_31 (fun H locs hP hD hS => ?_)
    have hP : va_P (dC, dI) xcl ((wC a v cI cB cJ cZ cQ (upI s 388 (upd (s.1 388) (Int32.toNatClampNeg ((s.1 390 0))) v1))).set 109 ((a 389), .inl (cJ, 13108, .inr (.inl (vp_updL (s.2 389) (Int32.toNatClampNeg ((s.1 390 0))) v2))))) H := hP
    have hD : va_D A ((wC a v cI cB cJ cZ cQ (upI s 388 (upd (s.1 388) (Int32.toNatClampNeg ((s.1 390 0))) v1))).set 109 ((a 389), .inl (cJ, 13108, .inr (.inl (vp_updL (s.2 389) (Int32.toNatClampNeg ((s.1 390 0))) v2))))) := hD
    have hP := wC_P_389 hP
    have hD := wC_D_389 hD
    refine lv_aload_n hx hb dn_Code_literal_32 rfl (lv_at hl 0 rfl) ?_
    refine lv_dup hx hb dn_Code_literal_33 rfl ?_
    refine va_get (D := (dC, dI)) (ci := 12) (v := .int ((s.1 390 0))) (C := rn_Code) (T := fn_Code) (N := 5) hx hb hg in_Code hown hK hP 15 rfl rfl 4 (by decide) (hg _ wn_2_219) (fun _ h9 => h9) rfl dn_Code_literal_34 ?_
    refine lv_iconst (v := 1) hx hb dn_Code_literal_37 (by decide) ?_
    refine lv_iadd hx hb dn_Code_literal_38 ?_
    refine va_put (D := (dC, dI)) (ci := 12) (v := .int (((s.1 390 0) + 1))) (ty := .int) (C := rn_Code) (T := fn_Code) (N := 5) hx hb hg in_Code tn_Code tk_Code nn_Code hown hK hP hD hS 15 rfl rfl 4 (by decide) (hg _ wn_2_219) (fun _ h9 => h9) rfl (tk_Code 4 (by decide)) rfl rfl (Nat.le_of_ble_eq_true rfl) dn_Code_literal_39 (fun H locs hP hD hS => ?_)
    have hP := wC_P_390 hP
    have hD := wC_D_390 hD
    refine lv_aload_n hx hb dn_Code_literal_42 rfl (lv_at hl 0 rfl) ?_
    refine va_get (D := (dC, dI)) (ci := 12) (v := .int (((s.1 390 0) + 1))) (C := rn_Code) (T := fn_Code) (N := 5) hx hb hg in_Code hown hK hP 15 rfl rfl 4 (by decide) (hg _ wn_2_219) (fun _ h9 => h9) rfl dn_Code_literal_43 ?_
    refine lv_iconst (v := 1) hx hb dn_Code_literal_46 (by decide) ?_
    refine lv_isub hx hb dn_Code_literal_47 ?_
    rw [hQQ, ← Option.some.inj hf]
    exact xk_iret (w1 := fun u : Unit => (wC a v cI cB cJ cZ cQ (upI (upJ (upI s 388 (upd (s.1 388) (Int32.toNatClampNeg ((s.1 390 0))) v1)) 389 (vp_updL (s.2 389) (Int32.toNatClampNeg ((s.1 390 0))) v2)) 390 (fun _ => ((s.1 390 0) + 1))))) () hx hb hr hlocks hK hS dn_Code_literal_48 hP hD rfl (Nat.le_refl _) (Nat.le_refl _)
  · have hf := (if_neg h).symm.trans hf
    refine lv_iconst (v := (-1)) hx hb dn_Code_literal_10 (by decide) ?_
    rw [hQQ, ← Option.some.inj hf]
    exact xk_iret (w1 := fun u : Unit => (wC a v cI cB cJ cZ cQ s)) () hx hb hr hlocks hK hS dn_Code_literal_11 hP hD rfl (Nat.le_refl _) (Nat.le_refl _)
set_option maxHeartbeats 8000000 in
set_option maxRecDepth 100000 in
theorem ct_Tokens_kindAt_Tk (l : Launch) (dC : Nat → ClassId) (dI : Nat → Nat → Nat) (cI cB cJ cZ cQ : ClassId) (N sz : Nat) (a : Nat → Nat) (v : Nat → Value) (v1 : Int32) (s : ms) (y : (Int32 × ms)) (hf : fn_Tokens_kindAt_Tk N v1 s = some y) : Met l yn_Tokens_kindAt (xw yn_Tokens_kindAt bn_Tokens_kindAt 2 (some .int)) ({ frames := 0, cells := 0, slots := 0, locals := 0 }) (dc_P (dC, dI) xcl (xt cI cB cJ cZ cQ) [.ref ((a 101)), .int v1] sz (wC a v cI cB cJ cZ cQ s)) (xk_Qi (dC, dI) xcl (xt cI cB cJ cZ cQ) (fun (r : Int32) (_ : Unit) => r = y.1) (fun u : Unit => (wC a v cI cB cJ cZ cQ y.2)) (va_A (wC a v cI cB cJ cZ cQ s) sz)) 0 0 (va_A (wC a v cI cB cJ cZ cQ s) sz) := by
  refine dc_of (QA := xk_Qi (dC, dI) xcl (xt cI cB cJ cZ cQ) (fun (r : Int32) (_ : Unit) => r = y.1) (fun u : Unit => (wC a v cI cB cJ cZ cQ y.2))) (by decide) (Nat.le_of_ble_eq_true rfl) ?_
  intro p e s0 m below meth c hx hb hml hown hg hr hlocks hin hP hK hN A hA hD hT ls hl
  have hown : s0.vm.findClass rn_Tokens = some m.cls := hown
  obtain ⟨H, hH⟩ : ∃ z, z = s0.heap := ⟨_, rfl⟩
  rw [← hH] at hP
  have hS : va_S A s0.heap H [] := by rw [hH]; exact va_S.rf
  suffices kk : ∀ QQ : State → Prop, QQ = MQ below (xk_Qi (dC, dI) xcl (xt cI cB cJ cZ cQ) (fun (r : Int32) (_ : Unit) => r = y.1) (fun u : Unit => (wC a v cI cB cJ cZ cQ y.2)) A) [.ref ((a 101)), .int v1].toArray s0 0 0 A → dcC p l e ({ frames := 0, cells := 0, slots := 0, locals := 0 }) s0 m [.ref ((a 101)), .int v1].toArray below meth c QQ (dC, dI) A (wC a v cI cB cJ cZ cQ s) 0 2 [(0, .ref ((a 101))), (1, .int v1)] [] by
    have k9 := kk _ rfl H [] ls hP hD hS hl
    rw [hH] at k9; exact k9
  clear hP hD hS hl hH H ls
  intro QQ hQQ
  intro H locs ls hP hD hS hl
  unfold fn_Tokens_kindAt_Tk at hf
  refine lv_iload_n hx hb dn_Tokens_kindAt_0 rfl (lv_at hl 1 rfl) ?_
  refine lv_if_lt (tgt := 25) hx hb dn_Tokens_kindAt_1 (by decide) (fun h => ?_) (fun h => ?_)
  · have hf := (if_pos h).symm.trans hf
    refine lv_iconst (v := (-1)) hx hb dn_Tokens_kindAt_25 (by decide) ?_
    rw [hQQ, ← Option.some.inj hf]
    exact xk_iret (w1 := fun u : Unit => (wC a v cI cB cJ cZ cQ s)) () hx hb hr hlocks hK hS dn_Tokens_kindAt_26 hP hD rfl (Nat.le_refl _) (Nat.le_refl _)
  · have hf := (if_neg h).symm.trans hf
    refine lv_iload_n hx hb dn_Tokens_kindAt_4 rfl (lv_at hl 1 rfl) ?_
    refine lv_aload_n hx hb dn_Tokens_kindAt_5 rfl (lv_at hl 0 rfl) ?_
    refine va_get (D := (dC, dI)) (ci := 2) (v := .int ((s.1 212 0))) (C := rn_Tokens) (T := fn_Tokens) (N := 9) hx hb hg in_Tokens hown hK hP 1 rfl rfl 1 (by decide) (hg _ wn_1_46) (fun _ h9 => h9) rfl dn_Tokens_kindAt_6 ?_
    refine lv_icmp_ge (tgt := 25) hx hb dn_Tokens_kindAt_9 (by decide) (fun h => ?_) (fun h => ?_)
    · have hf := (if_pos h).symm.trans hf
      refine lv_iconst (v := (-1)) hx hb dn_Tokens_kindAt_25 (by decide) ?_
      rw [hQQ, ← Option.some.inj hf]
      exact xk_iret (w1 := fun u : Unit => (wC a v cI cB cJ cZ cQ s)) () hx hb hr hlocks hK hS dn_Tokens_kindAt_26 hP hD rfl (Nat.le_refl _) (Nat.le_refl _)
    · have hf := (if_neg h).symm.trans hf
      refine lv_aload_n hx hb dn_Tokens_kindAt_12 rfl (lv_at hl 0 rfl) ?_
      refine va_get (D := (dC, dI)) (ci := 2) (v := .ref ((a 211))) (C := rn_Tokens) (T := fn_Tokens) (N := 9) hx hb hg in_Tokens hown hK hP 1 rfl rfl 0 (by decide) (hg _ wn_1_45) (fun _ h9 => h9) rfl dn_Tokens_kindAt_13 ?_
      refine lv_iload_n hx hb dn_Tokens_kindAt_16 rfl (lv_at hl 1 rfl) ?_
      obtain ⟨hg_1, hf⟩ := dc_g hf
      refine va_lald hx hb hK hP 16 2 rfl rfl hg_1 dn_Tokens_kindAt_17 ?_
      refine xk_tl (y := ((s.2 211) (Int32.toNatClampNeg v1))) rfl ?_
      refine lv_bipush (v := 40) hx hb dn_Tokens_kindAt_18 (by decide) ?_
      refine lv_lushr (v := (Int64.toUInt64 (((s.2 211) (Int32.toNatClampNeg v1))) >>> (Int64.toUInt64 (Int32.toInt64 40) &&& Int64.toUInt64 63)).toInt64) hx hb dn_Tokens_kindAt_20 rfl ?_
      refine lv_l2i (v := Int64.toInt32 (((Int64.toUInt64 (((s.2 211) (Int32.toNatClampNeg v1))) >>> (Int64.toUInt64 (Int32.toInt64 40) &&& Int64.toUInt64 63)).toInt64))) hx hb dn_Tokens_kindAt_21 rfl ?_
      refine lv_goto (tgt := 26) hx hb dn_Tokens_kindAt_22 (by decide) ?_
      rw [hQQ, ← Option.some.inj hf]
      exact xk_iret (w1 := fun u : Unit => (wC a v cI cB cJ cZ cQ s)) () hx hb hr hlocks hK hS dn_Tokens_kindAt_26 hP hD rfl (Nat.le_refl _) (Nat.le_refl _)
set_option maxHeartbeats 8000000 in
set_option maxRecDepth 100000 in
theorem ct_Tokens_extraAt_Tk (l : Launch) (dC : Nat → ClassId) (dI : Nat → Nat → Nat) (cI cB cJ cZ cQ : ClassId) (N sz : Nat) (a : Nat → Nat) (v : Nat → Value) (v1 : Int32) (s : ms) (y : (Int32 × ms)) (hf : fn_Tokens_extraAt_Tk N v1 s = some y) : Met l yn_Tokens_extraAt (xw yn_Tokens_extraAt bn_Tokens_extraAt 2 (some .int)) ({ frames := 0, cells := 0, slots := 0, locals := 0 }) (dc_P (dC, dI) xcl (xt cI cB cJ cZ cQ) [.ref ((a 101)), .int v1] sz (wC a v cI cB cJ cZ cQ s)) (xk_Qi (dC, dI) xcl (xt cI cB cJ cZ cQ) (fun (r : Int32) (_ : Unit) => r = y.1) (fun u : Unit => (wC a v cI cB cJ cZ cQ y.2)) (va_A (wC a v cI cB cJ cZ cQ s) sz)) 0 0 (va_A (wC a v cI cB cJ cZ cQ s) sz) := by
  refine dc_of (QA := xk_Qi (dC, dI) xcl (xt cI cB cJ cZ cQ) (fun (r : Int32) (_ : Unit) => r = y.1) (fun u : Unit => (wC a v cI cB cJ cZ cQ y.2))) (by decide) (Nat.le_of_ble_eq_true rfl) ?_
  intro p e s0 m below meth c hx hb hml hown hg hr hlocks hin hP hK hN A hA hD hT ls hl
  have hown : s0.vm.findClass rn_Tokens = some m.cls := hown
  obtain ⟨H, hH⟩ : ∃ z, z = s0.heap := ⟨_, rfl⟩
  rw [← hH] at hP
  have hS : va_S A s0.heap H [] := by rw [hH]; exact va_S.rf
  suffices kk : ∀ QQ : State → Prop, QQ = MQ below (xk_Qi (dC, dI) xcl (xt cI cB cJ cZ cQ) (fun (r : Int32) (_ : Unit) => r = y.1) (fun u : Unit => (wC a v cI cB cJ cZ cQ y.2)) A) [.ref ((a 101)), .int v1].toArray s0 0 0 A → dcC p l e ({ frames := 0, cells := 0, slots := 0, locals := 0 }) s0 m [.ref ((a 101)), .int v1].toArray below meth c QQ (dC, dI) A (wC a v cI cB cJ cZ cQ s) 0 2 [(0, .ref ((a 101))), (1, .int v1)] [] by
    have k9 := kk _ rfl H [] ls hP hD hS hl
    rw [hH] at k9; exact k9
  clear hP hD hS hl hH H ls
  intro QQ hQQ
  intro H locs ls hP hD hS hl
  unfold fn_Tokens_extraAt_Tk at hf
  refine lv_iload_n hx hb dn_Tokens_extraAt_0 rfl (lv_at hl 1 rfl) ?_
  refine lv_if_lt (tgt := 27) hx hb dn_Tokens_extraAt_1 (by decide) (fun h => ?_) (fun h => ?_)
  · have hf := (if_pos h).symm.trans hf
    refine lv_iconst (v := (-1)) hx hb dn_Tokens_extraAt_27 (by decide) ?_
    rw [hQQ, ← Option.some.inj hf]
    exact xk_iret (w1 := fun u : Unit => (wC a v cI cB cJ cZ cQ s)) () hx hb hr hlocks hK hS dn_Tokens_extraAt_28 hP hD rfl (Nat.le_refl _) (Nat.le_refl _)
  · have hf := (if_neg h).symm.trans hf
    refine lv_iload_n hx hb dn_Tokens_extraAt_4 rfl (lv_at hl 1 rfl) ?_
    refine lv_aload_n hx hb dn_Tokens_extraAt_5 rfl (lv_at hl 0 rfl) ?_
    refine va_get (D := (dC, dI)) (ci := 2) (v := .int ((s.1 212 0))) (C := rn_Tokens) (T := fn_Tokens) (N := 9) hx hb hg in_Tokens hown hK hP 1 rfl rfl 1 (by decide) (hg _ wn_1_46) (fun _ h9 => h9) rfl dn_Tokens_extraAt_6 ?_
    refine lv_icmp_ge (tgt := 27) hx hb dn_Tokens_extraAt_9 (by decide) (fun h => ?_) (fun h => ?_)
    · have hf := (if_pos h).symm.trans hf
      refine lv_iconst (v := (-1)) hx hb dn_Tokens_extraAt_27 (by decide) ?_
      rw [hQQ, ← Option.some.inj hf]
      exact xk_iret (w1 := fun u : Unit => (wC a v cI cB cJ cZ cQ s)) () hx hb hr hlocks hK hS dn_Tokens_extraAt_28 hP hD rfl (Nat.le_refl _) (Nat.le_refl _)
    · have hf := (if_neg h).symm.trans hf
      refine lv_aload_n hx hb dn_Tokens_extraAt_12 rfl (lv_at hl 0 rfl) ?_
      refine va_get (D := (dC, dI)) (ci := 2) (v := .ref ((a 211))) (C := rn_Tokens) (T := fn_Tokens) (N := 9) hx hb hg in_Tokens hown hK hP 1 rfl rfl 0 (by decide) (hg _ wn_1_45) (fun _ h9 => h9) rfl dn_Tokens_extraAt_13 ?_
      refine lv_iload_n hx hb dn_Tokens_extraAt_16 rfl (lv_at hl 1 rfl) ?_
      obtain ⟨hg_1, hf⟩ := dc_g hf
      refine va_lald hx hb hK hP 16 2 rfl rfl hg_1 dn_Tokens_extraAt_17 ?_
      refine xk_tl (y := ((s.2 211) (Int32.toNatClampNeg v1))) rfl ?_
      refine lv_l2i (v := Int64.toInt32 (((s.2 211) (Int32.toNatClampNeg v1)))) hx hb dn_Tokens_extraAt_18 rfl ?_
      refine lv_ldc hx hb hown (hg _ wn_4_156) dn_Tokens_extraAt_19 ?_
      refine lv_iand hx hb dn_Tokens_extraAt_21 ?_
      refine lv_iconst (v := 1) hx hb dn_Tokens_extraAt_22 (by decide) ?_
      refine lv_isub hx hb dn_Tokens_extraAt_23 ?_
      refine lv_goto (tgt := 28) hx hb dn_Tokens_extraAt_24 (by decide) ?_
      rw [hQQ, ← Option.some.inj hf]
      exact xk_iret (w1 := fun u : Unit => (wC a v cI cB cJ cZ cQ s)) () hx hb hr hlocks hK hS dn_Tokens_extraAt_28 hP hD rfl (Nat.le_refl _) (Nat.le_refl _)
set_option maxHeartbeats 8000000 in
set_option maxRecDepth 100000 in
theorem ct_Tokens_take_Tk (l : Launch) (dC : Nat → ClassId) (dI : Nat → Nat → Nat) (cI cB cJ cZ cQ : ClassId) (N sz : Nat) (a : Nat → Nat) (v : Nat → Value) (s : ms) (y : (Unit × ms)) (hf : fn_Tokens_take_Tk N s = some y) : Met l yn_Tokens_take (xw yn_Tokens_take bn_Tokens_take 1 none) ({ frames := 1, cells := 0, slots := 0, locals := 21 }) (dc_P (dC, dI) xcl (xt cI cB cJ cZ cQ) [.ref ((a 101))] sz (wC a v cI cB cJ cZ cQ s)) (xk_Qv (dC, dI) xcl (xt cI cB cJ cZ cQ) (fun _ : Unit => True) (fun u : Unit => (wC a v cI cB cJ cZ cQ y.2)) (va_A (wC a v cI cB cJ cZ cQ s) sz)) 0 0 (va_A (wC a v cI cB cJ cZ cQ s) sz) := by
  refine dc_of (QA := xk_Qv (dC, dI) xcl (xt cI cB cJ cZ cQ) (fun _ : Unit => True) (fun u : Unit => (wC a v cI cB cJ cZ cQ y.2))) (by decide) (Nat.le_of_ble_eq_true rfl) ?_
  intro p e s0 m below meth c hx hb hml hown hg hr hlocks hin hP hK hN A hA hD hT ls hl
  have hown : s0.vm.findClass rn_Tokens = some m.cls := hown
  obtain ⟨H, hH⟩ : ∃ z, z = s0.heap := ⟨_, rfl⟩
  rw [← hH] at hP
  have hS : va_S A s0.heap H [] := by rw [hH]; exact va_S.rf
  suffices kk : ∀ QQ : State → Prop, QQ = MQ below (xk_Qv (dC, dI) xcl (xt cI cB cJ cZ cQ) (fun _ : Unit => True) (fun u : Unit => (wC a v cI cB cJ cZ cQ y.2)) A) [.ref ((a 101))].toArray s0 0 0 A → dcC p l e ({ frames := 1, cells := 0, slots := 0, locals := 21 }) s0 m [.ref ((a 101))].toArray below meth c QQ (dC, dI) A (wC a v cI cB cJ cZ cQ s) 0 1 [(0, .ref ((a 101)))] [] by
    have k9 := kk _ rfl H [] ls hP hD hS hl
    rw [hH] at k9; exact k9
  clear hP hD hS hl hH H ls
  intro QQ hQQ
  intro H locs ls hP hD hS hl
  unfold fn_Tokens_take_Tk at hf
  refine lv_aload_n hx hb dn_Tokens_take_0 rfl (lv_at hl 0 rfl) ?_
  refine va_get (D := (dC, dI)) (ci := 2) (v := .int ((s.1 217 0))) (C := rn_Tokens) (T := fn_Tokens) (N := 9) hx hb hg in_Tokens hown hK hP 1 rfl rfl 6 (by decide) (hg _ wn_1_58) (fun _ h9 => h9) rfl dn_Tokens_take_1 ?_
  refine lv_if_ne (tgt := 20) hx hb dn_Tokens_take_4 (by decide) (fun h => ?_) (fun h => ?_)
  · have hf := (if_neg h).symm.trans hf
    rw [hQQ, ← Option.some.inj hf]
    exact xk_vret (w1 := fun u : Unit => (wC a v cI cB cJ cZ cQ s)) () hx hb hr hlocks hK hS dn_Tokens_take_20 hP hD trivial (Nat.le_refl _) (Nat.le_refl _)
  · have hf := (if_pos h).symm.trans hf
    refine lv_aload_n hx hb dn_Tokens_take_7 rfl (lv_at hl 0 rfl) ?_
    refine va_get (D := (dC, dI)) (ci := 2) (v := .int ((s.1 213 0))) (C := rn_Tokens) (T := fn_Tokens) (N := 9) hx hb hg in_Tokens hown hK hP 1 rfl rfl 2 (by decide) (hg _ wn_1_48) (fun _ h9 => h9) rfl dn_Tokens_take_8 ?_
    refine lv_iconst (v := 1) hx hb dn_Tokens_take_11 (by decide) ?_
    refine lv_iadd hx hb dn_Tokens_take_12 ?_
    refine lv_aload_n hx hb dn_Tokens_take_13 rfl (lv_at hl 0 rfl) ?_
    refine va_get (D := (dC, dI)) (ci := 2) (v := .int ((s.1 212 0))) (C := rn_Tokens) (T := fn_Tokens) (N := 9) hx hb hg in_Tokens hown hK hP 1 rfl rfl 1 (by decide) (hg _ wn_1_46) (fun _ h9 => h9) rfl dn_Tokens_take_14 ?_
    refine lv_icmp_lt (tgt := 21) hx hb dn_Tokens_take_17 (by decide) (fun h => ?_) (fun h => ?_)
    · have hf := (if_pos h).symm.trans hf
      refine lv_aload_n hx hb dn_Tokens_take_21 rfl (lv_at hl 0 rfl) ?_
      refine lv_dup hx hb dn_Tokens_take_22 rfl ?_
      refine va_get (D := (dC, dI)) (ci := 2) (v := .int ((s.1 213 0))) (C := rn_Tokens) (T := fn_Tokens) (N := 9) hx hb hg in_Tokens hown hK hP 1 rfl rfl 2 (by decide) (hg _ wn_1_48) (fun _ h9 => h9) rfl dn_Tokens_take_23 ?_
      refine lv_iconst (v := 1) hx hb dn_Tokens_take_26 (by decide) ?_
      refine lv_iadd hx hb dn_Tokens_take_27 ?_
      refine va_put (D := (dC, dI)) (ci := 2) (v := .int (((s.1 213 0) + 1))) (ty := .int) (C := rn_Tokens) (T := fn_Tokens) (N := 9) hx hb hg in_Tokens tn_Tokens tk_Tokens nn_Tokens hown hK hP hD hS 1 rfl rfl 2 (by decide) (hg _ wn_1_48) (fun _ h9 => h9) rfl (tk_Tokens 2 (by decide)) rfl rfl (Nat.le_of_ble_eq_true rfl) dn_Tokens_take_28 (fun H locs hP hD hS => ?_)
      have hP := wC_P_213 hP
      have hD := wC_D_213 hD
      refine lv_aload_n hx hb dn_Tokens_take_31 rfl (lv_at hl 0 rfl) ?_
      refine lv_aload_n hx hb dn_Tokens_take_32 rfl (lv_at hl 0 rfl) ?_
      refine lv_aload_n hx hb dn_Tokens_take_33 rfl (lv_at hl 0 rfl) ?_
      refine va_get (D := (dC, dI)) (ci := 2) (v := .int (((s.1 213 0) + 1))) (C := rn_Tokens) (T := fn_Tokens) (N := 9) hx hb hg in_Tokens hown hK hP 1 rfl rfl 2 (by decide) (hg _ wn_1_48) (fun _ h9 => h9) rfl dn_Tokens_take_34 ?_
      obtain ⟨q_1, hc_2, hf⟩ := dc_b hf
      refine dc_calli (dc_runV (ar := 1) (As := [.int (((s.1 213 0) + 1))]) (rest := [.ref ((a 101))]) (ci := 2) (q0 := 1) ⟨hx, hb, hml, hown, hg⟩ hK hN hT hS hA (ct_Tokens_kindAt_Tk l dC dI cI cB cJ cZ cQ N H.size a v (((s.1 213 0) + 1)) (upI s 213 (fun _ => ((s.1 213 0) + 1))) q_1 hc_2) hP hD rfl rfl wn_4_152 wn_4_153 wn_4_154 wn_1_2 wn_4_155 rfl rfl (by decide +kernel) ⟨Nat.le_of_ble_eq_true rfl, Nat.le_of_ble_eq_true rfl⟩ rfl hl.1 rfl (Nat.le_of_ble_eq_true rfl) dn_Tokens_take_37 ⟨Nat.le_of_ble_eq_true rfl, Nat.le_of_ble_eq_true rfl⟩) hP hD hS hA (fun r_3 _ H locs hw hP hD hS => ?_)
      have hw : r_3 = q_1.1 := hw
      subst hw
      refine va_put (D := (dC, dI)) (ci := 2) (v := .int q_1.1) (ty := .int) (C := rn_Tokens) (T := fn_Tokens) (N := 9) hx hb hg in_Tokens tn_Tokens tk_Tokens nn_Tokens hown hK hP hD hS 1 rfl rfl 3 (by decide) (hg _ wn_1_51) (fun _ h9 => h9) rfl (tk_Tokens 3 (by decide)) rfl rfl (Nat.le_of_ble_eq_true rfl) dn_Tokens_take_40 (fun H locs hP hD hS => ?_)
      have hP := wC_P_214 hP
      have hD := wC_D_214 hD
      refine lv_aload_n hx hb dn_Tokens_take_43 rfl (lv_at hl 0 rfl) ?_
      refine lv_aload_n hx hb dn_Tokens_take_44 rfl (lv_at hl 0 rfl) ?_
      refine va_get (D := (dC, dI)) (ci := 2) (v := .ref ((a 211))) (C := rn_Tokens) (T := fn_Tokens) (N := 9) hx hb hg in_Tokens hown hK hP 1 rfl rfl 0 (by decide) (hg _ wn_1_45) (fun _ h9 => h9) rfl dn_Tokens_take_45 ?_
      refine lv_aload_n hx hb dn_Tokens_take_48 rfl (lv_at hl 0 rfl) ?_
      refine va_get (D := (dC, dI)) (ci := 2) (v := .int ((q_1.2.1 213 0))) (C := rn_Tokens) (T := fn_Tokens) (N := 9) hx hb hg in_Tokens hown hK hP 1 rfl rfl 2 (by decide) (hg _ wn_1_48) (fun _ h9 => h9) rfl dn_Tokens_take_49 ?_
      obtain ⟨hg_4, hf⟩ := dc_g hf
      refine va_lald hx hb hK hP 16 2 rfl rfl hg_4 dn_Tokens_take_52 ?_
      refine xk_tl (y := ((q_1.2.2 211) (Int32.toNatClampNeg ((q_1.2.1 213 0))))) rfl ?_
      refine lv_bipush (v := 20) hx hb dn_Tokens_take_53 (by decide) ?_
      refine lv_lushr (v := (Int64.toUInt64 (((q_1.2.2 211) (Int32.toNatClampNeg ((q_1.2.1 213 0))))) >>> (Int64.toUInt64 (Int32.toInt64 20) &&& Int64.toUInt64 63)).toInt64) hx hb dn_Tokens_take_55 rfl ?_
      refine lv_l2i (v := Int64.toInt32 (((Int64.toUInt64 (((q_1.2.2 211) (Int32.toNatClampNeg ((q_1.2.1 213 0))))) >>> (Int64.toUInt64 (Int32.toInt64 20) &&& Int64.toUInt64 63)).toInt64))) hx hb dn_Tokens_take_56 rfl ?_
      refine lv_ldc hx hb hown (hg _ wn_4_156) dn_Tokens_take_57 ?_
      refine lv_iand hx hb dn_Tokens_take_59 ?_
      refine va_put (D := (dC, dI)) (ci := 2) (v := .int (((Int64.toInt32 (((Int64.toUInt64 (((q_1.2.2 211) (Int32.toNatClampNeg ((q_1.2.1 213 0))))) >>> (Int64.toUInt64 (Int32.toInt64 20) &&& Int64.toUInt64 63)).toInt64))) &&& 1048575))) (ty := .int) (C := rn_Tokens) (T := fn_Tokens) (N := 9) hx hb hg in_Tokens tn_Tokens tk_Tokens nn_Tokens hown hK hP hD hS 1 rfl rfl 4 (by decide) (hg _ wn_1_53) (fun _ h9 => h9) rfl (tk_Tokens 4 (by decide)) rfl rfl (Nat.le_of_ble_eq_true rfl) dn_Tokens_take_60 (fun H locs hP hD hS => ?_)
      have hP := wC_P_215 hP
      have hD := wC_D_215 hD
      refine lv_aload_n hx hb dn_Tokens_take_63 rfl (lv_at hl 0 rfl) ?_
      refine lv_aload_n hx hb dn_Tokens_take_64 rfl (lv_at hl 0 rfl) ?_
      refine lv_aload_n hx hb dn_Tokens_take_65 rfl (lv_at hl 0 rfl) ?_
      refine va_get (D := (dC, dI)) (ci := 2) (v := .int ((q_1.2.1 213 0))) (C := rn_Tokens) (T := fn_Tokens) (N := 9) hx hb hg in_Tokens hown hK hP 1 rfl rfl 2 (by decide) (hg _ wn_1_48) (fun _ h9 => h9) rfl dn_Tokens_take_66 ?_
      obtain ⟨q_5, hc_6, hf⟩ := dc_b hf
      refine dc_calli (dc_runV (ar := 1) (As := [.int ((q_1.2.1 213 0))]) (rest := [.ref ((a 101))]) (ci := 2) (q0 := 1) ⟨hx, hb, hml, hown, hg⟩ hK hN hT hS hA (ct_Tokens_extraAt_Tk l dC dI cI cB cJ cZ cQ N H.size a v ((q_1.2.1 213 0)) (upI (upI q_1.2 214 (fun _ => q_1.1)) 215 (fun _ => ((Int64.toInt32 (((Int64.toUInt64 (((q_1.2.2 211) (Int32.toNatClampNeg ((q_1.2.1 213 0))))) >>> (Int64.toUInt64 (Int32.toInt64 20) &&& Int64.toUInt64 63)).toInt64))) &&& 1048575))) q_5 hc_6) hP hD rfl rfl wn_4_157 wn_4_158 wn_4_159 wn_1_2 wn_4_160 rfl rfl (by decide +kernel) ⟨Nat.le_of_ble_eq_true rfl, Nat.le_of_ble_eq_true rfl⟩ rfl hl.1 rfl (Nat.le_of_ble_eq_true rfl) dn_Tokens_take_69 ⟨Nat.le_of_ble_eq_true rfl, Nat.le_of_ble_eq_true rfl⟩) hP hD hS hA (fun r_7 _ H locs hw hP hD hS => ?_)
      have hw : r_7 = q_5.1 := hw
      subst hw
      refine va_put (D := (dC, dI)) (ci := 2) (v := .int q_5.1) (ty := .int) (C := rn_Tokens) (T := fn_Tokens) (N := 9) hx hb hg in_Tokens tn_Tokens tk_Tokens nn_Tokens hown hK hP hD hS 1 rfl rfl 5 (by decide) (hg _ wn_1_55) (fun _ h9 => h9) rfl (tk_Tokens 5 (by decide)) rfl rfl (Nat.le_of_ble_eq_true rfl) dn_Tokens_take_72 (fun H locs hP hD hS => ?_)
      have hP := wC_P_216 hP
      have hD := wC_D_216 hD
      rw [hQQ, ← Option.some.inj hf]
      exact xk_vret (w1 := fun u : Unit => (wC a v cI cB cJ cZ cQ (upI q_5.2 216 (fun _ => q_5.1)))) () hx hb hr hlocks hK hS dn_Tokens_take_75 hP hD trivial (Nat.le_refl _) (Nat.le_refl _)
    · have hf := (if_neg h).symm.trans hf
      rw [hQQ, ← Option.some.inj hf]
      exact xk_vret (w1 := fun u : Unit => (wC a v cI cB cJ cZ cQ s)) () hx hb hr hlocks hK hS dn_Tokens_take_20 hP hD trivial (Nat.le_refl _) (Nat.le_refl _)
set_option maxHeartbeats 8000000 in
set_option maxRecDepth 100000 in
theorem ct_Tokens_start_Tk (l : Launch) (dC : Nat → ClassId) (dI : Nat → Nat → Nat) (cI cB cJ cZ cQ : ClassId) (N sz : Nat) (a : Nat → Nat) (v : Nat → Value) (s : ms) (y : (Unit × ms)) (hf : fn_Tokens_start_Tk N s = some y) : Met l yn_Tokens_start (xw yn_Tokens_start bn_Tokens_start 1 none) ({ frames := 2, cells := 0, slots := 0, locals := 41 }) (dc_P (dC, dI) xcl (xt cI cB cJ cZ cQ) [.ref ((a 101))] sz (wC a v cI cB cJ cZ cQ s)) (xk_Qv (dC, dI) xcl (xt cI cB cJ cZ cQ) (fun _ : Unit => True) (fun u : Unit => (wC a v cI cB cJ cZ cQ y.2)) (va_A (wC a v cI cB cJ cZ cQ s) sz)) 0 0 (va_A (wC a v cI cB cJ cZ cQ s) sz) := by
  refine dc_of (QA := xk_Qv (dC, dI) xcl (xt cI cB cJ cZ cQ) (fun _ : Unit => True) (fun u : Unit => (wC a v cI cB cJ cZ cQ y.2))) (by decide) (Nat.le_of_ble_eq_true rfl) ?_
  intro p e s0 m below meth c hx hb hml hown hg hr hlocks hin hP hK hN A hA hD hT ls hl
  have hown : s0.vm.findClass rn_Tokens = some m.cls := hown
  obtain ⟨H, hH⟩ : ∃ z, z = s0.heap := ⟨_, rfl⟩
  rw [← hH] at hP
  have hS : va_S A s0.heap H [] := by rw [hH]; exact va_S.rf
  suffices kk : ∀ QQ : State → Prop, QQ = MQ below (xk_Qv (dC, dI) xcl (xt cI cB cJ cZ cQ) (fun _ : Unit => True) (fun u : Unit => (wC a v cI cB cJ cZ cQ y.2)) A) [.ref ((a 101))].toArray s0 0 0 A → dcC p l e ({ frames := 2, cells := 0, slots := 0, locals := 41 }) s0 m [.ref ((a 101))].toArray below meth c QQ (dC, dI) A (wC a v cI cB cJ cZ cQ s) 0 1 [(0, .ref ((a 101)))] [] by
    have k9 := kk _ rfl H [] ls hP hD hS hl
    rw [hH] at k9; exact k9
  clear hP hD hS hl hH H ls
  intro QQ hQQ
  intro H locs ls hP hD hS hl
  unfold fn_Tokens_start_Tk at hf
  refine lv_aload_n hx hb dn_Tokens_start_0 rfl (lv_at hl 0 rfl) ?_
  refine lv_iconst (v := (-1)) hx hb dn_Tokens_start_1 (by decide) ?_
  refine va_put (D := (dC, dI)) (ci := 2) (v := .int ((-1))) (ty := .int) (C := rn_Tokens) (T := fn_Tokens) (N := 9) hx hb hg in_Tokens tn_Tokens tk_Tokens nn_Tokens hown hK hP hD hS 1 rfl rfl 2 (by decide) (hg _ wn_1_48) (fun _ h9 => h9) rfl (tk_Tokens 2 (by decide)) rfl rfl (Nat.le_of_ble_eq_true rfl) dn_Tokens_start_2 (fun H locs hP hD hS => ?_)
  have hP := wC_P_213 hP
  have hD := wC_D_213 hD
  refine lv_aload_n hx hb dn_Tokens_start_5 rfl (lv_at hl 0 rfl) ?_
  refine lv_iconst (v := 0) hx hb dn_Tokens_start_6 (by decide) ?_
  refine va_put (D := (dC, dI)) (ci := 2) (v := .int 0) (ty := .int) (C := rn_Tokens) (T := fn_Tokens) (N := 9) hx hb hg in_Tokens tn_Tokens tk_Tokens nn_Tokens hown hK hP hD hS 1 rfl rfl 8 (by decide) (hg _ wn_1_62) (fun _ h9 => h9) rfl (tk_Tokens 8 (by decide)) rfl rfl (Nat.le_of_ble_eq_true rfl) dn_Tokens_start_7 (fun H locs hP hD hS => ?_)
  have hP := wC_P_219 hP
  have hD := wC_D_219 hD
  refine lv_aload_n hx hb dn_Tokens_start_10 rfl (lv_at hl 0 rfl) ?_
  refine lv_iconst (v := 0) hx hb dn_Tokens_start_11 (by decide) ?_
  refine va_put (D := (dC, dI)) (ci := 2) (v := .int 0) (ty := .int) (C := rn_Tokens) (T := fn_Tokens) (N := 9) hx hb hg in_Tokens tn_Tokens tk_Tokens nn_Tokens hown hK hP hD hS 1 rfl rfl 6 (by decide) (hg _ wn_1_58) (fun _ h9 => h9) rfl (tk_Tokens 6 (by decide)) rfl rfl (Nat.le_of_ble_eq_true rfl) dn_Tokens_start_12 (fun H locs hP hD hS => ?_)
  have hP := wC_P_217 hP
  have hD := wC_D_217 hD
  refine lv_aload_n hx hb dn_Tokens_start_15 rfl (lv_at hl 0 rfl) ?_
  refine lv_iconst (v := (-1)) hx hb dn_Tokens_start_16 (by decide) ?_
  refine va_put (D := (dC, dI)) (ci := 2) (v := .int ((-1))) (ty := .int) (C := rn_Tokens) (T := fn_Tokens) (N := 9) hx hb hg in_Tokens tn_Tokens tk_Tokens nn_Tokens hown hK hP hD hS 1 rfl rfl 7 (by decide) (hg _ wn_1_60) (fun _ h9 => h9) rfl (tk_Tokens 7 (by decide)) rfl rfl (Nat.le_of_ble_eq_true rfl) dn_Tokens_start_17 (fun H locs hP hD hS => ?_)
  have hP := wC_P_218 hP
  have hD := wC_D_218 hD
  refine lv_aload_n hx hb dn_Tokens_start_20 rfl (lv_at hl 0 rfl) ?_
  obtain ⟨q_1, hc_2, hf⟩ := dc_b hf
  refine dc_callv (dc_runV (ar := 0) (As := []) (rest := []) (ci := 2) (q0 := 1) ⟨hx, hb, hml, hown, hg⟩ hK hN hT hS hA (ct_Tokens_take_Tk l dC dI cI cB cJ cZ cQ N H.size a v (upI (upI (upI (upI s 213 (fun _ => (-1))) 219 (fun _ => 0)) 217 (fun _ => 0)) 218 (fun _ => (-1))) q_1 hc_2) hP hD rfl rfl wn_4_148 wn_4_149 wn_4_150 wn_1_2 wn_4_151 rfl rfl (by decide +kernel) ⟨Nat.le_of_ble_eq_true rfl, Nat.le_of_ble_eq_true rfl⟩ rfl hl.1 rfl (Nat.le_of_ble_eq_true rfl) dn_Tokens_start_21 ⟨Nat.le_of_ble_eq_true rfl, Nat.le_of_ble_eq_true rfl⟩) hP hD hS hA (fun _ H locs hw hP hD hS => ?_)
  rw [hQQ, ← Option.some.inj hf]
  exact xk_vret (w1 := fun u : Unit => (wC a v cI cB cJ cZ cQ q_1.2)) () hx hb hr hlocks hK hS dn_Tokens_start_24 hP hD trivial (Nat.le_refl _) (Nat.le_refl _)
set_option maxHeartbeats 8000000 in
set_option maxRecDepth 100000 in
theorem ct_Tokens_misfit_Tk (l : Launch) (dC : Nat → ClassId) (dI : Nat → Nat → Nat) (cI cB cJ cZ cQ : ClassId) (N sz : Nat) (a : Nat → Nat) (v : Nat → Value) (s : ms) (y : (Int32 × ms)) (hf : fn_Tokens_misfit_Tk N s = some y) : Met l yn_Tokens_misfit (xw yn_Tokens_misfit bn_Tokens_misfit 1 (some .int)) ({ frames := 0, cells := 0, slots := 0, locals := 0 }) (dc_P (dC, dI) xcl (xt cI cB cJ cZ cQ) [.ref ((a 101))] sz (wC a v cI cB cJ cZ cQ s)) (xk_Qi (dC, dI) xcl (xt cI cB cJ cZ cQ) (fun (r : Int32) (_ : Unit) => r = y.1) (fun u : Unit => (wC a v cI cB cJ cZ cQ y.2)) (va_A (wC a v cI cB cJ cZ cQ s) sz)) 0 0 (va_A (wC a v cI cB cJ cZ cQ s) sz) := by
  refine dc_of (QA := xk_Qi (dC, dI) xcl (xt cI cB cJ cZ cQ) (fun (r : Int32) (_ : Unit) => r = y.1) (fun u : Unit => (wC a v cI cB cJ cZ cQ y.2))) (by decide) (Nat.le_of_ble_eq_true rfl) ?_
  intro p e s0 m below meth c hx hb hml hown hg hr hlocks hin hP hK hN A hA hD hT ls hl
  have hown : s0.vm.findClass rn_Tokens = some m.cls := hown
  obtain ⟨H, hH⟩ : ∃ z, z = s0.heap := ⟨_, rfl⟩
  rw [← hH] at hP
  have hS : va_S A s0.heap H [] := by rw [hH]; exact va_S.rf
  suffices kk : ∀ QQ : State → Prop, QQ = MQ below (xk_Qi (dC, dI) xcl (xt cI cB cJ cZ cQ) (fun (r : Int32) (_ : Unit) => r = y.1) (fun u : Unit => (wC a v cI cB cJ cZ cQ y.2)) A) [.ref ((a 101))].toArray s0 0 0 A → dcC p l e ({ frames := 0, cells := 0, slots := 0, locals := 0 }) s0 m [.ref ((a 101))].toArray below meth c QQ (dC, dI) A (wC a v cI cB cJ cZ cQ s) 0 1 [(0, .ref ((a 101)))] [] by
    have k9 := kk _ rfl H [] ls hP hD hS hl
    rw [hH] at k9; exact k9
  clear hP hD hS hl hH H ls
  intro QQ hQQ
  intro H locs ls hP hD hS hl
  unfold fn_Tokens_misfit_Tk at hf
  refine lv_aload_n hx hb dn_Tokens_misfit_0 rfl (lv_at hl 0 rfl) ?_
  refine va_get (D := (dC, dI)) (ci := 2) (v := .int ((s.1 214 0))) (C := rn_Tokens) (T := fn_Tokens) (N := 9) hx hb hg in_Tokens hown hK hP 1 rfl rfl 3 (by decide) (hg _ wn_1_51) (fun _ h9 => h9) rfl dn_Tokens_misfit_1 ?_
  refine lv_iconst (v := 1) hx hb dn_Tokens_misfit_4 (by decide) ?_
  refine lv_icmp_ne (tgt := 12) hx hb dn_Tokens_misfit_5 (by decide) (fun h => ?_) (fun h => ?_)
  · have hf := (if_neg h).symm.trans hf
    refine lv_iconst (v := 2) hx hb dn_Tokens_misfit_12 (by decide) ?_
    rw [hQQ, ← Option.some.inj hf]
    exact xk_iret (w1 := fun u : Unit => (wC a v cI cB cJ cZ cQ s)) () hx hb hr hlocks hK hS dn_Tokens_misfit_13 hP hD rfl (Nat.le_refl _) (Nat.le_refl _)
  · have hf := (if_pos h).symm.trans hf
    refine lv_iconst (v := 1) hx hb dn_Tokens_misfit_8 (by decide) ?_
    refine lv_goto (tgt := 13) hx hb dn_Tokens_misfit_9 (by decide) ?_
    rw [hQQ, ← Option.some.inj hf]
    exact xk_iret (w1 := fun u : Unit => (wC a v cI cB cJ cZ cQ s)) () hx hb hr hlocks hK hS dn_Tokens_misfit_13 hP hD rfl (Nat.le_refl _) (Nat.le_refl _)
set_option maxHeartbeats 8000000 in
set_option maxRecDepth 100000 in
theorem ct_Tokens_stop_Tk (l : Launch) (dC : Nat → ClassId) (dI : Nat → Nat → Nat) (cI cB cJ cZ cQ : ClassId) (N sz : Nat) (a : Nat → Nat) (v : Nat → Value) (v1 : Int32) (s : ms) (y : (Unit × ms)) (hf : fn_Tokens_stop_Tk N v1 s = some y) : Met l yn_Tokens_stop (xw yn_Tokens_stop bn_Tokens_stop 2 none) ({ frames := 0, cells := 0, slots := 0, locals := 0 }) (dc_P (dC, dI) xcl (xt cI cB cJ cZ cQ) [.ref ((a 101)), .int v1] sz (wC a v cI cB cJ cZ cQ s)) (xk_Qv (dC, dI) xcl (xt cI cB cJ cZ cQ) (fun _ : Unit => True) (fun u : Unit => (wC a v cI cB cJ cZ cQ y.2)) (va_A (wC a v cI cB cJ cZ cQ s) sz)) 0 0 (va_A (wC a v cI cB cJ cZ cQ s) sz) := by
  refine dc_of (QA := xk_Qv (dC, dI) xcl (xt cI cB cJ cZ cQ) (fun _ : Unit => True) (fun u : Unit => (wC a v cI cB cJ cZ cQ y.2))) (by decide) (Nat.le_of_ble_eq_true rfl) ?_
  intro p e s0 m below meth c hx hb hml hown hg hr hlocks hin hP hK hN A hA hD hT ls hl
  have hown : s0.vm.findClass rn_Tokens = some m.cls := hown
  obtain ⟨H, hH⟩ : ∃ z, z = s0.heap := ⟨_, rfl⟩
  rw [← hH] at hP
  have hS : va_S A s0.heap H [] := by rw [hH]; exact va_S.rf
  suffices kk : ∀ QQ : State → Prop, QQ = MQ below (xk_Qv (dC, dI) xcl (xt cI cB cJ cZ cQ) (fun _ : Unit => True) (fun u : Unit => (wC a v cI cB cJ cZ cQ y.2)) A) [.ref ((a 101)), .int v1].toArray s0 0 0 A → dcC p l e ({ frames := 0, cells := 0, slots := 0, locals := 0 }) s0 m [.ref ((a 101)), .int v1].toArray below meth c QQ (dC, dI) A (wC a v cI cB cJ cZ cQ s) 0 2 [(0, .ref ((a 101))), (1, .int v1)] [] by
    have k9 := kk _ rfl H [] ls hP hD hS hl
    rw [hH] at k9; exact k9
  clear hP hD hS hl hH H ls
  intro QQ hQQ
  intro H locs ls hP hD hS hl
  unfold fn_Tokens_stop_Tk at hf
  refine lv_aload_n hx hb dn_Tokens_stop_0 rfl (lv_at hl 0 rfl) ?_
  refine va_get (D := (dC, dI)) (ci := 2) (v := .int ((s.1 217 0))) (C := rn_Tokens) (T := fn_Tokens) (N := 9) hx hb hg in_Tokens hown hK hP 1 rfl rfl 6 (by decide) (hg _ wn_1_58) (fun _ h9 => h9) rfl dn_Tokens_stop_1 ?_
  refine lv_if_eq (tgt := 8) hx hb dn_Tokens_stop_4 (by decide) (fun h => ?_) (fun h => ?_)
  · have hf := (if_pos h).symm.trans hf
    refine lv_aload_n hx hb dn_Tokens_stop_8 rfl (lv_at hl 0 rfl) ?_
    refine lv_iload_n hx hb dn_Tokens_stop_9 rfl (lv_at hl 1 rfl) ?_
    refine va_put (D := (dC, dI)) (ci := 2) (v := .int v1) (ty := .int) (C := rn_Tokens) (T := fn_Tokens) (N := 9) hx hb hg in_Tokens tn_Tokens tk_Tokens nn_Tokens hown hK hP hD hS 1 rfl rfl 6 (by decide) (hg _ wn_1_58) (fun _ h9 => h9) rfl (tk_Tokens 6 (by decide)) rfl rfl (Nat.le_of_ble_eq_true rfl) dn_Tokens_stop_10 (fun H locs hP hD hS => ?_)
    have hP := wC_P_217 hP
    have hD := wC_D_217 hD
    refine lv_aload_n hx hb dn_Tokens_stop_13 rfl (lv_at hl 0 rfl) ?_
    refine lv_aload_n hx hb dn_Tokens_stop_14 rfl (lv_at hl 0 rfl) ?_
    refine va_get (D := (dC, dI)) (ci := 2) (v := .int ((s.1 215 0))) (C := rn_Tokens) (T := fn_Tokens) (N := 9) hx hb hg in_Tokens hown hK hP 1 rfl rfl 4 (by decide) (hg _ wn_1_53) (fun _ h9 => h9) rfl dn_Tokens_stop_15 ?_
    refine va_put (D := (dC, dI)) (ci := 2) (v := .int ((s.1 215 0))) (ty := .int) (C := rn_Tokens) (T := fn_Tokens) (N := 9) hx hb hg in_Tokens tn_Tokens tk_Tokens nn_Tokens hown hK hP hD hS 1 rfl rfl 7 (by decide) (hg _ wn_1_60) (fun _ h9 => h9) rfl (tk_Tokens 7 (by decide)) rfl rfl (Nat.le_of_ble_eq_true rfl) dn_Tokens_stop_18 (fun H locs hP hD hS => ?_)
    have hP := wC_P_218 hP
    have hD := wC_D_218 hD
    refine lv_aload_n hx hb dn_Tokens_stop_21 rfl (lv_at hl 0 rfl) ?_
    refine lv_iconst (v := (-1)) hx hb dn_Tokens_stop_22 (by decide) ?_
    refine va_put (D := (dC, dI)) (ci := 2) (v := .int ((-1))) (ty := .int) (C := rn_Tokens) (T := fn_Tokens) (N := 9) hx hb hg in_Tokens tn_Tokens tk_Tokens nn_Tokens hown hK hP hD hS 1 rfl rfl 3 (by decide) (hg _ wn_1_51) (fun _ h9 => h9) rfl (tk_Tokens 3 (by decide)) rfl rfl (Nat.le_of_ble_eq_true rfl) dn_Tokens_stop_23 (fun H locs hP hD hS => ?_)
    have hP := wC_P_214 hP
    have hD := wC_D_214 hD
    rw [hQQ, ← Option.some.inj hf]
    exact xk_vret (w1 := fun u : Unit => (wC a v cI cB cJ cZ cQ (upI (upI (upI s 217 (fun _ => v1)) 218 (fun _ => (s.1 215 0))) 214 (fun _ => (-1))))) () hx hb hr hlocks hK hS dn_Tokens_stop_26 hP hD trivial (Nat.le_refl _) (Nat.le_refl _)
  · have hf := (if_neg h).symm.trans hf
    rw [hQQ, ← Option.some.inj hf]
    exact xk_vret (w1 := fun u : Unit => (wC a v cI cB cJ cZ cQ s)) () hx hb hr hlocks hK hS dn_Tokens_stop_7 hP hD trivial (Nat.le_refl _) (Nat.le_refl _)
set_option maxHeartbeats 8000000 in
set_option maxRecDepth 100000 in
theorem ct_Tokens_need_Tk (l : Launch) (dC : Nat → ClassId) (dI : Nat → Nat → Nat) (cI cB cJ cZ cQ : ClassId) (N sz : Nat) (a : Nat → Nat) (v : Nat → Value) (v1 : Int32) (s : ms) (y : (Unit × ms)) (hf : fn_Tokens_need_Tk N v1 s = some y) : Met l yn_Tokens_need (xw yn_Tokens_need bn_Tokens_need 2 none) ({ frames := 2, cells := 0, slots := 0, locals := 41 }) (dc_P (dC, dI) xcl (xt cI cB cJ cZ cQ) [.ref ((a 101)), .int v1] sz (wC a v cI cB cJ cZ cQ s)) (xk_Qv (dC, dI) xcl (xt cI cB cJ cZ cQ) (fun _ : Unit => True) (fun u : Unit => (wC a v cI cB cJ cZ cQ y.2)) (va_A (wC a v cI cB cJ cZ cQ s) sz)) 0 0 (va_A (wC a v cI cB cJ cZ cQ s) sz) := by
  refine dc_of (QA := xk_Qv (dC, dI) xcl (xt cI cB cJ cZ cQ) (fun _ : Unit => True) (fun u : Unit => (wC a v cI cB cJ cZ cQ y.2))) (by decide) (Nat.le_of_ble_eq_true rfl) ?_
  intro p e s0 m below meth c hx hb hml hown hg hr hlocks hin hP hK hN A hA hD hT ls hl
  have hown : s0.vm.findClass rn_Tokens = some m.cls := hown
  obtain ⟨H, hH⟩ : ∃ z, z = s0.heap := ⟨_, rfl⟩
  rw [← hH] at hP
  have hS : va_S A s0.heap H [] := by rw [hH]; exact va_S.rf
  suffices kk : ∀ QQ : State → Prop, QQ = MQ below (xk_Qv (dC, dI) xcl (xt cI cB cJ cZ cQ) (fun _ : Unit => True) (fun u : Unit => (wC a v cI cB cJ cZ cQ y.2)) A) [.ref ((a 101)), .int v1].toArray s0 0 0 A → dcC p l e ({ frames := 2, cells := 0, slots := 0, locals := 41 }) s0 m [.ref ((a 101)), .int v1].toArray below meth c QQ (dC, dI) A (wC a v cI cB cJ cZ cQ s) 0 2 [(0, .ref ((a 101))), (1, .int v1)] [] by
    have k9 := kk _ rfl H [] ls hP hD hS hl
    rw [hH] at k9; exact k9
  clear hP hD hS hl hH H ls
  intro QQ hQQ
  intro H locs ls hP hD hS hl
  unfold fn_Tokens_need_Tk at hf
  refine lv_aload_n hx hb dn_Tokens_need_0 rfl (lv_at hl 0 rfl) ?_
  refine va_get (D := (dC, dI)) (ci := 2) (v := .int ((s.1 214 0))) (C := rn_Tokens) (T := fn_Tokens) (N := 9) hx hb hg in_Tokens hown hK hP 1 rfl rfl 3 (by decide) (hg _ wn_1_51) (fun _ h9 => h9) rfl dn_Tokens_need_1 ?_
  refine lv_iload_n hx hb dn_Tokens_need_4 rfl (lv_at hl 1 rfl) ?_
  refine lv_icmp_ne (tgt := 15) hx hb dn_Tokens_need_5 (by decide) (fun h => ?_) (fun h => ?_)
  · have hf := (if_neg h).symm.trans hf
    refine lv_aload_n hx hb dn_Tokens_need_15 rfl (lv_at hl 0 rfl) ?_
    refine lv_aload_n hx hb dn_Tokens_need_16 rfl (lv_at hl 0 rfl) ?_
    obtain ⟨q_1, hc_2, hf⟩ := dc_b hf
    refine dc_calli (dc_runV (ar := 0) (As := []) (rest := [.ref ((a 101))]) (ci := 2) (q0 := 1) ⟨hx, hb, hml, hown, hg⟩ hK hN hT hS hA (ct_Tokens_misfit_Tk l dC dI cI cB cJ cZ cQ N H.size a v s q_1 hc_2) hP hD rfl rfl wn_4_177 wn_4_179 sn_Tokens_misfit wn_1_2 wn_4_180 rfl rfl (by decide +kernel) ⟨Nat.le_of_ble_eq_true rfl, Nat.le_of_ble_eq_true rfl⟩ rfl hl.1 rfl (Nat.le_of_ble_eq_true rfl) dn_Tokens_need_17 ⟨Nat.le_of_ble_eq_true rfl, Nat.le_of_ble_eq_true rfl⟩) hP hD hS hA (fun r_3 _ H locs hw hP hD hS => ?_)
    have hw : r_3 = q_1.1 := hw
    subst hw
    obtain ⟨q_4, hc_5, hf⟩ := dc_b hf
    refine dc_callv (dc_runV (ar := 1) (As := [.int q_1.1]) (rest := []) (ci := 2) (q0 := 1) ⟨hx, hb, hml, hown, hg⟩ hK hN hT hS hA (ct_Tokens_stop_Tk l dC dI cI cB cJ cZ cQ N H.size a v q_1.1 q_1.2 q_4 hc_5) hP hD rfl rfl wn_4_181 wn_4_183 sn_Tokens_stop wn_1_2 wn_4_184 rfl rfl (by decide +kernel) ⟨Nat.le_of_ble_eq_true rfl, Nat.le_of_ble_eq_true rfl⟩ rfl hl.1 rfl (Nat.le_of_ble_eq_true rfl) dn_Tokens_need_20 ⟨Nat.le_of_ble_eq_true rfl, Nat.le_of_ble_eq_true rfl⟩) hP hD hS hA (fun _ H locs hw hP hD hS => ?_)
    rw [hQQ, ← Option.some.inj hf]
    exact xk_vret (w1 := fun u : Unit => (wC a v cI cB cJ cZ cQ q_4.2)) () hx hb hr hlocks hK hS dn_Tokens_need_23 hP hD trivial (Nat.le_refl _) (Nat.le_refl _)
  · have hf := (if_pos h).symm.trans hf
    refine lv_aload_n hx hb dn_Tokens_need_8 rfl (lv_at hl 0 rfl) ?_
    obtain ⟨q_1, hc_2, hf⟩ := dc_b hf
    refine dc_callv (dc_runV (ar := 0) (As := []) (rest := []) (ci := 2) (q0 := 1) ⟨hx, hb, hml, hown, hg⟩ hK hN hT hS hA (ct_Tokens_take_Tk l dC dI cI cB cJ cZ cQ N H.size a v s q_1 hc_2) hP hD rfl rfl wn_4_148 wn_4_149 wn_4_150 wn_1_2 wn_4_151 rfl rfl (by decide +kernel) ⟨Nat.le_of_ble_eq_true rfl, Nat.le_of_ble_eq_true rfl⟩ rfl hl.1 rfl (Nat.le_of_ble_eq_true rfl) dn_Tokens_need_9 ⟨Nat.le_of_ble_eq_true rfl, Nat.le_of_ble_eq_true rfl⟩) hP hD hS hA (fun _ H locs hw hP hD hS => ?_)
    refine lv_goto (tgt := 23) hx hb dn_Tokens_need_12 (by decide) ?_
    rw [hQQ, ← Option.some.inj hf]
    exact xk_vret (w1 := fun u : Unit => (wC a v cI cB cJ cZ cQ q_1.2)) () hx hb hr hlocks hK hS dn_Tokens_need_23 hP hD trivial (Nat.le_refl _) (Nat.le_refl _)
