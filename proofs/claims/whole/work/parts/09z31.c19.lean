set_option maxHeartbeats 8000000 in
set_option maxRecDepth 100000 in
theorem ct_Machine_settle_Ma_Cc (l : Launch) (dC : Nat → ClassId) (dI : Nat → Nat → Nat) (cI cB cJ cZ cQ : ClassId) (N sz : Nat) (a : Nat → Nat) (v : Nat → Value) (s : ms) (y : (Unit × ms)) (hf : fn_Machine_settle_Ma_Cc N s = some y) : Met l yn_Machine_settle (xw yn_Machine_settle bn_Machine_settle 6 none) ({ frames := 3, cells := 0, slots := 0, locals := 80 }) (dc_P (dC, dI) xcl (xt cI cB cJ cZ cQ) [.ref ((a 107)), .ref ((a 112))] sz (wC a v cI cB cJ cZ cQ s)) (xk_Qv (dC, dI) xcl (xt cI cB cJ cZ cQ) (fun _ : Unit => True) (fun u : Unit => (wC a v cI cB cJ cZ cQ y.2)) (va_A (wC a v cI cB cJ cZ cQ s) sz)) 0 0 (va_A (wC a v cI cB cJ cZ cQ s) sz) := by
  refine dc_of (QA := xk_Qv (dC, dI) xcl (xt cI cB cJ cZ cQ) (fun _ : Unit => True) (fun u : Unit => (wC a v cI cB cJ cZ cQ y.2))) (by decide) (Nat.le_of_ble_eq_true rfl) ?_
  intro p e s0 m below meth c hx hb hml hown hg hr hlocks hin hP hK hN A hA hD hT ls hl
  have hown : s0.vm.findClass rn_Machine = some m.cls := hown
  obtain ⟨H, hH⟩ : ∃ z, z = s0.heap := ⟨_, rfl⟩
  rw [← hH] at hP
  have hS : va_S A s0.heap H [] := by rw [hH]; exact va_S.rf
  suffices kk : ∀ QQ : State → Prop, QQ = MQ below (xk_Qv (dC, dI) xcl (xt cI cB cJ cZ cQ) (fun _ : Unit => True) (fun u : Unit => (wC a v cI cB cJ cZ cQ y.2)) A) [.ref ((a 107)), .ref ((a 112))].toArray s0 0 0 A → dcC p l e ({ frames := 3, cells := 0, slots := 0, locals := 80 }) s0 m [.ref ((a 107)), .ref ((a 112))].toArray below meth c QQ (dC, dI) A (wC a v cI cB cJ cZ cQ s) 0 6 [(0, .ref ((a 107))), (1, .ref ((a 112)))] [] by
    have k9 := kk _ rfl H [] ls hP hD hS hl
    rw [hH] at k9; exact k9
  clear hP hD hS hl hH H ls
  intro QQ hQQ
  have hd_18 : ∀ (n : Nat) (x3 : Int32) (s : ms), hd_Machine_settle_Ma_Cc_18 N n x3 s = some y → dcC p l e ({ frames := 3, cells := 0, slots := 0, locals := 80 }) s0 m [.ref ((a 107)), .ref ((a 112))].toArray below meth c QQ (dC, dI) A (wC a v cI cB cJ cZ cQ s) 18 6 [(0, .ref ((a 107))), (1, .ref ((a 112))), (2, .ref ((a 115))), (3, .int x3)] [] := by
    intro n
    induction n with
    | zero => intro x3 s hf; cases hf
    | succ n ih =>
      intro x3 s hf H locs ls hP hD hS hl
      have hf : bd_Machine_settle_Ma_Cc_18 N (hd_Machine_settle_Ma_Cc_18 N n) x3 s = some y := hf
      have hk_18 := ih
      generalize hd_Machine_settle_Ma_Cc_18 N n = k_18 at hf hk_18
      unfold bd_Machine_settle_Ma_Cc_18 at hf
      refine lv_iload_n hx hb dn_Machine_settle_18 rfl (lv_at hl 3 rfl) ?_
      refine lv_aload_n hx hb dn_Machine_settle_19 rfl (lv_at hl 1 rfl) ?_
      refine va_get (D := (dC, dI)) (ci := 9) (v := .int ((s.1 354 0))) (C := rn_Circuit) (T := fn_Circuit) (N := 14) hx hb hg in_Circuit hown hK hP 12 rfl rfl 13 (by decide) (hg _ wn_3_95) (fun _ h9 => h9) rfl dn_Machine_settle_20 ?_
      refine lv_icmp_ge (tgt := 105) hx hb dn_Machine_settle_23 (by decide) (fun h => ?_) (fun h => ?_)
      · have hf := (if_pos h).symm.trans hf
        refine lv_aload_n hx hb dn_Machine_settle_105 rfl (lv_at hl 0 rfl) ?_
        refine lv_iconst (v := 1) hx hb dn_Machine_settle_106 (by decide) ?_
        refine va_put (D := (dC, dI)) (ci := 8) (v := .int 1) (ty := .boolean) (C := rn_Machine) (T := fn_Machine) (N := 5) hx hb hg in_Machine tn_Machine tk_Machine nn_Machine hown hK hP hD hS 7 rfl rfl 4 (by decide) (hg _ wn_2_93) (fun _ h9 => h9) rfl (tk_Machine 4 (by decide)) rfl rfl (Nat.le_of_ble_eq_true rfl) dn_Machine_settle_107 (fun H locs hP hD hS => ?_)
        have hP := wC_P_290 hP
        have hD := wC_D_290 hD
        rw [hQQ, ← Option.some.inj hf]
        exact xk_vret (w1 := fun u : Unit => (wC a v cI cB cJ cZ cQ (upI s 290 (fun _ => 1)))) () hx hb hr hlocks hK hS dn_Machine_settle_110 hP hD trivial (Nat.le_refl _) (Nat.le_refl _)
      · have hf := (if_neg h).symm.trans hf
        refine lv_aload_n hx hb dn_Machine_settle_26 rfl (lv_at hl 1 rfl) ?_
        refine va_get (D := (dC, dI)) (ci := 9) (v := .ref ((a 353))) (C := rn_Circuit) (T := fn_Circuit) (N := 14) hx hb hg in_Circuit hown hK hP 12 rfl rfl 12 (by decide) (hg _ wn_3_92) (fun _ h9 => h9) rfl dn_Machine_settle_27 ?_
        refine lv_iload_n hx hb dn_Machine_settle_30 rfl (lv_at hl 3 rfl) ?_
        obtain ⟨hg_1, hf⟩ := dc_g hf
        refine va_iald hx hb hK hP 85 0 rfl rfl hg_1 dn_Machine_settle_31 ?_
        refine xk_ti (y := ((s.1 353) (Int32.toNatClampNeg x3))) rfl ?_
        refine lv_istore (lv' := [(4, .int (((s.1 353) (Int32.toNatClampNeg x3)))), (0, .ref ((a 107))), (1, .ref ((a 112))), (2, .ref ((a 115))), (3, .int x3)]) hx hb dn_Machine_settle_32 hl (by decide) rfl (fun ls hl => ?_)
        refine lv_aload_n hx hb dn_Machine_settle_34 rfl (lv_at hl 2 rfl) ?_
        refine va_get (D := (dC, dI)) (ci := 9) (v := .ref ((a 352))) (C := rn_Circuit) (T := fn_Circuit) (N := 14) hx hb hg in_Circuit hown hK hP 12 rfl rfl 11 (by decide) (hg _ wn_3_90) (fun _ h9 => h9) rfl dn_Machine_settle_35 ?_
        refine lv_iload hx hb dn_Machine_settle_38 (lv_at hl 0 rfl) ?_
        obtain ⟨hg_2, hf⟩ := dc_g hf
        refine va_iald hx hb hK hP 84 0 rfl rfl hg_2 dn_Machine_settle_40 ?_
        refine xk_ti (y := ((s.1 352) (Int32.toNatClampNeg (((s.1 353) (Int32.toNatClampNeg x3)))))) rfl ?_
        refine lv_istore (lv' := [(5, .int (((s.1 352) (Int32.toNatClampNeg (((s.1 353) (Int32.toNatClampNeg x3))))))), (4, .int (((s.1 353) (Int32.toNatClampNeg x3)))), (0, .ref ((a 107))), (1, .ref ((a 112))), (2, .ref ((a 115))), (3, .int x3)]) hx hb dn_Machine_settle_41 hl (by decide) rfl (fun ls hl => ?_)
        refine lv_iload hx hb dn_Machine_settle_43 (lv_at hl 0 rfl) ?_
        refine lv_iconst (v := (-1)) hx hb dn_Machine_settle_45 (by decide) ?_
        refine lv_icmp_eq (tgt := 66) hx hb dn_Machine_settle_46 (by decide) (fun h => ?_) (fun h => ?_)
        · have hf := (if_pos h).symm.trans hf
          refine lv_aload_n hx hb dn_Machine_settle_66 rfl (lv_at hl 2 rfl) ?_
          refine va_get (D := (dC, dI)) (ci := 8) (v := .ref ((a 286))) (C := rn_Machine) (T := fn_Machine) (N := 5) hx hb hg in_Machine hown hK hP 7 rfl rfl 0 (by decide) (hg _ wn_2_89) (fun _ h9 => h9) rfl dn_Machine_settle_67 ?_
          refine lv_iload hx hb dn_Machine_settle_70 (lv_at hl 1 rfl) ?_
          refine lv_aload_n hx hb dn_Machine_settle_72 rfl (lv_at hl 2 rfl) ?_
          refine lv_aload_n hx hb dn_Machine_settle_73 rfl (lv_at hl 4 rfl) ?_
          refine lv_aload_n hx hb dn_Machine_settle_74 rfl (lv_at hl 3 rfl) ?_
          refine va_get (D := (dC, dI)) (ci := 9) (v := .ref ((a 349))) (C := rn_Circuit) (T := fn_Circuit) (N := 14) hx hb hg in_Circuit hown hK hP 12 rfl rfl 8 (by decide) (hg _ wn_3_81) (fun _ h9 => h9) rfl dn_Machine_settle_75 ?_
          refine lv_iload hx hb dn_Machine_settle_78 (lv_at hl 1 rfl) ?_
          obtain ⟨hg_3, hf⟩ := dc_g hf
          refine va_iald hx hb hK hP 81 0 rfl rfl hg_3 dn_Machine_settle_80 ?_
          refine xk_ti (y := ((s.1 349) (Int32.toNatClampNeg (((s.1 353) (Int32.toNatClampNeg x3)))))) rfl ?_
          refine lv_aload_n hx hb dn_Machine_settle_81 rfl (lv_at hl 3 rfl) ?_
          refine va_get (D := (dC, dI)) (ci := 9) (v := .ref ((a 350))) (C := rn_Circuit) (T := fn_Circuit) (N := 14) hx hb hg in_Circuit hown hK hP 12 rfl rfl 9 (by decide) (hg _ wn_3_84) (fun _ h9 => h9) rfl dn_Machine_settle_82 ?_
          refine lv_iload hx hb dn_Machine_settle_85 (lv_at hl 1 rfl) ?_
          obtain ⟨hg_4, hf⟩ := dc_g hf
          refine va_iald hx hb hK hP 82 0 rfl rfl hg_4 dn_Machine_settle_87 ?_
          refine xk_ti (y := ((s.1 350) (Int32.toNatClampNeg (((s.1 353) (Int32.toNatClampNeg x3)))))) rfl ?_
          refine lv_aload_n hx hb dn_Machine_settle_88 rfl (lv_at hl 3 rfl) ?_
          refine va_get (D := (dC, dI)) (ci := 9) (v := .ref ((a 351))) (C := rn_Circuit) (T := fn_Circuit) (N := 14) hx hb hg in_Circuit hown hK hP 12 rfl rfl 10 (by decide) (hg _ wn_3_87) (fun _ h9 => h9) rfl dn_Machine_settle_89 ?_
          refine lv_iload hx hb dn_Machine_settle_92 (lv_at hl 1 rfl) ?_
          obtain ⟨hg_5, hf⟩ := dc_g hf
          refine va_iald hx hb hK hP 83 0 rfl rfl hg_5 dn_Machine_settle_94 ?_
          refine xk_ti (y := ((s.1 351) (Int32.toNatClampNeg (((s.1 353) (Int32.toNatClampNeg x3)))))) rfl ?_
          obtain ⟨q_6, hc_7, hf⟩ := dc_b hf
          refine dc_calll (dc_runV (ar := 4) (As := [.ref ((a 115)), .int (((s.1 349) (Int32.toNatClampNeg (((s.1 353) (Int32.toNatClampNeg x3)))))), .int (((s.1 350) (Int32.toNatClampNeg (((s.1 353) (Int32.toNatClampNeg x3)))))), .int (((s.1 351) (Int32.toNatClampNeg (((s.1 353) (Int32.toNatClampNeg x3))))))]) (rest := [.int (((s.1 353) (Int32.toNatClampNeg x3))), .ref ((a 286))]) (ci := 8) (q0 := 7) ⟨hx, hb, hml, hown, hg⟩ hK hN hT hS hA (ct_Machine_run_Ma_Kc l dC dI cI cB cJ cZ cQ N H.size a v (((s.1 349) (Int32.toNatClampNeg (((s.1 353) (Int32.toNatClampNeg x3)))))) (((s.1 350) (Int32.toNatClampNeg (((s.1 353) (Int32.toNatClampNeg x3)))))) (((s.1 351) (Int32.toNatClampNeg (((s.1 353) (Int32.toNatClampNeg x3)))))) s q_6 hc_7) hP hD rfl rfl wn_7_234 wn_7_236 sn_Machine_run wn_1_8 wn_7_237 rfl rfl (by decide +kernel) ⟨Nat.le_of_ble_eq_true rfl, Nat.le_of_ble_eq_true rfl⟩ rfl hl.1 rfl (Nat.le_of_ble_eq_true rfl) dn_Machine_settle_95 ⟨Nat.le_of_ble_eq_true rfl, Nat.le_of_ble_eq_true rfl⟩) hP hD hS hA (fun r_8 _ H locs hw hP hD hS => ?_)
          have hw : r_8 = q_6.1 := hw
          subst hw
          obtain ⟨hg_9, hf⟩ := dc_g hf
          refine va_last hx hb hK hP hD hS 39 2 rfl rfl hg_9 dn_Machine_settle_98 (fun H locs hP hD hS => ?_)
          have hP : va_P (dC, dI) xcl ((wC a v cI cB cJ cZ cQ q_6.2).set 39 ((a 286), .inl (cJ, 1024, .inr (.inl (vp_updL (q_6.2.2 286) (Int32.toNatClampNeg (((s.1 353) (Int32.toNatClampNeg x3)))) q_6.1))))) H := hP
          have hD : va_D A ((wC a v cI cB cJ cZ cQ q_6.2).set 39 ((a 286), .inl (cJ, 1024, .inr (.inl (vp_updL (q_6.2.2 286) (Int32.toNatClampNeg (((s.1 353) (Int32.toNatClampNeg x3)))) q_6.1))))) := hD
          have hP := wC_P_286 hP
          have hD := wC_D_286 hD
          refine lv_iinc (v := (x3 + 1)) (lv' := [(3, .int ((x3 + 1))), (5, .int (((s.1 352) (Int32.toNatClampNeg (((s.1 353) (Int32.toNatClampNeg x3))))))), (4, .int (((s.1 353) (Int32.toNatClampNeg x3)))), (0, .ref ((a 107))), (1, .ref ((a 112))), (2, .ref ((a 115)))]) hx hb dn_Machine_settle_99 hl (k := 5) rfl (dc_inc (by decide)) (by decide) rfl (fun ls hl => ?_)
          refine lv_goto (tgt := 18) hx hb dn_Machine_settle_102 (by decide) ?_
          exact hk_18 ((x3 + 1)) (upJ q_6.2 286 (vp_updL (q_6.2.2 286) (Int32.toNatClampNeg (((s.1 353) (Int32.toNatClampNeg x3)))) q_6.1)) hf H locs ls hP hD hS (lv_sub hl [3, 4, 5, 0] rfl)
        · have hf := (if_neg h).symm.trans hf
          refine lv_aload_n hx hb dn_Machine_settle_49 rfl (lv_at hl 2 rfl) ?_
          refine va_get (D := (dC, dI)) (ci := 8) (v := .ref ((a 286))) (C := rn_Machine) (T := fn_Machine) (N := 5) hx hb hg in_Machine hown hK hP 7 rfl rfl 0 (by decide) (hg _ wn_2_89) (fun _ h9 => h9) rfl dn_Machine_settle_50 ?_
          refine lv_iload hx hb dn_Machine_settle_53 (lv_at hl 1 rfl) ?_
          refine lv_aload_n hx hb dn_Machine_settle_55 rfl (lv_at hl 2 rfl) ?_
          refine va_get (D := (dC, dI)) (ci := 8) (v := .ref ((a 286))) (C := rn_Machine) (T := fn_Machine) (N := 5) hx hb hg in_Machine hown hK hP 7 rfl rfl 0 (by decide) (hg _ wn_2_89) (fun _ h9 => h9) rfl dn_Machine_settle_56 ?_
          refine lv_iload hx hb dn_Machine_settle_59 (lv_at hl 0 rfl) ?_
          obtain ⟨hg_3, hf⟩ := dc_g hf
          refine va_lald hx hb hK hP 39 2 rfl rfl hg_3 dn_Machine_settle_61 ?_
          refine xk_tl (y := ((s.2 286) (Int32.toNatClampNeg (((s.1 352) (Int32.toNatClampNeg (((s.1 353) (Int32.toNatClampNeg x3))))))))) rfl ?_
          obtain ⟨hg_4, hf⟩ := dc_g hf
          refine va_last hx hb hK hP hD hS 39 2 rfl rfl hg_4 dn_Machine_settle_62 (fun H locs hP hD hS => ?_)
          have hP : va_P (dC, dI) xcl ((wC a v cI cB cJ cZ cQ s).set 39 ((a 286), .inl (cJ, 1024, .inr (.inl (vp_updL (s.2 286) (Int32.toNatClampNeg (((s.1 353) (Int32.toNatClampNeg x3)))) (((s.2 286) (Int32.toNatClampNeg (((s.1 352) (Int32.toNatClampNeg (((s.1 353) (Int32.toNatClampNeg x3)))))))))))))) H := hP
          have hD : va_D A ((wC a v cI cB cJ cZ cQ s).set 39 ((a 286), .inl (cJ, 1024, .inr (.inl (vp_updL (s.2 286) (Int32.toNatClampNeg (((s.1 353) (Int32.toNatClampNeg x3)))) (((s.2 286) (Int32.toNatClampNeg (((s.1 352) (Int32.toNatClampNeg (((s.1 353) (Int32.toNatClampNeg x3)))))))))))))) := hD
          have hP := wC_P_286 hP
          have hD := wC_D_286 hD
          refine lv_goto (tgt := 99) hx hb dn_Machine_settle_63 (by decide) ?_
          refine lv_iinc (v := (x3 + 1)) (lv' := [(3, .int ((x3 + 1))), (5, .int (((s.1 352) (Int32.toNatClampNeg (((s.1 353) (Int32.toNatClampNeg x3))))))), (4, .int (((s.1 353) (Int32.toNatClampNeg x3)))), (0, .ref ((a 107))), (1, .ref ((a 112))), (2, .ref ((a 115)))]) hx hb dn_Machine_settle_99 hl (k := 5) rfl (dc_inc (by decide)) (by decide) rfl (fun ls hl => ?_)
          refine lv_goto (tgt := 18) hx hb dn_Machine_settle_102 (by decide) ?_
          exact hk_18 ((x3 + 1)) (upJ s 286 (vp_updL (s.2 286) (Int32.toNatClampNeg (((s.1 353) (Int32.toNatClampNeg x3)))) (((s.2 286) (Int32.toNatClampNeg (((s.1 352) (Int32.toNatClampNeg (((s.1 353) (Int32.toNatClampNeg x3))))))))))) hf H locs ls hP hD hS (lv_sub hl [3, 4, 5, 0] rfl)
  intro H locs ls hP hD hS hl
  unfold fn_Machine_settle_Ma_Cc at hf
  refine lv_aload_n hx hb dn_Machine_settle_0 rfl (lv_at hl 0 rfl) ?_
  refine va_get (D := (dC, dI)) (ci := 8) (v := .int ((s.1 290 0))) (C := rn_Machine) (T := fn_Machine) (N := 5) hx hb hg in_Machine hown hK hP 7 rfl rfl 4 (by decide) (hg _ wn_2_93) (fun _ h9 => h9) rfl dn_Machine_settle_1 ?_
  refine lv_if_eq (tgt := 8) hx hb dn_Machine_settle_4 (by decide) (fun h => ?_) (fun h => ?_)
  · have hf := (if_pos h).symm.trans hf
    refine lv_aload_n hx hb dn_Machine_settle_8 rfl (lv_at hl 1 rfl) ?_
    refine va_get (D := (dC, dI)) (ci := 9) (v := .ref ((a 113))) (C := rn_Circuit) (T := fn_Circuit) (N := 14) hx hb hg in_Circuit hown hK hP 12 rfl rfl 0 (by decide) (hg _ wn_3_64) (fun _ h9 => h9) rfl dn_Machine_settle_9 ?_
    refine va_get (D := (dC, dI)) (ci := 10) (v := .ref ((a 115))) (C := rn_Design) (T := fn_Design) (N := 16) hx hb hg in_Design hown hK hP 13 rfl rfl 1 (by decide) (hg _ wn_3_3) (fun _ h9 => h9) rfl dn_Machine_settle_12 ?_
    refine lv_astore_n (lv' := [(2, .ref ((a 115))), (0, .ref ((a 107))), (1, .ref ((a 112)))]) hx hb dn_Machine_settle_15 rfl hl (by decide) rfl (fun ls hl => ?_)
    refine lv_iconst (v := 0) hx hb dn_Machine_settle_16 (by decide) ?_
    refine lv_istore_n (lv' := [(3, .int 0), (2, .ref ((a 115))), (0, .ref ((a 107))), (1, .ref ((a 112)))]) hx hb dn_Machine_settle_17 rfl hl (by decide) rfl (fun ls hl => ?_)
    exact hd_18 N 0 s hf H locs ls hP hD hS (lv_sub hl [2, 3, 1, 0] rfl)
  · have hf := (if_neg h).symm.trans hf
    rw [hQQ, ← Option.some.inj hf]
    exact xk_vret (w1 := fun u : Unit => (wC a v cI cB cJ cZ cQ s)) () hx hb hr hlocks hK hS dn_Machine_settle_7 hP hD trivial (Nat.le_refl _) (Nat.le_refl _)
set_option maxHeartbeats 8000000 in
set_option maxRecDepth 100000 in
theorem ct_Design_firstPiece_Dc (l : Launch) (dC : Nat → ClassId) (dI : Nat → Nat → Nat) (cI cB cJ cZ cQ : ClassId) (N sz : Nat) (a : Nat → Nat) (v : Nat → Value) (v1 : Int32) (s : ms) (y : (Int32 × ms)) (hf : fn_Design_firstPiece_Dc N v1 s = some y) : Met l yn_Design_firstPiece (xw yn_Design_firstPiece bn_Design_firstPiece 2 (some .int)) ({ frames := 1, cells := 0, slots := 0, locals := 21 }) (dc_P (dC, dI) xcl (xt cI cB cJ cZ cQ) [.ref ((a 113)), .int v1] sz (wC a v cI cB cJ cZ cQ s)) (xk_Qi (dC, dI) xcl (xt cI cB cJ cZ cQ) (fun (r : Int32) (_ : Unit) => r = y.1) (fun u : Unit => (wC a v cI cB cJ cZ cQ y.2)) (va_A (wC a v cI cB cJ cZ cQ s) sz)) 0 0 (va_A (wC a v cI cB cJ cZ cQ s) sz) := by
  refine dc_of (QA := xk_Qi (dC, dI) xcl (xt cI cB cJ cZ cQ) (fun (r : Int32) (_ : Unit) => r = y.1) (fun u : Unit => (wC a v cI cB cJ cZ cQ y.2))) (by decide) (Nat.le_of_ble_eq_true rfl) ?_
  intro p e s0 m below meth c hx hb hml hown hg hr hlocks hin hP hK hN A hA hD hT ls hl
  have hown : s0.vm.findClass rn_Design = some m.cls := hown
  obtain ⟨H, hH⟩ : ∃ z, z = s0.heap := ⟨_, rfl⟩
  rw [← hH] at hP
  have hS : va_S A s0.heap H [] := by rw [hH]; exact va_S.rf
  suffices kk : ∀ QQ : State → Prop, QQ = MQ below (xk_Qi (dC, dI) xcl (xt cI cB cJ cZ cQ) (fun (r : Int32) (_ : Unit) => r = y.1) (fun u : Unit => (wC a v cI cB cJ cZ cQ y.2)) A) [.ref ((a 113)), .int v1].toArray s0 0 0 A → dcC p l e ({ frames := 1, cells := 0, slots := 0, locals := 21 }) s0 m [.ref ((a 113)), .int v1].toArray below meth c QQ (dC, dI) A (wC a v cI cB cJ cZ cQ s) 0 2 [(0, .ref ((a 113))), (1, .int v1)] [] by
    have k9 := kk _ rfl H [] ls hP hD hS hl
    rw [hH] at k9; exact k9
  clear hP hD hS hl hH H ls
  intro QQ hQQ
  intro H locs ls hP hD hS hl
  unfold fn_Design_firstPiece_Dc at hf
  refine lv_aload_n hx hb dn_Design_firstPiece_0 rfl (lv_at hl 0 rfl) ?_
  refine lv_iload_n hx hb dn_Design_firstPiece_1 rfl (lv_at hl 1 rfl) ?_
  obtain ⟨q_1, hc_2, hf⟩ := dc_b hf
  refine dc_calli (dc_runV (ar := 1) (As := [.int v1]) (rest := []) (ci := 10) (q0 := 13) ⟨hx, hb, hml, hown, hg⟩ hK hN hT hS hA (ct_Design_isModule_Dc l dC dI cI cB cJ cZ cQ N H.size a v v1 s q_1 hc_2) hP hD rfl rfl wn_5_91 wn_5_93 sn_Design_isModule wn_1_10 wn_5_94 rfl rfl (by decide +kernel) ⟨Nat.le_of_ble_eq_true rfl, Nat.le_of_ble_eq_true rfl⟩ rfl hl.1 rfl (Nat.le_of_ble_eq_true rfl) dn_Design_firstPiece_2 ⟨Nat.le_of_ble_eq_true rfl, Nat.le_of_ble_eq_true rfl⟩) hP hD hS hA (fun r_3 _ H locs hw hP hD hS => ?_)
  have hw : r_3 = q_1.1 := hw
  subst hw
  refine lv_if_eq (tgt := 17) hx hb dn_Design_firstPiece_5 (by decide) (fun h => ?_) (fun h => ?_)
  · have hf := (if_pos h).symm.trans hf
    refine lv_aload_n hx hb dn_Design_firstPiece_17 rfl (lv_at hl 0 rfl) ?_
    refine va_get (D := (dC, dI)) (ci := 10) (v := .int ((q_1.2.1 367 0))) (C := rn_Design) (T := fn_Design) (N := 16) hx hb hg in_Design hown hK hP 13 rfl rfl 12 (by decide) (hg _ wn_3_21) (fun _ h9 => h9) rfl dn_Design_firstPiece_18 ?_
    rw [hQQ, ← Option.some.inj hf]
    exact xk_iret (w1 := fun u : Unit => (wC a v cI cB cJ cZ cQ q_1.2)) () hx hb hr hlocks hK hS dn_Design_firstPiece_21 hP hD rfl (Nat.le_refl _) (Nat.le_refl _)
  · have hf := (if_neg h).symm.trans hf
    refine lv_aload_n hx hb dn_Design_firstPiece_8 rfl (lv_at hl 0 rfl) ?_
    refine va_get (D := (dC, dI)) (ci := 10) (v := .ref ((a 365))) (C := rn_Design) (T := fn_Design) (N := 16) hx hb hg in_Design hown hK hP 13 rfl rfl 10 (by decide) (hg _ wn_3_19) (fun _ h9 => h9) rfl dn_Design_firstPiece_9 ?_
    refine lv_iload_n hx hb dn_Design_firstPiece_12 rfl (lv_at hl 1 rfl) ?_
    obtain ⟨hg_4, hf⟩ := dc_g hf
    refine va_iald hx hb hK hP 91 0 rfl rfl hg_4 dn_Design_firstPiece_13 ?_
    refine xk_ti (y := ((q_1.2.1 365) (Int32.toNatClampNeg v1))) rfl ?_
    refine lv_goto (tgt := 21) hx hb dn_Design_firstPiece_14 (by decide) ?_
    rw [hQQ, ← Option.some.inj hf]
    exact xk_iret (w1 := fun u : Unit => (wC a v cI cB cJ cZ cQ q_1.2)) () hx hb hr hlocks hK hS dn_Design_firstPiece_21 hP hD rfl (Nat.le_refl _) (Nat.le_refl _)
set_option maxHeartbeats 8000000 in
set_option maxRecDepth 100000 in
theorem ct_Machine_runPieces_Ma_Cc (l : Launch) (dC : Nat → ClassId) (dI : Nat → Nat → Nat) (cI cB cJ cZ cQ : ClassId) (N sz : Nat) (a : Nat → Nat) (v : Nat → Value) (v2 : Int32) (s : ms) (y : (Int32 × ms)) (hf : fn_Machine_runPieces_Ma_Cc N v2 s = some y) : Met l yn_Machine_runPieces (xw yn_Machine_runPieces bn_Machine_runPieces 10 (some .int)) ({ frames := 3, cells := 0, slots := 0, locals := 80 }) (dc_P (dC, dI) xcl (xt cI cB cJ cZ cQ) [.ref ((a 107)), .ref ((a 112)), .int v2] sz (wC a v cI cB cJ cZ cQ s)) (xk_Qi (dC, dI) xcl (xt cI cB cJ cZ cQ) (fun (r : Int32) (_ : Unit) => r = y.1) (fun u : Unit => (wC a v cI cB cJ cZ cQ y.2)) (va_A (wC a v cI cB cJ cZ cQ s) sz)) 0 0 (va_A (wC a v cI cB cJ cZ cQ s) sz) := by
  refine dc_of (QA := xk_Qi (dC, dI) xcl (xt cI cB cJ cZ cQ) (fun (r : Int32) (_ : Unit) => r = y.1) (fun u : Unit => (wC a v cI cB cJ cZ cQ y.2))) (by decide) (Nat.le_of_ble_eq_true rfl) ?_
  intro p e s0 m below meth c hx hb hml hown hg hr hlocks hin hP hK hN A hA hD hT ls hl
  have hown : s0.vm.findClass rn_Machine = some m.cls := hown
  obtain ⟨H, hH⟩ : ∃ z, z = s0.heap := ⟨_, rfl⟩
  rw [← hH] at hP
  have hS : va_S A s0.heap H [] := by rw [hH]; exact va_S.rf
  suffices kk : ∀ QQ : State → Prop, QQ = MQ below (xk_Qi (dC, dI) xcl (xt cI cB cJ cZ cQ) (fun (r : Int32) (_ : Unit) => r = y.1) (fun u : Unit => (wC a v cI cB cJ cZ cQ y.2)) A) [.ref ((a 107)), .ref ((a 112)), .int v2].toArray s0 0 0 A → dcC p l e ({ frames := 3, cells := 0, slots := 0, locals := 80 }) s0 m [.ref ((a 107)), .ref ((a 112)), .int v2].toArray below meth c QQ (dC, dI) A (wC a v cI cB cJ cZ cQ s) 0 10 [(0, .ref ((a 107))), (1, .ref ((a 112))), (2, .int v2)] [] by
    have k9 := kk _ rfl H [] ls hP hD hS hl
    rw [hH] at k9; exact k9
  clear hP hD hS hl hH H ls
  intro QQ hQQ
  have hd_48 : ∀ (k_11 : Int32 → Int32 → Int32 → ms → Option (Int32 × ms)) (hk_11 : ∀ (x2 : Int32) (x4 : Int32) (x5 : Int32) (s : ms), k_11 x2 x4 x5 s = some y → dcC p l e ({ frames := 3, cells := 0, slots := 0, locals := 80 }) s0 m [.ref ((a 107)), .ref ((a 112)), .int v2].toArray below meth c QQ (dC, dI) A (wC a v cI cB cJ cZ cQ s) 11 10 [(0, .ref ((a 107))), (1, .ref ((a 112))), (2, .int x2), (3, .ref ((a 113))), (4, .int x4), (5, .int x5)] []) (n : Nat) (x2 : Int32) (x4 : Int32) (x5 : Int32) (x6 : Int32) (x7 : Int32) (s : ms), hd_Machine_runPieces_Ma_Cc_48 N k_11 n x2 x4 x5 x6 x7 s = some y → dcC p l e ({ frames := 3, cells := 0, slots := 0, locals := 80 }) s0 m [.ref ((a 107)), .ref ((a 112)), .int v2].toArray below meth c QQ (dC, dI) A (wC a v cI cB cJ cZ cQ s) 48 10 [(0, .ref ((a 107))), (1, .ref ((a 112))), (2, .int x2), (3, .ref ((a 113))), (4, .int x4), (5, .int x5), (6, .int x6), (7, .int x7)] [] := by
    intro k_11 hk_11 n
    induction n with
    | zero => intro x2 x4 x5 x6 x7 s hf; cases hf
    | succ n ih =>
      intro x2 x4 x5 x6 x7 s hf H locs ls hP hD hS hl
      have hf : bd_Machine_runPieces_Ma_Cc_48 N k_11 (hd_Machine_runPieces_Ma_Cc_48 N k_11 n) x2 x4 x5 x6 x7 s = some y := hf
      have hk_48 := ih
      generalize hd_Machine_runPieces_Ma_Cc_48 N k_11 n = k_48 at hf hk_48
      unfold bd_Machine_runPieces_Ma_Cc_48 at hf
      refine lv_iload hx hb dn_Machine_runPieces_48 (lv_at hl 7 rfl) ?_
      refine lv_iload hx hb dn_Machine_runPieces_50 (lv_at hl 6 rfl) ?_
      refine lv_icmp_ge (tgt := 116) hx hb dn_Machine_runPieces_52 (by decide) (fun h => ?_) (fun h => ?_)
      · have hf := (if_pos h).symm.trans hf
        refine lv_iinc (v := (x5 + 1)) (lv' := [(5, .int ((x5 + 1))), (0, .ref ((a 107))), (1, .ref ((a 112))), (2, .int x2), (3, .ref ((a 113))), (4, .int x4), (6, .int x6), (7, .int x7)]) hx hb dn_Machine_runPieces_116 hl (k := 5) rfl (dc_inc (by decide)) (by decide) rfl (fun ls hl => ?_)
        refine lv_goto (tgt := 11) hx hb dn_Machine_runPieces_119 (by decide) ?_
        exact hk_11 x2 x4 ((x5 + 1)) s hf H locs ls hP hD hS (lv_sub hl [1, 2, 3, 4, 5, 0] rfl)
      · have hf := (if_neg h).symm.trans hf
        refine lv_aload_n hx hb dn_Machine_runPieces_55 rfl (lv_at hl 3 rfl) ?_
        refine va_get (D := (dC, dI)) (ci := 10) (v := .ref ((a 370))) (C := rn_Design) (T := fn_Design) (N := 16) hx hb hg in_Design hown hK hP 13 rfl rfl 15 (by decide) (hg _ wn_3_27) (fun _ h9 => h9) rfl dn_Machine_runPieces_56 ?_
        refine lv_iload hx hb dn_Machine_runPieces_59 (lv_at hl 7 rfl) ?_
        obtain ⟨hg_1, hf⟩ := dc_g hf
        refine va_iald hx hb hK hP 94 0 rfl rfl hg_1 dn_Machine_runPieces_61 ?_
        refine xk_ti (y := ((s.1 370) (Int32.toNatClampNeg x7))) rfl ?_
        refine lv_iload_n hx hb dn_Machine_runPieces_62 rfl (lv_at hl 2 rfl) ?_
        refine lv_icmp_eq (tgt := 69) hx hb dn_Machine_runPieces_63 (by decide) (fun h => ?_) (fun h => ?_)
        · have hf := (if_pos h).symm.trans hf
          refine lv_aload_n hx hb dn_Machine_runPieces_69 rfl (lv_at hl 0 rfl) ?_
          refine lv_aload_n hx hb dn_Machine_runPieces_70 rfl (lv_at hl 3 rfl) ?_
          refine va_get (D := (dC, dI)) (ci := 10) (v := .ref ((a 115))) (C := rn_Design) (T := fn_Design) (N := 16) hx hb hg in_Design hown hK hP 13 rfl rfl 1 (by decide) (hg _ wn_3_3) (fun _ h9 => h9) rfl dn_Machine_runPieces_71 ?_
          refine lv_aload_n hx hb dn_Machine_runPieces_74 rfl (lv_at hl 3 rfl) ?_
          refine va_get (D := (dC, dI)) (ci := 10) (v := .ref ((a 368))) (C := rn_Design) (T := fn_Design) (N := 16) hx hb hg in_Design hown hK hP 13 rfl rfl 13 (by decide) (hg _ wn_3_23) (fun _ h9 => h9) rfl dn_Machine_runPieces_75 ?_
          refine lv_iload hx hb dn_Machine_runPieces_78 (lv_at hl 7 rfl) ?_
          obtain ⟨hg_2, hf⟩ := dc_g hf
          refine va_iald hx hb hK hP 92 0 rfl rfl hg_2 dn_Machine_runPieces_80 ?_
          refine xk_ti (y := ((s.1 368) (Int32.toNatClampNeg x7))) rfl ?_
          refine lv_aload_n hx hb dn_Machine_runPieces_81 rfl (lv_at hl 3 rfl) ?_
          refine va_get (D := (dC, dI)) (ci := 10) (v := .ref ((a 369))) (C := rn_Design) (T := fn_Design) (N := 16) hx hb hg in_Design hown hK hP 13 rfl rfl 14 (by decide) (hg _ wn_3_25) (fun _ h9 => h9) rfl dn_Machine_runPieces_82 ?_
          refine lv_iload hx hb dn_Machine_runPieces_85 (lv_at hl 7 rfl) ?_
          obtain ⟨hg_3, hf⟩ := dc_g hf
          refine va_iald hx hb hK hP 93 0 rfl rfl hg_3 dn_Machine_runPieces_87 ?_
          refine xk_ti (y := ((s.1 369) (Int32.toNatClampNeg x7))) rfl ?_
          refine lv_aload_n hx hb dn_Machine_runPieces_88 rfl (lv_at hl 1 rfl) ?_
          refine va_get (D := (dC, dI)) (ci := 9) (v := .ref ((a 344))) (C := rn_Circuit) (T := fn_Circuit) (N := 14) hx hb hg in_Circuit hown hK hP 12 rfl rfl 3 (by decide) (hg _ wn_3_73) (fun _ h9 => h9) rfl dn_Machine_runPieces_89 ?_
          refine lv_iload hx hb dn_Machine_runPieces_92 (lv_at hl 5 rfl) ?_
          obtain ⟨hg_4, hf⟩ := dc_g hf
          refine va_iald hx hb hK hP 76 0 rfl rfl hg_4 dn_Machine_runPieces_94 ?_
          refine xk_ti (y := ((s.1 344) (Int32.toNatClampNeg x5))) rfl ?_
          obtain ⟨q_5, hc_6, hf⟩ := dc_b hf
          refine dc_calll (dc_runV (ar := 4) (As := [.ref ((a 115)), .int (((s.1 368) (Int32.toNatClampNeg x7))), .int (((s.1 369) (Int32.toNatClampNeg x7))), .int (((s.1 344) (Int32.toNatClampNeg x5)))]) (rest := []) (ci := 8) (q0 := 7) ⟨hx, hb, hml, hown, hg⟩ hK hN hT hS hA (ct_Machine_run_Ma_Kc l dC dI cI cB cJ cZ cQ N H.size a v (((s.1 368) (Int32.toNatClampNeg x7))) (((s.1 369) (Int32.toNatClampNeg x7))) (((s.1 344) (Int32.toNatClampNeg x5))) s q_5 hc_6) hP hD rfl rfl wn_7_234 wn_7_236 sn_Machine_run wn_1_8 wn_7_237 rfl rfl (by decide +kernel) ⟨Nat.le_of_ble_eq_true rfl, Nat.le_of_ble_eq_true rfl⟩ rfl hl.1 rfl (Nat.le_of_ble_eq_true rfl) dn_Machine_runPieces_95 ⟨Nat.le_of_ble_eq_true rfl, Nat.le_of_ble_eq_true rfl⟩) hP hD hS hA (fun r_7 _ H locs hw hP hD hS => ?_)
          have hw : r_7 = q_5.1 := hw
          subst hw
          refine lv_lstore (lv' := [(8, .long q_5.1), (0, .ref ((a 107))), (1, .ref ((a 112))), (2, .int x2), (3, .ref ((a 113))), (4, .int x4), (5, .int x5), (6, .int x6), (7, .int x7)]) hx hb dn_Machine_runPieces_98 hl (by decide) rfl (fun ls hl => ?_)
          refine lv_lload hx hb dn_Machine_runPieces_100 (lv_at hl 0 rfl) ?_
          refine lv_lconst (v := 0) hx hb dn_Machine_runPieces_102 (by decide) ?_
          refine W.lcmp hx hb dn_Machine_runPieces_103 ?_
          refine lv_if_ne (tgt := 110) hx hb dn_Machine_runPieces_104 (by decide) (fun h => ?_) (fun h => ?_)
          · have hf := (if_neg h).symm.trans hf
            refine lv_iinc (v := (x7 + 1)) (lv' := [(7, .int ((x7 + 1))), (8, .long q_5.1), (0, .ref ((a 107))), (1, .ref ((a 112))), (2, .int x2), (3, .ref ((a 113))), (4, .int x4), (5, .int x5), (6, .int x6)]) hx hb dn_Machine_runPieces_110 hl (k := 8) rfl (dc_inc (by decide)) (by decide) rfl (fun ls hl => ?_)
            refine lv_goto (tgt := 48) hx hb dn_Machine_runPieces_113 (by decide) ?_
            exact hk_48 x2 x4 x5 x6 ((x7 + 1)) q_5.2 hf H locs ls hP hD hS (lv_sub hl [2, 3, 4, 5, 6, 7, 8, 0] rfl)
          · have hf := (if_pos h).symm.trans hf
            refine lv_iinc (v := (x4 + 1)) (lv' := [(4, .int ((x4 + 1))), (8, .long q_5.1), (0, .ref ((a 107))), (1, .ref ((a 112))), (2, .int x2), (3, .ref ((a 113))), (5, .int x5), (6, .int x6), (7, .int x7)]) hx hb dn_Machine_runPieces_107 hl (k := 5) rfl (dc_inc (by decide)) (by decide) rfl (fun ls hl => ?_)
            refine lv_iinc (v := (x7 + 1)) (lv' := [(7, .int ((x7 + 1))), (4, .int ((x4 + 1))), (8, .long q_5.1), (0, .ref ((a 107))), (1, .ref ((a 112))), (2, .int x2), (3, .ref ((a 113))), (5, .int x5), (6, .int x6)]) hx hb dn_Machine_runPieces_110 hl (k := 8) rfl (dc_inc (by decide)) (by decide) rfl (fun ls hl => ?_)
            refine lv_goto (tgt := 48) hx hb dn_Machine_runPieces_113 (by decide) ?_
            exact hk_48 x2 ((x4 + 1)) x5 x6 ((x7 + 1)) q_5.2 hf H locs ls hP hD hS (lv_sub hl [3, 4, 5, 6, 1, 7, 8, 0] rfl)
        · have hf := (if_neg h).symm.trans hf
          refine lv_goto (tgt := 110) hx hb dn_Machine_runPieces_66 (by decide) ?_
          refine lv_iinc (v := (x7 + 1)) (lv' := [(7, .int ((x7 + 1))), (0, .ref ((a 107))), (1, .ref ((a 112))), (2, .int x2), (3, .ref ((a 113))), (4, .int x4), (5, .int x5), (6, .int x6)]) hx hb dn_Machine_runPieces_110 hl (k := 7) rfl (dc_inc (by decide)) (by decide) rfl (fun ls hl => ?_)
          refine lv_goto (tgt := 48) hx hb dn_Machine_runPieces_113 (by decide) ?_
          exact hk_48 x2 x4 x5 x6 ((x7 + 1)) s hf H locs ls hP hD hS (lv_sub hl [1, 2, 3, 4, 5, 6, 7, 0] rfl)
  have hd_11 : ∀ (n : Nat) (x2 : Int32) (x4 : Int32) (x5 : Int32) (s : ms), hd_Machine_runPieces_Ma_Cc_11 N n x2 x4 x5 s = some y → dcC p l e ({ frames := 3, cells := 0, slots := 0, locals := 80 }) s0 m [.ref ((a 107)), .ref ((a 112)), .int v2].toArray below meth c QQ (dC, dI) A (wC a v cI cB cJ cZ cQ s) 11 10 [(0, .ref ((a 107))), (1, .ref ((a 112))), (2, .int x2), (3, .ref ((a 113))), (4, .int x4), (5, .int x5)] [] := by
    intro n
    induction n with
    | zero => intro x2 x4 x5 s hf; cases hf
    | succ n ih =>
      intro x2 x4 x5 s hf H locs ls hP hD hS hl
      have hf : bd_Machine_runPieces_Ma_Cc_11 N (hd_Machine_runPieces_Ma_Cc_11 N n) x2 x4 x5 s = some y := hf
      have hk_11 := ih
      generalize hd_Machine_runPieces_Ma_Cc_11 N n = k_11 at hf hk_11
      unfold bd_Machine_runPieces_Ma_Cc_11 at hf
      refine lv_iload hx hb dn_Machine_runPieces_11 (lv_at hl 5 rfl) ?_
      refine lv_aload_n hx hb dn_Machine_runPieces_13 rfl (lv_at hl 1 rfl) ?_
      refine va_get (D := (dC, dI)) (ci := 9) (v := .int ((s.1 342 0))) (C := rn_Circuit) (T := fn_Circuit) (N := 14) hx hb hg in_Circuit hown hK hP 12 rfl rfl 1 (by decide) (hg _ wn_3_67) (fun _ h9 => h9) rfl dn_Machine_runPieces_14 ?_
      refine lv_icmp_ge (tgt := 122) hx hb dn_Machine_runPieces_17 (by decide) (fun h => ?_) (fun h => ?_)
      · have hf := (if_pos h).symm.trans hf
        refine lv_iload hx hb dn_Machine_runPieces_122 (lv_at hl 4 rfl) ?_
        rw [hQQ, ← Option.some.inj hf]
        exact xk_iret (w1 := fun u : Unit => (wC a v cI cB cJ cZ cQ s)) () hx hb hr hlocks hK hS dn_Machine_runPieces_124 hP hD rfl (Nat.le_refl _) (Nat.le_refl _)
      · have hf := (if_neg h).symm.trans hf
        refine lv_aload_n hx hb dn_Machine_runPieces_20 rfl (lv_at hl 3 rfl) ?_
        refine lv_aload_n hx hb dn_Machine_runPieces_21 rfl (lv_at hl 1 rfl) ?_
        refine va_get (D := (dC, dI)) (ci := 9) (v := .ref ((a 345))) (C := rn_Circuit) (T := fn_Circuit) (N := 14) hx hb hg in_Circuit hown hK hP 12 rfl rfl 4 (by decide) (hg _ wn_3_75) (fun _ h9 => h9) rfl dn_Machine_runPieces_22 ?_
        refine lv_iload hx hb dn_Machine_runPieces_25 (lv_at hl 5 rfl) ?_
        obtain ⟨hg_1, hf⟩ := dc_g hf
        refine va_iald hx hb hK hP 77 0 rfl rfl hg_1 dn_Machine_runPieces_27 ?_
        refine xk_ti (y := ((s.1 345) (Int32.toNatClampNeg x5))) rfl ?_
        refine lv_iconst (v := 1) hx hb dn_Machine_runPieces_28 (by decide) ?_
        refine lv_iadd hx hb dn_Machine_runPieces_29 ?_
        obtain ⟨q_2, hc_3, hf⟩ := dc_b hf
        refine dc_calli (dc_runV (ar := 1) (As := [.int ((((s.1 345) (Int32.toNatClampNeg x5)) + 1))]) (rest := []) (ci := 10) (q0 := 13) ⟨hx, hb, hml, hown, hg⟩ hK hN hT hS hA (ct_Design_firstPiece_Dc l dC dI cI cB cJ cZ cQ N H.size a v ((((s.1 345) (Int32.toNatClampNeg x5)) + 1)) s q_2 hc_3) hP hD rfl rfl wn_8_39 wn_8_40 wn_8_41 wn_1_10 wn_8_42 rfl rfl (by decide +kernel) ⟨Nat.le_of_ble_eq_true rfl, Nat.le_of_ble_eq_true rfl⟩ rfl hl.1 rfl (Nat.le_of_ble_eq_true rfl) dn_Machine_runPieces_30 ⟨Nat.le_of_ble_eq_true rfl, Nat.le_of_ble_eq_true rfl⟩) hP hD hS hA (fun r_4 _ H locs hw hP hD hS => ?_)
        have hw : r_4 = q_2.1 := hw
        subst hw
        refine lv_istore (lv' := [(6, .int q_2.1), (0, .ref ((a 107))), (1, .ref ((a 112))), (2, .int x2), (3, .ref ((a 113))), (4, .int x4), (5, .int x5)]) hx hb dn_Machine_runPieces_33 hl (by decide) rfl (fun ls hl => ?_)
        refine lv_aload_n hx hb dn_Machine_runPieces_35 rfl (lv_at hl 4 rfl) ?_
        refine lv_aload_n hx hb dn_Machine_runPieces_36 rfl (lv_at hl 2 rfl) ?_
        refine va_get (D := (dC, dI)) (ci := 9) (v := .ref ((a 345))) (C := rn_Circuit) (T := fn_Circuit) (N := 14) hx hb hg in_Circuit hown hK hP 12 rfl rfl 4 (by decide) (hg _ wn_3_75) (fun _ h9 => h9) rfl dn_Machine_runPieces_37 ?_
        refine lv_iload hx hb dn_Machine_runPieces_40 (lv_at hl 6 rfl) ?_
        obtain ⟨hg_5, hf⟩ := dc_g hf
        refine va_iald hx hb hK hP 77 0 rfl rfl hg_5 dn_Machine_runPieces_42 ?_
        refine xk_ti (y := ((q_2.2.1 345) (Int32.toNatClampNeg x5))) rfl ?_
        obtain ⟨q_6, hc_7, hf⟩ := dc_b hf
        refine dc_calli (dc_runV (ar := 1) (As := [.int (((q_2.2.1 345) (Int32.toNatClampNeg x5)))]) (rest := []) (ci := 10) (q0 := 13) ⟨hx, hb, hml, hown, hg⟩ hK hN hT hS hA (ct_Design_firstPiece_Dc l dC dI cI cB cJ cZ cQ N H.size a v (((q_2.2.1 345) (Int32.toNatClampNeg x5))) q_2.2 q_6 hc_7) hP hD rfl rfl wn_8_39 wn_8_40 wn_8_41 wn_1_10 wn_8_42 rfl rfl (by decide +kernel) ⟨Nat.le_of_ble_eq_true rfl, Nat.le_of_ble_eq_true rfl⟩ rfl hl.1 rfl (Nat.le_of_ble_eq_true rfl) dn_Machine_runPieces_43 ⟨Nat.le_of_ble_eq_true rfl, Nat.le_of_ble_eq_true rfl⟩) hP hD hS hA (fun r_8 _ H locs hw hP hD hS => ?_)
        have hw : r_8 = q_6.1 := hw
        subst hw
        refine lv_istore (lv' := [(7, .int q_6.1), (6, .int q_2.1), (0, .ref ((a 107))), (1, .ref ((a 112))), (2, .int x2), (3, .ref ((a 113))), (4, .int x4), (5, .int x5)]) hx hb dn_Machine_runPieces_46 hl (by decide) rfl (fun ls hl => ?_)
        exact hd_48 k_11 hk_11 N x2 x4 x5 q_2.1 q_6.1 q_6.2 hf H locs ls hP hD hS (lv_sub hl [2, 3, 4, 5, 6, 7, 1, 0] rfl)
  intro H locs ls hP hD hS hl
  unfold fn_Machine_runPieces_Ma_Cc at hf
  refine lv_aload_n hx hb dn_Machine_runPieces_0 rfl (lv_at hl 1 rfl) ?_
  refine va_get (D := (dC, dI)) (ci := 9) (v := .ref ((a 113))) (C := rn_Circuit) (T := fn_Circuit) (N := 14) hx hb hg in_Circuit hown hK hP 12 rfl rfl 0 (by decide) (hg _ wn_3_64) (fun _ h9 => h9) rfl dn_Machine_runPieces_1 ?_
  refine lv_astore_n (lv' := [(3, .ref ((a 113))), (0, .ref ((a 107))), (1, .ref ((a 112))), (2, .int v2)]) hx hb dn_Machine_runPieces_4 rfl hl (by decide) rfl (fun ls hl => ?_)
  refine lv_iconst (v := 0) hx hb dn_Machine_runPieces_5 (by decide) ?_
  refine lv_istore (lv' := [(4, .int 0), (3, .ref ((a 113))), (0, .ref ((a 107))), (1, .ref ((a 112))), (2, .int v2)]) hx hb dn_Machine_runPieces_6 hl (by decide) rfl (fun ls hl => ?_)
  refine lv_iconst (v := 0) hx hb dn_Machine_runPieces_8 (by decide) ?_
  refine lv_istore (lv' := [(5, .int 0), (4, .int 0), (3, .ref ((a 113))), (0, .ref ((a 107))), (1, .ref ((a 112))), (2, .int v2)]) hx hb dn_Machine_runPieces_9 hl (by decide) rfl (fun ls hl => ?_)
  exact hd_11 N v2 0 0 s hf H locs ls hP hD hS (lv_sub hl [3, 4, 5, 2, 1, 0] rfl)
set_option maxHeartbeats 8000000 in
set_option maxRecDepth 100000 in
theorem ct_Machine_advance_Ma_Cc (l : Launch) (dC : Nat → ClassId) (dI : Nat → Nat → Nat) (cI cB cJ cZ cQ : ClassId) (N sz : Nat) (a : Nat → Nat) (v : Nat → Value) (s : ms) (y : (Int32 × ms)) (hf : fn_Machine_advance_Ma_Cc N s = some y) : Met l yn_Machine_advance (xw yn_Machine_advance bn_Machine_advance 2 (some .int)) ({ frames := 4, cells := 0, slots := 0, locals := 109 }) (dc_P (dC, dI) xcl (xt cI cB cJ cZ cQ) [.ref ((a 107)), .ref ((a 112))] sz (wC a v cI cB cJ cZ cQ s)) (xk_Qi (dC, dI) xcl (xt cI cB cJ cZ cQ) (fun (r : Int32) (_ : Unit) => r = y.1) (fun u : Unit => (wC a v cI cB cJ cZ cQ y.2)) (va_A (wC a v cI cB cJ cZ cQ s) sz)) 0 0 (va_A (wC a v cI cB cJ cZ cQ s) sz) := by
  refine dc_of (QA := xk_Qi (dC, dI) xcl (xt cI cB cJ cZ cQ) (fun (r : Int32) (_ : Unit) => r = y.1) (fun u : Unit => (wC a v cI cB cJ cZ cQ y.2))) (by decide) (Nat.le_of_ble_eq_true rfl) ?_
  intro p e s0 m below meth c hx hb hml hown hg hr hlocks hin hP hK hN A hA hD hT ls hl
  have hown : s0.vm.findClass rn_Machine = some m.cls := hown
  obtain ⟨H, hH⟩ : ∃ z, z = s0.heap := ⟨_, rfl⟩
  rw [← hH] at hP
  have hS : va_S A s0.heap H [] := by rw [hH]; exact va_S.rf
  suffices kk : ∀ QQ : State → Prop, QQ = MQ below (xk_Qi (dC, dI) xcl (xt cI cB cJ cZ cQ) (fun (r : Int32) (_ : Unit) => r = y.1) (fun u : Unit => (wC a v cI cB cJ cZ cQ y.2)) A) [.ref ((a 107)), .ref ((a 112))].toArray s0 0 0 A → dcC p l e ({ frames := 4, cells := 0, slots := 0, locals := 109 }) s0 m [.ref ((a 107)), .ref ((a 112))].toArray below meth c QQ (dC, dI) A (wC a v cI cB cJ cZ cQ s) 0 2 [(0, .ref ((a 107))), (1, .ref ((a 112)))] [] by
    have k9 := kk _ rfl H [] ls hP hD hS hl
    rw [hH] at k9; exact k9
  clear hP hD hS hl hH H ls
  intro QQ hQQ
  intro H locs ls hP hD hS hl
  unfold fn_Machine_advance_Ma_Cc at hf
  refine lv_aload_n hx hb dn_Machine_advance_0 rfl (lv_at hl 0 rfl) ?_
  refine lv_aload_n hx hb dn_Machine_advance_1 rfl (lv_at hl 1 rfl) ?_
  obtain ⟨q_1, hc_2, hf⟩ := dc_b hf
  refine dc_callv (dc_runV (ar := 1) (As := [.ref ((a 112))]) (rest := []) (ci := 8) (q0 := 7) ⟨hx, hb, hml, hown, hg⟩ hK hN hT hS hA (ct_Machine_settle_Ma_Cc l dC dI cI cB cJ cZ cQ N H.size a v s q_1 hc_2) hP hD rfl rfl wn_7_230 wn_7_232 sn_Machine_settle wn_1_8 wn_7_233 rfl rfl (by decide +kernel) ⟨Nat.le_of_ble_eq_true rfl, Nat.le_of_ble_eq_true rfl⟩ rfl hl.1 rfl (Nat.le_of_ble_eq_true rfl) dn_Machine_advance_2 ⟨Nat.le_of_ble_eq_true rfl, Nat.le_of_ble_eq_true rfl⟩) hP hD hS hA (fun _ H locs hw hP hD hS => ?_)
  refine lv_aload_n hx hb dn_Machine_advance_5 rfl (lv_at hl 0 rfl) ?_
  refine va_get (D := (dC, dI)) (ci := 8) (v := .ref ((a 286))) (C := rn_Machine) (T := fn_Machine) (N := 5) hx hb hg in_Machine hown hK hP 7 rfl rfl 0 (by decide) (hg _ wn_2_89) (fun _ h9 => h9) rfl dn_Machine_advance_6 ?_
  refine lv_iconst (v := 0) hx hb dn_Machine_advance_9 (by decide) ?_
  refine lv_aload_n hx hb dn_Machine_advance_10 rfl (lv_at hl 0 rfl) ?_
  refine va_get (D := (dC, dI)) (ci := 8) (v := .ref ((a 287))) (C := rn_Machine) (T := fn_Machine) (N := 5) hx hb hg in_Machine hown hK hP 7 rfl rfl 1 (by decide) (hg _ wn_2_90) (fun _ h9 => h9) rfl dn_Machine_advance_11 ?_
  refine lv_iconst (v := 0) hx hb dn_Machine_advance_14 (by decide) ?_
  refine lv_aload_n hx hb dn_Machine_advance_15 rfl (lv_at hl 1 rfl) ?_
  refine va_get (D := (dC, dI)) (ci := 9) (v := .int ((q_1.2.1 343 0))) (C := rn_Circuit) (T := fn_Circuit) (N := 14) hx hb hg in_Circuit hown hK hP 12 rfl rfl 2 (by decide) (hg _ wn_3_68) (fun _ h9 => h9) rfl dn_Machine_advance_16 ?_
  obtain ⟨hg_3, hf⟩ := dc_g hf
  refine va_copyl (sp := 0) (dp := 0) (n := (q_1.2.1 343 0)) (rest := []) hx hb (by rw [hml]; exact hl.1.symm) hown (hg _ wn_8_32) (hg _ wn_8_34) (hg _ wn_8_33) (hg _ wn_1_29) hK hP hD hS 39 40 2 2 rfl rfl rfl rfl rfl (by decide) (by decide) (fun h9 => hg_3 (Or.inl h9)) (dc_cp hg_3) (dc_cp hg_3) (fun _ _ => rfl) (Nat.le_of_ble_eq_true rfl) (Nat.le_of_ble_eq_true rfl) dn_Machine_advance_19 (fun H locs hP hD hS => ?_)
  have hP : va_P (dC, dI) xcl ((wC a v cI cB cJ cZ cQ q_1.2).set 40 ((a 287), .inl (cJ, 1024, .inr (.inl (va_cpy (q_1.2.2 286) (q_1.2.2 287) 0 0 (Int32.toNatClampNeg ((q_1.2.1 343 0)))))))) H := hP
  have hD : va_D A ((wC a v cI cB cJ cZ cQ q_1.2).set 40 ((a 287), .inl (cJ, 1024, .inr (.inl (va_cpy (q_1.2.2 286) (q_1.2.2 287) 0 0 (Int32.toNatClampNeg ((q_1.2.1 343 0)))))))) := hD
  have hP := wC_P_287 hP
  have hD := wC_D_287 hD
  refine lv_aload_n hx hb dn_Machine_advance_22 rfl (lv_at hl 0 rfl) ?_
  refine lv_aload_n hx hb dn_Machine_advance_23 rfl (lv_at hl 1 rfl) ?_
  refine lv_iconst (v := 0) hx hb dn_Machine_advance_24 (by decide) ?_
  obtain ⟨q_4, hc_5, hf⟩ := dc_b hf
  refine dc_calli (dc_runV (ar := 2) (As := [.ref ((a 112)), .int 0]) (rest := []) (ci := 8) (q0 := 7) ⟨hx, hb, hml, hown, hg⟩ hK hN hT hS hA (ct_Machine_runPieces_Ma_Cc l dC dI cI cB cJ cZ cQ N H.size a v 0 (upJ q_1.2 287 (va_cpy (q_1.2.2 286) (q_1.2.2 287) 0 0 (Int32.toNatClampNeg ((q_1.2.1 343 0))))) q_4 hc_5) hP hD rfl rfl wn_8_35 wn_8_37 sn_Machine_runPieces wn_1_8 wn_8_38 rfl rfl (by decide +kernel) ⟨Nat.le_of_ble_eq_true rfl, Nat.le_of_ble_eq_true rfl⟩ rfl hl.1 rfl (Nat.le_of_ble_eq_true rfl) dn_Machine_advance_25 ⟨Nat.le_of_ble_eq_true rfl, Nat.le_of_ble_eq_true rfl⟩) hP hD hS hA (fun r_6 _ H locs hw hP hD hS => ?_)
  have hw : r_6 = q_4.1 := hw
  subst hw
  refine lv_pop hx hb dn_Machine_advance_28 rfl ?_
  refine lv_aload_n hx hb dn_Machine_advance_29 rfl (lv_at hl 0 rfl) ?_
  refine va_get (D := (dC, dI)) (ci := 8) (v := .ref ((a 287))) (C := rn_Machine) (T := fn_Machine) (N := 5) hx hb hg in_Machine hown hK hP 7 rfl rfl 1 (by decide) (hg _ wn_2_90) (fun _ h9 => h9) rfl dn_Machine_advance_30 ?_
  refine lv_iconst (v := 0) hx hb dn_Machine_advance_33 (by decide) ?_
  refine lv_aload_n hx hb dn_Machine_advance_34 rfl (lv_at hl 0 rfl) ?_
  refine va_get (D := (dC, dI)) (ci := 8) (v := .ref ((a 286))) (C := rn_Machine) (T := fn_Machine) (N := 5) hx hb hg in_Machine hown hK hP 7 rfl rfl 0 (by decide) (hg _ wn_2_89) (fun _ h9 => h9) rfl dn_Machine_advance_35 ?_
  refine lv_iconst (v := 0) hx hb dn_Machine_advance_38 (by decide) ?_
  refine lv_aload_n hx hb dn_Machine_advance_39 rfl (lv_at hl 1 rfl) ?_
  refine va_get (D := (dC, dI)) (ci := 9) (v := .int ((q_4.2.1 343 0))) (C := rn_Circuit) (T := fn_Circuit) (N := 14) hx hb hg in_Circuit hown hK hP 12 rfl rfl 2 (by decide) (hg _ wn_3_68) (fun _ h9 => h9) rfl dn_Machine_advance_40 ?_
  obtain ⟨hg_7, hf⟩ := dc_g hf
  refine va_copyl (sp := 0) (dp := 0) (n := (q_4.2.1 343 0)) (rest := []) hx hb (by rw [hml]; exact hl.1.symm) hown (hg _ wn_8_32) (hg _ wn_8_34) (hg _ wn_8_33) (hg _ wn_1_29) hK hP hD hS 40 39 2 2 rfl rfl rfl rfl rfl (by decide) (by decide) (fun h9 => hg_7 (Or.inl h9)) (dc_cp hg_7) (dc_cp hg_7) (fun _ _ => rfl) (Nat.le_of_ble_eq_true rfl) (Nat.le_of_ble_eq_true rfl) dn_Machine_advance_43 (fun H locs hP hD hS => ?_)
  have hP : va_P (dC, dI) xcl ((wC a v cI cB cJ cZ cQ q_4.2).set 39 ((a 286), .inl (cJ, 1024, .inr (.inl (va_cpy (q_4.2.2 287) (q_4.2.2 286) 0 0 (Int32.toNatClampNeg ((q_4.2.1 343 0)))))))) H := hP
  have hD : va_D A ((wC a v cI cB cJ cZ cQ q_4.2).set 39 ((a 286), .inl (cJ, 1024, .inr (.inl (va_cpy (q_4.2.2 287) (q_4.2.2 286) 0 0 (Int32.toNatClampNeg ((q_4.2.1 343 0)))))))) := hD
  have hP := wC_P_286 hP
  have hD := wC_D_286 hD
  refine lv_aload_n hx hb dn_Machine_advance_46 rfl (lv_at hl 0 rfl) ?_
  refine lv_iconst (v := 0) hx hb dn_Machine_advance_47 (by decide) ?_
  refine va_put (D := (dC, dI)) (ci := 8) (v := .int 0) (ty := .boolean) (C := rn_Machine) (T := fn_Machine) (N := 5) hx hb hg in_Machine tn_Machine tk_Machine nn_Machine hown hK hP hD hS 7 rfl rfl 4 (by decide) (hg _ wn_2_93) (fun _ h9 => h9) rfl (tk_Machine 4 (by decide)) rfl rfl (Nat.le_of_ble_eq_true rfl) dn_Machine_advance_48 (fun H locs hP hD hS => ?_)
  have hP := wC_P_290 hP
  have hD := wC_D_290 hD
  refine lv_aload_n hx hb dn_Machine_advance_51 rfl (lv_at hl 0 rfl) ?_
  refine lv_dup hx hb dn_Machine_advance_52 rfl ?_
  refine va_get (D := (dC, dI)) (ci := 8) (v := .int ((q_4.2.1 289 0))) (C := rn_Machine) (T := fn_Machine) (N := 5) hx hb hg in_Machine hown hK hP 7 rfl rfl 3 (by decide) (hg _ wn_2_92) (fun _ h9 => h9) rfl dn_Machine_advance_53 ?_
  refine lv_iconst (v := 1) hx hb dn_Machine_advance_56 (by decide) ?_
  refine lv_iadd hx hb dn_Machine_advance_57 ?_
  refine va_put (D := (dC, dI)) (ci := 8) (v := .int (((q_4.2.1 289 0) + 1))) (ty := .int) (C := rn_Machine) (T := fn_Machine) (N := 5) hx hb hg in_Machine tn_Machine tk_Machine nn_Machine hown hK hP hD hS 7 rfl rfl 3 (by decide) (hg _ wn_2_92) (fun _ h9 => h9) rfl (tk_Machine 3 (by decide)) rfl rfl (Nat.le_of_ble_eq_true rfl) dn_Machine_advance_58 (fun H locs hP hD hS => ?_)
  have hP := wC_P_289 hP
  have hD := wC_D_289 hD
  refine lv_aload_n hx hb dn_Machine_advance_61 rfl (lv_at hl 0 rfl) ?_
  refine va_get (D := (dC, dI)) (ci := 8) (v := .int (((q_4.2.1 289 0) + 1))) (C := rn_Machine) (T := fn_Machine) (N := 5) hx hb hg in_Machine hown hK hP 7 rfl rfl 3 (by decide) (hg _ wn_2_92) (fun _ h9 => h9) rfl dn_Machine_advance_62 ?_
  rw [hQQ, ← Option.some.inj hf]
  exact xk_iret (w1 := fun u : Unit => (wC a v cI cB cJ cZ cQ (upI (upI (upJ q_4.2 286 (va_cpy (q_4.2.2 287) (q_4.2.2 286) 0 0 (Int32.toNatClampNeg ((q_4.2.1 343 0))))) 290 (fun _ => 0)) 289 (fun _ => ((q_4.2.1 289 0) + 1))))) () hx hb hr hlocks hK hS dn_Machine_advance_65 hP hD rfl (Nat.le_refl _) (Nat.le_refl _)
set_option maxHeartbeats 8000000 in
set_option maxRecDepth 100000 in
theorem ct_C_step_C (l : Launch) (dC : Nat → ClassId) (dI : Nat → Nat → Nat) (cI cB cJ cZ cQ : ClassId) (N sz : Nat) (a : Nat → Nat) (v : Nat → Value) (s : ms) (y : (Int32 × ms)) (hf : fn_C_step_C N s = some y) : Met l yn_C_step (xw yn_C_step bn_C_step 1 (some .int)) ({ frames := 5, cells := 0, slots := 0, locals := 130 }) (dc_P (dC, dI) xcl (xt cI cB cJ cZ cQ) [.ref ((a 100))] sz (wC a v cI cB cJ cZ cQ s)) (xk_Qi (dC, dI) xcl (xt cI cB cJ cZ cQ) (fun (r : Int32) (_ : Unit) => r = y.1) (fun u : Unit => (wC a v cI cB cJ cZ cQ y.2)) (va_A (wC a v cI cB cJ cZ cQ s) sz)) 0 0 (va_A (wC a v cI cB cJ cZ cQ s) sz) := by
  refine dc_of (QA := xk_Qi (dC, dI) xcl (xt cI cB cJ cZ cQ) (fun (r : Int32) (_ : Unit) => r = y.1) (fun u : Unit => (wC a v cI cB cJ cZ cQ y.2))) (by decide) (Nat.le_of_ble_eq_true rfl) ?_
  intro p e s0 m below meth c hx hb hml hown hg hr hlocks hin hP hK hN A hA hD hT ls hl
  have hown : s0.vm.findClass rn_C = some m.cls := hown
  obtain ⟨H, hH⟩ : ∃ z, z = s0.heap := ⟨_, rfl⟩
  rw [← hH] at hP
  have hS : va_S A s0.heap H [] := by rw [hH]; exact va_S.rf
  suffices kk : ∀ QQ : State → Prop, QQ = MQ below (xk_Qi (dC, dI) xcl (xt cI cB cJ cZ cQ) (fun (r : Int32) (_ : Unit) => r = y.1) (fun u : Unit => (wC a v cI cB cJ cZ cQ y.2)) A) [.ref ((a 100))].toArray s0 0 0 A → dcC p l e ({ frames := 5, cells := 0, slots := 0, locals := 130 }) s0 m [.ref ((a 100))].toArray below meth c QQ (dC, dI) A (wC a v cI cB cJ cZ cQ s) 0 1 [(0, .ref ((a 100)))] [] by
    have k9 := kk _ rfl H [] ls hP hD hS hl
    rw [hH] at k9; exact k9
  clear hP hD hS hl hH H ls
  intro QQ hQQ
  intro H locs ls hP hD hS hl
  unfold fn_C_step_C at hf
  refine lv_aload_n hx hb dn_C_step_0 rfl (lv_at hl 0 rfl) ?_
  refine va_get (D := (dC, dI)) (ci := 1) (v := .int ((s.1 208 0))) (C := rn_C) (T := fn_C) (N := 11) hx hb hg in_C hown hK hP 0 rfl rfl 8 (by decide) (hg _ wn_3_133) (fun _ h9 => h9) rfl dn_C_step_1 ?_
  refine lv_if_ne (tgt := 15) hx hb dn_C_step_4 (by decide) (fun h => ?_) (fun h => ?_)
  · have hf := (if_neg h).symm.trans hf
    refine lv_aload_n hx hb dn_C_step_15 rfl (lv_at hl 0 rfl) ?_
    refine va_get (D := (dC, dI)) (ci := 1) (v := .ref ((a 107))) (C := rn_C) (T := fn_C) (N := 11) hx hb hg in_C hown hK hP 0 rfl rfl 7 (by decide) (hg _ wn_3_132) (fun _ h9 => h9) rfl dn_C_step_16 ?_
    refine lv_aload_n hx hb dn_C_step_19 rfl (lv_at hl 0 rfl) ?_
    refine va_get (D := (dC, dI)) (ci := 1) (v := .ref ((a 112))) (C := rn_C) (T := fn_C) (N := 11) hx hb hg in_C hown hK hP 0 rfl rfl 9 (by decide) (hg _ wn_3_134) (fun _ h9 => h9) rfl dn_C_step_20 ?_
    obtain ⟨q_1, hc_2, hf⟩ := dc_b hf
    refine dc_calli (dc_runV (ar := 1) (As := [.ref ((a 112))]) (rest := []) (ci := 8) (q0 := 7) ⟨hx, hb, hml, hown, hg⟩ hK hN hT hS hA (ct_Machine_advance_Ma_Cc l dC dI cI cB cJ cZ cQ N H.size a v s q_1 hc_2) hP hD rfl rfl wn_7_226 wn_7_227 wn_7_228 wn_1_8 wn_7_229 rfl rfl (by decide +kernel) ⟨Nat.le_of_ble_eq_true rfl, Nat.le_of_ble_eq_true rfl⟩ rfl hl.1 rfl (Nat.le_of_ble_eq_true rfl) dn_C_step_23 ⟨Nat.le_of_ble_eq_true rfl, Nat.le_of_ble_eq_true rfl⟩) hP hD hS hA (fun r_3 _ H locs hw hP hD hS => ?_)
    have hw : r_3 = q_1.1 := hw
    subst hw
    rw [hQQ, ← Option.some.inj hf]
    exact xk_iret (w1 := fun u : Unit => (wC a v cI cB cJ cZ cQ q_1.2)) () hx hb hr hlocks hK hS dn_C_step_26 hP hD rfl (Nat.le_refl _) (Nat.le_refl _)
  · have hf := (if_pos h).symm.trans hf
    cases hf
set_option maxHeartbeats 8000000 in
set_option maxRecDepth 100000 in
theorem ct_Design_firstPiece_Ds (l : Launch) (dC : Nat → ClassId) (dI : Nat → Nat → Nat) (cI cB cJ cZ cQ : ClassId) (N sz : Nat) (a : Nat → Nat) (v : Nat → Value) (v1 : Int32) (s : ms) (y : (Int32 × ms)) (hf : fn_Design_firstPiece_Ds N v1 s = some y) : Met l yn_Design_firstPiece (xw yn_Design_firstPiece bn_Design_firstPiece 2 (some .int)) ({ frames := 1, cells := 0, slots := 0, locals := 21 }) (dc_P (dC, dI) xcl (xt cI cB cJ cZ cQ) [.ref ((a 109)), .int v1] sz (wC a v cI cB cJ cZ cQ s)) (xk_Qi (dC, dI) xcl (xt cI cB cJ cZ cQ) (fun (r : Int32) (_ : Unit) => r = y.1) (fun u : Unit => (wC a v cI cB cJ cZ cQ y.2)) (va_A (wC a v cI cB cJ cZ cQ s) sz)) 0 0 (va_A (wC a v cI cB cJ cZ cQ s) sz) := by
  refine dc_of (QA := xk_Qi (dC, dI) xcl (xt cI cB cJ cZ cQ) (fun (r : Int32) (_ : Unit) => r = y.1) (fun u : Unit => (wC a v cI cB cJ cZ cQ y.2))) (by decide) (Nat.le_of_ble_eq_true rfl) ?_
  intro p e s0 m below meth c hx hb hml hown hg hr hlocks hin hP hK hN A hA hD hT ls hl
  have hown : s0.vm.findClass rn_Design = some m.cls := hown
  obtain ⟨H, hH⟩ : ∃ z, z = s0.heap := ⟨_, rfl⟩
  rw [← hH] at hP
  have hS : va_S A s0.heap H [] := by rw [hH]; exact va_S.rf
  suffices kk : ∀ QQ : State → Prop, QQ = MQ below (xk_Qi (dC, dI) xcl (xt cI cB cJ cZ cQ) (fun (r : Int32) (_ : Unit) => r = y.1) (fun u : Unit => (wC a v cI cB cJ cZ cQ y.2)) A) [.ref ((a 109)), .int v1].toArray s0 0 0 A → dcC p l e ({ frames := 1, cells := 0, slots := 0, locals := 21 }) s0 m [.ref ((a 109)), .int v1].toArray below meth c QQ (dC, dI) A (wC a v cI cB cJ cZ cQ s) 0 2 [(0, .ref ((a 109))), (1, .int v1)] [] by
    have k9 := kk _ rfl H [] ls hP hD hS hl
    rw [hH] at k9; exact k9
  clear hP hD hS hl hH H ls
  intro QQ hQQ
  intro H locs ls hP hD hS hl
  unfold fn_Design_firstPiece_Ds at hf
  refine lv_aload_n hx hb dn_Design_firstPiece_0 rfl (lv_at hl 0 rfl) ?_
  refine lv_iload_n hx hb dn_Design_firstPiece_1 rfl (lv_at hl 1 rfl) ?_
  obtain ⟨q_1, hc_2, hf⟩ := dc_b hf
  refine dc_calli (dc_runV (ar := 1) (As := [.int v1]) (rest := []) (ci := 10) (q0 := 9) ⟨hx, hb, hml, hown, hg⟩ hK hN hT hS hA (ct_Design_isModule_Ds l dC dI cI cB cJ cZ cQ N H.size a v v1 s q_1 hc_2) hP hD rfl rfl wn_5_91 wn_5_93 sn_Design_isModule wn_1_10 wn_5_94 rfl rfl (by decide +kernel) ⟨Nat.le_of_ble_eq_true rfl, Nat.le_of_ble_eq_true rfl⟩ rfl hl.1 rfl (Nat.le_of_ble_eq_true rfl) dn_Design_firstPiece_2 ⟨Nat.le_of_ble_eq_true rfl, Nat.le_of_ble_eq_true rfl⟩) hP hD hS hA (fun r_3 _ H locs hw hP hD hS => ?_)
  have hw : r_3 = q_1.1 := hw
  subst hw
  refine lv_if_eq (tgt := 17) hx hb dn_Design_firstPiece_5 (by decide) (fun h => ?_) (fun h => ?_)
  · have hf := (if_pos h).symm.trans hf
    refine lv_aload_n hx hb dn_Design_firstPiece_17 rfl (lv_at hl 0 rfl) ?_
    refine va_get (D := (dC, dI)) (ci := 10) (v := .int ((q_1.2.1 317 0))) (C := rn_Design) (T := fn_Design) (N := 16) hx hb hg in_Design hown hK hP 9 rfl rfl 12 (by decide) (hg _ wn_3_21) (fun _ h9 => h9) rfl dn_Design_firstPiece_18 ?_
    rw [hQQ, ← Option.some.inj hf]
    exact xk_iret (w1 := fun u : Unit => (wC a v cI cB cJ cZ cQ q_1.2)) () hx hb hr hlocks hK hS dn_Design_firstPiece_21 hP hD rfl (Nat.le_refl _) (Nat.le_refl _)
  · have hf := (if_neg h).symm.trans hf
    refine lv_aload_n hx hb dn_Design_firstPiece_8 rfl (lv_at hl 0 rfl) ?_
    refine va_get (D := (dC, dI)) (ci := 10) (v := .ref ((a 315))) (C := rn_Design) (T := fn_Design) (N := 16) hx hb hg in_Design hown hK hP 9 rfl rfl 10 (by decide) (hg _ wn_3_19) (fun _ h9 => h9) rfl dn_Design_firstPiece_9 ?_
    refine lv_iload_n hx hb dn_Design_firstPiece_12 rfl (lv_at hl 1 rfl) ?_
    obtain ⟨hg_4, hf⟩ := dc_g hf
    refine va_iald hx hb hK hP 57 0 rfl rfl hg_4 dn_Design_firstPiece_13 ?_
    refine xk_ti (y := ((q_1.2.1 315) (Int32.toNatClampNeg v1))) rfl ?_
    refine lv_goto (tgt := 21) hx hb dn_Design_firstPiece_14 (by decide) ?_
    rw [hQQ, ← Option.some.inj hf]
    exact xk_iret (w1 := fun u : Unit => (wC a v cI cB cJ cZ cQ q_1.2)) () hx hb hr hlocks hK hS dn_Design_firstPiece_21 hP hD rfl (Nat.le_refl _) (Nat.le_refl _)
set_option maxHeartbeats 8000000 in
set_option maxRecDepth 100000 in
theorem ct_Machine_valueOf_Ma_Cc (l : Launch) (dC : Nat → ClassId) (dI : Nat → Nat → Nat) (cI cB cJ cZ cQ : ClassId) (N sz : Nat) (a : Nat → Nat) (v : Nat → Value) (v2 : Int32) (s : ms) (y : (Int64 × ms)) (hf : fn_Machine_valueOf_Ma_Cc N v2 s = some y) : Met l yn_Machine_valueOf (xw yn_Machine_valueOf bn_Machine_valueOf 3 (some .long)) ({ frames := 4, cells := 0, slots := 0, locals := 105 }) (dc_P (dC, dI) xcl (xt cI cB cJ cZ cQ) [.ref ((a 107)), .ref ((a 112)), .int v2] sz (wC a v cI cB cJ cZ cQ s)) (xk_Ql (dC, dI) xcl (xt cI cB cJ cZ cQ) (fun (r : Int64) (_ : Unit) => r = y.1) (fun u : Unit => (wC a v cI cB cJ cZ cQ y.2)) (va_A (wC a v cI cB cJ cZ cQ s) sz)) 0 0 (va_A (wC a v cI cB cJ cZ cQ s) sz) := by
  refine dc_of (QA := xk_Ql (dC, dI) xcl (xt cI cB cJ cZ cQ) (fun (r : Int64) (_ : Unit) => r = y.1) (fun u : Unit => (wC a v cI cB cJ cZ cQ y.2))) (by decide) (Nat.le_of_ble_eq_true rfl) ?_
  intro p e s0 m below meth c hx hb hml hown hg hr hlocks hin hP hK hN A hA hD hT ls hl
  have hown : s0.vm.findClass rn_Machine = some m.cls := hown
  obtain ⟨H, hH⟩ : ∃ z, z = s0.heap := ⟨_, rfl⟩
  rw [← hH] at hP
  have hS : va_S A s0.heap H [] := by rw [hH]; exact va_S.rf
  suffices kk : ∀ QQ : State → Prop, QQ = MQ below (xk_Ql (dC, dI) xcl (xt cI cB cJ cZ cQ) (fun (r : Int64) (_ : Unit) => r = y.1) (fun u : Unit => (wC a v cI cB cJ cZ cQ y.2)) A) [.ref ((a 107)), .ref ((a 112)), .int v2].toArray s0 0 0 A → dcC p l e ({ frames := 4, cells := 0, slots := 0, locals := 105 }) s0 m [.ref ((a 107)), .ref ((a 112)), .int v2].toArray below meth c QQ (dC, dI) A (wC a v cI cB cJ cZ cQ s) 0 3 [(0, .ref ((a 107))), (1, .ref ((a 112))), (2, .int v2)] [] by
    have k9 := kk _ rfl H [] ls hP hD hS hl
    rw [hH] at k9; exact k9
  clear hP hD hS hl hH H ls
  intro QQ hQQ
  intro H locs ls hP hD hS hl
  unfold fn_Machine_valueOf_Ma_Cc at hf
  refine lv_aload_n hx hb dn_Machine_valueOf_0 rfl (lv_at hl 0 rfl) ?_
  refine lv_aload_n hx hb dn_Machine_valueOf_1 rfl (lv_at hl 1 rfl) ?_
  obtain ⟨q_1, hc_2, hf⟩ := dc_b hf
  refine dc_callv (dc_runV (ar := 1) (As := [.ref ((a 112))]) (rest := []) (ci := 8) (q0 := 7) ⟨hx, hb, hml, hown, hg⟩ hK hN hT hS hA (ct_Machine_settle_Ma_Cc l dC dI cI cB cJ cZ cQ N H.size a v s q_1 hc_2) hP hD rfl rfl wn_7_230 wn_7_232 sn_Machine_settle wn_1_8 wn_7_233 rfl rfl (by decide +kernel) ⟨Nat.le_of_ble_eq_true rfl, Nat.le_of_ble_eq_true rfl⟩ rfl hl.1 rfl (Nat.le_of_ble_eq_true rfl) dn_Machine_valueOf_2 ⟨Nat.le_of_ble_eq_true rfl, Nat.le_of_ble_eq_true rfl⟩) hP hD hS hA (fun _ H locs hw hP hD hS => ?_)
  refine lv_iload_n hx hb dn_Machine_valueOf_5 rfl (lv_at hl 2 rfl) ?_
  refine lv_if_lt (tgt := 27) hx hb dn_Machine_valueOf_6 (by decide) (fun h => ?_) (fun h => ?_)
  · have hf := (if_pos h).symm.trans hf
    refine lv_lconst (v := 0) hx hb dn_Machine_valueOf_27 (by decide) ?_
    rw [hQQ, ← Option.some.inj hf]
    exact xk_lret (w1 := fun u : Unit => (wC a v cI cB cJ cZ cQ q_1.2)) () hx hb hr hlocks hK hS dn_Machine_valueOf_28 hP hD rfl (Nat.le_refl _) (Nat.le_refl _)
  · have hf := (if_neg h).symm.trans hf
    refine lv_iload_n hx hb dn_Machine_valueOf_9 rfl (lv_at hl 2 rfl) ?_
    refine lv_aload_n hx hb dn_Machine_valueOf_10 rfl (lv_at hl 0 rfl) ?_
    refine va_get (D := (dC, dI)) (ci := 8) (v := .ref ((a 286))) (C := rn_Machine) (T := fn_Machine) (N := 5) hx hb hg in_Machine hown hK hP 7 rfl rfl 0 (by decide) (hg _ wn_2_89) (fun _ h9 => h9) rfl dn_Machine_valueOf_11 ?_
    refine va_alen (v := 1024) hx hb hK hP 39 2 rfl rfl rfl dn_Machine_valueOf_14 ?_
    refine lv_icmp_ge (tgt := 27) hx hb dn_Machine_valueOf_15 (by decide) (fun h => ?_) (fun h => ?_)
    · have hf := (if_pos h).symm.trans hf
      refine lv_lconst (v := 0) hx hb dn_Machine_valueOf_27 (by decide) ?_
      rw [hQQ, ← Option.some.inj hf]
      exact xk_lret (w1 := fun u : Unit => (wC a v cI cB cJ cZ cQ q_1.2)) () hx hb hr hlocks hK hS dn_Machine_valueOf_28 hP hD rfl (Nat.le_refl _) (Nat.le_refl _)
    · have hf := (if_neg h).symm.trans hf
      refine lv_aload_n hx hb dn_Machine_valueOf_18 rfl (lv_at hl 0 rfl) ?_
      refine va_get (D := (dC, dI)) (ci := 8) (v := .ref ((a 286))) (C := rn_Machine) (T := fn_Machine) (N := 5) hx hb hg in_Machine hown hK hP 7 rfl rfl 0 (by decide) (hg _ wn_2_89) (fun _ h9 => h9) rfl dn_Machine_valueOf_19 ?_
      refine lv_iload_n hx hb dn_Machine_valueOf_22 rfl (lv_at hl 2 rfl) ?_
      obtain ⟨hg_3, hf⟩ := dc_g hf
      refine va_lald hx hb hK hP 39 2 rfl rfl hg_3 dn_Machine_valueOf_23 ?_
      refine xk_tl (y := ((q_1.2.2 286) (Int32.toNatClampNeg v2))) rfl ?_
      refine lv_goto (tgt := 28) hx hb dn_Machine_valueOf_24 (by decide) ?_
      rw [hQQ, ← Option.some.inj hf]
      exact xk_lret (w1 := fun u : Unit => (wC a v cI cB cJ cZ cQ q_1.2)) () hx hb hr hlocks hK hS dn_Machine_valueOf_28 hP hD rfl (Nat.le_refl _) (Nat.le_refl _)
set_option maxHeartbeats 8000000 in
set_option maxRecDepth 100000 in
theorem ct_C_value_C (l : Launch) (dC : Nat → ClassId) (dI : Nat → Nat → Nat) (cI cB cJ cZ cQ : ClassId) (N sz : Nat) (a : Nat → Nat) (v : Nat → Value) (v1 : Int32) (s : ms) (y : (Int64 × ms)) (hf : fn_C_value_C N v1 s = some y) : Met l yn_C_value (xw yn_C_value bn_C_value 2 (some .long)) ({ frames := 5, cells := 0, slots := 0, locals := 127 }) (dc_P (dC, dI) xcl (xt cI cB cJ cZ cQ) [.ref ((a 100)), .int v1] sz (wC a v cI cB cJ cZ cQ s)) (xk_Ql (dC, dI) xcl (xt cI cB cJ cZ cQ) (fun (r : Int64) (_ : Unit) => r = y.1) (fun u : Unit => (wC a v cI cB cJ cZ cQ y.2)) (va_A (wC a v cI cB cJ cZ cQ s) sz)) 0 0 (va_A (wC a v cI cB cJ cZ cQ s) sz) := by
  refine dc_of (QA := xk_Ql (dC, dI) xcl (xt cI cB cJ cZ cQ) (fun (r : Int64) (_ : Unit) => r = y.1) (fun u : Unit => (wC a v cI cB cJ cZ cQ y.2))) (by decide) (Nat.le_of_ble_eq_true rfl) ?_
  intro p e s0 m below meth c hx hb hml hown hg hr hlocks hin hP hK hN A hA hD hT ls hl
  have hown : s0.vm.findClass rn_C = some m.cls := hown
  obtain ⟨H, hH⟩ : ∃ z, z = s0.heap := ⟨_, rfl⟩
  rw [← hH] at hP
  have hS : va_S A s0.heap H [] := by rw [hH]; exact va_S.rf
  suffices kk : ∀ QQ : State → Prop, QQ = MQ below (xk_Ql (dC, dI) xcl (xt cI cB cJ cZ cQ) (fun (r : Int64) (_ : Unit) => r = y.1) (fun u : Unit => (wC a v cI cB cJ cZ cQ y.2)) A) [.ref ((a 100)), .int v1].toArray s0 0 0 A → dcC p l e ({ frames := 5, cells := 0, slots := 0, locals := 127 }) s0 m [.ref ((a 100)), .int v1].toArray below meth c QQ (dC, dI) A (wC a v cI cB cJ cZ cQ s) 0 2 [(0, .ref ((a 100))), (1, .int v1)] [] by
    have k9 := kk _ rfl H [] ls hP hD hS hl
    rw [hH] at k9; exact k9
  clear hP hD hS hl hH H ls
  intro QQ hQQ
  have bl_30 : ∀ (s : ms), bk_C_value_C_30 N s = some y → dcC p l e ({ frames := 5, cells := 0, slots := 0, locals := 127 }) s0 m [.ref ((a 100)), .int v1].toArray below meth c QQ (dC, dI) A (wC a v cI cB cJ cZ cQ s) 30 2 [] [] := by
    intro s hf H locs ls hP hD hS hl
    unfold bk_C_value_C_30 at hf
    cases hf
  intro H locs ls hP hD hS hl
  unfold fn_C_value_C at hf
  refine lv_aload_n hx hb dn_C_value_0 rfl (lv_at hl 0 rfl) ?_
  refine va_get (D := (dC, dI)) (ci := 1) (v := .int ((s.1 208 0))) (C := rn_C) (T := fn_C) (N := 11) hx hb hg in_C hown hK hP 0 rfl rfl 8 (by decide) (hg _ wn_3_133) (fun _ h9 => h9) rfl dn_C_value_1 ?_
  refine lv_if_ne (tgt := 15) hx hb dn_C_value_4 (by decide) (fun h => ?_) (fun h => ?_)
  · have hf := (if_neg h).symm.trans hf
    refine lv_iload_n hx hb dn_C_value_15 rfl (lv_at hl 1 rfl) ?_
    refine lv_if_lt (tgt := 30) hx hb dn_C_value_16 (by decide) (fun h => ?_) (fun h => ?_)
    · have hf := (if_pos h).symm.trans hf
      exact bl_30 s hf H locs ls hP hD hS (lv_sub hl [] rfl)
    · have hf := (if_neg h).symm.trans hf
      refine lv_iload_n hx hb dn_C_value_19 rfl (lv_at hl 1 rfl) ?_
      refine lv_aload_n hx hb dn_C_value_20 rfl (lv_at hl 0 rfl) ?_
      refine va_get (D := (dC, dI)) (ci := 1) (v := .ref ((a 112))) (C := rn_C) (T := fn_C) (N := 11) hx hb hg in_C hown hK hP 0 rfl rfl 9 (by decide) (hg _ wn_3_134) (fun _ h9 => h9) rfl dn_C_value_21 ?_
      refine va_get (D := (dC, dI)) (ci := 9) (v := .int ((s.1 343 0))) (C := rn_Circuit) (T := fn_Circuit) (N := 14) hx hb hg in_Circuit hown hK hP 12 rfl rfl 2 (by decide) (hg _ wn_3_71) (fun _ h9 => h9) rfl dn_C_value_24 ?_
      refine lv_icmp_lt (tgt := 38) hx hb dn_C_value_27 (by decide) (fun h => ?_) (fun h => ?_)
      · have hf := (if_pos h).symm.trans hf
        refine lv_aload_n hx hb dn_C_value_38 rfl (lv_at hl 0 rfl) ?_
        refine va_get (D := (dC, dI)) (ci := 1) (v := .ref ((a 107))) (C := rn_C) (T := fn_C) (N := 11) hx hb hg in_C hown hK hP 0 rfl rfl 7 (by decide) (hg _ wn_3_132) (fun _ h9 => h9) rfl dn_C_value_39 ?_
        refine lv_aload_n hx hb dn_C_value_42 rfl (lv_at hl 0 rfl) ?_
        refine va_get (D := (dC, dI)) (ci := 1) (v := .ref ((a 112))) (C := rn_C) (T := fn_C) (N := 11) hx hb hg in_C hown hK hP 0 rfl rfl 9 (by decide) (hg _ wn_3_134) (fun _ h9 => h9) rfl dn_C_value_43 ?_
        refine lv_iload_n hx hb dn_C_value_46 rfl (lv_at hl 1 rfl) ?_
        obtain ⟨q_1, hc_2, hf⟩ := dc_b hf
        refine dc_calll (dc_runV (ar := 2) (As := [.ref ((a 112)), .int v1]) (rest := []) (ci := 8) (q0 := 7) ⟨hx, hb, hml, hown, hg⟩ hK hN hT hS hA (ct_Machine_valueOf_Ma_Cc l dC dI cI cB cJ cZ cQ N H.size a v v1 s q_1 hc_2) hP hD rfl rfl wn_8_50 wn_8_51 wn_8_52 wn_1_8 wn_8_53 rfl rfl (by decide +kernel) ⟨Nat.le_of_ble_eq_true rfl, Nat.le_of_ble_eq_true rfl⟩ rfl hl.1 rfl (Nat.le_of_ble_eq_true rfl) dn_C_value_47 ⟨Nat.le_of_ble_eq_true rfl, Nat.le_of_ble_eq_true rfl⟩) hP hD hS hA (fun r_3 _ H locs hw hP hD hS => ?_)
        have hw : r_3 = q_1.1 := hw
        subst hw
        rw [hQQ, ← Option.some.inj hf]
        exact xk_lret (w1 := fun u : Unit => (wC a v cI cB cJ cZ cQ q_1.2)) () hx hb hr hlocks hK hS dn_C_value_50 hP hD rfl (Nat.le_refl _) (Nat.le_refl _)
      · have hf := (if_neg h).symm.trans hf
        exact bl_30 s hf H locs ls hP hD hS (lv_sub hl [] rfl)
  · have hf := (if_pos h).symm.trans hf
    cases hf
set_option maxHeartbeats 8000000 in
set_option maxRecDepth 100000 in
theorem ct_Machine_unheld_Ma_Cc (l : Launch) (dC : Nat → ClassId) (dI : Nat → Nat → Nat) (cI cB cJ cZ cQ : ClassId) (N sz : Nat) (a : Nat → Nat) (v : Nat → Value) (s : ms) (y : (Int32 × ms)) (hf : fn_Machine_unheld_Ma_Cc N s = some y) : Met l yn_Machine_unheld (xw yn_Machine_unheld bn_Machine_unheld 2 (some .int)) ({ frames := 4, cells := 0, slots := 0, locals := 109 }) (dc_P (dC, dI) xcl (xt cI cB cJ cZ cQ) [.ref ((a 107)), .ref ((a 112))] sz (wC a v cI cB cJ cZ cQ s)) (xk_Qi (dC, dI) xcl (xt cI cB cJ cZ cQ) (fun (r : Int32) (_ : Unit) => r = y.1) (fun u : Unit => (wC a v cI cB cJ cZ cQ y.2)) (va_A (wC a v cI cB cJ cZ cQ s) sz)) 0 0 (va_A (wC a v cI cB cJ cZ cQ s) sz) := by
  refine dc_of (QA := xk_Qi (dC, dI) xcl (xt cI cB cJ cZ cQ) (fun (r : Int32) (_ : Unit) => r = y.1) (fun u : Unit => (wC a v cI cB cJ cZ cQ y.2))) (by decide) (Nat.le_of_ble_eq_true rfl) ?_
  intro p e s0 m below meth c hx hb hml hown hg hr hlocks hin hP hK hN A hA hD hT ls hl
  have hown : s0.vm.findClass rn_Machine = some m.cls := hown
  obtain ⟨H, hH⟩ : ∃ z, z = s0.heap := ⟨_, rfl⟩
  rw [← hH] at hP
  have hS : va_S A s0.heap H [] := by rw [hH]; exact va_S.rf
  suffices kk : ∀ QQ : State → Prop, QQ = MQ below (xk_Qi (dC, dI) xcl (xt cI cB cJ cZ cQ) (fun (r : Int32) (_ : Unit) => r = y.1) (fun u : Unit => (wC a v cI cB cJ cZ cQ y.2)) A) [.ref ((a 107)), .ref ((a 112))].toArray s0 0 0 A → dcC p l e ({ frames := 4, cells := 0, slots := 0, locals := 109 }) s0 m [.ref ((a 107)), .ref ((a 112))].toArray below meth c QQ (dC, dI) A (wC a v cI cB cJ cZ cQ s) 0 2 [(0, .ref ((a 107))), (1, .ref ((a 112)))] [] by
    have k9 := kk _ rfl H [] ls hP hD hS hl
    rw [hH] at k9; exact k9
  clear hP hD hS hl hH H ls
  intro QQ hQQ
  intro H locs ls hP hD hS hl
  unfold fn_Machine_unheld_Ma_Cc at hf
  refine lv_aload_n hx hb dn_Machine_unheld_0 rfl (lv_at hl 0 rfl) ?_
  refine lv_aload_n hx hb dn_Machine_unheld_1 rfl (lv_at hl 1 rfl) ?_
  obtain ⟨q_1, hc_2, hf⟩ := dc_b hf
  refine dc_callv (dc_runV (ar := 1) (As := [.ref ((a 112))]) (rest := []) (ci := 8) (q0 := 7) ⟨hx, hb, hml, hown, hg⟩ hK hN hT hS hA (ct_Machine_settle_Ma_Cc l dC dI cI cB cJ cZ cQ N H.size a v s q_1 hc_2) hP hD rfl rfl wn_7_230 wn_7_232 sn_Machine_settle wn_1_8 wn_7_233 rfl rfl (by decide +kernel) ⟨Nat.le_of_ble_eq_true rfl, Nat.le_of_ble_eq_true rfl⟩ rfl hl.1 rfl (Nat.le_of_ble_eq_true rfl) dn_Machine_unheld_2 ⟨Nat.le_of_ble_eq_true rfl, Nat.le_of_ble_eq_true rfl⟩) hP hD hS hA (fun _ H locs hw hP hD hS => ?_)
  refine lv_aload_n hx hb dn_Machine_unheld_5 rfl (lv_at hl 0 rfl) ?_
  refine lv_aload_n hx hb dn_Machine_unheld_6 rfl (lv_at hl 1 rfl) ?_
  refine lv_iconst (v := 1) hx hb dn_Machine_unheld_7 (by decide) ?_
  obtain ⟨q_3, hc_4, hf⟩ := dc_b hf
  refine dc_calli (dc_runV (ar := 2) (As := [.ref ((a 112)), .int 1]) (rest := []) (ci := 8) (q0 := 7) ⟨hx, hb, hml, hown, hg⟩ hK hN hT hS hA (ct_Machine_runPieces_Ma_Cc l dC dI cI cB cJ cZ cQ N H.size a v 1 q_1.2 q_3 hc_4) hP hD rfl rfl wn_8_35 wn_8_37 sn_Machine_runPieces wn_1_8 wn_8_38 rfl rfl (by decide +kernel) ⟨Nat.le_of_ble_eq_true rfl, Nat.le_of_ble_eq_true rfl⟩ rfl hl.1 rfl (Nat.le_of_ble_eq_true rfl) dn_Machine_unheld_8 ⟨Nat.le_of_ble_eq_true rfl, Nat.le_of_ble_eq_true rfl⟩) hP hD hS hA (fun r_5 _ H locs hw hP hD hS => ?_)
  have hw : r_5 = q_3.1 := hw
  subst hw
  rw [hQQ, ← Option.some.inj hf]
  exact xk_iret (w1 := fun u : Unit => (wC a v cI cB cJ cZ cQ q_3.2)) () hx hb hr hlocks hK hS dn_Machine_unheld_11 hP hD rfl (Nat.le_refl _) (Nat.le_refl _)
set_option maxHeartbeats 8000000 in
set_option maxRecDepth 100000 in
theorem ct_C_failing_C (l : Launch) (dC : Nat → ClassId) (dI : Nat → Nat → Nat) (cI cB cJ cZ cQ : ClassId) (N sz : Nat) (a : Nat → Nat) (v : Nat → Value) (s : ms) (y : (Int32 × ms)) (hf : fn_C_failing_C N s = some y) : Met l yn_C_failing (xw yn_C_failing bn_C_failing 1 (some .int)) ({ frames := 5, cells := 0, slots := 0, locals := 130 }) (dc_P (dC, dI) xcl (xt cI cB cJ cZ cQ) [.ref ((a 100))] sz (wC a v cI cB cJ cZ cQ s)) (xk_Qi (dC, dI) xcl (xt cI cB cJ cZ cQ) (fun (r : Int32) (_ : Unit) => r = y.1) (fun u : Unit => (wC a v cI cB cJ cZ cQ y.2)) (va_A (wC a v cI cB cJ cZ cQ s) sz)) 0 0 (va_A (wC a v cI cB cJ cZ cQ s) sz) := by
  refine dc_of (QA := xk_Qi (dC, dI) xcl (xt cI cB cJ cZ cQ) (fun (r : Int32) (_ : Unit) => r = y.1) (fun u : Unit => (wC a v cI cB cJ cZ cQ y.2))) (by decide) (Nat.le_of_ble_eq_true rfl) ?_
  intro p e s0 m below meth c hx hb hml hown hg hr hlocks hin hP hK hN A hA hD hT ls hl
  have hown : s0.vm.findClass rn_C = some m.cls := hown
  obtain ⟨H, hH⟩ : ∃ z, z = s0.heap := ⟨_, rfl⟩
  rw [← hH] at hP
  have hS : va_S A s0.heap H [] := by rw [hH]; exact va_S.rf
  suffices kk : ∀ QQ : State → Prop, QQ = MQ below (xk_Qi (dC, dI) xcl (xt cI cB cJ cZ cQ) (fun (r : Int32) (_ : Unit) => r = y.1) (fun u : Unit => (wC a v cI cB cJ cZ cQ y.2)) A) [.ref ((a 100))].toArray s0 0 0 A → dcC p l e ({ frames := 5, cells := 0, slots := 0, locals := 130 }) s0 m [.ref ((a 100))].toArray below meth c QQ (dC, dI) A (wC a v cI cB cJ cZ cQ s) 0 1 [(0, .ref ((a 100)))] [] by
    have k9 := kk _ rfl H [] ls hP hD hS hl
    rw [hH] at k9; exact k9
  clear hP hD hS hl hH H ls
  intro QQ hQQ
  intro H locs ls hP hD hS hl
  unfold fn_C_failing_C at hf
  refine lv_aload_n hx hb dn_C_failing_0 rfl (lv_at hl 0 rfl) ?_
  refine va_get (D := (dC, dI)) (ci := 1) (v := .int ((s.1 208 0))) (C := rn_C) (T := fn_C) (N := 11) hx hb hg in_C hown hK hP 0 rfl rfl 8 (by decide) (hg _ wn_3_133) (fun _ h9 => h9) rfl dn_C_failing_1 ?_
  refine lv_if_ne (tgt := 15) hx hb dn_C_failing_4 (by decide) (fun h => ?_) (fun h => ?_)
  · have hf := (if_neg h).symm.trans hf
    refine lv_aload_n hx hb dn_C_failing_15 rfl (lv_at hl 0 rfl) ?_
    refine va_get (D := (dC, dI)) (ci := 1) (v := .ref ((a 107))) (C := rn_C) (T := fn_C) (N := 11) hx hb hg in_C hown hK hP 0 rfl rfl 7 (by decide) (hg _ wn_3_132) (fun _ h9 => h9) rfl dn_C_failing_16 ?_
    refine lv_aload_n hx hb dn_C_failing_19 rfl (lv_at hl 0 rfl) ?_
    refine va_get (D := (dC, dI)) (ci := 1) (v := .ref ((a 112))) (C := rn_C) (T := fn_C) (N := 11) hx hb hg in_C hown hK hP 0 rfl rfl 9 (by decide) (hg _ wn_3_134) (fun _ h9 => h9) rfl dn_C_failing_20 ?_
    obtain ⟨q_1, hc_2, hf⟩ := dc_b hf
    refine dc_calli (dc_runV (ar := 1) (As := [.ref ((a 112))]) (rest := []) (ci := 8) (q0 := 7) ⟨hx, hb, hml, hown, hg⟩ hK hN hT hS hA (ct_Machine_unheld_Ma_Cc l dC dI cI cB cJ cZ cQ N H.size a v s q_1 hc_2) hP hD rfl rfl wn_8_61 wn_8_62 wn_8_63 wn_1_8 wn_8_64 rfl rfl (by decide +kernel) ⟨Nat.le_of_ble_eq_true rfl, Nat.le_of_ble_eq_true rfl⟩ rfl hl.1 rfl (Nat.le_of_ble_eq_true rfl) dn_C_failing_23 ⟨Nat.le_of_ble_eq_true rfl, Nat.le_of_ble_eq_true rfl⟩) hP hD hS hA (fun r_3 _ H locs hw hP hD hS => ?_)
    have hw : r_3 = q_1.1 := hw
    subst hw
    rw [hQQ, ← Option.some.inj hf]
    exact xk_iret (w1 := fun u : Unit => (wC a v cI cB cJ cZ cQ q_1.2)) () hx hb hr hlocks hK hS dn_C_failing_26 hP hD rfl (Nat.le_refl _) (Nat.le_refl _)
  · have hf := (if_pos h).symm.trans hf
    cases hf
set_option maxHeartbeats 8000000 in
set_option maxRecDepth 100000 in
theorem ct_Checker_start_Ch_Ds (l : Launch) (dC : Nat → ClassId) (dI : Nat → Nat → Nat) (cI cB cJ cZ cQ : ClassId) (N sz : Nat) (a : Nat → Nat) (v : Nat → Value) (v2 : Int32) (s : ms) (y : (Unit × ms)) (hf : fn_Checker_start_Ch_Ds N v2 s = some y) : Met l yn_Checker_start (xw yn_Checker_start bn_Checker_start 4 none) ({ frames := 0, cells := 0, slots := 0, locals := 0 }) (dc_P (dC, dI) xcl (xt cI cB cJ cZ cQ) [.ref ((a 103)), .ref ((a 109)), .int v2] sz (wC a v cI cB cJ cZ cQ s)) (xk_Qv (dC, dI) xcl (xt cI cB cJ cZ cQ) (fun _ : Unit => True) (fun u : Unit => (wC a ((va_up (va_up v 2 (.ref (a 110))) 3 (.ref (a 111)))) cI cB cJ cZ cQ y.2)) (va_A (wC a v cI cB cJ cZ cQ s) sz)) 0 0 (va_A (wC a v cI cB cJ cZ cQ s) sz) := by
  refine dc_of (QA := xk_Qv (dC, dI) xcl (xt cI cB cJ cZ cQ) (fun _ : Unit => True) (fun u : Unit => (wC a ((va_up (va_up v 2 (.ref (a 110))) 3 (.ref (a 111)))) cI cB cJ cZ cQ y.2))) (by decide) (Nat.le_of_ble_eq_true rfl) ?_
  intro p e s0 m below meth c hx hb hml hown hg hr hlocks hin hP hK hN A hA hD hT ls hl
  have hown : s0.vm.findClass rn_Checker = some m.cls := hown
  obtain ⟨H, hH⟩ : ∃ z, z = s0.heap := ⟨_, rfl⟩
  rw [← hH] at hP
  have hS : va_S A s0.heap H [] := by rw [hH]; exact va_S.rf
  suffices kk : ∀ QQ : State → Prop, QQ = MQ below (xk_Qv (dC, dI) xcl (xt cI cB cJ cZ cQ) (fun _ : Unit => True) (fun u : Unit => (wC a ((va_up (va_up v 2 (.ref (a 110))) 3 (.ref (a 111)))) cI cB cJ cZ cQ y.2)) A) [.ref ((a 103)), .ref ((a 109)), .int v2].toArray s0 0 0 A → dcC p l e ({ frames := 0, cells := 0, slots := 0, locals := 0 }) s0 m [.ref ((a 103)), .ref ((a 109)), .int v2].toArray below meth c QQ (dC, dI) A (wC a v cI cB cJ cZ cQ s) 0 4 [(0, .ref ((a 103))), (1, .ref ((a 109))), (2, .int v2)] [] by
    have k9 := kk _ rfl H [] ls hP hD hS hl
    rw [hH] at k9; exact k9
  clear hP hD hS hl hH H ls
  intro QQ hQQ
  have bl_50 : ∀ (s : ms), bk_Checker_start_Ch_Ds_50 N s = some y → dcC p l e ({ frames := 0, cells := 0, slots := 0, locals := 0 }) s0 m [.ref ((a 103)), .ref ((a 109)), .int v2].toArray below meth c QQ (dC, dI) A (wC a ((va_up (va_up v 2 (.ref (a 110))) 3 (.ref (a 111)))) cI cB cJ cZ cQ s) 50 4 [(0, .ref ((a 103)))] [] := by
    intro s hf H locs ls hP hD hS hl
    unfold bk_Checker_start_Ch_Ds_50 at hf
    refine lv_aload_n hx hb dn_Checker_start_50 rfl (lv_at hl 0 rfl) ?_
    refine lv_iconst (v := (-1)) hx hb dn_Checker_start_51 (by decide) ?_
    refine va_put (D := (dC, dI)) (ci := 4) (v := .int ((-1))) (ty := .int) (C := rn_Checker) (T := fn_Checker) (N := 15) hx hb hg in_Checker tn_Checker tk_Checker nn_Checker hown hK hP hD hS 3 rfl rfl 3 (by decide) (hg _ wn_1_129) (fun _ h9 => h9) rfl (tk_Checker 3 (by decide)) rfl rfl (Nat.le_of_ble_eq_true rfl) dn_Checker_start_52 (fun H locs hP hD hS => ?_)
    have hP := wC_P_232 hP
    have hD := wC_D_232 hD
    refine lv_aload_n hx hb dn_Checker_start_55 rfl (lv_at hl 0 rfl) ?_
    refine lv_iconst (v := 0) hx hb dn_Checker_start_56 (by decide) ?_
    refine va_put (D := (dC, dI)) (ci := 4) (v := .int 0) (ty := .int) (C := rn_Checker) (T := fn_Checker) (N := 15) hx hb hg in_Checker tn_Checker tk_Checker nn_Checker hown hK hP hD hS 3 rfl rfl 13 (by decide) (hg _ wn_1_141) (fun _ h9 => h9) rfl (tk_Checker 13 (by decide)) rfl rfl (Nat.le_of_ble_eq_true rfl) dn_Checker_start_57 (fun H locs hP hD hS => ?_)
    have hP := wC_P_242 hP
    have hD := wC_D_242 hD
    refine lv_aload_n hx hb dn_Checker_start_60 rfl (lv_at hl 0 rfl) ?_
    refine lv_iconst (v := (-1)) hx hb dn_Checker_start_61 (by decide) ?_
    refine va_put (D := (dC, dI)) (ci := 4) (v := .int ((-1))) (ty := .int) (C := rn_Checker) (T := fn_Checker) (N := 15) hx hb hg in_Checker tn_Checker tk_Checker nn_Checker hown hK hP hD hS 3 rfl rfl 14 (by decide) (hg _ wn_1_143) (fun _ h9 => h9) rfl (tk_Checker 14 (by decide)) rfl rfl (Nat.le_of_ble_eq_true rfl) dn_Checker_start_62 (fun H locs hP hD hS => ?_)
    have hP := wC_P_243 hP
    have hD := wC_D_243 hD
    refine lv_aload_n hx hb dn_Checker_start_65 rfl (lv_at hl 0 rfl) ?_
    refine lv_iconst (v := 0) hx hb dn_Checker_start_66 (by decide) ?_
    refine va_put (D := (dC, dI)) (ci := 4) (v := .int 0) (ty := .int) (C := rn_Checker) (T := fn_Checker) (N := 15) hx hb hg in_Checker tn_Checker tk_Checker nn_Checker hown hK hP hD hS 3 rfl rfl 10 (by decide) (hg _ wn_1_136) (fun _ h9 => h9) rfl (tk_Checker 10 (by decide)) rfl rfl (Nat.le_of_ble_eq_true rfl) dn_Checker_start_67 (fun H locs hP hD hS => ?_)
    have hP := wC_P_239 hP
    have hD := wC_D_239 hD
    rw [hQQ, ← Option.some.inj hf]
    exact xk_vret (w1 := fun u : Unit => (wC a ((va_up (va_up v 2 (.ref (a 110))) 3 (.ref (a 111)))) cI cB cJ cZ cQ (upI (upI (upI (upI s 232 (fun _ => (-1))) 242 (fun _ => 0)) 243 (fun _ => (-1))) 239 (fun _ => 0)))) () hx hb hr hlocks hK hS dn_Checker_start_70 hP hD trivial (Nat.le_refl _) (Nat.le_refl _)
  have hd_18 : ∀ (n : Nat) (x2 : Int32) (x3 : Int32) (s : ms), hd_Checker_start_Ch_Ds_18 N n x2 x3 s = some y → dcC p l e ({ frames := 0, cells := 0, slots := 0, locals := 0 }) s0 m [.ref ((a 103)), .ref ((a 109)), .int v2].toArray below meth c QQ (dC, dI) A (wC a ((va_up (va_up v 2 (.ref (a 110))) 3 (.ref (a 111)))) cI cB cJ cZ cQ s) 18 4 [(0, .ref ((a 103))), (2, .int x2), (3, .int x3)] [] := by
    intro n
    induction n with
    | zero => intro x2 x3 s hf; cases hf
    | succ n ih =>
      intro x2 x3 s hf H locs ls hP hD hS hl
      have hf : bd_Checker_start_Ch_Ds_18 N (hd_Checker_start_Ch_Ds_18 N n) x2 x3 s = some y := hf
      have hk_18 := ih
      generalize hd_Checker_start_Ch_Ds_18 N n = k_18 at hf hk_18
      unfold bd_Checker_start_Ch_Ds_18 at hf
      refine lv_iload_n hx hb dn_Checker_start_18 rfl (lv_at hl 2 rfl) ?_
      refine lv_iload_n hx hb dn_Checker_start_19 rfl (lv_at hl 1 rfl) ?_
      refine lv_icmp_ge (tgt := 50) hx hb dn_Checker_start_20 (by decide) (fun h => ?_) (fun h => ?_)
      · have hf := (if_pos h).symm.trans hf
        exact bl_50 s hf H locs ls hP hD hS (lv_sub hl [0] rfl)
      · have hf := (if_neg h).symm.trans hf
        refine lv_iload_n hx hb dn_Checker_start_23 rfl (lv_at hl 2 rfl) ?_
        refine lv_sipush (v := 19830) hx hb dn_Checker_start_24 (by decide) ?_
        refine lv_icmp_ge (tgt := 50) hx hb dn_Checker_start_27 (by decide) (fun h => ?_) (fun h => ?_)
        · have hf := (if_pos h).symm.trans hf
          exact bl_50 s hf H locs ls hP hD hS (lv_sub hl [0] rfl)
        · have hf := (if_neg h).symm.trans hf
          refine lv_aload_n hx hb dn_Checker_start_30 rfl (lv_at hl 0 rfl) ?_
          refine va_get (D := (dC, dI)) (ci := 4) (v := .ref ((a 234))) (C := rn_Checker) (T := fn_Checker) (N := 15) hx hb hg in_Checker hown hK hP 3 rfl rfl 5 (by decide) (hg _ wn_1_131) (fun _ h9 => h9) rfl dn_Checker_start_31 ?_
          refine lv_iload_n hx hb dn_Checker_start_34 rfl (lv_at hl 2 rfl) ?_
          refine lv_iconst (v := (-1)) hx hb dn_Checker_start_35 (by decide) ?_
          obtain ⟨hg_1, hf⟩ := dc_g hf
          refine va_iast hx hb hK hP hD hS 21 0 rfl rfl hg_1 dn_Checker_start_36 (fun H locs hP hD hS => ?_)
          have hP : va_P (dC, dI) xcl ((wC a ((va_up (va_up v 2 (.ref (a 110))) 3 (.ref (a 111)))) cI cB cJ cZ cQ s).set 21 ((a 234), .inl (cI, 19830, .inl (upd (s.1 234) (Int32.toNatClampNeg x3) ((-1)))))) H := hP
          have hD : va_D A ((wC a ((va_up (va_up v 2 (.ref (a 110))) 3 (.ref (a 111)))) cI cB cJ cZ cQ s).set 21 ((a 234), .inl (cI, 19830, .inl (upd (s.1 234) (Int32.toNatClampNeg x3) ((-1)))))) := hD
          have hP := wC_P_234 hP
          have hD := wC_D_234 hD
          refine lv_aload_n hx hb dn_Checker_start_37 rfl (lv_at hl 0 rfl) ?_
          refine va_get (D := (dC, dI)) (ci := 4) (v := .ref ((a 236))) (C := rn_Checker) (T := fn_Checker) (N := 15) hx hb hg in_Checker hown hK hP 3 rfl rfl 7 (by decide) (hg _ wn_1_133) (fun _ h9 => h9) rfl dn_Checker_start_38 ?_
          refine lv_iload_n hx hb dn_Checker_start_41 rfl (lv_at hl 2 rfl) ?_
          refine lv_iconst (v := (-1)) hx hb dn_Checker_start_42 (by decide) ?_
          obtain ⟨hg_2, hf⟩ := dc_g hf
          refine va_iast hx hb hK hP hD hS 23 0 rfl rfl hg_2 dn_Checker_start_43 (fun H locs hP hD hS => ?_)
          have hP : va_P (dC, dI) xcl ((wC a ((va_up (va_up v 2 (.ref (a 110))) 3 (.ref (a 111)))) cI cB cJ cZ cQ (upI s 234 (upd (s.1 234) (Int32.toNatClampNeg x3) ((-1))))).set 23 ((a 236), .inl (cI, 19830, .inl (upd (s.1 236) (Int32.toNatClampNeg x3) ((-1)))))) H := hP
          have hD : va_D A ((wC a ((va_up (va_up v 2 (.ref (a 110))) 3 (.ref (a 111)))) cI cB cJ cZ cQ (upI s 234 (upd (s.1 234) (Int32.toNatClampNeg x3) ((-1))))).set 23 ((a 236), .inl (cI, 19830, .inl (upd (s.1 236) (Int32.toNatClampNeg x3) ((-1)))))) := hD
          have hP := wC_P_236 hP
          have hD := wC_D_236 hD
          refine lv_iinc (v := (x3 + 1)) (lv' := [(3, .int ((x3 + 1))), (0, .ref ((a 103))), (2, .int x2)]) hx hb dn_Checker_start_44 hl (k := 2) rfl (dc_inc (by decide)) (by decide) rfl (fun ls hl => ?_)
          refine lv_goto (tgt := 18) hx hb dn_Checker_start_47 (by decide) ?_
          exact hk_18 x2 ((x3 + 1)) (upI (upI s 234 (upd (s.1 234) (Int32.toNatClampNeg x3) ((-1)))) 236 (upd (s.1 236) (Int32.toNatClampNeg x3) ((-1)))) hf H locs ls hP hD hS (lv_sub hl [1, 2, 0] rfl)
  intro H locs ls hP hD hS hl
  unfold fn_Checker_start_Ch_Ds at hf
  refine lv_aload_n hx hb dn_Checker_start_0 rfl (lv_at hl 0 rfl) ?_
  refine lv_aload_n hx hb dn_Checker_start_1 rfl (lv_at hl 1 rfl) ?_
  refine va_get (D := (dC, dI)) (ci := 10) (v := .ref ((a 110))) (C := rn_Design) (T := fn_Design) (N := 16) hx hb hg in_Design hown hK hP 9 rfl rfl 0 (by decide) (hg _ wn_2_235) (fun _ h9 => h9) rfl dn_Checker_start_2 ?_
  refine va_put (D := (dC, dI)) (ci := 4) (v := .ref (a 110)) (ty := (.object "CircuitCycles$Parts")) (C := rn_Checker) (T := fn_Checker) (N := 15) hx hb hg in_Checker tn_Checker tk_Checker nn_Checker hown hK hP hD hS 3 rfl rfl 1 (by decide) (hg _ wn_1_127) (fun _ h9 => h9) rfl (tk_Checker 1 (by decide)) rfl rfl (Nat.le_of_ble_eq_true rfl) dn_Checker_start_5 (fun H locs hP hD hS => ?_)
  have hP := wC_Pv_2 hP
  have hD := wC_Dv_2 hD
  refine lv_aload_n hx hb dn_Checker_start_8 rfl (lv_at hl 0 rfl) ?_
  refine lv_aload_n hx hb dn_Checker_start_9 rfl (lv_at hl 1 rfl) ?_
  refine va_get (D := (dC, dI)) (ci := 10) (v := .ref ((a 111))) (C := rn_Design) (T := fn_Design) (N := 16) hx hb hg in_Design hown hK hP 9 rfl rfl 1 (by decide) (hg _ wn_2_239) (fun _ h9 => h9) rfl dn_Checker_start_10 ?_
  refine va_put (D := (dC, dI)) (ci := 4) (v := .ref (a 111)) (ty := (.object "CircuitCycles$Code")) (C := rn_Checker) (T := fn_Checker) (N := 15) hx hb hg in_Checker tn_Checker tk_Checker nn_Checker hown hK hP hD hS 3 rfl rfl 2 (by decide) (hg _ wn_1_128) (fun _ h9 => h9) rfl (tk_Checker 2 (by decide)) rfl rfl (Nat.le_of_ble_eq_true rfl) dn_Checker_start_13 (fun H locs hP hD hS => ?_)
  have hP := wC_Pv_3 hP
  have hD := wC_Dv_3 hD
  refine lv_iconst (v := 0) hx hb dn_Checker_start_16 (by decide) ?_
  refine lv_istore_n (lv' := [(3, .int 0), (0, .ref ((a 103))), (1, .ref ((a 109))), (2, .int v2)]) hx hb dn_Checker_start_17 rfl hl (by decide) rfl (fun ls hl => ?_)
  exact hd_18 N v2 0 s hf H locs ls hP hD hS (lv_sub hl [1, 3, 0] rfl)
set_option maxHeartbeats 8000000 in
set_option maxRecDepth 100000 in
theorem ct_Meaning_start_Me_Ds (l : Launch) (dC : Nat → ClassId) (dI : Nat → Nat → Nat) (cI cB cJ cZ cQ : ClassId) (N sz : Nat) (a : Nat → Nat) (v : Nat → Value) (s : ms) (y : (Unit × ms)) (hf : fn_Meaning_start_Me_Ds N s = some y) : Met l yn_Meaning_start (xw yn_Meaning_start bn_Meaning_start 2 none) ({ frames := 0, cells := 0, slots := 0, locals := 0 }) (dc_P (dC, dI) xcl (xt cI cB cJ cZ cQ) [.ref ((a 104)), .ref ((a 109))] sz (wC a v cI cB cJ cZ cQ s)) (xk_Qv (dC, dI) xcl (xt cI cB cJ cZ cQ) (fun _ : Unit => True) (fun u : Unit => (wC a ((va_up (va_up (va_up v 4 (.ref (a 109))) 5 (.ref (a 110))) 6 (.ref (a 111)))) cI cB cJ cZ cQ y.2)) (va_A (wC a v cI cB cJ cZ cQ s) sz)) 0 0 (va_A (wC a v cI cB cJ cZ cQ s) sz) := by
  refine dc_of (QA := xk_Qv (dC, dI) xcl (xt cI cB cJ cZ cQ) (fun _ : Unit => True) (fun u : Unit => (wC a ((va_up (va_up (va_up v 4 (.ref (a 109))) 5 (.ref (a 110))) 6 (.ref (a 111)))) cI cB cJ cZ cQ y.2))) (by decide) (Nat.le_of_ble_eq_true rfl) ?_
  intro p e s0 m below meth c hx hb hml hown hg hr hlocks hin hP hK hN A hA hD hT ls hl
  have hown : s0.vm.findClass rn_Meaning = some m.cls := hown
  obtain ⟨H, hH⟩ : ∃ z, z = s0.heap := ⟨_, rfl⟩
  rw [← hH] at hP
  have hS : va_S A s0.heap H [] := by rw [hH]; exact va_S.rf
  suffices kk : ∀ QQ : State → Prop, QQ = MQ below (xk_Qv (dC, dI) xcl (xt cI cB cJ cZ cQ) (fun _ : Unit => True) (fun u : Unit => (wC a ((va_up (va_up (va_up v 4 (.ref (a 109))) 5 (.ref (a 110))) 6 (.ref (a 111)))) cI cB cJ cZ cQ y.2)) A) [.ref ((a 104)), .ref ((a 109))].toArray s0 0 0 A → dcC p l e ({ frames := 0, cells := 0, slots := 0, locals := 0 }) s0 m [.ref ((a 104)), .ref ((a 109))].toArray below meth c QQ (dC, dI) A (wC a v cI cB cJ cZ cQ s) 0 2 [(0, .ref ((a 104))), (1, .ref ((a 109)))] [] by
    have k9 := kk _ rfl H [] ls hP hD hS hl
    rw [hH] at k9; exact k9
  clear hP hD hS hl hH H ls
  intro QQ hQQ
  intro H locs ls hP hD hS hl
  unfold fn_Meaning_start_Me_Ds at hf
  refine lv_aload_n hx hb dn_Meaning_start_0 rfl (lv_at hl 0 rfl) ?_
  refine lv_aload_n hx hb dn_Meaning_start_1 rfl (lv_at hl 1 rfl) ?_
  refine va_put (D := (dC, dI)) (ci := 5) (v := .ref (a 109)) (ty := (.object "CircuitCycles$Design")) (C := rn_Meaning) (T := fn_Meaning) (N := 17) hx hb hg in_Meaning tn_Meaning tk_Meaning nn_Meaning hown hK hP hD hS 4 rfl rfl 1 (by decide) (hg _ wn_1_185) (fun _ h9 => h9) rfl (tk_Meaning 1 (by decide)) rfl rfl (Nat.le_of_ble_eq_true rfl) dn_Meaning_start_2 (fun H locs hP hD hS => ?_)
  have hP := wC_Pv_4 hP
  have hD := wC_Dv_4 hD
  refine lv_aload_n hx hb dn_Meaning_start_5 rfl (lv_at hl 0 rfl) ?_
  refine lv_aload_n hx hb dn_Meaning_start_6 rfl (lv_at hl 1 rfl) ?_
  refine va_get (D := (dC, dI)) (ci := 10) (v := .ref ((a 110))) (C := rn_Design) (T := fn_Design) (N := 16) hx hb hg in_Design hown hK hP 9 rfl rfl 0 (by decide) (hg _ wn_2_236) (fun _ h9 => h9) rfl dn_Meaning_start_7 ?_
  refine va_put (D := (dC, dI)) (ci := 5) (v := .ref (a 110)) (ty := (.object "CircuitCycles$Parts")) (C := rn_Meaning) (T := fn_Meaning) (N := 17) hx hb hg in_Meaning tn_Meaning tk_Meaning nn_Meaning hown hK hP hD hS 4 rfl rfl 2 (by decide) (hg _ wn_1_186) (fun _ h9 => h9) rfl (tk_Meaning 2 (by decide)) rfl rfl (Nat.le_of_ble_eq_true rfl) dn_Meaning_start_10 (fun H locs hP hD hS => ?_)
  have hP := wC_Pv_5 hP
  have hD := wC_Dv_5 hD
  refine lv_aload_n hx hb dn_Meaning_start_13 rfl (lv_at hl 0 rfl) ?_
  refine lv_aload_n hx hb dn_Meaning_start_14 rfl (lv_at hl 1 rfl) ?_
  refine va_get (D := (dC, dI)) (ci := 10) (v := .ref ((a 111))) (C := rn_Design) (T := fn_Design) (N := 16) hx hb hg in_Design hown hK hP 9 rfl rfl 1 (by decide) (hg _ wn_3_0) (fun _ h9 => h9) rfl dn_Meaning_start_15 ?_
  refine va_put (D := (dC, dI)) (ci := 5) (v := .ref (a 111)) (ty := (.object "CircuitCycles$Code")) (C := rn_Meaning) (T := fn_Meaning) (N := 17) hx hb hg in_Meaning tn_Meaning tk_Meaning nn_Meaning hown hK hP hD hS 4 rfl rfl 3 (by decide) (hg _ wn_1_187) (fun _ h9 => h9) rfl (tk_Meaning 3 (by decide)) rfl rfl (Nat.le_of_ble_eq_true rfl) dn_Meaning_start_18 (fun H locs hP hD hS => ?_)
  have hP := wC_Pv_6 hP
  have hD := wC_Dv_6 hD
  refine lv_aload_n hx hb dn_Meaning_start_21 rfl (lv_at hl 0 rfl) ?_
  refine lv_iconst (v := 1) hx hb dn_Meaning_start_22 (by decide) ?_
  refine va_put (D := (dC, dI)) (ci := 5) (v := .int 1) (ty := .int) (C := rn_Meaning) (T := fn_Meaning) (N := 17) hx hb hg in_Meaning tn_Meaning tk_Meaning nn_Meaning hown hK hP hD hS 4 rfl rfl 4 (by decide) (hg _ wn_1_188) (fun _ h9 => h9) rfl (tk_Meaning 4 (by decide)) rfl rfl (Nat.le_of_ble_eq_true rfl) dn_Meaning_start_23 (fun H locs hP hD hS => ?_)
  have hP := wC_P_248 hP
  have hD := wC_D_248 hD
  refine lv_aload_n hx hb dn_Meaning_start_26 rfl (lv_at hl 0 rfl) ?_
  refine lv_iconst (v := 0) hx hb dn_Meaning_start_27 (by decide) ?_
  refine va_put (D := (dC, dI)) (ci := 5) (v := .int 0) (ty := .int) (C := rn_Meaning) (T := fn_Meaning) (N := 17) hx hb hg in_Meaning tn_Meaning tk_Meaning nn_Meaning hown hK hP hD hS 4 rfl rfl 9 (by decide) (hg _ wn_1_193) (fun _ h9 => h9) rfl (tk_Meaning 9 (by decide)) rfl rfl (Nat.le_of_ble_eq_true rfl) dn_Meaning_start_28 (fun H locs hP hD hS => ?_)
  have hP := wC_P_253 hP
  have hD := wC_D_253 hD
  refine lv_aload_n hx hb dn_Meaning_start_31 rfl (lv_at hl 0 rfl) ?_
  refine lv_iconst (v := 0) hx hb dn_Meaning_start_32 (by decide) ?_
  refine va_put (D := (dC, dI)) (ci := 5) (v := .int 0) (ty := .int) (C := rn_Meaning) (T := fn_Meaning) (N := 17) hx hb hg in_Meaning tn_Meaning tk_Meaning nn_Meaning hown hK hP hD hS 4 rfl rfl 16 (by decide) (hg _ wn_1_200) (fun _ h9 => h9) rfl (tk_Meaning 16 (by decide)) rfl rfl (Nat.le_of_ble_eq_true rfl) dn_Meaning_start_33 (fun H locs hP hD hS => ?_)
  have hP := wC_P_260 hP
  have hD := wC_D_260 hD
  rw [hQQ, ← Option.some.inj hf]
  exact xk_vret (w1 := fun u : Unit => (wC a ((va_up (va_up (va_up v 4 (.ref (a 109))) 5 (.ref (a 110))) 6 (.ref (a 111)))) cI cB cJ cZ cQ (upI (upI (upI s 248 (fun _ => 1)) 253 (fun _ => 0)) 260 (fun _ => 0)))) () hx hb hr hlocks hK hS dn_Meaning_start_36 hP hD trivial (Nat.le_refl _) (Nat.le_refl _)
set_option maxHeartbeats 8000000 in
set_option maxRecDepth 100000 in
theorem ct_Order_arrange_Or_Cs (l : Launch) (dC : Nat → ClassId) (dI : Nat → Nat → Nat) (cI cB cJ cZ cQ : ClassId) (N sz : Nat) (a : Nat → Nat) (v : Nat → Value) (s : ms) (y : (Int32 × ms)) (hf : fn_Order_arrange_Or_Cs N s = some y) : Met l yn_Order_arrange (xw yn_Order_arrange bn_Order_arrange 3 (some .int)) ({ frames := 3, cells := 0, slots := 0, locals := 89 }) (dc_P (dC, dI) xcl (xt cI cB cJ cZ cQ) [.ref ((a 106)), .ref ((a 108))] sz (wC a v cI cB cJ cZ cQ s)) (xk_Qi (dC, dI) xcl (xt cI cB cJ cZ cQ) (fun (r : Int32) (_ : Unit) => r = y.1) (fun u : Unit => (wC a ((va_up v 7 (.ref (a 108)))) cI cB cJ cZ cQ y.2)) (va_A (wC a v cI cB cJ cZ cQ s) sz)) 0 0 (va_A (wC a v cI cB cJ cZ cQ s) sz) := by
  refine dc_of (QA := xk_Qi (dC, dI) xcl (xt cI cB cJ cZ cQ) (fun (r : Int32) (_ : Unit) => r = y.1) (fun u : Unit => (wC a ((va_up v 7 (.ref (a 108)))) cI cB cJ cZ cQ y.2))) (by decide) (Nat.le_of_ble_eq_true rfl) ?_
  intro p e s0 m below meth c hx hb hml hown hg hr hlocks hin hP hK hN A hA hD hT ls hl
  have hown : s0.vm.findClass rn_Order = some m.cls := hown
  obtain ⟨H, hH⟩ : ∃ z, z = s0.heap := ⟨_, rfl⟩
  rw [← hH] at hP
  have hS : va_S A s0.heap H [] := by rw [hH]; exact va_S.rf
  suffices kk : ∀ QQ : State → Prop, QQ = MQ below (xk_Qi (dC, dI) xcl (xt cI cB cJ cZ cQ) (fun (r : Int32) (_ : Unit) => r = y.1) (fun u : Unit => (wC a ((va_up v 7 (.ref (a 108)))) cI cB cJ cZ cQ y.2)) A) [.ref ((a 106)), .ref ((a 108))].toArray s0 0 0 A → dcC p l e ({ frames := 3, cells := 0, slots := 0, locals := 89 }) s0 m [.ref ((a 106)), .ref ((a 108))].toArray below meth c QQ (dC, dI) A (wC a v cI cB cJ cZ cQ s) 0 3 [(0, .ref ((a 106))), (1, .ref ((a 108)))] [] by
    have k9 := kk _ rfl H [] ls hP hD hS hl
    rw [hH] at k9; exact k9
  clear hP hD hS hl hH H ls
  intro QQ hQQ
  have hd_62 : ∀ (n : Nat) (x2 : Int32) (s : ms), hd_Order_arrange_Or_Cs_62 N n x2 s = some y → dcC p l e ({ frames := 3, cells := 0, slots := 0, locals := 89 }) s0 m [.ref ((a 106)), .ref ((a 108))].toArray below meth c QQ (dC, dI) A (wC a ((va_up v 7 (.ref (a 108)))) cI cB cJ cZ cQ s) 62 3 [(0, .ref ((a 106))), (2, .int x2)] [] := by
    intro n
    induction n with
    | zero => intro x2 s hf; cases hf
    | succ n ih =>
      intro x2 s hf H locs ls hP hD hS hl
      have hf : bd_Order_arrange_Or_Cs_62 N (hd_Order_arrange_Or_Cs_62 N n) x2 s = some y := hf
      have hk_62 := ih
      generalize hd_Order_arrange_Or_Cs_62 N n = k_62 at hf hk_62
      unfold bd_Order_arrange_Or_Cs_62 at hf
      refine lv_iload_n hx hb dn_Order_arrange_62 rfl (lv_at hl 1 rfl) ?_
      refine lv_aload_n hx hb dn_Order_arrange_63 rfl (lv_at hl 0 rfl) ?_
      refine va_get (D := (dC, dI)) (ci := 7) (v := .ref ((a 108))) (C := rn_Order) (T := fn_Order) (N := 10) hx hb hg in_Order hown hK hP 6 rfl rfl 0 (by decide) (hg _ wn_2_52) (fun _ h9 => h9) (congrArg some (show ((va_up v 7 (.ref (a 108)))) 7 = .ref (a 108) from rfl)) dn_Order_arrange_64 ?_
      refine va_get (D := (dC, dI)) (ci := 9) (v := .int ((s.1 293 0))) (C := rn_Circuit) (T := fn_Circuit) (N := 14) hx hb hg in_Circuit hown hK hP 8 rfl rfl 2 (by decide) (hg _ wn_3_69) (fun _ h9 => h9) rfl dn_Order_arrange_67 ?_
      refine lv_icmp_ge (tgt := 93) hx hb dn_Order_arrange_70 (by decide) (fun h => ?_) (fun h => ?_)
      · have hf := (if_pos h).symm.trans hf
        refine lv_aload_n hx hb dn_Order_arrange_93 rfl (lv_at hl 0 rfl) ?_
        refine va_get (D := (dC, dI)) (ci := 7) (v := .int ((s.1 285 0))) (C := rn_Order) (T := fn_Order) (N := 10) hx hb hg in_Order hown hK hP 6 rfl rfl 9 (by decide) (hg _ wn_2_61) (fun _ h9 => h9) rfl dn_Order_arrange_94 ?_
        refine lv_ldc hx hb hown (hg _ wn_6_215) dn_Order_arrange_97 ?_
        refine lv_icmp_ne (tgt := 106) hx hb dn_Order_arrange_99 (by decide) (fun h => ?_) (fun h => ?_)
        · have hf := (if_neg h).symm.trans hf
          refine lv_aload_n hx hb dn_Order_arrange_106 rfl (lv_at hl 0 rfl) ?_
          refine va_get (D := (dC, dI)) (ci := 7) (v := .int ((s.1 285 0))) (C := rn_Order) (T := fn_Order) (N := 10) hx hb hg in_Order hown hK hP 6 rfl rfl 9 (by decide) (hg _ wn_2_61) (fun _ h9 => h9) rfl dn_Order_arrange_107 ?_
          rw [hQQ, ← Option.some.inj hf]
          exact xk_iret (w1 := fun u : Unit => (wC a ((va_up v 7 (.ref (a 108)))) cI cB cJ cZ cQ s)) () hx hb hr hlocks hK hS dn_Order_arrange_110 hP hD rfl (Nat.le_refl _) (Nat.le_refl _)
        · have hf := (if_pos h).symm.trans hf
          refine lv_iconst (v := (-1)) hx hb dn_Order_arrange_102 (by decide) ?_
          refine lv_goto (tgt := 110) hx hb dn_Order_arrange_103 (by decide) ?_
          rw [hQQ, ← Option.some.inj hf]
          exact xk_iret (w1 := fun u : Unit => (wC a ((va_up v 7 (.ref (a 108)))) cI cB cJ cZ cQ s)) () hx hb hr hlocks hK hS dn_Order_arrange_110 hP hD rfl (Nat.le_refl _) (Nat.le_refl _)
      · have hf := (if_neg h).symm.trans hf
        refine lv_aload_n hx hb dn_Order_arrange_73 rfl (lv_at hl 0 rfl) ?_
        refine va_get (D := (dC, dI)) (ci := 7) (v := .ref ((a 277))) (C := rn_Order) (T := fn_Order) (N := 10) hx hb hg in_Order hown hK hP 6 rfl rfl 1 (by decide) (hg _ wn_2_53) (fun _ h9 => h9) rfl dn_Order_arrange_74 ?_
        refine lv_iload_n hx hb dn_Order_arrange_77 rfl (lv_at hl 1 rfl) ?_
        obtain ⟨hg_1, hf⟩ := dc_g hf
        refine va_iald hx hb hK hP 34 0 rfl rfl hg_1 dn_Order_arrange_78 ?_
        refine xk_ti (y := ((s.1 277) (Int32.toNatClampNeg x2))) rfl ?_
        refine lv_if_ne (tgt := 87) hx hb dn_Order_arrange_79 (by decide) (fun h => ?_) (fun h => ?_)
        · have hf := (if_neg h).symm.trans hf
          refine lv_iinc (v := (x2 + 1)) (lv' := [(2, .int ((x2 + 1))), (0, .ref ((a 106)))]) hx hb dn_Order_arrange_87 hl (k := 1) rfl (dc_inc (by decide)) (by decide) rfl (fun ls hl => ?_)
          refine lv_goto (tgt := 62) hx hb dn_Order_arrange_90 (by decide) ?_
          exact hk_62 ((x2 + 1)) s hf H locs ls hP hD hS (lv_sub hl [1, 0] rfl)
        · have hf := (if_pos h).symm.trans hf
          refine lv_aload_n hx hb dn_Order_arrange_82 rfl (lv_at hl 0 rfl) ?_
          refine lv_iload_n hx hb dn_Order_arrange_83 rfl (lv_at hl 1 rfl) ?_
          obtain ⟨q_2, hc_3, hf⟩ := dc_b hf
          refine dc_callv (dc_runV (ar := 1) (As := [.int x2]) (rest := []) (ci := 7) (q0 := 6) ⟨hx, hb, hml, hown, hg⟩ hK hN hT hS hA (ct_Order_visit_Or l dC dI cI cB cJ cZ cQ N H.size a ((va_up v 7 (.ref (a 108)))) (show ((va_up v 7 (.ref (a 108)))) 7 = .ref (a 108) from rfl) x2 s q_2 hc_3) hP hD rfl rfl wn_6_216 wn_6_218 sn_Order_visit wn_1_7 wn_6_219 rfl rfl (by decide +kernel) ⟨Nat.le_of_ble_eq_true rfl, Nat.le_of_ble_eq_true rfl⟩ rfl hl.1 rfl (Nat.le_of_ble_eq_true rfl) dn_Order_arrange_84 ⟨Nat.le_of_ble_eq_true rfl, Nat.le_of_ble_eq_true rfl⟩) hP hD hS hA (fun _ H locs hw hP hD hS => ?_)
          refine lv_iinc (v := (x2 + 1)) (lv' := [(2, .int ((x2 + 1))), (0, .ref ((a 106)))]) hx hb dn_Order_arrange_87 hl (k := 1) rfl (dc_inc (by decide)) (by decide) rfl (fun ls hl => ?_)
          refine lv_goto (tgt := 62) hx hb dn_Order_arrange_90 (by decide) ?_
          exact hk_62 ((x2 + 1)) q_2.2 hf H locs ls hP hD hS (lv_sub hl [1, 0] rfl)
  have hd_15 : ∀ (n : Nat) (x2 : Int32) (s : ms), hd_Order_arrange_Or_Cs_15 N n x2 s = some y → dcC p l e ({ frames := 3, cells := 0, slots := 0, locals := 89 }) s0 m [.ref ((a 106)), .ref ((a 108))].toArray below meth c QQ (dC, dI) A (wC a ((va_up v 7 (.ref (a 108)))) cI cB cJ cZ cQ s) 15 3 [(0, .ref ((a 106))), (2, .int x2)] [] := by
    intro n
    induction n with
    | zero => intro x2 s hf; cases hf
    | succ n ih =>
      intro x2 s hf H locs ls hP hD hS hl
      have hf : bd_Order_arrange_Or_Cs_15 N (hd_Order_arrange_Or_Cs_15 N n) x2 s = some y := hf
      have hk_15 := ih
      generalize hd_Order_arrange_Or_Cs_15 N n = k_15 at hf hk_15
      unfold bd_Order_arrange_Or_Cs_15 at hf
      refine lv_iload_n hx hb dn_Order_arrange_15 rfl (lv_at hl 1 rfl) ?_
      refine lv_aload_n hx hb dn_Order_arrange_16 rfl (lv_at hl 0 rfl) ?_
      refine va_get (D := (dC, dI)) (ci := 7) (v := .ref ((a 108))) (C := rn_Order) (T := fn_Order) (N := 10) hx hb hg in_Order hown hK hP 6 rfl rfl 0 (by decide) (hg _ wn_2_52) (fun _ h9 => h9) (congrArg some (show ((va_up v 7 (.ref (a 108)))) 7 = .ref (a 108) from rfl)) dn_Order_arrange_17 ?_
      refine va_get (D := (dC, dI)) (ci := 9) (v := .int ((s.1 293 0))) (C := rn_Circuit) (T := fn_Circuit) (N := 14) hx hb hg in_Circuit hown hK hP 8 rfl rfl 2 (by decide) (hg _ wn_3_69) (fun _ h9 => h9) rfl dn_Order_arrange_20 ?_
      refine lv_icmp_ge (tgt := 39) hx hb dn_Order_arrange_23 (by decide) (fun h => ?_) (fun h => ?_)
      · have hf := (if_pos h).symm.trans hf
        refine lv_aload_n hx hb dn_Order_arrange_39 rfl (lv_at hl 0 rfl) ?_
        refine lv_iconst (v := 0) hx hb dn_Order_arrange_40 (by decide) ?_
        refine va_put (D := (dC, dI)) (ci := 7) (v := .int 0) (ty := .int) (C := rn_Order) (T := fn_Order) (N := 10) hx hb hg in_Order tn_Order tk_Order nn_Order hown hK hP hD hS 6 rfl rfl 6 (by decide) (hg _ wn_2_58) (fun _ h9 => h9) rfl (tk_Order 6 (by decide)) rfl rfl (Nat.le_of_ble_eq_true rfl) dn_Order_arrange_41 (fun H locs hP hD hS => ?_)
        have hP := wC_P_282 hP
        have hD := wC_D_282 hD
        refine lv_aload_n hx hb dn_Order_arrange_44 rfl (lv_at hl 0 rfl) ?_
        refine lv_iconst (v := 0) hx hb dn_Order_arrange_45 (by decide) ?_
        refine va_put (D := (dC, dI)) (ci := 7) (v := .int 0) (ty := .int) (C := rn_Order) (T := fn_Order) (N := 10) hx hb hg in_Order tn_Order tk_Order nn_Order hown hK hP hD hS 6 rfl rfl 7 (by decide) (hg _ wn_2_59) (fun _ h9 => h9) rfl (tk_Order 7 (by decide)) rfl rfl (Nat.le_of_ble_eq_true rfl) dn_Order_arrange_46 (fun H locs hP hD hS => ?_)
        have hP := wC_P_283 hP
        have hD := wC_D_283 hD
        refine lv_aload_n hx hb dn_Order_arrange_49 rfl (lv_at hl 0 rfl) ?_
        refine lv_iconst (v := 0) hx hb dn_Order_arrange_50 (by decide) ?_
        refine va_put (D := (dC, dI)) (ci := 7) (v := .int 0) (ty := .int) (C := rn_Order) (T := fn_Order) (N := 10) hx hb hg in_Order tn_Order tk_Order nn_Order hown hK hP hD hS 6 rfl rfl 8 (by decide) (hg _ wn_2_60) (fun _ h9 => h9) rfl (tk_Order 8 (by decide)) rfl rfl (Nat.le_of_ble_eq_true rfl) dn_Order_arrange_51 (fun H locs hP hD hS => ?_)
        have hP := wC_P_284 hP
        have hD := wC_D_284 hD
        refine lv_aload_n hx hb dn_Order_arrange_54 rfl (lv_at hl 0 rfl) ?_
        refine lv_ldc hx hb hown (hg _ wn_6_215) dn_Order_arrange_55 ?_
        refine va_put (D := (dC, dI)) (ci := 7) (v := .int 1073741824) (ty := .int) (C := rn_Order) (T := fn_Order) (N := 10) hx hb hg in_Order tn_Order tk_Order nn_Order hown hK hP hD hS 6 rfl rfl 9 (by decide) (hg _ wn_2_61) (fun _ h9 => h9) rfl (tk_Order 9 (by decide)) rfl rfl (Nat.le_of_ble_eq_true rfl) dn_Order_arrange_57 (fun H locs hP hD hS => ?_)
        have hP := wC_P_285 hP
        have hD := wC_D_285 hD
        refine lv_iconst (v := 0) hx hb dn_Order_arrange_60 (by decide) ?_
        refine lv_istore_n (lv' := [(2, .int 0), (0, .ref ((a 106)))]) hx hb dn_Order_arrange_61 rfl hl (by decide) rfl (fun ls hl => ?_)
        exact hd_62 N 0 (upI (upI (upI (upI s 282 (fun _ => 0)) 283 (fun _ => 0)) 284 (fun _ => 0)) 285 (fun _ => 1073741824)) hf H locs ls hP hD hS (lv_sub hl [1, 0] rfl)
      · have hf := (if_neg h).symm.trans hf
        refine lv_aload_n hx hb dn_Order_arrange_26 rfl (lv_at hl 0 rfl) ?_
        refine va_get (D := (dC, dI)) (ci := 7) (v := .ref ((a 277))) (C := rn_Order) (T := fn_Order) (N := 10) hx hb hg in_Order hown hK hP 6 rfl rfl 1 (by decide) (hg _ wn_2_53) (fun _ h9 => h9) rfl dn_Order_arrange_27 ?_
        refine lv_iload_n hx hb dn_Order_arrange_30 rfl (lv_at hl 1 rfl) ?_
        refine lv_iconst (v := 0) hx hb dn_Order_arrange_31 (by decide) ?_
        obtain ⟨hg_1, hf⟩ := dc_g hf
        refine va_iast hx hb hK hP hD hS 34 0 rfl rfl hg_1 dn_Order_arrange_32 (fun H locs hP hD hS => ?_)
        have hP : va_P (dC, dI) xcl ((wC a ((va_up v 7 (.ref (a 108)))) cI cB cJ cZ cQ s).set 34 ((a 277), .inl (cI, 1024, .inl (upd (s.1 277) (Int32.toNatClampNeg x2) 0)))) H := hP
        have hD : va_D A ((wC a ((va_up v 7 (.ref (a 108)))) cI cB cJ cZ cQ s).set 34 ((a 277), .inl (cI, 1024, .inl (upd (s.1 277) (Int32.toNatClampNeg x2) 0)))) := hD
        have hP := wC_P_277 hP
        have hD := wC_D_277 hD
        refine lv_iinc (v := (x2 + 1)) (lv' := [(2, .int ((x2 + 1))), (0, .ref ((a 106)))]) hx hb dn_Order_arrange_33 hl (k := 1) rfl (dc_inc (by decide)) (by decide) rfl (fun ls hl => ?_)
        refine lv_goto (tgt := 15) hx hb dn_Order_arrange_36 (by decide) ?_
        exact hk_15 ((x2 + 1)) (upI s 277 (upd (s.1 277) (Int32.toNatClampNeg x2) 0)) hf H locs ls hP hD hS (lv_sub hl [1, 0] rfl)
  intro H locs ls hP hD hS hl
  unfold fn_Order_arrange_Or_Cs at hf
  refine lv_aload_n hx hb dn_Order_arrange_0 rfl (lv_at hl 0 rfl) ?_
  refine lv_aload_n hx hb dn_Order_arrange_1 rfl (lv_at hl 1 rfl) ?_
  refine va_put (D := (dC, dI)) (ci := 7) (v := .ref (a 108)) (ty := (.object "CircuitCycles$Circuit")) (C := rn_Order) (T := fn_Order) (N := 10) hx hb hg in_Order tn_Order tk_Order nn_Order hown hK hP hD hS 6 rfl rfl 0 (by decide) (hg _ wn_2_52) (fun _ h9 => h9) rfl (tk_Order 0 (by decide)) rfl rfl (Nat.le_of_ble_eq_true rfl) dn_Order_arrange_2 (fun H locs hP hD hS => ?_)
  have hP := wC_Pv_7 hP
  have hD := wC_Dv_7 hD
  refine lv_aload_n hx hb dn_Order_arrange_5 rfl (lv_at hl 0 rfl) ?_
  refine va_get (D := (dC, dI)) (ci := 7) (v := .ref ((a 108))) (C := rn_Order) (T := fn_Order) (N := 10) hx hb hg in_Order hown hK hP 6 rfl rfl 0 (by decide) (hg _ wn_2_52) (fun _ h9 => h9) (congrArg some (show ((va_up v 7 (.ref (a 108)))) 7 = .ref (a 108) from rfl)) dn_Order_arrange_6 ?_
  refine lv_iconst (v := 0) hx hb dn_Order_arrange_9 (by decide) ?_
  refine va_put (D := (dC, dI)) (ci := 9) (v := .int 0) (ty := .int) (C := rn_Circuit) (T := fn_Circuit) (N := 14) hx hb hg in_Circuit tn_Circuit tk_Circuit nn_Circuit hown hK hP hD hS 8 rfl rfl 13 (by decide) (hg _ wn_3_94) (fun _ h9 => h9) rfl (tk_Circuit 13 (by decide)) rfl rfl (Nat.le_of_ble_eq_true rfl) dn_Order_arrange_10 (fun H locs hP hD hS => ?_)
  have hP := wC_P_304 hP
  have hD := wC_D_304 hD
  refine lv_iconst (v := 0) hx hb dn_Order_arrange_13 (by decide) ?_
  refine lv_istore_n (lv' := [(2, .int 0), (0, .ref ((a 106))), (1, .ref ((a 108)))]) hx hb dn_Order_arrange_14 rfl hl (by decide) rfl (fun ls hl => ?_)
  exact hd_15 N 0 (upI s 304 (fun _ => 0)) hf H locs ls hP hD hS (lv_sub hl [1, 0] rfl)
