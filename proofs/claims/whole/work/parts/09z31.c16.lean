set_option maxHeartbeats 8000000 in
set_option maxRecDepth 100000 in
theorem ct_Order_visit_Or (l : Launch) (dC : Nat → ClassId) (dI : Nat → Nat → Nat) (cI cB cJ cZ cQ : ClassId) (N sz : Nat) (a : Nat → Nat) (v : Nat → Value) (hv_7 : v 7 = .ref (a 108)) (v1 : Int32) (s : ms) (y : (Unit × ms)) (hf : fn_Order_visit_Or N v1 s = some y) : Met l yn_Order_visit (xw yn_Order_visit bn_Order_visit 5 none) ({ frames := 2, cells := 0, slots := 0, locals := 65 }) (dc_P (dC, dI) xcl (xt cI cB cJ cZ cQ) [.ref ((a 106)), .int v1] sz (wC a v cI cB cJ cZ cQ s)) (xk_Qv (dC, dI) xcl (xt cI cB cJ cZ cQ) (fun _ : Unit => True) (fun u : Unit => (wC a v cI cB cJ cZ cQ y.2)) (va_A (wC a v cI cB cJ cZ cQ s) sz)) 0 0 (va_A (wC a v cI cB cJ cZ cQ s) sz) := by
  refine dc_of (QA := xk_Qv (dC, dI) xcl (xt cI cB cJ cZ cQ) (fun _ : Unit => True) (fun u : Unit => (wC a v cI cB cJ cZ cQ y.2))) (by decide) (Nat.le_of_ble_eq_true rfl) ?_
  intro p e s0 m below meth c hx hb hml hown hg hr hlocks hin hP hK hN A hA hD hT ls hl
  have hown : s0.vm.findClass rn_Order = some m.cls := hown
  obtain ⟨H, hH⟩ : ∃ z, z = s0.heap := ⟨_, rfl⟩
  rw [← hH] at hP
  have hS : va_S A s0.heap H [] := by rw [hH]; exact va_S.rf
  suffices kk : ∀ QQ : State → Prop, QQ = MQ below (xk_Qv (dC, dI) xcl (xt cI cB cJ cZ cQ) (fun _ : Unit => True) (fun u : Unit => (wC a v cI cB cJ cZ cQ y.2)) A) [.ref ((a 106)), .int v1].toArray s0 0 0 A → dcC p l e ({ frames := 2, cells := 0, slots := 0, locals := 65 }) s0 m [.ref ((a 106)), .int v1].toArray below meth c QQ (dC, dI) A (wC a v cI cB cJ cZ cQ s) 0 5 [(0, .ref ((a 106))), (1, .int v1)] [] by
    have k9 := kk _ rfl H [] ls hP hD hS hl
    rw [hH] at k9; exact k9
  clear hP hD hS hl hH H ls
  intro QQ hQQ
  have hd_7 : ∀ (n : Nat) (x2 : Int32) (s : ms), hd_Order_visit_Or_7 N n x2 s = some y → dcC p l e ({ frames := 2, cells := 0, slots := 0, locals := 65 }) s0 m [.ref ((a 106)), .int v1].toArray below meth c QQ (dC, dI) A (wC a v cI cB cJ cZ cQ s) 7 5 [(0, .ref ((a 106))), (2, .int x2)] [] := by
    intro n
    induction n with
    | zero => intro x2 s hf; cases hf
    | succ n ih =>
      intro x2 s hf H locs ls hP hD hS hl
      have hf : bd_Order_visit_Or_7 N (hd_Order_visit_Or_7 N n) x2 s = some y := hf
      have hk_7 := ih
      generalize hd_Order_visit_Or_7 N n = k_7 at hf hk_7
      unfold bd_Order_visit_Or_7 at hf
      refine lv_iload_n hx hb dn_Order_visit_7 rfl (lv_at hl 1 rfl) ?_
      refine lv_ldc hx hb hown (hg _ wn_6_224) dn_Order_visit_8 ?_
      refine lv_icmp_ge (tgt := 118) hx hb dn_Order_visit_10 (by decide) (fun h => ?_) (fun h => ?_)
      · have hf := (if_pos h).symm.trans hf
        rw [hQQ, ← Option.some.inj hf]
        exact xk_vret (w1 := fun u : Unit => (wC a v cI cB cJ cZ cQ s)) () hx hb hr hlocks hK hS dn_Order_visit_118 hP hD trivial (Nat.le_refl _) (Nat.le_refl _)
      · have hf := (if_neg h).symm.trans hf
        refine lv_aload_n hx hb dn_Order_visit_13 rfl (lv_at hl 0 rfl) ?_
        refine va_get (D := (dC, dI)) (ci := 7) (v := .int ((s.1 282 0))) (C := rn_Order) (T := fn_Order) (N := 10) hx hb hg in_Order hown hK hP 6 rfl rfl 6 (by decide) (hg _ wn_2_58) (fun _ h9 => h9) rfl dn_Order_visit_14 ?_
        refine lv_if_le (tgt := 118) hx hb dn_Order_visit_17 (by decide) (fun h => ?_) (fun h => ?_)
        · have hf := (if_pos h).symm.trans hf
          rw [hQQ, ← Option.some.inj hf]
          exact xk_vret (w1 := fun u : Unit => (wC a v cI cB cJ cZ cQ s)) () hx hb hr hlocks hK hS dn_Order_visit_118 hP hD trivial (Nat.le_refl _) (Nat.le_refl _)
        · have hf := (if_neg h).symm.trans hf
          refine lv_aload_n hx hb dn_Order_visit_20 rfl (lv_at hl 0 rfl) ?_
          refine va_get (D := (dC, dI)) (ci := 7) (v := .ref ((a 280))) (C := rn_Order) (T := fn_Order) (N := 10) hx hb hg in_Order hown hK hP 6 rfl rfl 4 (by decide) (hg _ wn_2_56) (fun _ h9 => h9) rfl dn_Order_visit_21 ?_
          refine lv_aload_n hx hb dn_Order_visit_24 rfl (lv_at hl 0 rfl) ?_
          refine va_get (D := (dC, dI)) (ci := 7) (v := .int ((s.1 282 0))) (C := rn_Order) (T := fn_Order) (N := 10) hx hb hg in_Order hown hK hP 6 rfl rfl 6 (by decide) (hg _ wn_2_58) (fun _ h9 => h9) rfl dn_Order_visit_25 ?_
          refine lv_iconst (v := 1) hx hb dn_Order_visit_28 (by decide) ?_
          refine lv_isub hx hb dn_Order_visit_29 ?_
          obtain ⟨hg_1, hf⟩ := dc_g hf
          refine va_iald hx hb hK hP 37 0 rfl rfl hg_1 dn_Order_visit_30 ?_
          refine xk_ti (y := ((s.1 280) (Int32.toNatClampNeg (((s.1 282 0) - 1))))) rfl ?_
          refine lv_istore_n (lv' := [(3, .int (((s.1 280) (Int32.toNatClampNeg (((s.1 282 0) - 1)))))), (0, .ref ((a 106))), (2, .int x2)]) hx hb dn_Order_visit_31 rfl hl (by decide) rfl (fun ls hl => ?_)
          refine lv_aload_n hx hb dn_Order_visit_32 rfl (lv_at hl 1 rfl) ?_
          refine lv_iload_n hx hb dn_Order_visit_33 rfl (lv_at hl 0 rfl) ?_
          obtain ⟨q_2, hc_3, hf⟩ := dc_b hf
          refine dc_calli (dc_runV (ar := 1) (As := [.int (((s.1 280) (Int32.toNatClampNeg (((s.1 282 0) - 1)))))]) (rest := []) (ci := 7) (q0 := 6) ⟨hx, hb, hml, hown, hg⟩ hK hN hT hS hA (ct_Order_nextNeeded_Or l dC dI cI cB cJ cZ cQ N H.size a v hv_7 (((s.1 280) (Int32.toNatClampNeg (((s.1 282 0) - 1))))) s q_2 hc_3) hP hD rfl rfl wn_6_225 wn_6_227 sn_Order_nextNeeded wn_1_7 wn_6_228 rfl rfl (by decide +kernel) ⟨Nat.le_of_ble_eq_true rfl, Nat.le_of_ble_eq_true rfl⟩ rfl hl.1 rfl (Nat.le_of_ble_eq_true rfl) dn_Order_visit_34 ⟨Nat.le_of_ble_eq_true rfl, Nat.le_of_ble_eq_true rfl⟩) hP hD hS hA (fun r_4 _ H locs hw hP hD hS => ?_)
          have hw : r_4 = q_2.1 := hw
          subst hw
          refine lv_istore (lv' := [(4, .int q_2.1), (3, .int (((s.1 280) (Int32.toNatClampNeg (((s.1 282 0) - 1)))))), (0, .ref ((a 106))), (2, .int x2)]) hx hb dn_Order_visit_37 hl (by decide) rfl (fun ls hl => ?_)
          refine lv_iload hx hb dn_Order_visit_39 (lv_at hl 0 rfl) ?_
          refine lv_iconst (v := (-1)) hx hb dn_Order_visit_41 (by decide) ?_
          refine lv_icmp_ne (tgt := 53) hx hb dn_Order_visit_42 (by decide) (fun h => ?_) (fun h => ?_)
          · have hf := (if_neg h).symm.trans hf
            refine lv_aload_n hx hb dn_Order_visit_53 rfl (lv_at hl 2 rfl) ?_
            refine va_get (D := (dC, dI)) (ci := 7) (v := .ref ((a 277))) (C := rn_Order) (T := fn_Order) (N := 10) hx hb hg in_Order hown hK hP 6 rfl rfl 1 (by decide) (hg _ wn_2_53) (fun _ h9 => h9) rfl dn_Order_visit_54 ?_
            refine lv_iload hx hb dn_Order_visit_57 (lv_at hl 0 rfl) ?_
            obtain ⟨hg_5, hf⟩ := dc_g hf
            refine va_iald hx hb hK hP 34 0 rfl rfl hg_5 dn_Order_visit_59 ?_
            refine xk_ti (y := ((q_2.2.1 277) (Int32.toNatClampNeg q_2.1))) rfl ?_
            refine lv_if_ne (tgt := 72) hx hb dn_Order_visit_60 (by decide) (fun h => ?_) (fun h => ?_)
            · have hf := (if_neg h).symm.trans hf
              refine lv_aload_n hx hb dn_Order_visit_72 rfl (lv_at hl 2 rfl) ?_
              refine va_get (D := (dC, dI)) (ci := 7) (v := .ref ((a 278))) (C := rn_Order) (T := fn_Order) (N := 10) hx hb hg in_Order hown hK hP 6 rfl rfl 2 (by decide) (hg _ wn_2_54) (fun _ h9 => h9) rfl dn_Order_visit_73 ?_
              refine lv_iload_n hx hb dn_Order_visit_76 rfl (lv_at hl 1 rfl) ?_
              refine lv_aload_n hx hb dn_Order_visit_77 rfl (lv_at hl 2 rfl) ?_
              refine va_get (D := (dC, dI)) (ci := 7) (v := .ref ((a 278))) (C := rn_Order) (T := fn_Order) (N := 10) hx hb hg in_Order hown hK hP 6 rfl rfl 2 (by decide) (hg _ wn_2_54) (fun _ h9 => h9) rfl dn_Order_visit_78 ?_
              refine lv_iload_n hx hb dn_Order_visit_81 rfl (lv_at hl 1 rfl) ?_
              obtain ⟨hg_6, hf⟩ := dc_g hf
              refine va_iald hx hb hK hP 35 0 rfl rfl hg_6 dn_Order_visit_82 ?_
              refine xk_ti (y := ((q_2.2.1 278) (Int32.toNatClampNeg (((s.1 280) (Int32.toNatClampNeg (((s.1 282 0) - 1)))))))) rfl ?_
              refine lv_aload_n hx hb dn_Order_visit_83 rfl (lv_at hl 2 rfl) ?_
              refine va_get (D := (dC, dI)) (ci := 7) (v := .ref ((a 277))) (C := rn_Order) (T := fn_Order) (N := 10) hx hb hg in_Order hown hK hP 6 rfl rfl 1 (by decide) (hg _ wn_2_53) (fun _ h9 => h9) rfl dn_Order_visit_84 ?_
              refine lv_iload hx hb dn_Order_visit_87 (lv_at hl 0 rfl) ?_
              obtain ⟨hg_7, hf⟩ := dc_g hf
              refine va_iald hx hb hK hP 34 0 rfl rfl hg_7 dn_Order_visit_89 ?_
              refine xk_ti (y := ((q_2.2.1 277) (Int32.toNatClampNeg q_2.1))) rfl ?_
              refine va_mmin (x := ((q_2.2.1 278) (Int32.toNatClampNeg (((s.1 280) (Int32.toNatClampNeg (((s.1 282 0) - 1)))))))) (y := ((q_2.2.1 277) (Int32.toNatClampNeg q_2.1))) (rest := [.int (((s.1 280) (Int32.toNatClampNeg (((s.1 282 0) - 1))))), .ref ((a 278))]) hx hb (by rw [hml]; exact hl.1.symm) hown (hg _ wn_6_229) (hg _ wn_3_168) (hg _ wn_1_19) (hg _ wn_3_169) (Nat.le_of_ble_eq_true rfl) (Nat.le_of_ble_eq_true rfl) (Nat.zero_le _) (Nat.zero_le _) dn_Order_visit_90 ?_
              obtain ⟨hg_8, hf⟩ := dc_g hf
              refine va_iast hx hb hK hP hD hS 35 0 rfl rfl hg_8 dn_Order_visit_93 (fun H locs hP hD hS => ?_)
              have hP : va_P (dC, dI) xcl ((wC a v cI cB cJ cZ cQ q_2.2).set 35 ((a 278), .inl (cI, 1024, .inl (upd (q_2.2.1 278) (Int32.toNatClampNeg (((s.1 280) (Int32.toNatClampNeg (((s.1 282 0) - 1)))))) ((if ((q_2.2.1 277) (Int32.toNatClampNeg q_2.1)) < ((q_2.2.1 278) (Int32.toNatClampNeg (((s.1 280) (Int32.toNatClampNeg (((s.1 282 0) - 1))))))) then ((q_2.2.1 277) (Int32.toNatClampNeg q_2.1)) else ((q_2.2.1 278) (Int32.toNatClampNeg (((s.1 280) (Int32.toNatClampNeg (((s.1 282 0) - 1))))))))))))) H := hP
              have hD : va_D A ((wC a v cI cB cJ cZ cQ q_2.2).set 35 ((a 278), .inl (cI, 1024, .inl (upd (q_2.2.1 278) (Int32.toNatClampNeg (((s.1 280) (Int32.toNatClampNeg (((s.1 282 0) - 1)))))) ((if ((q_2.2.1 277) (Int32.toNatClampNeg q_2.1)) < ((q_2.2.1 278) (Int32.toNatClampNeg (((s.1 280) (Int32.toNatClampNeg (((s.1 282 0) - 1))))))) then ((q_2.2.1 277) (Int32.toNatClampNeg q_2.1)) else ((q_2.2.1 278) (Int32.toNatClampNeg (((s.1 280) (Int32.toNatClampNeg (((s.1 282 0) - 1))))))))))))) := hD
              have hP := wC_P_278 hP
              have hD := wC_D_278 hD
              refine lv_iload hx hb dn_Order_visit_94 (lv_at hl 0 rfl) ?_
              refine lv_iload_n hx hb dn_Order_visit_96 rfl (lv_at hl 1 rfl) ?_
              refine lv_icmp_ne (tgt := 112) hx hb dn_Order_visit_97 (by decide) (fun h => ?_) (fun h => ?_)
              · have hf := (if_neg h).symm.trans hf
                refine lv_iinc (v := (x2 + 1)) (lv' := [(2, .int ((x2 + 1))), (4, .int q_2.1), (3, .int (((s.1 280) (Int32.toNatClampNeg (((s.1 282 0) - 1)))))), (0, .ref ((a 106)))]) hx hb dn_Order_visit_112 hl (k := 3) rfl (dc_inc (by decide)) (by decide) rfl (fun ls hl => ?_)
                refine lv_goto (tgt := 7) hx hb dn_Order_visit_115 (by decide) ?_
                exact hk_7 ((x2 + 1)) (upI q_2.2 278 (upd (q_2.2.1 278) (Int32.toNatClampNeg (((s.1 280) (Int32.toNatClampNeg (((s.1 282 0) - 1)))))) ((if ((q_2.2.1 277) (Int32.toNatClampNeg q_2.1)) < ((q_2.2.1 278) (Int32.toNatClampNeg (((s.1 280) (Int32.toNatClampNeg (((s.1 282 0) - 1))))))) then ((q_2.2.1 277) (Int32.toNatClampNeg q_2.1)) else ((q_2.2.1 278) (Int32.toNatClampNeg (((s.1 280) (Int32.toNatClampNeg (((s.1 282 0) - 1))))))))))) hf H locs ls hP hD hS (lv_sub hl [3, 0] rfl)
              · have hf := (if_pos h).symm.trans hf
                refine lv_aload_n hx hb dn_Order_visit_100 rfl (lv_at hl 2 rfl) ?_
                refine lv_aload_n hx hb dn_Order_visit_101 rfl (lv_at hl 2 rfl) ?_
                refine va_get (D := (dC, dI)) (ci := 7) (v := .int ((q_2.2.1 285 0))) (C := rn_Order) (T := fn_Order) (N := 10) hx hb hg in_Order hown hK hP 6 rfl rfl 9 (by decide) (hg _ wn_2_61) (fun _ h9 => h9) rfl dn_Order_visit_102 ?_
                refine lv_iload_n hx hb dn_Order_visit_105 rfl (lv_at hl 1 rfl) ?_
                refine va_mmin (x := (q_2.2.1 285 0)) (y := ((s.1 280) (Int32.toNatClampNeg (((s.1 282 0) - 1))))) (rest := [.ref ((a 106))]) hx hb (by rw [hml]; exact hl.1.symm) hown (hg _ wn_6_229) (hg _ wn_3_168) (hg _ wn_1_19) (hg _ wn_3_169) (Nat.le_of_ble_eq_true rfl) (Nat.le_of_ble_eq_true rfl) (Nat.zero_le _) (Nat.zero_le _) dn_Order_visit_106 ?_
                refine va_put (D := (dC, dI)) (ci := 7) (v := .int ((if ((s.1 280) (Int32.toNatClampNeg (((s.1 282 0) - 1)))) < (q_2.2.1 285 0) then ((s.1 280) (Int32.toNatClampNeg (((s.1 282 0) - 1)))) else (q_2.2.1 285 0)))) (ty := .int) (C := rn_Order) (T := fn_Order) (N := 10) hx hb hg in_Order tn_Order tk_Order nn_Order hown hK hP hD hS 6 rfl rfl 9 (by decide) (hg _ wn_2_61) (fun _ h9 => h9) rfl (tk_Order 9 (by decide)) rfl rfl (Nat.le_of_ble_eq_true rfl) dn_Order_visit_109 (fun H locs hP hD hS => ?_)
                have hP := wC_P_285 hP
                have hD := wC_D_285 hD
                refine lv_iinc (v := (x2 + 1)) (lv' := [(2, .int ((x2 + 1))), (4, .int q_2.1), (3, .int (((s.1 280) (Int32.toNatClampNeg (((s.1 282 0) - 1)))))), (0, .ref ((a 106)))]) hx hb dn_Order_visit_112 hl (k := 3) rfl (dc_inc (by decide)) (by decide) rfl (fun ls hl => ?_)
                refine lv_goto (tgt := 7) hx hb dn_Order_visit_115 (by decide) ?_
                exact hk_7 ((x2 + 1)) (upI (upI q_2.2 278 (upd (q_2.2.1 278) (Int32.toNatClampNeg (((s.1 280) (Int32.toNatClampNeg (((s.1 282 0) - 1)))))) ((if ((q_2.2.1 277) (Int32.toNatClampNeg q_2.1)) < ((q_2.2.1 278) (Int32.toNatClampNeg (((s.1 280) (Int32.toNatClampNeg (((s.1 282 0) - 1))))))) then ((q_2.2.1 277) (Int32.toNatClampNeg q_2.1)) else ((q_2.2.1 278) (Int32.toNatClampNeg (((s.1 280) (Int32.toNatClampNeg (((s.1 282 0) - 1))))))))))) 285 (fun _ => (if ((s.1 280) (Int32.toNatClampNeg (((s.1 282 0) - 1)))) < (q_2.2.1 285 0) then ((s.1 280) (Int32.toNatClampNeg (((s.1 282 0) - 1)))) else (q_2.2.1 285 0)))) hf H locs ls hP hD hS (lv_sub hl [3, 0] rfl)
            · have hf := (if_pos h).symm.trans hf
              refine lv_aload_n hx hb dn_Order_visit_63 rfl (lv_at hl 2 rfl) ?_
              refine lv_iload hx hb dn_Order_visit_64 (lv_at hl 0 rfl) ?_
              obtain ⟨q_6, hc_7, hf⟩ := dc_b hf
              refine dc_callv (dc_runV (ar := 1) (As := [.int q_2.1]) (rest := []) (ci := 7) (q0 := 6) ⟨hx, hb, hml, hown, hg⟩ hK hN hT hS hA (ct_Order_enter_Or l dC dI cI cB cJ cZ cQ N H.size a v hv_7 q_2.1 q_2.2 q_6 hc_7) hP hD rfl rfl wn_6_220 wn_6_222 sn_Order_enter wn_1_7 wn_6_223 rfl rfl (by decide +kernel) ⟨Nat.le_of_ble_eq_true rfl, Nat.le_of_ble_eq_true rfl⟩ rfl hl.1 rfl (Nat.le_of_ble_eq_true rfl) dn_Order_visit_66 ⟨Nat.le_of_ble_eq_true rfl, Nat.le_of_ble_eq_true rfl⟩) hP hD hS hA (fun _ H locs hw hP hD hS => ?_)
              refine lv_goto (tgt := 112) hx hb dn_Order_visit_69 (by decide) ?_
              refine lv_iinc (v := (x2 + 1)) (lv' := [(2, .int ((x2 + 1))), (4, .int q_2.1), (3, .int (((s.1 280) (Int32.toNatClampNeg (((s.1 282 0) - 1)))))), (0, .ref ((a 106)))]) hx hb dn_Order_visit_112 hl (k := 3) rfl (dc_inc (by decide)) (by decide) rfl (fun ls hl => ?_)
              refine lv_goto (tgt := 7) hx hb dn_Order_visit_115 (by decide) ?_
              exact hk_7 ((x2 + 1)) q_6.2 hf H locs ls hP hD hS (lv_sub hl [3, 0] rfl)
          · have hf := (if_pos h).symm.trans hf
            refine lv_aload_n hx hb dn_Order_visit_45 rfl (lv_at hl 2 rfl) ?_
            refine lv_iload_n hx hb dn_Order_visit_46 rfl (lv_at hl 1 rfl) ?_
            obtain ⟨q_5, hc_6, hf⟩ := dc_b hf
            refine dc_callv (dc_runV (ar := 1) (As := [.int (((s.1 280) (Int32.toNatClampNeg (((s.1 282 0) - 1)))))]) (rest := []) (ci := 7) (q0 := 6) ⟨hx, hb, hml, hown, hg⟩ hK hN hT hS hA (ct_Order_leave_Or l dC dI cI cB cJ cZ cQ N H.size a v hv_7 (((s.1 280) (Int32.toNatClampNeg (((s.1 282 0) - 1))))) q_2.2 q_5 hc_6) hP hD rfl rfl wn_6_236 wn_6_238 sn_Order_leave wn_1_7 wn_6_239 rfl rfl (by decide +kernel) ⟨Nat.le_of_ble_eq_true rfl, Nat.le_of_ble_eq_true rfl⟩ rfl hl.1 rfl (Nat.le_of_ble_eq_true rfl) dn_Order_visit_47 ⟨Nat.le_of_ble_eq_true rfl, Nat.le_of_ble_eq_true rfl⟩) hP hD hS hA (fun _ H locs hw hP hD hS => ?_)
            refine lv_goto (tgt := 112) hx hb dn_Order_visit_50 (by decide) ?_
            refine lv_iinc (v := (x2 + 1)) (lv' := [(2, .int ((x2 + 1))), (4, .int q_2.1), (3, .int (((s.1 280) (Int32.toNatClampNeg (((s.1 282 0) - 1)))))), (0, .ref ((a 106)))]) hx hb dn_Order_visit_112 hl (k := 3) rfl (dc_inc (by decide)) (by decide) rfl (fun ls hl => ?_)
            refine lv_goto (tgt := 7) hx hb dn_Order_visit_115 (by decide) ?_
            exact hk_7 ((x2 + 1)) q_5.2 hf H locs ls hP hD hS (lv_sub hl [3, 0] rfl)
  intro H locs ls hP hD hS hl
  unfold fn_Order_visit_Or at hf
  refine lv_aload_n hx hb dn_Order_visit_0 rfl (lv_at hl 0 rfl) ?_
  refine lv_iload_n hx hb dn_Order_visit_1 rfl (lv_at hl 1 rfl) ?_
  obtain ⟨q_1, hc_2, hf⟩ := dc_b hf
  refine dc_callv (dc_runV (ar := 1) (As := [.int v1]) (rest := []) (ci := 7) (q0 := 6) ⟨hx, hb, hml, hown, hg⟩ hK hN hT hS hA (ct_Order_enter_Or l dC dI cI cB cJ cZ cQ N H.size a v hv_7 v1 s q_1 hc_2) hP hD rfl rfl wn_6_220 wn_6_222 sn_Order_enter wn_1_7 wn_6_223 rfl rfl (by decide +kernel) ⟨Nat.le_of_ble_eq_true rfl, Nat.le_of_ble_eq_true rfl⟩ rfl hl.1 rfl (Nat.le_of_ble_eq_true rfl) dn_Order_visit_2 ⟨Nat.le_of_ble_eq_true rfl, Nat.le_of_ble_eq_true rfl⟩) hP hD hS hA (fun _ H locs hw hP hD hS => ?_)
  refine lv_iconst (v := 0) hx hb dn_Order_visit_5 (by decide) ?_
  refine lv_istore_n (lv' := [(2, .int 0), (0, .ref ((a 106))), (1, .int v1)]) hx hb dn_Order_visit_6 rfl hl (by decide) rfl (fun ls hl => ?_)
  exact hd_7 N 0 q_1.2 hf H locs ls hP hD hS (lv_sub hl [1, 0] rfl)
set_option maxHeartbeats 8000000 in
set_option maxRecDepth 100000 in
theorem ct_Code_opAt_Kc (l : Launch) (dC : Nat → ClassId) (dI : Nat → Nat → Nat) (cI cB cJ cZ cQ : ClassId) (N sz : Nat) (a : Nat → Nat) (v : Nat → Value) (v1 : Int32) (s : ms) (y : (Int32 × ms)) (hf : fn_Code_opAt_Kc N v1 s = some y) : Met l yn_Code_opAt (xw yn_Code_opAt bn_Code_opAt 2 (some .int)) ({ frames := 0, cells := 0, slots := 0, locals := 0 }) (dc_P (dC, dI) xcl (xt cI cB cJ cZ cQ) [.ref ((a 115)), .int v1] sz (wC a v cI cB cJ cZ cQ s)) (xk_Qi (dC, dI) xcl (xt cI cB cJ cZ cQ) (fun (r : Int32) (_ : Unit) => r = y.1) (fun u : Unit => (wC a v cI cB cJ cZ cQ y.2)) (va_A (wC a v cI cB cJ cZ cQ s) sz)) 0 0 (va_A (wC a v cI cB cJ cZ cQ s) sz) := by
  refine dc_of (QA := xk_Qi (dC, dI) xcl (xt cI cB cJ cZ cQ) (fun (r : Int32) (_ : Unit) => r = y.1) (fun u : Unit => (wC a v cI cB cJ cZ cQ y.2))) (by decide) (Nat.le_of_ble_eq_true rfl) ?_
  intro p e s0 m below meth c hx hb hml hown hg hr hlocks hin hP hK hN A hA hD hT ls hl
  have hown : s0.vm.findClass rn_Code = some m.cls := hown
  obtain ⟨H, hH⟩ : ∃ z, z = s0.heap := ⟨_, rfl⟩
  rw [← hH] at hP
  have hS : va_S A s0.heap H [] := by rw [hH]; exact va_S.rf
  suffices kk : ∀ QQ : State → Prop, QQ = MQ below (xk_Qi (dC, dI) xcl (xt cI cB cJ cZ cQ) (fun (r : Int32) (_ : Unit) => r = y.1) (fun u : Unit => (wC a v cI cB cJ cZ cQ y.2)) A) [.ref ((a 115)), .int v1].toArray s0 0 0 A → dcC p l e ({ frames := 0, cells := 0, slots := 0, locals := 0 }) s0 m [.ref ((a 115)), .int v1].toArray below meth c QQ (dC, dI) A (wC a v cI cB cJ cZ cQ s) 0 2 [(0, .ref ((a 115))), (1, .int v1)] [] by
    have k9 := kk _ rfl H [] ls hP hD hS hl
    rw [hH] at k9; exact k9
  clear hP hD hS hl hH H ls
  intro QQ hQQ
  intro H locs ls hP hD hS hl
  unfold fn_Code_opAt_Kc at hf
  refine lv_iload_n hx hb dn_Code_opAt_0 rfl (lv_at hl 1 rfl) ?_
  refine lv_if_lt (tgt := 25) hx hb dn_Code_opAt_1 (by decide) (fun h => ?_) (fun h => ?_)
  · have hf := (if_pos h).symm.trans hf
    refine lv_iconst (v := (-1)) hx hb dn_Code_opAt_25 (by decide) ?_
    rw [hQQ, ← Option.some.inj hf]
    exact xk_iret (w1 := fun u : Unit => (wC a v cI cB cJ cZ cQ s)) () hx hb hr hlocks hK hS dn_Code_opAt_26 hP hD rfl (Nat.le_refl _) (Nat.le_refl _)
  · have hf := (if_neg h).symm.trans hf
    refine lv_iload_n hx hb dn_Code_opAt_4 rfl (lv_at hl 1 rfl) ?_
    refine lv_aload_n hx hb dn_Code_opAt_5 rfl (lv_at hl 0 rfl) ?_
    refine va_get (D := (dC, dI)) (ci := 12) (v := .int ((s.1 387 0))) (C := rn_Code) (T := fn_Code) (N := 5) hx hb hg in_Code hown hK hP 15 rfl rfl 1 (by decide) (hg _ wn_2_211) (fun _ h9 => h9) rfl dn_Code_opAt_6 ?_
    refine lv_icmp_ge (tgt := 25) hx hb dn_Code_opAt_9 (by decide) (fun h => ?_) (fun h => ?_)
    · have hf := (if_pos h).symm.trans hf
      refine lv_iconst (v := (-1)) hx hb dn_Code_opAt_25 (by decide) ?_
      rw [hQQ, ← Option.some.inj hf]
      exact xk_iret (w1 := fun u : Unit => (wC a v cI cB cJ cZ cQ s)) () hx hb hr hlocks hK hS dn_Code_opAt_26 hP hD rfl (Nat.le_refl _) (Nat.le_refl _)
    · have hf := (if_neg h).symm.trans hf
      refine lv_aload_n hx hb dn_Code_opAt_12 rfl (lv_at hl 0 rfl) ?_
      refine va_get (D := (dC, dI)) (ci := 12) (v := .ref ((a 386))) (C := rn_Code) (T := fn_Code) (N := 5) hx hb hg in_Code hown hK hP 15 rfl rfl 0 (by decide) (hg _ wn_2_210) (fun _ h9 => h9) rfl dn_Code_opAt_13 ?_
      refine lv_iload_n hx hb dn_Code_opAt_16 rfl (lv_at hl 1 rfl) ?_
      obtain ⟨hg_1, hf⟩ := dc_g hf
      refine va_lald hx hb hK hP 107 2 rfl rfl hg_1 dn_Code_opAt_17 ?_
      refine xk_tl (y := ((s.2 386) (Int32.toNatClampNeg v1))) rfl ?_
      refine lv_bipush (v := 32) hx hb dn_Code_opAt_18 (by decide) ?_
      refine lv_lushr (v := (Int64.toUInt64 (((s.2 386) (Int32.toNatClampNeg v1))) >>> (Int64.toUInt64 (Int32.toInt64 32) &&& Int64.toUInt64 63)).toInt64) hx hb dn_Code_opAt_20 rfl ?_
      refine lv_l2i (v := Int64.toInt32 (((Int64.toUInt64 (((s.2 386) (Int32.toNatClampNeg v1))) >>> (Int64.toUInt64 (Int32.toInt64 32) &&& Int64.toUInt64 63)).toInt64))) hx hb dn_Code_opAt_21 rfl ?_
      refine lv_goto (tgt := 26) hx hb dn_Code_opAt_22 (by decide) ?_
      rw [hQQ, ← Option.some.inj hf]
      exact xk_iret (w1 := fun u : Unit => (wC a v cI cB cJ cZ cQ s)) () hx hb hr hlocks hK hS dn_Code_opAt_26 hP hD rfl (Nat.le_refl _) (Nat.le_refl _)
set_option maxHeartbeats 8000000 in
set_option maxRecDepth 100000 in
theorem ct_Circuit_placeOf_Cs (l : Launch) (dC : Nat → ClassId) (dI : Nat → Nat → Nat) (cI cB cJ cZ cQ : ClassId) (N sz : Nat) (a : Nat → Nat) (v : Nat → Value) (v1 : Int32) (s : ms) (y : (Int32 × ms)) (hf : fn_Circuit_placeOf_Cs N v1 s = some y) : Met l yn_Circuit_placeOf (xw yn_Circuit_placeOf bn_Circuit_placeOf 2 (some .int)) ({ frames := 1, cells := 0, slots := 0, locals := 21 }) (dc_P (dC, dI) xcl (xt cI cB cJ cZ cQ) [.ref ((a 108)), .int v1] sz (wC a v cI cB cJ cZ cQ s)) (xk_Qi (dC, dI) xcl (xt cI cB cJ cZ cQ) (fun (r : Int32) (_ : Unit) => r = y.1) (fun u : Unit => (wC a v cI cB cJ cZ cQ y.2)) (va_A (wC a v cI cB cJ cZ cQ s) sz)) 0 0 (va_A (wC a v cI cB cJ cZ cQ s) sz) := by
  refine dc_of (QA := xk_Qi (dC, dI) xcl (xt cI cB cJ cZ cQ) (fun (r : Int32) (_ : Unit) => r = y.1) (fun u : Unit => (wC a v cI cB cJ cZ cQ y.2))) (by decide) (Nat.le_of_ble_eq_true rfl) ?_
  intro p e s0 m below meth c hx hb hml hown hg hr hlocks hin hP hK hN A hA hD hT ls hl
  have hown : s0.vm.findClass rn_Circuit = some m.cls := hown
  obtain ⟨H, hH⟩ : ∃ z, z = s0.heap := ⟨_, rfl⟩
  rw [← hH] at hP
  have hS : va_S A s0.heap H [] := by rw [hH]; exact va_S.rf
  suffices kk : ∀ QQ : State → Prop, QQ = MQ below (xk_Qi (dC, dI) xcl (xt cI cB cJ cZ cQ) (fun (r : Int32) (_ : Unit) => r = y.1) (fun u : Unit => (wC a v cI cB cJ cZ cQ y.2)) A) [.ref ((a 108)), .int v1].toArray s0 0 0 A → dcC p l e ({ frames := 1, cells := 0, slots := 0, locals := 21 }) s0 m [.ref ((a 108)), .int v1].toArray below meth c QQ (dC, dI) A (wC a v cI cB cJ cZ cQ s) 0 2 [(0, .ref ((a 108))), (1, .int v1)] [] by
    have k9 := kk _ rfl H [] ls hP hD hS hl
    rw [hH] at k9; exact k9
  clear hP hD hS hl hH H ls
  intro QQ hQQ
  intro H locs ls hP hD hS hl
  unfold fn_Circuit_placeOf_Cs at hf
  refine lv_aload_n hx hb dn_Circuit_placeOf_0 rfl (lv_at hl 0 rfl) ?_
  refine lv_iload_n hx hb dn_Circuit_placeOf_1 rfl (lv_at hl 1 rfl) ?_
  obtain ⟨q_1, hc_2, hf⟩ := dc_b hf
  refine dc_calli (dc_runV (ar := 1) (As := [.int v1]) (rest := []) (ci := 9) (q0 := 8) ⟨hx, hb, hml, hown, hg⟩ hK hN hT hS hA (ct_Circuit_isSignal_Cs l dC dI cI cB cJ cZ cQ N H.size a v v1 s q_1 hc_2) hP hD rfl rfl wn_6_207 wn_6_209 sn_Circuit_isSignal wn_1_9 wn_6_210 rfl rfl (by decide +kernel) ⟨Nat.le_of_ble_eq_true rfl, Nat.le_of_ble_eq_true rfl⟩ rfl hl.1 rfl (Nat.le_of_ble_eq_true rfl) dn_Circuit_placeOf_2 ⟨Nat.le_of_ble_eq_true rfl, Nat.le_of_ble_eq_true rfl⟩) hP hD hS hA (fun r_3 _ H locs hw hP hD hS => ?_)
  have hw : r_3 = q_1.1 := hw
  subst hw
  refine lv_if_eq (tgt := 28) hx hb dn_Circuit_placeOf_5 (by decide) (fun h => ?_) (fun h => ?_)
  · have hf := (if_pos h).symm.trans hf
    refine lv_iconst (v := (-1)) hx hb dn_Circuit_placeOf_28 (by decide) ?_
    rw [hQQ, ← Option.some.inj hf]
    exact xk_iret (w1 := fun u : Unit => (wC a v cI cB cJ cZ cQ q_1.2)) () hx hb hr hlocks hK hS dn_Circuit_placeOf_29 hP hD rfl (Nat.le_refl _) (Nat.le_refl _)
  · have hf := (if_neg h).symm.trans hf
    refine lv_aload_n hx hb dn_Circuit_placeOf_8 rfl (lv_at hl 0 rfl) ?_
    refine va_get (D := (dC, dI)) (ci := 9) (v := .ref ((a 109))) (C := rn_Circuit) (T := fn_Circuit) (N := 14) hx hb hg in_Circuit hown hK hP 8 rfl rfl 0 (by decide) (hg _ wn_3_61) (fun _ h9 => h9) rfl dn_Circuit_placeOf_9 ?_
    refine va_get (D := (dC, dI)) (ci := 10) (v := .ref ((a 110))) (C := rn_Design) (T := fn_Design) (N := 16) hx hb hg in_Design hown hK hP 9 rfl rfl 0 (by decide) (hg _ wn_2_237) (fun _ h9 => h9) rfl dn_Circuit_placeOf_12 ?_
    refine va_get (D := (dC, dI)) (ci := 11) (v := .ref ((a 322))) (C := rn_Parts) (T := fn_Parts) (N := 15) hx hb hg in_Parts hown hK hP 10 rfl rfl 1 (by decide) (hg _ wn_2_128) (fun _ h9 => h9) rfl dn_Circuit_placeOf_15 ?_
    refine lv_aload_n hx hb dn_Circuit_placeOf_18 rfl (lv_at hl 0 rfl) ?_
    refine va_get (D := (dC, dI)) (ci := 9) (v := .ref ((a 298))) (C := rn_Circuit) (T := fn_Circuit) (N := 14) hx hb hg in_Circuit hown hK hP 8 rfl rfl 7 (by decide) (hg _ wn_3_78) (fun _ h9 => h9) rfl dn_Circuit_placeOf_19 ?_
    refine lv_iload_n hx hb dn_Circuit_placeOf_22 rfl (lv_at hl 1 rfl) ?_
    obtain ⟨hg_4, hf⟩ := dc_g hf
    refine va_iald hx hb hK hP 46 0 rfl rfl hg_4 dn_Circuit_placeOf_23 ?_
    refine xk_ti (y := ((q_1.2.1 298) (Int32.toNatClampNeg v1))) rfl ?_
    obtain ⟨hg_5, hf⟩ := dc_g hf
    refine va_iald hx hb hK hP 61 0 rfl rfl hg_5 dn_Circuit_placeOf_24 ?_
    refine xk_ti (y := ((q_1.2.1 322) (Int32.toNatClampNeg (((q_1.2.1 298) (Int32.toNatClampNeg v1)))))) rfl ?_
    refine lv_goto (tgt := 29) hx hb dn_Circuit_placeOf_25 (by decide) ?_
    rw [hQQ, ← Option.some.inj hf]
    exact xk_iret (w1 := fun u : Unit => (wC a v cI cB cJ cZ cQ q_1.2)) () hx hb hr hlocks hK hS dn_Circuit_placeOf_29 hP hD rfl (Nat.le_refl _) (Nat.le_refl _)
set_option maxHeartbeats 8000000 in
set_option maxRecDepth 100000 in
theorem ct_Circuit_placeOf_Cc (l : Launch) (dC : Nat → ClassId) (dI : Nat → Nat → Nat) (cI cB cJ cZ cQ : ClassId) (N sz : Nat) (a : Nat → Nat) (v : Nat → Value) (v1 : Int32) (s : ms) (y : (Int32 × ms)) (hf : fn_Circuit_placeOf_Cc N v1 s = some y) : Met l yn_Circuit_placeOf (xw yn_Circuit_placeOf bn_Circuit_placeOf 2 (some .int)) ({ frames := 1, cells := 0, slots := 0, locals := 21 }) (dc_P (dC, dI) xcl (xt cI cB cJ cZ cQ) [.ref ((a 112)), .int v1] sz (wC a v cI cB cJ cZ cQ s)) (xk_Qi (dC, dI) xcl (xt cI cB cJ cZ cQ) (fun (r : Int32) (_ : Unit) => r = y.1) (fun u : Unit => (wC a v cI cB cJ cZ cQ y.2)) (va_A (wC a v cI cB cJ cZ cQ s) sz)) 0 0 (va_A (wC a v cI cB cJ cZ cQ s) sz) := by
  refine dc_of (QA := xk_Qi (dC, dI) xcl (xt cI cB cJ cZ cQ) (fun (r : Int32) (_ : Unit) => r = y.1) (fun u : Unit => (wC a v cI cB cJ cZ cQ y.2))) (by decide) (Nat.le_of_ble_eq_true rfl) ?_
  intro p e s0 m below meth c hx hb hml hown hg hr hlocks hin hP hK hN A hA hD hT ls hl
  have hown : s0.vm.findClass rn_Circuit = some m.cls := hown
  obtain ⟨H, hH⟩ : ∃ z, z = s0.heap := ⟨_, rfl⟩
  rw [← hH] at hP
  have hS : va_S A s0.heap H [] := by rw [hH]; exact va_S.rf
  suffices kk : ∀ QQ : State → Prop, QQ = MQ below (xk_Qi (dC, dI) xcl (xt cI cB cJ cZ cQ) (fun (r : Int32) (_ : Unit) => r = y.1) (fun u : Unit => (wC a v cI cB cJ cZ cQ y.2)) A) [.ref ((a 112)), .int v1].toArray s0 0 0 A → dcC p l e ({ frames := 1, cells := 0, slots := 0, locals := 21 }) s0 m [.ref ((a 112)), .int v1].toArray below meth c QQ (dC, dI) A (wC a v cI cB cJ cZ cQ s) 0 2 [(0, .ref ((a 112))), (1, .int v1)] [] by
    have k9 := kk _ rfl H [] ls hP hD hS hl
    rw [hH] at k9; exact k9
  clear hP hD hS hl hH H ls
  intro QQ hQQ
  intro H locs ls hP hD hS hl
  unfold fn_Circuit_placeOf_Cc at hf
  refine lv_aload_n hx hb dn_Circuit_placeOf_0 rfl (lv_at hl 0 rfl) ?_
  refine lv_iload_n hx hb dn_Circuit_placeOf_1 rfl (lv_at hl 1 rfl) ?_
  obtain ⟨q_1, hc_2, hf⟩ := dc_b hf
  refine dc_calli (dc_runV (ar := 1) (As := [.int v1]) (rest := []) (ci := 9) (q0 := 12) ⟨hx, hb, hml, hown, hg⟩ hK hN hT hS hA (ct_Circuit_isSignal_Cc l dC dI cI cB cJ cZ cQ N H.size a v v1 s q_1 hc_2) hP hD rfl rfl wn_6_207 wn_6_209 sn_Circuit_isSignal wn_1_9 wn_6_210 rfl rfl (by decide +kernel) ⟨Nat.le_of_ble_eq_true rfl, Nat.le_of_ble_eq_true rfl⟩ rfl hl.1 rfl (Nat.le_of_ble_eq_true rfl) dn_Circuit_placeOf_2 ⟨Nat.le_of_ble_eq_true rfl, Nat.le_of_ble_eq_true rfl⟩) hP hD hS hA (fun r_3 _ H locs hw hP hD hS => ?_)
  have hw : r_3 = q_1.1 := hw
  subst hw
  refine lv_if_eq (tgt := 28) hx hb dn_Circuit_placeOf_5 (by decide) (fun h => ?_) (fun h => ?_)
  · have hf := (if_pos h).symm.trans hf
    refine lv_iconst (v := (-1)) hx hb dn_Circuit_placeOf_28 (by decide) ?_
    rw [hQQ, ← Option.some.inj hf]
    exact xk_iret (w1 := fun u : Unit => (wC a v cI cB cJ cZ cQ q_1.2)) () hx hb hr hlocks hK hS dn_Circuit_placeOf_29 hP hD rfl (Nat.le_refl _) (Nat.le_refl _)
  · have hf := (if_neg h).symm.trans hf
    refine lv_aload_n hx hb dn_Circuit_placeOf_8 rfl (lv_at hl 0 rfl) ?_
    refine va_get (D := (dC, dI)) (ci := 9) (v := .ref ((a 113))) (C := rn_Circuit) (T := fn_Circuit) (N := 14) hx hb hg in_Circuit hown hK hP 12 rfl rfl 0 (by decide) (hg _ wn_3_61) (fun _ h9 => h9) rfl dn_Circuit_placeOf_9 ?_
    refine va_get (D := (dC, dI)) (ci := 10) (v := .ref ((a 114))) (C := rn_Design) (T := fn_Design) (N := 16) hx hb hg in_Design hown hK hP 13 rfl rfl 0 (by decide) (hg _ wn_2_237) (fun _ h9 => h9) rfl dn_Circuit_placeOf_12 ?_
    refine va_get (D := (dC, dI)) (ci := 11) (v := .ref ((a 372))) (C := rn_Parts) (T := fn_Parts) (N := 15) hx hb hg in_Parts hown hK hP 14 rfl rfl 1 (by decide) (hg _ wn_2_128) (fun _ h9 => h9) rfl dn_Circuit_placeOf_15 ?_
    refine lv_aload_n hx hb dn_Circuit_placeOf_18 rfl (lv_at hl 0 rfl) ?_
    refine va_get (D := (dC, dI)) (ci := 9) (v := .ref ((a 348))) (C := rn_Circuit) (T := fn_Circuit) (N := 14) hx hb hg in_Circuit hown hK hP 12 rfl rfl 7 (by decide) (hg _ wn_3_78) (fun _ h9 => h9) rfl dn_Circuit_placeOf_19 ?_
    refine lv_iload_n hx hb dn_Circuit_placeOf_22 rfl (lv_at hl 1 rfl) ?_
    obtain ⟨hg_4, hf⟩ := dc_g hf
    refine va_iald hx hb hK hP 80 0 rfl rfl hg_4 dn_Circuit_placeOf_23 ?_
    refine xk_ti (y := ((q_1.2.1 348) (Int32.toNatClampNeg v1))) rfl ?_
    obtain ⟨hg_5, hf⟩ := dc_g hf
    refine va_iald hx hb hK hP 95 0 rfl rfl hg_5 dn_Circuit_placeOf_24 ?_
    refine xk_ti (y := ((q_1.2.1 372) (Int32.toNatClampNeg (((q_1.2.1 348) (Int32.toNatClampNeg v1)))))) rfl ?_
    refine lv_goto (tgt := 29) hx hb dn_Circuit_placeOf_25 (by decide) ?_
    rw [hQQ, ← Option.some.inj hf]
    exact xk_iret (w1 := fun u : Unit => (wC a v cI cB cJ cZ cQ q_1.2)) () hx hb hr hlocks hK hS dn_Circuit_placeOf_29 hP hD rfl (Nat.le_refl _) (Nat.le_refl _)
set_option maxHeartbeats 8000000 in
set_option maxRecDepth 100000 in
theorem ct_Circuit_firstOf_Cs (l : Launch) (dC : Nat → ClassId) (dI : Nat → Nat → Nat) (cI cB cJ cZ cQ : ClassId) (N sz : Nat) (a : Nat → Nat) (v : Nat → Value) (v1 : Int32) (s : ms) (y : (Int64 × ms)) (hf : fn_Circuit_firstOf_Cs N v1 s = some y) : Met l yn_Circuit_firstOf (xw yn_Circuit_firstOf bn_Circuit_firstOf 2 (some .long)) ({ frames := 1, cells := 0, slots := 0, locals := 21 }) (dc_P (dC, dI) xcl (xt cI cB cJ cZ cQ) [.ref ((a 108)), .int v1] sz (wC a v cI cB cJ cZ cQ s)) (xk_Ql (dC, dI) xcl (xt cI cB cJ cZ cQ) (fun (r : Int64) (_ : Unit) => r = y.1) (fun u : Unit => (wC a v cI cB cJ cZ cQ y.2)) (va_A (wC a v cI cB cJ cZ cQ s) sz)) 0 0 (va_A (wC a v cI cB cJ cZ cQ s) sz) := by
  refine dc_of (QA := xk_Ql (dC, dI) xcl (xt cI cB cJ cZ cQ) (fun (r : Int64) (_ : Unit) => r = y.1) (fun u : Unit => (wC a v cI cB cJ cZ cQ y.2))) (by decide) (Nat.le_of_ble_eq_true rfl) ?_
  intro p e s0 m below meth c hx hb hml hown hg hr hlocks hin hP hK hN A hA hD hT ls hl
  have hown : s0.vm.findClass rn_Circuit = some m.cls := hown
  obtain ⟨H, hH⟩ : ∃ z, z = s0.heap := ⟨_, rfl⟩
  rw [← hH] at hP
  have hS : va_S A s0.heap H [] := by rw [hH]; exact va_S.rf
  suffices kk : ∀ QQ : State → Prop, QQ = MQ below (xk_Ql (dC, dI) xcl (xt cI cB cJ cZ cQ) (fun (r : Int64) (_ : Unit) => r = y.1) (fun u : Unit => (wC a v cI cB cJ cZ cQ y.2)) A) [.ref ((a 108)), .int v1].toArray s0 0 0 A → dcC p l e ({ frames := 1, cells := 0, slots := 0, locals := 21 }) s0 m [.ref ((a 108)), .int v1].toArray below meth c QQ (dC, dI) A (wC a v cI cB cJ cZ cQ s) 0 2 [(0, .ref ((a 108))), (1, .int v1)] [] by
    have k9 := kk _ rfl H [] ls hP hD hS hl
    rw [hH] at k9; exact k9
  clear hP hD hS hl hH H ls
  intro QQ hQQ
  intro H locs ls hP hD hS hl
  unfold fn_Circuit_firstOf_Cs at hf
  refine lv_aload_n hx hb dn_Circuit_firstOf_0 rfl (lv_at hl 0 rfl) ?_
  refine lv_iload_n hx hb dn_Circuit_firstOf_1 rfl (lv_at hl 1 rfl) ?_
  obtain ⟨q_1, hc_2, hf⟩ := dc_b hf
  refine dc_calli (dc_runV (ar := 1) (As := [.int v1]) (rest := []) (ci := 9) (q0 := 8) ⟨hx, hb, hml, hown, hg⟩ hK hN hT hS hA (ct_Circuit_isSignal_Cs l dC dI cI cB cJ cZ cQ N H.size a v v1 s q_1 hc_2) hP hD rfl rfl wn_6_207 wn_6_209 sn_Circuit_isSignal wn_1_9 wn_6_210 rfl rfl (by decide +kernel) ⟨Nat.le_of_ble_eq_true rfl, Nat.le_of_ble_eq_true rfl⟩ rfl hl.1 rfl (Nat.le_of_ble_eq_true rfl) dn_Circuit_firstOf_2 ⟨Nat.le_of_ble_eq_true rfl, Nat.le_of_ble_eq_true rfl⟩) hP hD hS hA (fun r_3 _ H locs hw hP hD hS => ?_)
  have hw : r_3 = q_1.1 := hw
  subst hw
  refine lv_if_eq (tgt := 28) hx hb dn_Circuit_firstOf_5 (by decide) (fun h => ?_) (fun h => ?_)
  · have hf := (if_pos h).symm.trans hf
    refine lv_lconst (v := 0) hx hb dn_Circuit_firstOf_28 (by decide) ?_
    rw [hQQ, ← Option.some.inj hf]
    exact xk_lret (w1 := fun u : Unit => (wC a v cI cB cJ cZ cQ q_1.2)) () hx hb hr hlocks hK hS dn_Circuit_firstOf_29 hP hD rfl (Nat.le_refl _) (Nat.le_refl _)
  · have hf := (if_neg h).symm.trans hf
    refine lv_aload_n hx hb dn_Circuit_firstOf_8 rfl (lv_at hl 0 rfl) ?_
    refine va_get (D := (dC, dI)) (ci := 9) (v := .ref ((a 109))) (C := rn_Circuit) (T := fn_Circuit) (N := 14) hx hb hg in_Circuit hown hK hP 8 rfl rfl 0 (by decide) (hg _ wn_3_61) (fun _ h9 => h9) rfl dn_Circuit_firstOf_9 ?_
    refine va_get (D := (dC, dI)) (ci := 10) (v := .ref ((a 110))) (C := rn_Design) (T := fn_Design) (N := 16) hx hb hg in_Design hown hK hP 9 rfl rfl 0 (by decide) (hg _ wn_2_237) (fun _ h9 => h9) rfl dn_Circuit_firstOf_12 ?_
    refine va_get (D := (dC, dI)) (ci := 11) (v := .ref ((a 325))) (C := rn_Parts) (T := fn_Parts) (N := 15) hx hb hg in_Parts hown hK hP 10 rfl rfl 4 (by decide) (hg _ wn_2_142) (fun _ h9 => h9) rfl dn_Circuit_firstOf_15 ?_
    refine lv_aload_n hx hb dn_Circuit_firstOf_18 rfl (lv_at hl 0 rfl) ?_
    refine va_get (D := (dC, dI)) (ci := 9) (v := .ref ((a 298))) (C := rn_Circuit) (T := fn_Circuit) (N := 14) hx hb hg in_Circuit hown hK hP 8 rfl rfl 7 (by decide) (hg _ wn_3_78) (fun _ h9 => h9) rfl dn_Circuit_firstOf_19 ?_
    refine lv_iload_n hx hb dn_Circuit_firstOf_22 rfl (lv_at hl 1 rfl) ?_
    obtain ⟨hg_4, hf⟩ := dc_g hf
    refine va_iald hx hb hK hP 46 0 rfl rfl hg_4 dn_Circuit_firstOf_23 ?_
    refine xk_ti (y := ((q_1.2.1 298) (Int32.toNatClampNeg v1))) rfl ?_
    obtain ⟨hg_5, hf⟩ := dc_g hf
    refine va_lald hx hb hK hP 64 2 rfl rfl hg_5 dn_Circuit_firstOf_24 ?_
    refine xk_tl (y := ((q_1.2.2 325) (Int32.toNatClampNeg (((q_1.2.1 298) (Int32.toNatClampNeg v1)))))) rfl ?_
    refine lv_goto (tgt := 29) hx hb dn_Circuit_firstOf_25 (by decide) ?_
    rw [hQQ, ← Option.some.inj hf]
    exact xk_lret (w1 := fun u : Unit => (wC a v cI cB cJ cZ cQ q_1.2)) () hx hb hr hlocks hK hS dn_Circuit_firstOf_29 hP hD rfl (Nat.le_refl _) (Nat.le_refl _)
set_option maxHeartbeats 8000000 in
set_option maxRecDepth 100000 in
theorem ct_Circuit_firstOf_Cc (l : Launch) (dC : Nat → ClassId) (dI : Nat → Nat → Nat) (cI cB cJ cZ cQ : ClassId) (N sz : Nat) (a : Nat → Nat) (v : Nat → Value) (v1 : Int32) (s : ms) (y : (Int64 × ms)) (hf : fn_Circuit_firstOf_Cc N v1 s = some y) : Met l yn_Circuit_firstOf (xw yn_Circuit_firstOf bn_Circuit_firstOf 2 (some .long)) ({ frames := 1, cells := 0, slots := 0, locals := 21 }) (dc_P (dC, dI) xcl (xt cI cB cJ cZ cQ) [.ref ((a 112)), .int v1] sz (wC a v cI cB cJ cZ cQ s)) (xk_Ql (dC, dI) xcl (xt cI cB cJ cZ cQ) (fun (r : Int64) (_ : Unit) => r = y.1) (fun u : Unit => (wC a v cI cB cJ cZ cQ y.2)) (va_A (wC a v cI cB cJ cZ cQ s) sz)) 0 0 (va_A (wC a v cI cB cJ cZ cQ s) sz) := by
  refine dc_of (QA := xk_Ql (dC, dI) xcl (xt cI cB cJ cZ cQ) (fun (r : Int64) (_ : Unit) => r = y.1) (fun u : Unit => (wC a v cI cB cJ cZ cQ y.2))) (by decide) (Nat.le_of_ble_eq_true rfl) ?_
  intro p e s0 m below meth c hx hb hml hown hg hr hlocks hin hP hK hN A hA hD hT ls hl
  have hown : s0.vm.findClass rn_Circuit = some m.cls := hown
  obtain ⟨H, hH⟩ : ∃ z, z = s0.heap := ⟨_, rfl⟩
  rw [← hH] at hP
  have hS : va_S A s0.heap H [] := by rw [hH]; exact va_S.rf
  suffices kk : ∀ QQ : State → Prop, QQ = MQ below (xk_Ql (dC, dI) xcl (xt cI cB cJ cZ cQ) (fun (r : Int64) (_ : Unit) => r = y.1) (fun u : Unit => (wC a v cI cB cJ cZ cQ y.2)) A) [.ref ((a 112)), .int v1].toArray s0 0 0 A → dcC p l e ({ frames := 1, cells := 0, slots := 0, locals := 21 }) s0 m [.ref ((a 112)), .int v1].toArray below meth c QQ (dC, dI) A (wC a v cI cB cJ cZ cQ s) 0 2 [(0, .ref ((a 112))), (1, .int v1)] [] by
    have k9 := kk _ rfl H [] ls hP hD hS hl
    rw [hH] at k9; exact k9
  clear hP hD hS hl hH H ls
  intro QQ hQQ
  intro H locs ls hP hD hS hl
  unfold fn_Circuit_firstOf_Cc at hf
  refine lv_aload_n hx hb dn_Circuit_firstOf_0 rfl (lv_at hl 0 rfl) ?_
  refine lv_iload_n hx hb dn_Circuit_firstOf_1 rfl (lv_at hl 1 rfl) ?_
  obtain ⟨q_1, hc_2, hf⟩ := dc_b hf
  refine dc_calli (dc_runV (ar := 1) (As := [.int v1]) (rest := []) (ci := 9) (q0 := 12) ⟨hx, hb, hml, hown, hg⟩ hK hN hT hS hA (ct_Circuit_isSignal_Cc l dC dI cI cB cJ cZ cQ N H.size a v v1 s q_1 hc_2) hP hD rfl rfl wn_6_207 wn_6_209 sn_Circuit_isSignal wn_1_9 wn_6_210 rfl rfl (by decide +kernel) ⟨Nat.le_of_ble_eq_true rfl, Nat.le_of_ble_eq_true rfl⟩ rfl hl.1 rfl (Nat.le_of_ble_eq_true rfl) dn_Circuit_firstOf_2 ⟨Nat.le_of_ble_eq_true rfl, Nat.le_of_ble_eq_true rfl⟩) hP hD hS hA (fun r_3 _ H locs hw hP hD hS => ?_)
  have hw : r_3 = q_1.1 := hw
  subst hw
  refine lv_if_eq (tgt := 28) hx hb dn_Circuit_firstOf_5 (by decide) (fun h => ?_) (fun h => ?_)
  · have hf := (if_pos h).symm.trans hf
    refine lv_lconst (v := 0) hx hb dn_Circuit_firstOf_28 (by decide) ?_
    rw [hQQ, ← Option.some.inj hf]
    exact xk_lret (w1 := fun u : Unit => (wC a v cI cB cJ cZ cQ q_1.2)) () hx hb hr hlocks hK hS dn_Circuit_firstOf_29 hP hD rfl (Nat.le_refl _) (Nat.le_refl _)
  · have hf := (if_neg h).symm.trans hf
    refine lv_aload_n hx hb dn_Circuit_firstOf_8 rfl (lv_at hl 0 rfl) ?_
    refine va_get (D := (dC, dI)) (ci := 9) (v := .ref ((a 113))) (C := rn_Circuit) (T := fn_Circuit) (N := 14) hx hb hg in_Circuit hown hK hP 12 rfl rfl 0 (by decide) (hg _ wn_3_61) (fun _ h9 => h9) rfl dn_Circuit_firstOf_9 ?_
    refine va_get (D := (dC, dI)) (ci := 10) (v := .ref ((a 114))) (C := rn_Design) (T := fn_Design) (N := 16) hx hb hg in_Design hown hK hP 13 rfl rfl 0 (by decide) (hg _ wn_2_237) (fun _ h9 => h9) rfl dn_Circuit_firstOf_12 ?_
    refine va_get (D := (dC, dI)) (ci := 11) (v := .ref ((a 375))) (C := rn_Parts) (T := fn_Parts) (N := 15) hx hb hg in_Parts hown hK hP 14 rfl rfl 4 (by decide) (hg _ wn_2_142) (fun _ h9 => h9) rfl dn_Circuit_firstOf_15 ?_
    refine lv_aload_n hx hb dn_Circuit_firstOf_18 rfl (lv_at hl 0 rfl) ?_
    refine va_get (D := (dC, dI)) (ci := 9) (v := .ref ((a 348))) (C := rn_Circuit) (T := fn_Circuit) (N := 14) hx hb hg in_Circuit hown hK hP 12 rfl rfl 7 (by decide) (hg _ wn_3_78) (fun _ h9 => h9) rfl dn_Circuit_firstOf_19 ?_
    refine lv_iload_n hx hb dn_Circuit_firstOf_22 rfl (lv_at hl 1 rfl) ?_
    obtain ⟨hg_4, hf⟩ := dc_g hf
    refine va_iald hx hb hK hP 80 0 rfl rfl hg_4 dn_Circuit_firstOf_23 ?_
    refine xk_ti (y := ((q_1.2.1 348) (Int32.toNatClampNeg v1))) rfl ?_
    obtain ⟨hg_5, hf⟩ := dc_g hf
    refine va_lald hx hb hK hP 98 2 rfl rfl hg_5 dn_Circuit_firstOf_24 ?_
    refine xk_tl (y := ((q_1.2.2 375) (Int32.toNatClampNeg (((q_1.2.1 348) (Int32.toNatClampNeg v1)))))) rfl ?_
    refine lv_goto (tgt := 29) hx hb dn_Circuit_firstOf_25 (by decide) ?_
    rw [hQQ, ← Option.some.inj hf]
    exact xk_lret (w1 := fun u : Unit => (wC a v cI cB cJ cZ cQ q_1.2)) () hx hb hr hlocks hK hS dn_Circuit_firstOf_29 hP hD rfl (Nat.le_refl _) (Nat.le_refl _)
set_option maxHeartbeats 8000000 in
set_option maxRecDepth 100000 in
theorem ct_C_fault_C (l : Launch) (dC : Nat → ClassId) (dI : Nat → Nat → Nat) (cI cB cJ cZ cQ : ClassId) (N sz : Nat) (a : Nat → Nat) (v : Nat → Value) (s : ms) (y : (Int32 × ms)) (hf : fn_C_fault_C N s = some y) : Met l yn_C_fault (xw yn_C_fault bn_C_fault 1 (some .int)) ({ frames := 0, cells := 0, slots := 0, locals := 0 }) (dc_P (dC, dI) xcl (xt cI cB cJ cZ cQ) [.ref ((a 100))] sz (wC a v cI cB cJ cZ cQ s)) (xk_Qi (dC, dI) xcl (xt cI cB cJ cZ cQ) (fun (r : Int32) (_ : Unit) => r = y.1) (fun u : Unit => (wC a v cI cB cJ cZ cQ y.2)) (va_A (wC a v cI cB cJ cZ cQ s) sz)) 0 0 (va_A (wC a v cI cB cJ cZ cQ s) sz) := by
  refine dc_of (QA := xk_Qi (dC, dI) xcl (xt cI cB cJ cZ cQ) (fun (r : Int32) (_ : Unit) => r = y.1) (fun u : Unit => (wC a v cI cB cJ cZ cQ y.2))) (by decide) (Nat.le_of_ble_eq_true rfl) ?_
  intro p e s0 m below meth c hx hb hml hown hg hr hlocks hin hP hK hN A hA hD hT ls hl
  have hown : s0.vm.findClass rn_C = some m.cls := hown
  obtain ⟨H, hH⟩ : ∃ z, z = s0.heap := ⟨_, rfl⟩
  rw [← hH] at hP
  have hS : va_S A s0.heap H [] := by rw [hH]; exact va_S.rf
  suffices kk : ∀ QQ : State → Prop, QQ = MQ below (xk_Qi (dC, dI) xcl (xt cI cB cJ cZ cQ) (fun (r : Int32) (_ : Unit) => r = y.1) (fun u : Unit => (wC a v cI cB cJ cZ cQ y.2)) A) [.ref ((a 100))].toArray s0 0 0 A → dcC p l e ({ frames := 0, cells := 0, slots := 0, locals := 0 }) s0 m [.ref ((a 100))].toArray below meth c QQ (dC, dI) A (wC a v cI cB cJ cZ cQ s) 0 1 [(0, .ref ((a 100)))] [] by
    have k9 := kk _ rfl H [] ls hP hD hS hl
    rw [hH] at k9; exact k9
  clear hP hD hS hl hH H ls
  intro QQ hQQ
  intro H locs ls hP hD hS hl
  unfold fn_C_fault_C at hf
  refine lv_aload_n hx hb dn_C_fault_0 rfl (lv_at hl 0 rfl) ?_
  refine va_get (D := (dC, dI)) (ci := 1) (v := .int ((s.1 201 0))) (C := rn_C) (T := fn_C) (N := 11) hx hb hg in_C hown hK hP 0 rfl rfl 1 (by decide) (hg _ wn_3_126) (fun _ h9 => h9) rfl dn_C_fault_1 ?_
  rw [hQQ, ← Option.some.inj hf]
  exact xk_iret (w1 := fun u : Unit => (wC a v cI cB cJ cZ cQ s)) () hx hb hr hlocks hK hS dn_C_fault_4 hP hD rfl (Nat.le_refl _) (Nat.le_refl _)
set_option maxHeartbeats 8000000 in
set_option maxRecDepth 100000 in
theorem ct_C_append_C (l : Launch) (dC : Nat → ClassId) (dI : Nat → Nat → Nat) (cI cB cJ cZ cQ : ClassId) (N sz : Nat) (a : Nat → Nat) (v : Nat → Value) (v1 : Int32) (s : ms) (y : (Unit × ms)) (hf : fn_C_append_C N v1 s = some y) : Met l yn_C_append (xw yn_C_append bn_C_append 4 none) ({ frames := 0, cells := 0, slots := 0, locals := 0 }) (dc_P (dC, dI) xcl (xt cI cB cJ cZ cQ) [.ref ((a 100)), .int v1] sz (wC a v cI cB cJ cZ cQ s)) (xk_Qv (dC, dI) xcl (xt cI cB cJ cZ cQ) (fun _ : Unit => True) (fun u : Unit => (wC a v cI cB cJ cZ cQ y.2)) (va_A (wC a v cI cB cJ cZ cQ s) sz)) 0 0 (va_A (wC a v cI cB cJ cZ cQ s) sz) := by
  refine dc_of (QA := xk_Qv (dC, dI) xcl (xt cI cB cJ cZ cQ) (fun _ : Unit => True) (fun u : Unit => (wC a v cI cB cJ cZ cQ y.2))) (by decide) (Nat.le_of_ble_eq_true rfl) ?_
  intro p e s0 m below meth c hx hb hml hown hg hr hlocks hin hP hK hN A hA hD hT ls hl
  have hown : s0.vm.findClass rn_C = some m.cls := hown
  obtain ⟨H, hH⟩ : ∃ z, z = s0.heap := ⟨_, rfl⟩
  rw [← hH] at hP
  have hS : va_S A s0.heap H [] := by rw [hH]; exact va_S.rf
  suffices kk : ∀ QQ : State → Prop, QQ = MQ below (xk_Qv (dC, dI) xcl (xt cI cB cJ cZ cQ) (fun _ : Unit => True) (fun u : Unit => (wC a v cI cB cJ cZ cQ y.2)) A) [.ref ((a 100)), .int v1].toArray s0 0 0 A → dcC p l e ({ frames := 0, cells := 0, slots := 0, locals := 0 }) s0 m [.ref ((a 100)), .int v1].toArray below meth c QQ (dC, dI) A (wC a v cI cB cJ cZ cQ s) 0 4 [(0, .ref ((a 100))), (1, .int v1)] [] by
    have k9 := kk _ rfl H [] ls hP hD hS hl
    rw [hH] at k9; exact k9
  clear hP hD hS hl hH H ls
  intro QQ hQQ
  have hd_14 : ∀ (n : Nat) (x1 : Int32) (x3 : Int32) (s : ms), hd_C_append_C_14 N n x1 x3 s = some y → dcC p l e ({ frames := 0, cells := 0, slots := 0, locals := 0 }) s0 m [.ref ((a 100)), .int v1].toArray below meth c QQ (dC, dI) A (wC a v cI cB cJ cZ cQ s) 14 4 [(0, .ref ((a 100))), (1, .int x1), (2, .ref ((a 307))), (3, .int x3)] [] := by
    intro n
    induction n with
    | zero => intro x1 x3 s hf; cases hf
    | succ n ih =>
      intro x1 x3 s hf H locs ls hP hD hS hl
      have hf : bd_C_append_C_14 N (hd_C_append_C_14 N n) x1 x3 s = some y := hf
      have hk_14 := ih
      generalize hd_C_append_C_14 N n = k_14 at hf hk_14
      unfold bd_C_append_C_14 at hf
      refine lv_iload_n hx hb dn_C_append_14 rfl (lv_at hl 3 rfl) ?_
      refine lv_if_lt (tgt := 53) hx hb dn_C_append_15 (by decide) (fun h => ?_) (fun h => ?_)
      · have hf := (if_pos h).symm.trans hf
        rw [hQQ, ← Option.some.inj hf]
        exact xk_vret (w1 := fun u : Unit => (wC a v cI cB cJ cZ cQ s)) () hx hb hr hlocks hK hS dn_C_append_53 hP hD trivial (Nat.le_refl _) (Nat.le_refl _)
      · have hf := (if_neg h).symm.trans hf
        refine lv_aload_n hx hb dn_C_append_18 rfl (lv_at hl 0 rfl) ?_
        refine va_get (D := (dC, dI)) (ci := 1) (v := .int ((s.1 200 0))) (C := rn_C) (T := fn_C) (N := 11) hx hb hg in_C hown hK hP 0 rfl rfl 0 (by decide) (hg _ wn_3_125) (fun _ h9 => h9) rfl dn_C_append_19 ?_
        refine lv_aload_n hx hb dn_C_append_22 rfl (lv_at hl 2 rfl) ?_
        refine va_alen (v := 65536) hx hb hK hP 52 1 rfl rfl rfl dn_C_append_23 ?_
        refine lv_icmp_ge (tgt := 53) hx hb dn_C_append_24 (by decide) (fun h => ?_) (fun h => ?_)
        · have hf := (if_pos h).symm.trans hf
          rw [hQQ, ← Option.some.inj hf]
          exact xk_vret (w1 := fun u : Unit => (wC a v cI cB cJ cZ cQ s)) () hx hb hr hlocks hK hS dn_C_append_53 hP hD trivial (Nat.le_refl _) (Nat.le_refl _)
        · have hf := (if_neg h).symm.trans hf
          refine lv_aload_n hx hb dn_C_append_27 rfl (lv_at hl 2 rfl) ?_
          refine lv_aload_n hx hb dn_C_append_28 rfl (lv_at hl 0 rfl) ?_
          refine va_get (D := (dC, dI)) (ci := 1) (v := .int ((s.1 200 0))) (C := rn_C) (T := fn_C) (N := 11) hx hb hg in_C hown hK hP 0 rfl rfl 0 (by decide) (hg _ wn_3_125) (fun _ h9 => h9) rfl dn_C_append_29 ?_
          refine lv_iload_n hx hb dn_C_append_32 rfl (lv_at hl 1 rfl) ?_
          refine lv_iload_n hx hb dn_C_append_33 rfl (lv_at hl 3 rfl) ?_
          refine lv_iushr (v := (Int32.toUInt32 x1 >>> (Int32.toUInt32 x3 &&& Int32.toUInt32 31)).toInt32) hx hb dn_C_append_34 rfl ?_
          refine lv_i2b (v := (Int32.toInt8 (((Int32.toUInt32 x1 >>> (Int32.toUInt32 x3 &&& Int32.toUInt32 31)).toInt32))).toInt32) hx hb dn_C_append_35 rfl ?_
          obtain ⟨hg_1, hf⟩ := dc_g hf
          refine va_bast hx hb hK hP hD hS 52 1 rfl rfl hg_1 dn_C_append_36 (fun H locs hP hD hS => ?_)
          have hP : va_P (dC, dI) xcl ((wC a v cI cB cJ cZ cQ s).set 52 ((a 307), .inl (cB, 65536, .inl (upd (s.1 307) (Int32.toNatClampNeg ((s.1 200 0))) (vp_nar .byte (((Int32.toInt8 (((Int32.toUInt32 x1 >>> (Int32.toUInt32 x3 &&& Int32.toUInt32 31)).toInt32))).toInt32))))))) H := hP
          have hD : va_D A ((wC a v cI cB cJ cZ cQ s).set 52 ((a 307), .inl (cB, 65536, .inl (upd (s.1 307) (Int32.toNatClampNeg ((s.1 200 0))) (vp_nar .byte (((Int32.toInt8 (((Int32.toUInt32 x1 >>> (Int32.toUInt32 x3 &&& Int32.toUInt32 31)).toInt32))).toInt32))))))) := hD
          have hP := wC_P_307 hP
          have hD := wC_D_307 hD
          refine lv_aload_n hx hb dn_C_append_37 rfl (lv_at hl 0 rfl) ?_
          refine lv_dup hx hb dn_C_append_38 rfl ?_
          refine va_get (D := (dC, dI)) (ci := 1) (v := .int ((s.1 200 0))) (C := rn_C) (T := fn_C) (N := 11) hx hb hg in_C hown hK hP 0 rfl rfl 0 (by decide) (hg _ wn_3_125) (fun _ h9 => h9) rfl dn_C_append_39 ?_
          refine lv_iconst (v := 1) hx hb dn_C_append_42 (by decide) ?_
          refine lv_iadd hx hb dn_C_append_43 ?_
          refine va_put (D := (dC, dI)) (ci := 1) (v := .int (((s.1 200 0) + 1))) (ty := .int) (C := rn_C) (T := fn_C) (N := 11) hx hb hg in_C tn_C tk_C nn_C hown hK hP hD hS 0 rfl rfl 0 (by decide) (hg _ wn_3_125) (fun _ h9 => h9) rfl (tk_C 0 (by decide)) rfl rfl (Nat.le_of_ble_eq_true rfl) dn_C_append_44 (fun H locs hP hD hS => ?_)
          have hP := wC_P_200 hP
          have hD := wC_D_200 hD
          refine lv_iinc (v := (x3 + (-8))) (lv' := [(3, .int ((x3 + (-8)))), (0, .ref ((a 100))), (1, .int x1), (2, .ref ((a 307)))]) hx hb dn_C_append_47 hl (k := 3) rfl (dc_inc (by decide)) (by decide) rfl (fun ls hl => ?_)
          refine lv_goto (tgt := 14) hx hb dn_C_append_50 (by decide) ?_
          exact hk_14 x1 ((x3 + (-8))) (upI (upI s 307 (upd (s.1 307) (Int32.toNatClampNeg ((s.1 200 0))) (vp_nar .byte (((Int32.toInt8 (((Int32.toUInt32 x1 >>> (Int32.toUInt32 x3 &&& Int32.toUInt32 31)).toInt32))).toInt32))))) 200 (fun _ => ((s.1 200 0) + 1))) hf H locs ls hP hD hS (lv_sub hl [1, 2, 3, 0] rfl)
  intro H locs ls hP hD hS hl
  unfold fn_C_append_C at hf
  refine lv_aload_n hx hb dn_C_append_0 rfl (lv_at hl 0 rfl) ?_
  refine va_get (D := (dC, dI)) (ci := 1) (v := .ref ((a 108))) (C := rn_C) (T := fn_C) (N := 11) hx hb hg in_C hown hK hP 0 rfl rfl 10 (by decide) (hg _ wn_3_135) (fun _ h9 => h9) rfl dn_C_append_1 ?_
  refine va_get (D := (dC, dI)) (ci := 9) (v := .ref ((a 109))) (C := rn_Circuit) (T := fn_Circuit) (N := 14) hx hb hg in_Circuit hown hK hP 8 rfl rfl 0 (by decide) (hg _ wn_3_62) (fun _ h9 => h9) rfl dn_C_append_4 ?_
  refine va_get (D := (dC, dI)) (ci := 10) (v := .ref ((a 307))) (C := rn_Design) (T := fn_Design) (N := 16) hx hb hg in_Design hown hK hP 9 rfl rfl 2 (by decide) (hg _ wn_3_6) (fun _ h9 => h9) rfl dn_C_append_7 ?_
  refine lv_astore_n (lv' := [(2, .ref ((a 307))), (0, .ref ((a 100))), (1, .int v1)]) hx hb dn_C_append_10 rfl hl (by decide) rfl (fun ls hl => ?_)
  refine lv_bipush (v := 24) hx hb dn_C_append_11 (by decide) ?_
  refine lv_istore_n (lv' := [(3, .int 24), (2, .ref ((a 307))), (0, .ref ((a 100))), (1, .int v1)]) hx hb dn_C_append_13 rfl hl (by decide) rfl (fun ls hl => ?_)
  exact hd_14 N v1 24 s hf H locs ls hP hD hS (lv_sub hl [2, 3, 1, 0] rfl)
set_option maxHeartbeats 8000000 in
set_option maxRecDepth 100000 in
theorem ct_C_feed_C (l : Launch) (dC : Nat → ClassId) (dI : Nat → Nat → Nat) (cI cB cJ cZ cQ : ClassId) (N sz : Nat) (a : Nat → Nat) (v : Nat → Value) (v1 : Int32) (v2 : Int32) (v3 : Int32) (v4 : Int32) (v5 : Int32) (s : ms) (y : (Int32 × ms)) (hf : fn_C_feed_C N v1 v2 v3 v4 v5 s = some y) : Met l yn_C_feed (xw yn_C_feed bn_C_feed 6 (some .int)) ({ frames := 1, cells := 0, slots := 0, locals := 23 }) (dc_P (dC, dI) xcl (xt cI cB cJ cZ cQ) [.ref ((a 100)), .int v1, .int v2, .int v3, .int v4, .int v5] sz (wC a v cI cB cJ cZ cQ s)) (xk_Qi (dC, dI) xcl (xt cI cB cJ cZ cQ) (fun (r : Int32) (_ : Unit) => r = y.1) (fun u : Unit => (wC a v cI cB cJ cZ cQ y.2)) (va_A (wC a v cI cB cJ cZ cQ s) sz)) 0 0 (va_A (wC a v cI cB cJ cZ cQ s) sz) := by
  refine dc_of (QA := xk_Qi (dC, dI) xcl (xt cI cB cJ cZ cQ) (fun (r : Int32) (_ : Unit) => r = y.1) (fun u : Unit => (wC a v cI cB cJ cZ cQ y.2))) (by decide) (Nat.le_of_ble_eq_true rfl) ?_
  intro p e s0 m below meth c hx hb hml hown hg hr hlocks hin hP hK hN A hA hD hT ls hl
  have hown : s0.vm.findClass rn_C = some m.cls := hown
  obtain ⟨H, hH⟩ : ∃ z, z = s0.heap := ⟨_, rfl⟩
  rw [← hH] at hP
  have hS : va_S A s0.heap H [] := by rw [hH]; exact va_S.rf
  suffices kk : ∀ QQ : State → Prop, QQ = MQ below (xk_Qi (dC, dI) xcl (xt cI cB cJ cZ cQ) (fun (r : Int32) (_ : Unit) => r = y.1) (fun u : Unit => (wC a v cI cB cJ cZ cQ y.2)) A) [.ref ((a 100)), .int v1, .int v2, .int v3, .int v4, .int v5].toArray s0 0 0 A → dcC p l e ({ frames := 1, cells := 0, slots := 0, locals := 23 }) s0 m [.ref ((a 100)), .int v1, .int v2, .int v3, .int v4, .int v5].toArray below meth c QQ (dC, dI) A (wC a v cI cB cJ cZ cQ s) 0 6 [(0, .ref ((a 100))), (1, .int v1), (2, .int v2), (3, .int v3), (4, .int v4), (5, .int v5)] [] by
    have k9 := kk _ rfl H [] ls hP hD hS hl
    rw [hH] at k9; exact k9
  clear hP hD hS hl hH H ls
  intro QQ hQQ
  intro H locs ls hP hD hS hl
  unfold fn_C_feed_C at hf
  refine lv_aload_n hx hb dn_C_feed_0 rfl (lv_at hl 0 rfl) ?_
  refine va_get (D := (dC, dI)) (ci := 1) (v := .int ((s.1 200 0))) (C := rn_C) (T := fn_C) (N := 11) hx hb hg in_C hown hK hP 0 rfl rfl 0 (by decide) (hg _ wn_3_125) (fun _ h9 => h9) rfl dn_C_feed_1 ?_
  refine lv_bipush (v := 20) hx hb dn_C_feed_4 (by decide) ?_
  refine lv_iadd hx hb dn_C_feed_6 ?_
  refine lv_ldc hx hb hown (hg _ wn_7_28) dn_C_feed_7 ?_
  refine lv_icmp_le (tgt := 20) hx hb dn_C_feed_9 (by decide) (fun h => ?_) (fun h => ?_)
  · have hf := (if_pos h).symm.trans hf
    refine lv_aload_n hx hb dn_C_feed_20 rfl (lv_at hl 0 rfl) ?_
    refine lv_iload_n hx hb dn_C_feed_21 rfl (lv_at hl 1 rfl) ?_
    obtain ⟨q_1, hc_2, hf⟩ := dc_b hf
    refine dc_callv (dc_runV (ar := 1) (As := [.int v1]) (rest := []) (ci := 1) (q0 := 0) ⟨hx, hb, hml, hown, hg⟩ hK hN hT hS hA (ct_C_append_C l dC dI cI cB cJ cZ cQ N H.size a v v1 s q_1 hc_2) hP hD rfl rfl wn_7_93 wn_7_95 sn_C_append wn_1_1 wn_7_96 rfl rfl (by decide +kernel) ⟨Nat.le_of_ble_eq_true rfl, Nat.le_of_ble_eq_true rfl⟩ rfl hl.1 rfl (Nat.le_of_ble_eq_true rfl) dn_C_feed_22 ⟨Nat.le_of_ble_eq_true rfl, Nat.le_of_ble_eq_true rfl⟩) hP hD hS hA (fun _ H locs hw hP hD hS => ?_)
    refine lv_aload_n hx hb dn_C_feed_25 rfl (lv_at hl 0 rfl) ?_
    refine lv_iload_n hx hb dn_C_feed_26 rfl (lv_at hl 2 rfl) ?_
    obtain ⟨q_3, hc_4, hf⟩ := dc_b hf
    refine dc_callv (dc_runV (ar := 1) (As := [.int v2]) (rest := []) (ci := 1) (q0 := 0) ⟨hx, hb, hml, hown, hg⟩ hK hN hT hS hA (ct_C_append_C l dC dI cI cB cJ cZ cQ N H.size a v v2 q_1.2 q_3 hc_4) hP hD rfl rfl wn_7_93 wn_7_95 sn_C_append wn_1_1 wn_7_96 rfl rfl (by decide +kernel) ⟨Nat.le_of_ble_eq_true rfl, Nat.le_of_ble_eq_true rfl⟩ rfl hl.1 rfl (Nat.le_of_ble_eq_true rfl) dn_C_feed_27 ⟨Nat.le_of_ble_eq_true rfl, Nat.le_of_ble_eq_true rfl⟩) hP hD hS hA (fun _ H locs hw hP hD hS => ?_)
    refine lv_aload_n hx hb dn_C_feed_30 rfl (lv_at hl 0 rfl) ?_
    refine lv_iload_n hx hb dn_C_feed_31 rfl (lv_at hl 3 rfl) ?_
    obtain ⟨q_5, hc_6, hf⟩ := dc_b hf
    refine dc_callv (dc_runV (ar := 1) (As := [.int v3]) (rest := []) (ci := 1) (q0 := 0) ⟨hx, hb, hml, hown, hg⟩ hK hN hT hS hA (ct_C_append_C l dC dI cI cB cJ cZ cQ N H.size a v v3 q_3.2 q_5 hc_6) hP hD rfl rfl wn_7_93 wn_7_95 sn_C_append wn_1_1 wn_7_96 rfl rfl (by decide +kernel) ⟨Nat.le_of_ble_eq_true rfl, Nat.le_of_ble_eq_true rfl⟩ rfl hl.1 rfl (Nat.le_of_ble_eq_true rfl) dn_C_feed_32 ⟨Nat.le_of_ble_eq_true rfl, Nat.le_of_ble_eq_true rfl⟩) hP hD hS hA (fun _ H locs hw hP hD hS => ?_)
    refine lv_aload_n hx hb dn_C_feed_35 rfl (lv_at hl 0 rfl) ?_
    refine lv_iload hx hb dn_C_feed_36 (lv_at hl 4 rfl) ?_
    obtain ⟨q_7, hc_8, hf⟩ := dc_b hf
    refine dc_callv (dc_runV (ar := 1) (As := [.int v4]) (rest := []) (ci := 1) (q0 := 0) ⟨hx, hb, hml, hown, hg⟩ hK hN hT hS hA (ct_C_append_C l dC dI cI cB cJ cZ cQ N H.size a v v4 q_5.2 q_7 hc_8) hP hD rfl rfl wn_7_93 wn_7_95 sn_C_append wn_1_1 wn_7_96 rfl rfl (by decide +kernel) ⟨Nat.le_of_ble_eq_true rfl, Nat.le_of_ble_eq_true rfl⟩ rfl hl.1 rfl (Nat.le_of_ble_eq_true rfl) dn_C_feed_38 ⟨Nat.le_of_ble_eq_true rfl, Nat.le_of_ble_eq_true rfl⟩) hP hD hS hA (fun _ H locs hw hP hD hS => ?_)
    refine lv_aload_n hx hb dn_C_feed_41 rfl (lv_at hl 0 rfl) ?_
    refine lv_iload hx hb dn_C_feed_42 (lv_at hl 5 rfl) ?_
    obtain ⟨q_9, hc_10, hf⟩ := dc_b hf
    refine dc_callv (dc_runV (ar := 1) (As := [.int v5]) (rest := []) (ci := 1) (q0 := 0) ⟨hx, hb, hml, hown, hg⟩ hK hN hT hS hA (ct_C_append_C l dC dI cI cB cJ cZ cQ N H.size a v v5 q_7.2 q_9 hc_10) hP hD rfl rfl wn_7_93 wn_7_95 sn_C_append wn_1_1 wn_7_96 rfl rfl (by decide +kernel) ⟨Nat.le_of_ble_eq_true rfl, Nat.le_of_ble_eq_true rfl⟩ rfl hl.1 rfl (Nat.le_of_ble_eq_true rfl) dn_C_feed_44 ⟨Nat.le_of_ble_eq_true rfl, Nat.le_of_ble_eq_true rfl⟩) hP hD hS hA (fun _ H locs hw hP hD hS => ?_)
    refine lv_aload_n hx hb dn_C_feed_47 rfl (lv_at hl 0 rfl) ?_
    refine va_get (D := (dC, dI)) (ci := 1) (v := .int ((q_9.2.1 200 0))) (C := rn_C) (T := fn_C) (N := 11) hx hb hg in_C hown hK hP 0 rfl rfl 0 (by decide) (hg _ wn_3_125) (fun _ h9 => h9) rfl dn_C_feed_48 ?_
    rw [hQQ, ← Option.some.inj hf]
    exact xk_iret (w1 := fun u : Unit => (wC a v cI cB cJ cZ cQ q_9.2)) () hx hb hr hlocks hK hS dn_C_feed_51 hP hD rfl (Nat.le_refl _) (Nat.le_refl _)
  · have hf := (if_neg h).symm.trans hf
    cases hf
set_option maxHeartbeats 8000000 in
set_option maxRecDepth 100000 in
theorem ct_C_end_C (l : Launch) (dC : Nat → ClassId) (dI : Nat → Nat → Nat) (cI cB cJ cZ cQ : ClassId) (N sz : Nat) (a : Nat → Nat) (v : Nat → Value) (v1 : Int32) (s : ms) (y : (Unit × ms)) (hf : fn_C_end_C N v1 s = some y) : Met l yn_C_end (xw yn_C_end bn_C_end 2 none) ({ frames := 0, cells := 0, slots := 0, locals := 0 }) (dc_P (dC, dI) xcl (xt cI cB cJ cZ cQ) [.ref ((a 100)), .int v1] sz (wC a v cI cB cJ cZ cQ s)) (xk_Qv (dC, dI) xcl (xt cI cB cJ cZ cQ) (fun _ : Unit => True) (fun u : Unit => (wC a v cI cB cJ cZ cQ y.2)) (va_A (wC a v cI cB cJ cZ cQ s) sz)) 0 0 (va_A (wC a v cI cB cJ cZ cQ s) sz) := by
  refine dc_of (QA := xk_Qv (dC, dI) xcl (xt cI cB cJ cZ cQ) (fun _ : Unit => True) (fun u : Unit => (wC a v cI cB cJ cZ cQ y.2))) (by decide) (Nat.le_of_ble_eq_true rfl) ?_
  intro p e s0 m below meth c hx hb hml hown hg hr hlocks hin hP hK hN A hA hD hT ls hl
  have hown : s0.vm.findClass rn_C = some m.cls := hown
  obtain ⟨H, hH⟩ : ∃ z, z = s0.heap := ⟨_, rfl⟩
  rw [← hH] at hP
  have hS : va_S A s0.heap H [] := by rw [hH]; exact va_S.rf
  suffices kk : ∀ QQ : State → Prop, QQ = MQ below (xk_Qv (dC, dI) xcl (xt cI cB cJ cZ cQ) (fun _ : Unit => True) (fun u : Unit => (wC a v cI cB cJ cZ cQ y.2)) A) [.ref ((a 100)), .int v1].toArray s0 0 0 A → dcC p l e ({ frames := 0, cells := 0, slots := 0, locals := 0 }) s0 m [.ref ((a 100)), .int v1].toArray below meth c QQ (dC, dI) A (wC a v cI cB cJ cZ cQ s) 0 2 [(0, .ref ((a 100))), (1, .int v1)] [] by
    have k9 := kk _ rfl H [] ls hP hD hS hl
    rw [hH] at k9; exact k9
  clear hP hD hS hl hH H ls
  intro QQ hQQ
  have bl_12 : ∀ (s : ms), bk_C_end_C_12 N s = some y → dcC p l e ({ frames := 0, cells := 0, slots := 0, locals := 0 }) s0 m [.ref ((a 100)), .int v1].toArray below meth c QQ (dC, dI) A (wC a v cI cB cJ cZ cQ s) 12 2 [] [] := by
    intro s hf H locs ls hP hD hS hl
    unfold bk_C_end_C_12 at hf
    cases hf
  intro H locs ls hP hD hS hl
  unfold fn_C_end_C at hf
  refine lv_iload_n hx hb dn_C_end_0 rfl (lv_at hl 1 rfl) ?_
  refine lv_if_lt (tgt := 12) hx hb dn_C_end_1 (by decide) (fun h => ?_) (fun h => ?_)
  · have hf := (if_pos h).symm.trans hf
    exact bl_12 s hf H locs ls hP hD hS (lv_sub hl [] rfl)
  · have hf := (if_neg h).symm.trans hf
    refine lv_iload_n hx hb dn_C_end_4 rfl (lv_at hl 1 rfl) ?_
    refine lv_aload_n hx hb dn_C_end_5 rfl (lv_at hl 0 rfl) ?_
    refine va_get (D := (dC, dI)) (ci := 1) (v := .int ((s.1 200 0))) (C := rn_C) (T := fn_C) (N := 11) hx hb hg in_C hown hK hP 0 rfl rfl 0 (by decide) (hg _ wn_3_125) (fun _ h9 => h9) rfl dn_C_end_6 ?_
    refine lv_icmp_le (tgt := 20) hx hb dn_C_end_9 (by decide) (fun h => ?_) (fun h => ?_)
    · have hf := (if_pos h).symm.trans hf
      refine lv_aload_n hx hb dn_C_end_20 rfl (lv_at hl 0 rfl) ?_
      refine lv_iload_n hx hb dn_C_end_21 rfl (lv_at hl 1 rfl) ?_
      refine va_put (D := (dC, dI)) (ci := 1) (v := .int v1) (ty := .int) (C := rn_C) (T := fn_C) (N := 11) hx hb hg in_C tn_C tk_C nn_C hown hK hP hD hS 0 rfl rfl 0 (by decide) (hg _ wn_3_125) (fun _ h9 => h9) rfl (tk_C 0 (by decide)) rfl rfl (Nat.le_of_ble_eq_true rfl) dn_C_end_22 (fun H locs hP hD hS => ?_)
      have hP := wC_P_200 hP
      have hD := wC_D_200 hD
      rw [hQQ, ← Option.some.inj hf]
      exact xk_vret (w1 := fun u : Unit => (wC a v cI cB cJ cZ cQ (upI s 200 (fun _ => v1)))) () hx hb hr hlocks hK hS dn_C_end_25 hP hD trivial (Nat.le_refl _) (Nat.le_refl _)
    · have hf := (if_neg h).symm.trans hf
      exact bl_12 s hf H locs ls hP hD hS (lv_sub hl [] rfl)
set_option maxHeartbeats 8000000 in
set_option maxRecDepth 100000 in
theorem ct_C_count_C (l : Launch) (dC : Nat → ClassId) (dI : Nat → Nat → Nat) (cI cB cJ cZ cQ : ClassId) (N sz : Nat) (a : Nat → Nat) (v : Nat → Value) (v1 : Int32) (s : ms) (y : (Int32 × ms)) (hf : fn_C_count_C N v1 s = some y) : Met l yn_C_count (xw yn_C_count bn_C_count 3 (some .int)) ({ frames := 3, cells := 0, slots := 0, locals := 64 }) (dc_P (dC, dI) xcl (xt cI cB cJ cZ cQ) [.ref ((a 100)), .int v1] sz (wC a v cI cB cJ cZ cQ s)) (xk_Qi (dC, dI) xcl (xt cI cB cJ cZ cQ) (fun (r : Int32) (_ : Unit) => r = y.1) (fun u : Unit => (wC a v cI cB cJ cZ cQ y.2)) (va_A (wC a v cI cB cJ cZ cQ s) sz)) 0 0 (va_A (wC a v cI cB cJ cZ cQ s) sz) := by
  refine dc_of (QA := xk_Qi (dC, dI) xcl (xt cI cB cJ cZ cQ) (fun (r : Int32) (_ : Unit) => r = y.1) (fun u : Unit => (wC a v cI cB cJ cZ cQ y.2))) (by decide) (Nat.le_of_ble_eq_true rfl) ?_
  intro p e s0 m below meth c hx hb hml hown hg hr hlocks hin hP hK hN A hA hD hT ls hl
  have hown : s0.vm.findClass rn_C = some m.cls := hown
  obtain ⟨H, hH⟩ : ∃ z, z = s0.heap := ⟨_, rfl⟩
  rw [← hH] at hP
  have hS : va_S A s0.heap H [] := by rw [hH]; exact va_S.rf
  suffices kk : ∀ QQ : State → Prop, QQ = MQ below (xk_Qi (dC, dI) xcl (xt cI cB cJ cZ cQ) (fun (r : Int32) (_ : Unit) => r = y.1) (fun u : Unit => (wC a v cI cB cJ cZ cQ y.2)) A) [.ref ((a 100)), .int v1].toArray s0 0 0 A → dcC p l e ({ frames := 3, cells := 0, slots := 0, locals := 64 }) s0 m [.ref ((a 100)), .int v1].toArray below meth c QQ (dC, dI) A (wC a v cI cB cJ cZ cQ s) 0 3 [(0, .ref ((a 100))), (1, .int v1)] [] by
    have k9 := kk _ rfl H [] ls hP hD hS hl
    rw [hH] at k9; exact k9
  clear hP hD hS hl hH H ls
  intro QQ hQQ
  intro H locs ls hP hD hS hl
  unfold fn_C_count_C at hf
  refine lv_aload_n hx hb dn_C_count_0 rfl (lv_at hl 0 rfl) ?_
  refine va_get (D := (dC, dI)) (ci := 1) (v := .int ((s.1 208 0))) (C := rn_C) (T := fn_C) (N := 11) hx hb hg in_C hown hK hP 0 rfl rfl 8 (by decide) (hg _ wn_3_133) (fun _ h9 => h9) rfl dn_C_count_1 ?_
  refine lv_if_ne (tgt := 15) hx hb dn_C_count_4 (by decide) (fun h => ?_) (fun h => ?_)
  · have hf := (if_neg h).symm.trans hf
    refine lv_aload_n hx hb dn_C_count_15 rfl (lv_at hl 0 rfl) ?_
    refine va_get (D := (dC, dI)) (ci := 1) (v := .ref ((a 112))) (C := rn_C) (T := fn_C) (N := 11) hx hb hg in_C hown hK hP 0 rfl rfl 9 (by decide) (hg _ wn_3_134) (fun _ h9 => h9) rfl dn_C_count_16 ?_
    refine va_get (D := (dC, dI)) (ci := 9) (v := .ref ((a 113))) (C := rn_Circuit) (T := fn_Circuit) (N := 14) hx hb hg in_Circuit hown hK hP 12 rfl rfl 0 (by decide) (hg _ wn_3_62) (fun _ h9 => h9) rfl dn_C_count_19 ?_
    refine lv_astore_n (lv' := [(2, .ref ((a 113))), (0, .ref ((a 100))), (1, .int v1)]) hx hb dn_C_count_22 rfl hl (by decide) rfl (fun ls hl => ?_)
    refine lv_iload_n hx hb dn_C_count_23 rfl (lv_at hl 2 rfl) ?_
    by_cases h_0 : v1 = 0
    · have hf := (if_pos h_0).symm.trans hf
      refine xk_ti (y := 0) h_0 ?_
      refine lv_tableIn (tgt := 68) hx hb dn_C_count_24 (by decide) (by decide) rfl (by decide) ?_
      refine lv_aload_n hx hb dn_C_count_68 rfl (lv_at hl 0 rfl) ?_
      refine va_get (D := (dC, dI)) (ci := 10) (v := .int ((s.1 359 0))) (C := rn_Design) (T := fn_Design) (N := 16) hx hb hg in_Design hown hK hP 13 rfl rfl 4 (by decide) (hg _ wn_3_11) (fun _ h9 => h9) rfl dn_C_count_69 ?_
      rw [hQQ, ← Option.some.inj hf]
      exact xk_iret (w1 := fun u : Unit => (wC a v cI cB cJ cZ cQ s)) () hx hb hr hlocks hK hS dn_C_count_72 hP hD rfl (Nat.le_refl _) (Nat.le_refl _)
    have hf := (if_neg h_0).symm.trans hf
    by_cases h_1 : v1 = 1
    · have hf := (if_pos h_1).symm.trans hf
      refine xk_ti (y := 1) h_1 ?_
      refine lv_tableIn (tgt := 73) hx hb dn_C_count_24 (by decide) (by decide) rfl (by decide) ?_
      refine lv_aload_n hx hb dn_C_count_73 rfl (lv_at hl 1 rfl) ?_
      refine va_get (D := (dC, dI)) (ci := 1) (v := .ref ((a 112))) (C := rn_C) (T := fn_C) (N := 11) hx hb hg in_C hown hK hP 0 rfl rfl 9 (by decide) (hg _ wn_3_134) (fun _ h9 => h9) rfl dn_C_count_74 ?_
      refine va_get (D := (dC, dI)) (ci := 9) (v := .int ((s.1 342 0))) (C := rn_Circuit) (T := fn_Circuit) (N := 14) hx hb hg in_Circuit hown hK hP 12 rfl rfl 1 (by decide) (hg _ wn_3_66) (fun _ h9 => h9) rfl dn_C_count_77 ?_
      refine lv_iconst (v := 1) hx hb dn_C_count_80 (by decide) ?_
      refine lv_isub hx hb dn_C_count_81 ?_
      rw [hQQ, ← Option.some.inj hf]
      exact xk_iret (w1 := fun u : Unit => (wC a v cI cB cJ cZ cQ s)) () hx hb hr hlocks hK hS dn_C_count_82 hP hD rfl (Nat.le_refl _) (Nat.le_refl _)
    have hf := (if_neg h_1).symm.trans hf
    by_cases h_2 : v1 = 2
    · have hf := (if_pos h_2).symm.trans hf
      refine xk_ti (y := 2) h_2 ?_
      refine lv_tableIn (tgt := 83) hx hb dn_C_count_24 (by decide) (by decide) rfl (by decide) ?_
      refine lv_aload_n hx hb dn_C_count_83 rfl (lv_at hl 1 rfl) ?_
      refine va_get (D := (dC, dI)) (ci := 1) (v := .ref ((a 112))) (C := rn_C) (T := fn_C) (N := 11) hx hb hg in_C hown hK hP 0 rfl rfl 9 (by decide) (hg _ wn_3_134) (fun _ h9 => h9) rfl dn_C_count_84 ?_
      refine va_get (D := (dC, dI)) (ci := 9) (v := .int ((s.1 343 0))) (C := rn_Circuit) (T := fn_Circuit) (N := 14) hx hb hg in_Circuit hown hK hP 12 rfl rfl 2 (by decide) (hg _ wn_3_71) (fun _ h9 => h9) rfl dn_C_count_87 ?_
      rw [hQQ, ← Option.some.inj hf]
      exact xk_iret (w1 := fun u : Unit => (wC a v cI cB cJ cZ cQ s)) () hx hb hr hlocks hK hS dn_C_count_90 hP hD rfl (Nat.le_refl _) (Nat.le_refl _)
    have hf := (if_neg h_2).symm.trans hf
    by_cases h_3 : v1 = 3
    · have hf := (if_pos h_3).symm.trans hf
      refine xk_ti (y := 3) h_3 ?_
      refine lv_tableIn (tgt := 91) hx hb dn_C_count_24 (by decide) (by decide) rfl (by decide) ?_
      refine lv_aload_n hx hb dn_C_count_91 rfl (lv_at hl 0 rfl) ?_
      refine lv_iconst (v := 2) hx hb dn_C_count_92 (by decide) ?_
      obtain ⟨q_1, hc_2, hf⟩ := dc_b hf
      refine dc_calli (dc_runV (ar := 1) (As := [.int 2]) (rest := []) (ci := 10) (q0 := 13) ⟨hx, hb, hml, hown, hg⟩ hK hN hT hS hA (ct_Design_sumOfTop_Dc l dC dI cI cB cJ cZ cQ N H.size a v 2 s q_1 hc_2) hP hD rfl rfl wn_7_143 wn_6_177 wn_6_178 wn_1_10 wn_6_179 rfl rfl (by decide +kernel) ⟨Nat.le_of_ble_eq_true rfl, Nat.le_of_ble_eq_true rfl⟩ rfl hl.1 rfl (Nat.le_of_ble_eq_true rfl) dn_C_count_93 ⟨Nat.le_of_ble_eq_true rfl, Nat.le_of_ble_eq_true rfl⟩) hP hD hS hA (fun r_3 _ H locs hw hP hD hS => ?_)
      have hw : r_3 = q_1.1 := hw
      subst hw
      rw [hQQ, ← Option.some.inj hf]
      exact xk_iret (w1 := fun u : Unit => (wC a v cI cB cJ cZ cQ q_1.2)) () hx hb hr hlocks hK hS dn_C_count_96 hP hD rfl (Nat.le_refl _) (Nat.le_refl _)
    have hf := (if_neg h_3).symm.trans hf
    by_cases h_4 : v1 = 4
    · have hf := (if_pos h_4).symm.trans hf
      refine xk_ti (y := 4) h_4 ?_
      refine lv_tableIn (tgt := 97) hx hb dn_C_count_24 (by decide) (by decide) rfl (by decide) ?_
      refine lv_aload_n hx hb dn_C_count_97 rfl (lv_at hl 0 rfl) ?_
      refine va_get (D := (dC, dI)) (ci := 10) (v := .int ((s.1 360 0))) (C := rn_Design) (T := fn_Design) (N := 16) hx hb hg in_Design hown hK hP 13 rfl rfl 5 (by decide) (hg _ wn_3_14) (fun _ h9 => h9) rfl dn_C_count_98 ?_
      rw [hQQ, ← Option.some.inj hf]
      exact xk_iret (w1 := fun u : Unit => (wC a v cI cB cJ cZ cQ s)) () hx hb hr hlocks hK hS dn_C_count_101 hP hD rfl (Nat.le_refl _) (Nat.le_refl _)
    have hf := (if_neg h_4).symm.trans hf
    by_cases h_5 : v1 = 5
    · have hf := (if_pos h_5).symm.trans hf
      refine xk_ti (y := 5) h_5 ?_
      refine lv_tableIn (tgt := 102) hx hb dn_C_count_24 (by decide) (by decide) rfl (by decide) ?_
      refine lv_aload_n hx hb dn_C_count_102 rfl (lv_at hl 0 rfl) ?_
      refine lv_iconst (v := 3) hx hb dn_C_count_103 (by decide) ?_
      obtain ⟨q_1, hc_2, hf⟩ := dc_b hf
      refine dc_calli (dc_runV (ar := 1) (As := [.int 3]) (rest := []) (ci := 10) (q0 := 13) ⟨hx, hb, hml, hown, hg⟩ hK hN hT hS hA (ct_Design_sumOfTop_Dc l dC dI cI cB cJ cZ cQ N H.size a v 3 s q_1 hc_2) hP hD rfl rfl wn_7_143 wn_6_177 wn_6_178 wn_1_10 wn_6_179 rfl rfl (by decide +kernel) ⟨Nat.le_of_ble_eq_true rfl, Nat.le_of_ble_eq_true rfl⟩ rfl hl.1 rfl (Nat.le_of_ble_eq_true rfl) dn_C_count_104 ⟨Nat.le_of_ble_eq_true rfl, Nat.le_of_ble_eq_true rfl⟩) hP hD hS hA (fun r_3 _ H locs hw hP hD hS => ?_)
      have hw : r_3 = q_1.1 := hw
      subst hw
      rw [hQQ, ← Option.some.inj hf]
      exact xk_iret (w1 := fun u : Unit => (wC a v cI cB cJ cZ cQ q_1.2)) () hx hb hr hlocks hK hS dn_C_count_107 hP hD rfl (Nat.le_refl _) (Nat.le_refl _)
    have hf := (if_neg h_5).symm.trans hf
    by_cases h_6 : v1 = 6
    · have hf := (if_pos h_6).symm.trans hf
      refine xk_ti (y := 6) h_6 ?_
      refine lv_tableIn (tgt := 108) hx hb dn_C_count_24 (by decide) (by decide) rfl (by decide) ?_
      refine lv_aload_n hx hb dn_C_count_108 rfl (lv_at hl 0 rfl) ?_
      refine lv_iconst (v := 4) hx hb dn_C_count_109 (by decide) ?_
      obtain ⟨q_1, hc_2, hf⟩ := dc_b hf
      refine dc_calli (dc_runV (ar := 1) (As := [.int 4]) (rest := []) (ci := 10) (q0 := 13) ⟨hx, hb, hml, hown, hg⟩ hK hN hT hS hA (ct_Design_sumOfTop_Dc l dC dI cI cB cJ cZ cQ N H.size a v 4 s q_1 hc_2) hP hD rfl rfl wn_7_143 wn_6_177 wn_6_178 wn_1_10 wn_6_179 rfl rfl (by decide +kernel) ⟨Nat.le_of_ble_eq_true rfl, Nat.le_of_ble_eq_true rfl⟩ rfl hl.1 rfl (Nat.le_of_ble_eq_true rfl) dn_C_count_110 ⟨Nat.le_of_ble_eq_true rfl, Nat.le_of_ble_eq_true rfl⟩) hP hD hS hA (fun r_3 _ H locs hw hP hD hS => ?_)
      have hw : r_3 = q_1.1 := hw
      subst hw
      rw [hQQ, ← Option.some.inj hf]
      exact xk_iret (w1 := fun u : Unit => (wC a v cI cB cJ cZ cQ q_1.2)) () hx hb hr hlocks hK hS dn_C_count_113 hP hD rfl (Nat.le_refl _) (Nat.le_refl _)
    have hf := (if_neg h_6).symm.trans hf
    refine lv_tableOut (tgt := 114) hx hb dn_C_count_24 (dc_out (fun k h1 h2 => by rcases (show k = 0 ∨ k = 1 ∨ k = 2 ∨ k = 3 ∨ k = 4 ∨ k = 5 ∨ k = 6 by omega) with rfl | rfl | rfl | rfl | rfl | rfl | rfl <;> first | exact lv_neT h_0 (by decide) | exact lv_neT h_1 (by decide) | exact lv_neT h_2 (by decide) | exact lv_neT h_3 (by decide) | exact lv_neT h_4 (by decide) | exact lv_neT h_5 (by decide) | exact lv_neT h_6 (by decide)) (by decide)) (by decide) ?_
    cases hf
  · have hf := (if_pos h).symm.trans hf
    cases hf
set_option maxHeartbeats 8000000 in
set_option maxRecDepth 100000 in
theorem ct_Design_isCalled_Dc_307 (l : Launch) (dC : Nat → ClassId) (dI : Nat → Nat → Nat) (cI cB cJ cZ cQ : ClassId) (N sz : Nat) (a : Nat → Nat) (v : Nat → Value) (v1 : Int32) (v3 : Int32) (v4 : Int32) (s : ms) (y : (Int32 × ms)) (hf : fn_Design_isCalled_Dc_307 N v1 v3 v4 s = some y) : Met l yn_Design_isCalled (xw yn_Design_isCalled bn_Design_isCalled 7 (some .boolean)) ({ frames := 2, cells := 0, slots := 0, locals := 40 }) (dc_P (dC, dI) xcl (xt cI cB cJ cZ cQ) [.ref ((a 113)), .int v1, .ref ((a 307)), .int v3, .int v4] sz (wC a v cI cB cJ cZ cQ s)) (xk_Qi (dC, dI) xcl (xt cI cB cJ cZ cQ) (fun (r : Int32) (_ : Unit) => r = y.1) (fun u : Unit => (wC a v cI cB cJ cZ cQ y.2)) (va_A (wC a v cI cB cJ cZ cQ s) sz)) 0 0 (va_A (wC a v cI cB cJ cZ cQ s) sz) := by
  refine dc_of (QA := xk_Qi (dC, dI) xcl (xt cI cB cJ cZ cQ) (fun (r : Int32) (_ : Unit) => r = y.1) (fun u : Unit => (wC a v cI cB cJ cZ cQ y.2))) (by decide) (Nat.le_of_ble_eq_true rfl) ?_
  intro p e s0 m below meth c hx hb hml hown hg hr hlocks hin hP hK hN A hA hD hT ls hl
  have hown : s0.vm.findClass rn_Design = some m.cls := hown
  obtain ⟨H, hH⟩ : ∃ z, z = s0.heap := ⟨_, rfl⟩
  rw [← hH] at hP
  have hS : va_S A s0.heap H [] := by rw [hH]; exact va_S.rf
  suffices kk : ∀ QQ : State → Prop, QQ = MQ below (xk_Qi (dC, dI) xcl (xt cI cB cJ cZ cQ) (fun (r : Int32) (_ : Unit) => r = y.1) (fun u : Unit => (wC a v cI cB cJ cZ cQ y.2)) A) [.ref ((a 113)), .int v1, .ref ((a 307)), .int v3, .int v4].toArray s0 0 0 A → dcC p l e ({ frames := 2, cells := 0, slots := 0, locals := 40 }) s0 m [.ref ((a 113)), .int v1, .ref ((a 307)), .int v3, .int v4].toArray below meth c QQ (dC, dI) A (wC a v cI cB cJ cZ cQ s) 0 7 [(0, .ref ((a 113))), (1, .int v1), (2, .ref ((a 307))), (3, .int v3), (4, .int v4)] [] by
    have k9 := kk _ rfl H [] ls hP hD hS hl
    rw [hH] at k9; exact k9
  clear hP hD hS hl hH H ls
  intro QQ hQQ
  have hd_37 : ∀ (n : Nat) (x1 : Int32) (x3 : Int32) (x5 : Int32) (x6 : Int32) (s : ms), hd_Design_isCalled_Dc_307_37 N n x1 x3 x5 x6 s = some y → dcC p l e ({ frames := 2, cells := 0, slots := 0, locals := 40 }) s0 m [.ref ((a 113)), .int v1, .ref ((a 307)), .int v3, .int v4].toArray below meth c QQ (dC, dI) A (wC a v cI cB cJ cZ cQ s) 37 7 [(0, .ref ((a 113))), (1, .int x1), (2, .ref ((a 307))), (3, .int x3), (5, .int x5), (6, .int x6)] [] := by
    intro n
    induction n with
    | zero => intro x1 x3 x5 x6 s hf; cases hf
    | succ n ih =>
      intro x1 x3 x5 x6 s hf H locs ls hP hD hS hl
      have hf : bd_Design_isCalled_Dc_307_37 N (hd_Design_isCalled_Dc_307_37 N n) x1 x3 x5 x6 s = some y := hf
      have hk_37 := ih
      generalize hd_Design_isCalled_Dc_307_37 N n = k_37 at hf hk_37
      unfold bd_Design_isCalled_Dc_307_37 at hf
      refine lv_iload hx hb dn_Design_isCalled_37 (lv_at hl 5 rfl) ?_
      refine lv_iload hx hb dn_Design_isCalled_39 (lv_at hl 4 rfl) ?_
      refine lv_icmp_ge (tgt := 82) hx hb dn_Design_isCalled_41 (by decide) (fun h => ?_) (fun h => ?_)
      · have hf := (if_pos h).symm.trans hf
        refine lv_iload_n hx hb dn_Design_isCalled_82 rfl (lv_at hl 1 rfl) ?_
        refine lv_iload hx hb dn_Design_isCalled_83 (lv_at hl 4 rfl) ?_
        refine lv_iadd hx hb dn_Design_isCalled_85 ?_
        refine lv_aload_n hx hb dn_Design_isCalled_86 rfl (lv_at hl 0 rfl) ?_
        refine va_get (D := (dC, dI)) (ci := 10) (v := .int ((s.1 358 0))) (C := rn_Design) (T := fn_Design) (N := 16) hx hb hg in_Design hown hK hP 13 rfl rfl 3 (by decide) (hg _ wn_3_7) (fun _ h9 => h9) rfl dn_Design_isCalled_87 ?_
        refine lv_icmp_ge (tgt := 108) hx hb dn_Design_isCalled_90 (by decide) (fun h => ?_) (fun h => ?_)
        · have hf := (if_pos h).symm.trans hf
          refine lv_iconst (v := 1) hx hb dn_Design_isCalled_108 (by decide) ?_
          refine lv_goto (tgt := 113) hx hb dn_Design_isCalled_109 (by decide) ?_
          rw [hQQ, ← Option.some.inj hf]
          exact xk_zret (w1 := fun u : Unit => (wC a v cI cB cJ cZ cQ s)) () hx hb hr rfl hlocks hK hS dn_Design_isCalled_113 hP hD rfl (Nat.le_refl _) (Nat.le_refl _)
        · have hf := (if_neg h).symm.trans hf
          refine lv_aload_n hx hb dn_Design_isCalled_93 rfl (lv_at hl 0 rfl) ?_
          refine va_get (D := (dC, dI)) (ci := 10) (v := .ref ((a 357))) (C := rn_Design) (T := fn_Design) (N := 16) hx hb hg in_Design hown hK hP 13 rfl rfl 2 (by decide) (hg _ wn_3_4) (fun _ h9 => h9) rfl dn_Design_isCalled_94 ?_
          refine lv_iload_n hx hb dn_Design_isCalled_97 rfl (lv_at hl 1 rfl) ?_
          refine lv_iload hx hb dn_Design_isCalled_98 (lv_at hl 4 rfl) ?_
          refine lv_iadd hx hb dn_Design_isCalled_100 ?_
          obtain ⟨hg_1, hf⟩ := dc_g hf
          refine va_bald hx hb hK hP 86 1 rfl rfl hg_1 dn_Design_isCalled_101 ?_
          refine xk_ti (y := ((s.1 357) (Int32.toNatClampNeg ((x1 + x5))))) rfl ?_
          obtain ⟨q_2, hc_3, hf⟩ := dc_b hf
          refine dc_calli (dc_runSN (ar := 1) (As := [.int (((s.1 357) (Int32.toNatClampNeg ((x1 + x5)))))]) (rest := []) (host := "CircuitCycles") ⟨hx, hb, hml, hown, hg⟩ hK hN hT hS hA (ct_C_continuesWord l dC dI cI cB cJ cZ cQ N H.size a v (((s.1 357) (Int32.toNatClampNeg ((x1 + x5))))) s q_2 hc_3) hP hD nl_Design_120 wn_3_210 wn_1_1 wn_3_211 rfl rfl (by decide +kernel) ⟨Nat.le_of_ble_eq_true rfl, Nat.le_of_ble_eq_true rfl⟩ rfl hl.1 rfl (Nat.le_of_ble_eq_true rfl) dn_Design_isCalled_102 ⟨Nat.le_of_ble_eq_true rfl, Nat.le_of_ble_eq_true rfl⟩) hP hD hS hA (fun r_4 _ H locs hw hP hD hS => ?_)
          have hw : r_4 = q_2.1 := hw
          subst hw
          refine lv_if_ne (tgt := 112) hx hb dn_Design_isCalled_105 (by decide) (fun h => ?_) (fun h => ?_)
          · have hf := (if_neg h).symm.trans hf
            refine lv_iconst (v := 0) hx hb dn_Design_isCalled_112 (by decide) ?_
            rw [hQQ, ← Option.some.inj hf]
            exact xk_zret (w1 := fun u : Unit => (wC a v cI cB cJ cZ cQ q_2.2)) () hx hb hr rfl hlocks hK hS dn_Design_isCalled_113 hP hD rfl (Nat.le_refl _) (Nat.le_refl _)
          · have hf := (if_pos h).symm.trans hf
            refine lv_iconst (v := 1) hx hb dn_Design_isCalled_108 (by decide) ?_
            refine lv_goto (tgt := 113) hx hb dn_Design_isCalled_109 (by decide) ?_
            rw [hQQ, ← Option.some.inj hf]
            exact xk_zret (w1 := fun u : Unit => (wC a v cI cB cJ cZ cQ q_2.2)) () hx hb hr rfl hlocks hK hS dn_Design_isCalled_113 hP hD rfl (Nat.le_refl _) (Nat.le_refl _)
      · have hf := (if_neg h).symm.trans hf
        refine lv_aload_n hx hb dn_Design_isCalled_44 rfl (lv_at hl 2 rfl) ?_
        refine lv_iload_n hx hb dn_Design_isCalled_45 rfl (lv_at hl 3 rfl) ?_
        refine lv_iload hx hb dn_Design_isCalled_46 (lv_at hl 5 rfl) ?_
        refine lv_iadd hx hb dn_Design_isCalled_48 ?_
        obtain ⟨hg_1, hf⟩ := dc_g hf
        refine va_bald hx hb hK hP 52 1 rfl rfl hg_1 dn_Design_isCalled_49 ?_
        refine xk_ti (y := ((s.1 307) (Int32.toNatClampNeg ((x3 + x6))))) rfl ?_
        refine lv_aload_n hx hb dn_Design_isCalled_50 rfl (lv_at hl 0 rfl) ?_
        refine va_get (D := (dC, dI)) (ci := 10) (v := .ref ((a 357))) (C := rn_Design) (T := fn_Design) (N := 16) hx hb hg in_Design hown hK hP 13 rfl rfl 2 (by decide) (hg _ wn_3_4) (fun _ h9 => h9) rfl dn_Design_isCalled_51 ?_
        refine lv_iload_n hx hb dn_Design_isCalled_54 rfl (lv_at hl 1 rfl) ?_
        refine lv_iload hx hb dn_Design_isCalled_55 (lv_at hl 5 rfl) ?_
        refine lv_iadd hx hb dn_Design_isCalled_57 ?_
        obtain ⟨hg_2, hf⟩ := dc_g hf
        refine va_bald hx hb hK hP 86 1 rfl rfl hg_2 dn_Design_isCalled_58 ?_
        refine xk_ti (y := ((s.1 357) (Int32.toNatClampNeg ((x1 + x6))))) rfl ?_
        refine lv_icmp_ne (tgt := 74) hx hb dn_Design_isCalled_59 (by decide) (fun h => ?_) (fun h => ?_)
        · have hf := (if_neg h).symm.trans hf
          refine lv_iconst (v := 0) hx hb dn_Design_isCalled_74 (by decide) ?_
          rw [hQQ, ← Option.some.inj hf]
          exact xk_zret (w1 := fun u : Unit => (wC a v cI cB cJ cZ cQ s)) () hx hb hr rfl hlocks hK hS dn_Design_isCalled_75 hP hD rfl (Nat.le_refl _) (Nat.le_refl _)
        · have hf := (if_pos h).symm.trans hf
          refine lv_aload_n hx hb dn_Design_isCalled_62 rfl (lv_at hl 2 rfl) ?_
          refine lv_iload_n hx hb dn_Design_isCalled_63 rfl (lv_at hl 3 rfl) ?_
          refine lv_iload hx hb dn_Design_isCalled_64 (lv_at hl 5 rfl) ?_
          refine lv_iadd hx hb dn_Design_isCalled_66 ?_
          obtain ⟨hg_3, hf⟩ := dc_g hf
          refine va_bald hx hb hK hP 52 1 rfl rfl hg_3 dn_Design_isCalled_67 ?_
          refine xk_ti (y := ((s.1 307) (Int32.toNatClampNeg ((x3 + x6))))) rfl ?_
          obtain ⟨q_4, hc_5, hf⟩ := dc_b hf
          refine dc_calli (dc_runSN (ar := 1) (As := [.int (((s.1 307) (Int32.toNatClampNeg ((x3 + x6)))))]) (rest := []) (host := "CircuitCycles") ⟨hx, hb, hml, hown, hg⟩ hK hN hT hS hA (ct_C_continuesWord l dC dI cI cB cJ cZ cQ N H.size a v (((s.1 307) (Int32.toNatClampNeg ((x3 + x6))))) s q_4 hc_5) hP hD nl_Design_120 wn_3_210 wn_1_1 wn_3_211 rfl rfl (by decide +kernel) ⟨Nat.le_of_ble_eq_true rfl, Nat.le_of_ble_eq_true rfl⟩ rfl hl.1 rfl (Nat.le_of_ble_eq_true rfl) dn_Design_isCalled_68 ⟨Nat.le_of_ble_eq_true rfl, Nat.le_of_ble_eq_true rfl⟩) hP hD hS hA (fun r_6 _ H locs hw hP hD hS => ?_)
          have hw : r_6 = q_4.1 := hw
          subst hw
          refine lv_if_ne (tgt := 76) hx hb dn_Design_isCalled_71 (by decide) (fun h => ?_) (fun h => ?_)
          · have hf := (if_neg h).symm.trans hf
            refine lv_iinc (v := (x6 + 1)) (lv' := [(6, .int ((x6 + 1))), (0, .ref ((a 113))), (1, .int x1), (2, .ref ((a 307))), (3, .int x3), (5, .int x5)]) hx hb dn_Design_isCalled_76 hl (k := 5) rfl (dc_inc (by decide)) (by decide) rfl (fun ls hl => ?_)
            refine lv_goto (tgt := 37) hx hb dn_Design_isCalled_79 (by decide) ?_
            exact hk_37 x1 x3 x5 ((x6 + 1)) q_4.2 hf H locs ls hP hD hS (lv_sub hl [1, 2, 3, 4, 5, 0] rfl)
          · have hf := (if_pos h).symm.trans hf
            refine lv_iconst (v := 0) hx hb dn_Design_isCalled_74 (by decide) ?_
            rw [hQQ, ← Option.some.inj hf]
            exact xk_zret (w1 := fun u : Unit => (wC a v cI cB cJ cZ cQ q_4.2)) () hx hb hr rfl hlocks hK hS dn_Design_isCalled_75 hP hD rfl (Nat.le_refl _) (Nat.le_refl _)
  intro H locs ls hP hD hS hl
  unfold fn_Design_isCalled_Dc_307 at hf
  refine lv_iload hx hb dn_Design_isCalled_0 (lv_at hl 4 rfl) ?_
  refine lv_iload_n hx hb dn_Design_isCalled_2 rfl (lv_at hl 3 rfl) ?_
  refine lv_isub hx hb dn_Design_isCalled_3 ?_
  refine lv_istore (lv' := [(5, .int ((v4 - v3))), (0, .ref ((a 113))), (1, .int v1), (2, .ref ((a 307))), (3, .int v3), (4, .int v4)]) hx hb dn_Design_isCalled_4 hl (by decide) rfl (fun ls hl => ?_)
  refine lv_iload_n hx hb dn_Design_isCalled_6 rfl (lv_at hl 2 rfl) ?_
  refine lv_if_lt (tgt := 32) hx hb dn_Design_isCalled_7 (by decide) (fun h => ?_) (fun h => ?_)
  · have hf := (if_pos h).symm.trans hf
    refine lv_iconst (v := 0) hx hb dn_Design_isCalled_32 (by decide) ?_
    rw [hQQ, ← Option.some.inj hf]
    exact xk_zret (w1 := fun u : Unit => (wC a v cI cB cJ cZ cQ s)) () hx hb hr rfl hlocks hK hS dn_Design_isCalled_33 hP hD rfl (Nat.le_refl _) (Nat.le_refl _)
  · have hf := (if_neg h).symm.trans hf
    refine lv_iload_n hx hb dn_Design_isCalled_10 rfl (lv_at hl 4 rfl) ?_
    refine lv_if_lt (tgt := 32) hx hb dn_Design_isCalled_11 (by decide) (fun h => ?_) (fun h => ?_)
    · have hf := (if_pos h).symm.trans hf
      refine lv_iconst (v := 0) hx hb dn_Design_isCalled_32 (by decide) ?_
      rw [hQQ, ← Option.some.inj hf]
      exact xk_zret (w1 := fun u : Unit => (wC a v cI cB cJ cZ cQ s)) () hx hb hr rfl hlocks hK hS dn_Design_isCalled_33 hP hD rfl (Nat.le_refl _) (Nat.le_refl _)
    · have hf := (if_neg h).symm.trans hf
      refine lv_iload hx hb dn_Design_isCalled_14 (lv_at hl 5 rfl) ?_
      refine lv_aload_n hx hb dn_Design_isCalled_16 rfl (lv_at hl 3 rfl) ?_
      refine va_alen (v := 65536) hx hb hK hP 52 1 rfl rfl rfl dn_Design_isCalled_17 ?_
      refine lv_icmp_gt (tgt := 32) hx hb dn_Design_isCalled_18 (by decide) (fun h => ?_) (fun h => ?_)
      · have hf := (if_pos h).symm.trans hf
        refine lv_iconst (v := 0) hx hb dn_Design_isCalled_32 (by decide) ?_
        rw [hQQ, ← Option.some.inj hf]
        exact xk_zret (w1 := fun u : Unit => (wC a v cI cB cJ cZ cQ s)) () hx hb hr rfl hlocks hK hS dn_Design_isCalled_33 hP hD rfl (Nat.le_refl _) (Nat.le_refl _)
      · have hf := (if_neg h).symm.trans hf
        refine lv_iload_n hx hb dn_Design_isCalled_21 rfl (lv_at hl 2 rfl) ?_
        refine lv_iload hx hb dn_Design_isCalled_22 (lv_at hl 0 rfl) ?_
        refine lv_iadd hx hb dn_Design_isCalled_24 ?_
        refine lv_aload_n hx hb dn_Design_isCalled_25 rfl (lv_at hl 1 rfl) ?_
        refine va_get (D := (dC, dI)) (ci := 10) (v := .int ((s.1 358 0))) (C := rn_Design) (T := fn_Design) (N := 16) hx hb hg in_Design hown hK hP 13 rfl rfl 3 (by decide) (hg _ wn_3_7) (fun _ h9 => h9) rfl dn_Design_isCalled_26 ?_
        refine lv_icmp_le (tgt := 34) hx hb dn_Design_isCalled_29 (by decide) (fun h => ?_) (fun h => ?_)
        · have hf := (if_pos h).symm.trans hf
          refine lv_iconst (v := 0) hx hb dn_Design_isCalled_34 (by decide) ?_
          refine lv_istore (lv' := [(6, .int 0), (5, .int ((v4 - v3))), (0, .ref ((a 113))), (1, .int v1), (2, .ref ((a 307))), (3, .int v3), (4, .int v4)]) hx hb dn_Design_isCalled_35 hl (by decide) rfl (fun ls hl => ?_)
          exact hd_37 N v1 v3 ((v4 - v3)) 0 s hf H locs ls hP hD hS (lv_sub hl [2, 3, 4, 5, 1, 0] rfl)
        · have hf := (if_neg h).symm.trans hf
          refine lv_iconst (v := 0) hx hb dn_Design_isCalled_32 (by decide) ?_
          rw [hQQ, ← Option.some.inj hf]
          exact xk_zret (w1 := fun u : Unit => (wC a v cI cB cJ cZ cQ s)) () hx hb hr rfl hlocks hK hS dn_Design_isCalled_33 hP hD rfl (Nat.le_refl _) (Nat.le_refl _)
set_option maxHeartbeats 8000000 in
set_option maxRecDepth 100000 in
theorem ct_Circuit_childCalled_Cc_307 (l : Launch) (dC : Nat → ClassId) (dI : Nat → Nat → Nat) (cI cB cJ cZ cQ : ClassId) (N sz : Nat) (a : Nat → Nat) (v : Nat → Value) (v1 : Int32) (v3 : Int32) (v4 : Int32) (s : ms) (y : (Int32 × ms)) (hf : fn_Circuit_childCalled_Cc_307 N v1 v3 v4 s = some y) : Met l yn_Circuit_childCalled (xw yn_Circuit_childCalled bn_Circuit_childCalled 6 (some .int)) ({ frames := 3, cells := 0, slots := 0, locals := 66 }) (dc_P (dC, dI) xcl (xt cI cB cJ cZ cQ) [.ref ((a 112)), .int v1, .ref ((a 307)), .int v3, .int v4] sz (wC a v cI cB cJ cZ cQ s)) (xk_Qi (dC, dI) xcl (xt cI cB cJ cZ cQ) (fun (r : Int32) (_ : Unit) => r = y.1) (fun u : Unit => (wC a v cI cB cJ cZ cQ y.2)) (va_A (wC a v cI cB cJ cZ cQ s) sz)) 0 0 (va_A (wC a v cI cB cJ cZ cQ s) sz) := by
  refine dc_of (QA := xk_Qi (dC, dI) xcl (xt cI cB cJ cZ cQ) (fun (r : Int32) (_ : Unit) => r = y.1) (fun u : Unit => (wC a v cI cB cJ cZ cQ y.2))) (by decide) (Nat.le_of_ble_eq_true rfl) ?_
  intro p e s0 m below meth c hx hb hml hown hg hr hlocks hin hP hK hN A hA hD hT ls hl
  have hown : s0.vm.findClass rn_Circuit = some m.cls := hown
  obtain ⟨H, hH⟩ : ∃ z, z = s0.heap := ⟨_, rfl⟩
  rw [← hH] at hP
  have hS : va_S A s0.heap H [] := by rw [hH]; exact va_S.rf
  suffices kk : ∀ QQ : State → Prop, QQ = MQ below (xk_Qi (dC, dI) xcl (xt cI cB cJ cZ cQ) (fun (r : Int32) (_ : Unit) => r = y.1) (fun u : Unit => (wC a v cI cB cJ cZ cQ y.2)) A) [.ref ((a 112)), .int v1, .ref ((a 307)), .int v3, .int v4].toArray s0 0 0 A → dcC p l e ({ frames := 3, cells := 0, slots := 0, locals := 66 }) s0 m [.ref ((a 112)), .int v1, .ref ((a 307)), .int v3, .int v4].toArray below meth c QQ (dC, dI) A (wC a v cI cB cJ cZ cQ s) 0 6 [(0, .ref ((a 112))), (1, .int v1), (2, .ref ((a 307))), (3, .int v3), (4, .int v4)] [] by
    have k9 := kk _ rfl H [] ls hP hD hS hl
    rw [hH] at k9; exact k9
  clear hP hD hS hl hH H ls
  intro QQ hQQ
  have hd_5 : ∀ (n : Nat) (x1 : Int32) (x3 : Int32) (x4 : Int32) (x5 : Int32) (s : ms), hd_Circuit_childCalled_Cc_307_5 N n x1 x3 x4 x5 s = some y → dcC p l e ({ frames := 3, cells := 0, slots := 0, locals := 66 }) s0 m [.ref ((a 112)), .int v1, .ref ((a 307)), .int v3, .int v4].toArray below meth c QQ (dC, dI) A (wC a v cI cB cJ cZ cQ s) 5 6 [(0, .ref ((a 112))), (1, .int x1), (2, .ref ((a 307))), (3, .int x3), (4, .int x4), (5, .int x5)] [] := by
    intro n
    induction n with
    | zero => intro x1 x3 x4 x5 s hf; cases hf
    | succ n ih =>
      intro x1 x3 x4 x5 s hf H locs ls hP hD hS hl
      have hf : bd_Circuit_childCalled_Cc_307_5 N (hd_Circuit_childCalled_Cc_307_5 N n) x1 x3 x4 x5 s = some y := hf
      have hk_5 := ih
      generalize hd_Circuit_childCalled_Cc_307_5 N n = k_5 at hf hk_5
      unfold bd_Circuit_childCalled_Cc_307_5 at hf
      refine lv_iload hx hb dn_Circuit_childCalled_5 (lv_at hl 5 rfl) ?_
      refine lv_aload_n hx hb dn_Circuit_childCalled_7 rfl (lv_at hl 0 rfl) ?_
      refine va_get (D := (dC, dI)) (ci := 9) (v := .int ((s.1 342 0))) (C := rn_Circuit) (T := fn_Circuit) (N := 14) hx hb hg in_Circuit hown hK hP 12 rfl rfl 1 (by decide) (hg _ wn_3_65) (fun _ h9 => h9) rfl dn_Circuit_childCalled_8 ?_
      refine lv_icmp_ge (tgt := 69) hx hb dn_Circuit_childCalled_11 (by decide) (fun h => ?_) (fun h => ?_)
      · have hf := (if_pos h).symm.trans hf
        refine lv_iconst (v := (-1)) hx hb dn_Circuit_childCalled_69 (by decide) ?_
        rw [hQQ, ← Option.some.inj hf]
        exact xk_iret (w1 := fun u : Unit => (wC a v cI cB cJ cZ cQ s)) () hx hb hr hlocks hK hS dn_Circuit_childCalled_70 hP hD rfl (Nat.le_refl _) (Nat.le_refl _)
      · have hf := (if_neg h).symm.trans hf
        refine lv_aload_n hx hb dn_Circuit_childCalled_14 rfl (lv_at hl 0 rfl) ?_
        refine va_get (D := (dC, dI)) (ci := 9) (v := .ref ((a 346))) (C := rn_Circuit) (T := fn_Circuit) (N := 14) hx hb hg in_Circuit hown hK hP 12 rfl rfl 5 (by decide) (hg _ wn_3_76) (fun _ h9 => h9) rfl dn_Circuit_childCalled_15 ?_
        refine lv_iload hx hb dn_Circuit_childCalled_18 (lv_at hl 5 rfl) ?_
        obtain ⟨hg_1, hf⟩ := dc_g hf
        refine va_iald hx hb hK hP 78 0 rfl rfl hg_1 dn_Circuit_childCalled_20 ?_
        refine xk_ti (y := ((s.1 346) (Int32.toNatClampNeg x5))) rfl ?_
        refine lv_iload_n hx hb dn_Circuit_childCalled_21 rfl (lv_at hl 1 rfl) ?_
        refine lv_icmp_eq (tgt := 28) hx hb dn_Circuit_childCalled_22 (by decide) (fun h => ?_) (fun h => ?_)
        · have hf := (if_pos h).symm.trans hf
          refine lv_aload_n hx hb dn_Circuit_childCalled_28 rfl (lv_at hl 0 rfl) ?_
          refine va_get (D := (dC, dI)) (ci := 9) (v := .ref ((a 113))) (C := rn_Circuit) (T := fn_Circuit) (N := 14) hx hb hg in_Circuit hown hK hP 12 rfl rfl 0 (by decide) (hg _ wn_3_61) (fun _ h9 => h9) rfl dn_Circuit_childCalled_29 ?_
          refine lv_aload_n hx hb dn_Circuit_childCalled_32 rfl (lv_at hl 0 rfl) ?_
          refine va_get (D := (dC, dI)) (ci := 9) (v := .ref ((a 113))) (C := rn_Circuit) (T := fn_Circuit) (N := 14) hx hb hg in_Circuit hown hK hP 12 rfl rfl 0 (by decide) (hg _ wn_3_61) (fun _ h9 => h9) rfl dn_Circuit_childCalled_33 ?_
          refine va_get (D := (dC, dI)) (ci := 10) (v := .ref ((a 114))) (C := rn_Design) (T := fn_Design) (N := 16) hx hb hg in_Design hown hK hP 13 rfl rfl 0 (by decide) (hg _ wn_2_237) (fun _ h9 => h9) rfl dn_Circuit_childCalled_36 ?_
          refine va_get (D := (dC, dI)) (ci := 11) (v := .ref ((a 380))) (C := rn_Parts) (T := fn_Parts) (N := 15) hx hb hg in_Parts hown hK hP 14 rfl rfl 9 (by decide) (hg _ wn_2_158) (fun _ h9 => h9) rfl dn_Circuit_childCalled_39 ?_
          refine lv_aload_n hx hb dn_Circuit_childCalled_42 rfl (lv_at hl 0 rfl) ?_
          refine va_get (D := (dC, dI)) (ci := 9) (v := .ref ((a 347))) (C := rn_Circuit) (T := fn_Circuit) (N := 14) hx hb hg in_Circuit hown hK hP 12 rfl rfl 6 (by decide) (hg _ wn_3_77) (fun _ h9 => h9) rfl dn_Circuit_childCalled_43 ?_
          refine lv_iload hx hb dn_Circuit_childCalled_46 (lv_at hl 5 rfl) ?_
          obtain ⟨hg_2, hf⟩ := dc_g hf
          refine va_iald hx hb hK hP 79 0 rfl rfl hg_2 dn_Circuit_childCalled_48 ?_
          refine xk_ti (y := ((s.1 347) (Int32.toNatClampNeg x5))) rfl ?_
          obtain ⟨hg_3, hf⟩ := dc_g hf
          refine va_iald hx hb hK hP 102 0 rfl rfl hg_3 dn_Circuit_childCalled_49 ?_
          refine xk_ti (y := ((s.1 380) (Int32.toNatClampNeg (((s.1 347) (Int32.toNatClampNeg x5)))))) rfl ?_
          refine lv_aload_n hx hb dn_Circuit_childCalled_50 rfl (lv_at hl 2 rfl) ?_
          refine lv_iload_n hx hb dn_Circuit_childCalled_51 rfl (lv_at hl 3 rfl) ?_
          refine lv_iload hx hb dn_Circuit_childCalled_52 (lv_at hl 4 rfl) ?_
          obtain ⟨q_4, hc_5, hf⟩ := dc_b hf
          refine dc_calli (dc_runV (ar := 4) (As := [.int (((s.1 380) (Int32.toNatClampNeg (((s.1 347) (Int32.toNatClampNeg x5)))))), .ref ((a 307)), .int x3, .int x4]) (rest := []) (ci := 10) (q0 := 13) ⟨hx, hb, hml, hown, hg⟩ hK hN hT hS hA (ct_Design_isCalled_Dc_307 l dC dI cI cB cJ cZ cQ N H.size a v (((s.1 380) (Int32.toNatClampNeg (((s.1 347) (Int32.toNatClampNeg x5)))))) x3 x4 s q_4 hc_5) hP hD rfl rfl wn_7_159 wn_7_160 wn_7_161 wn_1_10 wn_7_162 rfl rfl (by decide +kernel) ⟨Nat.le_of_ble_eq_true rfl, Nat.le_of_ble_eq_true rfl⟩ rfl hl.1 rfl (Nat.le_of_ble_eq_true rfl) dn_Circuit_childCalled_54 ⟨Nat.le_of_ble_eq_true rfl, Nat.le_of_ble_eq_true rfl⟩) hP hD hS hA (fun r_6 _ H locs hw hP hD hS => ?_)
          have hw : r_6 = q_4.1 := hw
          subst hw
          refine lv_if_eq (tgt := 63) hx hb dn_Circuit_childCalled_57 (by decide) (fun h => ?_) (fun h => ?_)
          · have hf := (if_pos h).symm.trans hf
            refine lv_iinc (v := (x5 + 1)) (lv' := [(5, .int ((x5 + 1))), (0, .ref ((a 112))), (1, .int x1), (2, .ref ((a 307))), (3, .int x3), (4, .int x4)]) hx hb dn_Circuit_childCalled_63 hl (k := 5) rfl (dc_inc (by decide)) (by decide) rfl (fun ls hl => ?_)
            refine lv_goto (tgt := 5) hx hb dn_Circuit_childCalled_66 (by decide) ?_
            exact hk_5 x1 x3 x4 ((x5 + 1)) q_4.2 hf H locs ls hP hD hS (lv_sub hl [1, 2, 3, 4, 5, 0] rfl)
          · have hf := (if_neg h).symm.trans hf
            refine lv_iload hx hb dn_Circuit_childCalled_60 (lv_at hl 5 rfl) ?_
            rw [hQQ, ← Option.some.inj hf]
            exact xk_iret (w1 := fun u : Unit => (wC a v cI cB cJ cZ cQ q_4.2)) () hx hb hr hlocks hK hS dn_Circuit_childCalled_62 hP hD rfl (Nat.le_refl _) (Nat.le_refl _)
        · have hf := (if_neg h).symm.trans hf
          refine lv_goto (tgt := 63) hx hb dn_Circuit_childCalled_25 (by decide) ?_
          refine lv_iinc (v := (x5 + 1)) (lv' := [(5, .int ((x5 + 1))), (0, .ref ((a 112))), (1, .int x1), (2, .ref ((a 307))), (3, .int x3), (4, .int x4)]) hx hb dn_Circuit_childCalled_63 hl (k := 5) rfl (dc_inc (by decide)) (by decide) rfl (fun ls hl => ?_)
          refine lv_goto (tgt := 5) hx hb dn_Circuit_childCalled_66 (by decide) ?_
          exact hk_5 x1 x3 x4 ((x5 + 1)) s hf H locs ls hP hD hS (lv_sub hl [1, 2, 3, 4, 5, 0] rfl)
  intro H locs ls hP hD hS hl
  unfold fn_Circuit_childCalled_Cc_307 at hf
  refine lv_iload_n hx hb dn_Circuit_childCalled_0 rfl (lv_at hl 1 rfl) ?_
  refine lv_iconst (v := 1) hx hb dn_Circuit_childCalled_1 (by decide) ?_
  refine lv_iadd hx hb dn_Circuit_childCalled_2 ?_
  refine lv_istore (lv' := [(5, .int ((v1 + 1))), (0, .ref ((a 112))), (1, .int v1), (2, .ref ((a 307))), (3, .int v3), (4, .int v4)]) hx hb dn_Circuit_childCalled_3 hl (by decide) rfl (fun ls hl => ?_)
  exact hd_5 N v1 v3 v4 ((v1 + 1)) s hf H locs ls hP hD hS (lv_sub hl [1, 2, 3, 4, 5, 0] rfl)
set_option maxHeartbeats 8000000 in
set_option maxRecDepth 100000 in
theorem ct_Circuit_signalCalled_Cc_307 (l : Launch) (dC : Nat → ClassId) (dI : Nat → Nat → Nat) (cI cB cJ cZ cQ : ClassId) (N sz : Nat) (a : Nat → Nat) (v : Nat → Value) (v1 : Int32) (v3 : Int32) (v4 : Int32) (s : ms) (y : (Int32 × ms)) (hf : fn_Circuit_signalCalled_Cc_307 N v1 v3 v4 s = some y) : Met l yn_Circuit_signalCalled (xw yn_Circuit_signalCalled bn_Circuit_signalCalled 7 (some .int)) ({ frames := 3, cells := 0, slots := 0, locals := 66 }) (dc_P (dC, dI) xcl (xt cI cB cJ cZ cQ) [.ref ((a 112)), .int v1, .ref ((a 307)), .int v3, .int v4] sz (wC a v cI cB cJ cZ cQ s)) (xk_Qi (dC, dI) xcl (xt cI cB cJ cZ cQ) (fun (r : Int32) (_ : Unit) => r = y.1) (fun u : Unit => (wC a v cI cB cJ cZ cQ y.2)) (va_A (wC a v cI cB cJ cZ cQ s) sz)) 0 0 (va_A (wC a v cI cB cJ cZ cQ s) sz) := by
  refine dc_of (QA := xk_Qi (dC, dI) xcl (xt cI cB cJ cZ cQ) (fun (r : Int32) (_ : Unit) => r = y.1) (fun u : Unit => (wC a v cI cB cJ cZ cQ y.2))) (by decide) (Nat.le_of_ble_eq_true rfl) ?_
  intro p e s0 m below meth c hx hb hml hown hg hr hlocks hin hP hK hN A hA hD hT ls hl
  have hown : s0.vm.findClass rn_Circuit = some m.cls := hown
  obtain ⟨H, hH⟩ : ∃ z, z = s0.heap := ⟨_, rfl⟩
  rw [← hH] at hP
  have hS : va_S A s0.heap H [] := by rw [hH]; exact va_S.rf
  suffices kk : ∀ QQ : State → Prop, QQ = MQ below (xk_Qi (dC, dI) xcl (xt cI cB cJ cZ cQ) (fun (r : Int32) (_ : Unit) => r = y.1) (fun u : Unit => (wC a v cI cB cJ cZ cQ y.2)) A) [.ref ((a 112)), .int v1, .ref ((a 307)), .int v3, .int v4].toArray s0 0 0 A → dcC p l e ({ frames := 3, cells := 0, slots := 0, locals := 66 }) s0 m [.ref ((a 112)), .int v1, .ref ((a 307)), .int v3, .int v4].toArray below meth c QQ (dC, dI) A (wC a v cI cB cJ cZ cQ s) 0 7 [(0, .ref ((a 112))), (1, .int v1), (2, .ref ((a 307))), (3, .int v3), (4, .int v4)] [] by
    have k9 := kk _ rfl H [] ls hP hD hS hl
    rw [hH] at k9; exact k9
  clear hP hD hS hl hH H ls
  intro QQ hQQ
  have hd_27 : ∀ (n : Nat) (x3 : Int32) (x4 : Int32) (x5 : Int32) (x6 : Int32) (s : ms), hd_Circuit_signalCalled_Cc_307_27 N n x3 x4 x5 x6 s = some y → dcC p l e ({ frames := 3, cells := 0, slots := 0, locals := 66 }) s0 m [.ref ((a 112)), .int v1, .ref ((a 307)), .int v3, .int v4].toArray below meth c QQ (dC, dI) A (wC a v cI cB cJ cZ cQ s) 27 7 [(0, .ref ((a 112))), (2, .ref ((a 307))), (3, .int x3), (4, .int x4), (5, .int x5), (6, .int x6)] [] := by
    intro n
    induction n with
    | zero => intro x3 x4 x5 x6 s hf; cases hf
    | succ n ih =>
      intro x3 x4 x5 x6 s hf H locs ls hP hD hS hl
      have hf : bd_Circuit_signalCalled_Cc_307_27 N (hd_Circuit_signalCalled_Cc_307_27 N n) x3 x4 x5 x6 s = some y := hf
      have hk_27 := ih
      generalize hd_Circuit_signalCalled_Cc_307_27 N n = k_27 at hf hk_27
      unfold bd_Circuit_signalCalled_Cc_307_27 at hf
      refine lv_iload hx hb dn_Circuit_signalCalled_27 (lv_at hl 5 rfl) ?_
      refine lv_iload hx hb dn_Circuit_signalCalled_29 (lv_at hl 4 rfl) ?_
      refine lv_icmp_ge (tgt := 63) hx hb dn_Circuit_signalCalled_31 (by decide) (fun h => ?_) (fun h => ?_)
      · have hf := (if_pos h).symm.trans hf
        refine lv_iconst (v := (-1)) hx hb dn_Circuit_signalCalled_63 (by decide) ?_
        rw [hQQ, ← Option.some.inj hf]
        exact xk_iret (w1 := fun u : Unit => (wC a v cI cB cJ cZ cQ s)) () hx hb hr hlocks hK hS dn_Circuit_signalCalled_64 hP hD rfl (Nat.le_refl _) (Nat.le_refl _)
      · have hf := (if_neg h).symm.trans hf
        refine lv_aload_n hx hb dn_Circuit_signalCalled_34 rfl (lv_at hl 0 rfl) ?_
        refine va_get (D := (dC, dI)) (ci := 9) (v := .ref ((a 113))) (C := rn_Circuit) (T := fn_Circuit) (N := 14) hx hb hg in_Circuit hown hK hP 12 rfl rfl 0 (by decide) (hg _ wn_3_61) (fun _ h9 => h9) rfl dn_Circuit_signalCalled_35 ?_
        refine lv_aload_n hx hb dn_Circuit_signalCalled_38 rfl (lv_at hl 0 rfl) ?_
        refine lv_iload hx hb dn_Circuit_signalCalled_39 (lv_at hl 5 rfl) ?_
        obtain ⟨q_1, hc_2, hf⟩ := dc_b hf
        refine dc_calli (dc_runV (ar := 1) (As := [.int x6]) (rest := [.ref ((a 113))]) (ci := 9) (q0 := 12) ⟨hx, hb, hml, hown, hg⟩ hK hN hT hS hA (ct_Circuit_placeOf_Cc l dC dI cI cB cJ cZ cQ N H.size a v x6 s q_1 hc_2) hP hD rfl rfl wn_7_168 wn_7_5 wn_7_6 wn_1_9 wn_7_7 rfl rfl (by decide +kernel) ⟨Nat.le_of_ble_eq_true rfl, Nat.le_of_ble_eq_true rfl⟩ rfl hl.1 rfl (Nat.le_of_ble_eq_true rfl) dn_Circuit_signalCalled_41 ⟨Nat.le_of_ble_eq_true rfl, Nat.le_of_ble_eq_true rfl⟩) hP hD hS hA (fun r_3 _ H locs hw hP hD hS => ?_)
        have hw : r_3 = q_1.1 := hw
        subst hw
        refine lv_aload_n hx hb dn_Circuit_signalCalled_44 rfl (lv_at hl 1 rfl) ?_
        refine lv_iload_n hx hb dn_Circuit_signalCalled_45 rfl (lv_at hl 2 rfl) ?_
        refine lv_iload hx hb dn_Circuit_signalCalled_46 (lv_at hl 3 rfl) ?_
        obtain ⟨q_4, hc_5, hf⟩ := dc_b hf
        refine dc_calli (dc_runV (ar := 4) (As := [.int q_1.1, .ref ((a 307)), .int x3, .int x4]) (rest := []) (ci := 10) (q0 := 13) ⟨hx, hb, hml, hown, hg⟩ hK hN hT hS hA (ct_Design_isCalled_Dc_307 l dC dI cI cB cJ cZ cQ N H.size a v q_1.1 x3 x4 q_1.2 q_4 hc_5) hP hD rfl rfl wn_7_159 wn_7_160 wn_7_161 wn_1_10 wn_7_162 rfl rfl (by decide +kernel) ⟨Nat.le_of_ble_eq_true rfl, Nat.le_of_ble_eq_true rfl⟩ rfl hl.1 rfl (Nat.le_of_ble_eq_true rfl) dn_Circuit_signalCalled_48 ⟨Nat.le_of_ble_eq_true rfl, Nat.le_of_ble_eq_true rfl⟩) hP hD hS hA (fun r_6 _ H locs hw hP hD hS => ?_)
        have hw : r_6 = q_4.1 := hw
        subst hw
        refine lv_if_eq (tgt := 57) hx hb dn_Circuit_signalCalled_51 (by decide) (fun h => ?_) (fun h => ?_)
        · have hf := (if_pos h).symm.trans hf
          refine lv_iinc (v := (x6 + 1)) (lv' := [(6, .int ((x6 + 1))), (0, .ref ((a 112))), (2, .ref ((a 307))), (3, .int x3), (4, .int x4), (5, .int x5)]) hx hb dn_Circuit_signalCalled_57 hl (k := 5) rfl (dc_inc (by decide)) (by decide) rfl (fun ls hl => ?_)
          refine lv_goto (tgt := 27) hx hb dn_Circuit_signalCalled_60 (by decide) ?_
          exact hk_27 x3 x4 x5 ((x6 + 1)) q_4.2 hf H locs ls hP hD hS (lv_sub hl [1, 2, 3, 4, 5, 0] rfl)
        · have hf := (if_neg h).symm.trans hf
          refine lv_iload hx hb dn_Circuit_signalCalled_54 (lv_at hl 5 rfl) ?_
          rw [hQQ, ← Option.some.inj hf]
          exact xk_iret (w1 := fun u : Unit => (wC a v cI cB cJ cZ cQ q_4.2)) () hx hb hr hlocks hK hS dn_Circuit_signalCalled_56 hP hD rfl (Nat.le_refl _) (Nat.le_refl _)
  intro H locs ls hP hD hS hl
  unfold fn_Circuit_signalCalled_Cc_307 at hf
  refine lv_aload_n hx hb dn_Circuit_signalCalled_0 rfl (lv_at hl 0 rfl) ?_
  refine va_get (D := (dC, dI)) (ci := 9) (v := .ref ((a 344))) (C := rn_Circuit) (T := fn_Circuit) (N := 14) hx hb hg in_Circuit hown hK hP 12 rfl rfl 3 (by decide) (hg _ wn_3_72) (fun _ h9 => h9) rfl dn_Circuit_signalCalled_1 ?_
  refine lv_iload_n hx hb dn_Circuit_signalCalled_4 rfl (lv_at hl 1 rfl) ?_
  obtain ⟨hg_1, hf⟩ := dc_g hf
  refine va_iald hx hb hK hP 76 0 rfl rfl hg_1 dn_Circuit_signalCalled_5 ?_
  refine xk_ti (y := ((s.1 344) (Int32.toNatClampNeg v1))) rfl ?_
  refine lv_aload_n hx hb dn_Circuit_signalCalled_6 rfl (lv_at hl 0 rfl) ?_
  refine lv_aload_n hx hb dn_Circuit_signalCalled_7 rfl (lv_at hl 0 rfl) ?_
  refine va_get (D := (dC, dI)) (ci := 9) (v := .ref ((a 345))) (C := rn_Circuit) (T := fn_Circuit) (N := 14) hx hb hg in_Circuit hown hK hP 12 rfl rfl 4 (by decide) (hg _ wn_3_74) (fun _ h9 => h9) rfl dn_Circuit_signalCalled_8 ?_
  refine lv_iload_n hx hb dn_Circuit_signalCalled_11 rfl (lv_at hl 1 rfl) ?_
  obtain ⟨hg_2, hf⟩ := dc_g hf
  refine va_iald hx hb hK hP 77 0 rfl rfl hg_2 dn_Circuit_signalCalled_12 ?_
  refine xk_ti (y := ((s.1 345) (Int32.toNatClampNeg v1))) rfl ?_
  obtain ⟨q_3, hc_4, hf⟩ := dc_b hf
  refine dc_calli (dc_runV (ar := 1) (As := [.int (((s.1 345) (Int32.toNatClampNeg v1)))]) (rest := [.int (((s.1 344) (Int32.toNatClampNeg v1)))]) (ci := 9) (q0 := 12) ⟨hx, hb, hml, hown, hg⟩ hK hN hT hS hA (ct_Circuit_ownSignals_Cc l dC dI cI cB cJ cZ cQ N H.size a v (((s.1 345) (Int32.toNatClampNeg v1))) s q_3 hc_4) hP hD rfl rfl wn_6_185 wn_6_187 sn_Circuit_ownSignals wn_1_9 wn_6_188 rfl rfl (by decide +kernel) ⟨Nat.le_of_ble_eq_true rfl, Nat.le_of_ble_eq_true rfl⟩ rfl hl.1 rfl (Nat.le_of_ble_eq_true rfl) dn_Circuit_signalCalled_13 ⟨Nat.le_of_ble_eq_true rfl, Nat.le_of_ble_eq_true rfl⟩) hP hD hS hA (fun r_5 _ H locs hw hP hD hS => ?_)
  have hw : r_5 = q_3.1 := hw
  subst hw
  refine lv_iadd hx hb dn_Circuit_signalCalled_16 ?_
  refine lv_istore (lv' := [(5, .int ((((s.1 344) (Int32.toNatClampNeg v1)) + q_3.1))), (0, .ref ((a 112))), (1, .int v1), (2, .ref ((a 307))), (3, .int v3), (4, .int v4)]) hx hb dn_Circuit_signalCalled_17 hl (by decide) rfl (fun ls hl => ?_)
  refine lv_aload_n hx hb dn_Circuit_signalCalled_19 rfl (lv_at hl 1 rfl) ?_
  refine va_get (D := (dC, dI)) (ci := 9) (v := .ref ((a 344))) (C := rn_Circuit) (T := fn_Circuit) (N := 14) hx hb hg in_Circuit hown hK hP 12 rfl rfl 3 (by decide) (hg _ wn_3_72) (fun _ h9 => h9) rfl dn_Circuit_signalCalled_20 ?_
  refine lv_iload_n hx hb dn_Circuit_signalCalled_23 rfl (lv_at hl 2 rfl) ?_
  obtain ⟨hg_6, hf⟩ := dc_g hf
  refine va_iald hx hb hK hP 76 0 rfl rfl hg_6 dn_Circuit_signalCalled_24 ?_
  refine xk_ti (y := ((q_3.2.1 344) (Int32.toNatClampNeg v1))) rfl ?_
  refine lv_istore (lv' := [(6, .int (((q_3.2.1 344) (Int32.toNatClampNeg v1)))), (5, .int ((((s.1 344) (Int32.toNatClampNeg v1)) + q_3.1))), (0, .ref ((a 112))), (1, .int v1), (2, .ref ((a 307))), (3, .int v3), (4, .int v4)]) hx hb dn_Circuit_signalCalled_25 hl (by decide) rfl (fun ls hl => ?_)
  exact hd_27 N v3 v4 ((((s.1 344) (Int32.toNatClampNeg v1)) + q_3.1)) (((q_3.2.1 344) (Int32.toNatClampNeg v1))) q_3.2 hf H locs ls hP hD hS (lv_sub hl [2, 4, 5, 6, 1, 0] rfl)
