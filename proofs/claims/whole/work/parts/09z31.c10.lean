set_option maxHeartbeats 8000000 in
set_option maxRecDepth 100000 in
theorem ct_Grammar_named_Gr (l : Launch) (dC : Nat → ClassId) (dI : Nat → Nat → Nat) (cI cB cJ cZ cQ : ClassId) (N sz : Nat) (a : Nat → Nat) (v : Nat → Value) (hv_2 : v 2 = .ref (a 110)) (hv_3 : v 3 = .ref (a 111)) (s : ms) (y : (Unit × ms)) (hf : fn_Grammar_named_Gr N s = some y) : Met l yn_Grammar_named (xw yn_Grammar_named bn_Grammar_named 2 none) ({ frames := 4, cells := 0, slots := 0, locals := 84 }) (dc_P (dC, dI) xcl (xt cI cB cJ cZ cQ) [.ref ((a 105))] sz (wC a v cI cB cJ cZ cQ s)) (xk_Qv (dC, dI) xcl (xt cI cB cJ cZ cQ) (fun _ : Unit => True) (fun u : Unit => (wC a v cI cB cJ cZ cQ y.2)) (va_A (wC a v cI cB cJ cZ cQ s) sz)) 0 0 (va_A (wC a v cI cB cJ cZ cQ s) sz) := by
  refine dc_of (QA := xk_Qv (dC, dI) xcl (xt cI cB cJ cZ cQ) (fun _ : Unit => True) (fun u : Unit => (wC a v cI cB cJ cZ cQ y.2))) (by decide) (Nat.le_of_ble_eq_true rfl) ?_
  intro p e s0 m below meth c hx hb hml hown hg hr hlocks hin hP hK hN A hA hD hT ls hl
  have hown : s0.vm.findClass rn_Grammar = some m.cls := hown
  obtain ⟨H, hH⟩ : ∃ z, z = s0.heap := ⟨_, rfl⟩
  rw [← hH] at hP
  have hS : va_S A s0.heap H [] := by rw [hH]; exact va_S.rf
  suffices kk : ∀ QQ : State → Prop, QQ = MQ below (xk_Qv (dC, dI) xcl (xt cI cB cJ cZ cQ) (fun _ : Unit => True) (fun u : Unit => (wC a v cI cB cJ cZ cQ y.2)) A) [.ref ((a 105))].toArray s0 0 0 A → dcC p l e ({ frames := 4, cells := 0, slots := 0, locals := 84 }) s0 m [.ref ((a 105))].toArray below meth c QQ (dC, dI) A (wC a v cI cB cJ cZ cQ s) 0 2 [(0, .ref ((a 105)))] [] by
    have k9 := kk _ rfl H [] ls hP hD hS hl
    rw [hH] at k9; exact k9
  clear hP hD hS hl hH H ls
  intro QQ hQQ
  intro H locs ls hP hD hS hl
  unfold fn_Grammar_named_Gr at hf
  refine lv_aload_n hx hb dn_Grammar_named_0 rfl (lv_at hl 0 rfl) ?_
  refine va_get (D := (dC, dI)) (ci := 6) (v := .ref ((a 103))) (C := rn_Grammar) (T := fn_Grammar) (N := 15) hx hb hg in_Grammar hown hK hP 5 rfl rfl 1 (by decide) (hg _ wn_2_1) (fun _ h9 => h9) rfl dn_Grammar_named_1 ?_
  refine lv_aload_n hx hb dn_Grammar_named_4 rfl (lv_at hl 0 rfl) ?_
  refine va_get (D := (dC, dI)) (ci := 6) (v := .ref ((a 101))) (C := rn_Grammar) (T := fn_Grammar) (N := 15) hx hb hg in_Grammar hown hK hP 5 rfl rfl 0 (by decide) (hg _ wn_2_0) (fun _ h9 => h9) rfl dn_Grammar_named_5 ?_
  refine va_get (D := (dC, dI)) (ci := 2) (v := .int ((s.1 216 0))) (C := rn_Tokens) (T := fn_Tokens) (N := 9) hx hb hg in_Tokens hown hK hP 1 rfl rfl 5 (by decide) (hg _ wn_1_54) (fun _ h9 => h9) rfl dn_Grammar_named_8 ?_
  refine lv_aload_n hx hb dn_Grammar_named_11 rfl (lv_at hl 0 rfl) ?_
  refine va_get (D := (dC, dI)) (ci := 6) (v := .ref ((a 101))) (C := rn_Grammar) (T := fn_Grammar) (N := 15) hx hb hg in_Grammar hown hK hP 5 rfl rfl 0 (by decide) (hg _ wn_2_0) (fun _ h9 => h9) rfl dn_Grammar_named_12 ?_
  refine va_get (D := (dC, dI)) (ci := 2) (v := .int ((s.1 215 0))) (C := rn_Tokens) (T := fn_Tokens) (N := 9) hx hb hg in_Tokens hown hK hP 1 rfl rfl 4 (by decide) (hg _ wn_1_52) (fun _ h9 => h9) rfl dn_Grammar_named_15 ?_
  obtain ⟨q_1, hc_2, hf⟩ := dc_b hf
  refine dc_callv (dc_runV (ar := 2) (As := [.int ((s.1 216 0)), .int ((s.1 215 0))]) (rest := []) (ci := 4) (q0 := 3) ⟨hx, hb, hml, hown, hg⟩ hK hN hT hS hA (ct_Checker_name_Ch l dC dI cI cB cJ cZ cQ N H.size a v hv_2 hv_3 ((s.1 216 0)) ((s.1 215 0)) s q_1 hc_2) hP hD rfl rfl wn_6_50 wn_6_51 wn_6_52 wn_1_4 wn_6_53 rfl rfl (by decide +kernel) ⟨Nat.le_of_ble_eq_true rfl, Nat.le_of_ble_eq_true rfl⟩ rfl hl.1 rfl (Nat.le_of_ble_eq_true rfl) dn_Grammar_named_18 ⟨Nat.le_of_ble_eq_true rfl, Nat.le_of_ble_eq_true rfl⟩) hP hD hS hA (fun _ H locs hw hP hD hS => ?_)
  refine lv_aload_n hx hb dn_Grammar_named_21 rfl (lv_at hl 0 rfl) ?_
  refine va_get (D := (dC, dI)) (ci := 6) (v := .ref ((a 101))) (C := rn_Grammar) (T := fn_Grammar) (N := 15) hx hb hg in_Grammar hown hK hP 5 rfl rfl 0 (by decide) (hg _ wn_2_0) (fun _ h9 => h9) rfl dn_Grammar_named_22 ?_
  obtain ⟨q_3, hc_4, hf⟩ := dc_b hf
  refine dc_callv (dc_runV (ar := 0) (As := []) (rest := []) (ci := 2) (q0 := 1) ⟨hx, hb, hml, hown, hg⟩ hK hN hT hS hA (ct_Tokens_take_Tk l dC dI cI cB cJ cZ cQ N H.size a v q_1.2 q_3 hc_4) hP hD rfl rfl wn_4_213 wn_4_149 wn_4_150 wn_1_2 wn_4_151 rfl rfl (by decide +kernel) ⟨Nat.le_of_ble_eq_true rfl, Nat.le_of_ble_eq_true rfl⟩ rfl hl.1 rfl (Nat.le_of_ble_eq_true rfl) dn_Grammar_named_25 ⟨Nat.le_of_ble_eq_true rfl, Nat.le_of_ble_eq_true rfl⟩) hP hD hS hA (fun _ H locs hw hP hD hS => ?_)
  refine lv_aload_n hx hb dn_Grammar_named_28 rfl (lv_at hl 0 rfl) ?_
  refine va_get (D := (dC, dI)) (ci := 6) (v := .ref ((a 101))) (C := rn_Grammar) (T := fn_Grammar) (N := 15) hx hb hg in_Grammar hown hK hP 5 rfl rfl 0 (by decide) (hg _ wn_2_0) (fun _ h9 => h9) rfl dn_Grammar_named_29 ?_
  refine va_get (D := (dC, dI)) (ci := 2) (v := .int ((q_3.2.1 215 0))) (C := rn_Tokens) (T := fn_Tokens) (N := 9) hx hb hg in_Tokens hown hK hP 1 rfl rfl 4 (by decide) (hg _ wn_1_52) (fun _ h9 => h9) rfl dn_Grammar_named_32 ?_
  refine lv_istore_n (lv' := [(1, .int ((q_3.2.1 215 0))), (0, .ref ((a 105)))]) hx hb dn_Grammar_named_35 rfl hl (by decide) rfl (fun ls hl => ?_)
  refine lv_aload_n hx hb dn_Grammar_named_36 rfl (lv_at hl 1 rfl) ?_
  refine va_get (D := (dC, dI)) (ci := 6) (v := .ref ((a 101))) (C := rn_Grammar) (T := fn_Grammar) (N := 15) hx hb hg in_Grammar hown hK hP 5 rfl rfl 0 (by decide) (hg _ wn_2_0) (fun _ h9 => h9) rfl dn_Grammar_named_37 ?_
  refine va_get (D := (dC, dI)) (ci := 2) (v := .int ((q_3.2.1 214 0))) (C := rn_Tokens) (T := fn_Tokens) (N := 9) hx hb hg in_Tokens hown hK hP 1 rfl rfl 3 (by decide) (hg _ wn_1_50) (fun _ h9 => h9) rfl dn_Grammar_named_40 ?_
  refine lv_bipush (v := 91) hx hb dn_Grammar_named_43 (by decide) ?_
  refine lv_icmp_eq (tgt := 55) hx hb dn_Grammar_named_45 (by decide) (fun h => ?_) (fun h => ?_)
  · have hf := (if_pos h).symm.trans hf
    refine lv_aload_n hx hb dn_Grammar_named_55 rfl (lv_at hl 1 rfl) ?_
    refine va_get (D := (dC, dI)) (ci := 6) (v := .ref ((a 101))) (C := rn_Grammar) (T := fn_Grammar) (N := 15) hx hb hg in_Grammar hown hK hP 5 rfl rfl 0 (by decide) (hg _ wn_2_0) (fun _ h9 => h9) rfl dn_Grammar_named_56 ?_
    refine lv_bipush (v := 91) hx hb dn_Grammar_named_59 (by decide) ?_
    obtain ⟨q_5, hc_6, hf⟩ := dc_b hf
    refine dc_callv (dc_runV (ar := 1) (As := [.int 91]) (rest := []) (ci := 2) (q0 := 1) ⟨hx, hb, hml, hown, hg⟩ hK hN hT hS hA (ct_Tokens_open_Tk l dC dI cI cB cJ cZ cQ N H.size a v 91 q_3.2 q_5 hc_6) hP hD rfl rfl wn_4_214 wn_4_215 wn_4_216 wn_1_2 wn_4_217 rfl rfl (by decide +kernel) ⟨Nat.le_of_ble_eq_true rfl, Nat.le_of_ble_eq_true rfl⟩ rfl hl.1 rfl (Nat.le_of_ble_eq_true rfl) dn_Grammar_named_61 ⟨Nat.le_of_ble_eq_true rfl, Nat.le_of_ble_eq_true rfl⟩) hP hD hS hA (fun _ H locs hw hP hD hS => ?_)
    refine lv_aload_n hx hb dn_Grammar_named_64 rfl (lv_at hl 1 rfl) ?_
    refine va_get (D := (dC, dI)) (ci := 6) (v := .ref ((a 101))) (C := rn_Grammar) (T := fn_Grammar) (N := 15) hx hb hg in_Grammar hown hK hP 5 rfl rfl 0 (by decide) (hg _ wn_2_0) (fun _ h9 => h9) rfl dn_Grammar_named_65 ?_
    refine va_get (D := (dC, dI)) (ci := 2) (v := .int ((q_5.2.1 214 0))) (C := rn_Tokens) (T := fn_Tokens) (N := 9) hx hb hg in_Tokens hown hK hP 1 rfl rfl 3 (by decide) (hg _ wn_1_50) (fun _ h9 => h9) rfl dn_Grammar_named_68 ?_
    refine lv_iconst (v := 3) hx hb dn_Grammar_named_71 (by decide) ?_
    refine lv_icmp_ne (tgt := 96) hx hb dn_Grammar_named_72 (by decide) (fun h => ?_) (fun h => ?_)
    · have hf := (if_neg h).symm.trans hf
      refine lv_aload_n hx hb dn_Grammar_named_96 rfl (lv_at hl 1 rfl) ?_
      refine lv_bipush (v := 91) hx hb dn_Grammar_named_97 (by decide) ?_
      refine lv_iload_n hx hb dn_Grammar_named_99 rfl (lv_at hl 0 rfl) ?_
      refine lv_iconst (v := 0) hx hb dn_Grammar_named_100 (by decide) ?_
      obtain ⟨q_7, hc_8, hf⟩ := dc_b hf
      refine dc_callv (dc_runV (ar := 3) (As := [.int 91, .int ((q_3.2.1 215 0)), .int 0]) (rest := []) (ci := 6) (q0 := 5) ⟨hx, hb, hml, hown, hg⟩ hK hN hT hS hA (ct_Grammar_hold_Gr l dC dI cI cB cJ cZ cQ N H.size a v 91 ((q_3.2.1 215 0)) 0 q_5.2 q_7 hc_8) hP hD rfl rfl wn_6_28 wn_6_30 sn_Grammar_hold wn_1_5 wn_6_31 rfl rfl (by decide +kernel) ⟨Nat.le_of_ble_eq_true rfl, Nat.le_of_ble_eq_true rfl⟩ rfl hl.1 rfl (Nat.le_of_ble_eq_true rfl) dn_Grammar_named_101 ⟨Nat.le_of_ble_eq_true rfl, Nat.le_of_ble_eq_true rfl⟩) hP hD hS hA (fun _ H locs hw hP hD hS => ?_)
      rw [hQQ, ← Option.some.inj hf]
      exact xk_vret (w1 := fun u : Unit => (wC a v cI cB cJ cZ cQ q_7.2)) () hx hb hr hlocks hK hS dn_Grammar_named_104 hP hD trivial (Nat.le_refl _) (Nat.le_refl _)
    · have hf := (if_pos h).symm.trans hf
      refine lv_aload_n hx hb dn_Grammar_named_75 rfl (lv_at hl 1 rfl) ?_
      refine va_get (D := (dC, dI)) (ci := 6) (v := .ref ((a 103))) (C := rn_Grammar) (T := fn_Grammar) (N := 15) hx hb hg in_Grammar hown hK hP 5 rfl rfl 1 (by decide) (hg _ wn_2_1) (fun _ h9 => h9) rfl dn_Grammar_named_76 ?_
      refine lv_aload_n hx hb dn_Grammar_named_79 rfl (lv_at hl 1 rfl) ?_
      obtain ⟨q_7, hc_8, hf⟩ := dc_b hf
      refine dc_calli (dc_runV (ar := 0) (As := []) (rest := [.ref ((a 103))]) (ci := 6) (q0 := 5) ⟨hx, hb, hml, hown, hg⟩ hK hN hT hS hA (ct_Grammar_part_Gr l dC dI cI cB cJ cZ cQ N H.size a v q_5.2 q_7 hc_8) hP hD rfl rfl wn_5_161 wn_5_163 sn_Grammar_part wn_1_5 wn_5_164 rfl rfl (by decide +kernel) ⟨Nat.le_of_ble_eq_true rfl, Nat.le_of_ble_eq_true rfl⟩ rfl hl.1 rfl (Nat.le_of_ble_eq_true rfl) dn_Grammar_named_80 ⟨Nat.le_of_ble_eq_true rfl, Nat.le_of_ble_eq_true rfl⟩) hP hD hS hA (fun r_9 _ H locs hw hP hD hS => ?_)
      have hw : r_9 = q_7.1 := hw
      subst hw
      refine lv_iload_n hx hb dn_Grammar_named_83 rfl (lv_at hl 0 rfl) ?_
      obtain ⟨q_10, hc_11, hf⟩ := dc_b hf
      refine dc_callv (dc_runV (ar := 2) (As := [.int q_7.1, .int ((q_3.2.1 215 0))]) (rest := []) (ci := 4) (q0 := 3) ⟨hx, hb, hml, hown, hg⟩ hK hN hT hS hA (ct_Checker_part_Ch l dC dI cI cB cJ cZ cQ N H.size a v hv_3 q_7.1 ((q_3.2.1 215 0)) q_7.2 q_10 hc_11) hP hD rfl rfl wn_6_61 wn_6_62 wn_6_63 wn_1_4 wn_6_64 rfl rfl (by decide +kernel) ⟨Nat.le_of_ble_eq_true rfl, Nat.le_of_ble_eq_true rfl⟩ rfl hl.1 rfl (Nat.le_of_ble_eq_true rfl) dn_Grammar_named_84 ⟨Nat.le_of_ble_eq_true rfl, Nat.le_of_ble_eq_true rfl⟩) hP hD hS hA (fun _ H locs hw hP hD hS => ?_)
      refine lv_aload_n hx hb dn_Grammar_named_87 rfl (lv_at hl 1 rfl) ?_
      refine lv_bipush (v := 7) hx hb dn_Grammar_named_88 (by decide) ?_
      refine va_put (D := (dC, dI)) (ci := 6) (v := .int 7) (ty := .int) (C := rn_Grammar) (T := fn_Grammar) (N := 15) hx hb hg in_Grammar tn_Grammar tk_Grammar nn_Grammar hown hK hP hD hS 5 rfl rfl 3 (by decide) (hg _ wn_2_3) (fun _ h9 => h9) rfl (tk_Grammar 3 (by decide)) rfl rfl (Nat.le_of_ble_eq_true rfl) dn_Grammar_named_90 (fun H locs hP hD hS => ?_)
      have hP := wC_P_264 hP
      have hD := wC_D_264 hD
      refine lv_goto (tgt := 104) hx hb dn_Grammar_named_93 (by decide) ?_
      rw [hQQ, ← Option.some.inj hf]
      exact xk_vret (w1 := fun u : Unit => (wC a v cI cB cJ cZ cQ (upI q_10.2 264 (fun _ => 7)))) () hx hb hr hlocks hK hS dn_Grammar_named_104 hP hD trivial (Nat.le_refl _) (Nat.le_refl _)
  · have hf := (if_neg h).symm.trans hf
    refine lv_aload_n hx hb dn_Grammar_named_48 rfl (lv_at hl 1 rfl) ?_
    refine lv_bipush (v := 7) hx hb dn_Grammar_named_49 (by decide) ?_
    refine va_put (D := (dC, dI)) (ci := 6) (v := .int 7) (ty := .int) (C := rn_Grammar) (T := fn_Grammar) (N := 15) hx hb hg in_Grammar tn_Grammar tk_Grammar nn_Grammar hown hK hP hD hS 5 rfl rfl 3 (by decide) (hg _ wn_2_3) (fun _ h9 => h9) rfl (tk_Grammar 3 (by decide)) rfl rfl (Nat.le_of_ble_eq_true rfl) dn_Grammar_named_51 (fun H locs hP hD hS => ?_)
    have hP := wC_P_264 hP
    have hD := wC_D_264 hD
    rw [hQQ, ← Option.some.inj hf]
    exact xk_vret (w1 := fun u : Unit => (wC a v cI cB cJ cZ cQ (upI q_3.2 264 (fun _ => 7)))) () hx hb hr hlocks hK hS dn_Grammar_named_54 hP hD trivial (Nat.le_refl _) (Nat.le_refl _)
set_option maxHeartbeats 8000000 in
set_option maxRecDepth 100000 in
theorem ct_Checker_literal_Ch (l : Launch) (dC : Nat → ClassId) (dI : Nat → Nat → Nat) (cI cB cJ cZ cQ : ClassId) (N sz : Nat) (a : Nat → Nat) (v : Nat → Value) (hv_3 : v 3 = .ref (a 111)) (v1 : Int32) (s : ms) (y : (Unit × ms)) (hf : fn_Checker_literal_Ch N v1 s = some y) : Met l yn_Checker_literal (xw yn_Checker_literal bn_Checker_literal 2 none) ({ frames := 1, cells := 0, slots := 0, locals := 22 }) (dc_P (dC, dI) xcl (xt cI cB cJ cZ cQ) [.ref ((a 103)), .int v1] sz (wC a v cI cB cJ cZ cQ s)) (xk_Qv (dC, dI) xcl (xt cI cB cJ cZ cQ) (fun _ : Unit => True) (fun u : Unit => (wC a v cI cB cJ cZ cQ y.2)) (va_A (wC a v cI cB cJ cZ cQ s) sz)) 0 0 (va_A (wC a v cI cB cJ cZ cQ s) sz) := by
  refine dc_of (QA := xk_Qv (dC, dI) xcl (xt cI cB cJ cZ cQ) (fun _ : Unit => True) (fun u : Unit => (wC a v cI cB cJ cZ cQ y.2))) (by decide) (Nat.le_of_ble_eq_true rfl) ?_
  intro p e s0 m below meth c hx hb hml hown hg hr hlocks hin hP hK hN A hA hD hT ls hl
  have hown : s0.vm.findClass rn_Checker = some m.cls := hown
  obtain ⟨H, hH⟩ : ∃ z, z = s0.heap := ⟨_, rfl⟩
  rw [← hH] at hP
  have hS : va_S A s0.heap H [] := by rw [hH]; exact va_S.rf
  suffices kk : ∀ QQ : State → Prop, QQ = MQ below (xk_Qv (dC, dI) xcl (xt cI cB cJ cZ cQ) (fun _ : Unit => True) (fun u : Unit => (wC a v cI cB cJ cZ cQ y.2)) A) [.ref ((a 103)), .int v1].toArray s0 0 0 A → dcC p l e ({ frames := 1, cells := 0, slots := 0, locals := 22 }) s0 m [.ref ((a 103)), .int v1].toArray below meth c QQ (dC, dI) A (wC a v cI cB cJ cZ cQ s) 0 2 [(0, .ref ((a 103))), (1, .int v1)] [] by
    have k9 := kk _ rfl H [] ls hP hD hS hl
    rw [hH] at k9; exact k9
  clear hP hD hS hl hH H ls
  intro QQ hQQ
  intro H locs ls hP hD hS hl
  unfold fn_Checker_literal_Ch at hf
  refine lv_aload_n hx hb dn_Checker_literal_0 rfl (lv_at hl 0 rfl) ?_
  obtain ⟨q_1, hc_2, hf⟩ := dc_b hf
  refine dc_calli (dc_runV (ar := 0) (As := []) (rest := []) (ci := 4) (q0 := 3) ⟨hx, hb, hml, hown, hg⟩ hK hN hT hS hA (ct_Checker_isOff_Ch l dC dI cI cB cJ cZ cQ N H.size a v s q_1 hc_2) hP hD rfl rfl wn_5_54 wn_4_194 wn_4_195 wn_1_4 wn_4_196 rfl rfl (by decide +kernel) ⟨Nat.le_of_ble_eq_true rfl, Nat.le_of_ble_eq_true rfl⟩ rfl hl.1 rfl (Nat.le_of_ble_eq_true rfl) dn_Checker_literal_1 ⟨Nat.le_of_ble_eq_true rfl, Nat.le_of_ble_eq_true rfl⟩) hP hD hS hA (fun r_3 _ H locs hw hP hD hS => ?_)
  have hw : r_3 = q_1.1 := hw
  subst hw
  refine lv_if_eq (tgt := 8) hx hb dn_Checker_literal_4 (by decide) (fun h => ?_) (fun h => ?_)
  · have hf := (if_pos h).symm.trans hf
    refine lv_aload_n hx hb dn_Checker_literal_8 rfl (lv_at hl 0 rfl) ?_
    refine lv_aload_n hx hb dn_Checker_literal_9 rfl (lv_at hl 0 rfl) ?_
    refine va_get (D := (dC, dI)) (ci := 4) (v := .ref ((a 111))) (C := rn_Checker) (T := fn_Checker) (N := 15) hx hb hg in_Checker hown hK hP 3 rfl rfl 2 (by decide) (hg _ wn_1_128) (fun _ h9 => h9) (congrArg some hv_3) dn_Checker_literal_10 ?_
    refine lv_iload_n hx hb dn_Checker_literal_13 rfl (lv_at hl 1 rfl) ?_
    obtain ⟨q_4, hc_5, hf⟩ := dc_b hf
    refine dc_calli (dc_runV (ar := 1) (As := [.int v1]) (rest := [.ref ((a 103))]) (ci := 12) (q0 := 11) ⟨hx, hb, hml, hown, hg⟩ hK hN hT hS hA (ct_Code_widthOf_Ks l dC dI cI cB cJ cZ cQ N H.size a v v1 q_1.2 q_4 hc_5) hP hD rfl rfl wn_6_40 wn_5_15 wn_5_16 wn_1_12 wn_5_17 rfl rfl (by decide +kernel) ⟨Nat.le_of_ble_eq_true rfl, Nat.le_of_ble_eq_true rfl⟩ rfl hl.1 rfl (Nat.le_of_ble_eq_true rfl) dn_Checker_literal_14 ⟨Nat.le_of_ble_eq_true rfl, Nat.le_of_ble_eq_true rfl⟩) hP hD hS hA (fun r_6 _ H locs hw hP hD hS => ?_)
    have hw : r_6 = q_4.1 := hw
    subst hw
    obtain ⟨q_7, hc_8, hf⟩ := dc_b hf
    refine dc_callv (dc_runV (ar := 1) (As := [.int q_4.1]) (rest := []) (ci := 4) (q0 := 3) ⟨hx, hb, hml, hown, hg⟩ hK hN hT hS hA (ct_Checker_push_Ch l dC dI cI cB cJ cZ cQ N H.size a v q_4.1 q_4.2 q_7 hc_8) hP hD rfl rfl wn_6_41 wn_6_43 sn_Checker_push wn_1_4 wn_6_44 rfl rfl (by decide +kernel) ⟨Nat.le_of_ble_eq_true rfl, Nat.le_of_ble_eq_true rfl⟩ rfl hl.1 rfl (Nat.le_of_ble_eq_true rfl) dn_Checker_literal_17 ⟨Nat.le_of_ble_eq_true rfl, Nat.le_of_ble_eq_true rfl⟩) hP hD hS hA (fun _ H locs hw hP hD hS => ?_)
    refine lv_aload_n hx hb dn_Checker_literal_20 rfl (lv_at hl 0 rfl) ?_
    refine va_get (D := (dC, dI)) (ci := 4) (v := .ref ((a 111))) (C := rn_Checker) (T := fn_Checker) (N := 15) hx hb hg in_Checker hown hK hP 3 rfl rfl 2 (by decide) (hg _ wn_1_128) (fun _ h9 => h9) (congrArg some hv_3) dn_Checker_literal_21 ?_
    refine lv_sipush (v := 513) hx hb dn_Checker_literal_24 (by decide) ?_
    refine lv_iload_n hx hb dn_Checker_literal_27 rfl (lv_at hl 1 rfl) ?_
    obtain ⟨q_9, hc_10, hf⟩ := dc_b hf
    refine dc_calli (dc_runV (ar := 2) (As := [.int 513, .int v1]) (rest := []) (ci := 12) (q0 := 11) ⟨hx, hb, hml, hown, hg⟩ hK hN hT hS hA (ct_Code_emit_Ks l dC dI cI cB cJ cZ cQ N H.size a v 513 v1 q_7.2 q_9 hc_10) hP hD rfl rfl wn_6_45 wn_5_198 wn_5_199 wn_1_12 wn_5_200 rfl rfl (by decide +kernel) ⟨Nat.le_of_ble_eq_true rfl, Nat.le_of_ble_eq_true rfl⟩ rfl hl.1 rfl (Nat.le_of_ble_eq_true rfl) dn_Checker_literal_28 ⟨Nat.le_of_ble_eq_true rfl, Nat.le_of_ble_eq_true rfl⟩) hP hD hS hA (fun r_11 _ H locs hw hP hD hS => ?_)
    have hw : r_11 = q_9.1 := hw
    subst hw
    refine lv_pop hx hb dn_Checker_literal_31 rfl ?_
    rw [hQQ, ← Option.some.inj hf]
    exact xk_vret (w1 := fun u : Unit => (wC a v cI cB cJ cZ cQ q_9.2)) () hx hb hr hlocks hK hS dn_Checker_literal_32 hP hD trivial (Nat.le_refl _) (Nat.le_refl _)
  · have hf := (if_neg h).symm.trans hf
    rw [hQQ, ← Option.some.inj hf]
    exact xk_vret (w1 := fun u : Unit => (wC a v cI cB cJ cZ cQ q_1.2)) () hx hb hr hlocks hK hS dn_Checker_literal_7 hP hD trivial (Nat.le_refl _) (Nat.le_refl _)
set_option maxHeartbeats 8000000 in
set_option maxRecDepth 100000 in
theorem ct_Grammar_isUnary (l : Launch) (dC : Nat → ClassId) (dI : Nat → Nat → Nat) (cI cB cJ cZ cQ : ClassId) (N sz : Nat) (a : Nat → Nat) (v : Nat → Value) (v0 : Int32) (s : ms) (y : (Int32 × ms)) (hf : fn_Grammar_isUnary N v0 s = some y) : Met l yn_Grammar_isUnary (xw yn_Grammar_isUnary bn_Grammar_isUnary 1 (some .boolean)) ({ frames := 0, cells := 0, slots := 0, locals := 0 }) (dc_P (dC, dI) xcl (xt cI cB cJ cZ cQ) [.int v0] sz (wC a v cI cB cJ cZ cQ s)) (xk_Qi (dC, dI) xcl (xt cI cB cJ cZ cQ) (fun (r : Int32) (_ : Unit) => r = y.1) (fun u : Unit => (wC a v cI cB cJ cZ cQ y.2)) (va_A (wC a v cI cB cJ cZ cQ s) sz)) 0 0 (va_A (wC a v cI cB cJ cZ cQ s) sz) := by
  refine dc_of (QA := xk_Qi (dC, dI) xcl (xt cI cB cJ cZ cQ) (fun (r : Int32) (_ : Unit) => r = y.1) (fun u : Unit => (wC a v cI cB cJ cZ cQ y.2))) (by decide) (Nat.le_of_ble_eq_true rfl) ?_
  intro p e s0 m below meth c hx hb hml hown hg hr hlocks hin hP hK hN A hA hD hT ls hl
  have hown : s0.vm.findClass rn_Grammar = some m.cls := hown
  obtain ⟨H, hH⟩ : ∃ z, z = s0.heap := ⟨_, rfl⟩
  rw [← hH] at hP
  have hS : va_S A s0.heap H [] := by rw [hH]; exact va_S.rf
  suffices kk : ∀ QQ : State → Prop, QQ = MQ below (xk_Qi (dC, dI) xcl (xt cI cB cJ cZ cQ) (fun (r : Int32) (_ : Unit) => r = y.1) (fun u : Unit => (wC a v cI cB cJ cZ cQ y.2)) A) [.int v0].toArray s0 0 0 A → dcC p l e ({ frames := 0, cells := 0, slots := 0, locals := 0 }) s0 m [.int v0].toArray below meth c QQ (dC, dI) A (wC a v cI cB cJ cZ cQ s) 0 1 [(0, .int v0)] [] by
    have k9 := kk _ rfl H [] ls hP hD hS hl
    rw [hH] at k9; exact k9
  clear hP hD hS hl hH H ls
  intro QQ hQQ
  intro H locs ls hP hD hS hl
  unfold fn_Grammar_isUnary at hf
  refine lv_iload_n hx hb dn_Grammar_isUnary_0 rfl (lv_at hl 0 rfl) ?_
  refine lv_bipush (v := 126) hx hb dn_Grammar_isUnary_1 (by decide) ?_
  refine lv_icmp_eq (tgt := 36) hx hb dn_Grammar_isUnary_3 (by decide) (fun h => ?_) (fun h => ?_)
  · have hf := (if_pos h).symm.trans hf
    refine lv_iconst (v := 1) hx hb dn_Grammar_isUnary_36 (by decide) ?_
    refine lv_goto (tgt := 41) hx hb dn_Grammar_isUnary_37 (by decide) ?_
    rw [hQQ, ← Option.some.inj hf]
    exact xk_zret (w1 := fun u : Unit => (wC a v cI cB cJ cZ cQ s)) () hx hb hr rfl hlocks hK hS dn_Grammar_isUnary_41 hP hD rfl (Nat.le_refl _) (Nat.le_refl _)
  · have hf := (if_neg h).symm.trans hf
    refine lv_iload_n hx hb dn_Grammar_isUnary_6 rfl (lv_at hl 0 rfl) ?_
    refine lv_bipush (v := 33) hx hb dn_Grammar_isUnary_7 (by decide) ?_
    refine lv_icmp_eq (tgt := 36) hx hb dn_Grammar_isUnary_9 (by decide) (fun h => ?_) (fun h => ?_)
    · have hf := (if_pos h).symm.trans hf
      refine lv_iconst (v := 1) hx hb dn_Grammar_isUnary_36 (by decide) ?_
      refine lv_goto (tgt := 41) hx hb dn_Grammar_isUnary_37 (by decide) ?_
      rw [hQQ, ← Option.some.inj hf]
      exact xk_zret (w1 := fun u : Unit => (wC a v cI cB cJ cZ cQ s)) () hx hb hr rfl hlocks hK hS dn_Grammar_isUnary_41 hP hD rfl (Nat.le_refl _) (Nat.le_refl _)
    · have hf := (if_neg h).symm.trans hf
      refine lv_iload_n hx hb dn_Grammar_isUnary_12 rfl (lv_at hl 0 rfl) ?_
      refine lv_bipush (v := 45) hx hb dn_Grammar_isUnary_13 (by decide) ?_
      refine lv_icmp_eq (tgt := 36) hx hb dn_Grammar_isUnary_15 (by decide) (fun h => ?_) (fun h => ?_)
      · have hf := (if_pos h).symm.trans hf
        refine lv_iconst (v := 1) hx hb dn_Grammar_isUnary_36 (by decide) ?_
        refine lv_goto (tgt := 41) hx hb dn_Grammar_isUnary_37 (by decide) ?_
        rw [hQQ, ← Option.some.inj hf]
        exact xk_zret (w1 := fun u : Unit => (wC a v cI cB cJ cZ cQ s)) () hx hb hr rfl hlocks hK hS dn_Grammar_isUnary_41 hP hD rfl (Nat.le_refl _) (Nat.le_refl _)
      · have hf := (if_neg h).symm.trans hf
        refine lv_iload_n hx hb dn_Grammar_isUnary_18 rfl (lv_at hl 0 rfl) ?_
        refine lv_bipush (v := 38) hx hb dn_Grammar_isUnary_19 (by decide) ?_
        refine lv_icmp_eq (tgt := 36) hx hb dn_Grammar_isUnary_21 (by decide) (fun h => ?_) (fun h => ?_)
        · have hf := (if_pos h).symm.trans hf
          refine lv_iconst (v := 1) hx hb dn_Grammar_isUnary_36 (by decide) ?_
          refine lv_goto (tgt := 41) hx hb dn_Grammar_isUnary_37 (by decide) ?_
          rw [hQQ, ← Option.some.inj hf]
          exact xk_zret (w1 := fun u : Unit => (wC a v cI cB cJ cZ cQ s)) () hx hb hr rfl hlocks hK hS dn_Grammar_isUnary_41 hP hD rfl (Nat.le_refl _) (Nat.le_refl _)
        · have hf := (if_neg h).symm.trans hf
          refine lv_iload_n hx hb dn_Grammar_isUnary_24 rfl (lv_at hl 0 rfl) ?_
          refine lv_bipush (v := 124) hx hb dn_Grammar_isUnary_25 (by decide) ?_
          refine lv_icmp_eq (tgt := 36) hx hb dn_Grammar_isUnary_27 (by decide) (fun h => ?_) (fun h => ?_)
          · have hf := (if_pos h).symm.trans hf
            refine lv_iconst (v := 1) hx hb dn_Grammar_isUnary_36 (by decide) ?_
            refine lv_goto (tgt := 41) hx hb dn_Grammar_isUnary_37 (by decide) ?_
            rw [hQQ, ← Option.some.inj hf]
            exact xk_zret (w1 := fun u : Unit => (wC a v cI cB cJ cZ cQ s)) () hx hb hr rfl hlocks hK hS dn_Grammar_isUnary_41 hP hD rfl (Nat.le_refl _) (Nat.le_refl _)
          · have hf := (if_neg h).symm.trans hf
            refine lv_iload_n hx hb dn_Grammar_isUnary_30 rfl (lv_at hl 0 rfl) ?_
            refine lv_bipush (v := 94) hx hb dn_Grammar_isUnary_31 (by decide) ?_
            refine lv_icmp_ne (tgt := 40) hx hb dn_Grammar_isUnary_33 (by decide) (fun h => ?_) (fun h => ?_)
            · have hf := (if_neg h).symm.trans hf
              refine lv_iconst (v := 0) hx hb dn_Grammar_isUnary_40 (by decide) ?_
              rw [hQQ, ← Option.some.inj hf]
              exact xk_zret (w1 := fun u : Unit => (wC a v cI cB cJ cZ cQ s)) () hx hb hr rfl hlocks hK hS dn_Grammar_isUnary_41 hP hD rfl (Nat.le_refl _) (Nat.le_refl _)
            · have hf := (if_pos h).symm.trans hf
              refine lv_iconst (v := 1) hx hb dn_Grammar_isUnary_36 (by decide) ?_
              refine lv_goto (tgt := 41) hx hb dn_Grammar_isUnary_37 (by decide) ?_
              rw [hQQ, ← Option.some.inj hf]
              exact xk_zret (w1 := fun u : Unit => (wC a v cI cB cJ cZ cQ s)) () hx hb hr rfl hlocks hK hS dn_Grammar_isUnary_41 hP hD rfl (Nat.le_refl _) (Nat.le_refl _)
set_option maxHeartbeats 8000000 in
set_option maxRecDepth 100000 in
theorem ct_Grammar_signsBefore_Gr (l : Launch) (dC : Nat → ClassId) (dI : Nat → Nat → Nat) (cI cB cJ cZ cQ : ClassId) (N sz : Nat) (a : Nat → Nat) (v : Nat → Value) (s : ms) (y : (Unit × ms)) (hf : fn_Grammar_signsBefore_Gr N s = some y) : Met l yn_Grammar_signsBefore (xw yn_Grammar_signsBefore bn_Grammar_signsBefore 3 none) ({ frames := 2, cells := 0, slots := 0, locals := 41 }) (dc_P (dC, dI) xcl (xt cI cB cJ cZ cQ) [.ref ((a 105))] sz (wC a v cI cB cJ cZ cQ s)) (xk_Qv (dC, dI) xcl (xt cI cB cJ cZ cQ) (fun _ : Unit => True) (fun u : Unit => (wC a v cI cB cJ cZ cQ y.2)) (va_A (wC a v cI cB cJ cZ cQ s) sz)) 0 0 (va_A (wC a v cI cB cJ cZ cQ s) sz) := by
  refine dc_of (QA := xk_Qv (dC, dI) xcl (xt cI cB cJ cZ cQ) (fun _ : Unit => True) (fun u : Unit => (wC a v cI cB cJ cZ cQ y.2))) (by decide) (Nat.le_of_ble_eq_true rfl) ?_
  intro p e s0 m below meth c hx hb hml hown hg hr hlocks hin hP hK hN A hA hD hT ls hl
  have hown : s0.vm.findClass rn_Grammar = some m.cls := hown
  obtain ⟨H, hH⟩ : ∃ z, z = s0.heap := ⟨_, rfl⟩
  rw [← hH] at hP
  have hS : va_S A s0.heap H [] := by rw [hH]; exact va_S.rf
  suffices kk : ∀ QQ : State → Prop, QQ = MQ below (xk_Qv (dC, dI) xcl (xt cI cB cJ cZ cQ) (fun _ : Unit => True) (fun u : Unit => (wC a v cI cB cJ cZ cQ y.2)) A) [.ref ((a 105))].toArray s0 0 0 A → dcC p l e ({ frames := 2, cells := 0, slots := 0, locals := 41 }) s0 m [.ref ((a 105))].toArray below meth c QQ (dC, dI) A (wC a v cI cB cJ cZ cQ s) 0 3 [(0, .ref ((a 105)))] [] by
    have k9 := kk _ rfl H [] ls hP hD hS hl
    rw [hH] at k9; exact k9
  clear hP hD hS hl hH H ls
  intro QQ hQQ
  have bl_47 : ∀ (x1 : Int32) (s : ms), bk_Grammar_signsBefore_Gr_47 N x1 s = some y → dcC p l e ({ frames := 2, cells := 0, slots := 0, locals := 41 }) s0 m [.ref ((a 105))].toArray below meth c QQ (dC, dI) A (wC a v cI cB cJ cZ cQ s) 47 3 [(0, .ref ((a 105))), (1, .int x1)] [] := by
    intro x1 s hf H locs ls hP hD hS hl
    unfold bk_Grammar_signsBefore_Gr_47 at hf
    refine lv_aload_n hx hb dn_Grammar_signsBefore_47 rfl (lv_at hl 0 rfl) ?_
    refine lv_sipush (v := 256) hx hb dn_Grammar_signsBefore_48 (by decide) ?_
    refine lv_iload_n hx hb dn_Grammar_signsBefore_51 rfl (lv_at hl 1 rfl) ?_
    refine lv_aload_n hx hb dn_Grammar_signsBefore_52 rfl (lv_at hl 0 rfl) ?_
    refine va_get (D := (dC, dI)) (ci := 6) (v := .ref ((a 101))) (C := rn_Grammar) (T := fn_Grammar) (N := 15) hx hb hg in_Grammar hown hK hP 5 rfl rfl 0 (by decide) (hg _ wn_2_0) (fun _ h9 => h9) rfl dn_Grammar_signsBefore_53 ?_
    refine va_get (D := (dC, dI)) (ci := 2) (v := .int ((s.1 213 0))) (C := rn_Tokens) (T := fn_Tokens) (N := 9) hx hb hg in_Tokens hown hK hP 1 rfl rfl 2 (by decide) (hg _ wn_1_49) (fun _ h9 => h9) rfl dn_Grammar_signsBefore_56 ?_
    refine lv_iload_n hx hb dn_Grammar_signsBefore_59 rfl (lv_at hl 1 rfl) ?_
    refine lv_isub hx hb dn_Grammar_signsBefore_60 ?_
    obtain ⟨q_1, hc_2, hf⟩ := dc_b hf
    refine dc_callv (dc_runV (ar := 3) (As := [.int 256, .int x1, .int (((s.1 213 0) - x1))]) (rest := []) (ci := 6) (q0 := 5) ⟨hx, hb, hml, hown, hg⟩ hK hN hT hS hA (ct_Grammar_hold_Gr l dC dI cI cB cJ cZ cQ N H.size a v 256 x1 (((s.1 213 0) - x1)) s q_1 hc_2) hP hD rfl rfl wn_6_28 wn_6_30 sn_Grammar_hold wn_1_5 wn_6_31 rfl rfl (by decide +kernel) ⟨Nat.le_of_ble_eq_true rfl, Nat.le_of_ble_eq_true rfl⟩ rfl hl.1 rfl (Nat.le_of_ble_eq_true rfl) dn_Grammar_signsBefore_61 ⟨Nat.le_of_ble_eq_true rfl, Nat.le_of_ble_eq_true rfl⟩) hP hD hS hA (fun _ H locs hw hP hD hS => ?_)
    rw [hQQ, ← Option.some.inj hf]
    exact xk_vret (w1 := fun u : Unit => (wC a v cI cB cJ cZ cQ q_1.2)) () hx hb hr hlocks hK hS dn_Grammar_signsBefore_64 hP hD trivial (Nat.le_refl _) (Nat.le_refl _)
  have hd_10 : ∀ (n : Nat) (x1 : Int32) (x2 : Int32) (s : ms), hd_Grammar_signsBefore_Gr_10 N n x1 x2 s = some y → dcC p l e ({ frames := 2, cells := 0, slots := 0, locals := 41 }) s0 m [.ref ((a 105))].toArray below meth c QQ (dC, dI) A (wC a v cI cB cJ cZ cQ s) 10 3 [(0, .ref ((a 105))), (1, .int x1), (2, .int x2)] [] := by
    intro n
    induction n with
    | zero => intro x1 x2 s hf; cases hf
    | succ n ih =>
      intro x1 x2 s hf H locs ls hP hD hS hl
      have hf : bd_Grammar_signsBefore_Gr_10 N (hd_Grammar_signsBefore_Gr_10 N n) x1 x2 s = some y := hf
      have hk_10 := ih
      generalize hd_Grammar_signsBefore_Gr_10 N n = k_10 at hf hk_10
      unfold bd_Grammar_signsBefore_Gr_10 at hf
      refine lv_iload_n hx hb dn_Grammar_signsBefore_10 rfl (lv_at hl 2 rfl) ?_
      refine lv_aload_n hx hb dn_Grammar_signsBefore_11 rfl (lv_at hl 0 rfl) ?_
      refine va_get (D := (dC, dI)) (ci := 6) (v := .ref ((a 101))) (C := rn_Grammar) (T := fn_Grammar) (N := 15) hx hb hg in_Grammar hown hK hP 5 rfl rfl 0 (by decide) (hg _ wn_2_0) (fun _ h9 => h9) rfl dn_Grammar_signsBefore_12 ?_
      refine va_get (D := (dC, dI)) (ci := 2) (v := .int ((s.1 212 0))) (C := rn_Tokens) (T := fn_Tokens) (N := 9) hx hb hg in_Tokens hown hK hP 1 rfl rfl 1 (by decide) (hg _ wn_1_47) (fun _ h9 => h9) rfl dn_Grammar_signsBefore_15 ?_
      refine lv_icmp_ge (tgt := 47) hx hb dn_Grammar_signsBefore_18 (by decide) (fun h => ?_) (fun h => ?_)
      · have hf := (if_pos h).symm.trans hf
        exact bl_47 x1 s hf H locs ls hP hD hS (lv_sub hl [0, 1] rfl)
      · have hf := (if_neg h).symm.trans hf
        refine lv_aload_n hx hb dn_Grammar_signsBefore_21 rfl (lv_at hl 0 rfl) ?_
        refine va_get (D := (dC, dI)) (ci := 6) (v := .ref ((a 101))) (C := rn_Grammar) (T := fn_Grammar) (N := 15) hx hb hg in_Grammar hown hK hP 5 rfl rfl 0 (by decide) (hg _ wn_2_0) (fun _ h9 => h9) rfl dn_Grammar_signsBefore_22 ?_
        refine va_get (D := (dC, dI)) (ci := 2) (v := .int ((s.1 214 0))) (C := rn_Tokens) (T := fn_Tokens) (N := 9) hx hb hg in_Tokens hown hK hP 1 rfl rfl 3 (by decide) (hg _ wn_1_50) (fun _ h9 => h9) rfl dn_Grammar_signsBefore_25 ?_
        obtain ⟨q_1, hc_2, hf⟩ := dc_b hf
        refine dc_calli (dc_runS (ar := 1) (As := [.int ((s.1 214 0))]) (rest := []) ⟨hx, hb, hml, hown, hg⟩ hK hN hT hS hA (ct_Grammar_isUnary l dC dI cI cB cJ cZ cQ N H.size a v ((s.1 214 0)) s q_1 hc_2) hP hD wn_6_25 wn_6_26 wn_1_5 wn_6_27 rfl rfl (by decide +kernel) ⟨Nat.le_of_ble_eq_true rfl, Nat.le_of_ble_eq_true rfl⟩ rfl hl.1 rfl (Nat.le_of_ble_eq_true rfl) dn_Grammar_signsBefore_28 ⟨Nat.le_of_ble_eq_true rfl, Nat.le_of_ble_eq_true rfl⟩) hP hD hS hA (fun r_3 _ H locs hw hP hD hS => ?_)
        have hw : r_3 = q_1.1 := hw
        subst hw
        refine lv_if_eq (tgt := 47) hx hb dn_Grammar_signsBefore_31 (by decide) (fun h => ?_) (fun h => ?_)
        · have hf := (if_pos h).symm.trans hf
          exact bl_47 x1 q_1.2 hf H locs ls hP hD hS (lv_sub hl [0, 1] rfl)
        · have hf := (if_neg h).symm.trans hf
          refine lv_aload_n hx hb dn_Grammar_signsBefore_34 rfl (lv_at hl 0 rfl) ?_
          refine va_get (D := (dC, dI)) (ci := 6) (v := .ref ((a 101))) (C := rn_Grammar) (T := fn_Grammar) (N := 15) hx hb hg in_Grammar hown hK hP 5 rfl rfl 0 (by decide) (hg _ wn_2_0) (fun _ h9 => h9) rfl dn_Grammar_signsBefore_35 ?_
          obtain ⟨q_4, hc_5, hf⟩ := dc_b hf
          refine dc_callv (dc_runV (ar := 0) (As := []) (rest := []) (ci := 2) (q0 := 1) ⟨hx, hb, hml, hown, hg⟩ hK hN hT hS hA (ct_Tokens_take_Tk l dC dI cI cB cJ cZ cQ N H.size a v q_1.2 q_4 hc_5) hP hD rfl rfl wn_4_213 wn_4_149 wn_4_150 wn_1_2 wn_4_151 rfl rfl (by decide +kernel) ⟨Nat.le_of_ble_eq_true rfl, Nat.le_of_ble_eq_true rfl⟩ rfl hl.1 rfl (Nat.le_of_ble_eq_true rfl) dn_Grammar_signsBefore_38 ⟨Nat.le_of_ble_eq_true rfl, Nat.le_of_ble_eq_true rfl⟩) hP hD hS hA (fun _ H locs hw hP hD hS => ?_)
          refine lv_iinc (v := (x2 + 1)) (lv' := [(2, .int ((x2 + 1))), (0, .ref ((a 105))), (1, .int x1)]) hx hb dn_Grammar_signsBefore_41 hl (k := 2) rfl (dc_inc (by decide)) (by decide) rfl (fun ls hl => ?_)
          refine lv_goto (tgt := 10) hx hb dn_Grammar_signsBefore_44 (by decide) ?_
          exact hk_10 x1 ((x2 + 1)) q_4.2 hf H locs ls hP hD hS (lv_sub hl [1, 2, 0] rfl)
  intro H locs ls hP hD hS hl
  unfold fn_Grammar_signsBefore_Gr at hf
  refine lv_aload_n hx hb dn_Grammar_signsBefore_0 rfl (lv_at hl 0 rfl) ?_
  refine va_get (D := (dC, dI)) (ci := 6) (v := .ref ((a 101))) (C := rn_Grammar) (T := fn_Grammar) (N := 15) hx hb hg in_Grammar hown hK hP 5 rfl rfl 0 (by decide) (hg _ wn_2_0) (fun _ h9 => h9) rfl dn_Grammar_signsBefore_1 ?_
  refine va_get (D := (dC, dI)) (ci := 2) (v := .int ((s.1 213 0))) (C := rn_Tokens) (T := fn_Tokens) (N := 9) hx hb hg in_Tokens hown hK hP 1 rfl rfl 2 (by decide) (hg _ wn_1_49) (fun _ h9 => h9) rfl dn_Grammar_signsBefore_4 ?_
  refine lv_istore_n (lv' := [(1, .int ((s.1 213 0))), (0, .ref ((a 105)))]) hx hb dn_Grammar_signsBefore_7 rfl hl (by decide) rfl (fun ls hl => ?_)
  refine lv_iconst (v := 0) hx hb dn_Grammar_signsBefore_8 (by decide) ?_
  refine lv_istore_n (lv' := [(2, .int 0), (1, .int ((s.1 213 0))), (0, .ref ((a 105)))]) hx hb dn_Grammar_signsBefore_9 rfl hl (by decide) rfl (fun ls hl => ?_)
  exact hd_10 N ((s.1 213 0)) 0 s hf H locs ls hP hD hS (lv_sub hl [2, 1, 0] rfl)
set_option maxHeartbeats 8000000 in
set_option maxRecDepth 100000 in
theorem ct_Grammar_brace_Gr (l : Launch) (dC : Nat → ClassId) (dI : Nat → Nat → Nat) (cI cB cJ cZ cQ : ClassId) (N sz : Nat) (a : Nat → Nat) (v : Nat → Value) (s : ms) (y : (Unit × ms)) (hf : fn_Grammar_brace_Gr N s = some y) : Met l yn_Grammar_brace (xw yn_Grammar_brace bn_Grammar_brace 2 none) ({ frames := 3, cells := 0, slots := 0, locals := 62 }) (dc_P (dC, dI) xcl (xt cI cB cJ cZ cQ) [.ref ((a 105))] sz (wC a v cI cB cJ cZ cQ s)) (xk_Qv (dC, dI) xcl (xt cI cB cJ cZ cQ) (fun _ : Unit => True) (fun u : Unit => (wC a v cI cB cJ cZ cQ y.2)) (va_A (wC a v cI cB cJ cZ cQ s) sz)) 0 0 (va_A (wC a v cI cB cJ cZ cQ s) sz) := by
  refine dc_of (QA := xk_Qv (dC, dI) xcl (xt cI cB cJ cZ cQ) (fun _ : Unit => True) (fun u : Unit => (wC a v cI cB cJ cZ cQ y.2))) (by decide) (Nat.le_of_ble_eq_true rfl) ?_
  intro p e s0 m below meth c hx hb hml hown hg hr hlocks hin hP hK hN A hA hD hT ls hl
  have hown : s0.vm.findClass rn_Grammar = some m.cls := hown
  obtain ⟨H, hH⟩ : ∃ z, z = s0.heap := ⟨_, rfl⟩
  rw [← hH] at hP
  have hS : va_S A s0.heap H [] := by rw [hH]; exact va_S.rf
  suffices kk : ∀ QQ : State → Prop, QQ = MQ below (xk_Qv (dC, dI) xcl (xt cI cB cJ cZ cQ) (fun _ : Unit => True) (fun u : Unit => (wC a v cI cB cJ cZ cQ y.2)) A) [.ref ((a 105))].toArray s0 0 0 A → dcC p l e ({ frames := 3, cells := 0, slots := 0, locals := 62 }) s0 m [.ref ((a 105))].toArray below meth c QQ (dC, dI) A (wC a v cI cB cJ cZ cQ s) 0 2 [(0, .ref ((a 105)))] [] by
    have k9 := kk _ rfl H [] ls hP hD hS hl
    rw [hH] at k9; exact k9
  clear hP hD hS hl hH H ls
  intro QQ hQQ
  intro H locs ls hP hD hS hl
  unfold fn_Grammar_brace_Gr at hf
  refine lv_aload_n hx hb dn_Grammar_brace_0 rfl (lv_at hl 0 rfl) ?_
  refine va_get (D := (dC, dI)) (ci := 6) (v := .ref ((a 101))) (C := rn_Grammar) (T := fn_Grammar) (N := 15) hx hb hg in_Grammar hown hK hP 5 rfl rfl 0 (by decide) (hg _ wn_2_0) (fun _ h9 => h9) rfl dn_Grammar_brace_1 ?_
  refine va_get (D := (dC, dI)) (ci := 2) (v := .int ((s.1 215 0))) (C := rn_Tokens) (T := fn_Tokens) (N := 9) hx hb hg in_Tokens hown hK hP 1 rfl rfl 4 (by decide) (hg _ wn_1_52) (fun _ h9 => h9) rfl dn_Grammar_brace_4 ?_
  refine lv_istore_n (lv' := [(1, .int ((s.1 215 0))), (0, .ref ((a 105)))]) hx hb dn_Grammar_brace_7 rfl hl (by decide) rfl (fun ls hl => ?_)
  refine lv_aload_n hx hb dn_Grammar_brace_8 rfl (lv_at hl 1 rfl) ?_
  refine va_get (D := (dC, dI)) (ci := 6) (v := .ref ((a 101))) (C := rn_Grammar) (T := fn_Grammar) (N := 15) hx hb hg in_Grammar hown hK hP 5 rfl rfl 0 (by decide) (hg _ wn_2_0) (fun _ h9 => h9) rfl dn_Grammar_brace_9 ?_
  refine lv_bipush (v := 123) hx hb dn_Grammar_brace_12 (by decide) ?_
  obtain ⟨q_1, hc_2, hf⟩ := dc_b hf
  refine dc_callv (dc_runV (ar := 1) (As := [.int 123]) (rest := []) (ci := 2) (q0 := 1) ⟨hx, hb, hml, hown, hg⟩ hK hN hT hS hA (ct_Tokens_open_Tk l dC dI cI cB cJ cZ cQ N H.size a v 123 s q_1 hc_2) hP hD rfl rfl wn_4_214 wn_4_215 wn_4_216 wn_1_2 wn_4_217 rfl rfl (by decide +kernel) ⟨Nat.le_of_ble_eq_true rfl, Nat.le_of_ble_eq_true rfl⟩ rfl hl.1 rfl (Nat.le_of_ble_eq_true rfl) dn_Grammar_brace_14 ⟨Nat.le_of_ble_eq_true rfl, Nat.le_of_ble_eq_true rfl⟩) hP hD hS hA (fun _ H locs hw hP hD hS => ?_)
  refine lv_aload_n hx hb dn_Grammar_brace_17 rfl (lv_at hl 1 rfl) ?_
  refine va_get (D := (dC, dI)) (ci := 6) (v := .ref ((a 101))) (C := rn_Grammar) (T := fn_Grammar) (N := 15) hx hb hg in_Grammar hown hK hP 5 rfl rfl 0 (by decide) (hg _ wn_2_0) (fun _ h9 => h9) rfl dn_Grammar_brace_18 ?_
  refine va_get (D := (dC, dI)) (ci := 2) (v := .int ((q_1.2.1 214 0))) (C := rn_Tokens) (T := fn_Tokens) (N := 9) hx hb hg in_Tokens hown hK hP 1 rfl rfl 3 (by decide) (hg _ wn_1_50) (fun _ h9 => h9) rfl dn_Grammar_brace_21 ?_
  refine lv_iconst (v := 3) hx hb dn_Grammar_brace_24 (by decide) ?_
  refine lv_icmp_ne (tgt := 62) hx hb dn_Grammar_brace_25 (by decide) (fun h => ?_) (fun h => ?_)
  · have hf := (if_neg h).symm.trans hf
    refine lv_aload_n hx hb dn_Grammar_brace_62 rfl (lv_at hl 1 rfl) ?_
    refine lv_bipush (v := 123) hx hb dn_Grammar_brace_63 (by decide) ?_
    refine lv_iload_n hx hb dn_Grammar_brace_65 rfl (lv_at hl 0 rfl) ?_
    refine lv_iconst (v := 0) hx hb dn_Grammar_brace_66 (by decide) ?_
    obtain ⟨q_3, hc_4, hf⟩ := dc_b hf
    refine dc_callv (dc_runV (ar := 3) (As := [.int 123, .int ((s.1 215 0)), .int 0]) (rest := []) (ci := 6) (q0 := 5) ⟨hx, hb, hml, hown, hg⟩ hK hN hT hS hA (ct_Grammar_hold_Gr l dC dI cI cB cJ cZ cQ N H.size a v 123 ((s.1 215 0)) 0 q_1.2 q_3 hc_4) hP hD rfl rfl wn_6_28 wn_6_30 sn_Grammar_hold wn_1_5 wn_6_31 rfl rfl (by decide +kernel) ⟨Nat.le_of_ble_eq_true rfl, Nat.le_of_ble_eq_true rfl⟩ rfl hl.1 rfl (Nat.le_of_ble_eq_true rfl) dn_Grammar_brace_67 ⟨Nat.le_of_ble_eq_true rfl, Nat.le_of_ble_eq_true rfl⟩) hP hD hS hA (fun _ H locs hw hP hD hS => ?_)
    rw [hQQ, ← Option.some.inj hf]
    exact xk_vret (w1 := fun u : Unit => (wC a v cI cB cJ cZ cQ q_3.2)) () hx hb hr hlocks hK hS dn_Grammar_brace_70 hP hD trivial (Nat.le_refl _) (Nat.le_refl _)
  · have hf := (if_pos h).symm.trans hf
    refine lv_aload_n hx hb dn_Grammar_brace_28 rfl (lv_at hl 1 rfl) ?_
    refine lv_sipush (v := 202) hx hb dn_Grammar_brace_29 (by decide) ?_
    refine lv_iload_n hx hb dn_Grammar_brace_32 rfl (lv_at hl 0 rfl) ?_
    refine lv_aload_n hx hb dn_Grammar_brace_33 rfl (lv_at hl 1 rfl) ?_
    refine va_get (D := (dC, dI)) (ci := 6) (v := .ref ((a 101))) (C := rn_Grammar) (T := fn_Grammar) (N := 15) hx hb hg in_Grammar hown hK hP 5 rfl rfl 0 (by decide) (hg _ wn_2_0) (fun _ h9 => h9) rfl dn_Grammar_brace_34 ?_
    refine va_get (D := (dC, dI)) (ci := 2) (v := .int ((q_1.2.1 216 0))) (C := rn_Tokens) (T := fn_Tokens) (N := 9) hx hb hg in_Tokens hown hK hP 1 rfl rfl 5 (by decide) (hg _ wn_1_54) (fun _ h9 => h9) rfl dn_Grammar_brace_37 ?_
    obtain ⟨q_3, hc_4, hf⟩ := dc_b hf
    refine dc_callv (dc_runV (ar := 3) (As := [.int 202, .int ((s.1 215 0)), .int ((q_1.2.1 216 0))]) (rest := []) (ci := 6) (q0 := 5) ⟨hx, hb, hml, hown, hg⟩ hK hN hT hS hA (ct_Grammar_hold_Gr l dC dI cI cB cJ cZ cQ N H.size a v 202 ((s.1 215 0)) ((q_1.2.1 216 0)) q_1.2 q_3 hc_4) hP hD rfl rfl wn_6_28 wn_6_30 sn_Grammar_hold wn_1_5 wn_6_31 rfl rfl (by decide +kernel) ⟨Nat.le_of_ble_eq_true rfl, Nat.le_of_ble_eq_true rfl⟩ rfl hl.1 rfl (Nat.le_of_ble_eq_true rfl) dn_Grammar_brace_40 ⟨Nat.le_of_ble_eq_true rfl, Nat.le_of_ble_eq_true rfl⟩) hP hD hS hA (fun _ H locs hw hP hD hS => ?_)
    refine lv_aload_n hx hb dn_Grammar_brace_43 rfl (lv_at hl 1 rfl) ?_
    refine va_get (D := (dC, dI)) (ci := 6) (v := .ref ((a 101))) (C := rn_Grammar) (T := fn_Grammar) (N := 15) hx hb hg in_Grammar hown hK hP 5 rfl rfl 0 (by decide) (hg _ wn_2_0) (fun _ h9 => h9) rfl dn_Grammar_brace_44 ?_
    obtain ⟨q_5, hc_6, hf⟩ := dc_b hf
    refine dc_callv (dc_runV (ar := 0) (As := []) (rest := []) (ci := 2) (q0 := 1) ⟨hx, hb, hml, hown, hg⟩ hK hN hT hS hA (ct_Tokens_take_Tk l dC dI cI cB cJ cZ cQ N H.size a v q_3.2 q_5 hc_6) hP hD rfl rfl wn_4_213 wn_4_149 wn_4_150 wn_1_2 wn_4_151 rfl rfl (by decide +kernel) ⟨Nat.le_of_ble_eq_true rfl, Nat.le_of_ble_eq_true rfl⟩ rfl hl.1 rfl (Nat.le_of_ble_eq_true rfl) dn_Grammar_brace_47 ⟨Nat.le_of_ble_eq_true rfl, Nat.le_of_ble_eq_true rfl⟩) hP hD hS hA (fun _ H locs hw hP hD hS => ?_)
    refine lv_aload_n hx hb dn_Grammar_brace_50 rfl (lv_at hl 1 rfl) ?_
    refine va_get (D := (dC, dI)) (ci := 6) (v := .ref ((a 101))) (C := rn_Grammar) (T := fn_Grammar) (N := 15) hx hb hg in_Grammar hown hK hP 5 rfl rfl 0 (by decide) (hg _ wn_2_0) (fun _ h9 => h9) rfl dn_Grammar_brace_51 ?_
    refine lv_bipush (v := 123) hx hb dn_Grammar_brace_54 (by decide) ?_
    obtain ⟨q_7, hc_8, hf⟩ := dc_b hf
    refine dc_callv (dc_runV (ar := 1) (As := [.int 123]) (rest := []) (ci := 2) (q0 := 1) ⟨hx, hb, hml, hown, hg⟩ hK hN hT hS hA (ct_Tokens_open_Tk l dC dI cI cB cJ cZ cQ N H.size a v 123 q_5.2 q_7 hc_8) hP hD rfl rfl wn_4_214 wn_4_215 wn_4_216 wn_1_2 wn_4_217 rfl rfl (by decide +kernel) ⟨Nat.le_of_ble_eq_true rfl, Nat.le_of_ble_eq_true rfl⟩ rfl hl.1 rfl (Nat.le_of_ble_eq_true rfl) dn_Grammar_brace_56 ⟨Nat.le_of_ble_eq_true rfl, Nat.le_of_ble_eq_true rfl⟩) hP hD hS hA (fun _ H locs hw hP hD hS => ?_)
    refine lv_goto (tgt := 70) hx hb dn_Grammar_brace_59 (by decide) ?_
    rw [hQQ, ← Option.some.inj hf]
    exact xk_vret (w1 := fun u : Unit => (wC a v cI cB cJ cZ cQ q_7.2)) () hx hb hr hlocks hK hS dn_Grammar_brace_70 hP hD trivial (Nat.le_refl _) (Nat.le_refl _)
set_option maxHeartbeats 8000000 in
set_option maxRecDepth 100000 in
theorem ct_Grammar_operand_Gr (l : Launch) (dC : Nat → ClassId) (dI : Nat → Nat → Nat) (cI cB cJ cZ cQ : ClassId) (N sz : Nat) (a : Nat → Nat) (v : Nat → Value) (hv_2 : v 2 = .ref (a 110)) (hv_3 : v 3 = .ref (a 111)) (s : ms) (y : (Unit × ms)) (hf : fn_Grammar_operand_Gr N s = some y) : Met l yn_Grammar_operand (xw yn_Grammar_operand bn_Grammar_operand 1 none) ({ frames := 5, cells := 0, slots := 0, locals := 105 }) (dc_P (dC, dI) xcl (xt cI cB cJ cZ cQ) [.ref ((a 105))] sz (wC a v cI cB cJ cZ cQ s)) (xk_Qv (dC, dI) xcl (xt cI cB cJ cZ cQ) (fun _ : Unit => True) (fun u : Unit => (wC a v cI cB cJ cZ cQ y.2)) (va_A (wC a v cI cB cJ cZ cQ s) sz)) 0 0 (va_A (wC a v cI cB cJ cZ cQ s) sz) := by
  refine dc_of (QA := xk_Qv (dC, dI) xcl (xt cI cB cJ cZ cQ) (fun _ : Unit => True) (fun u : Unit => (wC a v cI cB cJ cZ cQ y.2))) (by decide) (Nat.le_of_ble_eq_true rfl) ?_
  intro p e s0 m below meth c hx hb hml hown hg hr hlocks hin hP hK hN A hA hD hT ls hl
  have hown : s0.vm.findClass rn_Grammar = some m.cls := hown
  obtain ⟨H, hH⟩ : ∃ z, z = s0.heap := ⟨_, rfl⟩
  rw [← hH] at hP
  have hS : va_S A s0.heap H [] := by rw [hH]; exact va_S.rf
  suffices kk : ∀ QQ : State → Prop, QQ = MQ below (xk_Qv (dC, dI) xcl (xt cI cB cJ cZ cQ) (fun _ : Unit => True) (fun u : Unit => (wC a v cI cB cJ cZ cQ y.2)) A) [.ref ((a 105))].toArray s0 0 0 A → dcC p l e ({ frames := 5, cells := 0, slots := 0, locals := 105 }) s0 m [.ref ((a 105))].toArray below meth c QQ (dC, dI) A (wC a v cI cB cJ cZ cQ s) 0 1 [(0, .ref ((a 105)))] [] by
    have k9 := kk _ rfl H [] ls hP hD hS hl
    rw [hH] at k9; exact k9
  clear hP hD hS hl hH H ls
  intro QQ hQQ
  intro H locs ls hP hD hS hl
  unfold fn_Grammar_operand_Gr at hf
  refine lv_aload_n hx hb dn_Grammar_operand_0 rfl (lv_at hl 0 rfl) ?_
  refine va_get (D := (dC, dI)) (ci := 6) (v := .ref ((a 101))) (C := rn_Grammar) (T := fn_Grammar) (N := 15) hx hb hg in_Grammar hown hK hP 5 rfl rfl 0 (by decide) (hg _ wn_2_0) (fun _ h9 => h9) rfl dn_Grammar_operand_1 ?_
  refine va_get (D := (dC, dI)) (ci := 2) (v := .int ((s.1 214 0))) (C := rn_Tokens) (T := fn_Tokens) (N := 9) hx hb hg in_Tokens hown hK hP 1 rfl rfl 3 (by decide) (hg _ wn_1_50) (fun _ h9 => h9) rfl dn_Grammar_operand_4 ?_
  by_cases h_0 : (s.1 214 0) = 2
  · have hf := (if_pos h_0).symm.trans hf
    refine xk_ti (y := 2) h_0 ?_
    refine lv_lookup (off := 159) (tgt := 166) hx hb dn_Grammar_operand_7 (by decide) (by decide) (by decide) ?_
    refine lv_aload_n hx hb dn_Grammar_operand_166 rfl (lv_at hl 0 rfl) ?_
    obtain ⟨q_1, hc_2, hf⟩ := dc_b hf
    refine dc_callv (dc_runV (ar := 0) (As := []) (rest := []) (ci := 6) (q0 := 5) ⟨hx, hb, hml, hown, hg⟩ hK hN hT hS hA (ct_Grammar_named_Gr l dC dI cI cB cJ cZ cQ N H.size a v hv_2 hv_3 s q_1 hc_2) hP hD rfl rfl wn_6_46 wn_6_48 sn_Grammar_named wn_1_5 wn_6_49 rfl rfl (by decide +kernel) ⟨Nat.le_of_ble_eq_true rfl, Nat.le_of_ble_eq_true rfl⟩ rfl hl.1 rfl (Nat.le_of_ble_eq_true rfl) dn_Grammar_operand_167 ⟨Nat.le_of_ble_eq_true rfl, Nat.le_of_ble_eq_true rfl⟩) hP hD hS hA (fun _ H locs hw hP hD hS => ?_)
    refine lv_goto (tgt := 180) hx hb dn_Grammar_operand_170 (by decide) ?_
    rw [hQQ, ← Option.some.inj hf]
    exact xk_vret (w1 := fun u : Unit => (wC a v cI cB cJ cZ cQ q_1.2)) () hx hb hr hlocks hK hS dn_Grammar_operand_180 hP hD trivial (Nat.le_refl _) (Nat.le_refl _)
  have hf := (if_neg h_0).symm.trans hf
  by_cases h_1 : (s.1 214 0) = 4
  · have hf := (if_pos h_1).symm.trans hf
    refine xk_ti (y := 4) h_1 ?_
    refine lv_lookup (off := 129) (tgt := 136) hx hb dn_Grammar_operand_7 (by decide) (by decide) (by decide) ?_
    refine lv_aload_n hx hb dn_Grammar_operand_136 rfl (lv_at hl 0 rfl) ?_
    refine va_get (D := (dC, dI)) (ci := 6) (v := .ref ((a 103))) (C := rn_Grammar) (T := fn_Grammar) (N := 15) hx hb hg in_Grammar hown hK hP 5 rfl rfl 1 (by decide) (hg _ wn_2_1) (fun _ h9 => h9) rfl dn_Grammar_operand_137 ?_
    refine lv_aload_n hx hb dn_Grammar_operand_140 rfl (lv_at hl 0 rfl) ?_
    refine va_get (D := (dC, dI)) (ci := 6) (v := .ref ((a 101))) (C := rn_Grammar) (T := fn_Grammar) (N := 15) hx hb hg in_Grammar hown hK hP 5 rfl rfl 0 (by decide) (hg _ wn_2_0) (fun _ h9 => h9) rfl dn_Grammar_operand_141 ?_
    refine va_get (D := (dC, dI)) (ci := 2) (v := .int ((s.1 216 0))) (C := rn_Tokens) (T := fn_Tokens) (N := 9) hx hb hg in_Tokens hown hK hP 1 rfl rfl 5 (by decide) (hg _ wn_1_54) (fun _ h9 => h9) rfl dn_Grammar_operand_144 ?_
    obtain ⟨q_1, hc_2, hf⟩ := dc_b hf
    refine dc_callv (dc_runV (ar := 1) (As := [.int ((s.1 216 0))]) (rest := []) (ci := 4) (q0 := 3) ⟨hx, hb, hml, hown, hg⟩ hK hN hT hS hA (ct_Checker_literal_Ch l dC dI cI cB cJ cZ cQ N H.size a v hv_3 ((s.1 216 0)) s q_1 hc_2) hP hD rfl rfl wn_6_36 wn_6_37 wn_6_38 wn_1_4 wn_6_39 rfl rfl (by decide +kernel) ⟨Nat.le_of_ble_eq_true rfl, Nat.le_of_ble_eq_true rfl⟩ rfl hl.1 rfl (Nat.le_of_ble_eq_true rfl) dn_Grammar_operand_147 ⟨Nat.le_of_ble_eq_true rfl, Nat.le_of_ble_eq_true rfl⟩) hP hD hS hA (fun _ H locs hw hP hD hS => ?_)
    refine lv_aload_n hx hb dn_Grammar_operand_150 rfl (lv_at hl 0 rfl) ?_
    refine va_get (D := (dC, dI)) (ci := 6) (v := .ref ((a 101))) (C := rn_Grammar) (T := fn_Grammar) (N := 15) hx hb hg in_Grammar hown hK hP 5 rfl rfl 0 (by decide) (hg _ wn_2_0) (fun _ h9 => h9) rfl dn_Grammar_operand_151 ?_
    obtain ⟨q_3, hc_4, hf⟩ := dc_b hf
    refine dc_callv (dc_runV (ar := 0) (As := []) (rest := []) (ci := 2) (q0 := 1) ⟨hx, hb, hml, hown, hg⟩ hK hN hT hS hA (ct_Tokens_take_Tk l dC dI cI cB cJ cZ cQ N H.size a v q_1.2 q_3 hc_4) hP hD rfl rfl wn_4_213 wn_4_149 wn_4_150 wn_1_2 wn_4_151 rfl rfl (by decide +kernel) ⟨Nat.le_of_ble_eq_true rfl, Nat.le_of_ble_eq_true rfl⟩ rfl hl.1 rfl (Nat.le_of_ble_eq_true rfl) dn_Grammar_operand_154 ⟨Nat.le_of_ble_eq_true rfl, Nat.le_of_ble_eq_true rfl⟩) hP hD hS hA (fun _ H locs hw hP hD hS => ?_)
    refine lv_aload_n hx hb dn_Grammar_operand_157 rfl (lv_at hl 0 rfl) ?_
    refine lv_bipush (v := 7) hx hb dn_Grammar_operand_158 (by decide) ?_
    refine va_put (D := (dC, dI)) (ci := 6) (v := .int 7) (ty := .int) (C := rn_Grammar) (T := fn_Grammar) (N := 15) hx hb hg in_Grammar tn_Grammar tk_Grammar nn_Grammar hown hK hP hD hS 5 rfl rfl 3 (by decide) (hg _ wn_2_3) (fun _ h9 => h9) rfl (tk_Grammar 3 (by decide)) rfl rfl (Nat.le_of_ble_eq_true rfl) dn_Grammar_operand_160 (fun H locs hP hD hS => ?_)
    have hP := wC_P_264 hP
    have hD := wC_D_264 hD
    refine lv_goto (tgt := 180) hx hb dn_Grammar_operand_163 (by decide) ?_
    rw [hQQ, ← Option.some.inj hf]
    exact xk_vret (w1 := fun u : Unit => (wC a v cI cB cJ cZ cQ (upI q_3.2 264 (fun _ => 7)))) () hx hb hr hlocks hK hS dn_Grammar_operand_180 hP hD trivial (Nat.le_refl _) (Nat.le_refl _)
  have hf := (if_neg h_1).symm.trans hf
  by_cases h_2 : (s.1 214 0) = 33
  · have hf := (if_pos h_2).symm.trans hf
    refine xk_ti (y := 33) h_2 ?_
    refine lv_lookup (off := 89) (tgt := 96) hx hb dn_Grammar_operand_7 (by decide) (by decide) (by decide) ?_
    refine lv_aload_n hx hb dn_Grammar_operand_96 rfl (lv_at hl 0 rfl) ?_
    obtain ⟨q_1, hc_2, hf⟩ := dc_b hf
    refine dc_callv (dc_runV (ar := 0) (As := []) (rest := []) (ci := 6) (q0 := 5) ⟨hx, hb, hml, hown, hg⟩ hK hN hT hS hA (ct_Grammar_signsBefore_Gr l dC dI cI cB cJ cZ cQ N H.size a v s q_1 hc_2) hP hD rfl rfl wn_6_21 wn_6_23 sn_Grammar_signsBefore wn_1_5 wn_6_24 rfl rfl (by decide +kernel) ⟨Nat.le_of_ble_eq_true rfl, Nat.le_of_ble_eq_true rfl⟩ rfl hl.1 rfl (Nat.le_of_ble_eq_true rfl) dn_Grammar_operand_97 ⟨Nat.le_of_ble_eq_true rfl, Nat.le_of_ble_eq_true rfl⟩) hP hD hS hA (fun _ H locs hw hP hD hS => ?_)
    refine lv_goto (tgt := 180) hx hb dn_Grammar_operand_100 (by decide) ?_
    rw [hQQ, ← Option.some.inj hf]
    exact xk_vret (w1 := fun u : Unit => (wC a v cI cB cJ cZ cQ q_1.2)) () hx hb hr hlocks hK hS dn_Grammar_operand_180 hP hD trivial (Nat.le_refl _) (Nat.le_refl _)
  have hf := (if_neg h_2).symm.trans hf
  by_cases h_3 : (s.1 214 0) = 38
  · have hf := (if_pos h_3).symm.trans hf
    refine xk_ti (y := 38) h_3 ?_
    refine lv_lookup (off := 89) (tgt := 96) hx hb dn_Grammar_operand_7 (by decide) (by decide) (by decide) ?_
    refine lv_aload_n hx hb dn_Grammar_operand_96 rfl (lv_at hl 0 rfl) ?_
    obtain ⟨q_1, hc_2, hf⟩ := dc_b hf
    refine dc_callv (dc_runV (ar := 0) (As := []) (rest := []) (ci := 6) (q0 := 5) ⟨hx, hb, hml, hown, hg⟩ hK hN hT hS hA (ct_Grammar_signsBefore_Gr l dC dI cI cB cJ cZ cQ N H.size a v s q_1 hc_2) hP hD rfl rfl wn_6_21 wn_6_23 sn_Grammar_signsBefore wn_1_5 wn_6_24 rfl rfl (by decide +kernel) ⟨Nat.le_of_ble_eq_true rfl, Nat.le_of_ble_eq_true rfl⟩ rfl hl.1 rfl (Nat.le_of_ble_eq_true rfl) dn_Grammar_operand_97 ⟨Nat.le_of_ble_eq_true rfl, Nat.le_of_ble_eq_true rfl⟩) hP hD hS hA (fun _ H locs hw hP hD hS => ?_)
    refine lv_goto (tgt := 180) hx hb dn_Grammar_operand_100 (by decide) ?_
    rw [hQQ, ← Option.some.inj hf]
    exact xk_vret (w1 := fun u : Unit => (wC a v cI cB cJ cZ cQ q_1.2)) () hx hb hr hlocks hK hS dn_Grammar_operand_180 hP hD trivial (Nat.le_refl _) (Nat.le_refl _)
  have hf := (if_neg h_3).symm.trans hf
  by_cases h_4 : (s.1 214 0) = 40
  · have hf := (if_pos h_4).symm.trans hf
    refine xk_ti (y := 40) h_4 ?_
    refine lv_lookup (off := 96) (tgt := 103) hx hb dn_Grammar_operand_7 (by decide) (by decide) (by decide) ?_
    refine lv_aload_n hx hb dn_Grammar_operand_103 rfl (lv_at hl 0 rfl) ?_
    refine lv_bipush (v := 40) hx hb dn_Grammar_operand_104 (by decide) ?_
    refine lv_aload_n hx hb dn_Grammar_operand_106 rfl (lv_at hl 0 rfl) ?_
    refine va_get (D := (dC, dI)) (ci := 6) (v := .ref ((a 101))) (C := rn_Grammar) (T := fn_Grammar) (N := 15) hx hb hg in_Grammar hown hK hP 5 rfl rfl 0 (by decide) (hg _ wn_2_0) (fun _ h9 => h9) rfl dn_Grammar_operand_107 ?_
    refine va_get (D := (dC, dI)) (ci := 2) (v := .int ((s.1 215 0))) (C := rn_Tokens) (T := fn_Tokens) (N := 9) hx hb hg in_Tokens hown hK hP 1 rfl rfl 4 (by decide) (hg _ wn_1_52) (fun _ h9 => h9) rfl dn_Grammar_operand_110 ?_
    refine lv_iconst (v := 0) hx hb dn_Grammar_operand_113 (by decide) ?_
    obtain ⟨q_1, hc_2, hf⟩ := dc_b hf
    refine dc_callv (dc_runV (ar := 3) (As := [.int 40, .int ((s.1 215 0)), .int 0]) (rest := []) (ci := 6) (q0 := 5) ⟨hx, hb, hml, hown, hg⟩ hK hN hT hS hA (ct_Grammar_hold_Gr l dC dI cI cB cJ cZ cQ N H.size a v 40 ((s.1 215 0)) 0 s q_1 hc_2) hP hD rfl rfl wn_6_28 wn_6_30 sn_Grammar_hold wn_1_5 wn_6_31 rfl rfl (by decide +kernel) ⟨Nat.le_of_ble_eq_true rfl, Nat.le_of_ble_eq_true rfl⟩ rfl hl.1 rfl (Nat.le_of_ble_eq_true rfl) dn_Grammar_operand_114 ⟨Nat.le_of_ble_eq_true rfl, Nat.le_of_ble_eq_true rfl⟩) hP hD hS hA (fun _ H locs hw hP hD hS => ?_)
    refine lv_aload_n hx hb dn_Grammar_operand_117 rfl (lv_at hl 0 rfl) ?_
    refine va_get (D := (dC, dI)) (ci := 6) (v := .ref ((a 101))) (C := rn_Grammar) (T := fn_Grammar) (N := 15) hx hb hg in_Grammar hown hK hP 5 rfl rfl 0 (by decide) (hg _ wn_2_0) (fun _ h9 => h9) rfl dn_Grammar_operand_118 ?_
    refine lv_bipush (v := 40) hx hb dn_Grammar_operand_121 (by decide) ?_
    obtain ⟨q_3, hc_4, hf⟩ := dc_b hf
    refine dc_callv (dc_runV (ar := 1) (As := [.int 40]) (rest := []) (ci := 2) (q0 := 1) ⟨hx, hb, hml, hown, hg⟩ hK hN hT hS hA (ct_Tokens_open_Tk l dC dI cI cB cJ cZ cQ N H.size a v 40 q_1.2 q_3 hc_4) hP hD rfl rfl wn_4_214 wn_4_215 wn_4_216 wn_1_2 wn_4_217 rfl rfl (by decide +kernel) ⟨Nat.le_of_ble_eq_true rfl, Nat.le_of_ble_eq_true rfl⟩ rfl hl.1 rfl (Nat.le_of_ble_eq_true rfl) dn_Grammar_operand_123 ⟨Nat.le_of_ble_eq_true rfl, Nat.le_of_ble_eq_true rfl⟩) hP hD hS hA (fun _ H locs hw hP hD hS => ?_)
    refine lv_goto (tgt := 180) hx hb dn_Grammar_operand_126 (by decide) ?_
    rw [hQQ, ← Option.some.inj hf]
    exact xk_vret (w1 := fun u : Unit => (wC a v cI cB cJ cZ cQ q_3.2)) () hx hb hr hlocks hK hS dn_Grammar_operand_180 hP hD trivial (Nat.le_refl _) (Nat.le_refl _)
  have hf := (if_neg h_4).symm.trans hf
  by_cases h_5 : (s.1 214 0) = 45
  · have hf := (if_pos h_5).symm.trans hf
    refine xk_ti (y := 45) h_5 ?_
    refine lv_lookup (off := 89) (tgt := 96) hx hb dn_Grammar_operand_7 (by decide) (by decide) (by decide) ?_
    refine lv_aload_n hx hb dn_Grammar_operand_96 rfl (lv_at hl 0 rfl) ?_
    obtain ⟨q_1, hc_2, hf⟩ := dc_b hf
    refine dc_callv (dc_runV (ar := 0) (As := []) (rest := []) (ci := 6) (q0 := 5) ⟨hx, hb, hml, hown, hg⟩ hK hN hT hS hA (ct_Grammar_signsBefore_Gr l dC dI cI cB cJ cZ cQ N H.size a v s q_1 hc_2) hP hD rfl rfl wn_6_21 wn_6_23 sn_Grammar_signsBefore wn_1_5 wn_6_24 rfl rfl (by decide +kernel) ⟨Nat.le_of_ble_eq_true rfl, Nat.le_of_ble_eq_true rfl⟩ rfl hl.1 rfl (Nat.le_of_ble_eq_true rfl) dn_Grammar_operand_97 ⟨Nat.le_of_ble_eq_true rfl, Nat.le_of_ble_eq_true rfl⟩) hP hD hS hA (fun _ H locs hw hP hD hS => ?_)
    refine lv_goto (tgt := 180) hx hb dn_Grammar_operand_100 (by decide) ?_
    rw [hQQ, ← Option.some.inj hf]
    exact xk_vret (w1 := fun u : Unit => (wC a v cI cB cJ cZ cQ q_1.2)) () hx hb hr hlocks hK hS dn_Grammar_operand_180 hP hD trivial (Nat.le_refl _) (Nat.le_refl _)
  have hf := (if_neg h_5).symm.trans hf
  by_cases h_6 : (s.1 214 0) = 94
  · have hf := (if_pos h_6).symm.trans hf
    refine xk_ti (y := 94) h_6 ?_
    refine lv_lookup (off := 89) (tgt := 96) hx hb dn_Grammar_operand_7 (by decide) (by decide) (by decide) ?_
    refine lv_aload_n hx hb dn_Grammar_operand_96 rfl (lv_at hl 0 rfl) ?_
    obtain ⟨q_1, hc_2, hf⟩ := dc_b hf
    refine dc_callv (dc_runV (ar := 0) (As := []) (rest := []) (ci := 6) (q0 := 5) ⟨hx, hb, hml, hown, hg⟩ hK hN hT hS hA (ct_Grammar_signsBefore_Gr l dC dI cI cB cJ cZ cQ N H.size a v s q_1 hc_2) hP hD rfl rfl wn_6_21 wn_6_23 sn_Grammar_signsBefore wn_1_5 wn_6_24 rfl rfl (by decide +kernel) ⟨Nat.le_of_ble_eq_true rfl, Nat.le_of_ble_eq_true rfl⟩ rfl hl.1 rfl (Nat.le_of_ble_eq_true rfl) dn_Grammar_operand_97 ⟨Nat.le_of_ble_eq_true rfl, Nat.le_of_ble_eq_true rfl⟩) hP hD hS hA (fun _ H locs hw hP hD hS => ?_)
    refine lv_goto (tgt := 180) hx hb dn_Grammar_operand_100 (by decide) ?_
    rw [hQQ, ← Option.some.inj hf]
    exact xk_vret (w1 := fun u : Unit => (wC a v cI cB cJ cZ cQ q_1.2)) () hx hb hr hlocks hK hS dn_Grammar_operand_180 hP hD trivial (Nat.le_refl _) (Nat.le_refl _)
  have hf := (if_neg h_6).symm.trans hf
  by_cases h_7 : (s.1 214 0) = 123
  · have hf := (if_pos h_7).symm.trans hf
    refine xk_ti (y := 123) h_7 ?_
    refine lv_lookup (off := 122) (tgt := 129) hx hb dn_Grammar_operand_7 (by decide) (by decide) (by decide) ?_
    refine lv_aload_n hx hb dn_Grammar_operand_129 rfl (lv_at hl 0 rfl) ?_
    obtain ⟨q_1, hc_2, hf⟩ := dc_b hf
    refine dc_callv (dc_runV (ar := 0) (As := []) (rest := []) (ci := 6) (q0 := 5) ⟨hx, hb, hml, hown, hg⟩ hK hN hT hS hA (ct_Grammar_brace_Gr l dC dI cI cB cJ cZ cQ N H.size a v s q_1 hc_2) hP hD rfl rfl wn_6_32 wn_6_34 sn_Grammar_brace wn_1_5 wn_6_35 rfl rfl (by decide +kernel) ⟨Nat.le_of_ble_eq_true rfl, Nat.le_of_ble_eq_true rfl⟩ rfl hl.1 rfl (Nat.le_of_ble_eq_true rfl) dn_Grammar_operand_130 ⟨Nat.le_of_ble_eq_true rfl, Nat.le_of_ble_eq_true rfl⟩) hP hD hS hA (fun _ H locs hw hP hD hS => ?_)
    refine lv_goto (tgt := 180) hx hb dn_Grammar_operand_133 (by decide) ?_
    rw [hQQ, ← Option.some.inj hf]
    exact xk_vret (w1 := fun u : Unit => (wC a v cI cB cJ cZ cQ q_1.2)) () hx hb hr hlocks hK hS dn_Grammar_operand_180 hP hD trivial (Nat.le_refl _) (Nat.le_refl _)
  have hf := (if_neg h_7).symm.trans hf
  by_cases h_8 : (s.1 214 0) = 124
  · have hf := (if_pos h_8).symm.trans hf
    refine xk_ti (y := 124) h_8 ?_
    refine lv_lookup (off := 89) (tgt := 96) hx hb dn_Grammar_operand_7 (by decide) (by decide) (by decide) ?_
    refine lv_aload_n hx hb dn_Grammar_operand_96 rfl (lv_at hl 0 rfl) ?_
    obtain ⟨q_1, hc_2, hf⟩ := dc_b hf
    refine dc_callv (dc_runV (ar := 0) (As := []) (rest := []) (ci := 6) (q0 := 5) ⟨hx, hb, hml, hown, hg⟩ hK hN hT hS hA (ct_Grammar_signsBefore_Gr l dC dI cI cB cJ cZ cQ N H.size a v s q_1 hc_2) hP hD rfl rfl wn_6_21 wn_6_23 sn_Grammar_signsBefore wn_1_5 wn_6_24 rfl rfl (by decide +kernel) ⟨Nat.le_of_ble_eq_true rfl, Nat.le_of_ble_eq_true rfl⟩ rfl hl.1 rfl (Nat.le_of_ble_eq_true rfl) dn_Grammar_operand_97 ⟨Nat.le_of_ble_eq_true rfl, Nat.le_of_ble_eq_true rfl⟩) hP hD hS hA (fun _ H locs hw hP hD hS => ?_)
    refine lv_goto (tgt := 180) hx hb dn_Grammar_operand_100 (by decide) ?_
    rw [hQQ, ← Option.some.inj hf]
    exact xk_vret (w1 := fun u : Unit => (wC a v cI cB cJ cZ cQ q_1.2)) () hx hb hr hlocks hK hS dn_Grammar_operand_180 hP hD trivial (Nat.le_refl _) (Nat.le_refl _)
  have hf := (if_neg h_8).symm.trans hf
  by_cases h_9 : (s.1 214 0) = 126
  · have hf := (if_pos h_9).symm.trans hf
    refine xk_ti (y := 126) h_9 ?_
    refine lv_lookup (off := 89) (tgt := 96) hx hb dn_Grammar_operand_7 (by decide) (by decide) (by decide) ?_
    refine lv_aload_n hx hb dn_Grammar_operand_96 rfl (lv_at hl 0 rfl) ?_
    obtain ⟨q_1, hc_2, hf⟩ := dc_b hf
    refine dc_callv (dc_runV (ar := 0) (As := []) (rest := []) (ci := 6) (q0 := 5) ⟨hx, hb, hml, hown, hg⟩ hK hN hT hS hA (ct_Grammar_signsBefore_Gr l dC dI cI cB cJ cZ cQ N H.size a v s q_1 hc_2) hP hD rfl rfl wn_6_21 wn_6_23 sn_Grammar_signsBefore wn_1_5 wn_6_24 rfl rfl (by decide +kernel) ⟨Nat.le_of_ble_eq_true rfl, Nat.le_of_ble_eq_true rfl⟩ rfl hl.1 rfl (Nat.le_of_ble_eq_true rfl) dn_Grammar_operand_97 ⟨Nat.le_of_ble_eq_true rfl, Nat.le_of_ble_eq_true rfl⟩) hP hD hS hA (fun _ H locs hw hP hD hS => ?_)
    refine lv_goto (tgt := 180) hx hb dn_Grammar_operand_100 (by decide) ?_
    rw [hQQ, ← Option.some.inj hf]
    exact xk_vret (w1 := fun u : Unit => (wC a v cI cB cJ cZ cQ q_1.2)) () hx hb hr hlocks hK hS dn_Grammar_operand_180 hP hD trivial (Nat.le_refl _) (Nat.le_refl _)
  have hf := (if_neg h_9).symm.trans hf
  refine lv_lookup (off := 166) (tgt := 173) hx hb dn_Grammar_operand_7 (by decide) (by rw [lv_osw h_0 (by decide)]; rw [lv_osw h_1 (by decide)]; rw [lv_osw h_2 (by decide)]; rw [lv_osw h_3 (by decide)]; rw [lv_osw h_4 (by decide)]; rw [lv_osw h_5 (by decide)]; rw [lv_osw h_6 (by decide)]; rw [lv_osw h_7 (by decide)]; rw [lv_osw h_8 (by decide)]; rw [lv_osw h_9 (by decide)]; rfl) (by decide) ?_
  refine lv_aload_n hx hb dn_Grammar_operand_173 rfl (lv_at hl 0 rfl) ?_
  refine va_get (D := (dC, dI)) (ci := 6) (v := .ref ((a 101))) (C := rn_Grammar) (T := fn_Grammar) (N := 15) hx hb hg in_Grammar hown hK hP 5 rfl rfl 0 (by decide) (hg _ wn_2_0) (fun _ h9 => h9) rfl dn_Grammar_operand_174 ?_
  obtain ⟨q_1, hc_2, hf⟩ := dc_b hf
  refine dc_callv (dc_runV (ar := 0) (As := []) (rest := []) (ci := 2) (q0 := 1) ⟨hx, hb, hml, hown, hg⟩ hK hN hT hS hA (ct_Tokens_refuse_Tk l dC dI cI cB cJ cZ cQ N H.size a v s q_1 hc_2) hP hD rfl rfl wn_5_116 wn_5_117 wn_5_118 wn_1_2 wn_5_119 rfl rfl (by decide +kernel) ⟨Nat.le_of_ble_eq_true rfl, Nat.le_of_ble_eq_true rfl⟩ rfl hl.1 rfl (Nat.le_of_ble_eq_true rfl) dn_Grammar_operand_177 ⟨Nat.le_of_ble_eq_true rfl, Nat.le_of_ble_eq_true rfl⟩) hP hD hS hA (fun _ H locs hw hP hD hS => ?_)
  rw [hQQ, ← Option.some.inj hf]
  exact xk_vret (w1 := fun u : Unit => (wC a v cI cB cJ cZ cQ q_1.2)) () hx hb hr hlocks hK hS dn_Grammar_operand_180 hP hD trivial (Nat.le_refl _) (Nat.le_refl _)
set_option maxHeartbeats 8000000 in
set_option maxRecDepth 100000 in
theorem ct_Grammar_rankOf (l : Launch) (dC : Nat → ClassId) (dI : Nat → Nat → Nat) (cI cB cJ cZ cQ : ClassId) (N sz : Nat) (a : Nat → Nat) (v : Nat → Value) (v0 : Int32) (s : ms) (y : (Int32 × ms)) (hf : fn_Grammar_rankOf N v0 s = some y) : Met l yn_Grammar_rankOf (xw yn_Grammar_rankOf bn_Grammar_rankOf 1 (some .int)) ({ frames := 0, cells := 0, slots := 0, locals := 0 }) (dc_P (dC, dI) xcl (xt cI cB cJ cZ cQ) [.int v0] sz (wC a v cI cB cJ cZ cQ s)) (xk_Qi (dC, dI) xcl (xt cI cB cJ cZ cQ) (fun (r : Int32) (_ : Unit) => r = y.1) (fun u : Unit => (wC a v cI cB cJ cZ cQ y.2)) (va_A (wC a v cI cB cJ cZ cQ s) sz)) 0 0 (va_A (wC a v cI cB cJ cZ cQ s) sz) := by
  refine dc_of (QA := xk_Qi (dC, dI) xcl (xt cI cB cJ cZ cQ) (fun (r : Int32) (_ : Unit) => r = y.1) (fun u : Unit => (wC a v cI cB cJ cZ cQ y.2))) (by decide) (Nat.le_of_ble_eq_true rfl) ?_
  intro p e s0 m below meth c hx hb hml hown hg hr hlocks hin hP hK hN A hA hD hT ls hl
  have hown : s0.vm.findClass rn_Grammar = some m.cls := hown
  obtain ⟨H, hH⟩ : ∃ z, z = s0.heap := ⟨_, rfl⟩
  rw [← hH] at hP
  have hS : va_S A s0.heap H [] := by rw [hH]; exact va_S.rf
  suffices kk : ∀ QQ : State → Prop, QQ = MQ below (xk_Qi (dC, dI) xcl (xt cI cB cJ cZ cQ) (fun (r : Int32) (_ : Unit) => r = y.1) (fun u : Unit => (wC a v cI cB cJ cZ cQ y.2)) A) [.int v0].toArray s0 0 0 A → dcC p l e ({ frames := 0, cells := 0, slots := 0, locals := 0 }) s0 m [.int v0].toArray below meth c QQ (dC, dI) A (wC a v cI cB cJ cZ cQ s) 0 1 [(0, .int v0)] [] by
    have k9 := kk _ rfl H [] ls hP hD hS hl
    rw [hH] at k9; exact k9
  clear hP hD hS hl hH H ls
  intro QQ hQQ
  intro H locs ls hP hD hS hl
  unfold fn_Grammar_rankOf at hf
  refine lv_iload_n hx hb dn_Grammar_rankOf_0 rfl (lv_at hl 0 rfl) ?_
  by_cases h_0 : v0 = 5
  · have hf := (if_pos h_0).symm.trans hf
    refine xk_ti (y := 5) h_0 ?_
    refine lv_lookup (off := 149) (tgt := 150) hx hb dn_Grammar_rankOf_1 (by decide) (by decide) (by decide) ?_
    refine lv_iconst (v := 2) hx hb dn_Grammar_rankOf_150 (by decide) ?_
    rw [hQQ, ← Option.some.inj hf]
    exact xk_iret (w1 := fun u : Unit => (wC a v cI cB cJ cZ cQ s)) () hx hb hr hlocks hK hS dn_Grammar_rankOf_151 hP hD rfl (Nat.le_refl _) (Nat.le_refl _)
  have hf := (if_neg h_0).symm.trans hf
  by_cases h_1 : v0 = 6
  · have hf := (if_pos h_1).symm.trans hf
    refine xk_ti (y := 6) h_1 ?_
    refine lv_lookup (off := 147) (tgt := 148) hx hb dn_Grammar_rankOf_1 (by decide) (by decide) (by decide) ?_
    refine lv_iconst (v := 1) hx hb dn_Grammar_rankOf_148 (by decide) ?_
    rw [hQQ, ← Option.some.inj hf]
    exact xk_iret (w1 := fun u : Unit => (wC a v cI cB cJ cZ cQ s)) () hx hb hr hlocks hK hS dn_Grammar_rankOf_149 hP hD rfl (Nat.le_refl _) (Nat.le_refl _)
  have hf := (if_neg h_1).symm.trans hf
  by_cases h_2 : v0 = 7
  · have hf := (if_pos h_2).symm.trans hf
    refine xk_ti (y := 7) h_2 ?_
    refine lv_lookup (off := 157) (tgt := 158) hx hb dn_Grammar_rankOf_1 (by decide) (by decide) (by decide) ?_
    refine lv_bipush (v := 6) hx hb dn_Grammar_rankOf_158 (by decide) ?_
    rw [hQQ, ← Option.some.inj hf]
    exact xk_iret (w1 := fun u : Unit => (wC a v cI cB cJ cZ cQ s)) () hx hb hr hlocks hK hS dn_Grammar_rankOf_160 hP hD rfl (Nat.le_refl _) (Nat.le_refl _)
  have hf := (if_neg h_2).symm.trans hf
  by_cases h_3 : v0 = 8
  · have hf := (if_pos h_3).symm.trans hf
    refine xk_ti (y := 8) h_3 ?_
    refine lv_lookup (off := 157) (tgt := 158) hx hb dn_Grammar_rankOf_1 (by decide) (by decide) (by decide) ?_
    refine lv_bipush (v := 6) hx hb dn_Grammar_rankOf_158 (by decide) ?_
    rw [hQQ, ← Option.some.inj hf]
    exact xk_iret (w1 := fun u : Unit => (wC a v cI cB cJ cZ cQ s)) () hx hb hr hlocks hK hS dn_Grammar_rankOf_160 hP hD rfl (Nat.le_refl _) (Nat.le_refl _)
  have hf := (if_neg h_3).symm.trans hf
  by_cases h_4 : v0 = 9
  · have hf := (if_pos h_4).symm.trans hf
    refine xk_ti (y := 9) h_4 ?_
    refine lv_lookup (off := 160) (tgt := 161) hx hb dn_Grammar_rankOf_1 (by decide) (by decide) (by decide) ?_
    refine lv_bipush (v := 7) hx hb dn_Grammar_rankOf_161 (by decide) ?_
    rw [hQQ, ← Option.some.inj hf]
    exact xk_iret (w1 := fun u : Unit => (wC a v cI cB cJ cZ cQ s)) () hx hb hr hlocks hK hS dn_Grammar_rankOf_163 hP hD rfl (Nat.le_refl _) (Nat.le_refl _)
  have hf := (if_neg h_4).symm.trans hf
  by_cases h_5 : v0 = 10
  · have hf := (if_pos h_5).symm.trans hf
    refine xk_ti (y := 10) h_5 ?_
    refine lv_lookup (off := 160) (tgt := 161) hx hb dn_Grammar_rankOf_1 (by decide) (by decide) (by decide) ?_
    refine lv_bipush (v := 7) hx hb dn_Grammar_rankOf_161 (by decide) ?_
    rw [hQQ, ← Option.some.inj hf]
    exact xk_iret (w1 := fun u : Unit => (wC a v cI cB cJ cZ cQ s)) () hx hb hr hlocks hK hS dn_Grammar_rankOf_163 hP hD rfl (Nat.le_refl _) (Nat.le_refl _)
  have hf := (if_neg h_5).symm.trans hf
  by_cases h_6 : v0 = 11
  · have hf := (if_pos h_6).symm.trans hf
    refine xk_ti (y := 11) h_6 ?_
    refine lv_lookup (off := 163) (tgt := 164) hx hb dn_Grammar_rankOf_1 (by decide) (by decide) (by decide) ?_
    refine lv_bipush (v := 8) hx hb dn_Grammar_rankOf_164 (by decide) ?_
    rw [hQQ, ← Option.some.inj hf]
    exact xk_iret (w1 := fun u : Unit => (wC a v cI cB cJ cZ cQ s)) () hx hb hr hlocks hK hS dn_Grammar_rankOf_166 hP hD rfl (Nat.le_refl _) (Nat.le_refl _)
  have hf := (if_neg h_6).symm.trans hf
  by_cases h_7 : v0 = 12
  · have hf := (if_pos h_7).symm.trans hf
    refine xk_ti (y := 12) h_7 ?_
    refine lv_lookup (off := 163) (tgt := 164) hx hb dn_Grammar_rankOf_1 (by decide) (by decide) (by decide) ?_
    refine lv_bipush (v := 8) hx hb dn_Grammar_rankOf_164 (by decide) ?_
    rw [hQQ, ← Option.some.inj hf]
    exact xk_iret (w1 := fun u : Unit => (wC a v cI cB cJ cZ cQ s)) () hx hb hr hlocks hK hS dn_Grammar_rankOf_166 hP hD rfl (Nat.le_refl _) (Nat.le_refl _)
  have hf := (if_neg h_7).symm.trans hf
  by_cases h_8 : v0 = 38
  · have hf := (if_pos h_8).symm.trans hf
    refine xk_ti (y := 38) h_8 ?_
    refine lv_lookup (off := 155) (tgt := 156) hx hb dn_Grammar_rankOf_1 (by decide) (by decide) (by decide) ?_
    refine lv_iconst (v := 5) hx hb dn_Grammar_rankOf_156 (by decide) ?_
    rw [hQQ, ← Option.some.inj hf]
    exact xk_iret (w1 := fun u : Unit => (wC a v cI cB cJ cZ cQ s)) () hx hb hr hlocks hK hS dn_Grammar_rankOf_157 hP hD rfl (Nat.le_refl _) (Nat.le_refl _)
  have hf := (if_neg h_8).symm.trans hf
  by_cases h_9 : v0 = 42
  · have hf := (if_pos h_9).symm.trans hf
    refine xk_ti (y := 42) h_9 ?_
    refine lv_lookup (off := 169) (tgt := 170) hx hb dn_Grammar_rankOf_1 (by decide) (by decide) (by decide) ?_
    refine lv_bipush (v := 10) hx hb dn_Grammar_rankOf_170 (by decide) ?_
    rw [hQQ, ← Option.some.inj hf]
    exact xk_iret (w1 := fun u : Unit => (wC a v cI cB cJ cZ cQ s)) () hx hb hr hlocks hK hS dn_Grammar_rankOf_172 hP hD rfl (Nat.le_refl _) (Nat.le_refl _)
  have hf := (if_neg h_9).symm.trans hf
  by_cases h_10 : v0 = 43
  · have hf := (if_pos h_10).symm.trans hf
    refine xk_ti (y := 43) h_10 ?_
    refine lv_lookup (off := 166) (tgt := 167) hx hb dn_Grammar_rankOf_1 (by decide) (by decide) (by decide) ?_
    refine lv_bipush (v := 9) hx hb dn_Grammar_rankOf_167 (by decide) ?_
    rw [hQQ, ← Option.some.inj hf]
    exact xk_iret (w1 := fun u : Unit => (wC a v cI cB cJ cZ cQ s)) () hx hb hr hlocks hK hS dn_Grammar_rankOf_169 hP hD rfl (Nat.le_refl _) (Nat.le_refl _)
  have hf := (if_neg h_10).symm.trans hf
  by_cases h_11 : v0 = 45
  · have hf := (if_pos h_11).symm.trans hf
    refine xk_ti (y := 45) h_11 ?_
    refine lv_lookup (off := 166) (tgt := 167) hx hb dn_Grammar_rankOf_1 (by decide) (by decide) (by decide) ?_
    refine lv_bipush (v := 9) hx hb dn_Grammar_rankOf_167 (by decide) ?_
    rw [hQQ, ← Option.some.inj hf]
    exact xk_iret (w1 := fun u : Unit => (wC a v cI cB cJ cZ cQ s)) () hx hb hr hlocks hK hS dn_Grammar_rankOf_169 hP hD rfl (Nat.le_refl _) (Nat.le_refl _)
  have hf := (if_neg h_11).symm.trans hf
  by_cases h_12 : v0 = 60
  · have hf := (if_pos h_12).symm.trans hf
    refine xk_ti (y := 60) h_12 ?_
    refine lv_lookup (off := 160) (tgt := 161) hx hb dn_Grammar_rankOf_1 (by decide) (by decide) (by decide) ?_
    refine lv_bipush (v := 7) hx hb dn_Grammar_rankOf_161 (by decide) ?_
    rw [hQQ, ← Option.some.inj hf]
    exact xk_iret (w1 := fun u : Unit => (wC a v cI cB cJ cZ cQ s)) () hx hb hr hlocks hK hS dn_Grammar_rankOf_163 hP hD rfl (Nat.le_refl _) (Nat.le_refl _)
  have hf := (if_neg h_12).symm.trans hf
  by_cases h_13 : v0 = 62
  · have hf := (if_pos h_13).symm.trans hf
    refine xk_ti (y := 62) h_13 ?_
    refine lv_lookup (off := 160) (tgt := 161) hx hb dn_Grammar_rankOf_1 (by decide) (by decide) (by decide) ?_
    refine lv_bipush (v := 7) hx hb dn_Grammar_rankOf_161 (by decide) ?_
    rw [hQQ, ← Option.some.inj hf]
    exact xk_iret (w1 := fun u : Unit => (wC a v cI cB cJ cZ cQ s)) () hx hb hr hlocks hK hS dn_Grammar_rankOf_163 hP hD rfl (Nat.le_refl _) (Nat.le_refl _)
  have hf := (if_neg h_13).symm.trans hf
  by_cases h_14 : v0 = 94
  · have hf := (if_pos h_14).symm.trans hf
    refine xk_ti (y := 94) h_14 ?_
    refine lv_lookup (off := 153) (tgt := 154) hx hb dn_Grammar_rankOf_1 (by decide) (by decide) (by decide) ?_
    refine lv_iconst (v := 4) hx hb dn_Grammar_rankOf_154 (by decide) ?_
    rw [hQQ, ← Option.some.inj hf]
    exact xk_iret (w1 := fun u : Unit => (wC a v cI cB cJ cZ cQ s)) () hx hb hr hlocks hK hS dn_Grammar_rankOf_155 hP hD rfl (Nat.le_refl _) (Nat.le_refl _)
  have hf := (if_neg h_14).symm.trans hf
  by_cases h_15 : v0 = 124
  · have hf := (if_pos h_15).symm.trans hf
    refine xk_ti (y := 124) h_15 ?_
    refine lv_lookup (off := 151) (tgt := 152) hx hb dn_Grammar_rankOf_1 (by decide) (by decide) (by decide) ?_
    refine lv_iconst (v := 3) hx hb dn_Grammar_rankOf_152 (by decide) ?_
    rw [hQQ, ← Option.some.inj hf]
    exact xk_iret (w1 := fun u : Unit => (wC a v cI cB cJ cZ cQ s)) () hx hb hr hlocks hK hS dn_Grammar_rankOf_153 hP hD rfl (Nat.le_refl _) (Nat.le_refl _)
  have hf := (if_neg h_15).symm.trans hf
  by_cases h_16 : v0 = 256
  · have hf := (if_pos h_16).symm.trans hf
    refine xk_ti (y := 256) h_16 ?_
    refine lv_lookup (off := 172) (tgt := 173) hx hb dn_Grammar_rankOf_1 (by decide) (by decide) (by decide) ?_
    refine lv_bipush (v := 11) hx hb dn_Grammar_rankOf_173 (by decide) ?_
    rw [hQQ, ← Option.some.inj hf]
    exact xk_iret (w1 := fun u : Unit => (wC a v cI cB cJ cZ cQ s)) () hx hb hr hlocks hK hS dn_Grammar_rankOf_175 hP hD rfl (Nat.le_refl _) (Nat.le_refl _)
  have hf := (if_neg h_16).symm.trans hf
  refine lv_lookup (off := 175) (tgt := 176) hx hb dn_Grammar_rankOf_1 (by decide) (by rw [lv_osw h_0 (by decide)]; rw [lv_osw h_1 (by decide)]; rw [lv_osw h_2 (by decide)]; rw [lv_osw h_3 (by decide)]; rw [lv_osw h_4 (by decide)]; rw [lv_osw h_5 (by decide)]; rw [lv_osw h_6 (by decide)]; rw [lv_osw h_7 (by decide)]; rw [lv_osw h_8 (by decide)]; rw [lv_osw h_9 (by decide)]; rw [lv_osw h_10 (by decide)]; rw [lv_osw h_11 (by decide)]; rw [lv_osw h_12 (by decide)]; rw [lv_osw h_13 (by decide)]; rw [lv_osw h_14 (by decide)]; rw [lv_osw h_15 (by decide)]; rw [lv_osw h_16 (by decide)]; rfl) (by decide) ?_
  refine lv_iconst (v := 0) hx hb dn_Grammar_rankOf_176 (by decide) ?_
  rw [hQQ, ← Option.some.inj hf]
  exact xk_iret (w1 := fun u : Unit => (wC a v cI cB cJ cZ cQ s)) () hx hb hr hlocks hK hS dn_Grammar_rankOf_177 hP hD rfl (Nat.le_refl _) (Nat.le_refl _)
set_option maxHeartbeats 8000000 in
set_option maxRecDepth 100000 in
theorem ct_Checker_asks (l : Launch) (dC : Nat → ClassId) (dI : Nat → Nat → Nat) (cI cB cJ cZ cQ : ClassId) (N sz : Nat) (a : Nat → Nat) (v : Nat → Value) (v0 : Int32) (s : ms) (y : (Int32 × ms)) (hf : fn_Checker_asks N v0 s = some y) : Met l yn_Checker_asks (xw yn_Checker_asks bn_Checker_asks 1 (some .boolean)) ({ frames := 0, cells := 0, slots := 0, locals := 0 }) (dc_P (dC, dI) xcl (xt cI cB cJ cZ cQ) [.int v0] sz (wC a v cI cB cJ cZ cQ s)) (xk_Qi (dC, dI) xcl (xt cI cB cJ cZ cQ) (fun (r : Int32) (_ : Unit) => r = y.1) (fun u : Unit => (wC a v cI cB cJ cZ cQ y.2)) (va_A (wC a v cI cB cJ cZ cQ s) sz)) 0 0 (va_A (wC a v cI cB cJ cZ cQ s) sz) := by
  refine dc_of (QA := xk_Qi (dC, dI) xcl (xt cI cB cJ cZ cQ) (fun (r : Int32) (_ : Unit) => r = y.1) (fun u : Unit => (wC a v cI cB cJ cZ cQ y.2))) (by decide) (Nat.le_of_ble_eq_true rfl) ?_
  intro p e s0 m below meth c hx hb hml hown hg hr hlocks hin hP hK hN A hA hD hT ls hl
  have hown : s0.vm.findClass rn_Checker = some m.cls := hown
  obtain ⟨H, hH⟩ : ∃ z, z = s0.heap := ⟨_, rfl⟩
  rw [← hH] at hP
  have hS : va_S A s0.heap H [] := by rw [hH]; exact va_S.rf
  suffices kk : ∀ QQ : State → Prop, QQ = MQ below (xk_Qi (dC, dI) xcl (xt cI cB cJ cZ cQ) (fun (r : Int32) (_ : Unit) => r = y.1) (fun u : Unit => (wC a v cI cB cJ cZ cQ y.2)) A) [.int v0].toArray s0 0 0 A → dcC p l e ({ frames := 0, cells := 0, slots := 0, locals := 0 }) s0 m [.int v0].toArray below meth c QQ (dC, dI) A (wC a v cI cB cJ cZ cQ s) 0 1 [(0, .int v0)] [] by
    have k9 := kk _ rfl H [] ls hP hD hS hl
    rw [hH] at k9; exact k9
  clear hP hD hS hl hH H ls
  intro QQ hQQ
  intro H locs ls hP hD hS hl
  unfold fn_Checker_asks at hf
  refine lv_iload_n hx hb dn_Checker_asks_0 rfl (lv_at hl 0 rfl) ?_
  by_cases h_0 : v0 = 5
  · have hf := (if_pos h_0).symm.trans hf
    refine xk_ti (y := 5) h_0 ?_
    refine lv_lookup (off := 75) (tgt := 76) hx hb dn_Checker_asks_1 (by decide) (by decide) (by decide) ?_
    refine lv_iconst (v := 1) hx hb dn_Checker_asks_76 (by decide) ?_
    rw [hQQ, ← Option.some.inj hf]
    exact xk_zret (w1 := fun u : Unit => (wC a v cI cB cJ cZ cQ s)) () hx hb hr rfl hlocks hK hS dn_Checker_asks_77 hP hD rfl (Nat.le_refl _) (Nat.le_refl _)
  have hf := (if_neg h_0).symm.trans hf
  by_cases h_1 : v0 = 6
  · have hf := (if_pos h_1).symm.trans hf
    refine xk_ti (y := 6) h_1 ?_
    refine lv_lookup (off := 75) (tgt := 76) hx hb dn_Checker_asks_1 (by decide) (by decide) (by decide) ?_
    refine lv_iconst (v := 1) hx hb dn_Checker_asks_76 (by decide) ?_
    rw [hQQ, ← Option.some.inj hf]
    exact xk_zret (w1 := fun u : Unit => (wC a v cI cB cJ cZ cQ s)) () hx hb hr rfl hlocks hK hS dn_Checker_asks_77 hP hD rfl (Nat.le_refl _) (Nat.le_refl _)
  have hf := (if_neg h_1).symm.trans hf
  by_cases h_2 : v0 = 7
  · have hf := (if_pos h_2).symm.trans hf
    refine xk_ti (y := 7) h_2 ?_
    refine lv_lookup (off := 75) (tgt := 76) hx hb dn_Checker_asks_1 (by decide) (by decide) (by decide) ?_
    refine lv_iconst (v := 1) hx hb dn_Checker_asks_76 (by decide) ?_
    rw [hQQ, ← Option.some.inj hf]
    exact xk_zret (w1 := fun u : Unit => (wC a v cI cB cJ cZ cQ s)) () hx hb hr rfl hlocks hK hS dn_Checker_asks_77 hP hD rfl (Nat.le_refl _) (Nat.le_refl _)
  have hf := (if_neg h_2).symm.trans hf
  by_cases h_3 : v0 = 8
  · have hf := (if_pos h_3).symm.trans hf
    refine xk_ti (y := 8) h_3 ?_
    refine lv_lookup (off := 75) (tgt := 76) hx hb dn_Checker_asks_1 (by decide) (by decide) (by decide) ?_
    refine lv_iconst (v := 1) hx hb dn_Checker_asks_76 (by decide) ?_
    rw [hQQ, ← Option.some.inj hf]
    exact xk_zret (w1 := fun u : Unit => (wC a v cI cB cJ cZ cQ s)) () hx hb hr rfl hlocks hK hS dn_Checker_asks_77 hP hD rfl (Nat.le_refl _) (Nat.le_refl _)
  have hf := (if_neg h_3).symm.trans hf
  by_cases h_4 : v0 = 9
  · have hf := (if_pos h_4).symm.trans hf
    refine xk_ti (y := 9) h_4 ?_
    refine lv_lookup (off := 75) (tgt := 76) hx hb dn_Checker_asks_1 (by decide) (by decide) (by decide) ?_
    refine lv_iconst (v := 1) hx hb dn_Checker_asks_76 (by decide) ?_
    rw [hQQ, ← Option.some.inj hf]
    exact xk_zret (w1 := fun u : Unit => (wC a v cI cB cJ cZ cQ s)) () hx hb hr rfl hlocks hK hS dn_Checker_asks_77 hP hD rfl (Nat.le_refl _) (Nat.le_refl _)
  have hf := (if_neg h_4).symm.trans hf
  by_cases h_5 : v0 = 10
  · have hf := (if_pos h_5).symm.trans hf
    refine xk_ti (y := 10) h_5 ?_
    refine lv_lookup (off := 75) (tgt := 76) hx hb dn_Checker_asks_1 (by decide) (by decide) (by decide) ?_
    refine lv_iconst (v := 1) hx hb dn_Checker_asks_76 (by decide) ?_
    rw [hQQ, ← Option.some.inj hf]
    exact xk_zret (w1 := fun u : Unit => (wC a v cI cB cJ cZ cQ s)) () hx hb hr rfl hlocks hK hS dn_Checker_asks_77 hP hD rfl (Nat.le_refl _) (Nat.le_refl _)
  have hf := (if_neg h_5).symm.trans hf
  by_cases h_6 : v0 = 60
  · have hf := (if_pos h_6).symm.trans hf
    refine xk_ti (y := 60) h_6 ?_
    refine lv_lookup (off := 75) (tgt := 76) hx hb dn_Checker_asks_1 (by decide) (by decide) (by decide) ?_
    refine lv_iconst (v := 1) hx hb dn_Checker_asks_76 (by decide) ?_
    rw [hQQ, ← Option.some.inj hf]
    exact xk_zret (w1 := fun u : Unit => (wC a v cI cB cJ cZ cQ s)) () hx hb hr rfl hlocks hK hS dn_Checker_asks_77 hP hD rfl (Nat.le_refl _) (Nat.le_refl _)
  have hf := (if_neg h_6).symm.trans hf
  by_cases h_7 : v0 = 62
  · have hf := (if_pos h_7).symm.trans hf
    refine xk_ti (y := 62) h_7 ?_
    refine lv_lookup (off := 75) (tgt := 76) hx hb dn_Checker_asks_1 (by decide) (by decide) (by decide) ?_
    refine lv_iconst (v := 1) hx hb dn_Checker_asks_76 (by decide) ?_
    rw [hQQ, ← Option.some.inj hf]
    exact xk_zret (w1 := fun u : Unit => (wC a v cI cB cJ cZ cQ s)) () hx hb hr rfl hlocks hK hS dn_Checker_asks_77 hP hD rfl (Nat.le_refl _) (Nat.le_refl _)
  have hf := (if_neg h_7).symm.trans hf
  refine lv_lookup (off := 77) (tgt := 78) hx hb dn_Checker_asks_1 (by decide) (by rw [lv_osw h_0 (by decide)]; rw [lv_osw h_1 (by decide)]; rw [lv_osw h_2 (by decide)]; rw [lv_osw h_3 (by decide)]; rw [lv_osw h_4 (by decide)]; rw [lv_osw h_5 (by decide)]; rw [lv_osw h_6 (by decide)]; rw [lv_osw h_7 (by decide)]; rfl) (by decide) ?_
  refine lv_iconst (v := 0) hx hb dn_Checker_asks_78 (by decide) ?_
  rw [hQQ, ← Option.some.inj hf]
  exact xk_zret (w1 := fun u : Unit => (wC a v cI cB cJ cZ cQ s)) () hx hb hr rfl hlocks hK hS dn_Checker_asks_79 hP hD rfl (Nat.le_refl _) (Nat.le_refl _)
set_option maxHeartbeats 8000000 in
set_option maxRecDepth 100000 in
theorem ct_Checker_binary_Ch (l : Launch) (dC : Nat → ClassId) (dI : Nat → Nat → Nat) (cI cB cJ cZ cQ : ClassId) (N sz : Nat) (a : Nat → Nat) (v : Nat → Value) (hv_3 : v 3 = .ref (a 111)) (v1 : Int32) (v2 : Int32) (s : ms) (y : (Unit × ms)) (hf : fn_Checker_binary_Ch N v1 v2 s = some y) : Met l yn_Checker_binary (xw yn_Checker_binary bn_Checker_binary 8 none) ({ frames := 3, cells := 0, slots := 0, locals := 82 }) (dc_P (dC, dI) xcl (xt cI cB cJ cZ cQ) [.ref ((a 103)), .int v1, .int v2] sz (wC a v cI cB cJ cZ cQ s)) (xk_Qv (dC, dI) xcl (xt cI cB cJ cZ cQ) (fun _ : Unit => True) (fun u : Unit => (wC a v cI cB cJ cZ cQ y.2)) (va_A (wC a v cI cB cJ cZ cQ s) sz)) 0 0 (va_A (wC a v cI cB cJ cZ cQ s) sz) := by
  refine dc_of (QA := xk_Qv (dC, dI) xcl (xt cI cB cJ cZ cQ) (fun _ : Unit => True) (fun u : Unit => (wC a v cI cB cJ cZ cQ y.2))) (by decide) (Nat.le_of_ble_eq_true rfl) ?_
  intro p e s0 m below meth c hx hb hml hown hg hr hlocks hin hP hK hN A hA hD hT ls hl
  have hown : s0.vm.findClass rn_Checker = some m.cls := hown
  obtain ⟨H, hH⟩ : ∃ z, z = s0.heap := ⟨_, rfl⟩
  rw [← hH] at hP
  have hS : va_S A s0.heap H [] := by rw [hH]; exact va_S.rf
  suffices kk : ∀ QQ : State → Prop, QQ = MQ below (xk_Qv (dC, dI) xcl (xt cI cB cJ cZ cQ) (fun _ : Unit => True) (fun u : Unit => (wC a v cI cB cJ cZ cQ y.2)) A) [.ref ((a 103)), .int v1, .int v2].toArray s0 0 0 A → dcC p l e ({ frames := 3, cells := 0, slots := 0, locals := 82 }) s0 m [.ref ((a 103)), .int v1, .int v2].toArray below meth c QQ (dC, dI) A (wC a v cI cB cJ cZ cQ s) 0 8 [(0, .ref ((a 103))), (1, .int v1), (2, .int v2)] [] by
    have k9 := kk _ rfl H [] ls hP hD hS hl
    rw [hH] at k9; exact k9
  clear hP hD hS hl hH H ls
  intro QQ hQQ
  have bl_140 : ∀ (x1 : Int32) (x4 : Int32) (t0 : Int32) (s : ms), bk_Checker_binary_Ch_140 N x1 x4 t0 s = some y → dcC p l e ({ frames := 3, cells := 0, slots := 0, locals := 82 }) s0 m [.ref ((a 103)), .int v1, .int v2].toArray below meth c QQ (dC, dI) A (wC a v cI cB cJ cZ cQ s) 140 8 [(0, .ref ((a 103))), (1, .int x1), (4, .int x4)] [.int t0, .ref ((a 103))] := by
    intro x1 x4 t0 s hf H locs ls hP hD hS hl
    unfold bk_Checker_binary_Ch_140 at hf
    obtain ⟨q_1, hc_2, hf⟩ := dc_b hf
    refine dc_callv (dc_runV (ar := 1) (As := [.int t0]) (rest := []) (ci := 4) (q0 := 3) ⟨hx, hb, hml, hown, hg⟩ hK hN hT hS hA (ct_Checker_push_Ch l dC dI cI cB cJ cZ cQ N H.size a v t0 s q_1 hc_2) hP hD rfl rfl wn_6_41 wn_6_43 sn_Checker_push wn_1_4 wn_6_44 rfl rfl (by decide +kernel) ⟨Nat.le_of_ble_eq_true rfl, Nat.le_of_ble_eq_true rfl⟩ rfl hl.1 rfl (Nat.le_of_ble_eq_true rfl) dn_Checker_binary_140 ⟨Nat.le_of_ble_eq_true rfl, Nat.le_of_ble_eq_true rfl⟩) hP hD hS hA (fun _ H locs hw hP hD hS => ?_)
    refine lv_aload_n hx hb dn_Checker_binary_143 rfl (lv_at hl 0 rfl) ?_
    refine va_get (D := (dC, dI)) (ci := 4) (v := .ref ((a 111))) (C := rn_Checker) (T := fn_Checker) (N := 15) hx hb hg in_Checker hown hK hP 3 rfl rfl 2 (by decide) (hg _ wn_1_128) (fun _ h9 => h9) (congrArg some hv_3) dn_Checker_binary_144 ?_
    refine lv_iload_n hx hb dn_Checker_binary_147 rfl (lv_at hl 1 rfl) ?_
    refine lv_iload hx hb dn_Checker_binary_148 (lv_at hl 2 rfl) ?_
    obtain ⟨q_3, hc_4, hf⟩ := dc_b hf
    refine dc_calli (dc_runV (ar := 2) (As := [.int x1, .int x4]) (rest := []) (ci := 12) (q0 := 11) ⟨hx, hb, hml, hown, hg⟩ hK hN hT hS hA (ct_Code_emit_Ks l dC dI cI cB cJ cZ cQ N H.size a v x1 x4 q_1.2 q_3 hc_4) hP hD rfl rfl wn_6_45 wn_5_198 wn_5_199 wn_1_12 wn_5_200 rfl rfl (by decide +kernel) ⟨Nat.le_of_ble_eq_true rfl, Nat.le_of_ble_eq_true rfl⟩ rfl hl.1 rfl (Nat.le_of_ble_eq_true rfl) dn_Checker_binary_150 ⟨Nat.le_of_ble_eq_true rfl, Nat.le_of_ble_eq_true rfl⟩) hP hD hS hA (fun r_5 _ H locs hw hP hD hS => ?_)
    have hw : r_5 = q_3.1 := hw
    subst hw
    refine lv_pop hx hb dn_Checker_binary_153 rfl ?_
    rw [hQQ, ← Option.some.inj hf]
    exact xk_vret (w1 := fun u : Unit => (wC a v cI cB cJ cZ cQ q_3.2)) () hx hb hr hlocks hK hS dn_Checker_binary_154 hP hD trivial (Nat.le_refl _) (Nat.le_refl _)
  have bl_126 : ∀ (x1 : Int32) (x4 : Int32) (s : ms), bk_Checker_binary_Ch_126 N x1 x4 s = some y → dcC p l e ({ frames := 3, cells := 0, slots := 0, locals := 82 }) s0 m [.ref ((a 103)), .int v1, .int v2].toArray below meth c QQ (dC, dI) A (wC a v cI cB cJ cZ cQ s) 126 8 [(0, .ref ((a 103))), (1, .int x1), (4, .int x4)] [] := by
    intro x1 x4 s hf H locs ls hP hD hS hl
    unfold bk_Checker_binary_Ch_126 at hf
    refine lv_aload_n hx hb dn_Checker_binary_126 rfl (lv_at hl 0 rfl) ?_
    refine lv_iload_n hx hb dn_Checker_binary_127 rfl (lv_at hl 1 rfl) ?_
    obtain ⟨q_1, hc_2, hf⟩ := dc_b hf
    refine dc_calli (dc_runS (ar := 1) (As := [.int x1]) (rest := [.ref ((a 103))]) ⟨hx, hb, hml, hown, hg⟩ hK hN hT hS hA (ct_Checker_asks l dC dI cI cB cJ cZ cQ N H.size a v x1 s q_1 hc_2) hP hD wn_6_87 wn_6_88 wn_1_4 wn_6_89 rfl rfl (by decide +kernel) ⟨Nat.le_of_ble_eq_true rfl, Nat.le_of_ble_eq_true rfl⟩ rfl hl.1 rfl (Nat.le_of_ble_eq_true rfl) dn_Checker_binary_128 ⟨Nat.le_of_ble_eq_true rfl, Nat.le_of_ble_eq_true rfl⟩) hP hD hS hA (fun r_3 _ H locs hw hP hD hS => ?_)
    have hw : r_3 = q_1.1 := hw
    subst hw
    refine lv_if_eq (tgt := 138) hx hb dn_Checker_binary_131 (by decide) (fun h => ?_) (fun h => ?_)
    · have hf := (if_pos h).symm.trans hf
      refine lv_iload hx hb dn_Checker_binary_138 (lv_at hl 2 rfl) ?_
      exact bl_140 x1 x4 x4 q_1.2 hf H locs ls hP hD hS hl
    · have hf := (if_neg h).symm.trans hf
      refine lv_iconst (v := 1) hx hb dn_Checker_binary_134 (by decide) ?_
      refine lv_goto (tgt := 140) hx hb dn_Checker_binary_135 (by decide) ?_
      exact bl_140 x1 x4 1 q_1.2 hf H locs ls hP hD hS hl
  have bl_123 : ∀ (x1 : Int32) (x4 : Int32) (t0 : Int32) (s : ms), bk_Checker_binary_Ch_123 N x1 x4 t0 s = some y → dcC p l e ({ frames := 3, cells := 0, slots := 0, locals := 82 }) s0 m [.ref ((a 103)), .int v1, .int v2].toArray below meth c QQ (dC, dI) A (wC a v cI cB cJ cZ cQ s) 123 8 [(0, .ref ((a 103))), (1, .int x1), (4, .int x4)] [.int t0, .ref ((a 103))] := by
    intro x1 x4 t0 s hf H locs ls hP hD hS hl
    unfold bk_Checker_binary_Ch_123 at hf
    obtain ⟨q_1, hc_2, hf⟩ := dc_b hf
    refine dc_callv (dc_runV (ar := 1) (As := [.int t0]) (rest := []) (ci := 4) (q0 := 3) ⟨hx, hb, hml, hown, hg⟩ hK hN hT hS hA (ct_Checker_spend_Ch l dC dI cI cB cJ cZ cQ N H.size a v t0 s q_1 hc_2) hP hD rfl rfl wn_6_86 wn_5_228 wn_5_229 wn_1_4 wn_5_230 rfl rfl (by decide +kernel) ⟨Nat.le_of_ble_eq_true rfl, Nat.le_of_ble_eq_true rfl⟩ rfl hl.1 rfl (Nat.le_of_ble_eq_true rfl) dn_Checker_binary_123 ⟨Nat.le_of_ble_eq_true rfl, Nat.le_of_ble_eq_true rfl⟩) hP hD hS hA (fun _ H locs hw hP hD hS => ?_)
    exact bl_126 x1 x4 q_1.2 hf H locs ls hP hD hS hl
  have bl_80 : ∀ (x1 : Int32) (x3 : Int32) (x4 : Int32) (x5 : Int32) (s : ms), bk_Checker_binary_Ch_80 N x1 x3 x4 x5 s = some y → dcC p l e ({ frames := 3, cells := 0, slots := 0, locals := 82 }) s0 m [.ref ((a 103)), .int v1, .int v2].toArray below meth c QQ (dC, dI) A (wC a v cI cB cJ cZ cQ s) 80 8 [(0, .ref ((a 103))), (1, .int x1), (3, .int x3), (4, .int x4), (5, .int x5)] [] := by
    intro x1 x3 x4 x5 s hf H locs ls hP hD hS hl
    unfold bk_Checker_binary_Ch_80 at hf
    refine lv_iload hx hb dn_Checker_binary_80 (lv_at hl 3 rfl) ?_
    refine lv_iload_n hx hb dn_Checker_binary_82 rfl (lv_at hl 2 rfl) ?_
    refine va_mmax (x := x4) (y := x3) (rest := []) hx hb (by rw [hml]; exact hl.1.symm) hown (hg _ wn_5_132) (hg _ wn_4_99) (hg _ wn_1_19) (hg _ wn_4_100) (Nat.le_of_ble_eq_true rfl) (Nat.le_of_ble_eq_true rfl) (Nat.zero_le _) (Nat.zero_le _) dn_Checker_binary_83 ?_
    refine lv_istore (lv' := [(7, .int ((if x4 < x3 then x3 else x4))), (0, .ref ((a 103))), (1, .int x1), (3, .int x3), (4, .int x4), (5, .int x5)]) hx hb dn_Checker_binary_86 hl (by decide) rfl (fun ls hl => ?_)
    refine lv_iload hx hb dn_Checker_binary_88 (lv_at hl 5 rfl) ?_
    refine lv_if_eq (tgt := 106) hx hb dn_Checker_binary_90 (by decide) (fun h => ?_) (fun h => ?_)
    · have hf := (if_pos h).symm.trans hf
      refine lv_aload_n hx hb dn_Checker_binary_106 rfl (lv_at hl 1 rfl) ?_
      refine lv_iload_n hx hb dn_Checker_binary_107 rfl (lv_at hl 2 rfl) ?_
      refine lv_bipush (v := 42) hx hb dn_Checker_binary_108 (by decide) ?_
      refine lv_icmp_ne (tgt := 121) hx hb dn_Checker_binary_110 (by decide) (fun h => ?_) (fun h => ?_)
      · have hf := (if_neg h).symm.trans hf
        refine lv_iload hx hb dn_Checker_binary_121 (lv_at hl 0 rfl) ?_
        exact bl_123 x1 x4 ((if x4 < x3 then x3 else x4)) s hf H locs ls hP hD hS (lv_sub hl [1, 2, 4] rfl)
      · have hf := (if_pos h).symm.trans hf
        refine lv_iload hx hb dn_Checker_binary_113 (lv_at hl 0 rfl) ?_
        refine lv_iload hx hb dn_Checker_binary_115 (lv_at hl 0 rfl) ?_
        refine lv_imul hx hb dn_Checker_binary_117 ?_
        refine lv_goto (tgt := 123) hx hb dn_Checker_binary_118 (by decide) ?_
        exact bl_123 x1 x4 (((if x4 < x3 then x3 else x4) * (if x4 < x3 then x3 else x4))) s hf H locs ls hP hD hS (lv_sub hl [1, 2, 4] rfl)
    · have hf := (if_neg h).symm.trans hf
      refine lv_aload_n hx hb dn_Checker_binary_93 rfl (lv_at hl 1 rfl) ?_
      refine lv_iconst (v := 3) hx hb dn_Checker_binary_94 (by decide) ?_
      refine lv_iload hx hb dn_Checker_binary_95 (lv_at hl 4 rfl) ?_
      refine lv_imul hx hb dn_Checker_binary_97 ?_
      refine lv_iload_n hx hb dn_Checker_binary_98 rfl (lv_at hl 3 rfl) ?_
      refine lv_iadd hx hb dn_Checker_binary_99 ?_
      obtain ⟨q_1, hc_2, hf⟩ := dc_b hf
      refine dc_callv (dc_runV (ar := 1) (As := [.int (((3 * x4) + x3))]) (rest := []) (ci := 4) (q0 := 3) ⟨hx, hb, hml, hown, hg⟩ hK hN hT hS hA (ct_Checker_spend_Ch l dC dI cI cB cJ cZ cQ N H.size a v (((3 * x4) + x3)) s q_1 hc_2) hP hD rfl rfl wn_6_86 wn_5_228 wn_5_229 wn_1_4 wn_5_230 rfl rfl (by decide +kernel) ⟨Nat.le_of_ble_eq_true rfl, Nat.le_of_ble_eq_true rfl⟩ rfl hl.1 rfl (Nat.le_of_ble_eq_true rfl) dn_Checker_binary_100 ⟨Nat.le_of_ble_eq_true rfl, Nat.le_of_ble_eq_true rfl⟩) hP hD hS hA (fun _ H locs hw hP hD hS => ?_)
      refine lv_goto (tgt := 126) hx hb dn_Checker_binary_103 (by decide) ?_
      exact bl_126 x1 x4 q_1.2 hf H locs ls hP hD hS (lv_sub hl [1, 2, 4] rfl)
  have bl_59 : ∀ (x1 : Int32) (x2 : Int32) (x3 : Int32) (x4 : Int32) (x5 : Int32) (t0 : Int32) (s : ms), bk_Checker_binary_Ch_59 N x1 x2 x3 x4 x5 t0 s = some y → dcC p l e ({ frames := 3, cells := 0, slots := 0, locals := 82 }) s0 m [.ref ((a 103)), .int v1, .int v2].toArray below meth c QQ (dC, dI) A (wC a v cI cB cJ cZ cQ s) 59 8 [(0, .ref ((a 103))), (1, .int x1), (2, .int x2), (3, .int x3), (4, .int x4), (5, .int x5)] [.int t0] := by
    intro x1 x2 x3 x4 x5 t0 s hf H locs ls hP hD hS hl
    unfold bk_Checker_binary_Ch_59 at hf
    refine lv_istore (lv' := [(6, .int t0), (0, .ref ((a 103))), (1, .int x1), (2, .int x2), (3, .int x3), (4, .int x4), (5, .int x5)]) hx hb dn_Checker_binary_59 hl (by decide) rfl (fun ls hl => ?_)
    refine lv_iload hx hb dn_Checker_binary_61 (lv_at hl 0 rfl) ?_
    refine lv_if_ne (tgt := 80) hx hb dn_Checker_binary_63 (by decide) (fun h => ?_) (fun h => ?_)
    · have hf := (if_neg h).symm.trans hf
      exact bl_80 x1 x3 x4 x5 s hf H locs ls hP hD hS (lv_sub hl [1, 2, 4, 5, 6] rfl)
    · have hf := (if_pos h).symm.trans hf
      refine lv_iload hx hb dn_Checker_binary_66 (lv_at hl 5 rfl) ?_
      refine lv_iload_n hx hb dn_Checker_binary_68 rfl (lv_at hl 4 rfl) ?_
      refine lv_icmp_eq (tgt := 80) hx hb dn_Checker_binary_69 (by decide) (fun h => ?_) (fun h => ?_)
      · have hf := (if_pos h).symm.trans hf
        exact bl_80 x1 x3 x4 x5 s hf H locs ls hP hD hS (lv_sub hl [1, 2, 4, 5, 6] rfl)
      · have hf := (if_neg h).symm.trans hf
        refine lv_aload_n hx hb dn_Checker_binary_72 rfl (lv_at hl 1 rfl) ?_
        refine lv_bipush (v := 30) hx hb dn_Checker_binary_73 (by decide) ?_
        refine lv_iload_n hx hb dn_Checker_binary_75 rfl (lv_at hl 3 rfl) ?_
        obtain ⟨q_1, hc_2, hf⟩ := dc_b hf
        refine dc_callv (dc_runV (ar := 2) (As := [.int 30, .int x2]) (rest := []) (ci := 4) (q0 := 3) ⟨hx, hb, hml, hown, hg⟩ hK hN hT hS hA (ct_Checker_refuse_Ch l dC dI cI cB cJ cZ cQ N H.size a v 30 x2 s q_1 hc_2) hP hD rfl rfl wn_6_56 wn_4_202 wn_4_203 wn_1_4 wn_4_204 rfl rfl (by decide +kernel) ⟨Nat.le_of_ble_eq_true rfl, Nat.le_of_ble_eq_true rfl⟩ rfl hl.1 rfl (Nat.le_of_ble_eq_true rfl) dn_Checker_binary_76 ⟨Nat.le_of_ble_eq_true rfl, Nat.le_of_ble_eq_true rfl⟩) hP hD hS hA (fun _ H locs hw hP hD hS => ?_)
        rw [hQQ, ← Option.some.inj hf]
        exact xk_vret (w1 := fun u : Unit => (wC a v cI cB cJ cZ cQ q_1.2)) () hx hb hr hlocks hK hS dn_Checker_binary_79 hP hD trivial (Nat.le_refl _) (Nat.le_refl _)
  have bl_54 : ∀ (x1 : Int32) (x2 : Int32) (x3 : Int32) (x4 : Int32) (x5 : Int32) (s : ms), bk_Checker_binary_Ch_54 N x1 x2 x3 x4 x5 s = some y → dcC p l e ({ frames := 3, cells := 0, slots := 0, locals := 82 }) s0 m [.ref ((a 103)), .int v1, .int v2].toArray below meth c QQ (dC, dI) A (wC a v cI cB cJ cZ cQ s) 54 8 [(0, .ref ((a 103))), (1, .int x1), (2, .int x2), (3, .int x3), (4, .int x4), (5, .int x5)] [] := by
    intro x1 x2 x3 x4 x5 s hf H locs ls hP hD hS hl
    unfold bk_Checker_binary_Ch_54 at hf
    refine lv_iconst (v := 1) hx hb dn_Checker_binary_54 (by decide) ?_
    refine lv_goto (tgt := 59) hx hb dn_Checker_binary_55 (by decide) ?_
    exact bl_59 x1 x2 x3 x4 x5 1 s hf H locs ls hP hD hS hl
  have bl_36 : ∀ (x1 : Int32) (x2 : Int32) (x3 : Int32) (x4 : Int32) (t0 : Int32) (s : ms), bk_Checker_binary_Ch_36 N x1 x2 x3 x4 t0 s = some y → dcC p l e ({ frames := 3, cells := 0, slots := 0, locals := 82 }) s0 m [.ref ((a 103)), .int v1, .int v2].toArray below meth c QQ (dC, dI) A (wC a v cI cB cJ cZ cQ s) 36 8 [(0, .ref ((a 103))), (1, .int x1), (2, .int x2), (3, .int x3), (4, .int x4)] [.int t0] := by
    intro x1 x2 x3 x4 t0 s hf H locs ls hP hD hS hl
    unfold bk_Checker_binary_Ch_36 at hf
    refine lv_istore (lv' := [(5, .int t0), (0, .ref ((a 103))), (1, .int x1), (2, .int x2), (3, .int x3), (4, .int x4)]) hx hb dn_Checker_binary_36 hl (by decide) rfl (fun ls hl => ?_)
    refine lv_iload hx hb dn_Checker_binary_38 (lv_at hl 0 rfl) ?_
    refine lv_if_ne (tgt := 54) hx hb dn_Checker_binary_40 (by decide) (fun h => ?_) (fun h => ?_)
    · have hf := (if_neg h).symm.trans hf
      exact bl_54 x1 x2 x3 x4 t0 s hf H locs ls hP hD hS (lv_sub hl [1, 2, 3, 4, 5, 0] rfl)
    · have hf := (if_pos h).symm.trans hf
      refine lv_iload_n hx hb dn_Checker_binary_43 rfl (lv_at hl 2 rfl) ?_
      refine lv_iconst (v := 5) hx hb dn_Checker_binary_44 (by decide) ?_
      refine lv_icmp_eq (tgt := 54) hx hb dn_Checker_binary_45 (by decide) (fun h => ?_) (fun h => ?_)
      · have hf := (if_pos h).symm.trans hf
        exact bl_54 x1 x2 x3 x4 t0 s hf H locs ls hP hD hS (lv_sub hl [1, 2, 3, 4, 5, 0] rfl)
      · have hf := (if_neg h).symm.trans hf
        refine lv_iload_n hx hb dn_Checker_binary_48 rfl (lv_at hl 2 rfl) ?_
        refine lv_bipush (v := 6) hx hb dn_Checker_binary_49 (by decide) ?_
        refine lv_icmp_ne (tgt := 58) hx hb dn_Checker_binary_51 (by decide) (fun h => ?_) (fun h => ?_)
        · have hf := (if_neg h).symm.trans hf
          refine lv_iconst (v := 0) hx hb dn_Checker_binary_58 (by decide) ?_
          exact bl_59 x1 x2 x3 x4 t0 0 s hf H locs ls hP hD hS (lv_sub hl [1, 2, 3, 4, 5, 0] rfl)
        · have hf := (if_pos h).symm.trans hf
          exact bl_54 x1 x2 x3 x4 t0 s hf H locs ls hP hD hS (lv_sub hl [1, 2, 3, 4, 5, 0] rfl)
  have bl_31 : ∀ (x1 : Int32) (x2 : Int32) (x3 : Int32) (x4 : Int32) (s : ms), bk_Checker_binary_Ch_31 N x1 x2 x3 x4 s = some y → dcC p l e ({ frames := 3, cells := 0, slots := 0, locals := 82 }) s0 m [.ref ((a 103)), .int v1, .int v2].toArray below meth c QQ (dC, dI) A (wC a v cI cB cJ cZ cQ s) 31 8 [(0, .ref ((a 103))), (1, .int x1), (2, .int x2), (3, .int x3), (4, .int x4)] [] := by
    intro x1 x2 x3 x4 s hf H locs ls hP hD hS hl
    unfold bk_Checker_binary_Ch_31 at hf
    refine lv_iconst (v := 1) hx hb dn_Checker_binary_31 (by decide) ?_
    refine lv_goto (tgt := 36) hx hb dn_Checker_binary_32 (by decide) ?_
    exact bl_36 x1 x2 x3 x4 1 s hf H locs ls hP hD hS hl
  intro H locs ls hP hD hS hl
  unfold fn_Checker_binary_Ch at hf
  refine lv_aload_n hx hb dn_Checker_binary_0 rfl (lv_at hl 0 rfl) ?_
  obtain ⟨q_1, hc_2, hf⟩ := dc_b hf
  refine dc_calli (dc_runV (ar := 0) (As := []) (rest := []) (ci := 4) (q0 := 3) ⟨hx, hb, hml, hown, hg⟩ hK hN hT hS hA (ct_Checker_isOff_Ch l dC dI cI cB cJ cZ cQ N H.size a v s q_1 hc_2) hP hD rfl rfl wn_5_54 wn_4_194 wn_4_195 wn_1_4 wn_4_196 rfl rfl (by decide +kernel) ⟨Nat.le_of_ble_eq_true rfl, Nat.le_of_ble_eq_true rfl⟩ rfl hl.1 rfl (Nat.le_of_ble_eq_true rfl) dn_Checker_binary_1 ⟨Nat.le_of_ble_eq_true rfl, Nat.le_of_ble_eq_true rfl⟩) hP hD hS hA (fun r_3 _ H locs hw hP hD hS => ?_)
  have hw : r_3 = q_1.1 := hw
  subst hw
  refine lv_if_eq (tgt := 8) hx hb dn_Checker_binary_4 (by decide) (fun h => ?_) (fun h => ?_)
  · have hf := (if_pos h).symm.trans hf
    refine lv_aload_n hx hb dn_Checker_binary_8 rfl (lv_at hl 0 rfl) ?_
    obtain ⟨q_4, hc_5, hf⟩ := dc_b hf
    refine dc_calli (dc_runV (ar := 0) (As := []) (rest := []) (ci := 4) (q0 := 3) ⟨hx, hb, hml, hown, hg⟩ hK hN hT hS hA (ct_Checker_pop_Ch l dC dI cI cB cJ cZ cQ N H.size a v q_1.2 q_4 hc_5) hP hD rfl rfl wn_6_65 wn_6_67 sn_Checker_pop wn_1_4 wn_6_68 rfl rfl (by decide +kernel) ⟨Nat.le_of_ble_eq_true rfl, Nat.le_of_ble_eq_true rfl⟩ rfl hl.1 rfl (Nat.le_of_ble_eq_true rfl) dn_Checker_binary_9 ⟨Nat.le_of_ble_eq_true rfl, Nat.le_of_ble_eq_true rfl⟩) hP hD hS hA (fun r_6 _ H locs hw hP hD hS => ?_)
    have hw : r_6 = q_4.1 := hw
    subst hw
    refine lv_istore_n (lv' := [(3, .int q_4.1), (0, .ref ((a 103))), (1, .int v1), (2, .int v2)]) hx hb dn_Checker_binary_12 rfl hl (by decide) rfl (fun ls hl => ?_)
    refine lv_aload_n hx hb dn_Checker_binary_13 rfl (lv_at hl 1 rfl) ?_
    obtain ⟨q_7, hc_8, hf⟩ := dc_b hf
    refine dc_calli (dc_runV (ar := 0) (As := []) (rest := []) (ci := 4) (q0 := 3) ⟨hx, hb, hml, hown, hg⟩ hK hN hT hS hA (ct_Checker_pop_Ch l dC dI cI cB cJ cZ cQ N H.size a v q_4.2 q_7 hc_8) hP hD rfl rfl wn_6_65 wn_6_67 sn_Checker_pop wn_1_4 wn_6_68 rfl rfl (by decide +kernel) ⟨Nat.le_of_ble_eq_true rfl, Nat.le_of_ble_eq_true rfl⟩ rfl hl.1 rfl (Nat.le_of_ble_eq_true rfl) dn_Checker_binary_14 ⟨Nat.le_of_ble_eq_true rfl, Nat.le_of_ble_eq_true rfl⟩) hP hD hS hA (fun r_9 _ H locs hw hP hD hS => ?_)
    have hw : r_9 = q_7.1 := hw
    subst hw
    refine lv_istore (lv' := [(4, .int q_7.1), (3, .int q_4.1), (0, .ref ((a 103))), (1, .int v1), (2, .int v2)]) hx hb dn_Checker_binary_17 hl (by decide) rfl (fun ls hl => ?_)
    refine lv_iload_n hx hb dn_Checker_binary_19 rfl (lv_at hl 3 rfl) ?_
    refine lv_bipush (v := 11) hx hb dn_Checker_binary_20 (by decide) ?_
    refine lv_icmp_eq (tgt := 31) hx hb dn_Checker_binary_22 (by decide) (fun h => ?_) (fun h => ?_)
    · have hf := (if_pos h).symm.trans hf
      exact bl_31 v1 v2 q_4.1 q_7.1 q_7.2 hf H locs ls hP hD hS (lv_sub hl [2, 3, 4, 1, 0] rfl)
    · have hf := (if_neg h).symm.trans hf
      refine lv_iload_n hx hb dn_Checker_binary_25 rfl (lv_at hl 3 rfl) ?_
      refine lv_bipush (v := 12) hx hb dn_Checker_binary_26 (by decide) ?_
      refine lv_icmp_ne (tgt := 35) hx hb dn_Checker_binary_28 (by decide) (fun h => ?_) (fun h => ?_)
      · have hf := (if_neg h).symm.trans hf
        refine lv_iconst (v := 0) hx hb dn_Checker_binary_35 (by decide) ?_
        exact bl_36 v1 v2 q_4.1 q_7.1 0 q_7.2 hf H locs ls hP hD hS (lv_sub hl [2, 3, 4, 1, 0] rfl)
      · have hf := (if_pos h).symm.trans hf
        exact bl_31 v1 v2 q_4.1 q_7.1 q_7.2 hf H locs ls hP hD hS (lv_sub hl [2, 3, 4, 1, 0] rfl)
  · have hf := (if_neg h).symm.trans hf
    rw [hQQ, ← Option.some.inj hf]
    exact xk_vret (w1 := fun u : Unit => (wC a v cI cB cJ cZ cQ q_1.2)) () hx hb hr hlocks hK hS dn_Checker_binary_7 hP hD trivial (Nat.le_refl _) (Nat.le_refl _)
set_option maxHeartbeats 8000000 in
set_option maxRecDepth 100000 in
theorem ct_Checker_unary_Ch (l : Launch) (dC : Nat → ClassId) (dI : Nat → Nat → Nat) (cI cB cJ cZ cQ : ClassId) (N sz : Nat) (a : Nat → Nat) (v : Nat → Value) (hv_3 : v 3 = .ref (a 111)) (v1 : Int32) (s : ms) (y : (Unit × ms)) (hf : fn_Checker_unary_Ch N v1 s = some y) : Met l yn_Checker_unary (xw yn_Checker_unary bn_Checker_unary 3 none) ({ frames := 3, cells := 0, slots := 0, locals := 82 }) (dc_P (dC, dI) xcl (xt cI cB cJ cZ cQ) [.ref ((a 103)), .int v1] sz (wC a v cI cB cJ cZ cQ s)) (xk_Qv (dC, dI) xcl (xt cI cB cJ cZ cQ) (fun _ : Unit => True) (fun u : Unit => (wC a v cI cB cJ cZ cQ y.2)) (va_A (wC a v cI cB cJ cZ cQ s) sz)) 0 0 (va_A (wC a v cI cB cJ cZ cQ s) sz) := by
  refine dc_of (QA := xk_Qv (dC, dI) xcl (xt cI cB cJ cZ cQ) (fun _ : Unit => True) (fun u : Unit => (wC a v cI cB cJ cZ cQ y.2))) (by decide) (Nat.le_of_ble_eq_true rfl) ?_
  intro p e s0 m below meth c hx hb hml hown hg hr hlocks hin hP hK hN A hA hD hT ls hl
  have hown : s0.vm.findClass rn_Checker = some m.cls := hown
  obtain ⟨H, hH⟩ : ∃ z, z = s0.heap := ⟨_, rfl⟩
  rw [← hH] at hP
  have hS : va_S A s0.heap H [] := by rw [hH]; exact va_S.rf
  suffices kk : ∀ QQ : State → Prop, QQ = MQ below (xk_Qv (dC, dI) xcl (xt cI cB cJ cZ cQ) (fun _ : Unit => True) (fun u : Unit => (wC a v cI cB cJ cZ cQ y.2)) A) [.ref ((a 103)), .int v1].toArray s0 0 0 A → dcC p l e ({ frames := 3, cells := 0, slots := 0, locals := 82 }) s0 m [.ref ((a 103)), .int v1].toArray below meth c QQ (dC, dI) A (wC a v cI cB cJ cZ cQ s) 0 3 [(0, .ref ((a 103))), (1, .int v1)] [] by
    have k9 := kk _ rfl H [] ls hP hD hS hl
    rw [hH] at k9; exact k9
  clear hP hD hS hl hH H ls
  intro QQ hQQ
  have bl_36 : ∀ (x1 : Int32) (x2 : Int32) (t0 : Int32) (s : ms), bk_Checker_unary_Ch_36 N x1 x2 t0 s = some y → dcC p l e ({ frames := 3, cells := 0, slots := 0, locals := 82 }) s0 m [.ref ((a 103)), .int v1].toArray below meth c QQ (dC, dI) A (wC a v cI cB cJ cZ cQ s) 36 3 [(0, .ref ((a 103))), (1, .int x1), (2, .int x2)] [.int t0, .ref ((a 103))] := by
    intro x1 x2 t0 s hf H locs ls hP hD hS hl
    unfold bk_Checker_unary_Ch_36 at hf
    obtain ⟨q_1, hc_2, hf⟩ := dc_b hf
    refine dc_callv (dc_runV (ar := 1) (As := [.int t0]) (rest := []) (ci := 4) (q0 := 3) ⟨hx, hb, hml, hown, hg⟩ hK hN hT hS hA (ct_Checker_push_Ch l dC dI cI cB cJ cZ cQ N H.size a v t0 s q_1 hc_2) hP hD rfl rfl wn_6_41 wn_6_43 sn_Checker_push wn_1_4 wn_6_44 rfl rfl (by decide +kernel) ⟨Nat.le_of_ble_eq_true rfl, Nat.le_of_ble_eq_true rfl⟩ rfl hl.1 rfl (Nat.le_of_ble_eq_true rfl) dn_Checker_unary_36 ⟨Nat.le_of_ble_eq_true rfl, Nat.le_of_ble_eq_true rfl⟩) hP hD hS hA (fun _ H locs hw hP hD hS => ?_)
    refine lv_aload_n hx hb dn_Checker_unary_39 rfl (lv_at hl 0 rfl) ?_
    refine va_get (D := (dC, dI)) (ci := 4) (v := .ref ((a 111))) (C := rn_Checker) (T := fn_Checker) (N := 15) hx hb hg in_Checker hown hK hP 3 rfl rfl 2 (by decide) (hg _ wn_1_128) (fun _ h9 => h9) (congrArg some hv_3) dn_Checker_unary_40 ?_
    refine lv_sipush (v := 256) hx hb dn_Checker_unary_43 (by decide) ?_
    refine lv_iload_n hx hb dn_Checker_unary_46 rfl (lv_at hl 1 rfl) ?_
    refine lv_iadd hx hb dn_Checker_unary_47 ?_
    refine lv_iload_n hx hb dn_Checker_unary_48 rfl (lv_at hl 2 rfl) ?_
    obtain ⟨q_3, hc_4, hf⟩ := dc_b hf
    refine dc_calli (dc_runV (ar := 2) (As := [.int ((256 + x1)), .int x2]) (rest := []) (ci := 12) (q0 := 11) ⟨hx, hb, hml, hown, hg⟩ hK hN hT hS hA (ct_Code_emit_Ks l dC dI cI cB cJ cZ cQ N H.size a v ((256 + x1)) x2 q_1.2 q_3 hc_4) hP hD rfl rfl wn_6_45 wn_5_198 wn_5_199 wn_1_12 wn_5_200 rfl rfl (by decide +kernel) ⟨Nat.le_of_ble_eq_true rfl, Nat.le_of_ble_eq_true rfl⟩ rfl hl.1 rfl (Nat.le_of_ble_eq_true rfl) dn_Checker_unary_49 ⟨Nat.le_of_ble_eq_true rfl, Nat.le_of_ble_eq_true rfl⟩) hP hD hS hA (fun r_5 _ H locs hw hP hD hS => ?_)
    have hw : r_5 = q_3.1 := hw
    subst hw
    refine lv_pop hx hb dn_Checker_unary_52 rfl ?_
    rw [hQQ, ← Option.some.inj hf]
    exact xk_vret (w1 := fun u : Unit => (wC a v cI cB cJ cZ cQ q_3.2)) () hx hb hr hlocks hK hS dn_Checker_unary_53 hP hD trivial (Nat.le_refl _) (Nat.le_refl _)
  have bl_31 : ∀ (x1 : Int32) (x2 : Int32) (s : ms), bk_Checker_unary_Ch_31 N x1 x2 s = some y → dcC p l e ({ frames := 3, cells := 0, slots := 0, locals := 82 }) s0 m [.ref ((a 103)), .int v1].toArray below meth c QQ (dC, dI) A (wC a v cI cB cJ cZ cQ s) 31 3 [(0, .ref ((a 103))), (1, .int x1), (2, .int x2)] [.ref ((a 103))] := by
    intro x1 x2 s hf H locs ls hP hD hS hl
    unfold bk_Checker_unary_Ch_31 at hf
    refine lv_iload_n hx hb dn_Checker_unary_31 rfl (lv_at hl 2 rfl) ?_
    refine lv_goto (tgt := 36) hx hb dn_Checker_unary_32 (by decide) ?_
    exact bl_36 x1 x2 x2 s hf H locs ls hP hD hS hl
  intro H locs ls hP hD hS hl
  unfold fn_Checker_unary_Ch at hf
  refine lv_aload_n hx hb dn_Checker_unary_0 rfl (lv_at hl 0 rfl) ?_
  obtain ⟨q_1, hc_2, hf⟩ := dc_b hf
  refine dc_calli (dc_runV (ar := 0) (As := []) (rest := []) (ci := 4) (q0 := 3) ⟨hx, hb, hml, hown, hg⟩ hK hN hT hS hA (ct_Checker_isOff_Ch l dC dI cI cB cJ cZ cQ N H.size a v s q_1 hc_2) hP hD rfl rfl wn_5_54 wn_4_194 wn_4_195 wn_1_4 wn_4_196 rfl rfl (by decide +kernel) ⟨Nat.le_of_ble_eq_true rfl, Nat.le_of_ble_eq_true rfl⟩ rfl hl.1 rfl (Nat.le_of_ble_eq_true rfl) dn_Checker_unary_1 ⟨Nat.le_of_ble_eq_true rfl, Nat.le_of_ble_eq_true rfl⟩) hP hD hS hA (fun r_3 _ H locs hw hP hD hS => ?_)
  have hw : r_3 = q_1.1 := hw
  subst hw
  refine lv_if_eq (tgt := 8) hx hb dn_Checker_unary_4 (by decide) (fun h => ?_) (fun h => ?_)
  · have hf := (if_pos h).symm.trans hf
    refine lv_aload_n hx hb dn_Checker_unary_8 rfl (lv_at hl 0 rfl) ?_
    obtain ⟨q_4, hc_5, hf⟩ := dc_b hf
    refine dc_calli (dc_runV (ar := 0) (As := []) (rest := []) (ci := 4) (q0 := 3) ⟨hx, hb, hml, hown, hg⟩ hK hN hT hS hA (ct_Checker_pop_Ch l dC dI cI cB cJ cZ cQ N H.size a v q_1.2 q_4 hc_5) hP hD rfl rfl wn_6_65 wn_6_67 sn_Checker_pop wn_1_4 wn_6_68 rfl rfl (by decide +kernel) ⟨Nat.le_of_ble_eq_true rfl, Nat.le_of_ble_eq_true rfl⟩ rfl hl.1 rfl (Nat.le_of_ble_eq_true rfl) dn_Checker_unary_9 ⟨Nat.le_of_ble_eq_true rfl, Nat.le_of_ble_eq_true rfl⟩) hP hD hS hA (fun r_6 _ H locs hw hP hD hS => ?_)
    have hw : r_6 = q_4.1 := hw
    subst hw
    refine lv_istore_n (lv' := [(2, .int q_4.1), (0, .ref ((a 103))), (1, .int v1)]) hx hb dn_Checker_unary_12 rfl hl (by decide) rfl (fun ls hl => ?_)
    refine lv_aload_n hx hb dn_Checker_unary_13 rfl (lv_at hl 1 rfl) ?_
    refine lv_iload_n hx hb dn_Checker_unary_14 rfl (lv_at hl 0 rfl) ?_
    obtain ⟨q_7, hc_8, hf⟩ := dc_b hf
    refine dc_callv (dc_runV (ar := 1) (As := [.int q_4.1]) (rest := []) (ci := 4) (q0 := 3) ⟨hx, hb, hml, hown, hg⟩ hK hN hT hS hA (ct_Checker_spend_Ch l dC dI cI cB cJ cZ cQ N H.size a v q_4.1 q_4.2 q_7 hc_8) hP hD rfl rfl wn_6_86 wn_5_228 wn_5_229 wn_1_4 wn_5_230 rfl rfl (by decide +kernel) ⟨Nat.le_of_ble_eq_true rfl, Nat.le_of_ble_eq_true rfl⟩ rfl hl.1 rfl (Nat.le_of_ble_eq_true rfl) dn_Checker_unary_15 ⟨Nat.le_of_ble_eq_true rfl, Nat.le_of_ble_eq_true rfl⟩) hP hD hS hA (fun _ H locs hw hP hD hS => ?_)
    refine lv_aload_n hx hb dn_Checker_unary_18 rfl (lv_at hl 1 rfl) ?_
    refine lv_iload_n hx hb dn_Checker_unary_19 rfl (lv_at hl 2 rfl) ?_
    refine lv_bipush (v := 126) hx hb dn_Checker_unary_20 (by decide) ?_
    refine lv_icmp_eq (tgt := 31) hx hb dn_Checker_unary_22 (by decide) (fun h => ?_) (fun h => ?_)
    · have hf := (if_pos h).symm.trans hf
      exact bl_31 v1 q_4.1 q_7.2 hf H locs ls hP hD hS (lv_sub hl [1, 2, 0] rfl)
    · have hf := (if_neg h).symm.trans hf
      refine lv_iload_n hx hb dn_Checker_unary_25 rfl (lv_at hl 2 rfl) ?_
      refine lv_bipush (v := 45) hx hb dn_Checker_unary_26 (by decide) ?_
      refine lv_icmp_ne (tgt := 35) hx hb dn_Checker_unary_28 (by decide) (fun h => ?_) (fun h => ?_)
      · have hf := (if_neg h).symm.trans hf
        refine lv_iconst (v := 1) hx hb dn_Checker_unary_35 (by decide) ?_
        exact bl_36 v1 q_4.1 1 q_7.2 hf H locs ls hP hD hS (lv_sub hl [1, 2, 0] rfl)
      · have hf := (if_pos h).symm.trans hf
        exact bl_31 v1 q_4.1 q_7.2 hf H locs ls hP hD hS (lv_sub hl [1, 2, 0] rfl)
  · have hf := (if_neg h).symm.trans hf
    rw [hQQ, ← Option.some.inj hf]
    exact xk_vret (w1 := fun u : Unit => (wC a v cI cB cJ cZ cQ q_1.2)) () hx hb hr hlocks hK hS dn_Checker_unary_7 hP hD trivial (Nat.le_refl _) (Nat.le_refl _)
