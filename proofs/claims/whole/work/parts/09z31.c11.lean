set_option maxHeartbeats 8000000 in
set_option maxRecDepth 100000 in
theorem ct_Grammar_apply_Gr (l : Launch) (dC : Nat → ClassId) (dI : Nat → Nat → Nat) (cI cB cJ cZ cQ : ClassId) (N sz : Nat) (a : Nat → Nat) (v : Nat → Value) (hv_3 : v 3 = .ref (a 111)) (v1 : Int32) (s : ms) (y : (Unit × ms)) (hf : fn_Grammar_apply_Gr N v1 s = some y) : Met l yn_Grammar_apply (xw yn_Grammar_apply bn_Grammar_apply 3 none) ({ frames := 4, cells := 0, slots := 0, locals := 109 }) (dc_P (dC, dI) xcl (xt cI cB cJ cZ cQ) [.ref ((a 105)), .int v1] sz (wC a v cI cB cJ cZ cQ s)) (xk_Qv (dC, dI) xcl (xt cI cB cJ cZ cQ) (fun _ : Unit => True) (fun u : Unit => (wC a v cI cB cJ cZ cQ y.2)) (va_A (wC a v cI cB cJ cZ cQ s) sz)) 0 0 (va_A (wC a v cI cB cJ cZ cQ s) sz) := by
  refine dc_of (QA := xk_Qv (dC, dI) xcl (xt cI cB cJ cZ cQ) (fun _ : Unit => True) (fun u : Unit => (wC a v cI cB cJ cZ cQ y.2))) (by decide) (Nat.le_of_ble_eq_true rfl) ?_
  intro p e s0 m below meth c hx hb hml hown hg hr hlocks hin hP hK hN A hA hD hT ls hl
  have hown : s0.vm.findClass rn_Grammar = some m.cls := hown
  obtain ⟨H, hH⟩ : ∃ z, z = s0.heap := ⟨_, rfl⟩
  rw [← hH] at hP
  have hS : va_S A s0.heap H [] := by rw [hH]; exact va_S.rf
  suffices kk : ∀ QQ : State → Prop, QQ = MQ below (xk_Qv (dC, dI) xcl (xt cI cB cJ cZ cQ) (fun _ : Unit => True) (fun u : Unit => (wC a v cI cB cJ cZ cQ y.2)) A) [.ref ((a 105)), .int v1].toArray s0 0 0 A → dcC p l e ({ frames := 4, cells := 0, slots := 0, locals := 109 }) s0 m [.ref ((a 105)), .int v1].toArray below meth c QQ (dC, dI) A (wC a v cI cB cJ cZ cQ s) 0 3 [(0, .ref ((a 105))), (1, .int v1)] [] by
    have k9 := kk _ rfl H [] ls hP hD hS hl
    rw [hH] at k9; exact k9
  clear hP hD hS hl hH H ls
  intro QQ hQQ
  have hd_90 : ∀ (k_0 : Int32 → ms → Option (Unit × ms)) (hk_0 : ∀ (x1 : Int32) (s : ms), k_0 x1 s = some y → dcC p l e ({ frames := 4, cells := 0, slots := 0, locals := 109 }) s0 m [.ref ((a 105)), .int v1].toArray below meth c QQ (dC, dI) A (wC a v cI cB cJ cZ cQ s) 0 3 [(0, .ref ((a 105))), (1, .int x1)] []) (n : Nat) (x1 : Int32) (x2 : Int32) (s : ms), hd_Grammar_apply_Gr_90 N k_0 n x1 x2 s = some y → dcC p l e ({ frames := 4, cells := 0, slots := 0, locals := 109 }) s0 m [.ref ((a 105)), .int v1].toArray below meth c QQ (dC, dI) A (wC a v cI cB cJ cZ cQ s) 90 3 [(0, .ref ((a 105))), (1, .int x1), (2, .int x2)] [] := by
    intro k_0 hk_0 n
    induction n with
    | zero => intro x1 x2 s hf; cases hf
    | succ n ih =>
      intro x1 x2 s hf H locs ls hP hD hS hl
      have hf : bd_Grammar_apply_Gr_90 N k_0 (hd_Grammar_apply_Gr_90 N k_0 n) x1 x2 s = some y := hf
      have hk_90 := ih
      generalize hd_Grammar_apply_Gr_90 N k_0 n = k_90 at hf hk_90
      unfold bd_Grammar_apply_Gr_90 at hf
      refine lv_iload_n hx hb dn_Grammar_apply_90 rfl (lv_at hl 2 rfl) ?_
      refine lv_if_lt (tgt := 125) hx hb dn_Grammar_apply_91 (by decide) (fun h => ?_) (fun h => ?_)
      · have hf := (if_pos h).symm.trans hf
        refine lv_goto (tgt := 0) hx hb dn_Grammar_apply_125 (by decide) ?_
        exact hk_0 x1 s hf H locs ls hP hD hS (lv_sub hl [0, 1] rfl)
      · have hf := (if_neg h).symm.trans hf
        refine lv_aload_n hx hb dn_Grammar_apply_94 rfl (lv_at hl 0 rfl) ?_
        refine va_get (D := (dC, dI)) (ci := 6) (v := .ref ((a 103))) (C := rn_Grammar) (T := fn_Grammar) (N := 15) hx hb hg in_Grammar hown hK hP 5 rfl rfl 1 (by decide) (hg _ wn_2_1) (fun _ h9 => h9) rfl dn_Grammar_apply_95 ?_
        refine lv_aload_n hx hb dn_Grammar_apply_98 rfl (lv_at hl 0 rfl) ?_
        refine va_get (D := (dC, dI)) (ci := 6) (v := .ref ((a 101))) (C := rn_Grammar) (T := fn_Grammar) (N := 15) hx hb hg in_Grammar hown hK hP 5 rfl rfl 0 (by decide) (hg _ wn_2_0) (fun _ h9 => h9) rfl dn_Grammar_apply_99 ?_
        refine lv_aload_n hx hb dn_Grammar_apply_102 rfl (lv_at hl 0 rfl) ?_
        refine va_get (D := (dC, dI)) (ci := 6) (v := .ref ((a 273))) (C := rn_Grammar) (T := fn_Grammar) (N := 15) hx hb hg in_Grammar hown hK hP 5 rfl rfl 12 (by decide) (hg _ wn_2_12) (fun _ h9 => h9) rfl dn_Grammar_apply_103 ?_
        refine lv_aload_n hx hb dn_Grammar_apply_106 rfl (lv_at hl 0 rfl) ?_
        refine va_get (D := (dC, dI)) (ci := 6) (v := .int ((s.1 275 0))) (C := rn_Grammar) (T := fn_Grammar) (N := 15) hx hb hg in_Grammar hown hK hP 5 rfl rfl 14 (by decide) (hg _ wn_2_14) (fun _ h9 => h9) rfl dn_Grammar_apply_107 ?_
        obtain ⟨hg_1, hf⟩ := dc_g hf
        refine va_iald hx hb hK hP 32 0 rfl rfl hg_1 dn_Grammar_apply_110 ?_
        refine xk_ti (y := ((s.1 273) (Int32.toNatClampNeg ((s.1 275 0))))) rfl ?_
        refine lv_iload_n hx hb dn_Grammar_apply_111 rfl (lv_at hl 2 rfl) ?_
        refine lv_iadd hx hb dn_Grammar_apply_112 ?_
        obtain ⟨q_2, hc_3, hf⟩ := dc_b hf
        refine dc_calli (dc_runV (ar := 1) (As := [.int ((((s.1 273) (Int32.toNatClampNeg ((s.1 275 0)))) + x2))]) (rest := [.ref ((a 103))]) (ci := 2) (q0 := 1) ⟨hx, hb, hml, hown, hg⟩ hK hN hT hS hA (ct_Tokens_kindAt_Tk l dC dI cI cB cJ cZ cQ N H.size a v ((((s.1 273) (Int32.toNatClampNeg ((s.1 275 0)))) + x2)) s q_2 hc_3) hP hD rfl rfl wn_6_90 wn_4_153 wn_4_154 wn_1_2 wn_4_155 rfl rfl (by decide +kernel) ⟨Nat.le_of_ble_eq_true rfl, Nat.le_of_ble_eq_true rfl⟩ rfl hl.1 rfl (Nat.le_of_ble_eq_true rfl) dn_Grammar_apply_113 ⟨Nat.le_of_ble_eq_true rfl, Nat.le_of_ble_eq_true rfl⟩) hP hD hS hA (fun r_4 _ H locs hw hP hD hS => ?_)
        have hw : r_4 = q_2.1 := hw
        subst hw
        obtain ⟨q_5, hc_6, hf⟩ := dc_b hf
        refine dc_callv (dc_runV (ar := 1) (As := [.int q_2.1]) (rest := []) (ci := 4) (q0 := 3) ⟨hx, hb, hml, hown, hg⟩ hK hN hT hS hA (ct_Checker_unary_Ch l dC dI cI cB cJ cZ cQ N H.size a v hv_3 q_2.1 q_2.2 q_5 hc_6) hP hD rfl rfl wn_6_91 wn_6_92 wn_6_93 wn_1_4 wn_6_94 rfl rfl (by decide +kernel) ⟨Nat.le_of_ble_eq_true rfl, Nat.le_of_ble_eq_true rfl⟩ rfl hl.1 rfl (Nat.le_of_ble_eq_true rfl) dn_Grammar_apply_116 ⟨Nat.le_of_ble_eq_true rfl, Nat.le_of_ble_eq_true rfl⟩) hP hD hS hA (fun _ H locs hw hP hD hS => ?_)
        refine lv_iinc (v := (x2 + (-1))) (lv' := [(2, .int ((x2 + (-1)))), (0, .ref ((a 105))), (1, .int x1)]) hx hb dn_Grammar_apply_119 hl (k := 2) rfl (dc_inc (by decide)) (by decide) rfl (fun ls hl => ?_)
        refine lv_goto (tgt := 90) hx hb dn_Grammar_apply_122 (by decide) ?_
        exact hk_90 x1 ((x2 + (-1))) q_5.2 hf H locs ls hP hD hS (lv_sub hl [1, 2, 0] rfl)
  have hd_0 : ∀ (n : Nat) (x1 : Int32) (s : ms), hd_Grammar_apply_Gr_0 N n x1 s = some y → dcC p l e ({ frames := 4, cells := 0, slots := 0, locals := 109 }) s0 m [.ref ((a 105)), .int v1].toArray below meth c QQ (dC, dI) A (wC a v cI cB cJ cZ cQ s) 0 3 [(0, .ref ((a 105))), (1, .int x1)] [] := by
    intro n
    induction n with
    | zero => intro x1 s hf; cases hf
    | succ n ih =>
      intro x1 s hf H locs ls hP hD hS hl
      have hf : bd_Grammar_apply_Gr_0 N (hd_Grammar_apply_Gr_0 N n) x1 s = some y := hf
      have hk_0 := ih
      generalize hd_Grammar_apply_Gr_0 N n = k_0 at hf hk_0
      unfold bd_Grammar_apply_Gr_0 at hf
      refine lv_aload_n hx hb dn_Grammar_apply_0 rfl (lv_at hl 0 rfl) ?_
      refine va_get (D := (dC, dI)) (ci := 6) (v := .int ((s.1 275 0))) (C := rn_Grammar) (T := fn_Grammar) (N := 15) hx hb hg in_Grammar hown hK hP 5 rfl rfl 14 (by decide) (hg _ wn_2_14) (fun _ h9 => h9) rfl dn_Grammar_apply_1 ?_
      refine lv_if_le (tgt := 128) hx hb dn_Grammar_apply_4 (by decide) (fun h => ?_) (fun h => ?_)
      · have hf := (if_pos h).symm.trans hf
        rw [hQQ, ← Option.some.inj hf]
        exact xk_vret (w1 := fun u : Unit => (wC a v cI cB cJ cZ cQ s)) () hx hb hr hlocks hK hS dn_Grammar_apply_128 hP hD trivial (Nat.le_refl _) (Nat.le_refl _)
      · have hf := (if_neg h).symm.trans hf
        refine lv_aload_n hx hb dn_Grammar_apply_7 rfl (lv_at hl 0 rfl) ?_
        refine va_get (D := (dC, dI)) (ci := 6) (v := .ref ((a 272))) (C := rn_Grammar) (T := fn_Grammar) (N := 15) hx hb hg in_Grammar hown hK hP 5 rfl rfl 11 (by decide) (hg _ wn_2_11) (fun _ h9 => h9) rfl dn_Grammar_apply_8 ?_
        refine lv_aload_n hx hb dn_Grammar_apply_11 rfl (lv_at hl 0 rfl) ?_
        refine va_get (D := (dC, dI)) (ci := 6) (v := .int ((s.1 275 0))) (C := rn_Grammar) (T := fn_Grammar) (N := 15) hx hb hg in_Grammar hown hK hP 5 rfl rfl 14 (by decide) (hg _ wn_2_14) (fun _ h9 => h9) rfl dn_Grammar_apply_12 ?_
        refine lv_iconst (v := 1) hx hb dn_Grammar_apply_15 (by decide) ?_
        refine lv_isub hx hb dn_Grammar_apply_16 ?_
        obtain ⟨hg_1, hf⟩ := dc_g hf
        refine va_iald hx hb hK hP 31 0 rfl rfl hg_1 dn_Grammar_apply_17 ?_
        refine xk_ti (y := ((s.1 272) (Int32.toNatClampNeg (((s.1 275 0) - 1))))) rfl ?_
        obtain ⟨q_2, hc_3, hf⟩ := dc_b hf
        refine dc_calli (dc_runS (ar := 1) (As := [.int (((s.1 272) (Int32.toNatClampNeg (((s.1 275 0) - 1)))))]) (rest := []) ⟨hx, hb, hml, hown, hg⟩ hK hN hT hS hA (ct_Grammar_rankOf l dC dI cI cB cJ cZ cQ N H.size a v (((s.1 272) (Int32.toNatClampNeg (((s.1 275 0) - 1))))) s q_2 hc_3) hP hD wn_6_75 wn_6_76 wn_1_5 wn_6_77 rfl rfl (by decide +kernel) ⟨Nat.le_of_ble_eq_true rfl, Nat.le_of_ble_eq_true rfl⟩ rfl hl.1 rfl (Nat.le_of_ble_eq_true rfl) dn_Grammar_apply_18 ⟨Nat.le_of_ble_eq_true rfl, Nat.le_of_ble_eq_true rfl⟩) hP hD hS hA (fun r_4 _ H locs hw hP hD hS => ?_)
        have hw : r_4 = q_2.1 := hw
        subst hw
        refine lv_iload_n hx hb dn_Grammar_apply_21 rfl (lv_at hl 1 rfl) ?_
        refine lv_icmp_lt (tgt := 128) hx hb dn_Grammar_apply_22 (by decide) (fun h => ?_) (fun h => ?_)
        · have hf := (if_pos h).symm.trans hf
          rw [hQQ, ← Option.some.inj hf]
          exact xk_vret (w1 := fun u : Unit => (wC a v cI cB cJ cZ cQ q_2.2)) () hx hb hr hlocks hK hS dn_Grammar_apply_128 hP hD trivial (Nat.le_refl _) (Nat.le_refl _)
        · have hf := (if_neg h).symm.trans hf
          refine lv_aload_n hx hb dn_Grammar_apply_25 rfl (lv_at hl 0 rfl) ?_
          refine lv_dup hx hb dn_Grammar_apply_26 rfl ?_
          refine va_get (D := (dC, dI)) (ci := 6) (v := .int ((q_2.2.1 275 0))) (C := rn_Grammar) (T := fn_Grammar) (N := 15) hx hb hg in_Grammar hown hK hP 5 rfl rfl 14 (by decide) (hg _ wn_2_14) (fun _ h9 => h9) rfl dn_Grammar_apply_27 ?_
          refine lv_iconst (v := 1) hx hb dn_Grammar_apply_30 (by decide) ?_
          refine lv_isub hx hb dn_Grammar_apply_31 ?_
          refine va_put (D := (dC, dI)) (ci := 6) (v := .int (((q_2.2.1 275 0) - 1))) (ty := .int) (C := rn_Grammar) (T := fn_Grammar) (N := 15) hx hb hg in_Grammar tn_Grammar tk_Grammar nn_Grammar hown hK hP hD hS 5 rfl rfl 14 (by decide) (hg _ wn_2_14) (fun _ h9 => h9) rfl (tk_Grammar 14 (by decide)) rfl rfl (Nat.le_of_ble_eq_true rfl) dn_Grammar_apply_32 (fun H locs hP hD hS => ?_)
          have hP := wC_P_275 hP
          have hD := wC_D_275 hD
          refine lv_aload_n hx hb dn_Grammar_apply_35 rfl (lv_at hl 0 rfl) ?_
          refine va_get (D := (dC, dI)) (ci := 6) (v := .ref ((a 272))) (C := rn_Grammar) (T := fn_Grammar) (N := 15) hx hb hg in_Grammar hown hK hP 5 rfl rfl 11 (by decide) (hg _ wn_2_11) (fun _ h9 => h9) rfl dn_Grammar_apply_36 ?_
          refine lv_aload_n hx hb dn_Grammar_apply_39 rfl (lv_at hl 0 rfl) ?_
          refine va_get (D := (dC, dI)) (ci := 6) (v := .int (((q_2.2.1 275 0) - 1))) (C := rn_Grammar) (T := fn_Grammar) (N := 15) hx hb hg in_Grammar hown hK hP 5 rfl rfl 14 (by decide) (hg _ wn_2_14) (fun _ h9 => h9) rfl dn_Grammar_apply_40 ?_
          obtain ⟨hg_5, hf⟩ := dc_g hf
          refine va_iald hx hb hK hP 31 0 rfl rfl hg_5 dn_Grammar_apply_43 ?_
          refine xk_ti (y := ((q_2.2.1 272) (Int32.toNatClampNeg (((q_2.2.1 275 0) - 1))))) rfl ?_
          refine lv_sipush (v := 256) hx hb dn_Grammar_apply_44 (by decide) ?_
          refine lv_icmp_eq (tgt := 78) hx hb dn_Grammar_apply_47 (by decide) (fun h => ?_) (fun h => ?_)
          · have hf := (if_pos h).symm.trans hf
            refine lv_aload_n hx hb dn_Grammar_apply_78 rfl (lv_at hl 0 rfl) ?_
            refine va_get (D := (dC, dI)) (ci := 6) (v := .ref ((a 274))) (C := rn_Grammar) (T := fn_Grammar) (N := 15) hx hb hg in_Grammar hown hK hP 5 rfl rfl 13 (by decide) (hg _ wn_2_13) (fun _ h9 => h9) rfl dn_Grammar_apply_79 ?_
            refine lv_aload_n hx hb dn_Grammar_apply_82 rfl (lv_at hl 0 rfl) ?_
            refine va_get (D := (dC, dI)) (ci := 6) (v := .int (((q_2.2.1 275 0) - 1))) (C := rn_Grammar) (T := fn_Grammar) (N := 15) hx hb hg in_Grammar hown hK hP 5 rfl rfl 14 (by decide) (hg _ wn_2_14) (fun _ h9 => h9) rfl dn_Grammar_apply_83 ?_
            obtain ⟨hg_6, hf⟩ := dc_g hf
            refine va_iald hx hb hK hP 33 0 rfl rfl hg_6 dn_Grammar_apply_86 ?_
            refine xk_ti (y := ((q_2.2.1 274) (Int32.toNatClampNeg (((q_2.2.1 275 0) - 1))))) rfl ?_
            refine lv_iconst (v := 1) hx hb dn_Grammar_apply_87 (by decide) ?_
            refine lv_isub hx hb dn_Grammar_apply_88 ?_
            refine lv_istore_n (lv' := [(2, .int ((((q_2.2.1 274) (Int32.toNatClampNeg (((q_2.2.1 275 0) - 1)))) - 1))), (0, .ref ((a 105))), (1, .int x1)]) hx hb dn_Grammar_apply_89 rfl hl (by decide) rfl (fun ls hl => ?_)
            exact hd_90 k_0 hk_0 N x1 ((((q_2.2.1 274) (Int32.toNatClampNeg (((q_2.2.1 275 0) - 1)))) - 1)) (upI q_2.2 275 (fun _ => ((q_2.2.1 275 0) - 1))) hf H locs ls hP hD hS (lv_sub hl [1, 2, 0] rfl)
          · have hf := (if_neg h).symm.trans hf
            refine lv_aload_n hx hb dn_Grammar_apply_50 rfl (lv_at hl 0 rfl) ?_
            refine va_get (D := (dC, dI)) (ci := 6) (v := .ref ((a 103))) (C := rn_Grammar) (T := fn_Grammar) (N := 15) hx hb hg in_Grammar hown hK hP 5 rfl rfl 1 (by decide) (hg _ wn_2_1) (fun _ h9 => h9) rfl dn_Grammar_apply_51 ?_
            refine lv_aload_n hx hb dn_Grammar_apply_54 rfl (lv_at hl 0 rfl) ?_
            refine va_get (D := (dC, dI)) (ci := 6) (v := .ref ((a 272))) (C := rn_Grammar) (T := fn_Grammar) (N := 15) hx hb hg in_Grammar hown hK hP 5 rfl rfl 11 (by decide) (hg _ wn_2_11) (fun _ h9 => h9) rfl dn_Grammar_apply_55 ?_
            refine lv_aload_n hx hb dn_Grammar_apply_58 rfl (lv_at hl 0 rfl) ?_
            refine va_get (D := (dC, dI)) (ci := 6) (v := .int (((q_2.2.1 275 0) - 1))) (C := rn_Grammar) (T := fn_Grammar) (N := 15) hx hb hg in_Grammar hown hK hP 5 rfl rfl 14 (by decide) (hg _ wn_2_14) (fun _ h9 => h9) rfl dn_Grammar_apply_59 ?_
            obtain ⟨hg_6, hf⟩ := dc_g hf
            refine va_iald hx hb hK hP 31 0 rfl rfl hg_6 dn_Grammar_apply_62 ?_
            refine xk_ti (y := ((q_2.2.1 272) (Int32.toNatClampNeg (((q_2.2.1 275 0) - 1))))) rfl ?_
            refine lv_aload_n hx hb dn_Grammar_apply_63 rfl (lv_at hl 0 rfl) ?_
            refine va_get (D := (dC, dI)) (ci := 6) (v := .ref ((a 273))) (C := rn_Grammar) (T := fn_Grammar) (N := 15) hx hb hg in_Grammar hown hK hP 5 rfl rfl 12 (by decide) (hg _ wn_2_12) (fun _ h9 => h9) rfl dn_Grammar_apply_64 ?_
            refine lv_aload_n hx hb dn_Grammar_apply_67 rfl (lv_at hl 0 rfl) ?_
            refine va_get (D := (dC, dI)) (ci := 6) (v := .int (((q_2.2.1 275 0) - 1))) (C := rn_Grammar) (T := fn_Grammar) (N := 15) hx hb hg in_Grammar hown hK hP 5 rfl rfl 14 (by decide) (hg _ wn_2_14) (fun _ h9 => h9) rfl dn_Grammar_apply_68 ?_
            obtain ⟨hg_7, hf⟩ := dc_g hf
            refine va_iald hx hb hK hP 32 0 rfl rfl hg_7 dn_Grammar_apply_71 ?_
            refine xk_ti (y := ((q_2.2.1 273) (Int32.toNatClampNeg (((q_2.2.1 275 0) - 1))))) rfl ?_
            obtain ⟨q_8, hc_9, hf⟩ := dc_b hf
            refine dc_callv (dc_runV (ar := 2) (As := [.int (((q_2.2.1 272) (Int32.toNatClampNeg (((q_2.2.1 275 0) - 1))))), .int (((q_2.2.1 273) (Int32.toNatClampNeg (((q_2.2.1 275 0) - 1)))))]) (rest := []) (ci := 4) (q0 := 3) ⟨hx, hb, hml, hown, hg⟩ hK hN hT hS hA (ct_Checker_binary_Ch l dC dI cI cB cJ cZ cQ N H.size a v hv_3 (((q_2.2.1 272) (Int32.toNatClampNeg (((q_2.2.1 275 0) - 1))))) (((q_2.2.1 273) (Int32.toNatClampNeg (((q_2.2.1 275 0) - 1))))) (upI q_2.2 275 (fun _ => ((q_2.2.1 275 0) - 1))) q_8 hc_9) hP hD rfl rfl wn_6_82 wn_6_83 wn_6_84 wn_1_4 wn_6_85 rfl rfl (by decide +kernel) ⟨Nat.le_of_ble_eq_true rfl, Nat.le_of_ble_eq_true rfl⟩ rfl hl.1 rfl (Nat.le_of_ble_eq_true rfl) dn_Grammar_apply_72 ⟨Nat.le_of_ble_eq_true rfl, Nat.le_of_ble_eq_true rfl⟩) hP hD hS hA (fun _ H locs hw hP hD hS => ?_)
            refine lv_goto (tgt := 0) hx hb dn_Grammar_apply_75 (by decide) ?_
            exact hk_0 x1 q_8.2 hf H locs ls hP hD hS hl
  intro H locs ls hP hD hS hl
  unfold fn_Grammar_apply_Gr at hf
  exact hd_0 N v1 s hf H locs ls hP hD hS hl
set_option maxHeartbeats 8000000 in
set_option maxRecDepth 100000 in
theorem ct_Checker_choose_Ch (l : Launch) (dC : Nat → ClassId) (dI : Nat → Nat → Nat) (cI cB cJ cZ cQ : ClassId) (N sz : Nat) (a : Nat → Nat) (v : Nat → Value) (hv_3 : v 3 = .ref (a 111)) (v1 : Int32) (s : ms) (y : (Unit × ms)) (hf : fn_Checker_choose_Ch N v1 s = some y) : Met l yn_Checker_choose (xw yn_Checker_choose bn_Checker_choose 4 none) ({ frames := 3, cells := 0, slots := 0, locals := 82 }) (dc_P (dC, dI) xcl (xt cI cB cJ cZ cQ) [.ref ((a 103)), .int v1] sz (wC a v cI cB cJ cZ cQ s)) (xk_Qv (dC, dI) xcl (xt cI cB cJ cZ cQ) (fun _ : Unit => True) (fun u : Unit => (wC a v cI cB cJ cZ cQ y.2)) (va_A (wC a v cI cB cJ cZ cQ s) sz)) 0 0 (va_A (wC a v cI cB cJ cZ cQ s) sz) := by
  refine dc_of (QA := xk_Qv (dC, dI) xcl (xt cI cB cJ cZ cQ) (fun _ : Unit => True) (fun u : Unit => (wC a v cI cB cJ cZ cQ y.2))) (by decide) (Nat.le_of_ble_eq_true rfl) ?_
  intro p e s0 m below meth c hx hb hml hown hg hr hlocks hin hP hK hN A hA hD hT ls hl
  have hown : s0.vm.findClass rn_Checker = some m.cls := hown
  obtain ⟨H, hH⟩ : ∃ z, z = s0.heap := ⟨_, rfl⟩
  rw [← hH] at hP
  have hS : va_S A s0.heap H [] := by rw [hH]; exact va_S.rf
  suffices kk : ∀ QQ : State → Prop, QQ = MQ below (xk_Qv (dC, dI) xcl (xt cI cB cJ cZ cQ) (fun _ : Unit => True) (fun u : Unit => (wC a v cI cB cJ cZ cQ y.2)) A) [.ref ((a 103)), .int v1].toArray s0 0 0 A → dcC p l e ({ frames := 3, cells := 0, slots := 0, locals := 82 }) s0 m [.ref ((a 103)), .int v1].toArray below meth c QQ (dC, dI) A (wC a v cI cB cJ cZ cQ s) 0 4 [(0, .ref ((a 103))), (1, .int v1)] [] by
    have k9 := kk _ rfl H [] ls hP hD hS hl
    rw [hH] at k9; exact k9
  clear hP hD hS hl hH H ls
  intro QQ hQQ
  intro H locs ls hP hD hS hl
  unfold fn_Checker_choose_Ch at hf
  refine lv_aload_n hx hb dn_Checker_choose_0 rfl (lv_at hl 0 rfl) ?_
  obtain ⟨q_1, hc_2, hf⟩ := dc_b hf
  refine dc_calli (dc_runV (ar := 0) (As := []) (rest := []) (ci := 4) (q0 := 3) ⟨hx, hb, hml, hown, hg⟩ hK hN hT hS hA (ct_Checker_isOff_Ch l dC dI cI cB cJ cZ cQ N H.size a v s q_1 hc_2) hP hD rfl rfl wn_5_54 wn_4_194 wn_4_195 wn_1_4 wn_4_196 rfl rfl (by decide +kernel) ⟨Nat.le_of_ble_eq_true rfl, Nat.le_of_ble_eq_true rfl⟩ rfl hl.1 rfl (Nat.le_of_ble_eq_true rfl) dn_Checker_choose_1 ⟨Nat.le_of_ble_eq_true rfl, Nat.le_of_ble_eq_true rfl⟩) hP hD hS hA (fun r_3 _ H locs hw hP hD hS => ?_)
  have hw : r_3 = q_1.1 := hw
  subst hw
  refine lv_if_eq (tgt := 8) hx hb dn_Checker_choose_4 (by decide) (fun h => ?_) (fun h => ?_)
  · have hf := (if_pos h).symm.trans hf
    refine lv_aload_n hx hb dn_Checker_choose_8 rfl (lv_at hl 0 rfl) ?_
    obtain ⟨q_4, hc_5, hf⟩ := dc_b hf
    refine dc_calli (dc_runV (ar := 0) (As := []) (rest := []) (ci := 4) (q0 := 3) ⟨hx, hb, hml, hown, hg⟩ hK hN hT hS hA (ct_Checker_pop_Ch l dC dI cI cB cJ cZ cQ N H.size a v q_1.2 q_4 hc_5) hP hD rfl rfl wn_6_65 wn_6_67 sn_Checker_pop wn_1_4 wn_6_68 rfl rfl (by decide +kernel) ⟨Nat.le_of_ble_eq_true rfl, Nat.le_of_ble_eq_true rfl⟩ rfl hl.1 rfl (Nat.le_of_ble_eq_true rfl) dn_Checker_choose_9 ⟨Nat.le_of_ble_eq_true rfl, Nat.le_of_ble_eq_true rfl⟩) hP hD hS hA (fun r_6 _ H locs hw hP hD hS => ?_)
    have hw : r_6 = q_4.1 := hw
    subst hw
    refine lv_istore_n (lv' := [(2, .int q_4.1), (0, .ref ((a 103))), (1, .int v1)]) hx hb dn_Checker_choose_12 rfl hl (by decide) rfl (fun ls hl => ?_)
    refine lv_aload_n hx hb dn_Checker_choose_13 rfl (lv_at hl 1 rfl) ?_
    obtain ⟨q_7, hc_8, hf⟩ := dc_b hf
    refine dc_calli (dc_runV (ar := 0) (As := []) (rest := []) (ci := 4) (q0 := 3) ⟨hx, hb, hml, hown, hg⟩ hK hN hT hS hA (ct_Checker_pop_Ch l dC dI cI cB cJ cZ cQ N H.size a v q_4.2 q_7 hc_8) hP hD rfl rfl wn_6_65 wn_6_67 sn_Checker_pop wn_1_4 wn_6_68 rfl rfl (by decide +kernel) ⟨Nat.le_of_ble_eq_true rfl, Nat.le_of_ble_eq_true rfl⟩ rfl hl.1 rfl (Nat.le_of_ble_eq_true rfl) dn_Checker_choose_14 ⟨Nat.le_of_ble_eq_true rfl, Nat.le_of_ble_eq_true rfl⟩) hP hD hS hA (fun r_9 _ H locs hw hP hD hS => ?_)
    have hw : r_9 = q_7.1 := hw
    subst hw
    refine lv_istore_n (lv' := [(3, .int q_7.1), (2, .int q_4.1), (0, .ref ((a 103))), (1, .int v1)]) hx hb dn_Checker_choose_17 rfl hl (by decide) rfl (fun ls hl => ?_)
    refine lv_iload_n hx hb dn_Checker_choose_18 rfl (lv_at hl 0 rfl) ?_
    refine lv_iload_n hx hb dn_Checker_choose_19 rfl (lv_at hl 1 rfl) ?_
    refine lv_icmp_eq (tgt := 31) hx hb dn_Checker_choose_20 (by decide) (fun h => ?_) (fun h => ?_)
    · have hf := (if_pos h).symm.trans hf
      refine lv_aload_n hx hb dn_Checker_choose_31 rfl (lv_at hl 2 rfl) ?_
      refine lv_aload_n hx hb dn_Checker_choose_32 rfl (lv_at hl 2 rfl) ?_
      obtain ⟨q_10, hc_11, hf⟩ := dc_b hf
      refine dc_calli (dc_runV (ar := 0) (As := []) (rest := [.ref ((a 103))]) (ci := 4) (q0 := 3) ⟨hx, hb, hml, hown, hg⟩ hK hN hT hS hA (ct_Checker_pop_Ch l dC dI cI cB cJ cZ cQ N H.size a v q_7.2 q_10 hc_11) hP hD rfl rfl wn_6_65 wn_6_67 sn_Checker_pop wn_1_4 wn_6_68 rfl rfl (by decide +kernel) ⟨Nat.le_of_ble_eq_true rfl, Nat.le_of_ble_eq_true rfl⟩ rfl hl.1 rfl (Nat.le_of_ble_eq_true rfl) dn_Checker_choose_33 ⟨Nat.le_of_ble_eq_true rfl, Nat.le_of_ble_eq_true rfl⟩) hP hD hS hA (fun r_12 _ H locs hw hP hD hS => ?_)
      have hw : r_12 = q_10.1 := hw
      subst hw
      refine lv_iload_n hx hb dn_Checker_choose_36 rfl (lv_at hl 0 rfl) ?_
      refine va_mmax (x := q_10.1) (y := q_7.1) (rest := [.ref ((a 103))]) hx hb (by rw [hml]; exact hl.1.symm) hown (hg _ wn_5_132) (hg _ wn_4_99) (hg _ wn_1_19) (hg _ wn_4_100) (Nat.le_of_ble_eq_true rfl) (Nat.le_of_ble_eq_true rfl) (Nat.zero_le _) (Nat.zero_le _) dn_Checker_choose_37 ?_
      obtain ⟨q_13, hc_14, hf⟩ := dc_b hf
      refine dc_callv (dc_runV (ar := 1) (As := [.int ((if q_10.1 < q_7.1 then q_7.1 else q_10.1))]) (rest := []) (ci := 4) (q0 := 3) ⟨hx, hb, hml, hown, hg⟩ hK hN hT hS hA (ct_Checker_spend_Ch l dC dI cI cB cJ cZ cQ N H.size a v ((if q_10.1 < q_7.1 then q_7.1 else q_10.1)) q_10.2 q_13 hc_14) hP hD rfl rfl wn_6_86 wn_5_228 wn_5_229 wn_1_4 wn_5_230 rfl rfl (by decide +kernel) ⟨Nat.le_of_ble_eq_true rfl, Nat.le_of_ble_eq_true rfl⟩ rfl hl.1 rfl (Nat.le_of_ble_eq_true rfl) dn_Checker_choose_40 ⟨Nat.le_of_ble_eq_true rfl, Nat.le_of_ble_eq_true rfl⟩) hP hD hS hA (fun _ H locs hw hP hD hS => ?_)
      refine lv_aload_n hx hb dn_Checker_choose_43 rfl (lv_at hl 2 rfl) ?_
      refine lv_iload_n hx hb dn_Checker_choose_44 rfl (lv_at hl 0 rfl) ?_
      obtain ⟨q_15, hc_16, hf⟩ := dc_b hf
      refine dc_callv (dc_runV (ar := 1) (As := [.int q_7.1]) (rest := []) (ci := 4) (q0 := 3) ⟨hx, hb, hml, hown, hg⟩ hK hN hT hS hA (ct_Checker_push_Ch l dC dI cI cB cJ cZ cQ N H.size a v q_7.1 q_13.2 q_15 hc_16) hP hD rfl rfl wn_6_41 wn_6_43 sn_Checker_push wn_1_4 wn_6_44 rfl rfl (by decide +kernel) ⟨Nat.le_of_ble_eq_true rfl, Nat.le_of_ble_eq_true rfl⟩ rfl hl.1 rfl (Nat.le_of_ble_eq_true rfl) dn_Checker_choose_45 ⟨Nat.le_of_ble_eq_true rfl, Nat.le_of_ble_eq_true rfl⟩) hP hD hS hA (fun _ H locs hw hP hD hS => ?_)
      refine lv_aload_n hx hb dn_Checker_choose_48 rfl (lv_at hl 2 rfl) ?_
      refine va_get (D := (dC, dI)) (ci := 4) (v := .ref ((a 111))) (C := rn_Checker) (T := fn_Checker) (N := 15) hx hb hg in_Checker hown hK hP 3 rfl rfl 2 (by decide) (hg _ wn_1_128) (fun _ h9 => h9) (congrArg some hv_3) dn_Checker_choose_49 ?_
      refine lv_sipush (v := 512) hx hb dn_Checker_choose_52 (by decide) ?_
      refine lv_iload_n hx hb dn_Checker_choose_55 rfl (lv_at hl 0 rfl) ?_
      obtain ⟨q_17, hc_18, hf⟩ := dc_b hf
      refine dc_calli (dc_runV (ar := 2) (As := [.int 512, .int q_7.1]) (rest := []) (ci := 12) (q0 := 11) ⟨hx, hb, hml, hown, hg⟩ hK hN hT hS hA (ct_Code_emit_Ks l dC dI cI cB cJ cZ cQ N H.size a v 512 q_7.1 q_15.2 q_17 hc_18) hP hD rfl rfl wn_6_45 wn_5_198 wn_5_199 wn_1_12 wn_5_200 rfl rfl (by decide +kernel) ⟨Nat.le_of_ble_eq_true rfl, Nat.le_of_ble_eq_true rfl⟩ rfl hl.1 rfl (Nat.le_of_ble_eq_true rfl) dn_Checker_choose_56 ⟨Nat.le_of_ble_eq_true rfl, Nat.le_of_ble_eq_true rfl⟩) hP hD hS hA (fun r_19 _ H locs hw hP hD hS => ?_)
      have hw : r_19 = q_17.1 := hw
      subst hw
      refine lv_pop hx hb dn_Checker_choose_59 rfl ?_
      rw [hQQ, ← Option.some.inj hf]
      exact xk_vret (w1 := fun u : Unit => (wC a v cI cB cJ cZ cQ q_17.2)) () hx hb hr hlocks hK hS dn_Checker_choose_60 hP hD trivial (Nat.le_refl _) (Nat.le_refl _)
    · have hf := (if_neg h).symm.trans hf
      refine lv_aload_n hx hb dn_Checker_choose_23 rfl (lv_at hl 2 rfl) ?_
      refine lv_bipush (v := 30) hx hb dn_Checker_choose_24 (by decide) ?_
      refine lv_iload_n hx hb dn_Checker_choose_26 rfl (lv_at hl 3 rfl) ?_
      obtain ⟨q_10, hc_11, hf⟩ := dc_b hf
      refine dc_callv (dc_runV (ar := 2) (As := [.int 30, .int v1]) (rest := []) (ci := 4) (q0 := 3) ⟨hx, hb, hml, hown, hg⟩ hK hN hT hS hA (ct_Checker_refuse_Ch l dC dI cI cB cJ cZ cQ N H.size a v 30 v1 q_7.2 q_10 hc_11) hP hD rfl rfl wn_6_56 wn_4_202 wn_4_203 wn_1_4 wn_4_204 rfl rfl (by decide +kernel) ⟨Nat.le_of_ble_eq_true rfl, Nat.le_of_ble_eq_true rfl⟩ rfl hl.1 rfl (Nat.le_of_ble_eq_true rfl) dn_Checker_choose_27 ⟨Nat.le_of_ble_eq_true rfl, Nat.le_of_ble_eq_true rfl⟩) hP hD hS hA (fun _ H locs hw hP hD hS => ?_)
      rw [hQQ, ← Option.some.inj hf]
      exact xk_vret (w1 := fun u : Unit => (wC a v cI cB cJ cZ cQ q_10.2)) () hx hb hr hlocks hK hS dn_Checker_choose_30 hP hD trivial (Nat.le_refl _) (Nat.le_refl _)
  · have hf := (if_neg h).symm.trans hf
    rw [hQQ, ← Option.some.inj hf]
    exact xk_vret (w1 := fun u : Unit => (wC a v cI cB cJ cZ cQ q_1.2)) () hx hb hr hlocks hK hS dn_Checker_choose_7 hP hD trivial (Nat.le_refl _) (Nat.le_refl _)
set_option maxHeartbeats 8000000 in
set_option maxRecDepth 100000 in
theorem ct_Checker_join_Ch (l : Launch) (dC : Nat → ClassId) (dI : Nat → Nat → Nat) (cI cB cJ cZ cQ : ClassId) (N sz : Nat) (a : Nat → Nat) (v : Nat → Value) (hv_3 : v 3 = .ref (a 111)) (s : ms) (y : (Unit × ms)) (hf : fn_Checker_join_Ch N s = some y) : Met l yn_Checker_join (xw yn_Checker_join bn_Checker_join 2 none) ({ frames := 2, cells := 0, slots := 0, locals := 61 }) (dc_P (dC, dI) xcl (xt cI cB cJ cZ cQ) [.ref ((a 103))] sz (wC a v cI cB cJ cZ cQ s)) (xk_Qv (dC, dI) xcl (xt cI cB cJ cZ cQ) (fun _ : Unit => True) (fun u : Unit => (wC a v cI cB cJ cZ cQ y.2)) (va_A (wC a v cI cB cJ cZ cQ s) sz)) 0 0 (va_A (wC a v cI cB cJ cZ cQ s) sz) := by
  refine dc_of (QA := xk_Qv (dC, dI) xcl (xt cI cB cJ cZ cQ) (fun _ : Unit => True) (fun u : Unit => (wC a v cI cB cJ cZ cQ y.2))) (by decide) (Nat.le_of_ble_eq_true rfl) ?_
  intro p e s0 m below meth c hx hb hml hown hg hr hlocks hin hP hK hN A hA hD hT ls hl
  have hown : s0.vm.findClass rn_Checker = some m.cls := hown
  obtain ⟨H, hH⟩ : ∃ z, z = s0.heap := ⟨_, rfl⟩
  rw [← hH] at hP
  have hS : va_S A s0.heap H [] := by rw [hH]; exact va_S.rf
  suffices kk : ∀ QQ : State → Prop, QQ = MQ below (xk_Qv (dC, dI) xcl (xt cI cB cJ cZ cQ) (fun _ : Unit => True) (fun u : Unit => (wC a v cI cB cJ cZ cQ y.2)) A) [.ref ((a 103))].toArray s0 0 0 A → dcC p l e ({ frames := 2, cells := 0, slots := 0, locals := 61 }) s0 m [.ref ((a 103))].toArray below meth c QQ (dC, dI) A (wC a v cI cB cJ cZ cQ s) 0 2 [(0, .ref ((a 103)))] [] by
    have k9 := kk _ rfl H [] ls hP hD hS hl
    rw [hH] at k9; exact k9
  clear hP hD hS hl hH H ls
  intro QQ hQQ
  intro H locs ls hP hD hS hl
  unfold fn_Checker_join_Ch at hf
  refine lv_aload_n hx hb dn_Checker_join_0 rfl (lv_at hl 0 rfl) ?_
  obtain ⟨q_1, hc_2, hf⟩ := dc_b hf
  refine dc_calli (dc_runV (ar := 0) (As := []) (rest := []) (ci := 4) (q0 := 3) ⟨hx, hb, hml, hown, hg⟩ hK hN hT hS hA (ct_Checker_isOff_Ch l dC dI cI cB cJ cZ cQ N H.size a v s q_1 hc_2) hP hD rfl rfl wn_5_54 wn_4_194 wn_4_195 wn_1_4 wn_4_196 rfl rfl (by decide +kernel) ⟨Nat.le_of_ble_eq_true rfl, Nat.le_of_ble_eq_true rfl⟩ rfl hl.1 rfl (Nat.le_of_ble_eq_true rfl) dn_Checker_join_1 ⟨Nat.le_of_ble_eq_true rfl, Nat.le_of_ble_eq_true rfl⟩) hP hD hS hA (fun r_3 _ H locs hw hP hD hS => ?_)
  have hw : r_3 = q_1.1 := hw
  subst hw
  refine lv_if_eq (tgt := 8) hx hb dn_Checker_join_4 (by decide) (fun h => ?_) (fun h => ?_)
  · have hf := (if_pos h).symm.trans hf
    refine lv_aload_n hx hb dn_Checker_join_8 rfl (lv_at hl 0 rfl) ?_
    obtain ⟨q_4, hc_5, hf⟩ := dc_b hf
    refine dc_calli (dc_runV (ar := 0) (As := []) (rest := []) (ci := 4) (q0 := 3) ⟨hx, hb, hml, hown, hg⟩ hK hN hT hS hA (ct_Checker_pop_Ch l dC dI cI cB cJ cZ cQ N H.size a v q_1.2 q_4 hc_5) hP hD rfl rfl wn_6_65 wn_6_67 sn_Checker_pop wn_1_4 wn_6_68 rfl rfl (by decide +kernel) ⟨Nat.le_of_ble_eq_true rfl, Nat.le_of_ble_eq_true rfl⟩ rfl hl.1 rfl (Nat.le_of_ble_eq_true rfl) dn_Checker_join_9 ⟨Nat.le_of_ble_eq_true rfl, Nat.le_of_ble_eq_true rfl⟩) hP hD hS hA (fun r_6 _ H locs hw hP hD hS => ?_)
    have hw : r_6 = q_4.1 := hw
    subst hw
    refine lv_istore_n (lv' := [(1, .int q_4.1), (0, .ref ((a 103)))]) hx hb dn_Checker_join_12 rfl hl (by decide) rfl (fun ls hl => ?_)
    refine lv_aload_n hx hb dn_Checker_join_13 rfl (lv_at hl 1 rfl) ?_
    refine lv_aload_n hx hb dn_Checker_join_14 rfl (lv_at hl 1 rfl) ?_
    obtain ⟨q_7, hc_8, hf⟩ := dc_b hf
    refine dc_calli (dc_runV (ar := 0) (As := []) (rest := [.ref ((a 103))]) (ci := 4) (q0 := 3) ⟨hx, hb, hml, hown, hg⟩ hK hN hT hS hA (ct_Checker_pop_Ch l dC dI cI cB cJ cZ cQ N H.size a v q_4.2 q_7 hc_8) hP hD rfl rfl wn_6_65 wn_6_67 sn_Checker_pop wn_1_4 wn_6_68 rfl rfl (by decide +kernel) ⟨Nat.le_of_ble_eq_true rfl, Nat.le_of_ble_eq_true rfl⟩ rfl hl.1 rfl (Nat.le_of_ble_eq_true rfl) dn_Checker_join_15 ⟨Nat.le_of_ble_eq_true rfl, Nat.le_of_ble_eq_true rfl⟩) hP hD hS hA (fun r_9 _ H locs hw hP hD hS => ?_)
    have hw : r_9 = q_7.1 := hw
    subst hw
    refine lv_iload_n hx hb dn_Checker_join_18 rfl (lv_at hl 0 rfl) ?_
    obtain ⟨q_10, hc_11, hf⟩ := dc_b hf
    refine dc_calli (dc_runSN (ar := 2) (As := [.int q_7.1, .int q_4.1]) (rest := [.ref ((a 103))]) (host := "CircuitCycles") ⟨hx, hb, hml, hown, hg⟩ hK hN hT hS hA (ct_C_capped l dC dI cI cB cJ cZ cQ N H.size a v q_7.1 q_4.1 q_7.2 q_10 hc_11) hP hD nl_Checker_79 wn_5_108 wn_1_1 wn_5_109 rfl rfl (by decide +kernel) ⟨Nat.le_of_ble_eq_true rfl, Nat.le_of_ble_eq_true rfl⟩ rfl hl.1 rfl (Nat.le_of_ble_eq_true rfl) dn_Checker_join_19 ⟨Nat.le_of_ble_eq_true rfl, Nat.le_of_ble_eq_true rfl⟩) hP hD hS hA (fun r_12 _ H locs hw hP hD hS => ?_)
    have hw : r_12 = q_10.1 := hw
    subst hw
    obtain ⟨q_13, hc_14, hf⟩ := dc_b hf
    refine dc_callv (dc_runV (ar := 1) (As := [.int q_10.1]) (rest := []) (ci := 4) (q0 := 3) ⟨hx, hb, hml, hown, hg⟩ hK hN hT hS hA (ct_Checker_push_Ch l dC dI cI cB cJ cZ cQ N H.size a v q_10.1 q_10.2 q_13 hc_14) hP hD rfl rfl wn_6_41 wn_6_43 sn_Checker_push wn_1_4 wn_6_44 rfl rfl (by decide +kernel) ⟨Nat.le_of_ble_eq_true rfl, Nat.le_of_ble_eq_true rfl⟩ rfl hl.1 rfl (Nat.le_of_ble_eq_true rfl) dn_Checker_join_22 ⟨Nat.le_of_ble_eq_true rfl, Nat.le_of_ble_eq_true rfl⟩) hP hD hS hA (fun _ H locs hw hP hD hS => ?_)
    refine lv_aload_n hx hb dn_Checker_join_25 rfl (lv_at hl 1 rfl) ?_
    refine va_get (D := (dC, dI)) (ci := 4) (v := .ref ((a 111))) (C := rn_Checker) (T := fn_Checker) (N := 15) hx hb hg in_Checker hown hK hP 3 rfl rfl 2 (by decide) (hg _ wn_1_128) (fun _ h9 => h9) (congrArg some hv_3) dn_Checker_join_26 ?_
    refine lv_bipush (v := 44) hx hb dn_Checker_join_29 (by decide) ?_
    refine lv_iload_n hx hb dn_Checker_join_31 rfl (lv_at hl 0 rfl) ?_
    obtain ⟨q_15, hc_16, hf⟩ := dc_b hf
    refine dc_calli (dc_runV (ar := 2) (As := [.int 44, .int q_4.1]) (rest := []) (ci := 12) (q0 := 11) ⟨hx, hb, hml, hown, hg⟩ hK hN hT hS hA (ct_Code_emit_Ks l dC dI cI cB cJ cZ cQ N H.size a v 44 q_4.1 q_13.2 q_15 hc_16) hP hD rfl rfl wn_6_45 wn_5_198 wn_5_199 wn_1_12 wn_5_200 rfl rfl (by decide +kernel) ⟨Nat.le_of_ble_eq_true rfl, Nat.le_of_ble_eq_true rfl⟩ rfl hl.1 rfl (Nat.le_of_ble_eq_true rfl) dn_Checker_join_32 ⟨Nat.le_of_ble_eq_true rfl, Nat.le_of_ble_eq_true rfl⟩) hP hD hS hA (fun r_17 _ H locs hw hP hD hS => ?_)
    have hw : r_17 = q_15.1 := hw
    subst hw
    refine lv_pop hx hb dn_Checker_join_35 rfl ?_
    rw [hQQ, ← Option.some.inj hf]
    exact xk_vret (w1 := fun u : Unit => (wC a v cI cB cJ cZ cQ q_15.2)) () hx hb hr hlocks hK hS dn_Checker_join_36 hP hD trivial (Nat.le_refl _) (Nat.le_refl _)
  · have hf := (if_neg h).symm.trans hf
    rw [hQQ, ← Option.some.inj hf]
    exact xk_vret (w1 := fun u : Unit => (wC a v cI cB cJ cZ cQ q_1.2)) () hx hb hr hlocks hK hS dn_Checker_join_7 hP hD trivial (Nat.le_refl _) (Nat.le_refl _)
set_option maxHeartbeats 8000000 in
set_option maxRecDepth 100000 in
theorem ct_Checker_braces_Ch (l : Launch) (dC : Nat → ClassId) (dI : Nat → Nat → Nat) (cI cB cJ cZ cQ : ClassId) (N sz : Nat) (a : Nat → Nat) (v : Nat → Value) (v1 : Int32) (s : ms) (y : (Unit × ms)) (hf : fn_Checker_braces_Ch N v1 s = some y) : Met l yn_Checker_braces (xw yn_Checker_braces bn_Checker_braces 3 none) ({ frames := 1, cells := 0, slots := 0, locals := 22 }) (dc_P (dC, dI) xcl (xt cI cB cJ cZ cQ) [.ref ((a 103)), .int v1] sz (wC a v cI cB cJ cZ cQ s)) (xk_Qv (dC, dI) xcl (xt cI cB cJ cZ cQ) (fun _ : Unit => True) (fun u : Unit => (wC a v cI cB cJ cZ cQ y.2)) (va_A (wC a v cI cB cJ cZ cQ s) sz)) 0 0 (va_A (wC a v cI cB cJ cZ cQ s) sz) := by
  refine dc_of (QA := xk_Qv (dC, dI) xcl (xt cI cB cJ cZ cQ) (fun _ : Unit => True) (fun u : Unit => (wC a v cI cB cJ cZ cQ y.2))) (by decide) (Nat.le_of_ble_eq_true rfl) ?_
  intro p e s0 m below meth c hx hb hml hown hg hr hlocks hin hP hK hN A hA hD hT ls hl
  have hown : s0.vm.findClass rn_Checker = some m.cls := hown
  obtain ⟨H, hH⟩ : ∃ z, z = s0.heap := ⟨_, rfl⟩
  rw [← hH] at hP
  have hS : va_S A s0.heap H [] := by rw [hH]; exact va_S.rf
  suffices kk : ∀ QQ : State → Prop, QQ = MQ below (xk_Qv (dC, dI) xcl (xt cI cB cJ cZ cQ) (fun _ : Unit => True) (fun u : Unit => (wC a v cI cB cJ cZ cQ y.2)) A) [.ref ((a 103)), .int v1].toArray s0 0 0 A → dcC p l e ({ frames := 1, cells := 0, slots := 0, locals := 22 }) s0 m [.ref ((a 103)), .int v1].toArray below meth c QQ (dC, dI) A (wC a v cI cB cJ cZ cQ s) 0 3 [(0, .ref ((a 103))), (1, .int v1)] [] by
    have k9 := kk _ rfl H [] ls hP hD hS hl
    rw [hH] at k9; exact k9
  clear hP hD hS hl hH H ls
  intro QQ hQQ
  have bl_26 : ∀ (x2 : Int32) (s : ms), bk_Checker_braces_Ch_26 N x2 s = some y → dcC p l e ({ frames := 1, cells := 0, slots := 0, locals := 22 }) s0 m [.ref ((a 103)), .int v1].toArray below meth c QQ (dC, dI) A (wC a v cI cB cJ cZ cQ s) 26 3 [(0, .ref ((a 103))), (2, .int x2)] [] := by
    intro x2 s hf H locs ls hP hD hS hl
    unfold bk_Checker_braces_Ch_26 at hf
    refine lv_aload_n hx hb dn_Checker_braces_26 rfl (lv_at hl 0 rfl) ?_
    refine lv_iload_n hx hb dn_Checker_braces_27 rfl (lv_at hl 1 rfl) ?_
    obtain ⟨q_1, hc_2, hf⟩ := dc_b hf
    refine dc_callv (dc_runV (ar := 1) (As := [.int x2]) (rest := []) (ci := 4) (q0 := 3) ⟨hx, hb, hml, hown, hg⟩ hK hN hT hS hA (ct_Checker_push_Ch l dC dI cI cB cJ cZ cQ N H.size a v x2 s q_1 hc_2) hP hD rfl rfl wn_6_41 wn_6_43 sn_Checker_push wn_1_4 wn_6_44 rfl rfl (by decide +kernel) ⟨Nat.le_of_ble_eq_true rfl, Nat.le_of_ble_eq_true rfl⟩ rfl hl.1 rfl (Nat.le_of_ble_eq_true rfl) dn_Checker_braces_28 ⟨Nat.le_of_ble_eq_true rfl, Nat.le_of_ble_eq_true rfl⟩) hP hD hS hA (fun _ H locs hw hP hD hS => ?_)
    rw [hQQ, ← Option.some.inj hf]
    exact xk_vret (w1 := fun u : Unit => (wC a v cI cB cJ cZ cQ q_1.2)) () hx hb hr hlocks hK hS dn_Checker_braces_31 hP hD trivial (Nat.le_refl _) (Nat.le_refl _)
  intro H locs ls hP hD hS hl
  unfold fn_Checker_braces_Ch at hf
  refine lv_aload_n hx hb dn_Checker_braces_0 rfl (lv_at hl 0 rfl) ?_
  obtain ⟨q_1, hc_2, hf⟩ := dc_b hf
  refine dc_calli (dc_runV (ar := 0) (As := []) (rest := []) (ci := 4) (q0 := 3) ⟨hx, hb, hml, hown, hg⟩ hK hN hT hS hA (ct_Checker_isOff_Ch l dC dI cI cB cJ cZ cQ N H.size a v s q_1 hc_2) hP hD rfl rfl wn_5_54 wn_4_194 wn_4_195 wn_1_4 wn_4_196 rfl rfl (by decide +kernel) ⟨Nat.le_of_ble_eq_true rfl, Nat.le_of_ble_eq_true rfl⟩ rfl hl.1 rfl (Nat.le_of_ble_eq_true rfl) dn_Checker_braces_1 ⟨Nat.le_of_ble_eq_true rfl, Nat.le_of_ble_eq_true rfl⟩) hP hD hS hA (fun r_3 _ H locs hw hP hD hS => ?_)
  have hw : r_3 = q_1.1 := hw
  subst hw
  refine lv_if_eq (tgt := 8) hx hb dn_Checker_braces_4 (by decide) (fun h => ?_) (fun h => ?_)
  · have hf := (if_pos h).symm.trans hf
    refine lv_aload_n hx hb dn_Checker_braces_8 rfl (lv_at hl 0 rfl) ?_
    obtain ⟨q_4, hc_5, hf⟩ := dc_b hf
    refine dc_calli (dc_runV (ar := 0) (As := []) (rest := []) (ci := 4) (q0 := 3) ⟨hx, hb, hml, hown, hg⟩ hK hN hT hS hA (ct_Checker_pop_Ch l dC dI cI cB cJ cZ cQ N H.size a v q_1.2 q_4 hc_5) hP hD rfl rfl wn_6_65 wn_6_67 sn_Checker_pop wn_1_4 wn_6_68 rfl rfl (by decide +kernel) ⟨Nat.le_of_ble_eq_true rfl, Nat.le_of_ble_eq_true rfl⟩ rfl hl.1 rfl (Nat.le_of_ble_eq_true rfl) dn_Checker_braces_9 ⟨Nat.le_of_ble_eq_true rfl, Nat.le_of_ble_eq_true rfl⟩) hP hD hS hA (fun r_6 _ H locs hw hP hD hS => ?_)
    have hw : r_6 = q_4.1 := hw
    subst hw
    refine lv_istore_n (lv' := [(2, .int q_4.1), (0, .ref ((a 103))), (1, .int v1)]) hx hb dn_Checker_braces_12 rfl hl (by decide) rfl (fun ls hl => ?_)
    refine lv_iload_n hx hb dn_Checker_braces_13 rfl (lv_at hl 0 rfl) ?_
    refine lv_bipush (v := 64) hx hb dn_Checker_braces_14 (by decide) ?_
    refine lv_icmp_le (tgt := 26) hx hb dn_Checker_braces_16 (by decide) (fun h => ?_) (fun h => ?_)
    · have hf := (if_pos h).symm.trans hf
      exact bl_26 q_4.1 q_4.2 hf H locs ls hP hD hS (lv_sub hl [1, 0] rfl)
    · have hf := (if_neg h).symm.trans hf
      refine lv_aload_n hx hb dn_Checker_braces_19 rfl (lv_at hl 1 rfl) ?_
      refine lv_bipush (v := 30) hx hb dn_Checker_braces_20 (by decide) ?_
      refine lv_iload_n hx hb dn_Checker_braces_22 rfl (lv_at hl 2 rfl) ?_
      obtain ⟨q_7, hc_8, hf⟩ := dc_b hf
      refine dc_callv (dc_runV (ar := 2) (As := [.int 30, .int v1]) (rest := []) (ci := 4) (q0 := 3) ⟨hx, hb, hml, hown, hg⟩ hK hN hT hS hA (ct_Checker_refuse_Ch l dC dI cI cB cJ cZ cQ N H.size a v 30 v1 q_4.2 q_7 hc_8) hP hD rfl rfl wn_6_56 wn_4_202 wn_4_203 wn_1_4 wn_4_204 rfl rfl (by decide +kernel) ⟨Nat.le_of_ble_eq_true rfl, Nat.le_of_ble_eq_true rfl⟩ rfl hl.1 rfl (Nat.le_of_ble_eq_true rfl) dn_Checker_braces_23 ⟨Nat.le_of_ble_eq_true rfl, Nat.le_of_ble_eq_true rfl⟩) hP hD hS hA (fun _ H locs hw hP hD hS => ?_)
      exact bl_26 q_4.1 q_7.2 hf H locs ls hP hD hS (lv_sub hl [1, 0] rfl)
  · have hf := (if_neg h).symm.trans hf
    rw [hQQ, ← Option.some.inj hf]
    exact xk_vret (w1 := fun u : Unit => (wC a v cI cB cJ cZ cQ q_1.2)) () hx hb hr hlocks hK hS dn_Checker_braces_7 hP hD trivial (Nat.le_refl _) (Nat.le_refl _)
set_option maxHeartbeats 8000000 in
set_option maxRecDepth 100000 in
theorem ct_Grammar_closeBrace_Gr (l : Launch) (dC : Nat → ClassId) (dI : Nat → Nat → Nat) (cI cB cJ cZ cQ : ClassId) (N sz : Nat) (a : Nat → Nat) (v : Nat → Value) (v1 : Int32) (s : ms) (y : (Unit × ms)) (hf : fn_Grammar_closeBrace_Gr N v1 s = some y) : Met l yn_Grammar_closeBrace (xw yn_Grammar_closeBrace bn_Grammar_closeBrace 2 none) ({ frames := 3, cells := 0, slots := 0, locals := 62 }) (dc_P (dC, dI) xcl (xt cI cB cJ cZ cQ) [.ref ((a 105)), .int v1] sz (wC a v cI cB cJ cZ cQ s)) (xk_Qv (dC, dI) xcl (xt cI cB cJ cZ cQ) (fun _ : Unit => True) (fun u : Unit => (wC a v cI cB cJ cZ cQ y.2)) (va_A (wC a v cI cB cJ cZ cQ s) sz)) 0 0 (va_A (wC a v cI cB cJ cZ cQ s) sz) := by
  refine dc_of (QA := xk_Qv (dC, dI) xcl (xt cI cB cJ cZ cQ) (fun _ : Unit => True) (fun u : Unit => (wC a v cI cB cJ cZ cQ y.2))) (by decide) (Nat.le_of_ble_eq_true rfl) ?_
  intro p e s0 m below meth c hx hb hml hown hg hr hlocks hin hP hK hN A hA hD hT ls hl
  have hown : s0.vm.findClass rn_Grammar = some m.cls := hown
  obtain ⟨H, hH⟩ : ∃ z, z = s0.heap := ⟨_, rfl⟩
  rw [← hH] at hP
  have hS : va_S A s0.heap H [] := by rw [hH]; exact va_S.rf
  suffices kk : ∀ QQ : State → Prop, QQ = MQ below (xk_Qv (dC, dI) xcl (xt cI cB cJ cZ cQ) (fun _ : Unit => True) (fun u : Unit => (wC a v cI cB cJ cZ cQ y.2)) A) [.ref ((a 105)), .int v1].toArray s0 0 0 A → dcC p l e ({ frames := 3, cells := 0, slots := 0, locals := 62 }) s0 m [.ref ((a 105)), .int v1].toArray below meth c QQ (dC, dI) A (wC a v cI cB cJ cZ cQ s) 0 2 [(0, .ref ((a 105))), (1, .int v1)] [] by
    have k9 := kk _ rfl H [] ls hP hD hS hl
    rw [hH] at k9; exact k9
  clear hP hD hS hl hH H ls
  intro QQ hQQ
  intro H locs ls hP hD hS hl
  unfold fn_Grammar_closeBrace_Gr at hf
  refine lv_aload_n hx hb dn_Grammar_closeBrace_0 rfl (lv_at hl 0 rfl) ?_
  refine va_get (D := (dC, dI)) (ci := 6) (v := .ref ((a 101))) (C := rn_Grammar) (T := fn_Grammar) (N := 15) hx hb hg in_Grammar hown hK hP 5 rfl rfl 0 (by decide) (hg _ wn_2_0) (fun _ h9 => h9) rfl dn_Grammar_closeBrace_1 ?_
  refine va_get (D := (dC, dI)) (ci := 2) (v := .int ((s.1 214 0))) (C := rn_Tokens) (T := fn_Tokens) (N := 9) hx hb hg in_Tokens hown hK hP 1 rfl rfl 3 (by decide) (hg _ wn_1_50) (fun _ h9 => h9) rfl dn_Grammar_closeBrace_4 ?_
  refine lv_bipush (v := 44) hx hb dn_Grammar_closeBrace_7 (by decide) ?_
  refine lv_icmp_ne (tgt := 36) hx hb dn_Grammar_closeBrace_9 (by decide) (fun h => ?_) (fun h => ?_)
  · have hf := (if_neg h).symm.trans hf
    refine lv_aload_n hx hb dn_Grammar_closeBrace_36 rfl (lv_at hl 0 rfl) ?_
    refine va_get (D := (dC, dI)) (ci := 6) (v := .ref ((a 101))) (C := rn_Grammar) (T := fn_Grammar) (N := 15) hx hb hg in_Grammar hown hK hP 5 rfl rfl 0 (by decide) (hg _ wn_2_0) (fun _ h9 => h9) rfl dn_Grammar_closeBrace_37 ?_
    refine lv_bipush (v := 125) hx hb dn_Grammar_closeBrace_40 (by decide) ?_
    obtain ⟨q_1, hc_2, hf⟩ := dc_b hf
    refine dc_callv (dc_runV (ar := 1) (As := [.int 125]) (rest := []) (ci := 2) (q0 := 1) ⟨hx, hb, hml, hown, hg⟩ hK hN hT hS hA (ct_Tokens_shut_Tk l dC dI cI cB cJ cZ cQ N H.size a v 125 s q_1 hc_2) hP hD rfl rfl wn_4_226 wn_4_227 wn_4_228 wn_1_2 wn_4_229 rfl rfl (by decide +kernel) ⟨Nat.le_of_ble_eq_true rfl, Nat.le_of_ble_eq_true rfl⟩ rfl hl.1 rfl (Nat.le_of_ble_eq_true rfl) dn_Grammar_closeBrace_42 ⟨Nat.le_of_ble_eq_true rfl, Nat.le_of_ble_eq_true rfl⟩) hP hD hS hA (fun _ H locs hw hP hD hS => ?_)
    refine lv_aload_n hx hb dn_Grammar_closeBrace_45 rfl (lv_at hl 0 rfl) ?_
    refine va_get (D := (dC, dI)) (ci := 6) (v := .ref ((a 103))) (C := rn_Grammar) (T := fn_Grammar) (N := 15) hx hb hg in_Grammar hown hK hP 5 rfl rfl 1 (by decide) (hg _ wn_2_1) (fun _ h9 => h9) rfl dn_Grammar_closeBrace_46 ?_
    refine lv_aload_n hx hb dn_Grammar_closeBrace_49 rfl (lv_at hl 0 rfl) ?_
    refine va_get (D := (dC, dI)) (ci := 6) (v := .ref ((a 273))) (C := rn_Grammar) (T := fn_Grammar) (N := 15) hx hb hg in_Grammar hown hK hP 5 rfl rfl 12 (by decide) (hg _ wn_2_12) (fun _ h9 => h9) rfl dn_Grammar_closeBrace_50 ?_
    refine lv_iload_n hx hb dn_Grammar_closeBrace_53 rfl (lv_at hl 1 rfl) ?_
    obtain ⟨hg_3, hf⟩ := dc_g hf
    refine va_iald hx hb hK hP 32 0 rfl rfl hg_3 dn_Grammar_closeBrace_54 ?_
    refine xk_ti (y := ((q_1.2.1 273) (Int32.toNatClampNeg v1))) rfl ?_
    obtain ⟨q_4, hc_5, hf⟩ := dc_b hf
    refine dc_callv (dc_runV (ar := 1) (As := [.int (((q_1.2.1 273) (Int32.toNatClampNeg v1)))]) (rest := []) (ci := 4) (q0 := 3) ⟨hx, hb, hml, hown, hg⟩ hK hN hT hS hA (ct_Checker_braces_Ch l dC dI cI cB cJ cZ cQ N H.size a v (((q_1.2.1 273) (Int32.toNatClampNeg v1))) q_1.2 q_4 hc_5) hP hD rfl rfl wn_6_119 wn_6_120 wn_6_121 wn_1_4 wn_6_122 rfl rfl (by decide +kernel) ⟨Nat.le_of_ble_eq_true rfl, Nat.le_of_ble_eq_true rfl⟩ rfl hl.1 rfl (Nat.le_of_ble_eq_true rfl) dn_Grammar_closeBrace_55 ⟨Nat.le_of_ble_eq_true rfl, Nat.le_of_ble_eq_true rfl⟩) hP hD hS hA (fun _ H locs hw hP hD hS => ?_)
    refine lv_aload_n hx hb dn_Grammar_closeBrace_58 rfl (lv_at hl 0 rfl) ?_
    refine lv_dup hx hb dn_Grammar_closeBrace_59 rfl ?_
    refine va_get (D := (dC, dI)) (ci := 6) (v := .int ((q_4.2.1 275 0))) (C := rn_Grammar) (T := fn_Grammar) (N := 15) hx hb hg in_Grammar hown hK hP 5 rfl rfl 14 (by decide) (hg _ wn_2_14) (fun _ h9 => h9) rfl dn_Grammar_closeBrace_60 ?_
    refine lv_iconst (v := 1) hx hb dn_Grammar_closeBrace_63 (by decide) ?_
    refine lv_isub hx hb dn_Grammar_closeBrace_64 ?_
    refine va_put (D := (dC, dI)) (ci := 6) (v := .int (((q_4.2.1 275 0) - 1))) (ty := .int) (C := rn_Grammar) (T := fn_Grammar) (N := 15) hx hb hg in_Grammar tn_Grammar tk_Grammar nn_Grammar hown hK hP hD hS 5 rfl rfl 14 (by decide) (hg _ wn_2_14) (fun _ h9 => h9) rfl (tk_Grammar 14 (by decide)) rfl rfl (Nat.le_of_ble_eq_true rfl) dn_Grammar_closeBrace_65 (fun H locs hP hD hS => ?_)
    have hP := wC_P_275 hP
    have hD := wC_D_275 hD
    rw [hQQ, ← Option.some.inj hf]
    exact xk_vret (w1 := fun u : Unit => (wC a v cI cB cJ cZ cQ (upI q_4.2 275 (fun _ => ((q_4.2.1 275 0) - 1))))) () hx hb hr hlocks hK hS dn_Grammar_closeBrace_68 hP hD trivial (Nat.le_refl _) (Nat.le_refl _)
  · have hf := (if_pos h).symm.trans hf
    refine lv_aload_n hx hb dn_Grammar_closeBrace_12 rfl (lv_at hl 0 rfl) ?_
    refine va_get (D := (dC, dI)) (ci := 6) (v := .ref ((a 101))) (C := rn_Grammar) (T := fn_Grammar) (N := 15) hx hb hg in_Grammar hown hK hP 5 rfl rfl 0 (by decide) (hg _ wn_2_0) (fun _ h9 => h9) rfl dn_Grammar_closeBrace_13 ?_
    obtain ⟨q_1, hc_2, hf⟩ := dc_b hf
    refine dc_callv (dc_runV (ar := 0) (As := []) (rest := []) (ci := 2) (q0 := 1) ⟨hx, hb, hml, hown, hg⟩ hK hN hT hS hA (ct_Tokens_take_Tk l dC dI cI cB cJ cZ cQ N H.size a v s q_1 hc_2) hP hD rfl rfl wn_4_213 wn_4_149 wn_4_150 wn_1_2 wn_4_151 rfl rfl (by decide +kernel) ⟨Nat.le_of_ble_eq_true rfl, Nat.le_of_ble_eq_true rfl⟩ rfl hl.1 rfl (Nat.le_of_ble_eq_true rfl) dn_Grammar_closeBrace_16 ⟨Nat.le_of_ble_eq_true rfl, Nat.le_of_ble_eq_true rfl⟩) hP hD hS hA (fun _ H locs hw hP hD hS => ?_)
    refine lv_aload_n hx hb dn_Grammar_closeBrace_19 rfl (lv_at hl 0 rfl) ?_
    refine va_get (D := (dC, dI)) (ci := 6) (v := .ref ((a 272))) (C := rn_Grammar) (T := fn_Grammar) (N := 15) hx hb hg in_Grammar hown hK hP 5 rfl rfl 11 (by decide) (hg _ wn_2_11) (fun _ h9 => h9) rfl dn_Grammar_closeBrace_20 ?_
    refine lv_iload_n hx hb dn_Grammar_closeBrace_23 rfl (lv_at hl 1 rfl) ?_
    refine lv_bipush (v := 44) hx hb dn_Grammar_closeBrace_24 (by decide) ?_
    obtain ⟨hg_3, hf⟩ := dc_g hf
    refine va_iast hx hb hK hP hD hS 31 0 rfl rfl hg_3 dn_Grammar_closeBrace_26 (fun H locs hP hD hS => ?_)
    have hP : va_P (dC, dI) xcl ((wC a v cI cB cJ cZ cQ q_1.2).set 31 ((a 272), .inl (cI, 1024, .inl (upd (q_1.2.1 272) (Int32.toNatClampNeg v1) 44)))) H := hP
    have hD : va_D A ((wC a v cI cB cJ cZ cQ q_1.2).set 31 ((a 272), .inl (cI, 1024, .inl (upd (q_1.2.1 272) (Int32.toNatClampNeg v1) 44)))) := hD
    have hP := wC_P_272 hP
    have hD := wC_D_272 hD
    refine lv_aload_n hx hb dn_Grammar_closeBrace_27 rfl (lv_at hl 0 rfl) ?_
    refine lv_bipush (v := 6) hx hb dn_Grammar_closeBrace_28 (by decide) ?_
    refine va_put (D := (dC, dI)) (ci := 6) (v := .int 6) (ty := .int) (C := rn_Grammar) (T := fn_Grammar) (N := 15) hx hb hg in_Grammar tn_Grammar tk_Grammar nn_Grammar hown hK hP hD hS 5 rfl rfl 3 (by decide) (hg _ wn_2_3) (fun _ h9 => h9) rfl (tk_Grammar 3 (by decide)) rfl rfl (Nat.le_of_ble_eq_true rfl) dn_Grammar_closeBrace_30 (fun H locs hP hD hS => ?_)
    have hP := wC_P_264 hP
    have hD := wC_D_264 hD
    refine lv_goto (tgt := 68) hx hb dn_Grammar_closeBrace_33 (by decide) ?_
    rw [hQQ, ← Option.some.inj hf]
    exact xk_vret (w1 := fun u : Unit => (wC a v cI cB cJ cZ cQ (upI (upI q_1.2 272 (upd (q_1.2.1 272) (Int32.toNatClampNeg v1) 44)) 264 (fun _ => 6)))) () hx hb hr hlocks hK hS dn_Grammar_closeBrace_68 hP hD trivial (Nat.le_refl _) (Nat.le_refl _)
set_option maxHeartbeats 8000000 in
set_option maxRecDepth 100000 in
theorem ct_Checker_index_Ch (l : Launch) (dC : Nat → ClassId) (dI : Nat → Nat → Nat) (cI cB cJ cZ cQ : ClassId) (N sz : Nat) (a : Nat → Nat) (v : Nat → Value) (hv_3 : v 3 = .ref (a 111)) (s : ms) (y : (Unit × ms)) (hf : fn_Checker_index_Ch N s = some y) : Met l yn_Checker_index (xw yn_Checker_index bn_Checker_index 2 none) ({ frames := 3, cells := 0, slots := 0, locals := 82 }) (dc_P (dC, dI) xcl (xt cI cB cJ cZ cQ) [.ref ((a 103))] sz (wC a v cI cB cJ cZ cQ s)) (xk_Qv (dC, dI) xcl (xt cI cB cJ cZ cQ) (fun _ : Unit => True) (fun u : Unit => (wC a v cI cB cJ cZ cQ y.2)) (va_A (wC a v cI cB cJ cZ cQ s) sz)) 0 0 (va_A (wC a v cI cB cJ cZ cQ s) sz) := by
  refine dc_of (QA := xk_Qv (dC, dI) xcl (xt cI cB cJ cZ cQ) (fun _ : Unit => True) (fun u : Unit => (wC a v cI cB cJ cZ cQ y.2))) (by decide) (Nat.le_of_ble_eq_true rfl) ?_
  intro p e s0 m below meth c hx hb hml hown hg hr hlocks hin hP hK hN A hA hD hT ls hl
  have hown : s0.vm.findClass rn_Checker = some m.cls := hown
  obtain ⟨H, hH⟩ : ∃ z, z = s0.heap := ⟨_, rfl⟩
  rw [← hH] at hP
  have hS : va_S A s0.heap H [] := by rw [hH]; exact va_S.rf
  suffices kk : ∀ QQ : State → Prop, QQ = MQ below (xk_Qv (dC, dI) xcl (xt cI cB cJ cZ cQ) (fun _ : Unit => True) (fun u : Unit => (wC a v cI cB cJ cZ cQ y.2)) A) [.ref ((a 103))].toArray s0 0 0 A → dcC p l e ({ frames := 3, cells := 0, slots := 0, locals := 82 }) s0 m [.ref ((a 103))].toArray below meth c QQ (dC, dI) A (wC a v cI cB cJ cZ cQ s) 0 2 [(0, .ref ((a 103)))] [] by
    have k9 := kk _ rfl H [] ls hP hD hS hl
    rw [hH] at k9; exact k9
  clear hP hD hS hl hH H ls
  intro QQ hQQ
  intro H locs ls hP hD hS hl
  unfold fn_Checker_index_Ch at hf
  refine lv_aload_n hx hb dn_Checker_index_0 rfl (lv_at hl 0 rfl) ?_
  obtain ⟨q_1, hc_2, hf⟩ := dc_b hf
  refine dc_calli (dc_runV (ar := 0) (As := []) (rest := []) (ci := 4) (q0 := 3) ⟨hx, hb, hml, hown, hg⟩ hK hN hT hS hA (ct_Checker_isOff_Ch l dC dI cI cB cJ cZ cQ N H.size a v s q_1 hc_2) hP hD rfl rfl wn_5_54 wn_4_194 wn_4_195 wn_1_4 wn_4_196 rfl rfl (by decide +kernel) ⟨Nat.le_of_ble_eq_true rfl, Nat.le_of_ble_eq_true rfl⟩ rfl hl.1 rfl (Nat.le_of_ble_eq_true rfl) dn_Checker_index_1 ⟨Nat.le_of_ble_eq_true rfl, Nat.le_of_ble_eq_true rfl⟩) hP hD hS hA (fun r_3 _ H locs hw hP hD hS => ?_)
  have hw : r_3 = q_1.1 := hw
  subst hw
  refine lv_if_eq (tgt := 8) hx hb dn_Checker_index_4 (by decide) (fun h => ?_) (fun h => ?_)
  · have hf := (if_pos h).symm.trans hf
    refine lv_aload_n hx hb dn_Checker_index_8 rfl (lv_at hl 0 rfl) ?_
    obtain ⟨q_4, hc_5, hf⟩ := dc_b hf
    refine dc_calli (dc_runV (ar := 0) (As := []) (rest := []) (ci := 4) (q0 := 3) ⟨hx, hb, hml, hown, hg⟩ hK hN hT hS hA (ct_Checker_pop_Ch l dC dI cI cB cJ cZ cQ N H.size a v q_1.2 q_4 hc_5) hP hD rfl rfl wn_6_65 wn_6_67 sn_Checker_pop wn_1_4 wn_6_68 rfl rfl (by decide +kernel) ⟨Nat.le_of_ble_eq_true rfl, Nat.le_of_ble_eq_true rfl⟩ rfl hl.1 rfl (Nat.le_of_ble_eq_true rfl) dn_Checker_index_9 ⟨Nat.le_of_ble_eq_true rfl, Nat.le_of_ble_eq_true rfl⟩) hP hD hS hA (fun r_6 _ H locs hw hP hD hS => ?_)
    have hw : r_6 = q_4.1 := hw
    subst hw
    refine lv_aload_n hx hb dn_Checker_index_12 rfl (lv_at hl 0 rfl) ?_
    obtain ⟨q_7, hc_8, hf⟩ := dc_b hf
    refine dc_calli (dc_runV (ar := 0) (As := []) (rest := [.int q_4.1]) (ci := 4) (q0 := 3) ⟨hx, hb, hml, hown, hg⟩ hK hN hT hS hA (ct_Checker_pop_Ch l dC dI cI cB cJ cZ cQ N H.size a v q_4.2 q_7 hc_8) hP hD rfl rfl wn_6_65 wn_6_67 sn_Checker_pop wn_1_4 wn_6_68 rfl rfl (by decide +kernel) ⟨Nat.le_of_ble_eq_true rfl, Nat.le_of_ble_eq_true rfl⟩ rfl hl.1 rfl (Nat.le_of_ble_eq_true rfl) dn_Checker_index_13 ⟨Nat.le_of_ble_eq_true rfl, Nat.le_of_ble_eq_true rfl⟩) hP hD hS hA (fun r_9 _ H locs hw hP hD hS => ?_)
    have hw : r_9 = q_7.1 := hw
    subst hw
    refine va_mmax (x := q_4.1) (y := q_7.1) (rest := []) hx hb (by rw [hml]; exact hl.1.symm) hown (hg _ wn_5_132) (hg _ wn_4_99) (hg _ wn_1_19) (hg _ wn_4_100) (Nat.le_of_ble_eq_true rfl) (Nat.le_of_ble_eq_true rfl) (Nat.zero_le _) (Nat.zero_le _) dn_Checker_index_16 ?_
    refine lv_istore_n (lv' := [(1, .int ((if q_4.1 < q_7.1 then q_7.1 else q_4.1))), (0, .ref ((a 103)))]) hx hb dn_Checker_index_19 rfl hl (by decide) rfl (fun ls hl => ?_)
    refine lv_aload_n hx hb dn_Checker_index_20 rfl (lv_at hl 1 rfl) ?_
    refine lv_iload_n hx hb dn_Checker_index_21 rfl (lv_at hl 0 rfl) ?_
    obtain ⟨q_10, hc_11, hf⟩ := dc_b hf
    refine dc_callv (dc_runV (ar := 1) (As := [.int ((if q_4.1 < q_7.1 then q_7.1 else q_4.1))]) (rest := []) (ci := 4) (q0 := 3) ⟨hx, hb, hml, hown, hg⟩ hK hN hT hS hA (ct_Checker_spend_Ch l dC dI cI cB cJ cZ cQ N H.size a v ((if q_4.1 < q_7.1 then q_7.1 else q_4.1)) q_7.2 q_10 hc_11) hP hD rfl rfl wn_6_86 wn_5_228 wn_5_229 wn_1_4 wn_5_230 rfl rfl (by decide +kernel) ⟨Nat.le_of_ble_eq_true rfl, Nat.le_of_ble_eq_true rfl⟩ rfl hl.1 rfl (Nat.le_of_ble_eq_true rfl) dn_Checker_index_22 ⟨Nat.le_of_ble_eq_true rfl, Nat.le_of_ble_eq_true rfl⟩) hP hD hS hA (fun _ H locs hw hP hD hS => ?_)
    refine lv_aload_n hx hb dn_Checker_index_25 rfl (lv_at hl 1 rfl) ?_
    refine lv_iconst (v := 1) hx hb dn_Checker_index_26 (by decide) ?_
    obtain ⟨q_12, hc_13, hf⟩ := dc_b hf
    refine dc_callv (dc_runV (ar := 1) (As := [.int 1]) (rest := []) (ci := 4) (q0 := 3) ⟨hx, hb, hml, hown, hg⟩ hK hN hT hS hA (ct_Checker_push_Ch l dC dI cI cB cJ cZ cQ N H.size a v 1 q_10.2 q_12 hc_13) hP hD rfl rfl wn_6_41 wn_6_43 sn_Checker_push wn_1_4 wn_6_44 rfl rfl (by decide +kernel) ⟨Nat.le_of_ble_eq_true rfl, Nat.le_of_ble_eq_true rfl⟩ rfl hl.1 rfl (Nat.le_of_ble_eq_true rfl) dn_Checker_index_27 ⟨Nat.le_of_ble_eq_true rfl, Nat.le_of_ble_eq_true rfl⟩) hP hD hS hA (fun _ H locs hw hP hD hS => ?_)
    refine lv_aload_n hx hb dn_Checker_index_30 rfl (lv_at hl 1 rfl) ?_
    refine va_get (D := (dC, dI)) (ci := 4) (v := .ref ((a 111))) (C := rn_Checker) (T := fn_Checker) (N := 15) hx hb hg in_Checker hown hK hP 3 rfl rfl 2 (by decide) (hg _ wn_1_128) (fun _ h9 => h9) (congrArg some hv_3) dn_Checker_index_31 ?_
    refine lv_bipush (v := 91) hx hb dn_Checker_index_34 (by decide) ?_
    refine lv_iload_n hx hb dn_Checker_index_36 rfl (lv_at hl 0 rfl) ?_
    obtain ⟨q_14, hc_15, hf⟩ := dc_b hf
    refine dc_calli (dc_runV (ar := 2) (As := [.int 91, .int ((if q_4.1 < q_7.1 then q_7.1 else q_4.1))]) (rest := []) (ci := 12) (q0 := 11) ⟨hx, hb, hml, hown, hg⟩ hK hN hT hS hA (ct_Code_emit_Ks l dC dI cI cB cJ cZ cQ N H.size a v 91 ((if q_4.1 < q_7.1 then q_7.1 else q_4.1)) q_12.2 q_14 hc_15) hP hD rfl rfl wn_6_45 wn_5_198 wn_5_199 wn_1_12 wn_5_200 rfl rfl (by decide +kernel) ⟨Nat.le_of_ble_eq_true rfl, Nat.le_of_ble_eq_true rfl⟩ rfl hl.1 rfl (Nat.le_of_ble_eq_true rfl) dn_Checker_index_37 ⟨Nat.le_of_ble_eq_true rfl, Nat.le_of_ble_eq_true rfl⟩) hP hD hS hA (fun r_16 _ H locs hw hP hD hS => ?_)
    have hw : r_16 = q_14.1 := hw
    subst hw
    refine lv_pop hx hb dn_Checker_index_40 rfl ?_
    rw [hQQ, ← Option.some.inj hf]
    exact xk_vret (w1 := fun u : Unit => (wC a v cI cB cJ cZ cQ q_14.2)) () hx hb hr hlocks hK hS dn_Checker_index_41 hP hD trivial (Nat.le_refl _) (Nat.le_refl _)
  · have hf := (if_neg h).symm.trans hf
    rw [hQQ, ← Option.some.inj hf]
    exact xk_vret (w1 := fun u : Unit => (wC a v cI cB cJ cZ cQ q_1.2)) () hx hb hr hlocks hK hS dn_Checker_index_7 hP hD trivial (Nat.le_refl _) (Nat.le_refl _)
set_option maxHeartbeats 8000000 in
set_option maxRecDepth 100000 in
theorem ct_Checker_repeat_Ch (l : Launch) (dC : Nat → ClassId) (dI : Nat → Nat → Nat) (cI cB cJ cZ cQ : ClassId) (N sz : Nat) (a : Nat → Nat) (v : Nat → Value) (hv_3 : v 3 = .ref (a 111)) (v1 : Int32) (v2 : Int32) (s : ms) (y : (Unit × ms)) (hf : fn_Checker_repeat_Ch N v1 v2 s = some y) : Met l yn_Checker_repeat (xw yn_Checker_repeat bn_Checker_repeat 5 none) ({ frames := 1, cells := 0, slots := 0, locals := 22 }) (dc_P (dC, dI) xcl (xt cI cB cJ cZ cQ) [.ref ((a 103)), .int v1, .int v2] sz (wC a v cI cB cJ cZ cQ s)) (xk_Qv (dC, dI) xcl (xt cI cB cJ cZ cQ) (fun _ : Unit => True) (fun u : Unit => (wC a v cI cB cJ cZ cQ y.2)) (va_A (wC a v cI cB cJ cZ cQ s) sz)) 0 0 (va_A (wC a v cI cB cJ cZ cQ s) sz) := by
  refine dc_of (QA := xk_Qv (dC, dI) xcl (xt cI cB cJ cZ cQ) (fun _ : Unit => True) (fun u : Unit => (wC a v cI cB cJ cZ cQ y.2))) (by decide) (Nat.le_of_ble_eq_true rfl) ?_
  intro p e s0 m below meth c hx hb hml hown hg hr hlocks hin hP hK hN A hA hD hT ls hl
  have hown : s0.vm.findClass rn_Checker = some m.cls := hown
  obtain ⟨H, hH⟩ : ∃ z, z = s0.heap := ⟨_, rfl⟩
  rw [← hH] at hP
  have hS : va_S A s0.heap H [] := by rw [hH]; exact va_S.rf
  suffices kk : ∀ QQ : State → Prop, QQ = MQ below (xk_Qv (dC, dI) xcl (xt cI cB cJ cZ cQ) (fun _ : Unit => True) (fun u : Unit => (wC a v cI cB cJ cZ cQ y.2)) A) [.ref ((a 103)), .int v1, .int v2].toArray s0 0 0 A → dcC p l e ({ frames := 1, cells := 0, slots := 0, locals := 22 }) s0 m [.ref ((a 103)), .int v1, .int v2].toArray below meth c QQ (dC, dI) A (wC a v cI cB cJ cZ cQ s) 0 5 [(0, .ref ((a 103))), (1, .int v1), (2, .int v2)] [] by
    have k9 := kk _ rfl H [] ls hP hD hS hl
    rw [hH] at k9; exact k9
  clear hP hD hS hl hH H ls
  intro QQ hQQ
  have bl_31 : ∀ (x2 : Int32) (s : ms), bk_Checker_repeat_Ch_31 N x2 s = some y → dcC p l e ({ frames := 1, cells := 0, slots := 0, locals := 22 }) s0 m [.ref ((a 103)), .int v1, .int v2].toArray below meth c QQ (dC, dI) A (wC a v cI cB cJ cZ cQ s) 31 5 [(0, .ref ((a 103))), (2, .int x2)] [] := by
    intro x2 s hf H locs ls hP hD hS hl
    unfold bk_Checker_repeat_Ch_31 at hf
    refine lv_aload_n hx hb dn_Checker_repeat_31 rfl (lv_at hl 0 rfl) ?_
    refine lv_bipush (v := 30) hx hb dn_Checker_repeat_32 (by decide) ?_
    refine lv_iload_n hx hb dn_Checker_repeat_34 rfl (lv_at hl 1 rfl) ?_
    obtain ⟨q_1, hc_2, hf⟩ := dc_b hf
    refine dc_callv (dc_runV (ar := 2) (As := [.int 30, .int x2]) (rest := []) (ci := 4) (q0 := 3) ⟨hx, hb, hml, hown, hg⟩ hK hN hT hS hA (ct_Checker_refuse_Ch l dC dI cI cB cJ cZ cQ N H.size a v 30 x2 s q_1 hc_2) hP hD rfl rfl wn_6_56 wn_4_202 wn_4_203 wn_1_4 wn_4_204 rfl rfl (by decide +kernel) ⟨Nat.le_of_ble_eq_true rfl, Nat.le_of_ble_eq_true rfl⟩ rfl hl.1 rfl (Nat.le_of_ble_eq_true rfl) dn_Checker_repeat_35 ⟨Nat.le_of_ble_eq_true rfl, Nat.le_of_ble_eq_true rfl⟩) hP hD hS hA (fun _ H locs hw hP hD hS => ?_)
    rw [hQQ, ← Option.some.inj hf]
    exact xk_vret (w1 := fun u : Unit => (wC a v cI cB cJ cZ cQ q_1.2)) () hx hb hr hlocks hK hS dn_Checker_repeat_38 hP hD trivial (Nat.le_refl _) (Nat.le_refl _)
  intro H locs ls hP hD hS hl
  unfold fn_Checker_repeat_Ch at hf
  refine lv_aload_n hx hb dn_Checker_repeat_0 rfl (lv_at hl 0 rfl) ?_
  obtain ⟨q_1, hc_2, hf⟩ := dc_b hf
  refine dc_calli (dc_runV (ar := 0) (As := []) (rest := []) (ci := 4) (q0 := 3) ⟨hx, hb, hml, hown, hg⟩ hK hN hT hS hA (ct_Checker_isOff_Ch l dC dI cI cB cJ cZ cQ N H.size a v s q_1 hc_2) hP hD rfl rfl wn_5_54 wn_4_194 wn_4_195 wn_1_4 wn_4_196 rfl rfl (by decide +kernel) ⟨Nat.le_of_ble_eq_true rfl, Nat.le_of_ble_eq_true rfl⟩ rfl hl.1 rfl (Nat.le_of_ble_eq_true rfl) dn_Checker_repeat_1 ⟨Nat.le_of_ble_eq_true rfl, Nat.le_of_ble_eq_true rfl⟩) hP hD hS hA (fun r_3 _ H locs hw hP hD hS => ?_)
  have hw : r_3 = q_1.1 := hw
  subst hw
  refine lv_if_eq (tgt := 8) hx hb dn_Checker_repeat_4 (by decide) (fun h => ?_) (fun h => ?_)
  · have hf := (if_pos h).symm.trans hf
    refine lv_aload_n hx hb dn_Checker_repeat_8 rfl (lv_at hl 0 rfl) ?_
    obtain ⟨q_4, hc_5, hf⟩ := dc_b hf
    refine dc_calli (dc_runV (ar := 0) (As := []) (rest := []) (ci := 4) (q0 := 3) ⟨hx, hb, hml, hown, hg⟩ hK hN hT hS hA (ct_Checker_pop_Ch l dC dI cI cB cJ cZ cQ N H.size a v q_1.2 q_4 hc_5) hP hD rfl rfl wn_6_65 wn_6_67 sn_Checker_pop wn_1_4 wn_6_68 rfl rfl (by decide +kernel) ⟨Nat.le_of_ble_eq_true rfl, Nat.le_of_ble_eq_true rfl⟩ rfl hl.1 rfl (Nat.le_of_ble_eq_true rfl) dn_Checker_repeat_9 ⟨Nat.le_of_ble_eq_true rfl, Nat.le_of_ble_eq_true rfl⟩) hP hD hS hA (fun r_6 _ H locs hw hP hD hS => ?_)
    have hw : r_6 = q_4.1 := hw
    subst hw
    refine lv_istore_n (lv' := [(3, .int q_4.1), (0, .ref ((a 103))), (1, .int v1), (2, .int v2)]) hx hb dn_Checker_repeat_12 rfl hl (by decide) rfl (fun ls hl => ?_)
    refine lv_iload_n hx hb dn_Checker_repeat_13 rfl (lv_at hl 0 rfl) ?_
    refine lv_iload_n hx hb dn_Checker_repeat_14 rfl (lv_at hl 2 rfl) ?_
    refine lv_imul hx hb dn_Checker_repeat_15 ?_
    refine lv_istore (lv' := [(4, .int ((q_4.1 * v1))), (3, .int q_4.1), (0, .ref ((a 103))), (1, .int v1), (2, .int v2)]) hx hb dn_Checker_repeat_16 hl (by decide) rfl (fun ls hl => ?_)
    refine lv_iload hx hb dn_Checker_repeat_18 (lv_at hl 0 rfl) ?_
    refine lv_iconst (v := 1) hx hb dn_Checker_repeat_20 (by decide) ?_
    refine lv_icmp_lt (tgt := 31) hx hb dn_Checker_repeat_21 (by decide) (fun h => ?_) (fun h => ?_)
    · have hf := (if_pos h).symm.trans hf
      exact bl_31 v2 q_4.2 hf H locs ls hP hD hS (lv_sub hl [2, 4] rfl)
    · have hf := (if_neg h).symm.trans hf
      refine lv_iload hx hb dn_Checker_repeat_24 (lv_at hl 0 rfl) ?_
      refine lv_bipush (v := 64) hx hb dn_Checker_repeat_26 (by decide) ?_
      refine lv_icmp_le (tgt := 39) hx hb dn_Checker_repeat_28 (by decide) (fun h => ?_) (fun h => ?_)
      · have hf := (if_pos h).symm.trans hf
        refine lv_aload_n hx hb dn_Checker_repeat_39 rfl (lv_at hl 2 rfl) ?_
        refine lv_iload hx hb dn_Checker_repeat_40 (lv_at hl 0 rfl) ?_
        obtain ⟨q_7, hc_8, hf⟩ := dc_b hf
        refine dc_callv (dc_runV (ar := 1) (As := [.int ((q_4.1 * v1))]) (rest := []) (ci := 4) (q0 := 3) ⟨hx, hb, hml, hown, hg⟩ hK hN hT hS hA (ct_Checker_push_Ch l dC dI cI cB cJ cZ cQ N H.size a v ((q_4.1 * v1)) q_4.2 q_7 hc_8) hP hD rfl rfl wn_6_41 wn_6_43 sn_Checker_push wn_1_4 wn_6_44 rfl rfl (by decide +kernel) ⟨Nat.le_of_ble_eq_true rfl, Nat.le_of_ble_eq_true rfl⟩ rfl hl.1 rfl (Nat.le_of_ble_eq_true rfl) dn_Checker_repeat_42 ⟨Nat.le_of_ble_eq_true rfl, Nat.le_of_ble_eq_true rfl⟩) hP hD hS hA (fun _ H locs hw hP hD hS => ?_)
        refine lv_aload_n hx hb dn_Checker_repeat_45 rfl (lv_at hl 2 rfl) ?_
        refine va_get (D := (dC, dI)) (ci := 4) (v := .ref ((a 111))) (C := rn_Checker) (T := fn_Checker) (N := 15) hx hb hg in_Checker hown hK hP 3 rfl rfl 2 (by decide) (hg _ wn_1_128) (fun _ h9 => h9) (congrArg some hv_3) dn_Checker_repeat_46 ?_
        refine lv_sipush (v := 379) hx hb dn_Checker_repeat_49 (by decide) ?_
        refine lv_iload_n hx hb dn_Checker_repeat_52 rfl (lv_at hl 3 rfl) ?_
        refine lv_bipush (v := 8) hx hb dn_Checker_repeat_53 (by decide) ?_
        refine lv_ishl hx hb dn_Checker_repeat_55 ?_
        refine lv_iload_n hx hb dn_Checker_repeat_56 rfl (lv_at hl 1 rfl) ?_
        refine lv_ior hx hb dn_Checker_repeat_57 ?_
        obtain ⟨q_9, hc_10, hf⟩ := dc_b hf
        refine dc_calli (dc_runV (ar := 2) (As := [.int 379, .int ((((v1 : Int32) <<< (8 &&& 31)) ||| q_4.1))]) (rest := []) (ci := 12) (q0 := 11) ⟨hx, hb, hml, hown, hg⟩ hK hN hT hS hA (ct_Code_emit_Ks l dC dI cI cB cJ cZ cQ N H.size a v 379 ((((v1 : Int32) <<< (8 &&& 31)) ||| q_4.1)) q_7.2 q_9 hc_10) hP hD rfl rfl wn_6_45 wn_5_198 wn_5_199 wn_1_12 wn_5_200 rfl rfl (by decide +kernel) ⟨Nat.le_of_ble_eq_true rfl, Nat.le_of_ble_eq_true rfl⟩ rfl hl.1 rfl (Nat.le_of_ble_eq_true rfl) dn_Checker_repeat_58 ⟨Nat.le_of_ble_eq_true rfl, Nat.le_of_ble_eq_true rfl⟩) hP hD hS hA (fun r_11 _ H locs hw hP hD hS => ?_)
        have hw : r_11 = q_9.1 := hw
        subst hw
        refine lv_pop hx hb dn_Checker_repeat_61 rfl ?_
        rw [hQQ, ← Option.some.inj hf]
        exact xk_vret (w1 := fun u : Unit => (wC a v cI cB cJ cZ cQ q_9.2)) () hx hb hr hlocks hK hS dn_Checker_repeat_62 hP hD trivial (Nat.le_refl _) (Nat.le_refl _)
      · have hf := (if_neg h).symm.trans hf
        exact bl_31 v2 q_4.2 hf H locs ls hP hD hS (lv_sub hl [2, 4] rfl)
  · have hf := (if_neg h).symm.trans hf
    rw [hQQ, ← Option.some.inj hf]
    exact xk_vret (w1 := fun u : Unit => (wC a v cI cB cJ cZ cQ q_1.2)) () hx hb hr hlocks hK hS dn_Checker_repeat_7 hP hD trivial (Nat.le_refl _) (Nat.le_refl _)
set_option maxHeartbeats 8000000 in
set_option maxRecDepth 100000 in
theorem ct_Grammar_close_Gr (l : Launch) (dC : Nat → ClassId) (dI : Nat → Nat → Nat) (cI cB cJ cZ cQ : ClassId) (N sz : Nat) (a : Nat → Nat) (v : Nat → Value) (hv_3 : v 3 = .ref (a 111)) (v1 : Int32) (s : ms) (y : (Unit × ms)) (hf : fn_Grammar_close_Gr N v1 s = some y) : Met l yn_Grammar_close (xw yn_Grammar_close bn_Grammar_close 2 none) ({ frames := 4, cells := 0, slots := 0, locals := 103 }) (dc_P (dC, dI) xcl (xt cI cB cJ cZ cQ) [.ref ((a 105)), .int v1] sz (wC a v cI cB cJ cZ cQ s)) (xk_Qv (dC, dI) xcl (xt cI cB cJ cZ cQ) (fun _ : Unit => True) (fun u : Unit => (wC a v cI cB cJ cZ cQ y.2)) (va_A (wC a v cI cB cJ cZ cQ s) sz)) 0 0 (va_A (wC a v cI cB cJ cZ cQ s) sz) := by
  refine dc_of (QA := xk_Qv (dC, dI) xcl (xt cI cB cJ cZ cQ) (fun _ : Unit => True) (fun u : Unit => (wC a v cI cB cJ cZ cQ y.2))) (by decide) (Nat.le_of_ble_eq_true rfl) ?_
  intro p e s0 m below meth c hx hb hml hown hg hr hlocks hin hP hK hN A hA hD hT ls hl
  have hown : s0.vm.findClass rn_Grammar = some m.cls := hown
  obtain ⟨H, hH⟩ : ∃ z, z = s0.heap := ⟨_, rfl⟩
  rw [← hH] at hP
  have hS : va_S A s0.heap H [] := by rw [hH]; exact va_S.rf
  suffices kk : ∀ QQ : State → Prop, QQ = MQ below (xk_Qv (dC, dI) xcl (xt cI cB cJ cZ cQ) (fun _ : Unit => True) (fun u : Unit => (wC a v cI cB cJ cZ cQ y.2)) A) [.ref ((a 105)), .int v1].toArray s0 0 0 A → dcC p l e ({ frames := 4, cells := 0, slots := 0, locals := 103 }) s0 m [.ref ((a 105)), .int v1].toArray below meth c QQ (dC, dI) A (wC a v cI cB cJ cZ cQ s) 0 2 [(0, .ref ((a 105))), (1, .int v1)] [] by
    have k9 := kk _ rfl H [] ls hP hD hS hl
    rw [hH] at k9; exact k9
  clear hP hD hS hl hH H ls
  intro QQ hQQ
  intro H locs ls hP hD hS hl
  unfold fn_Grammar_close_Gr at hf
  refine lv_aload_n hx hb dn_Grammar_close_0 rfl (lv_at hl 0 rfl) ?_
  refine va_get (D := (dC, dI)) (ci := 6) (v := .ref ((a 272))) (C := rn_Grammar) (T := fn_Grammar) (N := 15) hx hb hg in_Grammar hown hK hP 5 rfl rfl 11 (by decide) (hg _ wn_2_11) (fun _ h9 => h9) rfl dn_Grammar_close_1 ?_
  refine lv_iload_n hx hb dn_Grammar_close_4 rfl (lv_at hl 1 rfl) ?_
  obtain ⟨hg_1, hf⟩ := dc_g hf
  refine va_iald hx hb hK hP 31 0 rfl rfl hg_1 dn_Grammar_close_5 ?_
  refine xk_ti (y := ((s.1 272) (Int32.toNatClampNeg v1))) rfl ?_
  by_cases h_0 : ((s.1 272) (Int32.toNatClampNeg v1)) = 40
  · have hf := (if_pos h_0).symm.trans hf
    refine xk_ti (y := 40) h_0 ?_
    refine lv_lookup (off := 76) (tgt := 82) hx hb dn_Grammar_close_6 (by decide) (by decide) (by decide) ?_
    refine lv_aload_n hx hb dn_Grammar_close_82 rfl (lv_at hl 0 rfl) ?_
    refine va_get (D := (dC, dI)) (ci := 6) (v := .ref ((a 101))) (C := rn_Grammar) (T := fn_Grammar) (N := 15) hx hb hg in_Grammar hown hK hP 5 rfl rfl 0 (by decide) (hg _ wn_2_0) (fun _ h9 => h9) rfl dn_Grammar_close_83 ?_
    refine lv_bipush (v := 41) hx hb dn_Grammar_close_86 (by decide) ?_
    obtain ⟨q_2, hc_3, hf⟩ := dc_b hf
    refine dc_callv (dc_runV (ar := 1) (As := [.int 41]) (rest := []) (ci := 2) (q0 := 1) ⟨hx, hb, hml, hown, hg⟩ hK hN hT hS hA (ct_Tokens_shut_Tk l dC dI cI cB cJ cZ cQ N H.size a v 41 s q_2 hc_3) hP hD rfl rfl wn_4_226 wn_4_227 wn_4_228 wn_1_2 wn_4_229 rfl rfl (by decide +kernel) ⟨Nat.le_of_ble_eq_true rfl, Nat.le_of_ble_eq_true rfl⟩ rfl hl.1 rfl (Nat.le_of_ble_eq_true rfl) dn_Grammar_close_88 ⟨Nat.le_of_ble_eq_true rfl, Nat.le_of_ble_eq_true rfl⟩) hP hD hS hA (fun _ H locs hw hP hD hS => ?_)
    refine lv_aload_n hx hb dn_Grammar_close_91 rfl (lv_at hl 0 rfl) ?_
    refine lv_dup hx hb dn_Grammar_close_92 rfl ?_
    refine va_get (D := (dC, dI)) (ci := 6) (v := .int ((q_2.2.1 275 0))) (C := rn_Grammar) (T := fn_Grammar) (N := 15) hx hb hg in_Grammar hown hK hP 5 rfl rfl 14 (by decide) (hg _ wn_2_14) (fun _ h9 => h9) rfl dn_Grammar_close_93 ?_
    refine lv_iconst (v := 1) hx hb dn_Grammar_close_96 (by decide) ?_
    refine lv_isub hx hb dn_Grammar_close_97 ?_
    refine va_put (D := (dC, dI)) (ci := 6) (v := .int (((q_2.2.1 275 0) - 1))) (ty := .int) (C := rn_Grammar) (T := fn_Grammar) (N := 15) hx hb hg in_Grammar tn_Grammar tk_Grammar nn_Grammar hown hK hP hD hS 5 rfl rfl 14 (by decide) (hg _ wn_2_14) (fun _ h9 => h9) rfl (tk_Grammar 14 (by decide)) rfl rfl (Nat.le_of_ble_eq_true rfl) dn_Grammar_close_98 (fun H locs hP hD hS => ?_)
    have hP := wC_P_275 hP
    have hD := wC_D_275 hD
    refine lv_goto (tgt := 203) hx hb dn_Grammar_close_101 (by decide) ?_
    rw [hQQ, ← Option.some.inj hf]
    exact xk_vret (w1 := fun u : Unit => (wC a v cI cB cJ cZ cQ (upI q_2.2 275 (fun _ => ((q_2.2.1 275 0) - 1))))) () hx hb hr hlocks hK hS dn_Grammar_close_203 hP hD trivial (Nat.le_refl _) (Nat.le_refl _)
  have hf := (if_neg h_0).symm.trans hf
  by_cases h_1 : ((s.1 272) (Int32.toNatClampNeg v1)) = 44
  · have hf := (if_pos h_1).symm.trans hf
    refine xk_ti (y := 44) h_1 ?_
    refine lv_lookup (off := 177) (tgt := 183) hx hb dn_Grammar_close_6 (by decide) (by decide) (by decide) ?_
    refine lv_aload_n hx hb dn_Grammar_close_183 rfl (lv_at hl 0 rfl) ?_
    refine va_get (D := (dC, dI)) (ci := 6) (v := .ref ((a 103))) (C := rn_Grammar) (T := fn_Grammar) (N := 15) hx hb hg in_Grammar hown hK hP 5 rfl rfl 1 (by decide) (hg _ wn_2_1) (fun _ h9 => h9) rfl dn_Grammar_close_184 ?_
    obtain ⟨q_2, hc_3, hf⟩ := dc_b hf
    refine dc_callv (dc_runV (ar := 0) (As := []) (rest := []) (ci := 4) (q0 := 3) ⟨hx, hb, hml, hown, hg⟩ hK hN hT hS hA (ct_Checker_join_Ch l dC dI cI cB cJ cZ cQ N H.size a v hv_3 s q_2 hc_3) hP hD rfl rfl wn_6_111 wn_6_112 wn_6_113 wn_1_4 wn_6_114 rfl rfl (by decide +kernel) ⟨Nat.le_of_ble_eq_true rfl, Nat.le_of_ble_eq_true rfl⟩ rfl hl.1 rfl (Nat.le_of_ble_eq_true rfl) dn_Grammar_close_187 ⟨Nat.le_of_ble_eq_true rfl, Nat.le_of_ble_eq_true rfl⟩) hP hD hS hA (fun _ H locs hw hP hD hS => ?_)
    refine lv_aload_n hx hb dn_Grammar_close_190 rfl (lv_at hl 0 rfl) ?_
    refine lv_iload_n hx hb dn_Grammar_close_191 rfl (lv_at hl 1 rfl) ?_
    obtain ⟨q_4, hc_5, hf⟩ := dc_b hf
    refine dc_callv (dc_runV (ar := 1) (As := [.int v1]) (rest := []) (ci := 6) (q0 := 5) ⟨hx, hb, hml, hown, hg⟩ hK hN hT hS hA (ct_Grammar_closeBrace_Gr l dC dI cI cB cJ cZ cQ N H.size a v v1 q_2.2 q_4 hc_5) hP hD rfl rfl wn_6_115 wn_6_117 sn_Grammar_closeBrace wn_1_5 wn_6_118 rfl rfl (by decide +kernel) ⟨Nat.le_of_ble_eq_true rfl, Nat.le_of_ble_eq_true rfl⟩ rfl hl.1 rfl (Nat.le_of_ble_eq_true rfl) dn_Grammar_close_192 ⟨Nat.le_of_ble_eq_true rfl, Nat.le_of_ble_eq_true rfl⟩) hP hD hS hA (fun _ H locs hw hP hD hS => ?_)
    refine lv_goto (tgt := 203) hx hb dn_Grammar_close_195 (by decide) ?_
    rw [hQQ, ← Option.some.inj hf]
    exact xk_vret (w1 := fun u : Unit => (wC a v cI cB cJ cZ cQ q_4.2)) () hx hb hr hlocks hK hS dn_Grammar_close_203 hP hD trivial (Nat.le_refl _) (Nat.le_refl _)
  have hf := (if_neg h_1).symm.trans hf
  by_cases h_2 : ((s.1 272) (Int32.toNatClampNeg v1)) = 63
  · have hf := (if_pos h_2).symm.trans hf
    refine xk_ti (y := 63) h_2 ?_
    refine lv_lookup (off := 50) (tgt := 56) hx hb dn_Grammar_close_6 (by decide) (by decide) (by decide) ?_
    refine lv_aload_n hx hb dn_Grammar_close_56 rfl (lv_at hl 0 rfl) ?_
    refine va_get (D := (dC, dI)) (ci := 6) (v := .ref ((a 101))) (C := rn_Grammar) (T := fn_Grammar) (N := 15) hx hb hg in_Grammar hown hK hP 5 rfl rfl 0 (by decide) (hg _ wn_2_0) (fun _ h9 => h9) rfl dn_Grammar_close_57 ?_
    refine lv_bipush (v := 58) hx hb dn_Grammar_close_60 (by decide) ?_
    obtain ⟨q_2, hc_3, hf⟩ := dc_b hf
    refine dc_callv (dc_runV (ar := 1) (As := [.int 58]) (rest := []) (ci := 2) (q0 := 1) ⟨hx, hb, hml, hown, hg⟩ hK hN hT hS hA (ct_Tokens_need_Tk l dC dI cI cB cJ cZ cQ N H.size a v 58 s q_2 hc_3) hP hD rfl rfl wn_4_173 wn_4_174 wn_4_175 wn_1_2 wn_4_176 rfl rfl (by decide +kernel) ⟨Nat.le_of_ble_eq_true rfl, Nat.le_of_ble_eq_true rfl⟩ rfl hl.1 rfl (Nat.le_of_ble_eq_true rfl) dn_Grammar_close_62 ⟨Nat.le_of_ble_eq_true rfl, Nat.le_of_ble_eq_true rfl⟩) hP hD hS hA (fun _ H locs hw hP hD hS => ?_)
    refine lv_aload_n hx hb dn_Grammar_close_65 rfl (lv_at hl 0 rfl) ?_
    refine va_get (D := (dC, dI)) (ci := 6) (v := .ref ((a 272))) (C := rn_Grammar) (T := fn_Grammar) (N := 15) hx hb hg in_Grammar hown hK hP 5 rfl rfl 11 (by decide) (hg _ wn_2_11) (fun _ h9 => h9) rfl dn_Grammar_close_66 ?_
    refine lv_iload_n hx hb dn_Grammar_close_69 rfl (lv_at hl 1 rfl) ?_
    refine lv_bipush (v := 58) hx hb dn_Grammar_close_70 (by decide) ?_
    obtain ⟨hg_4, hf⟩ := dc_g hf
    refine va_iast hx hb hK hP hD hS 31 0 rfl rfl hg_4 dn_Grammar_close_72 (fun H locs hP hD hS => ?_)
    have hP : va_P (dC, dI) xcl ((wC a v cI cB cJ cZ cQ q_2.2).set 31 ((a 272), .inl (cI, 1024, .inl (upd (q_2.2.1 272) (Int32.toNatClampNeg v1) 58)))) H := hP
    have hD : va_D A ((wC a v cI cB cJ cZ cQ q_2.2).set 31 ((a 272), .inl (cI, 1024, .inl (upd (q_2.2.1 272) (Int32.toNatClampNeg v1) 58)))) := hD
    have hP := wC_P_272 hP
    have hD := wC_D_272 hD
    refine lv_aload_n hx hb dn_Grammar_close_73 rfl (lv_at hl 0 rfl) ?_
    refine lv_bipush (v := 6) hx hb dn_Grammar_close_74 (by decide) ?_
    refine va_put (D := (dC, dI)) (ci := 6) (v := .int 6) (ty := .int) (C := rn_Grammar) (T := fn_Grammar) (N := 15) hx hb hg in_Grammar tn_Grammar tk_Grammar nn_Grammar hown hK hP hD hS 5 rfl rfl 3 (by decide) (hg _ wn_2_3) (fun _ h9 => h9) rfl (tk_Grammar 3 (by decide)) rfl rfl (Nat.le_of_ble_eq_true rfl) dn_Grammar_close_76 (fun H locs hP hD hS => ?_)
    have hP := wC_P_264 hP
    have hD := wC_D_264 hD
    refine lv_goto (tgt := 203) hx hb dn_Grammar_close_79 (by decide) ?_
    rw [hQQ, ← Option.some.inj hf]
    exact xk_vret (w1 := fun u : Unit => (wC a v cI cB cJ cZ cQ (upI (upI q_2.2 272 (upd (q_2.2.1 272) (Int32.toNatClampNeg v1) 58)) 264 (fun _ => 6)))) () hx hb hr hlocks hK hS dn_Grammar_close_203 hP hD trivial (Nat.le_refl _) (Nat.le_refl _)
  have hf := (if_neg h_2).symm.trans hf
  by_cases h_3 : ((s.1 272) (Int32.toNatClampNeg v1)) = 91
  · have hf := (if_pos h_3).symm.trans hf
    refine xk_ti (y := 91) h_3 ?_
    refine lv_lookup (off := 98) (tgt := 104) hx hb dn_Grammar_close_6 (by decide) (by decide) (by decide) ?_
    refine lv_aload_n hx hb dn_Grammar_close_104 rfl (lv_at hl 0 rfl) ?_
    refine va_get (D := (dC, dI)) (ci := 6) (v := .ref ((a 101))) (C := rn_Grammar) (T := fn_Grammar) (N := 15) hx hb hg in_Grammar hown hK hP 5 rfl rfl 0 (by decide) (hg _ wn_2_0) (fun _ h9 => h9) rfl dn_Grammar_close_105 ?_
    refine lv_bipush (v := 93) hx hb dn_Grammar_close_108 (by decide) ?_
    obtain ⟨q_2, hc_3, hf⟩ := dc_b hf
    refine dc_callv (dc_runV (ar := 1) (As := [.int 93]) (rest := []) (ci := 2) (q0 := 1) ⟨hx, hb, hml, hown, hg⟩ hK hN hT hS hA (ct_Tokens_shut_Tk l dC dI cI cB cJ cZ cQ N H.size a v 93 s q_2 hc_3) hP hD rfl rfl wn_4_226 wn_4_227 wn_4_228 wn_1_2 wn_4_229 rfl rfl (by decide +kernel) ⟨Nat.le_of_ble_eq_true rfl, Nat.le_of_ble_eq_true rfl⟩ rfl hl.1 rfl (Nat.le_of_ble_eq_true rfl) dn_Grammar_close_110 ⟨Nat.le_of_ble_eq_true rfl, Nat.le_of_ble_eq_true rfl⟩) hP hD hS hA (fun _ H locs hw hP hD hS => ?_)
    refine lv_aload_n hx hb dn_Grammar_close_113 rfl (lv_at hl 0 rfl) ?_
    refine va_get (D := (dC, dI)) (ci := 6) (v := .ref ((a 103))) (C := rn_Grammar) (T := fn_Grammar) (N := 15) hx hb hg in_Grammar hown hK hP 5 rfl rfl 1 (by decide) (hg _ wn_2_1) (fun _ h9 => h9) rfl dn_Grammar_close_114 ?_
    obtain ⟨q_4, hc_5, hf⟩ := dc_b hf
    refine dc_callv (dc_runV (ar := 0) (As := []) (rest := []) (ci := 4) (q0 := 3) ⟨hx, hb, hml, hown, hg⟩ hK hN hT hS hA (ct_Checker_index_Ch l dC dI cI cB cJ cZ cQ N H.size a v hv_3 q_2.2 q_4 hc_5) hP hD rfl rfl wn_6_103 wn_6_104 wn_6_105 wn_1_4 wn_6_106 rfl rfl (by decide +kernel) ⟨Nat.le_of_ble_eq_true rfl, Nat.le_of_ble_eq_true rfl⟩ rfl hl.1 rfl (Nat.le_of_ble_eq_true rfl) dn_Grammar_close_117 ⟨Nat.le_of_ble_eq_true rfl, Nat.le_of_ble_eq_true rfl⟩) hP hD hS hA (fun _ H locs hw hP hD hS => ?_)
    refine lv_aload_n hx hb dn_Grammar_close_120 rfl (lv_at hl 0 rfl) ?_
    refine lv_dup hx hb dn_Grammar_close_121 rfl ?_
    refine va_get (D := (dC, dI)) (ci := 6) (v := .int ((q_4.2.1 275 0))) (C := rn_Grammar) (T := fn_Grammar) (N := 15) hx hb hg in_Grammar hown hK hP 5 rfl rfl 14 (by decide) (hg _ wn_2_14) (fun _ h9 => h9) rfl dn_Grammar_close_122 ?_
    refine lv_iconst (v := 1) hx hb dn_Grammar_close_125 (by decide) ?_
    refine lv_isub hx hb dn_Grammar_close_126 ?_
    refine va_put (D := (dC, dI)) (ci := 6) (v := .int (((q_4.2.1 275 0) - 1))) (ty := .int) (C := rn_Grammar) (T := fn_Grammar) (N := 15) hx hb hg in_Grammar tn_Grammar tk_Grammar nn_Grammar hown hK hP hD hS 5 rfl rfl 14 (by decide) (hg _ wn_2_14) (fun _ h9 => h9) rfl (tk_Grammar 14 (by decide)) rfl rfl (Nat.le_of_ble_eq_true rfl) dn_Grammar_close_127 (fun H locs hP hD hS => ?_)
    have hP := wC_P_275 hP
    have hD := wC_D_275 hD
    refine lv_goto (tgt := 203) hx hb dn_Grammar_close_130 (by decide) ?_
    rw [hQQ, ← Option.some.inj hf]
    exact xk_vret (w1 := fun u : Unit => (wC a v cI cB cJ cZ cQ (upI q_4.2 275 (fun _ => ((q_4.2.1 275 0) - 1))))) () hx hb hr hlocks hK hS dn_Grammar_close_203 hP hD trivial (Nat.le_refl _) (Nat.le_refl _)
  have hf := (if_neg h_3).symm.trans hf
  by_cases h_4 : ((s.1 272) (Int32.toNatClampNeg v1)) = 202
  · have hf := (if_pos h_4).symm.trans hf
    refine xk_ti (y := 202) h_4 ?_
    refine lv_lookup (off := 127) (tgt := 133) hx hb dn_Grammar_close_6 (by decide) (by decide) (by decide) ?_
    refine lv_aload_n hx hb dn_Grammar_close_133 rfl (lv_at hl 0 rfl) ?_
    refine va_get (D := (dC, dI)) (ci := 6) (v := .ref ((a 101))) (C := rn_Grammar) (T := fn_Grammar) (N := 15) hx hb hg in_Grammar hown hK hP 5 rfl rfl 0 (by decide) (hg _ wn_2_0) (fun _ h9 => h9) rfl dn_Grammar_close_134 ?_
    refine lv_bipush (v := 125) hx hb dn_Grammar_close_137 (by decide) ?_
    obtain ⟨q_2, hc_3, hf⟩ := dc_b hf
    refine dc_callv (dc_runV (ar := 1) (As := [.int 125]) (rest := []) (ci := 2) (q0 := 1) ⟨hx, hb, hml, hown, hg⟩ hK hN hT hS hA (ct_Tokens_shut_Tk l dC dI cI cB cJ cZ cQ N H.size a v 125 s q_2 hc_3) hP hD rfl rfl wn_4_226 wn_4_227 wn_4_228 wn_1_2 wn_4_229 rfl rfl (by decide +kernel) ⟨Nat.le_of_ble_eq_true rfl, Nat.le_of_ble_eq_true rfl⟩ rfl hl.1 rfl (Nat.le_of_ble_eq_true rfl) dn_Grammar_close_139 ⟨Nat.le_of_ble_eq_true rfl, Nat.le_of_ble_eq_true rfl⟩) hP hD hS hA (fun _ H locs hw hP hD hS => ?_)
    refine lv_aload_n hx hb dn_Grammar_close_142 rfl (lv_at hl 0 rfl) ?_
    refine va_get (D := (dC, dI)) (ci := 6) (v := .ref ((a 101))) (C := rn_Grammar) (T := fn_Grammar) (N := 15) hx hb hg in_Grammar hown hK hP 5 rfl rfl 0 (by decide) (hg _ wn_2_0) (fun _ h9 => h9) rfl dn_Grammar_close_143 ?_
    refine lv_bipush (v := 125) hx hb dn_Grammar_close_146 (by decide) ?_
    obtain ⟨q_4, hc_5, hf⟩ := dc_b hf
    refine dc_callv (dc_runV (ar := 1) (As := [.int 125]) (rest := []) (ci := 2) (q0 := 1) ⟨hx, hb, hml, hown, hg⟩ hK hN hT hS hA (ct_Tokens_shut_Tk l dC dI cI cB cJ cZ cQ N H.size a v 125 q_2.2 q_4 hc_5) hP hD rfl rfl wn_4_226 wn_4_227 wn_4_228 wn_1_2 wn_4_229 rfl rfl (by decide +kernel) ⟨Nat.le_of_ble_eq_true rfl, Nat.le_of_ble_eq_true rfl⟩ rfl hl.1 rfl (Nat.le_of_ble_eq_true rfl) dn_Grammar_close_148 ⟨Nat.le_of_ble_eq_true rfl, Nat.le_of_ble_eq_true rfl⟩) hP hD hS hA (fun _ H locs hw hP hD hS => ?_)
    refine lv_aload_n hx hb dn_Grammar_close_151 rfl (lv_at hl 0 rfl) ?_
    refine va_get (D := (dC, dI)) (ci := 6) (v := .ref ((a 103))) (C := rn_Grammar) (T := fn_Grammar) (N := 15) hx hb hg in_Grammar hown hK hP 5 rfl rfl 1 (by decide) (hg _ wn_2_1) (fun _ h9 => h9) rfl dn_Grammar_close_152 ?_
    refine lv_aload_n hx hb dn_Grammar_close_155 rfl (lv_at hl 0 rfl) ?_
    refine va_get (D := (dC, dI)) (ci := 6) (v := .ref ((a 274))) (C := rn_Grammar) (T := fn_Grammar) (N := 15) hx hb hg in_Grammar hown hK hP 5 rfl rfl 13 (by decide) (hg _ wn_2_13) (fun _ h9 => h9) rfl dn_Grammar_close_156 ?_
    refine lv_iload_n hx hb dn_Grammar_close_159 rfl (lv_at hl 1 rfl) ?_
    obtain ⟨hg_6, hf⟩ := dc_g hf
    refine va_iald hx hb hK hP 33 0 rfl rfl hg_6 dn_Grammar_close_160 ?_
    refine xk_ti (y := ((q_4.2.1 274) (Int32.toNatClampNeg v1))) rfl ?_
    refine lv_aload_n hx hb dn_Grammar_close_161 rfl (lv_at hl 0 rfl) ?_
    refine va_get (D := (dC, dI)) (ci := 6) (v := .ref ((a 273))) (C := rn_Grammar) (T := fn_Grammar) (N := 15) hx hb hg in_Grammar hown hK hP 5 rfl rfl 12 (by decide) (hg _ wn_2_12) (fun _ h9 => h9) rfl dn_Grammar_close_162 ?_
    refine lv_iload_n hx hb dn_Grammar_close_165 rfl (lv_at hl 1 rfl) ?_
    obtain ⟨hg_7, hf⟩ := dc_g hf
    refine va_iald hx hb hK hP 32 0 rfl rfl hg_7 dn_Grammar_close_166 ?_
    refine xk_ti (y := ((q_4.2.1 273) (Int32.toNatClampNeg v1))) rfl ?_
    obtain ⟨q_8, hc_9, hf⟩ := dc_b hf
    refine dc_callv (dc_runV (ar := 2) (As := [.int (((q_4.2.1 274) (Int32.toNatClampNeg v1))), .int (((q_4.2.1 273) (Int32.toNatClampNeg v1)))]) (rest := []) (ci := 4) (q0 := 3) ⟨hx, hb, hml, hown, hg⟩ hK hN hT hS hA (ct_Checker_repeat_Ch l dC dI cI cB cJ cZ cQ N H.size a v hv_3 (((q_4.2.1 274) (Int32.toNatClampNeg v1))) (((q_4.2.1 273) (Int32.toNatClampNeg v1))) q_4.2 q_8 hc_9) hP hD rfl rfl wn_6_107 wn_6_108 wn_6_109 wn_1_4 wn_6_110 rfl rfl (by decide +kernel) ⟨Nat.le_of_ble_eq_true rfl, Nat.le_of_ble_eq_true rfl⟩ rfl hl.1 rfl (Nat.le_of_ble_eq_true rfl) dn_Grammar_close_167 ⟨Nat.le_of_ble_eq_true rfl, Nat.le_of_ble_eq_true rfl⟩) hP hD hS hA (fun _ H locs hw hP hD hS => ?_)
    refine lv_aload_n hx hb dn_Grammar_close_170 rfl (lv_at hl 0 rfl) ?_
    refine lv_dup hx hb dn_Grammar_close_171 rfl ?_
    refine va_get (D := (dC, dI)) (ci := 6) (v := .int ((q_8.2.1 275 0))) (C := rn_Grammar) (T := fn_Grammar) (N := 15) hx hb hg in_Grammar hown hK hP 5 rfl rfl 14 (by decide) (hg _ wn_2_14) (fun _ h9 => h9) rfl dn_Grammar_close_172 ?_
    refine lv_iconst (v := 1) hx hb dn_Grammar_close_175 (by decide) ?_
    refine lv_isub hx hb dn_Grammar_close_176 ?_
    refine va_put (D := (dC, dI)) (ci := 6) (v := .int (((q_8.2.1 275 0) - 1))) (ty := .int) (C := rn_Grammar) (T := fn_Grammar) (N := 15) hx hb hg in_Grammar tn_Grammar tk_Grammar nn_Grammar hown hK hP hD hS 5 rfl rfl 14 (by decide) (hg _ wn_2_14) (fun _ h9 => h9) rfl (tk_Grammar 14 (by decide)) rfl rfl (Nat.le_of_ble_eq_true rfl) dn_Grammar_close_177 (fun H locs hP hD hS => ?_)
    have hP := wC_P_275 hP
    have hD := wC_D_275 hD
    refine lv_goto (tgt := 203) hx hb dn_Grammar_close_180 (by decide) ?_
    rw [hQQ, ← Option.some.inj hf]
    exact xk_vret (w1 := fun u : Unit => (wC a v cI cB cJ cZ cQ (upI q_8.2 275 (fun _ => ((q_8.2.1 275 0) - 1))))) () hx hb hr hlocks hK hS dn_Grammar_close_203 hP hD trivial (Nat.le_refl _) (Nat.le_refl _)
  have hf := (if_neg h_4).symm.trans hf
  refine lv_lookup (off := 192) (tgt := 198) hx hb dn_Grammar_close_6 (by decide) (by rw [lv_osw h_0 (by decide)]; rw [lv_osw h_1 (by decide)]; rw [lv_osw h_2 (by decide)]; rw [lv_osw h_3 (by decide)]; rw [lv_osw h_4 (by decide)]; rfl) (by decide) ?_
  refine lv_aload_n hx hb dn_Grammar_close_198 rfl (lv_at hl 0 rfl) ?_
  refine lv_iload_n hx hb dn_Grammar_close_199 rfl (lv_at hl 1 rfl) ?_
  obtain ⟨q_2, hc_3, hf⟩ := dc_b hf
  refine dc_callv (dc_runV (ar := 1) (As := [.int v1]) (rest := []) (ci := 6) (q0 := 5) ⟨hx, hb, hml, hown, hg⟩ hK hN hT hS hA (ct_Grammar_closeBrace_Gr l dC dI cI cB cJ cZ cQ N H.size a v v1 s q_2 hc_3) hP hD rfl rfl wn_6_115 wn_6_117 sn_Grammar_closeBrace wn_1_5 wn_6_118 rfl rfl (by decide +kernel) ⟨Nat.le_of_ble_eq_true rfl, Nat.le_of_ble_eq_true rfl⟩ rfl hl.1 rfl (Nat.le_of_ble_eq_true rfl) dn_Grammar_close_200 ⟨Nat.le_of_ble_eq_true rfl, Nat.le_of_ble_eq_true rfl⟩) hP hD hS hA (fun _ H locs hw hP hD hS => ?_)
  rw [hQQ, ← Option.some.inj hf]
  exact xk_vret (w1 := fun u : Unit => (wC a v cI cB cJ cZ cQ q_2.2)) () hx hb hr hlocks hK hS dn_Grammar_close_203 hP hD trivial (Nat.le_refl _) (Nat.le_refl _)
set_option maxHeartbeats 8000000 in
set_option maxRecDepth 100000 in
theorem ct_Grammar_behindOperand_Gr (l : Launch) (dC : Nat → ClassId) (dI : Nat → Nat → Nat) (cI cB cJ cZ cQ : ClassId) (N sz : Nat) (a : Nat → Nat) (v : Nat → Value) (hv_3 : v 3 = .ref (a 111)) (s : ms) (y : (Unit × ms)) (hf : fn_Grammar_behindOperand_Gr N s = some y) : Met l yn_Grammar_behindOperand (xw yn_Grammar_behindOperand bn_Grammar_behindOperand 2 none) ({ frames := 5, cells := 0, slots := 0, locals := 131 }) (dc_P (dC, dI) xcl (xt cI cB cJ cZ cQ) [.ref ((a 105))] sz (wC a v cI cB cJ cZ cQ s)) (xk_Qv (dC, dI) xcl (xt cI cB cJ cZ cQ) (fun _ : Unit => True) (fun u : Unit => (wC a v cI cB cJ cZ cQ y.2)) (va_A (wC a v cI cB cJ cZ cQ s) sz)) 0 0 (va_A (wC a v cI cB cJ cZ cQ s) sz) := by
  refine dc_of (QA := xk_Qv (dC, dI) xcl (xt cI cB cJ cZ cQ) (fun _ : Unit => True) (fun u : Unit => (wC a v cI cB cJ cZ cQ y.2))) (by decide) (Nat.le_of_ble_eq_true rfl) ?_
  intro p e s0 m below meth c hx hb hml hown hg hr hlocks hin hP hK hN A hA hD hT ls hl
  have hown : s0.vm.findClass rn_Grammar = some m.cls := hown
  obtain ⟨H, hH⟩ : ∃ z, z = s0.heap := ⟨_, rfl⟩
  rw [← hH] at hP
  have hS : va_S A s0.heap H [] := by rw [hH]; exact va_S.rf
  suffices kk : ∀ QQ : State → Prop, QQ = MQ below (xk_Qv (dC, dI) xcl (xt cI cB cJ cZ cQ) (fun _ : Unit => True) (fun u : Unit => (wC a v cI cB cJ cZ cQ y.2)) A) [.ref ((a 105))].toArray s0 0 0 A → dcC p l e ({ frames := 5, cells := 0, slots := 0, locals := 131 }) s0 m [.ref ((a 105))].toArray below meth c QQ (dC, dI) A (wC a v cI cB cJ cZ cQ s) 0 2 [(0, .ref ((a 105)))] [] by
    have k9 := kk _ rfl H [] ls hP hD hS hl
    rw [hH] at k9; exact k9
  clear hP hD hS hl hH H ls
  intro QQ hQQ
  have bl_159 : ∀ (s : ms), bk_Grammar_behindOperand_Gr_159 N s = some y → dcC p l e ({ frames := 5, cells := 0, slots := 0, locals := 131 }) s0 m [.ref ((a 105))].toArray below meth c QQ (dC, dI) A (wC a v cI cB cJ cZ cQ s) 159 2 [(0, .ref ((a 105)))] [] := by
    intro s hf H locs ls hP hD hS hl
    unfold bk_Grammar_behindOperand_Gr_159 at hf
    refine lv_aload_n hx hb dn_Grammar_behindOperand_159 rfl (lv_at hl 0 rfl) ?_
    refine va_get (D := (dC, dI)) (ci := 6) (v := .int ((s.1 275 0))) (C := rn_Grammar) (T := fn_Grammar) (N := 15) hx hb hg in_Grammar hown hK hP 5 rfl rfl 14 (by decide) (hg _ wn_2_14) (fun _ h9 => h9) rfl dn_Grammar_behindOperand_160 ?_
    refine lv_if_ne (tgt := 175) hx hb dn_Grammar_behindOperand_163 (by decide) (fun h => ?_) (fun h => ?_)
    · have hf := (if_neg h).symm.trans hf
      refine lv_aload_n hx hb dn_Grammar_behindOperand_175 rfl (lv_at hl 0 rfl) ?_
      refine lv_aload_n hx hb dn_Grammar_behindOperand_176 rfl (lv_at hl 0 rfl) ?_
      refine va_get (D := (dC, dI)) (ci := 6) (v := .int ((s.1 275 0))) (C := rn_Grammar) (T := fn_Grammar) (N := 15) hx hb hg in_Grammar hown hK hP 5 rfl rfl 14 (by decide) (hg _ wn_2_14) (fun _ h9 => h9) rfl dn_Grammar_behindOperand_177 ?_
      refine lv_iconst (v := 1) hx hb dn_Grammar_behindOperand_180 (by decide) ?_
      refine lv_isub hx hb dn_Grammar_behindOperand_181 ?_
      obtain ⟨q_1, hc_2, hf⟩ := dc_b hf
      refine dc_callv (dc_runV (ar := 1) (As := [.int (((s.1 275 0) - 1))]) (rest := []) (ci := 6) (q0 := 5) ⟨hx, hb, hml, hown, hg⟩ hK hN hT hS hA (ct_Grammar_close_Gr l dC dI cI cB cJ cZ cQ N H.size a v hv_3 (((s.1 275 0) - 1)) s q_1 hc_2) hP hD rfl rfl wn_6_99 wn_6_101 sn_Grammar_close wn_1_5 wn_6_102 rfl rfl (by decide +kernel) ⟨Nat.le_of_ble_eq_true rfl, Nat.le_of_ble_eq_true rfl⟩ rfl hl.1 rfl (Nat.le_of_ble_eq_true rfl) dn_Grammar_behindOperand_182 ⟨Nat.le_of_ble_eq_true rfl, Nat.le_of_ble_eq_true rfl⟩) hP hD hS hA (fun _ H locs hw hP hD hS => ?_)
      rw [hQQ, ← Option.some.inj hf]
      exact xk_vret (w1 := fun u : Unit => (wC a v cI cB cJ cZ cQ q_1.2)) () hx hb hr hlocks hK hS dn_Grammar_behindOperand_185 hP hD trivial (Nat.le_refl _) (Nat.le_refl _)
    · have hf := (if_pos h).symm.trans hf
      refine lv_aload_n hx hb dn_Grammar_behindOperand_166 rfl (lv_at hl 0 rfl) ?_
      refine lv_bipush (v := 8) hx hb dn_Grammar_behindOperand_167 (by decide) ?_
      refine va_put (D := (dC, dI)) (ci := 6) (v := .int 8) (ty := .int) (C := rn_Grammar) (T := fn_Grammar) (N := 15) hx hb hg in_Grammar tn_Grammar tk_Grammar nn_Grammar hown hK hP hD hS 5 rfl rfl 3 (by decide) (hg _ wn_2_3) (fun _ h9 => h9) rfl (tk_Grammar 3 (by decide)) rfl rfl (Nat.le_of_ble_eq_true rfl) dn_Grammar_behindOperand_169 (fun H locs hP hD hS => ?_)
      have hP := wC_P_264 hP
      have hD := wC_D_264 hD
      refine lv_goto (tgt := 185) hx hb dn_Grammar_behindOperand_172 (by decide) ?_
      rw [hQQ, ← Option.some.inj hf]
      exact xk_vret (w1 := fun u : Unit => (wC a v cI cB cJ cZ cQ (upI s 264 (fun _ => 8)))) () hx hb hr hlocks hK hS dn_Grammar_behindOperand_185 hP hD trivial (Nat.le_refl _) (Nat.le_refl _)
  have hd_100 : ∀ (n : Nat) (s : ms), hd_Grammar_behindOperand_Gr_100 N n s = some y → dcC p l e ({ frames := 5, cells := 0, slots := 0, locals := 131 }) s0 m [.ref ((a 105))].toArray below meth c QQ (dC, dI) A (wC a v cI cB cJ cZ cQ s) 100 2 [(0, .ref ((a 105)))] [] := by
    intro n
    induction n with
    | zero => intro s hf; cases hf
    | succ n ih =>
      intro s hf H locs ls hP hD hS hl
      have hf : bd_Grammar_behindOperand_Gr_100 N (hd_Grammar_behindOperand_Gr_100 N n) s = some y := hf
      have hk_100 := ih
      generalize hd_Grammar_behindOperand_Gr_100 N n = k_100 at hf hk_100
      unfold bd_Grammar_behindOperand_Gr_100 at hf
      refine lv_aload_n hx hb dn_Grammar_behindOperand_100 rfl (lv_at hl 0 rfl) ?_
      refine va_get (D := (dC, dI)) (ci := 6) (v := .int ((s.1 275 0))) (C := rn_Grammar) (T := fn_Grammar) (N := 15) hx hb hg in_Grammar hown hK hP 5 rfl rfl 14 (by decide) (hg _ wn_2_14) (fun _ h9 => h9) rfl dn_Grammar_behindOperand_101 ?_
      refine lv_if_le (tgt := 159) hx hb dn_Grammar_behindOperand_104 (by decide) (fun h => ?_) (fun h => ?_)
      · have hf := (if_pos h).symm.trans hf
        exact bl_159 s hf H locs ls hP hD hS hl
      · have hf := (if_neg h).symm.trans hf
        refine lv_aload_n hx hb dn_Grammar_behindOperand_107 rfl (lv_at hl 0 rfl) ?_
        refine va_get (D := (dC, dI)) (ci := 6) (v := .ref ((a 272))) (C := rn_Grammar) (T := fn_Grammar) (N := 15) hx hb hg in_Grammar hown hK hP 5 rfl rfl 11 (by decide) (hg _ wn_2_11) (fun _ h9 => h9) rfl dn_Grammar_behindOperand_108 ?_
        refine lv_aload_n hx hb dn_Grammar_behindOperand_111 rfl (lv_at hl 0 rfl) ?_
        refine va_get (D := (dC, dI)) (ci := 6) (v := .int ((s.1 275 0))) (C := rn_Grammar) (T := fn_Grammar) (N := 15) hx hb hg in_Grammar hown hK hP 5 rfl rfl 14 (by decide) (hg _ wn_2_14) (fun _ h9 => h9) rfl dn_Grammar_behindOperand_112 ?_
        refine lv_iconst (v := 1) hx hb dn_Grammar_behindOperand_115 (by decide) ?_
        refine lv_isub hx hb dn_Grammar_behindOperand_116 ?_
        obtain ⟨hg_1, hf⟩ := dc_g hf
        refine va_iald hx hb hK hP 31 0 rfl rfl hg_1 dn_Grammar_behindOperand_117 ?_
        refine xk_ti (y := ((s.1 272) (Int32.toNatClampNeg (((s.1 275 0) - 1))))) rfl ?_
        refine lv_bipush (v := 58) hx hb dn_Grammar_behindOperand_118 (by decide) ?_
        refine lv_icmp_ne (tgt := 159) hx hb dn_Grammar_behindOperand_120 (by decide) (fun h => ?_) (fun h => ?_)
        · have hf := (if_neg h).symm.trans hf
          exact bl_159 s hf H locs ls hP hD hS hl
        · have hf := (if_pos h).symm.trans hf
          refine lv_aload_n hx hb dn_Grammar_behindOperand_123 rfl (lv_at hl 0 rfl) ?_
          refine lv_dup hx hb dn_Grammar_behindOperand_124 rfl ?_
          refine va_get (D := (dC, dI)) (ci := 6) (v := .int ((s.1 275 0))) (C := rn_Grammar) (T := fn_Grammar) (N := 15) hx hb hg in_Grammar hown hK hP 5 rfl rfl 14 (by decide) (hg _ wn_2_14) (fun _ h9 => h9) rfl dn_Grammar_behindOperand_125 ?_
          refine lv_iconst (v := 1) hx hb dn_Grammar_behindOperand_128 (by decide) ?_
          refine lv_isub hx hb dn_Grammar_behindOperand_129 ?_
          refine va_put (D := (dC, dI)) (ci := 6) (v := .int (((s.1 275 0) - 1))) (ty := .int) (C := rn_Grammar) (T := fn_Grammar) (N := 15) hx hb hg in_Grammar tn_Grammar tk_Grammar nn_Grammar hown hK hP hD hS 5 rfl rfl 14 (by decide) (hg _ wn_2_14) (fun _ h9 => h9) rfl (tk_Grammar 14 (by decide)) rfl rfl (Nat.le_of_ble_eq_true rfl) dn_Grammar_behindOperand_130 (fun H locs hP hD hS => ?_)
          have hP := wC_P_275 hP
          have hD := wC_D_275 hD
          refine lv_aload_n hx hb dn_Grammar_behindOperand_133 rfl (lv_at hl 0 rfl) ?_
          refine va_get (D := (dC, dI)) (ci := 6) (v := .ref ((a 101))) (C := rn_Grammar) (T := fn_Grammar) (N := 15) hx hb hg in_Grammar hown hK hP 5 rfl rfl 0 (by decide) (hg _ wn_2_0) (fun _ h9 => h9) rfl dn_Grammar_behindOperand_134 ?_
          obtain ⟨q_2, hc_3, hf⟩ := dc_b hf
          refine dc_callv (dc_runV (ar := 0) (As := []) (rest := []) (ci := 2) (q0 := 1) ⟨hx, hb, hml, hown, hg⟩ hK hN hT hS hA (ct_Tokens_shutQuietly_Tk l dC dI cI cB cJ cZ cQ N H.size a v (upI s 275 (fun _ => ((s.1 275 0) - 1))) q_2 hc_3) hP hD rfl rfl wn_5_211 wn_5_212 wn_5_213 wn_1_2 wn_5_214 rfl rfl (by decide +kernel) ⟨Nat.le_of_ble_eq_true rfl, Nat.le_of_ble_eq_true rfl⟩ rfl hl.1 rfl (Nat.le_of_ble_eq_true rfl) dn_Grammar_behindOperand_137 ⟨Nat.le_of_ble_eq_true rfl, Nat.le_of_ble_eq_true rfl⟩) hP hD hS hA (fun _ H locs hw hP hD hS => ?_)
          refine lv_aload_n hx hb dn_Grammar_behindOperand_140 rfl (lv_at hl 0 rfl) ?_
          refine va_get (D := (dC, dI)) (ci := 6) (v := .ref ((a 103))) (C := rn_Grammar) (T := fn_Grammar) (N := 15) hx hb hg in_Grammar hown hK hP 5 rfl rfl 1 (by decide) (hg _ wn_2_1) (fun _ h9 => h9) rfl dn_Grammar_behindOperand_141 ?_
          refine lv_aload_n hx hb dn_Grammar_behindOperand_144 rfl (lv_at hl 0 rfl) ?_
          refine va_get (D := (dC, dI)) (ci := 6) (v := .ref ((a 273))) (C := rn_Grammar) (T := fn_Grammar) (N := 15) hx hb hg in_Grammar hown hK hP 5 rfl rfl 12 (by decide) (hg _ wn_2_12) (fun _ h9 => h9) rfl dn_Grammar_behindOperand_145 ?_
          refine lv_aload_n hx hb dn_Grammar_behindOperand_148 rfl (lv_at hl 0 rfl) ?_
          refine va_get (D := (dC, dI)) (ci := 6) (v := .int ((q_2.2.1 275 0))) (C := rn_Grammar) (T := fn_Grammar) (N := 15) hx hb hg in_Grammar hown hK hP 5 rfl rfl 14 (by decide) (hg _ wn_2_14) (fun _ h9 => h9) rfl dn_Grammar_behindOperand_149 ?_
          obtain ⟨hg_4, hf⟩ := dc_g hf
          refine va_iald hx hb hK hP 32 0 rfl rfl hg_4 dn_Grammar_behindOperand_152 ?_
          refine xk_ti (y := ((q_2.2.1 273) (Int32.toNatClampNeg ((q_2.2.1 275 0))))) rfl ?_
          obtain ⟨q_5, hc_6, hf⟩ := dc_b hf
          refine dc_callv (dc_runV (ar := 1) (As := [.int (((q_2.2.1 273) (Int32.toNatClampNeg ((q_2.2.1 275 0)))))]) (rest := []) (ci := 4) (q0 := 3) ⟨hx, hb, hml, hown, hg⟩ hK hN hT hS hA (ct_Checker_choose_Ch l dC dI cI cB cJ cZ cQ N H.size a v hv_3 (((q_2.2.1 273) (Int32.toNatClampNeg ((q_2.2.1 275 0))))) q_2.2 q_5 hc_6) hP hD rfl rfl wn_6_95 wn_6_96 wn_6_97 wn_1_4 wn_6_98 rfl rfl (by decide +kernel) ⟨Nat.le_of_ble_eq_true rfl, Nat.le_of_ble_eq_true rfl⟩ rfl hl.1 rfl (Nat.le_of_ble_eq_true rfl) dn_Grammar_behindOperand_153 ⟨Nat.le_of_ble_eq_true rfl, Nat.le_of_ble_eq_true rfl⟩) hP hD hS hA (fun _ H locs hw hP hD hS => ?_)
          refine lv_goto (tgt := 100) hx hb dn_Grammar_behindOperand_156 (by decide) ?_
          exact hk_100 q_5.2 hf H locs ls hP hD hS hl
  intro H locs ls hP hD hS hl
  unfold fn_Grammar_behindOperand_Gr at hf
  refine lv_aload_n hx hb dn_Grammar_behindOperand_0 rfl (lv_at hl 0 rfl) ?_
  refine va_get (D := (dC, dI)) (ci := 6) (v := .ref ((a 101))) (C := rn_Grammar) (T := fn_Grammar) (N := 15) hx hb hg in_Grammar hown hK hP 5 rfl rfl 0 (by decide) (hg _ wn_2_0) (fun _ h9 => h9) rfl dn_Grammar_behindOperand_1 ?_
  refine va_get (D := (dC, dI)) (ci := 2) (v := .int ((s.1 214 0))) (C := rn_Tokens) (T := fn_Tokens) (N := 9) hx hb hg in_Tokens hown hK hP 1 rfl rfl 3 (by decide) (hg _ wn_1_50) (fun _ h9 => h9) rfl dn_Grammar_behindOperand_4 ?_
  obtain ⟨q_1, hc_2, hf⟩ := dc_b hf
  refine dc_calli (dc_runS (ar := 1) (As := [.int ((s.1 214 0))]) (rest := []) ⟨hx, hb, hml, hown, hg⟩ hK hN hT hS hA (ct_Grammar_rankOf l dC dI cI cB cJ cZ cQ N H.size a v ((s.1 214 0)) s q_1 hc_2) hP hD wn_6_75 wn_6_76 wn_1_5 wn_6_77 rfl rfl (by decide +kernel) ⟨Nat.le_of_ble_eq_true rfl, Nat.le_of_ble_eq_true rfl⟩ rfl hl.1 rfl (Nat.le_of_ble_eq_true rfl) dn_Grammar_behindOperand_7 ⟨Nat.le_of_ble_eq_true rfl, Nat.le_of_ble_eq_true rfl⟩) hP hD hS hA (fun r_3 _ H locs hw hP hD hS => ?_)
  have hw : r_3 = q_1.1 := hw
  subst hw
  refine lv_istore_n (lv' := [(1, .int q_1.1), (0, .ref ((a 105)))]) hx hb dn_Grammar_behindOperand_10 rfl hl (by decide) rfl (fun ls hl => ?_)
  refine lv_iload_n hx hb dn_Grammar_behindOperand_11 rfl (lv_at hl 0 rfl) ?_
  refine lv_if_le (tgt := 53) hx hb dn_Grammar_behindOperand_12 (by decide) (fun h => ?_) (fun h => ?_)
  · have hf := (if_pos h).symm.trans hf
    refine lv_aload_n hx hb dn_Grammar_behindOperand_53 rfl (lv_at hl 1 rfl) ?_
    refine lv_iconst (v := 1) hx hb dn_Grammar_behindOperand_54 (by decide) ?_
    obtain ⟨q_4, hc_5, hf⟩ := dc_b hf
    refine dc_callv (dc_runV (ar := 1) (As := [.int 1]) (rest := []) (ci := 6) (q0 := 5) ⟨hx, hb, hml, hown, hg⟩ hK hN hT hS hA (ct_Grammar_apply_Gr l dC dI cI cB cJ cZ cQ N H.size a v hv_3 1 q_1.2 q_4 hc_5) hP hD rfl rfl wn_6_78 wn_6_80 sn_Grammar_apply wn_1_5 wn_6_81 rfl rfl (by decide +kernel) ⟨Nat.le_of_ble_eq_true rfl, Nat.le_of_ble_eq_true rfl⟩ rfl hl.1 rfl (Nat.le_of_ble_eq_true rfl) dn_Grammar_behindOperand_55 ⟨Nat.le_of_ble_eq_true rfl, Nat.le_of_ble_eq_true rfl⟩) hP hD hS hA (fun _ H locs hw hP hD hS => ?_)
    refine lv_aload_n hx hb dn_Grammar_behindOperand_58 rfl (lv_at hl 1 rfl) ?_
    refine va_get (D := (dC, dI)) (ci := 6) (v := .ref ((a 101))) (C := rn_Grammar) (T := fn_Grammar) (N := 15) hx hb hg in_Grammar hown hK hP 5 rfl rfl 0 (by decide) (hg _ wn_2_0) (fun _ h9 => h9) rfl dn_Grammar_behindOperand_59 ?_
    refine va_get (D := (dC, dI)) (ci := 2) (v := .int ((q_4.2.1 214 0))) (C := rn_Tokens) (T := fn_Tokens) (N := 9) hx hb hg in_Tokens hown hK hP 1 rfl rfl 3 (by decide) (hg _ wn_1_50) (fun _ h9 => h9) rfl dn_Grammar_behindOperand_62 ?_
    refine lv_bipush (v := 63) hx hb dn_Grammar_behindOperand_65 (by decide) ?_
    refine lv_icmp_ne (tgt := 100) hx hb dn_Grammar_behindOperand_67 (by decide) (fun h => ?_) (fun h => ?_)
    · have hf := (if_neg h).symm.trans hf
      exact hd_100 N q_4.2 hf H locs ls hP hD hS (lv_sub hl [1] rfl)
    · have hf := (if_pos h).symm.trans hf
      refine lv_aload_n hx hb dn_Grammar_behindOperand_70 rfl (lv_at hl 1 rfl) ?_
      refine lv_bipush (v := 63) hx hb dn_Grammar_behindOperand_71 (by decide) ?_
      refine lv_aload_n hx hb dn_Grammar_behindOperand_73 rfl (lv_at hl 1 rfl) ?_
      refine va_get (D := (dC, dI)) (ci := 6) (v := .ref ((a 101))) (C := rn_Grammar) (T := fn_Grammar) (N := 15) hx hb hg in_Grammar hown hK hP 5 rfl rfl 0 (by decide) (hg _ wn_2_0) (fun _ h9 => h9) rfl dn_Grammar_behindOperand_74 ?_
      refine va_get (D := (dC, dI)) (ci := 2) (v := .int ((q_4.2.1 215 0))) (C := rn_Tokens) (T := fn_Tokens) (N := 9) hx hb hg in_Tokens hown hK hP 1 rfl rfl 4 (by decide) (hg _ wn_1_52) (fun _ h9 => h9) rfl dn_Grammar_behindOperand_77 ?_
      refine lv_iconst (v := 0) hx hb dn_Grammar_behindOperand_80 (by decide) ?_
      obtain ⟨q_6, hc_7, hf⟩ := dc_b hf
      refine dc_callv (dc_runV (ar := 3) (As := [.int 63, .int ((q_4.2.1 215 0)), .int 0]) (rest := []) (ci := 6) (q0 := 5) ⟨hx, hb, hml, hown, hg⟩ hK hN hT hS hA (ct_Grammar_hold_Gr l dC dI cI cB cJ cZ cQ N H.size a v 63 ((q_4.2.1 215 0)) 0 q_4.2 q_6 hc_7) hP hD rfl rfl wn_6_28 wn_6_30 sn_Grammar_hold wn_1_5 wn_6_31 rfl rfl (by decide +kernel) ⟨Nat.le_of_ble_eq_true rfl, Nat.le_of_ble_eq_true rfl⟩ rfl hl.1 rfl (Nat.le_of_ble_eq_true rfl) dn_Grammar_behindOperand_81 ⟨Nat.le_of_ble_eq_true rfl, Nat.le_of_ble_eq_true rfl⟩) hP hD hS hA (fun _ H locs hw hP hD hS => ?_)
      refine lv_aload_n hx hb dn_Grammar_behindOperand_84 rfl (lv_at hl 1 rfl) ?_
      refine va_get (D := (dC, dI)) (ci := 6) (v := .ref ((a 101))) (C := rn_Grammar) (T := fn_Grammar) (N := 15) hx hb hg in_Grammar hown hK hP 5 rfl rfl 0 (by decide) (hg _ wn_2_0) (fun _ h9 => h9) rfl dn_Grammar_behindOperand_85 ?_
      refine lv_bipush (v := 63) hx hb dn_Grammar_behindOperand_88 (by decide) ?_
      obtain ⟨q_8, hc_9, hf⟩ := dc_b hf
      refine dc_callv (dc_runV (ar := 1) (As := [.int 63]) (rest := []) (ci := 2) (q0 := 1) ⟨hx, hb, hml, hown, hg⟩ hK hN hT hS hA (ct_Tokens_open_Tk l dC dI cI cB cJ cZ cQ N H.size a v 63 q_6.2 q_8 hc_9) hP hD rfl rfl wn_4_214 wn_4_215 wn_4_216 wn_1_2 wn_4_217 rfl rfl (by decide +kernel) ⟨Nat.le_of_ble_eq_true rfl, Nat.le_of_ble_eq_true rfl⟩ rfl hl.1 rfl (Nat.le_of_ble_eq_true rfl) dn_Grammar_behindOperand_90 ⟨Nat.le_of_ble_eq_true rfl, Nat.le_of_ble_eq_true rfl⟩) hP hD hS hA (fun _ H locs hw hP hD hS => ?_)
      refine lv_aload_n hx hb dn_Grammar_behindOperand_93 rfl (lv_at hl 1 rfl) ?_
      refine lv_bipush (v := 6) hx hb dn_Grammar_behindOperand_94 (by decide) ?_
      refine va_put (D := (dC, dI)) (ci := 6) (v := .int 6) (ty := .int) (C := rn_Grammar) (T := fn_Grammar) (N := 15) hx hb hg in_Grammar tn_Grammar tk_Grammar nn_Grammar hown hK hP hD hS 5 rfl rfl 3 (by decide) (hg _ wn_2_3) (fun _ h9 => h9) rfl (tk_Grammar 3 (by decide)) rfl rfl (Nat.le_of_ble_eq_true rfl) dn_Grammar_behindOperand_96 (fun H locs hP hD hS => ?_)
      have hP := wC_P_264 hP
      have hD := wC_D_264 hD
      rw [hQQ, ← Option.some.inj hf]
      exact xk_vret (w1 := fun u : Unit => (wC a v cI cB cJ cZ cQ (upI q_8.2 264 (fun _ => 6)))) () hx hb hr hlocks hK hS dn_Grammar_behindOperand_99 hP hD trivial (Nat.le_refl _) (Nat.le_refl _)
  · have hf := (if_neg h).symm.trans hf
    refine lv_aload_n hx hb dn_Grammar_behindOperand_15 rfl (lv_at hl 1 rfl) ?_
    refine lv_iload_n hx hb dn_Grammar_behindOperand_16 rfl (lv_at hl 0 rfl) ?_
    obtain ⟨q_4, hc_5, hf⟩ := dc_b hf
    refine dc_callv (dc_runV (ar := 1) (As := [.int q_1.1]) (rest := []) (ci := 6) (q0 := 5) ⟨hx, hb, hml, hown, hg⟩ hK hN hT hS hA (ct_Grammar_apply_Gr l dC dI cI cB cJ cZ cQ N H.size a v hv_3 q_1.1 q_1.2 q_4 hc_5) hP hD rfl rfl wn_6_78 wn_6_80 sn_Grammar_apply wn_1_5 wn_6_81 rfl rfl (by decide +kernel) ⟨Nat.le_of_ble_eq_true rfl, Nat.le_of_ble_eq_true rfl⟩ rfl hl.1 rfl (Nat.le_of_ble_eq_true rfl) dn_Grammar_behindOperand_17 ⟨Nat.le_of_ble_eq_true rfl, Nat.le_of_ble_eq_true rfl⟩) hP hD hS hA (fun _ H locs hw hP hD hS => ?_)
    refine lv_aload_n hx hb dn_Grammar_behindOperand_20 rfl (lv_at hl 1 rfl) ?_
    refine lv_aload_n hx hb dn_Grammar_behindOperand_21 rfl (lv_at hl 1 rfl) ?_
    refine va_get (D := (dC, dI)) (ci := 6) (v := .ref ((a 101))) (C := rn_Grammar) (T := fn_Grammar) (N := 15) hx hb hg in_Grammar hown hK hP 5 rfl rfl 0 (by decide) (hg _ wn_2_0) (fun _ h9 => h9) rfl dn_Grammar_behindOperand_22 ?_
    refine va_get (D := (dC, dI)) (ci := 2) (v := .int ((q_4.2.1 214 0))) (C := rn_Tokens) (T := fn_Tokens) (N := 9) hx hb hg in_Tokens hown hK hP 1 rfl rfl 3 (by decide) (hg _ wn_1_50) (fun _ h9 => h9) rfl dn_Grammar_behindOperand_25 ?_
    refine lv_aload_n hx hb dn_Grammar_behindOperand_28 rfl (lv_at hl 1 rfl) ?_
    refine va_get (D := (dC, dI)) (ci := 6) (v := .ref ((a 101))) (C := rn_Grammar) (T := fn_Grammar) (N := 15) hx hb hg in_Grammar hown hK hP 5 rfl rfl 0 (by decide) (hg _ wn_2_0) (fun _ h9 => h9) rfl dn_Grammar_behindOperand_29 ?_
    refine va_get (D := (dC, dI)) (ci := 2) (v := .int ((q_4.2.1 215 0))) (C := rn_Tokens) (T := fn_Tokens) (N := 9) hx hb hg in_Tokens hown hK hP 1 rfl rfl 4 (by decide) (hg _ wn_1_52) (fun _ h9 => h9) rfl dn_Grammar_behindOperand_32 ?_
    refine lv_iconst (v := 0) hx hb dn_Grammar_behindOperand_35 (by decide) ?_
    obtain ⟨q_6, hc_7, hf⟩ := dc_b hf
    refine dc_callv (dc_runV (ar := 3) (As := [.int ((q_4.2.1 214 0)), .int ((q_4.2.1 215 0)), .int 0]) (rest := []) (ci := 6) (q0 := 5) ⟨hx, hb, hml, hown, hg⟩ hK hN hT hS hA (ct_Grammar_hold_Gr l dC dI cI cB cJ cZ cQ N H.size a v ((q_4.2.1 214 0)) ((q_4.2.1 215 0)) 0 q_4.2 q_6 hc_7) hP hD rfl rfl wn_6_28 wn_6_30 sn_Grammar_hold wn_1_5 wn_6_31 rfl rfl (by decide +kernel) ⟨Nat.le_of_ble_eq_true rfl, Nat.le_of_ble_eq_true rfl⟩ rfl hl.1 rfl (Nat.le_of_ble_eq_true rfl) dn_Grammar_behindOperand_36 ⟨Nat.le_of_ble_eq_true rfl, Nat.le_of_ble_eq_true rfl⟩) hP hD hS hA (fun _ H locs hw hP hD hS => ?_)
    refine lv_aload_n hx hb dn_Grammar_behindOperand_39 rfl (lv_at hl 1 rfl) ?_
    refine va_get (D := (dC, dI)) (ci := 6) (v := .ref ((a 101))) (C := rn_Grammar) (T := fn_Grammar) (N := 15) hx hb hg in_Grammar hown hK hP 5 rfl rfl 0 (by decide) (hg _ wn_2_0) (fun _ h9 => h9) rfl dn_Grammar_behindOperand_40 ?_
    obtain ⟨q_8, hc_9, hf⟩ := dc_b hf
    refine dc_callv (dc_runV (ar := 0) (As := []) (rest := []) (ci := 2) (q0 := 1) ⟨hx, hb, hml, hown, hg⟩ hK hN hT hS hA (ct_Tokens_take_Tk l dC dI cI cB cJ cZ cQ N H.size a v q_6.2 q_8 hc_9) hP hD rfl rfl wn_4_213 wn_4_149 wn_4_150 wn_1_2 wn_4_151 rfl rfl (by decide +kernel) ⟨Nat.le_of_ble_eq_true rfl, Nat.le_of_ble_eq_true rfl⟩ rfl hl.1 rfl (Nat.le_of_ble_eq_true rfl) dn_Grammar_behindOperand_43 ⟨Nat.le_of_ble_eq_true rfl, Nat.le_of_ble_eq_true rfl⟩) hP hD hS hA (fun _ H locs hw hP hD hS => ?_)
    refine lv_aload_n hx hb dn_Grammar_behindOperand_46 rfl (lv_at hl 1 rfl) ?_
    refine lv_bipush (v := 6) hx hb dn_Grammar_behindOperand_47 (by decide) ?_
    refine va_put (D := (dC, dI)) (ci := 6) (v := .int 6) (ty := .int) (C := rn_Grammar) (T := fn_Grammar) (N := 15) hx hb hg in_Grammar tn_Grammar tk_Grammar nn_Grammar hown hK hP hD hS 5 rfl rfl 3 (by decide) (hg _ wn_2_3) (fun _ h9 => h9) rfl (tk_Grammar 3 (by decide)) rfl rfl (Nat.le_of_ble_eq_true rfl) dn_Grammar_behindOperand_49 (fun H locs hP hD hS => ?_)
    have hP := wC_P_264 hP
    have hD := wC_D_264 hD
    rw [hQQ, ← Option.some.inj hf]
    exact xk_vret (w1 := fun u : Unit => (wC a v cI cB cJ cZ cQ (upI q_8.2 264 (fun _ => 6)))) () hx hb hr hlocks hK hS dn_Grammar_behindOperand_52 hP hD trivial (Nat.le_refl _) (Nat.le_refl _)
