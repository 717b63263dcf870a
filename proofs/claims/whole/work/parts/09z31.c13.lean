set_option maxHeartbeats 8000000 in
set_option maxRecDepth 100000 in
theorem ct_Design_excess_Ds (l : Launch) (dC : Nat → ClassId) (dI : Nat → Nat → Nat) (cI cB cJ cZ cQ : ClassId) (N sz : Nat) (a : Nat → Nat) (v : Nat → Value) (s : ms) (y : (Int32 × ms)) (hf : fn_Design_excess_Ds N s = some y) : Met l yn_Design_excess (xw yn_Design_excess bn_Design_excess 4 (some .int)) ({ frames := 2, cells := 0, slots := 0, locals := 61 }) (dc_P (dC, dI) xcl (xt cI cB cJ cZ cQ) [.ref ((a 109))] sz (wC a v cI cB cJ cZ cQ s)) (xk_Qi (dC, dI) xcl (xt cI cB cJ cZ cQ) (fun (r : Int32) (_ : Unit) => r = y.1) (fun u : Unit => (wC a v cI cB cJ cZ cQ y.2)) (va_A (wC a v cI cB cJ cZ cQ s) sz)) 0 0 (va_A (wC a v cI cB cJ cZ cQ s) sz) := by
  refine dc_of (QA := xk_Qi (dC, dI) xcl (xt cI cB cJ cZ cQ) (fun (r : Int32) (_ : Unit) => r = y.1) (fun u : Unit => (wC a v cI cB cJ cZ cQ y.2))) (by decide) (Nat.le_of_ble_eq_true rfl) ?_
  intro p e s0 m below meth c hx hb hml hown hg hr hlocks hin hP hK hN A hA hD hT ls hl
  have hown : s0.vm.findClass rn_Design = some m.cls := hown
  obtain ⟨H, hH⟩ : ∃ z, z = s0.heap := ⟨_, rfl⟩
  rw [← hH] at hP
  have hS : va_S A s0.heap H [] := by rw [hH]; exact va_S.rf
  suffices kk : ∀ QQ : State → Prop, QQ = MQ below (xk_Qi (dC, dI) xcl (xt cI cB cJ cZ cQ) (fun (r : Int32) (_ : Unit) => r = y.1) (fun u : Unit => (wC a v cI cB cJ cZ cQ y.2)) A) [.ref ((a 109))].toArray s0 0 0 A → dcC p l e ({ frames := 2, cells := 0, slots := 0, locals := 61 }) s0 m [.ref ((a 109))].toArray below meth c QQ (dC, dI) A (wC a v cI cB cJ cZ cQ s) 0 4 [(0, .ref ((a 109)))] [] by
    have k9 := kk _ rfl H [] ls hP hD hS hl
    rw [hH] at k9; exact k9
  clear hP hD hS hl hH H ls
  intro QQ hQQ
  have hd_18 : ∀ (n : Nat) (x1 : Int32) (x2 : Int32) (s : ms), hd_Design_excess_Ds_18 N n x1 x2 s = some y → dcC p l e ({ frames := 2, cells := 0, slots := 0, locals := 61 }) s0 m [.ref ((a 109))].toArray below meth c QQ (dC, dI) A (wC a v cI cB cJ cZ cQ s) 18 4 [(0, .ref ((a 109))), (1, .int x1), (2, .int x2)] [] := by
    intro n
    induction n with
    | zero => intro x1 x2 s hf; cases hf
    | succ n ih =>
      intro x1 x2 s hf H locs ls hP hD hS hl
      have hf : bd_Design_excess_Ds_18 N (hd_Design_excess_Ds_18 N n) x1 x2 s = some y := hf
      have hk_18 := ih
      generalize hd_Design_excess_Ds_18 N n = k_18 at hf hk_18
      unfold bd_Design_excess_Ds_18 at hf
      refine lv_iload_n hx hb dn_Design_excess_18 rfl (lv_at hl 2 rfl) ?_
      refine lv_aload_n hx hb dn_Design_excess_19 rfl (lv_at hl 0 rfl) ?_
      refine va_get (D := (dC, dI)) (ci := 10) (v := .ref ((a 110))) (C := rn_Design) (T := fn_Design) (N := 16) hx hb hg in_Design hown hK hP 9 rfl rfl 0 (by decide) (hg _ wn_2_234) (fun _ h9 => h9) rfl dn_Design_excess_20 ?_
      refine va_get (D := (dC, dI)) (ci := 11) (v := .int ((s.1 321 0))) (C := rn_Parts) (T := fn_Parts) (N := 15) hx hb hg in_Parts hown hK hP 10 rfl rfl 0 (by decide) (hg _ wn_2_124) (fun _ h9 => h9) rfl dn_Design_excess_23 ?_
      refine lv_icmp_ge (tgt := 67) hx hb dn_Design_excess_26 (by decide) (fun h => ?_) (fun h => ?_)
      · have hf := (if_pos h).symm.trans hf
        refine lv_aload_n hx hb dn_Design_excess_67 rfl (lv_at hl 0 rfl) ?_
        refine lv_iconst (v := 2) hx hb dn_Design_excess_68 (by decide) ?_
        refine lv_iload_n hx hb dn_Design_excess_69 rfl (lv_at hl 1 rfl) ?_
        obtain ⟨q_1, hc_2, hf⟩ := dc_b hf
        refine dc_calli (dc_runV (ar := 2) (As := [.int 2, .int x1]) (rest := []) (ci := 10) (q0 := 9) ⟨hx, hb, hml, hown, hg⟩ hK hN hT hS hA (ct_Design_sumOf_Ds l dC dI cI cB cJ cZ cQ N H.size a v 2 x1 s q_1 hc_2) hP hD rfl rfl wn_5_112 wn_5_113 wn_5_114 wn_1_10 wn_5_115 rfl rfl (by decide +kernel) ⟨Nat.le_of_ble_eq_true rfl, Nat.le_of_ble_eq_true rfl⟩ rfl hl.1 rfl (Nat.le_of_ble_eq_true rfl) dn_Design_excess_70 ⟨Nat.le_of_ble_eq_true rfl, Nat.le_of_ble_eq_true rfl⟩) hP hD hS hA (fun r_3 _ H locs hw hP hD hS => ?_)
        have hw : r_3 = q_1.1 := hw
        subst hw
        refine lv_istore_n (lv' := [(2, .int q_1.1), (0, .ref ((a 109))), (1, .int x1)]) hx hb dn_Design_excess_73 rfl hl (by decide) rfl (fun ls hl => ?_)
        refine lv_aload_n hx hb dn_Design_excess_74 rfl (lv_at hl 1 rfl) ?_
        refine lv_iconst (v := 4) hx hb dn_Design_excess_75 (by decide) ?_
        refine lv_iload_n hx hb dn_Design_excess_76 rfl (lv_at hl 2 rfl) ?_
        obtain ⟨q_4, hc_5, hf⟩ := dc_b hf
        refine dc_calli (dc_runV (ar := 2) (As := [.int 4, .int x1]) (rest := []) (ci := 10) (q0 := 9) ⟨hx, hb, hml, hown, hg⟩ hK hN hT hS hA (ct_Design_sumOf_Ds l dC dI cI cB cJ cZ cQ N H.size a v 4 x1 q_1.2 q_4 hc_5) hP hD rfl rfl wn_5_112 wn_5_113 wn_5_114 wn_1_10 wn_5_115 rfl rfl (by decide +kernel) ⟨Nat.le_of_ble_eq_true rfl, Nat.le_of_ble_eq_true rfl⟩ rfl hl.1 rfl (Nat.le_of_ble_eq_true rfl) dn_Design_excess_77 ⟨Nat.le_of_ble_eq_true rfl, Nat.le_of_ble_eq_true rfl⟩) hP hD hS hA (fun r_6 _ H locs hw hP hD hS => ?_)
        have hw : r_6 = q_4.1 := hw
        subst hw
        refine lv_istore_n (lv' := [(3, .int q_4.1), (2, .int q_1.1), (0, .ref ((a 109))), (1, .int x1)]) hx hb dn_Design_excess_80 rfl hl (by decide) rfl (fun ls hl => ?_)
        refine lv_aload_n hx hb dn_Design_excess_81 rfl (lv_at hl 2 rfl) ?_
        refine lv_iconst (v := 0) hx hb dn_Design_excess_82 (by decide) ?_
        refine lv_iload_n hx hb dn_Design_excess_83 rfl (lv_at hl 3 rfl) ?_
        obtain ⟨q_7, hc_8, hf⟩ := dc_b hf
        refine dc_calli (dc_runV (ar := 2) (As := [.int 0, .int x1]) (rest := []) (ci := 10) (q0 := 9) ⟨hx, hb, hml, hown, hg⟩ hK hN hT hS hA (ct_Design_sumOf_Ds l dC dI cI cB cJ cZ cQ N H.size a v 0 x1 q_4.2 q_7 hc_8) hP hD rfl rfl wn_5_112 wn_5_113 wn_5_114 wn_1_10 wn_5_115 rfl rfl (by decide +kernel) ⟨Nat.le_of_ble_eq_true rfl, Nat.le_of_ble_eq_true rfl⟩ rfl hl.1 rfl (Nat.le_of_ble_eq_true rfl) dn_Design_excess_84 ⟨Nat.le_of_ble_eq_true rfl, Nat.le_of_ble_eq_true rfl⟩) hP hD hS hA (fun r_9 _ H locs hw hP hD hS => ?_)
        have hw : r_9 = q_7.1 := hw
        subst hw
        refine lv_iconst (v := 1) hx hb dn_Design_excess_87 (by decide) ?_
        refine lv_isub hx hb dn_Design_excess_88 ?_
        refine lv_sipush (v := 256) hx hb dn_Design_excess_89 (by decide) ?_
        refine lv_icmp_le (tgt := 98) hx hb dn_Design_excess_92 (by decide) (fun h => ?_) (fun h => ?_)
        · have hf := (if_pos h).symm.trans hf
          refine lv_aload_n hx hb dn_Design_excess_98 rfl (lv_at hl 2 rfl) ?_
          refine lv_iconst (v := 1) hx hb dn_Design_excess_99 (by decide) ?_
          refine lv_iload_n hx hb dn_Design_excess_100 rfl (lv_at hl 3 rfl) ?_
          obtain ⟨q_10, hc_11, hf⟩ := dc_b hf
          refine dc_calli (dc_runV (ar := 2) (As := [.int 1, .int x1]) (rest := []) (ci := 10) (q0 := 9) ⟨hx, hb, hml, hown, hg⟩ hK hN hT hS hA (ct_Design_sumOf_Ds l dC dI cI cB cJ cZ cQ N H.size a v 1 x1 q_7.2 q_10 hc_11) hP hD rfl rfl wn_5_112 wn_5_113 wn_5_114 wn_1_10 wn_5_115 rfl rfl (by decide +kernel) ⟨Nat.le_of_ble_eq_true rfl, Nat.le_of_ble_eq_true rfl⟩ rfl hl.1 rfl (Nat.le_of_ble_eq_true rfl) dn_Design_excess_101 ⟨Nat.le_of_ble_eq_true rfl, Nat.le_of_ble_eq_true rfl⟩) hP hD hS hA (fun r_12 _ H locs hw hP hD hS => ?_)
          have hw : r_12 = q_10.1 := hw
          subst hw
          refine lv_sipush (v := 1024) hx hb dn_Design_excess_104 (by decide) ?_
          refine lv_icmp_le (tgt := 113) hx hb dn_Design_excess_107 (by decide) (fun h => ?_) (fun h => ?_)
          · have hf := (if_pos h).symm.trans hf
            refine lv_iload_n hx hb dn_Design_excess_113 rfl (lv_at hl 1 rfl) ?_
            refine lv_bipush (v := 12) hx hb dn_Design_excess_114 (by decide) ?_
            refine lv_icmp_le (tgt := 122) hx hb dn_Design_excess_116 (by decide) (fun h => ?_) (fun h => ?_)
            · have hf := (if_pos h).symm.trans hf
              refine lv_aload_n hx hb dn_Design_excess_122 rfl (lv_at hl 2 rfl) ?_
              refine va_get (D := (dC, dI)) (ci := 10) (v := .int ((q_10.2.1 310 0))) (C := rn_Design) (T := fn_Design) (N := 16) hx hb hg in_Design hown hK hP 9 rfl rfl 5 (by decide) (hg _ wn_3_13) (fun _ h9 => h9) rfl dn_Design_excess_123 ?_
              refine lv_bipush (v := 6) hx hb dn_Design_excess_126 (by decide) ?_
              refine lv_icmp_le (tgt := 134) hx hb dn_Design_excess_128 (by decide) (fun h => ?_) (fun h => ?_)
              · have hf := (if_pos h).symm.trans hf
                refine lv_iload_n hx hb dn_Design_excess_134 rfl (lv_at hl 0 rfl) ?_
                refine lv_sipush (v := 1500) hx hb dn_Design_excess_135 (by decide) ?_
                refine lv_icmp_le (tgt := 144) hx hb dn_Design_excess_138 (by decide) (fun h => ?_) (fun h => ?_)
                · have hf := (if_pos h).symm.trans hf
                  refine lv_lconst (v := 1) hx hb dn_Design_excess_144 (by decide) ?_
                  refine lv_iload_n hx hb dn_Design_excess_145 rfl (lv_at hl 1 rfl) ?_
                  refine lv_aload_n hx hb dn_Design_excess_146 rfl (lv_at hl 2 rfl) ?_
                  refine va_get (D := (dC, dI)) (ci := 10) (v := .int ((q_10.2.1 310 0))) (C := rn_Design) (T := fn_Design) (N := 16) hx hb hg in_Design hown hK hP 9 rfl rfl 5 (by decide) (hg _ wn_3_13) (fun _ h9 => h9) rfl dn_Design_excess_147 ?_
                  refine lv_iadd hx hb dn_Design_excess_150 ?_
                  refine lv_lshl (v := (1 : Int64) <<< ((Int32.toInt64 ((q_1.1 + (q_10.2.1 310 0)))) &&& 63)) hx hb dn_Design_excess_151 rfl ?_
                  refine lv_iconst (v := 1) hx hb dn_Design_excess_152 (by decide) ?_
                  refine lv_iload_n hx hb dn_Design_excess_153 rfl (lv_at hl 0 rfl) ?_
                  refine va_mmax (x := 1) (y := q_4.1) (rest := [.long (((1 : Int64) <<< ((Int32.toInt64 ((q_1.1 + (q_10.2.1 310 0)))) &&& 63)))]) hx hb (by rw [hml]; exact hl.1.symm) hown (hg _ wn_6_166) (hg _ wn_4_99) (hg _ wn_1_19) (hg _ wn_4_100) (Nat.le_of_ble_eq_true rfl) (Nat.le_of_ble_eq_true rfl) (Nat.zero_le _) (Nat.zero_le _) dn_Design_excess_154 ?_
                  refine lv_i2l (v := Int32.toInt64 ((if 1 < q_4.1 then q_4.1 else 1))) hx hb dn_Design_excess_157 rfl ?_
                  refine lv_lmul hx hb dn_Design_excess_158 ?_
                  refine lv_ldc2 hx hb hown (hg _ wn_6_167) dn_Design_excess_159 ?_
                  refine W.lcmp hx hb dn_Design_excess_162 ?_
                  refine lv_if_le (tgt := 171) hx hb dn_Design_excess_163 (by decide) (fun h => ?_) (fun h => ?_)
                  · have hf := (if_pos h).symm.trans hf
                    refine lv_iconst (v := 0) hx hb dn_Design_excess_171 (by decide) ?_
                    rw [hQQ, ← Option.some.inj hf]
                    exact xk_iret (w1 := fun u : Unit => (wC a v cI cB cJ cZ cQ q_10.2)) () hx hb hr hlocks hK hS dn_Design_excess_172 hP hD rfl (Nat.le_refl _) (Nat.le_refl _)
                  · have hf := (if_neg h).symm.trans hf
                    refine lv_bipush (v := 46) hx hb dn_Design_excess_166 (by decide) ?_
                    refine lv_goto (tgt := 172) hx hb dn_Design_excess_168 (by decide) ?_
                    rw [hQQ, ← Option.some.inj hf]
                    exact xk_iret (w1 := fun u : Unit => (wC a v cI cB cJ cZ cQ q_10.2)) () hx hb hr hlocks hK hS dn_Design_excess_172 hP hD rfl (Nat.le_refl _) (Nat.le_refl _)
                · have hf := (if_neg h).symm.trans hf
                  refine lv_bipush (v := 44) hx hb dn_Design_excess_141 (by decide) ?_
                  rw [hQQ, ← Option.some.inj hf]
                  exact xk_iret (w1 := fun u : Unit => (wC a v cI cB cJ cZ cQ q_10.2)) () hx hb hr hlocks hK hS dn_Design_excess_143 hP hD rfl (Nat.le_refl _) (Nat.le_refl _)
              · have hf := (if_neg h).symm.trans hf
                refine lv_bipush (v := 43) hx hb dn_Design_excess_131 (by decide) ?_
                rw [hQQ, ← Option.some.inj hf]
                exact xk_iret (w1 := fun u : Unit => (wC a v cI cB cJ cZ cQ q_10.2)) () hx hb hr hlocks hK hS dn_Design_excess_133 hP hD rfl (Nat.le_refl _) (Nat.le_refl _)
            · have hf := (if_neg h).symm.trans hf
              refine lv_bipush (v := 42) hx hb dn_Design_excess_119 (by decide) ?_
              rw [hQQ, ← Option.some.inj hf]
              exact xk_iret (w1 := fun u : Unit => (wC a v cI cB cJ cZ cQ q_10.2)) () hx hb hr hlocks hK hS dn_Design_excess_121 hP hD rfl (Nat.le_refl _) (Nat.le_refl _)
          · have hf := (if_neg h).symm.trans hf
            refine lv_bipush (v := 41) hx hb dn_Design_excess_110 (by decide) ?_
            rw [hQQ, ← Option.some.inj hf]
            exact xk_iret (w1 := fun u : Unit => (wC a v cI cB cJ cZ cQ q_10.2)) () hx hb hr hlocks hK hS dn_Design_excess_112 hP hD rfl (Nat.le_refl _) (Nat.le_refl _)
        · have hf := (if_neg h).symm.trans hf
          refine lv_bipush (v := 40) hx hb dn_Design_excess_95 (by decide) ?_
          rw [hQQ, ← Option.some.inj hf]
          exact xk_iret (w1 := fun u : Unit => (wC a v cI cB cJ cZ cQ q_7.2)) () hx hb hr hlocks hK hS dn_Design_excess_97 hP hD rfl (Nat.le_refl _) (Nat.le_refl _)
      · have hf := (if_neg h).symm.trans hf
        refine lv_aload_n hx hb dn_Design_excess_29 rfl (lv_at hl 0 rfl) ?_
        refine va_get (D := (dC, dI)) (ci := 10) (v := .ref ((a 110))) (C := rn_Design) (T := fn_Design) (N := 16) hx hb hg in_Design hown hK hP 9 rfl rfl 0 (by decide) (hg _ wn_2_234) (fun _ h9 => h9) rfl dn_Design_excess_30 ?_
        refine va_get (D := (dC, dI)) (ci := 11) (v := .ref ((a 324))) (C := rn_Parts) (T := fn_Parts) (N := 15) hx hb hg in_Parts hown hK hP 10 rfl rfl 3 (by decide) (hg _ wn_2_138) (fun _ h9 => h9) rfl dn_Design_excess_33 ?_
        refine lv_iload_n hx hb dn_Design_excess_36 rfl (lv_at hl 2 rfl) ?_
        obtain ⟨hg_1, hf⟩ := dc_g hf
        refine va_iald hx hb hK hP 63 0 rfl rfl hg_1 dn_Design_excess_37 ?_
        refine xk_ti (y := ((s.1 324) (Int32.toNatClampNeg x2))) rfl ?_
        refine lv_if_ne (tgt := 61) hx hb dn_Design_excess_38 (by decide) (fun h => ?_) (fun h => ?_)
        · have hf := (if_neg h).symm.trans hf
          refine lv_iinc (v := (x2 + 1)) (lv' := [(2, .int ((x2 + 1))), (0, .ref ((a 109))), (1, .int x1)]) hx hb dn_Design_excess_61 hl (k := 2) rfl (dc_inc (by decide)) (by decide) rfl (fun ls hl => ?_)
          refine lv_goto (tgt := 18) hx hb dn_Design_excess_64 (by decide) ?_
          exact hk_18 x1 ((x2 + 1)) s hf H locs ls hP hD hS (lv_sub hl [1, 2, 0] rfl)
        · have hf := (if_pos h).symm.trans hf
          refine lv_aload_n hx hb dn_Design_excess_41 rfl (lv_at hl 0 rfl) ?_
          refine lv_aload_n hx hb dn_Design_excess_42 rfl (lv_at hl 0 rfl) ?_
          refine va_get (D := (dC, dI)) (ci := 10) (v := .int ((s.1 310 0))) (C := rn_Design) (T := fn_Design) (N := 16) hx hb hg in_Design hown hK hP 9 rfl rfl 5 (by decide) (hg _ wn_3_13) (fun _ h9 => h9) rfl dn_Design_excess_43 ?_
          refine lv_aload_n hx hb dn_Design_excess_46 rfl (lv_at hl 0 rfl) ?_
          refine va_get (D := (dC, dI)) (ci := 10) (v := .ref ((a 110))) (C := rn_Design) (T := fn_Design) (N := 16) hx hb hg in_Design hown hK hP 9 rfl rfl 0 (by decide) (hg _ wn_2_234) (fun _ h9 => h9) rfl dn_Design_excess_47 ?_
          refine va_get (D := (dC, dI)) (ci := 11) (v := .ref ((a 323))) (C := rn_Parts) (T := fn_Parts) (N := 15) hx hb hg in_Parts hown hK hP 10 rfl rfl 2 (by decide) (hg _ wn_2_133) (fun _ h9 => h9) rfl dn_Design_excess_50 ?_
          refine lv_iload_n hx hb dn_Design_excess_53 rfl (lv_at hl 2 rfl) ?_
          obtain ⟨hg_2, hf⟩ := dc_g hf
          refine va_iald hx hb hK hP 62 0 rfl rfl hg_2 dn_Design_excess_54 ?_
          refine xk_ti (y := ((s.1 323) (Int32.toNatClampNeg x2))) rfl ?_
          obtain ⟨q_3, hc_4, hf⟩ := dc_b hf
          refine dc_calli (dc_runSN (ar := 2) (As := [.int ((s.1 310 0)), .int (((s.1 323) (Int32.toNatClampNeg x2)))]) (rest := [.ref ((a 109))]) (host := "CircuitCycles") ⟨hx, hb, hml, hown, hg⟩ hK hN hT hS hA (ct_C_capped l dC dI cI cB cJ cZ cQ N H.size a v ((s.1 310 0)) (((s.1 323) (Int32.toNatClampNeg x2))) s q_3 hc_4) hP hD nl_Design_105 wn_5_108 wn_1_1 wn_5_109 rfl rfl (by decide +kernel) ⟨Nat.le_of_ble_eq_true rfl, Nat.le_of_ble_eq_true rfl⟩ rfl hl.1 rfl (Nat.le_of_ble_eq_true rfl) dn_Design_excess_55 ⟨Nat.le_of_ble_eq_true rfl, Nat.le_of_ble_eq_true rfl⟩) hP hD hS hA (fun r_5 _ H locs hw hP hD hS => ?_)
          have hw : r_5 = q_3.1 := hw
          subst hw
          refine va_put (D := (dC, dI)) (ci := 10) (v := .int q_3.1) (ty := .int) (C := rn_Design) (T := fn_Design) (N := 16) hx hb hg in_Design tn_Design tk_Design nn_Design hown hK hP hD hS 9 rfl rfl 5 (by decide) (hg _ wn_3_13) (fun _ h9 => h9) rfl (tk_Design 5 (by decide)) rfl rfl (Nat.le_of_ble_eq_true rfl) dn_Design_excess_58 (fun H locs hP hD hS => ?_)
          have hP := wC_P_310 hP
          have hD := wC_D_310 hD
          refine lv_iinc (v := (x2 + 1)) (lv' := [(2, .int ((x2 + 1))), (0, .ref ((a 109))), (1, .int x1)]) hx hb dn_Design_excess_61 hl (k := 2) rfl (dc_inc (by decide)) (by decide) rfl (fun ls hl => ?_)
          refine lv_goto (tgt := 18) hx hb dn_Design_excess_64 (by decide) ?_
          exact hk_18 x1 ((x2 + 1)) (upI q_3.2 310 (fun _ => q_3.1)) hf H locs ls hP hD hS (lv_sub hl [1, 2, 0] rfl)
  intro H locs ls hP hD hS hl
  unfold fn_Design_excess_Ds at hf
  refine lv_aload_n hx hb dn_Design_excess_0 rfl (lv_at hl 0 rfl) ?_
  refine va_get (D := (dC, dI)) (ci := 10) (v := .int ((s.1 309 0))) (C := rn_Design) (T := fn_Design) (N := 16) hx hb hg in_Design hown hK hP 9 rfl rfl 4 (by decide) (hg _ wn_3_10) (fun _ h9 => h9) rfl dn_Design_excess_1 ?_
  refine lv_iconst (v := 1) hx hb dn_Design_excess_4 (by decide) ?_
  refine lv_isub hx hb dn_Design_excess_5 ?_
  refine lv_istore_n (lv' := [(1, .int (((s.1 309 0) - 1))), (0, .ref ((a 109)))]) hx hb dn_Design_excess_6 rfl hl (by decide) rfl (fun ls hl => ?_)
  refine lv_aload_n hx hb dn_Design_excess_7 rfl (lv_at hl 1 rfl) ?_
  refine lv_iconst (v := 0) hx hb dn_Design_excess_8 (by decide) ?_
  refine va_put (D := (dC, dI)) (ci := 10) (v := .int 0) (ty := .int) (C := rn_Design) (T := fn_Design) (N := 16) hx hb hg in_Design tn_Design tk_Design nn_Design hown hK hP hD hS 9 rfl rfl 5 (by decide) (hg _ wn_3_13) (fun _ h9 => h9) rfl (tk_Design 5 (by decide)) rfl rfl (Nat.le_of_ble_eq_true rfl) dn_Design_excess_9 (fun H locs hP hD hS => ?_)
  have hP := wC_P_310 hP
  have hD := wC_D_310 hD
  refine lv_aload_n hx hb dn_Design_excess_12 rfl (lv_at hl 1 rfl) ?_
  refine lv_iload_n hx hb dn_Design_excess_13 rfl (lv_at hl 0 rfl) ?_
  obtain ⟨q_1, hc_2, hf⟩ := dc_b hf
  refine dc_calli (dc_runV (ar := 1) (As := [.int (((s.1 309 0) - 1))]) (rest := []) (ci := 10) (q0 := 9) ⟨hx, hb, hml, hown, hg⟩ hK hN hT hS hA (ct_Design_firstDecl_Ds l dC dI cI cB cJ cZ cQ N H.size a v (((s.1 309 0) - 1)) (upI s 310 (fun _ => 0)) q_1 hc_2) hP hD rfl rfl wn_6_165 wn_5_100 wn_5_101 wn_1_10 wn_5_102 rfl rfl (by decide +kernel) ⟨Nat.le_of_ble_eq_true rfl, Nat.le_of_ble_eq_true rfl⟩ rfl hl.1 rfl (Nat.le_of_ble_eq_true rfl) dn_Design_excess_14 ⟨Nat.le_of_ble_eq_true rfl, Nat.le_of_ble_eq_true rfl⟩) hP hD hS hA (fun r_3 _ H locs hw hP hD hS => ?_)
  have hw : r_3 = q_1.1 := hw
  subst hw
  refine lv_istore_n (lv' := [(2, .int q_1.1), (1, .int (((s.1 309 0) - 1))), (0, .ref ((a 109)))]) hx hb dn_Design_excess_17 rfl hl (by decide) rfl (fun ls hl => ?_)
  exact hd_18 N (((s.1 309 0) - 1)) q_1.1 q_1.2 hf H locs ls hP hD hS (lv_sub hl [2, 1, 0] rfl)
set_option maxHeartbeats 8000000 in
set_option maxRecDepth 100000 in
theorem ct_Design_excess_Dc (l : Launch) (dC : Nat → ClassId) (dI : Nat → Nat → Nat) (cI cB cJ cZ cQ : ClassId) (N sz : Nat) (a : Nat → Nat) (v : Nat → Value) (s : ms) (y : (Int32 × ms)) (hf : fn_Design_excess_Dc N s = some y) : Met l yn_Design_excess (xw yn_Design_excess bn_Design_excess 4 (some .int)) ({ frames := 2, cells := 0, slots := 0, locals := 61 }) (dc_P (dC, dI) xcl (xt cI cB cJ cZ cQ) [.ref ((a 113))] sz (wC a v cI cB cJ cZ cQ s)) (xk_Qi (dC, dI) xcl (xt cI cB cJ cZ cQ) (fun (r : Int32) (_ : Unit) => r = y.1) (fun u : Unit => (wC a v cI cB cJ cZ cQ y.2)) (va_A (wC a v cI cB cJ cZ cQ s) sz)) 0 0 (va_A (wC a v cI cB cJ cZ cQ s) sz) := by
  refine dc_of (QA := xk_Qi (dC, dI) xcl (xt cI cB cJ cZ cQ) (fun (r : Int32) (_ : Unit) => r = y.1) (fun u : Unit => (wC a v cI cB cJ cZ cQ y.2))) (by decide) (Nat.le_of_ble_eq_true rfl) ?_
  intro p e s0 m below meth c hx hb hml hown hg hr hlocks hin hP hK hN A hA hD hT ls hl
  have hown : s0.vm.findClass rn_Design = some m.cls := hown
  obtain ⟨H, hH⟩ : ∃ z, z = s0.heap := ⟨_, rfl⟩
  rw [← hH] at hP
  have hS : va_S A s0.heap H [] := by rw [hH]; exact va_S.rf
  suffices kk : ∀ QQ : State → Prop, QQ = MQ below (xk_Qi (dC, dI) xcl (xt cI cB cJ cZ cQ) (fun (r : Int32) (_ : Unit) => r = y.1) (fun u : Unit => (wC a v cI cB cJ cZ cQ y.2)) A) [.ref ((a 113))].toArray s0 0 0 A → dcC p l e ({ frames := 2, cells := 0, slots := 0, locals := 61 }) s0 m [.ref ((a 113))].toArray below meth c QQ (dC, dI) A (wC a v cI cB cJ cZ cQ s) 0 4 [(0, .ref ((a 113)))] [] by
    have k9 := kk _ rfl H [] ls hP hD hS hl
    rw [hH] at k9; exact k9
  clear hP hD hS hl hH H ls
  intro QQ hQQ
  have hd_18 : ∀ (n : Nat) (x1 : Int32) (x2 : Int32) (s : ms), hd_Design_excess_Dc_18 N n x1 x2 s = some y → dcC p l e ({ frames := 2, cells := 0, slots := 0, locals := 61 }) s0 m [.ref ((a 113))].toArray below meth c QQ (dC, dI) A (wC a v cI cB cJ cZ cQ s) 18 4 [(0, .ref ((a 113))), (1, .int x1), (2, .int x2)] [] := by
    intro n
    induction n with
    | zero => intro x1 x2 s hf; cases hf
    | succ n ih =>
      intro x1 x2 s hf H locs ls hP hD hS hl
      have hf : bd_Design_excess_Dc_18 N (hd_Design_excess_Dc_18 N n) x1 x2 s = some y := hf
      have hk_18 := ih
      generalize hd_Design_excess_Dc_18 N n = k_18 at hf hk_18
      unfold bd_Design_excess_Dc_18 at hf
      refine lv_iload_n hx hb dn_Design_excess_18 rfl (lv_at hl 2 rfl) ?_
      refine lv_aload_n hx hb dn_Design_excess_19 rfl (lv_at hl 0 rfl) ?_
      refine va_get (D := (dC, dI)) (ci := 10) (v := .ref ((a 114))) (C := rn_Design) (T := fn_Design) (N := 16) hx hb hg in_Design hown hK hP 13 rfl rfl 0 (by decide) (hg _ wn_2_234) (fun _ h9 => h9) rfl dn_Design_excess_20 ?_
      refine va_get (D := (dC, dI)) (ci := 11) (v := .int ((s.1 371 0))) (C := rn_Parts) (T := fn_Parts) (N := 15) hx hb hg in_Parts hown hK hP 14 rfl rfl 0 (by decide) (hg _ wn_2_124) (fun _ h9 => h9) rfl dn_Design_excess_23 ?_
      refine lv_icmp_ge (tgt := 67) hx hb dn_Design_excess_26 (by decide) (fun h => ?_) (fun h => ?_)
      · have hf := (if_pos h).symm.trans hf
        refine lv_aload_n hx hb dn_Design_excess_67 rfl (lv_at hl 0 rfl) ?_
        refine lv_iconst (v := 2) hx hb dn_Design_excess_68 (by decide) ?_
        refine lv_iload_n hx hb dn_Design_excess_69 rfl (lv_at hl 1 rfl) ?_
        obtain ⟨q_1, hc_2, hf⟩ := dc_b hf
        refine dc_calli (dc_runV (ar := 2) (As := [.int 2, .int x1]) (rest := []) (ci := 10) (q0 := 13) ⟨hx, hb, hml, hown, hg⟩ hK hN hT hS hA (ct_Design_sumOf_Dc l dC dI cI cB cJ cZ cQ N H.size a v 2 x1 s q_1 hc_2) hP hD rfl rfl wn_5_112 wn_5_113 wn_5_114 wn_1_10 wn_5_115 rfl rfl (by decide +kernel) ⟨Nat.le_of_ble_eq_true rfl, Nat.le_of_ble_eq_true rfl⟩ rfl hl.1 rfl (Nat.le_of_ble_eq_true rfl) dn_Design_excess_70 ⟨Nat.le_of_ble_eq_true rfl, Nat.le_of_ble_eq_true rfl⟩) hP hD hS hA (fun r_3 _ H locs hw hP hD hS => ?_)
        have hw : r_3 = q_1.1 := hw
        subst hw
        refine lv_istore_n (lv' := [(2, .int q_1.1), (0, .ref ((a 113))), (1, .int x1)]) hx hb dn_Design_excess_73 rfl hl (by decide) rfl (fun ls hl => ?_)
        refine lv_aload_n hx hb dn_Design_excess_74 rfl (lv_at hl 1 rfl) ?_
        refine lv_iconst (v := 4) hx hb dn_Design_excess_75 (by decide) ?_
        refine lv_iload_n hx hb dn_Design_excess_76 rfl (lv_at hl 2 rfl) ?_
        obtain ⟨q_4, hc_5, hf⟩ := dc_b hf
        refine dc_calli (dc_runV (ar := 2) (As := [.int 4, .int x1]) (rest := []) (ci := 10) (q0 := 13) ⟨hx, hb, hml, hown, hg⟩ hK hN hT hS hA (ct_Design_sumOf_Dc l dC dI cI cB cJ cZ cQ N H.size a v 4 x1 q_1.2 q_4 hc_5) hP hD rfl rfl wn_5_112 wn_5_113 wn_5_114 wn_1_10 wn_5_115 rfl rfl (by decide +kernel) ⟨Nat.le_of_ble_eq_true rfl, Nat.le_of_ble_eq_true rfl⟩ rfl hl.1 rfl (Nat.le_of_ble_eq_true rfl) dn_Design_excess_77 ⟨Nat.le_of_ble_eq_true rfl, Nat.le_of_ble_eq_true rfl⟩) hP hD hS hA (fun r_6 _ H locs hw hP hD hS => ?_)
        have hw : r_6 = q_4.1 := hw
        subst hw
        refine lv_istore_n (lv' := [(3, .int q_4.1), (2, .int q_1.1), (0, .ref ((a 113))), (1, .int x1)]) hx hb dn_Design_excess_80 rfl hl (by decide) rfl (fun ls hl => ?_)
        refine lv_aload_n hx hb dn_Design_excess_81 rfl (lv_at hl 2 rfl) ?_
        refine lv_iconst (v := 0) hx hb dn_Design_excess_82 (by decide) ?_
        refine lv_iload_n hx hb dn_Design_excess_83 rfl (lv_at hl 3 rfl) ?_
        obtain ⟨q_7, hc_8, hf⟩ := dc_b hf
        refine dc_calli (dc_runV (ar := 2) (As := [.int 0, .int x1]) (rest := []) (ci := 10) (q0 := 13) ⟨hx, hb, hml, hown, hg⟩ hK hN hT hS hA (ct_Design_sumOf_Dc l dC dI cI cB cJ cZ cQ N H.size a v 0 x1 q_4.2 q_7 hc_8) hP hD rfl rfl wn_5_112 wn_5_113 wn_5_114 wn_1_10 wn_5_115 rfl rfl (by decide +kernel) ⟨Nat.le_of_ble_eq_true rfl, Nat.le_of_ble_eq_true rfl⟩ rfl hl.1 rfl (Nat.le_of_ble_eq_true rfl) dn_Design_excess_84 ⟨Nat.le_of_ble_eq_true rfl, Nat.le_of_ble_eq_true rfl⟩) hP hD hS hA (fun r_9 _ H locs hw hP hD hS => ?_)
        have hw : r_9 = q_7.1 := hw
        subst hw
        refine lv_iconst (v := 1) hx hb dn_Design_excess_87 (by decide) ?_
        refine lv_isub hx hb dn_Design_excess_88 ?_
        refine lv_sipush (v := 256) hx hb dn_Design_excess_89 (by decide) ?_
        refine lv_icmp_le (tgt := 98) hx hb dn_Design_excess_92 (by decide) (fun h => ?_) (fun h => ?_)
        · have hf := (if_pos h).symm.trans hf
          refine lv_aload_n hx hb dn_Design_excess_98 rfl (lv_at hl 2 rfl) ?_
          refine lv_iconst (v := 1) hx hb dn_Design_excess_99 (by decide) ?_
          refine lv_iload_n hx hb dn_Design_excess_100 rfl (lv_at hl 3 rfl) ?_
          obtain ⟨q_10, hc_11, hf⟩ := dc_b hf
          refine dc_calli (dc_runV (ar := 2) (As := [.int 1, .int x1]) (rest := []) (ci := 10) (q0 := 13) ⟨hx, hb, hml, hown, hg⟩ hK hN hT hS hA (ct_Design_sumOf_Dc l dC dI cI cB cJ cZ cQ N H.size a v 1 x1 q_7.2 q_10 hc_11) hP hD rfl rfl wn_5_112 wn_5_113 wn_5_114 wn_1_10 wn_5_115 rfl rfl (by decide +kernel) ⟨Nat.le_of_ble_eq_true rfl, Nat.le_of_ble_eq_true rfl⟩ rfl hl.1 rfl (Nat.le_of_ble_eq_true rfl) dn_Design_excess_101 ⟨Nat.le_of_ble_eq_true rfl, Nat.le_of_ble_eq_true rfl⟩) hP hD hS hA (fun r_12 _ H locs hw hP hD hS => ?_)
          have hw : r_12 = q_10.1 := hw
          subst hw
          refine lv_sipush (v := 1024) hx hb dn_Design_excess_104 (by decide) ?_
          refine lv_icmp_le (tgt := 113) hx hb dn_Design_excess_107 (by decide) (fun h => ?_) (fun h => ?_)
          · have hf := (if_pos h).symm.trans hf
            refine lv_iload_n hx hb dn_Design_excess_113 rfl (lv_at hl 1 rfl) ?_
            refine lv_bipush (v := 12) hx hb dn_Design_excess_114 (by decide) ?_
            refine lv_icmp_le (tgt := 122) hx hb dn_Design_excess_116 (by decide) (fun h => ?_) (fun h => ?_)
            · have hf := (if_pos h).symm.trans hf
              refine lv_aload_n hx hb dn_Design_excess_122 rfl (lv_at hl 2 rfl) ?_
              refine va_get (D := (dC, dI)) (ci := 10) (v := .int ((q_10.2.1 360 0))) (C := rn_Design) (T := fn_Design) (N := 16) hx hb hg in_Design hown hK hP 13 rfl rfl 5 (by decide) (hg _ wn_3_13) (fun _ h9 => h9) rfl dn_Design_excess_123 ?_
              refine lv_bipush (v := 6) hx hb dn_Design_excess_126 (by decide) ?_
              refine lv_icmp_le (tgt := 134) hx hb dn_Design_excess_128 (by decide) (fun h => ?_) (fun h => ?_)
              · have hf := (if_pos h).symm.trans hf
                refine lv_iload_n hx hb dn_Design_excess_134 rfl (lv_at hl 0 rfl) ?_
                refine lv_sipush (v := 1500) hx hb dn_Design_excess_135 (by decide) ?_
                refine lv_icmp_le (tgt := 144) hx hb dn_Design_excess_138 (by decide) (fun h => ?_) (fun h => ?_)
                · have hf := (if_pos h).symm.trans hf
                  refine lv_lconst (v := 1) hx hb dn_Design_excess_144 (by decide) ?_
                  refine lv_iload_n hx hb dn_Design_excess_145 rfl (lv_at hl 1 rfl) ?_
                  refine lv_aload_n hx hb dn_Design_excess_146 rfl (lv_at hl 2 rfl) ?_
                  refine va_get (D := (dC, dI)) (ci := 10) (v := .int ((q_10.2.1 360 0))) (C := rn_Design) (T := fn_Design) (N := 16) hx hb hg in_Design hown hK hP 13 rfl rfl 5 (by decide) (hg _ wn_3_13) (fun _ h9 => h9) rfl dn_Design_excess_147 ?_
                  refine lv_iadd hx hb dn_Design_excess_150 ?_
                  refine lv_lshl (v := (1 : Int64) <<< ((Int32.toInt64 ((q_1.1 + (q_10.2.1 360 0)))) &&& 63)) hx hb dn_Design_excess_151 rfl ?_
                  refine lv_iconst (v := 1) hx hb dn_Design_excess_152 (by decide) ?_
                  refine lv_iload_n hx hb dn_Design_excess_153 rfl (lv_at hl 0 rfl) ?_
                  refine va_mmax (x := 1) (y := q_4.1) (rest := [.long (((1 : Int64) <<< ((Int32.toInt64 ((q_1.1 + (q_10.2.1 360 0)))) &&& 63)))]) hx hb (by rw [hml]; exact hl.1.symm) hown (hg _ wn_6_166) (hg _ wn_4_99) (hg _ wn_1_19) (hg _ wn_4_100) (Nat.le_of_ble_eq_true rfl) (Nat.le_of_ble_eq_true rfl) (Nat.zero_le _) (Nat.zero_le _) dn_Design_excess_154 ?_
                  refine lv_i2l (v := Int32.toInt64 ((if 1 < q_4.1 then q_4.1 else 1))) hx hb dn_Design_excess_157 rfl ?_
                  refine lv_lmul hx hb dn_Design_excess_158 ?_
                  refine lv_ldc2 hx hb hown (hg _ wn_6_167) dn_Design_excess_159 ?_
                  refine W.lcmp hx hb dn_Design_excess_162 ?_
                  refine lv_if_le (tgt := 171) hx hb dn_Design_excess_163 (by decide) (fun h => ?_) (fun h => ?_)
                  · have hf := (if_pos h).symm.trans hf
                    refine lv_iconst (v := 0) hx hb dn_Design_excess_171 (by decide) ?_
                    rw [hQQ, ← Option.some.inj hf]
                    exact xk_iret (w1 := fun u : Unit => (wC a v cI cB cJ cZ cQ q_10.2)) () hx hb hr hlocks hK hS dn_Design_excess_172 hP hD rfl (Nat.le_refl _) (Nat.le_refl _)
                  · have hf := (if_neg h).symm.trans hf
                    refine lv_bipush (v := 46) hx hb dn_Design_excess_166 (by decide) ?_
                    refine lv_goto (tgt := 172) hx hb dn_Design_excess_168 (by decide) ?_
                    rw [hQQ, ← Option.some.inj hf]
                    exact xk_iret (w1 := fun u : Unit => (wC a v cI cB cJ cZ cQ q_10.2)) () hx hb hr hlocks hK hS dn_Design_excess_172 hP hD rfl (Nat.le_refl _) (Nat.le_refl _)
                · have hf := (if_neg h).symm.trans hf
                  refine lv_bipush (v := 44) hx hb dn_Design_excess_141 (by decide) ?_
                  rw [hQQ, ← Option.some.inj hf]
                  exact xk_iret (w1 := fun u : Unit => (wC a v cI cB cJ cZ cQ q_10.2)) () hx hb hr hlocks hK hS dn_Design_excess_143 hP hD rfl (Nat.le_refl _) (Nat.le_refl _)
              · have hf := (if_neg h).symm.trans hf
                refine lv_bipush (v := 43) hx hb dn_Design_excess_131 (by decide) ?_
                rw [hQQ, ← Option.some.inj hf]
                exact xk_iret (w1 := fun u : Unit => (wC a v cI cB cJ cZ cQ q_10.2)) () hx hb hr hlocks hK hS dn_Design_excess_133 hP hD rfl (Nat.le_refl _) (Nat.le_refl _)
            · have hf := (if_neg h).symm.trans hf
              refine lv_bipush (v := 42) hx hb dn_Design_excess_119 (by decide) ?_
              rw [hQQ, ← Option.some.inj hf]
              exact xk_iret (w1 := fun u : Unit => (wC a v cI cB cJ cZ cQ q_10.2)) () hx hb hr hlocks hK hS dn_Design_excess_121 hP hD rfl (Nat.le_refl _) (Nat.le_refl _)
          · have hf := (if_neg h).symm.trans hf
            refine lv_bipush (v := 41) hx hb dn_Design_excess_110 (by decide) ?_
            rw [hQQ, ← Option.some.inj hf]
            exact xk_iret (w1 := fun u : Unit => (wC a v cI cB cJ cZ cQ q_10.2)) () hx hb hr hlocks hK hS dn_Design_excess_112 hP hD rfl (Nat.le_refl _) (Nat.le_refl _)
        · have hf := (if_neg h).symm.trans hf
          refine lv_bipush (v := 40) hx hb dn_Design_excess_95 (by decide) ?_
          rw [hQQ, ← Option.some.inj hf]
          exact xk_iret (w1 := fun u : Unit => (wC a v cI cB cJ cZ cQ q_7.2)) () hx hb hr hlocks hK hS dn_Design_excess_97 hP hD rfl (Nat.le_refl _) (Nat.le_refl _)
      · have hf := (if_neg h).symm.trans hf
        refine lv_aload_n hx hb dn_Design_excess_29 rfl (lv_at hl 0 rfl) ?_
        refine va_get (D := (dC, dI)) (ci := 10) (v := .ref ((a 114))) (C := rn_Design) (T := fn_Design) (N := 16) hx hb hg in_Design hown hK hP 13 rfl rfl 0 (by decide) (hg _ wn_2_234) (fun _ h9 => h9) rfl dn_Design_excess_30 ?_
        refine va_get (D := (dC, dI)) (ci := 11) (v := .ref ((a 374))) (C := rn_Parts) (T := fn_Parts) (N := 15) hx hb hg in_Parts hown hK hP 14 rfl rfl 3 (by decide) (hg _ wn_2_138) (fun _ h9 => h9) rfl dn_Design_excess_33 ?_
        refine lv_iload_n hx hb dn_Design_excess_36 rfl (lv_at hl 2 rfl) ?_
        obtain ⟨hg_1, hf⟩ := dc_g hf
        refine va_iald hx hb hK hP 97 0 rfl rfl hg_1 dn_Design_excess_37 ?_
        refine xk_ti (y := ((s.1 374) (Int32.toNatClampNeg x2))) rfl ?_
        refine lv_if_ne (tgt := 61) hx hb dn_Design_excess_38 (by decide) (fun h => ?_) (fun h => ?_)
        · have hf := (if_neg h).symm.trans hf
          refine lv_iinc (v := (x2 + 1)) (lv' := [(2, .int ((x2 + 1))), (0, .ref ((a 113))), (1, .int x1)]) hx hb dn_Design_excess_61 hl (k := 2) rfl (dc_inc (by decide)) (by decide) rfl (fun ls hl => ?_)
          refine lv_goto (tgt := 18) hx hb dn_Design_excess_64 (by decide) ?_
          exact hk_18 x1 ((x2 + 1)) s hf H locs ls hP hD hS (lv_sub hl [1, 2, 0] rfl)
        · have hf := (if_pos h).symm.trans hf
          refine lv_aload_n hx hb dn_Design_excess_41 rfl (lv_at hl 0 rfl) ?_
          refine lv_aload_n hx hb dn_Design_excess_42 rfl (lv_at hl 0 rfl) ?_
          refine va_get (D := (dC, dI)) (ci := 10) (v := .int ((s.1 360 0))) (C := rn_Design) (T := fn_Design) (N := 16) hx hb hg in_Design hown hK hP 13 rfl rfl 5 (by decide) (hg _ wn_3_13) (fun _ h9 => h9) rfl dn_Design_excess_43 ?_
          refine lv_aload_n hx hb dn_Design_excess_46 rfl (lv_at hl 0 rfl) ?_
          refine va_get (D := (dC, dI)) (ci := 10) (v := .ref ((a 114))) (C := rn_Design) (T := fn_Design) (N := 16) hx hb hg in_Design hown hK hP 13 rfl rfl 0 (by decide) (hg _ wn_2_234) (fun _ h9 => h9) rfl dn_Design_excess_47 ?_
          refine va_get (D := (dC, dI)) (ci := 11) (v := .ref ((a 373))) (C := rn_Parts) (T := fn_Parts) (N := 15) hx hb hg in_Parts hown hK hP 14 rfl rfl 2 (by decide) (hg _ wn_2_133) (fun _ h9 => h9) rfl dn_Design_excess_50 ?_
          refine lv_iload_n hx hb dn_Design_excess_53 rfl (lv_at hl 2 rfl) ?_
          obtain ⟨hg_2, hf⟩ := dc_g hf
          refine va_iald hx hb hK hP 96 0 rfl rfl hg_2 dn_Design_excess_54 ?_
          refine xk_ti (y := ((s.1 373) (Int32.toNatClampNeg x2))) rfl ?_
          obtain ⟨q_3, hc_4, hf⟩ := dc_b hf
          refine dc_calli (dc_runSN (ar := 2) (As := [.int ((s.1 360 0)), .int (((s.1 373) (Int32.toNatClampNeg x2)))]) (rest := [.ref ((a 113))]) (host := "CircuitCycles") ⟨hx, hb, hml, hown, hg⟩ hK hN hT hS hA (ct_C_capped l dC dI cI cB cJ cZ cQ N H.size a v ((s.1 360 0)) (((s.1 373) (Int32.toNatClampNeg x2))) s q_3 hc_4) hP hD nl_Design_105 wn_5_108 wn_1_1 wn_5_109 rfl rfl (by decide +kernel) ⟨Nat.le_of_ble_eq_true rfl, Nat.le_of_ble_eq_true rfl⟩ rfl hl.1 rfl (Nat.le_of_ble_eq_true rfl) dn_Design_excess_55 ⟨Nat.le_of_ble_eq_true rfl, Nat.le_of_ble_eq_true rfl⟩) hP hD hS hA (fun r_5 _ H locs hw hP hD hS => ?_)
          have hw : r_5 = q_3.1 := hw
          subst hw
          refine va_put (D := (dC, dI)) (ci := 10) (v := .int q_3.1) (ty := .int) (C := rn_Design) (T := fn_Design) (N := 16) hx hb hg in_Design tn_Design tk_Design nn_Design hown hK hP hD hS 13 rfl rfl 5 (by decide) (hg _ wn_3_13) (fun _ h9 => h9) rfl (tk_Design 5 (by decide)) rfl rfl (Nat.le_of_ble_eq_true rfl) dn_Design_excess_58 (fun H locs hP hD hS => ?_)
          have hP := wC_P_360 hP
          have hD := wC_D_360 hD
          refine lv_iinc (v := (x2 + 1)) (lv' := [(2, .int ((x2 + 1))), (0, .ref ((a 113))), (1, .int x1)]) hx hb dn_Design_excess_61 hl (k := 2) rfl (dc_inc (by decide)) (by decide) rfl (fun ls hl => ?_)
          refine lv_goto (tgt := 18) hx hb dn_Design_excess_64 (by decide) ?_
          exact hk_18 x1 ((x2 + 1)) (upI q_3.2 360 (fun _ => q_3.1)) hf H locs ls hP hD hS (lv_sub hl [1, 2, 0] rfl)
  intro H locs ls hP hD hS hl
  unfold fn_Design_excess_Dc at hf
  refine lv_aload_n hx hb dn_Design_excess_0 rfl (lv_at hl 0 rfl) ?_
  refine va_get (D := (dC, dI)) (ci := 10) (v := .int ((s.1 359 0))) (C := rn_Design) (T := fn_Design) (N := 16) hx hb hg in_Design hown hK hP 13 rfl rfl 4 (by decide) (hg _ wn_3_10) (fun _ h9 => h9) rfl dn_Design_excess_1 ?_
  refine lv_iconst (v := 1) hx hb dn_Design_excess_4 (by decide) ?_
  refine lv_isub hx hb dn_Design_excess_5 ?_
  refine lv_istore_n (lv' := [(1, .int (((s.1 359 0) - 1))), (0, .ref ((a 113)))]) hx hb dn_Design_excess_6 rfl hl (by decide) rfl (fun ls hl => ?_)
  refine lv_aload_n hx hb dn_Design_excess_7 rfl (lv_at hl 1 rfl) ?_
  refine lv_iconst (v := 0) hx hb dn_Design_excess_8 (by decide) ?_
  refine va_put (D := (dC, dI)) (ci := 10) (v := .int 0) (ty := .int) (C := rn_Design) (T := fn_Design) (N := 16) hx hb hg in_Design tn_Design tk_Design nn_Design hown hK hP hD hS 13 rfl rfl 5 (by decide) (hg _ wn_3_13) (fun _ h9 => h9) rfl (tk_Design 5 (by decide)) rfl rfl (Nat.le_of_ble_eq_true rfl) dn_Design_excess_9 (fun H locs hP hD hS => ?_)
  have hP := wC_P_360 hP
  have hD := wC_D_360 hD
  refine lv_aload_n hx hb dn_Design_excess_12 rfl (lv_at hl 1 rfl) ?_
  refine lv_iload_n hx hb dn_Design_excess_13 rfl (lv_at hl 0 rfl) ?_
  obtain ⟨q_1, hc_2, hf⟩ := dc_b hf
  refine dc_calli (dc_runV (ar := 1) (As := [.int (((s.1 359 0) - 1))]) (rest := []) (ci := 10) (q0 := 13) ⟨hx, hb, hml, hown, hg⟩ hK hN hT hS hA (ct_Design_firstDecl_Dc l dC dI cI cB cJ cZ cQ N H.size a v (((s.1 359 0) - 1)) (upI s 360 (fun _ => 0)) q_1 hc_2) hP hD rfl rfl wn_6_165 wn_5_100 wn_5_101 wn_1_10 wn_5_102 rfl rfl (by decide +kernel) ⟨Nat.le_of_ble_eq_true rfl, Nat.le_of_ble_eq_true rfl⟩ rfl hl.1 rfl (Nat.le_of_ble_eq_true rfl) dn_Design_excess_14 ⟨Nat.le_of_ble_eq_true rfl, Nat.le_of_ble_eq_true rfl⟩) hP hD hS hA (fun r_3 _ H locs hw hP hD hS => ?_)
  have hw : r_3 = q_1.1 := hw
  subst hw
  refine lv_istore_n (lv' := [(2, .int q_1.1), (1, .int (((s.1 359 0) - 1))), (0, .ref ((a 113)))]) hx hb dn_Design_excess_17 rfl hl (by decide) rfl (fun ls hl => ?_)
  exact hd_18 N (((s.1 359 0) - 1)) q_1.1 q_1.2 hf H locs ls hP hD hS (lv_sub hl [2, 1, 0] rfl)
set_option maxHeartbeats 8000000 in
set_option maxRecDepth 100000 in
theorem ct_Design_topPlace_Ds (l : Launch) (dC : Nat → ClassId) (dI : Nat → Nat → Nat) (cI cB cJ cZ cQ : ClassId) (N sz : Nat) (a : Nat → Nat) (v : Nat → Value) (s : ms) (y : (Int32 × ms)) (hf : fn_Design_topPlace_Ds N s = some y) : Met l yn_Design_topPlace (xw yn_Design_topPlace bn_Design_topPlace 1 (some .int)) ({ frames := 0, cells := 0, slots := 0, locals := 0 }) (dc_P (dC, dI) xcl (xt cI cB cJ cZ cQ) [.ref ((a 109))] sz (wC a v cI cB cJ cZ cQ s)) (xk_Qi (dC, dI) xcl (xt cI cB cJ cZ cQ) (fun (r : Int32) (_ : Unit) => r = y.1) (fun u : Unit => (wC a v cI cB cJ cZ cQ y.2)) (va_A (wC a v cI cB cJ cZ cQ s) sz)) 0 0 (va_A (wC a v cI cB cJ cZ cQ s) sz) := by
  refine dc_of (QA := xk_Qi (dC, dI) xcl (xt cI cB cJ cZ cQ) (fun (r : Int32) (_ : Unit) => r = y.1) (fun u : Unit => (wC a v cI cB cJ cZ cQ y.2))) (by decide) (Nat.le_of_ble_eq_true rfl) ?_
  intro p e s0 m below meth c hx hb hml hown hg hr hlocks hin hP hK hN A hA hD hT ls hl
  have hown : s0.vm.findClass rn_Design = some m.cls := hown
  obtain ⟨H, hH⟩ : ∃ z, z = s0.heap := ⟨_, rfl⟩
  rw [← hH] at hP
  have hS : va_S A s0.heap H [] := by rw [hH]; exact va_S.rf
  suffices kk : ∀ QQ : State → Prop, QQ = MQ below (xk_Qi (dC, dI) xcl (xt cI cB cJ cZ cQ) (fun (r : Int32) (_ : Unit) => r = y.1) (fun u : Unit => (wC a v cI cB cJ cZ cQ y.2)) A) [.ref ((a 109))].toArray s0 0 0 A → dcC p l e ({ frames := 0, cells := 0, slots := 0, locals := 0 }) s0 m [.ref ((a 109))].toArray below meth c QQ (dC, dI) A (wC a v cI cB cJ cZ cQ s) 0 1 [(0, .ref ((a 109)))] [] by
    have k9 := kk _ rfl H [] ls hP hD hS hl
    rw [hH] at k9; exact k9
  clear hP hD hS hl hH H ls
  intro QQ hQQ
  intro H locs ls hP hD hS hl
  unfold fn_Design_topPlace_Ds at hf
  refine lv_aload_n hx hb dn_Design_topPlace_0 rfl (lv_at hl 0 rfl) ?_
  refine va_get (D := (dC, dI)) (ci := 10) (v := .int ((s.1 309 0))) (C := rn_Design) (T := fn_Design) (N := 16) hx hb hg in_Design hown hK hP 9 rfl rfl 4 (by decide) (hg _ wn_3_10) (fun _ h9 => h9) rfl dn_Design_topPlace_1 ?_
  refine lv_if_le (tgt := 21) hx hb dn_Design_topPlace_4 (by decide) (fun h => ?_) (fun h => ?_)
  · have hf := (if_pos h).symm.trans hf
    refine lv_iconst (v := (-1)) hx hb dn_Design_topPlace_21 (by decide) ?_
    rw [hQQ, ← Option.some.inj hf]
    exact xk_iret (w1 := fun u : Unit => (wC a v cI cB cJ cZ cQ s)) () hx hb hr hlocks hK hS dn_Design_topPlace_22 hP hD rfl (Nat.le_refl _) (Nat.le_refl _)
  · have hf := (if_neg h).symm.trans hf
    refine lv_aload_n hx hb dn_Design_topPlace_7 rfl (lv_at hl 0 rfl) ?_
    refine va_get (D := (dC, dI)) (ci := 10) (v := .ref ((a 311))) (C := rn_Design) (T := fn_Design) (N := 16) hx hb hg in_Design hown hK hP 9 rfl rfl 6 (by decide) (hg _ wn_3_15) (fun _ h9 => h9) rfl dn_Design_topPlace_8 ?_
    refine lv_aload_n hx hb dn_Design_topPlace_11 rfl (lv_at hl 0 rfl) ?_
    refine va_get (D := (dC, dI)) (ci := 10) (v := .int ((s.1 309 0))) (C := rn_Design) (T := fn_Design) (N := 16) hx hb hg in_Design hown hK hP 9 rfl rfl 4 (by decide) (hg _ wn_3_10) (fun _ h9 => h9) rfl dn_Design_topPlace_12 ?_
    refine lv_iconst (v := 1) hx hb dn_Design_topPlace_15 (by decide) ?_
    refine lv_isub hx hb dn_Design_topPlace_16 ?_
    obtain ⟨hg_1, hf⟩ := dc_g hf
    refine va_iald hx hb hK hP 53 0 rfl rfl hg_1 dn_Design_topPlace_17 ?_
    refine xk_ti (y := ((s.1 311) (Int32.toNatClampNeg (((s.1 309 0) - 1))))) rfl ?_
    refine lv_goto (tgt := 22) hx hb dn_Design_topPlace_18 (by decide) ?_
    rw [hQQ, ← Option.some.inj hf]
    exact xk_iret (w1 := fun u : Unit => (wC a v cI cB cJ cZ cQ s)) () hx hb hr hlocks hK hS dn_Design_topPlace_22 hP hD rfl (Nat.le_refl _) (Nat.le_refl _)
set_option maxHeartbeats 8000000 in
set_option maxRecDepth 100000 in
theorem ct_Design_topPlace_Dc (l : Launch) (dC : Nat → ClassId) (dI : Nat → Nat → Nat) (cI cB cJ cZ cQ : ClassId) (N sz : Nat) (a : Nat → Nat) (v : Nat → Value) (s : ms) (y : (Int32 × ms)) (hf : fn_Design_topPlace_Dc N s = some y) : Met l yn_Design_topPlace (xw yn_Design_topPlace bn_Design_topPlace 1 (some .int)) ({ frames := 0, cells := 0, slots := 0, locals := 0 }) (dc_P (dC, dI) xcl (xt cI cB cJ cZ cQ) [.ref ((a 113))] sz (wC a v cI cB cJ cZ cQ s)) (xk_Qi (dC, dI) xcl (xt cI cB cJ cZ cQ) (fun (r : Int32) (_ : Unit) => r = y.1) (fun u : Unit => (wC a v cI cB cJ cZ cQ y.2)) (va_A (wC a v cI cB cJ cZ cQ s) sz)) 0 0 (va_A (wC a v cI cB cJ cZ cQ s) sz) := by
  refine dc_of (QA := xk_Qi (dC, dI) xcl (xt cI cB cJ cZ cQ) (fun (r : Int32) (_ : Unit) => r = y.1) (fun u : Unit => (wC a v cI cB cJ cZ cQ y.2))) (by decide) (Nat.le_of_ble_eq_true rfl) ?_
  intro p e s0 m below meth c hx hb hml hown hg hr hlocks hin hP hK hN A hA hD hT ls hl
  have hown : s0.vm.findClass rn_Design = some m.cls := hown
  obtain ⟨H, hH⟩ : ∃ z, z = s0.heap := ⟨_, rfl⟩
  rw [← hH] at hP
  have hS : va_S A s0.heap H [] := by rw [hH]; exact va_S.rf
  suffices kk : ∀ QQ : State → Prop, QQ = MQ below (xk_Qi (dC, dI) xcl (xt cI cB cJ cZ cQ) (fun (r : Int32) (_ : Unit) => r = y.1) (fun u : Unit => (wC a v cI cB cJ cZ cQ y.2)) A) [.ref ((a 113))].toArray s0 0 0 A → dcC p l e ({ frames := 0, cells := 0, slots := 0, locals := 0 }) s0 m [.ref ((a 113))].toArray below meth c QQ (dC, dI) A (wC a v cI cB cJ cZ cQ s) 0 1 [(0, .ref ((a 113)))] [] by
    have k9 := kk _ rfl H [] ls hP hD hS hl
    rw [hH] at k9; exact k9
  clear hP hD hS hl hH H ls
  intro QQ hQQ
  intro H locs ls hP hD hS hl
  unfold fn_Design_topPlace_Dc at hf
  refine lv_aload_n hx hb dn_Design_topPlace_0 rfl (lv_at hl 0 rfl) ?_
  refine va_get (D := (dC, dI)) (ci := 10) (v := .int ((s.1 359 0))) (C := rn_Design) (T := fn_Design) (N := 16) hx hb hg in_Design hown hK hP 13 rfl rfl 4 (by decide) (hg _ wn_3_10) (fun _ h9 => h9) rfl dn_Design_topPlace_1 ?_
  refine lv_if_le (tgt := 21) hx hb dn_Design_topPlace_4 (by decide) (fun h => ?_) (fun h => ?_)
  · have hf := (if_pos h).symm.trans hf
    refine lv_iconst (v := (-1)) hx hb dn_Design_topPlace_21 (by decide) ?_
    rw [hQQ, ← Option.some.inj hf]
    exact xk_iret (w1 := fun u : Unit => (wC a v cI cB cJ cZ cQ s)) () hx hb hr hlocks hK hS dn_Design_topPlace_22 hP hD rfl (Nat.le_refl _) (Nat.le_refl _)
  · have hf := (if_neg h).symm.trans hf
    refine lv_aload_n hx hb dn_Design_topPlace_7 rfl (lv_at hl 0 rfl) ?_
    refine va_get (D := (dC, dI)) (ci := 10) (v := .ref ((a 361))) (C := rn_Design) (T := fn_Design) (N := 16) hx hb hg in_Design hown hK hP 13 rfl rfl 6 (by decide) (hg _ wn_3_15) (fun _ h9 => h9) rfl dn_Design_topPlace_8 ?_
    refine lv_aload_n hx hb dn_Design_topPlace_11 rfl (lv_at hl 0 rfl) ?_
    refine va_get (D := (dC, dI)) (ci := 10) (v := .int ((s.1 359 0))) (C := rn_Design) (T := fn_Design) (N := 16) hx hb hg in_Design hown hK hP 13 rfl rfl 4 (by decide) (hg _ wn_3_10) (fun _ h9 => h9) rfl dn_Design_topPlace_12 ?_
    refine lv_iconst (v := 1) hx hb dn_Design_topPlace_15 (by decide) ?_
    refine lv_isub hx hb dn_Design_topPlace_16 ?_
    obtain ⟨hg_1, hf⟩ := dc_g hf
    refine va_iald hx hb hK hP 87 0 rfl rfl hg_1 dn_Design_topPlace_17 ?_
    refine xk_ti (y := ((s.1 361) (Int32.toNatClampNeg (((s.1 359 0) - 1))))) rfl ?_
    refine lv_goto (tgt := 22) hx hb dn_Design_topPlace_18 (by decide) ?_
    rw [hQQ, ← Option.some.inj hf]
    exact xk_iret (w1 := fun u : Unit => (wC a v cI cB cJ cZ cQ s)) () hx hb hr hlocks hK hS dn_Design_topPlace_22 hP hD rfl (Nat.le_refl _) (Nat.le_refl _)
set_option maxHeartbeats 8000000 in
set_option maxRecDepth 100000 in
theorem ct_Design_sumOfTop_Ds (l : Launch) (dC : Nat → ClassId) (dI : Nat → Nat → Nat) (cI cB cJ cZ cQ : ClassId) (N sz : Nat) (a : Nat → Nat) (v : Nat → Value) (v1 : Int32) (s : ms) (y : (Int32 × ms)) (hf : fn_Design_sumOfTop_Ds N v1 s = some y) : Met l yn_Design_sumOfTop (xw yn_Design_sumOfTop bn_Design_sumOfTop 2 (some .int)) ({ frames := 2, cells := 0, slots := 0, locals := 43 }) (dc_P (dC, dI) xcl (xt cI cB cJ cZ cQ) [.ref ((a 109)), .int v1] sz (wC a v cI cB cJ cZ cQ s)) (xk_Qi (dC, dI) xcl (xt cI cB cJ cZ cQ) (fun (r : Int32) (_ : Unit) => r = y.1) (fun u : Unit => (wC a v cI cB cJ cZ cQ y.2)) (va_A (wC a v cI cB cJ cZ cQ s) sz)) 0 0 (va_A (wC a v cI cB cJ cZ cQ s) sz) := by
  refine dc_of (QA := xk_Qi (dC, dI) xcl (xt cI cB cJ cZ cQ) (fun (r : Int32) (_ : Unit) => r = y.1) (fun u : Unit => (wC a v cI cB cJ cZ cQ y.2))) (by decide) (Nat.le_of_ble_eq_true rfl) ?_
  intro p e s0 m below meth c hx hb hml hown hg hr hlocks hin hP hK hN A hA hD hT ls hl
  have hown : s0.vm.findClass rn_Design = some m.cls := hown
  obtain ⟨H, hH⟩ : ∃ z, z = s0.heap := ⟨_, rfl⟩
  rw [← hH] at hP
  have hS : va_S A s0.heap H [] := by rw [hH]; exact va_S.rf
  suffices kk : ∀ QQ : State → Prop, QQ = MQ below (xk_Qi (dC, dI) xcl (xt cI cB cJ cZ cQ) (fun (r : Int32) (_ : Unit) => r = y.1) (fun u : Unit => (wC a v cI cB cJ cZ cQ y.2)) A) [.ref ((a 109)), .int v1].toArray s0 0 0 A → dcC p l e ({ frames := 2, cells := 0, slots := 0, locals := 43 }) s0 m [.ref ((a 109)), .int v1].toArray below meth c QQ (dC, dI) A (wC a v cI cB cJ cZ cQ s) 0 2 [(0, .ref ((a 109))), (1, .int v1)] [] by
    have k9 := kk _ rfl H [] ls hP hD hS hl
    rw [hH] at k9; exact k9
  clear hP hD hS hl hH H ls
  intro QQ hQQ
  intro H locs ls hP hD hS hl
  unfold fn_Design_sumOfTop_Ds at hf
  refine lv_aload_n hx hb dn_Design_sumOfTop_0 rfl (lv_at hl 0 rfl) ?_
  refine lv_iload_n hx hb dn_Design_sumOfTop_1 rfl (lv_at hl 1 rfl) ?_
  refine lv_aload_n hx hb dn_Design_sumOfTop_2 rfl (lv_at hl 0 rfl) ?_
  refine va_get (D := (dC, dI)) (ci := 10) (v := .int ((s.1 309 0))) (C := rn_Design) (T := fn_Design) (N := 16) hx hb hg in_Design hown hK hP 9 rfl rfl 4 (by decide) (hg _ wn_3_10) (fun _ h9 => h9) rfl dn_Design_sumOfTop_3 ?_
  refine lv_iconst (v := 1) hx hb dn_Design_sumOfTop_6 (by decide) ?_
  refine lv_isub hx hb dn_Design_sumOfTop_7 ?_
  obtain ⟨q_1, hc_2, hf⟩ := dc_b hf
  refine dc_calli (dc_runV (ar := 2) (As := [.int v1, .int (((s.1 309 0) - 1))]) (rest := []) (ci := 10) (q0 := 9) ⟨hx, hb, hml, hown, hg⟩ hK hN hT hS hA (ct_Design_sumOf_Ds l dC dI cI cB cJ cZ cQ N H.size a v v1 (((s.1 309 0) - 1)) s q_1 hc_2) hP hD rfl rfl wn_5_112 wn_5_113 wn_5_114 wn_1_10 wn_5_115 rfl rfl (by decide +kernel) ⟨Nat.le_of_ble_eq_true rfl, Nat.le_of_ble_eq_true rfl⟩ rfl hl.1 rfl (Nat.le_of_ble_eq_true rfl) dn_Design_sumOfTop_8 ⟨Nat.le_of_ble_eq_true rfl, Nat.le_of_ble_eq_true rfl⟩) hP hD hS hA (fun r_3 _ H locs hw hP hD hS => ?_)
  have hw : r_3 = q_1.1 := hw
  subst hw
  rw [hQQ, ← Option.some.inj hf]
  exact xk_iret (w1 := fun u : Unit => (wC a v cI cB cJ cZ cQ q_1.2)) () hx hb hr hlocks hK hS dn_Design_sumOfTop_11 hP hD rfl (Nat.le_refl _) (Nat.le_refl _)
set_option maxHeartbeats 8000000 in
set_option maxRecDepth 100000 in
theorem ct_Circuit_ownSignals_Cs (l : Launch) (dC : Nat → ClassId) (dI : Nat → Nat → Nat) (cI cB cJ cZ cQ : ClassId) (N sz : Nat) (a : Nat → Nat) (v : Nat → Value) (v1 : Int32) (s : ms) (y : (Int32 × ms)) (hf : fn_Circuit_ownSignals_Cs N v1 s = some y) : Met l yn_Circuit_ownSignals (xw yn_Circuit_ownSignals bn_Circuit_ownSignals 2 (some .int)) ({ frames := 2, cells := 0, slots := 0, locals := 42 }) (dc_P (dC, dI) xcl (xt cI cB cJ cZ cQ) [.ref ((a 108)), .int v1] sz (wC a v cI cB cJ cZ cQ s)) (xk_Qi (dC, dI) xcl (xt cI cB cJ cZ cQ) (fun (r : Int32) (_ : Unit) => r = y.1) (fun u : Unit => (wC a v cI cB cJ cZ cQ y.2)) (va_A (wC a v cI cB cJ cZ cQ s) sz)) 0 0 (va_A (wC a v cI cB cJ cZ cQ s) sz) := by
  refine dc_of (QA := xk_Qi (dC, dI) xcl (xt cI cB cJ cZ cQ) (fun (r : Int32) (_ : Unit) => r = y.1) (fun u : Unit => (wC a v cI cB cJ cZ cQ y.2))) (by decide) (Nat.le_of_ble_eq_true rfl) ?_
  intro p e s0 m below meth c hx hb hml hown hg hr hlocks hin hP hK hN A hA hD hT ls hl
  have hown : s0.vm.findClass rn_Circuit = some m.cls := hown
  obtain ⟨H, hH⟩ : ∃ z, z = s0.heap := ⟨_, rfl⟩
  rw [← hH] at hP
  have hS : va_S A s0.heap H [] := by rw [hH]; exact va_S.rf
  suffices kk : ∀ QQ : State → Prop, QQ = MQ below (xk_Qi (dC, dI) xcl (xt cI cB cJ cZ cQ) (fun (r : Int32) (_ : Unit) => r = y.1) (fun u : Unit => (wC a v cI cB cJ cZ cQ y.2)) A) [.ref ((a 108)), .int v1].toArray s0 0 0 A → dcC p l e ({ frames := 2, cells := 0, slots := 0, locals := 42 }) s0 m [.ref ((a 108)), .int v1].toArray below meth c QQ (dC, dI) A (wC a v cI cB cJ cZ cQ s) 0 2 [(0, .ref ((a 108))), (1, .int v1)] [] by
    have k9 := kk _ rfl H [] ls hP hD hS hl
    rw [hH] at k9; exact k9
  clear hP hD hS hl hH H ls
  intro QQ hQQ
  intro H locs ls hP hD hS hl
  unfold fn_Circuit_ownSignals_Cs at hf
  refine lv_aload_n hx hb dn_Circuit_ownSignals_0 rfl (lv_at hl 0 rfl) ?_
  refine va_get (D := (dC, dI)) (ci := 9) (v := .ref ((a 109))) (C := rn_Circuit) (T := fn_Circuit) (N := 14) hx hb hg in_Circuit hown hK hP 8 rfl rfl 0 (by decide) (hg _ wn_3_61) (fun _ h9 => h9) rfl dn_Circuit_ownSignals_1 ?_
  refine lv_iload_n hx hb dn_Circuit_ownSignals_4 rfl (lv_at hl 1 rfl) ?_
  refine lv_iconst (v := 1) hx hb dn_Circuit_ownSignals_5 (by decide) ?_
  refine lv_iadd hx hb dn_Circuit_ownSignals_6 ?_
  obtain ⟨q_1, hc_2, hf⟩ := dc_b hf
  refine dc_calli (dc_runV (ar := 1) (As := [.int ((v1 + 1))]) (rest := []) (ci := 10) (q0 := 9) ⟨hx, hb, hml, hown, hg⟩ hK hN hT hS hA (ct_Design_firstDecl_Ds l dC dI cI cB cJ cZ cQ N H.size a v ((v1 + 1)) s q_1 hc_2) hP hD rfl rfl wn_6_189 wn_5_100 wn_5_101 wn_1_10 wn_5_102 rfl rfl (by decide +kernel) ⟨Nat.le_of_ble_eq_true rfl, Nat.le_of_ble_eq_true rfl⟩ rfl hl.1 rfl (Nat.le_of_ble_eq_true rfl) dn_Circuit_ownSignals_7 ⟨Nat.le_of_ble_eq_true rfl, Nat.le_of_ble_eq_true rfl⟩) hP hD hS hA (fun r_3 _ H locs hw hP hD hS => ?_)
  have hw : r_3 = q_1.1 := hw
  subst hw
  refine lv_aload_n hx hb dn_Circuit_ownSignals_10 rfl (lv_at hl 0 rfl) ?_
  refine va_get (D := (dC, dI)) (ci := 9) (v := .ref ((a 109))) (C := rn_Circuit) (T := fn_Circuit) (N := 14) hx hb hg in_Circuit hown hK hP 8 rfl rfl 0 (by decide) (hg _ wn_3_61) (fun _ h9 => h9) rfl dn_Circuit_ownSignals_11 ?_
  refine lv_iload_n hx hb dn_Circuit_ownSignals_14 rfl (lv_at hl 1 rfl) ?_
  obtain ⟨q_4, hc_5, hf⟩ := dc_b hf
  refine dc_calli (dc_runV (ar := 1) (As := [.int v1]) (rest := [.int q_1.1]) (ci := 10) (q0 := 9) ⟨hx, hb, hml, hown, hg⟩ hK hN hT hS hA (ct_Design_firstDecl_Ds l dC dI cI cB cJ cZ cQ N H.size a v v1 q_1.2 q_4 hc_5) hP hD rfl rfl wn_6_189 wn_5_100 wn_5_101 wn_1_10 wn_5_102 rfl rfl (by decide +kernel) ⟨Nat.le_of_ble_eq_true rfl, Nat.le_of_ble_eq_true rfl⟩ rfl hl.1 rfl (Nat.le_of_ble_eq_true rfl) dn_Circuit_ownSignals_15 ⟨Nat.le_of_ble_eq_true rfl, Nat.le_of_ble_eq_true rfl⟩) hP hD hS hA (fun r_6 _ H locs hw hP hD hS => ?_)
  have hw : r_6 = q_4.1 := hw
  subst hw
  refine lv_isub hx hb dn_Circuit_ownSignals_18 ?_
  rw [hQQ, ← Option.some.inj hf]
  exact xk_iret (w1 := fun u : Unit => (wC a v cI cB cJ cZ cQ q_4.2)) () hx hb hr hlocks hK hS dn_Circuit_ownSignals_19 hP hD rfl (Nat.le_refl _) (Nat.le_refl _)
set_option maxHeartbeats 8000000 in
set_option maxRecDepth 100000 in
theorem ct_Design_firstChild_Ds (l : Launch) (dC : Nat → ClassId) (dI : Nat → Nat → Nat) (cI cB cJ cZ cQ : ClassId) (N sz : Nat) (a : Nat → Nat) (v : Nat → Value) (v1 : Int32) (s : ms) (y : (Int32 × ms)) (hf : fn_Design_firstChild_Ds N v1 s = some y) : Met l yn_Design_firstChild (xw yn_Design_firstChild bn_Design_firstChild 2 (some .int)) ({ frames := 1, cells := 0, slots := 0, locals := 21 }) (dc_P (dC, dI) xcl (xt cI cB cJ cZ cQ) [.ref ((a 109)), .int v1] sz (wC a v cI cB cJ cZ cQ s)) (xk_Qi (dC, dI) xcl (xt cI cB cJ cZ cQ) (fun (r : Int32) (_ : Unit) => r = y.1) (fun u : Unit => (wC a v cI cB cJ cZ cQ y.2)) (va_A (wC a v cI cB cJ cZ cQ s) sz)) 0 0 (va_A (wC a v cI cB cJ cZ cQ s) sz) := by
  refine dc_of (QA := xk_Qi (dC, dI) xcl (xt cI cB cJ cZ cQ) (fun (r : Int32) (_ : Unit) => r = y.1) (fun u : Unit => (wC a v cI cB cJ cZ cQ y.2))) (by decide) (Nat.le_of_ble_eq_true rfl) ?_
  intro p e s0 m below meth c hx hb hml hown hg hr hlocks hin hP hK hN A hA hD hT ls hl
  have hown : s0.vm.findClass rn_Design = some m.cls := hown
  obtain ⟨H, hH⟩ : ∃ z, z = s0.heap := ⟨_, rfl⟩
  rw [← hH] at hP
  have hS : va_S A s0.heap H [] := by rw [hH]; exact va_S.rf
  suffices kk : ∀ QQ : State → Prop, QQ = MQ below (xk_Qi (dC, dI) xcl (xt cI cB cJ cZ cQ) (fun (r : Int32) (_ : Unit) => r = y.1) (fun u : Unit => (wC a v cI cB cJ cZ cQ y.2)) A) [.ref ((a 109)), .int v1].toArray s0 0 0 A → dcC p l e ({ frames := 1, cells := 0, slots := 0, locals := 21 }) s0 m [.ref ((a 109)), .int v1].toArray below meth c QQ (dC, dI) A (wC a v cI cB cJ cZ cQ s) 0 2 [(0, .ref ((a 109))), (1, .int v1)] [] by
    have k9 := kk _ rfl H [] ls hP hD hS hl
    rw [hH] at k9; exact k9
  clear hP hD hS hl hH H ls
  intro QQ hQQ
  intro H locs ls hP hD hS hl
  unfold fn_Design_firstChild_Ds at hf
  refine lv_aload_n hx hb dn_Design_firstChild_0 rfl (lv_at hl 0 rfl) ?_
  refine lv_iload_n hx hb dn_Design_firstChild_1 rfl (lv_at hl 1 rfl) ?_
  obtain ⟨q_1, hc_2, hf⟩ := dc_b hf
  refine dc_calli (dc_runV (ar := 1) (As := [.int v1]) (rest := []) (ci := 10) (q0 := 9) ⟨hx, hb, hml, hown, hg⟩ hK hN hT hS hA (ct_Design_isModule_Ds l dC dI cI cB cJ cZ cQ N H.size a v v1 s q_1 hc_2) hP hD rfl rfl wn_5_91 wn_5_93 sn_Design_isModule wn_1_10 wn_5_94 rfl rfl (by decide +kernel) ⟨Nat.le_of_ble_eq_true rfl, Nat.le_of_ble_eq_true rfl⟩ rfl hl.1 rfl (Nat.le_of_ble_eq_true rfl) dn_Design_firstChild_2 ⟨Nat.le_of_ble_eq_true rfl, Nat.le_of_ble_eq_true rfl⟩) hP hD hS hA (fun r_3 _ H locs hw hP hD hS => ?_)
  have hw : r_3 = q_1.1 := hw
  subst hw
  refine lv_if_eq (tgt := 17) hx hb dn_Design_firstChild_5 (by decide) (fun h => ?_) (fun h => ?_)
  · have hf := (if_pos h).symm.trans hf
    refine lv_aload_n hx hb dn_Design_firstChild_17 rfl (lv_at hl 0 rfl) ?_
    refine va_get (D := (dC, dI)) (ci := 10) (v := .ref ((a 110))) (C := rn_Design) (T := fn_Design) (N := 16) hx hb hg in_Design hown hK hP 9 rfl rfl 0 (by decide) (hg _ wn_2_234) (fun _ h9 => h9) rfl dn_Design_firstChild_18 ?_
    refine va_get (D := (dC, dI)) (ci := 11) (v := .int ((q_1.2.1 328 0))) (C := rn_Parts) (T := fn_Parts) (N := 15) hx hb hg in_Parts hown hK hP 10 rfl rfl 7 (by decide) (hg _ wn_2_150) (fun _ h9 => h9) rfl dn_Design_firstChild_21 ?_
    rw [hQQ, ← Option.some.inj hf]
    exact xk_iret (w1 := fun u : Unit => (wC a v cI cB cJ cZ cQ q_1.2)) () hx hb hr hlocks hK hS dn_Design_firstChild_24 hP hD rfl (Nat.le_refl _) (Nat.le_refl _)
  · have hf := (if_neg h).symm.trans hf
    refine lv_aload_n hx hb dn_Design_firstChild_8 rfl (lv_at hl 0 rfl) ?_
    refine va_get (D := (dC, dI)) (ci := 10) (v := .ref ((a 314))) (C := rn_Design) (T := fn_Design) (N := 16) hx hb hg in_Design hown hK hP 9 rfl rfl 9 (by decide) (hg _ wn_3_18) (fun _ h9 => h9) rfl dn_Design_firstChild_9 ?_
    refine lv_iload_n hx hb dn_Design_firstChild_12 rfl (lv_at hl 1 rfl) ?_
    obtain ⟨hg_4, hf⟩ := dc_g hf
    refine va_iald hx hb hK hP 56 0 rfl rfl hg_4 dn_Design_firstChild_13 ?_
    refine xk_ti (y := ((q_1.2.1 314) (Int32.toNatClampNeg v1))) rfl ?_
    refine lv_goto (tgt := 24) hx hb dn_Design_firstChild_14 (by decide) ?_
    rw [hQQ, ← Option.some.inj hf]
    exact xk_iret (w1 := fun u : Unit => (wC a v cI cB cJ cZ cQ q_1.2)) () hx hb hr hlocks hK hS dn_Design_firstChild_24 hP hD rfl (Nat.le_refl _) (Nat.le_refl _)
set_option maxHeartbeats 8000000 in
set_option maxRecDepth 100000 in
theorem ct_Circuit_layChildren_Cs (l : Launch) (dC : Nat → ClassId) (dI : Nat → Nat → Nat) (cI cB cJ cZ cQ : ClassId) (N sz : Nat) (a : Nat → Nat) (v : Nat → Value) (v1 : Int32) (s : ms) (y : (Unit × ms)) (hf : fn_Circuit_layChildren_Cs N v1 s = some y) : Met l yn_Circuit_layChildren (xw yn_Circuit_layChildren bn_Circuit_layChildren 8 none) ({ frames := 3, cells := 0, slots := 0, locals := 63 }) (dc_P (dC, dI) xcl (xt cI cB cJ cZ cQ) [.ref ((a 108)), .int v1] sz (wC a v cI cB cJ cZ cQ s)) (xk_Qv (dC, dI) xcl (xt cI cB cJ cZ cQ) (fun _ : Unit => True) (fun u : Unit => (wC a v cI cB cJ cZ cQ y.2)) (va_A (wC a v cI cB cJ cZ cQ s) sz)) 0 0 (va_A (wC a v cI cB cJ cZ cQ s) sz) := by
  refine dc_of (QA := xk_Qv (dC, dI) xcl (xt cI cB cJ cZ cQ) (fun _ : Unit => True) (fun u : Unit => (wC a v cI cB cJ cZ cQ y.2))) (by decide) (Nat.le_of_ble_eq_true rfl) ?_
  intro p e s0 m below meth c hx hb hml hown hg hr hlocks hin hP hK hN A hA hD hT ls hl
  have hown : s0.vm.findClass rn_Circuit = some m.cls := hown
  obtain ⟨H, hH⟩ : ∃ z, z = s0.heap := ⟨_, rfl⟩
  rw [← hH] at hP
  have hS : va_S A s0.heap H [] := by rw [hH]; exact va_S.rf
  suffices kk : ∀ QQ : State → Prop, QQ = MQ below (xk_Qv (dC, dI) xcl (xt cI cB cJ cZ cQ) (fun _ : Unit => True) (fun u : Unit => (wC a v cI cB cJ cZ cQ y.2)) A) [.ref ((a 108)), .int v1].toArray s0 0 0 A → dcC p l e ({ frames := 3, cells := 0, slots := 0, locals := 63 }) s0 m [.ref ((a 108)), .int v1].toArray below meth c QQ (dC, dI) A (wC a v cI cB cJ cZ cQ s) 0 8 [(0, .ref ((a 108))), (1, .int v1)] [] by
    have k9 := kk _ rfl H [] ls hP hD hS hl
    rw [hH] at k9; exact k9
  clear hP hD hS hl hH H ls
  intro QQ hQQ
  have hd_47 : ∀ (n : Nat) (x1 : Int32) (x3 : Int32) (x4 : Int32) (x5 : Int32) (x6 : Int32) (s : ms), hd_Circuit_layChildren_Cs_47 N n x1 x3 x4 x5 x6 s = some y → dcC p l e ({ frames := 3, cells := 0, slots := 0, locals := 63 }) s0 m [.ref ((a 108)), .int v1].toArray below meth c QQ (dC, dI) A (wC a v cI cB cJ cZ cQ s) 47 8 [(0, .ref ((a 108))), (1, .int x1), (3, .int x3), (4, .int x4), (5, .int x5), (6, .int x6)] [] := by
    intro n
    induction n with
    | zero => intro x1 x3 x4 x5 x6 s hf; cases hf
    | succ n ih =>
      intro x1 x3 x4 x5 x6 s hf H locs ls hP hD hS hl
      have hf : bd_Circuit_layChildren_Cs_47 N (hd_Circuit_layChildren_Cs_47 N n) x1 x3 x4 x5 x6 s = some y := hf
      have hk_47 := ih
      generalize hd_Circuit_layChildren_Cs_47 N n = k_47 at hf hk_47
      unfold bd_Circuit_layChildren_Cs_47 at hf
      refine lv_iload hx hb dn_Circuit_layChildren_47 (lv_at hl 5 rfl) ?_
      refine lv_iload hx hb dn_Circuit_layChildren_49 (lv_at hl 4 rfl) ?_
      refine lv_icmp_ge (tgt := 143) hx hb dn_Circuit_layChildren_51 (by decide) (fun h => ?_) (fun h => ?_)
      · have hf := (if_pos h).symm.trans hf
        rw [hQQ, ← Option.some.inj hf]
        exact xk_vret (w1 := fun u : Unit => (wC a v cI cB cJ cZ cQ s)) () hx hb hr hlocks hK hS dn_Circuit_layChildren_143 hP hD trivial (Nat.le_refl _) (Nat.le_refl _)
      · have hf := (if_neg h).symm.trans hf
        refine lv_iload_n hx hb dn_Circuit_layChildren_54 rfl (lv_at hl 2 rfl) ?_
        refine lv_aload_n hx hb dn_Circuit_layChildren_55 rfl (lv_at hl 0 rfl) ?_
        refine va_get (D := (dC, dI)) (ci := 9) (v := .ref ((a 294))) (C := rn_Circuit) (T := fn_Circuit) (N := 14) hx hb hg in_Circuit hown hK hP 8 rfl rfl 3 (by decide) (hg _ wn_3_72) (fun _ h9 => h9) rfl dn_Circuit_layChildren_56 ?_
        refine va_alen (v := 257) hx hb hK hP 42 0 rfl rfl rfl dn_Circuit_layChildren_59 ?_
        refine lv_icmp_ge (tgt := 143) hx hb dn_Circuit_layChildren_60 (by decide) (fun h => ?_) (fun h => ?_)
        · have hf := (if_pos h).symm.trans hf
          rw [hQQ, ← Option.some.inj hf]
          exact xk_vret (w1 := fun u : Unit => (wC a v cI cB cJ cZ cQ s)) () hx hb hr hlocks hK hS dn_Circuit_layChildren_143 hP hD trivial (Nat.le_refl _) (Nat.le_refl _)
        · have hf := (if_neg h).symm.trans hf
          refine lv_aload_n hx hb dn_Circuit_layChildren_63 rfl (lv_at hl 0 rfl) ?_
          refine va_get (D := (dC, dI)) (ci := 9) (v := .ref ((a 109))) (C := rn_Circuit) (T := fn_Circuit) (N := 14) hx hb hg in_Circuit hown hK hP 8 rfl rfl 0 (by decide) (hg _ wn_3_61) (fun _ h9 => h9) rfl dn_Circuit_layChildren_64 ?_
          refine va_get (D := (dC, dI)) (ci := 10) (v := .ref ((a 110))) (C := rn_Design) (T := fn_Design) (N := 16) hx hb hg in_Design hown hK hP 9 rfl rfl 0 (by decide) (hg _ wn_2_237) (fun _ h9 => h9) rfl dn_Circuit_layChildren_67 ?_
          refine va_get (D := (dC, dI)) (ci := 11) (v := .ref ((a 329))) (C := rn_Parts) (T := fn_Parts) (N := 15) hx hb hg in_Parts hown hK hP 10 rfl rfl 8 (by decide) (hg _ wn_2_153) (fun _ h9 => h9) rfl dn_Circuit_layChildren_70 ?_
          refine lv_iload hx hb dn_Circuit_layChildren_73 (lv_at hl 5 rfl) ?_
          obtain ⟨hg_1, hf⟩ := dc_g hf
          refine va_iald hx hb hK hP 67 0 rfl rfl hg_1 dn_Circuit_layChildren_75 ?_
          refine xk_ti (y := ((s.1 329) (Int32.toNatClampNeg x6))) rfl ?_
          refine lv_istore (lv' := [(7, .int (((s.1 329) (Int32.toNatClampNeg x6)))), (0, .ref ((a 108))), (1, .int x1), (3, .int x3), (4, .int x4), (5, .int x5), (6, .int x6)]) hx hb dn_Circuit_layChildren_76 hl (by decide) rfl (fun ls hl => ?_)
          refine lv_aload_n hx hb dn_Circuit_layChildren_78 rfl (lv_at hl 1 rfl) ?_
          refine va_get (D := (dC, dI)) (ci := 9) (v := .ref ((a 294))) (C := rn_Circuit) (T := fn_Circuit) (N := 14) hx hb hg in_Circuit hown hK hP 8 rfl rfl 3 (by decide) (hg _ wn_3_72) (fun _ h9 => h9) rfl dn_Circuit_layChildren_79 ?_
          refine lv_iload_n hx hb dn_Circuit_layChildren_82 rfl (lv_at hl 3 rfl) ?_
          refine lv_iload hx hb dn_Circuit_layChildren_83 (lv_at hl 4 rfl) ?_
          obtain ⟨hg_2, hf⟩ := dc_g hf
          refine va_iast hx hb hK hP hD hS 42 0 rfl rfl hg_2 dn_Circuit_layChildren_85 (fun H locs hP hD hS => ?_)
          have hP : va_P (dC, dI) xcl ((wC a v cI cB cJ cZ cQ s).set 42 ((a 294), .inl (cI, 257, .inl (upd (s.1 294) (Int32.toNatClampNeg x3) x4)))) H := hP
          have hD : va_D A ((wC a v cI cB cJ cZ cQ s).set 42 ((a 294), .inl (cI, 257, .inl (upd (s.1 294) (Int32.toNatClampNeg x3) x4)))) := hD
          have hP := wC_P_294 hP
          have hD := wC_D_294 hD
          refine lv_aload_n hx hb dn_Circuit_layChildren_86 rfl (lv_at hl 1 rfl) ?_
          refine va_get (D := (dC, dI)) (ci := 9) (v := .ref ((a 295))) (C := rn_Circuit) (T := fn_Circuit) (N := 14) hx hb hg in_Circuit hown hK hP 8 rfl rfl 4 (by decide) (hg _ wn_3_74) (fun _ h9 => h9) rfl dn_Circuit_layChildren_87 ?_
          refine lv_iload_n hx hb dn_Circuit_layChildren_90 rfl (lv_at hl 3 rfl) ?_
          refine lv_iload hx hb dn_Circuit_layChildren_91 (lv_at hl 0 rfl) ?_
          obtain ⟨hg_3, hf⟩ := dc_g hf
          refine va_iast hx hb hK hP hD hS 43 0 rfl rfl hg_3 dn_Circuit_layChildren_93 (fun H locs hP hD hS => ?_)
          have hP : va_P (dC, dI) xcl ((wC a v cI cB cJ cZ cQ (upI s 294 (upd (s.1 294) (Int32.toNatClampNeg x3) x4))).set 43 ((a 295), .inl (cI, 257, .inl (upd (s.1 295) (Int32.toNatClampNeg x3) (((s.1 329) (Int32.toNatClampNeg x6))))))) H := hP
          have hD : va_D A ((wC a v cI cB cJ cZ cQ (upI s 294 (upd (s.1 294) (Int32.toNatClampNeg x3) x4))).set 43 ((a 295), .inl (cI, 257, .inl (upd (s.1 295) (Int32.toNatClampNeg x3) (((s.1 329) (Int32.toNatClampNeg x6))))))) := hD
          have hP := wC_P_295 hP
          have hD := wC_D_295 hD
          refine lv_aload_n hx hb dn_Circuit_layChildren_94 rfl (lv_at hl 1 rfl) ?_
          refine va_get (D := (dC, dI)) (ci := 9) (v := .ref ((a 296))) (C := rn_Circuit) (T := fn_Circuit) (N := 14) hx hb hg in_Circuit hown hK hP 8 rfl rfl 5 (by decide) (hg _ wn_3_76) (fun _ h9 => h9) rfl dn_Circuit_layChildren_95 ?_
          refine lv_iload_n hx hb dn_Circuit_layChildren_98 rfl (lv_at hl 3 rfl) ?_
          refine lv_iload_n hx hb dn_Circuit_layChildren_99 rfl (lv_at hl 2 rfl) ?_
          obtain ⟨hg_4, hf⟩ := dc_g hf
          refine va_iast hx hb hK hP hD hS 44 0 rfl rfl hg_4 dn_Circuit_layChildren_100 (fun H locs hP hD hS => ?_)
          have hP : va_P (dC, dI) xcl ((wC a v cI cB cJ cZ cQ (upI (upI s 294 (upd (s.1 294) (Int32.toNatClampNeg x3) x4)) 295 (upd (s.1 295) (Int32.toNatClampNeg x3) (((s.1 329) (Int32.toNatClampNeg x6)))))).set 44 ((a 296), .inl (cI, 257, .inl (upd (s.1 296) (Int32.toNatClampNeg x3) x1)))) H := hP
          have hD : va_D A ((wC a v cI cB cJ cZ cQ (upI (upI s 294 (upd (s.1 294) (Int32.toNatClampNeg x3) x4)) 295 (upd (s.1 295) (Int32.toNatClampNeg x3) (((s.1 329) (Int32.toNatClampNeg x6)))))).set 44 ((a 296), .inl (cI, 257, .inl (upd (s.1 296) (Int32.toNatClampNeg x3) x1)))) := hD
          have hP := wC_P_296 hP
          have hD := wC_D_296 hD
          refine lv_aload_n hx hb dn_Circuit_layChildren_101 rfl (lv_at hl 1 rfl) ?_
          refine va_get (D := (dC, dI)) (ci := 9) (v := .ref ((a 297))) (C := rn_Circuit) (T := fn_Circuit) (N := 14) hx hb hg in_Circuit hown hK hP 8 rfl rfl 6 (by decide) (hg _ wn_3_77) (fun _ h9 => h9) rfl dn_Circuit_layChildren_102 ?_
          refine lv_iload_n hx hb dn_Circuit_layChildren_105 rfl (lv_at hl 3 rfl) ?_
          refine lv_iload hx hb dn_Circuit_layChildren_106 (lv_at hl 6 rfl) ?_
          obtain ⟨hg_5, hf⟩ := dc_g hf
          refine va_iast hx hb hK hP hD hS 45 0 rfl rfl hg_5 dn_Circuit_layChildren_108 (fun H locs hP hD hS => ?_)
          have hP : va_P (dC, dI) xcl ((wC a v cI cB cJ cZ cQ (upI (upI (upI s 294 (upd (s.1 294) (Int32.toNatClampNeg x3) x4)) 295 (upd (s.1 295) (Int32.toNatClampNeg x3) (((s.1 329) (Int32.toNatClampNeg x6))))) 296 (upd (s.1 296) (Int32.toNatClampNeg x3) x1))).set 45 ((a 297), .inl (cI, 257, .inl (upd (s.1 297) (Int32.toNatClampNeg x3) x6)))) H := hP
          have hD : va_D A ((wC a v cI cB cJ cZ cQ (upI (upI (upI s 294 (upd (s.1 294) (Int32.toNatClampNeg x3) x4)) 295 (upd (s.1 295) (Int32.toNatClampNeg x3) (((s.1 329) (Int32.toNatClampNeg x6))))) 296 (upd (s.1 296) (Int32.toNatClampNeg x3) x1))).set 45 ((a 297), .inl (cI, 257, .inl (upd (s.1 297) (Int32.toNatClampNeg x3) x6)))) := hD
          have hP := wC_P_297 hP
          have hD := wC_D_297 hD
          refine lv_iload_n hx hb dn_Circuit_layChildren_109 rfl (lv_at hl 3 rfl) ?_
          refine lv_aload_n hx hb dn_Circuit_layChildren_110 rfl (lv_at hl 1 rfl) ?_
          refine va_get (D := (dC, dI)) (ci := 9) (v := .ref ((a 109))) (C := rn_Circuit) (T := fn_Circuit) (N := 14) hx hb hg in_Circuit hown hK hP 8 rfl rfl 0 (by decide) (hg _ wn_3_61) (fun _ h9 => h9) rfl dn_Circuit_layChildren_111 ?_
          refine lv_iconst (v := 0) hx hb dn_Circuit_layChildren_114 (by decide) ?_
          refine lv_iload hx hb dn_Circuit_layChildren_115 (lv_at hl 0 rfl) ?_
          obtain ⟨q_6, hc_7, hf⟩ := dc_b hf
          refine dc_calli (dc_runV (ar := 2) (As := [.int 0, .int (((s.1 329) (Int32.toNatClampNeg x6)))]) (rest := [.int x3]) (ci := 10) (q0 := 9) ⟨hx, hb, hml, hown, hg⟩ hK hN hT hS hA (ct_Design_sumOf_Ds l dC dI cI cB cJ cZ cQ N H.size a v 0 (((s.1 329) (Int32.toNatClampNeg x6))) (upI (upI (upI (upI s 294 (upd (s.1 294) (Int32.toNatClampNeg x3) x4)) 295 (upd (s.1 295) (Int32.toNatClampNeg x3) (((s.1 329) (Int32.toNatClampNeg x6))))) 296 (upd (s.1 296) (Int32.toNatClampNeg x3) x1)) 297 (upd (s.1 297) (Int32.toNatClampNeg x3) x6)) q_6 hc_7) hP hD rfl rfl wn_6_194 wn_5_113 wn_5_114 wn_1_10 wn_5_115 rfl rfl (by decide +kernel) ⟨Nat.le_of_ble_eq_true rfl, Nat.le_of_ble_eq_true rfl⟩ rfl hl.1 rfl (Nat.le_of_ble_eq_true rfl) dn_Circuit_layChildren_117 ⟨Nat.le_of_ble_eq_true rfl, Nat.le_of_ble_eq_true rfl⟩) hP hD hS hA (fun r_8 _ H locs hw hP hD hS => ?_)
          have hw : r_8 = q_6.1 := hw
          subst hw
          refine lv_iadd hx hb dn_Circuit_layChildren_120 ?_
          refine lv_istore_n (lv' := [(3, .int ((x3 + q_6.1))), (7, .int (((s.1 329) (Int32.toNatClampNeg x6)))), (0, .ref ((a 108))), (1, .int x1), (4, .int x4), (5, .int x5), (6, .int x6)]) hx hb dn_Circuit_layChildren_121 rfl hl (by decide) rfl (fun ls hl => ?_)
          refine lv_iload hx hb dn_Circuit_layChildren_122 (lv_at hl 4 rfl) ?_
          refine lv_aload_n hx hb dn_Circuit_layChildren_124 rfl (lv_at hl 2 rfl) ?_
          refine va_get (D := (dC, dI)) (ci := 9) (v := .ref ((a 109))) (C := rn_Circuit) (T := fn_Circuit) (N := 14) hx hb hg in_Circuit hown hK hP 8 rfl rfl 0 (by decide) (hg _ wn_3_61) (fun _ h9 => h9) rfl dn_Circuit_layChildren_125 ?_
          refine lv_iconst (v := 1) hx hb dn_Circuit_layChildren_128 (by decide) ?_
          refine lv_iload hx hb dn_Circuit_layChildren_129 (lv_at hl 1 rfl) ?_
          obtain ⟨q_9, hc_10, hf⟩ := dc_b hf
          refine dc_calli (dc_runV (ar := 2) (As := [.int 1, .int (((s.1 329) (Int32.toNatClampNeg x6)))]) (rest := [.int x4]) (ci := 10) (q0 := 9) ⟨hx, hb, hml, hown, hg⟩ hK hN hT hS hA (ct_Design_sumOf_Ds l dC dI cI cB cJ cZ cQ N H.size a v 1 (((s.1 329) (Int32.toNatClampNeg x6))) q_6.2 q_9 hc_10) hP hD rfl rfl wn_6_194 wn_5_113 wn_5_114 wn_1_10 wn_5_115 rfl rfl (by decide +kernel) ⟨Nat.le_of_ble_eq_true rfl, Nat.le_of_ble_eq_true rfl⟩ rfl hl.1 rfl (Nat.le_of_ble_eq_true rfl) dn_Circuit_layChildren_131 ⟨Nat.le_of_ble_eq_true rfl, Nat.le_of_ble_eq_true rfl⟩) hP hD hS hA (fun r_11 _ H locs hw hP hD hS => ?_)
          have hw : r_11 = q_9.1 := hw
          subst hw
          refine lv_iadd hx hb dn_Circuit_layChildren_134 ?_
          refine lv_istore (lv' := [(4, .int ((x4 + q_9.1))), (3, .int ((x3 + q_6.1))), (7, .int (((s.1 329) (Int32.toNatClampNeg x6)))), (0, .ref ((a 108))), (1, .int x1), (5, .int x5), (6, .int x6)]) hx hb dn_Circuit_layChildren_135 hl (by decide) rfl (fun ls hl => ?_)
          refine lv_iinc (v := (x6 + 1)) (lv' := [(6, .int ((x6 + 1))), (4, .int ((x4 + q_9.1))), (3, .int ((x3 + q_6.1))), (7, .int (((s.1 329) (Int32.toNatClampNeg x6)))), (0, .ref ((a 108))), (1, .int x1), (5, .int x5)]) hx hb dn_Circuit_layChildren_137 hl (k := 6) rfl (dc_inc (by decide)) (by decide) rfl (fun ls hl => ?_)
          refine lv_goto (tgt := 47) hx hb dn_Circuit_layChildren_140 (by decide) ?_
          exact hk_47 x1 ((x3 + q_6.1)) ((x4 + q_9.1)) x5 ((x6 + 1)) q_9.2 hf H locs ls hP hD hS (lv_sub hl [4, 5, 2, 1, 6, 0] rfl)
  intro H locs ls hP hD hS hl
  unfold fn_Circuit_layChildren_Cs at hf
  refine lv_aload_n hx hb dn_Circuit_layChildren_0 rfl (lv_at hl 0 rfl) ?_
  refine va_get (D := (dC, dI)) (ci := 9) (v := .ref ((a 295))) (C := rn_Circuit) (T := fn_Circuit) (N := 14) hx hb hg in_Circuit hown hK hP 8 rfl rfl 4 (by decide) (hg _ wn_3_74) (fun _ h9 => h9) rfl dn_Circuit_layChildren_1 ?_
  refine lv_iload_n hx hb dn_Circuit_layChildren_4 rfl (lv_at hl 1 rfl) ?_
  obtain ⟨hg_1, hf⟩ := dc_g hf
  refine va_iald hx hb hK hP 43 0 rfl rfl hg_1 dn_Circuit_layChildren_5 ?_
  refine xk_ti (y := ((s.1 295) (Int32.toNatClampNeg v1))) rfl ?_
  refine lv_istore_n (lv' := [(2, .int (((s.1 295) (Int32.toNatClampNeg v1)))), (0, .ref ((a 108))), (1, .int v1)]) hx hb dn_Circuit_layChildren_6 rfl hl (by decide) rfl (fun ls hl => ?_)
  refine lv_iload_n hx hb dn_Circuit_layChildren_7 rfl (lv_at hl 2 rfl) ?_
  refine lv_iconst (v := 1) hx hb dn_Circuit_layChildren_8 (by decide) ?_
  refine lv_iadd hx hb dn_Circuit_layChildren_9 ?_
  refine lv_istore_n (lv' := [(3, .int ((v1 + 1))), (2, .int (((s.1 295) (Int32.toNatClampNeg v1)))), (0, .ref ((a 108))), (1, .int v1)]) hx hb dn_Circuit_layChildren_10 rfl hl (by decide) rfl (fun ls hl => ?_)
  refine lv_aload_n hx hb dn_Circuit_layChildren_11 rfl (lv_at hl 2 rfl) ?_
  refine va_get (D := (dC, dI)) (ci := 9) (v := .ref ((a 294))) (C := rn_Circuit) (T := fn_Circuit) (N := 14) hx hb hg in_Circuit hown hK hP 8 rfl rfl 3 (by decide) (hg _ wn_3_72) (fun _ h9 => h9) rfl dn_Circuit_layChildren_12 ?_
  refine lv_iload_n hx hb dn_Circuit_layChildren_15 rfl (lv_at hl 3 rfl) ?_
  obtain ⟨hg_2, hf⟩ := dc_g hf
  refine va_iald hx hb hK hP 42 0 rfl rfl hg_2 dn_Circuit_layChildren_16 ?_
  refine xk_ti (y := ((s.1 294) (Int32.toNatClampNeg v1))) rfl ?_
  refine lv_aload_n hx hb dn_Circuit_layChildren_17 rfl (lv_at hl 2 rfl) ?_
  refine lv_iload_n hx hb dn_Circuit_layChildren_18 rfl (lv_at hl 1 rfl) ?_
  obtain ⟨q_3, hc_4, hf⟩ := dc_b hf
  refine dc_calli (dc_runV (ar := 1) (As := [.int (((s.1 295) (Int32.toNatClampNeg v1)))]) (rest := [.int (((s.1 294) (Int32.toNatClampNeg v1)))]) (ci := 9) (q0 := 8) ⟨hx, hb, hml, hown, hg⟩ hK hN hT hS hA (ct_Circuit_ownSignals_Cs l dC dI cI cB cJ cZ cQ N H.size a v (((s.1 295) (Int32.toNatClampNeg v1))) s q_3 hc_4) hP hD rfl rfl wn_6_185 wn_6_187 sn_Circuit_ownSignals wn_1_9 wn_6_188 rfl rfl (by decide +kernel) ⟨Nat.le_of_ble_eq_true rfl, Nat.le_of_ble_eq_true rfl⟩ rfl hl.1 rfl (Nat.le_of_ble_eq_true rfl) dn_Circuit_layChildren_19 ⟨Nat.le_of_ble_eq_true rfl, Nat.le_of_ble_eq_true rfl⟩) hP hD hS hA (fun r_5 _ H locs hw hP hD hS => ?_)
  have hw : r_5 = q_3.1 := hw
  subst hw
  refine lv_iadd hx hb dn_Circuit_layChildren_22 ?_
  refine lv_istore (lv' := [(4, .int ((((s.1 294) (Int32.toNatClampNeg v1)) + q_3.1))), (3, .int ((v1 + 1))), (2, .int (((s.1 295) (Int32.toNatClampNeg v1)))), (0, .ref ((a 108))), (1, .int v1)]) hx hb dn_Circuit_layChildren_23 hl (by decide) rfl (fun ls hl => ?_)
  refine lv_aload_n hx hb dn_Circuit_layChildren_25 rfl (lv_at hl 3 rfl) ?_
  refine va_get (D := (dC, dI)) (ci := 9) (v := .ref ((a 109))) (C := rn_Circuit) (T := fn_Circuit) (N := 14) hx hb hg in_Circuit hown hK hP 8 rfl rfl 0 (by decide) (hg _ wn_3_61) (fun _ h9 => h9) rfl dn_Circuit_layChildren_26 ?_
  refine lv_iload_n hx hb dn_Circuit_layChildren_29 rfl (lv_at hl 2 rfl) ?_
  refine lv_iconst (v := 1) hx hb dn_Circuit_layChildren_30 (by decide) ?_
  refine lv_iadd hx hb dn_Circuit_layChildren_31 ?_
  obtain ⟨q_6, hc_7, hf⟩ := dc_b hf
  refine dc_calli (dc_runV (ar := 1) (As := [.int ((((s.1 295) (Int32.toNatClampNeg v1)) + 1))]) (rest := []) (ci := 10) (q0 := 9) ⟨hx, hb, hml, hown, hg⟩ hK hN hT hS hA (ct_Design_firstChild_Ds l dC dI cI cB cJ cZ cQ N H.size a v ((((s.1 295) (Int32.toNatClampNeg v1)) + 1)) q_3.2 q_6 hc_7) hP hD rfl rfl wn_6_190 wn_6_191 wn_6_192 wn_1_10 wn_6_193 rfl rfl (by decide +kernel) ⟨Nat.le_of_ble_eq_true rfl, Nat.le_of_ble_eq_true rfl⟩ rfl hl.1 rfl (Nat.le_of_ble_eq_true rfl) dn_Circuit_layChildren_32 ⟨Nat.le_of_ble_eq_true rfl, Nat.le_of_ble_eq_true rfl⟩) hP hD hS hA (fun r_8 _ H locs hw hP hD hS => ?_)
  have hw : r_8 = q_6.1 := hw
  subst hw
  refine lv_istore (lv' := [(5, .int q_6.1), (4, .int ((((s.1 294) (Int32.toNatClampNeg v1)) + q_3.1))), (3, .int ((v1 + 1))), (2, .int (((s.1 295) (Int32.toNatClampNeg v1)))), (0, .ref ((a 108))), (1, .int v1)]) hx hb dn_Circuit_layChildren_35 hl (by decide) rfl (fun ls hl => ?_)
  refine lv_aload_n hx hb dn_Circuit_layChildren_37 rfl (lv_at hl 4 rfl) ?_
  refine va_get (D := (dC, dI)) (ci := 9) (v := .ref ((a 109))) (C := rn_Circuit) (T := fn_Circuit) (N := 14) hx hb hg in_Circuit hown hK hP 8 rfl rfl 0 (by decide) (hg _ wn_3_61) (fun _ h9 => h9) rfl dn_Circuit_layChildren_38 ?_
  refine lv_iload_n hx hb dn_Circuit_layChildren_41 rfl (lv_at hl 3 rfl) ?_
  obtain ⟨q_9, hc_10, hf⟩ := dc_b hf
  refine dc_calli (dc_runV (ar := 1) (As := [.int (((s.1 295) (Int32.toNatClampNeg v1)))]) (rest := []) (ci := 10) (q0 := 9) ⟨hx, hb, hml, hown, hg⟩ hK hN hT hS hA (ct_Design_firstChild_Ds l dC dI cI cB cJ cZ cQ N H.size a v (((s.1 295) (Int32.toNatClampNeg v1))) q_6.2 q_9 hc_10) hP hD rfl rfl wn_6_190 wn_6_191 wn_6_192 wn_1_10 wn_6_193 rfl rfl (by decide +kernel) ⟨Nat.le_of_ble_eq_true rfl, Nat.le_of_ble_eq_true rfl⟩ rfl hl.1 rfl (Nat.le_of_ble_eq_true rfl) dn_Circuit_layChildren_42 ⟨Nat.le_of_ble_eq_true rfl, Nat.le_of_ble_eq_true rfl⟩) hP hD hS hA (fun r_11 _ H locs hw hP hD hS => ?_)
  have hw : r_11 = q_9.1 := hw
  subst hw
  refine lv_istore (lv' := [(6, .int q_9.1), (5, .int q_6.1), (4, .int ((((s.1 294) (Int32.toNatClampNeg v1)) + q_3.1))), (3, .int ((v1 + 1))), (2, .int (((s.1 295) (Int32.toNatClampNeg v1)))), (0, .ref ((a 108))), (1, .int v1)]) hx hb dn_Circuit_layChildren_45 hl (by decide) rfl (fun ls hl => ?_)
  exact hd_47 N v1 ((v1 + 1)) ((((s.1 294) (Int32.toNatClampNeg v1)) + q_3.1)) q_6.1 q_9.1 q_9.2 hf H locs ls hP hD hS (lv_sub hl [5, 6, 3, 2, 1, 0] rfl)
set_option maxHeartbeats 8000000 in
set_option maxRecDepth 100000 in
theorem ct_Circuit_laySignals_Cs (l : Launch) (dC : Nat → ClassId) (dI : Nat → Nat → Nat) (cI cB cJ cZ cQ : ClassId) (N sz : Nat) (a : Nat → Nat) (v : Nat → Value) (v1 : Int32) (s : ms) (y : (Unit × ms)) (hf : fn_Circuit_laySignals_Cs N v1 s = some y) : Met l yn_Circuit_laySignals (xw yn_Circuit_laySignals bn_Circuit_laySignals 7 none) ({ frames := 3, cells := 0, slots := 0, locals := 63 }) (dc_P (dC, dI) xcl (xt cI cB cJ cZ cQ) [.ref ((a 108)), .int v1] sz (wC a v cI cB cJ cZ cQ s)) (xk_Qv (dC, dI) xcl (xt cI cB cJ cZ cQ) (fun _ : Unit => True) (fun u : Unit => (wC a v cI cB cJ cZ cQ y.2)) (va_A (wC a v cI cB cJ cZ cQ s) sz)) 0 0 (va_A (wC a v cI cB cJ cZ cQ s) sz) := by
  refine dc_of (QA := xk_Qv (dC, dI) xcl (xt cI cB cJ cZ cQ) (fun _ : Unit => True) (fun u : Unit => (wC a v cI cB cJ cZ cQ y.2))) (by decide) (Nat.le_of_ble_eq_true rfl) ?_
  intro p e s0 m below meth c hx hb hml hown hg hr hlocks hin hP hK hN A hA hD hT ls hl
  have hown : s0.vm.findClass rn_Circuit = some m.cls := hown
  obtain ⟨H, hH⟩ : ∃ z, z = s0.heap := ⟨_, rfl⟩
  rw [← hH] at hP
  have hS : va_S A s0.heap H [] := by rw [hH]; exact va_S.rf
  suffices kk : ∀ QQ : State → Prop, QQ = MQ below (xk_Qv (dC, dI) xcl (xt cI cB cJ cZ cQ) (fun _ : Unit => True) (fun u : Unit => (wC a v cI cB cJ cZ cQ y.2)) A) [.ref ((a 108)), .int v1].toArray s0 0 0 A → dcC p l e ({ frames := 3, cells := 0, slots := 0, locals := 63 }) s0 m [.ref ((a 108)), .int v1].toArray below meth c QQ (dC, dI) A (wC a v cI cB cJ cZ cQ s) 0 7 [(0, .ref ((a 108))), (1, .int v1)] [] by
    have k9 := kk _ rfl H [] ls hP hD hS hl
    rw [hH] at k9; exact k9
  clear hP hD hS hl hH H ls
  intro QQ hQQ
  have bl_158 : ∀ (k_36 : Int32 → Int32 → Int32 → Int32 → ms → Option (Unit × ms)) (hk_36 : ∀ (x2 : Int32) (x3 : Int32) (x4 : Int32) (x5 : Int32) (s : ms), k_36 x2 x3 x4 x5 s = some y → dcC p l e ({ frames := 3, cells := 0, slots := 0, locals := 63 }) s0 m [.ref ((a 108)), .int v1].toArray below meth c QQ (dC, dI) A (wC a v cI cB cJ cZ cQ s) 36 7 [(0, .ref ((a 108))), (2, .int x2), (3, .int x3), (4, .int x4), (5, .int x5)] []) (x2 : Int32) (x3 : Int32) (x4 : Int32) (x5 : Int32) (t0 : Int32) (t1 : Int32) (s : ms), bk_Circuit_laySignals_Cs_158 N k_36 x2 x3 x4 x5 t0 t1 s = some y → dcC p l e ({ frames := 3, cells := 0, slots := 0, locals := 63 }) s0 m [.ref ((a 108)), .int v1].toArray below meth c QQ (dC, dI) A (wC a v cI cB cJ cZ cQ s) 158 7 [(0, .ref ((a 108))), (2, .int x2), (3, .int x3), (4, .int x4), (5, .int x5)] [.int t0, .int t1, .ref ((a 300))] := by
    intro k_36 hk_36 x2 x3 x4 x5 t0 t1 s hf H locs ls hP hD hS hl
    unfold bk_Circuit_laySignals_Cs_158 at hf
    obtain ⟨hg_1, hf⟩ := dc_g hf
    refine va_iast hx hb hK hP hD hS 48 0 rfl rfl hg_1 dn_Circuit_laySignals_158 (fun H locs hP hD hS => ?_)
    have hP : va_P (dC, dI) xcl ((wC a v cI cB cJ cZ cQ s).set 48 ((a 300), .inl (cI, 1024, .inl (upd (s.1 300) (Int32.toNatClampNeg t1) t0)))) H := hP
    have hD : va_D A ((wC a v cI cB cJ cZ cQ s).set 48 ((a 300), .inl (cI, 1024, .inl (upd (s.1 300) (Int32.toNatClampNeg t1) t0)))) := hD
    have hP := wC_P_300 hP
    have hD := wC_D_300 hD
    refine lv_aload_n hx hb dn_Circuit_laySignals_159 rfl (lv_at hl 0 rfl) ?_
    refine va_get (D := (dC, dI)) (ci := 9) (v := .ref ((a 301))) (C := rn_Circuit) (T := fn_Circuit) (N := 14) hx hb hg in_Circuit hown hK hP 8 rfl rfl 10 (by decide) (hg _ wn_3_85) (fun _ h9 => h9) rfl dn_Circuit_laySignals_160 ?_
    refine lv_iload_n hx hb dn_Circuit_laySignals_163 rfl (lv_at hl 1 rfl) ?_
    refine lv_iload hx hb dn_Circuit_laySignals_164 (lv_at hl 4 rfl) ?_
    refine lv_iadd hx hb dn_Circuit_laySignals_166 ?_
    refine lv_iload_n hx hb dn_Circuit_laySignals_167 rfl (lv_at hl 1 rfl) ?_
    obtain ⟨hg_2, hf⟩ := dc_g hf
    refine va_iast hx hb hK hP hD hS 49 0 rfl rfl hg_2 dn_Circuit_laySignals_168 (fun H locs hP hD hS => ?_)
    have hP : va_P (dC, dI) xcl ((wC a v cI cB cJ cZ cQ (upI s 300 (upd (s.1 300) (Int32.toNatClampNeg t1) t0))).set 49 ((a 301), .inl (cI, 1024, .inl (upd (s.1 301) (Int32.toNatClampNeg ((x2 + x5))) x2)))) H := hP
    have hD : va_D A ((wC a v cI cB cJ cZ cQ (upI s 300 (upd (s.1 300) (Int32.toNatClampNeg t1) t0))).set 49 ((a 301), .inl (cI, 1024, .inl (upd (s.1 301) (Int32.toNatClampNeg ((x2 + x5))) x2)))) := hD
    have hP := wC_P_301 hP
    have hD := wC_D_301 hD
    refine lv_aload_n hx hb dn_Circuit_laySignals_169 rfl (lv_at hl 0 rfl) ?_
    refine va_get (D := (dC, dI)) (ci := 9) (v := .ref ((a 302))) (C := rn_Circuit) (T := fn_Circuit) (N := 14) hx hb hg in_Circuit hown hK hP 8 rfl rfl 11 (by decide) (hg _ wn_3_88) (fun _ h9 => h9) rfl dn_Circuit_laySignals_170 ?_
    refine lv_iload_n hx hb dn_Circuit_laySignals_173 rfl (lv_at hl 1 rfl) ?_
    refine lv_iload hx hb dn_Circuit_laySignals_174 (lv_at hl 4 rfl) ?_
    refine lv_iadd hx hb dn_Circuit_laySignals_176 ?_
    refine lv_iconst (v := (-1)) hx hb dn_Circuit_laySignals_177 (by decide) ?_
    obtain ⟨hg_3, hf⟩ := dc_g hf
    refine va_iast hx hb hK hP hD hS 50 0 rfl rfl hg_3 dn_Circuit_laySignals_178 (fun H locs hP hD hS => ?_)
    have hP : va_P (dC, dI) xcl ((wC a v cI cB cJ cZ cQ (upI (upI s 300 (upd (s.1 300) (Int32.toNatClampNeg t1) t0)) 301 (upd (s.1 301) (Int32.toNatClampNeg ((x2 + x5))) x2))).set 50 ((a 302), .inl (cI, 1024, .inl (upd (s.1 302) (Int32.toNatClampNeg ((x2 + x5))) ((-1)))))) H := hP
    have hD : va_D A ((wC a v cI cB cJ cZ cQ (upI (upI s 300 (upd (s.1 300) (Int32.toNatClampNeg t1) t0)) 301 (upd (s.1 301) (Int32.toNatClampNeg ((x2 + x5))) x2))).set 50 ((a 302), .inl (cI, 1024, .inl (upd (s.1 302) (Int32.toNatClampNeg ((x2 + x5))) ((-1)))))) := hD
    have hP := wC_P_302 hP
    have hD := wC_D_302 hD
    refine lv_iinc (v := (x5 + 1)) (lv' := [(5, .int ((x5 + 1))), (0, .ref ((a 108))), (2, .int x2), (3, .int x3), (4, .int x4)]) hx hb dn_Circuit_laySignals_179 hl (k := 4) rfl (dc_inc (by decide)) (by decide) rfl (fun ls hl => ?_)
    refine lv_goto (tgt := 36) hx hb dn_Circuit_laySignals_182 (by decide) ?_
    exact hk_36 x2 x3 x4 ((x5 + 1)) (upI (upI (upI s 300 (upd (s.1 300) (Int32.toNatClampNeg t1) t0)) 301 (upd (s.1 301) (Int32.toNatClampNeg ((x2 + x5))) x2)) 302 (upd (s.1 302) (Int32.toNatClampNeg ((x2 + x5))) ((-1)))) hf H locs ls hP hD hS (lv_sub hl [1, 2, 3, 4, 0] rfl)
  have bl_125 : ∀ (k_36 : Int32 → Int32 → Int32 → Int32 → ms → Option (Unit × ms)) (hk_36 : ∀ (x2 : Int32) (x3 : Int32) (x4 : Int32) (x5 : Int32) (s : ms), k_36 x2 x3 x4 x5 s = some y → dcC p l e ({ frames := 3, cells := 0, slots := 0, locals := 63 }) s0 m [.ref ((a 108)), .int v1].toArray below meth c QQ (dC, dI) A (wC a v cI cB cJ cZ cQ s) 36 7 [(0, .ref ((a 108))), (2, .int x2), (3, .int x3), (4, .int x4), (5, .int x5)] []) (x2 : Int32) (x3 : Int32) (x4 : Int32) (x5 : Int32) (x6 : Int32) (t0 : Int32) (t1 : Int32) (s : ms), bk_Circuit_laySignals_Cs_125 N k_36 x2 x3 x4 x5 x6 t0 t1 s = some y → dcC p l e ({ frames := 3, cells := 0, slots := 0, locals := 63 }) s0 m [.ref ((a 108)), .int v1].toArray below meth c QQ (dC, dI) A (wC a v cI cB cJ cZ cQ s) 125 7 [(0, .ref ((a 108))), (2, .int x2), (3, .int x3), (4, .int x4), (5, .int x5), (6, .int x6)] [.int t0, .int t1, .ref ((a 299))] := by
    intro k_36 hk_36 x2 x3 x4 x5 x6 t0 t1 s hf H locs ls hP hD hS hl
    unfold bk_Circuit_laySignals_Cs_125 at hf
    obtain ⟨hg_1, hf⟩ := dc_g hf
    refine va_iast hx hb hK hP hD hS 47 0 rfl rfl hg_1 dn_Circuit_laySignals_125 (fun H locs hP hD hS => ?_)
    have hP : va_P (dC, dI) xcl ((wC a v cI cB cJ cZ cQ s).set 47 ((a 299), .inl (cI, 1024, .inl (upd (s.1 299) (Int32.toNatClampNeg t1) t0)))) H := hP
    have hD : va_D A ((wC a v cI cB cJ cZ cQ s).set 47 ((a 299), .inl (cI, 1024, .inl (upd (s.1 299) (Int32.toNatClampNeg t1) t0)))) := hD
    have hP := wC_P_299 hP
    have hD := wC_D_299 hD
    refine lv_aload_n hx hb dn_Circuit_laySignals_126 rfl (lv_at hl 0 rfl) ?_
    refine va_get (D := (dC, dI)) (ci := 9) (v := .ref ((a 300))) (C := rn_Circuit) (T := fn_Circuit) (N := 14) hx hb hg in_Circuit hown hK hP 8 rfl rfl 9 (by decide) (hg _ wn_3_82) (fun _ h9 => h9) rfl dn_Circuit_laySignals_127 ?_
    refine lv_iload_n hx hb dn_Circuit_laySignals_130 rfl (lv_at hl 1 rfl) ?_
    refine lv_iload hx hb dn_Circuit_laySignals_131 (lv_at hl 4 rfl) ?_
    refine lv_iadd hx hb dn_Circuit_laySignals_133 ?_
    refine lv_iload hx hb dn_Circuit_laySignals_134 (lv_at hl 5 rfl) ?_
    refine lv_if_eq (tgt := 157) hx hb dn_Circuit_laySignals_136 (by decide) (fun h => ?_) (fun h => ?_)
    · have hf := (if_pos h).symm.trans hf
      refine lv_iconst (v := 0) hx hb dn_Circuit_laySignals_157 (by decide) ?_
      exact bl_158 k_36 hk_36 x2 x3 x4 x5 0 ((x2 + x5)) (upI s 299 (upd (s.1 299) (Int32.toNatClampNeg t1) t0)) hf H locs ls hP hD hS (lv_sub hl [0, 1, 2, 3, 4] rfl)
    · have hf := (if_neg h).symm.trans hf
      refine lv_aload_n hx hb dn_Circuit_laySignals_139 rfl (lv_at hl 0 rfl) ?_
      refine va_get (D := (dC, dI)) (ci := 9) (v := .ref ((a 109))) (C := rn_Circuit) (T := fn_Circuit) (N := 14) hx hb hg in_Circuit hown hK hP 8 rfl rfl 0 (by decide) (hg _ wn_3_61) (fun _ h9 => h9) rfl dn_Circuit_laySignals_140 ?_
      refine va_get (D := (dC, dI)) (ci := 10) (v := .ref ((a 110))) (C := rn_Design) (T := fn_Design) (N := 16) hx hb hg in_Design hown hK hP 9 rfl rfl 0 (by decide) (hg _ wn_2_237) (fun _ h9 => h9) rfl dn_Circuit_laySignals_143 ?_
      refine va_get (D := (dC, dI)) (ci := 11) (v := .ref ((a 327))) (C := rn_Parts) (T := fn_Parts) (N := 15) hx hb hg in_Parts hown hK hP 10 rfl rfl 6 (by decide) (hg _ wn_2_147) (fun _ h9 => h9) rfl dn_Circuit_laySignals_146 ?_
      refine lv_iload_n hx hb dn_Circuit_laySignals_149 rfl (lv_at hl 2 rfl) ?_
      refine lv_iload hx hb dn_Circuit_laySignals_150 (lv_at hl 4 rfl) ?_
      refine lv_iadd hx hb dn_Circuit_laySignals_152 ?_
      obtain ⟨hg_2, hf⟩ := dc_g hf
      refine va_iald hx hb hK hP 66 0 rfl rfl hg_2 dn_Circuit_laySignals_153 ?_
      refine xk_ti (y := ((s.1 327) (Int32.toNatClampNeg ((x3 + x5))))) rfl ?_
      refine lv_goto (tgt := 158) hx hb dn_Circuit_laySignals_154 (by decide) ?_
      exact bl_158 k_36 hk_36 x2 x3 x4 x5 (((s.1 327) (Int32.toNatClampNeg ((x3 + x5))))) ((x2 + x5)) (upI s 299 (upd (s.1 299) (Int32.toNatClampNeg t1) t0)) hf H locs ls hP hD hS (lv_sub hl [0, 1, 2, 3, 4] rfl)
  have bl_78 : ∀ (k_36 : Int32 → Int32 → Int32 → Int32 → ms → Option (Unit × ms)) (hk_36 : ∀ (x2 : Int32) (x3 : Int32) (x4 : Int32) (x5 : Int32) (s : ms), k_36 x2 x3 x4 x5 s = some y → dcC p l e ({ frames := 3, cells := 0, slots := 0, locals := 63 }) s0 m [.ref ((a 108)), .int v1].toArray below meth c QQ (dC, dI) A (wC a v cI cB cJ cZ cQ s) 36 7 [(0, .ref ((a 108))), (2, .int x2), (3, .int x3), (4, .int x4), (5, .int x5)] []) (x2 : Int32) (x3 : Int32) (x4 : Int32) (x5 : Int32) (t0 : Int32) (s : ms), bk_Circuit_laySignals_Cs_78 N k_36 x2 x3 x4 x5 t0 s = some y → dcC p l e ({ frames := 3, cells := 0, slots := 0, locals := 63 }) s0 m [.ref ((a 108)), .int v1].toArray below meth c QQ (dC, dI) A (wC a v cI cB cJ cZ cQ s) 78 7 [(0, .ref ((a 108))), (2, .int x2), (3, .int x3), (4, .int x4), (5, .int x5)] [.int t0] := by
    intro k_36 hk_36 x2 x3 x4 x5 t0 s hf H locs ls hP hD hS hl
    unfold bk_Circuit_laySignals_Cs_78 at hf
    refine lv_istore (lv' := [(6, .int t0), (0, .ref ((a 108))), (2, .int x2), (3, .int x3), (4, .int x4), (5, .int x5)]) hx hb dn_Circuit_laySignals_78 hl (by decide) rfl (fun ls hl => ?_)
    refine lv_aload_n hx hb dn_Circuit_laySignals_80 rfl (lv_at hl 1 rfl) ?_
    refine va_get (D := (dC, dI)) (ci := 9) (v := .ref ((a 298))) (C := rn_Circuit) (T := fn_Circuit) (N := 14) hx hb hg in_Circuit hown hK hP 8 rfl rfl 7 (by decide) (hg _ wn_3_78) (fun _ h9 => h9) rfl dn_Circuit_laySignals_81 ?_
    refine lv_iload_n hx hb dn_Circuit_laySignals_84 rfl (lv_at hl 2 rfl) ?_
    refine lv_iload hx hb dn_Circuit_laySignals_85 (lv_at hl 5 rfl) ?_
    refine lv_iadd hx hb dn_Circuit_laySignals_87 ?_
    refine lv_iload_n hx hb dn_Circuit_laySignals_88 rfl (lv_at hl 3 rfl) ?_
    refine lv_iload hx hb dn_Circuit_laySignals_89 (lv_at hl 5 rfl) ?_
    refine lv_iadd hx hb dn_Circuit_laySignals_91 ?_
    obtain ⟨hg_1, hf⟩ := dc_g hf
    refine va_iast hx hb hK hP hD hS 46 0 rfl rfl hg_1 dn_Circuit_laySignals_92 (fun H locs hP hD hS => ?_)
    have hP : va_P (dC, dI) xcl ((wC a v cI cB cJ cZ cQ s).set 46 ((a 298), .inl (cI, 1024, .inl (upd (s.1 298) (Int32.toNatClampNeg ((x2 + x5))) ((x3 + x5)))))) H := hP
    have hD : va_D A ((wC a v cI cB cJ cZ cQ s).set 46 ((a 298), .inl (cI, 1024, .inl (upd (s.1 298) (Int32.toNatClampNeg ((x2 + x5))) ((x3 + x5)))))) := hD
    have hP := wC_P_298 hP
    have hD := wC_D_298 hD
    refine lv_aload_n hx hb dn_Circuit_laySignals_93 rfl (lv_at hl 1 rfl) ?_
    refine va_get (D := (dC, dI)) (ci := 9) (v := .ref ((a 299))) (C := rn_Circuit) (T := fn_Circuit) (N := 14) hx hb hg in_Circuit hown hK hP 8 rfl rfl 8 (by decide) (hg _ wn_3_79) (fun _ h9 => h9) rfl dn_Circuit_laySignals_94 ?_
    refine lv_iload_n hx hb dn_Circuit_laySignals_97 rfl (lv_at hl 2 rfl) ?_
    refine lv_iload hx hb dn_Circuit_laySignals_98 (lv_at hl 5 rfl) ?_
    refine lv_iadd hx hb dn_Circuit_laySignals_100 ?_
    refine lv_iload hx hb dn_Circuit_laySignals_101 (lv_at hl 0 rfl) ?_
    refine lv_if_eq (tgt := 124) hx hb dn_Circuit_laySignals_103 (by decide) (fun h => ?_) (fun h => ?_)
    · have hf := (if_pos h).symm.trans hf
      refine lv_iconst (v := 0) hx hb dn_Circuit_laySignals_124 (by decide) ?_
      exact bl_125 k_36 hk_36 x2 x3 x4 x5 t0 0 ((x2 + x5)) (upI s 298 (upd (s.1 298) (Int32.toNatClampNeg ((x2 + x5))) ((x3 + x5)))) hf H locs ls hP hD hS (lv_sub hl [1, 2, 3, 4, 5, 0] rfl)
    · have hf := (if_neg h).symm.trans hf
      refine lv_aload_n hx hb dn_Circuit_laySignals_106 rfl (lv_at hl 1 rfl) ?_
      refine va_get (D := (dC, dI)) (ci := 9) (v := .ref ((a 109))) (C := rn_Circuit) (T := fn_Circuit) (N := 14) hx hb hg in_Circuit hown hK hP 8 rfl rfl 0 (by decide) (hg _ wn_3_61) (fun _ h9 => h9) rfl dn_Circuit_laySignals_107 ?_
      refine va_get (D := (dC, dI)) (ci := 10) (v := .ref ((a 110))) (C := rn_Design) (T := fn_Design) (N := 16) hx hb hg in_Design hown hK hP 9 rfl rfl 0 (by decide) (hg _ wn_2_237) (fun _ h9 => h9) rfl dn_Circuit_laySignals_110 ?_
      refine va_get (D := (dC, dI)) (ci := 11) (v := .ref ((a 326))) (C := rn_Parts) (T := fn_Parts) (N := 15) hx hb hg in_Parts hown hK hP 10 rfl rfl 5 (by decide) (hg _ wn_2_144) (fun _ h9 => h9) rfl dn_Circuit_laySignals_113 ?_
      refine lv_iload_n hx hb dn_Circuit_laySignals_116 rfl (lv_at hl 3 rfl) ?_
      refine lv_iload hx hb dn_Circuit_laySignals_117 (lv_at hl 5 rfl) ?_
      refine lv_iadd hx hb dn_Circuit_laySignals_119 ?_
      obtain ⟨hg_2, hf⟩ := dc_g hf
      refine va_iald hx hb hK hP 65 0 rfl rfl hg_2 dn_Circuit_laySignals_120 ?_
      refine xk_ti (y := ((s.1 326) (Int32.toNatClampNeg ((x3 + x5))))) rfl ?_
      refine lv_goto (tgt := 125) hx hb dn_Circuit_laySignals_121 (by decide) ?_
      exact bl_125 k_36 hk_36 x2 x3 x4 x5 t0 (((s.1 326) (Int32.toNatClampNeg ((x3 + x5))))) ((x2 + x5)) (upI s 298 (upd (s.1 298) (Int32.toNatClampNeg ((x2 + x5))) ((x3 + x5)))) hf H locs ls hP hD hS (lv_sub hl [1, 2, 3, 4, 5, 0] rfl)
  have hd_36 : ∀ (n : Nat) (x2 : Int32) (x3 : Int32) (x4 : Int32) (x5 : Int32) (s : ms), hd_Circuit_laySignals_Cs_36 N n x2 x3 x4 x5 s = some y → dcC p l e ({ frames := 3, cells := 0, slots := 0, locals := 63 }) s0 m [.ref ((a 108)), .int v1].toArray below meth c QQ (dC, dI) A (wC a v cI cB cJ cZ cQ s) 36 7 [(0, .ref ((a 108))), (2, .int x2), (3, .int x3), (4, .int x4), (5, .int x5)] [] := by
    intro n
    induction n with
    | zero => intro x2 x3 x4 x5 s hf; cases hf
    | succ n ih =>
      intro x2 x3 x4 x5 s hf H locs ls hP hD hS hl
      have hf : bd_Circuit_laySignals_Cs_36 N (hd_Circuit_laySignals_Cs_36 N n) x2 x3 x4 x5 s = some y := hf
      have hk_36 := ih
      generalize hd_Circuit_laySignals_Cs_36 N n = k_36 at hf hk_36
      unfold bd_Circuit_laySignals_Cs_36 at hf
      refine lv_iload hx hb dn_Circuit_laySignals_36 (lv_at hl 4 rfl) ?_
      refine lv_iload hx hb dn_Circuit_laySignals_38 (lv_at hl 3 rfl) ?_
      refine lv_icmp_ge (tgt := 185) hx hb dn_Circuit_laySignals_40 (by decide) (fun h => ?_) (fun h => ?_)
      · have hf := (if_pos h).symm.trans hf
        rw [hQQ, ← Option.some.inj hf]
        exact xk_vret (w1 := fun u : Unit => (wC a v cI cB cJ cZ cQ s)) () hx hb hr hlocks hK hS dn_Circuit_laySignals_185 hP hD trivial (Nat.le_refl _) (Nat.le_refl _)
      · have hf := (if_neg h).symm.trans hf
        refine lv_iload_n hx hb dn_Circuit_laySignals_43 rfl (lv_at hl 1 rfl) ?_
        refine lv_iload hx hb dn_Circuit_laySignals_44 (lv_at hl 4 rfl) ?_
        refine lv_iadd hx hb dn_Circuit_laySignals_46 ?_
        refine lv_aload_n hx hb dn_Circuit_laySignals_47 rfl (lv_at hl 0 rfl) ?_
        refine va_get (D := (dC, dI)) (ci := 9) (v := .int ((s.1 293 0))) (C := rn_Circuit) (T := fn_Circuit) (N := 14) hx hb hg in_Circuit hown hK hP 8 rfl rfl 2 (by decide) (hg _ wn_3_70) (fun _ h9 => h9) rfl dn_Circuit_laySignals_48 ?_
        refine lv_icmp_ge (tgt := 185) hx hb dn_Circuit_laySignals_51 (by decide) (fun h => ?_) (fun h => ?_)
        · have hf := (if_pos h).symm.trans hf
          rw [hQQ, ← Option.some.inj hf]
          exact xk_vret (w1 := fun u : Unit => (wC a v cI cB cJ cZ cQ s)) () hx hb hr hlocks hK hS dn_Circuit_laySignals_185 hP hD trivial (Nat.le_refl _) (Nat.le_refl _)
        · have hf := (if_neg h).symm.trans hf
          refine lv_aload_n hx hb dn_Circuit_laySignals_54 rfl (lv_at hl 0 rfl) ?_
          refine va_get (D := (dC, dI)) (ci := 9) (v := .ref ((a 109))) (C := rn_Circuit) (T := fn_Circuit) (N := 14) hx hb hg in_Circuit hown hK hP 8 rfl rfl 0 (by decide) (hg _ wn_3_61) (fun _ h9 => h9) rfl dn_Circuit_laySignals_55 ?_
          refine va_get (D := (dC, dI)) (ci := 10) (v := .ref ((a 110))) (C := rn_Design) (T := fn_Design) (N := 16) hx hb hg in_Design hown hK hP 9 rfl rfl 0 (by decide) (hg _ wn_2_237) (fun _ h9 => h9) rfl dn_Circuit_laySignals_58 ?_
          refine va_get (D := (dC, dI)) (ci := 11) (v := .ref ((a 324))) (C := rn_Parts) (T := fn_Parts) (N := 15) hx hb hg in_Parts hown hK hP 10 rfl rfl 3 (by decide) (hg _ wn_2_136) (fun _ h9 => h9) rfl dn_Circuit_laySignals_61 ?_
          refine lv_iload_n hx hb dn_Circuit_laySignals_64 rfl (lv_at hl 2 rfl) ?_
          refine lv_iload hx hb dn_Circuit_laySignals_65 (lv_at hl 4 rfl) ?_
          refine lv_iadd hx hb dn_Circuit_laySignals_67 ?_
          obtain ⟨hg_1, hf⟩ := dc_g hf
          refine va_iald hx hb hK hP 63 0 rfl rfl hg_1 dn_Circuit_laySignals_68 ?_
          refine xk_ti (y := ((s.1 324) (Int32.toNatClampNeg ((x3 + x5))))) rfl ?_
          refine lv_iconst (v := 1) hx hb dn_Circuit_laySignals_69 (by decide) ?_
          refine lv_icmp_ne (tgt := 77) hx hb dn_Circuit_laySignals_70 (by decide) (fun h => ?_) (fun h => ?_)
          · have hf := (if_neg h).symm.trans hf
            refine lv_iconst (v := 0) hx hb dn_Circuit_laySignals_77 (by decide) ?_
            exact bl_78 k_36 hk_36 x2 x3 x4 x5 0 s hf H locs ls hP hD hS hl
          · have hf := (if_pos h).symm.trans hf
            refine lv_iconst (v := 1) hx hb dn_Circuit_laySignals_73 (by decide) ?_
            refine lv_goto (tgt := 78) hx hb dn_Circuit_laySignals_74 (by decide) ?_
            exact bl_78 k_36 hk_36 x2 x3 x4 x5 1 s hf H locs ls hP hD hS hl
  intro H locs ls hP hD hS hl
  unfold fn_Circuit_laySignals_Cs at hf
  refine lv_aload_n hx hb dn_Circuit_laySignals_0 rfl (lv_at hl 0 rfl) ?_
  refine va_get (D := (dC, dI)) (ci := 9) (v := .ref ((a 294))) (C := rn_Circuit) (T := fn_Circuit) (N := 14) hx hb hg in_Circuit hown hK hP 8 rfl rfl 3 (by decide) (hg _ wn_3_72) (fun _ h9 => h9) rfl dn_Circuit_laySignals_1 ?_
  refine lv_iload_n hx hb dn_Circuit_laySignals_4 rfl (lv_at hl 1 rfl) ?_
  obtain ⟨hg_1, hf⟩ := dc_g hf
  refine va_iald hx hb hK hP 42 0 rfl rfl hg_1 dn_Circuit_laySignals_5 ?_
  refine xk_ti (y := ((s.1 294) (Int32.toNatClampNeg v1))) rfl ?_
  refine lv_istore_n (lv' := [(2, .int (((s.1 294) (Int32.toNatClampNeg v1)))), (0, .ref ((a 108))), (1, .int v1)]) hx hb dn_Circuit_laySignals_6 rfl hl (by decide) rfl (fun ls hl => ?_)
  refine lv_aload_n hx hb dn_Circuit_laySignals_7 rfl (lv_at hl 1 rfl) ?_
  refine va_get (D := (dC, dI)) (ci := 9) (v := .ref ((a 109))) (C := rn_Circuit) (T := fn_Circuit) (N := 14) hx hb hg in_Circuit hown hK hP 8 rfl rfl 0 (by decide) (hg _ wn_3_61) (fun _ h9 => h9) rfl dn_Circuit_laySignals_8 ?_
  refine lv_aload_n hx hb dn_Circuit_laySignals_11 rfl (lv_at hl 1 rfl) ?_
  refine va_get (D := (dC, dI)) (ci := 9) (v := .ref ((a 295))) (C := rn_Circuit) (T := fn_Circuit) (N := 14) hx hb hg in_Circuit hown hK hP 8 rfl rfl 4 (by decide) (hg _ wn_3_74) (fun _ h9 => h9) rfl dn_Circuit_laySignals_12 ?_
  refine lv_iload_n hx hb dn_Circuit_laySignals_15 rfl (lv_at hl 2 rfl) ?_
  obtain ⟨hg_2, hf⟩ := dc_g hf
  refine va_iald hx hb hK hP 43 0 rfl rfl hg_2 dn_Circuit_laySignals_16 ?_
  refine xk_ti (y := ((s.1 295) (Int32.toNatClampNeg v1))) rfl ?_
  obtain ⟨q_3, hc_4, hf⟩ := dc_b hf
  refine dc_calli (dc_runV (ar := 1) (As := [.int (((s.1 295) (Int32.toNatClampNeg v1)))]) (rest := []) (ci := 10) (q0 := 9) ⟨hx, hb, hml, hown, hg⟩ hK hN hT hS hA (ct_Design_firstDecl_Ds l dC dI cI cB cJ cZ cQ N H.size a v (((s.1 295) (Int32.toNatClampNeg v1))) s q_3 hc_4) hP hD rfl rfl wn_6_189 wn_5_100 wn_5_101 wn_1_10 wn_5_102 rfl rfl (by decide +kernel) ⟨Nat.le_of_ble_eq_true rfl, Nat.le_of_ble_eq_true rfl⟩ rfl hl.1 rfl (Nat.le_of_ble_eq_true rfl) dn_Circuit_laySignals_17 ⟨Nat.le_of_ble_eq_true rfl, Nat.le_of_ble_eq_true rfl⟩) hP hD hS hA (fun r_5 _ H locs hw hP hD hS => ?_)
  have hw : r_5 = q_3.1 := hw
  subst hw
  refine lv_istore_n (lv' := [(3, .int q_3.1), (2, .int (((s.1 294) (Int32.toNatClampNeg v1)))), (0, .ref ((a 108))), (1, .int v1)]) hx hb dn_Circuit_laySignals_20 rfl hl (by decide) rfl (fun ls hl => ?_)
  refine lv_aload_n hx hb dn_Circuit_laySignals_21 rfl (lv_at hl 2 rfl) ?_
  refine lv_aload_n hx hb dn_Circuit_laySignals_22 rfl (lv_at hl 2 rfl) ?_
  refine va_get (D := (dC, dI)) (ci := 9) (v := .ref ((a 295))) (C := rn_Circuit) (T := fn_Circuit) (N := 14) hx hb hg in_Circuit hown hK hP 8 rfl rfl 4 (by decide) (hg _ wn_3_74) (fun _ h9 => h9) rfl dn_Circuit_laySignals_23 ?_
  refine lv_iload_n hx hb dn_Circuit_laySignals_26 rfl (lv_at hl 3 rfl) ?_
  obtain ⟨hg_6, hf⟩ := dc_g hf
  refine va_iald hx hb hK hP 43 0 rfl rfl hg_6 dn_Circuit_laySignals_27 ?_
  refine xk_ti (y := ((q_3.2.1 295) (Int32.toNatClampNeg v1))) rfl ?_
  obtain ⟨q_7, hc_8, hf⟩ := dc_b hf
  refine dc_calli (dc_runV (ar := 1) (As := [.int (((q_3.2.1 295) (Int32.toNatClampNeg v1)))]) (rest := []) (ci := 9) (q0 := 8) ⟨hx, hb, hml, hown, hg⟩ hK hN hT hS hA (ct_Circuit_ownSignals_Cs l dC dI cI cB cJ cZ cQ N H.size a v (((q_3.2.1 295) (Int32.toNatClampNeg v1))) q_3.2 q_7 hc_8) hP hD rfl rfl wn_6_185 wn_6_187 sn_Circuit_ownSignals wn_1_9 wn_6_188 rfl rfl (by decide +kernel) ⟨Nat.le_of_ble_eq_true rfl, Nat.le_of_ble_eq_true rfl⟩ rfl hl.1 rfl (Nat.le_of_ble_eq_true rfl) dn_Circuit_laySignals_28 ⟨Nat.le_of_ble_eq_true rfl, Nat.le_of_ble_eq_true rfl⟩) hP hD hS hA (fun r_9 _ H locs hw hP hD hS => ?_)
  have hw : r_9 = q_7.1 := hw
  subst hw
  refine lv_istore (lv' := [(4, .int q_7.1), (3, .int q_3.1), (2, .int (((s.1 294) (Int32.toNatClampNeg v1)))), (0, .ref ((a 108))), (1, .int v1)]) hx hb dn_Circuit_laySignals_31 hl (by decide) rfl (fun ls hl => ?_)
  refine lv_iconst (v := 0) hx hb dn_Circuit_laySignals_33 (by decide) ?_
  refine lv_istore (lv' := [(5, .int 0), (4, .int q_7.1), (3, .int q_3.1), (2, .int (((s.1 294) (Int32.toNatClampNeg v1)))), (0, .ref ((a 108))), (1, .int v1)]) hx hb dn_Circuit_laySignals_34 hl (by decide) rfl (fun ls hl => ?_)
  exact hd_36 N (((s.1 294) (Int32.toNatClampNeg v1))) q_3.1 q_7.1 0 q_7.2 hf H locs ls hP hD hS (lv_sub hl [4, 3, 2, 1, 0] rfl)
