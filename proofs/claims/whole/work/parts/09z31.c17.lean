set_option maxHeartbeats 8000000 in
set_option maxRecDepth 100000 in
theorem ct_Circuit_seek_Cc_307 (l : Launch) (dC : Nat → ClassId) (dI : Nat → Nat → Nat) (cI cB cJ cZ cQ : ClassId) (N sz : Nat) (a : Nat → Nat) (v : Nat → Value) (v2 : Int32) (s : ms) (y : (Int32 × ms)) (hf : fn_Circuit_seek_Cc_307 N v2 s = some y) : Met l yn_Circuit_seek (xw yn_Circuit_seek bn_Circuit_seek 6 (some .int)) ({ frames := 4, cells := 0, slots := 0, locals := 92 }) (dc_P (dC, dI) xcl (xt cI cB cJ cZ cQ) [.ref ((a 112)), .ref ((a 307)), .int v2] sz (wC a v cI cB cJ cZ cQ s)) (xk_Qi (dC, dI) xcl (xt cI cB cJ cZ cQ) (fun (r : Int32) (_ : Unit) => r = y.1) (fun u : Unit => (wC a v cI cB cJ cZ cQ y.2)) (va_A (wC a v cI cB cJ cZ cQ s) sz)) 0 0 (va_A (wC a v cI cB cJ cZ cQ s) sz) := by
  refine dc_of (QA := xk_Qi (dC, dI) xcl (xt cI cB cJ cZ cQ) (fun (r : Int32) (_ : Unit) => r = y.1) (fun u : Unit => (wC a v cI cB cJ cZ cQ y.2))) (by decide) (Nat.le_of_ble_eq_true rfl) ?_
  intro p e s0 m below meth c hx hb hml hown hg hr hlocks hin hP hK hN A hA hD hT ls hl
  have hown : s0.vm.findClass rn_Circuit = some m.cls := hown
  obtain ⟨H, hH⟩ : ∃ z, z = s0.heap := ⟨_, rfl⟩
  rw [← hH] at hP
  have hS : va_S A s0.heap H [] := by rw [hH]; exact va_S.rf
  suffices kk : ∀ QQ : State → Prop, QQ = MQ below (xk_Qi (dC, dI) xcl (xt cI cB cJ cZ cQ) (fun (r : Int32) (_ : Unit) => r = y.1) (fun u : Unit => (wC a v cI cB cJ cZ cQ y.2)) A) [.ref ((a 112)), .ref ((a 307)), .int v2].toArray s0 0 0 A → dcC p l e ({ frames := 4, cells := 0, slots := 0, locals := 92 }) s0 m [.ref ((a 112)), .ref ((a 307)), .int v2].toArray below meth c QQ (dC, dI) A (wC a v cI cB cJ cZ cQ s) 0 6 [(0, .ref ((a 112))), (1, .ref ((a 307))), (2, .int v2)] [] by
    have k9 := kk _ rfl H [] ls hP hD hS hl
    rw [hH] at k9; exact k9
  clear hP hD hS hl hH H ls
  intro QQ hQQ
  have bl_58 : ∀ (x2 : Int32) (x3 : Int32) (x4 : Int32) (s : ms), bk_Circuit_seek_Cc_307_58 N x2 x3 x4 s = some y → dcC p l e ({ frames := 4, cells := 0, slots := 0, locals := 92 }) s0 m [.ref ((a 112)), .ref ((a 307)), .int v2].toArray below meth c QQ (dC, dI) A (wC a v cI cB cJ cZ cQ s) 58 6 [(0, .ref ((a 112))), (1, .ref ((a 307))), (2, .int x2), (3, .int x3), (4, .int x4)] [] := by
    intro x2 x3 x4 s hf H locs ls hP hD hS hl
    unfold bk_Circuit_seek_Cc_307_58 at hf
    refine lv_iload_n hx hb dn_Circuit_seek_58 rfl (lv_at hl 3 rfl) ?_
    refine lv_iconst (v := (-1)) hx hb dn_Circuit_seek_59 (by decide) ?_
    refine lv_icmp_ne (tgt := 67) hx hb dn_Circuit_seek_60 (by decide) (fun h => ?_) (fun h => ?_)
    · have hf := (if_neg h).symm.trans hf
      refine lv_aload_n hx hb dn_Circuit_seek_67 rfl (lv_at hl 0 rfl) ?_
      refine lv_iload_n hx hb dn_Circuit_seek_68 rfl (lv_at hl 3 rfl) ?_
      refine lv_aload_n hx hb dn_Circuit_seek_69 rfl (lv_at hl 1 rfl) ?_
      refine lv_iload hx hb dn_Circuit_seek_70 (lv_at hl 4 rfl) ?_
      refine lv_iload_n hx hb dn_Circuit_seek_72 rfl (lv_at hl 2 rfl) ?_
      obtain ⟨q_1, hc_2, hf⟩ := dc_b hf
      refine dc_calli (dc_runV (ar := 4) (As := [.int x3, .ref ((a 307)), .int x4, .int x2]) (rest := []) (ci := 9) (q0 := 12) ⟨hx, hb, hml, hown, hg⟩ hK hN hT hS hA (ct_Circuit_signalCalled_Cc_307 l dC dI cI cB cJ cZ cQ N H.size a v x3 x4 x2 s q_1 hc_2) hP hD rfl rfl wn_7_164 wn_7_166 sn_Circuit_signalCalled wn_1_9 wn_7_167 rfl rfl (by decide +kernel) ⟨Nat.le_of_ble_eq_true rfl, Nat.le_of_ble_eq_true rfl⟩ rfl hl.1 rfl (Nat.le_of_ble_eq_true rfl) dn_Circuit_seek_73 ⟨Nat.le_of_ble_eq_true rfl, Nat.le_of_ble_eq_true rfl⟩) hP hD hS hA (fun r_3 _ H locs hw hP hD hS => ?_)
      have hw : r_3 = q_1.1 := hw
      subst hw
      rw [hQQ, ← Option.some.inj hf]
      exact xk_iret (w1 := fun u : Unit => (wC a v cI cB cJ cZ cQ q_1.2)) () hx hb hr hlocks hK hS dn_Circuit_seek_76 hP hD rfl (Nat.le_refl _) (Nat.le_refl _)
    · have hf := (if_pos h).symm.trans hf
      refine lv_iconst (v := (-1)) hx hb dn_Circuit_seek_63 (by decide) ?_
      refine lv_goto (tgt := 76) hx hb dn_Circuit_seek_64 (by decide) ?_
      rw [hQQ, ← Option.some.inj hf]
      exact xk_iret (w1 := fun u : Unit => (wC a v cI cB cJ cZ cQ s)) () hx hb hr hlocks hK hS dn_Circuit_seek_76 hP hD rfl (Nat.le_refl _) (Nat.le_refl _)
  have hd_8 : ∀ (n : Nat) (x2 : Int32) (x3 : Int32) (x4 : Int32) (x5 : Int32) (s : ms), hd_Circuit_seek_Cc_307_8 N n x2 x3 x4 x5 s = some y → dcC p l e ({ frames := 4, cells := 0, slots := 0, locals := 92 }) s0 m [.ref ((a 112)), .ref ((a 307)), .int v2].toArray below meth c QQ (dC, dI) A (wC a v cI cB cJ cZ cQ s) 8 6 [(0, .ref ((a 112))), (1, .ref ((a 307))), (2, .int x2), (3, .int x3), (4, .int x4), (5, .int x5)] [] := by
    intro n
    induction n with
    | zero => intro x2 x3 x4 x5 s hf; cases hf
    | succ n ih =>
      intro x2 x3 x4 x5 s hf H locs ls hP hD hS hl
      have hf : bd_Circuit_seek_Cc_307_8 N (hd_Circuit_seek_Cc_307_8 N n) x2 x3 x4 x5 s = some y := hf
      have hk_8 := ih
      generalize hd_Circuit_seek_Cc_307_8 N n = k_8 at hf hk_8
      unfold bd_Circuit_seek_Cc_307_8 at hf
      refine lv_iload hx hb dn_Circuit_seek_8 (lv_at hl 5 rfl) ?_
      refine lv_iload_n hx hb dn_Circuit_seek_10 rfl (lv_at hl 2 rfl) ?_
      refine lv_icmp_ge (tgt := 58) hx hb dn_Circuit_seek_11 (by decide) (fun h => ?_) (fun h => ?_)
      · have hf := (if_pos h).symm.trans hf
        exact bl_58 x2 x3 x4 s hf H locs ls hP hD hS (lv_sub hl [0, 1, 2, 3, 4] rfl)
      · have hf := (if_neg h).symm.trans hf
        refine lv_iload hx hb dn_Circuit_seek_14 (lv_at hl 5 rfl) ?_
        refine lv_aload_n hx hb dn_Circuit_seek_16 rfl (lv_at hl 1 rfl) ?_
        refine va_alen (v := 65536) hx hb hK hP 52 1 rfl rfl rfl dn_Circuit_seek_17 ?_
        refine lv_icmp_ge (tgt := 58) hx hb dn_Circuit_seek_18 (by decide) (fun h => ?_) (fun h => ?_)
        · have hf := (if_pos h).symm.trans hf
          exact bl_58 x2 x3 x4 s hf H locs ls hP hD hS (lv_sub hl [0, 1, 2, 3, 4] rfl)
        · have hf := (if_neg h).symm.trans hf
          refine lv_iload_n hx hb dn_Circuit_seek_21 rfl (lv_at hl 3 rfl) ?_
          refine lv_iconst (v := (-1)) hx hb dn_Circuit_seek_22 (by decide) ?_
          refine lv_icmp_eq (tgt := 58) hx hb dn_Circuit_seek_23 (by decide) (fun h => ?_) (fun h => ?_)
          · have hf := (if_pos h).symm.trans hf
            exact bl_58 x2 x3 x4 s hf H locs ls hP hD hS (lv_sub hl [0, 1, 2, 3, 4] rfl)
          · have hf := (if_neg h).symm.trans hf
            refine lv_aload_n hx hb dn_Circuit_seek_26 rfl (lv_at hl 1 rfl) ?_
            refine lv_iload hx hb dn_Circuit_seek_27 (lv_at hl 5 rfl) ?_
            obtain ⟨hg_1, hf⟩ := dc_g hf
            refine va_bald hx hb hK hP 52 1 rfl rfl hg_1 dn_Circuit_seek_29 ?_
            refine xk_ti (y := ((s.1 307) (Int32.toNatClampNeg x5))) rfl ?_
            refine lv_bipush (v := 46) hx hb dn_Circuit_seek_30 (by decide) ?_
            refine lv_icmp_ne (tgt := 52) hx hb dn_Circuit_seek_32 (by decide) (fun h => ?_) (fun h => ?_)
            · have hf := (if_neg h).symm.trans hf
              refine lv_iinc (v := (x5 + 1)) (lv' := [(5, .int ((x5 + 1))), (0, .ref ((a 112))), (1, .ref ((a 307))), (2, .int x2), (3, .int x3), (4, .int x4)]) hx hb dn_Circuit_seek_52 hl (k := 5) rfl (dc_inc (by decide)) (by decide) rfl (fun ls hl => ?_)
              refine lv_goto (tgt := 8) hx hb dn_Circuit_seek_55 (by decide) ?_
              exact hk_8 x2 x3 x4 ((x5 + 1)) s hf H locs ls hP hD hS (lv_sub hl [1, 2, 3, 4, 5, 0] rfl)
            · have hf := (if_pos h).symm.trans hf
              refine lv_aload_n hx hb dn_Circuit_seek_35 rfl (lv_at hl 0 rfl) ?_
              refine lv_iload_n hx hb dn_Circuit_seek_36 rfl (lv_at hl 3 rfl) ?_
              refine lv_aload_n hx hb dn_Circuit_seek_37 rfl (lv_at hl 1 rfl) ?_
              refine lv_iload hx hb dn_Circuit_seek_38 (lv_at hl 4 rfl) ?_
              refine lv_iload hx hb dn_Circuit_seek_40 (lv_at hl 5 rfl) ?_
              obtain ⟨q_2, hc_3, hf⟩ := dc_b hf
              refine dc_calli (dc_runV (ar := 4) (As := [.int x3, .ref ((a 307)), .int x4, .int x5]) (rest := []) (ci := 9) (q0 := 12) ⟨hx, hb, hml, hown, hg⟩ hK hN hT hS hA (ct_Circuit_childCalled_Cc_307 l dC dI cI cB cJ cZ cQ N H.size a v x3 x4 x5 s q_2 hc_3) hP hD rfl rfl wn_7_155 wn_7_157 sn_Circuit_childCalled wn_1_9 wn_7_158 rfl rfl (by decide +kernel) ⟨Nat.le_of_ble_eq_true rfl, Nat.le_of_ble_eq_true rfl⟩ rfl hl.1 rfl (Nat.le_of_ble_eq_true rfl) dn_Circuit_seek_42 ⟨Nat.le_of_ble_eq_true rfl, Nat.le_of_ble_eq_true rfl⟩) hP hD hS hA (fun r_4 _ H locs hw hP hD hS => ?_)
              have hw : r_4 = q_2.1 := hw
              subst hw
              refine lv_istore_n (lv' := [(3, .int q_2.1), (0, .ref ((a 112))), (1, .ref ((a 307))), (2, .int x2), (4, .int x4), (5, .int x5)]) hx hb dn_Circuit_seek_45 rfl hl (by decide) rfl (fun ls hl => ?_)
              refine lv_iload hx hb dn_Circuit_seek_46 (lv_at hl 5 rfl) ?_
              refine lv_iconst (v := 1) hx hb dn_Circuit_seek_48 (by decide) ?_
              refine lv_iadd hx hb dn_Circuit_seek_49 ?_
              refine lv_istore (lv' := [(4, .int ((x5 + 1))), (3, .int q_2.1), (0, .ref ((a 112))), (1, .ref ((a 307))), (2, .int x2), (5, .int x5)]) hx hb dn_Circuit_seek_50 hl (by decide) rfl (fun ls hl => ?_)
              refine lv_iinc (v := (x5 + 1)) (lv' := [(5, .int ((x5 + 1))), (4, .int ((x5 + 1))), (3, .int q_2.1), (0, .ref ((a 112))), (1, .ref ((a 307))), (2, .int x2)]) hx hb dn_Circuit_seek_52 hl (k := 5) rfl (dc_inc (by decide)) (by decide) rfl (fun ls hl => ?_)
              refine lv_goto (tgt := 8) hx hb dn_Circuit_seek_55 (by decide) ?_
              exact hk_8 x2 q_2.1 ((x5 + 1)) ((x5 + 1)) q_2.2 hf H locs ls hP hD hS (lv_sub hl [3, 4, 5, 2, 1, 0] rfl)
  intro H locs ls hP hD hS hl
  unfold fn_Circuit_seek_Cc_307 at hf
  refine lv_iconst (v := 0) hx hb dn_Circuit_seek_0 (by decide) ?_
  refine lv_istore_n (lv' := [(3, .int 0), (0, .ref ((a 112))), (1, .ref ((a 307))), (2, .int v2)]) hx hb dn_Circuit_seek_1 rfl hl (by decide) rfl (fun ls hl => ?_)
  refine lv_iconst (v := 0) hx hb dn_Circuit_seek_2 (by decide) ?_
  refine lv_istore (lv' := [(4, .int 0), (3, .int 0), (0, .ref ((a 112))), (1, .ref ((a 307))), (2, .int v2)]) hx hb dn_Circuit_seek_3 hl (by decide) rfl (fun ls hl => ?_)
  refine lv_iconst (v := 0) hx hb dn_Circuit_seek_5 (by decide) ?_
  refine lv_istore (lv' := [(5, .int 0), (4, .int 0), (3, .int 0), (0, .ref ((a 112))), (1, .ref ((a 307))), (2, .int v2)]) hx hb dn_Circuit_seek_6 hl (by decide) rfl (fun ls hl => ?_)
  exact hd_8 N v2 0 0 0 s hf H locs ls hP hD hS (lv_sub hl [3, 4, 5, 2, 1, 0] rfl)
set_option maxHeartbeats 8000000 in
set_option maxRecDepth 100000 in
theorem ct_C_find_C (l : Launch) (dC : Nat → ClassId) (dI : Nat → Nat → Nat) (cI cB cJ cZ cQ : ClassId) (N sz : Nat) (a : Nat → Nat) (v : Nat → Value) (s : ms) (y : (Int32 × ms)) (hf : fn_C_find_C N s = some y) : Met l yn_C_find (xw yn_C_find bn_C_find 2 (some .int)) ({ frames := 5, cells := 0, slots := 0, locals := 117 }) (dc_P (dC, dI) xcl (xt cI cB cJ cZ cQ) [.ref ((a 100))] sz (wC a v cI cB cJ cZ cQ s)) (xk_Qi (dC, dI) xcl (xt cI cB cJ cZ cQ) (fun (r : Int32) (_ : Unit) => r = y.1) (fun u : Unit => (wC a v cI cB cJ cZ cQ y.2)) (va_A (wC a v cI cB cJ cZ cQ s) sz)) 0 0 (va_A (wC a v cI cB cJ cZ cQ s) sz) := by
  refine dc_of (QA := xk_Qi (dC, dI) xcl (xt cI cB cJ cZ cQ) (fun (r : Int32) (_ : Unit) => r = y.1) (fun u : Unit => (wC a v cI cB cJ cZ cQ y.2))) (by decide) (Nat.le_of_ble_eq_true rfl) ?_
  intro p e s0 m below meth c hx hb hml hown hg hr hlocks hin hP hK hN A hA hD hT ls hl
  have hown : s0.vm.findClass rn_C = some m.cls := hown
  obtain ⟨H, hH⟩ : ∃ z, z = s0.heap := ⟨_, rfl⟩
  rw [← hH] at hP
  have hS : va_S A s0.heap H [] := by rw [hH]; exact va_S.rf
  suffices kk : ∀ QQ : State → Prop, QQ = MQ below (xk_Qi (dC, dI) xcl (xt cI cB cJ cZ cQ) (fun (r : Int32) (_ : Unit) => r = y.1) (fun u : Unit => (wC a v cI cB cJ cZ cQ y.2)) A) [.ref ((a 100))].toArray s0 0 0 A → dcC p l e ({ frames := 5, cells := 0, slots := 0, locals := 117 }) s0 m [.ref ((a 100))].toArray below meth c QQ (dC, dI) A (wC a v cI cB cJ cZ cQ s) 0 2 [(0, .ref ((a 100)))] [] by
    have k9 := kk _ rfl H [] ls hP hD hS hl
    rw [hH] at k9; exact k9
  clear hP hD hS hl hH H ls
  intro QQ hQQ
  intro H locs ls hP hD hS hl
  unfold fn_C_find_C at hf
  refine lv_aload_n hx hb dn_C_find_0 rfl (lv_at hl 0 rfl) ?_
  refine va_get (D := (dC, dI)) (ci := 1) (v := .int ((s.1 208 0))) (C := rn_C) (T := fn_C) (N := 11) hx hb hg in_C hown hK hP 0 rfl rfl 8 (by decide) (hg _ wn_3_133) (fun _ h9 => h9) rfl dn_C_find_1 ?_
  refine lv_if_ne (tgt := 15) hx hb dn_C_find_4 (by decide) (fun h => ?_) (fun h => ?_)
  · have hf := (if_neg h).symm.trans hf
    refine lv_aload_n hx hb dn_C_find_15 rfl (lv_at hl 0 rfl) ?_
    refine va_get (D := (dC, dI)) (ci := 1) (v := .ref ((a 112))) (C := rn_C) (T := fn_C) (N := 11) hx hb hg in_C hown hK hP 0 rfl rfl 9 (by decide) (hg _ wn_3_134) (fun _ h9 => h9) rfl dn_C_find_16 ?_
    refine lv_aload_n hx hb dn_C_find_19 rfl (lv_at hl 0 rfl) ?_
    refine va_get (D := (dC, dI)) (ci := 1) (v := .ref ((a 108))) (C := rn_C) (T := fn_C) (N := 11) hx hb hg in_C hown hK hP 0 rfl rfl 10 (by decide) (hg _ wn_3_135) (fun _ h9 => h9) rfl dn_C_find_20 ?_
    refine va_get (D := (dC, dI)) (ci := 9) (v := .ref ((a 109))) (C := rn_Circuit) (T := fn_Circuit) (N := 14) hx hb hg in_Circuit hown hK hP 8 rfl rfl 0 (by decide) (hg _ wn_3_62) (fun _ h9 => h9) rfl dn_C_find_23 ?_
    refine va_get (D := (dC, dI)) (ci := 10) (v := .ref ((a 307))) (C := rn_Design) (T := fn_Design) (N := 16) hx hb hg in_Design hown hK hP 9 rfl rfl 2 (by decide) (hg _ wn_3_6) (fun _ h9 => h9) rfl dn_C_find_26 ?_
    refine lv_aload_n hx hb dn_C_find_29 rfl (lv_at hl 0 rfl) ?_
    refine va_get (D := (dC, dI)) (ci := 1) (v := .int ((s.1 200 0))) (C := rn_C) (T := fn_C) (N := 11) hx hb hg in_C hown hK hP 0 rfl rfl 0 (by decide) (hg _ wn_3_125) (fun _ h9 => h9) rfl dn_C_find_30 ?_
    obtain ⟨q_1, hc_2, hf⟩ := dc_b hf
    refine dc_calli (dc_runV (ar := 2) (As := [.ref ((a 307)), .int ((s.1 200 0))]) (rest := []) (ci := 9) (q0 := 12) ⟨hx, hb, hml, hown, hg⟩ hK hN hT hS hA (ct_Circuit_seek_Cc_307 l dC dI cI cB cJ cZ cQ N H.size a v ((s.1 200 0)) s q_1 hc_2) hP hD rfl rfl wn_7_151 wn_7_152 wn_7_153 wn_1_9 wn_7_154 rfl rfl (by decide +kernel) ⟨Nat.le_of_ble_eq_true rfl, Nat.le_of_ble_eq_true rfl⟩ rfl hl.1 rfl (Nat.le_of_ble_eq_true rfl) dn_C_find_33 ⟨Nat.le_of_ble_eq_true rfl, Nat.le_of_ble_eq_true rfl⟩) hP hD hS hA (fun r_3 _ H locs hw hP hD hS => ?_)
    have hw : r_3 = q_1.1 := hw
    subst hw
    refine lv_istore_n (lv' := [(1, .int q_1.1), (0, .ref ((a 100)))]) hx hb dn_C_find_36 rfl hl (by decide) rfl (fun ls hl => ?_)
    refine lv_aload_n hx hb dn_C_find_37 rfl (lv_at hl 1 rfl) ?_
    refine lv_iconst (v := 0) hx hb dn_C_find_38 (by decide) ?_
    refine va_put (D := (dC, dI)) (ci := 1) (v := .int 0) (ty := .int) (C := rn_C) (T := fn_C) (N := 11) hx hb hg in_C tn_C tk_C nn_C hown hK hP hD hS 0 rfl rfl 0 (by decide) (hg _ wn_3_125) (fun _ h9 => h9) rfl (tk_C 0 (by decide)) rfl rfl (Nat.le_of_ble_eq_true rfl) dn_C_find_39 (fun H locs hP hD hS => ?_)
    have hP := wC_P_200 hP
    have hD := wC_D_200 hD
    refine lv_iload_n hx hb dn_C_find_42 rfl (lv_at hl 0 rfl) ?_
    rw [hQQ, ← Option.some.inj hf]
    exact xk_iret (w1 := fun u : Unit => (wC a v cI cB cJ cZ cQ (upI q_1.2 200 (fun _ => 0)))) () hx hb hr hlocks hK hS dn_C_find_43 hP hD rfl (Nat.le_refl _) (Nat.le_refl _)
  · have hf := (if_pos h).symm.trans hf
    cases hf
set_option maxHeartbeats 8000000 in
set_option maxRecDepth 100000 in
theorem ct_Circuit_widthOf_Cc (l : Launch) (dC : Nat → ClassId) (dI : Nat → Nat → Nat) (cI cB cJ cZ cQ : ClassId) (N sz : Nat) (a : Nat → Nat) (v : Nat → Value) (v1 : Int32) (s : ms) (y : (Int32 × ms)) (hf : fn_Circuit_widthOf_Cc N v1 s = some y) : Met l yn_Circuit_widthOf (xw yn_Circuit_widthOf bn_Circuit_widthOf 2 (some .int)) ({ frames := 1, cells := 0, slots := 0, locals := 21 }) (dc_P (dC, dI) xcl (xt cI cB cJ cZ cQ) [.ref ((a 112)), .int v1] sz (wC a v cI cB cJ cZ cQ s)) (xk_Qi (dC, dI) xcl (xt cI cB cJ cZ cQ) (fun (r : Int32) (_ : Unit) => r = y.1) (fun u : Unit => (wC a v cI cB cJ cZ cQ y.2)) (va_A (wC a v cI cB cJ cZ cQ s) sz)) 0 0 (va_A (wC a v cI cB cJ cZ cQ s) sz) := by
  refine dc_of (QA := xk_Qi (dC, dI) xcl (xt cI cB cJ cZ cQ) (fun (r : Int32) (_ : Unit) => r = y.1) (fun u : Unit => (wC a v cI cB cJ cZ cQ y.2))) (by decide) (Nat.le_of_ble_eq_true rfl) ?_
  intro p e s0 m below meth c hx hb hml hown hg hr hlocks hin hP hK hN A hA hD hT ls hl
  have hown : s0.vm.findClass rn_Circuit = some m.cls := hown
  obtain ⟨H, hH⟩ : ∃ z, z = s0.heap := ⟨_, rfl⟩
  rw [← hH] at hP
  have hS : va_S A s0.heap H [] := by rw [hH]; exact va_S.rf
  suffices kk : ∀ QQ : State → Prop, QQ = MQ below (xk_Qi (dC, dI) xcl (xt cI cB cJ cZ cQ) (fun (r : Int32) (_ : Unit) => r = y.1) (fun u : Unit => (wC a v cI cB cJ cZ cQ y.2)) A) [.ref ((a 112)), .int v1].toArray s0 0 0 A → dcC p l e ({ frames := 1, cells := 0, slots := 0, locals := 21 }) s0 m [.ref ((a 112)), .int v1].toArray below meth c QQ (dC, dI) A (wC a v cI cB cJ cZ cQ s) 0 2 [(0, .ref ((a 112))), (1, .int v1)] [] by
    have k9 := kk _ rfl H [] ls hP hD hS hl
    rw [hH] at k9; exact k9
  clear hP hD hS hl hH H ls
  intro QQ hQQ
  intro H locs ls hP hD hS hl
  unfold fn_Circuit_widthOf_Cc at hf
  refine lv_aload_n hx hb dn_Circuit_widthOf_0 rfl (lv_at hl 0 rfl) ?_
  refine lv_iload_n hx hb dn_Circuit_widthOf_1 rfl (lv_at hl 1 rfl) ?_
  obtain ⟨q_1, hc_2, hf⟩ := dc_b hf
  refine dc_calli (dc_runV (ar := 1) (As := [.int v1]) (rest := []) (ci := 9) (q0 := 12) ⟨hx, hb, hml, hown, hg⟩ hK hN hT hS hA (ct_Circuit_isSignal_Cc l dC dI cI cB cJ cZ cQ N H.size a v v1 s q_1 hc_2) hP hD rfl rfl wn_6_207 wn_6_209 sn_Circuit_isSignal wn_1_9 wn_6_210 rfl rfl (by decide +kernel) ⟨Nat.le_of_ble_eq_true rfl, Nat.le_of_ble_eq_true rfl⟩ rfl hl.1 rfl (Nat.le_of_ble_eq_true rfl) dn_Circuit_widthOf_2 ⟨Nat.le_of_ble_eq_true rfl, Nat.le_of_ble_eq_true rfl⟩) hP hD hS hA (fun r_3 _ H locs hw hP hD hS => ?_)
  have hw : r_3 = q_1.1 := hw
  subst hw
  refine lv_if_eq (tgt := 28) hx hb dn_Circuit_widthOf_5 (by decide) (fun h => ?_) (fun h => ?_)
  · have hf := (if_pos h).symm.trans hf
    refine lv_iconst (v := 1) hx hb dn_Circuit_widthOf_28 (by decide) ?_
    rw [hQQ, ← Option.some.inj hf]
    exact xk_iret (w1 := fun u : Unit => (wC a v cI cB cJ cZ cQ q_1.2)) () hx hb hr hlocks hK hS dn_Circuit_widthOf_29 hP hD rfl (Nat.le_refl _) (Nat.le_refl _)
  · have hf := (if_neg h).symm.trans hf
    refine lv_aload_n hx hb dn_Circuit_widthOf_8 rfl (lv_at hl 0 rfl) ?_
    refine va_get (D := (dC, dI)) (ci := 9) (v := .ref ((a 113))) (C := rn_Circuit) (T := fn_Circuit) (N := 14) hx hb hg in_Circuit hown hK hP 12 rfl rfl 0 (by decide) (hg _ wn_3_61) (fun _ h9 => h9) rfl dn_Circuit_widthOf_9 ?_
    refine va_get (D := (dC, dI)) (ci := 10) (v := .ref ((a 114))) (C := rn_Design) (T := fn_Design) (N := 16) hx hb hg in_Design hown hK hP 13 rfl rfl 0 (by decide) (hg _ wn_2_237) (fun _ h9 => h9) rfl dn_Circuit_widthOf_12 ?_
    refine va_get (D := (dC, dI)) (ci := 11) (v := .ref ((a 373))) (C := rn_Parts) (T := fn_Parts) (N := 15) hx hb hg in_Parts hown hK hP 14 rfl rfl 2 (by decide) (hg _ wn_2_132) (fun _ h9 => h9) rfl dn_Circuit_widthOf_15 ?_
    refine lv_aload_n hx hb dn_Circuit_widthOf_18 rfl (lv_at hl 0 rfl) ?_
    refine va_get (D := (dC, dI)) (ci := 9) (v := .ref ((a 348))) (C := rn_Circuit) (T := fn_Circuit) (N := 14) hx hb hg in_Circuit hown hK hP 12 rfl rfl 7 (by decide) (hg _ wn_3_78) (fun _ h9 => h9) rfl dn_Circuit_widthOf_19 ?_
    refine lv_iload_n hx hb dn_Circuit_widthOf_22 rfl (lv_at hl 1 rfl) ?_
    obtain ⟨hg_4, hf⟩ := dc_g hf
    refine va_iald hx hb hK hP 80 0 rfl rfl hg_4 dn_Circuit_widthOf_23 ?_
    refine xk_ti (y := ((q_1.2.1 348) (Int32.toNatClampNeg v1))) rfl ?_
    obtain ⟨hg_5, hf⟩ := dc_g hf
    refine va_iald hx hb hK hP 96 0 rfl rfl hg_5 dn_Circuit_widthOf_24 ?_
    refine xk_ti (y := ((q_1.2.1 373) (Int32.toNatClampNeg (((q_1.2.1 348) (Int32.toNatClampNeg v1)))))) rfl ?_
    refine lv_goto (tgt := 29) hx hb dn_Circuit_widthOf_25 (by decide) ?_
    rw [hQQ, ← Option.some.inj hf]
    exact xk_iret (w1 := fun u : Unit => (wC a v cI cB cJ cZ cQ q_1.2)) () hx hb hr hlocks hK hS dn_Circuit_widthOf_29 hP hD rfl (Nat.le_refl _) (Nat.le_refl _)
set_option maxHeartbeats 8000000 in
set_option maxRecDepth 100000 in
theorem ct_Circuit_sortOf_Cc (l : Launch) (dC : Nat → ClassId) (dI : Nat → Nat → Nat) (cI cB cJ cZ cQ : ClassId) (N sz : Nat) (a : Nat → Nat) (v : Nat → Value) (v1 : Int32) (s : ms) (y : (Int32 × ms)) (hf : fn_Circuit_sortOf_Cc N v1 s = some y) : Met l yn_Circuit_sortOf (xw yn_Circuit_sortOf bn_Circuit_sortOf 3 (some .int)) ({ frames := 3, cells := 0, slots := 0, locals := 63 }) (dc_P (dC, dI) xcl (xt cI cB cJ cZ cQ) [.ref ((a 112)), .int v1] sz (wC a v cI cB cJ cZ cQ s)) (xk_Qi (dC, dI) xcl (xt cI cB cJ cZ cQ) (fun (r : Int32) (_ : Unit) => r = y.1) (fun u : Unit => (wC a v cI cB cJ cZ cQ y.2)) (va_A (wC a v cI cB cJ cZ cQ s) sz)) 0 0 (va_A (wC a v cI cB cJ cZ cQ s) sz) := by
  refine dc_of (QA := xk_Qi (dC, dI) xcl (xt cI cB cJ cZ cQ) (fun (r : Int32) (_ : Unit) => r = y.1) (fun u : Unit => (wC a v cI cB cJ cZ cQ y.2))) (by decide) (Nat.le_of_ble_eq_true rfl) ?_
  intro p e s0 m below meth c hx hb hml hown hg hr hlocks hin hP hK hN A hA hD hT ls hl
  have hown : s0.vm.findClass rn_Circuit = some m.cls := hown
  obtain ⟨H, hH⟩ : ∃ z, z = s0.heap := ⟨_, rfl⟩
  rw [← hH] at hP
  have hS : va_S A s0.heap H [] := by rw [hH]; exact va_S.rf
  suffices kk : ∀ QQ : State → Prop, QQ = MQ below (xk_Qi (dC, dI) xcl (xt cI cB cJ cZ cQ) (fun (r : Int32) (_ : Unit) => r = y.1) (fun u : Unit => (wC a v cI cB cJ cZ cQ y.2)) A) [.ref ((a 112)), .int v1].toArray s0 0 0 A → dcC p l e ({ frames := 3, cells := 0, slots := 0, locals := 63 }) s0 m [.ref ((a 112)), .int v1].toArray below meth c QQ (dC, dI) A (wC a v cI cB cJ cZ cQ s) 0 3 [(0, .ref ((a 112))), (1, .int v1)] [] by
    have k9 := kk _ rfl H [] ls hP hD hS hl
    rw [hH] at k9; exact k9
  clear hP hD hS hl hH H ls
  intro QQ hQQ
  intro H locs ls hP hD hS hl
  unfold fn_Circuit_sortOf_Cc at hf
  refine lv_aload_n hx hb dn_Circuit_sortOf_0 rfl (lv_at hl 0 rfl) ?_
  refine lv_iload_n hx hb dn_Circuit_sortOf_1 rfl (lv_at hl 1 rfl) ?_
  obtain ⟨q_1, hc_2, hf⟩ := dc_b hf
  refine dc_calli (dc_runV (ar := 1) (As := [.int v1]) (rest := []) (ci := 9) (q0 := 12) ⟨hx, hb, hml, hown, hg⟩ hK hN hT hS hA (ct_Circuit_isSignal_Cc l dC dI cI cB cJ cZ cQ N H.size a v v1 s q_1 hc_2) hP hD rfl rfl wn_6_207 wn_6_209 sn_Circuit_isSignal wn_1_9 wn_6_210 rfl rfl (by decide +kernel) ⟨Nat.le_of_ble_eq_true rfl, Nat.le_of_ble_eq_true rfl⟩ rfl hl.1 rfl (Nat.le_of_ble_eq_true rfl) dn_Circuit_sortOf_2 ⟨Nat.le_of_ble_eq_true rfl, Nat.le_of_ble_eq_true rfl⟩) hP hD hS hA (fun r_3 _ H locs hw hP hD hS => ?_)
  have hw : r_3 = q_1.1 := hw
  subst hw
  refine lv_if_ne (tgt := 10) hx hb dn_Circuit_sortOf_5 (by decide) (fun h => ?_) (fun h => ?_)
  · have hf := (if_neg h).symm.trans hf
    refine lv_aload_n hx hb dn_Circuit_sortOf_10 rfl (lv_at hl 0 rfl) ?_
    refine va_get (D := (dC, dI)) (ci := 9) (v := .ref ((a 113))) (C := rn_Circuit) (T := fn_Circuit) (N := 14) hx hb hg in_Circuit hown hK hP 12 rfl rfl 0 (by decide) (hg _ wn_3_61) (fun _ h9 => h9) rfl dn_Circuit_sortOf_11 ?_
    refine va_get (D := (dC, dI)) (ci := 10) (v := .ref ((a 114))) (C := rn_Design) (T := fn_Design) (N := 16) hx hb hg in_Design hown hK hP 13 rfl rfl 0 (by decide) (hg _ wn_2_237) (fun _ h9 => h9) rfl dn_Circuit_sortOf_14 ?_
    refine va_get (D := (dC, dI)) (ci := 11) (v := .ref ((a 374))) (C := rn_Parts) (T := fn_Parts) (N := 15) hx hb hg in_Parts hown hK hP 14 rfl rfl 3 (by decide) (hg _ wn_2_136) (fun _ h9 => h9) rfl dn_Circuit_sortOf_17 ?_
    refine lv_aload_n hx hb dn_Circuit_sortOf_20 rfl (lv_at hl 0 rfl) ?_
    refine va_get (D := (dC, dI)) (ci := 9) (v := .ref ((a 348))) (C := rn_Circuit) (T := fn_Circuit) (N := 14) hx hb hg in_Circuit hown hK hP 12 rfl rfl 7 (by decide) (hg _ wn_3_78) (fun _ h9 => h9) rfl dn_Circuit_sortOf_21 ?_
    refine lv_iload_n hx hb dn_Circuit_sortOf_24 rfl (lv_at hl 1 rfl) ?_
    obtain ⟨hg_4, hf⟩ := dc_g hf
    refine va_iald hx hb hK hP 80 0 rfl rfl hg_4 dn_Circuit_sortOf_25 ?_
    refine xk_ti (y := ((q_1.2.1 348) (Int32.toNatClampNeg v1))) rfl ?_
    obtain ⟨hg_5, hf⟩ := dc_g hf
    refine va_iald hx hb hK hP 97 0 rfl rfl hg_5 dn_Circuit_sortOf_26 ?_
    refine xk_ti (y := ((q_1.2.1 374) (Int32.toNatClampNeg (((q_1.2.1 348) (Int32.toNatClampNeg v1)))))) rfl ?_
    refine lv_istore_n (lv' := [(2, .int (((q_1.2.1 374) (Int32.toNatClampNeg (((q_1.2.1 348) (Int32.toNatClampNeg v1))))))), (0, .ref ((a 112))), (1, .int v1)]) hx hb dn_Circuit_sortOf_27 rfl hl (by decide) rfl (fun ls hl => ?_)
    refine lv_iload_n hx hb dn_Circuit_sortOf_28 rfl (lv_at hl 0 rfl) ?_
    refine lv_if_ne (tgt := 50) hx hb dn_Circuit_sortOf_29 (by decide) (fun h => ?_) (fun h => ?_)
    · have hf := (if_neg h).symm.trans hf
      refine lv_iload_n hx hb dn_Circuit_sortOf_50 rfl (lv_at hl 0 rfl) ?_
      rw [hQQ, ← Option.some.inj hf]
      exact xk_iret (w1 := fun u : Unit => (wC a v cI cB cJ cZ cQ q_1.2)) () hx hb hr hlocks hK hS dn_Circuit_sortOf_51 hP hD rfl (Nat.le_refl _) (Nat.le_refl _)
    · have hf := (if_pos h).symm.trans hf
      refine lv_iload_n hx hb dn_Circuit_sortOf_32 rfl (lv_at hl 2 rfl) ?_
      refine lv_aload_n hx hb dn_Circuit_sortOf_33 rfl (lv_at hl 1 rfl) ?_
      refine lv_aload_n hx hb dn_Circuit_sortOf_34 rfl (lv_at hl 1 rfl) ?_
      refine va_get (D := (dC, dI)) (ci := 9) (v := .ref ((a 345))) (C := rn_Circuit) (T := fn_Circuit) (N := 14) hx hb hg in_Circuit hown hK hP 12 rfl rfl 4 (by decide) (hg _ wn_3_74) (fun _ h9 => h9) rfl dn_Circuit_sortOf_35 ?_
      refine lv_iconst (v := 0) hx hb dn_Circuit_sortOf_38 (by decide) ?_
      refine va_iald hx hb hK hP 77 0 rfl rfl (show ¬ (_ ∨ _) by decide) dn_Circuit_sortOf_39 ?_
      refine xk_ti (y := ((q_1.2.1 345) 0)) rfl ?_
      obtain ⟨q_6, hc_7, hf⟩ := dc_b hf
      refine dc_calli (dc_runV (ar := 1) (As := [.int (((q_1.2.1 345) 0))]) (rest := [.int v1]) (ci := 9) (q0 := 12) ⟨hx, hb, hml, hown, hg⟩ hK hN hT hS hA (ct_Circuit_ownSignals_Cc l dC dI cI cB cJ cZ cQ N H.size a v (((q_1.2.1 345) 0)) q_1.2 q_6 hc_7) hP hD rfl rfl wn_6_185 wn_6_187 sn_Circuit_ownSignals wn_1_9 wn_6_188 rfl rfl (by decide +kernel) ⟨Nat.le_of_ble_eq_true rfl, Nat.le_of_ble_eq_true rfl⟩ rfl hl.1 rfl (Nat.le_of_ble_eq_true rfl) dn_Circuit_sortOf_40 ⟨Nat.le_of_ble_eq_true rfl, Nat.le_of_ble_eq_true rfl⟩) hP hD hS hA (fun r_8 _ H locs hw hP hD hS => ?_)
      have hw : r_8 = q_6.1 := hw
      subst hw
      refine lv_icmp_lt (tgt := 50) hx hb dn_Circuit_sortOf_43 (by decide) (fun h => ?_) (fun h => ?_)
      · have hf := (if_pos h).symm.trans hf
        refine lv_iload_n hx hb dn_Circuit_sortOf_50 rfl (lv_at hl 0 rfl) ?_
        rw [hQQ, ← Option.some.inj hf]
        exact xk_iret (w1 := fun u : Unit => (wC a v cI cB cJ cZ cQ q_6.2)) () hx hb hr hlocks hK hS dn_Circuit_sortOf_51 hP hD rfl (Nat.le_refl _) (Nat.le_refl _)
      · have hf := (if_neg h).symm.trans hf
        refine lv_iconst (v := 1) hx hb dn_Circuit_sortOf_46 (by decide) ?_
        refine lv_goto (tgt := 51) hx hb dn_Circuit_sortOf_47 (by decide) ?_
        rw [hQQ, ← Option.some.inj hf]
        exact xk_iret (w1 := fun u : Unit => (wC a v cI cB cJ cZ cQ q_6.2)) () hx hb hr hlocks hK hS dn_Circuit_sortOf_51 hP hD rfl (Nat.le_refl _) (Nat.le_refl _)
  · have hf := (if_pos h).symm.trans hf
    refine lv_iconst (v := (-1)) hx hb dn_Circuit_sortOf_8 (by decide) ?_
    rw [hQQ, ← Option.some.inj hf]
    exact xk_iret (w1 := fun u : Unit => (wC a v cI cB cJ cZ cQ q_1.2)) () hx hb hr hlocks hK hS dn_Circuit_sortOf_9 hP hD rfl (Nat.le_refl _) (Nat.le_refl _)
set_option maxHeartbeats 8000000 in
set_option maxRecDepth 100000 in
theorem ct_C_signal_C (l : Launch) (dC : Nat → ClassId) (dI : Nat → Nat → Nat) (cI cB cJ cZ cQ : ClassId) (N sz : Nat) (a : Nat → Nat) (v : Nat → Value) (v1 : Int32) (v2 : Int32) (s : ms) (y : (Int32 × ms)) (hf : fn_C_signal_C N v1 v2 s = some y) : Met l yn_C_signal (xw yn_C_signal bn_C_signal 3 (some .int)) ({ frames := 4, cells := 0, slots := 0, locals := 85 }) (dc_P (dC, dI) xcl (xt cI cB cJ cZ cQ) [.ref ((a 100)), .int v1, .int v2] sz (wC a v cI cB cJ cZ cQ s)) (xk_Qi (dC, dI) xcl (xt cI cB cJ cZ cQ) (fun (r : Int32) (_ : Unit) => r = y.1) (fun u : Unit => (wC a v cI cB cJ cZ cQ y.2)) (va_A (wC a v cI cB cJ cZ cQ s) sz)) 0 0 (va_A (wC a v cI cB cJ cZ cQ s) sz) := by
  refine dc_of (QA := xk_Qi (dC, dI) xcl (xt cI cB cJ cZ cQ) (fun (r : Int32) (_ : Unit) => r = y.1) (fun u : Unit => (wC a v cI cB cJ cZ cQ y.2))) (by decide) (Nat.le_of_ble_eq_true rfl) ?_
  intro p e s0 m below meth c hx hb hml hown hg hr hlocks hin hP hK hN A hA hD hT ls hl
  have hown : s0.vm.findClass rn_C = some m.cls := hown
  obtain ⟨H, hH⟩ : ∃ z, z = s0.heap := ⟨_, rfl⟩
  rw [← hH] at hP
  have hS : va_S A s0.heap H [] := by rw [hH]; exact va_S.rf
  suffices kk : ∀ QQ : State → Prop, QQ = MQ below (xk_Qi (dC, dI) xcl (xt cI cB cJ cZ cQ) (fun (r : Int32) (_ : Unit) => r = y.1) (fun u : Unit => (wC a v cI cB cJ cZ cQ y.2)) A) [.ref ((a 100)), .int v1, .int v2].toArray s0 0 0 A → dcC p l e ({ frames := 4, cells := 0, slots := 0, locals := 85 }) s0 m [.ref ((a 100)), .int v1, .int v2].toArray below meth c QQ (dC, dI) A (wC a v cI cB cJ cZ cQ s) 0 3 [(0, .ref ((a 100))), (1, .int v1), (2, .int v2)] [] by
    have k9 := kk _ rfl H [] ls hP hD hS hl
    rw [hH] at k9; exact k9
  clear hP hD hS hl hH H ls
  intro QQ hQQ
  have bl_30 : ∀ (s : ms), bk_C_signal_C_30 N s = some y → dcC p l e ({ frames := 4, cells := 0, slots := 0, locals := 85 }) s0 m [.ref ((a 100)), .int v1, .int v2].toArray below meth c QQ (dC, dI) A (wC a v cI cB cJ cZ cQ s) 30 3 [] [] := by
    intro s hf H locs ls hP hD hS hl
    unfold bk_C_signal_C_30 at hf
    cases hf
  intro H locs ls hP hD hS hl
  unfold fn_C_signal_C at hf
  refine lv_aload_n hx hb dn_C_signal_0 rfl (lv_at hl 0 rfl) ?_
  refine va_get (D := (dC, dI)) (ci := 1) (v := .int ((s.1 208 0))) (C := rn_C) (T := fn_C) (N := 11) hx hb hg in_C hown hK hP 0 rfl rfl 8 (by decide) (hg _ wn_3_133) (fun _ h9 => h9) rfl dn_C_signal_1 ?_
  refine lv_if_ne (tgt := 15) hx hb dn_C_signal_4 (by decide) (fun h => ?_) (fun h => ?_)
  · have hf := (if_neg h).symm.trans hf
    refine lv_iload_n hx hb dn_C_signal_15 rfl (lv_at hl 1 rfl) ?_
    refine lv_if_lt (tgt := 30) hx hb dn_C_signal_16 (by decide) (fun h => ?_) (fun h => ?_)
    · have hf := (if_pos h).symm.trans hf
      exact bl_30 s hf H locs ls hP hD hS (lv_sub hl [] rfl)
    · have hf := (if_neg h).symm.trans hf
      refine lv_iload_n hx hb dn_C_signal_19 rfl (lv_at hl 1 rfl) ?_
      refine lv_aload_n hx hb dn_C_signal_20 rfl (lv_at hl 0 rfl) ?_
      refine va_get (D := (dC, dI)) (ci := 1) (v := .ref ((a 112))) (C := rn_C) (T := fn_C) (N := 11) hx hb hg in_C hown hK hP 0 rfl rfl 9 (by decide) (hg _ wn_3_134) (fun _ h9 => h9) rfl dn_C_signal_21 ?_
      refine va_get (D := (dC, dI)) (ci := 9) (v := .int ((s.1 343 0))) (C := rn_Circuit) (T := fn_Circuit) (N := 14) hx hb hg in_Circuit hown hK hP 12 rfl rfl 2 (by decide) (hg _ wn_3_71) (fun _ h9 => h9) rfl dn_C_signal_24 ?_
      refine lv_icmp_lt (tgt := 38) hx hb dn_C_signal_27 (by decide) (fun h => ?_) (fun h => ?_)
      · have hf := (if_pos h).symm.trans hf
        refine lv_iload_n hx hb dn_C_signal_38 rfl (lv_at hl 2 rfl) ?_
        by_cases h_0 : v2 = 0
        · have hf := (if_pos h_0).symm.trans hf
          refine xk_ti (y := 0) h_0 ?_
          refine lv_tableIn (tgt := 64) hx hb dn_C_signal_39 (by decide) (by decide) rfl (by decide) ?_
          refine lv_aload_n hx hb dn_C_signal_64 rfl (lv_at hl 0 rfl) ?_
          refine va_get (D := (dC, dI)) (ci := 1) (v := .ref ((a 112))) (C := rn_C) (T := fn_C) (N := 11) hx hb hg in_C hown hK hP 0 rfl rfl 9 (by decide) (hg _ wn_3_134) (fun _ h9 => h9) rfl dn_C_signal_65 ?_
          refine lv_iload_n hx hb dn_C_signal_68 rfl (lv_at hl 1 rfl) ?_
          obtain ⟨q_1, hc_2, hf⟩ := dc_b hf
          refine dc_calli (dc_runV (ar := 1) (As := [.int v1]) (rest := []) (ci := 9) (q0 := 12) ⟨hx, hb, hml, hown, hg⟩ hK hN hT hS hA (ct_Circuit_widthOf_Cc l dC dI cI cB cJ cZ cQ N H.size a v v1 s q_1 hc_2) hP hD rfl rfl wn_7_192 wn_7_193 wn_7_194 wn_1_9 wn_7_195 rfl rfl (by decide +kernel) ⟨Nat.le_of_ble_eq_true rfl, Nat.le_of_ble_eq_true rfl⟩ rfl hl.1 rfl (Nat.le_of_ble_eq_true rfl) dn_C_signal_69 ⟨Nat.le_of_ble_eq_true rfl, Nat.le_of_ble_eq_true rfl⟩) hP hD hS hA (fun r_3 _ H locs hw hP hD hS => ?_)
          have hw : r_3 = q_1.1 := hw
          subst hw
          rw [hQQ, ← Option.some.inj hf]
          exact xk_iret (w1 := fun u : Unit => (wC a v cI cB cJ cZ cQ q_1.2)) () hx hb hr hlocks hK hS dn_C_signal_72 hP hD rfl (Nat.le_refl _) (Nat.le_refl _)
        have hf := (if_neg h_0).symm.trans hf
        by_cases h_1 : v2 = 1
        · have hf := (if_pos h_1).symm.trans hf
          refine xk_ti (y := 1) h_1 ?_
          refine lv_tableIn (tgt := 73) hx hb dn_C_signal_39 (by decide) (by decide) rfl (by decide) ?_
          refine lv_aload_n hx hb dn_C_signal_73 rfl (lv_at hl 0 rfl) ?_
          refine va_get (D := (dC, dI)) (ci := 1) (v := .ref ((a 112))) (C := rn_C) (T := fn_C) (N := 11) hx hb hg in_C hown hK hP 0 rfl rfl 9 (by decide) (hg _ wn_3_134) (fun _ h9 => h9) rfl dn_C_signal_74 ?_
          refine lv_iload_n hx hb dn_C_signal_77 rfl (lv_at hl 1 rfl) ?_
          obtain ⟨q_1, hc_2, hf⟩ := dc_b hf
          refine dc_calli (dc_runV (ar := 1) (As := [.int v1]) (rest := []) (ci := 9) (q0 := 12) ⟨hx, hb, hml, hown, hg⟩ hK hN hT hS hA (ct_Circuit_sortOf_Cc l dC dI cI cB cJ cZ cQ N H.size a v v1 s q_1 hc_2) hP hD rfl rfl wn_7_196 wn_7_197 wn_7_198 wn_1_9 wn_7_199 rfl rfl (by decide +kernel) ⟨Nat.le_of_ble_eq_true rfl, Nat.le_of_ble_eq_true rfl⟩ rfl hl.1 rfl (Nat.le_of_ble_eq_true rfl) dn_C_signal_78 ⟨Nat.le_of_ble_eq_true rfl, Nat.le_of_ble_eq_true rfl⟩) hP hD hS hA (fun r_3 _ H locs hw hP hD hS => ?_)
          have hw : r_3 = q_1.1 := hw
          subst hw
          rw [hQQ, ← Option.some.inj hf]
          exact xk_iret (w1 := fun u : Unit => (wC a v cI cB cJ cZ cQ q_1.2)) () hx hb hr hlocks hK hS dn_C_signal_81 hP hD rfl (Nat.le_refl _) (Nat.le_refl _)
        have hf := (if_neg h_1).symm.trans hf
        by_cases h_2 : v2 = 2
        · have hf := (if_pos h_2).symm.trans hf
          refine xk_ti (y := 2) h_2 ?_
          refine lv_tableIn (tgt := 82) hx hb dn_C_signal_39 (by decide) (by decide) rfl (by decide) ?_
          refine lv_aload_n hx hb dn_C_signal_82 rfl (lv_at hl 0 rfl) ?_
          refine va_get (D := (dC, dI)) (ci := 1) (v := .ref ((a 112))) (C := rn_C) (T := fn_C) (N := 11) hx hb hg in_C hown hK hP 0 rfl rfl 9 (by decide) (hg _ wn_3_134) (fun _ h9 => h9) rfl dn_C_signal_83 ?_
          refine lv_iload_n hx hb dn_C_signal_86 rfl (lv_at hl 1 rfl) ?_
          obtain ⟨q_1, hc_2, hf⟩ := dc_b hf
          refine dc_calli (dc_runV (ar := 1) (As := [.int v1]) (rest := []) (ci := 9) (q0 := 12) ⟨hx, hb, hml, hown, hg⟩ hK hN hT hS hA (ct_Circuit_placeOf_Cc l dC dI cI cB cJ cZ cQ N H.size a v v1 s q_1 hc_2) hP hD rfl rfl wn_7_4 wn_7_5 wn_7_6 wn_1_9 wn_7_7 rfl rfl (by decide +kernel) ⟨Nat.le_of_ble_eq_true rfl, Nat.le_of_ble_eq_true rfl⟩ rfl hl.1 rfl (Nat.le_of_ble_eq_true rfl) dn_C_signal_87 ⟨Nat.le_of_ble_eq_true rfl, Nat.le_of_ble_eq_true rfl⟩) hP hD hS hA (fun r_3 _ H locs hw hP hD hS => ?_)
          have hw : r_3 = q_1.1 := hw
          subst hw
          rw [hQQ, ← Option.some.inj hf]
          exact xk_iret (w1 := fun u : Unit => (wC a v cI cB cJ cZ cQ q_1.2)) () hx hb hr hlocks hK hS dn_C_signal_90 hP hD rfl (Nat.le_refl _) (Nat.le_refl _)
        have hf := (if_neg h_2).symm.trans hf
        refine lv_tableOut (tgt := 91) hx hb dn_C_signal_39 (dc_out (fun k h1 h2 => by rcases (show k = 0 ∨ k = 1 ∨ k = 2 by omega) with rfl | rfl | rfl <;> first | exact lv_neT h_0 (by decide) | exact lv_neT h_1 (by decide) | exact lv_neT h_2 (by decide)) (by decide)) (by decide) ?_
        cases hf
      · have hf := (if_neg h).symm.trans hf
        exact bl_30 s hf H locs ls hP hD hS (lv_sub hl [] rfl)
  · have hf := (if_pos h).symm.trans hf
    cases hf
set_option maxHeartbeats 8000000 in
set_option maxRecDepth 100000 in
theorem ct_Circuit_widthOf_Cs (l : Launch) (dC : Nat → ClassId) (dI : Nat → Nat → Nat) (cI cB cJ cZ cQ : ClassId) (N sz : Nat) (a : Nat → Nat) (v : Nat → Value) (v1 : Int32) (s : ms) (y : (Int32 × ms)) (hf : fn_Circuit_widthOf_Cs N v1 s = some y) : Met l yn_Circuit_widthOf (xw yn_Circuit_widthOf bn_Circuit_widthOf 2 (some .int)) ({ frames := 1, cells := 0, slots := 0, locals := 21 }) (dc_P (dC, dI) xcl (xt cI cB cJ cZ cQ) [.ref ((a 108)), .int v1] sz (wC a v cI cB cJ cZ cQ s)) (xk_Qi (dC, dI) xcl (xt cI cB cJ cZ cQ) (fun (r : Int32) (_ : Unit) => r = y.1) (fun u : Unit => (wC a v cI cB cJ cZ cQ y.2)) (va_A (wC a v cI cB cJ cZ cQ s) sz)) 0 0 (va_A (wC a v cI cB cJ cZ cQ s) sz) := by
  refine dc_of (QA := xk_Qi (dC, dI) xcl (xt cI cB cJ cZ cQ) (fun (r : Int32) (_ : Unit) => r = y.1) (fun u : Unit => (wC a v cI cB cJ cZ cQ y.2))) (by decide) (Nat.le_of_ble_eq_true rfl) ?_
  intro p e s0 m below meth c hx hb hml hown hg hr hlocks hin hP hK hN A hA hD hT ls hl
  have hown : s0.vm.findClass rn_Circuit = some m.cls := hown
  obtain ⟨H, hH⟩ : ∃ z, z = s0.heap := ⟨_, rfl⟩
  rw [← hH] at hP
  have hS : va_S A s0.heap H [] := by rw [hH]; exact va_S.rf
  suffices kk : ∀ QQ : State → Prop, QQ = MQ below (xk_Qi (dC, dI) xcl (xt cI cB cJ cZ cQ) (fun (r : Int32) (_ : Unit) => r = y.1) (fun u : Unit => (wC a v cI cB cJ cZ cQ y.2)) A) [.ref ((a 108)), .int v1].toArray s0 0 0 A → dcC p l e ({ frames := 1, cells := 0, slots := 0, locals := 21 }) s0 m [.ref ((a 108)), .int v1].toArray below meth c QQ (dC, dI) A (wC a v cI cB cJ cZ cQ s) 0 2 [(0, .ref ((a 108))), (1, .int v1)] [] by
    have k9 := kk _ rfl H [] ls hP hD hS hl
    rw [hH] at k9; exact k9
  clear hP hD hS hl hH H ls
  intro QQ hQQ
  intro H locs ls hP hD hS hl
  unfold fn_Circuit_widthOf_Cs at hf
  refine lv_aload_n hx hb dn_Circuit_widthOf_0 rfl (lv_at hl 0 rfl) ?_
  refine lv_iload_n hx hb dn_Circuit_widthOf_1 rfl (lv_at hl 1 rfl) ?_
  obtain ⟨q_1, hc_2, hf⟩ := dc_b hf
  refine dc_calli (dc_runV (ar := 1) (As := [.int v1]) (rest := []) (ci := 9) (q0 := 8) ⟨hx, hb, hml, hown, hg⟩ hK hN hT hS hA (ct_Circuit_isSignal_Cs l dC dI cI cB cJ cZ cQ N H.size a v v1 s q_1 hc_2) hP hD rfl rfl wn_6_207 wn_6_209 sn_Circuit_isSignal wn_1_9 wn_6_210 rfl rfl (by decide +kernel) ⟨Nat.le_of_ble_eq_true rfl, Nat.le_of_ble_eq_true rfl⟩ rfl hl.1 rfl (Nat.le_of_ble_eq_true rfl) dn_Circuit_widthOf_2 ⟨Nat.le_of_ble_eq_true rfl, Nat.le_of_ble_eq_true rfl⟩) hP hD hS hA (fun r_3 _ H locs hw hP hD hS => ?_)
  have hw : r_3 = q_1.1 := hw
  subst hw
  refine lv_if_eq (tgt := 28) hx hb dn_Circuit_widthOf_5 (by decide) (fun h => ?_) (fun h => ?_)
  · have hf := (if_pos h).symm.trans hf
    refine lv_iconst (v := 1) hx hb dn_Circuit_widthOf_28 (by decide) ?_
    rw [hQQ, ← Option.some.inj hf]
    exact xk_iret (w1 := fun u : Unit => (wC a v cI cB cJ cZ cQ q_1.2)) () hx hb hr hlocks hK hS dn_Circuit_widthOf_29 hP hD rfl (Nat.le_refl _) (Nat.le_refl _)
  · have hf := (if_neg h).symm.trans hf
    refine lv_aload_n hx hb dn_Circuit_widthOf_8 rfl (lv_at hl 0 rfl) ?_
    refine va_get (D := (dC, dI)) (ci := 9) (v := .ref ((a 109))) (C := rn_Circuit) (T := fn_Circuit) (N := 14) hx hb hg in_Circuit hown hK hP 8 rfl rfl 0 (by decide) (hg _ wn_3_61) (fun _ h9 => h9) rfl dn_Circuit_widthOf_9 ?_
    refine va_get (D := (dC, dI)) (ci := 10) (v := .ref ((a 110))) (C := rn_Design) (T := fn_Design) (N := 16) hx hb hg in_Design hown hK hP 9 rfl rfl 0 (by decide) (hg _ wn_2_237) (fun _ h9 => h9) rfl dn_Circuit_widthOf_12 ?_
    refine va_get (D := (dC, dI)) (ci := 11) (v := .ref ((a 323))) (C := rn_Parts) (T := fn_Parts) (N := 15) hx hb hg in_Parts hown hK hP 10 rfl rfl 2 (by decide) (hg _ wn_2_132) (fun _ h9 => h9) rfl dn_Circuit_widthOf_15 ?_
    refine lv_aload_n hx hb dn_Circuit_widthOf_18 rfl (lv_at hl 0 rfl) ?_
    refine va_get (D := (dC, dI)) (ci := 9) (v := .ref ((a 298))) (C := rn_Circuit) (T := fn_Circuit) (N := 14) hx hb hg in_Circuit hown hK hP 8 rfl rfl 7 (by decide) (hg _ wn_3_78) (fun _ h9 => h9) rfl dn_Circuit_widthOf_19 ?_
    refine lv_iload_n hx hb dn_Circuit_widthOf_22 rfl (lv_at hl 1 rfl) ?_
    obtain ⟨hg_4, hf⟩ := dc_g hf
    refine va_iald hx hb hK hP 46 0 rfl rfl hg_4 dn_Circuit_widthOf_23 ?_
    refine xk_ti (y := ((q_1.2.1 298) (Int32.toNatClampNeg v1))) rfl ?_
    obtain ⟨hg_5, hf⟩ := dc_g hf
    refine va_iald hx hb hK hP 62 0 rfl rfl hg_5 dn_Circuit_widthOf_24 ?_
    refine xk_ti (y := ((q_1.2.1 323) (Int32.toNatClampNeg (((q_1.2.1 298) (Int32.toNatClampNeg v1)))))) rfl ?_
    refine lv_goto (tgt := 29) hx hb dn_Circuit_widthOf_25 (by decide) ?_
    rw [hQQ, ← Option.some.inj hf]
    exact xk_iret (w1 := fun u : Unit => (wC a v cI cB cJ cZ cQ q_1.2)) () hx hb hr hlocks hK hS dn_Circuit_widthOf_29 hP hD rfl (Nat.le_refl _) (Nat.le_refl _)
set_option maxHeartbeats 8000000 in
set_option maxRecDepth 100000 in
theorem ct_Circuit_sortOf_Cs (l : Launch) (dC : Nat → ClassId) (dI : Nat → Nat → Nat) (cI cB cJ cZ cQ : ClassId) (N sz : Nat) (a : Nat → Nat) (v : Nat → Value) (v1 : Int32) (s : ms) (y : (Int32 × ms)) (hf : fn_Circuit_sortOf_Cs N v1 s = some y) : Met l yn_Circuit_sortOf (xw yn_Circuit_sortOf bn_Circuit_sortOf 3 (some .int)) ({ frames := 3, cells := 0, slots := 0, locals := 63 }) (dc_P (dC, dI) xcl (xt cI cB cJ cZ cQ) [.ref ((a 108)), .int v1] sz (wC a v cI cB cJ cZ cQ s)) (xk_Qi (dC, dI) xcl (xt cI cB cJ cZ cQ) (fun (r : Int32) (_ : Unit) => r = y.1) (fun u : Unit => (wC a v cI cB cJ cZ cQ y.2)) (va_A (wC a v cI cB cJ cZ cQ s) sz)) 0 0 (va_A (wC a v cI cB cJ cZ cQ s) sz) := by
  refine dc_of (QA := xk_Qi (dC, dI) xcl (xt cI cB cJ cZ cQ) (fun (r : Int32) (_ : Unit) => r = y.1) (fun u : Unit => (wC a v cI cB cJ cZ cQ y.2))) (by decide) (Nat.le_of_ble_eq_true rfl) ?_
  intro p e s0 m below meth c hx hb hml hown hg hr hlocks hin hP hK hN A hA hD hT ls hl
  have hown : s0.vm.findClass rn_Circuit = some m.cls := hown
  obtain ⟨H, hH⟩ : ∃ z, z = s0.heap := ⟨_, rfl⟩
  rw [← hH] at hP
  have hS : va_S A s0.heap H [] := by rw [hH]; exact va_S.rf
  suffices kk : ∀ QQ : State → Prop, QQ = MQ below (xk_Qi (dC, dI) xcl (xt cI cB cJ cZ cQ) (fun (r : Int32) (_ : Unit) => r = y.1) (fun u : Unit => (wC a v cI cB cJ cZ cQ y.2)) A) [.ref ((a 108)), .int v1].toArray s0 0 0 A → dcC p l e ({ frames := 3, cells := 0, slots := 0, locals := 63 }) s0 m [.ref ((a 108)), .int v1].toArray below meth c QQ (dC, dI) A (wC a v cI cB cJ cZ cQ s) 0 3 [(0, .ref ((a 108))), (1, .int v1)] [] by
    have k9 := kk _ rfl H [] ls hP hD hS hl
    rw [hH] at k9; exact k9
  clear hP hD hS hl hH H ls
  intro QQ hQQ
  intro H locs ls hP hD hS hl
  unfold fn_Circuit_sortOf_Cs at hf
  refine lv_aload_n hx hb dn_Circuit_sortOf_0 rfl (lv_at hl 0 rfl) ?_
  refine lv_iload_n hx hb dn_Circuit_sortOf_1 rfl (lv_at hl 1 rfl) ?_
  obtain ⟨q_1, hc_2, hf⟩ := dc_b hf
  refine dc_calli (dc_runV (ar := 1) (As := [.int v1]) (rest := []) (ci := 9) (q0 := 8) ⟨hx, hb, hml, hown, hg⟩ hK hN hT hS hA (ct_Circuit_isSignal_Cs l dC dI cI cB cJ cZ cQ N H.size a v v1 s q_1 hc_2) hP hD rfl rfl wn_6_207 wn_6_209 sn_Circuit_isSignal wn_1_9 wn_6_210 rfl rfl (by decide +kernel) ⟨Nat.le_of_ble_eq_true rfl, Nat.le_of_ble_eq_true rfl⟩ rfl hl.1 rfl (Nat.le_of_ble_eq_true rfl) dn_Circuit_sortOf_2 ⟨Nat.le_of_ble_eq_true rfl, Nat.le_of_ble_eq_true rfl⟩) hP hD hS hA (fun r_3 _ H locs hw hP hD hS => ?_)
  have hw : r_3 = q_1.1 := hw
  subst hw
  refine lv_if_ne (tgt := 10) hx hb dn_Circuit_sortOf_5 (by decide) (fun h => ?_) (fun h => ?_)
  · have hf := (if_neg h).symm.trans hf
    refine lv_aload_n hx hb dn_Circuit_sortOf_10 rfl (lv_at hl 0 rfl) ?_
    refine va_get (D := (dC, dI)) (ci := 9) (v := .ref ((a 109))) (C := rn_Circuit) (T := fn_Circuit) (N := 14) hx hb hg in_Circuit hown hK hP 8 rfl rfl 0 (by decide) (hg _ wn_3_61) (fun _ h9 => h9) rfl dn_Circuit_sortOf_11 ?_
    refine va_get (D := (dC, dI)) (ci := 10) (v := .ref ((a 110))) (C := rn_Design) (T := fn_Design) (N := 16) hx hb hg in_Design hown hK hP 9 rfl rfl 0 (by decide) (hg _ wn_2_237) (fun _ h9 => h9) rfl dn_Circuit_sortOf_14 ?_
    refine va_get (D := (dC, dI)) (ci := 11) (v := .ref ((a 324))) (C := rn_Parts) (T := fn_Parts) (N := 15) hx hb hg in_Parts hown hK hP 10 rfl rfl 3 (by decide) (hg _ wn_2_136) (fun _ h9 => h9) rfl dn_Circuit_sortOf_17 ?_
    refine lv_aload_n hx hb dn_Circuit_sortOf_20 rfl (lv_at hl 0 rfl) ?_
    refine va_get (D := (dC, dI)) (ci := 9) (v := .ref ((a 298))) (C := rn_Circuit) (T := fn_Circuit) (N := 14) hx hb hg in_Circuit hown hK hP 8 rfl rfl 7 (by decide) (hg _ wn_3_78) (fun _ h9 => h9) rfl dn_Circuit_sortOf_21 ?_
    refine lv_iload_n hx hb dn_Circuit_sortOf_24 rfl (lv_at hl 1 rfl) ?_
    obtain ⟨hg_4, hf⟩ := dc_g hf
    refine va_iald hx hb hK hP 46 0 rfl rfl hg_4 dn_Circuit_sortOf_25 ?_
    refine xk_ti (y := ((q_1.2.1 298) (Int32.toNatClampNeg v1))) rfl ?_
    obtain ⟨hg_5, hf⟩ := dc_g hf
    refine va_iald hx hb hK hP 63 0 rfl rfl hg_5 dn_Circuit_sortOf_26 ?_
    refine xk_ti (y := ((q_1.2.1 324) (Int32.toNatClampNeg (((q_1.2.1 298) (Int32.toNatClampNeg v1)))))) rfl ?_
    refine lv_istore_n (lv' := [(2, .int (((q_1.2.1 324) (Int32.toNatClampNeg (((q_1.2.1 298) (Int32.toNatClampNeg v1))))))), (0, .ref ((a 108))), (1, .int v1)]) hx hb dn_Circuit_sortOf_27 rfl hl (by decide) rfl (fun ls hl => ?_)
    refine lv_iload_n hx hb dn_Circuit_sortOf_28 rfl (lv_at hl 0 rfl) ?_
    refine lv_if_ne (tgt := 50) hx hb dn_Circuit_sortOf_29 (by decide) (fun h => ?_) (fun h => ?_)
    · have hf := (if_neg h).symm.trans hf
      refine lv_iload_n hx hb dn_Circuit_sortOf_50 rfl (lv_at hl 0 rfl) ?_
      rw [hQQ, ← Option.some.inj hf]
      exact xk_iret (w1 := fun u : Unit => (wC a v cI cB cJ cZ cQ q_1.2)) () hx hb hr hlocks hK hS dn_Circuit_sortOf_51 hP hD rfl (Nat.le_refl _) (Nat.le_refl _)
    · have hf := (if_pos h).symm.trans hf
      refine lv_iload_n hx hb dn_Circuit_sortOf_32 rfl (lv_at hl 2 rfl) ?_
      refine lv_aload_n hx hb dn_Circuit_sortOf_33 rfl (lv_at hl 1 rfl) ?_
      refine lv_aload_n hx hb dn_Circuit_sortOf_34 rfl (lv_at hl 1 rfl) ?_
      refine va_get (D := (dC, dI)) (ci := 9) (v := .ref ((a 295))) (C := rn_Circuit) (T := fn_Circuit) (N := 14) hx hb hg in_Circuit hown hK hP 8 rfl rfl 4 (by decide) (hg _ wn_3_74) (fun _ h9 => h9) rfl dn_Circuit_sortOf_35 ?_
      refine lv_iconst (v := 0) hx hb dn_Circuit_sortOf_38 (by decide) ?_
      refine va_iald hx hb hK hP 43 0 rfl rfl (show ¬ (_ ∨ _) by decide) dn_Circuit_sortOf_39 ?_
      refine xk_ti (y := ((q_1.2.1 295) 0)) rfl ?_
      obtain ⟨q_6, hc_7, hf⟩ := dc_b hf
      refine dc_calli (dc_runV (ar := 1) (As := [.int (((q_1.2.1 295) 0))]) (rest := [.int v1]) (ci := 9) (q0 := 8) ⟨hx, hb, hml, hown, hg⟩ hK hN hT hS hA (ct_Circuit_ownSignals_Cs l dC dI cI cB cJ cZ cQ N H.size a v (((q_1.2.1 295) 0)) q_1.2 q_6 hc_7) hP hD rfl rfl wn_6_185 wn_6_187 sn_Circuit_ownSignals wn_1_9 wn_6_188 rfl rfl (by decide +kernel) ⟨Nat.le_of_ble_eq_true rfl, Nat.le_of_ble_eq_true rfl⟩ rfl hl.1 rfl (Nat.le_of_ble_eq_true rfl) dn_Circuit_sortOf_40 ⟨Nat.le_of_ble_eq_true rfl, Nat.le_of_ble_eq_true rfl⟩) hP hD hS hA (fun r_8 _ H locs hw hP hD hS => ?_)
      have hw : r_8 = q_6.1 := hw
      subst hw
      refine lv_icmp_lt (tgt := 50) hx hb dn_Circuit_sortOf_43 (by decide) (fun h => ?_) (fun h => ?_)
      · have hf := (if_pos h).symm.trans hf
        refine lv_iload_n hx hb dn_Circuit_sortOf_50 rfl (lv_at hl 0 rfl) ?_
        rw [hQQ, ← Option.some.inj hf]
        exact xk_iret (w1 := fun u : Unit => (wC a v cI cB cJ cZ cQ q_6.2)) () hx hb hr hlocks hK hS dn_Circuit_sortOf_51 hP hD rfl (Nat.le_refl _) (Nat.le_refl _)
      · have hf := (if_neg h).symm.trans hf
        refine lv_iconst (v := 1) hx hb dn_Circuit_sortOf_46 (by decide) ?_
        refine lv_goto (tgt := 51) hx hb dn_Circuit_sortOf_47 (by decide) ?_
        rw [hQQ, ← Option.some.inj hf]
        exact xk_iret (w1 := fun u : Unit => (wC a v cI cB cJ cZ cQ q_6.2)) () hx hb hr hlocks hK hS dn_Circuit_sortOf_51 hP hD rfl (Nat.le_refl _) (Nat.le_refl _)
  · have hf := (if_pos h).symm.trans hf
    refine lv_iconst (v := (-1)) hx hb dn_Circuit_sortOf_8 (by decide) ?_
    rw [hQQ, ← Option.some.inj hf]
    exact xk_iret (w1 := fun u : Unit => (wC a v cI cB cJ cZ cQ q_1.2)) () hx hb hr hlocks hK hS dn_Circuit_sortOf_9 hP hD rfl (Nat.le_refl _) (Nat.le_refl _)
set_option maxHeartbeats 8000000 in
set_option maxRecDepth 100000 in
theorem ct_Machine_restart_Ma_Cc (l : Launch) (dC : Nat → ClassId) (dI : Nat → Nat → Nat) (cI cB cJ cZ cQ : ClassId) (N sz : Nat) (a : Nat → Nat) (v : Nat → Value) (s : ms) (y : (Unit × ms)) (hf : fn_Machine_restart_Ma_Cc N s = some y) : Met l yn_Machine_restart (xw yn_Machine_restart bn_Machine_restart 3 none) ({ frames := 2, cells := 0, slots := 0, locals := 42 }) (dc_P (dC, dI) xcl (xt cI cB cJ cZ cQ) [.ref ((a 107)), .ref ((a 112))] sz (wC a v cI cB cJ cZ cQ s)) (xk_Qv (dC, dI) xcl (xt cI cB cJ cZ cQ) (fun _ : Unit => True) (fun u : Unit => (wC a v cI cB cJ cZ cQ y.2)) (va_A (wC a v cI cB cJ cZ cQ s) sz)) 0 0 (va_A (wC a v cI cB cJ cZ cQ s) sz) := by
  refine dc_of (QA := xk_Qv (dC, dI) xcl (xt cI cB cJ cZ cQ) (fun _ : Unit => True) (fun u : Unit => (wC a v cI cB cJ cZ cQ y.2))) (by decide) (Nat.le_of_ble_eq_true rfl) ?_
  intro p e s0 m below meth c hx hb hml hown hg hr hlocks hin hP hK hN A hA hD hT ls hl
  have hown : s0.vm.findClass rn_Machine = some m.cls := hown
  obtain ⟨H, hH⟩ : ∃ z, z = s0.heap := ⟨_, rfl⟩
  rw [← hH] at hP
  have hS : va_S A s0.heap H [] := by rw [hH]; exact va_S.rf
  suffices kk : ∀ QQ : State → Prop, QQ = MQ below (xk_Qv (dC, dI) xcl (xt cI cB cJ cZ cQ) (fun _ : Unit => True) (fun u : Unit => (wC a v cI cB cJ cZ cQ y.2)) A) [.ref ((a 107)), .ref ((a 112))].toArray s0 0 0 A → dcC p l e ({ frames := 2, cells := 0, slots := 0, locals := 42 }) s0 m [.ref ((a 107)), .ref ((a 112))].toArray below meth c QQ (dC, dI) A (wC a v cI cB cJ cZ cQ s) 0 3 [(0, .ref ((a 107))), (1, .ref ((a 112)))] [] by
    have k9 := kk _ rfl H [] ls hP hD hS hl
    rw [hH] at k9; exact k9
  clear hP hD hS hl hH H ls
  intro QQ hQQ
  have hd_2 : ∀ (n : Nat) (x2 : Int32) (s : ms), hd_Machine_restart_Ma_Cc_2 N n x2 s = some y → dcC p l e ({ frames := 2, cells := 0, slots := 0, locals := 42 }) s0 m [.ref ((a 107)), .ref ((a 112))].toArray below meth c QQ (dC, dI) A (wC a v cI cB cJ cZ cQ s) 2 3 [(0, .ref ((a 107))), (1, .ref ((a 112))), (2, .int x2)] [] := by
    intro n
    induction n with
    | zero => intro x2 s hf; cases hf
    | succ n ih =>
      intro x2 s hf H locs ls hP hD hS hl
      have hf : bd_Machine_restart_Ma_Cc_2 N (hd_Machine_restart_Ma_Cc_2 N n) x2 s = some y := hf
      have hk_2 := ih
      generalize hd_Machine_restart_Ma_Cc_2 N n = k_2 at hf hk_2
      unfold bd_Machine_restart_Ma_Cc_2 at hf
      refine lv_iload_n hx hb dn_Machine_restart_2 rfl (lv_at hl 2 rfl) ?_
      refine lv_aload_n hx hb dn_Machine_restart_3 rfl (lv_at hl 1 rfl) ?_
      refine va_get (D := (dC, dI)) (ci := 9) (v := .int ((s.1 343 0))) (C := rn_Circuit) (T := fn_Circuit) (N := 14) hx hb hg in_Circuit hown hK hP 12 rfl rfl 2 (by decide) (hg _ wn_3_68) (fun _ h9 => h9) rfl dn_Machine_restart_4 ?_
      refine lv_icmp_ge (tgt := 27) hx hb dn_Machine_restart_7 (by decide) (fun h => ?_) (fun h => ?_)
      · have hf := (if_pos h).symm.trans hf
        refine lv_aload_n hx hb dn_Machine_restart_27 rfl (lv_at hl 0 rfl) ?_
        refine lv_iconst (v := 0) hx hb dn_Machine_restart_28 (by decide) ?_
        refine va_put (D := (dC, dI)) (ci := 8) (v := .int 0) (ty := .int) (C := rn_Machine) (T := fn_Machine) (N := 5) hx hb hg in_Machine tn_Machine tk_Machine nn_Machine hown hK hP hD hS 7 rfl rfl 3 (by decide) (hg _ wn_2_92) (fun _ h9 => h9) rfl (tk_Machine 3 (by decide)) rfl rfl (Nat.le_of_ble_eq_true rfl) dn_Machine_restart_29 (fun H locs hP hD hS => ?_)
        have hP := wC_P_289 hP
        have hD := wC_D_289 hD
        refine lv_aload_n hx hb dn_Machine_restart_32 rfl (lv_at hl 0 rfl) ?_
        refine lv_iconst (v := 0) hx hb dn_Machine_restart_33 (by decide) ?_
        refine va_put (D := (dC, dI)) (ci := 8) (v := .int 0) (ty := .boolean) (C := rn_Machine) (T := fn_Machine) (N := 5) hx hb hg in_Machine tn_Machine tk_Machine nn_Machine hown hK hP hD hS 7 rfl rfl 4 (by decide) (hg _ wn_2_93) (fun _ h9 => h9) rfl (tk_Machine 4 (by decide)) rfl rfl (Nat.le_of_ble_eq_true rfl) dn_Machine_restart_34 (fun H locs hP hD hS => ?_)
        have hP := wC_P_290 hP
        have hD := wC_D_290 hD
        rw [hQQ, ← Option.some.inj hf]
        exact xk_vret (w1 := fun u : Unit => (wC a v cI cB cJ cZ cQ (upI (upI s 289 (fun _ => 0)) 290 (fun _ => 0)))) () hx hb hr hlocks hK hS dn_Machine_restart_37 hP hD trivial (Nat.le_refl _) (Nat.le_refl _)
      · have hf := (if_neg h).symm.trans hf
        refine lv_aload_n hx hb dn_Machine_restart_10 rfl (lv_at hl 0 rfl) ?_
        refine va_get (D := (dC, dI)) (ci := 8) (v := .ref ((a 286))) (C := rn_Machine) (T := fn_Machine) (N := 5) hx hb hg in_Machine hown hK hP 7 rfl rfl 0 (by decide) (hg _ wn_2_89) (fun _ h9 => h9) rfl dn_Machine_restart_11 ?_
        refine lv_iload_n hx hb dn_Machine_restart_14 rfl (lv_at hl 2 rfl) ?_
        refine lv_aload_n hx hb dn_Machine_restart_15 rfl (lv_at hl 1 rfl) ?_
        refine lv_iload_n hx hb dn_Machine_restart_16 rfl (lv_at hl 2 rfl) ?_
        obtain ⟨q_1, hc_2, hf⟩ := dc_b hf
        refine dc_calll (dc_runV (ar := 1) (As := [.int x2]) (rest := [.int x2, .ref ((a 286))]) (ci := 9) (q0 := 12) ⟨hx, hb, hml, hown, hg⟩ hK hN hT hS hA (ct_Circuit_firstOf_Cc l dC dI cI cB cJ cZ cQ N H.size a v x2 s q_1 hc_2) hP hD rfl rfl wn_7_12 wn_7_13 wn_7_14 wn_1_9 wn_7_15 rfl rfl (by decide +kernel) ⟨Nat.le_of_ble_eq_true rfl, Nat.le_of_ble_eq_true rfl⟩ rfl hl.1 rfl (Nat.le_of_ble_eq_true rfl) dn_Machine_restart_17 ⟨Nat.le_of_ble_eq_true rfl, Nat.le_of_ble_eq_true rfl⟩) hP hD hS hA (fun r_3 _ H locs hw hP hD hS => ?_)
        have hw : r_3 = q_1.1 := hw
        subst hw
        obtain ⟨hg_4, hf⟩ := dc_g hf
        refine va_last hx hb hK hP hD hS 39 2 rfl rfl hg_4 dn_Machine_restart_20 (fun H locs hP hD hS => ?_)
        have hP : va_P (dC, dI) xcl ((wC a v cI cB cJ cZ cQ q_1.2).set 39 ((a 286), .inl (cJ, 1024, .inr (.inl (vp_updL (q_1.2.2 286) (Int32.toNatClampNeg x2) q_1.1))))) H := hP
        have hD : va_D A ((wC a v cI cB cJ cZ cQ q_1.2).set 39 ((a 286), .inl (cJ, 1024, .inr (.inl (vp_updL (q_1.2.2 286) (Int32.toNatClampNeg x2) q_1.1))))) := hD
        have hP := wC_P_286 hP
        have hD := wC_D_286 hD
        refine lv_iinc (v := (x2 + 1)) (lv' := [(2, .int ((x2 + 1))), (0, .ref ((a 107))), (1, .ref ((a 112)))]) hx hb dn_Machine_restart_21 hl (k := 2) rfl (dc_inc (by decide)) (by decide) rfl (fun ls hl => ?_)
        refine lv_goto (tgt := 2) hx hb dn_Machine_restart_24 (by decide) ?_
        exact hk_2 ((x2 + 1)) (upJ q_1.2 286 (vp_updL (q_1.2.2 286) (Int32.toNatClampNeg x2) q_1.1)) hf H locs ls hP hD hS (lv_sub hl [1, 2, 0] rfl)
  intro H locs ls hP hD hS hl
  unfold fn_Machine_restart_Ma_Cc at hf
  refine lv_iconst (v := 0) hx hb dn_Machine_restart_0 (by decide) ?_
  refine lv_istore_n (lv' := [(2, .int 0), (0, .ref ((a 107))), (1, .ref ((a 112)))]) hx hb dn_Machine_restart_1 rfl hl (by decide) rfl (fun ls hl => ?_)
  exact hd_2 N 0 s hf H locs ls hP hD hS (lv_sub hl [1, 2, 0] rfl)
set_option maxHeartbeats 8000000 in
set_option maxRecDepth 100000 in
theorem ct_C_reset_C (l : Launch) (dC : Nat → ClassId) (dI : Nat → Nat → Nat) (cI cB cJ cZ cQ : ClassId) (N sz : Nat) (a : Nat → Nat) (v : Nat → Value) (s : ms) (y : (Unit × ms)) (hf : fn_C_reset_C N s = some y) : Met l yn_C_reset (xw yn_C_reset bn_C_reset 1 none) ({ frames := 3, cells := 0, slots := 0, locals := 64 }) (dc_P (dC, dI) xcl (xt cI cB cJ cZ cQ) [.ref ((a 100))] sz (wC a v cI cB cJ cZ cQ s)) (xk_Qv (dC, dI) xcl (xt cI cB cJ cZ cQ) (fun _ : Unit => True) (fun u : Unit => (wC a v cI cB cJ cZ cQ y.2)) (va_A (wC a v cI cB cJ cZ cQ s) sz)) 0 0 (va_A (wC a v cI cB cJ cZ cQ s) sz) := by
  refine dc_of (QA := xk_Qv (dC, dI) xcl (xt cI cB cJ cZ cQ) (fun _ : Unit => True) (fun u : Unit => (wC a v cI cB cJ cZ cQ y.2))) (by decide) (Nat.le_of_ble_eq_true rfl) ?_
  intro p e s0 m below meth c hx hb hml hown hg hr hlocks hin hP hK hN A hA hD hT ls hl
  have hown : s0.vm.findClass rn_C = some m.cls := hown
  obtain ⟨H, hH⟩ : ∃ z, z = s0.heap := ⟨_, rfl⟩
  rw [← hH] at hP
  have hS : va_S A s0.heap H [] := by rw [hH]; exact va_S.rf
  suffices kk : ∀ QQ : State → Prop, QQ = MQ below (xk_Qv (dC, dI) xcl (xt cI cB cJ cZ cQ) (fun _ : Unit => True) (fun u : Unit => (wC a v cI cB cJ cZ cQ y.2)) A) [.ref ((a 100))].toArray s0 0 0 A → dcC p l e ({ frames := 3, cells := 0, slots := 0, locals := 64 }) s0 m [.ref ((a 100))].toArray below meth c QQ (dC, dI) A (wC a v cI cB cJ cZ cQ s) 0 1 [(0, .ref ((a 100)))] [] by
    have k9 := kk _ rfl H [] ls hP hD hS hl
    rw [hH] at k9; exact k9
  clear hP hD hS hl hH H ls
  intro QQ hQQ
  intro H locs ls hP hD hS hl
  unfold fn_C_reset_C at hf
  refine lv_aload_n hx hb dn_C_reset_0 rfl (lv_at hl 0 rfl) ?_
  refine va_get (D := (dC, dI)) (ci := 1) (v := .int ((s.1 208 0))) (C := rn_C) (T := fn_C) (N := 11) hx hb hg in_C hown hK hP 0 rfl rfl 8 (by decide) (hg _ wn_3_133) (fun _ h9 => h9) rfl dn_C_reset_1 ?_
  refine lv_if_ne (tgt := 15) hx hb dn_C_reset_4 (by decide) (fun h => ?_) (fun h => ?_)
  · have hf := (if_neg h).symm.trans hf
    refine lv_aload_n hx hb dn_C_reset_15 rfl (lv_at hl 0 rfl) ?_
    refine va_get (D := (dC, dI)) (ci := 1) (v := .ref ((a 107))) (C := rn_C) (T := fn_C) (N := 11) hx hb hg in_C hown hK hP 0 rfl rfl 7 (by decide) (hg _ wn_3_132) (fun _ h9 => h9) rfl dn_C_reset_16 ?_
    refine lv_aload_n hx hb dn_C_reset_19 rfl (lv_at hl 0 rfl) ?_
    refine va_get (D := (dC, dI)) (ci := 1) (v := .ref ((a 112))) (C := rn_C) (T := fn_C) (N := 11) hx hb hg in_C hown hK hP 0 rfl rfl 9 (by decide) (hg _ wn_3_134) (fun _ h9 => h9) rfl dn_C_reset_20 ?_
    obtain ⟨q_1, hc_2, hf⟩ := dc_b hf
    refine dc_callv (dc_runV (ar := 1) (As := [.ref ((a 112))]) (rest := []) (ci := 8) (q0 := 7) ⟨hx, hb, hml, hown, hg⟩ hK hN hT hS hA (ct_Machine_restart_Ma_Cc l dC dI cI cB cJ cZ cQ N H.size a v s q_1 hc_2) hP hD rfl rfl wn_7_8 wn_7_9 wn_7_10 wn_1_8 wn_7_11 rfl rfl (by decide +kernel) ⟨Nat.le_of_ble_eq_true rfl, Nat.le_of_ble_eq_true rfl⟩ rfl hl.1 rfl (Nat.le_of_ble_eq_true rfl) dn_C_reset_23 ⟨Nat.le_of_ble_eq_true rfl, Nat.le_of_ble_eq_true rfl⟩) hP hD hS hA (fun _ H locs hw hP hD hS => ?_)
    rw [hQQ, ← Option.some.inj hf]
    exact xk_vret (w1 := fun u : Unit => (wC a v cI cB cJ cZ cQ q_1.2)) () hx hb hr hlocks hK hS dn_C_reset_26 hP hD trivial (Nat.le_refl _) (Nat.le_refl _)
  · have hf := (if_pos h).symm.trans hf
    cases hf
set_option maxHeartbeats 8000000 in
set_option maxRecDepth 100000 in
theorem ct_Machine_put_Ma (l : Launch) (dC : Nat → ClassId) (dI : Nat → Nat → Nat) (cI cB cJ cZ cQ : ClassId) (N sz : Nat) (a : Nat → Nat) (v : Nat → Value) (v1 : Int32) (v2 : Int64) (s : ms) (y : (Unit × ms)) (hf : fn_Machine_put_Ma N v1 v2 s = some y) : Met l yn_Machine_put (xw yn_Machine_put bn_Machine_put 4 none) ({ frames := 0, cells := 0, slots := 0, locals := 0 }) (dc_P (dC, dI) xcl (xt cI cB cJ cZ cQ) [.ref ((a 107)), .int v1, .long v2] sz (wC a v cI cB cJ cZ cQ s)) (xk_Qv (dC, dI) xcl (xt cI cB cJ cZ cQ) (fun _ : Unit => True) (fun u : Unit => (wC a v cI cB cJ cZ cQ y.2)) (va_A (wC a v cI cB cJ cZ cQ s) sz)) 0 0 (va_A (wC a v cI cB cJ cZ cQ s) sz) := by
  refine dc_of (QA := xk_Qv (dC, dI) xcl (xt cI cB cJ cZ cQ) (fun _ : Unit => True) (fun u : Unit => (wC a v cI cB cJ cZ cQ y.2))) (by decide) (Nat.le_of_ble_eq_true rfl) ?_
  intro p e s0 m below meth c hx hb hml hown hg hr hlocks hin hP hK hN A hA hD hT ls hl
  have hown : s0.vm.findClass rn_Machine = some m.cls := hown
  obtain ⟨H, hH⟩ : ∃ z, z = s0.heap := ⟨_, rfl⟩
  rw [← hH] at hP
  have hS : va_S A s0.heap H [] := by rw [hH]; exact va_S.rf
  suffices kk : ∀ QQ : State → Prop, QQ = MQ below (xk_Qv (dC, dI) xcl (xt cI cB cJ cZ cQ) (fun _ : Unit => True) (fun u : Unit => (wC a v cI cB cJ cZ cQ y.2)) A) [.ref ((a 107)), .int v1, .long v2].toArray s0 0 0 A → dcC p l e ({ frames := 0, cells := 0, slots := 0, locals := 0 }) s0 m [.ref ((a 107)), .int v1, .long v2].toArray below meth c QQ (dC, dI) A (wC a v cI cB cJ cZ cQ s) 0 4 [(0, .ref ((a 107))), (1, .int v1), (2, .long v2)] [] by
    have k9 := kk _ rfl H [] ls hP hD hS hl
    rw [hH] at k9; exact k9
  clear hP hD hS hl hH H ls
  intro QQ hQQ
  intro H locs ls hP hD hS hl
  unfold fn_Machine_put_Ma at hf
  refine lv_iload_n hx hb dn_Machine_put_0 rfl (lv_at hl 1 rfl) ?_
  refine lv_if_lt (tgt := 13) hx hb dn_Machine_put_1 (by decide) (fun h => ?_) (fun h => ?_)
  · have hf := (if_pos h).symm.trans hf
    rw [hQQ, ← Option.some.inj hf]
    exact xk_vret (w1 := fun u : Unit => (wC a v cI cB cJ cZ cQ s)) () hx hb hr hlocks hK hS dn_Machine_put_13 hP hD trivial (Nat.le_refl _) (Nat.le_refl _)
  · have hf := (if_neg h).symm.trans hf
    refine lv_iload_n hx hb dn_Machine_put_4 rfl (lv_at hl 1 rfl) ?_
    refine lv_aload_n hx hb dn_Machine_put_5 rfl (lv_at hl 0 rfl) ?_
    refine va_get (D := (dC, dI)) (ci := 8) (v := .ref ((a 286))) (C := rn_Machine) (T := fn_Machine) (N := 5) hx hb hg in_Machine hown hK hP 7 rfl rfl 0 (by decide) (hg _ wn_2_89) (fun _ h9 => h9) rfl dn_Machine_put_6 ?_
    refine va_alen (v := 1024) hx hb hK hP 39 2 rfl rfl rfl dn_Machine_put_9 ?_
    refine lv_icmp_lt (tgt := 14) hx hb dn_Machine_put_10 (by decide) (fun h => ?_) (fun h => ?_)
    · have hf := (if_pos h).symm.trans hf
      refine lv_aload_n hx hb dn_Machine_put_14 rfl (lv_at hl 0 rfl) ?_
      refine va_get (D := (dC, dI)) (ci := 8) (v := .ref ((a 286))) (C := rn_Machine) (T := fn_Machine) (N := 5) hx hb hg in_Machine hown hK hP 7 rfl rfl 0 (by decide) (hg _ wn_2_89) (fun _ h9 => h9) rfl dn_Machine_put_15 ?_
      refine lv_iload_n hx hb dn_Machine_put_18 rfl (lv_at hl 1 rfl) ?_
      refine lv_lload_n hx hb dn_Machine_put_19 rfl (lv_at hl 2 rfl) ?_
      obtain ⟨hg_1, hf⟩ := dc_g hf
      refine va_last hx hb hK hP hD hS 39 2 rfl rfl hg_1 dn_Machine_put_20 (fun H locs hP hD hS => ?_)
      have hP : va_P (dC, dI) xcl ((wC a v cI cB cJ cZ cQ s).set 39 ((a 286), .inl (cJ, 1024, .inr (.inl (vp_updL (s.2 286) (Int32.toNatClampNeg v1) v2))))) H := hP
      have hD : va_D A ((wC a v cI cB cJ cZ cQ s).set 39 ((a 286), .inl (cJ, 1024, .inr (.inl (vp_updL (s.2 286) (Int32.toNatClampNeg v1) v2))))) := hD
      have hP := wC_P_286 hP
      have hD := wC_D_286 hD
      refine lv_aload_n hx hb dn_Machine_put_21 rfl (lv_at hl 0 rfl) ?_
      refine lv_iconst (v := 0) hx hb dn_Machine_put_22 (by decide) ?_
      refine va_put (D := (dC, dI)) (ci := 8) (v := .int 0) (ty := .boolean) (C := rn_Machine) (T := fn_Machine) (N := 5) hx hb hg in_Machine tn_Machine tk_Machine nn_Machine hown hK hP hD hS 7 rfl rfl 4 (by decide) (hg _ wn_2_93) (fun _ h9 => h9) rfl (tk_Machine 4 (by decide)) rfl rfl (Nat.le_of_ble_eq_true rfl) dn_Machine_put_23 (fun H locs hP hD hS => ?_)
      have hP := wC_P_290 hP
      have hD := wC_D_290 hD
      rw [hQQ, ← Option.some.inj hf]
      exact xk_vret (w1 := fun u : Unit => (wC a v cI cB cJ cZ cQ (upI (upJ s 286 (vp_updL (s.2 286) (Int32.toNatClampNeg v1) v2)) 290 (fun _ => 0)))) () hx hb hr hlocks hK hS dn_Machine_put_26 hP hD trivial (Nat.le_refl _) (Nat.le_refl _)
    · have hf := (if_neg h).symm.trans hf
      rw [hQQ, ← Option.some.inj hf]
      exact xk_vret (w1 := fun u : Unit => (wC a v cI cB cJ cZ cQ s)) () hx hb hr hlocks hK hS dn_Machine_put_13 hP hD trivial (Nat.le_refl _) (Nat.le_refl _)
set_option maxHeartbeats 8000000 in
set_option maxRecDepth 100000 in
theorem ct_C_set_C (l : Launch) (dC : Nat → ClassId) (dI : Nat → Nat → Nat) (cI cB cJ cZ cQ : ClassId) (N sz : Nat) (a : Nat → Nat) (v : Nat → Value) (v1 : Int32) (v2 : Int32) (s : ms) (y : (Unit × ms)) (hf : fn_C_set_C N v1 v2 s = some y) : Met l yn_C_set (xw yn_C_set bn_C_set 3 none) ({ frames := 4, cells := 0, slots := 0, locals := 85 }) (dc_P (dC, dI) xcl (xt cI cB cJ cZ cQ) [.ref ((a 100)), .int v1, .int v2] sz (wC a v cI cB cJ cZ cQ s)) (xk_Qv (dC, dI) xcl (xt cI cB cJ cZ cQ) (fun _ : Unit => True) (fun u : Unit => (wC a v cI cB cJ cZ cQ y.2)) (va_A (wC a v cI cB cJ cZ cQ s) sz)) 0 0 (va_A (wC a v cI cB cJ cZ cQ s) sz) := by
  refine dc_of (QA := xk_Qv (dC, dI) xcl (xt cI cB cJ cZ cQ) (fun _ : Unit => True) (fun u : Unit => (wC a v cI cB cJ cZ cQ y.2))) (by decide) (Nat.le_of_ble_eq_true rfl) ?_
  intro p e s0 m below meth c hx hb hml hown hg hr hlocks hin hP hK hN A hA hD hT ls hl
  have hown : s0.vm.findClass rn_C = some m.cls := hown
  obtain ⟨H, hH⟩ : ∃ z, z = s0.heap := ⟨_, rfl⟩
  rw [← hH] at hP
  have hS : va_S A s0.heap H [] := by rw [hH]; exact va_S.rf
  suffices kk : ∀ QQ : State → Prop, QQ = MQ below (xk_Qv (dC, dI) xcl (xt cI cB cJ cZ cQ) (fun _ : Unit => True) (fun u : Unit => (wC a v cI cB cJ cZ cQ y.2)) A) [.ref ((a 100)), .int v1, .int v2].toArray s0 0 0 A → dcC p l e ({ frames := 4, cells := 0, slots := 0, locals := 85 }) s0 m [.ref ((a 100)), .int v1, .int v2].toArray below meth c QQ (dC, dI) A (wC a v cI cB cJ cZ cQ s) 0 3 [(0, .ref ((a 100))), (1, .int v1), (2, .int v2)] [] by
    have k9 := kk _ rfl H [] ls hP hD hS hl
    rw [hH] at k9; exact k9
  clear hP hD hS hl hH H ls
  intro QQ hQQ
  have bl_30 : ∀ (s : ms), bk_C_set_C_30 N s = some y → dcC p l e ({ frames := 4, cells := 0, slots := 0, locals := 85 }) s0 m [.ref ((a 100)), .int v1, .int v2].toArray below meth c QQ (dC, dI) A (wC a v cI cB cJ cZ cQ s) 30 3 [] [] := by
    intro s hf H locs ls hP hD hS hl
    unfold bk_C_set_C_30 at hf
    cases hf
  have bl_78 : ∀ (s : ms), bk_C_set_C_78 N s = some y → dcC p l e ({ frames := 4, cells := 0, slots := 0, locals := 85 }) s0 m [.ref ((a 100)), .int v1, .int v2].toArray below meth c QQ (dC, dI) A (wC a v cI cB cJ cZ cQ s) 78 3 [] [] := by
    intro s hf H locs ls hP hD hS hl
    unfold bk_C_set_C_78 at hf
    cases hf
  intro H locs ls hP hD hS hl
  unfold fn_C_set_C at hf
  refine lv_aload_n hx hb dn_C_set_0 rfl (lv_at hl 0 rfl) ?_
  refine va_get (D := (dC, dI)) (ci := 1) (v := .int ((s.1 208 0))) (C := rn_C) (T := fn_C) (N := 11) hx hb hg in_C hown hK hP 0 rfl rfl 8 (by decide) (hg _ wn_3_133) (fun _ h9 => h9) rfl dn_C_set_1 ?_
  refine lv_if_ne (tgt := 15) hx hb dn_C_set_4 (by decide) (fun h => ?_) (fun h => ?_)
  · have hf := (if_neg h).symm.trans hf
    refine lv_iload_n hx hb dn_C_set_15 rfl (lv_at hl 1 rfl) ?_
    refine lv_if_lt (tgt := 30) hx hb dn_C_set_16 (by decide) (fun h => ?_) (fun h => ?_)
    · have hf := (if_pos h).symm.trans hf
      exact bl_30 s hf H locs ls hP hD hS (lv_sub hl [] rfl)
    · have hf := (if_neg h).symm.trans hf
      refine lv_iload_n hx hb dn_C_set_19 rfl (lv_at hl 1 rfl) ?_
      refine lv_aload_n hx hb dn_C_set_20 rfl (lv_at hl 0 rfl) ?_
      refine va_get (D := (dC, dI)) (ci := 1) (v := .ref ((a 112))) (C := rn_C) (T := fn_C) (N := 11) hx hb hg in_C hown hK hP 0 rfl rfl 9 (by decide) (hg _ wn_3_134) (fun _ h9 => h9) rfl dn_C_set_21 ?_
      refine va_get (D := (dC, dI)) (ci := 9) (v := .int ((s.1 343 0))) (C := rn_Circuit) (T := fn_Circuit) (N := 14) hx hb hg in_Circuit hown hK hP 12 rfl rfl 2 (by decide) (hg _ wn_3_71) (fun _ h9 => h9) rfl dn_C_set_24 ?_
      refine lv_icmp_lt (tgt := 38) hx hb dn_C_set_27 (by decide) (fun h => ?_) (fun h => ?_)
      · have hf := (if_pos h).symm.trans hf
        refine lv_aload_n hx hb dn_C_set_38 rfl (lv_at hl 0 rfl) ?_
        refine va_get (D := (dC, dI)) (ci := 1) (v := .ref ((a 112))) (C := rn_C) (T := fn_C) (N := 11) hx hb hg in_C hown hK hP 0 rfl rfl 9 (by decide) (hg _ wn_3_134) (fun _ h9 => h9) rfl dn_C_set_39 ?_
        refine lv_iload_n hx hb dn_C_set_42 rfl (lv_at hl 1 rfl) ?_
        obtain ⟨q_1, hc_2, hf⟩ := dc_b hf
        refine dc_calli (dc_runV (ar := 1) (As := [.int v1]) (rest := []) (ci := 9) (q0 := 12) ⟨hx, hb, hml, hown, hg⟩ hK hN hT hS hA (ct_Circuit_sortOf_Cc l dC dI cI cB cJ cZ cQ N H.size a v v1 s q_1 hc_2) hP hD rfl rfl wn_7_196 wn_7_197 wn_7_198 wn_1_9 wn_7_199 rfl rfl (by decide +kernel) ⟨Nat.le_of_ble_eq_true rfl, Nat.le_of_ble_eq_true rfl⟩ rfl hl.1 rfl (Nat.le_of_ble_eq_true rfl) dn_C_set_43 ⟨Nat.le_of_ble_eq_true rfl, Nat.le_of_ble_eq_true rfl⟩) hP hD hS hA (fun r_3 _ H locs hw hP hD hS => ?_)
        have hw : r_3 = q_1.1 := hw
        subst hw
        refine lv_if_eq (tgt := 57) hx hb dn_C_set_46 (by decide) (fun h => ?_) (fun h => ?_)
        · have hf := (if_pos h).symm.trans hf
          refine lv_iload_n hx hb dn_C_set_57 rfl (lv_at hl 2 rfl) ?_
          refine lv_if_lt (tgt := 78) hx hb dn_C_set_58 (by decide) (fun h => ?_) (fun h => ?_)
          · have hf := (if_pos h).symm.trans hf
            exact bl_78 q_1.2 hf H locs ls hP hD hS (lv_sub hl [] rfl)
          · have hf := (if_neg h).symm.trans hf
            refine lv_iload_n hx hb dn_C_set_61 rfl (lv_at hl 2 rfl) ?_
            refine lv_i2l (v := Int32.toInt64 v2) hx hb dn_C_set_62 rfl ?_
            refine lv_aload_n hx hb dn_C_set_63 rfl (lv_at hl 0 rfl) ?_
            refine va_get (D := (dC, dI)) (ci := 1) (v := .ref ((a 112))) (C := rn_C) (T := fn_C) (N := 11) hx hb hg in_C hown hK hP 0 rfl rfl 9 (by decide) (hg _ wn_3_134) (fun _ h9 => h9) rfl dn_C_set_64 ?_
            refine lv_iload_n hx hb dn_C_set_67 rfl (lv_at hl 1 rfl) ?_
            obtain ⟨q_4, hc_5, hf⟩ := dc_b hf
            refine dc_calli (dc_runV (ar := 1) (As := [.int v1]) (rest := [.long ((Int32.toInt64 v2))]) (ci := 9) (q0 := 12) ⟨hx, hb, hml, hown, hg⟩ hK hN hT hS hA (ct_Circuit_widthOf_Cc l dC dI cI cB cJ cZ cQ N H.size a v v1 q_1.2 q_4 hc_5) hP hD rfl rfl wn_7_192 wn_7_193 wn_7_194 wn_1_9 wn_7_195 rfl rfl (by decide +kernel) ⟨Nat.le_of_ble_eq_true rfl, Nat.le_of_ble_eq_true rfl⟩ rfl hl.1 rfl (Nat.le_of_ble_eq_true rfl) dn_C_set_68 ⟨Nat.le_of_ble_eq_true rfl, Nat.le_of_ble_eq_true rfl⟩) hP hD hS hA (fun r_6 _ H locs hw hP hD hS => ?_)
            have hw : r_6 = q_4.1 := hw
            subst hw
            obtain ⟨q_7, hc_8, hf⟩ := dc_b hf
            refine dc_calll (dc_runS (ar := 1) (As := [.int q_4.1]) (rest := [.long ((Int32.toInt64 v2))]) ⟨hx, hb, hml, hown, hg⟩ hK hN hT hS hA (ct_C_mask l dC dI cI cB cJ cZ cQ N H.size a v q_4.1 q_4.2 q_7 hc_8) hP hD wn_7_214 wn_4_71 wn_1_1 wn_4_72 rfl rfl (by decide +kernel) ⟨Nat.le_of_ble_eq_true rfl, Nat.le_of_ble_eq_true rfl⟩ rfl hl.1 rfl (Nat.le_of_ble_eq_true rfl) dn_C_set_71 ⟨Nat.le_of_ble_eq_true rfl, Nat.le_of_ble_eq_true rfl⟩) hP hD hS hA (fun r_9 _ H locs hw hP hD hS => ?_)
            have hw : r_9 = q_7.1 := hw
            subst hw
            refine W.lcmp hx hb dn_C_set_74 ?_
            refine lv_if_le (tgt := 86) hx hb dn_C_set_75 (by decide) (fun h => ?_) (fun h => ?_)
            · have hf := (if_pos h).symm.trans hf
              refine lv_aload_n hx hb dn_C_set_86 rfl (lv_at hl 0 rfl) ?_
              refine va_get (D := (dC, dI)) (ci := 1) (v := .ref ((a 107))) (C := rn_C) (T := fn_C) (N := 11) hx hb hg in_C hown hK hP 0 rfl rfl 7 (by decide) (hg _ wn_3_132) (fun _ h9 => h9) rfl dn_C_set_87 ?_
              refine lv_iload_n hx hb dn_C_set_90 rfl (lv_at hl 1 rfl) ?_
              refine lv_iload_n hx hb dn_C_set_91 rfl (lv_at hl 2 rfl) ?_
              refine lv_i2l (v := Int32.toInt64 v2) hx hb dn_C_set_92 rfl ?_
              obtain ⟨q_10, hc_11, hf⟩ := dc_b hf
              refine dc_callv (dc_runV (ar := 2) (As := [.int v1, .long ((Int32.toInt64 v2))]) (rest := []) (ci := 8) (q0 := 7) ⟨hx, hb, hml, hown, hg⟩ hK hN hT hS hA (ct_Machine_put_Ma l dC dI cI cB cJ cZ cQ N H.size a v v1 ((Int32.toInt64 v2)) q_7.2 q_10 hc_11) hP hD rfl rfl wn_7_215 wn_7_216 wn_7_217 wn_1_8 wn_7_218 rfl rfl (by decide +kernel) ⟨Nat.le_of_ble_eq_true rfl, Nat.le_of_ble_eq_true rfl⟩ rfl hl.1 rfl (Nat.le_of_ble_eq_true rfl) dn_C_set_93 ⟨Nat.le_of_ble_eq_true rfl, Nat.le_of_ble_eq_true rfl⟩) hP hD hS hA (fun _ H locs hw hP hD hS => ?_)
              rw [hQQ, ← Option.some.inj hf]
              exact xk_vret (w1 := fun u : Unit => (wC a v cI cB cJ cZ cQ q_10.2)) () hx hb hr hlocks hK hS dn_C_set_96 hP hD trivial (Nat.le_refl _) (Nat.le_refl _)
            · have hf := (if_neg h).symm.trans hf
              exact bl_78 q_7.2 hf H locs ls hP hD hS (lv_sub hl [] rfl)
        · have hf := (if_neg h).symm.trans hf
          cases hf
      · have hf := (if_neg h).symm.trans hf
        exact bl_30 s hf H locs ls hP hD hS (lv_sub hl [] rfl)
  · have hf := (if_pos h).symm.trans hf
    cases hf
set_option maxHeartbeats 8000000 in
set_option maxRecDepth 100000 in
theorem ct_Machine_store_Ma (l : Launch) (dC : Nat → ClassId) (dI : Nat → Nat → Nat) (cI cB cJ cZ cQ : ClassId) (N sz : Nat) (a : Nat → Nat) (v : Nat → Value) (v1 : Int32) (v2 : Int32) (v3 : Int64) (s : ms) (y : (Unit × ms)) (hf : fn_Machine_store_Ma N v1 v2 v3 s = some y) : Met l yn_Machine_store (xw yn_Machine_store bn_Machine_store 9 none) ({ frames := 1, cells := 0, slots := 0, locals := 20 }) (dc_P (dC, dI) xcl (xt cI cB cJ cZ cQ) [.ref ((a 107)), .int v1, .int v2, .long v3] sz (wC a v cI cB cJ cZ cQ s)) (xk_Qv (dC, dI) xcl (xt cI cB cJ cZ cQ) (fun _ : Unit => True) (fun u : Unit => (wC a v cI cB cJ cZ cQ y.2)) (va_A (wC a v cI cB cJ cZ cQ s) sz)) 0 0 (va_A (wC a v cI cB cJ cZ cQ s) sz) := by
  refine dc_of (QA := xk_Qv (dC, dI) xcl (xt cI cB cJ cZ cQ) (fun _ : Unit => True) (fun u : Unit => (wC a v cI cB cJ cZ cQ y.2))) (by decide) (Nat.le_of_ble_eq_true rfl) ?_
  intro p e s0 m below meth c hx hb hml hown hg hr hlocks hin hP hK hN A hA hD hT ls hl
  have hown : s0.vm.findClass rn_Machine = some m.cls := hown
  obtain ⟨H, hH⟩ : ∃ z, z = s0.heap := ⟨_, rfl⟩
  rw [← hH] at hP
  have hS : va_S A s0.heap H [] := by rw [hH]; exact va_S.rf
  suffices kk : ∀ QQ : State → Prop, QQ = MQ below (xk_Qv (dC, dI) xcl (xt cI cB cJ cZ cQ) (fun _ : Unit => True) (fun u : Unit => (wC a v cI cB cJ cZ cQ y.2)) A) [.ref ((a 107)), .int v1, .int v2, .long v3].toArray s0 0 0 A → dcC p l e ({ frames := 1, cells := 0, slots := 0, locals := 20 }) s0 m [.ref ((a 107)), .int v1, .int v2, .long v3].toArray below meth c QQ (dC, dI) A (wC a v cI cB cJ cZ cQ s) 0 9 [(0, .ref ((a 107))), (1, .int v1), (2, .int v2), (3, .long v3)] [] by
    have k9 := kk _ rfl H [] ls hP hD hS hl
    rw [hH] at k9; exact k9
  clear hP hD hS hl hH H ls
  intro QQ hQQ
  intro H locs ls hP hD hS hl
  unfold fn_Machine_store_Ma at hf
  refine lv_iload_n hx hb dn_Machine_store_0 rfl (lv_at hl 1 rfl) ?_
  refine lv_iload_n hx hb dn_Machine_store_1 rfl (lv_at hl 2 rfl) ?_
  refine lv_bipush (v := 14) hx hb dn_Machine_store_2 (by decide) ?_
  refine lv_iushr (v := (Int32.toUInt32 v2 >>> (Int32.toUInt32 14 &&& Int32.toUInt32 31)).toInt32) hx hb dn_Machine_store_4 rfl ?_
  refine lv_iadd hx hb dn_Machine_store_5 ?_
  refine lv_istore (lv' := [(5, .int ((v1 + ((Int32.toUInt32 v2 >>> (Int32.toUInt32 14 &&& Int32.toUInt32 31)).toInt32)))), (0, .ref ((a 107))), (1, .int v1), (2, .int v2), (3, .long v3)]) hx hb dn_Machine_store_6 hl (by decide) rfl (fun ls hl => ?_)
  refine lv_iload_n hx hb dn_Machine_store_8 rfl (lv_at hl 3 rfl) ?_
  refine lv_bipush (v := 7) hx hb dn_Machine_store_9 (by decide) ?_
  refine lv_iushr (v := (Int32.toUInt32 v2 >>> (Int32.toUInt32 7 &&& Int32.toUInt32 31)).toInt32) hx hb dn_Machine_store_11 rfl ?_
  refine lv_bipush (v := 127) hx hb dn_Machine_store_12 (by decide) ?_
  refine lv_iand hx hb dn_Machine_store_14 ?_
  refine lv_istore (lv' := [(6, .int ((((Int32.toUInt32 v2 >>> (Int32.toUInt32 7 &&& Int32.toUInt32 31)).toInt32) &&& 127))), (5, .int ((v1 + ((Int32.toUInt32 v2 >>> (Int32.toUInt32 14 &&& Int32.toUInt32 31)).toInt32)))), (0, .ref ((a 107))), (1, .int v1), (2, .int v2), (3, .long v3)]) hx hb dn_Machine_store_15 hl (by decide) rfl (fun ls hl => ?_)
  refine lv_iload hx hb dn_Machine_store_17 (lv_at hl 1 rfl) ?_
  refine lv_if_lt (tgt := 32) hx hb dn_Machine_store_19 (by decide) (fun h => ?_) (fun h => ?_)
  · have hf := (if_pos h).symm.trans hf
    rw [hQQ, ← Option.some.inj hf]
    exact xk_vret (w1 := fun u : Unit => (wC a v cI cB cJ cZ cQ s)) () hx hb hr hlocks hK hS dn_Machine_store_32 hP hD trivial (Nat.le_refl _) (Nat.le_refl _)
  · have hf := (if_neg h).symm.trans hf
    refine lv_iload hx hb dn_Machine_store_22 (lv_at hl 1 rfl) ?_
    refine lv_aload_n hx hb dn_Machine_store_24 rfl (lv_at hl 2 rfl) ?_
    refine va_get (D := (dC, dI)) (ci := 8) (v := .ref ((a 287))) (C := rn_Machine) (T := fn_Machine) (N := 5) hx hb hg in_Machine hown hK hP 7 rfl rfl 1 (by decide) (hg _ wn_2_90) (fun _ h9 => h9) rfl dn_Machine_store_25 ?_
    refine va_alen (v := 1024) hx hb hK hP 40 2 rfl rfl rfl dn_Machine_store_28 ?_
    refine lv_icmp_lt (tgt := 33) hx hb dn_Machine_store_29 (by decide) (fun h => ?_) (fun h => ?_)
    · have hf := (if_pos h).symm.trans hf
      refine lv_iload_n hx hb dn_Machine_store_33 rfl (lv_at hl 4 rfl) ?_
      refine lv_bipush (v := 127) hx hb dn_Machine_store_34 (by decide) ?_
      refine lv_iand hx hb dn_Machine_store_36 ?_
      obtain ⟨q_1, hc_2, hf⟩ := dc_b hf
      refine dc_calll (dc_runSN (ar := 1) (As := [.int ((v2 &&& 127))]) (rest := []) (host := "CircuitCycles") ⟨hx, hb, hml, hown, hg⟩ hK hN hT hS hA (ct_C_mask l dC dI cI cB cJ cZ cQ N H.size a v ((v2 &&& 127)) s q_1 hc_2) hP hD nl_Machine_142 wn_4_71 wn_1_1 wn_4_72 rfl rfl (by decide +kernel) ⟨Nat.le_of_ble_eq_true rfl, Nat.le_of_ble_eq_true rfl⟩ rfl hl.1 rfl (Nat.le_of_ble_eq_true rfl) dn_Machine_store_37 ⟨Nat.le_of_ble_eq_true rfl, Nat.le_of_ble_eq_true rfl⟩) hP hD hS hA (fun r_3 _ H locs hw hP hD hS => ?_)
      have hw : r_3 = q_1.1 := hw
      subst hw
      refine lv_iload hx hb dn_Machine_store_40 (lv_at hl 0 rfl) ?_
      refine lv_lshl (v := (q_1.1 : Int64) <<< ((Int32.toInt64 ((((Int32.toUInt32 v2 >>> (Int32.toUInt32 7 &&& Int32.toUInt32 31)).toInt32) &&& 127))) &&& 63)) hx hb dn_Machine_store_42 rfl ?_
      refine lv_lstore (lv' := [(7, .long (((q_1.1 : Int64) <<< ((Int32.toInt64 ((((Int32.toUInt32 v2 >>> (Int32.toUInt32 7 &&& Int32.toUInt32 31)).toInt32) &&& 127))) &&& 63)))), (6, .int ((((Int32.toUInt32 v2 >>> (Int32.toUInt32 7 &&& Int32.toUInt32 31)).toInt32) &&& 127))), (5, .int ((v1 + ((Int32.toUInt32 v2 >>> (Int32.toUInt32 14 &&& Int32.toUInt32 31)).toInt32)))), (0, .ref ((a 107))), (1, .int v1), (2, .int v2), (3, .long v3)]) hx hb dn_Machine_store_43 hl (by decide) rfl (fun ls hl => ?_)
      refine lv_aload_n hx hb dn_Machine_store_45 rfl (lv_at hl 3 rfl) ?_
      refine va_get (D := (dC, dI)) (ci := 8) (v := .ref ((a 287))) (C := rn_Machine) (T := fn_Machine) (N := 5) hx hb hg in_Machine hown hK hP 7 rfl rfl 1 (by decide) (hg _ wn_2_90) (fun _ h9 => h9) rfl dn_Machine_store_46 ?_
      refine lv_iload hx hb dn_Machine_store_49 (lv_at hl 2 rfl) ?_
      refine lv_aload_n hx hb dn_Machine_store_51 rfl (lv_at hl 3 rfl) ?_
      refine va_get (D := (dC, dI)) (ci := 8) (v := .ref ((a 287))) (C := rn_Machine) (T := fn_Machine) (N := 5) hx hb hg in_Machine hown hK hP 7 rfl rfl 1 (by decide) (hg _ wn_2_90) (fun _ h9 => h9) rfl dn_Machine_store_52 ?_
      refine lv_iload hx hb dn_Machine_store_55 (lv_at hl 2 rfl) ?_
      obtain ⟨hg_4, hf⟩ := dc_g hf
      refine va_lald hx hb hK hP 40 2 rfl rfl hg_4 dn_Machine_store_57 ?_
      refine xk_tl (y := ((q_1.2.2 287) (Int32.toNatClampNeg ((v1 + ((Int32.toUInt32 v2 >>> (Int32.toUInt32 14 &&& Int32.toUInt32 31)).toInt32)))))) rfl ?_
      refine lv_lload hx hb dn_Machine_store_58 (lv_at hl 0 rfl) ?_
      refine lv_ldc2 hx hb hown (hg _ wn_8_17) dn_Machine_store_60 ?_
      refine lv_lxor hx hb dn_Machine_store_63 ?_
      refine lv_land hx hb dn_Machine_store_64 ?_
      refine lv_lload_n hx hb dn_Machine_store_65 rfl (lv_at hl 6 rfl) ?_
      refine lv_iload hx hb dn_Machine_store_66 (lv_at hl 1 rfl) ?_
      refine lv_lshl (v := (v3 : Int64) <<< ((Int32.toInt64 ((((Int32.toUInt32 v2 >>> (Int32.toUInt32 7 &&& Int32.toUInt32 31)).toInt32) &&& 127))) &&& 63)) hx hb dn_Machine_store_68 rfl ?_
      refine lv_lor hx hb dn_Machine_store_69 ?_
      obtain ⟨hg_5, hf⟩ := dc_g hf
      refine va_last hx hb hK hP hD hS 40 2 rfl rfl hg_5 dn_Machine_store_70 (fun H locs hP hD hS => ?_)
      have hP : va_P (dC, dI) xcl ((wC a v cI cB cJ cZ cQ q_1.2).set 40 ((a 287), .inl (cJ, 1024, .inr (.inl (vp_updL (q_1.2.2 287) (Int32.toNatClampNeg ((v1 + ((Int32.toUInt32 v2 >>> (Int32.toUInt32 14 &&& Int32.toUInt32 31)).toInt32)))) (((((q_1.2.2 287) (Int32.toNatClampNeg ((v1 + ((Int32.toUInt32 v2 >>> (Int32.toUInt32 14 &&& Int32.toUInt32 31)).toInt32))))) &&& (((q_1.1 : Int64) <<< ((Int32.toInt64 ((((Int32.toUInt32 v2 >>> (Int32.toUInt32 7 &&& Int32.toUInt32 31)).toInt32) &&& 127))) &&& 63)) ^^^ (-1))) ||| ((v3 : Int64) <<< ((Int32.toInt64 ((((Int32.toUInt32 v2 >>> (Int32.toUInt32 7 &&& Int32.toUInt32 31)).toInt32) &&& 127))) &&& 63))))))))) H := hP
      have hD : va_D A ((wC a v cI cB cJ cZ cQ q_1.2).set 40 ((a 287), .inl (cJ, 1024, .inr (.inl (vp_updL (q_1.2.2 287) (Int32.toNatClampNeg ((v1 + ((Int32.toUInt32 v2 >>> (Int32.toUInt32 14 &&& Int32.toUInt32 31)).toInt32)))) (((((q_1.2.2 287) (Int32.toNatClampNeg ((v1 + ((Int32.toUInt32 v2 >>> (Int32.toUInt32 14 &&& Int32.toUInt32 31)).toInt32))))) &&& (((q_1.1 : Int64) <<< ((Int32.toInt64 ((((Int32.toUInt32 v2 >>> (Int32.toUInt32 7 &&& Int32.toUInt32 31)).toInt32) &&& 127))) &&& 63)) ^^^ (-1))) ||| ((v3 : Int64) <<< ((Int32.toInt64 ((((Int32.toUInt32 v2 >>> (Int32.toUInt32 7 &&& Int32.toUInt32 31)).toInt32) &&& 127))) &&& 63))))))))) := hD
      have hP := wC_P_287 hP
      have hD := wC_D_287 hD
      rw [hQQ, ← Option.some.inj hf]
      exact xk_vret (w1 := fun u : Unit => (wC a v cI cB cJ cZ cQ (upJ q_1.2 287 (vp_updL (q_1.2.2 287) (Int32.toNatClampNeg ((v1 + ((Int32.toUInt32 v2 >>> (Int32.toUInt32 14 &&& Int32.toUInt32 31)).toInt32)))) (((((q_1.2.2 287) (Int32.toNatClampNeg ((v1 + ((Int32.toUInt32 v2 >>> (Int32.toUInt32 14 &&& Int32.toUInt32 31)).toInt32))))) &&& (((q_1.1 : Int64) <<< ((Int32.toInt64 ((((Int32.toUInt32 v2 >>> (Int32.toUInt32 7 &&& Int32.toUInt32 31)).toInt32) &&& 127))) &&& 63)) ^^^ (-1))) ||| ((v3 : Int64) <<< ((Int32.toInt64 ((((Int32.toUInt32 v2 >>> (Int32.toUInt32 7 &&& Int32.toUInt32 31)).toInt32) &&& 127))) &&& 63)))))))) () hx hb hr hlocks hK hS dn_Machine_store_71 hP hD trivial (Nat.le_refl _) (Nat.le_refl _)
    · have hf := (if_neg h).symm.trans hf
      rw [hQQ, ← Option.some.inj hf]
      exact xk_vret (w1 := fun u : Unit => (wC a v cI cB cJ cZ cQ s)) () hx hb hr hlocks hK hS dn_Machine_store_32 hP hD trivial (Nat.le_refl _) (Nat.le_refl _)
set_option maxHeartbeats 8000000 in
set_option maxRecDepth 100000 in
theorem ct_Long_bitCount (l : Launch) (dC : Nat → ClassId) (dI : Nat → Nat → Nat) (cI cB cJ cZ cQ : ClassId) (N sz : Nat) (a : Nat → Nat) (v : Nat → Value) (v0 : Int64) (s : ms) (y : (Int32 × ms)) (hf : fn_Long_bitCount N v0 s = some y) : Met l yn_Long_bitCount (xw yn_Long_bitCount bn_Long_bitCount 2 (some .int)) ({ frames := 0, cells := 0, slots := 0, locals := 0 }) (dc_P (dC, dI) xcl (xt cI cB cJ cZ cQ) [.long v0] sz (wC a v cI cB cJ cZ cQ s)) (xk_Qi (dC, dI) xcl (xt cI cB cJ cZ cQ) (fun (r : Int32) (_ : Unit) => r = y.1) (fun u : Unit => (wC a v cI cB cJ cZ cQ y.2)) (va_A (wC a v cI cB cJ cZ cQ s) sz)) 0 0 (va_A (wC a v cI cB cJ cZ cQ s) sz) := by
  refine dc_of (QA := xk_Qi (dC, dI) xcl (xt cI cB cJ cZ cQ) (fun (r : Int32) (_ : Unit) => r = y.1) (fun u : Unit => (wC a v cI cB cJ cZ cQ y.2))) (by decide) (Nat.le_of_ble_eq_true rfl) ?_
  intro p e s0 m below meth c hx hb hml hown hg hr hlocks hin hP hK hN A hA hD hT ls hl
  have hown : s0.vm.findClass rn_Long = some m.cls := hown
  obtain ⟨H, hH⟩ : ∃ z, z = s0.heap := ⟨_, rfl⟩
  rw [← hH] at hP
  have hS : va_S A s0.heap H [] := by rw [hH]; exact va_S.rf
  suffices kk : ∀ QQ : State → Prop, QQ = MQ below (xk_Qi (dC, dI) xcl (xt cI cB cJ cZ cQ) (fun (r : Int32) (_ : Unit) => r = y.1) (fun u : Unit => (wC a v cI cB cJ cZ cQ y.2)) A) [.long v0].toArray s0 0 0 A → dcC p l e ({ frames := 0, cells := 0, slots := 0, locals := 0 }) s0 m [.long v0].toArray below meth c QQ (dC, dI) A (wC a v cI cB cJ cZ cQ s) 0 2 [(0, .long v0)] [] by
    have k9 := kk _ rfl H [] ls hP hD hS hl
    rw [hH] at k9; exact k9
  clear hP hD hS hl hH H ls
  intro QQ hQQ
  intro H locs ls hP hD hS hl
  unfold fn_Long_bitCount at hf
  refine lv_lload_n hx hb dn_Long_bitCount_0 rfl (lv_at hl 0 rfl) ?_
  refine lv_lload_n hx hb dn_Long_bitCount_1 rfl (lv_at hl 0 rfl) ?_
  refine lv_iconst (v := 1) hx hb dn_Long_bitCount_2 (by decide) ?_
  refine lv_lushr (v := (Int64.toUInt64 v0 >>> (Int64.toUInt64 (Int32.toInt64 1) &&& Int64.toUInt64 63)).toInt64) hx hb dn_Long_bitCount_3 rfl ?_
  refine lv_ldc2 hx hb hown (hg _ wn_8_21) dn_Long_bitCount_4 ?_
  refine lv_land hx hb dn_Long_bitCount_7 ?_
  refine lv_lsub hx hb dn_Long_bitCount_8 ?_
  refine lv_lstore_n (lv' := [(0, .long ((v0 - (((Int64.toUInt64 v0 >>> (Int64.toUInt64 (Int32.toInt64 1) &&& Int64.toUInt64 63)).toInt64) &&& 6148914691236517205))))]) hx hb dn_Long_bitCount_9 rfl hl (by decide) rfl (fun ls hl => ?_)
  refine lv_lload_n hx hb dn_Long_bitCount_10 rfl (lv_at hl 0 rfl) ?_
  refine lv_ldc2 hx hb hown (hg _ wn_8_22) dn_Long_bitCount_11 ?_
  refine lv_land hx hb dn_Long_bitCount_14 ?_
  refine lv_lload_n hx hb dn_Long_bitCount_15 rfl (lv_at hl 0 rfl) ?_
  refine lv_iconst (v := 2) hx hb dn_Long_bitCount_16 (by decide) ?_
  refine lv_lushr (v := (Int64.toUInt64 ((v0 - (((Int64.toUInt64 v0 >>> (Int64.toUInt64 (Int32.toInt64 1) &&& Int64.toUInt64 63)).toInt64) &&& 6148914691236517205))) >>> (Int64.toUInt64 (Int32.toInt64 2) &&& Int64.toUInt64 63)).toInt64) hx hb dn_Long_bitCount_17 rfl ?_
  refine lv_ldc2 hx hb hown (hg _ wn_8_22) dn_Long_bitCount_18 ?_
  refine lv_land hx hb dn_Long_bitCount_21 ?_
  refine lv_ladd hx hb dn_Long_bitCount_22 ?_
  refine lv_lstore_n (lv' := [(0, .long ((((v0 - (((Int64.toUInt64 v0 >>> (Int64.toUInt64 (Int32.toInt64 1) &&& Int64.toUInt64 63)).toInt64) &&& 6148914691236517205)) &&& 3689348814741910323) + (((Int64.toUInt64 ((v0 - (((Int64.toUInt64 v0 >>> (Int64.toUInt64 (Int32.toInt64 1) &&& Int64.toUInt64 63)).toInt64) &&& 6148914691236517205))) >>> (Int64.toUInt64 (Int32.toInt64 2) &&& Int64.toUInt64 63)).toInt64) &&& 3689348814741910323))))]) hx hb dn_Long_bitCount_23 rfl hl (by decide) rfl (fun ls hl => ?_)
  refine lv_lload_n hx hb dn_Long_bitCount_24 rfl (lv_at hl 0 rfl) ?_
  refine lv_lload_n hx hb dn_Long_bitCount_25 rfl (lv_at hl 0 rfl) ?_
  refine lv_iconst (v := 4) hx hb dn_Long_bitCount_26 (by decide) ?_
  refine lv_lushr (v := (Int64.toUInt64 ((((v0 - (((Int64.toUInt64 v0 >>> (Int64.toUInt64 (Int32.toInt64 1) &&& Int64.toUInt64 63)).toInt64) &&& 6148914691236517205)) &&& 3689348814741910323) + (((Int64.toUInt64 ((v0 - (((Int64.toUInt64 v0 >>> (Int64.toUInt64 (Int32.toInt64 1) &&& Int64.toUInt64 63)).toInt64) &&& 6148914691236517205))) >>> (Int64.toUInt64 (Int32.toInt64 2) &&& Int64.toUInt64 63)).toInt64) &&& 3689348814741910323))) >>> (Int64.toUInt64 (Int32.toInt64 4) &&& Int64.toUInt64 63)).toInt64) hx hb dn_Long_bitCount_27 rfl ?_
  refine lv_ladd hx hb dn_Long_bitCount_28 ?_
  refine lv_ldc2 hx hb hown (hg _ wn_8_23) dn_Long_bitCount_29 ?_
  refine lv_land hx hb dn_Long_bitCount_32 ?_
  refine lv_lstore_n (lv' := [(0, .long ((((((v0 - (((Int64.toUInt64 v0 >>> (Int64.toUInt64 (Int32.toInt64 1) &&& Int64.toUInt64 63)).toInt64) &&& 6148914691236517205)) &&& 3689348814741910323) + (((Int64.toUInt64 ((v0 - (((Int64.toUInt64 v0 >>> (Int64.toUInt64 (Int32.toInt64 1) &&& Int64.toUInt64 63)).toInt64) &&& 6148914691236517205))) >>> (Int64.toUInt64 (Int32.toInt64 2) &&& Int64.toUInt64 63)).toInt64) &&& 3689348814741910323)) + ((Int64.toUInt64 ((((v0 - (((Int64.toUInt64 v0 >>> (Int64.toUInt64 (Int32.toInt64 1) &&& Int64.toUInt64 63)).toInt64) &&& 6148914691236517205)) &&& 3689348814741910323) + (((Int64.toUInt64 ((v0 - (((Int64.toUInt64 v0 >>> (Int64.toUInt64 (Int32.toInt64 1) &&& Int64.toUInt64 63)).toInt64) &&& 6148914691236517205))) >>> (Int64.toUInt64 (Int32.toInt64 2) &&& Int64.toUInt64 63)).toInt64) &&& 3689348814741910323))) >>> (Int64.toUInt64 (Int32.toInt64 4) &&& Int64.toUInt64 63)).toInt64)) &&& 1085102592571150095)))]) hx hb dn_Long_bitCount_33 rfl hl (by decide) rfl (fun ls hl => ?_)
  refine lv_lload_n hx hb dn_Long_bitCount_34 rfl (lv_at hl 0 rfl) ?_
  refine lv_lload_n hx hb dn_Long_bitCount_35 rfl (lv_at hl 0 rfl) ?_
  refine lv_bipush (v := 8) hx hb dn_Long_bitCount_36 (by decide) ?_
  refine lv_lushr (v := (Int64.toUInt64 ((((((v0 - (((Int64.toUInt64 v0 >>> (Int64.toUInt64 (Int32.toInt64 1) &&& Int64.toUInt64 63)).toInt64) &&& 6148914691236517205)) &&& 3689348814741910323) + (((Int64.toUInt64 ((v0 - (((Int64.toUInt64 v0 >>> (Int64.toUInt64 (Int32.toInt64 1) &&& Int64.toUInt64 63)).toInt64) &&& 6148914691236517205))) >>> (Int64.toUInt64 (Int32.toInt64 2) &&& Int64.toUInt64 63)).toInt64) &&& 3689348814741910323)) + ((Int64.toUInt64 ((((v0 - (((Int64.toUInt64 v0 >>> (Int64.toUInt64 (Int32.toInt64 1) &&& Int64.toUInt64 63)).toInt64) &&& 6148914691236517205)) &&& 3689348814741910323) + (((Int64.toUInt64 ((v0 - (((Int64.toUInt64 v0 >>> (Int64.toUInt64 (Int32.toInt64 1) &&& Int64.toUInt64 63)).toInt64) &&& 6148914691236517205))) >>> (Int64.toUInt64 (Int32.toInt64 2) &&& Int64.toUInt64 63)).toInt64) &&& 3689348814741910323))) >>> (Int64.toUInt64 (Int32.toInt64 4) &&& Int64.toUInt64 63)).toInt64)) &&& 1085102592571150095)) >>> (Int64.toUInt64 (Int32.toInt64 8) &&& Int64.toUInt64 63)).toInt64) hx hb dn_Long_bitCount_38 rfl ?_
  refine lv_ladd hx hb dn_Long_bitCount_39 ?_
  refine lv_lstore_n (lv' := [(0, .long (((((((v0 - (((Int64.toUInt64 v0 >>> (Int64.toUInt64 (Int32.toInt64 1) &&& Int64.toUInt64 63)).toInt64) &&& 6148914691236517205)) &&& 3689348814741910323) + (((Int64.toUInt64 ((v0 - (((Int64.toUInt64 v0 >>> (Int64.toUInt64 (Int32.toInt64 1) &&& Int64.toUInt64 63)).toInt64) &&& 6148914691236517205))) >>> (Int64.toUInt64 (Int32.toInt64 2) &&& Int64.toUInt64 63)).toInt64) &&& 3689348814741910323)) + ((Int64.toUInt64 ((((v0 - (((Int64.toUInt64 v0 >>> (Int64.toUInt64 (Int32.toInt64 1) &&& Int64.toUInt64 63)).toInt64) &&& 6148914691236517205)) &&& 3689348814741910323) + (((Int64.toUInt64 ((v0 - (((Int64.toUInt64 v0 >>> (Int64.toUInt64 (Int32.toInt64 1) &&& Int64.toUInt64 63)).toInt64) &&& 6148914691236517205))) >>> (Int64.toUInt64 (Int32.toInt64 2) &&& Int64.toUInt64 63)).toInt64) &&& 3689348814741910323))) >>> (Int64.toUInt64 (Int32.toInt64 4) &&& Int64.toUInt64 63)).toInt64)) &&& 1085102592571150095) + ((Int64.toUInt64 ((((((v0 - (((Int64.toUInt64 v0 >>> (Int64.toUInt64 (Int32.toInt64 1) &&& Int64.toUInt64 63)).toInt64) &&& 6148914691236517205)) &&& 3689348814741910323) + (((Int64.toUInt64 ((v0 - (((Int64.toUInt64 v0 >>> (Int64.toUInt64 (Int32.toInt64 1) &&& Int64.toUInt64 63)).toInt64) &&& 6148914691236517205))) >>> (Int64.toUInt64 (Int32.toInt64 2) &&& Int64.toUInt64 63)).toInt64) &&& 3689348814741910323)) + ((Int64.toUInt64 ((((v0 - (((Int64.toUInt64 v0 >>> (Int64.toUInt64 (Int32.toInt64 1) &&& Int64.toUInt64 63)).toInt64) &&& 6148914691236517205)) &&& 3689348814741910323) + (((Int64.toUInt64 ((v0 - (((Int64.toUInt64 v0 >>> (Int64.toUInt64 (Int32.toInt64 1) &&& Int64.toUInt64 63)).toInt64) &&& 6148914691236517205))) >>> (Int64.toUInt64 (Int32.toInt64 2) &&& Int64.toUInt64 63)).toInt64) &&& 3689348814741910323))) >>> (Int64.toUInt64 (Int32.toInt64 4) &&& Int64.toUInt64 63)).toInt64)) &&& 1085102592571150095)) >>> (Int64.toUInt64 (Int32.toInt64 8) &&& Int64.toUInt64 63)).toInt64))))]) hx hb dn_Long_bitCount_40 rfl hl (by decide) rfl (fun ls hl => ?_)
  refine lv_lload_n hx hb dn_Long_bitCount_41 rfl (lv_at hl 0 rfl) ?_
  refine lv_lload_n hx hb dn_Long_bitCount_42 rfl (lv_at hl 0 rfl) ?_
  refine lv_bipush (v := 16) hx hb dn_Long_bitCount_43 (by decide) ?_
  refine lv_lushr (v := (Int64.toUInt64 (((((((v0 - (((Int64.toUInt64 v0 >>> (Int64.toUInt64 (Int32.toInt64 1) &&& Int64.toUInt64 63)).toInt64) &&& 6148914691236517205)) &&& 3689348814741910323) + (((Int64.toUInt64 ((v0 - (((Int64.toUInt64 v0 >>> (Int64.toUInt64 (Int32.toInt64 1) &&& Int64.toUInt64 63)).toInt64) &&& 6148914691236517205))) >>> (Int64.toUInt64 (Int32.toInt64 2) &&& Int64.toUInt64 63)).toInt64) &&& 3689348814741910323)) + ((Int64.toUInt64 ((((v0 - (((Int64.toUInt64 v0 >>> (Int64.toUInt64 (Int32.toInt64 1) &&& Int64.toUInt64 63)).toInt64) &&& 6148914691236517205)) &&& 3689348814741910323) + (((Int64.toUInt64 ((v0 - (((Int64.toUInt64 v0 >>> (Int64.toUInt64 (Int32.toInt64 1) &&& Int64.toUInt64 63)).toInt64) &&& 6148914691236517205))) >>> (Int64.toUInt64 (Int32.toInt64 2) &&& Int64.toUInt64 63)).toInt64) &&& 3689348814741910323))) >>> (Int64.toUInt64 (Int32.toInt64 4) &&& Int64.toUInt64 63)).toInt64)) &&& 1085102592571150095) + ((Int64.toUInt64 ((((((v0 - (((Int64.toUInt64 v0 >>> (Int64.toUInt64 (Int32.toInt64 1) &&& Int64.toUInt64 63)).toInt64) &&& 6148914691236517205)) &&& 3689348814741910323) + (((Int64.toUInt64 ((v0 - (((Int64.toUInt64 v0 >>> (Int64.toUInt64 (Int32.toInt64 1) &&& Int64.toUInt64 63)).toInt64) &&& 6148914691236517205))) >>> (Int64.toUInt64 (Int32.toInt64 2) &&& Int64.toUInt64 63)).toInt64) &&& 3689348814741910323)) + ((Int64.toUInt64 ((((v0 - (((Int64.toUInt64 v0 >>> (Int64.toUInt64 (Int32.toInt64 1) &&& Int64.toUInt64 63)).toInt64) &&& 6148914691236517205)) &&& 3689348814741910323) + (((Int64.toUInt64 ((v0 - (((Int64.toUInt64 v0 >>> (Int64.toUInt64 (Int32.toInt64 1) &&& Int64.toUInt64 63)).toInt64) &&& 6148914691236517205))) >>> (Int64.toUInt64 (Int32.toInt64 2) &&& Int64.toUInt64 63)).toInt64) &&& 3689348814741910323))) >>> (Int64.toUInt64 (Int32.toInt64 4) &&& Int64.toUInt64 63)).toInt64)) &&& 1085102592571150095)) >>> (Int64.toUInt64 (Int32.toInt64 8) &&& Int64.toUInt64 63)).toInt64))) >>> (Int64.toUInt64 (Int32.toInt64 16) &&& Int64.toUInt64 63)).toInt64) hx hb dn_Long_bitCount_45 rfl ?_
  refine lv_ladd hx hb dn_Long_bitCount_46 ?_
  refine lv_lstore_n (lv' := [(0, .long ((((((((v0 - (((Int64.toUInt64 v0 >>> (Int64.toUInt64 (Int32.toInt64 1) &&& Int64.toUInt64 63)).toInt64) &&& 6148914691236517205)) &&& 3689348814741910323) + (((Int64.toUInt64 ((v0 - (((Int64.toUInt64 v0 >>> (Int64.toUInt64 (Int32.toInt64 1) &&& Int64.toUInt64 63)).toInt64) &&& 6148914691236517205))) >>> (Int64.toUInt64 (Int32.toInt64 2) &&& Int64.toUInt64 63)).toInt64) &&& 3689348814741910323)) + ((Int64.toUInt64 ((((v0 - (((Int64.toUInt64 v0 >>> (Int64.toUInt64 (Int32.toInt64 1) &&& Int64.toUInt64 63)).toInt64) &&& 6148914691236517205)) &&& 3689348814741910323) + (((Int64.toUInt64 ((v0 - (((Int64.toUInt64 v0 >>> (Int64.toUInt64 (Int32.toInt64 1) &&& Int64.toUInt64 63)).toInt64) &&& 6148914691236517205))) >>> (Int64.toUInt64 (Int32.toInt64 2) &&& Int64.toUInt64 63)).toInt64) &&& 3689348814741910323))) >>> (Int64.toUInt64 (Int32.toInt64 4) &&& Int64.toUInt64 63)).toInt64)) &&& 1085102592571150095) + ((Int64.toUInt64 ((((((v0 - (((Int64.toUInt64 v0 >>> (Int64.toUInt64 (Int32.toInt64 1) &&& Int64.toUInt64 63)).toInt64) &&& 6148914691236517205)) &&& 3689348814741910323) + (((Int64.toUInt64 ((v0 - (((Int64.toUInt64 v0 >>> (Int64.toUInt64 (Int32.toInt64 1) &&& Int64.toUInt64 63)).toInt64) &&& 6148914691236517205))) >>> (Int64.toUInt64 (Int32.toInt64 2) &&& Int64.toUInt64 63)).toInt64) &&& 3689348814741910323)) + ((Int64.toUInt64 ((((v0 - (((Int64.toUInt64 v0 >>> (Int64.toUInt64 (Int32.toInt64 1) &&& Int64.toUInt64 63)).toInt64) &&& 6148914691236517205)) &&& 3689348814741910323) + (((Int64.toUInt64 ((v0 - (((Int64.toUInt64 v0 >>> (Int64.toUInt64 (Int32.toInt64 1) &&& Int64.toUInt64 63)).toInt64) &&& 6148914691236517205))) >>> (Int64.toUInt64 (Int32.toInt64 2) &&& Int64.toUInt64 63)).toInt64) &&& 3689348814741910323))) >>> (Int64.toUInt64 (Int32.toInt64 4) &&& Int64.toUInt64 63)).toInt64)) &&& 1085102592571150095)) >>> (Int64.toUInt64 (Int32.toInt64 8) &&& Int64.toUInt64 63)).toInt64)) + ((Int64.toUInt64 (((((((v0 - (((Int64.toUInt64 v0 >>> (Int64.toUInt64 (Int32.toInt64 1) &&& Int64.toUInt64 63)).toInt64) &&& 6148914691236517205)) &&& 3689348814741910323) + (((Int64.toUInt64 ((v0 - (((Int64.toUInt64 v0 >>> (Int64.toUInt64 (Int32.toInt64 1) &&& Int64.toUInt64 63)).toInt64) &&& 6148914691236517205))) >>> (Int64.toUInt64 (Int32.toInt64 2) &&& Int64.toUInt64 63)).toInt64) &&& 3689348814741910323)) + ((Int64.toUInt64 ((((v0 - (((Int64.toUInt64 v0 >>> (Int64.toUInt64 (Int32.toInt64 1) &&& Int64.toUInt64 63)).toInt64) &&& 6148914691236517205)) &&& 3689348814741910323) + (((Int64.toUInt64 ((v0 - (((Int64.toUInt64 v0 >>> (Int64.toUInt64 (Int32.toInt64 1) &&& Int64.toUInt64 63)).toInt64) &&& 6148914691236517205))) >>> (Int64.toUInt64 (Int32.toInt64 2) &&& Int64.toUInt64 63)).toInt64) &&& 3689348814741910323))) >>> (Int64.toUInt64 (Int32.toInt64 4) &&& Int64.toUInt64 63)).toInt64)) &&& 1085102592571150095) + ((Int64.toUInt64 ((((((v0 - (((Int64.toUInt64 v0 >>> (Int64.toUInt64 (Int32.toInt64 1) &&& Int64.toUInt64 63)).toInt64) &&& 6148914691236517205)) &&& 3689348814741910323) + (((Int64.toUInt64 ((v0 - (((Int64.toUInt64 v0 >>> (Int64.toUInt64 (Int32.toInt64 1) &&& Int64.toUInt64 63)).toInt64) &&& 6148914691236517205))) >>> (Int64.toUInt64 (Int32.toInt64 2) &&& Int64.toUInt64 63)).toInt64) &&& 3689348814741910323)) + ((Int64.toUInt64 ((((v0 - (((Int64.toUInt64 v0 >>> (Int64.toUInt64 (Int32.toInt64 1) &&& Int64.toUInt64 63)).toInt64) &&& 6148914691236517205)) &&& 3689348814741910323) + (((Int64.toUInt64 ((v0 - (((Int64.toUInt64 v0 >>> (Int64.toUInt64 (Int32.toInt64 1) &&& Int64.toUInt64 63)).toInt64) &&& 6148914691236517205))) >>> (Int64.toUInt64 (Int32.toInt64 2) &&& Int64.toUInt64 63)).toInt64) &&& 3689348814741910323))) >>> (Int64.toUInt64 (Int32.toInt64 4) &&& Int64.toUInt64 63)).toInt64)) &&& 1085102592571150095)) >>> (Int64.toUInt64 (Int32.toInt64 8) &&& Int64.toUInt64 63)).toInt64))) >>> (Int64.toUInt64 (Int32.toInt64 16) &&& Int64.toUInt64 63)).toInt64))))]) hx hb dn_Long_bitCount_47 rfl hl (by decide) rfl (fun ls hl => ?_)
  refine lv_lload_n hx hb dn_Long_bitCount_48 rfl (lv_at hl 0 rfl) ?_
  refine lv_lload_n hx hb dn_Long_bitCount_49 rfl (lv_at hl 0 rfl) ?_
  refine lv_bipush (v := 32) hx hb dn_Long_bitCount_50 (by decide) ?_
  refine lv_lushr (v := (Int64.toUInt64 ((((((((v0 - (((Int64.toUInt64 v0 >>> (Int64.toUInt64 (Int32.toInt64 1) &&& Int64.toUInt64 63)).toInt64) &&& 6148914691236517205)) &&& 3689348814741910323) + (((Int64.toUInt64 ((v0 - (((Int64.toUInt64 v0 >>> (Int64.toUInt64 (Int32.toInt64 1) &&& Int64.toUInt64 63)).toInt64) &&& 6148914691236517205))) >>> (Int64.toUInt64 (Int32.toInt64 2) &&& Int64.toUInt64 63)).toInt64) &&& 3689348814741910323)) + ((Int64.toUInt64 ((((v0 - (((Int64.toUInt64 v0 >>> (Int64.toUInt64 (Int32.toInt64 1) &&& Int64.toUInt64 63)).toInt64) &&& 6148914691236517205)) &&& 3689348814741910323) + (((Int64.toUInt64 ((v0 - (((Int64.toUInt64 v0 >>> (Int64.toUInt64 (Int32.toInt64 1) &&& Int64.toUInt64 63)).toInt64) &&& 6148914691236517205))) >>> (Int64.toUInt64 (Int32.toInt64 2) &&& Int64.toUInt64 63)).toInt64) &&& 3689348814741910323))) >>> (Int64.toUInt64 (Int32.toInt64 4) &&& Int64.toUInt64 63)).toInt64)) &&& 1085102592571150095) + ((Int64.toUInt64 ((((((v0 - (((Int64.toUInt64 v0 >>> (Int64.toUInt64 (Int32.toInt64 1) &&& Int64.toUInt64 63)).toInt64) &&& 6148914691236517205)) &&& 3689348814741910323) + (((Int64.toUInt64 ((v0 - (((Int64.toUInt64 v0 >>> (Int64.toUInt64 (Int32.toInt64 1) &&& Int64.toUInt64 63)).toInt64) &&& 6148914691236517205))) >>> (Int64.toUInt64 (Int32.toInt64 2) &&& Int64.toUInt64 63)).toInt64) &&& 3689348814741910323)) + ((Int64.toUInt64 ((((v0 - (((Int64.toUInt64 v0 >>> (Int64.toUInt64 (Int32.toInt64 1) &&& Int64.toUInt64 63)).toInt64) &&& 6148914691236517205)) &&& 3689348814741910323) + (((Int64.toUInt64 ((v0 - (((Int64.toUInt64 v0 >>> (Int64.toUInt64 (Int32.toInt64 1) &&& Int64.toUInt64 63)).toInt64) &&& 6148914691236517205))) >>> (Int64.toUInt64 (Int32.toInt64 2) &&& Int64.toUInt64 63)).toInt64) &&& 3689348814741910323))) >>> (Int64.toUInt64 (Int32.toInt64 4) &&& Int64.toUInt64 63)).toInt64)) &&& 1085102592571150095)) >>> (Int64.toUInt64 (Int32.toInt64 8) &&& Int64.toUInt64 63)).toInt64)) + ((Int64.toUInt64 (((((((v0 - (((Int64.toUInt64 v0 >>> (Int64.toUInt64 (Int32.toInt64 1) &&& Int64.toUInt64 63)).toInt64) &&& 6148914691236517205)) &&& 3689348814741910323) + (((Int64.toUInt64 ((v0 - (((Int64.toUInt64 v0 >>> (Int64.toUInt64 (Int32.toInt64 1) &&& Int64.toUInt64 63)).toInt64) &&& 6148914691236517205))) >>> (Int64.toUInt64 (Int32.toInt64 2) &&& Int64.toUInt64 63)).toInt64) &&& 3689348814741910323)) + ((Int64.toUInt64 ((((v0 - (((Int64.toUInt64 v0 >>> (Int64.toUInt64 (Int32.toInt64 1) &&& Int64.toUInt64 63)).toInt64) &&& 6148914691236517205)) &&& 3689348814741910323) + (((Int64.toUInt64 ((v0 - (((Int64.toUInt64 v0 >>> (Int64.toUInt64 (Int32.toInt64 1) &&& Int64.toUInt64 63)).toInt64) &&& 6148914691236517205))) >>> (Int64.toUInt64 (Int32.toInt64 2) &&& Int64.toUInt64 63)).toInt64) &&& 3689348814741910323))) >>> (Int64.toUInt64 (Int32.toInt64 4) &&& Int64.toUInt64 63)).toInt64)) &&& 1085102592571150095) + ((Int64.toUInt64 ((((((v0 - (((Int64.toUInt64 v0 >>> (Int64.toUInt64 (Int32.toInt64 1) &&& Int64.toUInt64 63)).toInt64) &&& 6148914691236517205)) &&& 3689348814741910323) + (((Int64.toUInt64 ((v0 - (((Int64.toUInt64 v0 >>> (Int64.toUInt64 (Int32.toInt64 1) &&& Int64.toUInt64 63)).toInt64) &&& 6148914691236517205))) >>> (Int64.toUInt64 (Int32.toInt64 2) &&& Int64.toUInt64 63)).toInt64) &&& 3689348814741910323)) + ((Int64.toUInt64 ((((v0 - (((Int64.toUInt64 v0 >>> (Int64.toUInt64 (Int32.toInt64 1) &&& Int64.toUInt64 63)).toInt64) &&& 6148914691236517205)) &&& 3689348814741910323) + (((Int64.toUInt64 ((v0 - (((Int64.toUInt64 v0 >>> (Int64.toUInt64 (Int32.toInt64 1) &&& Int64.toUInt64 63)).toInt64) &&& 6148914691236517205))) >>> (Int64.toUInt64 (Int32.toInt64 2) &&& Int64.toUInt64 63)).toInt64) &&& 3689348814741910323))) >>> (Int64.toUInt64 (Int32.toInt64 4) &&& Int64.toUInt64 63)).toInt64)) &&& 1085102592571150095)) >>> (Int64.toUInt64 (Int32.toInt64 8) &&& Int64.toUInt64 63)).toInt64))) >>> (Int64.toUInt64 (Int32.toInt64 16) &&& Int64.toUInt64 63)).toInt64))) >>> (Int64.toUInt64 (Int32.toInt64 32) &&& Int64.toUInt64 63)).toInt64) hx hb dn_Long_bitCount_52 rfl ?_
  refine lv_ladd hx hb dn_Long_bitCount_53 ?_
  refine lv_lstore_n (lv' := [(0, .long (((((((((v0 - (((Int64.toUInt64 v0 >>> (Int64.toUInt64 (Int32.toInt64 1) &&& Int64.toUInt64 63)).toInt64) &&& 6148914691236517205)) &&& 3689348814741910323) + (((Int64.toUInt64 ((v0 - (((Int64.toUInt64 v0 >>> (Int64.toUInt64 (Int32.toInt64 1) &&& Int64.toUInt64 63)).toInt64) &&& 6148914691236517205))) >>> (Int64.toUInt64 (Int32.toInt64 2) &&& Int64.toUInt64 63)).toInt64) &&& 3689348814741910323)) + ((Int64.toUInt64 ((((v0 - (((Int64.toUInt64 v0 >>> (Int64.toUInt64 (Int32.toInt64 1) &&& Int64.toUInt64 63)).toInt64) &&& 6148914691236517205)) &&& 3689348814741910323) + (((Int64.toUInt64 ((v0 - (((Int64.toUInt64 v0 >>> (Int64.toUInt64 (Int32.toInt64 1) &&& Int64.toUInt64 63)).toInt64) &&& 6148914691236517205))) >>> (Int64.toUInt64 (Int32.toInt64 2) &&& Int64.toUInt64 63)).toInt64) &&& 3689348814741910323))) >>> (Int64.toUInt64 (Int32.toInt64 4) &&& Int64.toUInt64 63)).toInt64)) &&& 1085102592571150095) + ((Int64.toUInt64 ((((((v0 - (((Int64.toUInt64 v0 >>> (Int64.toUInt64 (Int32.toInt64 1) &&& Int64.toUInt64 63)).toInt64) &&& 6148914691236517205)) &&& 3689348814741910323) + (((Int64.toUInt64 ((v0 - (((Int64.toUInt64 v0 >>> (Int64.toUInt64 (Int32.toInt64 1) &&& Int64.toUInt64 63)).toInt64) &&& 6148914691236517205))) >>> (Int64.toUInt64 (Int32.toInt64 2) &&& Int64.toUInt64 63)).toInt64) &&& 3689348814741910323)) + ((Int64.toUInt64 ((((v0 - (((Int64.toUInt64 v0 >>> (Int64.toUInt64 (Int32.toInt64 1) &&& Int64.toUInt64 63)).toInt64) &&& 6148914691236517205)) &&& 3689348814741910323) + (((Int64.toUInt64 ((v0 - (((Int64.toUInt64 v0 >>> (Int64.toUInt64 (Int32.toInt64 1) &&& Int64.toUInt64 63)).toInt64) &&& 6148914691236517205))) >>> (Int64.toUInt64 (Int32.toInt64 2) &&& Int64.toUInt64 63)).toInt64) &&& 3689348814741910323))) >>> (Int64.toUInt64 (Int32.toInt64 4) &&& Int64.toUInt64 63)).toInt64)) &&& 1085102592571150095)) >>> (Int64.toUInt64 (Int32.toInt64 8) &&& Int64.toUInt64 63)).toInt64)) + ((Int64.toUInt64 (((((((v0 - (((Int64.toUInt64 v0 >>> (Int64.toUInt64 (Int32.toInt64 1) &&& Int64.toUInt64 63)).toInt64) &&& 6148914691236517205)) &&& 3689348814741910323) + (((Int64.toUInt64 ((v0 - (((Int64.toUInt64 v0 >>> (Int64.toUInt64 (Int32.toInt64 1) &&& Int64.toUInt64 63)).toInt64) &&& 6148914691236517205))) >>> (Int64.toUInt64 (Int32.toInt64 2) &&& Int64.toUInt64 63)).toInt64) &&& 3689348814741910323)) + ((Int64.toUInt64 ((((v0 - (((Int64.toUInt64 v0 >>> (Int64.toUInt64 (Int32.toInt64 1) &&& Int64.toUInt64 63)).toInt64) &&& 6148914691236517205)) &&& 3689348814741910323) + (((Int64.toUInt64 ((v0 - (((Int64.toUInt64 v0 >>> (Int64.toUInt64 (Int32.toInt64 1) &&& Int64.toUInt64 63)).toInt64) &&& 6148914691236517205))) >>> (Int64.toUInt64 (Int32.toInt64 2) &&& Int64.toUInt64 63)).toInt64) &&& 3689348814741910323))) >>> (Int64.toUInt64 (Int32.toInt64 4) &&& Int64.toUInt64 63)).toInt64)) &&& 1085102592571150095) + ((Int64.toUInt64 ((((((v0 - (((Int64.toUInt64 v0 >>> (Int64.toUInt64 (Int32.toInt64 1) &&& Int64.toUInt64 63)).toInt64) &&& 6148914691236517205)) &&& 3689348814741910323) + (((Int64.toUInt64 ((v0 - (((Int64.toUInt64 v0 >>> (Int64.toUInt64 (Int32.toInt64 1) &&& Int64.toUInt64 63)).toInt64) &&& 6148914691236517205))) >>> (Int64.toUInt64 (Int32.toInt64 2) &&& Int64.toUInt64 63)).toInt64) &&& 3689348814741910323)) + ((Int64.toUInt64 ((((v0 - (((Int64.toUInt64 v0 >>> (Int64.toUInt64 (Int32.toInt64 1) &&& Int64.toUInt64 63)).toInt64) &&& 6148914691236517205)) &&& 3689348814741910323) + (((Int64.toUInt64 ((v0 - (((Int64.toUInt64 v0 >>> (Int64.toUInt64 (Int32.toInt64 1) &&& Int64.toUInt64 63)).toInt64) &&& 6148914691236517205))) >>> (Int64.toUInt64 (Int32.toInt64 2) &&& Int64.toUInt64 63)).toInt64) &&& 3689348814741910323))) >>> (Int64.toUInt64 (Int32.toInt64 4) &&& Int64.toUInt64 63)).toInt64)) &&& 1085102592571150095)) >>> (Int64.toUInt64 (Int32.toInt64 8) &&& Int64.toUInt64 63)).toInt64))) >>> (Int64.toUInt64 (Int32.toInt64 16) &&& Int64.toUInt64 63)).toInt64)) + ((Int64.toUInt64 ((((((((v0 - (((Int64.toUInt64 v0 >>> (Int64.toUInt64 (Int32.toInt64 1) &&& Int64.toUInt64 63)).toInt64) &&& 6148914691236517205)) &&& 3689348814741910323) + (((Int64.toUInt64 ((v0 - (((Int64.toUInt64 v0 >>> (Int64.toUInt64 (Int32.toInt64 1) &&& Int64.toUInt64 63)).toInt64) &&& 6148914691236517205))) >>> (Int64.toUInt64 (Int32.toInt64 2) &&& Int64.toUInt64 63)).toInt64) &&& 3689348814741910323)) + ((Int64.toUInt64 ((((v0 - (((Int64.toUInt64 v0 >>> (Int64.toUInt64 (Int32.toInt64 1) &&& Int64.toUInt64 63)).toInt64) &&& 6148914691236517205)) &&& 3689348814741910323) + (((Int64.toUInt64 ((v0 - (((Int64.toUInt64 v0 >>> (Int64.toUInt64 (Int32.toInt64 1) &&& Int64.toUInt64 63)).toInt64) &&& 6148914691236517205))) >>> (Int64.toUInt64 (Int32.toInt64 2) &&& Int64.toUInt64 63)).toInt64) &&& 3689348814741910323))) >>> (Int64.toUInt64 (Int32.toInt64 4) &&& Int64.toUInt64 63)).toInt64)) &&& 1085102592571150095) + ((Int64.toUInt64 ((((((v0 - (((Int64.toUInt64 v0 >>> (Int64.toUInt64 (Int32.toInt64 1) &&& Int64.toUInt64 63)).toInt64) &&& 6148914691236517205)) &&& 3689348814741910323) + (((Int64.toUInt64 ((v0 - (((Int64.toUInt64 v0 >>> (Int64.toUInt64 (Int32.toInt64 1) &&& Int64.toUInt64 63)).toInt64) &&& 6148914691236517205))) >>> (Int64.toUInt64 (Int32.toInt64 2) &&& Int64.toUInt64 63)).toInt64) &&& 3689348814741910323)) + ((Int64.toUInt64 ((((v0 - (((Int64.toUInt64 v0 >>> (Int64.toUInt64 (Int32.toInt64 1) &&& Int64.toUInt64 63)).toInt64) &&& 6148914691236517205)) &&& 3689348814741910323) + (((Int64.toUInt64 ((v0 - (((Int64.toUInt64 v0 >>> (Int64.toUInt64 (Int32.toInt64 1) &&& Int64.toUInt64 63)).toInt64) &&& 6148914691236517205))) >>> (Int64.toUInt64 (Int32.toInt64 2) &&& Int64.toUInt64 63)).toInt64) &&& 3689348814741910323))) >>> (Int64.toUInt64 (Int32.toInt64 4) &&& Int64.toUInt64 63)).toInt64)) &&& 1085102592571150095)) >>> (Int64.toUInt64 (Int32.toInt64 8) &&& Int64.toUInt64 63)).toInt64)) + ((Int64.toUInt64 (((((((v0 - (((Int64.toUInt64 v0 >>> (Int64.toUInt64 (Int32.toInt64 1) &&& Int64.toUInt64 63)).toInt64) &&& 6148914691236517205)) &&& 3689348814741910323) + (((Int64.toUInt64 ((v0 - (((Int64.toUInt64 v0 >>> (Int64.toUInt64 (Int32.toInt64 1) &&& Int64.toUInt64 63)).toInt64) &&& 6148914691236517205))) >>> (Int64.toUInt64 (Int32.toInt64 2) &&& Int64.toUInt64 63)).toInt64) &&& 3689348814741910323)) + ((Int64.toUInt64 ((((v0 - (((Int64.toUInt64 v0 >>> (Int64.toUInt64 (Int32.toInt64 1) &&& Int64.toUInt64 63)).toInt64) &&& 6148914691236517205)) &&& 3689348814741910323) + (((Int64.toUInt64 ((v0 - (((Int64.toUInt64 v0 >>> (Int64.toUInt64 (Int32.toInt64 1) &&& Int64.toUInt64 63)).toInt64) &&& 6148914691236517205))) >>> (Int64.toUInt64 (Int32.toInt64 2) &&& Int64.toUInt64 63)).toInt64) &&& 3689348814741910323))) >>> (Int64.toUInt64 (Int32.toInt64 4) &&& Int64.toUInt64 63)).toInt64)) &&& 1085102592571150095) + ((Int64.toUInt64 ((((((v0 - (((Int64.toUInt64 v0 >>> (Int64.toUInt64 (Int32.toInt64 1) &&& Int64.toUInt64 63)).toInt64) &&& 6148914691236517205)) &&& 3689348814741910323) + (((Int64.toUInt64 ((v0 - (((Int64.toUInt64 v0 >>> (Int64.toUInt64 (Int32.toInt64 1) &&& Int64.toUInt64 63)).toInt64) &&& 6148914691236517205))) >>> (Int64.toUInt64 (Int32.toInt64 2) &&& Int64.toUInt64 63)).toInt64) &&& 3689348814741910323)) + ((Int64.toUInt64 ((((v0 - (((Int64.toUInt64 v0 >>> (Int64.toUInt64 (Int32.toInt64 1) &&& Int64.toUInt64 63)).toInt64) &&& 6148914691236517205)) &&& 3689348814741910323) + (((Int64.toUInt64 ((v0 - (((Int64.toUInt64 v0 >>> (Int64.toUInt64 (Int32.toInt64 1) &&& Int64.toUInt64 63)).toInt64) &&& 6148914691236517205))) >>> (Int64.toUInt64 (Int32.toInt64 2) &&& Int64.toUInt64 63)).toInt64) &&& 3689348814741910323))) >>> (Int64.toUInt64 (Int32.toInt64 4) &&& Int64.toUInt64 63)).toInt64)) &&& 1085102592571150095)) >>> (Int64.toUInt64 (Int32.toInt64 8) &&& Int64.toUInt64 63)).toInt64))) >>> (Int64.toUInt64 (Int32.toInt64 16) &&& Int64.toUInt64 63)).toInt64))) >>> (Int64.toUInt64 (Int32.toInt64 32) &&& Int64.toUInt64 63)).toInt64))))]) hx hb dn_Long_bitCount_54 rfl hl (by decide) rfl (fun ls hl => ?_)
  refine lv_lload_n hx hb dn_Long_bitCount_55 rfl (lv_at hl 0 rfl) ?_
  refine lv_l2i (v := Int64.toInt32 (((((((((v0 - (((Int64.toUInt64 v0 >>> (Int64.toUInt64 (Int32.toInt64 1) &&& Int64.toUInt64 63)).toInt64) &&& 6148914691236517205)) &&& 3689348814741910323) + (((Int64.toUInt64 ((v0 - (((Int64.toUInt64 v0 >>> (Int64.toUInt64 (Int32.toInt64 1) &&& Int64.toUInt64 63)).toInt64) &&& 6148914691236517205))) >>> (Int64.toUInt64 (Int32.toInt64 2) &&& Int64.toUInt64 63)).toInt64) &&& 3689348814741910323)) + ((Int64.toUInt64 ((((v0 - (((Int64.toUInt64 v0 >>> (Int64.toUInt64 (Int32.toInt64 1) &&& Int64.toUInt64 63)).toInt64) &&& 6148914691236517205)) &&& 3689348814741910323) + (((Int64.toUInt64 ((v0 - (((Int64.toUInt64 v0 >>> (Int64.toUInt64 (Int32.toInt64 1) &&& Int64.toUInt64 63)).toInt64) &&& 6148914691236517205))) >>> (Int64.toUInt64 (Int32.toInt64 2) &&& Int64.toUInt64 63)).toInt64) &&& 3689348814741910323))) >>> (Int64.toUInt64 (Int32.toInt64 4) &&& Int64.toUInt64 63)).toInt64)) &&& 1085102592571150095) + ((Int64.toUInt64 ((((((v0 - (((Int64.toUInt64 v0 >>> (Int64.toUInt64 (Int32.toInt64 1) &&& Int64.toUInt64 63)).toInt64) &&& 6148914691236517205)) &&& 3689348814741910323) + (((Int64.toUInt64 ((v0 - (((Int64.toUInt64 v0 >>> (Int64.toUInt64 (Int32.toInt64 1) &&& Int64.toUInt64 63)).toInt64) &&& 6148914691236517205))) >>> (Int64.toUInt64 (Int32.toInt64 2) &&& Int64.toUInt64 63)).toInt64) &&& 3689348814741910323)) + ((Int64.toUInt64 ((((v0 - (((Int64.toUInt64 v0 >>> (Int64.toUInt64 (Int32.toInt64 1) &&& Int64.toUInt64 63)).toInt64) &&& 6148914691236517205)) &&& 3689348814741910323) + (((Int64.toUInt64 ((v0 - (((Int64.toUInt64 v0 >>> (Int64.toUInt64 (Int32.toInt64 1) &&& Int64.toUInt64 63)).toInt64) &&& 6148914691236517205))) >>> (Int64.toUInt64 (Int32.toInt64 2) &&& Int64.toUInt64 63)).toInt64) &&& 3689348814741910323))) >>> (Int64.toUInt64 (Int32.toInt64 4) &&& Int64.toUInt64 63)).toInt64)) &&& 1085102592571150095)) >>> (Int64.toUInt64 (Int32.toInt64 8) &&& Int64.toUInt64 63)).toInt64)) + ((Int64.toUInt64 (((((((v0 - (((Int64.toUInt64 v0 >>> (Int64.toUInt64 (Int32.toInt64 1) &&& Int64.toUInt64 63)).toInt64) &&& 6148914691236517205)) &&& 3689348814741910323) + (((Int64.toUInt64 ((v0 - (((Int64.toUInt64 v0 >>> (Int64.toUInt64 (Int32.toInt64 1) &&& Int64.toUInt64 63)).toInt64) &&& 6148914691236517205))) >>> (Int64.toUInt64 (Int32.toInt64 2) &&& Int64.toUInt64 63)).toInt64) &&& 3689348814741910323)) + ((Int64.toUInt64 ((((v0 - (((Int64.toUInt64 v0 >>> (Int64.toUInt64 (Int32.toInt64 1) &&& Int64.toUInt64 63)).toInt64) &&& 6148914691236517205)) &&& 3689348814741910323) + (((Int64.toUInt64 ((v0 - (((Int64.toUInt64 v0 >>> (Int64.toUInt64 (Int32.toInt64 1) &&& Int64.toUInt64 63)).toInt64) &&& 6148914691236517205))) >>> (Int64.toUInt64 (Int32.toInt64 2) &&& Int64.toUInt64 63)).toInt64) &&& 3689348814741910323))) >>> (Int64.toUInt64 (Int32.toInt64 4) &&& Int64.toUInt64 63)).toInt64)) &&& 1085102592571150095) + ((Int64.toUInt64 ((((((v0 - (((Int64.toUInt64 v0 >>> (Int64.toUInt64 (Int32.toInt64 1) &&& Int64.toUInt64 63)).toInt64) &&& 6148914691236517205)) &&& 3689348814741910323) + (((Int64.toUInt64 ((v0 - (((Int64.toUInt64 v0 >>> (Int64.toUInt64 (Int32.toInt64 1) &&& Int64.toUInt64 63)).toInt64) &&& 6148914691236517205))) >>> (Int64.toUInt64 (Int32.toInt64 2) &&& Int64.toUInt64 63)).toInt64) &&& 3689348814741910323)) + ((Int64.toUInt64 ((((v0 - (((Int64.toUInt64 v0 >>> (Int64.toUInt64 (Int32.toInt64 1) &&& Int64.toUInt64 63)).toInt64) &&& 6148914691236517205)) &&& 3689348814741910323) + (((Int64.toUInt64 ((v0 - (((Int64.toUInt64 v0 >>> (Int64.toUInt64 (Int32.toInt64 1) &&& Int64.toUInt64 63)).toInt64) &&& 6148914691236517205))) >>> (Int64.toUInt64 (Int32.toInt64 2) &&& Int64.toUInt64 63)).toInt64) &&& 3689348814741910323))) >>> (Int64.toUInt64 (Int32.toInt64 4) &&& Int64.toUInt64 63)).toInt64)) &&& 1085102592571150095)) >>> (Int64.toUInt64 (Int32.toInt64 8) &&& Int64.toUInt64 63)).toInt64))) >>> (Int64.toUInt64 (Int32.toInt64 16) &&& Int64.toUInt64 63)).toInt64)) + ((Int64.toUInt64 ((((((((v0 - (((Int64.toUInt64 v0 >>> (Int64.toUInt64 (Int32.toInt64 1) &&& Int64.toUInt64 63)).toInt64) &&& 6148914691236517205)) &&& 3689348814741910323) + (((Int64.toUInt64 ((v0 - (((Int64.toUInt64 v0 >>> (Int64.toUInt64 (Int32.toInt64 1) &&& Int64.toUInt64 63)).toInt64) &&& 6148914691236517205))) >>> (Int64.toUInt64 (Int32.toInt64 2) &&& Int64.toUInt64 63)).toInt64) &&& 3689348814741910323)) + ((Int64.toUInt64 ((((v0 - (((Int64.toUInt64 v0 >>> (Int64.toUInt64 (Int32.toInt64 1) &&& Int64.toUInt64 63)).toInt64) &&& 6148914691236517205)) &&& 3689348814741910323) + (((Int64.toUInt64 ((v0 - (((Int64.toUInt64 v0 >>> (Int64.toUInt64 (Int32.toInt64 1) &&& Int64.toUInt64 63)).toInt64) &&& 6148914691236517205))) >>> (Int64.toUInt64 (Int32.toInt64 2) &&& Int64.toUInt64 63)).toInt64) &&& 3689348814741910323))) >>> (Int64.toUInt64 (Int32.toInt64 4) &&& Int64.toUInt64 63)).toInt64)) &&& 1085102592571150095) + ((Int64.toUInt64 ((((((v0 - (((Int64.toUInt64 v0 >>> (Int64.toUInt64 (Int32.toInt64 1) &&& Int64.toUInt64 63)).toInt64) &&& 6148914691236517205)) &&& 3689348814741910323) + (((Int64.toUInt64 ((v0 - (((Int64.toUInt64 v0 >>> (Int64.toUInt64 (Int32.toInt64 1) &&& Int64.toUInt64 63)).toInt64) &&& 6148914691236517205))) >>> (Int64.toUInt64 (Int32.toInt64 2) &&& Int64.toUInt64 63)).toInt64) &&& 3689348814741910323)) + ((Int64.toUInt64 ((((v0 - (((Int64.toUInt64 v0 >>> (Int64.toUInt64 (Int32.toInt64 1) &&& Int64.toUInt64 63)).toInt64) &&& 6148914691236517205)) &&& 3689348814741910323) + (((Int64.toUInt64 ((v0 - (((Int64.toUInt64 v0 >>> (Int64.toUInt64 (Int32.toInt64 1) &&& Int64.toUInt64 63)).toInt64) &&& 6148914691236517205))) >>> (Int64.toUInt64 (Int32.toInt64 2) &&& Int64.toUInt64 63)).toInt64) &&& 3689348814741910323))) >>> (Int64.toUInt64 (Int32.toInt64 4) &&& Int64.toUInt64 63)).toInt64)) &&& 1085102592571150095)) >>> (Int64.toUInt64 (Int32.toInt64 8) &&& Int64.toUInt64 63)).toInt64)) + ((Int64.toUInt64 (((((((v0 - (((Int64.toUInt64 v0 >>> (Int64.toUInt64 (Int32.toInt64 1) &&& Int64.toUInt64 63)).toInt64) &&& 6148914691236517205)) &&& 3689348814741910323) + (((Int64.toUInt64 ((v0 - (((Int64.toUInt64 v0 >>> (Int64.toUInt64 (Int32.toInt64 1) &&& Int64.toUInt64 63)).toInt64) &&& 6148914691236517205))) >>> (Int64.toUInt64 (Int32.toInt64 2) &&& Int64.toUInt64 63)).toInt64) &&& 3689348814741910323)) + ((Int64.toUInt64 ((((v0 - (((Int64.toUInt64 v0 >>> (Int64.toUInt64 (Int32.toInt64 1) &&& Int64.toUInt64 63)).toInt64) &&& 6148914691236517205)) &&& 3689348814741910323) + (((Int64.toUInt64 ((v0 - (((Int64.toUInt64 v0 >>> (Int64.toUInt64 (Int32.toInt64 1) &&& Int64.toUInt64 63)).toInt64) &&& 6148914691236517205))) >>> (Int64.toUInt64 (Int32.toInt64 2) &&& Int64.toUInt64 63)).toInt64) &&& 3689348814741910323))) >>> (Int64.toUInt64 (Int32.toInt64 4) &&& Int64.toUInt64 63)).toInt64)) &&& 1085102592571150095) + ((Int64.toUInt64 ((((((v0 - (((Int64.toUInt64 v0 >>> (Int64.toUInt64 (Int32.toInt64 1) &&& Int64.toUInt64 63)).toInt64) &&& 6148914691236517205)) &&& 3689348814741910323) + (((Int64.toUInt64 ((v0 - (((Int64.toUInt64 v0 >>> (Int64.toUInt64 (Int32.toInt64 1) &&& Int64.toUInt64 63)).toInt64) &&& 6148914691236517205))) >>> (Int64.toUInt64 (Int32.toInt64 2) &&& Int64.toUInt64 63)).toInt64) &&& 3689348814741910323)) + ((Int64.toUInt64 ((((v0 - (((Int64.toUInt64 v0 >>> (Int64.toUInt64 (Int32.toInt64 1) &&& Int64.toUInt64 63)).toInt64) &&& 6148914691236517205)) &&& 3689348814741910323) + (((Int64.toUInt64 ((v0 - (((Int64.toUInt64 v0 >>> (Int64.toUInt64 (Int32.toInt64 1) &&& Int64.toUInt64 63)).toInt64) &&& 6148914691236517205))) >>> (Int64.toUInt64 (Int32.toInt64 2) &&& Int64.toUInt64 63)).toInt64) &&& 3689348814741910323))) >>> (Int64.toUInt64 (Int32.toInt64 4) &&& Int64.toUInt64 63)).toInt64)) &&& 1085102592571150095)) >>> (Int64.toUInt64 (Int32.toInt64 8) &&& Int64.toUInt64 63)).toInt64))) >>> (Int64.toUInt64 (Int32.toInt64 16) &&& Int64.toUInt64 63)).toInt64))) >>> (Int64.toUInt64 (Int32.toInt64 32) &&& Int64.toUInt64 63)).toInt64)))) hx hb dn_Long_bitCount_56 rfl ?_
  refine lv_bipush (v := 127) hx hb dn_Long_bitCount_57 (by decide) ?_
  refine lv_iand hx hb dn_Long_bitCount_59 ?_
  rw [hQQ, ← Option.some.inj hf]
  exact xk_iret (w1 := fun u : Unit => (wC a v cI cB cJ cZ cQ s)) () hx hb hr hlocks hK hS dn_Long_bitCount_60 hP hD rfl (Nat.le_refl _) (Nat.le_refl _)
