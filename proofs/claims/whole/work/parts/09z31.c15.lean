set_option maxHeartbeats 8000000 in
set_option maxRecDepth 100000 in
theorem ct_Parts_linksEnd_Pc (l : Launch) (dC : Nat → ClassId) (dI : Nat → Nat → Nat) (cI cB cJ cZ cQ : ClassId) (N sz : Nat) (a : Nat → Nat) (v : Nat → Value) (v1 : Int32) (s : ms) (y : (Int32 × ms)) (hf : fn_Parts_linksEnd_Pc N v1 s = some y) : Met l yn_Parts_linksEnd (xw yn_Parts_linksEnd bn_Parts_linksEnd 2 (some .int)) ({ frames := 0, cells := 0, slots := 0, locals := 0 }) (dc_P (dC, dI) xcl (xt cI cB cJ cZ cQ) [.ref ((a 114)), .int v1] sz (wC a v cI cB cJ cZ cQ s)) (xk_Qi (dC, dI) xcl (xt cI cB cJ cZ cQ) (fun (r : Int32) (_ : Unit) => r = y.1) (fun u : Unit => (wC a v cI cB cJ cZ cQ y.2)) (va_A (wC a v cI cB cJ cZ cQ s) sz)) 0 0 (va_A (wC a v cI cB cJ cZ cQ s) sz) := by
  refine dc_of (QA := xk_Qi (dC, dI) xcl (xt cI cB cJ cZ cQ) (fun (r : Int32) (_ : Unit) => r = y.1) (fun u : Unit => (wC a v cI cB cJ cZ cQ y.2))) (by decide) (Nat.le_of_ble_eq_true rfl) ?_
  intro p e s0 m below meth c hx hb hml hown hg hr hlocks hin hP hK hN A hA hD hT ls hl
  have hown : s0.vm.findClass rn_Parts = some m.cls := hown
  obtain ⟨H, hH⟩ : ∃ z, z = s0.heap := ⟨_, rfl⟩
  rw [← hH] at hP
  have hS : va_S A s0.heap H [] := by rw [hH]; exact va_S.rf
  suffices kk : ∀ QQ : State → Prop, QQ = MQ below (xk_Qi (dC, dI) xcl (xt cI cB cJ cZ cQ) (fun (r : Int32) (_ : Unit) => r = y.1) (fun u : Unit => (wC a v cI cB cJ cZ cQ y.2)) A) [.ref ((a 114)), .int v1].toArray s0 0 0 A → dcC p l e ({ frames := 0, cells := 0, slots := 0, locals := 0 }) s0 m [.ref ((a 114)), .int v1].toArray below meth c QQ (dC, dI) A (wC a v cI cB cJ cZ cQ s) 0 2 [(0, .ref ((a 114))), (1, .int v1)] [] by
    have k9 := kk _ rfl H [] ls hP hD hS hl
    rw [hH] at k9; exact k9
  clear hP hD hS hl hH H ls
  intro QQ hQQ
  intro H locs ls hP hD hS hl
  unfold fn_Parts_linksEnd_Pc at hf
  refine lv_iload_n hx hb dn_Parts_linksEnd_0 rfl (lv_at hl 1 rfl) ?_
  refine lv_iconst (v := 1) hx hb dn_Parts_linksEnd_1 (by decide) ?_
  refine lv_iadd hx hb dn_Parts_linksEnd_2 ?_
  refine lv_aload_n hx hb dn_Parts_linksEnd_3 rfl (lv_at hl 0 rfl) ?_
  refine va_get (D := (dC, dI)) (ci := 11) (v := .int ((s.1 378 0))) (C := rn_Parts) (T := fn_Parts) (N := 15) hx hb hg in_Parts hown hK hP 14 rfl rfl 7 (by decide) (hg _ wn_2_149) (fun _ h9 => h9) rfl dn_Parts_linksEnd_4 ?_
  refine lv_icmp_ge (tgt := 21) hx hb dn_Parts_linksEnd_7 (by decide) (fun h => ?_) (fun h => ?_)
  · have hf := (if_pos h).symm.trans hf
    refine lv_aload_n hx hb dn_Parts_linksEnd_21 rfl (lv_at hl 0 rfl) ?_
    refine va_get (D := (dC, dI)) (ci := 11) (v := .int ((s.1 382 0))) (C := rn_Parts) (T := fn_Parts) (N := 15) hx hb hg in_Parts hown hK hP 14 rfl rfl 11 (by decide) (hg _ wn_2_162) (fun _ h9 => h9) rfl dn_Parts_linksEnd_22 ?_
    rw [hQQ, ← Option.some.inj hf]
    exact xk_iret (w1 := fun u : Unit => (wC a v cI cB cJ cZ cQ s)) () hx hb hr hlocks hK hS dn_Parts_linksEnd_25 hP hD rfl (Nat.le_refl _) (Nat.le_refl _)
  · have hf := (if_neg h).symm.trans hf
    refine lv_aload_n hx hb dn_Parts_linksEnd_10 rfl (lv_at hl 0 rfl) ?_
    refine va_get (D := (dC, dI)) (ci := 11) (v := .ref ((a 381))) (C := rn_Parts) (T := fn_Parts) (N := 15) hx hb hg in_Parts hown hK hP 14 rfl rfl 10 (by decide) (hg _ wn_2_159) (fun _ h9 => h9) rfl dn_Parts_linksEnd_11 ?_
    refine lv_iload_n hx hb dn_Parts_linksEnd_14 rfl (lv_at hl 1 rfl) ?_
    refine lv_iconst (v := 1) hx hb dn_Parts_linksEnd_15 (by decide) ?_
    refine lv_iadd hx hb dn_Parts_linksEnd_16 ?_
    obtain ⟨hg_1, hf⟩ := dc_g hf
    refine va_iald hx hb hK hP 103 0 rfl rfl hg_1 dn_Parts_linksEnd_17 ?_
    refine xk_ti (y := ((s.1 381) (Int32.toNatClampNeg ((v1 + 1))))) rfl ?_
    refine lv_goto (tgt := 25) hx hb dn_Parts_linksEnd_18 (by decide) ?_
    rw [hQQ, ← Option.some.inj hf]
    exact xk_iret (w1 := fun u : Unit => (wC a v cI cB cJ cZ cQ s)) () hx hb hr hlocks hK hS dn_Parts_linksEnd_25 hP hD rfl (Nat.le_refl _) (Nat.le_refl _)
set_option maxHeartbeats 8000000 in
set_option maxRecDepth 100000 in
theorem ct_Circuit_isSignal_Cc (l : Launch) (dC : Nat → ClassId) (dI : Nat → Nat → Nat) (cI cB cJ cZ cQ : ClassId) (N sz : Nat) (a : Nat → Nat) (v : Nat → Value) (v1 : Int32) (s : ms) (y : (Int32 × ms)) (hf : fn_Circuit_isSignal_Cc N v1 s = some y) : Met l yn_Circuit_isSignal (xw yn_Circuit_isSignal bn_Circuit_isSignal 2 (some .boolean)) ({ frames := 0, cells := 0, slots := 0, locals := 0 }) (dc_P (dC, dI) xcl (xt cI cB cJ cZ cQ) [.ref ((a 112)), .int v1] sz (wC a v cI cB cJ cZ cQ s)) (xk_Qi (dC, dI) xcl (xt cI cB cJ cZ cQ) (fun (r : Int32) (_ : Unit) => r = y.1) (fun u : Unit => (wC a v cI cB cJ cZ cQ y.2)) (va_A (wC a v cI cB cJ cZ cQ s) sz)) 0 0 (va_A (wC a v cI cB cJ cZ cQ s) sz) := by
  refine dc_of (QA := xk_Qi (dC, dI) xcl (xt cI cB cJ cZ cQ) (fun (r : Int32) (_ : Unit) => r = y.1) (fun u : Unit => (wC a v cI cB cJ cZ cQ y.2))) (by decide) (Nat.le_of_ble_eq_true rfl) ?_
  intro p e s0 m below meth c hx hb hml hown hg hr hlocks hin hP hK hN A hA hD hT ls hl
  have hown : s0.vm.findClass rn_Circuit = some m.cls := hown
  obtain ⟨H, hH⟩ : ∃ z, z = s0.heap := ⟨_, rfl⟩
  rw [← hH] at hP
  have hS : va_S A s0.heap H [] := by rw [hH]; exact va_S.rf
  suffices kk : ∀ QQ : State → Prop, QQ = MQ below (xk_Qi (dC, dI) xcl (xt cI cB cJ cZ cQ) (fun (r : Int32) (_ : Unit) => r = y.1) (fun u : Unit => (wC a v cI cB cJ cZ cQ y.2)) A) [.ref ((a 112)), .int v1].toArray s0 0 0 A → dcC p l e ({ frames := 0, cells := 0, slots := 0, locals := 0 }) s0 m [.ref ((a 112)), .int v1].toArray below meth c QQ (dC, dI) A (wC a v cI cB cJ cZ cQ s) 0 2 [(0, .ref ((a 112))), (1, .int v1)] [] by
    have k9 := kk _ rfl H [] ls hP hD hS hl
    rw [hH] at k9; exact k9
  clear hP hD hS hl hH H ls
  intro QQ hQQ
  intro H locs ls hP hD hS hl
  unfold fn_Circuit_isSignal_Cc at hf
  refine lv_iload_n hx hb dn_Circuit_isSignal_0 rfl (lv_at hl 1 rfl) ?_
  refine lv_if_lt (tgt := 16) hx hb dn_Circuit_isSignal_1 (by decide) (fun h => ?_) (fun h => ?_)
  · have hf := (if_pos h).symm.trans hf
    refine lv_iconst (v := 0) hx hb dn_Circuit_isSignal_16 (by decide) ?_
    rw [hQQ, ← Option.some.inj hf]
    exact xk_zret (w1 := fun u : Unit => (wC a v cI cB cJ cZ cQ s)) () hx hb hr rfl hlocks hK hS dn_Circuit_isSignal_17 hP hD rfl (Nat.le_refl _) (Nat.le_refl _)
  · have hf := (if_neg h).symm.trans hf
    refine lv_iload_n hx hb dn_Circuit_isSignal_4 rfl (lv_at hl 1 rfl) ?_
    refine lv_aload_n hx hb dn_Circuit_isSignal_5 rfl (lv_at hl 0 rfl) ?_
    refine va_get (D := (dC, dI)) (ci := 9) (v := .int ((s.1 343 0))) (C := rn_Circuit) (T := fn_Circuit) (N := 14) hx hb hg in_Circuit hown hK hP 12 rfl rfl 2 (by decide) (hg _ wn_3_70) (fun _ h9 => h9) rfl dn_Circuit_isSignal_6 ?_
    refine lv_icmp_ge (tgt := 16) hx hb dn_Circuit_isSignal_9 (by decide) (fun h => ?_) (fun h => ?_)
    · have hf := (if_pos h).symm.trans hf
      refine lv_iconst (v := 0) hx hb dn_Circuit_isSignal_16 (by decide) ?_
      rw [hQQ, ← Option.some.inj hf]
      exact xk_zret (w1 := fun u : Unit => (wC a v cI cB cJ cZ cQ s)) () hx hb hr rfl hlocks hK hS dn_Circuit_isSignal_17 hP hD rfl (Nat.le_refl _) (Nat.le_refl _)
    · have hf := (if_neg h).symm.trans hf
      refine lv_iconst (v := 1) hx hb dn_Circuit_isSignal_12 (by decide) ?_
      refine lv_goto (tgt := 17) hx hb dn_Circuit_isSignal_13 (by decide) ?_
      rw [hQQ, ← Option.some.inj hf]
      exact xk_zret (w1 := fun u : Unit => (wC a v cI cB cJ cZ cQ s)) () hx hb hr rfl hlocks hK hS dn_Circuit_isSignal_17 hP hD rfl (Nat.le_refl _) (Nat.le_refl _)
set_option maxHeartbeats 8000000 in
set_option maxRecDepth 100000 in
theorem ct_Circuit_layLinks_Cc (l : Launch) (dC : Nat → ClassId) (dI : Nat → Nat → Nat) (cI cB cJ cZ cQ : ClassId) (N sz : Nat) (a : Nat → Nat) (v : Nat → Value) (v1 : Int32) (s : ms) (y : (Unit × ms)) (hf : fn_Circuit_layLinks_Cc N v1 s = some y) : Met l yn_Circuit_layLinks (xw yn_Circuit_layLinks bn_Circuit_layLinks 9 none) ({ frames := 1, cells := 0, slots := 0, locals := 21 }) (dc_P (dC, dI) xcl (xt cI cB cJ cZ cQ) [.ref ((a 112)), .int v1] sz (wC a v cI cB cJ cZ cQ s)) (xk_Qv (dC, dI) xcl (xt cI cB cJ cZ cQ) (fun _ : Unit => True) (fun u : Unit => (wC a v cI cB cJ cZ cQ y.2)) (va_A (wC a v cI cB cJ cZ cQ s) sz)) 0 0 (va_A (wC a v cI cB cJ cZ cQ s) sz) := by
  refine dc_of (QA := xk_Qv (dC, dI) xcl (xt cI cB cJ cZ cQ) (fun _ : Unit => True) (fun u : Unit => (wC a v cI cB cJ cZ cQ y.2))) (by decide) (Nat.le_of_ble_eq_true rfl) ?_
  intro p e s0 m below meth c hx hb hml hown hg hr hlocks hin hP hK hN A hA hD hT ls hl
  have hown : s0.vm.findClass rn_Circuit = some m.cls := hown
  obtain ⟨H, hH⟩ : ∃ z, z = s0.heap := ⟨_, rfl⟩
  rw [← hH] at hP
  have hS : va_S A s0.heap H [] := by rw [hH]; exact va_S.rf
  suffices kk : ∀ QQ : State → Prop, QQ = MQ below (xk_Qv (dC, dI) xcl (xt cI cB cJ cZ cQ) (fun _ : Unit => True) (fun u : Unit => (wC a v cI cB cJ cZ cQ y.2)) A) [.ref ((a 112)), .int v1].toArray s0 0 0 A → dcC p l e ({ frames := 1, cells := 0, slots := 0, locals := 21 }) s0 m [.ref ((a 112)), .int v1].toArray below meth c QQ (dC, dI) A (wC a v cI cB cJ cZ cQ s) 0 9 [(0, .ref ((a 112))), (1, .int v1)] [] by
    have k9 := kk _ rfl H [] ls hP hD hS hl
    rw [hH] at k9; exact k9
  clear hP hD hS hl hH H ls
  intro QQ hQQ
  have hd_53 : ∀ (n : Nat) (x3 : Int32) (x4 : Int32) (x5 : Int32) (x6 : Int32) (s : ms), hd_Circuit_layLinks_Cc_53 N n x3 x4 x5 x6 s = some y → dcC p l e ({ frames := 1, cells := 0, slots := 0, locals := 21 }) s0 m [.ref ((a 112)), .int v1].toArray below meth c QQ (dC, dI) A (wC a v cI cB cJ cZ cQ s) 53 9 [(0, .ref ((a 112))), (2, .ref ((a 114))), (3, .int x3), (4, .int x4), (5, .int x5), (6, .int x6)] [] := by
    intro n
    induction n with
    | zero => intro x3 x4 x5 x6 s hf; cases hf
    | succ n ih =>
      intro x3 x4 x5 x6 s hf H locs ls hP hD hS hl
      have hf : bd_Circuit_layLinks_Cc_53 N (hd_Circuit_layLinks_Cc_53 N n) x3 x4 x5 x6 s = some y := hf
      have hk_53 := ih
      generalize hd_Circuit_layLinks_Cc_53 N n = k_53 at hf hk_53
      unfold bd_Circuit_layLinks_Cc_53 at hf
      refine lv_iload hx hb dn_Circuit_layLinks_53 (lv_at hl 5 rfl) ?_
      refine lv_iload hx hb dn_Circuit_layLinks_55 (lv_at hl 4 rfl) ?_
      refine lv_icmp_ge (tgt := 174) hx hb dn_Circuit_layLinks_57 (by decide) (fun h => ?_) (fun h => ?_)
      · have hf := (if_pos h).symm.trans hf
        rw [hQQ, ← Option.some.inj hf]
        exact xk_vret (w1 := fun u : Unit => (wC a v cI cB cJ cZ cQ s)) () hx hb hr hlocks hK hS dn_Circuit_layLinks_174 hP hD trivial (Nat.le_refl _) (Nat.le_refl _)
      · have hf := (if_neg h).symm.trans hf
        refine lv_iload_n hx hb dn_Circuit_layLinks_60 rfl (lv_at hl 2 rfl) ?_
        refine lv_aload_n hx hb dn_Circuit_layLinks_61 rfl (lv_at hl 1 rfl) ?_
        refine va_get (D := (dC, dI)) (ci := 11) (v := .ref ((a 383))) (C := rn_Parts) (T := fn_Parts) (N := 15) hx hb hg in_Parts hown hK hP 14 rfl rfl 12 (by decide) (hg _ wn_2_165) (fun _ h9 => h9) rfl dn_Circuit_layLinks_62 ?_
        refine lv_iload hx hb dn_Circuit_layLinks_65 (lv_at hl 5 rfl) ?_
        obtain ⟨hg_1, hf⟩ := dc_g hf
        refine va_iald hx hb hK hP 104 0 rfl rfl hg_1 dn_Circuit_layLinks_67 ?_
        refine xk_ti (y := ((s.1 383) (Int32.toNatClampNeg x6))) rfl ?_
        refine lv_iadd hx hb dn_Circuit_layLinks_68 ?_
        refine lv_istore (lv' := [(7, .int ((x3 + ((s.1 383) (Int32.toNatClampNeg x6))))), (0, .ref ((a 112))), (2, .ref ((a 114))), (3, .int x3), (4, .int x4), (5, .int x5), (6, .int x6)]) hx hb dn_Circuit_layLinks_69 hl (by decide) rfl (fun ls hl => ?_)
        refine lv_iload hx hb dn_Circuit_layLinks_71 (lv_at hl 4 rfl) ?_
        refine lv_aload_n hx hb dn_Circuit_layLinks_73 rfl (lv_at hl 2 rfl) ?_
        refine va_get (D := (dC, dI)) (ci := 11) (v := .ref ((a 384))) (C := rn_Parts) (T := fn_Parts) (N := 15) hx hb hg in_Parts hown hK hP 14 rfl rfl 13 (by decide) (hg _ wn_2_167) (fun _ h9 => h9) rfl dn_Circuit_layLinks_74 ?_
        refine lv_iload hx hb dn_Circuit_layLinks_77 (lv_at hl 6 rfl) ?_
        obtain ⟨hg_2, hf⟩ := dc_g hf
        refine va_iald hx hb hK hP 105 0 rfl rfl hg_2 dn_Circuit_layLinks_79 ?_
        refine xk_ti (y := ((s.1 384) (Int32.toNatClampNeg x6))) rfl ?_
        refine lv_iadd hx hb dn_Circuit_layLinks_80 ?_
        refine lv_istore (lv' := [(8, .int ((x4 + ((s.1 384) (Int32.toNatClampNeg x6))))), (7, .int ((x3 + ((s.1 383) (Int32.toNatClampNeg x6))))), (0, .ref ((a 112))), (2, .ref ((a 114))), (3, .int x3), (4, .int x4), (5, .int x5), (6, .int x6)]) hx hb dn_Circuit_layLinks_81 hl (by decide) rfl (fun ls hl => ?_)
        refine lv_aload_n hx hb dn_Circuit_layLinks_83 rfl (lv_at hl 2 rfl) ?_
        refine lv_iload hx hb dn_Circuit_layLinks_84 (lv_at hl 1 rfl) ?_
        obtain ⟨q_3, hc_4, hf⟩ := dc_b hf
        refine dc_calli (dc_runV (ar := 1) (As := [.int ((x3 + ((s.1 383) (Int32.toNatClampNeg x6))))]) (rest := []) (ci := 9) (q0 := 12) ⟨hx, hb, hml, hown, hg⟩ hK hN hT hS hA (ct_Circuit_isSignal_Cc l dC dI cI cB cJ cZ cQ N H.size a v ((x3 + ((s.1 383) (Int32.toNatClampNeg x6)))) s q_3 hc_4) hP hD rfl rfl wn_6_207 wn_6_209 sn_Circuit_isSignal wn_1_9 wn_6_210 rfl rfl (by decide +kernel) ⟨Nat.le_of_ble_eq_true rfl, Nat.le_of_ble_eq_true rfl⟩ rfl hl.1 rfl (Nat.le_of_ble_eq_true rfl) dn_Circuit_layLinks_86 ⟨Nat.le_of_ble_eq_true rfl, Nat.le_of_ble_eq_true rfl⟩) hP hD hS hA (fun r_5 _ H locs hw hP hD hS => ?_)
        have hw : r_5 = q_3.1 := hw
        subst hw
        refine lv_if_ne (tgt := 95) hx hb dn_Circuit_layLinks_89 (by decide) (fun h => ?_) (fun h => ?_)
        · have hf := (if_neg h).symm.trans hf
          refine lv_aload_n hx hb dn_Circuit_layLinks_95 rfl (lv_at hl 3 rfl) ?_
          refine va_get (D := (dC, dI)) (ci := 11) (v := .ref ((a 374))) (C := rn_Parts) (T := fn_Parts) (N := 15) hx hb hg in_Parts hown hK hP 14 rfl rfl 3 (by decide) (hg _ wn_2_136) (fun _ h9 => h9) rfl dn_Circuit_layLinks_96 ?_
          refine lv_aload_n hx hb dn_Circuit_layLinks_99 rfl (lv_at hl 2 rfl) ?_
          refine va_get (D := (dC, dI)) (ci := 9) (v := .ref ((a 348))) (C := rn_Circuit) (T := fn_Circuit) (N := 14) hx hb hg in_Circuit hown hK hP 12 rfl rfl 7 (by decide) (hg _ wn_3_78) (fun _ h9 => h9) rfl dn_Circuit_layLinks_100 ?_
          refine lv_iload hx hb dn_Circuit_layLinks_103 (lv_at hl 1 rfl) ?_
          obtain ⟨hg_6, hf⟩ := dc_g hf
          refine va_iald hx hb hK hP 80 0 rfl rfl hg_6 dn_Circuit_layLinks_105 ?_
          refine xk_ti (y := ((q_3.2.1 348) (Int32.toNatClampNeg ((x3 + ((s.1 383) (Int32.toNatClampNeg x6))))))) rfl ?_
          obtain ⟨hg_7, hf⟩ := dc_g hf
          refine va_iald hx hb hK hP 97 0 rfl rfl hg_7 dn_Circuit_layLinks_106 ?_
          refine xk_ti (y := ((q_3.2.1 374) (Int32.toNatClampNeg (((q_3.2.1 348) (Int32.toNatClampNeg ((x3 + ((s.1 383) (Int32.toNatClampNeg x6)))))))))) rfl ?_
          refine lv_if_ne (tgt := 150) hx hb dn_Circuit_layLinks_107 (by decide) (fun h => ?_) (fun h => ?_)
          · have hf := (if_neg h).symm.trans hf
            refine lv_aload_n hx hb dn_Circuit_layLinks_150 rfl (lv_at hl 2 rfl) ?_
            refine lv_iload hx hb dn_Circuit_layLinks_151 (lv_at hl 0 rfl) ?_
            obtain ⟨q_8, hc_9, hf⟩ := dc_b hf
            refine dc_calli (dc_runV (ar := 1) (As := [.int ((x4 + ((s.1 384) (Int32.toNatClampNeg x6))))]) (rest := []) (ci := 9) (q0 := 12) ⟨hx, hb, hml, hown, hg⟩ hK hN hT hS hA (ct_Circuit_isSignal_Cc l dC dI cI cB cJ cZ cQ N H.size a v ((x4 + ((s.1 384) (Int32.toNatClampNeg x6)))) q_3.2 q_8 hc_9) hP hD rfl rfl wn_6_207 wn_6_209 sn_Circuit_isSignal wn_1_9 wn_6_210 rfl rfl (by decide +kernel) ⟨Nat.le_of_ble_eq_true rfl, Nat.le_of_ble_eq_true rfl⟩ rfl hl.1 rfl (Nat.le_of_ble_eq_true rfl) dn_Circuit_layLinks_153 ⟨Nat.le_of_ble_eq_true rfl, Nat.le_of_ble_eq_true rfl⟩) hP hD hS hA (fun r_10 _ H locs hw hP hD hS => ?_)
            have hw : r_10 = q_8.1 := hw
            subst hw
            refine lv_if_eq (tgt := 168) hx hb dn_Circuit_layLinks_156 (by decide) (fun h => ?_) (fun h => ?_)
            · have hf := (if_pos h).symm.trans hf
              refine lv_iinc (v := (x6 + 1)) (lv' := [(6, .int ((x6 + 1))), (8, .int ((x4 + ((s.1 384) (Int32.toNatClampNeg x6))))), (7, .int ((x3 + ((s.1 383) (Int32.toNatClampNeg x6))))), (0, .ref ((a 112))), (2, .ref ((a 114))), (3, .int x3), (4, .int x4), (5, .int x5)]) hx hb dn_Circuit_layLinks_168 hl (k := 7) rfl (dc_inc (by decide)) (by decide) rfl (fun ls hl => ?_)
              refine lv_goto (tgt := 53) hx hb dn_Circuit_layLinks_171 (by decide) ?_
              exact hk_53 x3 x4 x5 ((x6 + 1)) q_8.2 hf H locs ls hP hD hS (lv_sub hl [3, 4, 5, 6, 7, 0] rfl)
            · have hf := (if_neg h).symm.trans hf
              refine lv_aload_n hx hb dn_Circuit_layLinks_159 rfl (lv_at hl 2 rfl) ?_
              refine va_get (D := (dC, dI)) (ci := 9) (v := .ref ((a 352))) (C := rn_Circuit) (T := fn_Circuit) (N := 14) hx hb hg in_Circuit hown hK hP 12 rfl rfl 11 (by decide) (hg _ wn_3_88) (fun _ h9 => h9) rfl dn_Circuit_layLinks_160 ?_
              refine lv_iload hx hb dn_Circuit_layLinks_163 (lv_at hl 0 rfl) ?_
              refine lv_iload hx hb dn_Circuit_layLinks_165 (lv_at hl 1 rfl) ?_
              obtain ⟨hg_11, hf⟩ := dc_g hf
              refine va_iast hx hb hK hP hD hS 84 0 rfl rfl hg_11 dn_Circuit_layLinks_167 (fun H locs hP hD hS => ?_)
              have hP : va_P (dC, dI) xcl ((wC a v cI cB cJ cZ cQ q_8.2).set 84 ((a 352), .inl (cI, 1024, .inl (upd (q_8.2.1 352) (Int32.toNatClampNeg ((x4 + ((s.1 384) (Int32.toNatClampNeg x6))))) ((x3 + ((s.1 383) (Int32.toNatClampNeg x6)))))))) H := hP
              have hD : va_D A ((wC a v cI cB cJ cZ cQ q_8.2).set 84 ((a 352), .inl (cI, 1024, .inl (upd (q_8.2.1 352) (Int32.toNatClampNeg ((x4 + ((s.1 384) (Int32.toNatClampNeg x6))))) ((x3 + ((s.1 383) (Int32.toNatClampNeg x6)))))))) := hD
              have hP := wC_P_352 hP
              have hD := wC_D_352 hD
              refine lv_iinc (v := (x6 + 1)) (lv' := [(6, .int ((x6 + 1))), (8, .int ((x4 + ((s.1 384) (Int32.toNatClampNeg x6))))), (7, .int ((x3 + ((s.1 383) (Int32.toNatClampNeg x6))))), (0, .ref ((a 112))), (2, .ref ((a 114))), (3, .int x3), (4, .int x4), (5, .int x5)]) hx hb dn_Circuit_layLinks_168 hl (k := 7) rfl (dc_inc (by decide)) (by decide) rfl (fun ls hl => ?_)
              refine lv_goto (tgt := 53) hx hb dn_Circuit_layLinks_171 (by decide) ?_
              exact hk_53 x3 x4 x5 ((x6 + 1)) (upI q_8.2 352 (upd (q_8.2.1 352) (Int32.toNatClampNeg ((x4 + ((s.1 384) (Int32.toNatClampNeg x6))))) ((x3 + ((s.1 383) (Int32.toNatClampNeg x6)))))) hf H locs ls hP hD hS (lv_sub hl [3, 4, 5, 6, 7, 0] rfl)
          · have hf := (if_pos h).symm.trans hf
            refine lv_aload_n hx hb dn_Circuit_layLinks_110 rfl (lv_at hl 2 rfl) ?_
            refine va_get (D := (dC, dI)) (ci := 9) (v := .ref ((a 349))) (C := rn_Circuit) (T := fn_Circuit) (N := 14) hx hb hg in_Circuit hown hK hP 12 rfl rfl 8 (by decide) (hg _ wn_3_79) (fun _ h9 => h9) rfl dn_Circuit_layLinks_111 ?_
            refine lv_iload hx hb dn_Circuit_layLinks_114 (lv_at hl 1 rfl) ?_
            refine lv_aload_n hx hb dn_Circuit_layLinks_116 rfl (lv_at hl 3 rfl) ?_
            refine va_get (D := (dC, dI)) (ci := 11) (v := .ref ((a 384))) (C := rn_Parts) (T := fn_Parts) (N := 15) hx hb hg in_Parts hown hK hP 14 rfl rfl 13 (by decide) (hg _ wn_2_167) (fun _ h9 => h9) rfl dn_Circuit_layLinks_117 ?_
            refine lv_iload hx hb dn_Circuit_layLinks_120 (lv_at hl 7 rfl) ?_
            obtain ⟨hg_8, hf⟩ := dc_g hf
            refine va_iald hx hb hK hP 105 0 rfl rfl hg_8 dn_Circuit_layLinks_122 ?_
            refine xk_ti (y := ((q_3.2.1 384) (Int32.toNatClampNeg x6))) rfl ?_
            obtain ⟨hg_9, hf⟩ := dc_g hf
            refine va_iast hx hb hK hP hD hS 81 0 rfl rfl hg_9 dn_Circuit_layLinks_123 (fun H locs hP hD hS => ?_)
            have hP : va_P (dC, dI) xcl ((wC a v cI cB cJ cZ cQ q_3.2).set 81 ((a 349), .inl (cI, 1024, .inl (upd (q_3.2.1 349) (Int32.toNatClampNeg ((x3 + ((s.1 383) (Int32.toNatClampNeg x6))))) (((q_3.2.1 384) (Int32.toNatClampNeg x6))))))) H := hP
            have hD : va_D A ((wC a v cI cB cJ cZ cQ q_3.2).set 81 ((a 349), .inl (cI, 1024, .inl (upd (q_3.2.1 349) (Int32.toNatClampNeg ((x3 + ((s.1 383) (Int32.toNatClampNeg x6))))) (((q_3.2.1 384) (Int32.toNatClampNeg x6))))))) := hD
            have hP := wC_P_349 hP
            have hD := wC_D_349 hD
            refine lv_aload_n hx hb dn_Circuit_layLinks_124 rfl (lv_at hl 2 rfl) ?_
            refine va_get (D := (dC, dI)) (ci := 9) (v := .ref ((a 350))) (C := rn_Circuit) (T := fn_Circuit) (N := 14) hx hb hg in_Circuit hown hK hP 12 rfl rfl 9 (by decide) (hg _ wn_3_82) (fun _ h9 => h9) rfl dn_Circuit_layLinks_125 ?_
            refine lv_iload hx hb dn_Circuit_layLinks_128 (lv_at hl 1 rfl) ?_
            refine lv_aload_n hx hb dn_Circuit_layLinks_130 rfl (lv_at hl 3 rfl) ?_
            refine va_get (D := (dC, dI)) (ci := 11) (v := .ref ((a 385))) (C := rn_Parts) (T := fn_Parts) (N := 15) hx hb hg in_Parts hown hK hP 14 rfl rfl 14 (by decide) (hg _ wn_2_170) (fun _ h9 => h9) rfl dn_Circuit_layLinks_131 ?_
            refine lv_iload hx hb dn_Circuit_layLinks_134 (lv_at hl 7 rfl) ?_
            obtain ⟨hg_10, hf⟩ := dc_g hf
            refine va_iald hx hb hK hP 106 0 rfl rfl hg_10 dn_Circuit_layLinks_136 ?_
            refine xk_ti (y := ((q_3.2.1 385) (Int32.toNatClampNeg x6))) rfl ?_
            obtain ⟨hg_11, hf⟩ := dc_g hf
            refine va_iast hx hb hK hP hD hS 82 0 rfl rfl hg_11 dn_Circuit_layLinks_137 (fun H locs hP hD hS => ?_)
            have hP : va_P (dC, dI) xcl ((wC a v cI cB cJ cZ cQ (upI q_3.2 349 (upd (q_3.2.1 349) (Int32.toNatClampNeg ((x3 + ((s.1 383) (Int32.toNatClampNeg x6))))) (((q_3.2.1 384) (Int32.toNatClampNeg x6)))))).set 82 ((a 350), .inl (cI, 1024, .inl (upd (q_3.2.1 350) (Int32.toNatClampNeg ((x3 + ((s.1 383) (Int32.toNatClampNeg x6))))) (((q_3.2.1 385) (Int32.toNatClampNeg x6))))))) H := hP
            have hD : va_D A ((wC a v cI cB cJ cZ cQ (upI q_3.2 349 (upd (q_3.2.1 349) (Int32.toNatClampNeg ((x3 + ((s.1 383) (Int32.toNatClampNeg x6))))) (((q_3.2.1 384) (Int32.toNatClampNeg x6)))))).set 82 ((a 350), .inl (cI, 1024, .inl (upd (q_3.2.1 350) (Int32.toNatClampNeg ((x3 + ((s.1 383) (Int32.toNatClampNeg x6))))) (((q_3.2.1 385) (Int32.toNatClampNeg x6))))))) := hD
            have hP := wC_P_350 hP
            have hD := wC_D_350 hD
            refine lv_aload_n hx hb dn_Circuit_layLinks_138 rfl (lv_at hl 2 rfl) ?_
            refine va_get (D := (dC, dI)) (ci := 9) (v := .ref ((a 351))) (C := rn_Circuit) (T := fn_Circuit) (N := 14) hx hb hg in_Circuit hown hK hP 12 rfl rfl 10 (by decide) (hg _ wn_3_85) (fun _ h9 => h9) rfl dn_Circuit_layLinks_139 ?_
            refine lv_iload hx hb dn_Circuit_layLinks_142 (lv_at hl 1 rfl) ?_
            refine lv_iload hx hb dn_Circuit_layLinks_144 (lv_at hl 5 rfl) ?_
            obtain ⟨hg_12, hf⟩ := dc_g hf
            refine va_iast hx hb hK hP hD hS 83 0 rfl rfl hg_12 dn_Circuit_layLinks_146 (fun H locs hP hD hS => ?_)
            have hP : va_P (dC, dI) xcl ((wC a v cI cB cJ cZ cQ (upI (upI q_3.2 349 (upd (q_3.2.1 349) (Int32.toNatClampNeg ((x3 + ((s.1 383) (Int32.toNatClampNeg x6))))) (((q_3.2.1 384) (Int32.toNatClampNeg x6))))) 350 (upd (q_3.2.1 350) (Int32.toNatClampNeg ((x3 + ((s.1 383) (Int32.toNatClampNeg x6))))) (((q_3.2.1 385) (Int32.toNatClampNeg x6)))))).set 83 ((a 351), .inl (cI, 1024, .inl (upd (q_3.2.1 351) (Int32.toNatClampNeg ((x3 + ((s.1 383) (Int32.toNatClampNeg x6))))) x4)))) H := hP
            have hD : va_D A ((wC a v cI cB cJ cZ cQ (upI (upI q_3.2 349 (upd (q_3.2.1 349) (Int32.toNatClampNeg ((x3 + ((s.1 383) (Int32.toNatClampNeg x6))))) (((q_3.2.1 384) (Int32.toNatClampNeg x6))))) 350 (upd (q_3.2.1 350) (Int32.toNatClampNeg ((x3 + ((s.1 383) (Int32.toNatClampNeg x6))))) (((q_3.2.1 385) (Int32.toNatClampNeg x6)))))).set 83 ((a 351), .inl (cI, 1024, .inl (upd (q_3.2.1 351) (Int32.toNatClampNeg ((x3 + ((s.1 383) (Int32.toNatClampNeg x6))))) x4)))) := hD
            have hP := wC_P_351 hP
            have hD := wC_D_351 hD
            refine lv_goto (tgt := 168) hx hb dn_Circuit_layLinks_147 (by decide) ?_
            refine lv_iinc (v := (x6 + 1)) (lv' := [(6, .int ((x6 + 1))), (8, .int ((x4 + ((s.1 384) (Int32.toNatClampNeg x6))))), (7, .int ((x3 + ((s.1 383) (Int32.toNatClampNeg x6))))), (0, .ref ((a 112))), (2, .ref ((a 114))), (3, .int x3), (4, .int x4), (5, .int x5)]) hx hb dn_Circuit_layLinks_168 hl (k := 7) rfl (dc_inc (by decide)) (by decide) rfl (fun ls hl => ?_)
            refine lv_goto (tgt := 53) hx hb dn_Circuit_layLinks_171 (by decide) ?_
            exact hk_53 x3 x4 x5 ((x6 + 1)) (upI (upI (upI q_3.2 349 (upd (q_3.2.1 349) (Int32.toNatClampNeg ((x3 + ((s.1 383) (Int32.toNatClampNeg x6))))) (((q_3.2.1 384) (Int32.toNatClampNeg x6))))) 350 (upd (q_3.2.1 350) (Int32.toNatClampNeg ((x3 + ((s.1 383) (Int32.toNatClampNeg x6))))) (((q_3.2.1 385) (Int32.toNatClampNeg x6))))) 351 (upd (q_3.2.1 351) (Int32.toNatClampNeg ((x3 + ((s.1 383) (Int32.toNatClampNeg x6))))) x4)) hf H locs ls hP hD hS (lv_sub hl [3, 4, 5, 6, 7, 0] rfl)
        · have hf := (if_pos h).symm.trans hf
          refine lv_goto (tgt := 168) hx hb dn_Circuit_layLinks_92 (by decide) ?_
          refine lv_iinc (v := (x6 + 1)) (lv' := [(6, .int ((x6 + 1))), (8, .int ((x4 + ((s.1 384) (Int32.toNatClampNeg x6))))), (7, .int ((x3 + ((s.1 383) (Int32.toNatClampNeg x6))))), (0, .ref ((a 112))), (2, .ref ((a 114))), (3, .int x3), (4, .int x4), (5, .int x5)]) hx hb dn_Circuit_layLinks_168 hl (k := 7) rfl (dc_inc (by decide)) (by decide) rfl (fun ls hl => ?_)
          refine lv_goto (tgt := 53) hx hb dn_Circuit_layLinks_171 (by decide) ?_
          exact hk_53 x3 x4 x5 ((x6 + 1)) q_3.2 hf H locs ls hP hD hS (lv_sub hl [3, 4, 5, 6, 7, 0] rfl)
  intro H locs ls hP hD hS hl
  unfold fn_Circuit_layLinks_Cc at hf
  refine lv_aload_n hx hb dn_Circuit_layLinks_0 rfl (lv_at hl 0 rfl) ?_
  refine va_get (D := (dC, dI)) (ci := 9) (v := .ref ((a 113))) (C := rn_Circuit) (T := fn_Circuit) (N := 14) hx hb hg in_Circuit hown hK hP 12 rfl rfl 0 (by decide) (hg _ wn_3_61) (fun _ h9 => h9) rfl dn_Circuit_layLinks_1 ?_
  refine va_get (D := (dC, dI)) (ci := 10) (v := .ref ((a 114))) (C := rn_Design) (T := fn_Design) (N := 16) hx hb hg in_Design hown hK hP 13 rfl rfl 0 (by decide) (hg _ wn_2_237) (fun _ h9 => h9) rfl dn_Circuit_layLinks_4 ?_
  refine lv_astore_n (lv' := [(2, .ref ((a 114))), (0, .ref ((a 112))), (1, .int v1)]) hx hb dn_Circuit_layLinks_7 rfl hl (by decide) rfl (fun ls hl => ?_)
  refine lv_aload_n hx hb dn_Circuit_layLinks_8 rfl (lv_at hl 1 rfl) ?_
  refine va_get (D := (dC, dI)) (ci := 9) (v := .ref ((a 344))) (C := rn_Circuit) (T := fn_Circuit) (N := 14) hx hb hg in_Circuit hown hK hP 12 rfl rfl 3 (by decide) (hg _ wn_3_72) (fun _ h9 => h9) rfl dn_Circuit_layLinks_9 ?_
  refine lv_iload_n hx hb dn_Circuit_layLinks_12 rfl (lv_at hl 2 rfl) ?_
  obtain ⟨hg_1, hf⟩ := dc_g hf
  refine va_iald hx hb hK hP 76 0 rfl rfl hg_1 dn_Circuit_layLinks_13 ?_
  refine xk_ti (y := ((s.1 344) (Int32.toNatClampNeg v1))) rfl ?_
  refine lv_istore_n (lv' := [(3, .int (((s.1 344) (Int32.toNatClampNeg v1)))), (2, .ref ((a 114))), (0, .ref ((a 112))), (1, .int v1)]) hx hb dn_Circuit_layLinks_14 rfl hl (by decide) rfl (fun ls hl => ?_)
  refine lv_aload_n hx hb dn_Circuit_layLinks_15 rfl (lv_at hl 2 rfl) ?_
  refine va_get (D := (dC, dI)) (ci := 9) (v := .ref ((a 344))) (C := rn_Circuit) (T := fn_Circuit) (N := 14) hx hb hg in_Circuit hown hK hP 12 rfl rfl 3 (by decide) (hg _ wn_3_72) (fun _ h9 => h9) rfl dn_Circuit_layLinks_16 ?_
  refine lv_aload_n hx hb dn_Circuit_layLinks_19 rfl (lv_at hl 2 rfl) ?_
  refine va_get (D := (dC, dI)) (ci := 9) (v := .ref ((a 346))) (C := rn_Circuit) (T := fn_Circuit) (N := 14) hx hb hg in_Circuit hown hK hP 12 rfl rfl 5 (by decide) (hg _ wn_3_76) (fun _ h9 => h9) rfl dn_Circuit_layLinks_20 ?_
  refine lv_iload_n hx hb dn_Circuit_layLinks_23 rfl (lv_at hl 3 rfl) ?_
  obtain ⟨hg_2, hf⟩ := dc_g hf
  refine va_iald hx hb hK hP 78 0 rfl rfl hg_2 dn_Circuit_layLinks_24 ?_
  refine xk_ti (y := ((s.1 346) (Int32.toNatClampNeg v1))) rfl ?_
  obtain ⟨hg_3, hf⟩ := dc_g hf
  refine va_iald hx hb hK hP 76 0 rfl rfl hg_3 dn_Circuit_layLinks_25 ?_
  refine xk_ti (y := ((s.1 344) (Int32.toNatClampNeg (((s.1 346) (Int32.toNatClampNeg v1)))))) rfl ?_
  refine lv_istore (lv' := [(4, .int (((s.1 344) (Int32.toNatClampNeg (((s.1 346) (Int32.toNatClampNeg v1))))))), (3, .int (((s.1 344) (Int32.toNatClampNeg v1)))), (2, .ref ((a 114))), (0, .ref ((a 112))), (1, .int v1)]) hx hb dn_Circuit_layLinks_26 hl (by decide) rfl (fun ls hl => ?_)
  refine lv_aload_n hx hb dn_Circuit_layLinks_28 rfl (lv_at hl 2 rfl) ?_
  refine lv_aload_n hx hb dn_Circuit_layLinks_29 rfl (lv_at hl 3 rfl) ?_
  refine va_get (D := (dC, dI)) (ci := 9) (v := .ref ((a 347))) (C := rn_Circuit) (T := fn_Circuit) (N := 14) hx hb hg in_Circuit hown hK hP 12 rfl rfl 6 (by decide) (hg _ wn_3_77) (fun _ h9 => h9) rfl dn_Circuit_layLinks_30 ?_
  refine lv_iload_n hx hb dn_Circuit_layLinks_33 rfl (lv_at hl 4 rfl) ?_
  obtain ⟨hg_4, hf⟩ := dc_g hf
  refine va_iald hx hb hK hP 79 0 rfl rfl hg_4 dn_Circuit_layLinks_34 ?_
  refine xk_ti (y := ((s.1 347) (Int32.toNatClampNeg v1))) rfl ?_
  obtain ⟨q_5, hc_6, hf⟩ := dc_b hf
  refine dc_calli (dc_runV (ar := 1) (As := [.int (((s.1 347) (Int32.toNatClampNeg v1)))]) (rest := []) (ci := 11) (q0 := 14) ⟨hx, hb, hml, hown, hg⟩ hK hN hT hS hA (ct_Parts_linksEnd_Pc l dC dI cI cB cJ cZ cQ N H.size a v (((s.1 347) (Int32.toNatClampNeg v1))) s q_5 hc_6) hP hD rfl rfl wn_6_203 wn_6_204 wn_6_205 wn_1_11 wn_6_206 rfl rfl (by decide +kernel) ⟨Nat.le_of_ble_eq_true rfl, Nat.le_of_ble_eq_true rfl⟩ rfl hl.1 rfl (Nat.le_of_ble_eq_true rfl) dn_Circuit_layLinks_35 ⟨Nat.le_of_ble_eq_true rfl, Nat.le_of_ble_eq_true rfl⟩) hP hD hS hA (fun r_7 _ H locs hw hP hD hS => ?_)
  have hw : r_7 = q_5.1 := hw
  subst hw
  refine lv_istore (lv' := [(5, .int q_5.1), (4, .int (((s.1 344) (Int32.toNatClampNeg (((s.1 346) (Int32.toNatClampNeg v1))))))), (3, .int (((s.1 344) (Int32.toNatClampNeg v1)))), (2, .ref ((a 114))), (0, .ref ((a 112))), (1, .int v1)]) hx hb dn_Circuit_layLinks_38 hl (by decide) rfl (fun ls hl => ?_)
  refine lv_aload_n hx hb dn_Circuit_layLinks_40 rfl (lv_at hl 3 rfl) ?_
  refine va_get (D := (dC, dI)) (ci := 11) (v := .ref ((a 381))) (C := rn_Parts) (T := fn_Parts) (N := 15) hx hb hg in_Parts hown hK hP 14 rfl rfl 10 (by decide) (hg _ wn_2_160) (fun _ h9 => h9) rfl dn_Circuit_layLinks_41 ?_
  refine lv_aload_n hx hb dn_Circuit_layLinks_44 rfl (lv_at hl 4 rfl) ?_
  refine va_get (D := (dC, dI)) (ci := 9) (v := .ref ((a 347))) (C := rn_Circuit) (T := fn_Circuit) (N := 14) hx hb hg in_Circuit hown hK hP 12 rfl rfl 6 (by decide) (hg _ wn_3_77) (fun _ h9 => h9) rfl dn_Circuit_layLinks_45 ?_
  refine lv_iload_n hx hb dn_Circuit_layLinks_48 rfl (lv_at hl 5 rfl) ?_
  obtain ⟨hg_8, hf⟩ := dc_g hf
  refine va_iald hx hb hK hP 79 0 rfl rfl hg_8 dn_Circuit_layLinks_49 ?_
  refine xk_ti (y := ((q_5.2.1 347) (Int32.toNatClampNeg v1))) rfl ?_
  obtain ⟨hg_9, hf⟩ := dc_g hf
  refine va_iald hx hb hK hP 103 0 rfl rfl hg_9 dn_Circuit_layLinks_50 ?_
  refine xk_ti (y := ((q_5.2.1 381) (Int32.toNatClampNeg (((q_5.2.1 347) (Int32.toNatClampNeg v1)))))) rfl ?_
  refine lv_istore (lv' := [(6, .int (((q_5.2.1 381) (Int32.toNatClampNeg (((q_5.2.1 347) (Int32.toNatClampNeg v1))))))), (5, .int q_5.1), (4, .int (((s.1 344) (Int32.toNatClampNeg (((s.1 346) (Int32.toNatClampNeg v1))))))), (3, .int (((s.1 344) (Int32.toNatClampNeg v1)))), (2, .ref ((a 114))), (0, .ref ((a 112))), (1, .int v1)]) hx hb dn_Circuit_layLinks_51 hl (by decide) rfl (fun ls hl => ?_)
  exact hd_53 N (((s.1 344) (Int32.toNatClampNeg v1))) (((s.1 344) (Int32.toNatClampNeg (((s.1 346) (Int32.toNatClampNeg v1)))))) q_5.1 (((q_5.2.1 381) (Int32.toNatClampNeg (((q_5.2.1 347) (Int32.toNatClampNeg v1)))))) q_5.2 hf H locs ls hP hD hS (lv_sub hl [5, 4, 3, 2, 1, 0] rfl)
set_option maxHeartbeats 8000000 in
set_option maxRecDepth 100000 in
theorem ct_Circuit_build_Cc (l : Launch) (dC : Nat → ClassId) (dI : Nat → Nat → Nat) (cI cB cJ cZ cQ : ClassId) (N sz : Nat) (a : Nat → Nat) (v : Nat → Value) (s : ms) (y : (Unit × ms)) (hf : fn_Circuit_build_Cc N s = some y) : Met l yn_Circuit_build (xw yn_Circuit_build bn_Circuit_build 3 none) ({ frames := 4, cells := 0, slots := 0, locals := 90 }) (dc_P (dC, dI) xcl (xt cI cB cJ cZ cQ) [.ref ((a 112))] sz (wC a v cI cB cJ cZ cQ s)) (xk_Qv (dC, dI) xcl (xt cI cB cJ cZ cQ) (fun _ : Unit => True) (fun u : Unit => (wC a v cI cB cJ cZ cQ y.2)) (va_A (wC a v cI cB cJ cZ cQ s) sz)) 0 0 (va_A (wC a v cI cB cJ cZ cQ s) sz) := by
  refine dc_of (QA := xk_Qv (dC, dI) xcl (xt cI cB cJ cZ cQ) (fun _ : Unit => True) (fun u : Unit => (wC a v cI cB cJ cZ cQ y.2))) (by decide) (Nat.le_of_ble_eq_true rfl) ?_
  intro p e s0 m below meth c hx hb hml hown hg hr hlocks hin hP hK hN A hA hD hT ls hl
  have hown : s0.vm.findClass rn_Circuit = some m.cls := hown
  obtain ⟨H, hH⟩ : ∃ z, z = s0.heap := ⟨_, rfl⟩
  rw [← hH] at hP
  have hS : va_S A s0.heap H [] := by rw [hH]; exact va_S.rf
  suffices kk : ∀ QQ : State → Prop, QQ = MQ below (xk_Qv (dC, dI) xcl (xt cI cB cJ cZ cQ) (fun _ : Unit => True) (fun u : Unit => (wC a v cI cB cJ cZ cQ y.2)) A) [.ref ((a 112))].toArray s0 0 0 A → dcC p l e ({ frames := 4, cells := 0, slots := 0, locals := 90 }) s0 m [.ref ((a 112))].toArray below meth c QQ (dC, dI) A (wC a v cI cB cJ cZ cQ s) 0 3 [(0, .ref ((a 112)))] [] by
    have k9 := kk _ rfl H [] ls hP hD hS hl
    rw [hH] at k9; exact k9
  clear hP hD hS hl hH H ls
  intro QQ hQQ
  have hd_80 : ∀ (n : Nat) (x2 : Int32) (s : ms), hd_Circuit_build_Cc_80 N n x2 s = some y → dcC p l e ({ frames := 4, cells := 0, slots := 0, locals := 90 }) s0 m [.ref ((a 112))].toArray below meth c QQ (dC, dI) A (wC a v cI cB cJ cZ cQ s) 80 3 [(0, .ref ((a 112))), (2, .int x2)] [] := by
    intro n
    induction n with
    | zero => intro x2 s hf; cases hf
    | succ n ih =>
      intro x2 s hf H locs ls hP hD hS hl
      have hf : bd_Circuit_build_Cc_80 N (hd_Circuit_build_Cc_80 N n) x2 s = some y := hf
      have hk_80 := ih
      generalize hd_Circuit_build_Cc_80 N n = k_80 at hf hk_80
      unfold bd_Circuit_build_Cc_80 at hf
      refine lv_iload_n hx hb dn_Circuit_build_80 rfl (lv_at hl 1 rfl) ?_
      refine lv_aload_n hx hb dn_Circuit_build_81 rfl (lv_at hl 0 rfl) ?_
      refine va_get (D := (dC, dI)) (ci := 9) (v := .int ((s.1 342 0))) (C := rn_Circuit) (T := fn_Circuit) (N := 14) hx hb hg in_Circuit hown hK hP 12 rfl rfl 1 (by decide) (hg _ wn_3_65) (fun _ h9 => h9) rfl dn_Circuit_build_82 ?_
      refine lv_icmp_ge (tgt := 113) hx hb dn_Circuit_build_85 (by decide) (fun h => ?_) (fun h => ?_)
      · have hf := (if_pos h).symm.trans hf
        rw [hQQ, ← Option.some.inj hf]
        exact xk_vret (w1 := fun u : Unit => (wC a v cI cB cJ cZ cQ s)) () hx hb hr hlocks hK hS dn_Circuit_build_113 hP hD trivial (Nat.le_refl _) (Nat.le_refl _)
      · have hf := (if_neg h).symm.trans hf
        refine lv_aload_n hx hb dn_Circuit_build_88 rfl (lv_at hl 0 rfl) ?_
        refine lv_iload_n hx hb dn_Circuit_build_89 rfl (lv_at hl 1 rfl) ?_
        obtain ⟨q_1, hc_2, hf⟩ := dc_b hf
        refine dc_callv (dc_runV (ar := 1) (As := [.int x2]) (rest := []) (ci := 9) (q0 := 12) ⟨hx, hb, hml, hown, hg⟩ hK hN hT hS hA (ct_Circuit_layChildren_Cc l dC dI cI cB cJ cZ cQ N H.size a v x2 s q_1 hc_2) hP hD rfl rfl wn_6_181 wn_6_183 sn_Circuit_layChildren wn_1_9 wn_6_184 rfl rfl (by decide +kernel) ⟨Nat.le_of_ble_eq_true rfl, Nat.le_of_ble_eq_true rfl⟩ rfl hl.1 rfl (Nat.le_of_ble_eq_true rfl) dn_Circuit_build_90 ⟨Nat.le_of_ble_eq_true rfl, Nat.le_of_ble_eq_true rfl⟩) hP hD hS hA (fun _ H locs hw hP hD hS => ?_)
        refine lv_aload_n hx hb dn_Circuit_build_93 rfl (lv_at hl 0 rfl) ?_
        refine lv_iload_n hx hb dn_Circuit_build_94 rfl (lv_at hl 1 rfl) ?_
        obtain ⟨q_3, hc_4, hf⟩ := dc_b hf
        refine dc_callv (dc_runV (ar := 1) (As := [.int x2]) (rest := []) (ci := 9) (q0 := 12) ⟨hx, hb, hml, hown, hg⟩ hK hN hT hS hA (ct_Circuit_laySignals_Cc l dC dI cI cB cJ cZ cQ N H.size a v x2 q_1.2 q_3 hc_4) hP hD rfl rfl wn_6_195 wn_6_197 sn_Circuit_laySignals wn_1_9 wn_6_198 rfl rfl (by decide +kernel) ⟨Nat.le_of_ble_eq_true rfl, Nat.le_of_ble_eq_true rfl⟩ rfl hl.1 rfl (Nat.le_of_ble_eq_true rfl) dn_Circuit_build_95 ⟨Nat.le_of_ble_eq_true rfl, Nat.le_of_ble_eq_true rfl⟩) hP hD hS hA (fun _ H locs hw hP hD hS => ?_)
        refine lv_iload_n hx hb dn_Circuit_build_98 rfl (lv_at hl 1 rfl) ?_
        refine lv_if_le (tgt := 107) hx hb dn_Circuit_build_99 (by decide) (fun h => ?_) (fun h => ?_)
        · have hf := (if_pos h).symm.trans hf
          refine lv_iinc (v := (x2 + 1)) (lv' := [(2, .int ((x2 + 1))), (0, .ref ((a 112)))]) hx hb dn_Circuit_build_107 hl (k := 1) rfl (dc_inc (by decide)) (by decide) rfl (fun ls hl => ?_)
          refine lv_goto (tgt := 80) hx hb dn_Circuit_build_110 (by decide) ?_
          exact hk_80 ((x2 + 1)) q_3.2 hf H locs ls hP hD hS (lv_sub hl [1, 0] rfl)
        · have hf := (if_neg h).symm.trans hf
          refine lv_aload_n hx hb dn_Circuit_build_102 rfl (lv_at hl 0 rfl) ?_
          refine lv_iload_n hx hb dn_Circuit_build_103 rfl (lv_at hl 1 rfl) ?_
          obtain ⟨q_5, hc_6, hf⟩ := dc_b hf
          refine dc_callv (dc_runV (ar := 1) (As := [.int x2]) (rest := []) (ci := 9) (q0 := 12) ⟨hx, hb, hml, hown, hg⟩ hK hN hT hS hA (ct_Circuit_layLinks_Cc l dC dI cI cB cJ cZ cQ N H.size a v x2 q_3.2 q_5 hc_6) hP hD rfl rfl wn_6_199 wn_6_201 sn_Circuit_layLinks wn_1_9 wn_6_202 rfl rfl (by decide +kernel) ⟨Nat.le_of_ble_eq_true rfl, Nat.le_of_ble_eq_true rfl⟩ rfl hl.1 rfl (Nat.le_of_ble_eq_true rfl) dn_Circuit_build_104 ⟨Nat.le_of_ble_eq_true rfl, Nat.le_of_ble_eq_true rfl⟩) hP hD hS hA (fun _ H locs hw hP hD hS => ?_)
          refine lv_iinc (v := (x2 + 1)) (lv' := [(2, .int ((x2 + 1))), (0, .ref ((a 112)))]) hx hb dn_Circuit_build_107 hl (k := 1) rfl (dc_inc (by decide)) (by decide) rfl (fun ls hl => ?_)
          refine lv_goto (tgt := 80) hx hb dn_Circuit_build_110 (by decide) ?_
          exact hk_80 ((x2 + 1)) q_5.2 hf H locs ls hP hD hS (lv_sub hl [1, 0] rfl)
  intro H locs ls hP hD hS hl
  unfold fn_Circuit_build_Cc at hf
  refine lv_aload_n hx hb dn_Circuit_build_0 rfl (lv_at hl 0 rfl) ?_
  refine va_get (D := (dC, dI)) (ci := 9) (v := .ref ((a 113))) (C := rn_Circuit) (T := fn_Circuit) (N := 14) hx hb hg in_Circuit hown hK hP 12 rfl rfl 0 (by decide) (hg _ wn_3_61) (fun _ h9 => h9) rfl dn_Circuit_build_1 ?_
  refine va_get (D := (dC, dI)) (ci := 10) (v := .int ((s.1 359 0))) (C := rn_Design) (T := fn_Design) (N := 16) hx hb hg in_Design hown hK hP 13 rfl rfl 4 (by decide) (hg _ wn_3_9) (fun _ h9 => h9) rfl dn_Circuit_build_4 ?_
  refine lv_iconst (v := 1) hx hb dn_Circuit_build_7 (by decide) ?_
  refine lv_isub hx hb dn_Circuit_build_8 ?_
  refine lv_istore_n (lv' := [(1, .int (((s.1 359 0) - 1))), (0, .ref ((a 112)))]) hx hb dn_Circuit_build_9 rfl hl (by decide) rfl (fun ls hl => ?_)
  refine lv_aload_n hx hb dn_Circuit_build_10 rfl (lv_at hl 1 rfl) ?_
  refine lv_aload_n hx hb dn_Circuit_build_11 rfl (lv_at hl 1 rfl) ?_
  refine va_get (D := (dC, dI)) (ci := 9) (v := .ref ((a 113))) (C := rn_Circuit) (T := fn_Circuit) (N := 14) hx hb hg in_Circuit hown hK hP 12 rfl rfl 0 (by decide) (hg _ wn_3_61) (fun _ h9 => h9) rfl dn_Circuit_build_12 ?_
  refine lv_iconst (v := 0) hx hb dn_Circuit_build_15 (by decide) ?_
  obtain ⟨q_1, hc_2, hf⟩ := dc_b hf
  refine dc_calli (dc_runV (ar := 1) (As := [.int 0]) (rest := [.ref ((a 112))]) (ci := 10) (q0 := 13) ⟨hx, hb, hml, hown, hg⟩ hK hN hT hS hA (ct_Design_sumOfTop_Dc l dC dI cI cB cJ cZ cQ N H.size a v 0 s q_1 hc_2) hP hD rfl rfl wn_6_176 wn_6_177 wn_6_178 wn_1_10 wn_6_179 rfl rfl (by decide +kernel) ⟨Nat.le_of_ble_eq_true rfl, Nat.le_of_ble_eq_true rfl⟩ rfl hl.1 rfl (Nat.le_of_ble_eq_true rfl) dn_Circuit_build_16 ⟨Nat.le_of_ble_eq_true rfl, Nat.le_of_ble_eq_true rfl⟩) hP hD hS hA (fun r_3 _ H locs hw hP hD hS => ?_)
  have hw : r_3 = q_1.1 := hw
  subst hw
  refine lv_aload_n hx hb dn_Circuit_build_19 rfl (lv_at hl 1 rfl) ?_
  refine va_get (D := (dC, dI)) (ci := 9) (v := .ref ((a 344))) (C := rn_Circuit) (T := fn_Circuit) (N := 14) hx hb hg in_Circuit hown hK hP 12 rfl rfl 3 (by decide) (hg _ wn_3_72) (fun _ h9 => h9) rfl dn_Circuit_build_20 ?_
  refine va_alen (v := 257) hx hb hK hP 76 0 rfl rfl rfl dn_Circuit_build_23 ?_
  refine va_mmin (x := q_1.1) (y := 257) (rest := [.ref ((a 112))]) hx hb (by rw [hml]; exact hl.1.symm) hown (hg _ wn_6_180) (hg _ wn_3_168) (hg _ wn_1_19) (hg _ wn_3_169) (Nat.le_of_ble_eq_true rfl) (Nat.le_of_ble_eq_true rfl) (Nat.zero_le _) (Nat.zero_le _) dn_Circuit_build_24 ?_
  refine va_put (D := (dC, dI)) (ci := 9) (v := .int ((if 257 < q_1.1 then 257 else q_1.1))) (ty := .int) (C := rn_Circuit) (T := fn_Circuit) (N := 14) hx hb hg in_Circuit tn_Circuit tk_Circuit nn_Circuit hown hK hP hD hS 12 rfl rfl 1 (by decide) (hg _ wn_3_65) (fun _ h9 => h9) rfl (tk_Circuit 1 (by decide)) rfl rfl (Nat.le_of_ble_eq_true rfl) dn_Circuit_build_27 (fun H locs hP hD hS => ?_)
  have hP := wC_P_342 hP
  have hD := wC_D_342 hD
  refine lv_aload_n hx hb dn_Circuit_build_30 rfl (lv_at hl 1 rfl) ?_
  refine lv_aload_n hx hb dn_Circuit_build_31 rfl (lv_at hl 1 rfl) ?_
  refine va_get (D := (dC, dI)) (ci := 9) (v := .ref ((a 113))) (C := rn_Circuit) (T := fn_Circuit) (N := 14) hx hb hg in_Circuit hown hK hP 12 rfl rfl 0 (by decide) (hg _ wn_3_61) (fun _ h9 => h9) rfl dn_Circuit_build_32 ?_
  refine lv_iconst (v := 1) hx hb dn_Circuit_build_35 (by decide) ?_
  obtain ⟨q_4, hc_5, hf⟩ := dc_b hf
  refine dc_calli (dc_runV (ar := 1) (As := [.int 1]) (rest := [.ref ((a 112))]) (ci := 10) (q0 := 13) ⟨hx, hb, hml, hown, hg⟩ hK hN hT hS hA (ct_Design_sumOfTop_Dc l dC dI cI cB cJ cZ cQ N H.size a v 1 (upI q_1.2 342 (fun _ => (if 257 < q_1.1 then 257 else q_1.1))) q_4 hc_5) hP hD rfl rfl wn_6_176 wn_6_177 wn_6_178 wn_1_10 wn_6_179 rfl rfl (by decide +kernel) ⟨Nat.le_of_ble_eq_true rfl, Nat.le_of_ble_eq_true rfl⟩ rfl hl.1 rfl (Nat.le_of_ble_eq_true rfl) dn_Circuit_build_36 ⟨Nat.le_of_ble_eq_true rfl, Nat.le_of_ble_eq_true rfl⟩) hP hD hS hA (fun r_6 _ H locs hw hP hD hS => ?_)
  have hw : r_6 = q_4.1 := hw
  subst hw
  refine lv_aload_n hx hb dn_Circuit_build_39 rfl (lv_at hl 1 rfl) ?_
  refine va_get (D := (dC, dI)) (ci := 9) (v := .ref ((a 348))) (C := rn_Circuit) (T := fn_Circuit) (N := 14) hx hb hg in_Circuit hown hK hP 12 rfl rfl 7 (by decide) (hg _ wn_3_78) (fun _ h9 => h9) rfl dn_Circuit_build_40 ?_
  refine va_alen (v := 1024) hx hb hK hP 80 0 rfl rfl rfl dn_Circuit_build_43 ?_
  refine va_mmin (x := q_4.1) (y := 1024) (rest := [.ref ((a 112))]) hx hb (by rw [hml]; exact hl.1.symm) hown (hg _ wn_6_180) (hg _ wn_3_168) (hg _ wn_1_19) (hg _ wn_3_169) (Nat.le_of_ble_eq_true rfl) (Nat.le_of_ble_eq_true rfl) (Nat.zero_le _) (Nat.zero_le _) dn_Circuit_build_44 ?_
  refine va_put (D := (dC, dI)) (ci := 9) (v := .int ((if 1024 < q_4.1 then 1024 else q_4.1))) (ty := .int) (C := rn_Circuit) (T := fn_Circuit) (N := 14) hx hb hg in_Circuit tn_Circuit tk_Circuit nn_Circuit hown hK hP hD hS 12 rfl rfl 2 (by decide) (hg _ wn_3_70) (fun _ h9 => h9) rfl (tk_Circuit 2 (by decide)) rfl rfl (Nat.le_of_ble_eq_true rfl) dn_Circuit_build_47 (fun H locs hP hD hS => ?_)
  have hP := wC_P_343 hP
  have hD := wC_D_343 hD
  refine lv_aload_n hx hb dn_Circuit_build_50 rfl (lv_at hl 1 rfl) ?_
  refine va_get (D := (dC, dI)) (ci := 9) (v := .ref ((a 344))) (C := rn_Circuit) (T := fn_Circuit) (N := 14) hx hb hg in_Circuit hown hK hP 12 rfl rfl 3 (by decide) (hg _ wn_3_72) (fun _ h9 => h9) rfl dn_Circuit_build_51 ?_
  refine lv_iconst (v := 0) hx hb dn_Circuit_build_54 (by decide) ?_
  refine lv_iconst (v := 0) hx hb dn_Circuit_build_55 (by decide) ?_
  refine va_iast hx hb hK hP hD hS 76 0 rfl rfl (show ¬ (_ ∨ _) by decide) dn_Circuit_build_56 (fun H locs hP hD hS => ?_)
  have hP : va_P (dC, dI) xcl ((wC a v cI cB cJ cZ cQ (upI q_4.2 343 (fun _ => (if 1024 < q_4.1 then 1024 else q_4.1)))).set 76 ((a 344), .inl (cI, 257, .inl (upd (q_4.2.1 344) 0 0)))) H := hP
  have hD : va_D A ((wC a v cI cB cJ cZ cQ (upI q_4.2 343 (fun _ => (if 1024 < q_4.1 then 1024 else q_4.1)))).set 76 ((a 344), .inl (cI, 257, .inl (upd (q_4.2.1 344) 0 0)))) := hD
  have hP := wC_P_344 hP
  have hD := wC_D_344 hD
  refine lv_aload_n hx hb dn_Circuit_build_57 rfl (lv_at hl 1 rfl) ?_
  refine va_get (D := (dC, dI)) (ci := 9) (v := .ref ((a 345))) (C := rn_Circuit) (T := fn_Circuit) (N := 14) hx hb hg in_Circuit hown hK hP 12 rfl rfl 4 (by decide) (hg _ wn_3_74) (fun _ h9 => h9) rfl dn_Circuit_build_58 ?_
  refine lv_iconst (v := 0) hx hb dn_Circuit_build_61 (by decide) ?_
  refine lv_iload_n hx hb dn_Circuit_build_62 rfl (lv_at hl 0 rfl) ?_
  refine va_iast hx hb hK hP hD hS 77 0 rfl rfl (show ¬ (_ ∨ _) by decide) dn_Circuit_build_63 (fun H locs hP hD hS => ?_)
  have hP : va_P (dC, dI) xcl ((wC a v cI cB cJ cZ cQ (upI (upI q_4.2 343 (fun _ => (if 1024 < q_4.1 then 1024 else q_4.1))) 344 (upd (q_4.2.1 344) 0 0))).set 77 ((a 345), .inl (cI, 257, .inl (upd (q_4.2.1 345) 0 (((s.1 359 0) - 1)))))) H := hP
  have hD : va_D A ((wC a v cI cB cJ cZ cQ (upI (upI q_4.2 343 (fun _ => (if 1024 < q_4.1 then 1024 else q_4.1))) 344 (upd (q_4.2.1 344) 0 0))).set 77 ((a 345), .inl (cI, 257, .inl (upd (q_4.2.1 345) 0 (((s.1 359 0) - 1)))))) := hD
  have hP := wC_P_345 hP
  have hD := wC_D_345 hD
  refine lv_aload_n hx hb dn_Circuit_build_64 rfl (lv_at hl 1 rfl) ?_
  refine va_get (D := (dC, dI)) (ci := 9) (v := .ref ((a 346))) (C := rn_Circuit) (T := fn_Circuit) (N := 14) hx hb hg in_Circuit hown hK hP 12 rfl rfl 5 (by decide) (hg _ wn_3_76) (fun _ h9 => h9) rfl dn_Circuit_build_65 ?_
  refine lv_iconst (v := 0) hx hb dn_Circuit_build_68 (by decide) ?_
  refine lv_iconst (v := (-1)) hx hb dn_Circuit_build_69 (by decide) ?_
  refine va_iast hx hb hK hP hD hS 78 0 rfl rfl (show ¬ (_ ∨ _) by decide) dn_Circuit_build_70 (fun H locs hP hD hS => ?_)
  have hP : va_P (dC, dI) xcl ((wC a v cI cB cJ cZ cQ (upI (upI (upI q_4.2 343 (fun _ => (if 1024 < q_4.1 then 1024 else q_4.1))) 344 (upd (q_4.2.1 344) 0 0)) 345 (upd (q_4.2.1 345) 0 (((s.1 359 0) - 1))))).set 78 ((a 346), .inl (cI, 257, .inl (upd (q_4.2.1 346) 0 ((-1)))))) H := hP
  have hD : va_D A ((wC a v cI cB cJ cZ cQ (upI (upI (upI q_4.2 343 (fun _ => (if 1024 < q_4.1 then 1024 else q_4.1))) 344 (upd (q_4.2.1 344) 0 0)) 345 (upd (q_4.2.1 345) 0 (((s.1 359 0) - 1))))).set 78 ((a 346), .inl (cI, 257, .inl (upd (q_4.2.1 346) 0 ((-1)))))) := hD
  have hP := wC_P_346 hP
  have hD := wC_D_346 hD
  refine lv_aload_n hx hb dn_Circuit_build_71 rfl (lv_at hl 1 rfl) ?_
  refine va_get (D := (dC, dI)) (ci := 9) (v := .ref ((a 347))) (C := rn_Circuit) (T := fn_Circuit) (N := 14) hx hb hg in_Circuit hown hK hP 12 rfl rfl 6 (by decide) (hg _ wn_3_77) (fun _ h9 => h9) rfl dn_Circuit_build_72 ?_
  refine lv_iconst (v := 0) hx hb dn_Circuit_build_75 (by decide) ?_
  refine lv_iconst (v := (-1)) hx hb dn_Circuit_build_76 (by decide) ?_
  refine va_iast hx hb hK hP hD hS 79 0 rfl rfl (show ¬ (_ ∨ _) by decide) dn_Circuit_build_77 (fun H locs hP hD hS => ?_)
  have hP : va_P (dC, dI) xcl ((wC a v cI cB cJ cZ cQ (upI (upI (upI (upI q_4.2 343 (fun _ => (if 1024 < q_4.1 then 1024 else q_4.1))) 344 (upd (q_4.2.1 344) 0 0)) 345 (upd (q_4.2.1 345) 0 (((s.1 359 0) - 1)))) 346 (upd (q_4.2.1 346) 0 ((-1))))).set 79 ((a 347), .inl (cI, 257, .inl (upd (q_4.2.1 347) 0 ((-1)))))) H := hP
  have hD : va_D A ((wC a v cI cB cJ cZ cQ (upI (upI (upI (upI q_4.2 343 (fun _ => (if 1024 < q_4.1 then 1024 else q_4.1))) 344 (upd (q_4.2.1 344) 0 0)) 345 (upd (q_4.2.1 345) 0 (((s.1 359 0) - 1)))) 346 (upd (q_4.2.1 346) 0 ((-1))))).set 79 ((a 347), .inl (cI, 257, .inl (upd (q_4.2.1 347) 0 ((-1)))))) := hD
  have hP := wC_P_347 hP
  have hD := wC_D_347 hD
  refine lv_iconst (v := 0) hx hb dn_Circuit_build_78 (by decide) ?_
  refine lv_istore_n (lv' := [(2, .int 0), (1, .int (((s.1 359 0) - 1))), (0, .ref ((a 112)))]) hx hb dn_Circuit_build_79 rfl hl (by decide) rfl (fun ls hl => ?_)
  exact hd_80 N 0 (upI (upI (upI (upI (upI q_4.2 343 (fun _ => (if 1024 < q_4.1 then 1024 else q_4.1))) 344 (upd (q_4.2.1 344) 0 0)) 345 (upd (q_4.2.1 345) 0 (((s.1 359 0) - 1)))) 346 (upd (q_4.2.1 346) 0 ((-1)))) 347 (upd (q_4.2.1 347) 0 ((-1)))) hf H locs ls hP hD hS (lv_sub hl [2, 0] rfl)
set_option maxHeartbeats 8000000 in
set_option maxRecDepth 100000 in
theorem ct_Order_enter_Or (l : Launch) (dC : Nat → ClassId) (dI : Nat → Nat → Nat) (cI cB cJ cZ cQ : ClassId) (N sz : Nat) (a : Nat → Nat) (v : Nat → Value) (hv_7 : v 7 = .ref (a 108)) (v1 : Int32) (s : ms) (y : (Unit × ms)) (hf : fn_Order_enter_Or N v1 s = some y) : Met l yn_Order_enter (xw yn_Order_enter bn_Order_enter 2 none) ({ frames := 0, cells := 0, slots := 0, locals := 0 }) (dc_P (dC, dI) xcl (xt cI cB cJ cZ cQ) [.ref ((a 106)), .int v1] sz (wC a v cI cB cJ cZ cQ s)) (xk_Qv (dC, dI) xcl (xt cI cB cJ cZ cQ) (fun _ : Unit => True) (fun u : Unit => (wC a v cI cB cJ cZ cQ y.2)) (va_A (wC a v cI cB cJ cZ cQ s) sz)) 0 0 (va_A (wC a v cI cB cJ cZ cQ s) sz) := by
  refine dc_of (QA := xk_Qv (dC, dI) xcl (xt cI cB cJ cZ cQ) (fun _ : Unit => True) (fun u : Unit => (wC a v cI cB cJ cZ cQ y.2))) (by decide) (Nat.le_of_ble_eq_true rfl) ?_
  intro p e s0 m below meth c hx hb hml hown hg hr hlocks hin hP hK hN A hA hD hT ls hl
  have hown : s0.vm.findClass rn_Order = some m.cls := hown
  obtain ⟨H, hH⟩ : ∃ z, z = s0.heap := ⟨_, rfl⟩
  rw [← hH] at hP
  have hS : va_S A s0.heap H [] := by rw [hH]; exact va_S.rf
  suffices kk : ∀ QQ : State → Prop, QQ = MQ below (xk_Qv (dC, dI) xcl (xt cI cB cJ cZ cQ) (fun _ : Unit => True) (fun u : Unit => (wC a v cI cB cJ cZ cQ y.2)) A) [.ref ((a 106)), .int v1].toArray s0 0 0 A → dcC p l e ({ frames := 0, cells := 0, slots := 0, locals := 0 }) s0 m [.ref ((a 106)), .int v1].toArray below meth c QQ (dC, dI) A (wC a v cI cB cJ cZ cQ s) 0 2 [(0, .ref ((a 106))), (1, .int v1)] [] by
    have k9 := kk _ rfl H [] ls hP hD hS hl
    rw [hH] at k9; exact k9
  clear hP hD hS hl hH H ls
  intro QQ hQQ
  intro H locs ls hP hD hS hl
  unfold fn_Order_enter_Or at hf
  refine lv_aload_n hx hb dn_Order_enter_0 rfl (lv_at hl 0 rfl) ?_
  refine va_get (D := (dC, dI)) (ci := 7) (v := .int ((s.1 282 0))) (C := rn_Order) (T := fn_Order) (N := 10) hx hb hg in_Order hown hK hP 6 rfl rfl 6 (by decide) (hg _ wn_2_58) (fun _ h9 => h9) rfl dn_Order_enter_1 ?_
  refine lv_aload_n hx hb dn_Order_enter_4 rfl (lv_at hl 0 rfl) ?_
  refine va_get (D := (dC, dI)) (ci := 7) (v := .ref ((a 280))) (C := rn_Order) (T := fn_Order) (N := 10) hx hb hg in_Order hown hK hP 6 rfl rfl 4 (by decide) (hg _ wn_2_56) (fun _ h9 => h9) rfl dn_Order_enter_5 ?_
  refine va_alen (v := 1024) hx hb hK hP 37 0 rfl rfl rfl dn_Order_enter_8 ?_
  refine lv_icmp_ge (tgt := 24) hx hb dn_Order_enter_9 (by decide) (fun h => ?_) (fun h => ?_)
  · have hf := (if_pos h).symm.trans hf
    rw [hQQ, ← Option.some.inj hf]
    exact xk_vret (w1 := fun u : Unit => (wC a v cI cB cJ cZ cQ s)) () hx hb hr hlocks hK hS dn_Order_enter_24 hP hD trivial (Nat.le_refl _) (Nat.le_refl _)
  · have hf := (if_neg h).symm.trans hf
    refine lv_aload_n hx hb dn_Order_enter_12 rfl (lv_at hl 0 rfl) ?_
    refine va_get (D := (dC, dI)) (ci := 7) (v := .int ((s.1 283 0))) (C := rn_Order) (T := fn_Order) (N := 10) hx hb hg in_Order hown hK hP 6 rfl rfl 7 (by decide) (hg _ wn_2_59) (fun _ h9 => h9) rfl dn_Order_enter_13 ?_
    refine lv_aload_n hx hb dn_Order_enter_16 rfl (lv_at hl 0 rfl) ?_
    refine va_get (D := (dC, dI)) (ci := 7) (v := .ref ((a 281))) (C := rn_Order) (T := fn_Order) (N := 10) hx hb hg in_Order hown hK hP 6 rfl rfl 5 (by decide) (hg _ wn_2_57) (fun _ h9 => h9) rfl dn_Order_enter_17 ?_
    refine va_alen (v := 1024) hx hb hK hP 38 0 rfl rfl rfl dn_Order_enter_20 ?_
    refine lv_icmp_lt (tgt := 25) hx hb dn_Order_enter_21 (by decide) (fun h => ?_) (fun h => ?_)
    · have hf := (if_pos h).symm.trans hf
      refine lv_aload_n hx hb dn_Order_enter_25 rfl (lv_at hl 0 rfl) ?_
      refine lv_dup hx hb dn_Order_enter_26 rfl ?_
      refine va_get (D := (dC, dI)) (ci := 7) (v := .int ((s.1 284 0))) (C := rn_Order) (T := fn_Order) (N := 10) hx hb hg in_Order hown hK hP 6 rfl rfl 8 (by decide) (hg _ wn_2_60) (fun _ h9 => h9) rfl dn_Order_enter_27 ?_
      refine lv_iconst (v := 1) hx hb dn_Order_enter_30 (by decide) ?_
      refine lv_iadd hx hb dn_Order_enter_31 ?_
      refine va_put (D := (dC, dI)) (ci := 7) (v := .int (((s.1 284 0) + 1))) (ty := .int) (C := rn_Order) (T := fn_Order) (N := 10) hx hb hg in_Order tn_Order tk_Order nn_Order hown hK hP hD hS 6 rfl rfl 8 (by decide) (hg _ wn_2_60) (fun _ h9 => h9) rfl (tk_Order 8 (by decide)) rfl rfl (Nat.le_of_ble_eq_true rfl) dn_Order_enter_32 (fun H locs hP hD hS => ?_)
      have hP := wC_P_284 hP
      have hD := wC_D_284 hD
      refine lv_aload_n hx hb dn_Order_enter_35 rfl (lv_at hl 0 rfl) ?_
      refine va_get (D := (dC, dI)) (ci := 7) (v := .ref ((a 277))) (C := rn_Order) (T := fn_Order) (N := 10) hx hb hg in_Order hown hK hP 6 rfl rfl 1 (by decide) (hg _ wn_2_53) (fun _ h9 => h9) rfl dn_Order_enter_36 ?_
      refine lv_iload_n hx hb dn_Order_enter_39 rfl (lv_at hl 1 rfl) ?_
      refine lv_aload_n hx hb dn_Order_enter_40 rfl (lv_at hl 0 rfl) ?_
      refine va_get (D := (dC, dI)) (ci := 7) (v := .int (((s.1 284 0) + 1))) (C := rn_Order) (T := fn_Order) (N := 10) hx hb hg in_Order hown hK hP 6 rfl rfl 8 (by decide) (hg _ wn_2_60) (fun _ h9 => h9) rfl dn_Order_enter_41 ?_
      obtain ⟨hg_1, hf⟩ := dc_g hf
      refine va_iast hx hb hK hP hD hS 34 0 rfl rfl hg_1 dn_Order_enter_44 (fun H locs hP hD hS => ?_)
      have hP : va_P (dC, dI) xcl ((wC a v cI cB cJ cZ cQ (upI s 284 (fun _ => ((s.1 284 0) + 1)))).set 34 ((a 277), .inl (cI, 1024, .inl (upd (s.1 277) (Int32.toNatClampNeg v1) (((s.1 284 0) + 1)))))) H := hP
      have hD : va_D A ((wC a v cI cB cJ cZ cQ (upI s 284 (fun _ => ((s.1 284 0) + 1)))).set 34 ((a 277), .inl (cI, 1024, .inl (upd (s.1 277) (Int32.toNatClampNeg v1) (((s.1 284 0) + 1)))))) := hD
      have hP := wC_P_277 hP
      have hD := wC_D_277 hD
      refine lv_aload_n hx hb dn_Order_enter_45 rfl (lv_at hl 0 rfl) ?_
      refine va_get (D := (dC, dI)) (ci := 7) (v := .ref ((a 278))) (C := rn_Order) (T := fn_Order) (N := 10) hx hb hg in_Order hown hK hP 6 rfl rfl 2 (by decide) (hg _ wn_2_54) (fun _ h9 => h9) rfl dn_Order_enter_46 ?_
      refine lv_iload_n hx hb dn_Order_enter_49 rfl (lv_at hl 1 rfl) ?_
      refine lv_aload_n hx hb dn_Order_enter_50 rfl (lv_at hl 0 rfl) ?_
      refine va_get (D := (dC, dI)) (ci := 7) (v := .int (((s.1 284 0) + 1))) (C := rn_Order) (T := fn_Order) (N := 10) hx hb hg in_Order hown hK hP 6 rfl rfl 8 (by decide) (hg _ wn_2_60) (fun _ h9 => h9) rfl dn_Order_enter_51 ?_
      obtain ⟨hg_2, hf⟩ := dc_g hf
      refine va_iast hx hb hK hP hD hS 35 0 rfl rfl hg_2 dn_Order_enter_54 (fun H locs hP hD hS => ?_)
      have hP : va_P (dC, dI) xcl ((wC a v cI cB cJ cZ cQ (upI (upI s 284 (fun _ => ((s.1 284 0) + 1))) 277 (upd (s.1 277) (Int32.toNatClampNeg v1) (((s.1 284 0) + 1))))).set 35 ((a 278), .inl (cI, 1024, .inl (upd (s.1 278) (Int32.toNatClampNeg v1) (((s.1 284 0) + 1)))))) H := hP
      have hD : va_D A ((wC a v cI cB cJ cZ cQ (upI (upI s 284 (fun _ => ((s.1 284 0) + 1))) 277 (upd (s.1 277) (Int32.toNatClampNeg v1) (((s.1 284 0) + 1))))).set 35 ((a 278), .inl (cI, 1024, .inl (upd (s.1 278) (Int32.toNatClampNeg v1) (((s.1 284 0) + 1)))))) := hD
      have hP := wC_P_278 hP
      have hD := wC_D_278 hD
      refine lv_aload_n hx hb dn_Order_enter_55 rfl (lv_at hl 0 rfl) ?_
      refine va_get (D := (dC, dI)) (ci := 7) (v := .ref ((a 279))) (C := rn_Order) (T := fn_Order) (N := 10) hx hb hg in_Order hown hK hP 6 rfl rfl 3 (by decide) (hg _ wn_2_55) (fun _ h9 => h9) rfl dn_Order_enter_56 ?_
      refine lv_iload_n hx hb dn_Order_enter_59 rfl (lv_at hl 1 rfl) ?_
      refine lv_aload_n hx hb dn_Order_enter_60 rfl (lv_at hl 0 rfl) ?_
      refine va_get (D := (dC, dI)) (ci := 7) (v := .ref ((a 108))) (C := rn_Order) (T := fn_Order) (N := 10) hx hb hg in_Order hown hK hP 6 rfl rfl 0 (by decide) (hg _ wn_2_52) (fun _ h9 => h9) (congrArg some hv_7) dn_Order_enter_61 ?_
      refine va_get (D := (dC, dI)) (ci := 9) (v := .ref ((a 299))) (C := rn_Circuit) (T := fn_Circuit) (N := 14) hx hb hg in_Circuit hown hK hP 8 rfl rfl 8 (by decide) (hg _ wn_3_80) (fun _ h9 => h9) rfl dn_Order_enter_64 ?_
      refine lv_iload_n hx hb dn_Order_enter_67 rfl (lv_at hl 1 rfl) ?_
      obtain ⟨hg_3, hf⟩ := dc_g hf
      refine va_iald hx hb hK hP 47 0 rfl rfl hg_3 dn_Order_enter_68 ?_
      refine xk_ti (y := ((s.1 299) (Int32.toNatClampNeg v1))) rfl ?_
      obtain ⟨hg_4, hf⟩ := dc_g hf
      refine va_iast hx hb hK hP hD hS 36 0 rfl rfl hg_4 dn_Order_enter_69 (fun H locs hP hD hS => ?_)
      have hP : va_P (dC, dI) xcl ((wC a v cI cB cJ cZ cQ (upI (upI (upI s 284 (fun _ => ((s.1 284 0) + 1))) 277 (upd (s.1 277) (Int32.toNatClampNeg v1) (((s.1 284 0) + 1)))) 278 (upd (s.1 278) (Int32.toNatClampNeg v1) (((s.1 284 0) + 1))))).set 36 ((a 279), .inl (cI, 1024, .inl (upd (s.1 279) (Int32.toNatClampNeg v1) (((s.1 299) (Int32.toNatClampNeg v1))))))) H := hP
      have hD : va_D A ((wC a v cI cB cJ cZ cQ (upI (upI (upI s 284 (fun _ => ((s.1 284 0) + 1))) 277 (upd (s.1 277) (Int32.toNatClampNeg v1) (((s.1 284 0) + 1)))) 278 (upd (s.1 278) (Int32.toNatClampNeg v1) (((s.1 284 0) + 1))))).set 36 ((a 279), .inl (cI, 1024, .inl (upd (s.1 279) (Int32.toNatClampNeg v1) (((s.1 299) (Int32.toNatClampNeg v1))))))) := hD
      have hP := wC_P_279 hP
      have hD := wC_D_279 hD
      refine lv_aload_n hx hb dn_Order_enter_70 rfl (lv_at hl 0 rfl) ?_
      refine va_get (D := (dC, dI)) (ci := 7) (v := .ref ((a 280))) (C := rn_Order) (T := fn_Order) (N := 10) hx hb hg in_Order hown hK hP 6 rfl rfl 4 (by decide) (hg _ wn_2_56) (fun _ h9 => h9) rfl dn_Order_enter_71 ?_
      refine lv_aload_n hx hb dn_Order_enter_74 rfl (lv_at hl 0 rfl) ?_
      refine va_get (D := (dC, dI)) (ci := 7) (v := .int ((s.1 282 0))) (C := rn_Order) (T := fn_Order) (N := 10) hx hb hg in_Order hown hK hP 6 rfl rfl 6 (by decide) (hg _ wn_2_58) (fun _ h9 => h9) rfl dn_Order_enter_75 ?_
      refine lv_iload_n hx hb dn_Order_enter_78 rfl (lv_at hl 1 rfl) ?_
      obtain ⟨hg_5, hf⟩ := dc_g hf
      refine va_iast hx hb hK hP hD hS 37 0 rfl rfl hg_5 dn_Order_enter_79 (fun H locs hP hD hS => ?_)
      have hP : va_P (dC, dI) xcl ((wC a v cI cB cJ cZ cQ (upI (upI (upI (upI s 284 (fun _ => ((s.1 284 0) + 1))) 277 (upd (s.1 277) (Int32.toNatClampNeg v1) (((s.1 284 0) + 1)))) 278 (upd (s.1 278) (Int32.toNatClampNeg v1) (((s.1 284 0) + 1)))) 279 (upd (s.1 279) (Int32.toNatClampNeg v1) (((s.1 299) (Int32.toNatClampNeg v1)))))).set 37 ((a 280), .inl (cI, 1024, .inl (upd (s.1 280) (Int32.toNatClampNeg ((s.1 282 0))) v1)))) H := hP
      have hD : va_D A ((wC a v cI cB cJ cZ cQ (upI (upI (upI (upI s 284 (fun _ => ((s.1 284 0) + 1))) 277 (upd (s.1 277) (Int32.toNatClampNeg v1) (((s.1 284 0) + 1)))) 278 (upd (s.1 278) (Int32.toNatClampNeg v1) (((s.1 284 0) + 1)))) 279 (upd (s.1 279) (Int32.toNatClampNeg v1) (((s.1 299) (Int32.toNatClampNeg v1)))))).set 37 ((a 280), .inl (cI, 1024, .inl (upd (s.1 280) (Int32.toNatClampNeg ((s.1 282 0))) v1)))) := hD
      have hP := wC_P_280 hP
      have hD := wC_D_280 hD
      refine lv_aload_n hx hb dn_Order_enter_80 rfl (lv_at hl 0 rfl) ?_
      refine lv_dup hx hb dn_Order_enter_81 rfl ?_
      refine va_get (D := (dC, dI)) (ci := 7) (v := .int ((s.1 282 0))) (C := rn_Order) (T := fn_Order) (N := 10) hx hb hg in_Order hown hK hP 6 rfl rfl 6 (by decide) (hg _ wn_2_58) (fun _ h9 => h9) rfl dn_Order_enter_82 ?_
      refine lv_iconst (v := 1) hx hb dn_Order_enter_85 (by decide) ?_
      refine lv_iadd hx hb dn_Order_enter_86 ?_
      refine va_put (D := (dC, dI)) (ci := 7) (v := .int (((s.1 282 0) + 1))) (ty := .int) (C := rn_Order) (T := fn_Order) (N := 10) hx hb hg in_Order tn_Order tk_Order nn_Order hown hK hP hD hS 6 rfl rfl 6 (by decide) (hg _ wn_2_58) (fun _ h9 => h9) rfl (tk_Order 6 (by decide)) rfl rfl (Nat.le_of_ble_eq_true rfl) dn_Order_enter_87 (fun H locs hP hD hS => ?_)
      have hP := wC_P_282 hP
      have hD := wC_D_282 hD
      refine lv_aload_n hx hb dn_Order_enter_90 rfl (lv_at hl 0 rfl) ?_
      refine va_get (D := (dC, dI)) (ci := 7) (v := .ref ((a 281))) (C := rn_Order) (T := fn_Order) (N := 10) hx hb hg in_Order hown hK hP 6 rfl rfl 5 (by decide) (hg _ wn_2_57) (fun _ h9 => h9) rfl dn_Order_enter_91 ?_
      refine lv_aload_n hx hb dn_Order_enter_94 rfl (lv_at hl 0 rfl) ?_
      refine va_get (D := (dC, dI)) (ci := 7) (v := .int ((s.1 283 0))) (C := rn_Order) (T := fn_Order) (N := 10) hx hb hg in_Order hown hK hP 6 rfl rfl 7 (by decide) (hg _ wn_2_59) (fun _ h9 => h9) rfl dn_Order_enter_95 ?_
      refine lv_iload_n hx hb dn_Order_enter_98 rfl (lv_at hl 1 rfl) ?_
      obtain ⟨hg_6, hf⟩ := dc_g hf
      refine va_iast hx hb hK hP hD hS 38 0 rfl rfl hg_6 dn_Order_enter_99 (fun H locs hP hD hS => ?_)
      have hP : va_P (dC, dI) xcl ((wC a v cI cB cJ cZ cQ (upI (upI (upI (upI (upI (upI s 284 (fun _ => ((s.1 284 0) + 1))) 277 (upd (s.1 277) (Int32.toNatClampNeg v1) (((s.1 284 0) + 1)))) 278 (upd (s.1 278) (Int32.toNatClampNeg v1) (((s.1 284 0) + 1)))) 279 (upd (s.1 279) (Int32.toNatClampNeg v1) (((s.1 299) (Int32.toNatClampNeg v1))))) 280 (upd (s.1 280) (Int32.toNatClampNeg ((s.1 282 0))) v1)) 282 (fun _ => ((s.1 282 0) + 1)))).set 38 ((a 281), .inl (cI, 1024, .inl (upd (s.1 281) (Int32.toNatClampNeg ((s.1 283 0))) v1)))) H := hP
      have hD : va_D A ((wC a v cI cB cJ cZ cQ (upI (upI (upI (upI (upI (upI s 284 (fun _ => ((s.1 284 0) + 1))) 277 (upd (s.1 277) (Int32.toNatClampNeg v1) (((s.1 284 0) + 1)))) 278 (upd (s.1 278) (Int32.toNatClampNeg v1) (((s.1 284 0) + 1)))) 279 (upd (s.1 279) (Int32.toNatClampNeg v1) (((s.1 299) (Int32.toNatClampNeg v1))))) 280 (upd (s.1 280) (Int32.toNatClampNeg ((s.1 282 0))) v1)) 282 (fun _ => ((s.1 282 0) + 1)))).set 38 ((a 281), .inl (cI, 1024, .inl (upd (s.1 281) (Int32.toNatClampNeg ((s.1 283 0))) v1)))) := hD
      have hP := wC_P_281 hP
      have hD := wC_D_281 hD
      refine lv_aload_n hx hb dn_Order_enter_100 rfl (lv_at hl 0 rfl) ?_
      refine lv_dup hx hb dn_Order_enter_101 rfl ?_
      refine va_get (D := (dC, dI)) (ci := 7) (v := .int ((s.1 283 0))) (C := rn_Order) (T := fn_Order) (N := 10) hx hb hg in_Order hown hK hP 6 rfl rfl 7 (by decide) (hg _ wn_2_59) (fun _ h9 => h9) rfl dn_Order_enter_102 ?_
      refine lv_iconst (v := 1) hx hb dn_Order_enter_105 (by decide) ?_
      refine lv_iadd hx hb dn_Order_enter_106 ?_
      refine va_put (D := (dC, dI)) (ci := 7) (v := .int (((s.1 283 0) + 1))) (ty := .int) (C := rn_Order) (T := fn_Order) (N := 10) hx hb hg in_Order tn_Order tk_Order nn_Order hown hK hP hD hS 6 rfl rfl 7 (by decide) (hg _ wn_2_59) (fun _ h9 => h9) rfl (tk_Order 7 (by decide)) rfl rfl (Nat.le_of_ble_eq_true rfl) dn_Order_enter_107 (fun H locs hP hD hS => ?_)
      have hP := wC_P_283 hP
      have hD := wC_D_283 hD
      rw [hQQ, ← Option.some.inj hf]
      exact xk_vret (w1 := fun u : Unit => (wC a v cI cB cJ cZ cQ (upI (upI (upI (upI (upI (upI (upI (upI s 284 (fun _ => ((s.1 284 0) + 1))) 277 (upd (s.1 277) (Int32.toNatClampNeg v1) (((s.1 284 0) + 1)))) 278 (upd (s.1 278) (Int32.toNatClampNeg v1) (((s.1 284 0) + 1)))) 279 (upd (s.1 279) (Int32.toNatClampNeg v1) (((s.1 299) (Int32.toNatClampNeg v1))))) 280 (upd (s.1 280) (Int32.toNatClampNeg ((s.1 282 0))) v1)) 282 (fun _ => ((s.1 282 0) + 1))) 281 (upd (s.1 281) (Int32.toNatClampNeg ((s.1 283 0))) v1)) 283 (fun _ => ((s.1 283 0) + 1))))) () hx hb hr hlocks hK hS dn_Order_enter_110 hP hD trivial (Nat.le_refl _) (Nat.le_refl _)
    · have hf := (if_neg h).symm.trans hf
      rw [hQQ, ← Option.some.inj hf]
      exact xk_vret (w1 := fun u : Unit => (wC a v cI cB cJ cZ cQ s)) () hx hb hr hlocks hK hS dn_Order_enter_24 hP hD trivial (Nat.le_refl _) (Nat.le_refl _)
set_option maxHeartbeats 8000000 in
set_option maxRecDepth 100000 in
theorem ct_Code_opAt_Ks (l : Launch) (dC : Nat → ClassId) (dI : Nat → Nat → Nat) (cI cB cJ cZ cQ : ClassId) (N sz : Nat) (a : Nat → Nat) (v : Nat → Value) (v1 : Int32) (s : ms) (y : (Int32 × ms)) (hf : fn_Code_opAt_Ks N v1 s = some y) : Met l yn_Code_opAt (xw yn_Code_opAt bn_Code_opAt 2 (some .int)) ({ frames := 0, cells := 0, slots := 0, locals := 0 }) (dc_P (dC, dI) xcl (xt cI cB cJ cZ cQ) [.ref ((a 111)), .int v1] sz (wC a v cI cB cJ cZ cQ s)) (xk_Qi (dC, dI) xcl (xt cI cB cJ cZ cQ) (fun (r : Int32) (_ : Unit) => r = y.1) (fun u : Unit => (wC a v cI cB cJ cZ cQ y.2)) (va_A (wC a v cI cB cJ cZ cQ s) sz)) 0 0 (va_A (wC a v cI cB cJ cZ cQ s) sz) := by
  refine dc_of (QA := xk_Qi (dC, dI) xcl (xt cI cB cJ cZ cQ) (fun (r : Int32) (_ : Unit) => r = y.1) (fun u : Unit => (wC a v cI cB cJ cZ cQ y.2))) (by decide) (Nat.le_of_ble_eq_true rfl) ?_
  intro p e s0 m below meth c hx hb hml hown hg hr hlocks hin hP hK hN A hA hD hT ls hl
  have hown : s0.vm.findClass rn_Code = some m.cls := hown
  obtain ⟨H, hH⟩ : ∃ z, z = s0.heap := ⟨_, rfl⟩
  rw [← hH] at hP
  have hS : va_S A s0.heap H [] := by rw [hH]; exact va_S.rf
  suffices kk : ∀ QQ : State → Prop, QQ = MQ below (xk_Qi (dC, dI) xcl (xt cI cB cJ cZ cQ) (fun (r : Int32) (_ : Unit) => r = y.1) (fun u : Unit => (wC a v cI cB cJ cZ cQ y.2)) A) [.ref ((a 111)), .int v1].toArray s0 0 0 A → dcC p l e ({ frames := 0, cells := 0, slots := 0, locals := 0 }) s0 m [.ref ((a 111)), .int v1].toArray below meth c QQ (dC, dI) A (wC a v cI cB cJ cZ cQ s) 0 2 [(0, .ref ((a 111))), (1, .int v1)] [] by
    have k9 := kk _ rfl H [] ls hP hD hS hl
    rw [hH] at k9; exact k9
  clear hP hD hS hl hH H ls
  intro QQ hQQ
  intro H locs ls hP hD hS hl
  unfold fn_Code_opAt_Ks at hf
  refine lv_iload_n hx hb dn_Code_opAt_0 rfl (lv_at hl 1 rfl) ?_
  refine lv_if_lt (tgt := 25) hx hb dn_Code_opAt_1 (by decide) (fun h => ?_) (fun h => ?_)
  · have hf := (if_pos h).symm.trans hf
    refine lv_iconst (v := (-1)) hx hb dn_Code_opAt_25 (by decide) ?_
    rw [hQQ, ← Option.some.inj hf]
    exact xk_iret (w1 := fun u : Unit => (wC a v cI cB cJ cZ cQ s)) () hx hb hr hlocks hK hS dn_Code_opAt_26 hP hD rfl (Nat.le_refl _) (Nat.le_refl _)
  · have hf := (if_neg h).symm.trans hf
    refine lv_iload_n hx hb dn_Code_opAt_4 rfl (lv_at hl 1 rfl) ?_
    refine lv_aload_n hx hb dn_Code_opAt_5 rfl (lv_at hl 0 rfl) ?_
    refine va_get (D := (dC, dI)) (ci := 12) (v := .int ((s.1 337 0))) (C := rn_Code) (T := fn_Code) (N := 5) hx hb hg in_Code hown hK hP 11 rfl rfl 1 (by decide) (hg _ wn_2_211) (fun _ h9 => h9) rfl dn_Code_opAt_6 ?_
    refine lv_icmp_ge (tgt := 25) hx hb dn_Code_opAt_9 (by decide) (fun h => ?_) (fun h => ?_)
    · have hf := (if_pos h).symm.trans hf
      refine lv_iconst (v := (-1)) hx hb dn_Code_opAt_25 (by decide) ?_
      rw [hQQ, ← Option.some.inj hf]
      exact xk_iret (w1 := fun u : Unit => (wC a v cI cB cJ cZ cQ s)) () hx hb hr hlocks hK hS dn_Code_opAt_26 hP hD rfl (Nat.le_refl _) (Nat.le_refl _)
    · have hf := (if_neg h).symm.trans hf
      refine lv_aload_n hx hb dn_Code_opAt_12 rfl (lv_at hl 0 rfl) ?_
      refine va_get (D := (dC, dI)) (ci := 12) (v := .ref ((a 336))) (C := rn_Code) (T := fn_Code) (N := 5) hx hb hg in_Code hown hK hP 11 rfl rfl 0 (by decide) (hg _ wn_2_210) (fun _ h9 => h9) rfl dn_Code_opAt_13 ?_
      refine lv_iload_n hx hb dn_Code_opAt_16 rfl (lv_at hl 1 rfl) ?_
      obtain ⟨hg_1, hf⟩ := dc_g hf
      refine va_lald hx hb hK hP 73 2 rfl rfl hg_1 dn_Code_opAt_17 ?_
      refine xk_tl (y := ((s.2 336) (Int32.toNatClampNeg v1))) rfl ?_
      refine lv_bipush (v := 32) hx hb dn_Code_opAt_18 (by decide) ?_
      refine lv_lushr (v := (Int64.toUInt64 (((s.2 336) (Int32.toNatClampNeg v1))) >>> (Int64.toUInt64 (Int32.toInt64 32) &&& Int64.toUInt64 63)).toInt64) hx hb dn_Code_opAt_20 rfl ?_
      refine lv_l2i (v := Int64.toInt32 (((Int64.toUInt64 (((s.2 336) (Int32.toNatClampNeg v1))) >>> (Int64.toUInt64 (Int32.toInt64 32) &&& Int64.toUInt64 63)).toInt64))) hx hb dn_Code_opAt_21 rfl ?_
      refine lv_goto (tgt := 26) hx hb dn_Code_opAt_22 (by decide) ?_
      rw [hQQ, ← Option.some.inj hf]
      exact xk_iret (w1 := fun u : Unit => (wC a v cI cB cJ cZ cQ s)) () hx hb hr hlocks hK hS dn_Code_opAt_26 hP hD rfl (Nat.le_refl _) (Nat.le_refl _)
set_option maxHeartbeats 8000000 in
set_option maxRecDepth 100000 in
theorem ct_Order_nextNeeded_Or (l : Launch) (dC : Nat → ClassId) (dI : Nat → Nat → Nat) (cI cB cJ cZ cQ : ClassId) (N sz : Nat) (a : Nat → Nat) (v : Nat → Value) (hv_7 : v 7 = .ref (a 108)) (v1 : Int32) (s : ms) (y : (Int32 × ms)) (hf : fn_Order_nextNeeded_Or N v1 s = some y) : Met l yn_Order_nextNeeded (xw yn_Order_nextNeeded bn_Order_nextNeeded 6 (some .int)) ({ frames := 1, cells := 0, slots := 0, locals := 40 }) (dc_P (dC, dI) xcl (xt cI cB cJ cZ cQ) [.ref ((a 106)), .int v1] sz (wC a v cI cB cJ cZ cQ s)) (xk_Qi (dC, dI) xcl (xt cI cB cJ cZ cQ) (fun (r : Int32) (_ : Unit) => r = y.1) (fun u : Unit => (wC a v cI cB cJ cZ cQ y.2)) (va_A (wC a v cI cB cJ cZ cQ s) sz)) 0 0 (va_A (wC a v cI cB cJ cZ cQ s) sz) := by
  refine dc_of (QA := xk_Qi (dC, dI) xcl (xt cI cB cJ cZ cQ) (fun (r : Int32) (_ : Unit) => r = y.1) (fun u : Unit => (wC a v cI cB cJ cZ cQ y.2))) (by decide) (Nat.le_of_ble_eq_true rfl) ?_
  intro p e s0 m below meth c hx hb hml hown hg hr hlocks hin hP hK hN A hA hD hT ls hl
  have hown : s0.vm.findClass rn_Order = some m.cls := hown
  obtain ⟨H, hH⟩ : ∃ z, z = s0.heap := ⟨_, rfl⟩
  rw [← hH] at hP
  have hS : va_S A s0.heap H [] := by rw [hH]; exact va_S.rf
  suffices kk : ∀ QQ : State → Prop, QQ = MQ below (xk_Qi (dC, dI) xcl (xt cI cB cJ cZ cQ) (fun (r : Int32) (_ : Unit) => r = y.1) (fun u : Unit => (wC a v cI cB cJ cZ cQ y.2)) A) [.ref ((a 106)), .int v1].toArray s0 0 0 A → dcC p l e ({ frames := 1, cells := 0, slots := 0, locals := 40 }) s0 m [.ref ((a 106)), .int v1].toArray below meth c QQ (dC, dI) A (wC a v cI cB cJ cZ cQ s) 0 6 [(0, .ref ((a 106))), (1, .int v1)] [] by
    have k9 := kk _ rfl H [] ls hP hD hS hl
    rw [hH] at k9; exact k9
  clear hP hD hS hl hH H ls
  intro QQ hQQ
  have hd_82 : ∀ (n : Nat) (x1 : Int32) (x3 : Int32) (x4 : Int32) (s : ms), hd_Order_nextNeeded_Or_82 N n x1 x3 x4 s = some y → dcC p l e ({ frames := 1, cells := 0, slots := 0, locals := 40 }) s0 m [.ref ((a 106)), .int v1].toArray below meth c QQ (dC, dI) A (wC a v cI cB cJ cZ cQ s) 82 6 [(0, .ref ((a 106))), (1, .int x1), (2, .ref ((a 111))), (3, .int x3), (4, .int x4)] [] := by
    intro n
    induction n with
    | zero => intro x1 x3 x4 s hf; cases hf
    | succ n ih =>
      intro x1 x3 x4 s hf H locs ls hP hD hS hl
      have hf : bd_Order_nextNeeded_Or_82 N (hd_Order_nextNeeded_Or_82 N n) x1 x3 x4 s = some y := hf
      have hk_82 := ih
      generalize hd_Order_nextNeeded_Or_82 N n = k_82 at hf hk_82
      unfold bd_Order_nextNeeded_Or_82 at hf
      refine lv_iload hx hb dn_Order_nextNeeded_82 (lv_at hl 4 rfl) ?_
      refine lv_iload_n hx hb dn_Order_nextNeeded_84 rfl (lv_at hl 3 rfl) ?_
      refine lv_icmp_ge (tgt := 157) hx hb dn_Order_nextNeeded_85 (by decide) (fun h => ?_) (fun h => ?_)
      · have hf := (if_pos h).symm.trans hf
        refine lv_iconst (v := (-1)) hx hb dn_Order_nextNeeded_157 (by decide) ?_
        rw [hQQ, ← Option.some.inj hf]
        exact xk_iret (w1 := fun u : Unit => (wC a v cI cB cJ cZ cQ s)) () hx hb hr hlocks hK hS dn_Order_nextNeeded_158 hP hD rfl (Nat.le_refl _) (Nat.le_refl _)
      · have hf := (if_neg h).symm.trans hf
        refine lv_aload_n hx hb dn_Order_nextNeeded_88 rfl (lv_at hl 2 rfl) ?_
        refine lv_iload hx hb dn_Order_nextNeeded_89 (lv_at hl 4 rfl) ?_
        obtain ⟨q_1, hc_2, hf⟩ := dc_b hf
        refine dc_calli (dc_runV (ar := 1) (As := [.int x4]) (rest := []) (ci := 12) (q0 := 11) ⟨hx, hb, hml, hown, hg⟩ hK hN hT hS hA (ct_Code_opAt_Ks l dC dI cI cB cJ cZ cQ N H.size a v x4 s q_1 hc_2) hP hD rfl rfl wn_6_231 wn_6_232 wn_6_233 wn_1_12 wn_6_234 rfl rfl (by decide +kernel) ⟨Nat.le_of_ble_eq_true rfl, Nat.le_of_ble_eq_true rfl⟩ rfl hl.1 rfl (Nat.le_of_ble_eq_true rfl) dn_Order_nextNeeded_91 ⟨Nat.le_of_ble_eq_true rfl, Nat.le_of_ble_eq_true rfl⟩) hP hD hS hA (fun r_3 _ H locs hw hP hD hS => ?_)
        have hw : r_3 = q_1.1 := hw
        subst hw
        refine lv_sipush (v := 514) hx hb dn_Order_nextNeeded_94 (by decide) ?_
        refine lv_icmp_eq (tgt := 103) hx hb dn_Order_nextNeeded_97 (by decide) (fun h => ?_) (fun h => ?_)
        · have hf := (if_pos h).symm.trans hf
          refine lv_aload_n hx hb dn_Order_nextNeeded_103 rfl (lv_at hl 0 rfl) ?_
          refine va_get (D := (dC, dI)) (ci := 7) (v := .ref ((a 279))) (C := rn_Order) (T := fn_Order) (N := 10) hx hb hg in_Order hown hK hP 6 rfl rfl 3 (by decide) (hg _ wn_2_55) (fun _ h9 => h9) rfl dn_Order_nextNeeded_104 ?_
          refine lv_iload_n hx hb dn_Order_nextNeeded_107 rfl (lv_at hl 1 rfl) ?_
          refine lv_iload hx hb dn_Order_nextNeeded_108 (lv_at hl 4 rfl) ?_
          refine lv_iconst (v := 1) hx hb dn_Order_nextNeeded_110 (by decide) ?_
          refine lv_iadd hx hb dn_Order_nextNeeded_111 ?_
          obtain ⟨hg_4, hf⟩ := dc_g hf
          refine va_iast hx hb hK hP hD hS 36 0 rfl rfl hg_4 dn_Order_nextNeeded_112 (fun H locs hP hD hS => ?_)
          have hP : va_P (dC, dI) xcl ((wC a v cI cB cJ cZ cQ q_1.2).set 36 ((a 279), .inl (cI, 1024, .inl (upd (q_1.2.1 279) (Int32.toNatClampNeg x1) ((x4 + 1)))))) H := hP
          have hD : va_D A ((wC a v cI cB cJ cZ cQ q_1.2).set 36 ((a 279), .inl (cI, 1024, .inl (upd (q_1.2.1 279) (Int32.toNatClampNeg x1) ((x4 + 1)))))) := hD
          have hP := wC_P_279 hP
          have hD := wC_D_279 hD
          refine lv_aload_n hx hb dn_Order_nextNeeded_113 rfl (lv_at hl 0 rfl) ?_
          refine va_get (D := (dC, dI)) (ci := 7) (v := .ref ((a 108))) (C := rn_Order) (T := fn_Order) (N := 10) hx hb hg in_Order hown hK hP 6 rfl rfl 0 (by decide) (hg _ wn_2_52) (fun _ h9 => h9) (congrArg some hv_7) dn_Order_nextNeeded_114 ?_
          refine va_get (D := (dC, dI)) (ci := 9) (v := .ref ((a 301))) (C := rn_Circuit) (T := fn_Circuit) (N := 14) hx hb hg in_Circuit hown hK hP 8 rfl rfl 10 (by decide) (hg _ wn_3_86) (fun _ h9 => h9) rfl dn_Order_nextNeeded_117 ?_
          refine lv_iload_n hx hb dn_Order_nextNeeded_120 rfl (lv_at hl 1 rfl) ?_
          obtain ⟨hg_5, hf⟩ := dc_g hf
          refine va_iald hx hb hK hP 49 0 rfl rfl hg_5 dn_Order_nextNeeded_121 ?_
          refine xk_ti (y := ((q_1.2.1 301) (Int32.toNatClampNeg x1))) rfl ?_
          refine lv_aload_n hx hb dn_Order_nextNeeded_122 rfl (lv_at hl 2 rfl) ?_
          refine lv_iload hx hb dn_Order_nextNeeded_123 (lv_at hl 4 rfl) ?_
          obtain ⟨q_6, hc_7, hf⟩ := dc_b hf
          refine dc_calli (dc_runV (ar := 1) (As := [.int x4]) (rest := [.int (((q_1.2.1 301) (Int32.toNatClampNeg x1)))]) (ci := 12) (q0 := 11) ⟨hx, hb, hml, hown, hg⟩ hK hN hT hS hA (ct_Code_argAt_Ks l dC dI cI cB cJ cZ cQ N H.size a v x4 (upI q_1.2 279 (upd (q_1.2.1 279) (Int32.toNatClampNeg x1) ((x4 + 1)))) q_6 hc_7) hP hD rfl rfl wn_6_235 wn_6_1 wn_6_2 wn_1_12 wn_6_3 rfl rfl (by decide +kernel) ⟨Nat.le_of_ble_eq_true rfl, Nat.le_of_ble_eq_true rfl⟩ rfl hl.1 rfl (Nat.le_of_ble_eq_true rfl) dn_Order_nextNeeded_125 ⟨Nat.le_of_ble_eq_true rfl, Nat.le_of_ble_eq_true rfl⟩) hP hD hS hA (fun r_8 _ H locs hw hP hD hS => ?_)
          have hw : r_8 = q_6.1 := hw
          subst hw
          refine lv_iadd hx hb dn_Order_nextNeeded_128 ?_
          refine lv_istore (lv' := [(5, .int ((((q_1.2.1 301) (Int32.toNatClampNeg x1)) + q_6.1))), (0, .ref ((a 106))), (1, .int x1), (2, .ref ((a 111))), (3, .int x3), (4, .int x4)]) hx hb dn_Order_nextNeeded_129 hl (by decide) rfl (fun ls hl => ?_)
          refine lv_iload hx hb dn_Order_nextNeeded_131 (lv_at hl 0 rfl) ?_
          refine lv_if_lt (tgt := 151) hx hb dn_Order_nextNeeded_133 (by decide) (fun h => ?_) (fun h => ?_)
          · have hf := (if_pos h).symm.trans hf
            refine lv_iinc (v := (x4 + 1)) (lv' := [(4, .int ((x4 + 1))), (5, .int ((((q_1.2.1 301) (Int32.toNatClampNeg x1)) + q_6.1))), (0, .ref ((a 106))), (1, .int x1), (2, .ref ((a 111))), (3, .int x3)]) hx hb dn_Order_nextNeeded_151 hl (k := 5) rfl (dc_inc (by decide)) (by decide) rfl (fun ls hl => ?_)
            refine lv_goto (tgt := 82) hx hb dn_Order_nextNeeded_154 (by decide) ?_
            exact hk_82 x1 x3 ((x4 + 1)) q_6.2 hf H locs ls hP hD hS (lv_sub hl [2, 3, 4, 5, 0] rfl)
          · have hf := (if_neg h).symm.trans hf
            refine lv_iload hx hb dn_Order_nextNeeded_136 (lv_at hl 0 rfl) ?_
            refine lv_aload_n hx hb dn_Order_nextNeeded_138 rfl (lv_at hl 1 rfl) ?_
            refine va_get (D := (dC, dI)) (ci := 7) (v := .ref ((a 108))) (C := rn_Order) (T := fn_Order) (N := 10) hx hb hg in_Order hown hK hP 6 rfl rfl 0 (by decide) (hg _ wn_2_52) (fun _ h9 => h9) (congrArg some hv_7) dn_Order_nextNeeded_139 ?_
            refine va_get (D := (dC, dI)) (ci := 9) (v := .int ((q_6.2.1 293 0))) (C := rn_Circuit) (T := fn_Circuit) (N := 14) hx hb hg in_Circuit hown hK hP 8 rfl rfl 2 (by decide) (hg _ wn_3_69) (fun _ h9 => h9) rfl dn_Order_nextNeeded_142 ?_
            refine lv_icmp_ge (tgt := 151) hx hb dn_Order_nextNeeded_145 (by decide) (fun h => ?_) (fun h => ?_)
            · have hf := (if_pos h).symm.trans hf
              refine lv_iinc (v := (x4 + 1)) (lv' := [(4, .int ((x4 + 1))), (5, .int ((((q_1.2.1 301) (Int32.toNatClampNeg x1)) + q_6.1))), (0, .ref ((a 106))), (1, .int x1), (2, .ref ((a 111))), (3, .int x3)]) hx hb dn_Order_nextNeeded_151 hl (k := 5) rfl (dc_inc (by decide)) (by decide) rfl (fun ls hl => ?_)
              refine lv_goto (tgt := 82) hx hb dn_Order_nextNeeded_154 (by decide) ?_
              exact hk_82 x1 x3 ((x4 + 1)) q_6.2 hf H locs ls hP hD hS (lv_sub hl [2, 3, 4, 5, 0] rfl)
            · have hf := (if_neg h).symm.trans hf
              refine lv_iload hx hb dn_Order_nextNeeded_148 (lv_at hl 0 rfl) ?_
              rw [hQQ, ← Option.some.inj hf]
              exact xk_iret (w1 := fun u : Unit => (wC a v cI cB cJ cZ cQ q_6.2)) () hx hb hr hlocks hK hS dn_Order_nextNeeded_150 hP hD rfl (Nat.le_refl _) (Nat.le_refl _)
        · have hf := (if_neg h).symm.trans hf
          refine lv_goto (tgt := 151) hx hb dn_Order_nextNeeded_100 (by decide) ?_
          refine lv_iinc (v := (x4 + 1)) (lv' := [(4, .int ((x4 + 1))), (0, .ref ((a 106))), (1, .int x1), (2, .ref ((a 111))), (3, .int x3)]) hx hb dn_Order_nextNeeded_151 hl (k := 4) rfl (dc_inc (by decide)) (by decide) rfl (fun ls hl => ?_)
          refine lv_goto (tgt := 82) hx hb dn_Order_nextNeeded_154 (by decide) ?_
          exact hk_82 x1 x3 ((x4 + 1)) q_1.2 hf H locs ls hP hD hS (lv_sub hl [1, 2, 3, 4, 0] rfl)
  intro H locs ls hP hD hS hl
  unfold fn_Order_nextNeeded_Or at hf
  refine lv_aload_n hx hb dn_Order_nextNeeded_0 rfl (lv_at hl 0 rfl) ?_
  refine va_get (D := (dC, dI)) (ci := 7) (v := .ref ((a 108))) (C := rn_Order) (T := fn_Order) (N := 10) hx hb hg in_Order hown hK hP 6 rfl rfl 0 (by decide) (hg _ wn_2_52) (fun _ h9 => h9) (congrArg some hv_7) dn_Order_nextNeeded_1 ?_
  refine va_get (D := (dC, dI)) (ci := 9) (v := .ref ((a 109))) (C := rn_Circuit) (T := fn_Circuit) (N := 14) hx hb hg in_Circuit hown hK hP 8 rfl rfl 0 (by decide) (hg _ wn_3_63) (fun _ h9 => h9) rfl dn_Order_nextNeeded_4 ?_
  refine va_get (D := (dC, dI)) (ci := 10) (v := .ref ((a 111))) (C := rn_Design) (T := fn_Design) (N := 16) hx hb hg in_Design hown hK hP 9 rfl rfl 1 (by decide) (hg _ wn_3_2) (fun _ h9 => h9) rfl dn_Order_nextNeeded_7 ?_
  refine lv_astore_n (lv' := [(2, .ref ((a 111))), (0, .ref ((a 106))), (1, .int v1)]) hx hb dn_Order_nextNeeded_10 rfl hl (by decide) rfl (fun ls hl => ?_)
  refine lv_aload_n hx hb dn_Order_nextNeeded_11 rfl (lv_at hl 1 rfl) ?_
  refine va_get (D := (dC, dI)) (ci := 7) (v := .ref ((a 108))) (C := rn_Order) (T := fn_Order) (N := 10) hx hb hg in_Order hown hK hP 6 rfl rfl 0 (by decide) (hg _ wn_2_52) (fun _ h9 => h9) (congrArg some hv_7) dn_Order_nextNeeded_12 ?_
  refine va_get (D := (dC, dI)) (ci := 9) (v := .ref ((a 302))) (C := rn_Circuit) (T := fn_Circuit) (N := 14) hx hb hg in_Circuit hown hK hP 8 rfl rfl 11 (by decide) (hg _ wn_3_89) (fun _ h9 => h9) rfl dn_Order_nextNeeded_15 ?_
  refine lv_iload_n hx hb dn_Order_nextNeeded_18 rfl (lv_at hl 2 rfl) ?_
  obtain ⟨hg_1, hf⟩ := dc_g hf
  refine va_iald hx hb hK hP 50 0 rfl rfl hg_1 dn_Order_nextNeeded_19 ?_
  refine xk_ti (y := ((s.1 302) (Int32.toNatClampNeg v1))) rfl ?_
  refine lv_iconst (v := (-1)) hx hb dn_Order_nextNeeded_20 (by decide) ?_
  refine lv_icmp_eq (tgt := 53) hx hb dn_Order_nextNeeded_21 (by decide) (fun h => ?_) (fun h => ?_)
  · have hf := (if_pos h).symm.trans hf
    refine lv_aload_n hx hb dn_Order_nextNeeded_53 rfl (lv_at hl 1 rfl) ?_
    refine va_get (D := (dC, dI)) (ci := 7) (v := .ref ((a 108))) (C := rn_Order) (T := fn_Order) (N := 10) hx hb hg in_Order hown hK hP 6 rfl rfl 0 (by decide) (hg _ wn_2_52) (fun _ h9 => h9) (congrArg some hv_7) dn_Order_nextNeeded_54 ?_
    refine va_get (D := (dC, dI)) (ci := 9) (v := .ref ((a 300))) (C := rn_Circuit) (T := fn_Circuit) (N := 14) hx hb hg in_Circuit hown hK hP 8 rfl rfl 9 (by decide) (hg _ wn_3_83) (fun _ h9 => h9) rfl dn_Order_nextNeeded_57 ?_
    refine lv_iload_n hx hb dn_Order_nextNeeded_60 rfl (lv_at hl 2 rfl) ?_
    obtain ⟨hg_2, hf⟩ := dc_g hf
    refine va_iald hx hb hK hP 48 0 rfl rfl hg_2 dn_Order_nextNeeded_61 ?_
    refine xk_ti (y := ((s.1 300) (Int32.toNatClampNeg v1))) rfl ?_
    refine lv_aload_n hx hb dn_Order_nextNeeded_62 rfl (lv_at hl 0 rfl) ?_
    refine va_get (D := (dC, dI)) (ci := 12) (v := .int ((s.1 337 0))) (C := rn_Code) (T := fn_Code) (N := 5) hx hb hg in_Code hown hK hP 11 rfl rfl 1 (by decide) (hg _ wn_2_213) (fun _ h9 => h9) rfl dn_Order_nextNeeded_63 ?_
    refine va_mmin (x := ((s.1 300) (Int32.toNatClampNeg v1))) (y := (s.1 337 0)) (rest := []) hx hb (by rw [hml]; exact hl.1.symm) hown (hg _ wn_6_229) (hg _ wn_3_168) (hg _ wn_1_19) (hg _ wn_3_169) (Nat.le_of_ble_eq_true rfl) (Nat.le_of_ble_eq_true rfl) (Nat.zero_le _) (Nat.zero_le _) dn_Order_nextNeeded_66 ?_
    refine lv_istore_n (lv' := [(3, .int ((if (s.1 337 0) < ((s.1 300) (Int32.toNatClampNeg v1)) then (s.1 337 0) else ((s.1 300) (Int32.toNatClampNeg v1))))), (2, .ref ((a 111))), (0, .ref ((a 106))), (1, .int v1)]) hx hb dn_Order_nextNeeded_69 rfl hl (by decide) rfl (fun ls hl => ?_)
    refine lv_aload_n hx hb dn_Order_nextNeeded_70 rfl (lv_at hl 2 rfl) ?_
    refine va_get (D := (dC, dI)) (ci := 7) (v := .ref ((a 279))) (C := rn_Order) (T := fn_Order) (N := 10) hx hb hg in_Order hown hK hP 6 rfl rfl 3 (by decide) (hg _ wn_2_55) (fun _ h9 => h9) rfl dn_Order_nextNeeded_71 ?_
    refine lv_iload_n hx hb dn_Order_nextNeeded_74 rfl (lv_at hl 3 rfl) ?_
    obtain ⟨hg_3, hf⟩ := dc_g hf
    refine va_iald hx hb hK hP 36 0 rfl rfl hg_3 dn_Order_nextNeeded_75 ?_
    refine xk_ti (y := ((s.1 279) (Int32.toNatClampNeg v1))) rfl ?_
    refine lv_iconst (v := 0) hx hb dn_Order_nextNeeded_76 (by decide) ?_
    refine va_mmax (x := ((s.1 279) (Int32.toNatClampNeg v1))) (y := 0) (rest := []) hx hb (by rw [hml]; exact hl.1.symm) hown (hg _ wn_6_230) (hg _ wn_4_99) (hg _ wn_1_19) (hg _ wn_4_100) (Nat.le_of_ble_eq_true rfl) (Nat.le_of_ble_eq_true rfl) (Nat.zero_le _) (Nat.zero_le _) dn_Order_nextNeeded_77 ?_
    refine lv_istore (lv' := [(4, .int ((if ((s.1 279) (Int32.toNatClampNeg v1)) < 0 then 0 else ((s.1 279) (Int32.toNatClampNeg v1))))), (3, .int ((if (s.1 337 0) < ((s.1 300) (Int32.toNatClampNeg v1)) then (s.1 337 0) else ((s.1 300) (Int32.toNatClampNeg v1))))), (2, .ref ((a 111))), (0, .ref ((a 106))), (1, .int v1)]) hx hb dn_Order_nextNeeded_80 hl (by decide) rfl (fun ls hl => ?_)
    exact hd_82 N v1 ((if (s.1 337 0) < ((s.1 300) (Int32.toNatClampNeg v1)) then (s.1 337 0) else ((s.1 300) (Int32.toNatClampNeg v1)))) ((if ((s.1 279) (Int32.toNatClampNeg v1)) < 0 then 0 else ((s.1 279) (Int32.toNatClampNeg v1)))) s hf H locs ls hP hD hS (lv_sub hl [3, 4, 2, 1, 0] rfl)
  · have hf := (if_neg h).symm.trans hf
    refine lv_aload_n hx hb dn_Order_nextNeeded_24 rfl (lv_at hl 1 rfl) ?_
    refine va_get (D := (dC, dI)) (ci := 7) (v := .ref ((a 279))) (C := rn_Order) (T := fn_Order) (N := 10) hx hb hg in_Order hown hK hP 6 rfl rfl 3 (by decide) (hg _ wn_2_55) (fun _ h9 => h9) rfl dn_Order_nextNeeded_25 ?_
    refine lv_iload_n hx hb dn_Order_nextNeeded_28 rfl (lv_at hl 2 rfl) ?_
    obtain ⟨hg_2, hf⟩ := dc_g hf
    refine va_iald hx hb hK hP 36 0 rfl rfl hg_2 dn_Order_nextNeeded_29 ?_
    refine xk_ti (y := ((s.1 279) (Int32.toNatClampNeg v1))) rfl ?_
    refine lv_iconst (v := (-1)) hx hb dn_Order_nextNeeded_30 (by decide) ?_
    refine lv_icmp_ne (tgt := 36) hx hb dn_Order_nextNeeded_31 (by decide) (fun h => ?_) (fun h => ?_)
    · have hf := (if_neg h).symm.trans hf
      refine lv_aload_n hx hb dn_Order_nextNeeded_36 rfl (lv_at hl 1 rfl) ?_
      refine va_get (D := (dC, dI)) (ci := 7) (v := .ref ((a 279))) (C := rn_Order) (T := fn_Order) (N := 10) hx hb hg in_Order hown hK hP 6 rfl rfl 3 (by decide) (hg _ wn_2_55) (fun _ h9 => h9) rfl dn_Order_nextNeeded_37 ?_
      refine lv_iload_n hx hb dn_Order_nextNeeded_40 rfl (lv_at hl 2 rfl) ?_
      refine lv_iconst (v := (-1)) hx hb dn_Order_nextNeeded_41 (by decide) ?_
      obtain ⟨hg_3, hf⟩ := dc_g hf
      refine va_iast hx hb hK hP hD hS 36 0 rfl rfl hg_3 dn_Order_nextNeeded_42 (fun H locs hP hD hS => ?_)
      have hP : va_P (dC, dI) xcl ((wC a v cI cB cJ cZ cQ s).set 36 ((a 279), .inl (cI, 1024, .inl (upd (s.1 279) (Int32.toNatClampNeg v1) ((-1)))))) H := hP
      have hD : va_D A ((wC a v cI cB cJ cZ cQ s).set 36 ((a 279), .inl (cI, 1024, .inl (upd (s.1 279) (Int32.toNatClampNeg v1) ((-1)))))) := hD
      have hP := wC_P_279 hP
      have hD := wC_D_279 hD
      refine lv_aload_n hx hb dn_Order_nextNeeded_43 rfl (lv_at hl 1 rfl) ?_
      refine va_get (D := (dC, dI)) (ci := 7) (v := .ref ((a 108))) (C := rn_Order) (T := fn_Order) (N := 10) hx hb hg in_Order hown hK hP 6 rfl rfl 0 (by decide) (hg _ wn_2_52) (fun _ h9 => h9) (congrArg some hv_7) dn_Order_nextNeeded_44 ?_
      refine va_get (D := (dC, dI)) (ci := 9) (v := .ref ((a 302))) (C := rn_Circuit) (T := fn_Circuit) (N := 14) hx hb hg in_Circuit hown hK hP 8 rfl rfl 11 (by decide) (hg _ wn_3_89) (fun _ h9 => h9) rfl dn_Order_nextNeeded_47 ?_
      refine lv_iload_n hx hb dn_Order_nextNeeded_50 rfl (lv_at hl 2 rfl) ?_
      obtain ⟨hg_4, hf⟩ := dc_g hf
      refine va_iald hx hb hK hP 50 0 rfl rfl hg_4 dn_Order_nextNeeded_51 ?_
      refine xk_ti (y := ((s.1 302) (Int32.toNatClampNeg v1))) rfl ?_
      rw [hQQ, ← Option.some.inj hf]
      exact xk_iret (w1 := fun u : Unit => (wC a v cI cB cJ cZ cQ (upI s 279 (upd (s.1 279) (Int32.toNatClampNeg v1) ((-1)))))) () hx hb hr hlocks hK hS dn_Order_nextNeeded_52 hP hD rfl (Nat.le_refl _) (Nat.le_refl _)
    · have hf := (if_pos h).symm.trans hf
      refine lv_iconst (v := (-1)) hx hb dn_Order_nextNeeded_34 (by decide) ?_
      rw [hQQ, ← Option.some.inj hf]
      exact xk_iret (w1 := fun u : Unit => (wC a v cI cB cJ cZ cQ s)) () hx hb hr hlocks hK hS dn_Order_nextNeeded_35 hP hD rfl (Nat.le_refl _) (Nat.le_refl _)
set_option maxHeartbeats 8000000 in
set_option maxRecDepth 100000 in
theorem ct_Order_append_Or (l : Launch) (dC : Nat → ClassId) (dI : Nat → Nat → Nat) (cI cB cJ cZ cQ : ClassId) (N sz : Nat) (a : Nat → Nat) (v : Nat → Value) (hv_7 : v 7 = .ref (a 108)) (v1 : Int32) (s : ms) (y : (Unit × ms)) (hf : fn_Order_append_Or N v1 s = some y) : Met l yn_Order_append (xw yn_Order_append bn_Order_append 3 none) ({ frames := 0, cells := 0, slots := 0, locals := 0 }) (dc_P (dC, dI) xcl (xt cI cB cJ cZ cQ) [.ref ((a 106)), .int v1] sz (wC a v cI cB cJ cZ cQ s)) (xk_Qv (dC, dI) xcl (xt cI cB cJ cZ cQ) (fun _ : Unit => True) (fun u : Unit => (wC a v cI cB cJ cZ cQ y.2)) (va_A (wC a v cI cB cJ cZ cQ s) sz)) 0 0 (va_A (wC a v cI cB cJ cZ cQ s) sz) := by
  refine dc_of (QA := xk_Qv (dC, dI) xcl (xt cI cB cJ cZ cQ) (fun _ : Unit => True) (fun u : Unit => (wC a v cI cB cJ cZ cQ y.2))) (by decide) (Nat.le_of_ble_eq_true rfl) ?_
  intro p e s0 m below meth c hx hb hml hown hg hr hlocks hin hP hK hN A hA hD hT ls hl
  have hown : s0.vm.findClass rn_Order = some m.cls := hown
  obtain ⟨H, hH⟩ : ∃ z, z = s0.heap := ⟨_, rfl⟩
  rw [← hH] at hP
  have hS : va_S A s0.heap H [] := by rw [hH]; exact va_S.rf
  suffices kk : ∀ QQ : State → Prop, QQ = MQ below (xk_Qv (dC, dI) xcl (xt cI cB cJ cZ cQ) (fun _ : Unit => True) (fun u : Unit => (wC a v cI cB cJ cZ cQ y.2)) A) [.ref ((a 106)), .int v1].toArray s0 0 0 A → dcC p l e ({ frames := 0, cells := 0, slots := 0, locals := 0 }) s0 m [.ref ((a 106)), .int v1].toArray below meth c QQ (dC, dI) A (wC a v cI cB cJ cZ cQ s) 0 3 [(0, .ref ((a 106))), (1, .int v1)] [] by
    have k9 := kk _ rfl H [] ls hP hD hS hl
    rw [hH] at k9; exact k9
  clear hP hD hS hl hH H ls
  intro QQ hQQ
  have bl_39 : ∀ (x1 : Int32) (t0 : Int32) (s : ms), bk_Order_append_Or_39 N x1 t0 s = some y → dcC p l e ({ frames := 0, cells := 0, slots := 0, locals := 0 }) s0 m [.ref ((a 106)), .int v1].toArray below meth c QQ (dC, dI) A (wC a v cI cB cJ cZ cQ s) 39 3 [(0, .ref ((a 106))), (1, .int x1)] [.int t0] := by
    intro x1 t0 s hf H locs ls hP hD hS hl
    unfold bk_Order_append_Or_39 at hf
    refine lv_istore_n (lv' := [(2, .int t0), (0, .ref ((a 106))), (1, .int x1)]) hx hb dn_Order_append_39 rfl hl (by decide) rfl (fun ls hl => ?_)
    refine lv_iload_n hx hb dn_Order_append_40 rfl (lv_at hl 0 rfl) ?_
    refine lv_if_eq (tgt := 62) hx hb dn_Order_append_41 (by decide) (fun h => ?_) (fun h => ?_)
    · have hf := (if_pos h).symm.trans hf
      rw [hQQ, ← Option.some.inj hf]
      exact xk_vret (w1 := fun u : Unit => (wC a v cI cB cJ cZ cQ s)) () hx hb hr hlocks hK hS dn_Order_append_62 hP hD trivial (Nat.le_refl _) (Nat.le_refl _)
    · have hf := (if_neg h).symm.trans hf
      refine lv_aload_n hx hb dn_Order_append_44 rfl (lv_at hl 1 rfl) ?_
      refine va_get (D := (dC, dI)) (ci := 7) (v := .ref ((a 108))) (C := rn_Order) (T := fn_Order) (N := 10) hx hb hg in_Order hown hK hP 6 rfl rfl 0 (by decide) (hg _ wn_2_52) (fun _ h9 => h9) (congrArg some hv_7) dn_Order_append_45 ?_
      refine va_get (D := (dC, dI)) (ci := 9) (v := .int ((s.1 304 0))) (C := rn_Circuit) (T := fn_Circuit) (N := 14) hx hb hg in_Circuit hown hK hP 8 rfl rfl 13 (by decide) (hg _ wn_3_94) (fun _ h9 => h9) rfl dn_Order_append_48 ?_
      refine lv_aload_n hx hb dn_Order_append_51 rfl (lv_at hl 1 rfl) ?_
      refine va_get (D := (dC, dI)) (ci := 7) (v := .ref ((a 108))) (C := rn_Order) (T := fn_Order) (N := 10) hx hb hg in_Order hown hK hP 6 rfl rfl 0 (by decide) (hg _ wn_2_52) (fun _ h9 => h9) (congrArg some hv_7) dn_Order_append_52 ?_
      refine va_get (D := (dC, dI)) (ci := 9) (v := .ref ((a 303))) (C := rn_Circuit) (T := fn_Circuit) (N := 14) hx hb hg in_Circuit hown hK hP 8 rfl rfl 12 (by decide) (hg _ wn_3_93) (fun _ h9 => h9) rfl dn_Order_append_55 ?_
      refine va_alen (v := 1024) hx hb hK hP 51 0 rfl rfl rfl dn_Order_append_58 ?_
      refine lv_icmp_lt (tgt := 63) hx hb dn_Order_append_59 (by decide) (fun h => ?_) (fun h => ?_)
      · have hf := (if_pos h).symm.trans hf
        refine lv_aload_n hx hb dn_Order_append_63 rfl (lv_at hl 1 rfl) ?_
        refine va_get (D := (dC, dI)) (ci := 7) (v := .ref ((a 108))) (C := rn_Order) (T := fn_Order) (N := 10) hx hb hg in_Order hown hK hP 6 rfl rfl 0 (by decide) (hg _ wn_2_52) (fun _ h9 => h9) (congrArg some hv_7) dn_Order_append_64 ?_
        refine va_get (D := (dC, dI)) (ci := 9) (v := .ref ((a 303))) (C := rn_Circuit) (T := fn_Circuit) (N := 14) hx hb hg in_Circuit hown hK hP 8 rfl rfl 12 (by decide) (hg _ wn_3_93) (fun _ h9 => h9) rfl dn_Order_append_67 ?_
        refine lv_aload_n hx hb dn_Order_append_70 rfl (lv_at hl 1 rfl) ?_
        refine va_get (D := (dC, dI)) (ci := 7) (v := .ref ((a 108))) (C := rn_Order) (T := fn_Order) (N := 10) hx hb hg in_Order hown hK hP 6 rfl rfl 0 (by decide) (hg _ wn_2_52) (fun _ h9 => h9) (congrArg some hv_7) dn_Order_append_71 ?_
        refine va_get (D := (dC, dI)) (ci := 9) (v := .int ((s.1 304 0))) (C := rn_Circuit) (T := fn_Circuit) (N := 14) hx hb hg in_Circuit hown hK hP 8 rfl rfl 13 (by decide) (hg _ wn_3_94) (fun _ h9 => h9) rfl dn_Order_append_74 ?_
        refine lv_iload_n hx hb dn_Order_append_77 rfl (lv_at hl 2 rfl) ?_
        obtain ⟨hg_1, hf⟩ := dc_g hf
        refine va_iast hx hb hK hP hD hS 51 0 rfl rfl hg_1 dn_Order_append_78 (fun H locs hP hD hS => ?_)
        have hP : va_P (dC, dI) xcl ((wC a v cI cB cJ cZ cQ s).set 51 ((a 303), .inl (cI, 1024, .inl (upd (s.1 303) (Int32.toNatClampNeg ((s.1 304 0))) x1)))) H := hP
        have hD : va_D A ((wC a v cI cB cJ cZ cQ s).set 51 ((a 303), .inl (cI, 1024, .inl (upd (s.1 303) (Int32.toNatClampNeg ((s.1 304 0))) x1)))) := hD
        have hP := wC_P_303 hP
        have hD := wC_D_303 hD
        refine lv_aload_n hx hb dn_Order_append_79 rfl (lv_at hl 1 rfl) ?_
        refine va_get (D := (dC, dI)) (ci := 7) (v := .ref ((a 108))) (C := rn_Order) (T := fn_Order) (N := 10) hx hb hg in_Order hown hK hP 6 rfl rfl 0 (by decide) (hg _ wn_2_52) (fun _ h9 => h9) (congrArg some hv_7) dn_Order_append_80 ?_
        refine lv_dup hx hb dn_Order_append_83 rfl ?_
        refine va_get (D := (dC, dI)) (ci := 9) (v := .int ((s.1 304 0))) (C := rn_Circuit) (T := fn_Circuit) (N := 14) hx hb hg in_Circuit hown hK hP 8 rfl rfl 13 (by decide) (hg _ wn_3_94) (fun _ h9 => h9) rfl dn_Order_append_84 ?_
        refine lv_iconst (v := 1) hx hb dn_Order_append_87 (by decide) ?_
        refine lv_iadd hx hb dn_Order_append_88 ?_
        refine va_put (D := (dC, dI)) (ci := 9) (v := .int (((s.1 304 0) + 1))) (ty := .int) (C := rn_Circuit) (T := fn_Circuit) (N := 14) hx hb hg in_Circuit tn_Circuit tk_Circuit nn_Circuit hown hK hP hD hS 8 rfl rfl 13 (by decide) (hg _ wn_3_94) (fun _ h9 => h9) rfl (tk_Circuit 13 (by decide)) rfl rfl (Nat.le_of_ble_eq_true rfl) dn_Order_append_89 (fun H locs hP hD hS => ?_)
        have hP := wC_P_304 hP
        have hD := wC_D_304 hD
        rw [hQQ, ← Option.some.inj hf]
        exact xk_vret (w1 := fun u : Unit => (wC a v cI cB cJ cZ cQ (upI (upI s 303 (upd (s.1 303) (Int32.toNatClampNeg ((s.1 304 0))) x1)) 304 (fun _ => ((s.1 304 0) + 1))))) () hx hb hr hlocks hK hS dn_Order_append_92 hP hD trivial (Nat.le_refl _) (Nat.le_refl _)
      · have hf := (if_neg h).symm.trans hf
        rw [hQQ, ← Option.some.inj hf]
        exact xk_vret (w1 := fun u : Unit => (wC a v cI cB cJ cZ cQ s)) () hx hb hr hlocks hK hS dn_Order_append_62 hP hD trivial (Nat.le_refl _) (Nat.le_refl _)
  have bl_34 : ∀ (x1 : Int32) (s : ms), bk_Order_append_Or_34 N x1 s = some y → dcC p l e ({ frames := 0, cells := 0, slots := 0, locals := 0 }) s0 m [.ref ((a 106)), .int v1].toArray below meth c QQ (dC, dI) A (wC a v cI cB cJ cZ cQ s) 34 3 [(0, .ref ((a 106))), (1, .int x1)] [] := by
    intro x1 s hf H locs ls hP hD hS hl
    unfold bk_Order_append_Or_34 at hf
    refine lv_iconst (v := 1) hx hb dn_Order_append_34 (by decide) ?_
    refine lv_goto (tgt := 39) hx hb dn_Order_append_35 (by decide) ?_
    exact bl_39 x1 1 s hf H locs ls hP hD hS hl
  intro H locs ls hP hD hS hl
  unfold fn_Order_append_Or at hf
  refine lv_aload_n hx hb dn_Order_append_0 rfl (lv_at hl 0 rfl) ?_
  refine va_get (D := (dC, dI)) (ci := 7) (v := .ref ((a 108))) (C := rn_Order) (T := fn_Order) (N := 10) hx hb hg in_Order hown hK hP 6 rfl rfl 0 (by decide) (hg _ wn_2_52) (fun _ h9 => h9) (congrArg some hv_7) dn_Order_append_1 ?_
  refine va_get (D := (dC, dI)) (ci := 9) (v := .ref ((a 302))) (C := rn_Circuit) (T := fn_Circuit) (N := 14) hx hb hg in_Circuit hown hK hP 8 rfl rfl 11 (by decide) (hg _ wn_3_89) (fun _ h9 => h9) rfl dn_Order_append_4 ?_
  refine lv_iload_n hx hb dn_Order_append_7 rfl (lv_at hl 1 rfl) ?_
  obtain ⟨hg_1, hf⟩ := dc_g hf
  refine va_iald hx hb hK hP 50 0 rfl rfl hg_1 dn_Order_append_8 ?_
  refine xk_ti (y := ((s.1 302) (Int32.toNatClampNeg v1))) rfl ?_
  refine lv_iconst (v := (-1)) hx hb dn_Order_append_9 (by decide) ?_
  refine lv_icmp_ne (tgt := 34) hx hb dn_Order_append_10 (by decide) (fun h => ?_) (fun h => ?_)
  · have hf := (if_neg h).symm.trans hf
    exact bl_34 v1 s hf H locs ls hP hD hS hl
  · have hf := (if_pos h).symm.trans hf
    refine lv_aload_n hx hb dn_Order_append_13 rfl (lv_at hl 0 rfl) ?_
    refine va_get (D := (dC, dI)) (ci := 7) (v := .ref ((a 108))) (C := rn_Order) (T := fn_Order) (N := 10) hx hb hg in_Order hown hK hP 6 rfl rfl 0 (by decide) (hg _ wn_2_52) (fun _ h9 => h9) (congrArg some hv_7) dn_Order_append_14 ?_
    refine va_get (D := (dC, dI)) (ci := 9) (v := .ref ((a 300))) (C := rn_Circuit) (T := fn_Circuit) (N := 14) hx hb hg in_Circuit hown hK hP 8 rfl rfl 9 (by decide) (hg _ wn_3_83) (fun _ h9 => h9) rfl dn_Order_append_17 ?_
    refine lv_iload_n hx hb dn_Order_append_20 rfl (lv_at hl 1 rfl) ?_
    obtain ⟨hg_2, hf⟩ := dc_g hf
    refine va_iald hx hb hK hP 48 0 rfl rfl hg_2 dn_Order_append_21 ?_
    refine xk_ti (y := ((s.1 300) (Int32.toNatClampNeg v1))) rfl ?_
    refine lv_aload_n hx hb dn_Order_append_22 rfl (lv_at hl 0 rfl) ?_
    refine va_get (D := (dC, dI)) (ci := 7) (v := .ref ((a 108))) (C := rn_Order) (T := fn_Order) (N := 10) hx hb hg in_Order hown hK hP 6 rfl rfl 0 (by decide) (hg _ wn_2_52) (fun _ h9 => h9) (congrArg some hv_7) dn_Order_append_23 ?_
    refine va_get (D := (dC, dI)) (ci := 9) (v := .ref ((a 299))) (C := rn_Circuit) (T := fn_Circuit) (N := 14) hx hb hg in_Circuit hown hK hP 8 rfl rfl 8 (by decide) (hg _ wn_3_80) (fun _ h9 => h9) rfl dn_Order_append_26 ?_
    refine lv_iload_n hx hb dn_Order_append_29 rfl (lv_at hl 1 rfl) ?_
    obtain ⟨hg_3, hf⟩ := dc_g hf
    refine va_iald hx hb hK hP 47 0 rfl rfl hg_3 dn_Order_append_30 ?_
    refine xk_ti (y := ((s.1 299) (Int32.toNatClampNeg v1))) rfl ?_
    refine lv_icmp_le (tgt := 38) hx hb dn_Order_append_31 (by decide) (fun h => ?_) (fun h => ?_)
    · have hf := (if_pos h).symm.trans hf
      refine lv_iconst (v := 0) hx hb dn_Order_append_38 (by decide) ?_
      exact bl_39 v1 0 s hf H locs ls hP hD hS hl
    · have hf := (if_neg h).symm.trans hf
      exact bl_34 v1 s hf H locs ls hP hD hS hl
set_option maxHeartbeats 8000000 in
set_option maxRecDepth 100000 in
theorem ct_Order_leave_Or (l : Launch) (dC : Nat → ClassId) (dI : Nat → Nat → Nat) (cI cB cJ cZ cQ : ClassId) (N sz : Nat) (a : Nat → Nat) (v : Nat → Value) (hv_7 : v 7 = .ref (a 108)) (v1 : Int32) (s : ms) (y : (Unit × ms)) (hf : fn_Order_leave_Or N v1 s = some y) : Met l yn_Order_leave (xw yn_Order_leave bn_Order_leave 4 none) ({ frames := 1, cells := 0, slots := 0, locals := 40 }) (dc_P (dC, dI) xcl (xt cI cB cJ cZ cQ) [.ref ((a 106)), .int v1] sz (wC a v cI cB cJ cZ cQ s)) (xk_Qv (dC, dI) xcl (xt cI cB cJ cZ cQ) (fun _ : Unit => True) (fun u : Unit => (wC a v cI cB cJ cZ cQ y.2)) (va_A (wC a v cI cB cJ cZ cQ s) sz)) 0 0 (va_A (wC a v cI cB cJ cZ cQ s) sz) := by
  refine dc_of (QA := xk_Qv (dC, dI) xcl (xt cI cB cJ cZ cQ) (fun _ : Unit => True) (fun u : Unit => (wC a v cI cB cJ cZ cQ y.2))) (by decide) (Nat.le_of_ble_eq_true rfl) ?_
  intro p e s0 m below meth c hx hb hml hown hg hr hlocks hin hP hK hN A hA hD hT ls hl
  have hown : s0.vm.findClass rn_Order = some m.cls := hown
  obtain ⟨H, hH⟩ : ∃ z, z = s0.heap := ⟨_, rfl⟩
  rw [← hH] at hP
  have hS : va_S A s0.heap H [] := by rw [hH]; exact va_S.rf
  suffices kk : ∀ QQ : State → Prop, QQ = MQ below (xk_Qv (dC, dI) xcl (xt cI cB cJ cZ cQ) (fun _ : Unit => True) (fun u : Unit => (wC a v cI cB cJ cZ cQ y.2)) A) [.ref ((a 106)), .int v1].toArray s0 0 0 A → dcC p l e ({ frames := 1, cells := 0, slots := 0, locals := 40 }) s0 m [.ref ((a 106)), .int v1].toArray below meth c QQ (dC, dI) A (wC a v cI cB cJ cZ cQ s) 0 4 [(0, .ref ((a 106))), (1, .int v1)] [] by
    have k9 := kk _ rfl H [] ls hP hD hS hl
    rw [hH] at k9; exact k9
  clear hP hD hS hl hH H ls
  intro QQ hQQ
  have bl_152 : ∀ (k_96 : Int32 → Int32 → Int32 → ms → Option (Unit × ms)) (hk_96 : ∀ (x1 : Int32) (x2 : Int32) (x3 : Int32) (s : ms), k_96 x1 x2 x3 s = some y → dcC p l e ({ frames := 1, cells := 0, slots := 0, locals := 40 }) s0 m [.ref ((a 106)), .int v1].toArray below meth c QQ (dC, dI) A (wC a v cI cB cJ cZ cQ s) 96 4 [(0, .ref ((a 106))), (1, .int x1), (2, .int x2), (3, .int x3)] []) (x1 : Int32) (x2 : Int32) (x3 : Int32) (s : ms), bk_Order_leave_Or_152 N k_96 x1 x2 x3 s = some y → dcC p l e ({ frames := 1, cells := 0, slots := 0, locals := 40 }) s0 m [.ref ((a 106)), .int v1].toArray below meth c QQ (dC, dI) A (wC a v cI cB cJ cZ cQ s) 152 4 [(0, .ref ((a 106))), (1, .int x1), (2, .int x2), (3, .int x3)] [] := by
    intro k_96 hk_96 x1 x2 x3 s hf H locs ls hP hD hS hl
    unfold bk_Order_leave_Or_152 at hf
    refine lv_aload_n hx hb dn_Order_leave_152 rfl (lv_at hl 0 rfl) ?_
    refine lv_iload_n hx hb dn_Order_leave_153 rfl (lv_at hl 3 rfl) ?_
    obtain ⟨q_1, hc_2, hf⟩ := dc_b hf
    refine dc_callv (dc_runV (ar := 1) (As := [.int x3]) (rest := []) (ci := 7) (q0 := 6) ⟨hx, hb, hml, hown, hg⟩ hK hN hT hS hA (ct_Order_append_Or l dC dI cI cB cJ cZ cQ N H.size a v hv_7 x3 s q_1 hc_2) hP hD rfl rfl wn_7_0 wn_7_2 sn_Order_append wn_1_7 wn_7_3 rfl rfl (by decide +kernel) ⟨Nat.le_of_ble_eq_true rfl, Nat.le_of_ble_eq_true rfl⟩ rfl hl.1 rfl (Nat.le_of_ble_eq_true rfl) dn_Order_leave_154 ⟨Nat.le_of_ble_eq_true rfl, Nat.le_of_ble_eq_true rfl⟩) hP hD hS hA (fun _ H locs hw hP hD hS => ?_)
    refine lv_goto (tgt := 96) hx hb dn_Order_leave_157 (by decide) ?_
    exact hk_96 x1 x2 x3 q_1.2 hf H locs ls hP hD hS hl
  have hd_96 : ∀ (n : Nat) (x1 : Int32) (x2 : Int32) (x3 : Int32) (s : ms), hd_Order_leave_Or_96 N n x1 x2 x3 s = some y → dcC p l e ({ frames := 1, cells := 0, slots := 0, locals := 40 }) s0 m [.ref ((a 106)), .int v1].toArray below meth c QQ (dC, dI) A (wC a v cI cB cJ cZ cQ s) 96 4 [(0, .ref ((a 106))), (1, .int x1), (2, .int x2), (3, .int x3)] [] := by
    intro n
    induction n with
    | zero => intro x1 x2 x3 s hf; cases hf
    | succ n ih =>
      intro x1 x2 x3 s hf H locs ls hP hD hS hl
      have hf : bd_Order_leave_Or_96 N (hd_Order_leave_Or_96 N n) x1 x2 x3 s = some y := hf
      have hk_96 := ih
      generalize hd_Order_leave_Or_96 N n = k_96 at hf hk_96
      unfold bd_Order_leave_Or_96 at hf
      refine lv_aload_n hx hb dn_Order_leave_96 rfl (lv_at hl 0 rfl) ?_
      refine va_get (D := (dC, dI)) (ci := 7) (v := .int ((s.1 283 0))) (C := rn_Order) (T := fn_Order) (N := 10) hx hb hg in_Order hown hK hP 6 rfl rfl 7 (by decide) (hg _ wn_2_59) (fun _ h9 => h9) rfl dn_Order_leave_97 ?_
      refine lv_if_le (tgt := 160) hx hb dn_Order_leave_100 (by decide) (fun h => ?_) (fun h => ?_)
      · have hf := (if_pos h).symm.trans hf
        rw [hQQ, ← Option.some.inj hf]
        exact xk_vret (w1 := fun u : Unit => (wC a v cI cB cJ cZ cQ s)) () hx hb hr hlocks hK hS dn_Order_leave_160 hP hD trivial (Nat.le_refl _) (Nat.le_refl _)
      · have hf := (if_neg h).symm.trans hf
        refine lv_iload_n hx hb dn_Order_leave_103 rfl (lv_at hl 3 rfl) ?_
        refine lv_iload_n hx hb dn_Order_leave_104 rfl (lv_at hl 1 rfl) ?_
        refine lv_icmp_eq (tgt := 160) hx hb dn_Order_leave_105 (by decide) (fun h => ?_) (fun h => ?_)
        · have hf := (if_pos h).symm.trans hf
          rw [hQQ, ← Option.some.inj hf]
          exact xk_vret (w1 := fun u : Unit => (wC a v cI cB cJ cZ cQ s)) () hx hb hr hlocks hK hS dn_Order_leave_160 hP hD trivial (Nat.le_refl _) (Nat.le_refl _)
        · have hf := (if_neg h).symm.trans hf
          refine lv_aload_n hx hb dn_Order_leave_108 rfl (lv_at hl 0 rfl) ?_
          refine lv_dup hx hb dn_Order_leave_109 rfl ?_
          refine va_get (D := (dC, dI)) (ci := 7) (v := .int ((s.1 283 0))) (C := rn_Order) (T := fn_Order) (N := 10) hx hb hg in_Order hown hK hP 6 rfl rfl 7 (by decide) (hg _ wn_2_59) (fun _ h9 => h9) rfl dn_Order_leave_110 ?_
          refine lv_iconst (v := 1) hx hb dn_Order_leave_113 (by decide) ?_
          refine lv_isub hx hb dn_Order_leave_114 ?_
          refine va_put (D := (dC, dI)) (ci := 7) (v := .int (((s.1 283 0) - 1))) (ty := .int) (C := rn_Order) (T := fn_Order) (N := 10) hx hb hg in_Order tn_Order tk_Order nn_Order hown hK hP hD hS 6 rfl rfl 7 (by decide) (hg _ wn_2_59) (fun _ h9 => h9) rfl (tk_Order 7 (by decide)) rfl rfl (Nat.le_of_ble_eq_true rfl) dn_Order_leave_115 (fun H locs hP hD hS => ?_)
          have hP := wC_P_283 hP
          have hD := wC_D_283 hD
          refine lv_aload_n hx hb dn_Order_leave_118 rfl (lv_at hl 0 rfl) ?_
          refine va_get (D := (dC, dI)) (ci := 7) (v := .ref ((a 281))) (C := rn_Order) (T := fn_Order) (N := 10) hx hb hg in_Order hown hK hP 6 rfl rfl 5 (by decide) (hg _ wn_2_57) (fun _ h9 => h9) rfl dn_Order_leave_119 ?_
          refine lv_aload_n hx hb dn_Order_leave_122 rfl (lv_at hl 0 rfl) ?_
          refine va_get (D := (dC, dI)) (ci := 7) (v := .int (((s.1 283 0) - 1))) (C := rn_Order) (T := fn_Order) (N := 10) hx hb hg in_Order hown hK hP 6 rfl rfl 7 (by decide) (hg _ wn_2_59) (fun _ h9 => h9) rfl dn_Order_leave_123 ?_
          obtain ⟨hg_1, hf⟩ := dc_g hf
          refine va_iald hx hb hK hP 38 0 rfl rfl hg_1 dn_Order_leave_126 ?_
          refine xk_ti (y := ((s.1 281) (Int32.toNatClampNeg (((s.1 283 0) - 1))))) rfl ?_
          refine lv_istore_n (lv' := [(3, .int (((s.1 281) (Int32.toNatClampNeg (((s.1 283 0) - 1)))))), (0, .ref ((a 106))), (1, .int x1), (2, .int x2)]) hx hb dn_Order_leave_127 rfl hl (by decide) rfl (fun ls hl => ?_)
          refine lv_aload_n hx hb dn_Order_leave_128 rfl (lv_at hl 1 rfl) ?_
          refine va_get (D := (dC, dI)) (ci := 7) (v := .ref ((a 277))) (C := rn_Order) (T := fn_Order) (N := 10) hx hb hg in_Order hown hK hP 6 rfl rfl 1 (by decide) (hg _ wn_2_53) (fun _ h9 => h9) rfl dn_Order_leave_129 ?_
          refine lv_iload_n hx hb dn_Order_leave_132 rfl (lv_at hl 0 rfl) ?_
          refine lv_ldc hx hb hown (hg _ wn_6_215) dn_Order_leave_133 ?_
          obtain ⟨hg_2, hf⟩ := dc_g hf
          refine va_iast hx hb hK hP hD hS 34 0 rfl rfl hg_2 dn_Order_leave_135 (fun H locs hP hD hS => ?_)
          have hP : va_P (dC, dI) xcl ((wC a v cI cB cJ cZ cQ (upI s 283 (fun _ => ((s.1 283 0) - 1)))).set 34 ((a 277), .inl (cI, 1024, .inl (upd (s.1 277) (Int32.toNatClampNeg (((s.1 281) (Int32.toNatClampNeg (((s.1 283 0) - 1)))))) 1073741824)))) H := hP
          have hD : va_D A ((wC a v cI cB cJ cZ cQ (upI s 283 (fun _ => ((s.1 283 0) - 1)))).set 34 ((a 277), .inl (cI, 1024, .inl (upd (s.1 277) (Int32.toNatClampNeg (((s.1 281) (Int32.toNatClampNeg (((s.1 283 0) - 1)))))) 1073741824)))) := hD
          have hP := wC_P_277 hP
          have hD := wC_D_277 hD
          refine lv_iload_n hx hb dn_Order_leave_136 rfl (lv_at hl 3 rfl) ?_
          refine lv_if_eq (tgt := 152) hx hb dn_Order_leave_137 (by decide) (fun h => ?_) (fun h => ?_)
          · have hf := (if_pos h).symm.trans hf
            exact bl_152 k_96 hk_96 x1 x2 (((s.1 281) (Int32.toNatClampNeg (((s.1 283 0) - 1))))) (upI (upI s 283 (fun _ => ((s.1 283 0) - 1))) 277 (upd (s.1 277) (Int32.toNatClampNeg (((s.1 281) (Int32.toNatClampNeg (((s.1 283 0) - 1)))))) 1073741824)) hf H locs ls hP hD hS (lv_sub hl [1, 2, 3, 0] rfl)
          · have hf := (if_neg h).symm.trans hf
            refine lv_aload_n hx hb dn_Order_leave_140 rfl (lv_at hl 1 rfl) ?_
            refine lv_aload_n hx hb dn_Order_leave_141 rfl (lv_at hl 1 rfl) ?_
            refine va_get (D := (dC, dI)) (ci := 7) (v := .int ((s.1 285 0))) (C := rn_Order) (T := fn_Order) (N := 10) hx hb hg in_Order hown hK hP 6 rfl rfl 9 (by decide) (hg _ wn_2_61) (fun _ h9 => h9) rfl dn_Order_leave_142 ?_
            refine lv_iload_n hx hb dn_Order_leave_145 rfl (lv_at hl 0 rfl) ?_
            refine va_mmin (x := (s.1 285 0)) (y := ((s.1 281) (Int32.toNatClampNeg (((s.1 283 0) - 1))))) (rest := [.ref ((a 106))]) hx hb (by rw [hml]; exact hl.1.symm) hown (hg _ wn_6_229) (hg _ wn_3_168) (hg _ wn_1_19) (hg _ wn_3_169) (Nat.le_of_ble_eq_true rfl) (Nat.le_of_ble_eq_true rfl) (Nat.zero_le _) (Nat.zero_le _) dn_Order_leave_146 ?_
            refine va_put (D := (dC, dI)) (ci := 7) (v := .int ((if ((s.1 281) (Int32.toNatClampNeg (((s.1 283 0) - 1)))) < (s.1 285 0) then ((s.1 281) (Int32.toNatClampNeg (((s.1 283 0) - 1)))) else (s.1 285 0)))) (ty := .int) (C := rn_Order) (T := fn_Order) (N := 10) hx hb hg in_Order tn_Order tk_Order nn_Order hown hK hP hD hS 6 rfl rfl 9 (by decide) (hg _ wn_2_61) (fun _ h9 => h9) rfl (tk_Order 9 (by decide)) rfl rfl (Nat.le_of_ble_eq_true rfl) dn_Order_leave_149 (fun H locs hP hD hS => ?_)
            have hP := wC_P_285 hP
            have hD := wC_D_285 hD
            exact bl_152 k_96 hk_96 x1 x2 (((s.1 281) (Int32.toNatClampNeg (((s.1 283 0) - 1))))) (upI (upI (upI s 283 (fun _ => ((s.1 283 0) - 1))) 277 (upd (s.1 277) (Int32.toNatClampNeg (((s.1 281) (Int32.toNatClampNeg (((s.1 283 0) - 1)))))) 1073741824)) 285 (fun _ => (if ((s.1 281) (Int32.toNatClampNeg (((s.1 283 0) - 1)))) < (s.1 285 0) then ((s.1 281) (Int32.toNatClampNeg (((s.1 283 0) - 1)))) else (s.1 285 0)))) hf H locs ls hP hD hS (lv_sub hl [1, 2, 3, 0] rfl)
  have bl_50 : ∀ (x1 : Int32) (s : ms), bk_Order_leave_Or_50 N x1 s = some y → dcC p l e ({ frames := 1, cells := 0, slots := 0, locals := 40 }) s0 m [.ref ((a 106)), .int v1].toArray below meth c QQ (dC, dI) A (wC a v cI cB cJ cZ cQ s) 50 4 [(0, .ref ((a 106))), (1, .int x1)] [] := by
    intro x1 s hf H locs ls hP hD hS hl
    unfold bk_Order_leave_Or_50 at hf
    refine lv_aload_n hx hb dn_Order_leave_50 rfl (lv_at hl 0 rfl) ?_
    refine va_get (D := (dC, dI)) (ci := 7) (v := .ref ((a 278))) (C := rn_Order) (T := fn_Order) (N := 10) hx hb hg in_Order hown hK hP 6 rfl rfl 2 (by decide) (hg _ wn_2_54) (fun _ h9 => h9) rfl dn_Order_leave_51 ?_
    refine lv_iload_n hx hb dn_Order_leave_54 rfl (lv_at hl 1 rfl) ?_
    obtain ⟨hg_1, hf⟩ := dc_g hf
    refine va_iald hx hb hK hP 35 0 rfl rfl hg_1 dn_Order_leave_55 ?_
    refine xk_ti (y := ((s.1 278) (Int32.toNatClampNeg x1))) rfl ?_
    refine lv_aload_n hx hb dn_Order_leave_56 rfl (lv_at hl 0 rfl) ?_
    refine va_get (D := (dC, dI)) (ci := 7) (v := .ref ((a 277))) (C := rn_Order) (T := fn_Order) (N := 10) hx hb hg in_Order hown hK hP 6 rfl rfl 1 (by decide) (hg _ wn_2_53) (fun _ h9 => h9) rfl dn_Order_leave_57 ?_
    refine lv_iload_n hx hb dn_Order_leave_60 rfl (lv_at hl 1 rfl) ?_
    obtain ⟨hg_2, hf⟩ := dc_g hf
    refine va_iald hx hb hK hP 34 0 rfl rfl hg_2 dn_Order_leave_61 ?_
    refine xk_ti (y := ((s.1 277) (Int32.toNatClampNeg x1))) rfl ?_
    refine lv_icmp_eq (tgt := 66) hx hb dn_Order_leave_62 (by decide) (fun h => ?_) (fun h => ?_)
    · have hf := (if_pos h).symm.trans hf
      refine lv_aload_n hx hb dn_Order_leave_66 rfl (lv_at hl 0 rfl) ?_
      refine va_get (D := (dC, dI)) (ci := 7) (v := .int ((s.1 283 0))) (C := rn_Order) (T := fn_Order) (N := 10) hx hb hg in_Order hown hK hP 6 rfl rfl 7 (by decide) (hg _ wn_2_59) (fun _ h9 => h9) rfl dn_Order_leave_67 ?_
      refine lv_if_le (tgt := 92) hx hb dn_Order_leave_70 (by decide) (fun h => ?_) (fun h => ?_)
      · have hf := (if_pos h).symm.trans hf
        refine lv_iconst (v := 0) hx hb dn_Order_leave_92 (by decide) ?_
        refine lv_istore_n (lv' := [(2, .int 0), (0, .ref ((a 106))), (1, .int x1)]) hx hb dn_Order_leave_93 rfl hl (by decide) rfl (fun ls hl => ?_)
        refine lv_iconst (v := (-1)) hx hb dn_Order_leave_94 (by decide) ?_
        refine lv_istore_n (lv' := [(3, .int ((-1))), (2, .int 0), (0, .ref ((a 106))), (1, .int x1)]) hx hb dn_Order_leave_95 rfl hl (by decide) rfl (fun ls hl => ?_)
        exact hd_96 N x1 0 ((-1)) s hf H locs ls hP hD hS (lv_sub hl [2, 3, 1, 0] rfl)
      · have hf := (if_neg h).symm.trans hf
        refine lv_aload_n hx hb dn_Order_leave_73 rfl (lv_at hl 0 rfl) ?_
        refine va_get (D := (dC, dI)) (ci := 7) (v := .ref ((a 281))) (C := rn_Order) (T := fn_Order) (N := 10) hx hb hg in_Order hown hK hP 6 rfl rfl 5 (by decide) (hg _ wn_2_57) (fun _ h9 => h9) rfl dn_Order_leave_74 ?_
        refine lv_aload_n hx hb dn_Order_leave_77 rfl (lv_at hl 0 rfl) ?_
        refine va_get (D := (dC, dI)) (ci := 7) (v := .int ((s.1 283 0))) (C := rn_Order) (T := fn_Order) (N := 10) hx hb hg in_Order hown hK hP 6 rfl rfl 7 (by decide) (hg _ wn_2_59) (fun _ h9 => h9) rfl dn_Order_leave_78 ?_
        refine lv_iconst (v := 1) hx hb dn_Order_leave_81 (by decide) ?_
        refine lv_isub hx hb dn_Order_leave_82 ?_
        obtain ⟨hg_3, hf⟩ := dc_g hf
        refine va_iald hx hb hK hP 38 0 rfl rfl hg_3 dn_Order_leave_83 ?_
        refine xk_ti (y := ((s.1 281) (Int32.toNatClampNeg (((s.1 283 0) - 1))))) rfl ?_
        refine lv_iload_n hx hb dn_Order_leave_84 rfl (lv_at hl 1 rfl) ?_
        refine lv_icmp_eq (tgt := 92) hx hb dn_Order_leave_85 (by decide) (fun h => ?_) (fun h => ?_)
        · have hf := (if_pos h).symm.trans hf
          refine lv_iconst (v := 0) hx hb dn_Order_leave_92 (by decide) ?_
          refine lv_istore_n (lv' := [(2, .int 0), (0, .ref ((a 106))), (1, .int x1)]) hx hb dn_Order_leave_93 rfl hl (by decide) rfl (fun ls hl => ?_)
          refine lv_iconst (v := (-1)) hx hb dn_Order_leave_94 (by decide) ?_
          refine lv_istore_n (lv' := [(3, .int ((-1))), (2, .int 0), (0, .ref ((a 106))), (1, .int x1)]) hx hb dn_Order_leave_95 rfl hl (by decide) rfl (fun ls hl => ?_)
          exact hd_96 N x1 0 ((-1)) s hf H locs ls hP hD hS (lv_sub hl [2, 3, 1, 0] rfl)
        · have hf := (if_neg h).symm.trans hf
          refine lv_iconst (v := 1) hx hb dn_Order_leave_88 (by decide) ?_
          refine lv_goto (tgt := 93) hx hb dn_Order_leave_89 (by decide) ?_
          refine lv_istore_n (lv' := [(2, .int 1), (0, .ref ((a 106))), (1, .int x1)]) hx hb dn_Order_leave_93 rfl hl (by decide) rfl (fun ls hl => ?_)
          refine lv_iconst (v := (-1)) hx hb dn_Order_leave_94 (by decide) ?_
          refine lv_istore_n (lv' := [(3, .int ((-1))), (2, .int 1), (0, .ref ((a 106))), (1, .int x1)]) hx hb dn_Order_leave_95 rfl hl (by decide) rfl (fun ls hl => ?_)
          exact hd_96 N x1 1 ((-1)) s hf H locs ls hP hD hS (lv_sub hl [2, 3, 1, 0] rfl)
    · have hf := (if_neg h).symm.trans hf
      rw [hQQ, ← Option.some.inj hf]
      exact xk_vret (w1 := fun u : Unit => (wC a v cI cB cJ cZ cQ s)) () hx hb hr hlocks hK hS dn_Order_leave_65 hP hD trivial (Nat.le_refl _) (Nat.le_refl _)
  intro H locs ls hP hD hS hl
  unfold fn_Order_leave_Or at hf
  refine lv_aload_n hx hb dn_Order_leave_0 rfl (lv_at hl 0 rfl) ?_
  refine lv_dup hx hb dn_Order_leave_1 rfl ?_
  refine va_get (D := (dC, dI)) (ci := 7) (v := .int ((s.1 282 0))) (C := rn_Order) (T := fn_Order) (N := 10) hx hb hg in_Order hown hK hP 6 rfl rfl 6 (by decide) (hg _ wn_2_58) (fun _ h9 => h9) rfl dn_Order_leave_2 ?_
  refine lv_iconst (v := 1) hx hb dn_Order_leave_5 (by decide) ?_
  refine lv_isub hx hb dn_Order_leave_6 ?_
  refine va_put (D := (dC, dI)) (ci := 7) (v := .int (((s.1 282 0) - 1))) (ty := .int) (C := rn_Order) (T := fn_Order) (N := 10) hx hb hg in_Order tn_Order tk_Order nn_Order hown hK hP hD hS 6 rfl rfl 6 (by decide) (hg _ wn_2_58) (fun _ h9 => h9) rfl (tk_Order 6 (by decide)) rfl rfl (Nat.le_of_ble_eq_true rfl) dn_Order_leave_7 (fun H locs hP hD hS => ?_)
  have hP := wC_P_282 hP
  have hD := wC_D_282 hD
  refine lv_aload_n hx hb dn_Order_leave_10 rfl (lv_at hl 0 rfl) ?_
  refine va_get (D := (dC, dI)) (ci := 7) (v := .int (((s.1 282 0) - 1))) (C := rn_Order) (T := fn_Order) (N := 10) hx hb hg in_Order hown hK hP 6 rfl rfl 6 (by decide) (hg _ wn_2_58) (fun _ h9 => h9) rfl dn_Order_leave_11 ?_
  refine lv_if_le (tgt := 50) hx hb dn_Order_leave_14 (by decide) (fun h => ?_) (fun h => ?_)
  · have hf := (if_pos h).symm.trans hf
    exact bl_50 v1 (upI s 282 (fun _ => ((s.1 282 0) - 1))) hf H locs ls hP hD hS hl
  · have hf := (if_neg h).symm.trans hf
    refine lv_aload_n hx hb dn_Order_leave_17 rfl (lv_at hl 0 rfl) ?_
    refine va_get (D := (dC, dI)) (ci := 7) (v := .ref ((a 280))) (C := rn_Order) (T := fn_Order) (N := 10) hx hb hg in_Order hown hK hP 6 rfl rfl 4 (by decide) (hg _ wn_2_56) (fun _ h9 => h9) rfl dn_Order_leave_18 ?_
    refine lv_aload_n hx hb dn_Order_leave_21 rfl (lv_at hl 0 rfl) ?_
    refine va_get (D := (dC, dI)) (ci := 7) (v := .int (((s.1 282 0) - 1))) (C := rn_Order) (T := fn_Order) (N := 10) hx hb hg in_Order hown hK hP 6 rfl rfl 6 (by decide) (hg _ wn_2_58) (fun _ h9 => h9) rfl dn_Order_leave_22 ?_
    refine lv_iconst (v := 1) hx hb dn_Order_leave_25 (by decide) ?_
    refine lv_isub hx hb dn_Order_leave_26 ?_
    obtain ⟨hg_1, hf⟩ := dc_g hf
    refine va_iald hx hb hK hP 37 0 rfl rfl hg_1 dn_Order_leave_27 ?_
    refine xk_ti (y := ((s.1 280) (Int32.toNatClampNeg ((((s.1 282 0) - 1) - 1))))) rfl ?_
    refine lv_istore_n (lv' := [(2, .int (((s.1 280) (Int32.toNatClampNeg ((((s.1 282 0) - 1) - 1)))))), (0, .ref ((a 106))), (1, .int v1)]) hx hb dn_Order_leave_28 rfl hl (by decide) rfl (fun ls hl => ?_)
    refine lv_aload_n hx hb dn_Order_leave_29 rfl (lv_at hl 1 rfl) ?_
    refine va_get (D := (dC, dI)) (ci := 7) (v := .ref ((a 278))) (C := rn_Order) (T := fn_Order) (N := 10) hx hb hg in_Order hown hK hP 6 rfl rfl 2 (by decide) (hg _ wn_2_54) (fun _ h9 => h9) rfl dn_Order_leave_30 ?_
    refine lv_iload_n hx hb dn_Order_leave_33 rfl (lv_at hl 0 rfl) ?_
    refine lv_aload_n hx hb dn_Order_leave_34 rfl (lv_at hl 1 rfl) ?_
    refine va_get (D := (dC, dI)) (ci := 7) (v := .ref ((a 278))) (C := rn_Order) (T := fn_Order) (N := 10) hx hb hg in_Order hown hK hP 6 rfl rfl 2 (by decide) (hg _ wn_2_54) (fun _ h9 => h9) rfl dn_Order_leave_35 ?_
    refine lv_iload_n hx hb dn_Order_leave_38 rfl (lv_at hl 0 rfl) ?_
    obtain ⟨hg_2, hf⟩ := dc_g hf
    refine va_iald hx hb hK hP 35 0 rfl rfl hg_2 dn_Order_leave_39 ?_
    refine xk_ti (y := ((s.1 278) (Int32.toNatClampNeg (((s.1 280) (Int32.toNatClampNeg ((((s.1 282 0) - 1) - 1)))))))) rfl ?_
    refine lv_aload_n hx hb dn_Order_leave_40 rfl (lv_at hl 1 rfl) ?_
    refine va_get (D := (dC, dI)) (ci := 7) (v := .ref ((a 278))) (C := rn_Order) (T := fn_Order) (N := 10) hx hb hg in_Order hown hK hP 6 rfl rfl 2 (by decide) (hg _ wn_2_54) (fun _ h9 => h9) rfl dn_Order_leave_41 ?_
    refine lv_iload_n hx hb dn_Order_leave_44 rfl (lv_at hl 2 rfl) ?_
    obtain ⟨hg_3, hf⟩ := dc_g hf
    refine va_iald hx hb hK hP 35 0 rfl rfl hg_3 dn_Order_leave_45 ?_
    refine xk_ti (y := ((s.1 278) (Int32.toNatClampNeg v1))) rfl ?_
    refine va_mmin (x := ((s.1 278) (Int32.toNatClampNeg (((s.1 280) (Int32.toNatClampNeg ((((s.1 282 0) - 1) - 1)))))))) (y := ((s.1 278) (Int32.toNatClampNeg v1))) (rest := [.int (((s.1 280) (Int32.toNatClampNeg ((((s.1 282 0) - 1) - 1))))), .ref ((a 278))]) hx hb (by rw [hml]; exact hl.1.symm) hown (hg _ wn_6_229) (hg _ wn_3_168) (hg _ wn_1_19) (hg _ wn_3_169) (Nat.le_of_ble_eq_true rfl) (Nat.le_of_ble_eq_true rfl) (Nat.zero_le _) (Nat.zero_le _) dn_Order_leave_46 ?_
    obtain ⟨hg_4, hf⟩ := dc_g hf
    refine va_iast hx hb hK hP hD hS 35 0 rfl rfl hg_4 dn_Order_leave_49 (fun H locs hP hD hS => ?_)
    have hP : va_P (dC, dI) xcl ((wC a v cI cB cJ cZ cQ (upI s 282 (fun _ => ((s.1 282 0) - 1)))).set 35 ((a 278), .inl (cI, 1024, .inl (upd (s.1 278) (Int32.toNatClampNeg (((s.1 280) (Int32.toNatClampNeg ((((s.1 282 0) - 1) - 1)))))) ((if ((s.1 278) (Int32.toNatClampNeg v1)) < ((s.1 278) (Int32.toNatClampNeg (((s.1 280) (Int32.toNatClampNeg ((((s.1 282 0) - 1) - 1))))))) then ((s.1 278) (Int32.toNatClampNeg v1)) else ((s.1 278) (Int32.toNatClampNeg (((s.1 280) (Int32.toNatClampNeg ((((s.1 282 0) - 1) - 1))))))))))))) H := hP
    have hD : va_D A ((wC a v cI cB cJ cZ cQ (upI s 282 (fun _ => ((s.1 282 0) - 1)))).set 35 ((a 278), .inl (cI, 1024, .inl (upd (s.1 278) (Int32.toNatClampNeg (((s.1 280) (Int32.toNatClampNeg ((((s.1 282 0) - 1) - 1)))))) ((if ((s.1 278) (Int32.toNatClampNeg v1)) < ((s.1 278) (Int32.toNatClampNeg (((s.1 280) (Int32.toNatClampNeg ((((s.1 282 0) - 1) - 1))))))) then ((s.1 278) (Int32.toNatClampNeg v1)) else ((s.1 278) (Int32.toNatClampNeg (((s.1 280) (Int32.toNatClampNeg ((((s.1 282 0) - 1) - 1))))))))))))) := hD
    have hP := wC_P_278 hP
    have hD := wC_D_278 hD
    exact bl_50 v1 (upI (upI s 282 (fun _ => ((s.1 282 0) - 1))) 278 (upd (s.1 278) (Int32.toNatClampNeg (((s.1 280) (Int32.toNatClampNeg ((((s.1 282 0) - 1) - 1)))))) ((if ((s.1 278) (Int32.toNatClampNeg v1)) < ((s.1 278) (Int32.toNatClampNeg (((s.1 280) (Int32.toNatClampNeg ((((s.1 282 0) - 1) - 1))))))) then ((s.1 278) (Int32.toNatClampNeg v1)) else ((s.1 278) (Int32.toNatClampNeg (((s.1 280) (Int32.toNatClampNeg ((((s.1 282 0) - 1) - 1))))))))))) hf H locs ls hP hD hS (lv_sub hl [1, 2] rfl)
