set_option maxHeartbeats 8000000 in
set_option maxRecDepth 100000 in
theorem ct_Parts_linksEnd_Ps (l : Launch) (dC : Nat → ClassId) (dI : Nat → Nat → Nat) (cI cB cJ cZ cQ : ClassId) (N sz : Nat) (a : Nat → Nat) (v : Nat → Value) (v1 : Int32) (s : ms) (y : (Int32 × ms)) (hf : fn_Parts_linksEnd_Ps N v1 s = some y) : Met l yn_Parts_linksEnd (xw yn_Parts_linksEnd bn_Parts_linksEnd 2 (some .int)) ({ frames := 0, cells := 0, slots := 0, locals := 0 }) (dc_P (dC, dI) xcl (xt cI cB cJ cZ cQ) [.ref ((a 110)), .int v1] sz (wC a v cI cB cJ cZ cQ s)) (xk_Qi (dC, dI) xcl (xt cI cB cJ cZ cQ) (fun (r : Int32) (_ : Unit) => r = y.1) (fun u : Unit => (wC a v cI cB cJ cZ cQ y.2)) (va_A (wC a v cI cB cJ cZ cQ s) sz)) 0 0 (va_A (wC a v cI cB cJ cZ cQ s) sz) := by
  refine dc_of (QA := xk_Qi (dC, dI) xcl (xt cI cB cJ cZ cQ) (fun (r : Int32) (_ : Unit) => r = y.1) (fun u : Unit => (wC a v cI cB cJ cZ cQ y.2))) (by decide) (Nat.le_of_ble_eq_true rfl) ?_
  intro p e s0 m below meth c hx hb hml hown hg hr hlocks hin hP hK hN A hA hD hT ls hl
  have hown : s0.vm.findClass rn_Parts = some m.cls := hown
  obtain ⟨H, hH⟩ : ∃ z, z = s0.heap := ⟨_, rfl⟩
  rw [← hH] at hP
  have hS : va_S A s0.heap H [] := by rw [hH]; exact va_S.rf
  suffices kk : ∀ QQ : State → Prop, QQ = MQ below (xk_Qi (dC, dI) xcl (xt cI cB cJ cZ cQ) (fun (r : Int32) (_ : Unit) => r = y.1) (fun u : Unit => (wC a v cI cB cJ cZ cQ y.2)) A) [.ref ((a 110)), .int v1].toArray s0 0 0 A → dcC p l e ({ frames := 0, cells := 0, slots := 0, locals := 0 }) s0 m [.ref ((a 110)), .int v1].toArray below meth c QQ (dC, dI) A (wC a v cI cB cJ cZ cQ s) 0 2 [(0, .ref ((a 110))), (1, .int v1)] [] by
    have k9 := kk _ rfl H [] ls hP hD hS hl
    rw [hH] at k9; exact k9
  clear hP hD hS hl hH H ls
  intro QQ hQQ
  intro H locs ls hP hD hS hl
  unfold fn_Parts_linksEnd_Ps at hf
  refine lv_iload_n hx hb dn_Parts_linksEnd_0 rfl (lv_at hl 1 rfl) ?_
  refine lv_iconst (v := 1) hx hb dn_Parts_linksEnd_1 (by decide) ?_
  refine lv_iadd hx hb dn_Parts_linksEnd_2 ?_
  refine lv_aload_n hx hb dn_Parts_linksEnd_3 rfl (lv_at hl 0 rfl) ?_
  refine va_get (D := (dC, dI)) (ci := 11) (v := .int ((s.1 328 0))) (C := rn_Parts) (T := fn_Parts) (N := 15) hx hb hg in_Parts hown hK hP 10 rfl rfl 7 (by decide) (hg _ wn_2_149) (fun _ h9 => h9) rfl dn_Parts_linksEnd_4 ?_
  refine lv_icmp_ge (tgt := 21) hx hb dn_Parts_linksEnd_7 (by decide) (fun h => ?_) (fun h => ?_)
  · have hf := (if_pos h).symm.trans hf
    refine lv_aload_n hx hb dn_Parts_linksEnd_21 rfl (lv_at hl 0 rfl) ?_
    refine va_get (D := (dC, dI)) (ci := 11) (v := .int ((s.1 332 0))) (C := rn_Parts) (T := fn_Parts) (N := 15) hx hb hg in_Parts hown hK hP 10 rfl rfl 11 (by decide) (hg _ wn_2_162) (fun _ h9 => h9) rfl dn_Parts_linksEnd_22 ?_
    rw [hQQ, ← Option.some.inj hf]
    exact xk_iret (w1 := fun u : Unit => (wC a v cI cB cJ cZ cQ s)) () hx hb hr hlocks hK hS dn_Parts_linksEnd_25 hP hD rfl (Nat.le_refl _) (Nat.le_refl _)
  · have hf := (if_neg h).symm.trans hf
    refine lv_aload_n hx hb dn_Parts_linksEnd_10 rfl (lv_at hl 0 rfl) ?_
    refine va_get (D := (dC, dI)) (ci := 11) (v := .ref ((a 331))) (C := rn_Parts) (T := fn_Parts) (N := 15) hx hb hg in_Parts hown hK hP 10 rfl rfl 10 (by decide) (hg _ wn_2_159) (fun _ h9 => h9) rfl dn_Parts_linksEnd_11 ?_
    refine lv_iload_n hx hb dn_Parts_linksEnd_14 rfl (lv_at hl 1 rfl) ?_
    refine lv_iconst (v := 1) hx hb dn_Parts_linksEnd_15 (by decide) ?_
    refine lv_iadd hx hb dn_Parts_linksEnd_16 ?_
    obtain ⟨hg_1, hf⟩ := dc_g hf
    refine va_iald hx hb hK hP 69 0 rfl rfl hg_1 dn_Parts_linksEnd_17 ?_
    refine xk_ti (y := ((s.1 331) (Int32.toNatClampNeg ((v1 + 1))))) rfl ?_
    refine lv_goto (tgt := 25) hx hb dn_Parts_linksEnd_18 (by decide) ?_
    rw [hQQ, ← Option.some.inj hf]
    exact xk_iret (w1 := fun u : Unit => (wC a v cI cB cJ cZ cQ s)) () hx hb hr hlocks hK hS dn_Parts_linksEnd_25 hP hD rfl (Nat.le_refl _) (Nat.le_refl _)
set_option maxHeartbeats 8000000 in
set_option maxRecDepth 100000 in
theorem ct_Circuit_isSignal_Cs (l : Launch) (dC : Nat → ClassId) (dI : Nat → Nat → Nat) (cI cB cJ cZ cQ : ClassId) (N sz : Nat) (a : Nat → Nat) (v : Nat → Value) (v1 : Int32) (s : ms) (y : (Int32 × ms)) (hf : fn_Circuit_isSignal_Cs N v1 s = some y) : Met l yn_Circuit_isSignal (xw yn_Circuit_isSignal bn_Circuit_isSignal 2 (some .boolean)) ({ frames := 0, cells := 0, slots := 0, locals := 0 }) (dc_P (dC, dI) xcl (xt cI cB cJ cZ cQ) [.ref ((a 108)), .int v1] sz (wC a v cI cB cJ cZ cQ s)) (xk_Qi (dC, dI) xcl (xt cI cB cJ cZ cQ) (fun (r : Int32) (_ : Unit) => r = y.1) (fun u : Unit => (wC a v cI cB cJ cZ cQ y.2)) (va_A (wC a v cI cB cJ cZ cQ s) sz)) 0 0 (va_A (wC a v cI cB cJ cZ cQ s) sz) := by
  refine dc_of (QA := xk_Qi (dC, dI) xcl (xt cI cB cJ cZ cQ) (fun (r : Int32) (_ : Unit) => r = y.1) (fun u : Unit => (wC a v cI cB cJ cZ cQ y.2))) (by decide) (Nat.le_of_ble_eq_true rfl) ?_
  intro p e s0 m below meth c hx hb hml hown hg hr hlocks hin hP hK hN A hA hD hT ls hl
  have hown : s0.vm.findClass rn_Circuit = some m.cls := hown
  obtain ⟨H, hH⟩ : ∃ z, z = s0.heap := ⟨_, rfl⟩
  rw [← hH] at hP
  have hS : va_S A s0.heap H [] := by rw [hH]; exact va_S.rf
  suffices kk : ∀ QQ : State → Prop, QQ = MQ below (xk_Qi (dC, dI) xcl (xt cI cB cJ cZ cQ) (fun (r : Int32) (_ : Unit) => r = y.1) (fun u : Unit => (wC a v cI cB cJ cZ cQ y.2)) A) [.ref ((a 108)), .int v1].toArray s0 0 0 A → dcC p l e ({ frames := 0, cells := 0, slots := 0, locals := 0 }) s0 m [.ref ((a 108)), .int v1].toArray below meth c QQ (dC, dI) A (wC a v cI cB cJ cZ cQ s) 0 2 [(0, .ref ((a 108))), (1, .int v1)] [] by
    have k9 := kk _ rfl H [] ls hP hD hS hl
    rw [hH] at k9; exact k9
  clear hP hD hS hl hH H ls
  intro QQ hQQ
  intro H locs ls hP hD hS hl
  unfold fn_Circuit_isSignal_Cs at hf
  refine lv_iload_n hx hb dn_Circuit_isSignal_0 rfl (lv_at hl 1 rfl) ?_
  refine lv_if_lt (tgt := 16) hx hb dn_Circuit_isSignal_1 (by decide) (fun h => ?_) (fun h => ?_)
  · have hf := (if_pos h).symm.trans hf
    refine lv_iconst (v := 0) hx hb dn_Circuit_isSignal_16 (by decide) ?_
    rw [hQQ, ← Option.some.inj hf]
    exact xk_zret (w1 := fun u : Unit => (wC a v cI cB cJ cZ cQ s)) () hx hb hr rfl hlocks hK hS dn_Circuit_isSignal_17 hP hD rfl (Nat.le_refl _) (Nat.le_refl _)
  · have hf := (if_neg h).symm.trans hf
    refine lv_iload_n hx hb dn_Circuit_isSignal_4 rfl (lv_at hl 1 rfl) ?_
    refine lv_aload_n hx hb dn_Circuit_isSignal_5 rfl (lv_at hl 0 rfl) ?_
    refine va_get (D := (dC, dI)) (ci := 9) (v := .int ((s.1 293 0))) (C := rn_Circuit) (T := fn_Circuit) (N := 14) hx hb hg in_Circuit hown hK hP 8 rfl rfl 2 (by decide) (hg _ wn_3_70) (fun _ h9 => h9) rfl dn_Circuit_isSignal_6 ?_
    refine lv_icmp_ge (tgt := 16) hx hb dn_Circuit_isSignal_9 (by decide) (fun h => ?_) (fun h => ?_)
    · have hf := (if_pos h).symm.trans hf
      refine lv_iconst (v := 0) hx hb dn_Circuit_isSignal_16 (by decide) ?_
      rw [hQQ, ← Option.some.inj hf]
      exact xk_zret (w1 := fun u : Unit => (wC a v cI cB cJ cZ cQ s)) () hx hb hr rfl hlocks hK hS dn_Circuit_isSignal_17 hP hD rfl (Nat.le_refl _) (Nat.le_refl _)
    · have hf := (if_neg h).symm.trans hf
      refine lv_iconst (v := 1) hx hb dn_Circuit_isSignal_12 (by decide) ?_
      refine lv_goto (tgt := 17) hx hb dn_Circuit_isSignal_13 (by decide) ?_
      rw [hQQ, ← Option.some.inj hf]
      exact xk_zret (w1 := fun u : Unit => (wC a v cI cB cJ cZ cQ s)) () hx hb hr rfl hlocks hK hS dn_Circuit_isSignal_17 hP hD rfl (Nat.le_refl _) (Nat.le_refl _)
set_option maxHeartbeats 8000000 in
set_option maxRecDepth 100000 in
theorem ct_Circuit_layLinks_Cs (l : Launch) (dC : Nat → ClassId) (dI : Nat → Nat → Nat) (cI cB cJ cZ cQ : ClassId) (N sz : Nat) (a : Nat → Nat) (v : Nat → Value) (v1 : Int32) (s : ms) (y : (Unit × ms)) (hf : fn_Circuit_layLinks_Cs N v1 s = some y) : Met l yn_Circuit_layLinks (xw yn_Circuit_layLinks bn_Circuit_layLinks 9 none) ({ frames := 1, cells := 0, slots := 0, locals := 21 }) (dc_P (dC, dI) xcl (xt cI cB cJ cZ cQ) [.ref ((a 108)), .int v1] sz (wC a v cI cB cJ cZ cQ s)) (xk_Qv (dC, dI) xcl (xt cI cB cJ cZ cQ) (fun _ : Unit => True) (fun u : Unit => (wC a v cI cB cJ cZ cQ y.2)) (va_A (wC a v cI cB cJ cZ cQ s) sz)) 0 0 (va_A (wC a v cI cB cJ cZ cQ s) sz) := by
  refine dc_of (QA := xk_Qv (dC, dI) xcl (xt cI cB cJ cZ cQ) (fun _ : Unit => True) (fun u : Unit => (wC a v cI cB cJ cZ cQ y.2))) (by decide) (Nat.le_of_ble_eq_true rfl) ?_
  intro p e s0 m below meth c hx hb hml hown hg hr hlocks hin hP hK hN A hA hD hT ls hl
  have hown : s0.vm.findClass rn_Circuit = some m.cls := hown
  obtain ⟨H, hH⟩ : ∃ z, z = s0.heap := ⟨_, rfl⟩
  rw [← hH] at hP
  have hS : va_S A s0.heap H [] := by rw [hH]; exact va_S.rf
  suffices kk : ∀ QQ : State → Prop, QQ = MQ below (xk_Qv (dC, dI) xcl (xt cI cB cJ cZ cQ) (fun _ : Unit => True) (fun u : Unit => (wC a v cI cB cJ cZ cQ y.2)) A) [.ref ((a 108)), .int v1].toArray s0 0 0 A → dcC p l e ({ frames := 1, cells := 0, slots := 0, locals := 21 }) s0 m [.ref ((a 108)), .int v1].toArray below meth c QQ (dC, dI) A (wC a v cI cB cJ cZ cQ s) 0 9 [(0, .ref ((a 108))), (1, .int v1)] [] by
    have k9 := kk _ rfl H [] ls hP hD hS hl
    rw [hH] at k9; exact k9
  clear hP hD hS hl hH H ls
  intro QQ hQQ
  have hd_53 : ∀ (n : Nat) (x3 : Int32) (x4 : Int32) (x5 : Int32) (x6 : Int32) (s : ms), hd_Circuit_layLinks_Cs_53 N n x3 x4 x5 x6 s = some y → dcC p l e ({ frames := 1, cells := 0, slots := 0, locals := 21 }) s0 m [.ref ((a 108)), .int v1].toArray below meth c QQ (dC, dI) A (wC a v cI cB cJ cZ cQ s) 53 9 [(0, .ref ((a 108))), (2, .ref ((a 110))), (3, .int x3), (4, .int x4), (5, .int x5), (6, .int x6)] [] := by
    intro n
    induction n with
    | zero => intro x3 x4 x5 x6 s hf; cases hf
    | succ n ih =>
      intro x3 x4 x5 x6 s hf H locs ls hP hD hS hl
      have hf : bd_Circuit_layLinks_Cs_53 N (hd_Circuit_layLinks_Cs_53 N n) x3 x4 x5 x6 s = some y := hf
      have hk_53 := ih
      generalize hd_Circuit_layLinks_Cs_53 N n = k_53 at hf hk_53
      unfold bd_Circuit_layLinks_Cs_53 at hf
      refine lv_iload hx hb dn_Circuit_layLinks_53 (lv_at hl 5 rfl) ?_
      refine lv_iload hx hb dn_Circuit_layLinks_55 (lv_at hl 4 rfl) ?_
      refine lv_icmp_ge (tgt := 174) hx hb dn_Circuit_layLinks_57 (by decide) (fun h => ?_) (fun h => ?_)
      · have hf := (if_pos h).symm.trans hf
        rw [hQQ, ← Option.some.inj hf]
        exact xk_vret (w1 := fun u : Unit => (wC a v cI cB cJ cZ cQ s)) () hx hb hr hlocks hK hS dn_Circuit_layLinks_174 hP hD trivial (Nat.le_refl _) (Nat.le_refl _)
      · have hf := (if_neg h).symm.trans hf
        refine lv_iload_n hx hb dn_Circuit_layLinks_60 rfl (lv_at hl 2 rfl) ?_
        refine lv_aload_n hx hb dn_Circuit_layLinks_61 rfl (lv_at hl 1 rfl) ?_
        refine va_get (D := (dC, dI)) (ci := 11) (v := .ref ((a 333))) (C := rn_Parts) (T := fn_Parts) (N := 15) hx hb hg in_Parts hown hK hP 10 rfl rfl 12 (by decide) (hg _ wn_2_165) (fun _ h9 => h9) rfl dn_Circuit_layLinks_62 ?_
        refine lv_iload hx hb dn_Circuit_layLinks_65 (lv_at hl 5 rfl) ?_
        obtain ⟨hg_1, hf⟩ := dc_g hf
        refine va_iald hx hb hK hP 70 0 rfl rfl hg_1 dn_Circuit_layLinks_67 ?_
        refine xk_ti (y := ((s.1 333) (Int32.toNatClampNeg x6))) rfl ?_
        refine lv_iadd hx hb dn_Circuit_layLinks_68 ?_
        refine lv_istore (lv' := [(7, .int ((x3 + ((s.1 333) (Int32.toNatClampNeg x6))))), (0, .ref ((a 108))), (2, .ref ((a 110))), (3, .int x3), (4, .int x4), (5, .int x5), (6, .int x6)]) hx hb dn_Circuit_layLinks_69 hl (by decide) rfl (fun ls hl => ?_)
        refine lv_iload hx hb dn_Circuit_layLinks_71 (lv_at hl 4 rfl) ?_
        refine lv_aload_n hx hb dn_Circuit_layLinks_73 rfl (lv_at hl 2 rfl) ?_
        refine va_get (D := (dC, dI)) (ci := 11) (v := .ref ((a 334))) (C := rn_Parts) (T := fn_Parts) (N := 15) hx hb hg in_Parts hown hK hP 10 rfl rfl 13 (by decide) (hg _ wn_2_167) (fun _ h9 => h9) rfl dn_Circuit_layLinks_74 ?_
        refine lv_iload hx hb dn_Circuit_layLinks_77 (lv_at hl 6 rfl) ?_
        obtain ⟨hg_2, hf⟩ := dc_g hf
        refine va_iald hx hb hK hP 71 0 rfl rfl hg_2 dn_Circuit_layLinks_79 ?_
        refine xk_ti (y := ((s.1 334) (Int32.toNatClampNeg x6))) rfl ?_
        refine lv_iadd hx hb dn_Circuit_layLinks_80 ?_
        refine lv_istore (lv' := [(8, .int ((x4 + ((s.1 334) (Int32.toNatClampNeg x6))))), (7, .int ((x3 + ((s.1 333) (Int32.toNatClampNeg x6))))), (0, .ref ((a 108))), (2, .ref ((a 110))), (3, .int x3), (4, .int x4), (5, .int x5), (6, .int x6)]) hx hb dn_Circuit_layLinks_81 hl (by decide) rfl (fun ls hl => ?_)
        refine lv_aload_n hx hb dn_Circuit_layLinks_83 rfl (lv_at hl 2 rfl) ?_
        refine lv_iload hx hb dn_Circuit_layLinks_84 (lv_at hl 1 rfl) ?_
        obtain ⟨q_3, hc_4, hf⟩ := dc_b hf
        refine dc_calli (dc_runV (ar := 1) (As := [.int ((x3 + ((s.1 333) (Int32.toNatClampNeg x6))))]) (rest := []) (ci := 9) (q0 := 8) ⟨hx, hb, hml, hown, hg⟩ hK hN hT hS hA (ct_Circuit_isSignal_Cs l dC dI cI cB cJ cZ cQ N H.size a v ((x3 + ((s.1 333) (Int32.toNatClampNeg x6)))) s q_3 hc_4) hP hD rfl rfl wn_6_207 wn_6_209 sn_Circuit_isSignal wn_1_9 wn_6_210 rfl rfl (by decide +kernel) ⟨Nat.le_of_ble_eq_true rfl, Nat.le_of_ble_eq_true rfl⟩ rfl hl.1 rfl (Nat.le_of_ble_eq_true rfl) dn_Circuit_layLinks_86 ⟨Nat.le_of_ble_eq_true rfl, Nat.le_of_ble_eq_true rfl⟩) hP hD hS hA (fun r_5 _ H locs hw hP hD hS => ?_)
        have hw : r_5 = q_3.1 := hw
        subst hw
        refine lv_if_ne (tgt := 95) hx hb dn_Circuit_layLinks_89 (by decide) (fun h => ?_) (fun h => ?_)
        · have hf := (if_neg h).symm.trans hf
          refine lv_aload_n hx hb dn_Circuit_layLinks_95 rfl (lv_at hl 3 rfl) ?_
          refine va_get (D := (dC, dI)) (ci := 11) (v := .ref ((a 324))) (C := rn_Parts) (T := fn_Parts) (N := 15) hx hb hg in_Parts hown hK hP 10 rfl rfl 3 (by decide) (hg _ wn_2_136) (fun _ h9 => h9) rfl dn_Circuit_layLinks_96 ?_
          refine lv_aload_n hx hb dn_Circuit_layLinks_99 rfl (lv_at hl 2 rfl) ?_
          refine va_get (D := (dC, dI)) (ci := 9) (v := .ref ((a 298))) (C := rn_Circuit) (T := fn_Circuit) (N := 14) hx hb hg in_Circuit hown hK hP 8 rfl rfl 7 (by decide) (hg _ wn_3_78) (fun _ h9 => h9) rfl dn_Circuit_layLinks_100 ?_
          refine lv_iload hx hb dn_Circuit_layLinks_103 (lv_at hl 1 rfl) ?_
          obtain ⟨hg_6, hf⟩ := dc_g hf
          refine va_iald hx hb hK hP 46 0 rfl rfl hg_6 dn_Circuit_layLinks_105 ?_
          refine xk_ti (y := ((q_3.2.1 298) (Int32.toNatClampNeg ((x3 + ((s.1 333) (Int32.toNatClampNeg x6))))))) rfl ?_
          obtain ⟨hg_7, hf⟩ := dc_g hf
          refine va_iald hx hb hK hP 63 0 rfl rfl hg_7 dn_Circuit_layLinks_106 ?_
          refine xk_ti (y := ((q_3.2.1 324) (Int32.toNatClampNeg (((q_3.2.1 298) (Int32.toNatClampNeg ((x3 + ((s.1 333) (Int32.toNatClampNeg x6)))))))))) rfl ?_
          refine lv_if_ne (tgt := 150) hx hb dn_Circuit_layLinks_107 (by decide) (fun h => ?_) (fun h => ?_)
          · have hf := (if_neg h).symm.trans hf
            refine lv_aload_n hx hb dn_Circuit_layLinks_150 rfl (lv_at hl 2 rfl) ?_
            refine lv_iload hx hb dn_Circuit_layLinks_151 (lv_at hl 0 rfl) ?_
            obtain ⟨q_8, hc_9, hf⟩ := dc_b hf
            refine dc_calli (dc_runV (ar := 1) (As := [.int ((x4 + ((s.1 334) (Int32.toNatClampNeg x6))))]) (rest := []) (ci := 9) (q0 := 8) ⟨hx, hb, hml, hown, hg⟩ hK hN hT hS hA (ct_Circuit_isSignal_Cs l dC dI cI cB cJ cZ cQ N H.size a v ((x4 + ((s.1 334) (Int32.toNatClampNeg x6)))) q_3.2 q_8 hc_9) hP hD rfl rfl wn_6_207 wn_6_209 sn_Circuit_isSignal wn_1_9 wn_6_210 rfl rfl (by decide +kernel) ⟨Nat.le_of_ble_eq_true rfl, Nat.le_of_ble_eq_true rfl⟩ rfl hl.1 rfl (Nat.le_of_ble_eq_true rfl) dn_Circuit_layLinks_153 ⟨Nat.le_of_ble_eq_true rfl, Nat.le_of_ble_eq_true rfl⟩) hP hD hS hA (fun r_10 _ H locs hw hP hD hS => ?_)
            have hw : r_10 = q_8.1 := hw
            subst hw
            refine lv_if_eq (tgt := 168) hx hb dn_Circuit_layLinks_156 (by decide) (fun h => ?_) (fun h => ?_)
            · have hf := (if_pos h).symm.trans hf
              refine lv_iinc (v := (x6 + 1)) (lv' := [(6, .int ((x6 + 1))), (8, .int ((x4 + ((s.1 334) (Int32.toNatClampNeg x6))))), (7, .int ((x3 + ((s.1 333) (Int32.toNatClampNeg x6))))), (0, .ref ((a 108))), (2, .ref ((a 110))), (3, .int x3), (4, .int x4), (5, .int x5)]) hx hb dn_Circuit_layLinks_168 hl (k := 7) rfl (dc_inc (by decide)) (by decide) rfl (fun ls hl => ?_)
              refine lv_goto (tgt := 53) hx hb dn_Circuit_layLinks_171 (by decide) ?_
              exact hk_53 x3 x4 x5 ((x6 + 1)) q_8.2 hf H locs ls hP hD hS (lv_sub hl [3, 4, 5, 6, 7, 0] rfl)
            · have hf := (if_neg h).symm.trans hf
              refine lv_aload_n hx hb dn_Circuit_layLinks_159 rfl (lv_at hl 2 rfl) ?_
              refine va_get (D := (dC, dI)) (ci := 9) (v := .ref ((a 302))) (C := rn_Circuit) (T := fn_Circuit) (N := 14) hx hb hg in_Circuit hown hK hP 8 rfl rfl 11 (by decide) (hg _ wn_3_88) (fun _ h9 => h9) rfl dn_Circuit_layLinks_160 ?_
              refine lv_iload hx hb dn_Circuit_layLinks_163 (lv_at hl 0 rfl) ?_
              refine lv_iload hx hb dn_Circuit_layLinks_165 (lv_at hl 1 rfl) ?_
              obtain ⟨hg_11, hf⟩ := dc_g hf
              refine va_iast hx hb hK hP hD hS 50 0 rfl rfl hg_11 dn_Circuit_layLinks_167 (fun H locs hP hD hS => ?_)
              have hP : va_P (dC, dI) xcl ((wC a v cI cB cJ cZ cQ q_8.2).set 50 ((a 302), .inl (cI, 1024, .inl (upd (q_8.2.1 302) (Int32.toNatClampNeg ((x4 + ((s.1 334) (Int32.toNatClampNeg x6))))) ((x3 + ((s.1 333) (Int32.toNatClampNeg x6)))))))) H := hP
              have hD : va_D A ((wC a v cI cB cJ cZ cQ q_8.2).set 50 ((a 302), .inl (cI, 1024, .inl (upd (q_8.2.1 302) (Int32.toNatClampNeg ((x4 + ((s.1 334) (Int32.toNatClampNeg x6))))) ((x3 + ((s.1 333) (Int32.toNatClampNeg x6)))))))) := hD
              have hP := wC_P_302 hP
              have hD := wC_D_302 hD
              refine lv_iinc (v := (x6 + 1)) (lv' := [(6, .int ((x6 + 1))), (8, .int ((x4 + ((s.1 334) (Int32.toNatClampNeg x6))))), (7, .int ((x3 + ((s.1 333) (Int32.toNatClampNeg x6))))), (0, .ref ((a 108))), (2, .ref ((a 110))), (3, .int x3), (4, .int x4), (5, .int x5)]) hx hb dn_Circuit_layLinks_168 hl (k := 7) rfl (dc_inc (by decide)) (by decide) rfl (fun ls hl => ?_)
              refine lv_goto (tgt := 53) hx hb dn_Circuit_layLinks_171 (by decide) ?_
              exact hk_53 x3 x4 x5 ((x6 + 1)) (upI q_8.2 302 (upd (q_8.2.1 302) (Int32.toNatClampNeg ((x4 + ((s.1 334) (Int32.toNatClampNeg x6))))) ((x3 + ((s.1 333) (Int32.toNatClampNeg x6)))))) hf H locs ls hP hD hS (lv_sub hl [3, 4, 5, 6, 7, 0] rfl)
          · have hf := (if_pos h).symm.trans hf
            refine lv_aload_n hx hb dn_Circuit_layLinks_110 rfl (lv_at hl 2 rfl) ?_
            refine va_get (D := (dC, dI)) (ci := 9) (v := .ref ((a 299))) (C := rn_Circuit) (T := fn_Circuit) (N := 14) hx hb hg in_Circuit hown hK hP 8 rfl rfl 8 (by decide) (hg _ wn_3_79) (fun _ h9 => h9) rfl dn_Circuit_layLinks_111 ?_
            refine lv_iload hx hb dn_Circuit_layLinks_114 (lv_at hl 1 rfl) ?_
            refine lv_aload_n hx hb dn_Circuit_layLinks_116 rfl (lv_at hl 3 rfl) ?_
            refine va_get (D := (dC, dI)) (ci := 11) (v := .ref ((a 334))) (C := rn_Parts) (T := fn_Parts) (N := 15) hx hb hg in_Parts hown hK hP 10 rfl rfl 13 (by decide) (hg _ wn_2_167) (fun _ h9 => h9) rfl dn_Circuit_layLinks_117 ?_
            refine lv_iload hx hb dn_Circuit_layLinks_120 (lv_at hl 7 rfl) ?_
            obtain ⟨hg_8, hf⟩ := dc_g hf
            refine va_iald hx hb hK hP 71 0 rfl rfl hg_8 dn_Circuit_layLinks_122 ?_
            refine xk_ti (y := ((q_3.2.1 334) (Int32.toNatClampNeg x6))) rfl ?_
            obtain ⟨hg_9, hf⟩ := dc_g hf
            refine va_iast hx hb hK hP hD hS 47 0 rfl rfl hg_9 dn_Circuit_layLinks_123 (fun H locs hP hD hS => ?_)
            have hP : va_P (dC, dI) xcl ((wC a v cI cB cJ cZ cQ q_3.2).set 47 ((a 299), .inl (cI, 1024, .inl (upd (q_3.2.1 299) (Int32.toNatClampNeg ((x3 + ((s.1 333) (Int32.toNatClampNeg x6))))) (((q_3.2.1 334) (Int32.toNatClampNeg x6))))))) H := hP
            have hD : va_D A ((wC a v cI cB cJ cZ cQ q_3.2).set 47 ((a 299), .inl (cI, 1024, .inl (upd (q_3.2.1 299) (Int32.toNatClampNeg ((x3 + ((s.1 333) (Int32.toNatClampNeg x6))))) (((q_3.2.1 334) (Int32.toNatClampNeg x6))))))) := hD
            have hP := wC_P_299 hP
            have hD := wC_D_299 hD
            refine lv_aload_n hx hb dn_Circuit_layLinks_124 rfl (lv_at hl 2 rfl) ?_
            refine va_get (D := (dC, dI)) (ci := 9) (v := .ref ((a 300))) (C := rn_Circuit) (T := fn_Circuit) (N := 14) hx hb hg in_Circuit hown hK hP 8 rfl rfl 9 (by decide) (hg _ wn_3_82) (fun _ h9 => h9) rfl dn_Circuit_layLinks_125 ?_
            refine lv_iload hx hb dn_Circuit_layLinks_128 (lv_at hl 1 rfl) ?_
            refine lv_aload_n hx hb dn_Circuit_layLinks_130 rfl (lv_at hl 3 rfl) ?_
            refine va_get (D := (dC, dI)) (ci := 11) (v := .ref ((a 335))) (C := rn_Parts) (T := fn_Parts) (N := 15) hx hb hg in_Parts hown hK hP 10 rfl rfl 14 (by decide) (hg _ wn_2_170) (fun _ h9 => h9) rfl dn_Circuit_layLinks_131 ?_
            refine lv_iload hx hb dn_Circuit_layLinks_134 (lv_at hl 7 rfl) ?_
            obtain ⟨hg_10, hf⟩ := dc_g hf
            refine va_iald hx hb hK hP 72 0 rfl rfl hg_10 dn_Circuit_layLinks_136 ?_
            refine xk_ti (y := ((q_3.2.1 335) (Int32.toNatClampNeg x6))) rfl ?_
            obtain ⟨hg_11, hf⟩ := dc_g hf
            refine va_iast hx hb hK hP hD hS 48 0 rfl rfl hg_11 dn_Circuit_layLinks_137 (fun H locs hP hD hS => ?_)
            have hP : va_P (dC, dI) xcl ((wC a v cI cB cJ cZ cQ (upI q_3.2 299 (upd (q_3.2.1 299) (Int32.toNatClampNeg ((x3 + ((s.1 333) (Int32.toNatClampNeg x6))))) (((q_3.2.1 334) (Int32.toNatClampNeg x6)))))).set 48 ((a 300), .inl (cI, 1024, .inl (upd (q_3.2.1 300) (Int32.toNatClampNeg ((x3 + ((s.1 333) (Int32.toNatClampNeg x6))))) (((q_3.2.1 335) (Int32.toNatClampNeg x6))))))) H := hP
            have hD : va_D A ((wC a v cI cB cJ cZ cQ (upI q_3.2 299 (upd (q_3.2.1 299) (Int32.toNatClampNeg ((x3 + ((s.1 333) (Int32.toNatClampNeg x6))))) (((q_3.2.1 334) (Int32.toNatClampNeg x6)))))).set 48 ((a 300), .inl (cI, 1024, .inl (upd (q_3.2.1 300) (Int32.toNatClampNeg ((x3 + ((s.1 333) (Int32.toNatClampNeg x6))))) (((q_3.2.1 335) (Int32.toNatClampNeg x6))))))) := hD
            have hP := wC_P_300 hP
            have hD := wC_D_300 hD
            refine lv_aload_n hx hb dn_Circuit_layLinks_138 rfl (lv_at hl 2 rfl) ?_
            refine va_get (D := (dC, dI)) (ci := 9) (v := .ref ((a 301))) (C := rn_Circuit) (T := fn_Circuit) (N := 14) hx hb hg in_Circuit hown hK hP 8 rfl rfl 10 (by decide) (hg _ wn_3_85) (fun _ h9 => h9) rfl dn_Circuit_layLinks_139 ?_
            refine lv_iload hx hb dn_Circuit_layLinks_142 (lv_at hl 1 rfl) ?_
            refine lv_iload hx hb dn_Circuit_layLinks_144 (lv_at hl 5 rfl) ?_
            obtain ⟨hg_12, hf⟩ := dc_g hf
            refine va_iast hx hb hK hP hD hS 49 0 rfl rfl hg_12 dn_Circuit_layLinks_146 (fun H locs hP hD hS => ?_)
            have hP : va_P (dC, dI) xcl ((wC a v cI cB cJ cZ cQ (upI (upI q_3.2 299 (upd (q_3.2.1 299) (Int32.toNatClampNeg ((x3 + ((s.1 333) (Int32.toNatClampNeg x6))))) (((q_3.2.1 334) (Int32.toNatClampNeg x6))))) 300 (upd (q_3.2.1 300) (Int32.toNatClampNeg ((x3 + ((s.1 333) (Int32.toNatClampNeg x6))))) (((q_3.2.1 335) (Int32.toNatClampNeg x6)))))).set 49 ((a 301), .inl (cI, 1024, .inl (upd (q_3.2.1 301) (Int32.toNatClampNeg ((x3 + ((s.1 333) (Int32.toNatClampNeg x6))))) x4)))) H := hP
            have hD : va_D A ((wC a v cI cB cJ cZ cQ (upI (upI q_3.2 299 (upd (q_3.2.1 299) (Int32.toNatClampNeg ((x3 + ((s.1 333) (Int32.toNatClampNeg x6))))) (((q_3.2.1 334) (Int32.toNatClampNeg x6))))) 300 (upd (q_3.2.1 300) (Int32.toNatClampNeg ((x3 + ((s.1 333) (Int32.toNatClampNeg x6))))) (((q_3.2.1 335) (Int32.toNatClampNeg x6)))))).set 49 ((a 301), .inl (cI, 1024, .inl (upd (q_3.2.1 301) (Int32.toNatClampNeg ((x3 + ((s.1 333) (Int32.toNatClampNeg x6))))) x4)))) := hD
            have hP := wC_P_301 hP
            have hD := wC_D_301 hD
            refine lv_goto (tgt := 168) hx hb dn_Circuit_layLinks_147 (by decide) ?_
            refine lv_iinc (v := (x6 + 1)) (lv' := [(6, .int ((x6 + 1))), (8, .int ((x4 + ((s.1 334) (Int32.toNatClampNeg x6))))), (7, .int ((x3 + ((s.1 333) (Int32.toNatClampNeg x6))))), (0, .ref ((a 108))), (2, .ref ((a 110))), (3, .int x3), (4, .int x4), (5, .int x5)]) hx hb dn_Circuit_layLinks_168 hl (k := 7) rfl (dc_inc (by decide)) (by decide) rfl (fun ls hl => ?_)
            refine lv_goto (tgt := 53) hx hb dn_Circuit_layLinks_171 (by decide) ?_
            exact hk_53 x3 x4 x5 ((x6 + 1)) (upI (upI (upI q_3.2 299 (upd (q_3.2.1 299) (Int32.toNatClampNeg ((x3 + ((s.1 333) (Int32.toNatClampNeg x6))))) (((q_3.2.1 334) (Int32.toNatClampNeg x6))))) 300 (upd (q_3.2.1 300) (Int32.toNatClampNeg ((x3 + ((s.1 333) (Int32.toNatClampNeg x6))))) (((q_3.2.1 335) (Int32.toNatClampNeg x6))))) 301 (upd (q_3.2.1 301) (Int32.toNatClampNeg ((x3 + ((s.1 333) (Int32.toNatClampNeg x6))))) x4)) hf H locs ls hP hD hS (lv_sub hl [3, 4, 5, 6, 7, 0] rfl)
        · have hf := (if_pos h).symm.trans hf
          refine lv_goto (tgt := 168) hx hb dn_Circuit_layLinks_92 (by decide) ?_
          refine lv_iinc (v := (x6 + 1)) (lv' := [(6, .int ((x6 + 1))), (8, .int ((x4 + ((s.1 334) (Int32.toNatClampNeg x6))))), (7, .int ((x3 + ((s.1 333) (Int32.toNatClampNeg x6))))), (0, .ref ((a 108))), (2, .ref ((a 110))), (3, .int x3), (4, .int x4), (5, .int x5)]) hx hb dn_Circuit_layLinks_168 hl (k := 7) rfl (dc_inc (by decide)) (by decide) rfl (fun ls hl => ?_)
          refine lv_goto (tgt := 53) hx hb dn_Circuit_layLinks_171 (by decide) ?_
          exact hk_53 x3 x4 x5 ((x6 + 1)) q_3.2 hf H locs ls hP hD hS (lv_sub hl [3, 4, 5, 6, 7, 0] rfl)
  intro H locs ls hP hD hS hl
  unfold fn_Circuit_layLinks_Cs at hf
  refine lv_aload_n hx hb dn_Circuit_layLinks_0 rfl (lv_at hl 0 rfl) ?_
  refine va_get (D := (dC, dI)) (ci := 9) (v := .ref ((a 109))) (C := rn_Circuit) (T := fn_Circuit) (N := 14) hx hb hg in_Circuit hown hK hP 8 rfl rfl 0 (by decide) (hg _ wn_3_61) (fun _ h9 => h9) rfl dn_Circuit_layLinks_1 ?_
  refine va_get (D := (dC, dI)) (ci := 10) (v := .ref ((a 110))) (C := rn_Design) (T := fn_Design) (N := 16) hx hb hg in_Design hown hK hP 9 rfl rfl 0 (by decide) (hg _ wn_2_237) (fun _ h9 => h9) rfl dn_Circuit_layLinks_4 ?_
  refine lv_astore_n (lv' := [(2, .ref ((a 110))), (0, .ref ((a 108))), (1, .int v1)]) hx hb dn_Circuit_layLinks_7 rfl hl (by decide) rfl (fun ls hl => ?_)
  refine lv_aload_n hx hb dn_Circuit_layLinks_8 rfl (lv_at hl 1 rfl) ?_
  refine va_get (D := (dC, dI)) (ci := 9) (v := .ref ((a 294))) (C := rn_Circuit) (T := fn_Circuit) (N := 14) hx hb hg in_Circuit hown hK hP 8 rfl rfl 3 (by decide) (hg _ wn_3_72) (fun _ h9 => h9) rfl dn_Circuit_layLinks_9 ?_
  refine lv_iload_n hx hb dn_Circuit_layLinks_12 rfl (lv_at hl 2 rfl) ?_
  obtain ⟨hg_1, hf⟩ := dc_g hf
  refine va_iald hx hb hK hP 42 0 rfl rfl hg_1 dn_Circuit_layLinks_13 ?_
  refine xk_ti (y := ((s.1 294) (Int32.toNatClampNeg v1))) rfl ?_
  refine lv_istore_n (lv' := [(3, .int (((s.1 294) (Int32.toNatClampNeg v1)))), (2, .ref ((a 110))), (0, .ref ((a 108))), (1, .int v1)]) hx hb dn_Circuit_layLinks_14 rfl hl (by decide) rfl (fun ls hl => ?_)
  refine lv_aload_n hx hb dn_Circuit_layLinks_15 rfl (lv_at hl 2 rfl) ?_
  refine va_get (D := (dC, dI)) (ci := 9) (v := .ref ((a 294))) (C := rn_Circuit) (T := fn_Circuit) (N := 14) hx hb hg in_Circuit hown hK hP 8 rfl rfl 3 (by decide) (hg _ wn_3_72) (fun _ h9 => h9) rfl dn_Circuit_layLinks_16 ?_
  refine lv_aload_n hx hb dn_Circuit_layLinks_19 rfl (lv_at hl 2 rfl) ?_
  refine va_get (D := (dC, dI)) (ci := 9) (v := .ref ((a 296))) (C := rn_Circuit) (T := fn_Circuit) (N := 14) hx hb hg in_Circuit hown hK hP 8 rfl rfl 5 (by decide) (hg _ wn_3_76) (fun _ h9 => h9) rfl dn_Circuit_layLinks_20 ?_
  refine lv_iload_n hx hb dn_Circuit_layLinks_23 rfl (lv_at hl 3 rfl) ?_
  obtain ⟨hg_2, hf⟩ := dc_g hf
  refine va_iald hx hb hK hP 44 0 rfl rfl hg_2 dn_Circuit_layLinks_24 ?_
  refine xk_ti (y := ((s.1 296) (Int32.toNatClampNeg v1))) rfl ?_
  obtain ⟨hg_3, hf⟩ := dc_g hf
  refine va_iald hx hb hK hP 42 0 rfl rfl hg_3 dn_Circuit_layLinks_25 ?_
  refine xk_ti (y := ((s.1 294) (Int32.toNatClampNeg (((s.1 296) (Int32.toNatClampNeg v1)))))) rfl ?_
  refine lv_istore (lv' := [(4, .int (((s.1 294) (Int32.toNatClampNeg (((s.1 296) (Int32.toNatClampNeg v1))))))), (3, .int (((s.1 294) (Int32.toNatClampNeg v1)))), (2, .ref ((a 110))), (0, .ref ((a 108))), (1, .int v1)]) hx hb dn_Circuit_layLinks_26 hl (by decide) rfl (fun ls hl => ?_)
  refine lv_aload_n hx hb dn_Circuit_layLinks_28 rfl (lv_at hl 2 rfl) ?_
  refine lv_aload_n hx hb dn_Circuit_layLinks_29 rfl (lv_at hl 3 rfl) ?_
  refine va_get (D := (dC, dI)) (ci := 9) (v := .ref ((a 297))) (C := rn_Circuit) (T := fn_Circuit) (N := 14) hx hb hg in_Circuit hown hK hP 8 rfl rfl 6 (by decide) (hg _ wn_3_77) (fun _ h9 => h9) rfl dn_Circuit_layLinks_30 ?_
  refine lv_iload_n hx hb dn_Circuit_layLinks_33 rfl (lv_at hl 4 rfl) ?_
  obtain ⟨hg_4, hf⟩ := dc_g hf
  refine va_iald hx hb hK hP 45 0 rfl rfl hg_4 dn_Circuit_layLinks_34 ?_
  refine xk_ti (y := ((s.1 297) (Int32.toNatClampNeg v1))) rfl ?_
  obtain ⟨q_5, hc_6, hf⟩ := dc_b hf
  refine dc_calli (dc_runV (ar := 1) (As := [.int (((s.1 297) (Int32.toNatClampNeg v1)))]) (rest := []) (ci := 11) (q0 := 10) ⟨hx, hb, hml, hown, hg⟩ hK hN hT hS hA (ct_Parts_linksEnd_Ps l dC dI cI cB cJ cZ cQ N H.size a v (((s.1 297) (Int32.toNatClampNeg v1))) s q_5 hc_6) hP hD rfl rfl wn_6_203 wn_6_204 wn_6_205 wn_1_11 wn_6_206 rfl rfl (by decide +kernel) ⟨Nat.le_of_ble_eq_true rfl, Nat.le_of_ble_eq_true rfl⟩ rfl hl.1 rfl (Nat.le_of_ble_eq_true rfl) dn_Circuit_layLinks_35 ⟨Nat.le_of_ble_eq_true rfl, Nat.le_of_ble_eq_true rfl⟩) hP hD hS hA (fun r_7 _ H locs hw hP hD hS => ?_)
  have hw : r_7 = q_5.1 := hw
  subst hw
  refine lv_istore (lv' := [(5, .int q_5.1), (4, .int (((s.1 294) (Int32.toNatClampNeg (((s.1 296) (Int32.toNatClampNeg v1))))))), (3, .int (((s.1 294) (Int32.toNatClampNeg v1)))), (2, .ref ((a 110))), (0, .ref ((a 108))), (1, .int v1)]) hx hb dn_Circuit_layLinks_38 hl (by decide) rfl (fun ls hl => ?_)
  refine lv_aload_n hx hb dn_Circuit_layLinks_40 rfl (lv_at hl 3 rfl) ?_
  refine va_get (D := (dC, dI)) (ci := 11) (v := .ref ((a 331))) (C := rn_Parts) (T := fn_Parts) (N := 15) hx hb hg in_Parts hown hK hP 10 rfl rfl 10 (by decide) (hg _ wn_2_160) (fun _ h9 => h9) rfl dn_Circuit_layLinks_41 ?_
  refine lv_aload_n hx hb dn_Circuit_layLinks_44 rfl (lv_at hl 4 rfl) ?_
  refine va_get (D := (dC, dI)) (ci := 9) (v := .ref ((a 297))) (C := rn_Circuit) (T := fn_Circuit) (N := 14) hx hb hg in_Circuit hown hK hP 8 rfl rfl 6 (by decide) (hg _ wn_3_77) (fun _ h9 => h9) rfl dn_Circuit_layLinks_45 ?_
  refine lv_iload_n hx hb dn_Circuit_layLinks_48 rfl (lv_at hl 5 rfl) ?_
  obtain ⟨hg_8, hf⟩ := dc_g hf
  refine va_iald hx hb hK hP 45 0 rfl rfl hg_8 dn_Circuit_layLinks_49 ?_
  refine xk_ti (y := ((q_5.2.1 297) (Int32.toNatClampNeg v1))) rfl ?_
  obtain ⟨hg_9, hf⟩ := dc_g hf
  refine va_iald hx hb hK hP 69 0 rfl rfl hg_9 dn_Circuit_layLinks_50 ?_
  refine xk_ti (y := ((q_5.2.1 331) (Int32.toNatClampNeg (((q_5.2.1 297) (Int32.toNatClampNeg v1)))))) rfl ?_
  refine lv_istore (lv' := [(6, .int (((q_5.2.1 331) (Int32.toNatClampNeg (((q_5.2.1 297) (Int32.toNatClampNeg v1))))))), (5, .int q_5.1), (4, .int (((s.1 294) (Int32.toNatClampNeg (((s.1 296) (Int32.toNatClampNeg v1))))))), (3, .int (((s.1 294) (Int32.toNatClampNeg v1)))), (2, .ref ((a 110))), (0, .ref ((a 108))), (1, .int v1)]) hx hb dn_Circuit_layLinks_51 hl (by decide) rfl (fun ls hl => ?_)
  exact hd_53 N (((s.1 294) (Int32.toNatClampNeg v1))) (((s.1 294) (Int32.toNatClampNeg (((s.1 296) (Int32.toNatClampNeg v1)))))) q_5.1 (((q_5.2.1 331) (Int32.toNatClampNeg (((q_5.2.1 297) (Int32.toNatClampNeg v1)))))) q_5.2 hf H locs ls hP hD hS (lv_sub hl [5, 4, 3, 2, 1, 0] rfl)
set_option maxHeartbeats 8000000 in
set_option maxRecDepth 100000 in
theorem ct_Circuit_build_Cs (l : Launch) (dC : Nat → ClassId) (dI : Nat → Nat → Nat) (cI cB cJ cZ cQ : ClassId) (N sz : Nat) (a : Nat → Nat) (v : Nat → Value) (s : ms) (y : (Unit × ms)) (hf : fn_Circuit_build_Cs N s = some y) : Met l yn_Circuit_build (xw yn_Circuit_build bn_Circuit_build 3 none) ({ frames := 4, cells := 0, slots := 0, locals := 90 }) (dc_P (dC, dI) xcl (xt cI cB cJ cZ cQ) [.ref ((a 108))] sz (wC a v cI cB cJ cZ cQ s)) (xk_Qv (dC, dI) xcl (xt cI cB cJ cZ cQ) (fun _ : Unit => True) (fun u : Unit => (wC a v cI cB cJ cZ cQ y.2)) (va_A (wC a v cI cB cJ cZ cQ s) sz)) 0 0 (va_A (wC a v cI cB cJ cZ cQ s) sz) := by
  refine dc_of (QA := xk_Qv (dC, dI) xcl (xt cI cB cJ cZ cQ) (fun _ : Unit => True) (fun u : Unit => (wC a v cI cB cJ cZ cQ y.2))) (by decide) (Nat.le_of_ble_eq_true rfl) ?_
  intro p e s0 m below meth c hx hb hml hown hg hr hlocks hin hP hK hN A hA hD hT ls hl
  have hown : s0.vm.findClass rn_Circuit = some m.cls := hown
  obtain ⟨H, hH⟩ : ∃ z, z = s0.heap := ⟨_, rfl⟩
  rw [← hH] at hP
  have hS : va_S A s0.heap H [] := by rw [hH]; exact va_S.rf
  suffices kk : ∀ QQ : State → Prop, QQ = MQ below (xk_Qv (dC, dI) xcl (xt cI cB cJ cZ cQ) (fun _ : Unit => True) (fun u : Unit => (wC a v cI cB cJ cZ cQ y.2)) A) [.ref ((a 108))].toArray s0 0 0 A → dcC p l e ({ frames := 4, cells := 0, slots := 0, locals := 90 }) s0 m [.ref ((a 108))].toArray below meth c QQ (dC, dI) A (wC a v cI cB cJ cZ cQ s) 0 3 [(0, .ref ((a 108)))] [] by
    have k9 := kk _ rfl H [] ls hP hD hS hl
    rw [hH] at k9; exact k9
  clear hP hD hS hl hH H ls
  intro QQ hQQ
  have hd_80 : ∀ (n : Nat) (x2 : Int32) (s : ms), hd_Circuit_build_Cs_80 N n x2 s = some y → dcC p l e ({ frames := 4, cells := 0, slots := 0, locals := 90 }) s0 m [.ref ((a 108))].toArray below meth c QQ (dC, dI) A (wC a v cI cB cJ cZ cQ s) 80 3 [(0, .ref ((a 108))), (2, .int x2)] [] := by
    intro n
    induction n with
    | zero => intro x2 s hf; cases hf
    | succ n ih =>
      intro x2 s hf H locs ls hP hD hS hl
      have hf : bd_Circuit_build_Cs_80 N (hd_Circuit_build_Cs_80 N n) x2 s = some y := hf
      have hk_80 := ih
      generalize hd_Circuit_build_Cs_80 N n = k_80 at hf hk_80
      unfold bd_Circuit_build_Cs_80 at hf
      refine lv_iload_n hx hb dn_Circuit_build_80 rfl (lv_at hl 1 rfl) ?_
      refine lv_aload_n hx hb dn_Circuit_build_81 rfl (lv_at hl 0 rfl) ?_
      refine va_get (D := (dC, dI)) (ci := 9) (v := .int ((s.1 292 0))) (C := rn_Circuit) (T := fn_Circuit) (N := 14) hx hb hg in_Circuit hown hK hP 8 rfl rfl 1 (by decide) (hg _ wn_3_65) (fun _ h9 => h9) rfl dn_Circuit_build_82 ?_
      refine lv_icmp_ge (tgt := 113) hx hb dn_Circuit_build_85 (by decide) (fun h => ?_) (fun h => ?_)
      · have hf := (if_pos h).symm.trans hf
        rw [hQQ, ← Option.some.inj hf]
        exact xk_vret (w1 := fun u : Unit => (wC a v cI cB cJ cZ cQ s)) () hx hb hr hlocks hK hS dn_Circuit_build_113 hP hD trivial (Nat.le_refl _) (Nat.le_refl _)
      · have hf := (if_neg h).symm.trans hf
        refine lv_aload_n hx hb dn_Circuit_build_88 rfl (lv_at hl 0 rfl) ?_
        refine lv_iload_n hx hb dn_Circuit_build_89 rfl (lv_at hl 1 rfl) ?_
        obtain ⟨q_1, hc_2, hf⟩ := dc_b hf
        refine dc_callv (dc_runV (ar := 1) (As := [.int x2]) (rest := []) (ci := 9) (q0 := 8) ⟨hx, hb, hml, hown, hg⟩ hK hN hT hS hA (ct_Circuit_layChildren_Cs l dC dI cI cB cJ cZ cQ N H.size a v x2 s q_1 hc_2) hP hD rfl rfl wn_6_181 wn_6_183 sn_Circuit_layChildren wn_1_9 wn_6_184 rfl rfl (by decide +kernel) ⟨Nat.le_of_ble_eq_true rfl, Nat.le_of_ble_eq_true rfl⟩ rfl hl.1 rfl (Nat.le_of_ble_eq_true rfl) dn_Circuit_build_90 ⟨Nat.le_of_ble_eq_true rfl, Nat.le_of_ble_eq_true rfl⟩) hP hD hS hA (fun _ H locs hw hP hD hS => ?_)
        refine lv_aload_n hx hb dn_Circuit_build_93 rfl (lv_at hl 0 rfl) ?_
        refine lv_iload_n hx hb dn_Circuit_build_94 rfl (lv_at hl 1 rfl) ?_
        obtain ⟨q_3, hc_4, hf⟩ := dc_b hf
        refine dc_callv (dc_runV (ar := 1) (As := [.int x2]) (rest := []) (ci := 9) (q0 := 8) ⟨hx, hb, hml, hown, hg⟩ hK hN hT hS hA (ct_Circuit_laySignals_Cs l dC dI cI cB cJ cZ cQ N H.size a v x2 q_1.2 q_3 hc_4) hP hD rfl rfl wn_6_195 wn_6_197 sn_Circuit_laySignals wn_1_9 wn_6_198 rfl rfl (by decide +kernel) ⟨Nat.le_of_ble_eq_true rfl, Nat.le_of_ble_eq_true rfl⟩ rfl hl.1 rfl (Nat.le_of_ble_eq_true rfl) dn_Circuit_build_95 ⟨Nat.le_of_ble_eq_true rfl, Nat.le_of_ble_eq_true rfl⟩) hP hD hS hA (fun _ H locs hw hP hD hS => ?_)
        refine lv_iload_n hx hb dn_Circuit_build_98 rfl (lv_at hl 1 rfl) ?_
        refine lv_if_le (tgt := 107) hx hb dn_Circuit_build_99 (by decide) (fun h => ?_) (fun h => ?_)
        · have hf := (if_pos h).symm.trans hf
          refine lv_iinc (v := (x2 + 1)) (lv' := [(2, .int ((x2 + 1))), (0, .ref ((a 108)))]) hx hb dn_Circuit_build_107 hl (k := 1) rfl (dc_inc (by decide)) (by decide) rfl (fun ls hl => ?_)
          refine lv_goto (tgt := 80) hx hb dn_Circuit_build_110 (by decide) ?_
          exact hk_80 ((x2 + 1)) q_3.2 hf H locs ls hP hD hS (lv_sub hl [1, 0] rfl)
        · have hf := (if_neg h).symm.trans hf
          refine lv_aload_n hx hb dn_Circuit_build_102 rfl (lv_at hl 0 rfl) ?_
          refine lv_iload_n hx hb dn_Circuit_build_103 rfl (lv_at hl 1 rfl) ?_
          obtain ⟨q_5, hc_6, hf⟩ := dc_b hf
          refine dc_callv (dc_runV (ar := 1) (As := [.int x2]) (rest := []) (ci := 9) (q0 := 8) ⟨hx, hb, hml, hown, hg⟩ hK hN hT hS hA (ct_Circuit_layLinks_Cs l dC dI cI cB cJ cZ cQ N H.size a v x2 q_3.2 q_5 hc_6) hP hD rfl rfl wn_6_199 wn_6_201 sn_Circuit_layLinks wn_1_9 wn_6_202 rfl rfl (by decide +kernel) ⟨Nat.le_of_ble_eq_true rfl, Nat.le_of_ble_eq_true rfl⟩ rfl hl.1 rfl (Nat.le_of_ble_eq_true rfl) dn_Circuit_build_104 ⟨Nat.le_of_ble_eq_true rfl, Nat.le_of_ble_eq_true rfl⟩) hP hD hS hA (fun _ H locs hw hP hD hS => ?_)
          refine lv_iinc (v := (x2 + 1)) (lv' := [(2, .int ((x2 + 1))), (0, .ref ((a 108)))]) hx hb dn_Circuit_build_107 hl (k := 1) rfl (dc_inc (by decide)) (by decide) rfl (fun ls hl => ?_)
          refine lv_goto (tgt := 80) hx hb dn_Circuit_build_110 (by decide) ?_
          exact hk_80 ((x2 + 1)) q_5.2 hf H locs ls hP hD hS (lv_sub hl [1, 0] rfl)
  intro H locs ls hP hD hS hl
  unfold fn_Circuit_build_Cs at hf
  refine lv_aload_n hx hb dn_Circuit_build_0 rfl (lv_at hl 0 rfl) ?_
  refine va_get (D := (dC, dI)) (ci := 9) (v := .ref ((a 109))) (C := rn_Circuit) (T := fn_Circuit) (N := 14) hx hb hg in_Circuit hown hK hP 8 rfl rfl 0 (by decide) (hg _ wn_3_61) (fun _ h9 => h9) rfl dn_Circuit_build_1 ?_
  refine va_get (D := (dC, dI)) (ci := 10) (v := .int ((s.1 309 0))) (C := rn_Design) (T := fn_Design) (N := 16) hx hb hg in_Design hown hK hP 9 rfl rfl 4 (by decide) (hg _ wn_3_9) (fun _ h9 => h9) rfl dn_Circuit_build_4 ?_
  refine lv_iconst (v := 1) hx hb dn_Circuit_build_7 (by decide) ?_
  refine lv_isub hx hb dn_Circuit_build_8 ?_
  refine lv_istore_n (lv' := [(1, .int (((s.1 309 0) - 1))), (0, .ref ((a 108)))]) hx hb dn_Circuit_build_9 rfl hl (by decide) rfl (fun ls hl => ?_)
  refine lv_aload_n hx hb dn_Circuit_build_10 rfl (lv_at hl 1 rfl) ?_
  refine lv_aload_n hx hb dn_Circuit_build_11 rfl (lv_at hl 1 rfl) ?_
  refine va_get (D := (dC, dI)) (ci := 9) (v := .ref ((a 109))) (C := rn_Circuit) (T := fn_Circuit) (N := 14) hx hb hg in_Circuit hown hK hP 8 rfl rfl 0 (by decide) (hg _ wn_3_61) (fun _ h9 => h9) rfl dn_Circuit_build_12 ?_
  refine lv_iconst (v := 0) hx hb dn_Circuit_build_15 (by decide) ?_
  obtain ⟨q_1, hc_2, hf⟩ := dc_b hf
  refine dc_calli (dc_runV (ar := 1) (As := [.int 0]) (rest := [.ref ((a 108))]) (ci := 10) (q0 := 9) ⟨hx, hb, hml, hown, hg⟩ hK hN hT hS hA (ct_Design_sumOfTop_Ds l dC dI cI cB cJ cZ cQ N H.size a v 0 s q_1 hc_2) hP hD rfl rfl wn_6_176 wn_6_177 wn_6_178 wn_1_10 wn_6_179 rfl rfl (by decide +kernel) ⟨Nat.le_of_ble_eq_true rfl, Nat.le_of_ble_eq_true rfl⟩ rfl hl.1 rfl (Nat.le_of_ble_eq_true rfl) dn_Circuit_build_16 ⟨Nat.le_of_ble_eq_true rfl, Nat.le_of_ble_eq_true rfl⟩) hP hD hS hA (fun r_3 _ H locs hw hP hD hS => ?_)
  have hw : r_3 = q_1.1 := hw
  subst hw
  refine lv_aload_n hx hb dn_Circuit_build_19 rfl (lv_at hl 1 rfl) ?_
  refine va_get (D := (dC, dI)) (ci := 9) (v := .ref ((a 294))) (C := rn_Circuit) (T := fn_Circuit) (N := 14) hx hb hg in_Circuit hown hK hP 8 rfl rfl 3 (by decide) (hg _ wn_3_72) (fun _ h9 => h9) rfl dn_Circuit_build_20 ?_
  refine va_alen (v := 257) hx hb hK hP 42 0 rfl rfl rfl dn_Circuit_build_23 ?_
  refine va_mmin (x := q_1.1) (y := 257) (rest := [.ref ((a 108))]) hx hb (by rw [hml]; exact hl.1.symm) hown (hg _ wn_6_180) (hg _ wn_3_168) (hg _ wn_1_19) (hg _ wn_3_169) (Nat.le_of_ble_eq_true rfl) (Nat.le_of_ble_eq_true rfl) (Nat.zero_le _) (Nat.zero_le _) dn_Circuit_build_24 ?_
  refine va_put (D := (dC, dI)) (ci := 9) (v := .int ((if 257 < q_1.1 then 257 else q_1.1))) (ty := .int) (C := rn_Circuit) (T := fn_Circuit) (N := 14) hx hb hg in_Circuit tn_Circuit tk_Circuit nn_Circuit hown hK hP hD hS 8 rfl rfl 1 (by decide) (hg _ wn_3_65) (fun _ h9 => h9) rfl (tk_Circuit 1 (by decide)) rfl rfl (Nat.le_of_ble_eq_true rfl) dn_Circuit_build_27 (fun H locs hP hD hS => ?_)
  have hP := wC_P_292 hP
  have hD := wC_D_292 hD
  refine lv_aload_n hx hb dn_Circuit_build_30 rfl (lv_at hl 1 rfl) ?_
  refine lv_aload_n hx hb dn_Circuit_build_31 rfl (lv_at hl 1 rfl) ?_
  refine va_get (D := (dC, dI)) (ci := 9) (v := .ref ((a 109))) (C := rn_Circuit) (T := fn_Circuit) (N := 14) hx hb hg in_Circuit hown hK hP 8 rfl rfl 0 (by decide) (hg _ wn_3_61) (fun _ h9 => h9) rfl dn_Circuit_build_32 ?_
  refine lv_iconst (v := 1) hx hb dn_Circuit_build_35 (by decide) ?_
  obtain ⟨q_4, hc_5, hf⟩ := dc_b hf
  refine dc_calli (dc_runV (ar := 1) (As := [.int 1]) (rest := [.ref ((a 108))]) (ci := 10) (q0 := 9) ⟨hx, hb, hml, hown, hg⟩ hK hN hT hS hA (ct_Design_sumOfTop_Ds l dC dI cI cB cJ cZ cQ N H.size a v 1 (upI q_1.2 292 (fun _ => (if 257 < q_1.1 then 257 else q_1.1))) q_4 hc_5) hP hD rfl rfl wn_6_176 wn_6_177 wn_6_178 wn_1_10 wn_6_179 rfl rfl (by decide +kernel) ⟨Nat.le_of_ble_eq_true rfl, Nat.le_of_ble_eq_true rfl⟩ rfl hl.1 rfl (Nat.le_of_ble_eq_true rfl) dn_Circuit_build_36 ⟨Nat.le_of_ble_eq_true rfl, Nat.le_of_ble_eq_true rfl⟩) hP hD hS hA (fun r_6 _ H locs hw hP hD hS => ?_)
  have hw : r_6 = q_4.1 := hw
  subst hw
  refine lv_aload_n hx hb dn_Circuit_build_39 rfl (lv_at hl 1 rfl) ?_
  refine va_get (D := (dC, dI)) (ci := 9) (v := .ref ((a 298))) (C := rn_Circuit) (T := fn_Circuit) (N := 14) hx hb hg in_Circuit hown hK hP 8 rfl rfl 7 (by decide) (hg _ wn_3_78) (fun _ h9 => h9) rfl dn_Circuit_build_40 ?_
  refine va_alen (v := 1024) hx hb hK hP 46 0 rfl rfl rfl dn_Circuit_build_43 ?_
  refine va_mmin (x := q_4.1) (y := 1024) (rest := [.ref ((a 108))]) hx hb (by rw [hml]; exact hl.1.symm) hown (hg _ wn_6_180) (hg _ wn_3_168) (hg _ wn_1_19) (hg _ wn_3_169) (Nat.le_of_ble_eq_true rfl) (Nat.le_of_ble_eq_true rfl) (Nat.zero_le _) (Nat.zero_le _) dn_Circuit_build_44 ?_
  refine va_put (D := (dC, dI)) (ci := 9) (v := .int ((if 1024 < q_4.1 then 1024 else q_4.1))) (ty := .int) (C := rn_Circuit) (T := fn_Circuit) (N := 14) hx hb hg in_Circuit tn_Circuit tk_Circuit nn_Circuit hown hK hP hD hS 8 rfl rfl 2 (by decide) (hg _ wn_3_70) (fun _ h9 => h9) rfl (tk_Circuit 2 (by decide)) rfl rfl (Nat.le_of_ble_eq_true rfl) dn_Circuit_build_47 (fun H locs hP hD hS => ?_)
  have hP := wC_P_293 hP
  have hD := wC_D_293 hD
  refine lv_aload_n hx hb dn_Circuit_build_50 rfl (lv_at hl 1 rfl) ?_
  refine va_get (D := (dC, dI)) (ci := 9) (v := .ref ((a 294))) (C := rn_Circuit) (T := fn_Circuit) (N := 14) hx hb hg in_Circuit hown hK hP 8 rfl rfl 3 (by decide) (hg _ wn_3_72) (fun _ h9 => h9) rfl dn_Circuit_build_51 ?_
  refine lv_iconst (v := 0) hx hb dn_Circuit_build_54 (by decide) ?_
  refine lv_iconst (v := 0) hx hb dn_Circuit_build_55 (by decide) ?_
  refine va_iast hx hb hK hP hD hS 42 0 rfl rfl (show ¬ (_ ∨ _) by decide) dn_Circuit_build_56 (fun H locs hP hD hS => ?_)
  have hP : va_P (dC, dI) xcl ((wC a v cI cB cJ cZ cQ (upI q_4.2 293 (fun _ => (if 1024 < q_4.1 then 1024 else q_4.1)))).set 42 ((a 294), .inl (cI, 257, .inl (upd (q_4.2.1 294) 0 0)))) H := hP
  have hD : va_D A ((wC a v cI cB cJ cZ cQ (upI q_4.2 293 (fun _ => (if 1024 < q_4.1 then 1024 else q_4.1)))).set 42 ((a 294), .inl (cI, 257, .inl (upd (q_4.2.1 294) 0 0)))) := hD
  have hP := wC_P_294 hP
  have hD := wC_D_294 hD
  refine lv_aload_n hx hb dn_Circuit_build_57 rfl (lv_at hl 1 rfl) ?_
  refine va_get (D := (dC, dI)) (ci := 9) (v := .ref ((a 295))) (C := rn_Circuit) (T := fn_Circuit) (N := 14) hx hb hg in_Circuit hown hK hP 8 rfl rfl 4 (by decide) (hg _ wn_3_74) (fun _ h9 => h9) rfl dn_Circuit_build_58 ?_
  refine lv_iconst (v := 0) hx hb dn_Circuit_build_61 (by decide) ?_
  refine lv_iload_n hx hb dn_Circuit_build_62 rfl (lv_at hl 0 rfl) ?_
  refine va_iast hx hb hK hP hD hS 43 0 rfl rfl (show ¬ (_ ∨ _) by decide) dn_Circuit_build_63 (fun H locs hP hD hS => ?_)
  have hP : va_P (dC, dI) xcl ((wC a v cI cB cJ cZ cQ (upI (upI q_4.2 293 (fun _ => (if 1024 < q_4.1 then 1024 else q_4.1))) 294 (upd (q_4.2.1 294) 0 0))).set 43 ((a 295), .inl (cI, 257, .inl (upd (q_4.2.1 295) 0 (((s.1 309 0) - 1)))))) H := hP
  have hD : va_D A ((wC a v cI cB cJ cZ cQ (upI (upI q_4.2 293 (fun _ => (if 1024 < q_4.1 then 1024 else q_4.1))) 294 (upd (q_4.2.1 294) 0 0))).set 43 ((a 295), .inl (cI, 257, .inl (upd (q_4.2.1 295) 0 (((s.1 309 0) - 1)))))) := hD
  have hP := wC_P_295 hP
  have hD := wC_D_295 hD
  refine lv_aload_n hx hb dn_Circuit_build_64 rfl (lv_at hl 1 rfl) ?_
  refine va_get (D := (dC, dI)) (ci := 9) (v := .ref ((a 296))) (C := rn_Circuit) (T := fn_Circuit) (N := 14) hx hb hg in_Circuit hown hK hP 8 rfl rfl 5 (by decide) (hg _ wn_3_76) (fun _ h9 => h9) rfl dn_Circuit_build_65 ?_
  refine lv_iconst (v := 0) hx hb dn_Circuit_build_68 (by decide) ?_
  refine lv_iconst (v := (-1)) hx hb dn_Circuit_build_69 (by decide) ?_
  refine va_iast hx hb hK hP hD hS 44 0 rfl rfl (show ¬ (_ ∨ _) by decide) dn_Circuit_build_70 (fun H locs hP hD hS => ?_)
  have hP : va_P (dC, dI) xcl ((wC a v cI cB cJ cZ cQ (upI (upI (upI q_4.2 293 (fun _ => (if 1024 < q_4.1 then 1024 else q_4.1))) 294 (upd (q_4.2.1 294) 0 0)) 295 (upd (q_4.2.1 295) 0 (((s.1 309 0) - 1))))).set 44 ((a 296), .inl (cI, 257, .inl (upd (q_4.2.1 296) 0 ((-1)))))) H := hP
  have hD : va_D A ((wC a v cI cB cJ cZ cQ (upI (upI (upI q_4.2 293 (fun _ => (if 1024 < q_4.1 then 1024 else q_4.1))) 294 (upd (q_4.2.1 294) 0 0)) 295 (upd (q_4.2.1 295) 0 (((s.1 309 0) - 1))))).set 44 ((a 296), .inl (cI, 257, .inl (upd (q_4.2.1 296) 0 ((-1)))))) := hD
  have hP := wC_P_296 hP
  have hD := wC_D_296 hD
  refine lv_aload_n hx hb dn_Circuit_build_71 rfl (lv_at hl 1 rfl) ?_
  refine va_get (D := (dC, dI)) (ci := 9) (v := .ref ((a 297))) (C := rn_Circuit) (T := fn_Circuit) (N := 14) hx hb hg in_Circuit hown hK hP 8 rfl rfl 6 (by decide) (hg _ wn_3_77) (fun _ h9 => h9) rfl dn_Circuit_build_72 ?_
  refine lv_iconst (v := 0) hx hb dn_Circuit_build_75 (by decide) ?_
  refine lv_iconst (v := (-1)) hx hb dn_Circuit_build_76 (by decide) ?_
  refine va_iast hx hb hK hP hD hS 45 0 rfl rfl (show ¬ (_ ∨ _) by decide) dn_Circuit_build_77 (fun H locs hP hD hS => ?_)
  have hP : va_P (dC, dI) xcl ((wC a v cI cB cJ cZ cQ (upI (upI (upI (upI q_4.2 293 (fun _ => (if 1024 < q_4.1 then 1024 else q_4.1))) 294 (upd (q_4.2.1 294) 0 0)) 295 (upd (q_4.2.1 295) 0 (((s.1 309 0) - 1)))) 296 (upd (q_4.2.1 296) 0 ((-1))))).set 45 ((a 297), .inl (cI, 257, .inl (upd (q_4.2.1 297) 0 ((-1)))))) H := hP
  have hD : va_D A ((wC a v cI cB cJ cZ cQ (upI (upI (upI (upI q_4.2 293 (fun _ => (if 1024 < q_4.1 then 1024 else q_4.1))) 294 (upd (q_4.2.1 294) 0 0)) 295 (upd (q_4.2.1 295) 0 (((s.1 309 0) - 1)))) 296 (upd (q_4.2.1 296) 0 ((-1))))).set 45 ((a 297), .inl (cI, 257, .inl (upd (q_4.2.1 297) 0 ((-1)))))) := hD
  have hP := wC_P_297 hP
  have hD := wC_D_297 hD
  refine lv_iconst (v := 0) hx hb dn_Circuit_build_78 (by decide) ?_
  refine lv_istore_n (lv' := [(2, .int 0), (1, .int (((s.1 309 0) - 1))), (0, .ref ((a 108)))]) hx hb dn_Circuit_build_79 rfl hl (by decide) rfl (fun ls hl => ?_)
  exact hd_80 N 0 (upI (upI (upI (upI (upI q_4.2 293 (fun _ => (if 1024 < q_4.1 then 1024 else q_4.1))) 294 (upd (q_4.2.1 294) 0 0)) 295 (upd (q_4.2.1 295) 0 (((s.1 309 0) - 1)))) 296 (upd (q_4.2.1 296) 0 ((-1)))) 297 (upd (q_4.2.1 297) 0 ((-1)))) hf H locs ls hP hD hS (lv_sub hl [2, 0] rfl)
set_option maxHeartbeats 8000000 in
set_option maxRecDepth 100000 in
theorem ct_Design_sumOfTop_Dc (l : Launch) (dC : Nat → ClassId) (dI : Nat → Nat → Nat) (cI cB cJ cZ cQ : ClassId) (N sz : Nat) (a : Nat → Nat) (v : Nat → Value) (v1 : Int32) (s : ms) (y : (Int32 × ms)) (hf : fn_Design_sumOfTop_Dc N v1 s = some y) : Met l yn_Design_sumOfTop (xw yn_Design_sumOfTop bn_Design_sumOfTop 2 (some .int)) ({ frames := 2, cells := 0, slots := 0, locals := 43 }) (dc_P (dC, dI) xcl (xt cI cB cJ cZ cQ) [.ref ((a 113)), .int v1] sz (wC a v cI cB cJ cZ cQ s)) (xk_Qi (dC, dI) xcl (xt cI cB cJ cZ cQ) (fun (r : Int32) (_ : Unit) => r = y.1) (fun u : Unit => (wC a v cI cB cJ cZ cQ y.2)) (va_A (wC a v cI cB cJ cZ cQ s) sz)) 0 0 (va_A (wC a v cI cB cJ cZ cQ s) sz) := by
  refine dc_of (QA := xk_Qi (dC, dI) xcl (xt cI cB cJ cZ cQ) (fun (r : Int32) (_ : Unit) => r = y.1) (fun u : Unit => (wC a v cI cB cJ cZ cQ y.2))) (by decide) (Nat.le_of_ble_eq_true rfl) ?_
  intro p e s0 m below meth c hx hb hml hown hg hr hlocks hin hP hK hN A hA hD hT ls hl
  have hown : s0.vm.findClass rn_Design = some m.cls := hown
  obtain ⟨H, hH⟩ : ∃ z, z = s0.heap := ⟨_, rfl⟩
  rw [← hH] at hP
  have hS : va_S A s0.heap H [] := by rw [hH]; exact va_S.rf
  suffices kk : ∀ QQ : State → Prop, QQ = MQ below (xk_Qi (dC, dI) xcl (xt cI cB cJ cZ cQ) (fun (r : Int32) (_ : Unit) => r = y.1) (fun u : Unit => (wC a v cI cB cJ cZ cQ y.2)) A) [.ref ((a 113)), .int v1].toArray s0 0 0 A → dcC p l e ({ frames := 2, cells := 0, slots := 0, locals := 43 }) s0 m [.ref ((a 113)), .int v1].toArray below meth c QQ (dC, dI) A (wC a v cI cB cJ cZ cQ s) 0 2 [(0, .ref ((a 113))), (1, .int v1)] [] by
    have k9 := kk _ rfl H [] ls hP hD hS hl
    rw [hH] at k9; exact k9
  clear hP hD hS hl hH H ls
  intro QQ hQQ
  intro H locs ls hP hD hS hl
  unfold fn_Design_sumOfTop_Dc at hf
  refine lv_aload_n hx hb dn_Design_sumOfTop_0 rfl (lv_at hl 0 rfl) ?_
  refine lv_iload_n hx hb dn_Design_sumOfTop_1 rfl (lv_at hl 1 rfl) ?_
  refine lv_aload_n hx hb dn_Design_sumOfTop_2 rfl (lv_at hl 0 rfl) ?_
  refine va_get (D := (dC, dI)) (ci := 10) (v := .int ((s.1 359 0))) (C := rn_Design) (T := fn_Design) (N := 16) hx hb hg in_Design hown hK hP 13 rfl rfl 4 (by decide) (hg _ wn_3_10) (fun _ h9 => h9) rfl dn_Design_sumOfTop_3 ?_
  refine lv_iconst (v := 1) hx hb dn_Design_sumOfTop_6 (by decide) ?_
  refine lv_isub hx hb dn_Design_sumOfTop_7 ?_
  obtain ⟨q_1, hc_2, hf⟩ := dc_b hf
  refine dc_calli (dc_runV (ar := 2) (As := [.int v1, .int (((s.1 359 0) - 1))]) (rest := []) (ci := 10) (q0 := 13) ⟨hx, hb, hml, hown, hg⟩ hK hN hT hS hA (ct_Design_sumOf_Dc l dC dI cI cB cJ cZ cQ N H.size a v v1 (((s.1 359 0) - 1)) s q_1 hc_2) hP hD rfl rfl wn_5_112 wn_5_113 wn_5_114 wn_1_10 wn_5_115 rfl rfl (by decide +kernel) ⟨Nat.le_of_ble_eq_true rfl, Nat.le_of_ble_eq_true rfl⟩ rfl hl.1 rfl (Nat.le_of_ble_eq_true rfl) dn_Design_sumOfTop_8 ⟨Nat.le_of_ble_eq_true rfl, Nat.le_of_ble_eq_true rfl⟩) hP hD hS hA (fun r_3 _ H locs hw hP hD hS => ?_)
  have hw : r_3 = q_1.1 := hw
  subst hw
  rw [hQQ, ← Option.some.inj hf]
  exact xk_iret (w1 := fun u : Unit => (wC a v cI cB cJ cZ cQ q_1.2)) () hx hb hr hlocks hK hS dn_Design_sumOfTop_11 hP hD rfl (Nat.le_refl _) (Nat.le_refl _)
set_option maxHeartbeats 8000000 in
set_option maxRecDepth 100000 in
theorem ct_Circuit_ownSignals_Cc (l : Launch) (dC : Nat → ClassId) (dI : Nat → Nat → Nat) (cI cB cJ cZ cQ : ClassId) (N sz : Nat) (a : Nat → Nat) (v : Nat → Value) (v1 : Int32) (s : ms) (y : (Int32 × ms)) (hf : fn_Circuit_ownSignals_Cc N v1 s = some y) : Met l yn_Circuit_ownSignals (xw yn_Circuit_ownSignals bn_Circuit_ownSignals 2 (some .int)) ({ frames := 2, cells := 0, slots := 0, locals := 42 }) (dc_P (dC, dI) xcl (xt cI cB cJ cZ cQ) [.ref ((a 112)), .int v1] sz (wC a v cI cB cJ cZ cQ s)) (xk_Qi (dC, dI) xcl (xt cI cB cJ cZ cQ) (fun (r : Int32) (_ : Unit) => r = y.1) (fun u : Unit => (wC a v cI cB cJ cZ cQ y.2)) (va_A (wC a v cI cB cJ cZ cQ s) sz)) 0 0 (va_A (wC a v cI cB cJ cZ cQ s) sz) := by
  refine dc_of (QA := xk_Qi (dC, dI) xcl (xt cI cB cJ cZ cQ) (fun (r : Int32) (_ : Unit) => r = y.1) (fun u : Unit => (wC a v cI cB cJ cZ cQ y.2))) (by decide) (Nat.le_of_ble_eq_true rfl) ?_
  intro p e s0 m below meth c hx hb hml hown hg hr hlocks hin hP hK hN A hA hD hT ls hl
  have hown : s0.vm.findClass rn_Circuit = some m.cls := hown
  obtain ⟨H, hH⟩ : ∃ z, z = s0.heap := ⟨_, rfl⟩
  rw [← hH] at hP
  have hS : va_S A s0.heap H [] := by rw [hH]; exact va_S.rf
  suffices kk : ∀ QQ : State → Prop, QQ = MQ below (xk_Qi (dC, dI) xcl (xt cI cB cJ cZ cQ) (fun (r : Int32) (_ : Unit) => r = y.1) (fun u : Unit => (wC a v cI cB cJ cZ cQ y.2)) A) [.ref ((a 112)), .int v1].toArray s0 0 0 A → dcC p l e ({ frames := 2, cells := 0, slots := 0, locals := 42 }) s0 m [.ref ((a 112)), .int v1].toArray below meth c QQ (dC, dI) A (wC a v cI cB cJ cZ cQ s) 0 2 [(0, .ref ((a 112))), (1, .int v1)] [] by
    have k9 := kk _ rfl H [] ls hP hD hS hl
    rw [hH] at k9; exact k9
  clear hP hD hS hl hH H ls
  intro QQ hQQ
  intro H locs ls hP hD hS hl
  unfold fn_Circuit_ownSignals_Cc at hf
  refine lv_aload_n hx hb dn_Circuit_ownSignals_0 rfl (lv_at hl 0 rfl) ?_
  refine va_get (D := (dC, dI)) (ci := 9) (v := .ref ((a 113))) (C := rn_Circuit) (T := fn_Circuit) (N := 14) hx hb hg in_Circuit hown hK hP 12 rfl rfl 0 (by decide) (hg _ wn_3_61) (fun _ h9 => h9) rfl dn_Circuit_ownSignals_1 ?_
  refine lv_iload_n hx hb dn_Circuit_ownSignals_4 rfl (lv_at hl 1 rfl) ?_
  refine lv_iconst (v := 1) hx hb dn_Circuit_ownSignals_5 (by decide) ?_
  refine lv_iadd hx hb dn_Circuit_ownSignals_6 ?_
  obtain ⟨q_1, hc_2, hf⟩ := dc_b hf
  refine dc_calli (dc_runV (ar := 1) (As := [.int ((v1 + 1))]) (rest := []) (ci := 10) (q0 := 13) ⟨hx, hb, hml, hown, hg⟩ hK hN hT hS hA (ct_Design_firstDecl_Dc l dC dI cI cB cJ cZ cQ N H.size a v ((v1 + 1)) s q_1 hc_2) hP hD rfl rfl wn_6_189 wn_5_100 wn_5_101 wn_1_10 wn_5_102 rfl rfl (by decide +kernel) ⟨Nat.le_of_ble_eq_true rfl, Nat.le_of_ble_eq_true rfl⟩ rfl hl.1 rfl (Nat.le_of_ble_eq_true rfl) dn_Circuit_ownSignals_7 ⟨Nat.le_of_ble_eq_true rfl, Nat.le_of_ble_eq_true rfl⟩) hP hD hS hA (fun r_3 _ H locs hw hP hD hS => ?_)
  have hw : r_3 = q_1.1 := hw
  subst hw
  refine lv_aload_n hx hb dn_Circuit_ownSignals_10 rfl (lv_at hl 0 rfl) ?_
  refine va_get (D := (dC, dI)) (ci := 9) (v := .ref ((a 113))) (C := rn_Circuit) (T := fn_Circuit) (N := 14) hx hb hg in_Circuit hown hK hP 12 rfl rfl 0 (by decide) (hg _ wn_3_61) (fun _ h9 => h9) rfl dn_Circuit_ownSignals_11 ?_
  refine lv_iload_n hx hb dn_Circuit_ownSignals_14 rfl (lv_at hl 1 rfl) ?_
  obtain ⟨q_4, hc_5, hf⟩ := dc_b hf
  refine dc_calli (dc_runV (ar := 1) (As := [.int v1]) (rest := [.int q_1.1]) (ci := 10) (q0 := 13) ⟨hx, hb, hml, hown, hg⟩ hK hN hT hS hA (ct_Design_firstDecl_Dc l dC dI cI cB cJ cZ cQ N H.size a v v1 q_1.2 q_4 hc_5) hP hD rfl rfl wn_6_189 wn_5_100 wn_5_101 wn_1_10 wn_5_102 rfl rfl (by decide +kernel) ⟨Nat.le_of_ble_eq_true rfl, Nat.le_of_ble_eq_true rfl⟩ rfl hl.1 rfl (Nat.le_of_ble_eq_true rfl) dn_Circuit_ownSignals_15 ⟨Nat.le_of_ble_eq_true rfl, Nat.le_of_ble_eq_true rfl⟩) hP hD hS hA (fun r_6 _ H locs hw hP hD hS => ?_)
  have hw : r_6 = q_4.1 := hw
  subst hw
  refine lv_isub hx hb dn_Circuit_ownSignals_18 ?_
  rw [hQQ, ← Option.some.inj hf]
  exact xk_iret (w1 := fun u : Unit => (wC a v cI cB cJ cZ cQ q_4.2)) () hx hb hr hlocks hK hS dn_Circuit_ownSignals_19 hP hD rfl (Nat.le_refl _) (Nat.le_refl _)
set_option maxHeartbeats 8000000 in
set_option maxRecDepth 100000 in
theorem ct_Design_firstChild_Dc (l : Launch) (dC : Nat → ClassId) (dI : Nat → Nat → Nat) (cI cB cJ cZ cQ : ClassId) (N sz : Nat) (a : Nat → Nat) (v : Nat → Value) (v1 : Int32) (s : ms) (y : (Int32 × ms)) (hf : fn_Design_firstChild_Dc N v1 s = some y) : Met l yn_Design_firstChild (xw yn_Design_firstChild bn_Design_firstChild 2 (some .int)) ({ frames := 1, cells := 0, slots := 0, locals := 21 }) (dc_P (dC, dI) xcl (xt cI cB cJ cZ cQ) [.ref ((a 113)), .int v1] sz (wC a v cI cB cJ cZ cQ s)) (xk_Qi (dC, dI) xcl (xt cI cB cJ cZ cQ) (fun (r : Int32) (_ : Unit) => r = y.1) (fun u : Unit => (wC a v cI cB cJ cZ cQ y.2)) (va_A (wC a v cI cB cJ cZ cQ s) sz)) 0 0 (va_A (wC a v cI cB cJ cZ cQ s) sz) := by
  refine dc_of (QA := xk_Qi (dC, dI) xcl (xt cI cB cJ cZ cQ) (fun (r : Int32) (_ : Unit) => r = y.1) (fun u : Unit => (wC a v cI cB cJ cZ cQ y.2))) (by decide) (Nat.le_of_ble_eq_true rfl) ?_
  intro p e s0 m below meth c hx hb hml hown hg hr hlocks hin hP hK hN A hA hD hT ls hl
  have hown : s0.vm.findClass rn_Design = some m.cls := hown
  obtain ⟨H, hH⟩ : ∃ z, z = s0.heap := ⟨_, rfl⟩
  rw [← hH] at hP
  have hS : va_S A s0.heap H [] := by rw [hH]; exact va_S.rf
  suffices kk : ∀ QQ : State → Prop, QQ = MQ below (xk_Qi (dC, dI) xcl (xt cI cB cJ cZ cQ) (fun (r : Int32) (_ : Unit) => r = y.1) (fun u : Unit => (wC a v cI cB cJ cZ cQ y.2)) A) [.ref ((a 113)), .int v1].toArray s0 0 0 A → dcC p l e ({ frames := 1, cells := 0, slots := 0, locals := 21 }) s0 m [.ref ((a 113)), .int v1].toArray below meth c QQ (dC, dI) A (wC a v cI cB cJ cZ cQ s) 0 2 [(0, .ref ((a 113))), (1, .int v1)] [] by
    have k9 := kk _ rfl H [] ls hP hD hS hl
    rw [hH] at k9; exact k9
  clear hP hD hS hl hH H ls
  intro QQ hQQ
  intro H locs ls hP hD hS hl
  unfold fn_Design_firstChild_Dc at hf
  refine lv_aload_n hx hb dn_Design_firstChild_0 rfl (lv_at hl 0 rfl) ?_
  refine lv_iload_n hx hb dn_Design_firstChild_1 rfl (lv_at hl 1 rfl) ?_
  obtain ⟨q_1, hc_2, hf⟩ := dc_b hf
  refine dc_calli (dc_runV (ar := 1) (As := [.int v1]) (rest := []) (ci := 10) (q0 := 13) ⟨hx, hb, hml, hown, hg⟩ hK hN hT hS hA (ct_Design_isModule_Dc l dC dI cI cB cJ cZ cQ N H.size a v v1 s q_1 hc_2) hP hD rfl rfl wn_5_91 wn_5_93 sn_Design_isModule wn_1_10 wn_5_94 rfl rfl (by decide +kernel) ⟨Nat.le_of_ble_eq_true rfl, Nat.le_of_ble_eq_true rfl⟩ rfl hl.1 rfl (Nat.le_of_ble_eq_true rfl) dn_Design_firstChild_2 ⟨Nat.le_of_ble_eq_true rfl, Nat.le_of_ble_eq_true rfl⟩) hP hD hS hA (fun r_3 _ H locs hw hP hD hS => ?_)
  have hw : r_3 = q_1.1 := hw
  subst hw
  refine lv_if_eq (tgt := 17) hx hb dn_Design_firstChild_5 (by decide) (fun h => ?_) (fun h => ?_)
  · have hf := (if_pos h).symm.trans hf
    refine lv_aload_n hx hb dn_Design_firstChild_17 rfl (lv_at hl 0 rfl) ?_
    refine va_get (D := (dC, dI)) (ci := 10) (v := .ref ((a 114))) (C := rn_Design) (T := fn_Design) (N := 16) hx hb hg in_Design hown hK hP 13 rfl rfl 0 (by decide) (hg _ wn_2_234) (fun _ h9 => h9) rfl dn_Design_firstChild_18 ?_
    refine va_get (D := (dC, dI)) (ci := 11) (v := .int ((q_1.2.1 378 0))) (C := rn_Parts) (T := fn_Parts) (N := 15) hx hb hg in_Parts hown hK hP 14 rfl rfl 7 (by decide) (hg _ wn_2_150) (fun _ h9 => h9) rfl dn_Design_firstChild_21 ?_
    rw [hQQ, ← Option.some.inj hf]
    exact xk_iret (w1 := fun u : Unit => (wC a v cI cB cJ cZ cQ q_1.2)) () hx hb hr hlocks hK hS dn_Design_firstChild_24 hP hD rfl (Nat.le_refl _) (Nat.le_refl _)
  · have hf := (if_neg h).symm.trans hf
    refine lv_aload_n hx hb dn_Design_firstChild_8 rfl (lv_at hl 0 rfl) ?_
    refine va_get (D := (dC, dI)) (ci := 10) (v := .ref ((a 364))) (C := rn_Design) (T := fn_Design) (N := 16) hx hb hg in_Design hown hK hP 13 rfl rfl 9 (by decide) (hg _ wn_3_18) (fun _ h9 => h9) rfl dn_Design_firstChild_9 ?_
    refine lv_iload_n hx hb dn_Design_firstChild_12 rfl (lv_at hl 1 rfl) ?_
    obtain ⟨hg_4, hf⟩ := dc_g hf
    refine va_iald hx hb hK hP 90 0 rfl rfl hg_4 dn_Design_firstChild_13 ?_
    refine xk_ti (y := ((q_1.2.1 364) (Int32.toNatClampNeg v1))) rfl ?_
    refine lv_goto (tgt := 24) hx hb dn_Design_firstChild_14 (by decide) ?_
    rw [hQQ, ← Option.some.inj hf]
    exact xk_iret (w1 := fun u : Unit => (wC a v cI cB cJ cZ cQ q_1.2)) () hx hb hr hlocks hK hS dn_Design_firstChild_24 hP hD rfl (Nat.le_refl _) (Nat.le_refl _)
set_option maxHeartbeats 8000000 in
set_option maxRecDepth 100000 in
theorem ct_Circuit_layChildren_Cc (l : Launch) (dC : Nat → ClassId) (dI : Nat → Nat → Nat) (cI cB cJ cZ cQ : ClassId) (N sz : Nat) (a : Nat → Nat) (v : Nat → Value) (v1 : Int32) (s : ms) (y : (Unit × ms)) (hf : fn_Circuit_layChildren_Cc N v1 s = some y) : Met l yn_Circuit_layChildren (xw yn_Circuit_layChildren bn_Circuit_layChildren 8 none) ({ frames := 3, cells := 0, slots := 0, locals := 63 }) (dc_P (dC, dI) xcl (xt cI cB cJ cZ cQ) [.ref ((a 112)), .int v1] sz (wC a v cI cB cJ cZ cQ s)) (xk_Qv (dC, dI) xcl (xt cI cB cJ cZ cQ) (fun _ : Unit => True) (fun u : Unit => (wC a v cI cB cJ cZ cQ y.2)) (va_A (wC a v cI cB cJ cZ cQ s) sz)) 0 0 (va_A (wC a v cI cB cJ cZ cQ s) sz) := by
  refine dc_of (QA := xk_Qv (dC, dI) xcl (xt cI cB cJ cZ cQ) (fun _ : Unit => True) (fun u : Unit => (wC a v cI cB cJ cZ cQ y.2))) (by decide) (Nat.le_of_ble_eq_true rfl) ?_
  intro p e s0 m below meth c hx hb hml hown hg hr hlocks hin hP hK hN A hA hD hT ls hl
  have hown : s0.vm.findClass rn_Circuit = some m.cls := hown
  obtain ⟨H, hH⟩ : ∃ z, z = s0.heap := ⟨_, rfl⟩
  rw [← hH] at hP
  have hS : va_S A s0.heap H [] := by rw [hH]; exact va_S.rf
  suffices kk : ∀ QQ : State → Prop, QQ = MQ below (xk_Qv (dC, dI) xcl (xt cI cB cJ cZ cQ) (fun _ : Unit => True) (fun u : Unit => (wC a v cI cB cJ cZ cQ y.2)) A) [.ref ((a 112)), .int v1].toArray s0 0 0 A → dcC p l e ({ frames := 3, cells := 0, slots := 0, locals := 63 }) s0 m [.ref ((a 112)), .int v1].toArray below meth c QQ (dC, dI) A (wC a v cI cB cJ cZ cQ s) 0 8 [(0, .ref ((a 112))), (1, .int v1)] [] by
    have k9 := kk _ rfl H [] ls hP hD hS hl
    rw [hH] at k9; exact k9
  clear hP hD hS hl hH H ls
  intro QQ hQQ
  have hd_47 : ∀ (n : Nat) (x1 : Int32) (x3 : Int32) (x4 : Int32) (x5 : Int32) (x6 : Int32) (s : ms), hd_Circuit_layChildren_Cc_47 N n x1 x3 x4 x5 x6 s = some y → dcC p l e ({ frames := 3, cells := 0, slots := 0, locals := 63 }) s0 m [.ref ((a 112)), .int v1].toArray below meth c QQ (dC, dI) A (wC a v cI cB cJ cZ cQ s) 47 8 [(0, .ref ((a 112))), (1, .int x1), (3, .int x3), (4, .int x4), (5, .int x5), (6, .int x6)] [] := by
    intro n
    induction n with
    | zero => intro x1 x3 x4 x5 x6 s hf; cases hf
    | succ n ih =>
      intro x1 x3 x4 x5 x6 s hf H locs ls hP hD hS hl
      have hf : bd_Circuit_layChildren_Cc_47 N (hd_Circuit_layChildren_Cc_47 N n) x1 x3 x4 x5 x6 s = some y := hf
      have hk_47 := ih
      generalize hd_Circuit_layChildren_Cc_47 N n = k_47 at hf hk_47
      unfold bd_Circuit_layChildren_Cc_47 at hf
      refine lv_iload hx hb dn_Circuit_layChildren_47 (lv_at hl 5 rfl) ?_
      refine lv_iload hx hb dn_Circuit_layChildren_49 (lv_at hl 4 rfl) ?_
      refine lv_icmp_ge (tgt := 143) hx hb dn_Circuit_layChildren_51 (by decide) (fun h => ?_) (fun h => ?_)
      · have hf := (if_pos h).symm.trans hf
        rw [hQQ, ← Option.some.inj hf]
        exact xk_vret (w1 := fun u : Unit => (wC a v cI cB cJ cZ cQ s)) () hx hb hr hlocks hK hS dn_Circuit_layChildren_143 hP hD trivial (Nat.le_refl _) (Nat.le_refl _)
      · have hf := (if_neg h).symm.trans hf
        refine lv_iload_n hx hb dn_Circuit_layChildren_54 rfl (lv_at hl 2 rfl) ?_
        refine lv_aload_n hx hb dn_Circuit_layChildren_55 rfl (lv_at hl 0 rfl) ?_
        refine va_get (D := (dC, dI)) (ci := 9) (v := .ref ((a 344))) (C := rn_Circuit) (T := fn_Circuit) (N := 14) hx hb hg in_Circuit hown hK hP 12 rfl rfl 3 (by decide) (hg _ wn_3_72) (fun _ h9 => h9) rfl dn_Circuit_layChildren_56 ?_
        refine va_alen (v := 257) hx hb hK hP 76 0 rfl rfl rfl dn_Circuit_layChildren_59 ?_
        refine lv_icmp_ge (tgt := 143) hx hb dn_Circuit_layChildren_60 (by decide) (fun h => ?_) (fun h => ?_)
        · have hf := (if_pos h).symm.trans hf
          rw [hQQ, ← Option.some.inj hf]
          exact xk_vret (w1 := fun u : Unit => (wC a v cI cB cJ cZ cQ s)) () hx hb hr hlocks hK hS dn_Circuit_layChildren_143 hP hD trivial (Nat.le_refl _) (Nat.le_refl _)
        · have hf := (if_neg h).symm.trans hf
          refine lv_aload_n hx hb dn_Circuit_layChildren_63 rfl (lv_at hl 0 rfl) ?_
          refine va_get (D := (dC, dI)) (ci := 9) (v := .ref ((a 113))) (C := rn_Circuit) (T := fn_Circuit) (N := 14) hx hb hg in_Circuit hown hK hP 12 rfl rfl 0 (by decide) (hg _ wn_3_61) (fun _ h9 => h9) rfl dn_Circuit_layChildren_64 ?_
          refine va_get (D := (dC, dI)) (ci := 10) (v := .ref ((a 114))) (C := rn_Design) (T := fn_Design) (N := 16) hx hb hg in_Design hown hK hP 13 rfl rfl 0 (by decide) (hg _ wn_2_237) (fun _ h9 => h9) rfl dn_Circuit_layChildren_67 ?_
          refine va_get (D := (dC, dI)) (ci := 11) (v := .ref ((a 379))) (C := rn_Parts) (T := fn_Parts) (N := 15) hx hb hg in_Parts hown hK hP 14 rfl rfl 8 (by decide) (hg _ wn_2_153) (fun _ h9 => h9) rfl dn_Circuit_layChildren_70 ?_
          refine lv_iload hx hb dn_Circuit_layChildren_73 (lv_at hl 5 rfl) ?_
          obtain ⟨hg_1, hf⟩ := dc_g hf
          refine va_iald hx hb hK hP 101 0 rfl rfl hg_1 dn_Circuit_layChildren_75 ?_
          refine xk_ti (y := ((s.1 379) (Int32.toNatClampNeg x6))) rfl ?_
          refine lv_istore (lv' := [(7, .int (((s.1 379) (Int32.toNatClampNeg x6)))), (0, .ref ((a 112))), (1, .int x1), (3, .int x3), (4, .int x4), (5, .int x5), (6, .int x6)]) hx hb dn_Circuit_layChildren_76 hl (by decide) rfl (fun ls hl => ?_)
          refine lv_aload_n hx hb dn_Circuit_layChildren_78 rfl (lv_at hl 1 rfl) ?_
          refine va_get (D := (dC, dI)) (ci := 9) (v := .ref ((a 344))) (C := rn_Circuit) (T := fn_Circuit) (N := 14) hx hb hg in_Circuit hown hK hP 12 rfl rfl 3 (by decide) (hg _ wn_3_72) (fun _ h9 => h9) rfl dn_Circuit_layChildren_79 ?_
          refine lv_iload_n hx hb dn_Circuit_layChildren_82 rfl (lv_at hl 3 rfl) ?_
          refine lv_iload hx hb dn_Circuit_layChildren_83 (lv_at hl 4 rfl) ?_
          obtain ⟨hg_2, hf⟩ := dc_g hf
          refine va_iast hx hb hK hP hD hS 76 0 rfl rfl hg_2 dn_Circuit_layChildren_85 (fun H locs hP hD hS => ?_)
          have hP : va_P (dC, dI) xcl ((wC a v cI cB cJ cZ cQ s).set 76 ((a 344), .inl (cI, 257, .inl (upd (s.1 344) (Int32.toNatClampNeg x3) x4)))) H := hP
          have hD : va_D A ((wC a v cI cB cJ cZ cQ s).set 76 ((a 344), .inl (cI, 257, .inl (upd (s.1 344) (Int32.toNatClampNeg x3) x4)))) := hD
          have hP := wC_P_344 hP
          have hD := wC_D_344 hD
          refine lv_aload_n hx hb dn_Circuit_layChildren_86 rfl (lv_at hl 1 rfl) ?_
          refine va_get (D := (dC, dI)) (ci := 9) (v := .ref ((a 345))) (C := rn_Circuit) (T := fn_Circuit) (N := 14) hx hb hg in_Circuit hown hK hP 12 rfl rfl 4 (by decide) (hg _ wn_3_74) (fun _ h9 => h9) rfl dn_Circuit_layChildren_87 ?_
          refine lv_iload_n hx hb dn_Circuit_layChildren_90 rfl (lv_at hl 3 rfl) ?_
          refine lv_iload hx hb dn_Circuit_layChildren_91 (lv_at hl 0 rfl) ?_
          obtain ⟨hg_3, hf⟩ := dc_g hf
          refine va_iast hx hb hK hP hD hS 77 0 rfl rfl hg_3 dn_Circuit_layChildren_93 (fun H locs hP hD hS => ?_)
          have hP : va_P (dC, dI) xcl ((wC a v cI cB cJ cZ cQ (upI s 344 (upd (s.1 344) (Int32.toNatClampNeg x3) x4))).set 77 ((a 345), .inl (cI, 257, .inl (upd (s.1 345) (Int32.toNatClampNeg x3) (((s.1 379) (Int32.toNatClampNeg x6))))))) H := hP
          have hD : va_D A ((wC a v cI cB cJ cZ cQ (upI s 344 (upd (s.1 344) (Int32.toNatClampNeg x3) x4))).set 77 ((a 345), .inl (cI, 257, .inl (upd (s.1 345) (Int32.toNatClampNeg x3) (((s.1 379) (Int32.toNatClampNeg x6))))))) := hD
          have hP := wC_P_345 hP
          have hD := wC_D_345 hD
          refine lv_aload_n hx hb dn_Circuit_layChildren_94 rfl (lv_at hl 1 rfl) ?_
          refine va_get (D := (dC, dI)) (ci := 9) (v := .ref ((a 346))) (C := rn_Circuit) (T := fn_Circuit) (N := 14) hx hb hg in_Circuit hown hK hP 12 rfl rfl 5 (by decide) (hg _ wn_3_76) (fun _ h9 => h9) rfl dn_Circuit_layChildren_95 ?_
          refine lv_iload_n hx hb dn_Circuit_layChildren_98 rfl (lv_at hl 3 rfl) ?_
          refine lv_iload_n hx hb dn_Circuit_layChildren_99 rfl (lv_at hl 2 rfl) ?_
          obtain ⟨hg_4, hf⟩ := dc_g hf
          refine va_iast hx hb hK hP hD hS 78 0 rfl rfl hg_4 dn_Circuit_layChildren_100 (fun H locs hP hD hS => ?_)
          have hP : va_P (dC, dI) xcl ((wC a v cI cB cJ cZ cQ (upI (upI s 344 (upd (s.1 344) (Int32.toNatClampNeg x3) x4)) 345 (upd (s.1 345) (Int32.toNatClampNeg x3) (((s.1 379) (Int32.toNatClampNeg x6)))))).set 78 ((a 346), .inl (cI, 257, .inl (upd (s.1 346) (Int32.toNatClampNeg x3) x1)))) H := hP
          have hD : va_D A ((wC a v cI cB cJ cZ cQ (upI (upI s 344 (upd (s.1 344) (Int32.toNatClampNeg x3) x4)) 345 (upd (s.1 345) (Int32.toNatClampNeg x3) (((s.1 379) (Int32.toNatClampNeg x6)))))).set 78 ((a 346), .inl (cI, 257, .inl (upd (s.1 346) (Int32.toNatClampNeg x3) x1)))) := hD
          have hP := wC_P_346 hP
          have hD := wC_D_346 hD
          refine lv_aload_n hx hb dn_Circuit_layChildren_101 rfl (lv_at hl 1 rfl) ?_
          refine va_get (D := (dC, dI)) (ci := 9) (v := .ref ((a 347))) (C := rn_Circuit) (T := fn_Circuit) (N := 14) hx hb hg in_Circuit hown hK hP 12 rfl rfl 6 (by decide) (hg _ wn_3_77) (fun _ h9 => h9) rfl dn_Circuit_layChildren_102 ?_
          refine lv_iload_n hx hb dn_Circuit_layChildren_105 rfl (lv_at hl 3 rfl) ?_
          refine lv_iload hx hb dn_Circuit_layChildren_106 (lv_at hl 6 rfl) ?_
          obtain ⟨hg_5, hf⟩ := dc_g hf
          refine va_iast hx hb hK hP hD hS 79 0 rfl rfl hg_5 dn_Circuit_layChildren_108 (fun H locs hP hD hS => ?_)
          have hP : va_P (dC, dI) xcl ((wC a v cI cB cJ cZ cQ (upI (upI (upI s 344 (upd (s.1 344) (Int32.toNatClampNeg x3) x4)) 345 (upd (s.1 345) (Int32.toNatClampNeg x3) (((s.1 379) (Int32.toNatClampNeg x6))))) 346 (upd (s.1 346) (Int32.toNatClampNeg x3) x1))).set 79 ((a 347), .inl (cI, 257, .inl (upd (s.1 347) (Int32.toNatClampNeg x3) x6)))) H := hP
          have hD : va_D A ((wC a v cI cB cJ cZ cQ (upI (upI (upI s 344 (upd (s.1 344) (Int32.toNatClampNeg x3) x4)) 345 (upd (s.1 345) (Int32.toNatClampNeg x3) (((s.1 379) (Int32.toNatClampNeg x6))))) 346 (upd (s.1 346) (Int32.toNatClampNeg x3) x1))).set 79 ((a 347), .inl (cI, 257, .inl (upd (s.1 347) (Int32.toNatClampNeg x3) x6)))) := hD
          have hP := wC_P_347 hP
          have hD := wC_D_347 hD
          refine lv_iload_n hx hb dn_Circuit_layChildren_109 rfl (lv_at hl 3 rfl) ?_
          refine lv_aload_n hx hb dn_Circuit_layChildren_110 rfl (lv_at hl 1 rfl) ?_
          refine va_get (D := (dC, dI)) (ci := 9) (v := .ref ((a 113))) (C := rn_Circuit) (T := fn_Circuit) (N := 14) hx hb hg in_Circuit hown hK hP 12 rfl rfl 0 (by decide) (hg _ wn_3_61) (fun _ h9 => h9) rfl dn_Circuit_layChildren_111 ?_
          refine lv_iconst (v := 0) hx hb dn_Circuit_layChildren_114 (by decide) ?_
          refine lv_iload hx hb dn_Circuit_layChildren_115 (lv_at hl 0 rfl) ?_
          obtain ⟨q_6, hc_7, hf⟩ := dc_b hf
          refine dc_calli (dc_runV (ar := 2) (As := [.int 0, .int (((s.1 379) (Int32.toNatClampNeg x6)))]) (rest := [.int x3]) (ci := 10) (q0 := 13) ⟨hx, hb, hml, hown, hg⟩ hK hN hT hS hA (ct_Design_sumOf_Dc l dC dI cI cB cJ cZ cQ N H.size a v 0 (((s.1 379) (Int32.toNatClampNeg x6))) (upI (upI (upI (upI s 344 (upd (s.1 344) (Int32.toNatClampNeg x3) x4)) 345 (upd (s.1 345) (Int32.toNatClampNeg x3) (((s.1 379) (Int32.toNatClampNeg x6))))) 346 (upd (s.1 346) (Int32.toNatClampNeg x3) x1)) 347 (upd (s.1 347) (Int32.toNatClampNeg x3) x6)) q_6 hc_7) hP hD rfl rfl wn_6_194 wn_5_113 wn_5_114 wn_1_10 wn_5_115 rfl rfl (by decide +kernel) ⟨Nat.le_of_ble_eq_true rfl, Nat.le_of_ble_eq_true rfl⟩ rfl hl.1 rfl (Nat.le_of_ble_eq_true rfl) dn_Circuit_layChildren_117 ⟨Nat.le_of_ble_eq_true rfl, Nat.le_of_ble_eq_true rfl⟩) hP hD hS hA (fun r_8 _ H locs hw hP hD hS => ?_)
          have hw : r_8 = q_6.1 := hw
          subst hw
          refine lv_iadd hx hb dn_Circuit_layChildren_120 ?_
          refine lv_istore_n (lv' := [(3, .int ((x3 + q_6.1))), (7, .int (((s.1 379) (Int32.toNatClampNeg x6)))), (0, .ref ((a 112))), (1, .int x1), (4, .int x4), (5, .int x5), (6, .int x6)]) hx hb dn_Circuit_layChildren_121 rfl hl (by decide) rfl (fun ls hl => ?_)
          refine lv_iload hx hb dn_Circuit_layChildren_122 (lv_at hl 4 rfl) ?_
          refine lv_aload_n hx hb dn_Circuit_layChildren_124 rfl (lv_at hl 2 rfl) ?_
          refine va_get (D := (dC, dI)) (ci := 9) (v := .ref ((a 113))) (C := rn_Circuit) (T := fn_Circuit) (N := 14) hx hb hg in_Circuit hown hK hP 12 rfl rfl 0 (by decide) (hg _ wn_3_61) (fun _ h9 => h9) rfl dn_Circuit_layChildren_125 ?_
          refine lv_iconst (v := 1) hx hb dn_Circuit_layChildren_128 (by decide) ?_
          refine lv_iload hx hb dn_Circuit_layChildren_129 (lv_at hl 1 rfl) ?_
          obtain ⟨q_9, hc_10, hf⟩ := dc_b hf
          refine dc_calli (dc_runV (ar := 2) (As := [.int 1, .int (((s.1 379) (Int32.toNatClampNeg x6)))]) (rest := [.int x4]) (ci := 10) (q0 := 13) ⟨hx, hb, hml, hown, hg⟩ hK hN hT hS hA (ct_Design_sumOf_Dc l dC dI cI cB cJ cZ cQ N H.size a v 1 (((s.1 379) (Int32.toNatClampNeg x6))) q_6.2 q_9 hc_10) hP hD rfl rfl wn_6_194 wn_5_113 wn_5_114 wn_1_10 wn_5_115 rfl rfl (by decide +kernel) ⟨Nat.le_of_ble_eq_true rfl, Nat.le_of_ble_eq_true rfl⟩ rfl hl.1 rfl (Nat.le_of_ble_eq_true rfl) dn_Circuit_layChildren_131 ⟨Nat.le_of_ble_eq_true rfl, Nat.le_of_ble_eq_true rfl⟩) hP hD hS hA (fun r_11 _ H locs hw hP hD hS => ?_)
          have hw : r_11 = q_9.1 := hw
          subst hw
          refine lv_iadd hx hb dn_Circuit_layChildren_134 ?_
          refine lv_istore (lv' := [(4, .int ((x4 + q_9.1))), (3, .int ((x3 + q_6.1))), (7, .int (((s.1 379) (Int32.toNatClampNeg x6)))), (0, .ref ((a 112))), (1, .int x1), (5, .int x5), (6, .int x6)]) hx hb dn_Circuit_layChildren_135 hl (by decide) rfl (fun ls hl => ?_)
          refine lv_iinc (v := (x6 + 1)) (lv' := [(6, .int ((x6 + 1))), (4, .int ((x4 + q_9.1))), (3, .int ((x3 + q_6.1))), (7, .int (((s.1 379) (Int32.toNatClampNeg x6)))), (0, .ref ((a 112))), (1, .int x1), (5, .int x5)]) hx hb dn_Circuit_layChildren_137 hl (k := 6) rfl (dc_inc (by decide)) (by decide) rfl (fun ls hl => ?_)
          refine lv_goto (tgt := 47) hx hb dn_Circuit_layChildren_140 (by decide) ?_
          exact hk_47 x1 ((x3 + q_6.1)) ((x4 + q_9.1)) x5 ((x6 + 1)) q_9.2 hf H locs ls hP hD hS (lv_sub hl [4, 5, 2, 1, 6, 0] rfl)
  intro H locs ls hP hD hS hl
  unfold fn_Circuit_layChildren_Cc at hf
  refine lv_aload_n hx hb dn_Circuit_layChildren_0 rfl (lv_at hl 0 rfl) ?_
  refine va_get (D := (dC, dI)) (ci := 9) (v := .ref ((a 345))) (C := rn_Circuit) (T := fn_Circuit) (N := 14) hx hb hg in_Circuit hown hK hP 12 rfl rfl 4 (by decide) (hg _ wn_3_74) (fun _ h9 => h9) rfl dn_Circuit_layChildren_1 ?_
  refine lv_iload_n hx hb dn_Circuit_layChildren_4 rfl (lv_at hl 1 rfl) ?_
  obtain ⟨hg_1, hf⟩ := dc_g hf
  refine va_iald hx hb hK hP 77 0 rfl rfl hg_1 dn_Circuit_layChildren_5 ?_
  refine xk_ti (y := ((s.1 345) (Int32.toNatClampNeg v1))) rfl ?_
  refine lv_istore_n (lv' := [(2, .int (((s.1 345) (Int32.toNatClampNeg v1)))), (0, .ref ((a 112))), (1, .int v1)]) hx hb dn_Circuit_layChildren_6 rfl hl (by decide) rfl (fun ls hl => ?_)
  refine lv_iload_n hx hb dn_Circuit_layChildren_7 rfl (lv_at hl 2 rfl) ?_
  refine lv_iconst (v := 1) hx hb dn_Circuit_layChildren_8 (by decide) ?_
  refine lv_iadd hx hb dn_Circuit_layChildren_9 ?_
  refine lv_istore_n (lv' := [(3, .int ((v1 + 1))), (2, .int (((s.1 345) (Int32.toNatClampNeg v1)))), (0, .ref ((a 112))), (1, .int v1)]) hx hb dn_Circuit_layChildren_10 rfl hl (by decide) rfl (fun ls hl => ?_)
  refine lv_aload_n hx hb dn_Circuit_layChildren_11 rfl (lv_at hl 2 rfl) ?_
  refine va_get (D := (dC, dI)) (ci := 9) (v := .ref ((a 344))) (C := rn_Circuit) (T := fn_Circuit) (N := 14) hx hb hg in_Circuit hown hK hP 12 rfl rfl 3 (by decide) (hg _ wn_3_72) (fun _ h9 => h9) rfl dn_Circuit_layChildren_12 ?_
  refine lv_iload_n hx hb dn_Circuit_layChildren_15 rfl (lv_at hl 3 rfl) ?_
  obtain ⟨hg_2, hf⟩ := dc_g hf
  refine va_iald hx hb hK hP 76 0 rfl rfl hg_2 dn_Circuit_layChildren_16 ?_
  refine xk_ti (y := ((s.1 344) (Int32.toNatClampNeg v1))) rfl ?_
  refine lv_aload_n hx hb dn_Circuit_layChildren_17 rfl (lv_at hl 2 rfl) ?_
  refine lv_iload_n hx hb dn_Circuit_layChildren_18 rfl (lv_at hl 1 rfl) ?_
  obtain ⟨q_3, hc_4, hf⟩ := dc_b hf
  refine dc_calli (dc_runV (ar := 1) (As := [.int (((s.1 345) (Int32.toNatClampNeg v1)))]) (rest := [.int (((s.1 344) (Int32.toNatClampNeg v1)))]) (ci := 9) (q0 := 12) ⟨hx, hb, hml, hown, hg⟩ hK hN hT hS hA (ct_Circuit_ownSignals_Cc l dC dI cI cB cJ cZ cQ N H.size a v (((s.1 345) (Int32.toNatClampNeg v1))) s q_3 hc_4) hP hD rfl rfl wn_6_185 wn_6_187 sn_Circuit_ownSignals wn_1_9 wn_6_188 rfl rfl (by decide +kernel) ⟨Nat.le_of_ble_eq_true rfl, Nat.le_of_ble_eq_true rfl⟩ rfl hl.1 rfl (Nat.le_of_ble_eq_true rfl) dn_Circuit_layChildren_19 ⟨Nat.le_of_ble_eq_true rfl, Nat.le_of_ble_eq_true rfl⟩) hP hD hS hA (fun r_5 _ H locs hw hP hD hS => ?_)
  have hw : r_5 = q_3.1 := hw
  subst hw
  refine lv_iadd hx hb dn_Circuit_layChildren_22 ?_
  refine lv_istore (lv' := [(4, .int ((((s.1 344) (Int32.toNatClampNeg v1)) + q_3.1))), (3, .int ((v1 + 1))), (2, .int (((s.1 345) (Int32.toNatClampNeg v1)))), (0, .ref ((a 112))), (1, .int v1)]) hx hb dn_Circuit_layChildren_23 hl (by decide) rfl (fun ls hl => ?_)
  refine lv_aload_n hx hb dn_Circuit_layChildren_25 rfl (lv_at hl 3 rfl) ?_
  refine va_get (D := (dC, dI)) (ci := 9) (v := .ref ((a 113))) (C := rn_Circuit) (T := fn_Circuit) (N := 14) hx hb hg in_Circuit hown hK hP 12 rfl rfl 0 (by decide) (hg _ wn_3_61) (fun _ h9 => h9) rfl dn_Circuit_layChildren_26 ?_
  refine lv_iload_n hx hb dn_Circuit_layChildren_29 rfl (lv_at hl 2 rfl) ?_
  refine lv_iconst (v := 1) hx hb dn_Circuit_layChildren_30 (by decide) ?_
  refine lv_iadd hx hb dn_Circuit_layChildren_31 ?_
  obtain ⟨q_6, hc_7, hf⟩ := dc_b hf
  refine dc_calli (dc_runV (ar := 1) (As := [.int ((((s.1 345) (Int32.toNatClampNeg v1)) + 1))]) (rest := []) (ci := 10) (q0 := 13) ⟨hx, hb, hml, hown, hg⟩ hK hN hT hS hA (ct_Design_firstChild_Dc l dC dI cI cB cJ cZ cQ N H.size a v ((((s.1 345) (Int32.toNatClampNeg v1)) + 1)) q_3.2 q_6 hc_7) hP hD rfl rfl wn_6_190 wn_6_191 wn_6_192 wn_1_10 wn_6_193 rfl rfl (by decide +kernel) ⟨Nat.le_of_ble_eq_true rfl, Nat.le_of_ble_eq_true rfl⟩ rfl hl.1 rfl (Nat.le_of_ble_eq_true rfl) dn_Circuit_layChildren_32 ⟨Nat.le_of_ble_eq_true rfl, Nat.le_of_ble_eq_true rfl⟩) hP hD hS hA (fun r_8 _ H locs hw hP hD hS => ?_)
  have hw : r_8 = q_6.1 := hw
  subst hw
  refine lv_istore (lv' := [(5, .int q_6.1), (4, .int ((((s.1 344) (Int32.toNatClampNeg v1)) + q_3.1))), (3, .int ((v1 + 1))), (2, .int (((s.1 345) (Int32.toNatClampNeg v1)))), (0, .ref ((a 112))), (1, .int v1)]) hx hb dn_Circuit_layChildren_35 hl (by decide) rfl (fun ls hl => ?_)
  refine lv_aload_n hx hb dn_Circuit_layChildren_37 rfl (lv_at hl 4 rfl) ?_
  refine va_get (D := (dC, dI)) (ci := 9) (v := .ref ((a 113))) (C := rn_Circuit) (T := fn_Circuit) (N := 14) hx hb hg in_Circuit hown hK hP 12 rfl rfl 0 (by decide) (hg _ wn_3_61) (fun _ h9 => h9) rfl dn_Circuit_layChildren_38 ?_
  refine lv_iload_n hx hb dn_Circuit_layChildren_41 rfl (lv_at hl 3 rfl) ?_
  obtain ⟨q_9, hc_10, hf⟩ := dc_b hf
  refine dc_calli (dc_runV (ar := 1) (As := [.int (((s.1 345) (Int32.toNatClampNeg v1)))]) (rest := []) (ci := 10) (q0 := 13) ⟨hx, hb, hml, hown, hg⟩ hK hN hT hS hA (ct_Design_firstChild_Dc l dC dI cI cB cJ cZ cQ N H.size a v (((s.1 345) (Int32.toNatClampNeg v1))) q_6.2 q_9 hc_10) hP hD rfl rfl wn_6_190 wn_6_191 wn_6_192 wn_1_10 wn_6_193 rfl rfl (by decide +kernel) ⟨Nat.le_of_ble_eq_true rfl, Nat.le_of_ble_eq_true rfl⟩ rfl hl.1 rfl (Nat.le_of_ble_eq_true rfl) dn_Circuit_layChildren_42 ⟨Nat.le_of_ble_eq_true rfl, Nat.le_of_ble_eq_true rfl⟩) hP hD hS hA (fun r_11 _ H locs hw hP hD hS => ?_)
  have hw : r_11 = q_9.1 := hw
  subst hw
  refine lv_istore (lv' := [(6, .int q_9.1), (5, .int q_6.1), (4, .int ((((s.1 344) (Int32.toNatClampNeg v1)) + q_3.1))), (3, .int ((v1 + 1))), (2, .int (((s.1 345) (Int32.toNatClampNeg v1)))), (0, .ref ((a 112))), (1, .int v1)]) hx hb dn_Circuit_layChildren_45 hl (by decide) rfl (fun ls hl => ?_)
  exact hd_47 N v1 ((v1 + 1)) ((((s.1 344) (Int32.toNatClampNeg v1)) + q_3.1)) q_6.1 q_9.1 q_9.2 hf H locs ls hP hD hS (lv_sub hl [5, 6, 3, 2, 1, 0] rfl)
set_option maxHeartbeats 8000000 in
set_option maxRecDepth 100000 in
theorem ct_Circuit_laySignals_Cc (l : Launch) (dC : Nat → ClassId) (dI : Nat → Nat → Nat) (cI cB cJ cZ cQ : ClassId) (N sz : Nat) (a : Nat → Nat) (v : Nat → Value) (v1 : Int32) (s : ms) (y : (Unit × ms)) (hf : fn_Circuit_laySignals_Cc N v1 s = some y) : Met l yn_Circuit_laySignals (xw yn_Circuit_laySignals bn_Circuit_laySignals 7 none) ({ frames := 3, cells := 0, slots := 0, locals := 63 }) (dc_P (dC, dI) xcl (xt cI cB cJ cZ cQ) [.ref ((a 112)), .int v1] sz (wC a v cI cB cJ cZ cQ s)) (xk_Qv (dC, dI) xcl (xt cI cB cJ cZ cQ) (fun _ : Unit => True) (fun u : Unit => (wC a v cI cB cJ cZ cQ y.2)) (va_A (wC a v cI cB cJ cZ cQ s) sz)) 0 0 (va_A (wC a v cI cB cJ cZ cQ s) sz) := by
  refine dc_of (QA := xk_Qv (dC, dI) xcl (xt cI cB cJ cZ cQ) (fun _ : Unit => True) (fun u : Unit => (wC a v cI cB cJ cZ cQ y.2))) (by decide) (Nat.le_of_ble_eq_true rfl) ?_
  intro p e s0 m below meth c hx hb hml hown hg hr hlocks hin hP hK hN A hA hD hT ls hl
  have hown : s0.vm.findClass rn_Circuit = some m.cls := hown
  obtain ⟨H, hH⟩ : ∃ z, z = s0.heap := ⟨_, rfl⟩
  rw [← hH] at hP
  have hS : va_S A s0.heap H [] := by rw [hH]; exact va_S.rf
  suffices kk : ∀ QQ : State → Prop, QQ = MQ below (xk_Qv (dC, dI) xcl (xt cI cB cJ cZ cQ) (fun _ : Unit => True) (fun u : Unit => (wC a v cI cB cJ cZ cQ y.2)) A) [.ref ((a 112)), .int v1].toArray s0 0 0 A → dcC p l e ({ frames := 3, cells := 0, slots := 0, locals := 63 }) s0 m [.ref ((a 112)), .int v1].toArray below meth c QQ (dC, dI) A (wC a v cI cB cJ cZ cQ s) 0 7 [(0, .ref ((a 112))), (1, .int v1)] [] by
    have k9 := kk _ rfl H [] ls hP hD hS hl
    rw [hH] at k9; exact k9
  clear hP hD hS hl hH H ls
  intro QQ hQQ
  have bl_158 : ∀ (k_36 : Int32 → Int32 → Int32 → Int32 → ms → Option (Unit × ms)) (hk_36 : ∀ (x2 : Int32) (x3 : Int32) (x4 : Int32) (x5 : Int32) (s : ms), k_36 x2 x3 x4 x5 s = some y → dcC p l e ({ frames := 3, cells := 0, slots := 0, locals := 63 }) s0 m [.ref ((a 112)), .int v1].toArray below meth c QQ (dC, dI) A (wC a v cI cB cJ cZ cQ s) 36 7 [(0, .ref ((a 112))), (2, .int x2), (3, .int x3), (4, .int x4), (5, .int x5)] []) (x2 : Int32) (x3 : Int32) (x4 : Int32) (x5 : Int32) (t0 : Int32) (t1 : Int32) (s : ms), bk_Circuit_laySignals_Cc_158 N k_36 x2 x3 x4 x5 t0 t1 s = some y → dcC p l e ({ frames := 3, cells := 0, slots := 0, locals := 63 }) s0 m [.ref ((a 112)), .int v1].toArray below meth c QQ (dC, dI) A (wC a v cI cB cJ cZ cQ s) 158 7 [(0, .ref ((a 112))), (2, .int x2), (3, .int x3), (4, .int x4), (5, .int x5)] [.int t0, .int t1, .ref ((a 350))] := by
    intro k_36 hk_36 x2 x3 x4 x5 t0 t1 s hf H locs ls hP hD hS hl
    unfold bk_Circuit_laySignals_Cc_158 at hf
    obtain ⟨hg_1, hf⟩ := dc_g hf
    refine va_iast hx hb hK hP hD hS 82 0 rfl rfl hg_1 dn_Circuit_laySignals_158 (fun H locs hP hD hS => ?_)
    have hP : va_P (dC, dI) xcl ((wC a v cI cB cJ cZ cQ s).set 82 ((a 350), .inl (cI, 1024, .inl (upd (s.1 350) (Int32.toNatClampNeg t1) t0)))) H := hP
    have hD : va_D A ((wC a v cI cB cJ cZ cQ s).set 82 ((a 350), .inl (cI, 1024, .inl (upd (s.1 350) (Int32.toNatClampNeg t1) t0)))) := hD
    have hP := wC_P_350 hP
    have hD := wC_D_350 hD
    refine lv_aload_n hx hb dn_Circuit_laySignals_159 rfl (lv_at hl 0 rfl) ?_
    refine va_get (D := (dC, dI)) (ci := 9) (v := .ref ((a 351))) (C := rn_Circuit) (T := fn_Circuit) (N := 14) hx hb hg in_Circuit hown hK hP 12 rfl rfl 10 (by decide) (hg _ wn_3_85) (fun _ h9 => h9) rfl dn_Circuit_laySignals_160 ?_
    refine lv_iload_n hx hb dn_Circuit_laySignals_163 rfl (lv_at hl 1 rfl) ?_
    refine lv_iload hx hb dn_Circuit_laySignals_164 (lv_at hl 4 rfl) ?_
    refine lv_iadd hx hb dn_Circuit_laySignals_166 ?_
    refine lv_iload_n hx hb dn_Circuit_laySignals_167 rfl (lv_at hl 1 rfl) ?_
    obtain ⟨hg_2, hf⟩ := dc_g hf
    refine va_iast hx hb hK hP hD hS 83 0 rfl rfl hg_2 dn_Circuit_laySignals_168 (fun H locs hP hD hS => ?_)
    have hP : va_P (dC, dI) xcl ((wC a v cI cB cJ cZ cQ (upI s 350 (upd (s.1 350) (Int32.toNatClampNeg t1) t0))).set 83 ((a 351), .inl (cI, 1024, .inl (upd (s.1 351) (Int32.toNatClampNeg ((x2 + x5))) x2)))) H := hP
    have hD : va_D A ((wC a v cI cB cJ cZ cQ (upI s 350 (upd (s.1 350) (Int32.toNatClampNeg t1) t0))).set 83 ((a 351), .inl (cI, 1024, .inl (upd (s.1 351) (Int32.toNatClampNeg ((x2 + x5))) x2)))) := hD
    have hP := wC_P_351 hP
    have hD := wC_D_351 hD
    refine lv_aload_n hx hb dn_Circuit_laySignals_169 rfl (lv_at hl 0 rfl) ?_
    refine va_get (D := (dC, dI)) (ci := 9) (v := .ref ((a 352))) (C := rn_Circuit) (T := fn_Circuit) (N := 14) hx hb hg in_Circuit hown hK hP 12 rfl rfl 11 (by decide) (hg _ wn_3_88) (fun _ h9 => h9) rfl dn_Circuit_laySignals_170 ?_
    refine lv_iload_n hx hb dn_Circuit_laySignals_173 rfl (lv_at hl 1 rfl) ?_
    refine lv_iload hx hb dn_Circuit_laySignals_174 (lv_at hl 4 rfl) ?_
    refine lv_iadd hx hb dn_Circuit_laySignals_176 ?_
    refine lv_iconst (v := (-1)) hx hb dn_Circuit_laySignals_177 (by decide) ?_
    obtain ⟨hg_3, hf⟩ := dc_g hf
    refine va_iast hx hb hK hP hD hS 84 0 rfl rfl hg_3 dn_Circuit_laySignals_178 (fun H locs hP hD hS => ?_)
    have hP : va_P (dC, dI) xcl ((wC a v cI cB cJ cZ cQ (upI (upI s 350 (upd (s.1 350) (Int32.toNatClampNeg t1) t0)) 351 (upd (s.1 351) (Int32.toNatClampNeg ((x2 + x5))) x2))).set 84 ((a 352), .inl (cI, 1024, .inl (upd (s.1 352) (Int32.toNatClampNeg ((x2 + x5))) ((-1)))))) H := hP
    have hD : va_D A ((wC a v cI cB cJ cZ cQ (upI (upI s 350 (upd (s.1 350) (Int32.toNatClampNeg t1) t0)) 351 (upd (s.1 351) (Int32.toNatClampNeg ((x2 + x5))) x2))).set 84 ((a 352), .inl (cI, 1024, .inl (upd (s.1 352) (Int32.toNatClampNeg ((x2 + x5))) ((-1)))))) := hD
    have hP := wC_P_352 hP
    have hD := wC_D_352 hD
    refine lv_iinc (v := (x5 + 1)) (lv' := [(5, .int ((x5 + 1))), (0, .ref ((a 112))), (2, .int x2), (3, .int x3), (4, .int x4)]) hx hb dn_Circuit_laySignals_179 hl (k := 4) rfl (dc_inc (by decide)) (by decide) rfl (fun ls hl => ?_)
    refine lv_goto (tgt := 36) hx hb dn_Circuit_laySignals_182 (by decide) ?_
    exact hk_36 x2 x3 x4 ((x5 + 1)) (upI (upI (upI s 350 (upd (s.1 350) (Int32.toNatClampNeg t1) t0)) 351 (upd (s.1 351) (Int32.toNatClampNeg ((x2 + x5))) x2)) 352 (upd (s.1 352) (Int32.toNatClampNeg ((x2 + x5))) ((-1)))) hf H locs ls hP hD hS (lv_sub hl [1, 2, 3, 4, 0] rfl)
  have bl_125 : ∀ (k_36 : Int32 → Int32 → Int32 → Int32 → ms → Option (Unit × ms)) (hk_36 : ∀ (x2 : Int32) (x3 : Int32) (x4 : Int32) (x5 : Int32) (s : ms), k_36 x2 x3 x4 x5 s = some y → dcC p l e ({ frames := 3, cells := 0, slots := 0, locals := 63 }) s0 m [.ref ((a 112)), .int v1].toArray below meth c QQ (dC, dI) A (wC a v cI cB cJ cZ cQ s) 36 7 [(0, .ref ((a 112))), (2, .int x2), (3, .int x3), (4, .int x4), (5, .int x5)] []) (x2 : Int32) (x3 : Int32) (x4 : Int32) (x5 : Int32) (x6 : Int32) (t0 : Int32) (t1 : Int32) (s : ms), bk_Circuit_laySignals_Cc_125 N k_36 x2 x3 x4 x5 x6 t0 t1 s = some y → dcC p l e ({ frames := 3, cells := 0, slots := 0, locals := 63 }) s0 m [.ref ((a 112)), .int v1].toArray below meth c QQ (dC, dI) A (wC a v cI cB cJ cZ cQ s) 125 7 [(0, .ref ((a 112))), (2, .int x2), (3, .int x3), (4, .int x4), (5, .int x5), (6, .int x6)] [.int t0, .int t1, .ref ((a 349))] := by
    intro k_36 hk_36 x2 x3 x4 x5 x6 t0 t1 s hf H locs ls hP hD hS hl
    unfold bk_Circuit_laySignals_Cc_125 at hf
    obtain ⟨hg_1, hf⟩ := dc_g hf
    refine va_iast hx hb hK hP hD hS 81 0 rfl rfl hg_1 dn_Circuit_laySignals_125 (fun H locs hP hD hS => ?_)
    have hP : va_P (dC, dI) xcl ((wC a v cI cB cJ cZ cQ s).set 81 ((a 349), .inl (cI, 1024, .inl (upd (s.1 349) (Int32.toNatClampNeg t1) t0)))) H := hP
    have hD : va_D A ((wC a v cI cB cJ cZ cQ s).set 81 ((a 349), .inl (cI, 1024, .inl (upd (s.1 349) (Int32.toNatClampNeg t1) t0)))) := hD
    have hP := wC_P_349 hP
    have hD := wC_D_349 hD
    refine lv_aload_n hx hb dn_Circuit_laySignals_126 rfl (lv_at hl 0 rfl) ?_
    refine va_get (D := (dC, dI)) (ci := 9) (v := .ref ((a 350))) (C := rn_Circuit) (T := fn_Circuit) (N := 14) hx hb hg in_Circuit hown hK hP 12 rfl rfl 9 (by decide) (hg _ wn_3_82) (fun _ h9 => h9) rfl dn_Circuit_laySignals_127 ?_
    refine lv_iload_n hx hb dn_Circuit_laySignals_130 rfl (lv_at hl 1 rfl) ?_
    refine lv_iload hx hb dn_Circuit_laySignals_131 (lv_at hl 4 rfl) ?_
    refine lv_iadd hx hb dn_Circuit_laySignals_133 ?_
    refine lv_iload hx hb dn_Circuit_laySignals_134 (lv_at hl 5 rfl) ?_
    refine lv_if_eq (tgt := 157) hx hb dn_Circuit_laySignals_136 (by decide) (fun h => ?_) (fun h => ?_)
    · have hf := (if_pos h).symm.trans hf
      refine lv_iconst (v := 0) hx hb dn_Circuit_laySignals_157 (by decide) ?_
      exact bl_158 k_36 hk_36 x2 x3 x4 x5 0 ((x2 + x5)) (upI s 349 (upd (s.1 349) (Int32.toNatClampNeg t1) t0)) hf H locs ls hP hD hS (lv_sub hl [0, 1, 2, 3, 4] rfl)
    · have hf := (if_neg h).symm.trans hf
      refine lv_aload_n hx hb dn_Circuit_laySignals_139 rfl (lv_at hl 0 rfl) ?_
      refine va_get (D := (dC, dI)) (ci := 9) (v := .ref ((a 113))) (C := rn_Circuit) (T := fn_Circuit) (N := 14) hx hb hg in_Circuit hown hK hP 12 rfl rfl 0 (by decide) (hg _ wn_3_61) (fun _ h9 => h9) rfl dn_Circuit_laySignals_140 ?_
      refine va_get (D := (dC, dI)) (ci := 10) (v := .ref ((a 114))) (C := rn_Design) (T := fn_Design) (N := 16) hx hb hg in_Design hown hK hP 13 rfl rfl 0 (by decide) (hg _ wn_2_237) (fun _ h9 => h9) rfl dn_Circuit_laySignals_143 ?_
      refine va_get (D := (dC, dI)) (ci := 11) (v := .ref ((a 377))) (C := rn_Parts) (T := fn_Parts) (N := 15) hx hb hg in_Parts hown hK hP 14 rfl rfl 6 (by decide) (hg _ wn_2_147) (fun _ h9 => h9) rfl dn_Circuit_laySignals_146 ?_
      refine lv_iload_n hx hb dn_Circuit_laySignals_149 rfl (lv_at hl 2 rfl) ?_
      refine lv_iload hx hb dn_Circuit_laySignals_150 (lv_at hl 4 rfl) ?_
      refine lv_iadd hx hb dn_Circuit_laySignals_152 ?_
      obtain ⟨hg_2, hf⟩ := dc_g hf
      refine va_iald hx hb hK hP 100 0 rfl rfl hg_2 dn_Circuit_laySignals_153 ?_
      refine xk_ti (y := ((s.1 377) (Int32.toNatClampNeg ((x3 + x5))))) rfl ?_
      refine lv_goto (tgt := 158) hx hb dn_Circuit_laySignals_154 (by decide) ?_
      exact bl_158 k_36 hk_36 x2 x3 x4 x5 (((s.1 377) (Int32.toNatClampNeg ((x3 + x5))))) ((x2 + x5)) (upI s 349 (upd (s.1 349) (Int32.toNatClampNeg t1) t0)) hf H locs ls hP hD hS (lv_sub hl [0, 1, 2, 3, 4] rfl)
  have bl_78 : ∀ (k_36 : Int32 → Int32 → Int32 → Int32 → ms → Option (Unit × ms)) (hk_36 : ∀ (x2 : Int32) (x3 : Int32) (x4 : Int32) (x5 : Int32) (s : ms), k_36 x2 x3 x4 x5 s = some y → dcC p l e ({ frames := 3, cells := 0, slots := 0, locals := 63 }) s0 m [.ref ((a 112)), .int v1].toArray below meth c QQ (dC, dI) A (wC a v cI cB cJ cZ cQ s) 36 7 [(0, .ref ((a 112))), (2, .int x2), (3, .int x3), (4, .int x4), (5, .int x5)] []) (x2 : Int32) (x3 : Int32) (x4 : Int32) (x5 : Int32) (t0 : Int32) (s : ms), bk_Circuit_laySignals_Cc_78 N k_36 x2 x3 x4 x5 t0 s = some y → dcC p l e ({ frames := 3, cells := 0, slots := 0, locals := 63 }) s0 m [.ref ((a 112)), .int v1].toArray below meth c QQ (dC, dI) A (wC a v cI cB cJ cZ cQ s) 78 7 [(0, .ref ((a 112))), (2, .int x2), (3, .int x3), (4, .int x4), (5, .int x5)] [.int t0] := by
    intro k_36 hk_36 x2 x3 x4 x5 t0 s hf H locs ls hP hD hS hl
    unfold bk_Circuit_laySignals_Cc_78 at hf
    refine lv_istore (lv' := [(6, .int t0), (0, .ref ((a 112))), (2, .int x2), (3, .int x3), (4, .int x4), (5, .int x5)]) hx hb dn_Circuit_laySignals_78 hl (by decide) rfl (fun ls hl => ?_)
    refine lv_aload_n hx hb dn_Circuit_laySignals_80 rfl (lv_at hl 1 rfl) ?_
    refine va_get (D := (dC, dI)) (ci := 9) (v := .ref ((a 348))) (C := rn_Circuit) (T := fn_Circuit) (N := 14) hx hb hg in_Circuit hown hK hP 12 rfl rfl 7 (by decide) (hg _ wn_3_78) (fun _ h9 => h9) rfl dn_Circuit_laySignals_81 ?_
    refine lv_iload_n hx hb dn_Circuit_laySignals_84 rfl (lv_at hl 2 rfl) ?_
    refine lv_iload hx hb dn_Circuit_laySignals_85 (lv_at hl 5 rfl) ?_
    refine lv_iadd hx hb dn_Circuit_laySignals_87 ?_
    refine lv_iload_n hx hb dn_Circuit_laySignals_88 rfl (lv_at hl 3 rfl) ?_
    refine lv_iload hx hb dn_Circuit_laySignals_89 (lv_at hl 5 rfl) ?_
    refine lv_iadd hx hb dn_Circuit_laySignals_91 ?_
    obtain ⟨hg_1, hf⟩ := dc_g hf
    refine va_iast hx hb hK hP hD hS 80 0 rfl rfl hg_1 dn_Circuit_laySignals_92 (fun H locs hP hD hS => ?_)
    have hP : va_P (dC, dI) xcl ((wC a v cI cB cJ cZ cQ s).set 80 ((a 348), .inl (cI, 1024, .inl (upd (s.1 348) (Int32.toNatClampNeg ((x2 + x5))) ((x3 + x5)))))) H := hP
    have hD : va_D A ((wC a v cI cB cJ cZ cQ s).set 80 ((a 348), .inl (cI, 1024, .inl (upd (s.1 348) (Int32.toNatClampNeg ((x2 + x5))) ((x3 + x5)))))) := hD
    have hP := wC_P_348 hP
    have hD := wC_D_348 hD
    refine lv_aload_n hx hb dn_Circuit_laySignals_93 rfl (lv_at hl 1 rfl) ?_
    refine va_get (D := (dC, dI)) (ci := 9) (v := .ref ((a 349))) (C := rn_Circuit) (T := fn_Circuit) (N := 14) hx hb hg in_Circuit hown hK hP 12 rfl rfl 8 (by decide) (hg _ wn_3_79) (fun _ h9 => h9) rfl dn_Circuit_laySignals_94 ?_
    refine lv_iload_n hx hb dn_Circuit_laySignals_97 rfl (lv_at hl 2 rfl) ?_
    refine lv_iload hx hb dn_Circuit_laySignals_98 (lv_at hl 5 rfl) ?_
    refine lv_iadd hx hb dn_Circuit_laySignals_100 ?_
    refine lv_iload hx hb dn_Circuit_laySignals_101 (lv_at hl 0 rfl) ?_
    refine lv_if_eq (tgt := 124) hx hb dn_Circuit_laySignals_103 (by decide) (fun h => ?_) (fun h => ?_)
    · have hf := (if_pos h).symm.trans hf
      refine lv_iconst (v := 0) hx hb dn_Circuit_laySignals_124 (by decide) ?_
      exact bl_125 k_36 hk_36 x2 x3 x4 x5 t0 0 ((x2 + x5)) (upI s 348 (upd (s.1 348) (Int32.toNatClampNeg ((x2 + x5))) ((x3 + x5)))) hf H locs ls hP hD hS (lv_sub hl [1, 2, 3, 4, 5, 0] rfl)
    · have hf := (if_neg h).symm.trans hf
      refine lv_aload_n hx hb dn_Circuit_laySignals_106 rfl (lv_at hl 1 rfl) ?_
      refine va_get (D := (dC, dI)) (ci := 9) (v := .ref ((a 113))) (C := rn_Circuit) (T := fn_Circuit) (N := 14) hx hb hg in_Circuit hown hK hP 12 rfl rfl 0 (by decide) (hg _ wn_3_61) (fun _ h9 => h9) rfl dn_Circuit_laySignals_107 ?_
      refine va_get (D := (dC, dI)) (ci := 10) (v := .ref ((a 114))) (C := rn_Design) (T := fn_Design) (N := 16) hx hb hg in_Design hown hK hP 13 rfl rfl 0 (by decide) (hg _ wn_2_237) (fun _ h9 => h9) rfl dn_Circuit_laySignals_110 ?_
      refine va_get (D := (dC, dI)) (ci := 11) (v := .ref ((a 376))) (C := rn_Parts) (T := fn_Parts) (N := 15) hx hb hg in_Parts hown hK hP 14 rfl rfl 5 (by decide) (hg _ wn_2_144) (fun _ h9 => h9) rfl dn_Circuit_laySignals_113 ?_
      refine lv_iload_n hx hb dn_Circuit_laySignals_116 rfl (lv_at hl 3 rfl) ?_
      refine lv_iload hx hb dn_Circuit_laySignals_117 (lv_at hl 5 rfl) ?_
      refine lv_iadd hx hb dn_Circuit_laySignals_119 ?_
      obtain ⟨hg_2, hf⟩ := dc_g hf
      refine va_iald hx hb hK hP 99 0 rfl rfl hg_2 dn_Circuit_laySignals_120 ?_
      refine xk_ti (y := ((s.1 376) (Int32.toNatClampNeg ((x3 + x5))))) rfl ?_
      refine lv_goto (tgt := 125) hx hb dn_Circuit_laySignals_121 (by decide) ?_
      exact bl_125 k_36 hk_36 x2 x3 x4 x5 t0 (((s.1 376) (Int32.toNatClampNeg ((x3 + x5))))) ((x2 + x5)) (upI s 348 (upd (s.1 348) (Int32.toNatClampNeg ((x2 + x5))) ((x3 + x5)))) hf H locs ls hP hD hS (lv_sub hl [1, 2, 3, 4, 5, 0] rfl)
  have hd_36 : ∀ (n : Nat) (x2 : Int32) (x3 : Int32) (x4 : Int32) (x5 : Int32) (s : ms), hd_Circuit_laySignals_Cc_36 N n x2 x3 x4 x5 s = some y → dcC p l e ({ frames := 3, cells := 0, slots := 0, locals := 63 }) s0 m [.ref ((a 112)), .int v1].toArray below meth c QQ (dC, dI) A (wC a v cI cB cJ cZ cQ s) 36 7 [(0, .ref ((a 112))), (2, .int x2), (3, .int x3), (4, .int x4), (5, .int x5)] [] := by
    intro n
    induction n with
    | zero => intro x2 x3 x4 x5 s hf; cases hf
    | succ n ih =>
      intro x2 x3 x4 x5 s hf H locs ls hP hD hS hl
      have hf : bd_Circuit_laySignals_Cc_36 N (hd_Circuit_laySignals_Cc_36 N n) x2 x3 x4 x5 s = some y := hf
      have hk_36 := ih
      generalize hd_Circuit_laySignals_Cc_36 N n = k_36 at hf hk_36
      unfold bd_Circuit_laySignals_Cc_36 at hf
      refine lv_iload hx hb dn_Circuit_laySignals_36 (lv_at hl 4 rfl) ?_
      refine lv_iload hx hb dn_Circuit_laySignals_38 (lv_at hl 3 rfl) ?_
      refine lv_icmp_ge (tgt := 185) hx hb dn_Circuit_laySignals_40 (by decide) (fun h => ?_) (fun h => ?_)
      · have hf := (if_pos h).symm.trans hf
        rw [hQQ, ← Option.some.inj hf]
        exact xk_vret (w1 := fun u : Unit => (wC a v cI cB cJ cZ cQ s)) () hx hb hr hlocks hK hS dn_Circuit_laySignals_185 hP hD trivial (Nat.le_refl _) (Nat.le_refl _)
      · have hf := (if_neg h).symm.trans hf
        refine lv_iload_n hx hb dn_Circuit_laySignals_43 rfl (lv_at hl 1 rfl) ?_
        refine lv_iload hx hb dn_Circuit_laySignals_44 (lv_at hl 4 rfl) ?_
        refine lv_iadd hx hb dn_Circuit_laySignals_46 ?_
        refine lv_aload_n hx hb dn_Circuit_laySignals_47 rfl (lv_at hl 0 rfl) ?_
        refine va_get (D := (dC, dI)) (ci := 9) (v := .int ((s.1 343 0))) (C := rn_Circuit) (T := fn_Circuit) (N := 14) hx hb hg in_Circuit hown hK hP 12 rfl rfl 2 (by decide) (hg _ wn_3_70) (fun _ h9 => h9) rfl dn_Circuit_laySignals_48 ?_
        refine lv_icmp_ge (tgt := 185) hx hb dn_Circuit_laySignals_51 (by decide) (fun h => ?_) (fun h => ?_)
        · have hf := (if_pos h).symm.trans hf
          rw [hQQ, ← Option.some.inj hf]
          exact xk_vret (w1 := fun u : Unit => (wC a v cI cB cJ cZ cQ s)) () hx hb hr hlocks hK hS dn_Circuit_laySignals_185 hP hD trivial (Nat.le_refl _) (Nat.le_refl _)
        · have hf := (if_neg h).symm.trans hf
          refine lv_aload_n hx hb dn_Circuit_laySignals_54 rfl (lv_at hl 0 rfl) ?_
          refine va_get (D := (dC, dI)) (ci := 9) (v := .ref ((a 113))) (C := rn_Circuit) (T := fn_Circuit) (N := 14) hx hb hg in_Circuit hown hK hP 12 rfl rfl 0 (by decide) (hg _ wn_3_61) (fun _ h9 => h9) rfl dn_Circuit_laySignals_55 ?_
          refine va_get (D := (dC, dI)) (ci := 10) (v := .ref ((a 114))) (C := rn_Design) (T := fn_Design) (N := 16) hx hb hg in_Design hown hK hP 13 rfl rfl 0 (by decide) (hg _ wn_2_237) (fun _ h9 => h9) rfl dn_Circuit_laySignals_58 ?_
          refine va_get (D := (dC, dI)) (ci := 11) (v := .ref ((a 374))) (C := rn_Parts) (T := fn_Parts) (N := 15) hx hb hg in_Parts hown hK hP 14 rfl rfl 3 (by decide) (hg _ wn_2_136) (fun _ h9 => h9) rfl dn_Circuit_laySignals_61 ?_
          refine lv_iload_n hx hb dn_Circuit_laySignals_64 rfl (lv_at hl 2 rfl) ?_
          refine lv_iload hx hb dn_Circuit_laySignals_65 (lv_at hl 4 rfl) ?_
          refine lv_iadd hx hb dn_Circuit_laySignals_67 ?_
          obtain ⟨hg_1, hf⟩ := dc_g hf
          refine va_iald hx hb hK hP 97 0 rfl rfl hg_1 dn_Circuit_laySignals_68 ?_
          refine xk_ti (y := ((s.1 374) (Int32.toNatClampNeg ((x3 + x5))))) rfl ?_
          refine lv_iconst (v := 1) hx hb dn_Circuit_laySignals_69 (by decide) ?_
          refine lv_icmp_ne (tgt := 77) hx hb dn_Circuit_laySignals_70 (by decide) (fun h => ?_) (fun h => ?_)
          · have hf := (if_neg h).symm.trans hf
            refine lv_iconst (v := 0) hx hb dn_Circuit_laySignals_77 (by decide) ?_
            exact bl_78 k_36 hk_36 x2 x3 x4 x5 0 s hf H locs ls hP hD hS hl
          · have hf := (if_pos h).symm.trans hf
            refine lv_iconst (v := 1) hx hb dn_Circuit_laySignals_73 (by decide) ?_
            refine lv_goto (tgt := 78) hx hb dn_Circuit_laySignals_74 (by decide) ?_
            exact bl_78 k_36 hk_36 x2 x3 x4 x5 1 s hf H locs ls hP hD hS hl
  intro H locs ls hP hD hS hl
  unfold fn_Circuit_laySignals_Cc at hf
  refine lv_aload_n hx hb dn_Circuit_laySignals_0 rfl (lv_at hl 0 rfl) ?_
  refine va_get (D := (dC, dI)) (ci := 9) (v := .ref ((a 344))) (C := rn_Circuit) (T := fn_Circuit) (N := 14) hx hb hg in_Circuit hown hK hP 12 rfl rfl 3 (by decide) (hg _ wn_3_72) (fun _ h9 => h9) rfl dn_Circuit_laySignals_1 ?_
  refine lv_iload_n hx hb dn_Circuit_laySignals_4 rfl (lv_at hl 1 rfl) ?_
  obtain ⟨hg_1, hf⟩ := dc_g hf
  refine va_iald hx hb hK hP 76 0 rfl rfl hg_1 dn_Circuit_laySignals_5 ?_
  refine xk_ti (y := ((s.1 344) (Int32.toNatClampNeg v1))) rfl ?_
  refine lv_istore_n (lv' := [(2, .int (((s.1 344) (Int32.toNatClampNeg v1)))), (0, .ref ((a 112))), (1, .int v1)]) hx hb dn_Circuit_laySignals_6 rfl hl (by decide) rfl (fun ls hl => ?_)
  refine lv_aload_n hx hb dn_Circuit_laySignals_7 rfl (lv_at hl 1 rfl) ?_
  refine va_get (D := (dC, dI)) (ci := 9) (v := .ref ((a 113))) (C := rn_Circuit) (T := fn_Circuit) (N := 14) hx hb hg in_Circuit hown hK hP 12 rfl rfl 0 (by decide) (hg _ wn_3_61) (fun _ h9 => h9) rfl dn_Circuit_laySignals_8 ?_
  refine lv_aload_n hx hb dn_Circuit_laySignals_11 rfl (lv_at hl 1 rfl) ?_
  refine va_get (D := (dC, dI)) (ci := 9) (v := .ref ((a 345))) (C := rn_Circuit) (T := fn_Circuit) (N := 14) hx hb hg in_Circuit hown hK hP 12 rfl rfl 4 (by decide) (hg _ wn_3_74) (fun _ h9 => h9) rfl dn_Circuit_laySignals_12 ?_
  refine lv_iload_n hx hb dn_Circuit_laySignals_15 rfl (lv_at hl 2 rfl) ?_
  obtain ⟨hg_2, hf⟩ := dc_g hf
  refine va_iald hx hb hK hP 77 0 rfl rfl hg_2 dn_Circuit_laySignals_16 ?_
  refine xk_ti (y := ((s.1 345) (Int32.toNatClampNeg v1))) rfl ?_
  obtain ⟨q_3, hc_4, hf⟩ := dc_b hf
  refine dc_calli (dc_runV (ar := 1) (As := [.int (((s.1 345) (Int32.toNatClampNeg v1)))]) (rest := []) (ci := 10) (q0 := 13) ⟨hx, hb, hml, hown, hg⟩ hK hN hT hS hA (ct_Design_firstDecl_Dc l dC dI cI cB cJ cZ cQ N H.size a v (((s.1 345) (Int32.toNatClampNeg v1))) s q_3 hc_4) hP hD rfl rfl wn_6_189 wn_5_100 wn_5_101 wn_1_10 wn_5_102 rfl rfl (by decide +kernel) ⟨Nat.le_of_ble_eq_true rfl, Nat.le_of_ble_eq_true rfl⟩ rfl hl.1 rfl (Nat.le_of_ble_eq_true rfl) dn_Circuit_laySignals_17 ⟨Nat.le_of_ble_eq_true rfl, Nat.le_of_ble_eq_true rfl⟩) hP hD hS hA (fun r_5 _ H locs hw hP hD hS => ?_)
  have hw : r_5 = q_3.1 := hw
  subst hw
  refine lv_istore_n (lv' := [(3, .int q_3.1), (2, .int (((s.1 344) (Int32.toNatClampNeg v1)))), (0, .ref ((a 112))), (1, .int v1)]) hx hb dn_Circuit_laySignals_20 rfl hl (by decide) rfl (fun ls hl => ?_)
  refine lv_aload_n hx hb dn_Circuit_laySignals_21 rfl (lv_at hl 2 rfl) ?_
  refine lv_aload_n hx hb dn_Circuit_laySignals_22 rfl (lv_at hl 2 rfl) ?_
  refine va_get (D := (dC, dI)) (ci := 9) (v := .ref ((a 345))) (C := rn_Circuit) (T := fn_Circuit) (N := 14) hx hb hg in_Circuit hown hK hP 12 rfl rfl 4 (by decide) (hg _ wn_3_74) (fun _ h9 => h9) rfl dn_Circuit_laySignals_23 ?_
  refine lv_iload_n hx hb dn_Circuit_laySignals_26 rfl (lv_at hl 3 rfl) ?_
  obtain ⟨hg_6, hf⟩ := dc_g hf
  refine va_iald hx hb hK hP 77 0 rfl rfl hg_6 dn_Circuit_laySignals_27 ?_
  refine xk_ti (y := ((q_3.2.1 345) (Int32.toNatClampNeg v1))) rfl ?_
  obtain ⟨q_7, hc_8, hf⟩ := dc_b hf
  refine dc_calli (dc_runV (ar := 1) (As := [.int (((q_3.2.1 345) (Int32.toNatClampNeg v1)))]) (rest := []) (ci := 9) (q0 := 12) ⟨hx, hb, hml, hown, hg⟩ hK hN hT hS hA (ct_Circuit_ownSignals_Cc l dC dI cI cB cJ cZ cQ N H.size a v (((q_3.2.1 345) (Int32.toNatClampNeg v1))) q_3.2 q_7 hc_8) hP hD rfl rfl wn_6_185 wn_6_187 sn_Circuit_ownSignals wn_1_9 wn_6_188 rfl rfl (by decide +kernel) ⟨Nat.le_of_ble_eq_true rfl, Nat.le_of_ble_eq_true rfl⟩ rfl hl.1 rfl (Nat.le_of_ble_eq_true rfl) dn_Circuit_laySignals_28 ⟨Nat.le_of_ble_eq_true rfl, Nat.le_of_ble_eq_true rfl⟩) hP hD hS hA (fun r_9 _ H locs hw hP hD hS => ?_)
  have hw : r_9 = q_7.1 := hw
  subst hw
  refine lv_istore (lv' := [(4, .int q_7.1), (3, .int q_3.1), (2, .int (((s.1 344) (Int32.toNatClampNeg v1)))), (0, .ref ((a 112))), (1, .int v1)]) hx hb dn_Circuit_laySignals_31 hl (by decide) rfl (fun ls hl => ?_)
  refine lv_iconst (v := 0) hx hb dn_Circuit_laySignals_33 (by decide) ?_
  refine lv_istore (lv' := [(5, .int 0), (4, .int q_7.1), (3, .int q_3.1), (2, .int (((s.1 344) (Int32.toNatClampNeg v1)))), (0, .ref ((a 112))), (1, .int v1)]) hx hb dn_Circuit_laySignals_34 hl (by decide) rfl (fun ls hl => ?_)
  exact hd_36 N (((s.1 344) (Int32.toNatClampNeg v1))) q_3.1 q_7.1 0 q_7.2 hf H locs ls hP hD hS (lv_sub hl [4, 3, 2, 1, 0] rfl)
