theorem mn_M_isRegister (N : Nat) (v1 : Int32) (s : ms) (y : (Int32 × ms)) (hf : fn_M_isRegister N v1 s = some y) : gl y.2 = gl s := by
  unfold fn_M_isRegister at hf
  have hm : gl s = gl s := rfl
  obtain ⟨_, hf⟩ := dc_g hf
  by_cases h : ((s.1 21) (Int32.toNatClampNeg v1)) = 2
  · have hf := (if_pos h).symm.trans hf
    exact (dc_e hf).trans hm
  · have hf := (if_neg h).symm.trans hf
    obtain ⟨_, hf⟩ := dc_g hf
    by_cases h : ((s.1 21) (Int32.toNatClampNeg v1)) = 4
    · have hf := (if_pos h).symm.trans hf
      exact (dc_e hf).trans hm
    · have hf := (if_neg h).symm.trans hf
      exact (dc_e hf).trans hm
set_option maxHeartbeats 8000000 in
set_option maxRecDepth 100000 in
theorem ct_M_isRegister (l : Launch) (dC : Nat → ClassId) (dI : Nat → Nat → Nat) (cI cB cJ cZ cQ : ClassId) (N sz : Nat) (h0 : Nat) (a : Nat → Nat) (v1 : Int32) (s : ms) (y : (Int32 × ms)) (hf : fn_M_isRegister N v1 s = some y) : Met l yn_M_isRegister (xw yn_M_isRegister bn_M_isRegister 2 (some .boolean)) ({ frames := 0, cells := 0, slots := 0, locals := 0 }) (dc_P (dC, dI) xcl (xt cI cB cJ cZ cQ) [.ref h0, .int v1] sz (wM h0 a cI cB cJ cZ s)) (xk_Qi (dC, dI) xcl (xt cI cB cJ cZ cQ) (fun (r : Int32) (_ : Unit) => r = y.1) (fun u : Unit => (wM h0 a cI cB cJ cZ y.2)) (va_A (wM h0 a cI cB cJ cZ s) sz)) 0 0 (va_A (wM h0 a cI cB cJ cZ s) sz) := by
  refine dc_of (QA := xk_Qi (dC, dI) xcl (xt cI cB cJ cZ cQ) (fun (r : Int32) (_ : Unit) => r = y.1) (fun u : Unit => (wM h0 a cI cB cJ cZ y.2))) (by decide) (Nat.le_of_ble_eq_true rfl) ?_
  intro p e s0 m below meth c hx hb hml hown hg hr hlocks hin hP hK hN A hA hD hT ls hl
  have hown : s0.vm.findClass rn_M = some m.cls := hown
  obtain ⟨H, hH⟩ : ∃ z, z = s0.heap := ⟨_, rfl⟩
  rw [← hH] at hP
  have hS : va_S A s0.heap H [] := by rw [hH]; exact va_S.rf
  suffices kk : ∀ QQ : State → Prop, QQ = MQ below (xk_Qi (dC, dI) xcl (xt cI cB cJ cZ cQ) (fun (r : Int32) (_ : Unit) => r = y.1) (fun u : Unit => (wM h0 a cI cB cJ cZ y.2)) A) [.ref h0, .int v1].toArray s0 0 0 A → dcC p l e ({ frames := 0, cells := 0, slots := 0, locals := 0 }) s0 m [.ref h0, .int v1].toArray below meth c QQ (dC, dI) A (wM h0 a cI cB cJ cZ s) 0 2 [(0, .ref h0), (1, .int v1)] [] by
    have k9 := kk _ rfl H [] ls hP hD hS hl
    rw [hH] at k9; exact k9
  clear hP hD hS hl hH H ls
  intro QQ hQQ
  intro H locs ls hP hD hS hl
  unfold fn_M_isRegister at hf
  refine lv_aload_n hx hb dn_M_isRegister_0 rfl (lv_at hl 0 rfl) ?_
  refine va_get (D := (dC, dI)) (ci := 0) (v := .ref ((a 21))) (C := rn_M) (T := fn_M) (N := 91) hx hb hg in_M hown hK hP 0 rfl rfl 21 (by decide) (hg _ wn_8_94) (fun _ h9 => h9) rfl dn_M_isRegister_1 ?_
  refine lv_iload_n hx hb dn_M_isRegister_4 rfl (lv_at hl 1 rfl) ?_
  obtain ⟨hg_1, hf⟩ := dc_g hf
  refine va_iald hx hb hK hP 12 0 rfl rfl hg_1 dn_M_isRegister_5 ?_
  refine xk_ti (y := ((s.1 21) (Int32.toNatClampNeg v1))) rfl ?_
  refine lv_iconst (v := 2) hx hb dn_M_isRegister_6 (by decide) ?_
  refine lv_icmp_eq (tgt := 20) hx hb dn_M_isRegister_7 (by decide) (fun h => ?_) (fun h => ?_)
  · have hf := (if_pos h).symm.trans hf
    refine lv_iconst (v := 1) hx hb dn_M_isRegister_20 (by decide) ?_
    refine lv_goto (tgt := 25) hx hb dn_M_isRegister_21 (by decide) ?_
    rw [hQQ, ← Option.some.inj hf]
    exact xk_zret (w1 := fun u : Unit => (wM h0 a cI cB cJ cZ s)) () hx hb hr rfl hlocks hK hS dn_M_isRegister_25 hP hD rfl (Nat.le_refl _) (Nat.le_refl _)
  · have hf := (if_neg h).symm.trans hf
    refine lv_aload_n hx hb dn_M_isRegister_10 rfl (lv_at hl 0 rfl) ?_
    refine va_get (D := (dC, dI)) (ci := 0) (v := .ref ((a 21))) (C := rn_M) (T := fn_M) (N := 91) hx hb hg in_M hown hK hP 0 rfl rfl 21 (by decide) (hg _ wn_8_94) (fun _ h9 => h9) rfl dn_M_isRegister_11 ?_
    refine lv_iload_n hx hb dn_M_isRegister_14 rfl (lv_at hl 1 rfl) ?_
    obtain ⟨hg_2, hf⟩ := dc_g hf
    refine va_iald hx hb hK hP 12 0 rfl rfl hg_2 dn_M_isRegister_15 ?_
    refine xk_ti (y := ((s.1 21) (Int32.toNatClampNeg v1))) rfl ?_
    refine lv_iconst (v := 4) hx hb dn_M_isRegister_16 (by decide) ?_
    refine lv_icmp_ne (tgt := 24) hx hb dn_M_isRegister_17 (by decide) (fun h => ?_) (fun h => ?_)
    · have hf := (if_neg h).symm.trans hf
      refine lv_iconst (v := 0) hx hb dn_M_isRegister_24 (by decide) ?_
      rw [hQQ, ← Option.some.inj hf]
      exact xk_zret (w1 := fun u : Unit => (wM h0 a cI cB cJ cZ s)) () hx hb hr rfl hlocks hK hS dn_M_isRegister_25 hP hD rfl (Nat.le_refl _) (Nat.le_refl _)
    · have hf := (if_pos h).symm.trans hf
      refine lv_iconst (v := 1) hx hb dn_M_isRegister_20 (by decide) ?_
      refine lv_goto (tgt := 25) hx hb dn_M_isRegister_21 (by decide) ?_
      rw [hQQ, ← Option.some.inj hf]
      exact xk_zret (w1 := fun u : Unit => (wM h0 a cI cB cJ cZ s)) () hx hb hr rfl hlocks hK hS dn_M_isRegister_25 hP hD rfl (Nat.le_refl _) (Nat.le_refl _)
theorem mo_M_setting_21 (N : Nat) (y : (Unit × ms)) (s : ms) (hf : bk_M_setting_21 N s = some y) : gl s ≤ gl y.2 := by
  unfold bk_M_setting_21 at hf
  have hm : gl s ≤ gl s := Nat.le_refl _
  obtain ⟨_, hf⟩ := dc_g hf
  obtain ⟨q_2, hc_3, hf⟩ := dc_b hf
  have hm := Nat.le_trans hm (Nat.le_of_eq (mn_M_fail N 22 (((s.1 5) (Int32.toNatClampNeg ((s.1 8 0))))) s q_2 hc_3).symm)
  exact Nat.le_trans hm (Nat.le_of_eq (dc_e hf).symm)
theorem mo_M_setting_203 (N : Nat) (y : (Unit × ms)) (s : ms) (hf : bk_M_setting_203 N s = some y) : gl s ≤ gl y.2 := by
  unfold bk_M_setting_203 at hf
  have hm : gl s ≤ gl s := Nat.le_refl _
  exact Nat.le_trans hm (Nat.le_of_eq (dc_e hf).symm)
theorem mo_M_setting_188 (N : Nat) (y : (Unit × ms)) (x1 : Int32) (x2 : Int32) (x5 : Int32) (s : ms) (hf : bk_M_setting_188 N x1 x2 x5 s = some y) : gl s ≤ gl y.2 := by
  unfold bk_M_setting_188 at hf
  have hm : gl s ≤ gl s := Nat.le_refl _
  obtain ⟨q_1, hc_2, hf⟩ := dc_b hf
  have hm := Nat.le_trans hm (Nat.le_of_eq (mn_M_cost N ((Int32.toInt64 x5)) s q_1 hc_2).symm)
  obtain ⟨q_3, hc_4, hf⟩ := dc_b hf
  have hm := Nat.le_trans hm (mn_M_lay N 9 x1 x2 q_1.2 q_3 hc_4)
  exact Nat.le_trans hm (mo_M_setting_203 N y q_3.2 hf)
theorem mo_M_setting_150 (N : Nat) (y : (Unit × ms)) (x1 : Int32) (x2 : Int32) (x3 : Int32) (t0 : Int32) (s : ms) (hf : bk_M_setting_150 N x1 x2 x3 t0 s = some y) : gl s ≤ gl y.2 := by
  unfold bk_M_setting_150 at hf
  have hm : gl s ≤ gl s := Nat.le_refl _
  by_cases h : (s.1 9 0) = 0
  · have hf := (if_pos h).symm.trans hf
    by_cases h : t0 = (((x2 / 256) - (x2 - x2 / 256 * 256)) + 1)
    · have hf := (if_pos h).symm.trans hf
      exact Nat.le_trans hm (mo_M_setting_188 N y x1 x2 ((((x2 / 256) - (x2 - x2 / 256 * 256)) + 1)) s hf)
    · have hf := (if_neg h).symm.trans hf
      obtain ⟨q_1, hc_2, hf⟩ := dc_b hf
      have hm := Nat.le_trans hm (Nat.le_of_eq (mn_M_fail N 30 x3 s q_1 hc_2).symm)
      exact Nat.le_trans hm (mo_M_setting_188 N y x1 x2 ((((x2 / 256) - (x2 - x2 / 256 * 256)) + 1)) q_1.2 hf)
  · have hf := (if_neg h).symm.trans hf
    exact Nat.le_trans hm (mo_M_setting_188 N y x1 x2 ((((x2 / 256) - (x2 - x2 / 256 * 256)) + 1)) s hf)
theorem mo_M_setting_126 (N : Nat) (y : (Unit × ms)) (x1 : Int32) (x2 : Int32) (s : ms) (hf : bk_M_setting_126 N x1 x2 s = some y) : gl s ≤ gl y.2 := by
  unfold bk_M_setting_126 at hf
  have hm : gl s ≤ gl s := Nat.le_refl _
  obtain ⟨_, hf⟩ := dc_g hf
  obtain ⟨q_2, hc_3, hf⟩ := dc_b hf
  have hm := Nat.le_trans hm (mn_M_exp N (upI s 8 (fun _ => ((s.1 8 0) + 1))) q_2 hc_3)
  exact Nat.le_trans hm (mo_M_setting_150 N y x1 x2 (((s.1 5) (Int32.toNatClampNeg ((s.1 8 0))))) q_2.1 q_2.2 hf)
theorem mo_M_setting_76 (N : Nat) (y : (Unit × ms)) (x1 : Int32) (s : ms) (hf : bk_M_setting_76 N x1 s = some y) : gl s ≤ gl y.2 := by
  unfold bk_M_setting_76 at hf
  have hm : gl s ≤ gl s := Nat.le_refl _
  obtain ⟨_, hf⟩ := dc_g hf
  obtain ⟨_, hf⟩ := dc_g hf
  obtain ⟨q_3, hc_4, hf⟩ := dc_b hf
  have hm := Nat.le_trans hm (Nat.le_of_eq (mn_M_kind N (upI (upI s 26 (upd (s.1 26) (Int32.toNatClampNeg x1) (((s.1 38 0) + 1)))) 8 (fun _ => ((s.1 8 0) + 1))) q_3 hc_4).symm)
  by_cases h : q_3.1 = 91
  · have hf := (if_pos h).symm.trans hf
    obtain ⟨q_6, hc_7, hf⟩ := dc_b hf
    have hm := Nat.le_trans hm (Nat.le_of_eq (mn_M_part N x1 q_3.2 q_6 hc_7).symm)
    exact Nat.le_trans hm (mo_M_setting_126 N y x1 q_6.1 q_6.2 hf)
  · have hf := (if_neg h).symm.trans hf
    exact Nat.le_trans hm (mo_M_setting_126 N y x1 ((256 * (((s.1 20) (Int32.toNatClampNeg x1)) - 1))) q_3.2 hf)
theorem mn_M_setting (N : Nat) (s1 : ms) (y : (Unit × ms)) (hf : fn_M_setting N s1 = some y) : gl s1 ≤ gl y.2 := by
  unfold fn_M_setting at hf
  have hm : gl s1 ≤ gl s1 := Nat.le_refl _
  obtain ⟨q_1, hc_2, hf⟩ := dc_b hf
  have hm := Nat.le_trans hm (Nat.le_of_eq (mn_M_here N ((s1.1 8 0)) s1 q_1 hc_2).symm)
  by_cases h : q_1.1 < 0
  · have hf := (if_pos h).symm.trans hf
    exact Nat.le_trans hm (mo_M_setting_21 N y q_1.2 hf)
  · have hf := (if_neg h).symm.trans hf
    obtain ⟨q_4, hc_5, hf⟩ := dc_b hf
    have hm := Nat.le_trans hm (Nat.le_of_eq (mn_M_isRegister N q_1.1 q_1.2 q_4 hc_5).symm)
    by_cases h : q_4.1 = 0
    · have hf := (if_pos h).symm.trans hf
      exact Nat.le_trans hm (mo_M_setting_21 N y q_4.2 hf)
    · have hf := (if_neg h).symm.trans hf
      obtain ⟨_, hf⟩ := dc_g hf
      by_cases h : ((q_4.2.1 26) (Int32.toNatClampNeg q_1.1)) = 0
      · have hf := (if_pos h).symm.trans hf
        exact Nat.le_trans hm (mo_M_setting_76 N y q_1.1 q_4.2 hf)
      · have hf := (if_neg h).symm.trans hf
        obtain ⟨_, hf⟩ := dc_g hf
        by_cases h : ((q_4.2.1 26) (Int32.toNatClampNeg q_1.1)) = ((q_4.2.1 38 0) + 1)
        · have hf := (if_pos h).symm.trans hf
          exact Nat.le_trans hm (mo_M_setting_76 N y q_1.1 q_4.2 hf)
        · have hf := (if_neg h).symm.trans hf
          obtain ⟨_, hf⟩ := dc_g hf
          obtain ⟨q_10, hc_11, hf⟩ := dc_b hf
          have hm := Nat.le_trans hm (Nat.le_of_eq (mn_M_fail N 32 (((q_4.2.1 5) (Int32.toNatClampNeg ((q_4.2.1 8 0))))) q_4.2 q_10 hc_11).symm)
          exact Nat.le_trans hm (mo_M_setting_76 N y q_1.1 q_10.2 hf)
set_option maxHeartbeats 8000000 in
set_option maxRecDepth 100000 in
theorem ct_M_setting (l : Launch) (dC : Nat → ClassId) (dI : Nat → Nat → Nat) (cI cB cJ cZ cQ : ClassId) (N sz : Nat) (h0 : Nat) (a : Nat → Nat) (s1 : ms) (y : (Unit × ms)) (hf : fn_M_setting N s1 = some y) : Met l yn_M_setting (xw yn_M_setting bn_M_setting 6 none) ({ frames := 406, cells := 2 * (gl y.2 - gl s1), slots := 2 * (gl y.2 - gl s1), locals := 9741 }) (dc_P (dC, dI) xcl (xt cI cB cJ cZ cQ) [.ref h0] sz (wM h0 a cI cB cJ cZ s1)) (xk_Qv (dC, dI) xcl (xt cI cB cJ cZ cQ) (fun _ : Nat → Nat => True) (fun u : Nat → Nat => (wM h0 u cI cB cJ cZ y.2)) (va_A (wM h0 a cI cB cJ cZ s1) sz)) (2 * (gl y.2 - gl s1)) (2 * (gl y.2 - gl s1)) (va_A (wM h0 a cI cB cJ cZ s1) sz) := by
  refine dc_of (QA := xk_Qv (dC, dI) xcl (xt cI cB cJ cZ cQ) (fun _ : Nat → Nat => True) (fun u : Nat → Nat => (wM h0 u cI cB cJ cZ y.2))) (by decide) (Nat.le_of_ble_eq_true rfl) ?_
  intro p e s0 m below meth c hx hb hml hown hg hr hlocks hin hP hK hN A hA hD hT ls hl
  have hown : s0.vm.findClass rn_M = some m.cls := hown
  obtain ⟨H, hH⟩ : ∃ z, z = s0.heap := ⟨_, rfl⟩
  rw [← hH] at hP
  have hS : va_S A s0.heap H [] := by rw [hH]; exact va_S.rf
  suffices kk : ∀ QQ : State → Prop, QQ = MQ below (xk_Qv (dC, dI) xcl (xt cI cB cJ cZ cQ) (fun _ : Nat → Nat => True) (fun u : Nat → Nat => (wM h0 u cI cB cJ cZ y.2)) A) [.ref h0].toArray s0 (2 * (gl y.2 - gl s1)) (2 * (gl y.2 - gl s1)) A → gl s1 ≤ gl s1 → dcG p l e ({ frames := 406, cells := 2 * (gl y.2 - gl s1), slots := 2 * (gl y.2 - gl s1), locals := 9741 }) s0 m [.ref h0].toArray below meth c QQ (dC, dI) A (fun a => (wM h0 a cI cB cJ cZ s1)) (2 * (gl s1 - gl s1)) 0 6 [(0, .ref h0)] [] by
    have k9 := kk _ rfl (Nat.le_refl _) a H [] ls hP hD hS hl
    rw [hH, Nat.sub_self] at k9; exact k9
  clear hP hD hS hl hH H ls
  intro QQ hQQ
  have bl_21 : ∀ (s : ms), bk_M_setting_21 N s = some y → gl s1 ≤ gl s → dcG p l e ({ frames := 406, cells := 2 * (gl y.2 - gl s1), slots := 2 * (gl y.2 - gl s1), locals := 9741 }) s0 m [.ref h0].toArray below meth c QQ (dC, dI) A (fun a => (wM h0 a cI cB cJ cZ s)) (2 * (gl s - gl s1)) 21 6 [(0, .ref h0)] [] := by
    intro s hf hge a H locs ls hP hD hS hl
    have hle := mo_M_setting_21 N y s hf
    unfold bk_M_setting_21 at hf
    refine lv_aload_n hx hb dn_M_setting_21 rfl (lv_at hl 0 rfl) ?_
    refine lv_bipush (v := 22) hx hb dn_M_setting_22 (by decide) ?_
    refine lv_aload_n hx hb dn_M_setting_24 rfl (lv_at hl 0 rfl) ?_
    refine va_get (D := (dC, dI)) (ci := 0) (v := .ref ((a 5))) (C := rn_M) (T := fn_M) (N := 91) hx hb hg in_M hown hK hP 0 rfl rfl 5 (by decide) (hg _ wn_8_78) (fun _ h9 => h9) rfl dn_M_setting_25 ?_
    refine lv_aload_n hx hb dn_M_setting_28 rfl (lv_at hl 0 rfl) ?_
    refine va_get (D := (dC, dI)) (ci := 0) (v := .int ((s.1 8 0))) (C := rn_M) (T := fn_M) (N := 91) hx hb hg in_M hown hK hP 0 rfl rfl 8 (by decide) (hg _ wn_8_81) (fun _ h9 => h9) rfl dn_M_setting_29 ?_
    obtain ⟨hg_1, hf⟩ := dc_g hf
    refine va_iald hx hb hK hP 3 0 rfl rfl hg_1 dn_M_setting_32 ?_
    refine xk_ti (y := ((s.1 5) (Int32.toNatClampNeg ((s.1 8 0))))) rfl ?_
    obtain ⟨q_2, hc_3, hf⟩ := dc_b hf
    have hme := mn_M_fail N 22 (((s.1 5) (Int32.toNatClampNeg ((s.1 8 0))))) s q_2 hc_3
    refine dc_callv (dc_runV (ar := 2) (As := [.int 22, .int (((s.1 5) (Int32.toNatClampNeg ((s.1 8 0)))))]) (rest := []) (ci := 0) (q0 := 0) ⟨hx, hb, hml, hown, hg⟩ hK hN hT hS hA (ct_M_fail l dC dI cI cB cJ cZ cQ N H.size h0 a 22 (((s.1 5) (Int32.toNatClampNeg ((s.1 8 0))))) s q_2 hc_3) hP hD rfl rfl wn_9_186 wn_9_188 sn_M_fail wn_1_13 wn_9_189 rfl rfl (by decide +kernel) ⟨Nat.le_of_ble_eq_true rfl, Nat.le_of_ble_eq_true rfl⟩ rfl hl.1 rfl (Nat.le_of_ble_eq_true rfl) dn_M_setting_33 (dc_rm0 hle)) hP hD hS hA (fun _ H locs hw hP hD hS => ?_)
    refine W.widen (k := 2 * (gl q_2.2 - gl s1)) (n := 2 * (gl q_2.2 - gl s1)) (dc_we hme) (dc_we hme) ?_
    have hge := Nat.le_trans hge (Nat.le_of_eq hme.symm)
    have hle := Nat.le_trans (Nat.le_of_eq hme) hle
    rw [hQQ, ← Option.some.inj hf]
    exact xk_vret (w1 := fun u : Nat → Nat => (wM h0 u cI cB cJ cZ q_2.2)) a hx hb hr hlocks hK hS dn_M_setting_36 hP hD trivial (Nat.le_refl _) (Nat.le_refl _)
  have bl_203 : ∀ (s : ms), bk_M_setting_203 N s = some y → gl s1 ≤ gl s → dcG p l e ({ frames := 406, cells := 2 * (gl y.2 - gl s1), slots := 2 * (gl y.2 - gl s1), locals := 9741 }) s0 m [.ref h0].toArray below meth c QQ (dC, dI) A (fun a => (wM h0 a cI cB cJ cZ s)) (2 * (gl s - gl s1)) 203 6 [(0, .ref h0)] [] := by
    intro s hf hge a H locs ls hP hD hS hl
    have hle := mo_M_setting_203 N y s hf
    unfold bk_M_setting_203 at hf
    refine lv_aload_n hx hb dn_M_setting_203 rfl (lv_at hl 0 rfl) ?_
    refine lv_dup hx hb dn_M_setting_204 rfl ?_
    refine va_get (D := (dC, dI)) (ci := 0) (v := .int ((s.1 8 0))) (C := rn_M) (T := fn_M) (N := 91) hx hb hg in_M hown hK hP 0 rfl rfl 8 (by decide) (hg _ wn_8_81) (fun _ h9 => h9) rfl dn_M_setting_205 ?_
    refine lv_iconst (v := 1) hx hb dn_M_setting_208 (by decide) ?_
    refine lv_iadd hx hb dn_M_setting_209 ?_
    refine va_put (D := (dC, dI)) (ci := 0) (v := .int (((s.1 8 0) + 1))) (ty := .int) (C := rn_M) (T := fn_M) (N := 91) hx hb hg in_M tn_M tk_M nn_M hown hK hP hD hS 0 rfl rfl 8 (by decide) (hg _ wn_8_81) (fun _ h9 => h9) rfl (tk_M 8 (by decide)) rfl rfl (Nat.le_of_ble_eq_true rfl) dn_M_setting_210 (fun H locs hP hD hS => ?_)
    have hP := wM_P_8 hP
    have hD := wM_D_8 hD
    rw [hQQ, ← Option.some.inj hf]
    exact xk_vret (w1 := fun u : Nat → Nat => (wM h0 u cI cB cJ cZ (upI s 8 (fun _ => ((s.1 8 0) + 1))))) a hx hb hr hlocks hK hS dn_M_setting_213 hP hD trivial (Nat.le_refl _) (Nat.le_refl _)
  have bl_188 : ∀ (x1 : Int32) (x2 : Int32) (x5 : Int32) (s : ms), bk_M_setting_188 N x1 x2 x5 s = some y → gl s1 ≤ gl s → dcG p l e ({ frames := 406, cells := 2 * (gl y.2 - gl s1), slots := 2 * (gl y.2 - gl s1), locals := 9741 }) s0 m [.ref h0].toArray below meth c QQ (dC, dI) A (fun a => (wM h0 a cI cB cJ cZ s)) (2 * (gl s - gl s1)) 188 6 [(0, .ref h0), (1, .int x1), (2, .int x2), (5, .int x5)] [] := by
    intro x1 x2 x5 s hf hge a H locs ls hP hD hS hl
    have hle := mo_M_setting_188 N y x1 x2 x5 s hf
    unfold bk_M_setting_188 at hf
    refine lv_aload_n hx hb dn_M_setting_188 rfl (lv_at hl 0 rfl) ?_
    refine lv_iload hx hb dn_M_setting_189 (lv_at hl 3 rfl) ?_
    refine lv_i2l (v := Int32.toInt64 x5) hx hb dn_M_setting_191 rfl ?_
    obtain ⟨q_1, hc_2, hf⟩ := dc_b hf
    have hme := mn_M_cost N ((Int32.toInt64 x5)) s q_1 hc_2
    refine dc_callv (dc_runV (ar := 1) (As := [.long ((Int32.toInt64 x5))]) (rest := []) (ci := 0) (q0 := 0) ⟨hx, hb, hml, hown, hg⟩ hK hN hT hS hA (ct_M_cost l dC dI cI cB cJ cZ cQ N H.size h0 a ((Int32.toInt64 x5)) s q_1 hc_2) hP hD rfl rfl wn_10_109 wn_10_111 sn_M_cost wn_1_13 wn_10_112 rfl rfl (by decide +kernel) ⟨Nat.le_of_ble_eq_true rfl, Nat.le_of_ble_eq_true rfl⟩ rfl hl.1 rfl (Nat.le_of_ble_eq_true rfl) dn_M_setting_192 (dc_rm0 hle)) hP hD hS hA (fun _ H locs hw hP hD hS => ?_)
    refine W.widen (k := 2 * (gl q_1.2 - gl s1)) (n := 2 * (gl q_1.2 - gl s1)) (dc_we hme) (dc_we hme) ?_
    have hge := Nat.le_trans hge (Nat.le_of_eq hme.symm)
    have hle := Nat.le_trans (Nat.le_of_eq hme) hle
    refine lv_aload_n hx hb dn_M_setting_195 rfl (lv_at hl 0 rfl) ?_
    refine lv_bipush (v := 9) hx hb dn_M_setting_196 (by decide) ?_
    refine lv_iload_n hx hb dn_M_setting_198 rfl (lv_at hl 1 rfl) ?_
    refine lv_iload_n hx hb dn_M_setting_199 rfl (lv_at hl 2 rfl) ?_
    obtain ⟨q_3, hc_4, hf⟩ := dc_b hf
    have hmg := mn_M_lay N 9 x1 x2 q_1.2 q_3 hc_4
    have hle2 : gl q_3.2 ≤ gl y.2 := mo_M_setting_203 N y _ hf
    refine dc_callv (dc_runV (ar := 3) (As := [.int 9, .int x1, .int x2]) (rest := []) (ci := 0) (q0 := 0) ⟨hx, hb, hml, hown, hg⟩ hK hN hT hS hA (ct_M_lay l dC dI cI cB cJ cZ cQ N H.size h0 a 9 x1 x2 q_1.2 q_3 hc_4) hP hD rfl rfl wn_10_97 wn_10_99 sn_M_lay wn_1_13 wn_10_100 rfl rfl (by decide +kernel) ⟨Nat.le_of_ble_eq_true rfl, Nat.le_of_ble_eq_true rfl⟩ rfl hl.1 rfl (Nat.le_of_ble_eq_true rfl) dn_M_setting_200 (dc_rm hge hmg hle2)) hP hD hS hA (fun a H locs hw hP hD hS => ?_)
    refine W.widen (k := 2 * (gl q_3.2 - gl s1)) (n := 2 * (gl q_3.2 - gl s1)) (dc_wa hge hmg) (dc_wa hge hmg) ?_
    have hge := Nat.le_trans hge hmg
    have hle := hle2
    exact bl_203 q_3.2 hf hge a H locs ls hP hD hS (lv_sub hl [0] rfl)
  have bl_150 : ∀ (x1 : Int32) (x2 : Int32) (x3 : Int32) (t0 : Int32) (s : ms), bk_M_setting_150 N x1 x2 x3 t0 s = some y → gl s1 ≤ gl s → dcG p l e ({ frames := 406, cells := 2 * (gl y.2 - gl s1), slots := 2 * (gl y.2 - gl s1), locals := 9741 }) s0 m [.ref h0].toArray below meth c QQ (dC, dI) A (fun a => (wM h0 a cI cB cJ cZ s)) (2 * (gl s - gl s1)) 150 6 [(0, .ref h0), (1, .int x1), (2, .int x2), (3, .int x3)] [.int t0] := by
    intro x1 x2 x3 t0 s hf hge a H locs ls hP hD hS hl
    have hle := mo_M_setting_150 N y x1 x2 x3 t0 s hf
    unfold bk_M_setting_150 at hf
    refine lv_istore (lv' := [(4, .int t0), (0, .ref h0), (1, .int x1), (2, .int x2), (3, .int x3)]) hx hb dn_M_setting_150 hl (by decide) rfl (fun ls hl => ?_)
    refine lv_iload_n hx hb dn_M_setting_152 rfl (lv_at hl 3 rfl) ?_
    refine lv_sipush (v := 256) hx hb dn_M_setting_153 (by decide) ?_
    refine lv_idiv hx hb dn_M_setting_156 (by decide) ?_
    refine lv_iload_n hx hb dn_M_setting_157 rfl (lv_at hl 3 rfl) ?_
    refine lv_sipush (v := 256) hx hb dn_M_setting_158 (by decide) ?_
    refine lv_irem hx hb dn_M_setting_161 (by decide) ?_
    refine lv_isub hx hb dn_M_setting_162 ?_
    refine lv_iconst (v := 1) hx hb dn_M_setting_163 (by decide) ?_
    refine lv_iadd hx hb dn_M_setting_164 ?_
    refine lv_istore (lv' := [(5, .int ((((x2 / 256) - (x2 - x2 / 256 * 256)) + 1))), (4, .int t0), (0, .ref h0), (1, .int x1), (2, .int x2), (3, .int x3)]) hx hb dn_M_setting_165 hl (by decide) rfl (fun ls hl => ?_)
    refine lv_aload_n hx hb dn_M_setting_167 rfl (lv_at hl 2 rfl) ?_
    refine va_get (D := (dC, dI)) (ci := 0) (v := .int ((s.1 9 0))) (C := rn_M) (T := fn_M) (N := 91) hx hb hg in_M hown hK hP 0 rfl rfl 9 (by decide) (hg _ wn_8_82) (fun _ h9 => h9) rfl dn_M_setting_168 ?_
    refine lv_if_ne (tgt := 188) hx hb dn_M_setting_171 (by decide) (fun h => ?_) (fun h => ?_)
    · have hf := (if_neg h).symm.trans hf
      exact bl_188 x1 x2 ((((x2 / 256) - (x2 - x2 / 256 * 256)) + 1)) s hf hge a H locs ls hP hD hS (lv_sub hl [2, 3, 4, 0] rfl)
    · have hf := (if_pos h).symm.trans hf
      refine lv_iload hx hb dn_M_setting_174 (lv_at hl 1 rfl) ?_
      refine lv_iload hx hb dn_M_setting_176 (lv_at hl 0 rfl) ?_
      refine lv_icmp_eq (tgt := 188) hx hb dn_M_setting_178 (by decide) (fun h => ?_) (fun h => ?_)
      · have hf := (if_pos h).symm.trans hf
        exact bl_188 x1 x2 ((((x2 / 256) - (x2 - x2 / 256 * 256)) + 1)) s hf hge a H locs ls hP hD hS (lv_sub hl [2, 3, 4, 0] rfl)
      · have hf := (if_neg h).symm.trans hf
        refine lv_aload_n hx hb dn_M_setting_181 rfl (lv_at hl 2 rfl) ?_
        refine lv_bipush (v := 30) hx hb dn_M_setting_182 (by decide) ?_
        refine lv_iload_n hx hb dn_M_setting_184 rfl (lv_at hl 5 rfl) ?_
        obtain ⟨q_1, hc_2, hf⟩ := dc_b hf
        have hme := mn_M_fail N 30 x3 s q_1 hc_2
        refine dc_callv (dc_runV (ar := 2) (As := [.int 30, .int x3]) (rest := []) (ci := 0) (q0 := 0) ⟨hx, hb, hml, hown, hg⟩ hK hN hT hS hA (ct_M_fail l dC dI cI cB cJ cZ cQ N H.size h0 a 30 x3 s q_1 hc_2) hP hD rfl rfl wn_9_186 wn_9_188 sn_M_fail wn_1_13 wn_9_189 rfl rfl (by decide +kernel) ⟨Nat.le_of_ble_eq_true rfl, Nat.le_of_ble_eq_true rfl⟩ rfl hl.1 rfl (Nat.le_of_ble_eq_true rfl) dn_M_setting_185 (dc_rm0 hle)) hP hD hS hA (fun _ H locs hw hP hD hS => ?_)
        refine W.widen (k := 2 * (gl q_1.2 - gl s1)) (n := 2 * (gl q_1.2 - gl s1)) (dc_we hme) (dc_we hme) ?_
        have hge := Nat.le_trans hge (Nat.le_of_eq hme.symm)
        have hle := Nat.le_trans (Nat.le_of_eq hme) hle
        exact bl_188 x1 x2 ((((x2 / 256) - (x2 - x2 / 256 * 256)) + 1)) q_1.2 hf hge a H locs ls hP hD hS (lv_sub hl [2, 3, 4, 0] rfl)
  have bl_126 : ∀ (x1 : Int32) (x2 : Int32) (s : ms), bk_M_setting_126 N x1 x2 s = some y → gl s1 ≤ gl s → dcG p l e ({ frames := 406, cells := 2 * (gl y.2 - gl s1), slots := 2 * (gl y.2 - gl s1), locals := 9741 }) s0 m [.ref h0].toArray below meth c QQ (dC, dI) A (fun a => (wM h0 a cI cB cJ cZ s)) (2 * (gl s - gl s1)) 126 6 [(0, .ref h0), (1, .int x1), (2, .int x2)] [] := by
    intro x1 x2 s hf hge a H locs ls hP hD hS hl
    have hle := mo_M_setting_126 N y x1 x2 s hf
    unfold bk_M_setting_126 at hf
    refine lv_aload_n hx hb dn_M_setting_126 rfl (lv_at hl 0 rfl) ?_
    refine va_get (D := (dC, dI)) (ci := 0) (v := .ref ((a 5))) (C := rn_M) (T := fn_M) (N := 91) hx hb hg in_M hown hK hP 0 rfl rfl 5 (by decide) (hg _ wn_8_78) (fun _ h9 => h9) rfl dn_M_setting_127 ?_
    refine lv_aload_n hx hb dn_M_setting_130 rfl (lv_at hl 0 rfl) ?_
    refine va_get (D := (dC, dI)) (ci := 0) (v := .int ((s.1 8 0))) (C := rn_M) (T := fn_M) (N := 91) hx hb hg in_M hown hK hP 0 rfl rfl 8 (by decide) (hg _ wn_8_81) (fun _ h9 => h9) rfl dn_M_setting_131 ?_
    obtain ⟨hg_1, hf⟩ := dc_g hf
    refine va_iald hx hb hK hP 3 0 rfl rfl hg_1 dn_M_setting_134 ?_
    refine xk_ti (y := ((s.1 5) (Int32.toNatClampNeg ((s.1 8 0))))) rfl ?_
    refine lv_istore_n (lv' := [(3, .int (((s.1 5) (Int32.toNatClampNeg ((s.1 8 0)))))), (0, .ref h0), (1, .int x1), (2, .int x2)]) hx hb dn_M_setting_135 rfl hl (by decide) rfl (fun ls hl => ?_)
    refine lv_aload_n hx hb dn_M_setting_136 rfl (lv_at hl 1 rfl) ?_
    refine lv_dup hx hb dn_M_setting_137 rfl ?_
    refine va_get (D := (dC, dI)) (ci := 0) (v := .int ((s.1 8 0))) (C := rn_M) (T := fn_M) (N := 91) hx hb hg in_M hown hK hP 0 rfl rfl 8 (by decide) (hg _ wn_8_81) (fun _ h9 => h9) rfl dn_M_setting_138 ?_
    refine lv_iconst (v := 1) hx hb dn_M_setting_141 (by decide) ?_
    refine lv_iadd hx hb dn_M_setting_142 ?_
    refine va_put (D := (dC, dI)) (ci := 0) (v := .int (((s.1 8 0) + 1))) (ty := .int) (C := rn_M) (T := fn_M) (N := 91) hx hb hg in_M tn_M tk_M nn_M hown hK hP hD hS 0 rfl rfl 8 (by decide) (hg _ wn_8_81) (fun _ h9 => h9) rfl (tk_M 8 (by decide)) rfl rfl (Nat.le_of_ble_eq_true rfl) dn_M_setting_143 (fun H locs hP hD hS => ?_)
    have hP := wM_P_8 hP
    have hD := wM_D_8 hD
    refine lv_aload_n hx hb dn_M_setting_146 rfl (lv_at hl 1 rfl) ?_
    obtain ⟨q_2, hc_3, hf⟩ := dc_b hf
    have hmg := mn_M_exp N (upI s 8 (fun _ => ((s.1 8 0) + 1))) q_2 hc_3
    have hle2 : gl q_2.2 ≤ gl y.2 := mo_M_setting_150 N y _ _ _ _ _ hf
    refine dc_calli (dc_runV (ar := 0) (As := []) (rest := []) (ci := 0) (q0 := 0) ⟨hx, hb, hml, hown, hg⟩ hK hN hT hS hA (ct_M_exp l dC dI cI cB cJ cZ cQ N H.size h0 a (upI s 8 (fun _ => ((s.1 8 0) + 1))) q_2 hc_3) hP hD rfl rfl wn_10_77 wn_10_79 sn_M_exp wn_1_13 wn_10_80 rfl rfl (by decide +kernel) ⟨Nat.le_of_ble_eq_true rfl, Nat.le_of_ble_eq_true rfl⟩ rfl hl.1 rfl (Nat.le_of_ble_eq_true rfl) dn_M_setting_147 (dc_rm hge hmg hle2)) hP hD hS hA (fun r_4 a H locs hw hP hD hS => ?_)
    refine W.widen (k := 2 * (gl q_2.2 - gl s1)) (n := 2 * (gl q_2.2 - gl s1)) (dc_wa hge hmg) (dc_wa hge hmg) ?_
    have hge := Nat.le_trans hge hmg
    have hle := hle2
    have hw : r_4 = q_2.1 := hw
    subst hw
    exact bl_150 x1 x2 (((s.1 5) (Int32.toNatClampNeg ((s.1 8 0))))) q_2.1 q_2.2 hf hge a H locs ls hP hD hS (lv_sub hl [1, 2, 3, 0] rfl)
  have bl_76 : ∀ (x1 : Int32) (s : ms), bk_M_setting_76 N x1 s = some y → gl s1 ≤ gl s → dcG p l e ({ frames := 406, cells := 2 * (gl y.2 - gl s1), slots := 2 * (gl y.2 - gl s1), locals := 9741 }) s0 m [.ref h0].toArray below meth c QQ (dC, dI) A (fun a => (wM h0 a cI cB cJ cZ s)) (2 * (gl s - gl s1)) 76 6 [(0, .ref h0), (1, .int x1)] [] := by
    intro x1 s hf hge a H locs ls hP hD hS hl
    have hle := mo_M_setting_76 N y x1 s hf
    unfold bk_M_setting_76 at hf
    refine lv_aload_n hx hb dn_M_setting_76 rfl (lv_at hl 0 rfl) ?_
    refine va_get (D := (dC, dI)) (ci := 0) (v := .ref ((a 26))) (C := rn_M) (T := fn_M) (N := 91) hx hb hg in_M hown hK hP 0 rfl rfl 26 (by decide) (hg _ wn_8_99) (fun _ h9 => h9) rfl dn_M_setting_77 ?_
    refine lv_iload_n hx hb dn_M_setting_80 rfl (lv_at hl 1 rfl) ?_
    refine lv_aload_n hx hb dn_M_setting_81 rfl (lv_at hl 0 rfl) ?_
    refine va_get (D := (dC, dI)) (ci := 0) (v := .int ((s.1 38 0))) (C := rn_M) (T := fn_M) (N := 91) hx hb hg in_M hown hK hP 0 rfl rfl 38 (by decide) (hg _ wn_8_111) (fun _ h9 => h9) rfl dn_M_setting_82 ?_
    refine lv_iconst (v := 1) hx hb dn_M_setting_85 (by decide) ?_
    refine lv_iadd hx hb dn_M_setting_86 ?_
    obtain ⟨hg_1, hf⟩ := dc_g hf
    refine va_iast hx hb hK hP hD hS 17 0 rfl rfl hg_1 dn_M_setting_87 (fun H locs hP hD hS => ?_)
    have hP : va_P (dC, dI) xcl ((wM h0 a cI cB cJ cZ s).set 17 ((a 26), .inl (cI, 11000, .inl (upd (s.1 26) (Int32.toNatClampNeg x1) (((s.1 38 0) + 1)))))) H := hP
    have hD : va_D A ((wM h0 a cI cB cJ cZ s).set 17 ((a 26), .inl (cI, 11000, .inl (upd (s.1 26) (Int32.toNatClampNeg x1) (((s.1 38 0) + 1)))))) := hD
    have hP := wM_P_26 hP
    have hD := wM_D_26 hD
    refine lv_aload_n hx hb dn_M_setting_88 rfl (lv_at hl 0 rfl) ?_
    refine lv_dup hx hb dn_M_setting_89 rfl ?_
    refine va_get (D := (dC, dI)) (ci := 0) (v := .int ((s.1 8 0))) (C := rn_M) (T := fn_M) (N := 91) hx hb hg in_M hown hK hP 0 rfl rfl 8 (by decide) (hg _ wn_8_81) (fun _ h9 => h9) rfl dn_M_setting_90 ?_
    refine lv_iconst (v := 1) hx hb dn_M_setting_93 (by decide) ?_
    refine lv_iadd hx hb dn_M_setting_94 ?_
    refine va_put (D := (dC, dI)) (ci := 0) (v := .int (((s.1 8 0) + 1))) (ty := .int) (C := rn_M) (T := fn_M) (N := 91) hx hb hg in_M tn_M tk_M nn_M hown hK hP hD hS 0 rfl rfl 8 (by decide) (hg _ wn_8_81) (fun _ h9 => h9) rfl (tk_M 8 (by decide)) rfl rfl (Nat.le_of_ble_eq_true rfl) dn_M_setting_95 (fun H locs hP hD hS => ?_)
    have hP := wM_P_8 hP
    have hD := wM_D_8 hD
    refine lv_sipush (v := 256) hx hb dn_M_setting_98 (by decide) ?_
    refine lv_aload_n hx hb dn_M_setting_101 rfl (lv_at hl 0 rfl) ?_
    refine va_get (D := (dC, dI)) (ci := 0) (v := .ref ((a 20))) (C := rn_M) (T := fn_M) (N := 91) hx hb hg in_M hown hK hP 0 rfl rfl 20 (by decide) (hg _ wn_8_93) (fun _ h9 => h9) rfl dn_M_setting_102 ?_
    refine lv_iload_n hx hb dn_M_setting_105 rfl (lv_at hl 1 rfl) ?_
    obtain ⟨hg_2, hf⟩ := dc_g hf
    refine va_iald hx hb hK hP 11 0 rfl rfl hg_2 dn_M_setting_106 ?_
    refine xk_ti (y := ((s.1 20) (Int32.toNatClampNeg x1))) rfl ?_
    refine lv_iconst (v := 1) hx hb dn_M_setting_107 (by decide) ?_
    refine lv_isub hx hb dn_M_setting_108 ?_
    refine lv_imul hx hb dn_M_setting_109 ?_
    refine lv_istore_n (lv' := [(2, .int ((256 * (((s.1 20) (Int32.toNatClampNeg x1)) - 1)))), (0, .ref h0), (1, .int x1)]) hx hb dn_M_setting_110 rfl hl (by decide) rfl (fun ls hl => ?_)
    refine lv_aload_n hx hb dn_M_setting_111 rfl (lv_at hl 1 rfl) ?_
    obtain ⟨q_3, hc_4, hf⟩ := dc_b hf
    have hme := mn_M_kind N (upI (upI s 26 (upd (s.1 26) (Int32.toNatClampNeg x1) (((s.1 38 0) + 1)))) 8 (fun _ => ((s.1 8 0) + 1))) q_3 hc_4
    refine dc_calli (dc_runV (ar := 0) (As := []) (rest := []) (ci := 0) (q0 := 0) ⟨hx, hb, hml, hown, hg⟩ hK hN hT hS hA (ct_M_kind l dC dI cI cB cJ cZ cQ N H.size h0 a (upI (upI s 26 (upd (s.1 26) (Int32.toNatClampNeg x1) (((s.1 38 0) + 1)))) 8 (fun _ => ((s.1 8 0) + 1))) q_3 hc_4) hP hD rfl rfl wn_9_214 wn_9_216 sn_M_kind wn_1_13 wn_9_217 rfl rfl (by decide +kernel) ⟨Nat.le_of_ble_eq_true rfl, Nat.le_of_ble_eq_true rfl⟩ rfl hl.1 rfl (Nat.le_of_ble_eq_true rfl) dn_M_setting_112 (dc_rm0 hle)) hP hD hS hA (fun r_5 _ H locs hw hP hD hS => ?_)
    refine W.widen (k := 2 * (gl q_3.2 - gl s1)) (n := 2 * (gl q_3.2 - gl s1)) (dc_we hme) (dc_we hme) ?_
    have hge := Nat.le_trans hge (Nat.le_of_eq hme.symm)
    have hle := Nat.le_trans (Nat.le_of_eq hme) hle
    have hw : r_5 = q_3.1 := hw
    subst hw
    refine lv_bipush (v := 91) hx hb dn_M_setting_115 (by decide) ?_
    refine lv_icmp_ne (tgt := 126) hx hb dn_M_setting_117 (by decide) (fun h => ?_) (fun h => ?_)
    · have hf := (if_neg h).symm.trans hf
      exact bl_126 x1 ((256 * (((s.1 20) (Int32.toNatClampNeg x1)) - 1))) q_3.2 hf hge a H locs ls hP hD hS (lv_sub hl [1, 2, 0] rfl)
    · have hf := (if_pos h).symm.trans hf
      refine lv_aload_n hx hb dn_M_setting_120 rfl (lv_at hl 1 rfl) ?_
      refine lv_iload_n hx hb dn_M_setting_121 rfl (lv_at hl 2 rfl) ?_
      obtain ⟨q_6, hc_7, hf⟩ := dc_b hf
      have hme := mn_M_part N x1 q_3.2 q_6 hc_7
      refine dc_calli (dc_runV (ar := 1) (As := [.int x1]) (rest := []) (ci := 0) (q0 := 0) ⟨hx, hb, hml, hown, hg⟩ hK hN hT hS hA (ct_M_part l dC dI cI cB cJ cZ cQ N H.size h0 a x1 q_3.2 q_6 hc_7) hP hD rfl rfl wn_10_105 wn_10_107 sn_M_part wn_1_13 wn_10_108 rfl rfl (by decide +kernel) ⟨Nat.le_of_ble_eq_true rfl, Nat.le_of_ble_eq_true rfl⟩ rfl hl.1 rfl (Nat.le_of_ble_eq_true rfl) dn_M_setting_122 (dc_rm0 hle)) hP hD hS hA (fun r_8 _ H locs hw hP hD hS => ?_)
      refine W.widen (k := 2 * (gl q_6.2 - gl s1)) (n := 2 * (gl q_6.2 - gl s1)) (dc_we hme) (dc_we hme) ?_
      have hge := Nat.le_trans hge (Nat.le_of_eq hme.symm)
      have hle := Nat.le_trans (Nat.le_of_eq hme) hle
      have hw : r_8 = q_6.1 := hw
      subst hw
      refine lv_istore_n (lv' := [(2, .int q_6.1), (0, .ref h0), (1, .int x1)]) hx hb dn_M_setting_125 rfl hl (by decide) rfl (fun ls hl => ?_)
      exact bl_126 x1 q_6.1 q_6.2 hf hge a H locs ls hP hD hS (lv_sub hl [1, 2, 0] rfl)
  intro hge a H locs ls hP hD hS hl
  have hle := mn_M_setting N s1 y hf
  unfold fn_M_setting at hf
  refine lv_aload_n hx hb dn_M_setting_0 rfl (lv_at hl 0 rfl) ?_
  refine lv_aload_n hx hb dn_M_setting_1 rfl (lv_at hl 0 rfl) ?_
  refine va_get (D := (dC, dI)) (ci := 0) (v := .int ((s1.1 8 0))) (C := rn_M) (T := fn_M) (N := 91) hx hb hg in_M hown hK hP 0 rfl rfl 8 (by decide) (hg _ wn_8_81) (fun _ h9 => h9) rfl dn_M_setting_2 ?_
  obtain ⟨q_1, hc_2, hf⟩ := dc_b hf
  have hme := mn_M_here N ((s1.1 8 0)) s1 q_1 hc_2
  refine dc_calli (dc_runV (ar := 1) (As := [.int ((s1.1 8 0))]) (rest := []) (ci := 0) (q0 := 0) ⟨hx, hb, hml, hown, hg⟩ hK hN hT hS hA (ct_M_here l dC dI cI cB cJ cZ cQ N H.size h0 a ((s1.1 8 0)) s1 q_1 hc_2) hP hD rfl rfl wn_10_49 wn_10_51 sn_M_here wn_1_13 wn_10_52 rfl rfl (by decide +kernel) ⟨Nat.le_of_ble_eq_true rfl, Nat.le_of_ble_eq_true rfl⟩ rfl hl.1 rfl (Nat.le_of_ble_eq_true rfl) dn_M_setting_5 (dc_rm0 hle)) hP hD hS hA (fun r_3 _ H locs hw hP hD hS => ?_)
  refine W.widen (k := 2 * (gl q_1.2 - gl s1)) (n := 2 * (gl q_1.2 - gl s1)) (dc_we hme) (dc_we hme) ?_
  have hge := Nat.le_trans hge (Nat.le_of_eq hme.symm)
  have hle := Nat.le_trans (Nat.le_of_eq hme) hle
  have hw : r_3 = q_1.1 := hw
  subst hw
  refine lv_istore_n (lv' := [(1, .int q_1.1), (0, .ref h0)]) hx hb dn_M_setting_8 rfl hl (by decide) rfl (fun ls hl => ?_)
  refine lv_iload_n hx hb dn_M_setting_9 rfl (lv_at hl 0 rfl) ?_
  refine lv_if_lt (tgt := 21) hx hb dn_M_setting_10 (by decide) (fun h => ?_) (fun h => ?_)
  · have hf := (if_pos h).symm.trans hf
    exact bl_21 q_1.2 hf hge a H locs ls hP hD hS (lv_sub hl [1] rfl)
  · have hf := (if_neg h).symm.trans hf
    refine lv_aload_n hx hb dn_M_setting_13 rfl (lv_at hl 1 rfl) ?_
    refine lv_iload_n hx hb dn_M_setting_14 rfl (lv_at hl 0 rfl) ?_
    obtain ⟨q_4, hc_5, hf⟩ := dc_b hf
    have hme := mn_M_isRegister N q_1.1 q_1.2 q_4 hc_5
    refine dc_calli (dc_runV (ar := 1) (As := [.int q_1.1]) (rest := []) (ci := 0) (q0 := 0) ⟨hx, hb, hml, hown, hg⟩ hK hN hT hS hA (ct_M_isRegister l dC dI cI cB cJ cZ cQ N H.size h0 a q_1.1 q_1.2 q_4 hc_5) hP hD rfl rfl wn_10_137 wn_10_139 sn_M_isRegister wn_1_13 wn_10_140 rfl rfl (by decide +kernel) ⟨Nat.le_of_ble_eq_true rfl, Nat.le_of_ble_eq_true rfl⟩ rfl hl.1 rfl (Nat.le_of_ble_eq_true rfl) dn_M_setting_15 (dc_rm0 hle)) hP hD hS hA (fun r_6 _ H locs hw hP hD hS => ?_)
    refine W.widen (k := 2 * (gl q_4.2 - gl s1)) (n := 2 * (gl q_4.2 - gl s1)) (dc_we hme) (dc_we hme) ?_
    have hge := Nat.le_trans hge (Nat.le_of_eq hme.symm)
    have hle := Nat.le_trans (Nat.le_of_eq hme) hle
    have hw : r_6 = q_4.1 := hw
    subst hw
    refine lv_if_ne (tgt := 37) hx hb dn_M_setting_18 (by decide) (fun h => ?_) (fun h => ?_)
    · have hf := (if_neg h).symm.trans hf
      refine lv_aload_n hx hb dn_M_setting_37 rfl (lv_at hl 1 rfl) ?_
      refine va_get (D := (dC, dI)) (ci := 0) (v := .ref ((a 26))) (C := rn_M) (T := fn_M) (N := 91) hx hb hg in_M hown hK hP 0 rfl rfl 26 (by decide) (hg _ wn_8_99) (fun _ h9 => h9) rfl dn_M_setting_38 ?_
      refine lv_iload_n hx hb dn_M_setting_41 rfl (lv_at hl 0 rfl) ?_
      obtain ⟨hg_7, hf⟩ := dc_g hf
      refine va_iald hx hb hK hP 17 0 rfl rfl hg_7 dn_M_setting_42 ?_
      refine xk_ti (y := ((q_4.2.1 26) (Int32.toNatClampNeg q_1.1))) rfl ?_
      refine lv_if_eq (tgt := 76) hx hb dn_M_setting_43 (by decide) (fun h => ?_) (fun h => ?_)
      · have hf := (if_pos h).symm.trans hf
        exact bl_76 q_1.1 q_4.2 hf hge a H locs ls hP hD hS (lv_sub hl [1, 0] rfl)
      · have hf := (if_neg h).symm.trans hf
        refine lv_aload_n hx hb dn_M_setting_46 rfl (lv_at hl 1 rfl) ?_
        refine va_get (D := (dC, dI)) (ci := 0) (v := .ref ((a 26))) (C := rn_M) (T := fn_M) (N := 91) hx hb hg in_M hown hK hP 0 rfl rfl 26 (by decide) (hg _ wn_8_99) (fun _ h9 => h9) rfl dn_M_setting_47 ?_
        refine lv_iload_n hx hb dn_M_setting_50 rfl (lv_at hl 0 rfl) ?_
        obtain ⟨hg_8, hf⟩ := dc_g hf
        refine va_iald hx hb hK hP 17 0 rfl rfl hg_8 dn_M_setting_51 ?_
        refine xk_ti (y := ((q_4.2.1 26) (Int32.toNatClampNeg q_1.1))) rfl ?_
        refine lv_aload_n hx hb dn_M_setting_52 rfl (lv_at hl 1 rfl) ?_
        refine va_get (D := (dC, dI)) (ci := 0) (v := .int ((q_4.2.1 38 0))) (C := rn_M) (T := fn_M) (N := 91) hx hb hg in_M hown hK hP 0 rfl rfl 38 (by decide) (hg _ wn_8_111) (fun _ h9 => h9) rfl dn_M_setting_53 ?_
        refine lv_iconst (v := 1) hx hb dn_M_setting_56 (by decide) ?_
        refine lv_iadd hx hb dn_M_setting_57 ?_
        refine lv_icmp_eq (tgt := 76) hx hb dn_M_setting_58 (by decide) (fun h => ?_) (fun h => ?_)
        · have hf := (if_pos h).symm.trans hf
          exact bl_76 q_1.1 q_4.2 hf hge a H locs ls hP hD hS (lv_sub hl [1, 0] rfl)
        · have hf := (if_neg h).symm.trans hf
          refine lv_aload_n hx hb dn_M_setting_61 rfl (lv_at hl 1 rfl) ?_
          refine lv_bipush (v := 32) hx hb dn_M_setting_62 (by decide) ?_
          refine lv_aload_n hx hb dn_M_setting_64 rfl (lv_at hl 1 rfl) ?_
          refine va_get (D := (dC, dI)) (ci := 0) (v := .ref ((a 5))) (C := rn_M) (T := fn_M) (N := 91) hx hb hg in_M hown hK hP 0 rfl rfl 5 (by decide) (hg _ wn_8_78) (fun _ h9 => h9) rfl dn_M_setting_65 ?_
          refine lv_aload_n hx hb dn_M_setting_68 rfl (lv_at hl 1 rfl) ?_
          refine va_get (D := (dC, dI)) (ci := 0) (v := .int ((q_4.2.1 8 0))) (C := rn_M) (T := fn_M) (N := 91) hx hb hg in_M hown hK hP 0 rfl rfl 8 (by decide) (hg _ wn_8_81) (fun _ h9 => h9) rfl dn_M_setting_69 ?_
          obtain ⟨hg_9, hf⟩ := dc_g hf
          refine va_iald hx hb hK hP 3 0 rfl rfl hg_9 dn_M_setting_72 ?_
          refine xk_ti (y := ((q_4.2.1 5) (Int32.toNatClampNeg ((q_4.2.1 8 0))))) rfl ?_
          obtain ⟨q_10, hc_11, hf⟩ := dc_b hf
          have hme := mn_M_fail N 32 (((q_4.2.1 5) (Int32.toNatClampNeg ((q_4.2.1 8 0))))) q_4.2 q_10 hc_11
          refine dc_callv (dc_runV (ar := 2) (As := [.int 32, .int (((q_4.2.1 5) (Int32.toNatClampNeg ((q_4.2.1 8 0)))))]) (rest := []) (ci := 0) (q0 := 0) ⟨hx, hb, hml, hown, hg⟩ hK hN hT hS hA (ct_M_fail l dC dI cI cB cJ cZ cQ N H.size h0 a 32 (((q_4.2.1 5) (Int32.toNatClampNeg ((q_4.2.1 8 0))))) q_4.2 q_10 hc_11) hP hD rfl rfl wn_9_186 wn_9_188 sn_M_fail wn_1_13 wn_9_189 rfl rfl (by decide +kernel) ⟨Nat.le_of_ble_eq_true rfl, Nat.le_of_ble_eq_true rfl⟩ rfl hl.1 rfl (Nat.le_of_ble_eq_true rfl) dn_M_setting_73 (dc_rm0 hle)) hP hD hS hA (fun _ H locs hw hP hD hS => ?_)
          refine W.widen (k := 2 * (gl q_10.2 - gl s1)) (n := 2 * (gl q_10.2 - gl s1)) (dc_we hme) (dc_we hme) ?_
          have hge := Nat.le_trans hge (Nat.le_of_eq hme.symm)
          have hle := Nat.le_trans (Nat.le_of_eq hme) hle
          exact bl_76 q_1.1 q_10.2 hf hge a H locs ls hP hD hS (lv_sub hl [1, 0] rfl)
    · have hf := (if_pos h).symm.trans hf
      exact bl_21 q_4.2 hf hge a H locs ls hP hD hS (lv_sub hl [1] rfl)
theorem mb_M_patch_2 (N : Nat) (y : (Unit × ms)) (k_2 : Int32 → ms → Option (Unit × ms)) (hkm_2 : ∀ (x2 : Int32) (s : ms), k_2 x2 s = some y → gl y.2 = gl s) (x2 : Int32) (s : ms) (hf : bd_M_patch_2 N k_2 x2 s = some y) : gl y.2 = gl s := by
  unfold bd_M_patch_2 at hf
  have hm : gl s = gl s := rfl
  by_cases h : x2 < 0
  · have hf := (if_pos h).symm.trans hf
    exact (dc_e hf).trans hm
  · have hf := (if_neg h).symm.trans hf
    obtain ⟨_, hf⟩ := dc_g hf
    obtain ⟨_, hf⟩ := dc_g hf
    exact (hkm_2 (((s.1 41) (Int32.toNatClampNeg ((x2 + 1))))) (upI s 41 (upd (s.1 41) (Int32.toNatClampNeg ((x2 + 1))) ((s.1 42 0)))) hf).trans hm
theorem mh_M_patch_2 (N : Nat) (y : (Unit × ms)) : ∀ (n : Nat) (x2 : Int32) (s : ms), hd_M_patch_2 N n x2 s = some y → gl y.2 = gl s := by
  intro n
  induction n with
  | zero => intro x2 s hf; cases hf
  | succ n ih => intro x2 s hf; exact mb_M_patch_2 N y (hd_M_patch_2 N n) ih x2 s hf
theorem mn_M_patch (N : Nat) (v1 : Int32) (s : ms) (y : (Unit × ms)) (hf : fn_M_patch N v1 s = some y) : gl y.2 = gl s := by
  unfold fn_M_patch at hf
  have hm : gl s = gl s := rfl
  exact (mh_M_patch_2 N y N v1 s hf).trans hm
set_option maxHeartbeats 8000000 in
set_option maxRecDepth 100000 in
theorem ct_M_patch (l : Launch) (dC : Nat → ClassId) (dI : Nat → Nat → Nat) (cI cB cJ cZ cQ : ClassId) (N sz : Nat) (h0 : Nat) (a : Nat → Nat) (v1 : Int32) (s : ms) (y : (Unit × ms)) (hf : fn_M_patch N v1 s = some y) : Met l yn_M_patch (xw yn_M_patch bn_M_patch 4 none) ({ frames := 0, cells := 0, slots := 0, locals := 0 }) (dc_P (dC, dI) xcl (xt cI cB cJ cZ cQ) [.ref h0, .int v1] sz (wM h0 a cI cB cJ cZ s)) (xk_Qv (dC, dI) xcl (xt cI cB cJ cZ cQ) (fun _ : Unit => True) (fun u : Unit => (wM h0 a cI cB cJ cZ y.2)) (va_A (wM h0 a cI cB cJ cZ s) sz)) 0 0 (va_A (wM h0 a cI cB cJ cZ s) sz) := by
  refine dc_of (QA := xk_Qv (dC, dI) xcl (xt cI cB cJ cZ cQ) (fun _ : Unit => True) (fun u : Unit => (wM h0 a cI cB cJ cZ y.2))) (by decide) (Nat.le_of_ble_eq_true rfl) ?_
  intro p e s0 m below meth c hx hb hml hown hg hr hlocks hin hP hK hN A hA hD hT ls hl
  have hown : s0.vm.findClass rn_M = some m.cls := hown
  obtain ⟨H, hH⟩ : ∃ z, z = s0.heap := ⟨_, rfl⟩
  rw [← hH] at hP
  have hS : va_S A s0.heap H [] := by rw [hH]; exact va_S.rf
  suffices kk : ∀ QQ : State → Prop, QQ = MQ below (xk_Qv (dC, dI) xcl (xt cI cB cJ cZ cQ) (fun _ : Unit => True) (fun u : Unit => (wM h0 a cI cB cJ cZ y.2)) A) [.ref h0, .int v1].toArray s0 0 0 A → dcC p l e ({ frames := 0, cells := 0, slots := 0, locals := 0 }) s0 m [.ref h0, .int v1].toArray below meth c QQ (dC, dI) A (wM h0 a cI cB cJ cZ s) 0 4 [(0, .ref h0), (1, .int v1)] [] by
    have k9 := kk _ rfl H [] ls hP hD hS hl
    rw [hH] at k9; exact k9
  clear hP hD hS hl hH H ls
  intro QQ hQQ
  have hd_2 : ∀ (n : Nat) (x2 : Int32) (s : ms), hd_M_patch_2 N n x2 s = some y → dcC p l e ({ frames := 0, cells := 0, slots := 0, locals := 0 }) s0 m [.ref h0, .int v1].toArray below meth c QQ (dC, dI) A (wM h0 a cI cB cJ cZ s) 2 4 [(0, .ref h0), (2, .int x2)] [] := by
    intro n
    induction n with
    | zero => intro x2 s hf; cases hf
    | succ n ih =>
      intro x2 s hf H locs ls hP hD hS hl
      have hf : bd_M_patch_2 N (hd_M_patch_2 N n) x2 s = some y := hf
      have hk_2 := ih
      generalize hd_M_patch_2 N n = k_2 at hf hk_2
      unfold bd_M_patch_2 at hf
      refine lv_iload_n hx hb dn_M_patch_2 rfl (lv_at hl 1 rfl) ?_
      refine lv_if_lt (tgt := 32) hx hb dn_M_patch_3 (by decide) (fun h => ?_) (fun h => ?_)
      · have hf := (if_pos h).symm.trans hf
        rw [hQQ, ← Option.some.inj hf]
        exact xk_vret (w1 := fun u : Unit => (wM h0 a cI cB cJ cZ s)) () hx hb hr hlocks hK hS dn_M_patch_32 hP hD trivial (Nat.le_refl _) (Nat.le_refl _)
      · have hf := (if_neg h).symm.trans hf
        refine lv_aload_n hx hb dn_M_patch_6 rfl (lv_at hl 0 rfl) ?_
        refine va_get (D := (dC, dI)) (ci := 0) (v := .ref ((a 41))) (C := rn_M) (T := fn_M) (N := 91) hx hb hg in_M hown hK hP 0 rfl rfl 41 (by decide) (hg _ wn_8_114) (fun _ h9 => h9) rfl dn_M_patch_7 ?_
        refine lv_iload_n hx hb dn_M_patch_10 rfl (lv_at hl 1 rfl) ?_
        refine lv_iconst (v := 1) hx hb dn_M_patch_11 (by decide) ?_
        refine lv_iadd hx hb dn_M_patch_12 ?_
        obtain ⟨hg_1, hf⟩ := dc_g hf
        refine va_iald hx hb hK hP 28 0 rfl rfl hg_1 dn_M_patch_13 ?_
        refine xk_ti (y := ((s.1 41) (Int32.toNatClampNeg ((x2 + 1))))) rfl ?_
        refine lv_istore_n (lv' := [(3, .int (((s.1 41) (Int32.toNatClampNeg ((x2 + 1)))))), (0, .ref h0), (2, .int x2)]) hx hb dn_M_patch_14 rfl hl (by decide) rfl (fun ls hl => ?_)
        refine lv_aload_n hx hb dn_M_patch_15 rfl (lv_at hl 1 rfl) ?_
        refine va_get (D := (dC, dI)) (ci := 0) (v := .ref ((a 41))) (C := rn_M) (T := fn_M) (N := 91) hx hb hg in_M hown hK hP 0 rfl rfl 41 (by decide) (hg _ wn_8_114) (fun _ h9 => h9) rfl dn_M_patch_16 ?_
        refine lv_iload_n hx hb dn_M_patch_19 rfl (lv_at hl 2 rfl) ?_
        refine lv_iconst (v := 1) hx hb dn_M_patch_20 (by decide) ?_
        refine lv_iadd hx hb dn_M_patch_21 ?_
        refine lv_aload_n hx hb dn_M_patch_22 rfl (lv_at hl 1 rfl) ?_
        refine va_get (D := (dC, dI)) (ci := 0) (v := .int ((s.1 42 0))) (C := rn_M) (T := fn_M) (N := 91) hx hb hg in_M hown hK hP 0 rfl rfl 42 (by decide) (hg _ wn_8_115) (fun _ h9 => h9) rfl dn_M_patch_23 ?_
        obtain ⟨hg_2, hf⟩ := dc_g hf
        refine va_iast hx hb hK hP hD hS 28 0 rfl rfl hg_2 dn_M_patch_26 (fun H locs hP hD hS => ?_)
        have hP : va_P (dC, dI) xcl ((wM h0 a cI cB cJ cZ s).set 28 ((a 41), .inl (cI, (s.1 91 0).toNatClampNeg, .inl (upd (s.1 41) (Int32.toNatClampNeg ((x2 + 1))) ((s.1 42 0)))))) H := hP
        have hD : va_D A ((wM h0 a cI cB cJ cZ s).set 28 ((a 41), .inl (cI, (s.1 91 0).toNatClampNeg, .inl (upd (s.1 41) (Int32.toNatClampNeg ((x2 + 1))) ((s.1 42 0)))))) := hD
        have hP := wM_P_41 hP
        have hD := wM_D_41 hD
        refine lv_iload_n hx hb dn_M_patch_27 rfl (lv_at hl 0 rfl) ?_
        refine lv_istore_n (lv' := [(2, .int (((s.1 41) (Int32.toNatClampNeg ((x2 + 1)))))), (3, .int (((s.1 41) (Int32.toNatClampNeg ((x2 + 1)))))), (0, .ref h0)]) hx hb dn_M_patch_28 rfl hl (by decide) rfl (fun ls hl => ?_)
        refine lv_goto (tgt := 2) hx hb dn_M_patch_29 (by decide) ?_
        exact hk_2 (((s.1 41) (Int32.toNatClampNeg ((x2 + 1))))) (upI s 41 (upd (s.1 41) (Int32.toNatClampNeg ((x2 + 1))) ((s.1 42 0)))) hf H locs ls hP hD hS (lv_sub hl [2, 0] rfl)
  intro H locs ls hP hD hS hl
  unfold fn_M_patch at hf
  refine lv_iload_n hx hb dn_M_patch_0 rfl (lv_at hl 1 rfl) ?_
  refine lv_istore_n (lv' := [(2, .int v1), (0, .ref h0), (1, .int v1)]) hx hb dn_M_patch_1 rfl hl (by decide) rfl (fun ls hl => ?_)
  exact hd_2 N v1 s hf H locs ls hP hD hS (lv_sub hl [1, 0] rfl)
theorem mo_M_statement_221 (N : Nat) (r_M_statement : ms → Option (Unit × ms)) (r_M_caseOf : ms → Option (Unit × ms)) (hmr_M_statement : ∀ (s : ms) (y : (Unit × ms)), r_M_statement s = some y → gl s ≤ gl y.2) (hmr_M_caseOf : ∀ (s : ms) (y : (Unit × ms)), r_M_caseOf s = some y → gl s ≤ gl y.2) (y : (Unit × ms)) (s : ms) (hf : bk_M_statement_221 N r_M_statement r_M_caseOf s = some y) : gl s ≤ gl y.2 := by
  unfold bk_M_statement_221 at hf
  have hm : gl s ≤ gl s := Nat.le_refl _
  exact Nat.le_trans hm (Nat.le_of_eq (dc_e hf).symm)
theorem mo_M_statement_214 (N : Nat) (r_M_statement : ms → Option (Unit × ms)) (r_M_caseOf : ms → Option (Unit × ms)) (hmr_M_statement : ∀ (s : ms) (y : (Unit × ms)), r_M_statement s = some y → gl s ≤ gl y.2) (hmr_M_caseOf : ∀ (s : ms) (y : (Unit × ms)), r_M_caseOf s = some y → gl s ≤ gl y.2) (y : (Unit × ms)) (s : ms) (hf : bk_M_statement_214 N r_M_statement r_M_caseOf s = some y) : gl s ≤ gl y.2 := by
  unfold bk_M_statement_214 at hf
  have hm : gl s ≤ gl s := Nat.le_refl _
  exact Nat.le_trans hm (mo_M_statement_221 N r_M_statement r_M_caseOf hmr_M_statement hmr_M_caseOf y s hf)
theorem mo_M_statement_170 (N : Nat) (r_M_statement : ms → Option (Unit × ms)) (r_M_caseOf : ms → Option (Unit × ms)) (hmr_M_statement : ∀ (s : ms) (y : (Unit × ms)), r_M_statement s = some y → gl s ≤ gl y.2) (hmr_M_caseOf : ∀ (s : ms) (y : (Unit × ms)), r_M_caseOf s = some y → gl s ≤ gl y.2) (y : (Unit × ms)) (x2 : Int32) (s : ms) (hf : bk_M_statement_170 N r_M_statement r_M_caseOf x2 s = some y) : gl s ≤ gl y.2 := by
  unfold bk_M_statement_170 at hf
  have hm : gl s ≤ gl s := Nat.le_refl _
  obtain ⟨_, hf⟩ := dc_g hf
  exact Nat.le_trans hm (mo_M_statement_221 N r_M_statement r_M_caseOf hmr_M_statement hmr_M_caseOf y (upI s 41 (upd (s.1 41) (Int32.toNatClampNeg ((x2 + 1))) ((s.1 42 0)))) hf)
theorem mo_M_statement_154 (N : Nat) (r_M_statement : ms → Option (Unit × ms)) (r_M_caseOf : ms → Option (Unit × ms)) (hmr_M_statement : ∀ (s : ms) (y : (Unit × ms)), r_M_statement s = some y → gl s ≤ gl y.2) (hmr_M_caseOf : ∀ (s : ms) (y : (Unit × ms)), r_M_caseOf s = some y → gl s ≤ gl y.2) (y : (Unit × ms)) (x1 : Int32) (x2 : Int32) (s : ms) (hf : bk_M_statement_154 N r_M_statement r_M_caseOf x1 x2 s = some y) : gl s ≤ gl y.2 := by
  unfold bk_M_statement_154 at hf
  have hm : gl s ≤ gl s := Nat.le_refl _
  obtain ⟨_, hf⟩ := dc_g hf
  obtain ⟨q_2, hc_3, hf⟩ := dc_b hf
  have hm := Nat.le_trans hm (hmr_M_statement (upI s 41 (upd (s.1 41) (Int32.toNatClampNeg ((x1 + 1))) ((s.1 42 0)))) q_2 hc_3)
  exact Nat.le_trans hm (mo_M_statement_170 N r_M_statement r_M_caseOf hmr_M_statement hmr_M_caseOf y x2 q_2.2 hf)
theorem mo_M_statement_121 (N : Nat) (r_M_statement : ms → Option (Unit × ms)) (r_M_caseOf : ms → Option (Unit × ms)) (hmr_M_statement : ∀ (s : ms) (y : (Unit × ms)), r_M_statement s = some y → gl s ≤ gl y.2) (hmr_M_caseOf : ∀ (s : ms) (y : (Unit × ms)), r_M_caseOf s = some y → gl s ≤ gl y.2) (y : (Unit × ms)) (x1 : Int32) (s : ms) (hf : bk_M_statement_121 N r_M_statement r_M_caseOf x1 s = some y) : gl s ≤ gl y.2 := by
  unfold bk_M_statement_121 at hf
  have hm : gl s ≤ gl s := Nat.le_refl _
  obtain ⟨q_1, hc_2, hf⟩ := dc_b hf
  have hm := Nat.le_trans hm (Nat.le_of_eq (mn_M_is N 313 s q_1 hc_2).symm)
  by_cases h : q_1.1 = 0
  · have hf := (if_pos h).symm.trans hf
    obtain ⟨_, hf⟩ := dc_g hf
    exact Nat.le_trans hm (mo_M_statement_221 N r_M_statement r_M_caseOf hmr_M_statement hmr_M_caseOf y (upI q_1.2 41 (upd (q_1.2.1 41) (Int32.toNatClampNeg ((x1 + 1))) ((q_1.2.1 42 0)))) hf)
  · have hf := (if_neg h).symm.trans hf
    obtain ⟨q_4, hc_5, hf⟩ := dc_b hf
    have hm := Nat.le_trans hm (mn_M_lay N 11 0 0 (upI q_1.2 8 (fun _ => ((q_1.2.1 8 0) + 1))) q_4 hc_5)
    exact Nat.le_trans hm (mo_M_statement_154 N r_M_statement r_M_caseOf hmr_M_statement hmr_M_caseOf y x1 ((q_1.2.1 42 0)) q_4.2 hf)
theorem mo_M_statement_117 (N : Nat) (r_M_statement : ms → Option (Unit × ms)) (r_M_caseOf : ms → Option (Unit × ms)) (hmr_M_statement : ∀ (s : ms) (y : (Unit × ms)), r_M_statement s = some y → gl s ≤ gl y.2) (hmr_M_caseOf : ∀ (s : ms) (y : (Unit × ms)), r_M_caseOf s = some y → gl s ≤ gl y.2) (y : (Unit × ms)) (x1 : Int32) (s : ms) (hf : bk_M_statement_117 N r_M_statement r_M_caseOf x1 s = some y) : gl s ≤ gl y.2 := by
  unfold bk_M_statement_117 at hf
  have hm : gl s ≤ gl s := Nat.le_refl _
  obtain ⟨q_1, hc_2, hf⟩ := dc_b hf
  have hm := Nat.le_trans hm (hmr_M_statement s q_1 hc_2)
  exact Nat.le_trans hm (mo_M_statement_121 N r_M_statement r_M_caseOf hmr_M_statement hmr_M_caseOf y x1 q_1.2 hf)
theorem mo_M_statement_90 (N : Nat) (r_M_statement : ms → Option (Unit × ms)) (r_M_caseOf : ms → Option (Unit × ms)) (hmr_M_statement : ∀ (s : ms) (y : (Unit × ms)), r_M_statement s = some y → gl s ≤ gl y.2) (hmr_M_caseOf : ∀ (s : ms) (y : (Unit × ms)), r_M_caseOf s = some y → gl s ≤ gl y.2) (y : (Unit × ms)) (t0 : Int32) (s : ms) (hf : bk_M_statement_90 N r_M_statement r_M_caseOf t0 s = some y) : gl s ≤ gl y.2 := by
  unfold bk_M_statement_90 at hf
  have hm : gl s ≤ gl s := Nat.le_refl _
  obtain ⟨q_1, hc_2, hf⟩ := dc_b hf
  have hm := Nat.le_trans hm (Nat.le_of_eq (mn_M_cost N ((Int32.toInt64 t0)) s q_1 hc_2).symm)
  obtain ⟨q_3, hc_4, hf⟩ := dc_b hf
  have hm := Nat.le_trans hm (mn_M_lay N 10 0 0 (upI q_1.2 8 (fun _ => ((q_1.2.1 8 0) + 1))) q_3 hc_4)
  exact Nat.le_trans hm (mo_M_statement_117 N r_M_statement r_M_caseOf hmr_M_statement hmr_M_caseOf y ((q_1.2.1 42 0)) q_3.2 hf)
theorem mo_M_statement_52 (N : Nat) (r_M_statement : ms → Option (Unit × ms)) (r_M_caseOf : ms → Option (Unit × ms)) (hmr_M_statement : ∀ (s : ms) (y : (Unit × ms)), r_M_statement s = some y → gl s ≤ gl y.2) (hmr_M_caseOf : ∀ (s : ms) (y : (Unit × ms)), r_M_caseOf s = some y → gl s ≤ gl y.2) (y : (Unit × ms)) (s : ms) (hf : bk_M_statement_52 N r_M_statement r_M_caseOf s = some y) : gl s ≤ gl y.2 := by
  unfold bk_M_statement_52 at hf
  have hm : gl s ≤ gl s := Nat.le_refl _
  exact Nat.le_trans hm (mo_M_statement_221 N r_M_statement r_M_caseOf hmr_M_statement hmr_M_caseOf y (upI s 8 (fun _ => ((s.1 8 0) + 1))) hf)
theorem mo_M_statement_49 (N : Nat) (r_M_statement : ms → Option (Unit × ms)) (r_M_caseOf : ms → Option (Unit × ms)) (hmr_M_statement : ∀ (s : ms) (y : (Unit × ms)), r_M_statement s = some y → gl s ≤ gl y.2) (hmr_M_caseOf : ∀ (s : ms) (y : (Unit × ms)), r_M_caseOf s = some y → gl s ≤ gl y.2) (k_28 : ms → Option (Unit × ms)) (y : (Unit × ms)) (hkm_28 : ∀ (s : ms), k_28 s = some y → gl s ≤ gl y.2) (s : ms) (hf : bk_M_statement_49 N r_M_statement r_M_caseOf k_28 s = some y) : gl s ≤ gl y.2 := by
  unfold bk_M_statement_49 at hf
  have hm : gl s ≤ gl s := Nat.le_refl _
  exact Nat.le_trans hm (hkm_28 s hf)
theorem mb_M_statement_28 (N : Nat) (r_M_statement : ms → Option (Unit × ms)) (r_M_caseOf : ms → Option (Unit × ms)) (hmr_M_statement : ∀ (s : ms) (y : (Unit × ms)), r_M_statement s = some y → gl s ≤ gl y.2) (hmr_M_caseOf : ∀ (s : ms) (y : (Unit × ms)), r_M_caseOf s = some y → gl s ≤ gl y.2) (y : (Unit × ms)) (k_28 : ms → Option (Unit × ms)) (hkm_28 : ∀ (s : ms), k_28 s = some y → gl s ≤ gl y.2) (s : ms) (hf : bd_M_statement_28 N r_M_statement r_M_caseOf k_28 s = some y) : gl s ≤ gl y.2 := by
  unfold bd_M_statement_28 at hf
  have hm : gl s ≤ gl s := Nat.le_refl _
  by_cases h : (s.1 9 0) = 0
  · have hf := (if_pos h).symm.trans hf
    obtain ⟨q_1, hc_2, hf⟩ := dc_b hf
    have hm := Nat.le_trans hm (Nat.le_of_eq (mn_M_kind N s q_1 hc_2).symm)
    by_cases h : q_1.1 = 311
    · have hf := (if_pos h).symm.trans hf
      exact Nat.le_trans hm (mo_M_statement_52 N r_M_statement r_M_caseOf hmr_M_statement hmr_M_caseOf y q_1.2 hf)
    · have hf := (if_neg h).symm.trans hf
      obtain ⟨q_4, hc_5, hf⟩ := dc_b hf
      have hm := Nat.le_trans hm (hmr_M_statement q_1.2 q_4 hc_5)
      exact Nat.le_trans hm (mo_M_statement_49 N r_M_statement r_M_caseOf hmr_M_statement hmr_M_caseOf k_28 y hkm_28 q_4.2 hf)
  · have hf := (if_neg h).symm.trans hf
    exact Nat.le_trans hm (mo_M_statement_52 N r_M_statement r_M_caseOf hmr_M_statement hmr_M_caseOf y s hf)
theorem mh_M_statement_28 (N : Nat) (r_M_statement : ms → Option (Unit × ms)) (r_M_caseOf : ms → Option (Unit × ms)) (hmr_M_statement : ∀ (s : ms) (y : (Unit × ms)), r_M_statement s = some y → gl s ≤ gl y.2) (hmr_M_caseOf : ∀ (s : ms) (y : (Unit × ms)), r_M_caseOf s = some y → gl s ≤ gl y.2) (y : (Unit × ms)) : ∀ (n : Nat) (s : ms), hd_M_statement_28 N r_M_statement r_M_caseOf n s = some y → gl s ≤ gl y.2 := by
  intro n
  induction n with
  | zero => intro s hf; cases hf
  | succ n ih => intro s hf; exact mb_M_statement_28 N r_M_statement r_M_caseOf hmr_M_statement hmr_M_caseOf y (hd_M_statement_28 N r_M_statement r_M_caseOf n) ih s hf
theorem mf_M_statement (N : Nat) (r_M_statement : ms → Option (Unit × ms)) (r_M_caseOf : ms → Option (Unit × ms)) (hmr_M_statement : ∀ (s : ms) (y : (Unit × ms)), r_M_statement s = some y → gl s ≤ gl y.2) (hmr_M_caseOf : ∀ (s : ms) (y : (Unit × ms)), r_M_caseOf s = some y → gl s ≤ gl y.2) (s1 : ms) (y : (Unit × ms)) (hf : fb_M_statement N r_M_statement r_M_caseOf s1 = some y) : gl s1 ≤ gl y.2 := by
  unfold fb_M_statement at hf
  have hm : gl s1 ≤ gl s1 := Nat.le_refl _
  by_cases h : (s1.1 9 0) = 0
  · have hf := (if_pos h).symm.trans hf
    obtain ⟨q_1, hc_2, hf⟩ := dc_b hf
    have hm := Nat.le_trans hm (Nat.le_of_eq (mn_M_kind N s1 q_1 hc_2).symm)
    by_cases h : q_1.1 = 310
    · have hf := (if_pos h).symm.trans hf
      exact Nat.le_trans hm (mh_M_statement_28 N r_M_statement r_M_caseOf hmr_M_statement hmr_M_caseOf y N (upI q_1.2 8 (fun _ => ((q_1.2.1 8 0) + 1))) hf)
    · have hf := (if_neg h).symm.trans hf
      obtain ⟨q_4, hc_5, hf⟩ := dc_b hf
      have hm := Nat.le_trans hm (Nat.le_of_eq (mn_M_kind N q_1.2 q_4 hc_5).symm)
      by_cases h : q_4.1 = 312
      · have hf := (if_pos h).symm.trans hf
        obtain ⟨q_7, hc_8, hf⟩ := dc_b hf
        have hm := Nat.le_trans hm (mn_M_exp N (upI q_4.2 8 (fun _ => ((q_4.2.1 8 0) + 2))) q_7 hc_8)
        exact Nat.le_trans hm (mo_M_statement_90 N r_M_statement r_M_caseOf hmr_M_statement hmr_M_caseOf y q_7.1 q_7.2 hf)
      · have hf := (if_neg h).symm.trans hf
        obtain ⟨q_7, hc_8, hf⟩ := dc_b hf
        have hm := Nat.le_trans hm (Nat.le_of_eq (mn_M_kind N q_4.2 q_7 hc_8).symm)
        by_cases h : q_7.1 = 314
        · have hf := (if_pos h).symm.trans hf
          obtain ⟨q_10, hc_11, hf⟩ := dc_b hf
          have hm := Nat.le_trans hm (hmr_M_caseOf q_7.2 q_10 hc_11)
          exact Nat.le_trans hm (mo_M_statement_214 N r_M_statement r_M_caseOf hmr_M_statement hmr_M_caseOf y q_10.2 hf)
        · have hf := (if_neg h).symm.trans hf
          obtain ⟨q_10, hc_11, hf⟩ := dc_b hf
          have hm := Nat.le_trans hm (mn_M_setting N q_7.2 q_10 hc_11)
          exact Nat.le_trans hm (mo_M_statement_221 N r_M_statement r_M_caseOf hmr_M_statement hmr_M_caseOf y q_10.2 hf)
  · have hf := (if_neg h).symm.trans hf
    exact Nat.le_trans hm (Nat.le_of_eq (dc_e hf).symm)
theorem mo_M_caseOf_246 (N : Nat) (r_M_statement : ms → Option (Unit × ms)) (r_M_caseOf : ms → Option (Unit × ms)) (hmr_M_statement : ∀ (s : ms) (y : (Unit × ms)), r_M_statement s = some y → gl s ≤ gl y.2) (hmr_M_caseOf : ∀ (s : ms) (y : (Unit × ms)), r_M_caseOf s = some y → gl s ≤ gl y.2) (y : (Unit × ms)) (x2 : Int32) (s : ms) (hf : bk_M_caseOf_246 N r_M_statement r_M_caseOf x2 s = some y) : gl s ≤ gl y.2 := by
  unfold bk_M_caseOf_246 at hf
  have hm : gl s ≤ gl s := Nat.le_refl _
  obtain ⟨q_1, hc_2, hf⟩ := dc_b hf
  have hm := Nat.le_trans hm (Nat.le_of_eq (mn_M_patch N x2 s q_1 hc_2).symm)
  exact Nat.le_trans hm (Nat.le_of_eq (dc_e hf).symm)
theorem mo_M_caseOf_222 (N : Nat) (r_M_statement : ms → Option (Unit × ms)) (r_M_caseOf : ms → Option (Unit × ms)) (hmr_M_statement : ∀ (s : ms) (y : (Unit × ms)), r_M_statement s = some y → gl s ≤ gl y.2) (hmr_M_caseOf : ∀ (s : ms) (y : (Unit × ms)), r_M_caseOf s = some y → gl s ≤ gl y.2) (y : (Unit × ms)) (x2 : Int32) (s : ms) (hf : bk_M_caseOf_222 N r_M_statement r_M_caseOf x2 s = some y) : gl s ≤ gl y.2 := by
  unfold bk_M_caseOf_222 at hf
  have hm : gl s ≤ gl s := Nat.le_refl _
  obtain ⟨q_1, hc_2, hf⟩ := dc_b hf
  have hm := Nat.le_trans hm (Nat.le_of_eq (mn_M_is N 316 s q_1 hc_2).symm)
  by_cases h : q_1.1 = 0
  · have hf := (if_pos h).symm.trans hf
    exact Nat.le_trans hm (mo_M_caseOf_246 N r_M_statement r_M_caseOf hmr_M_statement hmr_M_caseOf y x2 q_1.2 hf)
  · have hf := (if_neg h).symm.trans hf
    obtain ⟨q_4, hc_5, hf⟩ := dc_b hf
    have hm := Nat.le_trans hm (hmr_M_statement (upI q_1.2 8 (fun _ => ((q_1.2.1 8 0) + 2))) q_4 hc_5)
    exact Nat.le_trans hm (mo_M_caseOf_246 N r_M_statement r_M_caseOf hmr_M_statement hmr_M_caseOf y x2 q_4.2 hf)
theorem mo_M_caseOf_191 (N : Nat) (r_M_statement : ms → Option (Unit × ms)) (r_M_caseOf : ms → Option (Unit × ms)) (hmr_M_statement : ∀ (s : ms) (y : (Unit × ms)), r_M_statement s = some y → gl s ≤ gl y.2) (hmr_M_caseOf : ∀ (s : ms) (y : (Unit × ms)), r_M_caseOf s = some y → gl s ≤ gl y.2) (k_27 : Int32 → Int32 → ms → Option (Unit × ms)) (y : (Unit × ms)) (hkm_27 : ∀ (x1 : Int32) (x2 : Int32) (s : ms), k_27 x1 x2 s = some y → gl s ≤ gl y.2) (x1 : Int32) (x5 : Int32) (s : ms) (hf : bk_M_caseOf_191 N r_M_statement r_M_caseOf k_27 x1 x5 s = some y) : gl s ≤ gl y.2 := by
  unfold bk_M_caseOf_191 at hf
  have hm : gl s ≤ gl s := Nat.le_refl _
  obtain ⟨_, hf⟩ := dc_g hf
  exact Nat.le_trans hm (hkm_27 x1 (((s.1 42 0) - 3)) (upI s 41 (upd (s.1 41) (Int32.toNatClampNeg ((x5 + 1))) ((s.1 42 0)))) hf)
theorem mo_M_caseOf_183 (N : Nat) (r_M_statement : ms → Option (Unit × ms)) (r_M_caseOf : ms → Option (Unit × ms)) (hmr_M_statement : ∀ (s : ms) (y : (Unit × ms)), r_M_statement s = some y → gl s ≤ gl y.2) (hmr_M_caseOf : ∀ (s : ms) (y : (Unit × ms)), r_M_caseOf s = some y → gl s ≤ gl y.2) (k_27 : Int32 → Int32 → ms → Option (Unit × ms)) (y : (Unit × ms)) (hkm_27 : ∀ (x1 : Int32) (x2 : Int32) (s : ms), k_27 x1 x2 s = some y → gl s ≤ gl y.2) (x1 : Int32) (x2 : Int32) (x5 : Int32) (s : ms) (hf : bk_M_caseOf_183 N r_M_statement r_M_caseOf k_27 x1 x2 x5 s = some y) : gl s ≤ gl y.2 := by
  unfold bk_M_caseOf_183 at hf
  have hm : gl s ≤ gl s := Nat.le_refl _
  obtain ⟨q_1, hc_2, hf⟩ := dc_b hf
  have hm := Nat.le_trans hm (mn_M_lay N 11 x2 0 s q_1 hc_2)
  exact Nat.le_trans hm (mo_M_caseOf_191 N r_M_statement r_M_caseOf hmr_M_statement hmr_M_caseOf k_27 y hkm_27 x1 x5 q_1.2 hf)
theorem mo_M_caseOf_179 (N : Nat) (r_M_statement : ms → Option (Unit × ms)) (r_M_caseOf : ms → Option (Unit × ms)) (hmr_M_statement : ∀ (s : ms) (y : (Unit × ms)), r_M_statement s = some y → gl s ≤ gl y.2) (hmr_M_caseOf : ∀ (s : ms) (y : (Unit × ms)), r_M_caseOf s = some y → gl s ≤ gl y.2) (k_27 : Int32 → Int32 → ms → Option (Unit × ms)) (y : (Unit × ms)) (hkm_27 : ∀ (x1 : Int32) (x2 : Int32) (s : ms), k_27 x1 x2 s = some y → gl s ≤ gl y.2) (x1 : Int32) (x2 : Int32) (x5 : Int32) (s : ms) (hf : bk_M_caseOf_179 N r_M_statement r_M_caseOf k_27 x1 x2 x5 s = some y) : gl s ≤ gl y.2 := by
  unfold bk_M_caseOf_179 at hf
  have hm : gl s ≤ gl s := Nat.le_refl _
  obtain ⟨q_1, hc_2, hf⟩ := dc_b hf
  have hm := Nat.le_trans hm (hmr_M_statement s q_1 hc_2)
  exact Nat.le_trans hm (mo_M_caseOf_183 N r_M_statement r_M_caseOf hmr_M_statement hmr_M_caseOf k_27 y hkm_27 x1 x2 x5 q_1.2 hf)
theorem mo_M_caseOf_166 (N : Nat) (r_M_statement : ms → Option (Unit × ms)) (r_M_caseOf : ms → Option (Unit × ms)) (hmr_M_statement : ∀ (s : ms) (y : (Unit × ms)), r_M_statement s = some y → gl s ≤ gl y.2) (hmr_M_caseOf : ∀ (s : ms) (y : (Unit × ms)), r_M_caseOf s = some y → gl s ≤ gl y.2) (k_27 : Int32 → Int32 → ms → Option (Unit × ms)) (y : (Unit × ms)) (hkm_27 : ∀ (x1 : Int32) (x2 : Int32) (s : ms), k_27 x1 x2 s = some y → gl s ≤ gl y.2) (x1 : Int32) (x2 : Int32) (x3 : Int32) (x5 : Int32) (s : ms) (hf : bk_M_caseOf_166 N r_M_statement r_M_caseOf k_27 x1 x2 x3 x5 s = some y) : gl s ≤ gl y.2 := by
  unfold bk_M_caseOf_166 at hf
  have hm : gl s ≤ gl s := Nat.le_refl _
  obtain ⟨q_1, hc_2, hf⟩ := dc_b hf
  have hm := Nat.le_trans hm (Nat.le_of_eq (mn_M_patch N x3 s q_1 hc_2).symm)
  obtain ⟨q_3, hc_4, hf⟩ := dc_b hf
  have hm := Nat.le_trans hm (mn_M_lay N 13 0 0 q_1.2 q_3 hc_4)
  exact Nat.le_trans hm (mo_M_caseOf_179 N r_M_statement r_M_caseOf hmr_M_statement hmr_M_caseOf k_27 y hkm_27 x1 x2 x5 q_3.2 hf)
theorem mo_M_caseOf_152 (N : Nat) (r_M_statement : ms → Option (Unit × ms)) (r_M_caseOf : ms → Option (Unit × ms)) (hmr_M_statement : ∀ (s : ms) (y : (Unit × ms)), r_M_statement s = some y → gl s ≤ gl y.2) (hmr_M_caseOf : ∀ (s : ms) (y : (Unit × ms)), r_M_caseOf s = some y → gl s ≤ gl y.2) (k_27 : Int32 → Int32 → ms → Option (Unit × ms)) (y : (Unit × ms)) (hkm_27 : ∀ (x1 : Int32) (x2 : Int32) (s : ms), k_27 x1 x2 s = some y → gl s ≤ gl y.2) (x1 : Int32) (x2 : Int32) (x3 : Int32) (s : ms) (hf : bk_M_caseOf_152 N r_M_statement r_M_caseOf k_27 x1 x2 x3 s = some y) : gl s ≤ gl y.2 := by
  unfold bk_M_caseOf_152 at hf
  have hm : gl s ≤ gl s := Nat.le_refl _
  obtain ⟨q_1, hc_2, hf⟩ := dc_b hf
  have hm := Nat.le_trans hm (mn_M_lay N 11 0 0 s q_1 hc_2)
  exact Nat.le_trans hm (mo_M_caseOf_166 N r_M_statement r_M_caseOf hmr_M_statement hmr_M_caseOf k_27 y hkm_27 x1 x2 x3 ((s.1 42 0)) q_1.2 hf)
theorem mo_M_caseOf_137 (N : Nat) (r_M_statement : ms → Option (Unit × ms)) (r_M_caseOf : ms → Option (Unit × ms)) (hmr_M_statement : ∀ (s : ms) (y : (Unit × ms)), r_M_statement s = some y → gl s ≤ gl y.2) (hmr_M_caseOf : ∀ (s : ms) (y : (Unit × ms)), r_M_caseOf s = some y → gl s ≤ gl y.2) (k_27 : Int32 → Int32 → ms → Option (Unit × ms)) (k_42 : Int32 → Int32 → Int32 → Int32 → ms → Option (Unit × ms)) (y : (Unit × ms)) (hkm_27 : ∀ (x1 : Int32) (x2 : Int32) (s : ms), k_27 x1 x2 s = some y → gl s ≤ gl y.2) (hkm_42 : ∀ (x1 : Int32) (x2 : Int32) (x3 : Int32) (x4 : Int32) (s : ms), k_42 x1 x2 x3 x4 s = some y → gl s ≤ gl y.2) (x1 : Int32) (x2 : Int32) (x3 : Int32) (t0 : Int32) (s : ms) (hf : bk_M_caseOf_137 N r_M_statement r_M_caseOf k_27 k_42 x1 x2 x3 t0 s = some y) : gl s ≤ gl y.2 := by
  unfold bk_M_caseOf_137 at hf
  have hm : gl s ≤ gl s := Nat.le_refl _
  exact Nat.le_trans hm (hkm_42 x1 x2 x3 t0 (upI s 8 (fun _ => ((s.1 8 0) + 1))) hf)
theorem mo_M_caseOf_106 (N : Nat) (r_M_statement : ms → Option (Unit × ms)) (r_M_caseOf : ms → Option (Unit × ms)) (hmr_M_statement : ∀ (s : ms) (y : (Unit × ms)), r_M_statement s = some y → gl s ≤ gl y.2) (hmr_M_caseOf : ∀ (s : ms) (y : (Unit × ms)), r_M_caseOf s = some y → gl s ≤ gl y.2) (k_27 : Int32 → Int32 → ms → Option (Unit × ms)) (k_42 : Int32 → Int32 → Int32 → Int32 → ms → Option (Unit × ms)) (y : (Unit × ms)) (hkm_27 : ∀ (x1 : Int32) (x2 : Int32) (s : ms), k_27 x1 x2 s = some y → gl s ≤ gl y.2) (hkm_42 : ∀ (x1 : Int32) (x2 : Int32) (x3 : Int32) (x4 : Int32) (s : ms), k_42 x1 x2 x3 x4 s = some y → gl s ≤ gl y.2) (x1 : Int32) (x2 : Int32) (s : ms) (hf : bk_M_caseOf_106 N r_M_statement r_M_caseOf k_27 k_42 x1 x2 s = some y) : gl s ≤ gl y.2 := by
  unfold bk_M_caseOf_106 at hf
  have hm : gl s ≤ gl s := Nat.le_refl _
  obtain ⟨q_1, hc_2, hf⟩ := dc_b hf
  have hm := Nat.le_trans hm (Nat.le_of_eq (mn_M_kind N (upI s 8 (fun _ => ((s.1 8 0) + 1))) q_1 hc_2).symm)
  by_cases h : q_1.1 = 44
  · have hf := (if_pos h).symm.trans hf
    exact Nat.le_trans hm (mo_M_caseOf_137 N r_M_statement r_M_caseOf hmr_M_statement hmr_M_caseOf k_27 k_42 y hkm_27 hkm_42 x1 x2 (((s.1 42 0) - 3)) 1 q_1.2 hf)
  · have hf := (if_neg h).symm.trans hf
    exact Nat.le_trans hm (mo_M_caseOf_137 N r_M_statement r_M_caseOf hmr_M_statement hmr_M_caseOf k_27 k_42 y hkm_27 hkm_42 x1 x2 (((s.1 42 0) - 3)) 0 q_1.2 hf)
theorem mo_M_caseOf_103 (N : Nat) (r_M_statement : ms → Option (Unit × ms)) (r_M_caseOf : ms → Option (Unit × ms)) (hmr_M_statement : ∀ (s : ms) (y : (Unit × ms)), r_M_statement s = some y → gl s ≤ gl y.2) (hmr_M_caseOf : ∀ (s : ms) (y : (Unit × ms)), r_M_caseOf s = some y → gl s ≤ gl y.2) (k_27 : Int32 → Int32 → ms → Option (Unit × ms)) (k_42 : Int32 → Int32 → Int32 → Int32 → ms → Option (Unit × ms)) (y : (Unit × ms)) (hkm_27 : ∀ (x1 : Int32) (x2 : Int32) (s : ms), k_27 x1 x2 s = some y → gl s ≤ gl y.2) (hkm_42 : ∀ (x1 : Int32) (x2 : Int32) (x3 : Int32) (x4 : Int32) (s : ms), k_42 x1 x2 x3 x4 s = some y → gl s ≤ gl y.2) (x1 : Int32) (x2 : Int32) (t0 : Int32) (t1 : Int32) (t2 : Int32) (s : ms) (hf : bk_M_caseOf_103 N r_M_statement r_M_caseOf k_27 k_42 x1 x2 t0 t1 t2 s = some y) : gl s ≤ gl y.2 := by
  unfold bk_M_caseOf_103 at hf
  have hm : gl s ≤ gl s := Nat.le_refl _
  obtain ⟨q_1, hc_2, hf⟩ := dc_b hf
  have hm := Nat.le_trans hm (mn_M_lay N t2 t1 t0 s q_1 hc_2)
  exact Nat.le_trans hm (mo_M_caseOf_106 N r_M_statement r_M_caseOf hmr_M_statement hmr_M_caseOf k_27 k_42 y hkm_27 hkm_42 x1 x2 q_1.2 hf)
theorem mo_M_caseOf_81 (N : Nat) (r_M_statement : ms → Option (Unit × ms)) (r_M_caseOf : ms → Option (Unit × ms)) (hmr_M_statement : ∀ (s : ms) (y : (Unit × ms)), r_M_statement s = some y → gl s ≤ gl y.2) (hmr_M_caseOf : ∀ (s : ms) (y : (Unit × ms)), r_M_caseOf s = some y → gl s ≤ gl y.2) (k_27 : Int32 → Int32 → ms → Option (Unit × ms)) (k_42 : Int32 → Int32 → Int32 → Int32 → ms → Option (Unit × ms)) (y : (Unit × ms)) (hkm_27 : ∀ (x1 : Int32) (x2 : Int32) (s : ms), k_27 x1 x2 s = some y → gl s ≤ gl y.2) (hkm_42 : ∀ (x1 : Int32) (x2 : Int32) (x3 : Int32) (x4 : Int32) (s : ms), k_42 x1 x2 x3 x4 s = some y → gl s ≤ gl y.2) (x1 : Int32) (x2 : Int32) (x3 : Int32) (s : ms) (hf : bk_M_caseOf_81 N r_M_statement r_M_caseOf k_27 k_42 x1 x2 x3 s = some y) : gl s ≤ gl y.2 := by
  unfold bk_M_caseOf_81 at hf
  have hm : gl s ≤ gl s := Nat.le_refl _
  obtain ⟨q_1, hc_2, hf⟩ := dc_b hf
  have hm := Nat.le_trans hm (Nat.le_of_eq (mn_M_cost N ((Int32.toInt64 x1)) s q_1 hc_2).symm)
  obtain ⟨q_3, hc_4, hf⟩ := dc_b hf
  have hm := Nat.le_trans hm (Nat.le_of_eq (mn_M_numberOf N ((q_1.2.1 8 0)) q_1.2 q_3 hc_4).symm)
  obtain ⟨q_6, hc_7, hf⟩ := dc_b hf
  have hm := Nat.le_trans hm (mn_M_keepNumber N q_3.1 q_3.2 q_6 hc_7)
  exact Nat.le_trans hm (mo_M_caseOf_103 N r_M_statement r_M_caseOf hmr_M_statement hmr_M_caseOf k_27 k_42 y hkm_27 hkm_42 x1 x2 q_6.1 x3 12 q_6.2 hf)
theorem mb_M_caseOf_42 (N : Nat) (r_M_statement : ms → Option (Unit × ms)) (r_M_caseOf : ms → Option (Unit × ms)) (hmr_M_statement : ∀ (s : ms) (y : (Unit × ms)), r_M_statement s = some y → gl s ≤ gl y.2) (hmr_M_caseOf : ∀ (s : ms) (y : (Unit × ms)), r_M_caseOf s = some y → gl s ≤ gl y.2) (k_27 : Int32 → Int32 → ms → Option (Unit × ms)) (y : (Unit × ms)) (hkm_27 : ∀ (x1 : Int32) (x2 : Int32) (s : ms), k_27 x1 x2 s = some y → gl s ≤ gl y.2) (k_42 : Int32 → Int32 → Int32 → Int32 → ms → Option (Unit × ms)) (hkm_42 : ∀ (x1 : Int32) (x2 : Int32) (x3 : Int32) (x4 : Int32) (s : ms), k_42 x1 x2 x3 x4 s = some y → gl s ≤ gl y.2) (x1 : Int32) (x2 : Int32) (x3 : Int32) (x4 : Int32) (s : ms) (hf : bd_M_caseOf_42 N r_M_statement r_M_caseOf k_27 k_42 x1 x2 x3 x4 s = some y) : gl s ≤ gl y.2 := by
  unfold bd_M_caseOf_42 at hf
  have hm : gl s ≤ gl s := Nat.le_refl _
  by_cases h : x4 = 0
  · have hf := (if_pos h).symm.trans hf
    exact Nat.le_trans hm (mo_M_caseOf_152 N r_M_statement r_M_caseOf hmr_M_statement hmr_M_caseOf k_27 y hkm_27 x1 x2 x3 s hf)
  · have hf := (if_neg h).symm.trans hf
    by_cases h : (s.1 9 0) = 0
    · have hf := (if_pos h).symm.trans hf
      obtain ⟨q_1, hc_2, hf⟩ := dc_b hf
      have hm := Nat.le_trans hm (Nat.le_of_eq (mn_M_widthOfNumber N ((s.1 8 0)) s q_1 hc_2).symm)
      by_cases h : q_1.1 = x1
      · have hf := (if_pos h).symm.trans hf
        exact Nat.le_trans hm (mo_M_caseOf_81 N r_M_statement r_M_caseOf hmr_M_statement hmr_M_caseOf k_27 k_42 y hkm_27 hkm_42 x1 x2 x3 q_1.2 hf)
      · have hf := (if_neg h).symm.trans hf
        obtain ⟨_, hf⟩ := dc_g hf
        obtain ⟨q_5, hc_6, hf⟩ := dc_b hf
        have hm := Nat.le_trans hm (Nat.le_of_eq (mn_M_fail N 30 (((q_1.2.1 5) (Int32.toNatClampNeg ((q_1.2.1 8 0))))) q_1.2 q_5 hc_6).symm)
        exact Nat.le_trans hm (mo_M_caseOf_81 N r_M_statement r_M_caseOf hmr_M_statement hmr_M_caseOf k_27 k_42 y hkm_27 hkm_42 x1 x2 x3 q_5.2 hf)
    · have hf := (if_neg h).symm.trans hf
      exact Nat.le_trans hm (mo_M_caseOf_152 N r_M_statement r_M_caseOf hmr_M_statement hmr_M_caseOf k_27 y hkm_27 x1 x2 x3 s hf)
theorem mh_M_caseOf_42 (N : Nat) (r_M_statement : ms → Option (Unit × ms)) (r_M_caseOf : ms → Option (Unit × ms)) (hmr_M_statement : ∀ (s : ms) (y : (Unit × ms)), r_M_statement s = some y → gl s ≤ gl y.2) (hmr_M_caseOf : ∀ (s : ms) (y : (Unit × ms)), r_M_caseOf s = some y → gl s ≤ gl y.2) (k_27 : Int32 → Int32 → ms → Option (Unit × ms)) (y : (Unit × ms)) (hkm_27 : ∀ (x1 : Int32) (x2 : Int32) (s : ms), k_27 x1 x2 s = some y → gl s ≤ gl y.2) : ∀ (n : Nat) (x1 : Int32) (x2 : Int32) (x3 : Int32) (x4 : Int32) (s : ms), hd_M_caseOf_42 N r_M_statement r_M_caseOf k_27 n x1 x2 x3 x4 s = some y → gl s ≤ gl y.2 := by
  intro n
  induction n with
  | zero => intro x1 x2 x3 x4 s hf; cases hf
  | succ n ih => intro x1 x2 x3 x4 s hf; exact mb_M_caseOf_42 N r_M_statement r_M_caseOf hmr_M_statement hmr_M_caseOf k_27 y hkm_27 (hd_M_caseOf_42 N r_M_statement r_M_caseOf k_27 n) ih x1 x2 x3 x4 s hf
theorem mb_M_caseOf_27 (N : Nat) (r_M_statement : ms → Option (Unit × ms)) (r_M_caseOf : ms → Option (Unit × ms)) (hmr_M_statement : ∀ (s : ms) (y : (Unit × ms)), r_M_statement s = some y → gl s ≤ gl y.2) (hmr_M_caseOf : ∀ (s : ms) (y : (Unit × ms)), r_M_caseOf s = some y → gl s ≤ gl y.2) (y : (Unit × ms)) (k_27 : Int32 → Int32 → ms → Option (Unit × ms)) (hkm_27 : ∀ (x1 : Int32) (x2 : Int32) (s : ms), k_27 x1 x2 s = some y → gl s ≤ gl y.2) (x1 : Int32) (x2 : Int32) (s : ms) (hf : bd_M_caseOf_27 N r_M_statement r_M_caseOf k_27 x1 x2 s = some y) : gl s ≤ gl y.2 := by
  unfold bd_M_caseOf_27 at hf
  have hm : gl s ≤ gl s := Nat.le_refl _
  obtain ⟨q_1, hc_2, hf⟩ := dc_b hf
  have hm := Nat.le_trans hm (Nat.le_of_eq (mn_M_is N 402 s q_1 hc_2).symm)
  by_cases h : q_1.1 = 0
  · have hf := (if_pos h).symm.trans hf
    obtain ⟨q_4, hc_5, hf⟩ := dc_b hf
    have hm := Nat.le_trans hm (mn_M_lay N 13 0 0 q_1.2 q_4 hc_5)
    exact Nat.le_trans hm (mo_M_caseOf_222 N r_M_statement r_M_caseOf hmr_M_statement hmr_M_caseOf y x2 q_4.2 hf)
  · have hf := (if_neg h).symm.trans hf
    exact Nat.le_trans hm (mh_M_caseOf_42 N r_M_statement r_M_caseOf hmr_M_statement hmr_M_caseOf k_27 y hkm_27 N x1 x2 ((-1)) 1 q_1.2 hf)
theorem mh_M_caseOf_27 (N : Nat) (r_M_statement : ms → Option (Unit × ms)) (r_M_caseOf : ms → Option (Unit × ms)) (hmr_M_statement : ∀ (s : ms) (y : (Unit × ms)), r_M_statement s = some y → gl s ≤ gl y.2) (hmr_M_caseOf : ∀ (s : ms) (y : (Unit × ms)), r_M_caseOf s = some y → gl s ≤ gl y.2) (y : (Unit × ms)) : ∀ (n : Nat) (x1 : Int32) (x2 : Int32) (s : ms), hd_M_caseOf_27 N r_M_statement r_M_caseOf n x1 x2 s = some y → gl s ≤ gl y.2 := by
  intro n
  induction n with
  | zero => intro x1 x2 s hf; cases hf
  | succ n ih => intro x1 x2 s hf; exact mb_M_caseOf_27 N r_M_statement r_M_caseOf hmr_M_statement hmr_M_caseOf y (hd_M_caseOf_27 N r_M_statement r_M_caseOf n) ih x1 x2 s hf
theorem mo_M_caseOf_14 (N : Nat) (r_M_statement : ms → Option (Unit × ms)) (r_M_caseOf : ms → Option (Unit × ms)) (hmr_M_statement : ∀ (s : ms) (y : (Unit × ms)), r_M_statement s = some y → gl s ≤ gl y.2) (hmr_M_caseOf : ∀ (s : ms) (y : (Unit × ms)), r_M_caseOf s = some y → gl s ≤ gl y.2) (y : (Unit × ms)) (t0 : Int32) (s : ms) (hf : bk_M_caseOf_14 N r_M_statement r_M_caseOf t0 s = some y) : gl s ≤ gl y.2 := by
  unfold bk_M_caseOf_14 at hf
  have hm : gl s ≤ gl s := Nat.le_refl _
  exact Nat.le_trans hm (mh_M_caseOf_27 N r_M_statement r_M_caseOf hmr_M_statement hmr_M_caseOf y N t0 ((-1)) (upI s 8 (fun _ => ((s.1 8 0) + 1))) hf)
theorem mf_M_caseOf (N : Nat) (r_M_statement : ms → Option (Unit × ms)) (r_M_caseOf : ms → Option (Unit × ms)) (hmr_M_statement : ∀ (s : ms) (y : (Unit × ms)), r_M_statement s = some y → gl s ≤ gl y.2) (hmr_M_caseOf : ∀ (s : ms) (y : (Unit × ms)), r_M_caseOf s = some y → gl s ≤ gl y.2) (s1 : ms) (y : (Unit × ms)) (hf : fb_M_caseOf N r_M_statement r_M_caseOf s1 = some y) : gl s1 ≤ gl y.2 := by
  unfold fb_M_caseOf at hf
  have hm : gl s1 ≤ gl s1 := Nat.le_refl _
  obtain ⟨q_1, hc_2, hf⟩ := dc_b hf
  have hm := Nat.le_trans hm (mn_M_exp N (upI s1 8 (fun _ => ((s1.1 8 0) + 2))) q_1 hc_2)
  exact Nat.le_trans hm (mo_M_caseOf_14 N r_M_statement r_M_caseOf hmr_M_statement hmr_M_caseOf y q_1.1 q_1.2 hf)
set_option maxHeartbeats 8000000 in
set_option maxRecDepth 100000 in
theorem cb_M_statement (l : Launch) (dC : Nat → ClassId) (dI : Nat → Nat → Nat) (cI cB cJ cZ cQ : ClassId) (N d : Nat) (r_M_statement : ms → Option (Unit × ms)) (r_M_caseOf : ms → Option (Unit × ms)) (hmr_M_statement : ∀ (s : ms) (y : (Unit × ms)), r_M_statement s = some y → gl s ≤ gl y.2) (hmr_M_caseOf : ∀ (s : ms) (y : (Unit × ms)), r_M_caseOf s = some y → gl s ≤ gl y.2) (hr_M_statement : ∀ (sz : Nat) (h0 : Nat) (a : Nat → Nat) (s : ms) (y : (Unit × ms)), r_M_statement s = some y → Met l yn_M_statement (xw yn_M_statement bn_M_statement 3 none) ({ frames := 407 + d, cells := 2 * (gl y.2 - gl s), slots := 2 * (gl y.2 - gl s), locals := 9766 + d * 25 }) (dc_P (dC, dI) xcl (xt cI cB cJ cZ cQ) [.ref h0] sz (wM h0 a cI cB cJ cZ s)) (xk_Qv (dC, dI) xcl (xt cI cB cJ cZ cQ) (fun _ : Nat → Nat => True) (fun u : Nat → Nat => (wM h0 u cI cB cJ cZ y.2)) (va_A (wM h0 a cI cB cJ cZ s) sz)) (2 * (gl y.2 - gl s)) (2 * (gl y.2 - gl s)) (va_A (wM h0 a cI cB cJ cZ s) sz)) (hr_M_caseOf : ∀ (sz : Nat) (h0 : Nat) (a : Nat → Nat) (s : ms) (y : (Unit × ms)), r_M_caseOf s = some y → Met l yn_M_caseOf (xw yn_M_caseOf bn_M_caseOf 6 none) ({ frames := 407 + d, cells := 2 * (gl y.2 - gl s), slots := 2 * (gl y.2 - gl s), locals := 9766 + d * 25 }) (dc_P (dC, dI) xcl (xt cI cB cJ cZ cQ) [.ref h0] sz (wM h0 a cI cB cJ cZ s)) (xk_Qv (dC, dI) xcl (xt cI cB cJ cZ cQ) (fun _ : Nat → Nat => True) (fun u : Nat → Nat => (wM h0 u cI cB cJ cZ y.2)) (va_A (wM h0 a cI cB cJ cZ s) sz)) (2 * (gl y.2 - gl s)) (2 * (gl y.2 - gl s)) (va_A (wM h0 a cI cB cJ cZ s) sz)) (sz : Nat) (h0 : Nat) (a : Nat → Nat) (s1 : ms) (y : (Unit × ms)) (hf : fb_M_statement N r_M_statement r_M_caseOf s1 = some y) : Met l yn_M_statement (xw yn_M_statement bn_M_statement 3 none) ({ frames := 407 + (d + 1), cells := 2 * (gl y.2 - gl s1), slots := 2 * (gl y.2 - gl s1), locals := 9766 + (d + 1) * 25 }) (dc_P (dC, dI) xcl (xt cI cB cJ cZ cQ) [.ref h0] sz (wM h0 a cI cB cJ cZ s1)) (xk_Qv (dC, dI) xcl (xt cI cB cJ cZ cQ) (fun _ : Nat → Nat => True) (fun u : Nat → Nat => (wM h0 u cI cB cJ cZ y.2)) (va_A (wM h0 a cI cB cJ cZ s1) sz)) (2 * (gl y.2 - gl s1)) (2 * (gl y.2 - gl s1)) (va_A (wM h0 a cI cB cJ cZ s1) sz) := by
  refine dc_of (QA := xk_Qv (dC, dI) xcl (xt cI cB cJ cZ cQ) (fun _ : Nat → Nat => True) (fun u : Nat → Nat => (wM h0 u cI cB cJ cZ y.2))) (by decide) (Nat.le_of_ble_eq_true rfl) ?_
  intro p e s0 m below meth c hx hb hml hown hg hr hlocks hin hP hK hN A hA hD hT ls hl
  have hown : s0.vm.findClass rn_M = some m.cls := hown
  obtain ⟨H, hH⟩ : ∃ z, z = s0.heap := ⟨_, rfl⟩
  rw [← hH] at hP
  have hS : va_S A s0.heap H [] := by rw [hH]; exact va_S.rf
  suffices kk : ∀ QQ : State → Prop, QQ = MQ below (xk_Qv (dC, dI) xcl (xt cI cB cJ cZ cQ) (fun _ : Nat → Nat => True) (fun u : Nat → Nat => (wM h0 u cI cB cJ cZ y.2)) A) [.ref h0].toArray s0 (2 * (gl y.2 - gl s1)) (2 * (gl y.2 - gl s1)) A → gl s1 ≤ gl s1 → dcG p l e ({ frames := 407 + (d + 1), cells := 2 * (gl y.2 - gl s1), slots := 2 * (gl y.2 - gl s1), locals := 9766 + (d + 1) * 25 }) s0 m [.ref h0].toArray below meth c QQ (dC, dI) A (fun a => (wM h0 a cI cB cJ cZ s1)) (2 * (gl s1 - gl s1)) 0 3 [(0, .ref h0)] [] by
    have k9 := kk _ rfl (Nat.le_refl _) a H [] ls hP hD hS hl
    rw [hH, Nat.sub_self] at k9; exact k9
  clear hP hD hS hl hH H ls
  intro QQ hQQ
  have bl_221 : ∀ (s : ms), bk_M_statement_221 N r_M_statement r_M_caseOf s = some y → gl s1 ≤ gl s → dcG p l e ({ frames := 407 + (d + 1), cells := 2 * (gl y.2 - gl s1), slots := 2 * (gl y.2 - gl s1), locals := 9766 + (d + 1) * 25 }) s0 m [.ref h0].toArray below meth c QQ (dC, dI) A (fun a => (wM h0 a cI cB cJ cZ s)) (2 * (gl s - gl s1)) 221 3 [] [] := by
    intro s hf hge a H locs ls hP hD hS hl
    have hle := mo_M_statement_221 N r_M_statement r_M_caseOf hmr_M_statement hmr_M_caseOf y s hf
    unfold bk_M_statement_221 at hf
    rw [hQQ, ← Option.some.inj hf]
    exact xk_vret (w1 := fun u : Nat → Nat => (wM h0 u cI cB cJ cZ s)) a hx hb hr hlocks hK hS dn_M_statement_221 hP hD trivial (Nat.le_refl _) (Nat.le_refl _)
  have bl_214 : ∀ (s : ms), bk_M_statement_214 N r_M_statement r_M_caseOf s = some y → gl s1 ≤ gl s → dcG p l e ({ frames := 407 + (d + 1), cells := 2 * (gl y.2 - gl s1), slots := 2 * (gl y.2 - gl s1), locals := 9766 + (d + 1) * 25 }) s0 m [.ref h0].toArray below meth c QQ (dC, dI) A (fun a => (wM h0 a cI cB cJ cZ s)) (2 * (gl s - gl s1)) 214 3 [] [] := by
    intro s hf hge a H locs ls hP hD hS hl
    have hle := mo_M_statement_214 N r_M_statement r_M_caseOf hmr_M_statement hmr_M_caseOf y s hf
    unfold bk_M_statement_214 at hf
    refine lv_goto (tgt := 221) hx hb dn_M_statement_214 (by decide) ?_
    exact bl_221 s hf hge a H locs ls hP hD hS hl
  have bl_170 : ∀ (x2 : Int32) (s : ms), bk_M_statement_170 N r_M_statement r_M_caseOf x2 s = some y → gl s1 ≤ gl s → dcG p l e ({ frames := 407 + (d + 1), cells := 2 * (gl y.2 - gl s1), slots := 2 * (gl y.2 - gl s1), locals := 9766 + (d + 1) * 25 }) s0 m [.ref h0].toArray below meth c QQ (dC, dI) A (fun a => (wM h0 a cI cB cJ cZ s)) (2 * (gl s - gl s1)) 170 3 [(0, .ref h0), (2, .int x2)] [] := by
    intro x2 s hf hge a H locs ls hP hD hS hl
    have hle := mo_M_statement_170 N r_M_statement r_M_caseOf hmr_M_statement hmr_M_caseOf y x2 s hf
    unfold bk_M_statement_170 at hf
    refine lv_aload_n hx hb dn_M_statement_170 rfl (lv_at hl 0 rfl) ?_
    refine va_get (D := (dC, dI)) (ci := 0) (v := .ref ((a 41))) (C := rn_M) (T := fn_M) (N := 91) hx hb hg in_M hown hK hP 0 rfl rfl 41 (by decide) (hg _ wn_8_114) (fun _ h9 => h9) rfl dn_M_statement_171 ?_
    refine lv_iload_n hx hb dn_M_statement_174 rfl (lv_at hl 1 rfl) ?_
    refine lv_iconst (v := 1) hx hb dn_M_statement_175 (by decide) ?_
    refine lv_iadd hx hb dn_M_statement_176 ?_
    refine lv_aload_n hx hb dn_M_statement_177 rfl (lv_at hl 0 rfl) ?_
    refine va_get (D := (dC, dI)) (ci := 0) (v := .int ((s.1 42 0))) (C := rn_M) (T := fn_M) (N := 91) hx hb hg in_M hown hK hP 0 rfl rfl 42 (by decide) (hg _ wn_8_115) (fun _ h9 => h9) rfl dn_M_statement_178 ?_
    obtain ⟨hg_1, hf⟩ := dc_g hf
    refine va_iast hx hb hK hP hD hS 28 0 rfl rfl hg_1 dn_M_statement_181 (fun H locs hP hD hS => ?_)
    have hP : va_P (dC, dI) xcl ((wM h0 a cI cB cJ cZ s).set 28 ((a 41), .inl (cI, (s.1 91 0).toNatClampNeg, .inl (upd (s.1 41) (Int32.toNatClampNeg ((x2 + 1))) ((s.1 42 0)))))) H := hP
    have hD : va_D A ((wM h0 a cI cB cJ cZ s).set 28 ((a 41), .inl (cI, (s.1 91 0).toNatClampNeg, .inl (upd (s.1 41) (Int32.toNatClampNeg ((x2 + 1))) ((s.1 42 0)))))) := hD
    have hP := wM_P_41 hP
    have hD := wM_D_41 hD
    refine lv_goto (tgt := 197) hx hb dn_M_statement_182 (by decide) ?_
    refine lv_goto (tgt := 221) hx hb dn_M_statement_197 (by decide) ?_
    exact bl_221 (upI s 41 (upd (s.1 41) (Int32.toNatClampNeg ((x2 + 1))) ((s.1 42 0)))) hf hge a H locs ls hP hD hS (lv_sub hl [] rfl)
  have bl_154 : ∀ (x1 : Int32) (x2 : Int32) (s : ms), bk_M_statement_154 N r_M_statement r_M_caseOf x1 x2 s = some y → gl s1 ≤ gl s → dcG p l e ({ frames := 407 + (d + 1), cells := 2 * (gl y.2 - gl s1), slots := 2 * (gl y.2 - gl s1), locals := 9766 + (d + 1) * 25 }) s0 m [.ref h0].toArray below meth c QQ (dC, dI) A (fun a => (wM h0 a cI cB cJ cZ s)) (2 * (gl s - gl s1)) 154 3 [(0, .ref h0), (1, .int x1), (2, .int x2)] [] := by
    intro x1 x2 s hf hge a H locs ls hP hD hS hl
    have hle := mo_M_statement_154 N r_M_statement r_M_caseOf hmr_M_statement hmr_M_caseOf y x1 x2 s hf
    unfold bk_M_statement_154 at hf
    refine lv_aload_n hx hb dn_M_statement_154 rfl (lv_at hl 0 rfl) ?_
    refine va_get (D := (dC, dI)) (ci := 0) (v := .ref ((a 41))) (C := rn_M) (T := fn_M) (N := 91) hx hb hg in_M hown hK hP 0 rfl rfl 41 (by decide) (hg _ wn_8_114) (fun _ h9 => h9) rfl dn_M_statement_155 ?_
    refine lv_iload_n hx hb dn_M_statement_158 rfl (lv_at hl 1 rfl) ?_
    refine lv_iconst (v := 1) hx hb dn_M_statement_159 (by decide) ?_
    refine lv_iadd hx hb dn_M_statement_160 ?_
    refine lv_aload_n hx hb dn_M_statement_161 rfl (lv_at hl 0 rfl) ?_
    refine va_get (D := (dC, dI)) (ci := 0) (v := .int ((s.1 42 0))) (C := rn_M) (T := fn_M) (N := 91) hx hb hg in_M hown hK hP 0 rfl rfl 42 (by decide) (hg _ wn_8_115) (fun _ h9 => h9) rfl dn_M_statement_162 ?_
    obtain ⟨hg_1, hf⟩ := dc_g hf
    refine va_iast hx hb hK hP hD hS 28 0 rfl rfl hg_1 dn_M_statement_165 (fun H locs hP hD hS => ?_)
    have hP : va_P (dC, dI) xcl ((wM h0 a cI cB cJ cZ s).set 28 ((a 41), .inl (cI, (s.1 91 0).toNatClampNeg, .inl (upd (s.1 41) (Int32.toNatClampNeg ((x1 + 1))) ((s.1 42 0)))))) H := hP
    have hD : va_D A ((wM h0 a cI cB cJ cZ s).set 28 ((a 41), .inl (cI, (s.1 91 0).toNatClampNeg, .inl (upd (s.1 41) (Int32.toNatClampNeg ((x1 + 1))) ((s.1 42 0)))))) := hD
    have hP := wM_P_41 hP
    have hD := wM_D_41 hD
    refine lv_aload_n hx hb dn_M_statement_166 rfl (lv_at hl 0 rfl) ?_
    obtain ⟨q_2, hc_3, hf⟩ := dc_b hf
    have hmg := hmr_M_statement (upI s 41 (upd (s.1 41) (Int32.toNatClampNeg ((x1 + 1))) ((s.1 42 0)))) q_2 hc_3
    have hle2 : gl q_2.2 ≤ gl y.2 := mo_M_statement_170 N r_M_statement r_M_caseOf hmr_M_statement hmr_M_caseOf y _ _ hf
    refine dc_callv (dc_runV (ar := 0) (As := []) (rest := []) (ci := 0) (q0 := 0) ⟨hx, hb, hml, hown, hg⟩ hK hN hT hS hA (hr_M_statement H.size h0 a (upI s 41 (upd (s.1 41) (Int32.toNatClampNeg ((x1 + 1))) ((s.1 42 0)))) q_2 hc_3) hP hD rfl rfl wn_10_121 wn_10_123 sn_M_statement wn_1_13 wn_10_124 rfl rfl (by decide +kernel) ⟨Nat.le_refl _, dc_lm (Nat.le_of_ble_eq_true rfl)⟩ rfl hl.1 rfl (Nat.le_of_ble_eq_true rfl) dn_M_statement_167 (dc_rm hge hmg hle2)) hP hD hS hA (fun a H locs hw hP hD hS => ?_)
    refine W.widen (k := 2 * (gl q_2.2 - gl s1)) (n := 2 * (gl q_2.2 - gl s1)) (dc_wa hge hmg) (dc_wa hge hmg) ?_
    have hge := Nat.le_trans hge hmg
    have hle := hle2
    exact bl_170 x2 q_2.2 hf hge a H locs ls hP hD hS (lv_sub hl [0, 2] rfl)
  have bl_121 : ∀ (x1 : Int32) (s : ms), bk_M_statement_121 N r_M_statement r_M_caseOf x1 s = some y → gl s1 ≤ gl s → dcG p l e ({ frames := 407 + (d + 1), cells := 2 * (gl y.2 - gl s1), slots := 2 * (gl y.2 - gl s1), locals := 9766 + (d + 1) * 25 }) s0 m [.ref h0].toArray below meth c QQ (dC, dI) A (fun a => (wM h0 a cI cB cJ cZ s)) (2 * (gl s - gl s1)) 121 3 [(0, .ref h0), (1, .int x1)] [] := by
    intro x1 s hf hge a H locs ls hP hD hS hl
    have hle := mo_M_statement_121 N r_M_statement r_M_caseOf hmr_M_statement hmr_M_caseOf y x1 s hf
    unfold bk_M_statement_121 at hf
    refine lv_aload_n hx hb dn_M_statement_121 rfl (lv_at hl 0 rfl) ?_
    refine lv_sipush (v := 313) hx hb dn_M_statement_122 (by decide) ?_
    obtain ⟨q_1, hc_2, hf⟩ := dc_b hf
    have hme := mn_M_is N 313 s q_1 hc_2
    refine dc_calli (dc_runV (ar := 1) (As := [.int 313]) (rest := []) (ci := 0) (q0 := 0) ⟨hx, hb, hml, hown, hg⟩ hK hN hT hS hA (ct_M_is l dC dI cI cB cJ cZ cQ N H.size h0 a 313 s q_1 hc_2) hP hD rfl rfl wn_9_194 wn_9_196 sn_M_is wn_1_13 wn_9_197 rfl rfl (by decide +kernel) ⟨dc_ra (Nat.le_of_ble_eq_true rfl), dc_ra (Nat.le_of_ble_eq_true rfl)⟩ rfl hl.1 rfl (Nat.le_of_ble_eq_true rfl) dn_M_statement_125 (dc_rm0 hle)) hP hD hS hA (fun r_3 _ H locs hw hP hD hS => ?_)
    refine W.widen (k := 2 * (gl q_1.2 - gl s1)) (n := 2 * (gl q_1.2 - gl s1)) (dc_we hme) (dc_we hme) ?_
    have hge := Nat.le_trans hge (Nat.le_of_eq hme.symm)
    have hle := Nat.le_trans (Nat.le_of_eq hme) hle
    have hw : r_3 = q_1.1 := hw
    subst hw
    refine lv_if_eq (tgt := 185) hx hb dn_M_statement_128 (by decide) (fun h => ?_) (fun h => ?_)
    · have hf := (if_pos h).symm.trans hf
      refine lv_aload_n hx hb dn_M_statement_185 rfl (lv_at hl 0 rfl) ?_
      refine va_get (D := (dC, dI)) (ci := 0) (v := .ref ((a 41))) (C := rn_M) (T := fn_M) (N := 91) hx hb hg in_M hown hK hP 0 rfl rfl 41 (by decide) (hg _ wn_8_114) (fun _ h9 => h9) rfl dn_M_statement_186 ?_
      refine lv_iload_n hx hb dn_M_statement_189 rfl (lv_at hl 1 rfl) ?_
      refine lv_iconst (v := 1) hx hb dn_M_statement_190 (by decide) ?_
      refine lv_iadd hx hb dn_M_statement_191 ?_
      refine lv_aload_n hx hb dn_M_statement_192 rfl (lv_at hl 0 rfl) ?_
      refine va_get (D := (dC, dI)) (ci := 0) (v := .int ((q_1.2.1 42 0))) (C := rn_M) (T := fn_M) (N := 91) hx hb hg in_M hown hK hP 0 rfl rfl 42 (by decide) (hg _ wn_8_115) (fun _ h9 => h9) rfl dn_M_statement_193 ?_
      obtain ⟨hg_4, hf⟩ := dc_g hf
      refine va_iast hx hb hK hP hD hS 28 0 rfl rfl hg_4 dn_M_statement_196 (fun H locs hP hD hS => ?_)
      have hP : va_P (dC, dI) xcl ((wM h0 a cI cB cJ cZ q_1.2).set 28 ((a 41), .inl (cI, (q_1.2.1 91 0).toNatClampNeg, .inl (upd (q_1.2.1 41) (Int32.toNatClampNeg ((x1 + 1))) ((q_1.2.1 42 0)))))) H := hP
      have hD : va_D A ((wM h0 a cI cB cJ cZ q_1.2).set 28 ((a 41), .inl (cI, (q_1.2.1 91 0).toNatClampNeg, .inl (upd (q_1.2.1 41) (Int32.toNatClampNeg ((x1 + 1))) ((q_1.2.1 42 0)))))) := hD
      have hP := wM_P_41 hP
      have hD := wM_D_41 hD
      refine lv_goto (tgt := 221) hx hb dn_M_statement_197 (by decide) ?_
      exact bl_221 (upI q_1.2 41 (upd (q_1.2.1 41) (Int32.toNatClampNeg ((x1 + 1))) ((q_1.2.1 42 0)))) hf hge a H locs ls hP hD hS (lv_sub hl [] rfl)
    · have hf := (if_neg h).symm.trans hf
      refine lv_aload_n hx hb dn_M_statement_131 rfl (lv_at hl 0 rfl) ?_
      refine lv_dup hx hb dn_M_statement_132 rfl ?_
      refine va_get (D := (dC, dI)) (ci := 0) (v := .int ((q_1.2.1 8 0))) (C := rn_M) (T := fn_M) (N := 91) hx hb hg in_M hown hK hP 0 rfl rfl 8 (by decide) (hg _ wn_8_81) (fun _ h9 => h9) rfl dn_M_statement_133 ?_
      refine lv_iconst (v := 1) hx hb dn_M_statement_136 (by decide) ?_
      refine lv_iadd hx hb dn_M_statement_137 ?_
      refine va_put (D := (dC, dI)) (ci := 0) (v := .int (((q_1.2.1 8 0) + 1))) (ty := .int) (C := rn_M) (T := fn_M) (N := 91) hx hb hg in_M tn_M tk_M nn_M hown hK hP hD hS 0 rfl rfl 8 (by decide) (hg _ wn_8_81) (fun _ h9 => h9) rfl (tk_M 8 (by decide)) rfl rfl (Nat.le_of_ble_eq_true rfl) dn_M_statement_138 (fun H locs hP hD hS => ?_)
      have hP := wM_P_8 hP
      have hD := wM_D_8 hD
      refine lv_aload_n hx hb dn_M_statement_141 rfl (lv_at hl 0 rfl) ?_
      refine va_get (D := (dC, dI)) (ci := 0) (v := .int ((q_1.2.1 42 0))) (C := rn_M) (T := fn_M) (N := 91) hx hb hg in_M hown hK hP 0 rfl rfl 42 (by decide) (hg _ wn_8_115) (fun _ h9 => h9) rfl dn_M_statement_142 ?_
      refine lv_istore_n (lv' := [(2, .int ((q_1.2.1 42 0))), (0, .ref h0), (1, .int x1)]) hx hb dn_M_statement_145 rfl hl (by decide) rfl (fun ls hl => ?_)
      refine lv_aload_n hx hb dn_M_statement_146 rfl (lv_at hl 1 rfl) ?_
      refine lv_bipush (v := 11) hx hb dn_M_statement_147 (by decide) ?_
      refine lv_iconst (v := 0) hx hb dn_M_statement_149 (by decide) ?_
      refine lv_iconst (v := 0) hx hb dn_M_statement_150 (by decide) ?_
      obtain ⟨q_4, hc_5, hf⟩ := dc_b hf
      have hmg := mn_M_lay N 11 0 0 (upI q_1.2 8 (fun _ => ((q_1.2.1 8 0) + 1))) q_4 hc_5
      have hle2 : gl q_4.2 ≤ gl y.2 := mo_M_statement_154 N r_M_statement r_M_caseOf hmr_M_statement hmr_M_caseOf y _ _ _ hf
      refine dc_callv (dc_runV (ar := 3) (As := [.int 11, .int 0, .int 0]) (rest := []) (ci := 0) (q0 := 0) ⟨hx, hb, hml, hown, hg⟩ hK hN hT hS hA (ct_M_lay l dC dI cI cB cJ cZ cQ N H.size h0 a 11 0 0 (upI q_1.2 8 (fun _ => ((q_1.2.1 8 0) + 1))) q_4 hc_5) hP hD rfl rfl wn_10_97 wn_10_99 sn_M_lay wn_1_13 wn_10_100 rfl rfl (by decide +kernel) ⟨dc_ra (Nat.le_of_ble_eq_true rfl), dc_ra (Nat.le_of_ble_eq_true rfl)⟩ rfl hl.1 rfl (Nat.le_of_ble_eq_true rfl) dn_M_statement_151 (dc_rm hge hmg hle2)) hP hD hS hA (fun a H locs hw hP hD hS => ?_)
      refine W.widen (k := 2 * (gl q_4.2 - gl s1)) (n := 2 * (gl q_4.2 - gl s1)) (dc_wa hge hmg) (dc_wa hge hmg) ?_
      have hge := Nat.le_trans hge hmg
      have hle := hle2
      exact bl_154 x1 ((q_1.2.1 42 0)) q_4.2 hf hge a H locs ls hP hD hS (lv_sub hl [1, 2, 0] rfl)
  have bl_117 : ∀ (x1 : Int32) (s : ms), bk_M_statement_117 N r_M_statement r_M_caseOf x1 s = some y → gl s1 ≤ gl s → dcG p l e ({ frames := 407 + (d + 1), cells := 2 * (gl y.2 - gl s1), slots := 2 * (gl y.2 - gl s1), locals := 9766 + (d + 1) * 25 }) s0 m [.ref h0].toArray below meth c QQ (dC, dI) A (fun a => (wM h0 a cI cB cJ cZ s)) (2 * (gl s - gl s1)) 117 3 [(0, .ref h0), (1, .int x1)] [] := by
    intro x1 s hf hge a H locs ls hP hD hS hl
    have hle := mo_M_statement_117 N r_M_statement r_M_caseOf hmr_M_statement hmr_M_caseOf y x1 s hf
    unfold bk_M_statement_117 at hf
    refine lv_aload_n hx hb dn_M_statement_117 rfl (lv_at hl 0 rfl) ?_
    obtain ⟨q_1, hc_2, hf⟩ := dc_b hf
    have hmg := hmr_M_statement s q_1 hc_2
    have hle2 : gl q_1.2 ≤ gl y.2 := mo_M_statement_121 N r_M_statement r_M_caseOf hmr_M_statement hmr_M_caseOf y _ _ hf
    refine dc_callv (dc_runV (ar := 0) (As := []) (rest := []) (ci := 0) (q0 := 0) ⟨hx, hb, hml, hown, hg⟩ hK hN hT hS hA (hr_M_statement H.size h0 a s q_1 hc_2) hP hD rfl rfl wn_10_121 wn_10_123 sn_M_statement wn_1_13 wn_10_124 rfl rfl (by decide +kernel) ⟨Nat.le_refl _, dc_lm (Nat.le_of_ble_eq_true rfl)⟩ rfl hl.1 rfl (Nat.le_of_ble_eq_true rfl) dn_M_statement_118 (dc_rm hge hmg hle2)) hP hD hS hA (fun a H locs hw hP hD hS => ?_)
    refine W.widen (k := 2 * (gl q_1.2 - gl s1)) (n := 2 * (gl q_1.2 - gl s1)) (dc_wa hge hmg) (dc_wa hge hmg) ?_
    have hge := Nat.le_trans hge hmg
    have hle := hle2
    exact bl_121 x1 q_1.2 hf hge a H locs ls hP hD hS hl
  have bl_90 : ∀ (t0 : Int32) (s : ms), bk_M_statement_90 N r_M_statement r_M_caseOf t0 s = some y → gl s1 ≤ gl s → dcG p l e ({ frames := 407 + (d + 1), cells := 2 * (gl y.2 - gl s1), slots := 2 * (gl y.2 - gl s1), locals := 9766 + (d + 1) * 25 }) s0 m [.ref h0].toArray below meth c QQ (dC, dI) A (fun a => (wM h0 a cI cB cJ cZ s)) (2 * (gl s - gl s1)) 90 3 [(0, .ref h0)] [.int t0, .ref h0] := by
    intro t0 s hf hge a H locs ls hP hD hS hl
    have hle := mo_M_statement_90 N r_M_statement r_M_caseOf hmr_M_statement hmr_M_caseOf y t0 s hf
    unfold bk_M_statement_90 at hf
    refine lv_i2l (v := Int32.toInt64 t0) hx hb dn_M_statement_90 rfl ?_
    obtain ⟨q_1, hc_2, hf⟩ := dc_b hf
    have hme := mn_M_cost N ((Int32.toInt64 t0)) s q_1 hc_2
    refine dc_callv (dc_runV (ar := 1) (As := [.long ((Int32.toInt64 t0))]) (rest := []) (ci := 0) (q0 := 0) ⟨hx, hb, hml, hown, hg⟩ hK hN hT hS hA (ct_M_cost l dC dI cI cB cJ cZ cQ N H.size h0 a ((Int32.toInt64 t0)) s q_1 hc_2) hP hD rfl rfl wn_10_109 wn_10_111 sn_M_cost wn_1_13 wn_10_112 rfl rfl (by decide +kernel) ⟨dc_ra (Nat.le_of_ble_eq_true rfl), dc_ra (Nat.le_of_ble_eq_true rfl)⟩ rfl hl.1 rfl (Nat.le_of_ble_eq_true rfl) dn_M_statement_91 (dc_rm0 hle)) hP hD hS hA (fun _ H locs hw hP hD hS => ?_)
    refine W.widen (k := 2 * (gl q_1.2 - gl s1)) (n := 2 * (gl q_1.2 - gl s1)) (dc_we hme) (dc_we hme) ?_
    have hge := Nat.le_trans hge (Nat.le_of_eq hme.symm)
    have hle := Nat.le_trans (Nat.le_of_eq hme) hle
    refine lv_aload_n hx hb dn_M_statement_94 rfl (lv_at hl 0 rfl) ?_
    refine lv_dup hx hb dn_M_statement_95 rfl ?_
    refine va_get (D := (dC, dI)) (ci := 0) (v := .int ((q_1.2.1 8 0))) (C := rn_M) (T := fn_M) (N := 91) hx hb hg in_M hown hK hP 0 rfl rfl 8 (by decide) (hg _ wn_8_81) (fun _ h9 => h9) rfl dn_M_statement_96 ?_
    refine lv_iconst (v := 1) hx hb dn_M_statement_99 (by decide) ?_
    refine lv_iadd hx hb dn_M_statement_100 ?_
    refine va_put (D := (dC, dI)) (ci := 0) (v := .int (((q_1.2.1 8 0) + 1))) (ty := .int) (C := rn_M) (T := fn_M) (N := 91) hx hb hg in_M tn_M tk_M nn_M hown hK hP hD hS 0 rfl rfl 8 (by decide) (hg _ wn_8_81) (fun _ h9 => h9) rfl (tk_M 8 (by decide)) rfl rfl (Nat.le_of_ble_eq_true rfl) dn_M_statement_101 (fun H locs hP hD hS => ?_)
    have hP := wM_P_8 hP
    have hD := wM_D_8 hD
    refine lv_aload_n hx hb dn_M_statement_104 rfl (lv_at hl 0 rfl) ?_
    refine va_get (D := (dC, dI)) (ci := 0) (v := .int ((q_1.2.1 42 0))) (C := rn_M) (T := fn_M) (N := 91) hx hb hg in_M hown hK hP 0 rfl rfl 42 (by decide) (hg _ wn_8_115) (fun _ h9 => h9) rfl dn_M_statement_105 ?_
    refine lv_istore_n (lv' := [(1, .int ((q_1.2.1 42 0))), (0, .ref h0)]) hx hb dn_M_statement_108 rfl hl (by decide) rfl (fun ls hl => ?_)
    refine lv_aload_n hx hb dn_M_statement_109 rfl (lv_at hl 1 rfl) ?_
    refine lv_bipush (v := 10) hx hb dn_M_statement_110 (by decide) ?_
    refine lv_iconst (v := 0) hx hb dn_M_statement_112 (by decide) ?_
    refine lv_iconst (v := 0) hx hb dn_M_statement_113 (by decide) ?_
    obtain ⟨q_3, hc_4, hf⟩ := dc_b hf
    have hmg := mn_M_lay N 10 0 0 (upI q_1.2 8 (fun _ => ((q_1.2.1 8 0) + 1))) q_3 hc_4
    have hle2 : gl q_3.2 ≤ gl y.2 := mo_M_statement_117 N r_M_statement r_M_caseOf hmr_M_statement hmr_M_caseOf y _ _ hf
    refine dc_callv (dc_runV (ar := 3) (As := [.int 10, .int 0, .int 0]) (rest := []) (ci := 0) (q0 := 0) ⟨hx, hb, hml, hown, hg⟩ hK hN hT hS hA (ct_M_lay l dC dI cI cB cJ cZ cQ N H.size h0 a 10 0 0 (upI q_1.2 8 (fun _ => ((q_1.2.1 8 0) + 1))) q_3 hc_4) hP hD rfl rfl wn_10_97 wn_10_99 sn_M_lay wn_1_13 wn_10_100 rfl rfl (by decide +kernel) ⟨dc_ra (Nat.le_of_ble_eq_true rfl), dc_ra (Nat.le_of_ble_eq_true rfl)⟩ rfl hl.1 rfl (Nat.le_of_ble_eq_true rfl) dn_M_statement_114 (dc_rm hge hmg hle2)) hP hD hS hA (fun a H locs hw hP hD hS => ?_)
    refine W.widen (k := 2 * (gl q_3.2 - gl s1)) (n := 2 * (gl q_3.2 - gl s1)) (dc_wa hge hmg) (dc_wa hge hmg) ?_
    have hge := Nat.le_trans hge hmg
    have hle := hle2
    exact bl_117 ((q_1.2.1 42 0)) q_3.2 hf hge a H locs ls hP hD hS (lv_sub hl [1, 0] rfl)
  have bl_52 : ∀ (s : ms), bk_M_statement_52 N r_M_statement r_M_caseOf s = some y → gl s1 ≤ gl s → dcG p l e ({ frames := 407 + (d + 1), cells := 2 * (gl y.2 - gl s1), slots := 2 * (gl y.2 - gl s1), locals := 9766 + (d + 1) * 25 }) s0 m [.ref h0].toArray below meth c QQ (dC, dI) A (fun a => (wM h0 a cI cB cJ cZ s)) (2 * (gl s - gl s1)) 52 3 [(0, .ref h0)] [] := by
    intro s hf hge a H locs ls hP hD hS hl
    have hle := mo_M_statement_52 N r_M_statement r_M_caseOf hmr_M_statement hmr_M_caseOf y s hf
    unfold bk_M_statement_52 at hf
    refine lv_aload_n hx hb dn_M_statement_52 rfl (lv_at hl 0 rfl) ?_
    refine lv_dup hx hb dn_M_statement_53 rfl ?_
    refine va_get (D := (dC, dI)) (ci := 0) (v := .int ((s.1 8 0))) (C := rn_M) (T := fn_M) (N := 91) hx hb hg in_M hown hK hP 0 rfl rfl 8 (by decide) (hg _ wn_8_81) (fun _ h9 => h9) rfl dn_M_statement_54 ?_
    refine lv_iconst (v := 1) hx hb dn_M_statement_57 (by decide) ?_
    refine lv_iadd hx hb dn_M_statement_58 ?_
    refine va_put (D := (dC, dI)) (ci := 0) (v := .int (((s.1 8 0) + 1))) (ty := .int) (C := rn_M) (T := fn_M) (N := 91) hx hb hg in_M tn_M tk_M nn_M hown hK hP hD hS 0 rfl rfl 8 (by decide) (hg _ wn_8_81) (fun _ h9 => h9) rfl (tk_M 8 (by decide)) rfl rfl (Nat.le_of_ble_eq_true rfl) dn_M_statement_59 (fun H locs hP hD hS => ?_)
    have hP := wM_P_8 hP
    have hD := wM_D_8 hD
    refine lv_goto (tgt := 221) hx hb dn_M_statement_62 (by decide) ?_
    exact bl_221 (upI s 8 (fun _ => ((s.1 8 0) + 1))) hf hge a H locs ls hP hD hS (lv_sub hl [] rfl)
  have bl_49 : ∀ (k_28 : ms → Option (Unit × ms)) (hk_28 : ∀ (s : ms), k_28 s = some y → gl s1 ≤ gl s → dcG p l e ({ frames := 407 + (d + 1), cells := 2 * (gl y.2 - gl s1), slots := 2 * (gl y.2 - gl s1), locals := 9766 + (d + 1) * 25 }) s0 m [.ref h0].toArray below meth c QQ (dC, dI) A (fun a => (wM h0 a cI cB cJ cZ s)) (2 * (gl s - gl s1)) 28 3 [(0, .ref h0)] []) (hkm_28 : ∀ (s : ms), k_28 s = some y → gl s ≤ gl y.2) (s : ms), bk_M_statement_49 N r_M_statement r_M_caseOf k_28 s = some y → gl s1 ≤ gl s → dcG p l e ({ frames := 407 + (d + 1), cells := 2 * (gl y.2 - gl s1), slots := 2 * (gl y.2 - gl s1), locals := 9766 + (d + 1) * 25 }) s0 m [.ref h0].toArray below meth c QQ (dC, dI) A (fun a => (wM h0 a cI cB cJ cZ s)) (2 * (gl s - gl s1)) 49 3 [(0, .ref h0)] [] := by
    intro k_28 hk_28 hkm_28 s hf hge a H locs ls hP hD hS hl
    have hle := mo_M_statement_49 N r_M_statement r_M_caseOf hmr_M_statement hmr_M_caseOf k_28 y hkm_28 s hf
    unfold bk_M_statement_49 at hf
    refine lv_goto (tgt := 28) hx hb dn_M_statement_49 (by decide) ?_
    exact hk_28 s hf hge a H locs ls hP hD hS hl
  have hd_28 : ∀ (n : Nat) (s : ms), hd_M_statement_28 N r_M_statement r_M_caseOf n s = some y → gl s1 ≤ gl s → dcG p l e ({ frames := 407 + (d + 1), cells := 2 * (gl y.2 - gl s1), slots := 2 * (gl y.2 - gl s1), locals := 9766 + (d + 1) * 25 }) s0 m [.ref h0].toArray below meth c QQ (dC, dI) A (fun a => (wM h0 a cI cB cJ cZ s)) (2 * (gl s - gl s1)) 28 3 [(0, .ref h0)] [] := by
    intro n
    induction n with
    | zero => intro s hf; cases hf
    | succ n ih =>
      intro s hf hge a H locs ls hP hD hS hl
      have hle := mh_M_statement_28 N r_M_statement r_M_caseOf hmr_M_statement hmr_M_caseOf y (n + 1) s hf
      have hkm_28 := mh_M_statement_28 N r_M_statement r_M_caseOf hmr_M_statement hmr_M_caseOf y n
      have hf : bd_M_statement_28 N r_M_statement r_M_caseOf (hd_M_statement_28 N r_M_statement r_M_caseOf n) s = some y := hf
      have hk_28 := ih
      generalize hd_M_statement_28 N r_M_statement r_M_caseOf n = k_28 at hf hk_28 hkm_28
      unfold bd_M_statement_28 at hf
      refine lv_aload_n hx hb dn_M_statement_28 rfl (lv_at hl 0 rfl) ?_
      refine va_get (D := (dC, dI)) (ci := 0) (v := .int ((s.1 9 0))) (C := rn_M) (T := fn_M) (N := 91) hx hb hg in_M hown hK hP 0 rfl rfl 9 (by decide) (hg _ wn_8_82) (fun _ h9 => h9) rfl dn_M_statement_29 ?_
      refine lv_if_ne (tgt := 52) hx hb dn_M_statement_32 (by decide) (fun h => ?_) (fun h => ?_)
      · have hf := (if_neg h).symm.trans hf
        exact bl_52 s hf hge a H locs ls hP hD hS hl
      · have hf := (if_pos h).symm.trans hf
        refine lv_aload_n hx hb dn_M_statement_35 rfl (lv_at hl 0 rfl) ?_
        obtain ⟨q_1, hc_2, hf⟩ := dc_b hf
        have hme := mn_M_kind N s q_1 hc_2
        refine dc_calli (dc_runV (ar := 0) (As := []) (rest := []) (ci := 0) (q0 := 0) ⟨hx, hb, hml, hown, hg⟩ hK hN hT hS hA (ct_M_kind l dC dI cI cB cJ cZ cQ N H.size h0 a s q_1 hc_2) hP hD rfl rfl wn_9_214 wn_9_216 sn_M_kind wn_1_13 wn_9_217 rfl rfl (by decide +kernel) ⟨dc_ra (Nat.le_of_ble_eq_true rfl), dc_ra (Nat.le_of_ble_eq_true rfl)⟩ rfl hl.1 rfl (Nat.le_of_ble_eq_true rfl) dn_M_statement_36 (dc_rm0 hle)) hP hD hS hA (fun r_3 _ H locs hw hP hD hS => ?_)
        refine W.widen (k := 2 * (gl q_1.2 - gl s1)) (n := 2 * (gl q_1.2 - gl s1)) (dc_we hme) (dc_we hme) ?_
        have hge := Nat.le_trans hge (Nat.le_of_eq hme.symm)
        have hle := Nat.le_trans (Nat.le_of_eq hme) hle
        have hw : r_3 = q_1.1 := hw
        subst hw
        refine lv_sipush (v := 311) hx hb dn_M_statement_39 (by decide) ?_
        refine lv_icmp_eq (tgt := 52) hx hb dn_M_statement_42 (by decide) (fun h => ?_) (fun h => ?_)
        · have hf := (if_pos h).symm.trans hf
          exact bl_52 q_1.2 hf hge a H locs ls hP hD hS hl
        · have hf := (if_neg h).symm.trans hf
          refine lv_aload_n hx hb dn_M_statement_45 rfl (lv_at hl 0 rfl) ?_
          obtain ⟨q_4, hc_5, hf⟩ := dc_b hf
          have hmg := hmr_M_statement q_1.2 q_4 hc_5
          have hle2 : gl q_4.2 ≤ gl y.2 := mo_M_statement_49 N r_M_statement r_M_caseOf hmr_M_statement hmr_M_caseOf k_28 y hkm_28 _ hf
          refine dc_callv (dc_runV (ar := 0) (As := []) (rest := []) (ci := 0) (q0 := 0) ⟨hx, hb, hml, hown, hg⟩ hK hN hT hS hA (hr_M_statement H.size h0 a q_1.2 q_4 hc_5) hP hD rfl rfl wn_10_121 wn_10_123 sn_M_statement wn_1_13 wn_10_124 rfl rfl (by decide +kernel) ⟨Nat.le_refl _, dc_lm (Nat.le_of_ble_eq_true rfl)⟩ rfl hl.1 rfl (Nat.le_of_ble_eq_true rfl) dn_M_statement_46 (dc_rm hge hmg hle2)) hP hD hS hA (fun a H locs hw hP hD hS => ?_)
          refine W.widen (k := 2 * (gl q_4.2 - gl s1)) (n := 2 * (gl q_4.2 - gl s1)) (dc_wa hge hmg) (dc_wa hge hmg) ?_
          have hge := Nat.le_trans hge hmg
          have hle := hle2
          exact bl_49 k_28 hk_28 hkm_28 q_4.2 hf hge a H locs ls hP hD hS hl
  intro hge a H locs ls hP hD hS hl
  have hle := mf_M_statement N r_M_statement r_M_caseOf hmr_M_statement hmr_M_caseOf s1 y hf
  unfold fb_M_statement at hf
  refine lv_aload_n hx hb dn_M_statement_0 rfl (lv_at hl 0 rfl) ?_
  refine va_get (D := (dC, dI)) (ci := 0) (v := .int ((s1.1 9 0))) (C := rn_M) (T := fn_M) (N := 91) hx hb hg in_M hown hK hP 0 rfl rfl 9 (by decide) (hg _ wn_8_82) (fun _ h9 => h9) rfl dn_M_statement_1 ?_
  refine lv_if_eq (tgt := 8) hx hb dn_M_statement_4 (by decide) (fun h => ?_) (fun h => ?_)
  · have hf := (if_pos h).symm.trans hf
    refine lv_aload_n hx hb dn_M_statement_8 rfl (lv_at hl 0 rfl) ?_
    obtain ⟨q_1, hc_2, hf⟩ := dc_b hf
    have hme := mn_M_kind N s1 q_1 hc_2
    refine dc_calli (dc_runV (ar := 0) (As := []) (rest := []) (ci := 0) (q0 := 0) ⟨hx, hb, hml, hown, hg⟩ hK hN hT hS hA (ct_M_kind l dC dI cI cB cJ cZ cQ N H.size h0 a s1 q_1 hc_2) hP hD rfl rfl wn_9_214 wn_9_216 sn_M_kind wn_1_13 wn_9_217 rfl rfl (by decide +kernel) ⟨dc_ra (Nat.le_of_ble_eq_true rfl), dc_ra (Nat.le_of_ble_eq_true rfl)⟩ rfl hl.1 rfl (Nat.le_of_ble_eq_true rfl) dn_M_statement_9 (dc_rm0 hle)) hP hD hS hA (fun r_3 _ H locs hw hP hD hS => ?_)
    refine W.widen (k := 2 * (gl q_1.2 - gl s1)) (n := 2 * (gl q_1.2 - gl s1)) (dc_we hme) (dc_we hme) ?_
    have hge := Nat.le_trans hge (Nat.le_of_eq hme.symm)
    have hle := Nat.le_trans (Nat.le_of_eq hme) hle
    have hw : r_3 = q_1.1 := hw
    subst hw
    refine lv_sipush (v := 310) hx hb dn_M_statement_12 (by decide) ?_
    refine lv_icmp_ne (tgt := 65) hx hb dn_M_statement_15 (by decide) (fun h => ?_) (fun h => ?_)
    · have hf := (if_neg h).symm.trans hf
      refine lv_aload_n hx hb dn_M_statement_65 rfl (lv_at hl 0 rfl) ?_
      obtain ⟨q_4, hc_5, hf⟩ := dc_b hf
      have hme := mn_M_kind N q_1.2 q_4 hc_5
      refine dc_calli (dc_runV (ar := 0) (As := []) (rest := []) (ci := 0) (q0 := 0) ⟨hx, hb, hml, hown, hg⟩ hK hN hT hS hA (ct_M_kind l dC dI cI cB cJ cZ cQ N H.size h0 a q_1.2 q_4 hc_5) hP hD rfl rfl wn_9_214 wn_9_216 sn_M_kind wn_1_13 wn_9_217 rfl rfl (by decide +kernel) ⟨dc_ra (Nat.le_of_ble_eq_true rfl), dc_ra (Nat.le_of_ble_eq_true rfl)⟩ rfl hl.1 rfl (Nat.le_of_ble_eq_true rfl) dn_M_statement_66 (dc_rm0 hle)) hP hD hS hA (fun r_6 _ H locs hw hP hD hS => ?_)
      refine W.widen (k := 2 * (gl q_4.2 - gl s1)) (n := 2 * (gl q_4.2 - gl s1)) (dc_we hme) (dc_we hme) ?_
      have hge := Nat.le_trans hge (Nat.le_of_eq hme.symm)
      have hle := Nat.le_trans (Nat.le_of_eq hme) hle
      have hw : r_6 = q_4.1 := hw
      subst hw
      refine lv_sipush (v := 312) hx hb dn_M_statement_69 (by decide) ?_
      refine lv_icmp_ne (tgt := 200) hx hb dn_M_statement_72 (by decide) (fun h => ?_) (fun h => ?_)
      · have hf := (if_neg h).symm.trans hf
        refine lv_aload_n hx hb dn_M_statement_200 rfl (lv_at hl 0 rfl) ?_
        obtain ⟨q_7, hc_8, hf⟩ := dc_b hf
        have hme := mn_M_kind N q_4.2 q_7 hc_8
        refine dc_calli (dc_runV (ar := 0) (As := []) (rest := []) (ci := 0) (q0 := 0) ⟨hx, hb, hml, hown, hg⟩ hK hN hT hS hA (ct_M_kind l dC dI cI cB cJ cZ cQ N H.size h0 a q_4.2 q_7 hc_8) hP hD rfl rfl wn_9_214 wn_9_216 sn_M_kind wn_1_13 wn_9_217 rfl rfl (by decide +kernel) ⟨dc_ra (Nat.le_of_ble_eq_true rfl), dc_ra (Nat.le_of_ble_eq_true rfl)⟩ rfl hl.1 rfl (Nat.le_of_ble_eq_true rfl) dn_M_statement_201 (dc_rm0 hle)) hP hD hS hA (fun r_9 _ H locs hw hP hD hS => ?_)
        refine W.widen (k := 2 * (gl q_7.2 - gl s1)) (n := 2 * (gl q_7.2 - gl s1)) (dc_we hme) (dc_we hme) ?_
        have hge := Nat.le_trans hge (Nat.le_of_eq hme.symm)
        have hle := Nat.le_trans (Nat.le_of_eq hme) hle
        have hw : r_9 = q_7.1 := hw
        subst hw
        refine lv_sipush (v := 314) hx hb dn_M_statement_204 (by decide) ?_
        refine lv_icmp_ne (tgt := 217) hx hb dn_M_statement_207 (by decide) (fun h => ?_) (fun h => ?_)
        · have hf := (if_neg h).symm.trans hf
          refine lv_aload_n hx hb dn_M_statement_217 rfl (lv_at hl 0 rfl) ?_
          obtain ⟨q_10, hc_11, hf⟩ := dc_b hf
          have hmg := mn_M_setting N q_7.2 q_10 hc_11
          have hle2 : gl q_10.2 ≤ gl y.2 := mo_M_statement_221 N r_M_statement r_M_caseOf hmr_M_statement hmr_M_caseOf y _ hf
          refine dc_callv (dc_runV (ar := 0) (As := []) (rest := []) (ci := 0) (q0 := 0) ⟨hx, hb, hml, hown, hg⟩ hK hN hT hS hA (ct_M_setting l dC dI cI cB cJ cZ cQ N H.size h0 a q_7.2 q_10 hc_11) hP hD rfl rfl wn_10_133 wn_10_135 sn_M_setting wn_1_13 wn_10_136 rfl rfl (by decide +kernel) ⟨dc_ra (Nat.le_of_ble_eq_true rfl), dc_ra (Nat.le_of_ble_eq_true rfl)⟩ rfl hl.1 rfl (Nat.le_of_ble_eq_true rfl) dn_M_statement_218 (dc_rm hge hmg hle2)) hP hD hS hA (fun a H locs hw hP hD hS => ?_)
          refine W.widen (k := 2 * (gl q_10.2 - gl s1)) (n := 2 * (gl q_10.2 - gl s1)) (dc_wa hge hmg) (dc_wa hge hmg) ?_
          have hge := Nat.le_trans hge hmg
          have hle := hle2
          exact bl_221 q_10.2 hf hge a H locs ls hP hD hS (lv_sub hl [] rfl)
        · have hf := (if_pos h).symm.trans hf
          refine lv_aload_n hx hb dn_M_statement_210 rfl (lv_at hl 0 rfl) ?_
          obtain ⟨q_10, hc_11, hf⟩ := dc_b hf
          have hmg := hmr_M_caseOf q_7.2 q_10 hc_11
          have hle2 : gl q_10.2 ≤ gl y.2 := mo_M_statement_214 N r_M_statement r_M_caseOf hmr_M_statement hmr_M_caseOf y _ hf
          refine dc_callv (dc_runV (ar := 0) (As := []) (rest := []) (ci := 0) (q0 := 0) ⟨hx, hb, hml, hown, hg⟩ hK hN hT hS hA (hr_M_caseOf H.size h0 a q_7.2 q_10 hc_11) hP hD rfl rfl wn_10_125 wn_10_127 sn_M_caseOf wn_1_13 wn_10_128 rfl rfl (by decide +kernel) ⟨Nat.le_refl _, dc_lm (Nat.le_of_ble_eq_true rfl)⟩ rfl hl.1 rfl (Nat.le_of_ble_eq_true rfl) dn_M_statement_211 (dc_rm hge hmg hle2)) hP hD hS hA (fun a H locs hw hP hD hS => ?_)
          refine W.widen (k := 2 * (gl q_10.2 - gl s1)) (n := 2 * (gl q_10.2 - gl s1)) (dc_wa hge hmg) (dc_wa hge hmg) ?_
          have hge := Nat.le_trans hge hmg
          have hle := hle2
          exact bl_214 q_10.2 hf hge a H locs ls hP hD hS (lv_sub hl [] rfl)
      · have hf := (if_pos h).symm.trans hf
        refine lv_aload_n hx hb dn_M_statement_75 rfl (lv_at hl 0 rfl) ?_
        refine lv_aload_n hx hb dn_M_statement_76 rfl (lv_at hl 0 rfl) ?_
        refine va_get (D := (dC, dI)) (ci := 0) (v := .int ((q_4.2.1 8 0))) (C := rn_M) (T := fn_M) (N := 91) hx hb hg in_M hown hK hP 0 rfl rfl 8 (by decide) (hg _ wn_8_81) (fun _ h9 => h9) rfl dn_M_statement_77 ?_
        refine lv_iconst (v := 2) hx hb dn_M_statement_80 (by decide) ?_
        refine lv_iadd hx hb dn_M_statement_81 ?_
        refine va_put (D := (dC, dI)) (ci := 0) (v := .int (((q_4.2.1 8 0) + 2))) (ty := .int) (C := rn_M) (T := fn_M) (N := 91) hx hb hg in_M tn_M tk_M nn_M hown hK hP hD hS 0 rfl rfl 8 (by decide) (hg _ wn_8_81) (fun _ h9 => h9) rfl (tk_M 8 (by decide)) rfl rfl (Nat.le_of_ble_eq_true rfl) dn_M_statement_82 (fun H locs hP hD hS => ?_)
        have hP := wM_P_8 hP
        have hD := wM_D_8 hD
        refine lv_aload_n hx hb dn_M_statement_85 rfl (lv_at hl 0 rfl) ?_
        refine lv_aload_n hx hb dn_M_statement_86 rfl (lv_at hl 0 rfl) ?_
        obtain ⟨q_7, hc_8, hf⟩ := dc_b hf
        have hmg := mn_M_exp N (upI q_4.2 8 (fun _ => ((q_4.2.1 8 0) + 2))) q_7 hc_8
        have hle2 : gl q_7.2 ≤ gl y.2 := mo_M_statement_90 N r_M_statement r_M_caseOf hmr_M_statement hmr_M_caseOf y _ _ hf
        refine dc_calli (dc_runV (ar := 0) (As := []) (rest := [.ref h0]) (ci := 0) (q0 := 0) ⟨hx, hb, hml, hown, hg⟩ hK hN hT hS hA (ct_M_exp l dC dI cI cB cJ cZ cQ N H.size h0 a (upI q_4.2 8 (fun _ => ((q_4.2.1 8 0) + 2))) q_7 hc_8) hP hD rfl rfl wn_10_77 wn_10_79 sn_M_exp wn_1_13 wn_10_80 rfl rfl (by decide +kernel) ⟨dc_ra (Nat.le_of_ble_eq_true rfl), dc_ra (Nat.le_of_ble_eq_true rfl)⟩ rfl hl.1 rfl (Nat.le_of_ble_eq_true rfl) dn_M_statement_87 (dc_rm hge hmg hle2)) hP hD hS hA (fun r_9 a H locs hw hP hD hS => ?_)
        refine W.widen (k := 2 * (gl q_7.2 - gl s1)) (n := 2 * (gl q_7.2 - gl s1)) (dc_wa hge hmg) (dc_wa hge hmg) ?_
        have hge := Nat.le_trans hge hmg
        have hle := hle2
        have hw : r_9 = q_7.1 := hw
        subst hw
        exact bl_90 q_7.1 q_7.2 hf hge a H locs ls hP hD hS hl
    · have hf := (if_pos h).symm.trans hf
      refine lv_aload_n hx hb dn_M_statement_18 rfl (lv_at hl 0 rfl) ?_
      refine lv_dup hx hb dn_M_statement_19 rfl ?_
      refine va_get (D := (dC, dI)) (ci := 0) (v := .int ((q_1.2.1 8 0))) (C := rn_M) (T := fn_M) (N := 91) hx hb hg in_M hown hK hP 0 rfl rfl 8 (by decide) (hg _ wn_8_81) (fun _ h9 => h9) rfl dn_M_statement_20 ?_
      refine lv_iconst (v := 1) hx hb dn_M_statement_23 (by decide) ?_
      refine lv_iadd hx hb dn_M_statement_24 ?_
      refine va_put (D := (dC, dI)) (ci := 0) (v := .int (((q_1.2.1 8 0) + 1))) (ty := .int) (C := rn_M) (T := fn_M) (N := 91) hx hb hg in_M tn_M tk_M nn_M hown hK hP hD hS 0 rfl rfl 8 (by decide) (hg _ wn_8_81) (fun _ h9 => h9) rfl (tk_M 8 (by decide)) rfl rfl (Nat.le_of_ble_eq_true rfl) dn_M_statement_25 (fun H locs hP hD hS => ?_)
      have hP := wM_P_8 hP
      have hD := wM_D_8 hD
      exact hd_28 N (upI q_1.2 8 (fun _ => ((q_1.2.1 8 0) + 1))) hf hge a H locs ls hP hD hS hl
  · have hf := (if_neg h).symm.trans hf
    rw [hQQ, ← Option.some.inj hf]
    exact xk_vret (w1 := fun u : Nat → Nat => (wM h0 u cI cB cJ cZ s1)) a hx hb hr hlocks hK hS dn_M_statement_7 hP hD trivial (Nat.le_refl _) (Nat.le_refl _)
set_option maxHeartbeats 8000000 in
set_option maxRecDepth 100000 in
theorem cb_M_caseOf (l : Launch) (dC : Nat → ClassId) (dI : Nat → Nat → Nat) (cI cB cJ cZ cQ : ClassId) (N d : Nat) (r_M_statement : ms → Option (Unit × ms)) (r_M_caseOf : ms → Option (Unit × ms)) (hmr_M_statement : ∀ (s : ms) (y : (Unit × ms)), r_M_statement s = some y → gl s ≤ gl y.2) (hmr_M_caseOf : ∀ (s : ms) (y : (Unit × ms)), r_M_caseOf s = some y → gl s ≤ gl y.2) (hr_M_statement : ∀ (sz : Nat) (h0 : Nat) (a : Nat → Nat) (s : ms) (y : (Unit × ms)), r_M_statement s = some y → Met l yn_M_statement (xw yn_M_statement bn_M_statement 3 none) ({ frames := 407 + d, cells := 2 * (gl y.2 - gl s), slots := 2 * (gl y.2 - gl s), locals := 9766 + d * 25 }) (dc_P (dC, dI) xcl (xt cI cB cJ cZ cQ) [.ref h0] sz (wM h0 a cI cB cJ cZ s)) (xk_Qv (dC, dI) xcl (xt cI cB cJ cZ cQ) (fun _ : Nat → Nat => True) (fun u : Nat → Nat => (wM h0 u cI cB cJ cZ y.2)) (va_A (wM h0 a cI cB cJ cZ s) sz)) (2 * (gl y.2 - gl s)) (2 * (gl y.2 - gl s)) (va_A (wM h0 a cI cB cJ cZ s) sz)) (hr_M_caseOf : ∀ (sz : Nat) (h0 : Nat) (a : Nat → Nat) (s : ms) (y : (Unit × ms)), r_M_caseOf s = some y → Met l yn_M_caseOf (xw yn_M_caseOf bn_M_caseOf 6 none) ({ frames := 407 + d, cells := 2 * (gl y.2 - gl s), slots := 2 * (gl y.2 - gl s), locals := 9766 + d * 25 }) (dc_P (dC, dI) xcl (xt cI cB cJ cZ cQ) [.ref h0] sz (wM h0 a cI cB cJ cZ s)) (xk_Qv (dC, dI) xcl (xt cI cB cJ cZ cQ) (fun _ : Nat → Nat => True) (fun u : Nat → Nat => (wM h0 u cI cB cJ cZ y.2)) (va_A (wM h0 a cI cB cJ cZ s) sz)) (2 * (gl y.2 - gl s)) (2 * (gl y.2 - gl s)) (va_A (wM h0 a cI cB cJ cZ s) sz)) (sz : Nat) (h0 : Nat) (a : Nat → Nat) (s1 : ms) (y : (Unit × ms)) (hf : fb_M_caseOf N r_M_statement r_M_caseOf s1 = some y) : Met l yn_M_caseOf (xw yn_M_caseOf bn_M_caseOf 6 none) ({ frames := 407 + (d + 1), cells := 2 * (gl y.2 - gl s1), slots := 2 * (gl y.2 - gl s1), locals := 9766 + (d + 1) * 25 }) (dc_P (dC, dI) xcl (xt cI cB cJ cZ cQ) [.ref h0] sz (wM h0 a cI cB cJ cZ s1)) (xk_Qv (dC, dI) xcl (xt cI cB cJ cZ cQ) (fun _ : Nat → Nat => True) (fun u : Nat → Nat => (wM h0 u cI cB cJ cZ y.2)) (va_A (wM h0 a cI cB cJ cZ s1) sz)) (2 * (gl y.2 - gl s1)) (2 * (gl y.2 - gl s1)) (va_A (wM h0 a cI cB cJ cZ s1) sz) := by
  refine dc_of (QA := xk_Qv (dC, dI) xcl (xt cI cB cJ cZ cQ) (fun _ : Nat → Nat => True) (fun u : Nat → Nat => (wM h0 u cI cB cJ cZ y.2))) (by decide) (Nat.le_of_ble_eq_true rfl) ?_
  intro p e s0 m below meth c hx hb hml hown hg hr hlocks hin hP hK hN A hA hD hT ls hl
  have hown : s0.vm.findClass rn_M = some m.cls := hown
  obtain ⟨H, hH⟩ : ∃ z, z = s0.heap := ⟨_, rfl⟩
  rw [← hH] at hP
  have hS : va_S A s0.heap H [] := by rw [hH]; exact va_S.rf
  suffices kk : ∀ QQ : State → Prop, QQ = MQ below (xk_Qv (dC, dI) xcl (xt cI cB cJ cZ cQ) (fun _ : Nat → Nat => True) (fun u : Nat → Nat => (wM h0 u cI cB cJ cZ y.2)) A) [.ref h0].toArray s0 (2 * (gl y.2 - gl s1)) (2 * (gl y.2 - gl s1)) A → gl s1 ≤ gl s1 → dcG p l e ({ frames := 407 + (d + 1), cells := 2 * (gl y.2 - gl s1), slots := 2 * (gl y.2 - gl s1), locals := 9766 + (d + 1) * 25 }) s0 m [.ref h0].toArray below meth c QQ (dC, dI) A (fun a => (wM h0 a cI cB cJ cZ s1)) (2 * (gl s1 - gl s1)) 0 6 [(0, .ref h0)] [] by
    have k9 := kk _ rfl (Nat.le_refl _) a H [] ls hP hD hS hl
    rw [hH, Nat.sub_self] at k9; exact k9
  clear hP hD hS hl hH H ls
  intro QQ hQQ
  have bl_246 : ∀ (x2 : Int32) (s : ms), bk_M_caseOf_246 N r_M_statement r_M_caseOf x2 s = some y → gl s1 ≤ gl s → dcG p l e ({ frames := 407 + (d + 1), cells := 2 * (gl y.2 - gl s1), slots := 2 * (gl y.2 - gl s1), locals := 9766 + (d + 1) * 25 }) s0 m [.ref h0].toArray below meth c QQ (dC, dI) A (fun a => (wM h0 a cI cB cJ cZ s)) (2 * (gl s - gl s1)) 246 6 [(0, .ref h0), (2, .int x2)] [] := by
    intro x2 s hf hge a H locs ls hP hD hS hl
    have hle := mo_M_caseOf_246 N r_M_statement r_M_caseOf hmr_M_statement hmr_M_caseOf y x2 s hf
    unfold bk_M_caseOf_246 at hf
    refine lv_aload_n hx hb dn_M_caseOf_246 rfl (lv_at hl 0 rfl) ?_
    refine lv_iload_n hx hb dn_M_caseOf_247 rfl (lv_at hl 1 rfl) ?_
    obtain ⟨q_1, hc_2, hf⟩ := dc_b hf
    have hme := mn_M_patch N x2 s q_1 hc_2
    refine dc_callv (dc_runV (ar := 1) (As := [.int x2]) (rest := []) (ci := 0) (q0 := 0) ⟨hx, hb, hml, hown, hg⟩ hK hN hT hS hA (ct_M_patch l dC dI cI cB cJ cZ cQ N H.size h0 a x2 s q_1 hc_2) hP hD rfl rfl wn_10_129 wn_10_131 sn_M_patch wn_1_13 wn_10_132 rfl rfl (by decide +kernel) ⟨dc_ra (Nat.le_of_ble_eq_true rfl), dc_ra (Nat.le_of_ble_eq_true rfl)⟩ rfl hl.1 rfl (Nat.le_of_ble_eq_true rfl) dn_M_caseOf_248 (dc_rm0 hle)) hP hD hS hA (fun _ H locs hw hP hD hS => ?_)
    refine W.widen (k := 2 * (gl q_1.2 - gl s1)) (n := 2 * (gl q_1.2 - gl s1)) (dc_we hme) (dc_we hme) ?_
    have hge := Nat.le_trans hge (Nat.le_of_eq hme.symm)
    have hle := Nat.le_trans (Nat.le_of_eq hme) hle
    refine lv_aload_n hx hb dn_M_caseOf_251 rfl (lv_at hl 0 rfl) ?_
    refine lv_dup hx hb dn_M_caseOf_252 rfl ?_
    refine va_get (D := (dC, dI)) (ci := 0) (v := .int ((q_1.2.1 8 0))) (C := rn_M) (T := fn_M) (N := 91) hx hb hg in_M hown hK hP 0 rfl rfl 8 (by decide) (hg _ wn_8_81) (fun _ h9 => h9) rfl dn_M_caseOf_253 ?_
    refine lv_iconst (v := 1) hx hb dn_M_caseOf_256 (by decide) ?_
    refine lv_iadd hx hb dn_M_caseOf_257 ?_
    refine va_put (D := (dC, dI)) (ci := 0) (v := .int (((q_1.2.1 8 0) + 1))) (ty := .int) (C := rn_M) (T := fn_M) (N := 91) hx hb hg in_M tn_M tk_M nn_M hown hK hP hD hS 0 rfl rfl 8 (by decide) (hg _ wn_8_81) (fun _ h9 => h9) rfl (tk_M 8 (by decide)) rfl rfl (Nat.le_of_ble_eq_true rfl) dn_M_caseOf_258 (fun H locs hP hD hS => ?_)
    have hP := wM_P_8 hP
    have hD := wM_D_8 hD
    rw [hQQ, ← Option.some.inj hf]
    exact xk_vret (w1 := fun u : Nat → Nat => (wM h0 u cI cB cJ cZ (upI q_1.2 8 (fun _ => ((q_1.2.1 8 0) + 1))))) a hx hb hr hlocks hK hS dn_M_caseOf_261 hP hD trivial (Nat.le_refl _) (Nat.le_refl _)
  have bl_222 : ∀ (x2 : Int32) (s : ms), bk_M_caseOf_222 N r_M_statement r_M_caseOf x2 s = some y → gl s1 ≤ gl s → dcG p l e ({ frames := 407 + (d + 1), cells := 2 * (gl y.2 - gl s1), slots := 2 * (gl y.2 - gl s1), locals := 9766 + (d + 1) * 25 }) s0 m [.ref h0].toArray below meth c QQ (dC, dI) A (fun a => (wM h0 a cI cB cJ cZ s)) (2 * (gl s - gl s1)) 222 6 [(0, .ref h0), (2, .int x2)] [] := by
    intro x2 s hf hge a H locs ls hP hD hS hl
    have hle := mo_M_caseOf_222 N r_M_statement r_M_caseOf hmr_M_statement hmr_M_caseOf y x2 s hf
    unfold bk_M_caseOf_222 at hf
    refine lv_aload_n hx hb dn_M_caseOf_222 rfl (lv_at hl 0 rfl) ?_
    refine lv_sipush (v := 316) hx hb dn_M_caseOf_223 (by decide) ?_
    obtain ⟨q_1, hc_2, hf⟩ := dc_b hf
    have hme := mn_M_is N 316 s q_1 hc_2
    refine dc_calli (dc_runV (ar := 1) (As := [.int 316]) (rest := []) (ci := 0) (q0 := 0) ⟨hx, hb, hml, hown, hg⟩ hK hN hT hS hA (ct_M_is l dC dI cI cB cJ cZ cQ N H.size h0 a 316 s q_1 hc_2) hP hD rfl rfl wn_9_194 wn_9_196 sn_M_is wn_1_13 wn_9_197 rfl rfl (by decide +kernel) ⟨dc_ra (Nat.le_of_ble_eq_true rfl), dc_ra (Nat.le_of_ble_eq_true rfl)⟩ rfl hl.1 rfl (Nat.le_of_ble_eq_true rfl) dn_M_caseOf_226 (dc_rm0 hle)) hP hD hS hA (fun r_3 _ H locs hw hP hD hS => ?_)
    refine W.widen (k := 2 * (gl q_1.2 - gl s1)) (n := 2 * (gl q_1.2 - gl s1)) (dc_we hme) (dc_we hme) ?_
    have hge := Nat.le_trans hge (Nat.le_of_eq hme.symm)
    have hle := Nat.le_trans (Nat.le_of_eq hme) hle
    have hw : r_3 = q_1.1 := hw
    subst hw
    refine lv_if_eq (tgt := 246) hx hb dn_M_caseOf_229 (by decide) (fun h => ?_) (fun h => ?_)
    · have hf := (if_pos h).symm.trans hf
      exact bl_246 x2 q_1.2 hf hge a H locs ls hP hD hS hl
    · have hf := (if_neg h).symm.trans hf
      refine lv_aload_n hx hb dn_M_caseOf_232 rfl (lv_at hl 0 rfl) ?_
      refine lv_aload_n hx hb dn_M_caseOf_233 rfl (lv_at hl 0 rfl) ?_
      refine va_get (D := (dC, dI)) (ci := 0) (v := .int ((q_1.2.1 8 0))) (C := rn_M) (T := fn_M) (N := 91) hx hb hg in_M hown hK hP 0 rfl rfl 8 (by decide) (hg _ wn_8_81) (fun _ h9 => h9) rfl dn_M_caseOf_234 ?_
      refine lv_iconst (v := 2) hx hb dn_M_caseOf_237 (by decide) ?_
      refine lv_iadd hx hb dn_M_caseOf_238 ?_
      refine va_put (D := (dC, dI)) (ci := 0) (v := .int (((q_1.2.1 8 0) + 2))) (ty := .int) (C := rn_M) (T := fn_M) (N := 91) hx hb hg in_M tn_M tk_M nn_M hown hK hP hD hS 0 rfl rfl 8 (by decide) (hg _ wn_8_81) (fun _ h9 => h9) rfl (tk_M 8 (by decide)) rfl rfl (Nat.le_of_ble_eq_true rfl) dn_M_caseOf_239 (fun H locs hP hD hS => ?_)
      have hP := wM_P_8 hP
      have hD := wM_D_8 hD
      refine lv_aload_n hx hb dn_M_caseOf_242 rfl (lv_at hl 0 rfl) ?_
      obtain ⟨q_4, hc_5, hf⟩ := dc_b hf
      have hmg := hmr_M_statement (upI q_1.2 8 (fun _ => ((q_1.2.1 8 0) + 2))) q_4 hc_5
      have hle2 : gl q_4.2 ≤ gl y.2 := mo_M_caseOf_246 N r_M_statement r_M_caseOf hmr_M_statement hmr_M_caseOf y _ _ hf
      refine dc_callv (dc_runV (ar := 0) (As := []) (rest := []) (ci := 0) (q0 := 0) ⟨hx, hb, hml, hown, hg⟩ hK hN hT hS hA (hr_M_statement H.size h0 a (upI q_1.2 8 (fun _ => ((q_1.2.1 8 0) + 2))) q_4 hc_5) hP hD rfl rfl wn_10_121 wn_10_123 sn_M_statement wn_1_13 wn_10_124 rfl rfl (by decide +kernel) ⟨Nat.le_refl _, dc_lm (Nat.le_of_ble_eq_true rfl)⟩ rfl hl.1 rfl (Nat.le_of_ble_eq_true rfl) dn_M_caseOf_243 (dc_rm hge hmg hle2)) hP hD hS hA (fun a H locs hw hP hD hS => ?_)
      refine W.widen (k := 2 * (gl q_4.2 - gl s1)) (n := 2 * (gl q_4.2 - gl s1)) (dc_wa hge hmg) (dc_wa hge hmg) ?_
      have hge := Nat.le_trans hge hmg
      have hle := hle2
      exact bl_246 x2 q_4.2 hf hge a H locs ls hP hD hS hl
  have bl_191 : ∀ (k_27 : Int32 → Int32 → ms → Option (Unit × ms)) (hk_27 : ∀ (x1 : Int32) (x2 : Int32) (s : ms), k_27 x1 x2 s = some y → gl s1 ≤ gl s → dcG p l e ({ frames := 407 + (d + 1), cells := 2 * (gl y.2 - gl s1), slots := 2 * (gl y.2 - gl s1), locals := 9766 + (d + 1) * 25 }) s0 m [.ref h0].toArray below meth c QQ (dC, dI) A (fun a => (wM h0 a cI cB cJ cZ s)) (2 * (gl s - gl s1)) 27 6 [(0, .ref h0), (1, .int x1), (2, .int x2)] []) (hkm_27 : ∀ (x1 : Int32) (x2 : Int32) (s : ms), k_27 x1 x2 s = some y → gl s ≤ gl y.2) (x1 : Int32) (x5 : Int32) (s : ms), bk_M_caseOf_191 N r_M_statement r_M_caseOf k_27 x1 x5 s = some y → gl s1 ≤ gl s → dcG p l e ({ frames := 407 + (d + 1), cells := 2 * (gl y.2 - gl s1), slots := 2 * (gl y.2 - gl s1), locals := 9766 + (d + 1) * 25 }) s0 m [.ref h0].toArray below meth c QQ (dC, dI) A (fun a => (wM h0 a cI cB cJ cZ s)) (2 * (gl s - gl s1)) 191 6 [(0, .ref h0), (1, .int x1), (5, .int x5)] [] := by
    intro k_27 hk_27 hkm_27 x1 x5 s hf hge a H locs ls hP hD hS hl
    have hle := mo_M_caseOf_191 N r_M_statement r_M_caseOf hmr_M_statement hmr_M_caseOf k_27 y hkm_27 x1 x5 s hf
    unfold bk_M_caseOf_191 at hf
    refine lv_aload_n hx hb dn_M_caseOf_191 rfl (lv_at hl 0 rfl) ?_
    refine va_get (D := (dC, dI)) (ci := 0) (v := .int ((s.1 42 0))) (C := rn_M) (T := fn_M) (N := 91) hx hb hg in_M hown hK hP 0 rfl rfl 42 (by decide) (hg _ wn_8_115) (fun _ h9 => h9) rfl dn_M_caseOf_192 ?_
    refine lv_iconst (v := 3) hx hb dn_M_caseOf_195 (by decide) ?_
    refine lv_isub hx hb dn_M_caseOf_196 ?_
    refine lv_istore_n (lv' := [(2, .int (((s.1 42 0) - 3))), (0, .ref h0), (1, .int x1), (5, .int x5)]) hx hb dn_M_caseOf_197 rfl hl (by decide) rfl (fun ls hl => ?_)
    refine lv_aload_n hx hb dn_M_caseOf_198 rfl (lv_at hl 1 rfl) ?_
    refine va_get (D := (dC, dI)) (ci := 0) (v := .ref ((a 41))) (C := rn_M) (T := fn_M) (N := 91) hx hb hg in_M hown hK hP 0 rfl rfl 41 (by decide) (hg _ wn_8_114) (fun _ h9 => h9) rfl dn_M_caseOf_199 ?_
    refine lv_iload hx hb dn_M_caseOf_202 (lv_at hl 3 rfl) ?_
    refine lv_iconst (v := 1) hx hb dn_M_caseOf_204 (by decide) ?_
    refine lv_iadd hx hb dn_M_caseOf_205 ?_
    refine lv_aload_n hx hb dn_M_caseOf_206 rfl (lv_at hl 1 rfl) ?_
    refine va_get (D := (dC, dI)) (ci := 0) (v := .int ((s.1 42 0))) (C := rn_M) (T := fn_M) (N := 91) hx hb hg in_M hown hK hP 0 rfl rfl 42 (by decide) (hg _ wn_8_115) (fun _ h9 => h9) rfl dn_M_caseOf_207 ?_
    obtain ⟨hg_1, hf⟩ := dc_g hf
    refine va_iast hx hb hK hP hD hS 28 0 rfl rfl hg_1 dn_M_caseOf_210 (fun H locs hP hD hS => ?_)
    have hP : va_P (dC, dI) xcl ((wM h0 a cI cB cJ cZ s).set 28 ((a 41), .inl (cI, (s.1 91 0).toNatClampNeg, .inl (upd (s.1 41) (Int32.toNatClampNeg ((x5 + 1))) ((s.1 42 0)))))) H := hP
    have hD : va_D A ((wM h0 a cI cB cJ cZ s).set 28 ((a 41), .inl (cI, (s.1 91 0).toNatClampNeg, .inl (upd (s.1 41) (Int32.toNatClampNeg ((x5 + 1))) ((s.1 42 0)))))) := hD
    have hP := wM_P_41 hP
    have hD := wM_D_41 hD
    refine lv_goto (tgt := 27) hx hb dn_M_caseOf_211 (by decide) ?_
    exact hk_27 x1 (((s.1 42 0) - 3)) (upI s 41 (upd (s.1 41) (Int32.toNatClampNeg ((x5 + 1))) ((s.1 42 0)))) hf hge a H locs ls hP hD hS (lv_sub hl [1, 2, 0] rfl)
  have bl_183 : ∀ (k_27 : Int32 → Int32 → ms → Option (Unit × ms)) (hk_27 : ∀ (x1 : Int32) (x2 : Int32) (s : ms), k_27 x1 x2 s = some y → gl s1 ≤ gl s → dcG p l e ({ frames := 407 + (d + 1), cells := 2 * (gl y.2 - gl s1), slots := 2 * (gl y.2 - gl s1), locals := 9766 + (d + 1) * 25 }) s0 m [.ref h0].toArray below meth c QQ (dC, dI) A (fun a => (wM h0 a cI cB cJ cZ s)) (2 * (gl s - gl s1)) 27 6 [(0, .ref h0), (1, .int x1), (2, .int x2)] []) (hkm_27 : ∀ (x1 : Int32) (x2 : Int32) (s : ms), k_27 x1 x2 s = some y → gl s ≤ gl y.2) (x1 : Int32) (x2 : Int32) (x5 : Int32) (s : ms), bk_M_caseOf_183 N r_M_statement r_M_caseOf k_27 x1 x2 x5 s = some y → gl s1 ≤ gl s → dcG p l e ({ frames := 407 + (d + 1), cells := 2 * (gl y.2 - gl s1), slots := 2 * (gl y.2 - gl s1), locals := 9766 + (d + 1) * 25 }) s0 m [.ref h0].toArray below meth c QQ (dC, dI) A (fun a => (wM h0 a cI cB cJ cZ s)) (2 * (gl s - gl s1)) 183 6 [(0, .ref h0), (1, .int x1), (2, .int x2), (5, .int x5)] [] := by
    intro k_27 hk_27 hkm_27 x1 x2 x5 s hf hge a H locs ls hP hD hS hl
    have hle := mo_M_caseOf_183 N r_M_statement r_M_caseOf hmr_M_statement hmr_M_caseOf k_27 y hkm_27 x1 x2 x5 s hf
    unfold bk_M_caseOf_183 at hf
    refine lv_aload_n hx hb dn_M_caseOf_183 rfl (lv_at hl 0 rfl) ?_
    refine lv_bipush (v := 11) hx hb dn_M_caseOf_184 (by decide) ?_
    refine lv_iload_n hx hb dn_M_caseOf_186 rfl (lv_at hl 2 rfl) ?_
    refine lv_iconst (v := 0) hx hb dn_M_caseOf_187 (by decide) ?_
    obtain ⟨q_1, hc_2, hf⟩ := dc_b hf
    have hmg := mn_M_lay N 11 x2 0 s q_1 hc_2
    have hle2 : gl q_1.2 ≤ gl y.2 := mo_M_caseOf_191 N r_M_statement r_M_caseOf hmr_M_statement hmr_M_caseOf k_27 y hkm_27 _ _ _ hf
    refine dc_callv (dc_runV (ar := 3) (As := [.int 11, .int x2, .int 0]) (rest := []) (ci := 0) (q0 := 0) ⟨hx, hb, hml, hown, hg⟩ hK hN hT hS hA (ct_M_lay l dC dI cI cB cJ cZ cQ N H.size h0 a 11 x2 0 s q_1 hc_2) hP hD rfl rfl wn_10_97 wn_10_99 sn_M_lay wn_1_13 wn_10_100 rfl rfl (by decide +kernel) ⟨dc_ra (Nat.le_of_ble_eq_true rfl), dc_ra (Nat.le_of_ble_eq_true rfl)⟩ rfl hl.1 rfl (Nat.le_of_ble_eq_true rfl) dn_M_caseOf_188 (dc_rm hge hmg hle2)) hP hD hS hA (fun a H locs hw hP hD hS => ?_)
    refine W.widen (k := 2 * (gl q_1.2 - gl s1)) (n := 2 * (gl q_1.2 - gl s1)) (dc_wa hge hmg) (dc_wa hge hmg) ?_
    have hge := Nat.le_trans hge hmg
    have hle := hle2
    exact bl_191 k_27 hk_27 hkm_27 x1 x5 q_1.2 hf hge a H locs ls hP hD hS (lv_sub hl [0, 1, 3] rfl)
  have bl_179 : ∀ (k_27 : Int32 → Int32 → ms → Option (Unit × ms)) (hk_27 : ∀ (x1 : Int32) (x2 : Int32) (s : ms), k_27 x1 x2 s = some y → gl s1 ≤ gl s → dcG p l e ({ frames := 407 + (d + 1), cells := 2 * (gl y.2 - gl s1), slots := 2 * (gl y.2 - gl s1), locals := 9766 + (d + 1) * 25 }) s0 m [.ref h0].toArray below meth c QQ (dC, dI) A (fun a => (wM h0 a cI cB cJ cZ s)) (2 * (gl s - gl s1)) 27 6 [(0, .ref h0), (1, .int x1), (2, .int x2)] []) (hkm_27 : ∀ (x1 : Int32) (x2 : Int32) (s : ms), k_27 x1 x2 s = some y → gl s ≤ gl y.2) (x1 : Int32) (x2 : Int32) (x5 : Int32) (s : ms), bk_M_caseOf_179 N r_M_statement r_M_caseOf k_27 x1 x2 x5 s = some y → gl s1 ≤ gl s → dcG p l e ({ frames := 407 + (d + 1), cells := 2 * (gl y.2 - gl s1), slots := 2 * (gl y.2 - gl s1), locals := 9766 + (d + 1) * 25 }) s0 m [.ref h0].toArray below meth c QQ (dC, dI) A (fun a => (wM h0 a cI cB cJ cZ s)) (2 * (gl s - gl s1)) 179 6 [(0, .ref h0), (1, .int x1), (2, .int x2), (5, .int x5)] [] := by
    intro k_27 hk_27 hkm_27 x1 x2 x5 s hf hge a H locs ls hP hD hS hl
    have hle := mo_M_caseOf_179 N r_M_statement r_M_caseOf hmr_M_statement hmr_M_caseOf k_27 y hkm_27 x1 x2 x5 s hf
    unfold bk_M_caseOf_179 at hf
    refine lv_aload_n hx hb dn_M_caseOf_179 rfl (lv_at hl 0 rfl) ?_
    obtain ⟨q_1, hc_2, hf⟩ := dc_b hf
    have hmg := hmr_M_statement s q_1 hc_2
    have hle2 : gl q_1.2 ≤ gl y.2 := mo_M_caseOf_183 N r_M_statement r_M_caseOf hmr_M_statement hmr_M_caseOf k_27 y hkm_27 _ _ _ _ hf
    refine dc_callv (dc_runV (ar := 0) (As := []) (rest := []) (ci := 0) (q0 := 0) ⟨hx, hb, hml, hown, hg⟩ hK hN hT hS hA (hr_M_statement H.size h0 a s q_1 hc_2) hP hD rfl rfl wn_10_121 wn_10_123 sn_M_statement wn_1_13 wn_10_124 rfl rfl (by decide +kernel) ⟨Nat.le_refl _, dc_lm (Nat.le_of_ble_eq_true rfl)⟩ rfl hl.1 rfl (Nat.le_of_ble_eq_true rfl) dn_M_caseOf_180 (dc_rm hge hmg hle2)) hP hD hS hA (fun a H locs hw hP hD hS => ?_)
    refine W.widen (k := 2 * (gl q_1.2 - gl s1)) (n := 2 * (gl q_1.2 - gl s1)) (dc_wa hge hmg) (dc_wa hge hmg) ?_
    have hge := Nat.le_trans hge hmg
    have hle := hle2
    exact bl_183 k_27 hk_27 hkm_27 x1 x2 x5 q_1.2 hf hge a H locs ls hP hD hS hl
  have bl_166 : ∀ (k_27 : Int32 → Int32 → ms → Option (Unit × ms)) (hk_27 : ∀ (x1 : Int32) (x2 : Int32) (s : ms), k_27 x1 x2 s = some y → gl s1 ≤ gl s → dcG p l e ({ frames := 407 + (d + 1), cells := 2 * (gl y.2 - gl s1), slots := 2 * (gl y.2 - gl s1), locals := 9766 + (d + 1) * 25 }) s0 m [.ref h0].toArray below meth c QQ (dC, dI) A (fun a => (wM h0 a cI cB cJ cZ s)) (2 * (gl s - gl s1)) 27 6 [(0, .ref h0), (1, .int x1), (2, .int x2)] []) (hkm_27 : ∀ (x1 : Int32) (x2 : Int32) (s : ms), k_27 x1 x2 s = some y → gl s ≤ gl y.2) (x1 : Int32) (x2 : Int32) (x3 : Int32) (x5 : Int32) (s : ms), bk_M_caseOf_166 N r_M_statement r_M_caseOf k_27 x1 x2 x3 x5 s = some y → gl s1 ≤ gl s → dcG p l e ({ frames := 407 + (d + 1), cells := 2 * (gl y.2 - gl s1), slots := 2 * (gl y.2 - gl s1), locals := 9766 + (d + 1) * 25 }) s0 m [.ref h0].toArray below meth c QQ (dC, dI) A (fun a => (wM h0 a cI cB cJ cZ s)) (2 * (gl s - gl s1)) 166 6 [(0, .ref h0), (1, .int x1), (2, .int x2), (3, .int x3), (5, .int x5)] [] := by
    intro k_27 hk_27 hkm_27 x1 x2 x3 x5 s hf hge a H locs ls hP hD hS hl
    have hle := mo_M_caseOf_166 N r_M_statement r_M_caseOf hmr_M_statement hmr_M_caseOf k_27 y hkm_27 x1 x2 x3 x5 s hf
    unfold bk_M_caseOf_166 at hf
    refine lv_aload_n hx hb dn_M_caseOf_166 rfl (lv_at hl 0 rfl) ?_
    refine lv_iload_n hx hb dn_M_caseOf_167 rfl (lv_at hl 3 rfl) ?_
    obtain ⟨q_1, hc_2, hf⟩ := dc_b hf
    have hme := mn_M_patch N x3 s q_1 hc_2
    refine dc_callv (dc_runV (ar := 1) (As := [.int x3]) (rest := []) (ci := 0) (q0 := 0) ⟨hx, hb, hml, hown, hg⟩ hK hN hT hS hA (ct_M_patch l dC dI cI cB cJ cZ cQ N H.size h0 a x3 s q_1 hc_2) hP hD rfl rfl wn_10_129 wn_10_131 sn_M_patch wn_1_13 wn_10_132 rfl rfl (by decide +kernel) ⟨dc_ra (Nat.le_of_ble_eq_true rfl), dc_ra (Nat.le_of_ble_eq_true rfl)⟩ rfl hl.1 rfl (Nat.le_of_ble_eq_true rfl) dn_M_caseOf_168 (dc_rm0 hle)) hP hD hS hA (fun _ H locs hw hP hD hS => ?_)
    refine W.widen (k := 2 * (gl q_1.2 - gl s1)) (n := 2 * (gl q_1.2 - gl s1)) (dc_we hme) (dc_we hme) ?_
    have hge := Nat.le_trans hge (Nat.le_of_eq hme.symm)
    have hle := Nat.le_trans (Nat.le_of_eq hme) hle
    refine lv_aload_n hx hb dn_M_caseOf_171 rfl (lv_at hl 0 rfl) ?_
    refine lv_bipush (v := 13) hx hb dn_M_caseOf_172 (by decide) ?_
    refine lv_iconst (v := 0) hx hb dn_M_caseOf_174 (by decide) ?_
    refine lv_iconst (v := 0) hx hb dn_M_caseOf_175 (by decide) ?_
    obtain ⟨q_3, hc_4, hf⟩ := dc_b hf
    have hmg := mn_M_lay N 13 0 0 q_1.2 q_3 hc_4
    have hle2 : gl q_3.2 ≤ gl y.2 := mo_M_caseOf_179 N r_M_statement r_M_caseOf hmr_M_statement hmr_M_caseOf k_27 y hkm_27 _ _ _ _ hf
    refine dc_callv (dc_runV (ar := 3) (As := [.int 13, .int 0, .int 0]) (rest := []) (ci := 0) (q0 := 0) ⟨hx, hb, hml, hown, hg⟩ hK hN hT hS hA (ct_M_lay l dC dI cI cB cJ cZ cQ N H.size h0 a 13 0 0 q_1.2 q_3 hc_4) hP hD rfl rfl wn_10_97 wn_10_99 sn_M_lay wn_1_13 wn_10_100 rfl rfl (by decide +kernel) ⟨dc_ra (Nat.le_of_ble_eq_true rfl), dc_ra (Nat.le_of_ble_eq_true rfl)⟩ rfl hl.1 rfl (Nat.le_of_ble_eq_true rfl) dn_M_caseOf_176 (dc_rm hge hmg hle2)) hP hD hS hA (fun a H locs hw hP hD hS => ?_)
    refine W.widen (k := 2 * (gl q_3.2 - gl s1)) (n := 2 * (gl q_3.2 - gl s1)) (dc_wa hge hmg) (dc_wa hge hmg) ?_
    have hge := Nat.le_trans hge hmg
    have hle := hle2
    exact bl_179 k_27 hk_27 hkm_27 x1 x2 x5 q_3.2 hf hge a H locs ls hP hD hS (lv_sub hl [0, 1, 2, 4] rfl)
  have bl_152 : ∀ (k_27 : Int32 → Int32 → ms → Option (Unit × ms)) (hk_27 : ∀ (x1 : Int32) (x2 : Int32) (s : ms), k_27 x1 x2 s = some y → gl s1 ≤ gl s → dcG p l e ({ frames := 407 + (d + 1), cells := 2 * (gl y.2 - gl s1), slots := 2 * (gl y.2 - gl s1), locals := 9766 + (d + 1) * 25 }) s0 m [.ref h0].toArray below meth c QQ (dC, dI) A (fun a => (wM h0 a cI cB cJ cZ s)) (2 * (gl s - gl s1)) 27 6 [(0, .ref h0), (1, .int x1), (2, .int x2)] []) (hkm_27 : ∀ (x1 : Int32) (x2 : Int32) (s : ms), k_27 x1 x2 s = some y → gl s ≤ gl y.2) (x1 : Int32) (x2 : Int32) (x3 : Int32) (s : ms), bk_M_caseOf_152 N r_M_statement r_M_caseOf k_27 x1 x2 x3 s = some y → gl s1 ≤ gl s → dcG p l e ({ frames := 407 + (d + 1), cells := 2 * (gl y.2 - gl s1), slots := 2 * (gl y.2 - gl s1), locals := 9766 + (d + 1) * 25 }) s0 m [.ref h0].toArray below meth c QQ (dC, dI) A (fun a => (wM h0 a cI cB cJ cZ s)) (2 * (gl s - gl s1)) 152 6 [(0, .ref h0), (1, .int x1), (2, .int x2), (3, .int x3)] [] := by
    intro k_27 hk_27 hkm_27 x1 x2 x3 s hf hge a H locs ls hP hD hS hl
    have hle := mo_M_caseOf_152 N r_M_statement r_M_caseOf hmr_M_statement hmr_M_caseOf k_27 y hkm_27 x1 x2 x3 s hf
    unfold bk_M_caseOf_152 at hf
    refine lv_aload_n hx hb dn_M_caseOf_152 rfl (lv_at hl 0 rfl) ?_
    refine va_get (D := (dC, dI)) (ci := 0) (v := .int ((s.1 42 0))) (C := rn_M) (T := fn_M) (N := 91) hx hb hg in_M hown hK hP 0 rfl rfl 42 (by decide) (hg _ wn_8_115) (fun _ h9 => h9) rfl dn_M_caseOf_153 ?_
    refine lv_istore (lv' := [(5, .int ((s.1 42 0))), (0, .ref h0), (1, .int x1), (2, .int x2), (3, .int x3)]) hx hb dn_M_caseOf_156 hl (by decide) rfl (fun ls hl => ?_)
    refine lv_aload_n hx hb dn_M_caseOf_158 rfl (lv_at hl 1 rfl) ?_
    refine lv_bipush (v := 11) hx hb dn_M_caseOf_159 (by decide) ?_
    refine lv_iconst (v := 0) hx hb dn_M_caseOf_161 (by decide) ?_
    refine lv_iconst (v := 0) hx hb dn_M_caseOf_162 (by decide) ?_
    obtain ⟨q_1, hc_2, hf⟩ := dc_b hf
    have hmg := mn_M_lay N 11 0 0 s q_1 hc_2
    have hle2 : gl q_1.2 ≤ gl y.2 := mo_M_caseOf_166 N r_M_statement r_M_caseOf hmr_M_statement hmr_M_caseOf k_27 y hkm_27 _ _ _ _ _ hf
    refine dc_callv (dc_runV (ar := 3) (As := [.int 11, .int 0, .int 0]) (rest := []) (ci := 0) (q0 := 0) ⟨hx, hb, hml, hown, hg⟩ hK hN hT hS hA (ct_M_lay l dC dI cI cB cJ cZ cQ N H.size h0 a 11 0 0 s q_1 hc_2) hP hD rfl rfl wn_10_97 wn_10_99 sn_M_lay wn_1_13 wn_10_100 rfl rfl (by decide +kernel) ⟨dc_ra (Nat.le_of_ble_eq_true rfl), dc_ra (Nat.le_of_ble_eq_true rfl)⟩ rfl hl.1 rfl (Nat.le_of_ble_eq_true rfl) dn_M_caseOf_163 (dc_rm hge hmg hle2)) hP hD hS hA (fun a H locs hw hP hD hS => ?_)
    refine W.widen (k := 2 * (gl q_1.2 - gl s1)) (n := 2 * (gl q_1.2 - gl s1)) (dc_wa hge hmg) (dc_wa hge hmg) ?_
    have hge := Nat.le_trans hge hmg
    have hle := hle2
    exact bl_166 k_27 hk_27 hkm_27 x1 x2 x3 ((s.1 42 0)) q_1.2 hf hge a H locs ls hP hD hS (lv_sub hl [1, 2, 3, 4, 0] rfl)
  have bl_137 : ∀ (k_27 : Int32 → Int32 → ms → Option (Unit × ms)) (hk_27 : ∀ (x1 : Int32) (x2 : Int32) (s : ms), k_27 x1 x2 s = some y → gl s1 ≤ gl s → dcG p l e ({ frames := 407 + (d + 1), cells := 2 * (gl y.2 - gl s1), slots := 2 * (gl y.2 - gl s1), locals := 9766 + (d + 1) * 25 }) s0 m [.ref h0].toArray below meth c QQ (dC, dI) A (fun a => (wM h0 a cI cB cJ cZ s)) (2 * (gl s - gl s1)) 27 6 [(0, .ref h0), (1, .int x1), (2, .int x2)] []) (hkm_27 : ∀ (x1 : Int32) (x2 : Int32) (s : ms), k_27 x1 x2 s = some y → gl s ≤ gl y.2) (k_42 : Int32 → Int32 → Int32 → Int32 → ms → Option (Unit × ms)) (hk_42 : ∀ (x1 : Int32) (x2 : Int32) (x3 : Int32) (x4 : Int32) (s : ms), k_42 x1 x2 x3 x4 s = some y → gl s1 ≤ gl s → dcG p l e ({ frames := 407 + (d + 1), cells := 2 * (gl y.2 - gl s1), slots := 2 * (gl y.2 - gl s1), locals := 9766 + (d + 1) * 25 }) s0 m [.ref h0].toArray below meth c QQ (dC, dI) A (fun a => (wM h0 a cI cB cJ cZ s)) (2 * (gl s - gl s1)) 42 6 [(0, .ref h0), (1, .int x1), (2, .int x2), (3, .int x3), (4, .int x4)] []) (hkm_42 : ∀ (x1 : Int32) (x2 : Int32) (x3 : Int32) (x4 : Int32) (s : ms), k_42 x1 x2 x3 x4 s = some y → gl s ≤ gl y.2) (x1 : Int32) (x2 : Int32) (x3 : Int32) (t0 : Int32) (s : ms), bk_M_caseOf_137 N r_M_statement r_M_caseOf k_27 k_42 x1 x2 x3 t0 s = some y → gl s1 ≤ gl s → dcG p l e ({ frames := 407 + (d + 1), cells := 2 * (gl y.2 - gl s1), slots := 2 * (gl y.2 - gl s1), locals := 9766 + (d + 1) * 25 }) s0 m [.ref h0].toArray below meth c QQ (dC, dI) A (fun a => (wM h0 a cI cB cJ cZ s)) (2 * (gl s - gl s1)) 137 6 [(0, .ref h0), (1, .int x1), (2, .int x2), (3, .int x3)] [.int t0] := by
    intro k_27 hk_27 hkm_27 k_42 hk_42 hkm_42 x1 x2 x3 t0 s hf hge a H locs ls hP hD hS hl
    have hle := mo_M_caseOf_137 N r_M_statement r_M_caseOf hmr_M_statement hmr_M_caseOf k_27 k_42 y hkm_27 hkm_42 x1 x2 x3 t0 s hf
    unfold bk_M_caseOf_137 at hf
    refine lv_istore (lv' := [(4, .int t0), (0, .ref h0), (1, .int x1), (2, .int x2), (3, .int x3)]) hx hb dn_M_caseOf_137 hl (by decide) rfl (fun ls hl => ?_)
    refine lv_aload_n hx hb dn_M_caseOf_139 rfl (lv_at hl 1 rfl) ?_
    refine lv_dup hx hb dn_M_caseOf_140 rfl ?_
    refine va_get (D := (dC, dI)) (ci := 0) (v := .int ((s.1 8 0))) (C := rn_M) (T := fn_M) (N := 91) hx hb hg in_M hown hK hP 0 rfl rfl 8 (by decide) (hg _ wn_8_81) (fun _ h9 => h9) rfl dn_M_caseOf_141 ?_
    refine lv_iconst (v := 1) hx hb dn_M_caseOf_144 (by decide) ?_
    refine lv_iadd hx hb dn_M_caseOf_145 ?_
    refine va_put (D := (dC, dI)) (ci := 0) (v := .int (((s.1 8 0) + 1))) (ty := .int) (C := rn_M) (T := fn_M) (N := 91) hx hb hg in_M tn_M tk_M nn_M hown hK hP hD hS 0 rfl rfl 8 (by decide) (hg _ wn_8_81) (fun _ h9 => h9) rfl (tk_M 8 (by decide)) rfl rfl (Nat.le_of_ble_eq_true rfl) dn_M_caseOf_146 (fun H locs hP hD hS => ?_)
    have hP := wM_P_8 hP
    have hD := wM_D_8 hD
    refine lv_goto (tgt := 42) hx hb dn_M_caseOf_149 (by decide) ?_
    exact hk_42 x1 x2 x3 t0 (upI s 8 (fun _ => ((s.1 8 0) + 1))) hf hge a H locs ls hP hD hS (lv_sub hl [1, 2, 3, 4, 0] rfl)
  have bl_106 : ∀ (k_27 : Int32 → Int32 → ms → Option (Unit × ms)) (hk_27 : ∀ (x1 : Int32) (x2 : Int32) (s : ms), k_27 x1 x2 s = some y → gl s1 ≤ gl s → dcG p l e ({ frames := 407 + (d + 1), cells := 2 * (gl y.2 - gl s1), slots := 2 * (gl y.2 - gl s1), locals := 9766 + (d + 1) * 25 }) s0 m [.ref h0].toArray below meth c QQ (dC, dI) A (fun a => (wM h0 a cI cB cJ cZ s)) (2 * (gl s - gl s1)) 27 6 [(0, .ref h0), (1, .int x1), (2, .int x2)] []) (hkm_27 : ∀ (x1 : Int32) (x2 : Int32) (s : ms), k_27 x1 x2 s = some y → gl s ≤ gl y.2) (k_42 : Int32 → Int32 → Int32 → Int32 → ms → Option (Unit × ms)) (hk_42 : ∀ (x1 : Int32) (x2 : Int32) (x3 : Int32) (x4 : Int32) (s : ms), k_42 x1 x2 x3 x4 s = some y → gl s1 ≤ gl s → dcG p l e ({ frames := 407 + (d + 1), cells := 2 * (gl y.2 - gl s1), slots := 2 * (gl y.2 - gl s1), locals := 9766 + (d + 1) * 25 }) s0 m [.ref h0].toArray below meth c QQ (dC, dI) A (fun a => (wM h0 a cI cB cJ cZ s)) (2 * (gl s - gl s1)) 42 6 [(0, .ref h0), (1, .int x1), (2, .int x2), (3, .int x3), (4, .int x4)] []) (hkm_42 : ∀ (x1 : Int32) (x2 : Int32) (x3 : Int32) (x4 : Int32) (s : ms), k_42 x1 x2 x3 x4 s = some y → gl s ≤ gl y.2) (x1 : Int32) (x2 : Int32) (s : ms), bk_M_caseOf_106 N r_M_statement r_M_caseOf k_27 k_42 x1 x2 s = some y → gl s1 ≤ gl s → dcG p l e ({ frames := 407 + (d + 1), cells := 2 * (gl y.2 - gl s1), slots := 2 * (gl y.2 - gl s1), locals := 9766 + (d + 1) * 25 }) s0 m [.ref h0].toArray below meth c QQ (dC, dI) A (fun a => (wM h0 a cI cB cJ cZ s)) (2 * (gl s - gl s1)) 106 6 [(0, .ref h0), (1, .int x1), (2, .int x2)] [] := by
    intro k_27 hk_27 hkm_27 k_42 hk_42 hkm_42 x1 x2 s hf hge a H locs ls hP hD hS hl
    have hle := mo_M_caseOf_106 N r_M_statement r_M_caseOf hmr_M_statement hmr_M_caseOf k_27 k_42 y hkm_27 hkm_42 x1 x2 s hf
    unfold bk_M_caseOf_106 at hf
    refine lv_aload_n hx hb dn_M_caseOf_106 rfl (lv_at hl 0 rfl) ?_
    refine va_get (D := (dC, dI)) (ci := 0) (v := .int ((s.1 42 0))) (C := rn_M) (T := fn_M) (N := 91) hx hb hg in_M hown hK hP 0 rfl rfl 42 (by decide) (hg _ wn_8_115) (fun _ h9 => h9) rfl dn_M_caseOf_107 ?_
    refine lv_iconst (v := 3) hx hb dn_M_caseOf_110 (by decide) ?_
    refine lv_isub hx hb dn_M_caseOf_111 ?_
    refine lv_istore_n (lv' := [(3, .int (((s.1 42 0) - 3))), (0, .ref h0), (1, .int x1), (2, .int x2)]) hx hb dn_M_caseOf_112 rfl hl (by decide) rfl (fun ls hl => ?_)
    refine lv_aload_n hx hb dn_M_caseOf_113 rfl (lv_at hl 1 rfl) ?_
    refine lv_dup hx hb dn_M_caseOf_114 rfl ?_
    refine va_get (D := (dC, dI)) (ci := 0) (v := .int ((s.1 8 0))) (C := rn_M) (T := fn_M) (N := 91) hx hb hg in_M hown hK hP 0 rfl rfl 8 (by decide) (hg _ wn_8_81) (fun _ h9 => h9) rfl dn_M_caseOf_115 ?_
    refine lv_iconst (v := 1) hx hb dn_M_caseOf_118 (by decide) ?_
    refine lv_iadd hx hb dn_M_caseOf_119 ?_
    refine va_put (D := (dC, dI)) (ci := 0) (v := .int (((s.1 8 0) + 1))) (ty := .int) (C := rn_M) (T := fn_M) (N := 91) hx hb hg in_M tn_M tk_M nn_M hown hK hP hD hS 0 rfl rfl 8 (by decide) (hg _ wn_8_81) (fun _ h9 => h9) rfl (tk_M 8 (by decide)) rfl rfl (Nat.le_of_ble_eq_true rfl) dn_M_caseOf_120 (fun H locs hP hD hS => ?_)
    have hP := wM_P_8 hP
    have hD := wM_D_8 hD
    refine lv_aload_n hx hb dn_M_caseOf_123 rfl (lv_at hl 1 rfl) ?_
    obtain ⟨q_1, hc_2, hf⟩ := dc_b hf
    have hme := mn_M_kind N (upI s 8 (fun _ => ((s.1 8 0) + 1))) q_1 hc_2
    refine dc_calli (dc_runV (ar := 0) (As := []) (rest := []) (ci := 0) (q0 := 0) ⟨hx, hb, hml, hown, hg⟩ hK hN hT hS hA (ct_M_kind l dC dI cI cB cJ cZ cQ N H.size h0 a (upI s 8 (fun _ => ((s.1 8 0) + 1))) q_1 hc_2) hP hD rfl rfl wn_9_214 wn_9_216 sn_M_kind wn_1_13 wn_9_217 rfl rfl (by decide +kernel) ⟨dc_ra (Nat.le_of_ble_eq_true rfl), dc_ra (Nat.le_of_ble_eq_true rfl)⟩ rfl hl.1 rfl (Nat.le_of_ble_eq_true rfl) dn_M_caseOf_124 (dc_rm0 hle)) hP hD hS hA (fun r_3 _ H locs hw hP hD hS => ?_)
    refine W.widen (k := 2 * (gl q_1.2 - gl s1)) (n := 2 * (gl q_1.2 - gl s1)) (dc_we hme) (dc_we hme) ?_
    have hge := Nat.le_trans hge (Nat.le_of_eq hme.symm)
    have hle := Nat.le_trans (Nat.le_of_eq hme) hle
    have hw : r_3 = q_1.1 := hw
    subst hw
    refine lv_bipush (v := 44) hx hb dn_M_caseOf_127 (by decide) ?_
    refine lv_icmp_ne (tgt := 136) hx hb dn_M_caseOf_129 (by decide) (fun h => ?_) (fun h => ?_)
    · have hf := (if_neg h).symm.trans hf
      refine lv_iconst (v := 0) hx hb dn_M_caseOf_136 (by decide) ?_
      exact bl_137 k_27 hk_27 hkm_27 k_42 hk_42 hkm_42 x1 x2 (((s.1 42 0) - 3)) 0 q_1.2 hf hge a H locs ls hP hD hS (lv_sub hl [1, 2, 3, 0] rfl)
    · have hf := (if_pos h).symm.trans hf
      refine lv_iconst (v := 1) hx hb dn_M_caseOf_132 (by decide) ?_
      refine lv_goto (tgt := 137) hx hb dn_M_caseOf_133 (by decide) ?_
      exact bl_137 k_27 hk_27 hkm_27 k_42 hk_42 hkm_42 x1 x2 (((s.1 42 0) - 3)) 1 q_1.2 hf hge a H locs ls hP hD hS (lv_sub hl [1, 2, 3, 0] rfl)
  have bl_103 : ∀ (k_27 : Int32 → Int32 → ms → Option (Unit × ms)) (hk_27 : ∀ (x1 : Int32) (x2 : Int32) (s : ms), k_27 x1 x2 s = some y → gl s1 ≤ gl s → dcG p l e ({ frames := 407 + (d + 1), cells := 2 * (gl y.2 - gl s1), slots := 2 * (gl y.2 - gl s1), locals := 9766 + (d + 1) * 25 }) s0 m [.ref h0].toArray below meth c QQ (dC, dI) A (fun a => (wM h0 a cI cB cJ cZ s)) (2 * (gl s - gl s1)) 27 6 [(0, .ref h0), (1, .int x1), (2, .int x2)] []) (hkm_27 : ∀ (x1 : Int32) (x2 : Int32) (s : ms), k_27 x1 x2 s = some y → gl s ≤ gl y.2) (k_42 : Int32 → Int32 → Int32 → Int32 → ms → Option (Unit × ms)) (hk_42 : ∀ (x1 : Int32) (x2 : Int32) (x3 : Int32) (x4 : Int32) (s : ms), k_42 x1 x2 x3 x4 s = some y → gl s1 ≤ gl s → dcG p l e ({ frames := 407 + (d + 1), cells := 2 * (gl y.2 - gl s1), slots := 2 * (gl y.2 - gl s1), locals := 9766 + (d + 1) * 25 }) s0 m [.ref h0].toArray below meth c QQ (dC, dI) A (fun a => (wM h0 a cI cB cJ cZ s)) (2 * (gl s - gl s1)) 42 6 [(0, .ref h0), (1, .int x1), (2, .int x2), (3, .int x3), (4, .int x4)] []) (hkm_42 : ∀ (x1 : Int32) (x2 : Int32) (x3 : Int32) (x4 : Int32) (s : ms), k_42 x1 x2 x3 x4 s = some y → gl s ≤ gl y.2) (x1 : Int32) (x2 : Int32) (t0 : Int32) (t1 : Int32) (t2 : Int32) (s : ms), bk_M_caseOf_103 N r_M_statement r_M_caseOf k_27 k_42 x1 x2 t0 t1 t2 s = some y → gl s1 ≤ gl s → dcG p l e ({ frames := 407 + (d + 1), cells := 2 * (gl y.2 - gl s1), slots := 2 * (gl y.2 - gl s1), locals := 9766 + (d + 1) * 25 }) s0 m [.ref h0].toArray below meth c QQ (dC, dI) A (fun a => (wM h0 a cI cB cJ cZ s)) (2 * (gl s - gl s1)) 103 6 [(0, .ref h0), (1, .int x1), (2, .int x2)] [.int t0, .int t1, .int t2, .ref h0] := by
    intro k_27 hk_27 hkm_27 k_42 hk_42 hkm_42 x1 x2 t0 t1 t2 s hf hge a H locs ls hP hD hS hl
    have hle := mo_M_caseOf_103 N r_M_statement r_M_caseOf hmr_M_statement hmr_M_caseOf k_27 k_42 y hkm_27 hkm_42 x1 x2 t0 t1 t2 s hf
    unfold bk_M_caseOf_103 at hf
    obtain ⟨q_1, hc_2, hf⟩ := dc_b hf
    have hmg := mn_M_lay N t2 t1 t0 s q_1 hc_2
    have hle2 : gl q_1.2 ≤ gl y.2 := mo_M_caseOf_106 N r_M_statement r_M_caseOf hmr_M_statement hmr_M_caseOf k_27 k_42 y hkm_27 hkm_42 _ _ _ hf
    refine dc_callv (dc_runV (ar := 3) (As := [.int t2, .int t1, .int t0]) (rest := []) (ci := 0) (q0 := 0) ⟨hx, hb, hml, hown, hg⟩ hK hN hT hS hA (ct_M_lay l dC dI cI cB cJ cZ cQ N H.size h0 a t2 t1 t0 s q_1 hc_2) hP hD rfl rfl wn_10_97 wn_10_99 sn_M_lay wn_1_13 wn_10_100 rfl rfl (by decide +kernel) ⟨dc_ra (Nat.le_of_ble_eq_true rfl), dc_ra (Nat.le_of_ble_eq_true rfl)⟩ rfl hl.1 rfl (Nat.le_of_ble_eq_true rfl) dn_M_caseOf_103 (dc_rm hge hmg hle2)) hP hD hS hA (fun a H locs hw hP hD hS => ?_)
    refine W.widen (k := 2 * (gl q_1.2 - gl s1)) (n := 2 * (gl q_1.2 - gl s1)) (dc_wa hge hmg) (dc_wa hge hmg) ?_
    have hge := Nat.le_trans hge hmg
    have hle := hle2
    exact bl_106 k_27 hk_27 hkm_27 k_42 hk_42 hkm_42 x1 x2 q_1.2 hf hge a H locs ls hP hD hS hl
  have bl_81 : ∀ (k_27 : Int32 → Int32 → ms → Option (Unit × ms)) (hk_27 : ∀ (x1 : Int32) (x2 : Int32) (s : ms), k_27 x1 x2 s = some y → gl s1 ≤ gl s → dcG p l e ({ frames := 407 + (d + 1), cells := 2 * (gl y.2 - gl s1), slots := 2 * (gl y.2 - gl s1), locals := 9766 + (d + 1) * 25 }) s0 m [.ref h0].toArray below meth c QQ (dC, dI) A (fun a => (wM h0 a cI cB cJ cZ s)) (2 * (gl s - gl s1)) 27 6 [(0, .ref h0), (1, .int x1), (2, .int x2)] []) (hkm_27 : ∀ (x1 : Int32) (x2 : Int32) (s : ms), k_27 x1 x2 s = some y → gl s ≤ gl y.2) (k_42 : Int32 → Int32 → Int32 → Int32 → ms → Option (Unit × ms)) (hk_42 : ∀ (x1 : Int32) (x2 : Int32) (x3 : Int32) (x4 : Int32) (s : ms), k_42 x1 x2 x3 x4 s = some y → gl s1 ≤ gl s → dcG p l e ({ frames := 407 + (d + 1), cells := 2 * (gl y.2 - gl s1), slots := 2 * (gl y.2 - gl s1), locals := 9766 + (d + 1) * 25 }) s0 m [.ref h0].toArray below meth c QQ (dC, dI) A (fun a => (wM h0 a cI cB cJ cZ s)) (2 * (gl s - gl s1)) 42 6 [(0, .ref h0), (1, .int x1), (2, .int x2), (3, .int x3), (4, .int x4)] []) (hkm_42 : ∀ (x1 : Int32) (x2 : Int32) (x3 : Int32) (x4 : Int32) (s : ms), k_42 x1 x2 x3 x4 s = some y → gl s ≤ gl y.2) (x1 : Int32) (x2 : Int32) (x3 : Int32) (s : ms), bk_M_caseOf_81 N r_M_statement r_M_caseOf k_27 k_42 x1 x2 x3 s = some y → gl s1 ≤ gl s → dcG p l e ({ frames := 407 + (d + 1), cells := 2 * (gl y.2 - gl s1), slots := 2 * (gl y.2 - gl s1), locals := 9766 + (d + 1) * 25 }) s0 m [.ref h0].toArray below meth c QQ (dC, dI) A (fun a => (wM h0 a cI cB cJ cZ s)) (2 * (gl s - gl s1)) 81 6 [(0, .ref h0), (1, .int x1), (2, .int x2), (3, .int x3)] [] := by
    intro k_27 hk_27 hkm_27 k_42 hk_42 hkm_42 x1 x2 x3 s hf hge a H locs ls hP hD hS hl
    have hle := mo_M_caseOf_81 N r_M_statement r_M_caseOf hmr_M_statement hmr_M_caseOf k_27 k_42 y hkm_27 hkm_42 x1 x2 x3 s hf
    unfold bk_M_caseOf_81 at hf
    refine lv_aload_n hx hb dn_M_caseOf_81 rfl (lv_at hl 0 rfl) ?_
    refine lv_iload_n hx hb dn_M_caseOf_82 rfl (lv_at hl 1 rfl) ?_
    refine lv_i2l (v := Int32.toInt64 x1) hx hb dn_M_caseOf_83 rfl ?_
    obtain ⟨q_1, hc_2, hf⟩ := dc_b hf
    have hme := mn_M_cost N ((Int32.toInt64 x1)) s q_1 hc_2
    refine dc_callv (dc_runV (ar := 1) (As := [.long ((Int32.toInt64 x1))]) (rest := []) (ci := 0) (q0 := 0) ⟨hx, hb, hml, hown, hg⟩ hK hN hT hS hA (ct_M_cost l dC dI cI cB cJ cZ cQ N H.size h0 a ((Int32.toInt64 x1)) s q_1 hc_2) hP hD rfl rfl wn_10_109 wn_10_111 sn_M_cost wn_1_13 wn_10_112 rfl rfl (by decide +kernel) ⟨dc_ra (Nat.le_of_ble_eq_true rfl), dc_ra (Nat.le_of_ble_eq_true rfl)⟩ rfl hl.1 rfl (Nat.le_of_ble_eq_true rfl) dn_M_caseOf_84 (dc_rm0 hle)) hP hD hS hA (fun _ H locs hw hP hD hS => ?_)
    refine W.widen (k := 2 * (gl q_1.2 - gl s1)) (n := 2 * (gl q_1.2 - gl s1)) (dc_we hme) (dc_we hme) ?_
    have hge := Nat.le_trans hge (Nat.le_of_eq hme.symm)
    have hle := Nat.le_trans (Nat.le_of_eq hme) hle
    refine lv_aload_n hx hb dn_M_caseOf_87 rfl (lv_at hl 0 rfl) ?_
    refine lv_bipush (v := 12) hx hb dn_M_caseOf_88 (by decide) ?_
    refine lv_iload_n hx hb dn_M_caseOf_90 rfl (lv_at hl 3 rfl) ?_
    refine lv_aload_n hx hb dn_M_caseOf_91 rfl (lv_at hl 0 rfl) ?_
    refine lv_aload_n hx hb dn_M_caseOf_92 rfl (lv_at hl 0 rfl) ?_
    refine lv_aload_n hx hb dn_M_caseOf_93 rfl (lv_at hl 0 rfl) ?_
    refine va_get (D := (dC, dI)) (ci := 0) (v := .int ((q_1.2.1 8 0))) (C := rn_M) (T := fn_M) (N := 91) hx hb hg in_M hown hK hP 0 rfl rfl 8 (by decide) (hg _ wn_8_81) (fun _ h9 => h9) rfl dn_M_caseOf_94 ?_
    obtain ⟨q_3, hc_4, hf⟩ := dc_b hf
    have hme := mn_M_numberOf N ((q_1.2.1 8 0)) q_1.2 q_3 hc_4
    refine dc_calll (dc_runV (ar := 1) (As := [.int ((q_1.2.1 8 0))]) (rest := [.ref h0, .int x3, .int 12, .ref h0]) (ci := 0) (q0 := 0) ⟨hx, hb, hml, hown, hg⟩ hK hN hT hS hA (ct_M_numberOf l dC dI cI cB cJ cZ cQ N H.size h0 a ((q_1.2.1 8 0)) q_1.2 q_3 hc_4) hP hD rfl rfl wn_10_40 wn_10_42 sn_M_numberOf wn_1_13 wn_10_43 rfl rfl (by decide +kernel) ⟨dc_ra (Nat.le_of_ble_eq_true rfl), dc_ra (Nat.le_of_ble_eq_true rfl)⟩ rfl hl.1 rfl (Nat.le_of_ble_eq_true rfl) dn_M_caseOf_97 (dc_rm0 hle)) hP hD hS hA (fun r_5 _ H locs hw hP hD hS => ?_)
    refine W.widen (k := 2 * (gl q_3.2 - gl s1)) (n := 2 * (gl q_3.2 - gl s1)) (dc_we hme) (dc_we hme) ?_
    have hge := Nat.le_trans hge (Nat.le_of_eq hme.symm)
    have hle := Nat.le_trans (Nat.le_of_eq hme) hle
    have hw : r_5 = q_3.1 := hw
    subst hw
    obtain ⟨q_6, hc_7, hf⟩ := dc_b hf
    have hmg := mn_M_keepNumber N q_3.1 q_3.2 q_6 hc_7
    have hle2 : gl q_6.2 ≤ gl y.2 := mo_M_caseOf_103 N r_M_statement r_M_caseOf hmr_M_statement hmr_M_caseOf k_27 k_42 y hkm_27 hkm_42 _ _ _ _ _ _ hf
    refine dc_calli (dc_runV (ar := 1) (As := [.long q_3.1]) (rest := [.int x3, .int 12, .ref h0]) (ci := 0) (q0 := 0) ⟨hx, hb, hml, hown, hg⟩ hK hN hT hS hA (ct_M_keepNumber l dC dI cI cB cJ cZ cQ N H.size h0 a q_3.1 q_3.2 q_6 hc_7) hP hD rfl rfl wn_10_93 wn_10_95 sn_M_keepNumber wn_1_13 wn_10_96 rfl rfl (by decide +kernel) ⟨dc_ra (Nat.le_of_ble_eq_true rfl), dc_ra (Nat.le_of_ble_eq_true rfl)⟩ rfl hl.1 rfl (Nat.le_of_ble_eq_true rfl) dn_M_caseOf_100 (dc_rm hge hmg hle2)) hP hD hS hA (fun r_8 a H locs hw hP hD hS => ?_)
    refine W.widen (k := 2 * (gl q_6.2 - gl s1)) (n := 2 * (gl q_6.2 - gl s1)) (dc_wa hge hmg) (dc_wa hge hmg) ?_
    have hge := Nat.le_trans hge hmg
    have hle := hle2
    have hw : r_8 = q_6.1 := hw
    subst hw
    exact bl_103 k_27 hk_27 hkm_27 k_42 hk_42 hkm_42 x1 x2 q_6.1 x3 12 q_6.2 hf hge a H locs ls hP hD hS (lv_sub hl [0, 1, 2] rfl)
  have hd_42 : ∀ (k_27 : Int32 → Int32 → ms → Option (Unit × ms)) (hk_27 : ∀ (x1 : Int32) (x2 : Int32) (s : ms), k_27 x1 x2 s = some y → gl s1 ≤ gl s → dcG p l e ({ frames := 407 + (d + 1), cells := 2 * (gl y.2 - gl s1), slots := 2 * (gl y.2 - gl s1), locals := 9766 + (d + 1) * 25 }) s0 m [.ref h0].toArray below meth c QQ (dC, dI) A (fun a => (wM h0 a cI cB cJ cZ s)) (2 * (gl s - gl s1)) 27 6 [(0, .ref h0), (1, .int x1), (2, .int x2)] []) (hkm_27 : ∀ (x1 : Int32) (x2 : Int32) (s : ms), k_27 x1 x2 s = some y → gl s ≤ gl y.2) (n : Nat) (x1 : Int32) (x2 : Int32) (x3 : Int32) (x4 : Int32) (s : ms), hd_M_caseOf_42 N r_M_statement r_M_caseOf k_27 n x1 x2 x3 x4 s = some y → gl s1 ≤ gl s → dcG p l e ({ frames := 407 + (d + 1), cells := 2 * (gl y.2 - gl s1), slots := 2 * (gl y.2 - gl s1), locals := 9766 + (d + 1) * 25 }) s0 m [.ref h0].toArray below meth c QQ (dC, dI) A (fun a => (wM h0 a cI cB cJ cZ s)) (2 * (gl s - gl s1)) 42 6 [(0, .ref h0), (1, .int x1), (2, .int x2), (3, .int x3), (4, .int x4)] [] := by
    intro k_27 hk_27 hkm_27 n
    induction n with
    | zero => intro x1 x2 x3 x4 s hf; cases hf
    | succ n ih =>
      intro x1 x2 x3 x4 s hf hge a H locs ls hP hD hS hl
      have hle := mh_M_caseOf_42 N r_M_statement r_M_caseOf hmr_M_statement hmr_M_caseOf k_27 y hkm_27 (n + 1) x1 x2 x3 x4 s hf
      have hkm_42 := mh_M_caseOf_42 N r_M_statement r_M_caseOf hmr_M_statement hmr_M_caseOf k_27 y hkm_27 n
      have hf : bd_M_caseOf_42 N r_M_statement r_M_caseOf k_27 (hd_M_caseOf_42 N r_M_statement r_M_caseOf k_27 n) x1 x2 x3 x4 s = some y := hf
      have hk_42 := ih
      generalize hd_M_caseOf_42 N r_M_statement r_M_caseOf k_27 n = k_42 at hf hk_42 hkm_42
      unfold bd_M_caseOf_42 at hf
      refine lv_iload hx hb dn_M_caseOf_42 (lv_at hl 4 rfl) ?_
      refine lv_if_eq (tgt := 152) hx hb dn_M_caseOf_44 (by decide) (fun h => ?_) (fun h => ?_)
      · have hf := (if_pos h).symm.trans hf
        exact bl_152 k_27 hk_27 hkm_27 x1 x2 x3 s hf hge a H locs ls hP hD hS (lv_sub hl [0, 1, 2, 3] rfl)
      · have hf := (if_neg h).symm.trans hf
        refine lv_aload_n hx hb dn_M_caseOf_47 rfl (lv_at hl 0 rfl) ?_
        refine va_get (D := (dC, dI)) (ci := 0) (v := .int ((s.1 9 0))) (C := rn_M) (T := fn_M) (N := 91) hx hb hg in_M hown hK hP 0 rfl rfl 9 (by decide) (hg _ wn_8_82) (fun _ h9 => h9) rfl dn_M_caseOf_48 ?_
        refine lv_if_ne (tgt := 152) hx hb dn_M_caseOf_51 (by decide) (fun h => ?_) (fun h => ?_)
        · have hf := (if_neg h).symm.trans hf
          exact bl_152 k_27 hk_27 hkm_27 x1 x2 x3 s hf hge a H locs ls hP hD hS (lv_sub hl [0, 1, 2, 3] rfl)
        · have hf := (if_pos h).symm.trans hf
          refine lv_aload_n hx hb dn_M_caseOf_54 rfl (lv_at hl 0 rfl) ?_
          refine lv_aload_n hx hb dn_M_caseOf_55 rfl (lv_at hl 0 rfl) ?_
          refine va_get (D := (dC, dI)) (ci := 0) (v := .int ((s.1 8 0))) (C := rn_M) (T := fn_M) (N := 91) hx hb hg in_M hown hK hP 0 rfl rfl 8 (by decide) (hg _ wn_8_81) (fun _ h9 => h9) rfl dn_M_caseOf_56 ?_
          obtain ⟨q_1, hc_2, hf⟩ := dc_b hf
          have hme := mn_M_widthOfNumber N ((s.1 8 0)) s q_1 hc_2
          refine dc_calli (dc_runV (ar := 1) (As := [.int ((s.1 8 0))]) (rest := []) (ci := 0) (q0 := 0) ⟨hx, hb, hml, hown, hg⟩ hK hN hT hS hA (ct_M_widthOfNumber l dC dI cI cB cJ cZ cQ N H.size h0 a ((s.1 8 0)) s q_1 hc_2) hP hD rfl rfl wn_10_61 wn_10_63 sn_M_widthOfNumber wn_1_13 wn_10_64 rfl rfl (by decide +kernel) ⟨dc_ra (Nat.le_of_ble_eq_true rfl), dc_ra (Nat.le_of_ble_eq_true rfl)⟩ rfl hl.1 rfl (Nat.le_of_ble_eq_true rfl) dn_M_caseOf_59 (dc_rm0 hle)) hP hD hS hA (fun r_3 _ H locs hw hP hD hS => ?_)
          refine W.widen (k := 2 * (gl q_1.2 - gl s1)) (n := 2 * (gl q_1.2 - gl s1)) (dc_we hme) (dc_we hme) ?_
          have hge := Nat.le_trans hge (Nat.le_of_eq hme.symm)
          have hle := Nat.le_trans (Nat.le_of_eq hme) hle
          have hw : r_3 = q_1.1 := hw
          subst hw
          refine lv_iload_n hx hb dn_M_caseOf_62 rfl (lv_at hl 1 rfl) ?_
          refine lv_icmp_eq (tgt := 81) hx hb dn_M_caseOf_63 (by decide) (fun h => ?_) (fun h => ?_)
          · have hf := (if_pos h).symm.trans hf
            exact bl_81 k_27 hk_27 hkm_27 k_42 hk_42 hkm_42 x1 x2 x3 q_1.2 hf hge a H locs ls hP hD hS (lv_sub hl [0, 1, 2, 3] rfl)
          · have hf := (if_neg h).symm.trans hf
            refine lv_aload_n hx hb dn_M_caseOf_66 rfl (lv_at hl 0 rfl) ?_
            refine lv_bipush (v := 30) hx hb dn_M_caseOf_67 (by decide) ?_
            refine lv_aload_n hx hb dn_M_caseOf_69 rfl (lv_at hl 0 rfl) ?_
            refine va_get (D := (dC, dI)) (ci := 0) (v := .ref ((a 5))) (C := rn_M) (T := fn_M) (N := 91) hx hb hg in_M hown hK hP 0 rfl rfl 5 (by decide) (hg _ wn_8_78) (fun _ h9 => h9) rfl dn_M_caseOf_70 ?_
            refine lv_aload_n hx hb dn_M_caseOf_73 rfl (lv_at hl 0 rfl) ?_
            refine va_get (D := (dC, dI)) (ci := 0) (v := .int ((q_1.2.1 8 0))) (C := rn_M) (T := fn_M) (N := 91) hx hb hg in_M hown hK hP 0 rfl rfl 8 (by decide) (hg _ wn_8_81) (fun _ h9 => h9) rfl dn_M_caseOf_74 ?_
            obtain ⟨hg_4, hf⟩ := dc_g hf
            refine va_iald hx hb hK hP 3 0 rfl rfl hg_4 dn_M_caseOf_77 ?_
            refine xk_ti (y := ((q_1.2.1 5) (Int32.toNatClampNeg ((q_1.2.1 8 0))))) rfl ?_
            obtain ⟨q_5, hc_6, hf⟩ := dc_b hf
            have hme := mn_M_fail N 30 (((q_1.2.1 5) (Int32.toNatClampNeg ((q_1.2.1 8 0))))) q_1.2 q_5 hc_6
            refine dc_callv (dc_runV (ar := 2) (As := [.int 30, .int (((q_1.2.1 5) (Int32.toNatClampNeg ((q_1.2.1 8 0)))))]) (rest := []) (ci := 0) (q0 := 0) ⟨hx, hb, hml, hown, hg⟩ hK hN hT hS hA (ct_M_fail l dC dI cI cB cJ cZ cQ N H.size h0 a 30 (((q_1.2.1 5) (Int32.toNatClampNeg ((q_1.2.1 8 0))))) q_1.2 q_5 hc_6) hP hD rfl rfl wn_9_186 wn_9_188 sn_M_fail wn_1_13 wn_9_189 rfl rfl (by decide +kernel) ⟨dc_ra (Nat.le_of_ble_eq_true rfl), dc_ra (Nat.le_of_ble_eq_true rfl)⟩ rfl hl.1 rfl (Nat.le_of_ble_eq_true rfl) dn_M_caseOf_78 (dc_rm0 hle)) hP hD hS hA (fun _ H locs hw hP hD hS => ?_)
            refine W.widen (k := 2 * (gl q_5.2 - gl s1)) (n := 2 * (gl q_5.2 - gl s1)) (dc_we hme) (dc_we hme) ?_
            have hge := Nat.le_trans hge (Nat.le_of_eq hme.symm)
            have hle := Nat.le_trans (Nat.le_of_eq hme) hle
            exact bl_81 k_27 hk_27 hkm_27 k_42 hk_42 hkm_42 x1 x2 x3 q_5.2 hf hge a H locs ls hP hD hS (lv_sub hl [0, 1, 2, 3] rfl)
  have hd_27 : ∀ (n : Nat) (x1 : Int32) (x2 : Int32) (s : ms), hd_M_caseOf_27 N r_M_statement r_M_caseOf n x1 x2 s = some y → gl s1 ≤ gl s → dcG p l e ({ frames := 407 + (d + 1), cells := 2 * (gl y.2 - gl s1), slots := 2 * (gl y.2 - gl s1), locals := 9766 + (d + 1) * 25 }) s0 m [.ref h0].toArray below meth c QQ (dC, dI) A (fun a => (wM h0 a cI cB cJ cZ s)) (2 * (gl s - gl s1)) 27 6 [(0, .ref h0), (1, .int x1), (2, .int x2)] [] := by
    intro n
    induction n with
    | zero => intro x1 x2 s hf; cases hf
    | succ n ih =>
      intro x1 x2 s hf hge a H locs ls hP hD hS hl
      have hle := mh_M_caseOf_27 N r_M_statement r_M_caseOf hmr_M_statement hmr_M_caseOf y (n + 1) x1 x2 s hf
      have hkm_27 := mh_M_caseOf_27 N r_M_statement r_M_caseOf hmr_M_statement hmr_M_caseOf y n
      have hf : bd_M_caseOf_27 N r_M_statement r_M_caseOf (hd_M_caseOf_27 N r_M_statement r_M_caseOf n) x1 x2 s = some y := hf
      have hk_27 := ih
      generalize hd_M_caseOf_27 N r_M_statement r_M_caseOf n = k_27 at hf hk_27 hkm_27
      unfold bd_M_caseOf_27 at hf
      refine lv_aload_n hx hb dn_M_caseOf_27 rfl (lv_at hl 0 rfl) ?_
      refine lv_sipush (v := 402) hx hb dn_M_caseOf_28 (by decide) ?_
      obtain ⟨q_1, hc_2, hf⟩ := dc_b hf
      have hme := mn_M_is N 402 s q_1 hc_2
      refine dc_calli (dc_runV (ar := 1) (As := [.int 402]) (rest := []) (ci := 0) (q0 := 0) ⟨hx, hb, hml, hown, hg⟩ hK hN hT hS hA (ct_M_is l dC dI cI cB cJ cZ cQ N H.size h0 a 402 s q_1 hc_2) hP hD rfl rfl wn_9_194 wn_9_196 sn_M_is wn_1_13 wn_9_197 rfl rfl (by decide +kernel) ⟨dc_ra (Nat.le_of_ble_eq_true rfl), dc_ra (Nat.le_of_ble_eq_true rfl)⟩ rfl hl.1 rfl (Nat.le_of_ble_eq_true rfl) dn_M_caseOf_31 (dc_rm0 hle)) hP hD hS hA (fun r_3 _ H locs hw hP hD hS => ?_)
      refine W.widen (k := 2 * (gl q_1.2 - gl s1)) (n := 2 * (gl q_1.2 - gl s1)) (dc_we hme) (dc_we hme) ?_
      have hge := Nat.le_trans hge (Nat.le_of_eq hme.symm)
      have hle := Nat.le_trans (Nat.le_of_eq hme) hle
      have hw : r_3 = q_1.1 := hw
      subst hw
      refine lv_if_eq (tgt := 214) hx hb dn_M_caseOf_34 (by decide) (fun h => ?_) (fun h => ?_)
      · have hf := (if_pos h).symm.trans hf
        refine lv_aload_n hx hb dn_M_caseOf_214 rfl (lv_at hl 0 rfl) ?_
        refine lv_bipush (v := 13) hx hb dn_M_caseOf_215 (by decide) ?_
        refine lv_iconst (v := 0) hx hb dn_M_caseOf_217 (by decide) ?_
        refine lv_iconst (v := 0) hx hb dn_M_caseOf_218 (by decide) ?_
        obtain ⟨q_4, hc_5, hf⟩ := dc_b hf
        have hmg := mn_M_lay N 13 0 0 q_1.2 q_4 hc_5
        have hle2 : gl q_4.2 ≤ gl y.2 := mo_M_caseOf_222 N r_M_statement r_M_caseOf hmr_M_statement hmr_M_caseOf y _ _ hf
        refine dc_callv (dc_runV (ar := 3) (As := [.int 13, .int 0, .int 0]) (rest := []) (ci := 0) (q0 := 0) ⟨hx, hb, hml, hown, hg⟩ hK hN hT hS hA (ct_M_lay l dC dI cI cB cJ cZ cQ N H.size h0 a 13 0 0 q_1.2 q_4 hc_5) hP hD rfl rfl wn_10_97 wn_10_99 sn_M_lay wn_1_13 wn_10_100 rfl rfl (by decide +kernel) ⟨dc_ra (Nat.le_of_ble_eq_true rfl), dc_ra (Nat.le_of_ble_eq_true rfl)⟩ rfl hl.1 rfl (Nat.le_of_ble_eq_true rfl) dn_M_caseOf_219 (dc_rm hge hmg hle2)) hP hD hS hA (fun a H locs hw hP hD hS => ?_)
        refine W.widen (k := 2 * (gl q_4.2 - gl s1)) (n := 2 * (gl q_4.2 - gl s1)) (dc_wa hge hmg) (dc_wa hge hmg) ?_
        have hge := Nat.le_trans hge hmg
        have hle := hle2
        exact bl_222 x2 q_4.2 hf hge a H locs ls hP hD hS (lv_sub hl [0, 2] rfl)
      · have hf := (if_neg h).symm.trans hf
        refine lv_iconst (v := (-1)) hx hb dn_M_caseOf_37 (by decide) ?_
        refine lv_istore_n (lv' := [(3, .int ((-1))), (0, .ref h0), (1, .int x1), (2, .int x2)]) hx hb dn_M_caseOf_38 rfl hl (by decide) rfl (fun ls hl => ?_)
        refine lv_iconst (v := 1) hx hb dn_M_caseOf_39 (by decide) ?_
        refine lv_istore (lv' := [(4, .int 1), (3, .int ((-1))), (0, .ref h0), (1, .int x1), (2, .int x2)]) hx hb dn_M_caseOf_40 hl (by decide) rfl (fun ls hl => ?_)
        exact hd_42 k_27 hk_27 hkm_27 N x1 x2 ((-1)) 1 q_1.2 hf hge a H locs ls hP hD hS (lv_sub hl [2, 3, 4, 1, 0] rfl)
  have bl_14 : ∀ (t0 : Int32) (s : ms), bk_M_caseOf_14 N r_M_statement r_M_caseOf t0 s = some y → gl s1 ≤ gl s → dcG p l e ({ frames := 407 + (d + 1), cells := 2 * (gl y.2 - gl s1), slots := 2 * (gl y.2 - gl s1), locals := 9766 + (d + 1) * 25 }) s0 m [.ref h0].toArray below meth c QQ (dC, dI) A (fun a => (wM h0 a cI cB cJ cZ s)) (2 * (gl s - gl s1)) 14 6 [(0, .ref h0)] [.int t0] := by
    intro t0 s hf hge a H locs ls hP hD hS hl
    have hle := mo_M_caseOf_14 N r_M_statement r_M_caseOf hmr_M_statement hmr_M_caseOf y t0 s hf
    unfold bk_M_caseOf_14 at hf
    refine lv_istore_n (lv' := [(1, .int t0), (0, .ref h0)]) hx hb dn_M_caseOf_14 rfl hl (by decide) rfl (fun ls hl => ?_)
    refine lv_aload_n hx hb dn_M_caseOf_15 rfl (lv_at hl 1 rfl) ?_
    refine lv_dup hx hb dn_M_caseOf_16 rfl ?_
    refine va_get (D := (dC, dI)) (ci := 0) (v := .int ((s.1 8 0))) (C := rn_M) (T := fn_M) (N := 91) hx hb hg in_M hown hK hP 0 rfl rfl 8 (by decide) (hg _ wn_8_81) (fun _ h9 => h9) rfl dn_M_caseOf_17 ?_
    refine lv_iconst (v := 1) hx hb dn_M_caseOf_20 (by decide) ?_
    refine lv_iadd hx hb dn_M_caseOf_21 ?_
    refine va_put (D := (dC, dI)) (ci := 0) (v := .int (((s.1 8 0) + 1))) (ty := .int) (C := rn_M) (T := fn_M) (N := 91) hx hb hg in_M tn_M tk_M nn_M hown hK hP hD hS 0 rfl rfl 8 (by decide) (hg _ wn_8_81) (fun _ h9 => h9) rfl (tk_M 8 (by decide)) rfl rfl (Nat.le_of_ble_eq_true rfl) dn_M_caseOf_22 (fun H locs hP hD hS => ?_)
    have hP := wM_P_8 hP
    have hD := wM_D_8 hD
    refine lv_iconst (v := (-1)) hx hb dn_M_caseOf_25 (by decide) ?_
    refine lv_istore_n (lv' := [(2, .int ((-1))), (1, .int t0), (0, .ref h0)]) hx hb dn_M_caseOf_26 rfl hl (by decide) rfl (fun ls hl => ?_)
    exact hd_27 N t0 ((-1)) (upI s 8 (fun _ => ((s.1 8 0) + 1))) hf hge a H locs ls hP hD hS (lv_sub hl [2, 1, 0] rfl)
  intro hge a H locs ls hP hD hS hl
  have hle := mf_M_caseOf N r_M_statement r_M_caseOf hmr_M_statement hmr_M_caseOf s1 y hf
  unfold fb_M_caseOf at hf
  refine lv_aload_n hx hb dn_M_caseOf_0 rfl (lv_at hl 0 rfl) ?_
  refine lv_aload_n hx hb dn_M_caseOf_1 rfl (lv_at hl 0 rfl) ?_
  refine va_get (D := (dC, dI)) (ci := 0) (v := .int ((s1.1 8 0))) (C := rn_M) (T := fn_M) (N := 91) hx hb hg in_M hown hK hP 0 rfl rfl 8 (by decide) (hg _ wn_8_81) (fun _ h9 => h9) rfl dn_M_caseOf_2 ?_
  refine lv_iconst (v := 2) hx hb dn_M_caseOf_5 (by decide) ?_
  refine lv_iadd hx hb dn_M_caseOf_6 ?_
  refine va_put (D := (dC, dI)) (ci := 0) (v := .int (((s1.1 8 0) + 2))) (ty := .int) (C := rn_M) (T := fn_M) (N := 91) hx hb hg in_M tn_M tk_M nn_M hown hK hP hD hS 0 rfl rfl 8 (by decide) (hg _ wn_8_81) (fun _ h9 => h9) rfl (tk_M 8 (by decide)) rfl rfl (Nat.le_of_ble_eq_true rfl) dn_M_caseOf_7 (fun H locs hP hD hS => ?_)
  have hP := wM_P_8 hP
  have hD := wM_D_8 hD
  refine lv_aload_n hx hb dn_M_caseOf_10 rfl (lv_at hl 0 rfl) ?_
  obtain ⟨q_1, hc_2, hf⟩ := dc_b hf
  have hmg := mn_M_exp N (upI s1 8 (fun _ => ((s1.1 8 0) + 2))) q_1 hc_2
  have hle2 : gl q_1.2 ≤ gl y.2 := mo_M_caseOf_14 N r_M_statement r_M_caseOf hmr_M_statement hmr_M_caseOf y _ _ hf
  refine dc_calli (dc_runV (ar := 0) (As := []) (rest := []) (ci := 0) (q0 := 0) ⟨hx, hb, hml, hown, hg⟩ hK hN hT hS hA (ct_M_exp l dC dI cI cB cJ cZ cQ N H.size h0 a (upI s1 8 (fun _ => ((s1.1 8 0) + 2))) q_1 hc_2) hP hD rfl rfl wn_10_77 wn_10_79 sn_M_exp wn_1_13 wn_10_80 rfl rfl (by decide +kernel) ⟨dc_ra (Nat.le_of_ble_eq_true rfl), dc_ra (Nat.le_of_ble_eq_true rfl)⟩ rfl hl.1 rfl (Nat.le_of_ble_eq_true rfl) dn_M_caseOf_11 (dc_rm hge hmg hle2)) hP hD hS hA (fun r_3 a H locs hw hP hD hS => ?_)
  refine W.widen (k := 2 * (gl q_1.2 - gl s1)) (n := 2 * (gl q_1.2 - gl s1)) (dc_wa hge hmg) (dc_wa hge hmg) ?_
  have hge := Nat.le_trans hge hmg
  have hle := hle2
  have hw : r_3 = q_1.1 := hw
  subst hw
  exact bl_14 q_1.1 q_1.2 hf hge a H locs ls hP hD hS hl
theorem sm_M_statement (N : Nat) : ∀ d : Nat, (∀ (s : ms) (y : (Unit × ms)), (sg_M_statement N d).1 s = some y → gl s ≤ gl y.2) ∧ (∀ (s : ms) (y : (Unit × ms)), (sg_M_statement N d).2 s = some y → gl s ≤ gl y.2) := by
  intro d
  induction d with
  | zero => exact ⟨fun _ _ h => (by cases h), fun _ _ h => (by cases h)⟩
  | succ d ih =>
    obtain ⟨ih0, ih1⟩ := ih
    exact ⟨fun s y h => mf_M_statement N _ _ ih0 ih1 s y h, fun s y h => mf_M_caseOf N _ _ ih0 ih1 s y h⟩
set_option maxHeartbeats 4000000 in
theorem sc_M_statement (l : Launch) (dC : Nat → ClassId) (dI : Nat → Nat → Nat) (cI cB cJ cZ cQ : ClassId) (N : Nat) : ∀ d : Nat, (∀ (sz : Nat) (h0 : Nat) (a : Nat → Nat) (s : ms) (y : (Unit × ms)), (sg_M_statement N d).1 s = some y → Met l yn_M_statement (xw yn_M_statement bn_M_statement 3 none) ({ frames := 407 + d, cells := 2 * (gl y.2 - gl s), slots := 2 * (gl y.2 - gl s), locals := 9766 + d * 25 }) (dc_P (dC, dI) xcl (xt cI cB cJ cZ cQ) [.ref h0] sz (wM h0 a cI cB cJ cZ s)) (xk_Qv (dC, dI) xcl (xt cI cB cJ cZ cQ) (fun _ : Nat → Nat => True) (fun u : Nat → Nat => (wM h0 u cI cB cJ cZ y.2)) (va_A (wM h0 a cI cB cJ cZ s) sz)) (2 * (gl y.2 - gl s)) (2 * (gl y.2 - gl s)) (va_A (wM h0 a cI cB cJ cZ s) sz)) ∧ (∀ (sz : Nat) (h0 : Nat) (a : Nat → Nat) (s : ms) (y : (Unit × ms)), (sg_M_statement N d).2 s = some y → Met l yn_M_caseOf (xw yn_M_caseOf bn_M_caseOf 6 none) ({ frames := 407 + d, cells := 2 * (gl y.2 - gl s), slots := 2 * (gl y.2 - gl s), locals := 9766 + d * 25 }) (dc_P (dC, dI) xcl (xt cI cB cJ cZ cQ) [.ref h0] sz (wM h0 a cI cB cJ cZ s)) (xk_Qv (dC, dI) xcl (xt cI cB cJ cZ cQ) (fun _ : Nat → Nat => True) (fun u : Nat → Nat => (wM h0 u cI cB cJ cZ y.2)) (va_A (wM h0 a cI cB cJ cZ s) sz)) (2 * (gl y.2 - gl s)) (2 * (gl y.2 - gl s)) (va_A (wM h0 a cI cB cJ cZ s) sz)) := by
  intro d
  induction d with
  | zero => exact ⟨fun _ _ _ _ _ h => (by cases h), fun _ _ _ _ _ h => (by cases h)⟩
  | succ d ih =>
    obtain ⟨ih0, ih1⟩ := ih
    exact ⟨fun sz h0 a s y h => cb_M_statement l dC dI cI cB cJ cZ cQ N d _ _ (sm_M_statement N d).1 (sm_M_statement N d).2 ih0 ih1 sz h0 a s y h, fun sz h0 a s y h => cb_M_caseOf l dC dI cI cB cJ cZ cQ N d _ _ (sm_M_statement N d).1 (sm_M_statement N d).2 ih0 ih1 sz h0 a s y h⟩
theorem mn_M_statement (N : Nat) (s : ms) (y : (Unit × ms)) (hf : fn_M_statement N s = some y) : gl s ≤ gl y.2 := (sm_M_statement N 400).1 s y hf
theorem ct_M_statement (l : Launch) (dC : Nat → ClassId) (dI : Nat → Nat → Nat) (cI cB cJ cZ cQ : ClassId) (N sz : Nat) (h0 : Nat) (a : Nat → Nat) (s : ms) (y : (Unit × ms)) (hf : fn_M_statement N s = some y) : Met l yn_M_statement (xw yn_M_statement bn_M_statement 3 none) ({ frames := 407 + 400, cells := 2 * (gl y.2 - gl s), slots := 2 * (gl y.2 - gl s), locals := 9766 + 400 * 25 }) (dc_P (dC, dI) xcl (xt cI cB cJ cZ cQ) [.ref h0] sz (wM h0 a cI cB cJ cZ s)) (xk_Qv (dC, dI) xcl (xt cI cB cJ cZ cQ) (fun _ : Nat → Nat => True) (fun u : Nat → Nat => (wM h0 u cI cB cJ cZ y.2)) (va_A (wM h0 a cI cB cJ cZ s) sz)) (2 * (gl y.2 - gl s)) (2 * (gl y.2 - gl s)) (va_A (wM h0 a cI cB cJ cZ s) sz) := (sc_M_statement l dC dI cI cB cJ cZ cQ N 400).1 sz h0 a s y hf
theorem mn_M_caseOf (N : Nat) (s : ms) (y : (Unit × ms)) (hf : fn_M_caseOf N s = some y) : gl s ≤ gl y.2 := (sm_M_statement N 400).2 s y hf
theorem ct_M_caseOf (l : Launch) (dC : Nat → ClassId) (dI : Nat → Nat → Nat) (cI cB cJ cZ cQ : ClassId) (N sz : Nat) (h0 : Nat) (a : Nat → Nat) (s : ms) (y : (Unit × ms)) (hf : fn_M_caseOf N s = some y) : Met l yn_M_caseOf (xw yn_M_caseOf bn_M_caseOf 6 none) ({ frames := 407 + 400, cells := 2 * (gl y.2 - gl s), slots := 2 * (gl y.2 - gl s), locals := 9766 + 400 * 25 }) (dc_P (dC, dI) xcl (xt cI cB cJ cZ cQ) [.ref h0] sz (wM h0 a cI cB cJ cZ s)) (xk_Qv (dC, dI) xcl (xt cI cB cJ cZ cQ) (fun _ : Nat → Nat => True) (fun u : Nat → Nat => (wM h0 u cI cB cJ cZ y.2)) (va_A (wM h0 a cI cB cJ cZ s) sz)) (2 * (gl y.2 - gl s)) (2 * (gl y.2 - gl s)) (va_A (wM h0 a cI cB cJ cZ s) sz) := (sc_M_statement l dC dI cI cB cJ cZ cQ N 400).2 sz h0 a s y hf
