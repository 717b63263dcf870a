theorem mo_M_design_83 (N : Nat) (k_62 : ms → Option (Unit × ms)) (y : (Unit × ms)) (hkm_62 : ∀ (s : ms), k_62 s = some y → gl s ≤ gl y.2) (s : ms) (hf : bk_M_design_83 N k_62 s = some y) : gl s ≤ gl y.2 := by
  unfold bk_M_design_83 at hf
  have hm : gl s ≤ gl s := Nat.le_refl _
  exact Nat.le_trans hm (hkm_62 s hf)
theorem mb_M_design_62 (N : Nat) (y : (Unit × ms)) (k_62 : ms → Option (Unit × ms)) (hkm_62 : ∀ (s : ms), k_62 s = some y → gl s ≤ gl y.2) (s : ms) (hf : bd_M_design_62 N k_62 s = some y) : gl s ≤ gl y.2 := by
  unfold bd_M_design_62 at hf
  have hm : gl s ≤ gl s := Nat.le_refl _
  by_cases h : (s.1 9 0) = 0
  · have hf := (if_pos h).symm.trans hf
    obtain ⟨q_1, hc_2, hf⟩ := dc_b hf
    have hm := Nat.le_trans hm (Nat.le_of_eq (mn_M_kind N s q_1 hc_2).symm)
    by_cases h : q_1.1 = 403
    · have hf := (if_pos h).symm.trans hf
      exact Nat.le_trans hm (Nat.le_of_eq (dc_e hf).symm)
    · have hf := (if_neg h).symm.trans hf
      obtain ⟨q_4, hc_5, hf⟩ := dc_b hf
      have hm := Nat.le_trans hm (mn_M_module N q_1.2 q_4 hc_5)
      exact Nat.le_trans hm (mo_M_design_83 N k_62 y hkm_62 q_4.2 hf)
  · have hf := (if_neg h).symm.trans hf
    exact Nat.le_trans hm (Nat.le_of_eq (dc_e hf).symm)
theorem mh_M_design_62 (N : Nat) (y : (Unit × ms)) : ∀ (n : Nat) (s : ms), hd_M_design_62 N n s = some y → gl s ≤ gl y.2 := by
  intro n
  induction n with
  | zero => intro s hf; cases hf
  | succ n ih => intro s hf; exact mb_M_design_62 N y (hd_M_design_62 N n) ih s hf
theorem mn_M_design (N : Nat) (s1 : ms) (y : (Unit × ms)) (hf : fn_M_design N s1 = some y) : gl s1 ≤ gl y.2 := by
  unfold fn_M_design at hf
  have hm : gl s1 ≤ gl s1 := Nat.le_refl _
  exact Nat.le_trans hm (mh_M_design_62 N y N (upI (upI (upI (upI (upI (upI (upI (upI (upI (upI (upI (upI s1 8 (fun _ => 0)) 12 (fun _ => 0)) 18 (fun _ => 0)) 27 (fun _ => 0)) 31 (fun _ => 0)) 35 (fun _ => 0)) 38 (fun _ => 0)) 42 (fun _ => 0)) 44 (fun _ => 0)) 51 (fun _ => 0)) 53 (fun _ => 0)) 30 (upd (s1.1 30) 0 0)) hf)
set_option maxHeartbeats 8000000 in
set_option maxRecDepth 100000 in
theorem ct_M_design (l : Launch) (dC : Nat → ClassId) (dI : Nat → Nat → Nat) (cI cB cJ cZ cQ : ClassId) (N sz : Nat) (h0 : Nat) (a : Nat → Nat) (s1 : ms) (y : (Unit × ms)) (hf : fn_M_design N s1 = some y) : Met l yn_M_design (xw yn_M_design bn_M_design 1 none) ({ frames := 810, cells := 2 * (gl y.2 - gl s1), slots := 2 * (gl y.2 - gl s1), locals := 19839 }) (dc_P (dC, dI) xcl (xt cI cB cJ cZ cQ) [.ref h0] sz (wM h0 a cI cB cJ cZ s1)) (xk_Qv (dC, dI) xcl (xt cI cB cJ cZ cQ) (fun _ : Nat → Nat => True) (fun u : Nat → Nat => (wM h0 u cI cB cJ cZ y.2)) (va_A (wM h0 a cI cB cJ cZ s1) sz)) (2 * (gl y.2 - gl s1)) (2 * (gl y.2 - gl s1)) (va_A (wM h0 a cI cB cJ cZ s1) sz) := by
  refine dc_of (QA := xk_Qv (dC, dI) xcl (xt cI cB cJ cZ cQ) (fun _ : Nat → Nat => True) (fun u : Nat → Nat => (wM h0 u cI cB cJ cZ y.2))) (by decide) (Nat.le_of_ble_eq_true rfl) ?_
  intro p e s0 m below meth c hx hb hml hown hg hr hlocks hin hP hK hN A hA hD hT ls hl
  have hown : s0.vm.findClass rn_M = some m.cls := hown
  obtain ⟨H, hH⟩ : ∃ z, z = s0.heap := ⟨_, rfl⟩
  rw [← hH] at hP
  have hS : va_S A s0.heap H [] := by rw [hH]; exact va_S.rf
  suffices kk : ∀ QQ : State → Prop, QQ = MQ below (xk_Qv (dC, dI) xcl (xt cI cB cJ cZ cQ) (fun _ : Nat → Nat => True) (fun u : Nat → Nat => (wM h0 u cI cB cJ cZ y.2)) A) [.ref h0].toArray s0 (2 * (gl y.2 - gl s1)) (2 * (gl y.2 - gl s1)) A → gl s1 ≤ gl s1 → dcG p l e ({ frames := 810, cells := 2 * (gl y.2 - gl s1), slots := 2 * (gl y.2 - gl s1), locals := 19839 }) s0 m [.ref h0].toArray below meth c QQ (dC, dI) A (fun a => (wM h0 a cI cB cJ cZ s1)) (2 * (gl s1 - gl s1)) 0 1 [(0, .ref h0)] [] by
    have k9 := kk _ rfl (Nat.le_refl _) a H [] ls hP hD hS hl
    rw [hH, Nat.sub_self] at k9; exact k9
  clear hP hD hS hl hH H ls
  intro QQ hQQ
  have bl_83 : ∀ (k_62 : ms → Option (Unit × ms)) (hk_62 : ∀ (s : ms), k_62 s = some y → gl s1 ≤ gl s → dcG p l e ({ frames := 810, cells := 2 * (gl y.2 - gl s1), slots := 2 * (gl y.2 - gl s1), locals := 19839 }) s0 m [.ref h0].toArray below meth c QQ (dC, dI) A (fun a => (wM h0 a cI cB cJ cZ s)) (2 * (gl s - gl s1)) 62 1 [(0, .ref h0)] []) (hkm_62 : ∀ (s : ms), k_62 s = some y → gl s ≤ gl y.2) (s : ms), bk_M_design_83 N k_62 s = some y → gl s1 ≤ gl s → dcG p l e ({ frames := 810, cells := 2 * (gl y.2 - gl s1), slots := 2 * (gl y.2 - gl s1), locals := 19839 }) s0 m [.ref h0].toArray below meth c QQ (dC, dI) A (fun a => (wM h0 a cI cB cJ cZ s)) (2 * (gl s - gl s1)) 83 1 [(0, .ref h0)] [] := by
    intro k_62 hk_62 hkm_62 s hf hge a H locs ls hP hD hS hl
    have hle := mo_M_design_83 N k_62 y hkm_62 s hf
    unfold bk_M_design_83 at hf
    refine lv_goto (tgt := 62) hx hb dn_M_design_83 (by decide) ?_
    exact hk_62 s hf hge a H locs ls hP hD hS hl
  have hd_62 : ∀ (n : Nat) (s : ms), hd_M_design_62 N n s = some y → gl s1 ≤ gl s → dcG p l e ({ frames := 810, cells := 2 * (gl y.2 - gl s1), slots := 2 * (gl y.2 - gl s1), locals := 19839 }) s0 m [.ref h0].toArray below meth c QQ (dC, dI) A (fun a => (wM h0 a cI cB cJ cZ s)) (2 * (gl s - gl s1)) 62 1 [(0, .ref h0)] [] := by
    intro n
    induction n with
    | zero => intro s hf; cases hf
    | succ n ih =>
      intro s hf hge a H locs ls hP hD hS hl
      have hle := mh_M_design_62 N y (n + 1) s hf
      have hkm_62 := mh_M_design_62 N y n
      have hf : bd_M_design_62 N (hd_M_design_62 N n) s = some y := hf
      have hk_62 := ih
      generalize hd_M_design_62 N n = k_62 at hf hk_62 hkm_62
      unfold bd_M_design_62 at hf
      refine lv_aload_n hx hb dn_M_design_62 rfl (lv_at hl 0 rfl) ?_
      refine va_get (D := (dC, dI)) (ci := 0) (v := .int ((s.1 9 0))) (C := rn_M) (T := fn_M) (N := 91) hx hb hg in_M hown hK hP 0 rfl rfl 9 (by decide) (hg _ wn_8_82) (fun _ h9 => h9) rfl dn_M_design_63 ?_
      refine lv_if_ne (tgt := 86) hx hb dn_M_design_66 (by decide) (fun h => ?_) (fun h => ?_)
      · have hf := (if_neg h).symm.trans hf
        rw [hQQ, ← Option.some.inj hf]
        exact xk_vret (w1 := fun u : Nat → Nat => (wM h0 u cI cB cJ cZ s)) a hx hb hr hlocks hK hS dn_M_design_86 hP hD trivial (Nat.le_refl _) (Nat.le_refl _)
      · have hf := (if_pos h).symm.trans hf
        refine lv_aload_n hx hb dn_M_design_69 rfl (lv_at hl 0 rfl) ?_
        obtain ⟨q_1, hc_2, hf⟩ := dc_b hf
        have hme := mn_M_kind N s q_1 hc_2
        refine dc_calli (dc_runV (ar := 0) (As := []) (rest := []) (ci := 0) (q0 := 0) ⟨hx, hb, hml, hown, hg⟩ hK hN hT hS hA (ct_M_kind l dC dI cI cB cJ cZ cQ N H.size h0 a s q_1 hc_2) hP hD rfl rfl wn_9_214 wn_9_216 sn_M_kind wn_1_13 wn_9_217 rfl rfl (by decide +kernel) ⟨Nat.le_of_ble_eq_true rfl, Nat.le_of_ble_eq_true rfl⟩ rfl hl.1 rfl (Nat.le_of_ble_eq_true rfl) dn_M_design_70 (dc_rm0 hle)) hP hD hS hA (fun r_3 _ H locs hw hP hD hS => ?_)
        refine W.widen (k := 2 * (gl q_1.2 - gl s1)) (n := 2 * (gl q_1.2 - gl s1)) (dc_we hme) (dc_we hme) ?_
        have hge := Nat.le_trans hge (Nat.le_of_eq hme.symm)
        have hle := Nat.le_trans (Nat.le_of_eq hme) hle
        have hw : r_3 = q_1.1 := hw
        subst hw
        refine lv_sipush (v := 403) hx hb dn_M_design_73 (by decide) ?_
        refine lv_icmp_eq (tgt := 86) hx hb dn_M_design_76 (by decide) (fun h => ?_) (fun h => ?_)
        · have hf := (if_pos h).symm.trans hf
          rw [hQQ, ← Option.some.inj hf]
          exact xk_vret (w1 := fun u : Nat → Nat => (wM h0 u cI cB cJ cZ q_1.2)) a hx hb hr hlocks hK hS dn_M_design_86 hP hD trivial (Nat.le_refl _) (Nat.le_refl _)
        · have hf := (if_neg h).symm.trans hf
          refine lv_aload_n hx hb dn_M_design_79 rfl (lv_at hl 0 rfl) ?_
          obtain ⟨q_4, hc_5, hf⟩ := dc_b hf
          have hmg := mn_M_module N q_1.2 q_4 hc_5
          have hle2 : gl q_4.2 ≤ gl y.2 := mo_M_design_83 N k_62 y hkm_62 _ hf
          refine dc_callv (dc_runV (ar := 0) (As := []) (rest := []) (ci := 0) (q0 := 0) ⟨hx, hb, hml, hown, hg⟩ hK hN hT hS hA (ct_M_module l dC dI cI cB cJ cZ cQ N H.size h0 a q_1.2 q_4 hc_5) hP hD rfl rfl wn_10_20 wn_10_22 sn_M_module wn_1_13 wn_10_23 rfl rfl (by decide +kernel) ⟨Nat.le_of_ble_eq_true rfl, Nat.le_of_ble_eq_true rfl⟩ rfl hl.1 rfl (Nat.le_of_ble_eq_true rfl) dn_M_design_80 (dc_rm hge hmg hle2)) hP hD hS hA (fun a H locs hw hP hD hS => ?_)
          refine W.widen (k := 2 * (gl q_4.2 - gl s1)) (n := 2 * (gl q_4.2 - gl s1)) (dc_wa hge hmg) (dc_wa hge hmg) ?_
          have hge := Nat.le_trans hge hmg
          have hle := hle2
          exact bl_83 k_62 hk_62 hkm_62 q_4.2 hf hge a H locs ls hP hD hS hl
  intro hge a H locs ls hP hD hS hl
  have hle := mn_M_design N s1 y hf
  unfold fn_M_design at hf
  refine lv_aload_n hx hb dn_M_design_0 rfl (lv_at hl 0 rfl) ?_
  refine lv_iconst (v := 0) hx hb dn_M_design_1 (by decide) ?_
  refine va_put (D := (dC, dI)) (ci := 0) (v := .int 0) (ty := .int) (C := rn_M) (T := fn_M) (N := 91) hx hb hg in_M tn_M tk_M nn_M hown hK hP hD hS 0 rfl rfl 8 (by decide) (hg _ wn_8_81) (fun _ h9 => h9) rfl (tk_M 8 (by decide)) rfl rfl (Nat.le_of_ble_eq_true rfl) dn_M_design_2 (fun H locs hP hD hS => ?_)
  have hP := wM_P_8 hP
  have hD := wM_D_8 hD
  refine lv_aload_n hx hb dn_M_design_5 rfl (lv_at hl 0 rfl) ?_
  refine lv_iconst (v := 0) hx hb dn_M_design_6 (by decide) ?_
  refine va_put (D := (dC, dI)) (ci := 0) (v := .int 0) (ty := .int) (C := rn_M) (T := fn_M) (N := 91) hx hb hg in_M tn_M tk_M nn_M hown hK hP hD hS 0 rfl rfl 12 (by decide) (hg _ wn_8_85) (fun _ h9 => h9) rfl (tk_M 12 (by decide)) rfl rfl (Nat.le_of_ble_eq_true rfl) dn_M_design_7 (fun H locs hP hD hS => ?_)
  have hP := wM_P_12 hP
  have hD := wM_D_12 hD
  refine lv_aload_n hx hb dn_M_design_10 rfl (lv_at hl 0 rfl) ?_
  refine lv_iconst (v := 0) hx hb dn_M_design_11 (by decide) ?_
  refine va_put (D := (dC, dI)) (ci := 0) (v := .int 0) (ty := .int) (C := rn_M) (T := fn_M) (N := 91) hx hb hg in_M tn_M tk_M nn_M hown hK hP hD hS 0 rfl rfl 18 (by decide) (hg _ wn_8_91) (fun _ h9 => h9) rfl (tk_M 18 (by decide)) rfl rfl (Nat.le_of_ble_eq_true rfl) dn_M_design_12 (fun H locs hP hD hS => ?_)
  have hP := wM_P_18 hP
  have hD := wM_D_18 hD
  refine lv_aload_n hx hb dn_M_design_15 rfl (lv_at hl 0 rfl) ?_
  refine lv_iconst (v := 0) hx hb dn_M_design_16 (by decide) ?_
  refine va_put (D := (dC, dI)) (ci := 0) (v := .int 0) (ty := .int) (C := rn_M) (T := fn_M) (N := 91) hx hb hg in_M tn_M tk_M nn_M hown hK hP hD hS 0 rfl rfl 27 (by decide) (hg _ wn_8_100) (fun _ h9 => h9) rfl (tk_M 27 (by decide)) rfl rfl (Nat.le_of_ble_eq_true rfl) dn_M_design_17 (fun H locs hP hD hS => ?_)
  have hP := wM_P_27 hP
  have hD := wM_D_27 hD
  refine lv_aload_n hx hb dn_M_design_20 rfl (lv_at hl 0 rfl) ?_
  refine lv_iconst (v := 0) hx hb dn_M_design_21 (by decide) ?_
  refine va_put (D := (dC, dI)) (ci := 0) (v := .int 0) (ty := .int) (C := rn_M) (T := fn_M) (N := 91) hx hb hg in_M tn_M tk_M nn_M hown hK hP hD hS 0 rfl rfl 31 (by decide) (hg _ wn_8_104) (fun _ h9 => h9) rfl (tk_M 31 (by decide)) rfl rfl (Nat.le_of_ble_eq_true rfl) dn_M_design_22 (fun H locs hP hD hS => ?_)
  have hP := wM_P_31 hP
  have hD := wM_D_31 hD
  refine lv_aload_n hx hb dn_M_design_25 rfl (lv_at hl 0 rfl) ?_
  refine lv_iconst (v := 0) hx hb dn_M_design_26 (by decide) ?_
  refine va_put (D := (dC, dI)) (ci := 0) (v := .int 0) (ty := .int) (C := rn_M) (T := fn_M) (N := 91) hx hb hg in_M tn_M tk_M nn_M hown hK hP hD hS 0 rfl rfl 35 (by decide) (hg _ wn_8_108) (fun _ h9 => h9) rfl (tk_M 35 (by decide)) rfl rfl (Nat.le_of_ble_eq_true rfl) dn_M_design_27 (fun H locs hP hD hS => ?_)
  have hP := wM_P_35 hP
  have hD := wM_D_35 hD
  refine lv_aload_n hx hb dn_M_design_30 rfl (lv_at hl 0 rfl) ?_
  refine lv_iconst (v := 0) hx hb dn_M_design_31 (by decide) ?_
  refine va_put (D := (dC, dI)) (ci := 0) (v := .int 0) (ty := .int) (C := rn_M) (T := fn_M) (N := 91) hx hb hg in_M tn_M tk_M nn_M hown hK hP hD hS 0 rfl rfl 38 (by decide) (hg _ wn_8_111) (fun _ h9 => h9) rfl (tk_M 38 (by decide)) rfl rfl (Nat.le_of_ble_eq_true rfl) dn_M_design_32 (fun H locs hP hD hS => ?_)
  have hP := wM_P_38 hP
  have hD := wM_D_38 hD
  refine lv_aload_n hx hb dn_M_design_35 rfl (lv_at hl 0 rfl) ?_
  refine lv_iconst (v := 0) hx hb dn_M_design_36 (by decide) ?_
  refine va_put (D := (dC, dI)) (ci := 0) (v := .int 0) (ty := .int) (C := rn_M) (T := fn_M) (N := 91) hx hb hg in_M tn_M tk_M nn_M hown hK hP hD hS 0 rfl rfl 42 (by decide) (hg _ wn_8_115) (fun _ h9 => h9) rfl (tk_M 42 (by decide)) rfl rfl (Nat.le_of_ble_eq_true rfl) dn_M_design_37 (fun H locs hP hD hS => ?_)
  have hP := wM_P_42 hP
  have hD := wM_D_42 hD
  refine lv_aload_n hx hb dn_M_design_40 rfl (lv_at hl 0 rfl) ?_
  refine lv_iconst (v := 0) hx hb dn_M_design_41 (by decide) ?_
  refine va_put (D := (dC, dI)) (ci := 0) (v := .int 0) (ty := .int) (C := rn_M) (T := fn_M) (N := 91) hx hb hg in_M tn_M tk_M nn_M hown hK hP hD hS 0 rfl rfl 44 (by decide) (hg _ wn_8_117) (fun _ h9 => h9) rfl (tk_M 44 (by decide)) rfl rfl (Nat.le_of_ble_eq_true rfl) dn_M_design_42 (fun H locs hP hD hS => ?_)
  have hP := wM_P_44 hP
  have hD := wM_D_44 hD
  refine lv_aload_n hx hb dn_M_design_45 rfl (lv_at hl 0 rfl) ?_
  refine lv_iconst (v := 0) hx hb dn_M_design_46 (by decide) ?_
  refine va_put (D := (dC, dI)) (ci := 0) (v := .int 0) (ty := .int) (C := rn_M) (T := fn_M) (N := 91) hx hb hg in_M tn_M tk_M nn_M hown hK hP hD hS 0 rfl rfl 51 (by decide) (hg _ wn_8_124) (fun _ h9 => h9) rfl (tk_M 51 (by decide)) rfl rfl (Nat.le_of_ble_eq_true rfl) dn_M_design_47 (fun H locs hP hD hS => ?_)
  have hP := wM_P_51 hP
  have hD := wM_D_51 hD
  refine lv_aload_n hx hb dn_M_design_50 rfl (lv_at hl 0 rfl) ?_
  refine lv_iconst (v := 0) hx hb dn_M_design_51 (by decide) ?_
  refine va_put (D := (dC, dI)) (ci := 0) (v := .int 0) (ty := .int) (C := rn_M) (T := fn_M) (N := 91) hx hb hg in_M tn_M tk_M nn_M hown hK hP hD hS 0 rfl rfl 53 (by decide) (hg _ wn_8_126) (fun _ h9 => h9) rfl (tk_M 53 (by decide)) rfl rfl (Nat.le_of_ble_eq_true rfl) dn_M_design_52 (fun H locs hP hD hS => ?_)
  have hP := wM_P_53 hP
  have hD := wM_D_53 hD
  refine lv_aload_n hx hb dn_M_design_55 rfl (lv_at hl 0 rfl) ?_
  refine va_get (D := (dC, dI)) (ci := 0) (v := .ref ((a 30))) (C := rn_M) (T := fn_M) (N := 91) hx hb hg in_M hown hK hP 0 rfl rfl 30 (by decide) (hg _ wn_8_103) (fun _ h9 => h9) rfl dn_M_design_56 ?_
  refine lv_iconst (v := 0) hx hb dn_M_design_59 (by decide) ?_
  refine lv_iconst (v := 0) hx hb dn_M_design_60 (by decide) ?_
  refine va_iast hx hb hK hP hD hS 20 0 rfl rfl (show ¬ (_ ∨ _) by decide) dn_M_design_61 (fun H locs hP hD hS => ?_)
  have hP : va_P (dC, dI) xcl ((wM h0 a cI cB cJ cZ (upI (upI (upI (upI (upI (upI (upI (upI (upI (upI (upI s1 8 (fun _ => 0)) 12 (fun _ => 0)) 18 (fun _ => 0)) 27 (fun _ => 0)) 31 (fun _ => 0)) 35 (fun _ => 0)) 38 (fun _ => 0)) 42 (fun _ => 0)) 44 (fun _ => 0)) 51 (fun _ => 0)) 53 (fun _ => 0))).set 20 ((a 30), .inl (cI, 11001, .inl (upd (s1.1 30) 0 0)))) H := hP
  have hD : va_D A ((wM h0 a cI cB cJ cZ (upI (upI (upI (upI (upI (upI (upI (upI (upI (upI (upI s1 8 (fun _ => 0)) 12 (fun _ => 0)) 18 (fun _ => 0)) 27 (fun _ => 0)) 31 (fun _ => 0)) 35 (fun _ => 0)) 38 (fun _ => 0)) 42 (fun _ => 0)) 44 (fun _ => 0)) 51 (fun _ => 0)) 53 (fun _ => 0))).set 20 ((a 30), .inl (cI, 11001, .inl (upd (s1.1 30) 0 0)))) := hD
  have hP := wM_P_30 hP
  have hD := wM_D_30 hD
  exact hd_62 N (upI (upI (upI (upI (upI (upI (upI (upI (upI (upI (upI (upI s1 8 (fun _ => 0)) 12 (fun _ => 0)) 18 (fun _ => 0)) 27 (fun _ => 0)) 31 (fun _ => 0)) 35 (fun _ => 0)) 38 (fun _ => 0)) 42 (fun _ => 0)) 44 (fun _ => 0)) 51 (fun _ => 0)) 53 (fun _ => 0)) 30 (upd (s1.1 30) 0 0)) hf hge a H locs ls hP hD hS hl
theorem mn_M_bound (N : Nat) (v1 : Int32) (v2 : Int32) (v3 : Int32) (s : ms) (y : (Unit × ms)) (hf : fn_M_bound N v1 v2 v3 s = some y) : gl y.2 = gl s := by
  unfold fn_M_bound at hf
  have hm : gl s = gl s := rfl
  by_cases h : v1 = 0
  · have hf := (if_pos h).symm.trans hf
    obtain ⟨q_1, hc_2, hf⟩ := dc_b hf
    have hm := (mn_M_fail N v2 v3 s q_1 hc_2).trans hm
    exact (dc_e hf).trans hm
  · have hf := (if_neg h).symm.trans hf
    exact (dc_e hf).trans hm
set_option maxHeartbeats 8000000 in
set_option maxRecDepth 100000 in
theorem ct_M_bound (l : Launch) (dC : Nat → ClassId) (dI : Nat → Nat → Nat) (cI cB cJ cZ cQ : ClassId) (N sz : Nat) (h0 : Nat) (a : Nat → Nat) (v1 : Int32) (v2 : Int32) (v3 : Int32) (s : ms) (y : (Unit × ms)) (hf : fn_M_bound N v1 v2 v3 s = some y) : Met l yn_M_bound (xw yn_M_bound bn_M_bound 4 none) ({ frames := 1, cells := 0, slots := 0, locals := 22 }) (dc_P (dC, dI) xcl (xt cI cB cJ cZ cQ) [.ref h0, .int v1, .int v2, .int v3] sz (wM h0 a cI cB cJ cZ s)) (xk_Qv (dC, dI) xcl (xt cI cB cJ cZ cQ) (fun _ : Unit => True) (fun u : Unit => (wM h0 a cI cB cJ cZ y.2)) (va_A (wM h0 a cI cB cJ cZ s) sz)) 0 0 (va_A (wM h0 a cI cB cJ cZ s) sz) := by
  refine dc_of (QA := xk_Qv (dC, dI) xcl (xt cI cB cJ cZ cQ) (fun _ : Unit => True) (fun u : Unit => (wM h0 a cI cB cJ cZ y.2))) (by decide) (Nat.le_of_ble_eq_true rfl) ?_
  intro p e s0 m below meth c hx hb hml hown hg hr hlocks hin hP hK hN A hA hD hT ls hl
  have hown : s0.vm.findClass rn_M = some m.cls := hown
  obtain ⟨H, hH⟩ : ∃ z, z = s0.heap := ⟨_, rfl⟩
  rw [← hH] at hP
  have hS : va_S A s0.heap H [] := by rw [hH]; exact va_S.rf
  suffices kk : ∀ QQ : State → Prop, QQ = MQ below (xk_Qv (dC, dI) xcl (xt cI cB cJ cZ cQ) (fun _ : Unit => True) (fun u : Unit => (wM h0 a cI cB cJ cZ y.2)) A) [.ref h0, .int v1, .int v2, .int v3].toArray s0 0 0 A → dcC p l e ({ frames := 1, cells := 0, slots := 0, locals := 22 }) s0 m [.ref h0, .int v1, .int v2, .int v3].toArray below meth c QQ (dC, dI) A (wM h0 a cI cB cJ cZ s) 0 4 [(0, .ref h0), (1, .int v1), (2, .int v2), (3, .int v3)] [] by
    have k9 := kk _ rfl H [] ls hP hD hS hl
    rw [hH] at k9; exact k9
  clear hP hD hS hl hH H ls
  intro QQ hQQ
  intro H locs ls hP hD hS hl
  unfold fn_M_bound at hf
  refine lv_iload_n hx hb dn_M_bound_0 rfl (lv_at hl 1 rfl) ?_
  refine lv_if_ne (tgt := 10) hx hb dn_M_bound_1 (by decide) (fun h => ?_) (fun h => ?_)
  · have hf := (if_neg h).symm.trans hf
    rw [hQQ, ← Option.some.inj hf]
    exact xk_vret (w1 := fun u : Unit => (wM h0 a cI cB cJ cZ s)) () hx hb hr hlocks hK hS dn_M_bound_10 hP hD trivial (Nat.le_refl _) (Nat.le_refl _)
  · have hf := (if_pos h).symm.trans hf
    refine lv_aload_n hx hb dn_M_bound_4 rfl (lv_at hl 0 rfl) ?_
    refine lv_iload_n hx hb dn_M_bound_5 rfl (lv_at hl 2 rfl) ?_
    refine lv_iload_n hx hb dn_M_bound_6 rfl (lv_at hl 3 rfl) ?_
    obtain ⟨q_1, hc_2, hf⟩ := dc_b hf
    refine dc_callv (dc_runV (ar := 2) (As := [.int v2, .int v3]) (rest := []) (ci := 0) (q0 := 0) ⟨hx, hb, hml, hown, hg⟩ hK hN hT hS hA (ct_M_fail l dC dI cI cB cJ cZ cQ N H.size h0 a v2 v3 s q_1 hc_2) hP hD rfl rfl wn_9_186 wn_9_188 sn_M_fail wn_1_13 wn_9_189 rfl rfl (by decide +kernel) ⟨Nat.le_of_ble_eq_true rfl, Nat.le_of_ble_eq_true rfl⟩ rfl hl.1 rfl (Nat.le_of_ble_eq_true rfl) dn_M_bound_7 ⟨Nat.le_of_ble_eq_true rfl, Nat.le_of_ble_eq_true rfl⟩) hP hD hS hA (fun _ H locs hw hP hD hS => ?_)
    rw [hQQ, ← Option.some.inj hf]
    exact xk_vret (w1 := fun u : Unit => (wM h0 a cI cB cJ cZ q_1.2)) () hx hb hr hlocks hK hS dn_M_bound_10 hP hD trivial (Nat.le_refl _) (Nat.le_refl _)
theorem mo_M_limits_291 (N : Nat) (y : (Unit × ms)) (x2 : Int32) (t0 : Int32) (s : ms) (hf : bk_M_limits_291 N x2 t0 s = some y) : gl y.2 = gl s := by
  unfold bk_M_limits_291 at hf
  have hm : gl s = gl s := rfl
  obtain ⟨q_1, hc_2, hf⟩ := dc_b hf
  have hm := (mn_M_bound N t0 46 x2 s q_1 hc_2).trans hm
  exact (dc_e hf).trans hm
theorem mo_M_limits_286 (N : Nat) (y : (Unit × ms)) (x2 : Int32) (s : ms) (hf : bk_M_limits_286 N x2 s = some y) : gl y.2 = gl s := by
  unfold bk_M_limits_286 at hf
  have hm : gl s = gl s := rfl
  exact (mo_M_limits_291 N y x2 1 s hf).trans hm
theorem mo_M_limits_260 (N : Nat) (y : (Unit × ms)) (x2 : Int32) (x5 : Int64) (x7 : Int64) (t0 : Int32) (s : ms) (hf : bk_M_limits_260 N x2 x5 x7 t0 s = some y) : gl y.2 = gl s := by
  unfold bk_M_limits_260 at hf
  have hm : gl s = gl s := rfl
  obtain ⟨q_1, hc_2, hf⟩ := dc_b hf
  have hm := (mn_M_bound N t0 44 x2 s q_1 hc_2).trans hm
  by_cases h : (q_1.2.1 9 0) = 0
  · have hf := (if_pos h).symm.trans hf
    by_cases h : 0 < (lg_cmp ((x5 * x7)) 16777216)
    · have hf := (if_pos h).symm.trans hf
      exact (mo_M_limits_291 N y x2 0 q_1.2 hf).trans hm
    · have hf := (if_neg h).symm.trans hf
      exact (mo_M_limits_286 N y x2 q_1.2 hf).trans hm
  · have hf := (if_neg h).symm.trans hf
    exact (mo_M_limits_286 N y x2 q_1.2 hf).trans hm
theorem mo_M_limits_235 (N : Nat) (y : (Unit × ms)) (x1 : Int32) (x2 : Int32) (x5 : Int64) (x7 : Int64) (t0 : Int32) (s : ms) (hf : bk_M_limits_235 N x1 x2 x5 x7 t0 s = some y) : gl y.2 = gl s := by
  unfold bk_M_limits_235 at hf
  have hm : gl s = gl s := rfl
  obtain ⟨q_1, hc_2, hf⟩ := dc_b hf
  have hm := (mn_M_bound N t0 43 x2 s q_1 hc_2).trans hm
  obtain ⟨_, hf⟩ := dc_g hf
  by_cases h : 0 < (lg_cmp (((q_1.2.2 45) (Int32.toNatClampNeg x1))) 1500)
  · have hf := (if_pos h).symm.trans hf
    exact (mo_M_limits_260 N y x2 x5 x7 0 q_1.2 hf).trans hm
  · have hf := (if_neg h).symm.trans hf
    exact (mo_M_limits_260 N y x2 x5 x7 1 q_1.2 hf).trans hm
theorem mo_M_limits_215 (N : Nat) (y : (Unit × ms)) (x1 : Int32) (x2 : Int32) (x3 : Int64) (x5 : Int64) (x7 : Int64) (t0 : Int32) (s : ms) (hf : bk_M_limits_215 N x1 x2 x3 x5 x7 t0 s = some y) : gl y.2 = gl s := by
  unfold bk_M_limits_215 at hf
  have hm : gl s = gl s := rfl
  obtain ⟨q_1, hc_2, hf⟩ := dc_b hf
  have hm := (mn_M_bound N t0 42 x2 s q_1 hc_2).trans hm
  by_cases h : 0 < (lg_cmp x3 6)
  · have hf := (if_pos h).symm.trans hf
    exact (mo_M_limits_235 N y x1 x2 x5 x7 0 q_1.2 hf).trans hm
  · have hf := (if_neg h).symm.trans hf
    exact (mo_M_limits_235 N y x1 x2 x5 x7 1 q_1.2 hf).trans hm
theorem mo_M_limits_190 (N : Nat) (y : (Unit × ms)) (x1 : Int32) (x2 : Int32) (x3 : Int64) (x5 : Int64) (x7 : Int64) (t0 : Int32) (s : ms) (hf : bk_M_limits_190 N x1 x2 x3 x5 x7 t0 s = some y) : gl y.2 = gl s := by
  unfold bk_M_limits_190 at hf
  have hm : gl s = gl s := rfl
  obtain ⟨q_1, hc_2, hf⟩ := dc_b hf
  have hm := (mn_M_bound N t0 41 x2 s q_1 hc_2).trans hm
  obtain ⟨_, hf⟩ := dc_g hf
  by_cases h : 0 < (lg_cmp (((q_1.2.2 48) (Int32.toNatClampNeg x1))) 12)
  · have hf := (if_pos h).symm.trans hf
    exact (mo_M_limits_215 N y x1 x2 x3 x5 x7 0 q_1.2 hf).trans hm
  · have hf := (if_neg h).symm.trans hf
    exact (mo_M_limits_215 N y x1 x2 x3 x5 x7 1 q_1.2 hf).trans hm
theorem mo_M_limits_165 (N : Nat) (y : (Unit × ms)) (x1 : Int32) (x2 : Int32) (x3 : Int64) (x5 : Int64) (x7 : Int64) (t0 : Int32) (s : ms) (hf : bk_M_limits_165 N x1 x2 x3 x5 x7 t0 s = some y) : gl y.2 = gl s := by
  unfold bk_M_limits_165 at hf
  have hm : gl s = gl s := rfl
  obtain ⟨q_1, hc_2, hf⟩ := dc_b hf
  have hm := (mn_M_bound N t0 40 x2 s q_1 hc_2).trans hm
  obtain ⟨_, hf⟩ := dc_g hf
  by_cases h : 0 < (lg_cmp (((q_1.2.2 47) (Int32.toNatClampNeg x1))) 1024)
  · have hf := (if_pos h).symm.trans hf
    exact (mo_M_limits_190 N y x1 x2 x3 x5 x7 0 q_1.2 hf).trans hm
  · have hf := (if_neg h).symm.trans hf
    exact (mo_M_limits_190 N y x1 x2 x3 x5 x7 1 q_1.2 hf).trans hm
theorem mo_M_limits_144 (N : Nat) (y : (Unit × ms)) (x1 : Int32) (x2 : Int32) (x3 : Int64) (x5 : Int64) (t0 : Int64) (s : ms) (hf : bk_M_limits_144 N x1 x2 x3 x5 t0 s = some y) : gl y.2 = gl s := by
  unfold bk_M_limits_144 at hf
  have hm : gl s = gl s := rfl
  obtain ⟨_, hf⟩ := dc_g hf
  by_cases h : 0 < (lg_cmp (((s.2 46) (Int32.toNatClampNeg x1))) 256)
  · have hf := (if_pos h).symm.trans hf
    exact (mo_M_limits_165 N y x1 x2 x3 x5 t0 0 s hf).trans hm
  · have hf := (if_neg h).symm.trans hf
    exact (mo_M_limits_165 N y x1 x2 x3 x5 t0 1 s hf).trans hm
theorem mo_M_limits_118 (N : Nat) (y : (Unit × ms)) (x1 : Int32) (x2 : Int32) (x3 : Int64) (t0 : Int64) (t1 : Int32) (t2 : Int64) (s : ms) (hf : bk_M_limits_118 N x1 x2 x3 t0 t1 t2 s = some y) : gl y.2 = gl s := by
  unfold bk_M_limits_118 at hf
  have hm : gl s = gl s := rfl
  obtain ⟨_, hf⟩ := dc_g hf
  by_cases h : (lg_cmp (((s.2 45) (Int32.toNatClampNeg x1))) 1) ≤ 0
  · have hf := (if_pos h).symm.trans hf
    exact (mo_M_limits_144 N y x1 x2 x3 (((t2 : Int64) <<< ((Int32.toInt64 ((t1 + (Int64.toInt32 t0)))) &&& 63))) 1 s hf).trans hm
  · have hf := (if_neg h).symm.trans hf
    obtain ⟨_, hf⟩ := dc_g hf
    exact (mo_M_limits_144 N y x1 x2 x3 (((t2 : Int64) <<< ((Int32.toInt64 ((t1 + (Int64.toInt32 t0)))) &&& 63))) (((s.2 45) (Int32.toNatClampNeg x1))) s hf).trans hm
theorem mo_M_limits_102 (N : Nat) (y : (Unit × ms)) (x1 : Int32) (x2 : Int32) (x3 : Int64) (t0 : Int64) (t1 : Int64) (s : ms) (hf : bk_M_limits_102 N x1 x2 x3 t0 t1 s = some y) : gl y.2 = gl s := by
  unfold bk_M_limits_102 at hf
  have hm : gl s = gl s := rfl
  by_cases h : (lg_cmp x3 20) ≤ 0
  · have hf := (if_pos h).symm.trans hf
    exact (mo_M_limits_118 N y x1 x2 x3 x3 ((Int64.toInt32 t0)) t1 s hf).trans hm
  · have hf := (if_neg h).symm.trans hf
    exact (mo_M_limits_118 N y x1 x2 x3 20 ((Int64.toInt32 t0)) t1 s hf).trans hm
theorem mb_M_limits_29 (N : Nat) (y : (Unit × ms)) (k_29 : Int32 → Int32 → Int64 → Int32 → ms → Option (Unit × ms)) (hkm_29 : ∀ (x1 : Int32) (x2 : Int32) (x3 : Int64) (x5 : Int32) (s : ms), k_29 x1 x2 x3 x5 s = some y → gl y.2 = gl s) (x1 : Int32) (x2 : Int32) (x3 : Int64) (x5 : Int32) (s : ms) (hf : bd_M_limits_29 N k_29 x1 x2 x3 x5 s = some y) : gl y.2 = gl s := by
  unfold bd_M_limits_29 at hf
  have hm : gl s = gl s := rfl
  obtain ⟨_, hf⟩ := dc_g hf
  by_cases h : ((s.1 14) (Int32.toNatClampNeg ((x1 + 1)))) ≤ x5
  · have hf := (if_pos h).symm.trans hf
    obtain ⟨_, hf⟩ := dc_g hf
    obtain ⟨q_3, hc_4, hf⟩ := dc_b hf
    have hm := (mn_M_most N (((s.2 48) (Int32.toNatClampNeg x1))) s q_3 hc_4).trans hm
    by_cases h : (lg_cmp q_3.1 40) ≤ 0
    · have hf := (if_pos h).symm.trans hf
      obtain ⟨_, hf⟩ := dc_g hf
      exact (mo_M_limits_102 N y x1 x2 x3 (((q_3.2.2 48) (Int32.toNatClampNeg x1))) 1 q_3.2 hf).trans hm
    · have hf := (if_neg h).symm.trans hf
      exact (mo_M_limits_102 N y x1 x2 x3 40 1 q_3.2 hf).trans hm
  · have hf := (if_neg h).symm.trans hf
    obtain ⟨_, hf⟩ := dc_g hf
    by_cases h : ((s.1 21) (Int32.toNatClampNeg x5)) = 0
    · have hf := (if_pos h).symm.trans hf
      obtain ⟨_, hf⟩ := dc_g hf
      exact (hkm_29 x1 x2 ((x3 + (Int32.toInt64 (((s.1 20) (Int32.toNatClampNeg x5)))))) ((x5 + 1)) s hf).trans hm
    · have hf := (if_neg h).symm.trans hf
      exact (hkm_29 x1 x2 x3 ((x5 + 1)) s hf).trans hm
theorem mh_M_limits_29 (N : Nat) (y : (Unit × ms)) : ∀ (n : Nat) (x1 : Int32) (x2 : Int32) (x3 : Int64) (x5 : Int32) (s : ms), hd_M_limits_29 N n x1 x2 x3 x5 s = some y → gl y.2 = gl s := by
  intro n
  induction n with
  | zero => intro x1 x2 x3 x5 s hf; cases hf
  | succ n ih => intro x1 x2 x3 x5 s hf; exact mb_M_limits_29 N y (hd_M_limits_29 N n) ih x1 x2 x3 x5 s hf
theorem mn_M_limits (N : Nat) (s : ms) (y : (Unit × ms)) (hf : fn_M_limits N s = some y) : gl y.2 = gl s := by
  unfold fn_M_limits at hf
  have hm : gl s = gl s := rfl
  obtain ⟨_, hf⟩ := dc_g hf
  obtain ⟨_, hf⟩ := dc_g hf
  obtain ⟨_, hf⟩ := dc_g hf
  exact (mh_M_limits_29 N y N (((s.1 12 0) - 1)) (((s.1 5) (Int32.toNatClampNeg (((s.1 13) (Int32.toNatClampNeg (((s.1 12 0) - 1)))))))) 0 (((s.1 14) (Int32.toNatClampNeg (((s.1 12 0) - 1))))) s hf).trans hm
set_option maxHeartbeats 8000000 in
set_option maxRecDepth 100000 in
theorem ct_M_limits (l : Launch) (dC : Nat → ClassId) (dI : Nat → Nat → Nat) (cI cB cJ cZ cQ : ClassId) (N sz : Nat) (h0 : Nat) (a : Nat → Nat) (s : ms) (y : (Unit × ms)) (hf : fn_M_limits N s = some y) : Met l yn_M_limits (xw yn_M_limits bn_M_limits 9 none) ({ frames := 2, cells := 0, slots := 0, locals := 45 }) (dc_P (dC, dI) xcl (xt cI cB cJ cZ cQ) [.ref h0] sz (wM h0 a cI cB cJ cZ s)) (xk_Qv (dC, dI) xcl (xt cI cB cJ cZ cQ) (fun _ : Unit => True) (fun u : Unit => (wM h0 a cI cB cJ cZ y.2)) (va_A (wM h0 a cI cB cJ cZ s) sz)) 0 0 (va_A (wM h0 a cI cB cJ cZ s) sz) := by
  refine dc_of (QA := xk_Qv (dC, dI) xcl (xt cI cB cJ cZ cQ) (fun _ : Unit => True) (fun u : Unit => (wM h0 a cI cB cJ cZ y.2))) (by decide) (Nat.le_of_ble_eq_true rfl) ?_
  intro p e s0 m below meth c hx hb hml hown hg hr hlocks hin hP hK hN A hA hD hT ls hl
  have hown : s0.vm.findClass rn_M = some m.cls := hown
  obtain ⟨H, hH⟩ : ∃ z, z = s0.heap := ⟨_, rfl⟩
  rw [← hH] at hP
  have hS : va_S A s0.heap H [] := by rw [hH]; exact va_S.rf
  suffices kk : ∀ QQ : State → Prop, QQ = MQ below (xk_Qv (dC, dI) xcl (xt cI cB cJ cZ cQ) (fun _ : Unit => True) (fun u : Unit => (wM h0 a cI cB cJ cZ y.2)) A) [.ref h0].toArray s0 0 0 A → dcC p l e ({ frames := 2, cells := 0, slots := 0, locals := 45 }) s0 m [.ref h0].toArray below meth c QQ (dC, dI) A (wM h0 a cI cB cJ cZ s) 0 9 [(0, .ref h0)] [] by
    have k9 := kk _ rfl H [] ls hP hD hS hl
    rw [hH] at k9; exact k9
  clear hP hD hS hl hH H ls
  intro QQ hQQ
  have bl_291 : ∀ (x2 : Int32) (t0 : Int32) (s : ms), bk_M_limits_291 N x2 t0 s = some y → dcC p l e ({ frames := 2, cells := 0, slots := 0, locals := 45 }) s0 m [.ref h0].toArray below meth c QQ (dC, dI) A (wM h0 a cI cB cJ cZ s) 291 9 [(2, .int x2)] [.int t0, .ref h0] := by
    intro x2 t0 s hf H locs ls hP hD hS hl
    unfold bk_M_limits_291 at hf
    refine lv_bipush (v := 46) hx hb dn_M_limits_291 (by decide) ?_
    refine lv_iload_n hx hb dn_M_limits_293 rfl (lv_at hl 0 rfl) ?_
    obtain ⟨q_1, hc_2, hf⟩ := dc_b hf
    refine dc_callv (dc_runV (ar := 3) (As := [.int t0, .int 46, .int x2]) (rest := []) (ci := 0) (q0 := 0) ⟨hx, hb, hml, hown, hg⟩ hK hN hT hS hA (ct_M_bound l dC dI cI cB cJ cZ cQ N H.size h0 a t0 46 x2 s q_1 hc_2) hP hD rfl rfl wn_10_164 wn_10_166 sn_M_bound wn_1_13 wn_10_167 rfl rfl (by decide +kernel) ⟨Nat.le_of_ble_eq_true rfl, Nat.le_of_ble_eq_true rfl⟩ rfl hl.1 rfl (Nat.le_of_ble_eq_true rfl) dn_M_limits_294 ⟨Nat.le_of_ble_eq_true rfl, Nat.le_of_ble_eq_true rfl⟩) hP hD hS hA (fun _ H locs hw hP hD hS => ?_)
    rw [hQQ, ← Option.some.inj hf]
    exact xk_vret (w1 := fun u : Unit => (wM h0 a cI cB cJ cZ q_1.2)) () hx hb hr hlocks hK hS dn_M_limits_297 hP hD trivial (Nat.le_refl _) (Nat.le_refl _)
  have bl_286 : ∀ (x2 : Int32) (s : ms), bk_M_limits_286 N x2 s = some y → dcC p l e ({ frames := 2, cells := 0, slots := 0, locals := 45 }) s0 m [.ref h0].toArray below meth c QQ (dC, dI) A (wM h0 a cI cB cJ cZ s) 286 9 [(2, .int x2)] [.ref h0] := by
    intro x2 s hf H locs ls hP hD hS hl
    unfold bk_M_limits_286 at hf
    refine lv_iconst (v := 1) hx hb dn_M_limits_286 (by decide) ?_
    refine lv_goto (tgt := 291) hx hb dn_M_limits_287 (by decide) ?_
    exact bl_291 x2 1 s hf H locs ls hP hD hS hl
  have bl_260 : ∀ (x2 : Int32) (x5 : Int64) (x7 : Int64) (t0 : Int32) (s : ms), bk_M_limits_260 N x2 x5 x7 t0 s = some y → dcC p l e ({ frames := 2, cells := 0, slots := 0, locals := 45 }) s0 m [.ref h0].toArray below meth c QQ (dC, dI) A (wM h0 a cI cB cJ cZ s) 260 9 [(0, .ref h0), (2, .int x2), (5, .long x5), (7, .long x7)] [.int t0, .ref h0] := by
    intro x2 x5 x7 t0 s hf H locs ls hP hD hS hl
    unfold bk_M_limits_260 at hf
    refine lv_bipush (v := 44) hx hb dn_M_limits_260 (by decide) ?_
    refine lv_iload_n hx hb dn_M_limits_262 rfl (lv_at hl 1 rfl) ?_
    obtain ⟨q_1, hc_2, hf⟩ := dc_b hf
    refine dc_callv (dc_runV (ar := 3) (As := [.int t0, .int 44, .int x2]) (rest := []) (ci := 0) (q0 := 0) ⟨hx, hb, hml, hown, hg⟩ hK hN hT hS hA (ct_M_bound l dC dI cI cB cJ cZ cQ N H.size h0 a t0 44 x2 s q_1 hc_2) hP hD rfl rfl wn_10_164 wn_10_166 sn_M_bound wn_1_13 wn_10_167 rfl rfl (by decide +kernel) ⟨Nat.le_of_ble_eq_true rfl, Nat.le_of_ble_eq_true rfl⟩ rfl hl.1 rfl (Nat.le_of_ble_eq_true rfl) dn_M_limits_263 ⟨Nat.le_of_ble_eq_true rfl, Nat.le_of_ble_eq_true rfl⟩) hP hD hS hA (fun _ H locs hw hP hD hS => ?_)
    refine lv_aload_n hx hb dn_M_limits_266 rfl (lv_at hl 0 rfl) ?_
    refine lv_aload_n hx hb dn_M_limits_267 rfl (lv_at hl 0 rfl) ?_
    refine va_get (D := (dC, dI)) (ci := 0) (v := .int ((q_1.2.1 9 0))) (C := rn_M) (T := fn_M) (N := 91) hx hb hg in_M hown hK hP 0 rfl rfl 9 (by decide) (hg _ wn_8_82) (fun _ h9 => h9) rfl dn_M_limits_268 ?_
    refine lv_if_ne (tgt := 286) hx hb dn_M_limits_271 (by decide) (fun h => ?_) (fun h => ?_)
    · have hf := (if_neg h).symm.trans hf
      exact bl_286 x2 q_1.2 hf H locs ls hP hD hS (lv_sub hl [1] rfl)
    · have hf := (if_pos h).symm.trans hf
      refine lv_lload hx hb dn_M_limits_274 (lv_at hl 2 rfl) ?_
      refine lv_lload hx hb dn_M_limits_276 (lv_at hl 3 rfl) ?_
      refine lv_lmul hx hb dn_M_limits_278 ?_
      refine lv_ldc2 hx hb hown (hg _ wn_10_172) dn_M_limits_279 ?_
      refine W.lcmp hx hb dn_M_limits_282 ?_
      refine lv_if_gt (tgt := 290) hx hb dn_M_limits_283 (by decide) (fun h => ?_) (fun h => ?_)
      · have hf := (if_pos h).symm.trans hf
        refine lv_iconst (v := 0) hx hb dn_M_limits_290 (by decide) ?_
        exact bl_291 x2 0 q_1.2 hf H locs ls hP hD hS (lv_sub hl [1] rfl)
      · have hf := (if_neg h).symm.trans hf
        exact bl_286 x2 q_1.2 hf H locs ls hP hD hS (lv_sub hl [1] rfl)
  have bl_235 : ∀ (x1 : Int32) (x2 : Int32) (x5 : Int64) (x7 : Int64) (t0 : Int32) (s : ms), bk_M_limits_235 N x1 x2 x5 x7 t0 s = some y → dcC p l e ({ frames := 2, cells := 0, slots := 0, locals := 45 }) s0 m [.ref h0].toArray below meth c QQ (dC, dI) A (wM h0 a cI cB cJ cZ s) 235 9 [(0, .ref h0), (1, .int x1), (2, .int x2), (5, .long x5), (7, .long x7)] [.int t0, .ref h0] := by
    intro x1 x2 x5 x7 t0 s hf H locs ls hP hD hS hl
    unfold bk_M_limits_235 at hf
    refine lv_bipush (v := 43) hx hb dn_M_limits_235 (by decide) ?_
    refine lv_iload_n hx hb dn_M_limits_237 rfl (lv_at hl 2 rfl) ?_
    obtain ⟨q_1, hc_2, hf⟩ := dc_b hf
    refine dc_callv (dc_runV (ar := 3) (As := [.int t0, .int 43, .int x2]) (rest := []) (ci := 0) (q0 := 0) ⟨hx, hb, hml, hown, hg⟩ hK hN hT hS hA (ct_M_bound l dC dI cI cB cJ cZ cQ N H.size h0 a t0 43 x2 s q_1 hc_2) hP hD rfl rfl wn_10_164 wn_10_166 sn_M_bound wn_1_13 wn_10_167 rfl rfl (by decide +kernel) ⟨Nat.le_of_ble_eq_true rfl, Nat.le_of_ble_eq_true rfl⟩ rfl hl.1 rfl (Nat.le_of_ble_eq_true rfl) dn_M_limits_238 ⟨Nat.le_of_ble_eq_true rfl, Nat.le_of_ble_eq_true rfl⟩) hP hD hS hA (fun _ H locs hw hP hD hS => ?_)
    refine lv_aload_n hx hb dn_M_limits_241 rfl (lv_at hl 0 rfl) ?_
    refine lv_aload_n hx hb dn_M_limits_242 rfl (lv_at hl 0 rfl) ?_
    refine va_get (D := (dC, dI)) (ci := 0) (v := .ref ((a 45))) (C := rn_M) (T := fn_M) (N := 91) hx hb hg in_M hown hK hP 0 rfl rfl 45 (by decide) (hg _ wn_8_118) (fun _ h9 => h9) rfl dn_M_limits_243 ?_
    refine lv_iload_n hx hb dn_M_limits_246 rfl (lv_at hl 1 rfl) ?_
    obtain ⟨hg_3, hf⟩ := dc_g hf
    refine va_lald hx hb hK hP 30 2 rfl rfl hg_3 dn_M_limits_247 ?_
    refine xk_tl (y := ((q_1.2.2 45) (Int32.toNatClampNeg x1))) rfl ?_
    refine lv_ldc2 hx hb hown (hg _ wn_10_171) dn_M_limits_248 ?_
    refine W.lcmp hx hb dn_M_limits_251 ?_
    refine lv_if_gt (tgt := 259) hx hb dn_M_limits_252 (by decide) (fun h => ?_) (fun h => ?_)
    · have hf := (if_pos h).symm.trans hf
      refine lv_iconst (v := 0) hx hb dn_M_limits_259 (by decide) ?_
      exact bl_260 x2 x5 x7 0 q_1.2 hf H locs ls hP hD hS (lv_sub hl [0, 2, 3, 4] rfl)
    · have hf := (if_neg h).symm.trans hf
      refine lv_iconst (v := 1) hx hb dn_M_limits_255 (by decide) ?_
      refine lv_goto (tgt := 260) hx hb dn_M_limits_256 (by decide) ?_
      exact bl_260 x2 x5 x7 1 q_1.2 hf H locs ls hP hD hS (lv_sub hl [0, 2, 3, 4] rfl)
  have bl_215 : ∀ (x1 : Int32) (x2 : Int32) (x3 : Int64) (x5 : Int64) (x7 : Int64) (t0 : Int32) (s : ms), bk_M_limits_215 N x1 x2 x3 x5 x7 t0 s = some y → dcC p l e ({ frames := 2, cells := 0, slots := 0, locals := 45 }) s0 m [.ref h0].toArray below meth c QQ (dC, dI) A (wM h0 a cI cB cJ cZ s) 215 9 [(0, .ref h0), (1, .int x1), (2, .int x2), (3, .long x3), (5, .long x5), (7, .long x7)] [.int t0, .ref h0] := by
    intro x1 x2 x3 x5 x7 t0 s hf H locs ls hP hD hS hl
    unfold bk_M_limits_215 at hf
    refine lv_bipush (v := 42) hx hb dn_M_limits_215 (by decide) ?_
    refine lv_iload_n hx hb dn_M_limits_217 rfl (lv_at hl 2 rfl) ?_
    obtain ⟨q_1, hc_2, hf⟩ := dc_b hf
    refine dc_callv (dc_runV (ar := 3) (As := [.int t0, .int 42, .int x2]) (rest := []) (ci := 0) (q0 := 0) ⟨hx, hb, hml, hown, hg⟩ hK hN hT hS hA (ct_M_bound l dC dI cI cB cJ cZ cQ N H.size h0 a t0 42 x2 s q_1 hc_2) hP hD rfl rfl wn_10_164 wn_10_166 sn_M_bound wn_1_13 wn_10_167 rfl rfl (by decide +kernel) ⟨Nat.le_of_ble_eq_true rfl, Nat.le_of_ble_eq_true rfl⟩ rfl hl.1 rfl (Nat.le_of_ble_eq_true rfl) dn_M_limits_218 ⟨Nat.le_of_ble_eq_true rfl, Nat.le_of_ble_eq_true rfl⟩) hP hD hS hA (fun _ H locs hw hP hD hS => ?_)
    refine lv_aload_n hx hb dn_M_limits_221 rfl (lv_at hl 0 rfl) ?_
    refine lv_lload_n hx hb dn_M_limits_222 rfl (lv_at hl 3 rfl) ?_
    refine lv_ldc2 hx hb hown (hg _ wn_10_170) dn_M_limits_223 ?_
    refine W.lcmp hx hb dn_M_limits_226 ?_
    refine lv_if_gt (tgt := 234) hx hb dn_M_limits_227 (by decide) (fun h => ?_) (fun h => ?_)
    · have hf := (if_pos h).symm.trans hf
      refine lv_iconst (v := 0) hx hb dn_M_limits_234 (by decide) ?_
      exact bl_235 x1 x2 x5 x7 0 q_1.2 hf H locs ls hP hD hS (lv_sub hl [0, 1, 2, 4, 5] rfl)
    · have hf := (if_neg h).symm.trans hf
      refine lv_iconst (v := 1) hx hb dn_M_limits_230 (by decide) ?_
      refine lv_goto (tgt := 235) hx hb dn_M_limits_231 (by decide) ?_
      exact bl_235 x1 x2 x5 x7 1 q_1.2 hf H locs ls hP hD hS (lv_sub hl [0, 1, 2, 4, 5] rfl)
  have bl_190 : ∀ (x1 : Int32) (x2 : Int32) (x3 : Int64) (x5 : Int64) (x7 : Int64) (t0 : Int32) (s : ms), bk_M_limits_190 N x1 x2 x3 x5 x7 t0 s = some y → dcC p l e ({ frames := 2, cells := 0, slots := 0, locals := 45 }) s0 m [.ref h0].toArray below meth c QQ (dC, dI) A (wM h0 a cI cB cJ cZ s) 190 9 [(0, .ref h0), (1, .int x1), (2, .int x2), (3, .long x3), (5, .long x5), (7, .long x7)] [.int t0, .ref h0] := by
    intro x1 x2 x3 x5 x7 t0 s hf H locs ls hP hD hS hl
    unfold bk_M_limits_190 at hf
    refine lv_bipush (v := 41) hx hb dn_M_limits_190 (by decide) ?_
    refine lv_iload_n hx hb dn_M_limits_192 rfl (lv_at hl 2 rfl) ?_
    obtain ⟨q_1, hc_2, hf⟩ := dc_b hf
    refine dc_callv (dc_runV (ar := 3) (As := [.int t0, .int 41, .int x2]) (rest := []) (ci := 0) (q0 := 0) ⟨hx, hb, hml, hown, hg⟩ hK hN hT hS hA (ct_M_bound l dC dI cI cB cJ cZ cQ N H.size h0 a t0 41 x2 s q_1 hc_2) hP hD rfl rfl wn_10_164 wn_10_166 sn_M_bound wn_1_13 wn_10_167 rfl rfl (by decide +kernel) ⟨Nat.le_of_ble_eq_true rfl, Nat.le_of_ble_eq_true rfl⟩ rfl hl.1 rfl (Nat.le_of_ble_eq_true rfl) dn_M_limits_193 ⟨Nat.le_of_ble_eq_true rfl, Nat.le_of_ble_eq_true rfl⟩) hP hD hS hA (fun _ H locs hw hP hD hS => ?_)
    refine lv_aload_n hx hb dn_M_limits_196 rfl (lv_at hl 0 rfl) ?_
    refine lv_aload_n hx hb dn_M_limits_197 rfl (lv_at hl 0 rfl) ?_
    refine va_get (D := (dC, dI)) (ci := 0) (v := .ref ((a 48))) (C := rn_M) (T := fn_M) (N := 91) hx hb hg in_M hown hK hP 0 rfl rfl 48 (by decide) (hg _ wn_8_121) (fun _ h9 => h9) rfl dn_M_limits_198 ?_
    refine lv_iload_n hx hb dn_M_limits_201 rfl (lv_at hl 1 rfl) ?_
    obtain ⟨hg_3, hf⟩ := dc_g hf
    refine va_lald hx hb hK hP 33 2 rfl rfl hg_3 dn_M_limits_202 ?_
    refine xk_tl (y := ((q_1.2.2 48) (Int32.toNatClampNeg x1))) rfl ?_
    refine lv_ldc2 hx hb hown (hg _ wn_10_169) dn_M_limits_203 ?_
    refine W.lcmp hx hb dn_M_limits_206 ?_
    refine lv_if_gt (tgt := 214) hx hb dn_M_limits_207 (by decide) (fun h => ?_) (fun h => ?_)
    · have hf := (if_pos h).symm.trans hf
      refine lv_iconst (v := 0) hx hb dn_M_limits_214 (by decide) ?_
      exact bl_215 x1 x2 x3 x5 x7 0 q_1.2 hf H locs ls hP hD hS hl
    · have hf := (if_neg h).symm.trans hf
      refine lv_iconst (v := 1) hx hb dn_M_limits_210 (by decide) ?_
      refine lv_goto (tgt := 215) hx hb dn_M_limits_211 (by decide) ?_
      exact bl_215 x1 x2 x3 x5 x7 1 q_1.2 hf H locs ls hP hD hS hl
  have bl_165 : ∀ (x1 : Int32) (x2 : Int32) (x3 : Int64) (x5 : Int64) (x7 : Int64) (t0 : Int32) (s : ms), bk_M_limits_165 N x1 x2 x3 x5 x7 t0 s = some y → dcC p l e ({ frames := 2, cells := 0, slots := 0, locals := 45 }) s0 m [.ref h0].toArray below meth c QQ (dC, dI) A (wM h0 a cI cB cJ cZ s) 165 9 [(0, .ref h0), (1, .int x1), (2, .int x2), (3, .long x3), (5, .long x5), (7, .long x7)] [.int t0, .ref h0] := by
    intro x1 x2 x3 x5 x7 t0 s hf H locs ls hP hD hS hl
    unfold bk_M_limits_165 at hf
    refine lv_bipush (v := 40) hx hb dn_M_limits_165 (by decide) ?_
    refine lv_iload_n hx hb dn_M_limits_167 rfl (lv_at hl 2 rfl) ?_
    obtain ⟨q_1, hc_2, hf⟩ := dc_b hf
    refine dc_callv (dc_runV (ar := 3) (As := [.int t0, .int 40, .int x2]) (rest := []) (ci := 0) (q0 := 0) ⟨hx, hb, hml, hown, hg⟩ hK hN hT hS hA (ct_M_bound l dC dI cI cB cJ cZ cQ N H.size h0 a t0 40 x2 s q_1 hc_2) hP hD rfl rfl wn_10_164 wn_10_166 sn_M_bound wn_1_13 wn_10_167 rfl rfl (by decide +kernel) ⟨Nat.le_of_ble_eq_true rfl, Nat.le_of_ble_eq_true rfl⟩ rfl hl.1 rfl (Nat.le_of_ble_eq_true rfl) dn_M_limits_168 ⟨Nat.le_of_ble_eq_true rfl, Nat.le_of_ble_eq_true rfl⟩) hP hD hS hA (fun _ H locs hw hP hD hS => ?_)
    refine lv_aload_n hx hb dn_M_limits_171 rfl (lv_at hl 0 rfl) ?_
    refine lv_aload_n hx hb dn_M_limits_172 rfl (lv_at hl 0 rfl) ?_
    refine va_get (D := (dC, dI)) (ci := 0) (v := .ref ((a 47))) (C := rn_M) (T := fn_M) (N := 91) hx hb hg in_M hown hK hP 0 rfl rfl 47 (by decide) (hg _ wn_8_120) (fun _ h9 => h9) rfl dn_M_limits_173 ?_
    refine lv_iload_n hx hb dn_M_limits_176 rfl (lv_at hl 1 rfl) ?_
    obtain ⟨hg_3, hf⟩ := dc_g hf
    refine va_lald hx hb hK hP 32 2 rfl rfl hg_3 dn_M_limits_177 ?_
    refine xk_tl (y := ((q_1.2.2 47) (Int32.toNatClampNeg x1))) rfl ?_
    refine lv_ldc2 hx hb hown (hg _ wn_10_168) dn_M_limits_178 ?_
    refine W.lcmp hx hb dn_M_limits_181 ?_
    refine lv_if_gt (tgt := 189) hx hb dn_M_limits_182 (by decide) (fun h => ?_) (fun h => ?_)
    · have hf := (if_pos h).symm.trans hf
      refine lv_iconst (v := 0) hx hb dn_M_limits_189 (by decide) ?_
      exact bl_190 x1 x2 x3 x5 x7 0 q_1.2 hf H locs ls hP hD hS hl
    · have hf := (if_neg h).symm.trans hf
      refine lv_iconst (v := 1) hx hb dn_M_limits_185 (by decide) ?_
      refine lv_goto (tgt := 190) hx hb dn_M_limits_186 (by decide) ?_
      exact bl_190 x1 x2 x3 x5 x7 1 q_1.2 hf H locs ls hP hD hS hl
  have bl_144 : ∀ (x1 : Int32) (x2 : Int32) (x3 : Int64) (x5 : Int64) (t0 : Int64) (s : ms), bk_M_limits_144 N x1 x2 x3 x5 t0 s = some y → dcC p l e ({ frames := 2, cells := 0, slots := 0, locals := 45 }) s0 m [.ref h0].toArray below meth c QQ (dC, dI) A (wM h0 a cI cB cJ cZ s) 144 9 [(0, .ref h0), (1, .int x1), (2, .int x2), (3, .long x3), (5, .long x5)] [.long t0] := by
    intro x1 x2 x3 x5 t0 s hf H locs ls hP hD hS hl
    unfold bk_M_limits_144 at hf
    refine lv_lstore (lv' := [(7, .long t0), (0, .ref h0), (1, .int x1), (2, .int x2), (3, .long x3), (5, .long x5)]) hx hb dn_M_limits_144 hl (by decide) rfl (fun ls hl => ?_)
    refine lv_aload_n hx hb dn_M_limits_146 rfl (lv_at hl 1 rfl) ?_
    refine lv_aload_n hx hb dn_M_limits_147 rfl (lv_at hl 1 rfl) ?_
    refine va_get (D := (dC, dI)) (ci := 0) (v := .ref ((a 46))) (C := rn_M) (T := fn_M) (N := 91) hx hb hg in_M hown hK hP 0 rfl rfl 46 (by decide) (hg _ wn_8_119) (fun _ h9 => h9) rfl dn_M_limits_148 ?_
    refine lv_iload_n hx hb dn_M_limits_151 rfl (lv_at hl 2 rfl) ?_
    obtain ⟨hg_1, hf⟩ := dc_g hf
    refine va_lald hx hb hK hP 31 2 rfl rfl hg_1 dn_M_limits_152 ?_
    refine xk_tl (y := ((s.2 46) (Int32.toNatClampNeg x1))) rfl ?_
    refine lv_ldc2 hx hb hown (hg _ wn_10_163) dn_M_limits_153 ?_
    refine W.lcmp hx hb dn_M_limits_156 ?_
    refine lv_if_gt (tgt := 164) hx hb dn_M_limits_157 (by decide) (fun h => ?_) (fun h => ?_)
    · have hf := (if_pos h).symm.trans hf
      refine lv_iconst (v := 0) hx hb dn_M_limits_164 (by decide) ?_
      exact bl_165 x1 x2 x3 x5 t0 0 s hf H locs ls hP hD hS (lv_sub hl [1, 2, 3, 4, 5, 0] rfl)
    · have hf := (if_neg h).symm.trans hf
      refine lv_iconst (v := 1) hx hb dn_M_limits_160 (by decide) ?_
      refine lv_goto (tgt := 165) hx hb dn_M_limits_161 (by decide) ?_
      exact bl_165 x1 x2 x3 x5 t0 1 s hf H locs ls hP hD hS (lv_sub hl [1, 2, 3, 4, 5, 0] rfl)
  have bl_118 : ∀ (x1 : Int32) (x2 : Int32) (x3 : Int64) (t0 : Int64) (t1 : Int32) (t2 : Int64) (s : ms), bk_M_limits_118 N x1 x2 x3 t0 t1 t2 s = some y → dcC p l e ({ frames := 2, cells := 0, slots := 0, locals := 45 }) s0 m [.ref h0].toArray below meth c QQ (dC, dI) A (wM h0 a cI cB cJ cZ s) 118 9 [(0, .ref h0), (1, .int x1), (2, .int x2), (3, .long x3)] [.long t0, .int t1, .long t2] := by
    intro x1 x2 x3 t0 t1 t2 s hf H locs ls hP hD hS hl
    unfold bk_M_limits_118 at hf
    refine lv_l2i (v := Int64.toInt32 t0) hx hb dn_M_limits_118 rfl ?_
    refine lv_iadd hx hb dn_M_limits_119 ?_
    refine lv_lshl (v := (t2 : Int64) <<< ((Int32.toInt64 ((t1 + (Int64.toInt32 t0)))) &&& 63)) hx hb dn_M_limits_120 rfl ?_
    refine lv_lstore (lv' := [(5, .long (((t2 : Int64) <<< ((Int32.toInt64 ((t1 + (Int64.toInt32 t0)))) &&& 63)))), (0, .ref h0), (1, .int x1), (2, .int x2), (3, .long x3)]) hx hb dn_M_limits_121 hl (by decide) rfl (fun ls hl => ?_)
    refine lv_aload_n hx hb dn_M_limits_123 rfl (lv_at hl 1 rfl) ?_
    refine va_get (D := (dC, dI)) (ci := 0) (v := .ref ((a 45))) (C := rn_M) (T := fn_M) (N := 91) hx hb hg in_M hown hK hP 0 rfl rfl 45 (by decide) (hg _ wn_8_118) (fun _ h9 => h9) rfl dn_M_limits_124 ?_
    refine lv_iload_n hx hb dn_M_limits_127 rfl (lv_at hl 2 rfl) ?_
    obtain ⟨hg_1, hf⟩ := dc_g hf
    refine va_lald hx hb hK hP 30 2 rfl rfl hg_1 dn_M_limits_128 ?_
    refine xk_tl (y := ((s.2 45) (Int32.toNatClampNeg x1))) rfl ?_
    refine lv_lconst (v := 1) hx hb dn_M_limits_129 (by decide) ?_
    refine W.lcmp hx hb dn_M_limits_130 ?_
    refine lv_if_le (tgt := 143) hx hb dn_M_limits_131 (by decide) (fun h => ?_) (fun h => ?_)
    · have hf := (if_pos h).symm.trans hf
      refine lv_lconst (v := 1) hx hb dn_M_limits_143 (by decide) ?_
      exact bl_144 x1 x2 x3 (((t2 : Int64) <<< ((Int32.toInt64 ((t1 + (Int64.toInt32 t0)))) &&& 63))) 1 s hf H locs ls hP hD hS (lv_sub hl [1, 2, 3, 4, 0] rfl)
    · have hf := (if_neg h).symm.trans hf
      refine lv_aload_n hx hb dn_M_limits_134 rfl (lv_at hl 1 rfl) ?_
      refine va_get (D := (dC, dI)) (ci := 0) (v := .ref ((a 45))) (C := rn_M) (T := fn_M) (N := 91) hx hb hg in_M hown hK hP 0 rfl rfl 45 (by decide) (hg _ wn_8_118) (fun _ h9 => h9) rfl dn_M_limits_135 ?_
      refine lv_iload_n hx hb dn_M_limits_138 rfl (lv_at hl 2 rfl) ?_
      obtain ⟨hg_2, hf⟩ := dc_g hf
      refine va_lald hx hb hK hP 30 2 rfl rfl hg_2 dn_M_limits_139 ?_
      refine xk_tl (y := ((s.2 45) (Int32.toNatClampNeg x1))) rfl ?_
      refine lv_goto (tgt := 144) hx hb dn_M_limits_140 (by decide) ?_
      exact bl_144 x1 x2 x3 (((t2 : Int64) <<< ((Int32.toInt64 ((t1 + (Int64.toInt32 t0)))) &&& 63))) (((s.2 45) (Int32.toNatClampNeg x1))) s hf H locs ls hP hD hS (lv_sub hl [1, 2, 3, 4, 0] rfl)
  have bl_102 : ∀ (x1 : Int32) (x2 : Int32) (x3 : Int64) (t0 : Int64) (t1 : Int64) (s : ms), bk_M_limits_102 N x1 x2 x3 t0 t1 s = some y → dcC p l e ({ frames := 2, cells := 0, slots := 0, locals := 45 }) s0 m [.ref h0].toArray below meth c QQ (dC, dI) A (wM h0 a cI cB cJ cZ s) 102 9 [(0, .ref h0), (1, .int x1), (2, .int x2), (3, .long x3)] [.long t0, .long t1] := by
    intro x1 x2 x3 t0 t1 s hf H locs ls hP hD hS hl
    unfold bk_M_limits_102 at hf
    refine lv_l2i (v := Int64.toInt32 t0) hx hb dn_M_limits_102 rfl ?_
    refine lv_lload_n hx hb dn_M_limits_103 rfl (lv_at hl 3 rfl) ?_
    refine lv_ldc2 hx hb hown (hg _ wn_10_162) dn_M_limits_104 ?_
    refine W.lcmp hx hb dn_M_limits_107 ?_
    refine lv_if_le (tgt := 117) hx hb dn_M_limits_108 (by decide) (fun h => ?_) (fun h => ?_)
    · have hf := (if_pos h).symm.trans hf
      refine lv_lload_n hx hb dn_M_limits_117 rfl (lv_at hl 3 rfl) ?_
      exact bl_118 x1 x2 x3 x3 ((Int64.toInt32 t0)) t1 s hf H locs ls hP hD hS hl
    · have hf := (if_neg h).symm.trans hf
      refine lv_ldc2 hx hb hown (hg _ wn_10_162) dn_M_limits_111 ?_
      refine lv_goto (tgt := 118) hx hb dn_M_limits_114 (by decide) ?_
      exact bl_118 x1 x2 x3 20 ((Int64.toInt32 t0)) t1 s hf H locs ls hP hD hS hl
  have hd_29 : ∀ (n : Nat) (x1 : Int32) (x2 : Int32) (x3 : Int64) (x5 : Int32) (s : ms), hd_M_limits_29 N n x1 x2 x3 x5 s = some y → dcC p l e ({ frames := 2, cells := 0, slots := 0, locals := 45 }) s0 m [.ref h0].toArray below meth c QQ (dC, dI) A (wM h0 a cI cB cJ cZ s) 29 9 [(0, .ref h0), (1, .int x1), (2, .int x2), (3, .long x3), (5, .int x5)] [] := by
    intro n
    induction n with
    | zero => intro x1 x2 x3 x5 s hf; cases hf
    | succ n ih =>
      intro x1 x2 x3 x5 s hf H locs ls hP hD hS hl
      have hf : bd_M_limits_29 N (hd_M_limits_29 N n) x1 x2 x3 x5 s = some y := hf
      have hk_29 := ih
      generalize hd_M_limits_29 N n = k_29 at hf hk_29
      unfold bd_M_limits_29 at hf
      refine lv_iload hx hb dn_M_limits_29 (lv_at hl 4 rfl) ?_
      refine lv_aload_n hx hb dn_M_limits_31 rfl (lv_at hl 0 rfl) ?_
      refine va_get (D := (dC, dI)) (ci := 0) (v := .ref ((a 14))) (C := rn_M) (T := fn_M) (N := 91) hx hb hg in_M hown hK hP 0 rfl rfl 14 (by decide) (hg _ wn_8_87) (fun _ h9 => h9) rfl dn_M_limits_32 ?_
      refine lv_iload_n hx hb dn_M_limits_35 rfl (lv_at hl 1 rfl) ?_
      refine lv_iconst (v := 1) hx hb dn_M_limits_36 (by decide) ?_
      refine lv_iadd hx hb dn_M_limits_37 ?_
      obtain ⟨hg_1, hf⟩ := dc_g hf
      refine va_iald hx hb hK hP 6 0 rfl rfl hg_1 dn_M_limits_38 ?_
      refine xk_ti (y := ((s.1 14) (Int32.toNatClampNeg ((x1 + 1))))) rfl ?_
      refine lv_icmp_ge (tgt := 73) hx hb dn_M_limits_39 (by decide) (fun h => ?_) (fun h => ?_)
      · have hf := (if_pos h).symm.trans hf
        refine lv_lconst (v := 1) hx hb dn_M_limits_73 (by decide) ?_
        refine lv_aload_n hx hb dn_M_limits_74 rfl (lv_at hl 0 rfl) ?_
        refine va_get (D := (dC, dI)) (ci := 0) (v := .ref ((a 48))) (C := rn_M) (T := fn_M) (N := 91) hx hb hg in_M hown hK hP 0 rfl rfl 48 (by decide) (hg _ wn_8_121) (fun _ h9 => h9) rfl dn_M_limits_75 ?_
        refine lv_iload_n hx hb dn_M_limits_78 rfl (lv_at hl 1 rfl) ?_
        obtain ⟨hg_2, hf⟩ := dc_g hf
        refine va_lald hx hb hK hP 33 2 rfl rfl hg_2 dn_M_limits_79 ?_
        refine xk_tl (y := ((s.2 48) (Int32.toNatClampNeg x1))) rfl ?_
        obtain ⟨q_3, hc_4, hf⟩ := dc_b hf
        refine dc_calll (dc_runS (ar := 1) (As := [.long (((s.2 48) (Int32.toNatClampNeg x1)))]) (rest := [.long 1]) ⟨hx, hb, hml, hown, hg⟩ hK hN hT hS hA (ct_M_most l dC dI cI cB cJ cZ cQ N H.size h0 a (((s.2 48) (Int32.toNatClampNeg x1))) s q_3 hc_4) hP hD wn_10_153 wn_10_154 wn_1_13 wn_10_155 rfl rfl (by decide +kernel) ⟨Nat.le_of_ble_eq_true rfl, Nat.le_of_ble_eq_true rfl⟩ rfl hl.1 rfl (Nat.le_of_ble_eq_true rfl) dn_M_limits_80 ⟨Nat.le_of_ble_eq_true rfl, Nat.le_of_ble_eq_true rfl⟩) hP hD hS hA (fun r_5 _ H locs hw hP hD hS => ?_)
        have hw : r_5 = q_3.1 := hw
        subst hw
        refine lv_ldc2 hx hb hown (hg _ wn_10_161) dn_M_limits_83 ?_
        refine W.lcmp hx hb dn_M_limits_86 ?_
        refine lv_if_le (tgt := 96) hx hb dn_M_limits_87 (by decide) (fun h => ?_) (fun h => ?_)
        · have hf := (if_pos h).symm.trans hf
          refine lv_aload_n hx hb dn_M_limits_96 rfl (lv_at hl 0 rfl) ?_
          refine va_get (D := (dC, dI)) (ci := 0) (v := .ref ((a 48))) (C := rn_M) (T := fn_M) (N := 91) hx hb hg in_M hown hK hP 0 rfl rfl 48 (by decide) (hg _ wn_8_121) (fun _ h9 => h9) rfl dn_M_limits_97 ?_
          refine lv_iload_n hx hb dn_M_limits_100 rfl (lv_at hl 1 rfl) ?_
          obtain ⟨hg_6, hf⟩ := dc_g hf
          refine va_lald hx hb hK hP 33 2 rfl rfl hg_6 dn_M_limits_101 ?_
          refine xk_tl (y := ((q_3.2.2 48) (Int32.toNatClampNeg x1))) rfl ?_
          exact bl_102 x1 x2 x3 (((q_3.2.2 48) (Int32.toNatClampNeg x1))) 1 q_3.2 hf H locs ls hP hD hS (lv_sub hl [0, 1, 2, 3] rfl)
        · have hf := (if_neg h).symm.trans hf
          refine lv_ldc2 hx hb hown (hg _ wn_10_161) dn_M_limits_90 ?_
          refine lv_goto (tgt := 102) hx hb dn_M_limits_93 (by decide) ?_
          exact bl_102 x1 x2 x3 40 1 q_3.2 hf H locs ls hP hD hS (lv_sub hl [0, 1, 2, 3] rfl)
      · have hf := (if_neg h).symm.trans hf
        refine lv_aload_n hx hb dn_M_limits_42 rfl (lv_at hl 0 rfl) ?_
        refine va_get (D := (dC, dI)) (ci := 0) (v := .ref ((a 21))) (C := rn_M) (T := fn_M) (N := 91) hx hb hg in_M hown hK hP 0 rfl rfl 21 (by decide) (hg _ wn_8_94) (fun _ h9 => h9) rfl dn_M_limits_43 ?_
        refine lv_iload hx hb dn_M_limits_46 (lv_at hl 4 rfl) ?_
        obtain ⟨hg_2, hf⟩ := dc_g hf
        refine va_iald hx hb hK hP 12 0 rfl rfl hg_2 dn_M_limits_48 ?_
        refine xk_ti (y := ((s.1 21) (Int32.toNatClampNeg x5))) rfl ?_
        refine lv_if_ne (tgt := 65) hx hb dn_M_limits_49 (by decide) (fun h => ?_) (fun h => ?_)
        · have hf := (if_neg h).symm.trans hf
          refine lv_lload_n hx hb dn_M_limits_65 rfl (lv_at hl 3 rfl) ?_
          refine lv_lstore_n (lv' := [(3, .long x3), (0, .ref h0), (1, .int x1), (2, .int x2), (5, .int x5)]) hx hb dn_M_limits_66 rfl hl (by decide) rfl (fun ls hl => ?_)
          refine lv_iinc (v := (x5 + 1)) (lv' := [(5, .int ((x5 + 1))), (3, .long x3), (0, .ref h0), (1, .int x1), (2, .int x2)]) hx hb dn_M_limits_67 hl (k := 4) rfl (dc_inc (by decide)) (by decide) rfl (fun ls hl => ?_)
          refine lv_goto (tgt := 29) hx hb dn_M_limits_70 (by decide) ?_
          exact hk_29 x1 x2 x3 ((x5 + 1)) s hf H locs ls hP hD hS (lv_sub hl [2, 3, 4, 1, 0] rfl)
        · have hf := (if_pos h).symm.trans hf
          refine lv_lload_n hx hb dn_M_limits_52 rfl (lv_at hl 3 rfl) ?_
          refine lv_aload_n hx hb dn_M_limits_53 rfl (lv_at hl 0 rfl) ?_
          refine va_get (D := (dC, dI)) (ci := 0) (v := .ref ((a 20))) (C := rn_M) (T := fn_M) (N := 91) hx hb hg in_M hown hK hP 0 rfl rfl 20 (by decide) (hg _ wn_8_93) (fun _ h9 => h9) rfl dn_M_limits_54 ?_
          refine lv_iload hx hb dn_M_limits_57 (lv_at hl 4 rfl) ?_
          obtain ⟨hg_3, hf⟩ := dc_g hf
          refine va_iald hx hb hK hP 11 0 rfl rfl hg_3 dn_M_limits_59 ?_
          refine xk_ti (y := ((s.1 20) (Int32.toNatClampNeg x5))) rfl ?_
          refine lv_i2l (v := Int32.toInt64 (((s.1 20) (Int32.toNatClampNeg x5)))) hx hb dn_M_limits_60 rfl ?_
          refine lv_ladd hx hb dn_M_limits_61 ?_
          refine lv_goto (tgt := 66) hx hb dn_M_limits_62 (by decide) ?_
          refine lv_lstore_n (lv' := [(3, .long ((x3 + (Int32.toInt64 (((s.1 20) (Int32.toNatClampNeg x5))))))), (0, .ref h0), (1, .int x1), (2, .int x2), (5, .int x5)]) hx hb dn_M_limits_66 rfl hl (by decide) rfl (fun ls hl => ?_)
          refine lv_iinc (v := (x5 + 1)) (lv' := [(5, .int ((x5 + 1))), (3, .long ((x3 + (Int32.toInt64 (((s.1 20) (Int32.toNatClampNeg x5))))))), (0, .ref h0), (1, .int x1), (2, .int x2)]) hx hb dn_M_limits_67 hl (k := 4) rfl (dc_inc (by decide)) (by decide) rfl (fun ls hl => ?_)
          refine lv_goto (tgt := 29) hx hb dn_M_limits_70 (by decide) ?_
          exact hk_29 x1 x2 ((x3 + (Int32.toInt64 (((s.1 20) (Int32.toNatClampNeg x5)))))) ((x5 + 1)) s hf H locs ls hP hD hS (lv_sub hl [2, 3, 4, 1, 0] rfl)
  intro H locs ls hP hD hS hl
  unfold fn_M_limits at hf
  refine lv_aload_n hx hb dn_M_limits_0 rfl (lv_at hl 0 rfl) ?_
  refine va_get (D := (dC, dI)) (ci := 0) (v := .int ((s.1 12 0))) (C := rn_M) (T := fn_M) (N := 91) hx hb hg in_M hown hK hP 0 rfl rfl 12 (by decide) (hg _ wn_8_85) (fun _ h9 => h9) rfl dn_M_limits_1 ?_
  refine lv_iconst (v := 1) hx hb dn_M_limits_4 (by decide) ?_
  refine lv_isub hx hb dn_M_limits_5 ?_
  refine lv_istore_n (lv' := [(1, .int (((s.1 12 0) - 1))), (0, .ref h0)]) hx hb dn_M_limits_6 rfl hl (by decide) rfl (fun ls hl => ?_)
  refine lv_aload_n hx hb dn_M_limits_7 rfl (lv_at hl 1 rfl) ?_
  refine va_get (D := (dC, dI)) (ci := 0) (v := .ref ((a 5))) (C := rn_M) (T := fn_M) (N := 91) hx hb hg in_M hown hK hP 0 rfl rfl 5 (by decide) (hg _ wn_8_78) (fun _ h9 => h9) rfl dn_M_limits_8 ?_
  refine lv_aload_n hx hb dn_M_limits_11 rfl (lv_at hl 1 rfl) ?_
  refine va_get (D := (dC, dI)) (ci := 0) (v := .ref ((a 13))) (C := rn_M) (T := fn_M) (N := 91) hx hb hg in_M hown hK hP 0 rfl rfl 13 (by decide) (hg _ wn_8_86) (fun _ h9 => h9) rfl dn_M_limits_12 ?_
  refine lv_iload_n hx hb dn_M_limits_15 rfl (lv_at hl 0 rfl) ?_
  obtain ⟨hg_1, hf⟩ := dc_g hf
  refine va_iald hx hb hK hP 5 0 rfl rfl hg_1 dn_M_limits_16 ?_
  refine xk_ti (y := ((s.1 13) (Int32.toNatClampNeg (((s.1 12 0) - 1))))) rfl ?_
  obtain ⟨hg_2, hf⟩ := dc_g hf
  refine va_iald hx hb hK hP 3 0 rfl rfl hg_2 dn_M_limits_17 ?_
  refine xk_ti (y := ((s.1 5) (Int32.toNatClampNeg (((s.1 13) (Int32.toNatClampNeg (((s.1 12 0) - 1)))))))) rfl ?_
  refine lv_istore_n (lv' := [(2, .int (((s.1 5) (Int32.toNatClampNeg (((s.1 13) (Int32.toNatClampNeg (((s.1 12 0) - 1))))))))), (1, .int (((s.1 12 0) - 1))), (0, .ref h0)]) hx hb dn_M_limits_18 rfl hl (by decide) rfl (fun ls hl => ?_)
  refine lv_lconst (v := 0) hx hb dn_M_limits_19 (by decide) ?_
  refine lv_lstore_n (lv' := [(3, .long 0), (2, .int (((s.1 5) (Int32.toNatClampNeg (((s.1 13) (Int32.toNatClampNeg (((s.1 12 0) - 1))))))))), (1, .int (((s.1 12 0) - 1))), (0, .ref h0)]) hx hb dn_M_limits_20 rfl hl (by decide) rfl (fun ls hl => ?_)
  refine lv_aload_n hx hb dn_M_limits_21 rfl (lv_at hl 3 rfl) ?_
  refine va_get (D := (dC, dI)) (ci := 0) (v := .ref ((a 14))) (C := rn_M) (T := fn_M) (N := 91) hx hb hg in_M hown hK hP 0 rfl rfl 14 (by decide) (hg _ wn_8_87) (fun _ h9 => h9) rfl dn_M_limits_22 ?_
  refine lv_iload_n hx hb dn_M_limits_25 rfl (lv_at hl 2 rfl) ?_
  obtain ⟨hg_3, hf⟩ := dc_g hf
  refine va_iald hx hb hK hP 6 0 rfl rfl hg_3 dn_M_limits_26 ?_
  refine xk_ti (y := ((s.1 14) (Int32.toNatClampNeg (((s.1 12 0) - 1))))) rfl ?_
  refine lv_istore (lv' := [(5, .int (((s.1 14) (Int32.toNatClampNeg (((s.1 12 0) - 1)))))), (3, .long 0), (2, .int (((s.1 5) (Int32.toNatClampNeg (((s.1 13) (Int32.toNatClampNeg (((s.1 12 0) - 1))))))))), (1, .int (((s.1 12 0) - 1))), (0, .ref h0)]) hx hb dn_M_limits_27 hl (by decide) rfl (fun ls hl => ?_)
  exact hd_29 N (((s.1 12 0) - 1)) (((s.1 5) (Int32.toNatClampNeg (((s.1 13) (Int32.toNatClampNeg (((s.1 12 0) - 1)))))))) 0 (((s.1 14) (Int32.toNatClampNeg (((s.1 12 0) - 1))))) s hf H locs ls hP hD hS (lv_sub hl [4, 3, 2, 1, 0] rfl)
theorem mb_M_begin_51 (N : Nat) (y : (Unit × ms)) (k_51 : Int32 → Int32 → ms → Option (Unit × ms)) (hkm_51 : ∀ (x1 : Int32) (x4 : Int32) (s : ms), k_51 x1 x4 s = some y → gl y.2 = gl s) (x1 : Int32) (x4 : Int32) (s : ms) (hf : bd_M_begin_51 N k_51 x1 x4 s = some y) : gl y.2 = gl s := by
  unfold bd_M_begin_51 at hf
  have hm : gl s = gl s := rfl
  obtain ⟨_, hf⟩ := dc_g hf
  by_cases h : ((s.1 14) (Int32.toNatClampNeg ((x1 + 1)))) ≤ x4
  · have hf := (if_pos h).symm.trans hf
    exact (dc_e hf).trans hm
  · have hf := (if_neg h).symm.trans hf
    obtain ⟨_, hf⟩ := dc_g hf
    obtain ⟨_, hf⟩ := dc_g hf
    exact (hkm_51 x1 ((x4 + 1)) (upI (upI (upI s 64 (upd (s.1 64) (Int32.toNatClampNeg ((s.1 63 0))) x4)) 65 (upd (s.1 65) (Int32.toNatClampNeg ((s.1 63 0))) ((s.1 56 0)))) 63 (fun _ => ((s.1 63 0) + 1))) hf).trans hm
theorem mh_M_begin_51 (N : Nat) (y : (Unit × ms)) : ∀ (n : Nat) (x1 : Int32) (x4 : Int32) (s : ms), hd_M_begin_51 N n x1 x4 s = some y → gl y.2 = gl s := by
  intro n
  induction n with
  | zero => intro x1 x4 s hf; cases hf
  | succ n ih => intro x1 x4 s hf; exact mb_M_begin_51 N y (hd_M_begin_51 N n) ih x1 x4 s hf
theorem mn_M_begin (N : Nat) (v1 : Int32) (v2 : Int32) (v3 : Int32) (s : ms) (y : (Unit × ms)) (hf : fn_M_begin N v1 v2 v3 s = some y) : gl y.2 = gl s := by
  unfold fn_M_begin at hf
  have hm : gl s = gl s := rfl
  obtain ⟨_, hf⟩ := dc_g hf
  obtain ⟨_, hf⟩ := dc_g hf
  obtain ⟨_, hf⟩ := dc_g hf
  obtain ⟨_, hf⟩ := dc_g hf
  obtain ⟨_, hf⟩ := dc_g hf
  exact (mh_M_begin_51 N y N v1 (((s.1 14) (Int32.toNatClampNeg v1))) (upI (upI (upI (upI s 57 (upd (s.1 57) (Int32.toNatClampNeg ((s.1 56 0))) v1)) 58 (upd (s.1 58) (Int32.toNatClampNeg ((s.1 56 0))) ((s.1 63 0)))) 59 (upd (s.1 59) (Int32.toNatClampNeg ((s.1 56 0))) v2)) 60 (upd (s.1 60) (Int32.toNatClampNeg ((s.1 56 0))) v3)) hf).trans hm
set_option maxHeartbeats 8000000 in
set_option maxRecDepth 100000 in
theorem ct_M_begin (l : Launch) (dC : Nat → ClassId) (dI : Nat → Nat → Nat) (cI cB cJ cZ cQ : ClassId) (N sz : Nat) (h0 : Nat) (a : Nat → Nat) (v1 : Int32) (v2 : Int32) (v3 : Int32) (s : ms) (y : (Unit × ms)) (hf : fn_M_begin N v1 v2 v3 s = some y) : Met l yn_M_begin (xw yn_M_begin bn_M_begin 5 none) ({ frames := 0, cells := 0, slots := 0, locals := 0 }) (dc_P (dC, dI) xcl (xt cI cB cJ cZ cQ) [.ref h0, .int v1, .int v2, .int v3] sz (wM h0 a cI cB cJ cZ s)) (xk_Qv (dC, dI) xcl (xt cI cB cJ cZ cQ) (fun _ : Unit => True) (fun u : Unit => (wM h0 a cI cB cJ cZ y.2)) (va_A (wM h0 a cI cB cJ cZ s) sz)) 0 0 (va_A (wM h0 a cI cB cJ cZ s) sz) := by
  refine dc_of (QA := xk_Qv (dC, dI) xcl (xt cI cB cJ cZ cQ) (fun _ : Unit => True) (fun u : Unit => (wM h0 a cI cB cJ cZ y.2))) (by decide) (Nat.le_of_ble_eq_true rfl) ?_
  intro p e s0 m below meth c hx hb hml hown hg hr hlocks hin hP hK hN A hA hD hT ls hl
  have hown : s0.vm.findClass rn_M = some m.cls := hown
  obtain ⟨H, hH⟩ : ∃ z, z = s0.heap := ⟨_, rfl⟩
  rw [← hH] at hP
  have hS : va_S A s0.heap H [] := by rw [hH]; exact va_S.rf
  suffices kk : ∀ QQ : State → Prop, QQ = MQ below (xk_Qv (dC, dI) xcl (xt cI cB cJ cZ cQ) (fun _ : Unit => True) (fun u : Unit => (wM h0 a cI cB cJ cZ y.2)) A) [.ref h0, .int v1, .int v2, .int v3].toArray s0 0 0 A → dcC p l e ({ frames := 0, cells := 0, slots := 0, locals := 0 }) s0 m [.ref h0, .int v1, .int v2, .int v3].toArray below meth c QQ (dC, dI) A (wM h0 a cI cB cJ cZ s) 0 5 [(0, .ref h0), (1, .int v1), (2, .int v2), (3, .int v3)] [] by
    have k9 := kk _ rfl H [] ls hP hD hS hl
    rw [hH] at k9; exact k9
  clear hP hD hS hl hH H ls
  intro QQ hQQ
  have hd_51 : ∀ (n : Nat) (x1 : Int32) (x4 : Int32) (s : ms), hd_M_begin_51 N n x1 x4 s = some y → dcC p l e ({ frames := 0, cells := 0, slots := 0, locals := 0 }) s0 m [.ref h0, .int v1, .int v2, .int v3].toArray below meth c QQ (dC, dI) A (wM h0 a cI cB cJ cZ s) 51 5 [(0, .ref h0), (1, .int x1), (4, .int x4)] [] := by
    intro n
    induction n with
    | zero => intro x1 x4 s hf; cases hf
    | succ n ih =>
      intro x1 x4 s hf H locs ls hP hD hS hl
      have hf : bd_M_begin_51 N (hd_M_begin_51 N n) x1 x4 s = some y := hf
      have hk_51 := ih
      generalize hd_M_begin_51 N n = k_51 at hf hk_51
      unfold bd_M_begin_51 at hf
      refine lv_iload hx hb dn_M_begin_51 (lv_at hl 2 rfl) ?_
      refine lv_aload_n hx hb dn_M_begin_53 rfl (lv_at hl 0 rfl) ?_
      refine va_get (D := (dC, dI)) (ci := 0) (v := .ref ((a 14))) (C := rn_M) (T := fn_M) (N := 91) hx hb hg in_M hown hK hP 0 rfl rfl 14 (by decide) (hg _ wn_8_87) (fun _ h9 => h9) rfl dn_M_begin_54 ?_
      refine lv_iload_n hx hb dn_M_begin_57 rfl (lv_at hl 1 rfl) ?_
      refine lv_iconst (v := 1) hx hb dn_M_begin_58 (by decide) ?_
      refine lv_iadd hx hb dn_M_begin_59 ?_
      obtain ⟨hg_1, hf⟩ := dc_g hf
      refine va_iald hx hb hK hP 6 0 rfl rfl hg_1 dn_M_begin_60 ?_
      refine xk_ti (y := ((s.1 14) (Int32.toNatClampNeg ((x1 + 1))))) rfl ?_
      refine lv_icmp_ge (tgt := 104) hx hb dn_M_begin_61 (by decide) (fun h => ?_) (fun h => ?_)
      · have hf := (if_pos h).symm.trans hf
        refine lv_aload_n hx hb dn_M_begin_104 rfl (lv_at hl 0 rfl) ?_
        refine lv_dup hx hb dn_M_begin_105 rfl ?_
        refine va_get (D := (dC, dI)) (ci := 0) (v := .int ((s.1 56 0))) (C := rn_M) (T := fn_M) (N := 91) hx hb hg in_M hown hK hP 0 rfl rfl 56 (by decide) (hg _ wn_8_129) (fun _ h9 => h9) rfl dn_M_begin_106 ?_
        refine lv_iconst (v := 1) hx hb dn_M_begin_109 (by decide) ?_
        refine lv_iadd hx hb dn_M_begin_110 ?_
        refine va_put (D := (dC, dI)) (ci := 0) (v := .int (((s.1 56 0) + 1))) (ty := .int) (C := rn_M) (T := fn_M) (N := 91) hx hb hg in_M tn_M tk_M nn_M hown hK hP hD hS 0 rfl rfl 56 (by decide) (hg _ wn_8_129) (fun _ h9 => h9) rfl (tk_M 56 (by decide)) rfl rfl (Nat.le_of_ble_eq_true rfl) dn_M_begin_111 (fun H locs hP hD hS => ?_)
        have hP := wM_P_56 hP
        have hD := wM_D_56 hD
        rw [hQQ, ← Option.some.inj hf]
        exact xk_vret (w1 := fun u : Unit => (wM h0 a cI cB cJ cZ (upI s 56 (fun _ => ((s.1 56 0) + 1))))) () hx hb hr hlocks hK hS dn_M_begin_114 hP hD trivial (Nat.le_refl _) (Nat.le_refl _)
      · have hf := (if_neg h).symm.trans hf
        refine lv_aload_n hx hb dn_M_begin_64 rfl (lv_at hl 0 rfl) ?_
        refine va_get (D := (dC, dI)) (ci := 0) (v := .ref ((a 64))) (C := rn_M) (T := fn_M) (N := 91) hx hb hg in_M hown hK hP 0 rfl rfl 64 (by decide) (hg _ wn_8_137) (fun _ h9 => h9) rfl dn_M_begin_65 ?_
        refine lv_aload_n hx hb dn_M_begin_68 rfl (lv_at hl 0 rfl) ?_
        refine va_get (D := (dC, dI)) (ci := 0) (v := .int ((s.1 63 0))) (C := rn_M) (T := fn_M) (N := 91) hx hb hg in_M hown hK hP 0 rfl rfl 63 (by decide) (hg _ wn_8_136) (fun _ h9 => h9) rfl dn_M_begin_69 ?_
        refine lv_iload hx hb dn_M_begin_72 (lv_at hl 2 rfl) ?_
        obtain ⟨hg_2, hf⟩ := dc_g hf
        refine va_iast hx hb hK hP hD hS 44 0 rfl rfl hg_2 dn_M_begin_74 (fun H locs hP hD hS => ?_)
        have hP : va_P (dC, dI) xcl ((wM h0 a cI cB cJ cZ s).set 44 ((a 64), .inl (cI, 1100, .inl (upd (s.1 64) (Int32.toNatClampNeg ((s.1 63 0))) x4)))) H := hP
        have hD : va_D A ((wM h0 a cI cB cJ cZ s).set 44 ((a 64), .inl (cI, 1100, .inl (upd (s.1 64) (Int32.toNatClampNeg ((s.1 63 0))) x4)))) := hD
        have hP := wM_P_64 hP
        have hD := wM_D_64 hD
        refine lv_aload_n hx hb dn_M_begin_75 rfl (lv_at hl 0 rfl) ?_
        refine va_get (D := (dC, dI)) (ci := 0) (v := .ref ((a 65))) (C := rn_M) (T := fn_M) (N := 91) hx hb hg in_M hown hK hP 0 rfl rfl 65 (by decide) (hg _ wn_8_138) (fun _ h9 => h9) rfl dn_M_begin_76 ?_
        refine lv_aload_n hx hb dn_M_begin_79 rfl (lv_at hl 0 rfl) ?_
        refine va_get (D := (dC, dI)) (ci := 0) (v := .int ((s.1 63 0))) (C := rn_M) (T := fn_M) (N := 91) hx hb hg in_M hown hK hP 0 rfl rfl 63 (by decide) (hg _ wn_8_136) (fun _ h9 => h9) rfl dn_M_begin_80 ?_
        refine lv_aload_n hx hb dn_M_begin_83 rfl (lv_at hl 0 rfl) ?_
        refine va_get (D := (dC, dI)) (ci := 0) (v := .int ((s.1 56 0))) (C := rn_M) (T := fn_M) (N := 91) hx hb hg in_M hown hK hP 0 rfl rfl 56 (by decide) (hg _ wn_8_129) (fun _ h9 => h9) rfl dn_M_begin_84 ?_
        obtain ⟨hg_3, hf⟩ := dc_g hf
        refine va_iast hx hb hK hP hD hS 45 0 rfl rfl hg_3 dn_M_begin_87 (fun H locs hP hD hS => ?_)
        have hP : va_P (dC, dI) xcl ((wM h0 a cI cB cJ cZ (upI s 64 (upd (s.1 64) (Int32.toNatClampNeg ((s.1 63 0))) x4))).set 45 ((a 65), .inl (cI, 1100, .inl (upd (s.1 65) (Int32.toNatClampNeg ((s.1 63 0))) ((s.1 56 0)))))) H := hP
        have hD : va_D A ((wM h0 a cI cB cJ cZ (upI s 64 (upd (s.1 64) (Int32.toNatClampNeg ((s.1 63 0))) x4))).set 45 ((a 65), .inl (cI, 1100, .inl (upd (s.1 65) (Int32.toNatClampNeg ((s.1 63 0))) ((s.1 56 0)))))) := hD
        have hP := wM_P_65 hP
        have hD := wM_D_65 hD
        refine lv_aload_n hx hb dn_M_begin_88 rfl (lv_at hl 0 rfl) ?_
        refine lv_dup hx hb dn_M_begin_89 rfl ?_
        refine va_get (D := (dC, dI)) (ci := 0) (v := .int ((s.1 63 0))) (C := rn_M) (T := fn_M) (N := 91) hx hb hg in_M hown hK hP 0 rfl rfl 63 (by decide) (hg _ wn_8_136) (fun _ h9 => h9) rfl dn_M_begin_90 ?_
        refine lv_iconst (v := 1) hx hb dn_M_begin_93 (by decide) ?_
        refine lv_iadd hx hb dn_M_begin_94 ?_
        refine va_put (D := (dC, dI)) (ci := 0) (v := .int (((s.1 63 0) + 1))) (ty := .int) (C := rn_M) (T := fn_M) (N := 91) hx hb hg in_M tn_M tk_M nn_M hown hK hP hD hS 0 rfl rfl 63 (by decide) (hg _ wn_8_136) (fun _ h9 => h9) rfl (tk_M 63 (by decide)) rfl rfl (Nat.le_of_ble_eq_true rfl) dn_M_begin_95 (fun H locs hP hD hS => ?_)
        have hP := wM_P_63 hP
        have hD := wM_D_63 hD
        refine lv_iinc (v := (x4 + 1)) (lv' := [(4, .int ((x4 + 1))), (0, .ref h0), (1, .int x1)]) hx hb dn_M_begin_98 hl (k := 2) rfl (dc_inc (by decide)) (by decide) rfl (fun ls hl => ?_)
        refine lv_goto (tgt := 51) hx hb dn_M_begin_101 (by decide) ?_
        exact hk_51 x1 ((x4 + 1)) (upI (upI (upI s 64 (upd (s.1 64) (Int32.toNatClampNeg ((s.1 63 0))) x4)) 65 (upd (s.1 65) (Int32.toNatClampNeg ((s.1 63 0))) ((s.1 56 0)))) 63 (fun _ => ((s.1 63 0) + 1))) hf H locs ls hP hD hS (lv_sub hl [1, 2, 0] rfl)
  intro H locs ls hP hD hS hl
  unfold fn_M_begin at hf
  refine lv_aload_n hx hb dn_M_begin_0 rfl (lv_at hl 0 rfl) ?_
  refine va_get (D := (dC, dI)) (ci := 0) (v := .ref ((a 57))) (C := rn_M) (T := fn_M) (N := 91) hx hb hg in_M hown hK hP 0 rfl rfl 57 (by decide) (hg _ wn_8_130) (fun _ h9 => h9) rfl dn_M_begin_1 ?_
  refine lv_aload_n hx hb dn_M_begin_4 rfl (lv_at hl 0 rfl) ?_
  refine va_get (D := (dC, dI)) (ci := 0) (v := .int ((s.1 56 0))) (C := rn_M) (T := fn_M) (N := 91) hx hb hg in_M hown hK hP 0 rfl rfl 56 (by decide) (hg _ wn_8_129) (fun _ h9 => h9) rfl dn_M_begin_5 ?_
  refine lv_iload_n hx hb dn_M_begin_8 rfl (lv_at hl 1 rfl) ?_
  obtain ⟨hg_1, hf⟩ := dc_g hf
  refine va_iast hx hb hK hP hD hS 38 0 rfl rfl hg_1 dn_M_begin_9 (fun H locs hP hD hS => ?_)
  have hP : va_P (dC, dI) xcl ((wM h0 a cI cB cJ cZ s).set 38 ((a 57), .inl (cI, 260, .inl (upd (s.1 57) (Int32.toNatClampNeg ((s.1 56 0))) v1)))) H := hP
  have hD : va_D A ((wM h0 a cI cB cJ cZ s).set 38 ((a 57), .inl (cI, 260, .inl (upd (s.1 57) (Int32.toNatClampNeg ((s.1 56 0))) v1)))) := hD
  have hP := wM_P_57 hP
  have hD := wM_D_57 hD
  refine lv_aload_n hx hb dn_M_begin_10 rfl (lv_at hl 0 rfl) ?_
  refine va_get (D := (dC, dI)) (ci := 0) (v := .ref ((a 58))) (C := rn_M) (T := fn_M) (N := 91) hx hb hg in_M hown hK hP 0 rfl rfl 58 (by decide) (hg _ wn_8_131) (fun _ h9 => h9) rfl dn_M_begin_11 ?_
  refine lv_aload_n hx hb dn_M_begin_14 rfl (lv_at hl 0 rfl) ?_
  refine va_get (D := (dC, dI)) (ci := 0) (v := .int ((s.1 56 0))) (C := rn_M) (T := fn_M) (N := 91) hx hb hg in_M hown hK hP 0 rfl rfl 56 (by decide) (hg _ wn_8_129) (fun _ h9 => h9) rfl dn_M_begin_15 ?_
  refine lv_aload_n hx hb dn_M_begin_18 rfl (lv_at hl 0 rfl) ?_
  refine va_get (D := (dC, dI)) (ci := 0) (v := .int ((s.1 63 0))) (C := rn_M) (T := fn_M) (N := 91) hx hb hg in_M hown hK hP 0 rfl rfl 63 (by decide) (hg _ wn_8_136) (fun _ h9 => h9) rfl dn_M_begin_19 ?_
  obtain ⟨hg_2, hf⟩ := dc_g hf
  refine va_iast hx hb hK hP hD hS 39 0 rfl rfl hg_2 dn_M_begin_22 (fun H locs hP hD hS => ?_)
  have hP : va_P (dC, dI) xcl ((wM h0 a cI cB cJ cZ (upI s 57 (upd (s.1 57) (Int32.toNatClampNeg ((s.1 56 0))) v1))).set 39 ((a 58), .inl (cI, 260, .inl (upd (s.1 58) (Int32.toNatClampNeg ((s.1 56 0))) ((s.1 63 0)))))) H := hP
  have hD : va_D A ((wM h0 a cI cB cJ cZ (upI s 57 (upd (s.1 57) (Int32.toNatClampNeg ((s.1 56 0))) v1))).set 39 ((a 58), .inl (cI, 260, .inl (upd (s.1 58) (Int32.toNatClampNeg ((s.1 56 0))) ((s.1 63 0)))))) := hD
  have hP := wM_P_58 hP
  have hD := wM_D_58 hD
  refine lv_aload_n hx hb dn_M_begin_23 rfl (lv_at hl 0 rfl) ?_
  refine va_get (D := (dC, dI)) (ci := 0) (v := .ref ((a 59))) (C := rn_M) (T := fn_M) (N := 91) hx hb hg in_M hown hK hP 0 rfl rfl 59 (by decide) (hg _ wn_8_132) (fun _ h9 => h9) rfl dn_M_begin_24 ?_
  refine lv_aload_n hx hb dn_M_begin_27 rfl (lv_at hl 0 rfl) ?_
  refine va_get (D := (dC, dI)) (ci := 0) (v := .int ((s.1 56 0))) (C := rn_M) (T := fn_M) (N := 91) hx hb hg in_M hown hK hP 0 rfl rfl 56 (by decide) (hg _ wn_8_129) (fun _ h9 => h9) rfl dn_M_begin_28 ?_
  refine lv_iload_n hx hb dn_M_begin_31 rfl (lv_at hl 2 rfl) ?_
  obtain ⟨hg_3, hf⟩ := dc_g hf
  refine va_iast hx hb hK hP hD hS 40 0 rfl rfl hg_3 dn_M_begin_32 (fun H locs hP hD hS => ?_)
  have hP : va_P (dC, dI) xcl ((wM h0 a cI cB cJ cZ (upI (upI s 57 (upd (s.1 57) (Int32.toNatClampNeg ((s.1 56 0))) v1)) 58 (upd (s.1 58) (Int32.toNatClampNeg ((s.1 56 0))) ((s.1 63 0))))).set 40 ((a 59), .inl (cI, 260, .inl (upd (s.1 59) (Int32.toNatClampNeg ((s.1 56 0))) v2)))) H := hP
  have hD : va_D A ((wM h0 a cI cB cJ cZ (upI (upI s 57 (upd (s.1 57) (Int32.toNatClampNeg ((s.1 56 0))) v1)) 58 (upd (s.1 58) (Int32.toNatClampNeg ((s.1 56 0))) ((s.1 63 0))))).set 40 ((a 59), .inl (cI, 260, .inl (upd (s.1 59) (Int32.toNatClampNeg ((s.1 56 0))) v2)))) := hD
  have hP := wM_P_59 hP
  have hD := wM_D_59 hD
  refine lv_aload_n hx hb dn_M_begin_33 rfl (lv_at hl 0 rfl) ?_
  refine va_get (D := (dC, dI)) (ci := 0) (v := .ref ((a 60))) (C := rn_M) (T := fn_M) (N := 91) hx hb hg in_M hown hK hP 0 rfl rfl 60 (by decide) (hg _ wn_8_133) (fun _ h9 => h9) rfl dn_M_begin_34 ?_
  refine lv_aload_n hx hb dn_M_begin_37 rfl (lv_at hl 0 rfl) ?_
  refine va_get (D := (dC, dI)) (ci := 0) (v := .int ((s.1 56 0))) (C := rn_M) (T := fn_M) (N := 91) hx hb hg in_M hown hK hP 0 rfl rfl 56 (by decide) (hg _ wn_8_129) (fun _ h9 => h9) rfl dn_M_begin_38 ?_
  refine lv_iload_n hx hb dn_M_begin_41 rfl (lv_at hl 3 rfl) ?_
  obtain ⟨hg_4, hf⟩ := dc_g hf
  refine va_iast hx hb hK hP hD hS 41 0 rfl rfl hg_4 dn_M_begin_42 (fun H locs hP hD hS => ?_)
  have hP : va_P (dC, dI) xcl ((wM h0 a cI cB cJ cZ (upI (upI (upI s 57 (upd (s.1 57) (Int32.toNatClampNeg ((s.1 56 0))) v1)) 58 (upd (s.1 58) (Int32.toNatClampNeg ((s.1 56 0))) ((s.1 63 0)))) 59 (upd (s.1 59) (Int32.toNatClampNeg ((s.1 56 0))) v2))).set 41 ((a 60), .inl (cI, 260, .inl (upd (s.1 60) (Int32.toNatClampNeg ((s.1 56 0))) v3)))) H := hP
  have hD : va_D A ((wM h0 a cI cB cJ cZ (upI (upI (upI s 57 (upd (s.1 57) (Int32.toNatClampNeg ((s.1 56 0))) v1)) 58 (upd (s.1 58) (Int32.toNatClampNeg ((s.1 56 0))) ((s.1 63 0)))) 59 (upd (s.1 59) (Int32.toNatClampNeg ((s.1 56 0))) v2))).set 41 ((a 60), .inl (cI, 260, .inl (upd (s.1 60) (Int32.toNatClampNeg ((s.1 56 0))) v3)))) := hD
  have hP := wM_P_60 hP
  have hD := wM_D_60 hD
  refine lv_aload_n hx hb dn_M_begin_43 rfl (lv_at hl 0 rfl) ?_
  refine va_get (D := (dC, dI)) (ci := 0) (v := .ref ((a 14))) (C := rn_M) (T := fn_M) (N := 91) hx hb hg in_M hown hK hP 0 rfl rfl 14 (by decide) (hg _ wn_8_87) (fun _ h9 => h9) rfl dn_M_begin_44 ?_
  refine lv_iload_n hx hb dn_M_begin_47 rfl (lv_at hl 1 rfl) ?_
  obtain ⟨hg_5, hf⟩ := dc_g hf
  refine va_iald hx hb hK hP 6 0 rfl rfl hg_5 dn_M_begin_48 ?_
  refine xk_ti (y := ((s.1 14) (Int32.toNatClampNeg v1))) rfl ?_
  refine lv_istore (lv' := [(4, .int (((s.1 14) (Int32.toNatClampNeg v1)))), (0, .ref h0), (1, .int v1), (2, .int v2), (3, .int v3)]) hx hb dn_M_begin_49 hl (by decide) rfl (fun ls hl => ?_)
  exact hd_51 N v1 (((s.1 14) (Int32.toNatClampNeg v1))) (upI (upI (upI (upI s 57 (upd (s.1 57) (Int32.toNatClampNeg ((s.1 56 0))) v1)) 58 (upd (s.1 58) (Int32.toNatClampNeg ((s.1 56 0))) ((s.1 63 0)))) 59 (upd (s.1 59) (Int32.toNatClampNeg ((s.1 56 0))) v2)) 60 (upd (s.1 60) (Int32.toNatClampNeg ((s.1 56 0))) v3)) hf H locs ls hP hD hS (lv_sub hl [1, 2, 0] rfl)
theorem mn_M_signalOf (N : Nat) (v1 : Int32) (v2 : Int32) (s : ms) (y : (Int32 × ms)) (hf : fn_M_signalOf N v1 v2 s = some y) : gl y.2 = gl s := by
  unfold fn_M_signalOf at hf
  have hm : gl s = gl s := rfl
  obtain ⟨_, hf⟩ := dc_g hf
  obtain ⟨_, hf⟩ := dc_g hf
  obtain ⟨_, hf⟩ := dc_g hf
  exact (dc_e hf).trans hm
set_option maxHeartbeats 8000000 in
set_option maxRecDepth 100000 in
theorem ct_M_signalOf (l : Launch) (dC : Nat → ClassId) (dI : Nat → Nat → Nat) (cI cB cJ cZ cQ : ClassId) (N sz : Nat) (h0 : Nat) (a : Nat → Nat) (v1 : Int32) (v2 : Int32) (s : ms) (y : (Int32 × ms)) (hf : fn_M_signalOf N v1 v2 s = some y) : Met l yn_M_signalOf (xw yn_M_signalOf bn_M_signalOf 3 (some .int)) ({ frames := 0, cells := 0, slots := 0, locals := 0 }) (dc_P (dC, dI) xcl (xt cI cB cJ cZ cQ) [.ref h0, .int v1, .int v2] sz (wM h0 a cI cB cJ cZ s)) (xk_Qi (dC, dI) xcl (xt cI cB cJ cZ cQ) (fun (r : Int32) (_ : Unit) => r = y.1) (fun u : Unit => (wM h0 a cI cB cJ cZ y.2)) (va_A (wM h0 a cI cB cJ cZ s) sz)) 0 0 (va_A (wM h0 a cI cB cJ cZ s) sz) := by
  refine dc_of (QA := xk_Qi (dC, dI) xcl (xt cI cB cJ cZ cQ) (fun (r : Int32) (_ : Unit) => r = y.1) (fun u : Unit => (wM h0 a cI cB cJ cZ y.2))) (by decide) (Nat.le_of_ble_eq_true rfl) ?_
  intro p e s0 m below meth c hx hb hml hown hg hr hlocks hin hP hK hN A hA hD hT ls hl
  have hown : s0.vm.findClass rn_M = some m.cls := hown
  obtain ⟨H, hH⟩ : ∃ z, z = s0.heap := ⟨_, rfl⟩
  rw [← hH] at hP
  have hS : va_S A s0.heap H [] := by rw [hH]; exact va_S.rf
  suffices kk : ∀ QQ : State → Prop, QQ = MQ below (xk_Qi (dC, dI) xcl (xt cI cB cJ cZ cQ) (fun (r : Int32) (_ : Unit) => r = y.1) (fun u : Unit => (wM h0 a cI cB cJ cZ y.2)) A) [.ref h0, .int v1, .int v2].toArray s0 0 0 A → dcC p l e ({ frames := 0, cells := 0, slots := 0, locals := 0 }) s0 m [.ref h0, .int v1, .int v2].toArray below meth c QQ (dC, dI) A (wM h0 a cI cB cJ cZ s) 0 3 [(0, .ref h0), (1, .int v1), (2, .int v2)] [] by
    have k9 := kk _ rfl H [] ls hP hD hS hl
    rw [hH] at k9; exact k9
  clear hP hD hS hl hH H ls
  intro QQ hQQ
  intro H locs ls hP hD hS hl
  unfold fn_M_signalOf at hf
  refine lv_aload_n hx hb dn_M_signalOf_0 rfl (lv_at hl 0 rfl) ?_
  refine va_get (D := (dC, dI)) (ci := 0) (v := .ref ((a 58))) (C := rn_M) (T := fn_M) (N := 91) hx hb hg in_M hown hK hP 0 rfl rfl 58 (by decide) (hg _ wn_8_131) (fun _ h9 => h9) rfl dn_M_signalOf_1 ?_
  refine lv_iload_n hx hb dn_M_signalOf_4 rfl (lv_at hl 1 rfl) ?_
  obtain ⟨hg_1, hf⟩ := dc_g hf
  refine va_iald hx hb hK hP 39 0 rfl rfl hg_1 dn_M_signalOf_5 ?_
  refine xk_ti (y := ((s.1 58) (Int32.toNatClampNeg v1))) rfl ?_
  refine lv_iload_n hx hb dn_M_signalOf_6 rfl (lv_at hl 2 rfl) ?_
  refine lv_iadd hx hb dn_M_signalOf_7 ?_
  refine lv_aload_n hx hb dn_M_signalOf_8 rfl (lv_at hl 0 rfl) ?_
  refine va_get (D := (dC, dI)) (ci := 0) (v := .ref ((a 14))) (C := rn_M) (T := fn_M) (N := 91) hx hb hg in_M hown hK hP 0 rfl rfl 14 (by decide) (hg _ wn_8_87) (fun _ h9 => h9) rfl dn_M_signalOf_9 ?_
  refine lv_aload_n hx hb dn_M_signalOf_12 rfl (lv_at hl 0 rfl) ?_
  refine va_get (D := (dC, dI)) (ci := 0) (v := .ref ((a 57))) (C := rn_M) (T := fn_M) (N := 91) hx hb hg in_M hown hK hP 0 rfl rfl 57 (by decide) (hg _ wn_8_130) (fun _ h9 => h9) rfl dn_M_signalOf_13 ?_
  refine lv_iload_n hx hb dn_M_signalOf_16 rfl (lv_at hl 1 rfl) ?_
  obtain ⟨hg_2, hf⟩ := dc_g hf
  refine va_iald hx hb hK hP 38 0 rfl rfl hg_2 dn_M_signalOf_17 ?_
  refine xk_ti (y := ((s.1 57) (Int32.toNatClampNeg v1))) rfl ?_
  obtain ⟨hg_3, hf⟩ := dc_g hf
  refine va_iald hx hb hK hP 6 0 rfl rfl hg_3 dn_M_signalOf_18 ?_
  refine xk_ti (y := ((s.1 14) (Int32.toNatClampNeg (((s.1 57) (Int32.toNatClampNeg v1)))))) rfl ?_
  refine lv_isub hx hb dn_M_signalOf_19 ?_
  rw [hQQ, ← Option.some.inj hf]
  exact xk_iret (w1 := fun u : Unit => (wM h0 a cI cB cJ cZ s)) () hx hb hr hlocks hK hS dn_M_signalOf_20 hP hD rfl (Nat.le_refl _) (Nat.le_refl _)
theorem mb_M_findRule_178 (N : Nat) (y : (Unit × ms)) (k_178 : Int32 → Int32 → Int32 → Int32 → ms → Option (Unit × ms)) (hkm_178 : ∀ (x1 : Int32) (x2 : Int32) (x3 : Int32) (x4 : Int32) (s : ms), k_178 x1 x2 x3 x4 s = some y → gl y.2 = gl s) (x1 : Int32) (x2 : Int32) (x3 : Int32) (x4 : Int32) (s : ms) (hf : bd_M_findRule_178 N k_178 x1 x2 x3 x4 s = some y) : gl y.2 = gl s := by
  unfold bd_M_findRule_178 at hf
  have hm : gl s = gl s := rfl
  obtain ⟨_, hf⟩ := dc_g hf
  by_cases h : ((s.1 59) (Int32.toNatClampNeg x4)) = x3
  · have hf := (if_pos h).symm.trans hf
    obtain ⟨_, hf⟩ := dc_g hf
    obtain ⟨_, hf⟩ := dc_g hf
    by_cases h : ((s.1 60) (Int32.toNatClampNeg x4)) = ((s.1 24) (Int32.toNatClampNeg x2))
    · have hf := (if_pos h).symm.trans hf
      obtain ⟨_, hf⟩ := dc_g hf
      obtain ⟨_, hf⟩ := dc_g hf
      obtain ⟨q_6, hc_7, hf⟩ := dc_b hf
      have hm := (mn_M_signalOf N x4 (((s.1 25) (Int32.toNatClampNeg x2))) (upI s 66 (upd (s.1 66) (Int32.toNatClampNeg x1) 2)) q_6 hc_7).trans hm
      obtain ⟨_, hf⟩ := dc_g hf
      exact (dc_e hf).trans hm
    · have hf := (if_neg h).symm.trans hf
      exact (hkm_178 x1 x2 x3 ((x4 + 1)) s hf).trans hm
  · have hf := (if_neg h).symm.trans hf
    exact (hkm_178 x1 x2 x3 ((x4 + 1)) s hf).trans hm
theorem mh_M_findRule_178 (N : Nat) (y : (Unit × ms)) : ∀ (n : Nat) (x1 : Int32) (x2 : Int32) (x3 : Int32) (x4 : Int32) (s : ms), hd_M_findRule_178 N n x1 x2 x3 x4 s = some y → gl y.2 = gl s := by
  intro n
  induction n with
  | zero => intro x1 x2 x3 x4 s hf; cases hf
  | succ n ih => intro x1 x2 x3 x4 s hf; exact mb_M_findRule_178 N y (hd_M_findRule_178 N n) ih x1 x2 x3 x4 s hf
theorem mo_M_findRule_167 (N : Nat) (y : (Unit × ms)) (x1 : Int32) (x2 : Int32) (x3 : Int32) (s : ms) (hf : bk_M_findRule_167 N x1 x2 x3 s = some y) : gl y.2 = gl s := by
  unfold bk_M_findRule_167 at hf
  have hm : gl s = gl s := rfl
  obtain ⟨q_1, hc_2, hf⟩ := dc_b hf
  have hm := (mn_M_isDriven N x2 s q_1 hc_2).trans hm
  by_cases h : q_1.1 = 0
  · have hf := (if_pos h).symm.trans hf
    exact (dc_e hf).trans hm
  · have hf := (if_neg h).symm.trans hf
    exact (mh_M_findRule_178 N y N x1 x2 x3 0 q_1.2 hf).trans hm
theorem mo_M_findRule_108 (N : Nat) (y : (Unit × ms)) (x1 : Int32) (x2 : Int32) (x3 : Int32) (s : ms) (hf : bk_M_findRule_108 N x1 x2 x3 s = some y) : gl y.2 = gl s := by
  unfold bk_M_findRule_108 at hf
  have hm : gl s = gl s := rfl
  obtain ⟨q_1, hc_2, hf⟩ := dc_b hf
  have hm := (mn_M_isDriven N x2 s q_1 hc_2).trans hm
  by_cases h : q_1.1 = 0
  · have hf := (if_pos h).symm.trans hf
    exact (mo_M_findRule_167 N y x1 x2 x3 q_1.2 hf).trans hm
  · have hf := (if_neg h).symm.trans hf
    obtain ⟨_, hf⟩ := dc_g hf
    by_cases h : ((q_1.2.1 23) (Int32.toNatClampNeg x2)) = 1
    · have hf := (if_pos h).symm.trans hf
      obtain ⟨_, hf⟩ := dc_g hf
      obtain ⟨_, hf⟩ := dc_g hf
      obtain ⟨_, hf⟩ := dc_g hf
      obtain ⟨_, hf⟩ := dc_g hf
      obtain ⟨_, hf⟩ := dc_g hf
      obtain ⟨_, hf⟩ := dc_g hf
      exact (dc_e hf).trans hm
    · have hf := (if_neg h).symm.trans hf
      exact (mo_M_findRule_167 N y x1 x2 x3 q_1.2 hf).trans hm
theorem mn_M_findRule (N : Nat) (v1 : Int32) (s : ms) (y : (Unit × ms)) (hf : fn_M_findRule N v1 s = some y) : gl y.2 = gl s := by
  unfold fn_M_findRule at hf
  have hm : gl s = gl s := rfl
  obtain ⟨_, hf⟩ := dc_g hf
  obtain ⟨_, hf⟩ := dc_g hf
  obtain ⟨_, hf⟩ := dc_g hf
  obtain ⟨_, hf⟩ := dc_g hf
  by_cases h : ((s.1 21) (Int32.toNatClampNeg (((s.1 64) (Int32.toNatClampNeg v1))))) = 0
  · have hf := (if_pos h).symm.trans hf
    by_cases h : ((s.1 65) (Int32.toNatClampNeg v1)) ≤ 0
    · have hf := (if_pos h).symm.trans hf
      exact (mo_M_findRule_108 N y v1 (((s.1 64) (Int32.toNatClampNeg v1))) (((s.1 65) (Int32.toNatClampNeg v1))) (upI s 66 (upd (s.1 66) (Int32.toNatClampNeg v1) 0)) hf).trans hm
    · have hf := (if_neg h).symm.trans hf
      obtain ⟨_, hf⟩ := dc_g hf
      obtain ⟨_, hf⟩ := dc_g hf
      obtain ⟨_, hf⟩ := dc_g hf
      obtain ⟨q_8, hc_9, hf⟩ := dc_b hf
      have hm := (mn_M_linkOf N (((s.1 60) (Int32.toNatClampNeg (((s.1 65) (Int32.toNatClampNeg v1)))))) (((s.1 30) (Int32.toNatClampNeg ((((s.1 60) (Int32.toNatClampNeg (((s.1 65) (Int32.toNatClampNeg v1))))) + 1))))) (((s.1 64) (Int32.toNatClampNeg v1))) (upI s 66 (upd (s.1 66) (Int32.toNatClampNeg v1) 0)) q_8 hc_9).trans hm
      obtain ⟨_, hf⟩ := dc_g hf
      obtain ⟨_, hf⟩ := dc_g hf
      obtain ⟨_, hf⟩ := dc_g hf
      obtain ⟨_, hf⟩ := dc_g hf
      obtain ⟨_, hf⟩ := dc_g hf
      obtain ⟨_, hf⟩ := dc_g hf
      obtain ⟨_, hf⟩ := dc_g hf
      exact (dc_e hf).trans hm
  · have hf := (if_neg h).symm.trans hf
    exact (mo_M_findRule_108 N y v1 (((s.1 64) (Int32.toNatClampNeg v1))) (((s.1 65) (Int32.toNatClampNeg v1))) (upI s 66 (upd (s.1 66) (Int32.toNatClampNeg v1) 0)) hf).trans hm
set_option maxHeartbeats 8000000 in
set_option maxRecDepth 100000 in
theorem ct_M_findRule (l : Launch) (dC : Nat → ClassId) (dI : Nat → Nat → Nat) (cI cB cJ cZ cQ : ClassId) (N sz : Nat) (h0 : Nat) (a : Nat → Nat) (v1 : Int32) (s : ms) (y : (Unit × ms)) (hf : fn_M_findRule N v1 s = some y) : Met l yn_M_findRule (xw yn_M_findRule bn_M_findRule 5 none) ({ frames := 1, cells := 0, slots := 0, locals := 24 }) (dc_P (dC, dI) xcl (xt cI cB cJ cZ cQ) [.ref h0, .int v1] sz (wM h0 a cI cB cJ cZ s)) (xk_Qv (dC, dI) xcl (xt cI cB cJ cZ cQ) (fun _ : Unit => True) (fun u : Unit => (wM h0 a cI cB cJ cZ y.2)) (va_A (wM h0 a cI cB cJ cZ s) sz)) 0 0 (va_A (wM h0 a cI cB cJ cZ s) sz) := by
  refine dc_of (QA := xk_Qv (dC, dI) xcl (xt cI cB cJ cZ cQ) (fun _ : Unit => True) (fun u : Unit => (wM h0 a cI cB cJ cZ y.2))) (by decide) (Nat.le_of_ble_eq_true rfl) ?_
  intro p e s0 m below meth c hx hb hml hown hg hr hlocks hin hP hK hN A hA hD hT ls hl
  have hown : s0.vm.findClass rn_M = some m.cls := hown
  obtain ⟨H, hH⟩ : ∃ z, z = s0.heap := ⟨_, rfl⟩
  rw [← hH] at hP
  have hS : va_S A s0.heap H [] := by rw [hH]; exact va_S.rf
  suffices kk : ∀ QQ : State → Prop, QQ = MQ below (xk_Qv (dC, dI) xcl (xt cI cB cJ cZ cQ) (fun _ : Unit => True) (fun u : Unit => (wM h0 a cI cB cJ cZ y.2)) A) [.ref h0, .int v1].toArray s0 0 0 A → dcC p l e ({ frames := 1, cells := 0, slots := 0, locals := 24 }) s0 m [.ref h0, .int v1].toArray below meth c QQ (dC, dI) A (wM h0 a cI cB cJ cZ s) 0 5 [(0, .ref h0), (1, .int v1)] [] by
    have k9 := kk _ rfl H [] ls hP hD hS hl
    rw [hH] at k9; exact k9
  clear hP hD hS hl hH H ls
  intro QQ hQQ
  have hd_178 : ∀ (n : Nat) (x1 : Int32) (x2 : Int32) (x3 : Int32) (x4 : Int32) (s : ms), hd_M_findRule_178 N n x1 x2 x3 x4 s = some y → dcC p l e ({ frames := 1, cells := 0, slots := 0, locals := 24 }) s0 m [.ref h0, .int v1].toArray below meth c QQ (dC, dI) A (wM h0 a cI cB cJ cZ s) 178 5 [(0, .ref h0), (1, .int x1), (2, .int x2), (3, .int x3), (4, .int x4)] [] := by
    intro n
    induction n with
    | zero => intro x1 x2 x3 x4 s hf; cases hf
    | succ n ih =>
      intro x1 x2 x3 x4 s hf H locs ls hP hD hS hl
      have hf : bd_M_findRule_178 N (hd_M_findRule_178 N n) x1 x2 x3 x4 s = some y := hf
      have hk_178 := ih
      generalize hd_M_findRule_178 N n = k_178 at hf hk_178
      unfold bd_M_findRule_178 at hf
      refine lv_aload_n hx hb dn_M_findRule_178 rfl (lv_at hl 0 rfl) ?_
      refine va_get (D := (dC, dI)) (ci := 0) (v := .ref ((a 59))) (C := rn_M) (T := fn_M) (N := 91) hx hb hg in_M hown hK hP 0 rfl rfl 59 (by decide) (hg _ wn_8_132) (fun _ h9 => h9) rfl dn_M_findRule_179 ?_
      refine lv_iload hx hb dn_M_findRule_182 (lv_at hl 4 rfl) ?_
      obtain ⟨hg_1, hf⟩ := dc_g hf
      refine va_iald hx hb hK hP 40 0 rfl rfl hg_1 dn_M_findRule_184 ?_
      refine xk_ti (y := ((s.1 59) (Int32.toNatClampNeg x4))) rfl ?_
      refine lv_iload_n hx hb dn_M_findRule_185 rfl (lv_at hl 3 rfl) ?_
      refine lv_icmp_ne (tgt := 205) hx hb dn_M_findRule_186 (by decide) (fun h => ?_) (fun h => ?_)
      · have hf := (if_neg h).symm.trans hf
        refine lv_iinc (v := (x4 + 1)) (lv' := [(4, .int ((x4 + 1))), (0, .ref h0), (1, .int x1), (2, .int x2), (3, .int x3)]) hx hb dn_M_findRule_205 hl (k := 4) rfl (dc_inc (by decide)) (by decide) rfl (fun ls hl => ?_)
        refine lv_goto (tgt := 178) hx hb dn_M_findRule_208 (by decide) ?_
        exact hk_178 x1 x2 x3 ((x4 + 1)) s hf H locs ls hP hD hS (lv_sub hl [1, 2, 3, 4, 0] rfl)
      · have hf := (if_pos h).symm.trans hf
        refine lv_aload_n hx hb dn_M_findRule_189 rfl (lv_at hl 0 rfl) ?_
        refine va_get (D := (dC, dI)) (ci := 0) (v := .ref ((a 60))) (C := rn_M) (T := fn_M) (N := 91) hx hb hg in_M hown hK hP 0 rfl rfl 60 (by decide) (hg _ wn_8_133) (fun _ h9 => h9) rfl dn_M_findRule_190 ?_
        refine lv_iload hx hb dn_M_findRule_193 (lv_at hl 4 rfl) ?_
        obtain ⟨hg_2, hf⟩ := dc_g hf
        refine va_iald hx hb hK hP 41 0 rfl rfl hg_2 dn_M_findRule_195 ?_
        refine xk_ti (y := ((s.1 60) (Int32.toNatClampNeg x4))) rfl ?_
        refine lv_aload_n hx hb dn_M_findRule_196 rfl (lv_at hl 0 rfl) ?_
        refine va_get (D := (dC, dI)) (ci := 0) (v := .ref ((a 24))) (C := rn_M) (T := fn_M) (N := 91) hx hb hg in_M hown hK hP 0 rfl rfl 24 (by decide) (hg _ wn_8_97) (fun _ h9 => h9) rfl dn_M_findRule_197 ?_
        refine lv_iload_n hx hb dn_M_findRule_200 rfl (lv_at hl 2 rfl) ?_
        obtain ⟨hg_3, hf⟩ := dc_g hf
        refine va_iald hx hb hK hP 15 0 rfl rfl hg_3 dn_M_findRule_201 ?_
        refine xk_ti (y := ((s.1 24) (Int32.toNatClampNeg x2))) rfl ?_
        refine lv_icmp_eq (tgt := 211) hx hb dn_M_findRule_202 (by decide) (fun h => ?_) (fun h => ?_)
        · have hf := (if_pos h).symm.trans hf
          refine lv_aload_n hx hb dn_M_findRule_211 rfl (lv_at hl 0 rfl) ?_
          refine va_get (D := (dC, dI)) (ci := 0) (v := .ref ((a 66))) (C := rn_M) (T := fn_M) (N := 91) hx hb hg in_M hown hK hP 0 rfl rfl 66 (by decide) (hg _ wn_8_139) (fun _ h9 => h9) rfl dn_M_findRule_212 ?_
          refine lv_iload_n hx hb dn_M_findRule_215 rfl (lv_at hl 1 rfl) ?_
          refine lv_iconst (v := 2) hx hb dn_M_findRule_216 (by decide) ?_
          obtain ⟨hg_4, hf⟩ := dc_g hf
          refine va_iast hx hb hK hP hD hS 46 0 rfl rfl hg_4 dn_M_findRule_217 (fun H locs hP hD hS => ?_)
          have hP : va_P (dC, dI) xcl ((wM h0 a cI cB cJ cZ s).set 46 ((a 66), .inl (cI, 1100, .inl (upd (s.1 66) (Int32.toNatClampNeg x1) 2)))) H := hP
          have hD : va_D A ((wM h0 a cI cB cJ cZ s).set 46 ((a 66), .inl (cI, 1100, .inl (upd (s.1 66) (Int32.toNatClampNeg x1) 2)))) := hD
          have hP := wM_P_66 hP
          have hD := wM_D_66 hD
          refine lv_aload_n hx hb dn_M_findRule_218 rfl (lv_at hl 0 rfl) ?_
          refine va_get (D := (dC, dI)) (ci := 0) (v := .ref ((a 67))) (C := rn_M) (T := fn_M) (N := 91) hx hb hg in_M hown hK hP 0 rfl rfl 67 (by decide) (hg _ wn_8_140) (fun _ h9 => h9) rfl dn_M_findRule_219 ?_
          refine lv_iload_n hx hb dn_M_findRule_222 rfl (lv_at hl 1 rfl) ?_
          refine lv_aload_n hx hb dn_M_findRule_223 rfl (lv_at hl 0 rfl) ?_
          refine lv_iload hx hb dn_M_findRule_224 (lv_at hl 4 rfl) ?_
          refine lv_aload_n hx hb dn_M_findRule_226 rfl (lv_at hl 0 rfl) ?_
          refine va_get (D := (dC, dI)) (ci := 0) (v := .ref ((a 25))) (C := rn_M) (T := fn_M) (N := 91) hx hb hg in_M hown hK hP 0 rfl rfl 25 (by decide) (hg _ wn_8_98) (fun _ h9 => h9) rfl dn_M_findRule_227 ?_
          refine lv_iload_n hx hb dn_M_findRule_230 rfl (lv_at hl 2 rfl) ?_
          obtain ⟨hg_5, hf⟩ := dc_g hf
          refine va_iald hx hb hK hP 16 0 rfl rfl hg_5 dn_M_findRule_231 ?_
          refine xk_ti (y := ((s.1 25) (Int32.toNatClampNeg x2))) rfl ?_
          obtain ⟨q_6, hc_7, hf⟩ := dc_b hf
          refine dc_calli (dc_runV (ar := 2) (As := [.int x4, .int (((s.1 25) (Int32.toNatClampNeg x2)))]) (rest := [.int x1, .ref ((a 67))]) (ci := 0) (q0 := 0) ⟨hx, hb, hml, hown, hg⟩ hK hN hT hS hA (ct_M_signalOf l dC dI cI cB cJ cZ cQ N H.size h0 a x4 (((s.1 25) (Int32.toNatClampNeg x2))) (upI s 66 (upd (s.1 66) (Int32.toNatClampNeg x1) 2)) q_6 hc_7) hP hD rfl rfl wn_10_185 wn_10_187 sn_M_signalOf wn_1_13 wn_10_188 rfl rfl (by decide +kernel) ⟨Nat.le_of_ble_eq_true rfl, Nat.le_of_ble_eq_true rfl⟩ rfl hl.1 rfl (Nat.le_of_ble_eq_true rfl) dn_M_findRule_232 ⟨Nat.le_of_ble_eq_true rfl, Nat.le_of_ble_eq_true rfl⟩) hP hD hS hA (fun r_8 _ H locs hw hP hD hS => ?_)
          have hw : r_8 = q_6.1 := hw
          subst hw
          obtain ⟨hg_9, hf⟩ := dc_g hf
          refine va_iast hx hb hK hP hD hS 47 0 rfl rfl hg_9 dn_M_findRule_235 (fun H locs hP hD hS => ?_)
          have hP : va_P (dC, dI) xcl ((wM h0 a cI cB cJ cZ q_6.2).set 47 ((a 67), .inl (cI, 1100, .inl (upd (q_6.2.1 67) (Int32.toNatClampNeg x1) q_6.1)))) H := hP
          have hD : va_D A ((wM h0 a cI cB cJ cZ q_6.2).set 47 ((a 67), .inl (cI, 1100, .inl (upd (q_6.2.1 67) (Int32.toNatClampNeg x1) q_6.1)))) := hD
          have hP := wM_P_67 hP
          have hD := wM_D_67 hD
          rw [hQQ, ← Option.some.inj hf]
          exact xk_vret (w1 := fun u : Unit => (wM h0 a cI cB cJ cZ (upI q_6.2 67 (upd (q_6.2.1 67) (Int32.toNatClampNeg x1) q_6.1)))) () hx hb hr hlocks hK hS dn_M_findRule_236 hP hD trivial (Nat.le_refl _) (Nat.le_refl _)
        · have hf := (if_neg h).symm.trans hf
          refine lv_iinc (v := (x4 + 1)) (lv' := [(4, .int ((x4 + 1))), (0, .ref h0), (1, .int x1), (2, .int x2), (3, .int x3)]) hx hb dn_M_findRule_205 hl (k := 4) rfl (dc_inc (by decide)) (by decide) rfl (fun ls hl => ?_)
          refine lv_goto (tgt := 178) hx hb dn_M_findRule_208 (by decide) ?_
          exact hk_178 x1 x2 x3 ((x4 + 1)) s hf H locs ls hP hD hS (lv_sub hl [1, 2, 3, 4, 0] rfl)
  have bl_167 : ∀ (x1 : Int32) (x2 : Int32) (x3 : Int32) (s : ms), bk_M_findRule_167 N x1 x2 x3 s = some y → dcC p l e ({ frames := 1, cells := 0, slots := 0, locals := 24 }) s0 m [.ref h0, .int v1].toArray below meth c QQ (dC, dI) A (wM h0 a cI cB cJ cZ s) 167 5 [(0, .ref h0), (1, .int x1), (2, .int x2), (3, .int x3)] [] := by
    intro x1 x2 x3 s hf H locs ls hP hD hS hl
    unfold bk_M_findRule_167 at hf
    refine lv_aload_n hx hb dn_M_findRule_167 rfl (lv_at hl 0 rfl) ?_
    refine lv_iload_n hx hb dn_M_findRule_168 rfl (lv_at hl 2 rfl) ?_
    obtain ⟨q_1, hc_2, hf⟩ := dc_b hf
    refine dc_calli (dc_runV (ar := 1) (As := [.int x2]) (rest := []) (ci := 0) (q0 := 0) ⟨hx, hb, hml, hown, hg⟩ hK hN hT hS hA (ct_M_isDriven l dC dI cI cB cJ cZ cQ N H.size h0 a x2 s q_1 hc_2) hP hD rfl rfl wn_10_73 wn_10_75 sn_M_isDriven wn_1_13 wn_10_76 rfl rfl (by decide +kernel) ⟨Nat.le_of_ble_eq_true rfl, Nat.le_of_ble_eq_true rfl⟩ rfl hl.1 rfl (Nat.le_of_ble_eq_true rfl) dn_M_findRule_169 ⟨Nat.le_of_ble_eq_true rfl, Nat.le_of_ble_eq_true rfl⟩) hP hD hS hA (fun r_3 _ H locs hw hP hD hS => ?_)
    have hw : r_3 = q_1.1 := hw
    subst hw
    refine lv_if_eq (tgt := 236) hx hb dn_M_findRule_172 (by decide) (fun h => ?_) (fun h => ?_)
    · have hf := (if_pos h).symm.trans hf
      rw [hQQ, ← Option.some.inj hf]
      exact xk_vret (w1 := fun u : Unit => (wM h0 a cI cB cJ cZ q_1.2)) () hx hb hr hlocks hK hS dn_M_findRule_236 hP hD trivial (Nat.le_refl _) (Nat.le_refl _)
    · have hf := (if_neg h).symm.trans hf
      refine lv_iconst (v := 0) hx hb dn_M_findRule_175 (by decide) ?_
      refine lv_istore (lv' := [(4, .int 0), (0, .ref h0), (1, .int x1), (2, .int x2), (3, .int x3)]) hx hb dn_M_findRule_176 hl (by decide) rfl (fun ls hl => ?_)
      exact hd_178 N x1 x2 x3 0 q_1.2 hf H locs ls hP hD hS (lv_sub hl [1, 2, 3, 4, 0] rfl)
  have bl_108 : ∀ (x1 : Int32) (x2 : Int32) (x3 : Int32) (s : ms), bk_M_findRule_108 N x1 x2 x3 s = some y → dcC p l e ({ frames := 1, cells := 0, slots := 0, locals := 24 }) s0 m [.ref h0, .int v1].toArray below meth c QQ (dC, dI) A (wM h0 a cI cB cJ cZ s) 108 5 [(0, .ref h0), (1, .int x1), (2, .int x2), (3, .int x3)] [] := by
    intro x1 x2 x3 s hf H locs ls hP hD hS hl
    unfold bk_M_findRule_108 at hf
    refine lv_aload_n hx hb dn_M_findRule_108 rfl (lv_at hl 0 rfl) ?_
    refine lv_iload_n hx hb dn_M_findRule_109 rfl (lv_at hl 2 rfl) ?_
    obtain ⟨q_1, hc_2, hf⟩ := dc_b hf
    refine dc_calli (dc_runV (ar := 1) (As := [.int x2]) (rest := []) (ci := 0) (q0 := 0) ⟨hx, hb, hml, hown, hg⟩ hK hN hT hS hA (ct_M_isDriven l dC dI cI cB cJ cZ cQ N H.size h0 a x2 s q_1 hc_2) hP hD rfl rfl wn_10_73 wn_10_75 sn_M_isDriven wn_1_13 wn_10_76 rfl rfl (by decide +kernel) ⟨Nat.le_of_ble_eq_true rfl, Nat.le_of_ble_eq_true rfl⟩ rfl hl.1 rfl (Nat.le_of_ble_eq_true rfl) dn_M_findRule_110 ⟨Nat.le_of_ble_eq_true rfl, Nat.le_of_ble_eq_true rfl⟩) hP hD hS hA (fun r_3 _ H locs hw hP hD hS => ?_)
    have hw : r_3 = q_1.1 := hw
    subst hw
    refine lv_if_eq (tgt := 167) hx hb dn_M_findRule_113 (by decide) (fun h => ?_) (fun h => ?_)
    · have hf := (if_pos h).symm.trans hf
      exact bl_167 x1 x2 x3 q_1.2 hf H locs ls hP hD hS hl
    · have hf := (if_neg h).symm.trans hf
      refine lv_aload_n hx hb dn_M_findRule_116 rfl (lv_at hl 0 rfl) ?_
      refine va_get (D := (dC, dI)) (ci := 0) (v := .ref ((a 23))) (C := rn_M) (T := fn_M) (N := 91) hx hb hg in_M hown hK hP 0 rfl rfl 23 (by decide) (hg _ wn_8_96) (fun _ h9 => h9) rfl dn_M_findRule_117 ?_
      refine lv_iload_n hx hb dn_M_findRule_120 rfl (lv_at hl 2 rfl) ?_
      obtain ⟨hg_4, hf⟩ := dc_g hf
      refine va_iald hx hb hK hP 14 0 rfl rfl hg_4 dn_M_findRule_121 ?_
      refine xk_ti (y := ((q_1.2.1 23) (Int32.toNatClampNeg x2))) rfl ?_
      refine lv_iconst (v := 1) hx hb dn_M_findRule_122 (by decide) ?_
      refine lv_icmp_ne (tgt := 167) hx hb dn_M_findRule_123 (by decide) (fun h => ?_) (fun h => ?_)
      · have hf := (if_neg h).symm.trans hf
        exact bl_167 x1 x2 x3 q_1.2 hf H locs ls hP hD hS hl
      · have hf := (if_pos h).symm.trans hf
        refine lv_aload_n hx hb dn_M_findRule_126 rfl (lv_at hl 0 rfl) ?_
        refine va_get (D := (dC, dI)) (ci := 0) (v := .ref ((a 66))) (C := rn_M) (T := fn_M) (N := 91) hx hb hg in_M hown hK hP 0 rfl rfl 66 (by decide) (hg _ wn_8_139) (fun _ h9 => h9) rfl dn_M_findRule_127 ?_
        refine lv_iload_n hx hb dn_M_findRule_130 rfl (lv_at hl 1 rfl) ?_
        refine lv_iconst (v := 1) hx hb dn_M_findRule_131 (by decide) ?_
        obtain ⟨hg_5, hf⟩ := dc_g hf
        refine va_iast hx hb hK hP hD hS 46 0 rfl rfl hg_5 dn_M_findRule_132 (fun H locs hP hD hS => ?_)
        have hP : va_P (dC, dI) xcl ((wM h0 a cI cB cJ cZ q_1.2).set 46 ((a 66), .inl (cI, 1100, .inl (upd (q_1.2.1 66) (Int32.toNatClampNeg x1) 1)))) H := hP
        have hD : va_D A ((wM h0 a cI cB cJ cZ q_1.2).set 46 ((a 66), .inl (cI, 1100, .inl (upd (q_1.2.1 66) (Int32.toNatClampNeg x1) 1)))) := hD
        have hP := wM_P_66 hP
        have hD := wM_D_66 hD
        refine lv_aload_n hx hb dn_M_findRule_133 rfl (lv_at hl 0 rfl) ?_
        refine va_get (D := (dC, dI)) (ci := 0) (v := .ref ((a 67))) (C := rn_M) (T := fn_M) (N := 91) hx hb hg in_M hown hK hP 0 rfl rfl 67 (by decide) (hg _ wn_8_140) (fun _ h9 => h9) rfl dn_M_findRule_134 ?_
        refine lv_iload_n hx hb dn_M_findRule_137 rfl (lv_at hl 1 rfl) ?_
        refine lv_aload_n hx hb dn_M_findRule_138 rfl (lv_at hl 0 rfl) ?_
        refine va_get (D := (dC, dI)) (ci := 0) (v := .ref ((a 24))) (C := rn_M) (T := fn_M) (N := 91) hx hb hg in_M hown hK hP 0 rfl rfl 24 (by decide) (hg _ wn_8_97) (fun _ h9 => h9) rfl dn_M_findRule_139 ?_
        refine lv_iload_n hx hb dn_M_findRule_142 rfl (lv_at hl 2 rfl) ?_
        obtain ⟨hg_6, hf⟩ := dc_g hf
        refine va_iald hx hb hK hP 15 0 rfl rfl hg_6 dn_M_findRule_143 ?_
        refine xk_ti (y := ((q_1.2.1 24) (Int32.toNatClampNeg x2))) rfl ?_
        obtain ⟨hg_7, hf⟩ := dc_g hf
        refine va_iast hx hb hK hP hD hS 47 0 rfl rfl hg_7 dn_M_findRule_144 (fun H locs hP hD hS => ?_)
        have hP : va_P (dC, dI) xcl ((wM h0 a cI cB cJ cZ (upI q_1.2 66 (upd (q_1.2.1 66) (Int32.toNatClampNeg x1) 1))).set 47 ((a 67), .inl (cI, 1100, .inl (upd (q_1.2.1 67) (Int32.toNatClampNeg x1) (((q_1.2.1 24) (Int32.toNatClampNeg x2))))))) H := hP
        have hD : va_D A ((wM h0 a cI cB cJ cZ (upI q_1.2 66 (upd (q_1.2.1 66) (Int32.toNatClampNeg x1) 1))).set 47 ((a 67), .inl (cI, 1100, .inl (upd (q_1.2.1 67) (Int32.toNatClampNeg x1) (((q_1.2.1 24) (Int32.toNatClampNeg x2))))))) := hD
        have hP := wM_P_67 hP
        have hD := wM_D_67 hD
        refine lv_aload_n hx hb dn_M_findRule_145 rfl (lv_at hl 0 rfl) ?_
        refine va_get (D := (dC, dI)) (ci := 0) (v := .ref ((a 68))) (C := rn_M) (T := fn_M) (N := 91) hx hb hg in_M hown hK hP 0 rfl rfl 68 (by decide) (hg _ wn_8_141) (fun _ h9 => h9) rfl dn_M_findRule_146 ?_
        refine lv_iload_n hx hb dn_M_findRule_149 rfl (lv_at hl 1 rfl) ?_
        refine lv_aload_n hx hb dn_M_findRule_150 rfl (lv_at hl 0 rfl) ?_
        refine va_get (D := (dC, dI)) (ci := 0) (v := .ref ((a 25))) (C := rn_M) (T := fn_M) (N := 91) hx hb hg in_M hown hK hP 0 rfl rfl 25 (by decide) (hg _ wn_8_98) (fun _ h9 => h9) rfl dn_M_findRule_151 ?_
        refine lv_iload_n hx hb dn_M_findRule_154 rfl (lv_at hl 2 rfl) ?_
        obtain ⟨hg_8, hf⟩ := dc_g hf
        refine va_iald hx hb hK hP 16 0 rfl rfl hg_8 dn_M_findRule_155 ?_
        refine xk_ti (y := ((q_1.2.1 25) (Int32.toNatClampNeg x2))) rfl ?_
        obtain ⟨hg_9, hf⟩ := dc_g hf
        refine va_iast hx hb hK hP hD hS 48 0 rfl rfl hg_9 dn_M_findRule_156 (fun H locs hP hD hS => ?_)
        have hP : va_P (dC, dI) xcl ((wM h0 a cI cB cJ cZ (upI (upI q_1.2 66 (upd (q_1.2.1 66) (Int32.toNatClampNeg x1) 1)) 67 (upd (q_1.2.1 67) (Int32.toNatClampNeg x1) (((q_1.2.1 24) (Int32.toNatClampNeg x2)))))).set 48 ((a 68), .inl (cI, 1100, .inl (upd (q_1.2.1 68) (Int32.toNatClampNeg x1) (((q_1.2.1 25) (Int32.toNatClampNeg x2))))))) H := hP
        have hD : va_D A ((wM h0 a cI cB cJ cZ (upI (upI q_1.2 66 (upd (q_1.2.1 66) (Int32.toNatClampNeg x1) 1)) 67 (upd (q_1.2.1 67) (Int32.toNatClampNeg x1) (((q_1.2.1 24) (Int32.toNatClampNeg x2)))))).set 48 ((a 68), .inl (cI, 1100, .inl (upd (q_1.2.1 68) (Int32.toNatClampNeg x1) (((q_1.2.1 25) (Int32.toNatClampNeg x2))))))) := hD
        have hP := wM_P_68 hP
        have hD := wM_D_68 hD
        refine lv_aload_n hx hb dn_M_findRule_157 rfl (lv_at hl 0 rfl) ?_
        refine va_get (D := (dC, dI)) (ci := 0) (v := .ref ((a 69))) (C := rn_M) (T := fn_M) (N := 91) hx hb hg in_M hown hK hP 0 rfl rfl 69 (by decide) (hg _ wn_8_142) (fun _ h9 => h9) rfl dn_M_findRule_158 ?_
        refine lv_iload_n hx hb dn_M_findRule_161 rfl (lv_at hl 1 rfl) ?_
        refine lv_iload_n hx hb dn_M_findRule_162 rfl (lv_at hl 3 rfl) ?_
        obtain ⟨hg_10, hf⟩ := dc_g hf
        refine va_iast hx hb hK hP hD hS 49 0 rfl rfl hg_10 dn_M_findRule_163 (fun H locs hP hD hS => ?_)
        have hP : va_P (dC, dI) xcl ((wM h0 a cI cB cJ cZ (upI (upI (upI q_1.2 66 (upd (q_1.2.1 66) (Int32.toNatClampNeg x1) 1)) 67 (upd (q_1.2.1 67) (Int32.toNatClampNeg x1) (((q_1.2.1 24) (Int32.toNatClampNeg x2))))) 68 (upd (q_1.2.1 68) (Int32.toNatClampNeg x1) (((q_1.2.1 25) (Int32.toNatClampNeg x2)))))).set 49 ((a 69), .inl (cI, 1100, .inl (upd (q_1.2.1 69) (Int32.toNatClampNeg x1) x3)))) H := hP
        have hD : va_D A ((wM h0 a cI cB cJ cZ (upI (upI (upI q_1.2 66 (upd (q_1.2.1 66) (Int32.toNatClampNeg x1) 1)) 67 (upd (q_1.2.1 67) (Int32.toNatClampNeg x1) (((q_1.2.1 24) (Int32.toNatClampNeg x2))))) 68 (upd (q_1.2.1 68) (Int32.toNatClampNeg x1) (((q_1.2.1 25) (Int32.toNatClampNeg x2)))))).set 49 ((a 69), .inl (cI, 1100, .inl (upd (q_1.2.1 69) (Int32.toNatClampNeg x1) x3)))) := hD
        have hP := wM_P_69 hP
        have hD := wM_D_69 hD
        refine lv_goto (tgt := 236) hx hb dn_M_findRule_164 (by decide) ?_
        rw [hQQ, ← Option.some.inj hf]
        exact xk_vret (w1 := fun u : Unit => (wM h0 a cI cB cJ cZ (upI (upI (upI (upI q_1.2 66 (upd (q_1.2.1 66) (Int32.toNatClampNeg x1) 1)) 67 (upd (q_1.2.1 67) (Int32.toNatClampNeg x1) (((q_1.2.1 24) (Int32.toNatClampNeg x2))))) 68 (upd (q_1.2.1 68) (Int32.toNatClampNeg x1) (((q_1.2.1 25) (Int32.toNatClampNeg x2))))) 69 (upd (q_1.2.1 69) (Int32.toNatClampNeg x1) x3)))) () hx hb hr hlocks hK hS dn_M_findRule_236 hP hD trivial (Nat.le_refl _) (Nat.le_refl _)
  intro H locs ls hP hD hS hl
  unfold fn_M_findRule at hf
  refine lv_aload_n hx hb dn_M_findRule_0 rfl (lv_at hl 0 rfl) ?_
  refine va_get (D := (dC, dI)) (ci := 0) (v := .ref ((a 64))) (C := rn_M) (T := fn_M) (N := 91) hx hb hg in_M hown hK hP 0 rfl rfl 64 (by decide) (hg _ wn_8_137) (fun _ h9 => h9) rfl dn_M_findRule_1 ?_
  refine lv_iload_n hx hb dn_M_findRule_4 rfl (lv_at hl 1 rfl) ?_
  obtain ⟨hg_1, hf⟩ := dc_g hf
  refine va_iald hx hb hK hP 44 0 rfl rfl hg_1 dn_M_findRule_5 ?_
  refine xk_ti (y := ((s.1 64) (Int32.toNatClampNeg v1))) rfl ?_
  refine lv_istore_n (lv' := [(2, .int (((s.1 64) (Int32.toNatClampNeg v1)))), (0, .ref h0), (1, .int v1)]) hx hb dn_M_findRule_6 rfl hl (by decide) rfl (fun ls hl => ?_)
  refine lv_aload_n hx hb dn_M_findRule_7 rfl (lv_at hl 1 rfl) ?_
  refine va_get (D := (dC, dI)) (ci := 0) (v := .ref ((a 65))) (C := rn_M) (T := fn_M) (N := 91) hx hb hg in_M hown hK hP 0 rfl rfl 65 (by decide) (hg _ wn_8_138) (fun _ h9 => h9) rfl dn_M_findRule_8 ?_
  refine lv_iload_n hx hb dn_M_findRule_11 rfl (lv_at hl 2 rfl) ?_
  obtain ⟨hg_2, hf⟩ := dc_g hf
  refine va_iald hx hb hK hP 45 0 rfl rfl hg_2 dn_M_findRule_12 ?_
  refine xk_ti (y := ((s.1 65) (Int32.toNatClampNeg v1))) rfl ?_
  refine lv_istore_n (lv' := [(3, .int (((s.1 65) (Int32.toNatClampNeg v1)))), (2, .int (((s.1 64) (Int32.toNatClampNeg v1)))), (0, .ref h0), (1, .int v1)]) hx hb dn_M_findRule_13 rfl hl (by decide) rfl (fun ls hl => ?_)
  refine lv_aload_n hx hb dn_M_findRule_14 rfl (lv_at hl 2 rfl) ?_
  refine va_get (D := (dC, dI)) (ci := 0) (v := .ref ((a 66))) (C := rn_M) (T := fn_M) (N := 91) hx hb hg in_M hown hK hP 0 rfl rfl 66 (by decide) (hg _ wn_8_139) (fun _ h9 => h9) rfl dn_M_findRule_15 ?_
  refine lv_iload_n hx hb dn_M_findRule_18 rfl (lv_at hl 3 rfl) ?_
  refine lv_iconst (v := 0) hx hb dn_M_findRule_19 (by decide) ?_
  obtain ⟨hg_3, hf⟩ := dc_g hf
  refine va_iast hx hb hK hP hD hS 46 0 rfl rfl hg_3 dn_M_findRule_20 (fun H locs hP hD hS => ?_)
  have hP : va_P (dC, dI) xcl ((wM h0 a cI cB cJ cZ s).set 46 ((a 66), .inl (cI, 1100, .inl (upd (s.1 66) (Int32.toNatClampNeg v1) 0)))) H := hP
  have hD : va_D A ((wM h0 a cI cB cJ cZ s).set 46 ((a 66), .inl (cI, 1100, .inl (upd (s.1 66) (Int32.toNatClampNeg v1) 0)))) := hD
  have hP := wM_P_66 hP
  have hD := wM_D_66 hD
  refine lv_aload_n hx hb dn_M_findRule_21 rfl (lv_at hl 2 rfl) ?_
  refine va_get (D := (dC, dI)) (ci := 0) (v := .ref ((a 21))) (C := rn_M) (T := fn_M) (N := 91) hx hb hg in_M hown hK hP 0 rfl rfl 21 (by decide) (hg _ wn_8_94) (fun _ h9 => h9) rfl dn_M_findRule_22 ?_
  refine lv_iload_n hx hb dn_M_findRule_25 rfl (lv_at hl 1 rfl) ?_
  obtain ⟨hg_4, hf⟩ := dc_g hf
  refine va_iald hx hb hK hP 12 0 rfl rfl hg_4 dn_M_findRule_26 ?_
  refine xk_ti (y := ((s.1 21) (Int32.toNatClampNeg (((s.1 64) (Int32.toNatClampNeg v1)))))) rfl ?_
  refine lv_if_ne (tgt := 108) hx hb dn_M_findRule_27 (by decide) (fun h => ?_) (fun h => ?_)
  · have hf := (if_neg h).symm.trans hf
    exact bl_108 v1 (((s.1 64) (Int32.toNatClampNeg v1))) (((s.1 65) (Int32.toNatClampNeg v1))) (upI s 66 (upd (s.1 66) (Int32.toNatClampNeg v1) 0)) hf H locs ls hP hD hS (lv_sub hl [2, 3, 1, 0] rfl)
  · have hf := (if_pos h).symm.trans hf
    refine lv_iload_n hx hb dn_M_findRule_30 rfl (lv_at hl 0 rfl) ?_
    refine lv_if_le (tgt := 108) hx hb dn_M_findRule_31 (by decide) (fun h => ?_) (fun h => ?_)
    · have hf := (if_pos h).symm.trans hf
      exact bl_108 v1 (((s.1 64) (Int32.toNatClampNeg v1))) (((s.1 65) (Int32.toNatClampNeg v1))) (upI s 66 (upd (s.1 66) (Int32.toNatClampNeg v1) 0)) hf H locs ls hP hD hS (lv_sub hl [2, 3, 1, 0] rfl)
    · have hf := (if_neg h).symm.trans hf
      refine lv_aload_n hx hb dn_M_findRule_34 rfl (lv_at hl 2 rfl) ?_
      refine lv_aload_n hx hb dn_M_findRule_35 rfl (lv_at hl 2 rfl) ?_
      refine va_get (D := (dC, dI)) (ci := 0) (v := .ref ((a 60))) (C := rn_M) (T := fn_M) (N := 91) hx hb hg in_M hown hK hP 0 rfl rfl 60 (by decide) (hg _ wn_8_133) (fun _ h9 => h9) rfl dn_M_findRule_36 ?_
      refine lv_iload_n hx hb dn_M_findRule_39 rfl (lv_at hl 0 rfl) ?_
      obtain ⟨hg_5, hf⟩ := dc_g hf
      refine va_iald hx hb hK hP 41 0 rfl rfl hg_5 dn_M_findRule_40 ?_
      refine xk_ti (y := ((s.1 60) (Int32.toNatClampNeg (((s.1 65) (Int32.toNatClampNeg v1)))))) rfl ?_
      refine lv_aload_n hx hb dn_M_findRule_41 rfl (lv_at hl 2 rfl) ?_
      refine va_get (D := (dC, dI)) (ci := 0) (v := .ref ((a 30))) (C := rn_M) (T := fn_M) (N := 91) hx hb hg in_M hown hK hP 0 rfl rfl 30 (by decide) (hg _ wn_8_103) (fun _ h9 => h9) rfl dn_M_findRule_42 ?_
      refine lv_aload_n hx hb dn_M_findRule_45 rfl (lv_at hl 2 rfl) ?_
      refine va_get (D := (dC, dI)) (ci := 0) (v := .ref ((a 60))) (C := rn_M) (T := fn_M) (N := 91) hx hb hg in_M hown hK hP 0 rfl rfl 60 (by decide) (hg _ wn_8_133) (fun _ h9 => h9) rfl dn_M_findRule_46 ?_
      refine lv_iload_n hx hb dn_M_findRule_49 rfl (lv_at hl 0 rfl) ?_
      obtain ⟨hg_6, hf⟩ := dc_g hf
      refine va_iald hx hb hK hP 41 0 rfl rfl hg_6 dn_M_findRule_50 ?_
      refine xk_ti (y := ((s.1 60) (Int32.toNatClampNeg (((s.1 65) (Int32.toNatClampNeg v1)))))) rfl ?_
      refine lv_iconst (v := 1) hx hb dn_M_findRule_51 (by decide) ?_
      refine lv_iadd hx hb dn_M_findRule_52 ?_
      obtain ⟨hg_7, hf⟩ := dc_g hf
      refine va_iald hx hb hK hP 20 0 rfl rfl hg_7 dn_M_findRule_53 ?_
      refine xk_ti (y := ((s.1 30) (Int32.toNatClampNeg ((((s.1 60) (Int32.toNatClampNeg (((s.1 65) (Int32.toNatClampNeg v1))))) + 1))))) rfl ?_
      refine lv_iload_n hx hb dn_M_findRule_54 rfl (lv_at hl 1 rfl) ?_
      obtain ⟨q_8, hc_9, hf⟩ := dc_b hf
      refine dc_calli (dc_runV (ar := 3) (As := [.int (((s.1 60) (Int32.toNatClampNeg (((s.1 65) (Int32.toNatClampNeg v1)))))), .int (((s.1 30) (Int32.toNatClampNeg ((((s.1 60) (Int32.toNatClampNeg (((s.1 65) (Int32.toNatClampNeg v1))))) + 1))))), .int (((s.1 64) (Int32.toNatClampNeg v1)))]) (rest := []) (ci := 0) (q0 := 0) ⟨hx, hb, hml, hown, hg⟩ hK hN hT hS hA (ct_M_linkOf l dC dI cI cB cJ cZ cQ N H.size h0 a (((s.1 60) (Int32.toNatClampNeg (((s.1 65) (Int32.toNatClampNeg v1)))))) (((s.1 30) (Int32.toNatClampNeg ((((s.1 60) (Int32.toNatClampNeg (((s.1 65) (Int32.toNatClampNeg v1))))) + 1))))) (((s.1 64) (Int32.toNatClampNeg v1))) (upI s 66 (upd (s.1 66) (Int32.toNatClampNeg v1) 0)) q_8 hc_9) hP hD rfl rfl wn_10_149 wn_10_151 sn_M_linkOf wn_1_13 wn_10_152 rfl rfl (by decide +kernel) ⟨Nat.le_of_ble_eq_true rfl, Nat.le_of_ble_eq_true rfl⟩ rfl hl.1 rfl (Nat.le_of_ble_eq_true rfl) dn_M_findRule_55 ⟨Nat.le_of_ble_eq_true rfl, Nat.le_of_ble_eq_true rfl⟩) hP hD hS hA (fun r_10 _ H locs hw hP hD hS => ?_)
      have hw : r_10 = q_8.1 := hw
      subst hw
      refine lv_istore (lv' := [(4, .int q_8.1), (3, .int (((s.1 65) (Int32.toNatClampNeg v1)))), (2, .int (((s.1 64) (Int32.toNatClampNeg v1)))), (0, .ref h0), (1, .int v1)]) hx hb dn_M_findRule_58 hl (by decide) rfl (fun ls hl => ?_)
      refine lv_aload_n hx hb dn_M_findRule_60 rfl (lv_at hl 3 rfl) ?_
      refine va_get (D := (dC, dI)) (ci := 0) (v := .ref ((a 66))) (C := rn_M) (T := fn_M) (N := 91) hx hb hg in_M hown hK hP 0 rfl rfl 66 (by decide) (hg _ wn_8_139) (fun _ h9 => h9) rfl dn_M_findRule_61 ?_
      refine lv_iload_n hx hb dn_M_findRule_64 rfl (lv_at hl 4 rfl) ?_
      refine lv_iconst (v := 1) hx hb dn_M_findRule_65 (by decide) ?_
      obtain ⟨hg_11, hf⟩ := dc_g hf
      refine va_iast hx hb hK hP hD hS 46 0 rfl rfl hg_11 dn_M_findRule_66 (fun H locs hP hD hS => ?_)
      have hP : va_P (dC, dI) xcl ((wM h0 a cI cB cJ cZ q_8.2).set 46 ((a 66), .inl (cI, 1100, .inl (upd (q_8.2.1 66) (Int32.toNatClampNeg v1) 1)))) H := hP
      have hD : va_D A ((wM h0 a cI cB cJ cZ q_8.2).set 46 ((a 66), .inl (cI, 1100, .inl (upd (q_8.2.1 66) (Int32.toNatClampNeg v1) 1)))) := hD
      have hP := wM_P_66 hP
      have hD := wM_D_66 hD
      refine lv_aload_n hx hb dn_M_findRule_67 rfl (lv_at hl 3 rfl) ?_
      refine va_get (D := (dC, dI)) (ci := 0) (v := .ref ((a 67))) (C := rn_M) (T := fn_M) (N := 91) hx hb hg in_M hown hK hP 0 rfl rfl 67 (by decide) (hg _ wn_8_140) (fun _ h9 => h9) rfl dn_M_findRule_68 ?_
      refine lv_iload_n hx hb dn_M_findRule_71 rfl (lv_at hl 4 rfl) ?_
      refine lv_aload_n hx hb dn_M_findRule_72 rfl (lv_at hl 3 rfl) ?_
      refine va_get (D := (dC, dI)) (ci := 0) (v := .ref ((a 33))) (C := rn_M) (T := fn_M) (N := 91) hx hb hg in_M hown hK hP 0 rfl rfl 33 (by decide) (hg _ wn_8_106) (fun _ h9 => h9) rfl dn_M_findRule_73 ?_
      refine lv_iload hx hb dn_M_findRule_76 (lv_at hl 0 rfl) ?_
      obtain ⟨hg_12, hf⟩ := dc_g hf
      refine va_iald hx hb hK hP 22 0 rfl rfl hg_12 dn_M_findRule_78 ?_
      refine xk_ti (y := ((q_8.2.1 33) (Int32.toNatClampNeg q_8.1))) rfl ?_
      obtain ⟨hg_13, hf⟩ := dc_g hf
      refine va_iast hx hb hK hP hD hS 47 0 rfl rfl hg_13 dn_M_findRule_79 (fun H locs hP hD hS => ?_)
      have hP : va_P (dC, dI) xcl ((wM h0 a cI cB cJ cZ (upI q_8.2 66 (upd (q_8.2.1 66) (Int32.toNatClampNeg v1) 1))).set 47 ((a 67), .inl (cI, 1100, .inl (upd (q_8.2.1 67) (Int32.toNatClampNeg v1) (((q_8.2.1 33) (Int32.toNatClampNeg q_8.1))))))) H := hP
      have hD : va_D A ((wM h0 a cI cB cJ cZ (upI q_8.2 66 (upd (q_8.2.1 66) (Int32.toNatClampNeg v1) 1))).set 47 ((a 67), .inl (cI, 1100, .inl (upd (q_8.2.1 67) (Int32.toNatClampNeg v1) (((q_8.2.1 33) (Int32.toNatClampNeg q_8.1))))))) := hD
      have hP := wM_P_67 hP
      have hD := wM_D_67 hD
      refine lv_aload_n hx hb dn_M_findRule_80 rfl (lv_at hl 3 rfl) ?_
      refine va_get (D := (dC, dI)) (ci := 0) (v := .ref ((a 68))) (C := rn_M) (T := fn_M) (N := 91) hx hb hg in_M hown hK hP 0 rfl rfl 68 (by decide) (hg _ wn_8_141) (fun _ h9 => h9) rfl dn_M_findRule_81 ?_
      refine lv_iload_n hx hb dn_M_findRule_84 rfl (lv_at hl 4 rfl) ?_
      refine lv_aload_n hx hb dn_M_findRule_85 rfl (lv_at hl 3 rfl) ?_
      refine va_get (D := (dC, dI)) (ci := 0) (v := .ref ((a 34))) (C := rn_M) (T := fn_M) (N := 91) hx hb hg in_M hown hK hP 0 rfl rfl 34 (by decide) (hg _ wn_8_107) (fun _ h9 => h9) rfl dn_M_findRule_86 ?_
      refine lv_iload hx hb dn_M_findRule_89 (lv_at hl 0 rfl) ?_
      obtain ⟨hg_14, hf⟩ := dc_g hf
      refine va_iald hx hb hK hP 23 0 rfl rfl hg_14 dn_M_findRule_91 ?_
      refine xk_ti (y := ((q_8.2.1 34) (Int32.toNatClampNeg q_8.1))) rfl ?_
      obtain ⟨hg_15, hf⟩ := dc_g hf
      refine va_iast hx hb hK hP hD hS 48 0 rfl rfl hg_15 dn_M_findRule_92 (fun H locs hP hD hS => ?_)
      have hP : va_P (dC, dI) xcl ((wM h0 a cI cB cJ cZ (upI (upI q_8.2 66 (upd (q_8.2.1 66) (Int32.toNatClampNeg v1) 1)) 67 (upd (q_8.2.1 67) (Int32.toNatClampNeg v1) (((q_8.2.1 33) (Int32.toNatClampNeg q_8.1)))))).set 48 ((a 68), .inl (cI, 1100, .inl (upd (q_8.2.1 68) (Int32.toNatClampNeg v1) (((q_8.2.1 34) (Int32.toNatClampNeg q_8.1))))))) H := hP
      have hD : va_D A ((wM h0 a cI cB cJ cZ (upI (upI q_8.2 66 (upd (q_8.2.1 66) (Int32.toNatClampNeg v1) 1)) 67 (upd (q_8.2.1 67) (Int32.toNatClampNeg v1) (((q_8.2.1 33) (Int32.toNatClampNeg q_8.1)))))).set 48 ((a 68), .inl (cI, 1100, .inl (upd (q_8.2.1 68) (Int32.toNatClampNeg v1) (((q_8.2.1 34) (Int32.toNatClampNeg q_8.1))))))) := hD
      have hP := wM_P_68 hP
      have hD := wM_D_68 hD
      refine lv_aload_n hx hb dn_M_findRule_93 rfl (lv_at hl 3 rfl) ?_
      refine va_get (D := (dC, dI)) (ci := 0) (v := .ref ((a 69))) (C := rn_M) (T := fn_M) (N := 91) hx hb hg in_M hown hK hP 0 rfl rfl 69 (by decide) (hg _ wn_8_142) (fun _ h9 => h9) rfl dn_M_findRule_94 ?_
      refine lv_iload_n hx hb dn_M_findRule_97 rfl (lv_at hl 4 rfl) ?_
      refine lv_aload_n hx hb dn_M_findRule_98 rfl (lv_at hl 3 rfl) ?_
      refine va_get (D := (dC, dI)) (ci := 0) (v := .ref ((a 59))) (C := rn_M) (T := fn_M) (N := 91) hx hb hg in_M hown hK hP 0 rfl rfl 59 (by decide) (hg _ wn_8_132) (fun _ h9 => h9) rfl dn_M_findRule_99 ?_
      refine lv_iload_n hx hb dn_M_findRule_102 rfl (lv_at hl 1 rfl) ?_
      obtain ⟨hg_16, hf⟩ := dc_g hf
      refine va_iald hx hb hK hP 40 0 rfl rfl hg_16 dn_M_findRule_103 ?_
      refine xk_ti (y := ((q_8.2.1 59) (Int32.toNatClampNeg (((s.1 65) (Int32.toNatClampNeg v1)))))) rfl ?_
      obtain ⟨hg_17, hf⟩ := dc_g hf
      refine va_iast hx hb hK hP hD hS 49 0 rfl rfl hg_17 dn_M_findRule_104 (fun H locs hP hD hS => ?_)
      have hP : va_P (dC, dI) xcl ((wM h0 a cI cB cJ cZ (upI (upI (upI q_8.2 66 (upd (q_8.2.1 66) (Int32.toNatClampNeg v1) 1)) 67 (upd (q_8.2.1 67) (Int32.toNatClampNeg v1) (((q_8.2.1 33) (Int32.toNatClampNeg q_8.1))))) 68 (upd (q_8.2.1 68) (Int32.toNatClampNeg v1) (((q_8.2.1 34) (Int32.toNatClampNeg q_8.1)))))).set 49 ((a 69), .inl (cI, 1100, .inl (upd (q_8.2.1 69) (Int32.toNatClampNeg v1) (((q_8.2.1 59) (Int32.toNatClampNeg (((s.1 65) (Int32.toNatClampNeg v1)))))))))) H := hP
      have hD : va_D A ((wM h0 a cI cB cJ cZ (upI (upI (upI q_8.2 66 (upd (q_8.2.1 66) (Int32.toNatClampNeg v1) 1)) 67 (upd (q_8.2.1 67) (Int32.toNatClampNeg v1) (((q_8.2.1 33) (Int32.toNatClampNeg q_8.1))))) 68 (upd (q_8.2.1 68) (Int32.toNatClampNeg v1) (((q_8.2.1 34) (Int32.toNatClampNeg q_8.1)))))).set 49 ((a 69), .inl (cI, 1100, .inl (upd (q_8.2.1 69) (Int32.toNatClampNeg v1) (((q_8.2.1 59) (Int32.toNatClampNeg (((s.1 65) (Int32.toNatClampNeg v1)))))))))) := hD
      have hP := wM_P_69 hP
      have hD := wM_D_69 hD
      refine lv_goto (tgt := 236) hx hb dn_M_findRule_105 (by decide) ?_
      rw [hQQ, ← Option.some.inj hf]
      exact xk_vret (w1 := fun u : Unit => (wM h0 a cI cB cJ cZ (upI (upI (upI (upI q_8.2 66 (upd (q_8.2.1 66) (Int32.toNatClampNeg v1) 1)) 67 (upd (q_8.2.1 67) (Int32.toNatClampNeg v1) (((q_8.2.1 33) (Int32.toNatClampNeg q_8.1))))) 68 (upd (q_8.2.1 68) (Int32.toNatClampNeg v1) (((q_8.2.1 34) (Int32.toNatClampNeg q_8.1))))) 69 (upd (q_8.2.1 69) (Int32.toNatClampNeg v1) (((q_8.2.1 59) (Int32.toNatClampNeg (((s.1 65) (Int32.toNatClampNeg v1)))))))))) () hx hb hr hlocks hK hS dn_M_findRule_236 hP hD trivial (Nat.le_refl _) (Nat.le_refl _)
