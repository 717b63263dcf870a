theorem mo_M_readSource_40 (N : Nat) (y : (Unit × ms)) (s : ms) (hf : bk_M_readSource_40 N s = some y) : gl s ≤ gl y.2 := by
  unfold bk_M_readSource_40 at hf
  have hm : gl s ≤ gl s := Nat.le_refl _
  by_cases h : (s.1 9 0) = 0
  · have hf := (if_pos h).symm.trans hf
    obtain ⟨q_1, hc_2, hf⟩ := dc_b hf
    have hm := Nat.le_trans hm (Nat.le_of_eq (mn_M_writeOut N s q_1 hc_2).symm)
    obtain ⟨q_3, hc_4, hf⟩ := dc_b hf
    have hm := Nat.le_trans hm (Nat.le_of_eq (mn_M_putInOrder N q_1.2 q_3 hc_4).symm)
    exact Nat.le_trans hm (Nat.le_of_eq (dc_e hf).symm)
  · have hf := (if_neg h).symm.trans hf
    exact Nat.le_trans hm (Nat.le_of_eq (dc_e hf).symm)
theorem mo_M_readSource_29 (N : Nat) (y : (Unit × ms)) (s : ms) (hf : bk_M_readSource_29 N s = some y) : gl s ≤ gl y.2 := by
  unfold bk_M_readSource_29 at hf
  have hm : gl s ≤ gl s := Nat.le_refl _
  by_cases h : (s.1 9 0) = 0
  · have hf := (if_pos h).symm.trans hf
    obtain ⟨q_1, hc_2, hf⟩ := dc_b hf
    have hm := Nat.le_trans hm (Nat.le_of_eq (mn_M_limits N s q_1 hc_2).symm)
    exact Nat.le_trans hm (mo_M_readSource_40 N y q_1.2 hf)
  · have hf := (if_neg h).symm.trans hf
    exact Nat.le_trans hm (mo_M_readSource_40 N y s hf)
theorem mn_M_readSource (N : Nat) (s1 : ms) (y : (Unit × ms)) (hf : fn_M_readSource N s1 = some y) : gl s1 ≤ gl y.2 := by
  unfold fn_M_readSource at hf
  have hm : gl s1 ≤ gl s1 := Nat.le_refl _
  obtain ⟨q_1, hc_2, hf⟩ := dc_b hf
  have hm := Nat.le_trans hm (Nat.le_of_eq (mn_M_cutTokens N (upI (upI s1 9 (fun _ => 0)) 10 (fun _ => (-1))) q_1 hc_2).symm)
  obtain ⟨q_3, hc_4, hf⟩ := dc_b hf
  have hm := Nat.le_trans hm (Nat.le_of_eq (mn_M_designGrammar N q_1.2 q_3 hc_4).symm)
  by_cases h : (q_3.2.1 9 0) = 0
  · have hf := (if_pos h).symm.trans hf
    obtain ⟨q_5, hc_6, hf⟩ := dc_b hf
    have hm := Nat.le_trans hm (mn_M_design N q_3.2 q_5 hc_6)
    exact Nat.le_trans hm (mo_M_readSource_29 N y q_5.2 hf)
  · have hf := (if_neg h).symm.trans hf
    exact Nat.le_trans hm (mo_M_readSource_29 N y q_3.2 hf)
set_option maxHeartbeats 8000000 in
set_option maxRecDepth 100000 in
theorem ct_M_readSource (l : Launch) (dC : Nat → ClassId) (dI : Nat → Nat → Nat) (cI cB cJ cZ cQ : ClassId) (N sz : Nat) (h0 : Nat) (a : Nat → Nat) (s1 : ms) (y : (Unit × ms)) (hf : fn_M_readSource N s1 = some y) : Met l yn_M_readSource (xw yn_M_readSource bn_M_readSource 1 none) ({ frames := 811, cells := 2 * (gl y.2 - gl s1), slots := 2 * (gl y.2 - gl s1), locals := 19859 }) (dc_P (dC, dI) xcl (xt cI cB cJ cZ cQ) [.ref h0] sz (wM h0 a cI cB cJ cZ s1)) (xk_Qv (dC, dI) xcl (xt cI cB cJ cZ cQ) (fun _ : Nat → Nat => True) (fun u : Nat → Nat => (wM h0 u cI cB cJ cZ y.2)) (va_A (wM h0 a cI cB cJ cZ s1) sz)) (2 * (gl y.2 - gl s1)) (2 * (gl y.2 - gl s1)) (va_A (wM h0 a cI cB cJ cZ s1) sz) := by
  refine dc_of (QA := xk_Qv (dC, dI) xcl (xt cI cB cJ cZ cQ) (fun _ : Nat → Nat => True) (fun u : Nat → Nat => (wM h0 u cI cB cJ cZ y.2))) (by decide) (Nat.le_of_ble_eq_true rfl) ?_
  intro p e s0 m below meth c hx hb hml hown hg hr hlocks hin hP hK hN A hA hD hT ls hl
  have hown : s0.vm.findClass rn_M = some m.cls := hown
  obtain ⟨H, hH⟩ : ∃ z, z = s0.heap := ⟨_, rfl⟩
  rw [← hH] at hP
  have hS : va_S A s0.heap H [] := by rw [hH]; exact va_S.rf
  suffices kk : ∀ QQ : State → Prop, QQ = MQ below (xk_Qv (dC, dI) xcl (xt cI cB cJ cZ cQ) (fun _ : Nat → Nat => True) (fun u : Nat → Nat => (wM h0 u cI cB cJ cZ y.2)) A) [.ref h0].toArray s0 (2 * (gl y.2 - gl s1)) (2 * (gl y.2 - gl s1)) A → gl s1 ≤ gl s1 → dcG p l e ({ frames := 811, cells := 2 * (gl y.2 - gl s1), slots := 2 * (gl y.2 - gl s1), locals := 19859 }) s0 m [.ref h0].toArray below meth c QQ (dC, dI) A (fun a => (wM h0 a cI cB cJ cZ s1)) (2 * (gl s1 - gl s1)) 0 1 [(0, .ref h0)] [] by
    have k9 := kk _ rfl (Nat.le_refl _) a H [] ls hP hD hS hl
    rw [hH, Nat.sub_self] at k9; exact k9
  clear hP hD hS hl hH H ls
  intro QQ hQQ
  have bl_40 : ∀ (s : ms), bk_M_readSource_40 N s = some y → gl s1 ≤ gl s → dcG p l e ({ frames := 811, cells := 2 * (gl y.2 - gl s1), slots := 2 * (gl y.2 - gl s1), locals := 19859 }) s0 m [.ref h0].toArray below meth c QQ (dC, dI) A (fun a => (wM h0 a cI cB cJ cZ s)) (2 * (gl s - gl s1)) 40 1 [(0, .ref h0)] [] := by
    intro s hf hge a H locs ls hP hD hS hl
    have hle := mo_M_readSource_40 N y s hf
    unfold bk_M_readSource_40 at hf
    refine lv_aload_n hx hb dn_M_readSource_40 rfl (lv_at hl 0 rfl) ?_
    refine va_get (D := (dC, dI)) (ci := 0) (v := .int ((s.1 9 0))) (C := rn_M) (T := fn_M) (N := 91) hx hb hg in_M hown hK hP 0 rfl rfl 9 (by decide) (hg _ wn_8_82) (fun _ h9 => h9) rfl dn_M_readSource_41 ?_
    refine lv_if_ne (tgt := 55) hx hb dn_M_readSource_44 (by decide) (fun h => ?_) (fun h => ?_)
    · have hf := (if_neg h).symm.trans hf
      rw [hQQ, ← Option.some.inj hf]
      exact xk_vret (w1 := fun u : Nat → Nat => (wM h0 u cI cB cJ cZ s)) a hx hb hr hlocks hK hS dn_M_readSource_55 hP hD trivial (Nat.le_refl _) (Nat.le_refl _)
    · have hf := (if_pos h).symm.trans hf
      refine lv_aload_n hx hb dn_M_readSource_47 rfl (lv_at hl 0 rfl) ?_
      obtain ⟨q_1, hc_2, hf⟩ := dc_b hf
      have hme := mn_M_writeOut N s q_1 hc_2
      refine dc_callv (dc_runV (ar := 0) (As := []) (rest := []) (ci := 0) (q0 := 0) ⟨hx, hb, hml, hown, hg⟩ hK hN hT hS hA (ct_M_writeOut l dC dI cI cB cJ cZ cQ N H.size h0 a s q_1 hc_2) hP hD rfl rfl wn_10_173 wn_10_175 sn_M_writeOut wn_1_13 wn_10_176 rfl rfl (by decide +kernel) ⟨Nat.le_of_ble_eq_true rfl, Nat.le_of_ble_eq_true rfl⟩ rfl hl.1 rfl (Nat.le_of_ble_eq_true rfl) dn_M_readSource_48 (dc_rm0 hle)) hP hD hS hA (fun _ H locs hw hP hD hS => ?_)
      refine W.widen (k := 2 * (gl q_1.2 - gl s1)) (n := 2 * (gl q_1.2 - gl s1)) (dc_we hme) (dc_we hme) ?_
      have hge := Nat.le_trans hge (Nat.le_of_eq hme.symm)
      have hle := Nat.le_trans (Nat.le_of_eq hme) hle
      refine lv_aload_n hx hb dn_M_readSource_51 rfl (lv_at hl 0 rfl) ?_
      obtain ⟨q_3, hc_4, hf⟩ := dc_b hf
      have hme := mn_M_putInOrder N q_1.2 q_3 hc_4
      refine dc_callv (dc_runV (ar := 0) (As := []) (rest := []) (ci := 0) (q0 := 0) ⟨hx, hb, hml, hown, hg⟩ hK hN hT hS hA (ct_M_putInOrder l dC dI cI cB cJ cZ cQ N H.size h0 a q_1.2 q_3 hc_4) hP hD rfl rfl wn_10_189 wn_10_191 sn_M_putInOrder wn_1_13 wn_10_192 rfl rfl (by decide +kernel) ⟨Nat.le_of_ble_eq_true rfl, Nat.le_of_ble_eq_true rfl⟩ rfl hl.1 rfl (Nat.le_of_ble_eq_true rfl) dn_M_readSource_52 (dc_rm0 hle)) hP hD hS hA (fun _ H locs hw hP hD hS => ?_)
      refine W.widen (k := 2 * (gl q_3.2 - gl s1)) (n := 2 * (gl q_3.2 - gl s1)) (dc_we hme) (dc_we hme) ?_
      have hge := Nat.le_trans hge (Nat.le_of_eq hme.symm)
      have hle := Nat.le_trans (Nat.le_of_eq hme) hle
      rw [hQQ, ← Option.some.inj hf]
      exact xk_vret (w1 := fun u : Nat → Nat => (wM h0 u cI cB cJ cZ q_3.2)) a hx hb hr hlocks hK hS dn_M_readSource_55 hP hD trivial (Nat.le_refl _) (Nat.le_refl _)
  have bl_29 : ∀ (s : ms), bk_M_readSource_29 N s = some y → gl s1 ≤ gl s → dcG p l e ({ frames := 811, cells := 2 * (gl y.2 - gl s1), slots := 2 * (gl y.2 - gl s1), locals := 19859 }) s0 m [.ref h0].toArray below meth c QQ (dC, dI) A (fun a => (wM h0 a cI cB cJ cZ s)) (2 * (gl s - gl s1)) 29 1 [(0, .ref h0)] [] := by
    intro s hf hge a H locs ls hP hD hS hl
    have hle := mo_M_readSource_29 N y s hf
    unfold bk_M_readSource_29 at hf
    refine lv_aload_n hx hb dn_M_readSource_29 rfl (lv_at hl 0 rfl) ?_
    refine va_get (D := (dC, dI)) (ci := 0) (v := .int ((s.1 9 0))) (C := rn_M) (T := fn_M) (N := 91) hx hb hg in_M hown hK hP 0 rfl rfl 9 (by decide) (hg _ wn_8_82) (fun _ h9 => h9) rfl dn_M_readSource_30 ?_
    refine lv_if_ne (tgt := 40) hx hb dn_M_readSource_33 (by decide) (fun h => ?_) (fun h => ?_)
    · have hf := (if_neg h).symm.trans hf
      exact bl_40 s hf hge a H locs ls hP hD hS hl
    · have hf := (if_pos h).symm.trans hf
      refine lv_aload_n hx hb dn_M_readSource_36 rfl (lv_at hl 0 rfl) ?_
      obtain ⟨q_1, hc_2, hf⟩ := dc_b hf
      have hme := mn_M_limits N s q_1 hc_2
      refine dc_callv (dc_runV (ar := 0) (As := []) (rest := []) (ci := 0) (q0 := 0) ⟨hx, hb, hml, hown, hg⟩ hK hN hT hS hA (ct_M_limits l dC dI cI cB cJ cZ cQ N H.size h0 a s q_1 hc_2) hP hD rfl rfl wn_10_157 wn_10_159 sn_M_limits wn_1_13 wn_10_160 rfl rfl (by decide +kernel) ⟨Nat.le_of_ble_eq_true rfl, Nat.le_of_ble_eq_true rfl⟩ rfl hl.1 rfl (Nat.le_of_ble_eq_true rfl) dn_M_readSource_37 (dc_rm0 hle)) hP hD hS hA (fun _ H locs hw hP hD hS => ?_)
      refine W.widen (k := 2 * (gl q_1.2 - gl s1)) (n := 2 * (gl q_1.2 - gl s1)) (dc_we hme) (dc_we hme) ?_
      have hge := Nat.le_trans hge (Nat.le_of_eq hme.symm)
      have hle := Nat.le_trans (Nat.le_of_eq hme) hle
      exact bl_40 q_1.2 hf hge a H locs ls hP hD hS hl
  intro hge a H locs ls hP hD hS hl
  have hle := mn_M_readSource N s1 y hf
  unfold fn_M_readSource at hf
  refine lv_aload_n hx hb dn_M_readSource_0 rfl (lv_at hl 0 rfl) ?_
  refine lv_iconst (v := 0) hx hb dn_M_readSource_1 (by decide) ?_
  refine va_put (D := (dC, dI)) (ci := 0) (v := .int 0) (ty := .int) (C := rn_M) (T := fn_M) (N := 91) hx hb hg in_M tn_M tk_M nn_M hown hK hP hD hS 0 rfl rfl 9 (by decide) (hg _ wn_8_82) (fun _ h9 => h9) rfl (tk_M 9 (by decide)) rfl rfl (Nat.le_of_ble_eq_true rfl) dn_M_readSource_2 (fun H locs hP hD hS => ?_)
  have hP := wM_P_9 hP
  have hD := wM_D_9 hD
  refine lv_aload_n hx hb dn_M_readSource_5 rfl (lv_at hl 0 rfl) ?_
  refine lv_iconst (v := (-1)) hx hb dn_M_readSource_6 (by decide) ?_
  refine va_put (D := (dC, dI)) (ci := 0) (v := .int ((-1))) (ty := .int) (C := rn_M) (T := fn_M) (N := 91) hx hb hg in_M tn_M tk_M nn_M hown hK hP hD hS 0 rfl rfl 10 (by decide) (hg _ wn_8_83) (fun _ h9 => h9) rfl (tk_M 10 (by decide)) rfl rfl (Nat.le_of_ble_eq_true rfl) dn_M_readSource_7 (fun H locs hP hD hS => ?_)
  have hP := wM_P_10 hP
  have hD := wM_D_10 hD
  refine lv_aload_n hx hb dn_M_readSource_10 rfl (lv_at hl 0 rfl) ?_
  obtain ⟨q_1, hc_2, hf⟩ := dc_b hf
  have hme := mn_M_cutTokens N (upI (upI s1 9 (fun _ => 0)) 10 (fun _ => (-1))) q_1 hc_2
  refine dc_callv (dc_runV (ar := 0) (As := []) (rest := []) (ci := 0) (q0 := 0) ⟨hx, hb, hml, hown, hg⟩ hK hN hT hS hA (ct_M_cutTokens l dC dI cI cB cJ cZ cQ N H.size h0 a (upI (upI s1 9 (fun _ => 0)) 10 (fun _ => (-1))) q_1 hc_2) hP hD rfl rfl wn_9_120 wn_9_122 sn_M_cutTokens wn_1_13 wn_9_123 rfl rfl (by decide +kernel) ⟨Nat.le_of_ble_eq_true rfl, Nat.le_of_ble_eq_true rfl⟩ rfl hl.1 rfl (Nat.le_of_ble_eq_true rfl) dn_M_readSource_11 (dc_rm0 hle)) hP hD hS hA (fun _ H locs hw hP hD hS => ?_)
  refine W.widen (k := 2 * (gl q_1.2 - gl s1)) (n := 2 * (gl q_1.2 - gl s1)) (dc_we hme) (dc_we hme) ?_
  have hge := Nat.le_trans hge (Nat.le_of_eq hme.symm)
  have hle := Nat.le_trans (Nat.le_of_eq hme) hle
  refine lv_aload_n hx hb dn_M_readSource_14 rfl (lv_at hl 0 rfl) ?_
  obtain ⟨q_3, hc_4, hf⟩ := dc_b hf
  have hme := mn_M_designGrammar N q_1.2 q_3 hc_4
  refine dc_callv (dc_runV (ar := 0) (As := []) (rest := []) (ci := 0) (q0 := 0) ⟨hx, hb, hml, hown, hg⟩ hK hN hT hS hA (ct_M_designGrammar l dC dI cI cB cJ cZ cQ N H.size h0 a q_1.2 q_3 hc_4) hP hD rfl rfl wn_9_174 wn_9_176 sn_M_designGrammar wn_1_13 wn_9_177 rfl rfl (by decide +kernel) ⟨Nat.le_of_ble_eq_true rfl, Nat.le_of_ble_eq_true rfl⟩ rfl hl.1 rfl (Nat.le_of_ble_eq_true rfl) dn_M_readSource_15 (dc_rm0 hle)) hP hD hS hA (fun _ H locs hw hP hD hS => ?_)
  refine W.widen (k := 2 * (gl q_3.2 - gl s1)) (n := 2 * (gl q_3.2 - gl s1)) (dc_we hme) (dc_we hme) ?_
  have hge := Nat.le_trans hge (Nat.le_of_eq hme.symm)
  have hle := Nat.le_trans (Nat.le_of_eq hme) hle
  refine lv_aload_n hx hb dn_M_readSource_18 rfl (lv_at hl 0 rfl) ?_
  refine va_get (D := (dC, dI)) (ci := 0) (v := .int ((q_3.2.1 9 0))) (C := rn_M) (T := fn_M) (N := 91) hx hb hg in_M hown hK hP 0 rfl rfl 9 (by decide) (hg _ wn_8_82) (fun _ h9 => h9) rfl dn_M_readSource_19 ?_
  refine lv_if_ne (tgt := 29) hx hb dn_M_readSource_22 (by decide) (fun h => ?_) (fun h => ?_)
  · have hf := (if_neg h).symm.trans hf
    exact bl_29 q_3.2 hf hge a H locs ls hP hD hS hl
  · have hf := (if_pos h).symm.trans hf
    refine lv_aload_n hx hb dn_M_readSource_25 rfl (lv_at hl 0 rfl) ?_
    obtain ⟨q_5, hc_6, hf⟩ := dc_b hf
    have hmg := mn_M_design N q_3.2 q_5 hc_6
    have hle2 : gl q_5.2 ≤ gl y.2 := mo_M_readSource_29 N y _ hf
    refine dc_callv (dc_runV (ar := 0) (As := []) (rest := []) (ci := 0) (q0 := 0) ⟨hx, hb, hml, hown, hg⟩ hK hN hT hS hA (ct_M_design l dC dI cI cB cJ cZ cQ N H.size h0 a q_3.2 q_5 hc_6) hP hD rfl rfl wn_10_16 wn_10_18 sn_M_design wn_1_13 wn_10_19 rfl rfl (by decide +kernel) ⟨Nat.le_of_ble_eq_true rfl, Nat.le_of_ble_eq_true rfl⟩ rfl hl.1 rfl (Nat.le_of_ble_eq_true rfl) dn_M_readSource_26 (dc_rm hge hmg hle2)) hP hD hS hA (fun a H locs hw hP hD hS => ?_)
    refine W.widen (k := 2 * (gl q_5.2 - gl s1)) (n := 2 * (gl q_5.2 - gl s1)) (dc_wa hge hmg) (dc_wa hge hmg) ?_
    have hge := Nat.le_trans hge hmg
    have hle := hle2
    exact bl_29 q_5.2 hf hge a H locs ls hP hD hS hl
theorem mb_M_sumUp_116 (N : Nat) (y : (Unit × ms)) (k_116 : Int32 → ms → Option (Unit × ms)) (hkm_116 : ∀ (x2 : Int32) (s : ms), k_116 x2 s = some y → gl y.2 = gl s) (x2 : Int32) (s : ms) (hf : bd_M_sumUp_116 N k_116 x2 s = some y) : gl y.2 = gl s := by
  unfold bd_M_sumUp_116 at hf
  have hm : gl s = gl s := rfl
  by_cases h : (s.1 56 0) ≤ x2
  · have hf := (if_pos h).symm.trans hf
    exact (dc_e hf).trans hm
  · have hf := (if_neg h).symm.trans hf
    obtain ⟨_, hf⟩ := dc_g hf
    obtain ⟨_, hf⟩ := dc_g hf
    obtain ⟨_, hf⟩ := dc_g hf
    exact (hkm_116 ((x2 + 1)) (upI s 78 (fun _ => (((s.1 78 0) + ((s.1 16) (Int32.toNatClampNeg ((((s.1 57) (Int32.toNatClampNeg x2)) + 1))))) - ((s.1 16) (Int32.toNatClampNeg (((s.1 57) (Int32.toNatClampNeg x2)))))))) hf).trans hm
theorem mh_M_sumUp_116 (N : Nat) (y : (Unit × ms)) : ∀ (n : Nat) (x2 : Int32) (s : ms), hd_M_sumUp_116 N n x2 s = some y → gl y.2 = gl s := by
  intro n
  induction n with
  | zero => intro x2 s hf; cases hf
  | succ n ih => intro x2 s hf; exact mb_M_sumUp_116 N y (hd_M_sumUp_116 N n) ih x2 s hf
theorem mo_M_sumUp_100 (N : Nat) (k_43 : Int32 → Int32 → ms → Option (Unit × ms)) (y : (Unit × ms)) (hkm_43 : ∀ (x1 : Int32) (x2 : Int32) (s : ms), k_43 x1 x2 s = some y → gl y.2 = gl s) (x1 : Int32) (x2 : Int32) (t0 : Int32) (s : ms) (hf : bk_M_sumUp_100 N k_43 x1 x2 t0 s = some y) : gl y.2 = gl s := by
  unfold bk_M_sumUp_100 at hf
  have hm : gl s = gl s := rfl
  exact (hkm_43 x1 ((x2 + 1)) (upI s 77 (fun _ => t0)) hf).trans hm
theorem mb_M_sumUp_43 (N : Nat) (y : (Unit × ms)) (k_43 : Int32 → Int32 → ms → Option (Unit × ms)) (hkm_43 : ∀ (x1 : Int32) (x2 : Int32) (s : ms), k_43 x1 x2 s = some y → gl y.2 = gl s) (x1 : Int32) (x2 : Int32) (s : ms) (hf : bd_M_sumUp_43 N k_43 x1 x2 s = some y) : gl y.2 = gl s := by
  unfold bd_M_sumUp_43 at hf
  have hm : gl s = gl s := rfl
  obtain ⟨_, hf⟩ := dc_g hf
  obtain ⟨_, hf⟩ := dc_g hf
  by_cases h : (((s.1 14) (Int32.toNatClampNeg ((x1 + 1)))) - ((s.1 14) (Int32.toNatClampNeg x1))) ≤ x2
  · have hf := (if_pos h).symm.trans hf
    exact (mh_M_sumUp_116 N y N 0 (upI s 78 (fun _ => 0)) hf).trans hm
  · have hf := (if_neg h).symm.trans hf
    obtain ⟨_, hf⟩ := dc_g hf
    obtain ⟨_, hf⟩ := dc_g hf
    by_cases h : ((s.1 21) (Int32.toNatClampNeg (((s.1 64) (Int32.toNatClampNeg x2))))) = 0
    · have hf := (if_pos h).symm.trans hf
      obtain ⟨_, hf⟩ := dc_g hf
      obtain ⟨_, hf⟩ := dc_g hf
      exact (mo_M_sumUp_100 N k_43 y hkm_43 x1 x2 (((s.1 77 0) + ((s.1 20) (Int32.toNatClampNeg (((s.1 64) (Int32.toNatClampNeg x2))))))) s hf).trans hm
    · have hf := (if_neg h).symm.trans hf
      exact (mo_M_sumUp_100 N k_43 y hkm_43 x1 x2 ((s.1 77 0)) s hf).trans hm
theorem mh_M_sumUp_43 (N : Nat) (y : (Unit × ms)) : ∀ (n : Nat) (x1 : Int32) (x2 : Int32) (s : ms), hd_M_sumUp_43 N n x1 x2 s = some y → gl y.2 = gl s := by
  intro n
  induction n with
  | zero => intro x1 x2 s hf; cases hf
  | succ n ih => intro x1 x2 s hf; exact mb_M_sumUp_43 N y (hd_M_sumUp_43 N n) ih x1 x2 s hf
theorem mn_M_sumUp (N : Nat) (s : ms) (y : (Unit × ms)) (hf : fn_M_sumUp N s = some y) : gl y.2 = gl s := by
  unfold fn_M_sumUp at hf
  have hm : gl s = gl s := rfl
  obtain ⟨_, hf⟩ := dc_g hf
  obtain ⟨_, hf⟩ := dc_g hf
  exact (mh_M_sumUp_43 N y N (((s.1 12 0) - 1)) 0 (upI (upJ (upI (upI s 75 (fun _ => (s.1 12 0))) 76 (fun _ => (Int64.toInt32 (((s.2 48) (Int32.toNatClampNeg (((s.1 12 0) - 1)))))))) 79 (fun _ => ((s.2 45) (Int32.toNatClampNeg (((s.1 12 0) - 1)))))) 77 (fun _ => 0)) hf).trans hm
set_option maxHeartbeats 8000000 in
set_option maxRecDepth 100000 in
theorem ct_M_sumUp (l : Launch) (dC : Nat → ClassId) (dI : Nat → Nat → Nat) (cI cB cJ cZ cQ : ClassId) (N sz : Nat) (h0 : Nat) (a : Nat → Nat) (s : ms) (y : (Unit × ms)) (hf : fn_M_sumUp N s = some y) : Met l yn_M_sumUp (xw yn_M_sumUp bn_M_sumUp 4 none) ({ frames := 0, cells := 0, slots := 0, locals := 0 }) (dc_P (dC, dI) xcl (xt cI cB cJ cZ cQ) [.ref h0] sz (wM h0 a cI cB cJ cZ s)) (xk_Qv (dC, dI) xcl (xt cI cB cJ cZ cQ) (fun _ : Unit => True) (fun u : Unit => (wM h0 a cI cB cJ cZ y.2)) (va_A (wM h0 a cI cB cJ cZ s) sz)) 0 0 (va_A (wM h0 a cI cB cJ cZ s) sz) := by
  refine dc_of (QA := xk_Qv (dC, dI) xcl (xt cI cB cJ cZ cQ) (fun _ : Unit => True) (fun u : Unit => (wM h0 a cI cB cJ cZ y.2))) (by decide) (Nat.le_of_ble_eq_true rfl) ?_
  intro p e s0 m below meth c hx hb hml hown hg hr hlocks hin hP hK hN A hA hD hT ls hl
  have hown : s0.vm.findClass rn_M = some m.cls := hown
  obtain ⟨H, hH⟩ : ∃ z, z = s0.heap := ⟨_, rfl⟩
  rw [← hH] at hP
  have hS : va_S A s0.heap H [] := by rw [hH]; exact va_S.rf
  suffices kk : ∀ QQ : State → Prop, QQ = MQ below (xk_Qv (dC, dI) xcl (xt cI cB cJ cZ cQ) (fun _ : Unit => True) (fun u : Unit => (wM h0 a cI cB cJ cZ y.2)) A) [.ref h0].toArray s0 0 0 A → dcC p l e ({ frames := 0, cells := 0, slots := 0, locals := 0 }) s0 m [.ref h0].toArray below meth c QQ (dC, dI) A (wM h0 a cI cB cJ cZ s) 0 4 [(0, .ref h0)] [] by
    have k9 := kk _ rfl H [] ls hP hD hS hl
    rw [hH] at k9; exact k9
  clear hP hD hS hl hH H ls
  intro QQ hQQ
  have hd_116 : ∀ (n : Nat) (x2 : Int32) (s : ms), hd_M_sumUp_116 N n x2 s = some y → dcC p l e ({ frames := 0, cells := 0, slots := 0, locals := 0 }) s0 m [.ref h0].toArray below meth c QQ (dC, dI) A (wM h0 a cI cB cJ cZ s) 116 4 [(0, .ref h0), (2, .int x2)] [] := by
    intro n
    induction n with
    | zero => intro x2 s hf; cases hf
    | succ n ih =>
      intro x2 s hf H locs ls hP hD hS hl
      have hf : bd_M_sumUp_116 N (hd_M_sumUp_116 N n) x2 s = some y := hf
      have hk_116 := ih
      generalize hd_M_sumUp_116 N n = k_116 at hf hk_116
      unfold bd_M_sumUp_116 at hf
      refine lv_iload_n hx hb dn_M_sumUp_116 rfl (lv_at hl 1 rfl) ?_
      refine lv_aload_n hx hb dn_M_sumUp_117 rfl (lv_at hl 0 rfl) ?_
      refine va_get (D := (dC, dI)) (ci := 0) (v := .int ((s.1 56 0))) (C := rn_M) (T := fn_M) (N := 91) hx hb hg in_M hown hK hP 0 rfl rfl 56 (by decide) (hg _ wn_8_129) (fun _ h9 => h9) rfl dn_M_sumUp_118 ?_
      refine lv_icmp_ge (tgt := 161) hx hb dn_M_sumUp_121 (by decide) (fun h => ?_) (fun h => ?_)
      · have hf := (if_pos h).symm.trans hf
        rw [hQQ, ← Option.some.inj hf]
        exact xk_vret (w1 := fun u : Unit => (wM h0 a cI cB cJ cZ s)) () hx hb hr hlocks hK hS dn_M_sumUp_161 hP hD trivial (Nat.le_refl _) (Nat.le_refl _)
      · have hf := (if_neg h).symm.trans hf
        refine lv_aload_n hx hb dn_M_sumUp_124 rfl (lv_at hl 0 rfl) ?_
        refine va_get (D := (dC, dI)) (ci := 0) (v := .ref ((a 57))) (C := rn_M) (T := fn_M) (N := 91) hx hb hg in_M hown hK hP 0 rfl rfl 57 (by decide) (hg _ wn_8_130) (fun _ h9 => h9) rfl dn_M_sumUp_125 ?_
        refine lv_iload_n hx hb dn_M_sumUp_128 rfl (lv_at hl 1 rfl) ?_
        obtain ⟨hg_1, hf⟩ := dc_g hf
        refine va_iald hx hb hK hP 38 0 rfl rfl hg_1 dn_M_sumUp_129 ?_
        refine xk_ti (y := ((s.1 57) (Int32.toNatClampNeg x2))) rfl ?_
        refine lv_istore_n (lv' := [(3, .int (((s.1 57) (Int32.toNatClampNeg x2)))), (0, .ref h0), (2, .int x2)]) hx hb dn_M_sumUp_130 rfl hl (by decide) rfl (fun ls hl => ?_)
        refine lv_aload_n hx hb dn_M_sumUp_131 rfl (lv_at hl 1 rfl) ?_
        refine lv_aload_n hx hb dn_M_sumUp_132 rfl (lv_at hl 1 rfl) ?_
        refine va_get (D := (dC, dI)) (ci := 0) (v := .int ((s.1 78 0))) (C := rn_M) (T := fn_M) (N := 91) hx hb hg in_M hown hK hP 0 rfl rfl 78 (by decide) (hg _ wn_8_151) (fun _ h9 => h9) rfl dn_M_sumUp_133 ?_
        refine lv_aload_n hx hb dn_M_sumUp_136 rfl (lv_at hl 1 rfl) ?_
        refine va_get (D := (dC, dI)) (ci := 0) (v := .ref ((a 16))) (C := rn_M) (T := fn_M) (N := 91) hx hb hg in_M hown hK hP 0 rfl rfl 16 (by decide) (hg _ wn_8_89) (fun _ h9 => h9) rfl dn_M_sumUp_137 ?_
        refine lv_iload_n hx hb dn_M_sumUp_140 rfl (lv_at hl 0 rfl) ?_
        refine lv_iconst (v := 1) hx hb dn_M_sumUp_141 (by decide) ?_
        refine lv_iadd hx hb dn_M_sumUp_142 ?_
        obtain ⟨hg_2, hf⟩ := dc_g hf
        refine va_iald hx hb hK hP 8 0 rfl rfl hg_2 dn_M_sumUp_143 ?_
        refine xk_ti (y := ((s.1 16) (Int32.toNatClampNeg ((((s.1 57) (Int32.toNatClampNeg x2)) + 1))))) rfl ?_
        refine lv_iadd hx hb dn_M_sumUp_144 ?_
        refine lv_aload_n hx hb dn_M_sumUp_145 rfl (lv_at hl 1 rfl) ?_
        refine va_get (D := (dC, dI)) (ci := 0) (v := .ref ((a 16))) (C := rn_M) (T := fn_M) (N := 91) hx hb hg in_M hown hK hP 0 rfl rfl 16 (by decide) (hg _ wn_8_89) (fun _ h9 => h9) rfl dn_M_sumUp_146 ?_
        refine lv_iload_n hx hb dn_M_sumUp_149 rfl (lv_at hl 0 rfl) ?_
        obtain ⟨hg_3, hf⟩ := dc_g hf
        refine va_iald hx hb hK hP 8 0 rfl rfl hg_3 dn_M_sumUp_150 ?_
        refine xk_ti (y := ((s.1 16) (Int32.toNatClampNeg (((s.1 57) (Int32.toNatClampNeg x2)))))) rfl ?_
        refine lv_isub hx hb dn_M_sumUp_151 ?_
        refine va_put (D := (dC, dI)) (ci := 0) (v := .int ((((s.1 78 0) + ((s.1 16) (Int32.toNatClampNeg ((((s.1 57) (Int32.toNatClampNeg x2)) + 1))))) - ((s.1 16) (Int32.toNatClampNeg (((s.1 57) (Int32.toNatClampNeg x2)))))))) (ty := .int) (C := rn_M) (T := fn_M) (N := 91) hx hb hg in_M tn_M tk_M nn_M hown hK hP hD hS 0 rfl rfl 78 (by decide) (hg _ wn_8_151) (fun _ h9 => h9) rfl (tk_M 78 (by decide)) rfl rfl (Nat.le_of_ble_eq_true rfl) dn_M_sumUp_152 (fun H locs hP hD hS => ?_)
        have hP := wM_P_78 hP
        have hD := wM_D_78 hD
        refine lv_iinc (v := (x2 + 1)) (lv' := [(2, .int ((x2 + 1))), (3, .int (((s.1 57) (Int32.toNatClampNeg x2)))), (0, .ref h0)]) hx hb dn_M_sumUp_155 hl (k := 2) rfl (dc_inc (by decide)) (by decide) rfl (fun ls hl => ?_)
        refine lv_goto (tgt := 116) hx hb dn_M_sumUp_158 (by decide) ?_
        exact hk_116 ((x2 + 1)) (upI s 78 (fun _ => (((s.1 78 0) + ((s.1 16) (Int32.toNatClampNeg ((((s.1 57) (Int32.toNatClampNeg x2)) + 1))))) - ((s.1 16) (Int32.toNatClampNeg (((s.1 57) (Int32.toNatClampNeg x2)))))))) hf H locs ls hP hD hS (lv_sub hl [2, 0] rfl)
  have bl_100 : ∀ (k_43 : Int32 → Int32 → ms → Option (Unit × ms)) (hk_43 : ∀ (x1 : Int32) (x2 : Int32) (s : ms), k_43 x1 x2 s = some y → dcC p l e ({ frames := 0, cells := 0, slots := 0, locals := 0 }) s0 m [.ref h0].toArray below meth c QQ (dC, dI) A (wM h0 a cI cB cJ cZ s) 43 4 [(0, .ref h0), (1, .int x1), (2, .int x2)] []) (x1 : Int32) (x2 : Int32) (t0 : Int32) (s : ms), bk_M_sumUp_100 N k_43 x1 x2 t0 s = some y → dcC p l e ({ frames := 0, cells := 0, slots := 0, locals := 0 }) s0 m [.ref h0].toArray below meth c QQ (dC, dI) A (wM h0 a cI cB cJ cZ s) 100 4 [(0, .ref h0), (1, .int x1), (2, .int x2)] [.int t0, .ref h0] := by
    intro k_43 hk_43 x1 x2 t0 s hf H locs ls hP hD hS hl
    unfold bk_M_sumUp_100 at hf
    refine va_put (D := (dC, dI)) (ci := 0) (v := .int t0) (ty := .int) (C := rn_M) (T := fn_M) (N := 91) hx hb hg in_M tn_M tk_M nn_M hown hK hP hD hS 0 rfl rfl 77 (by decide) (hg _ wn_8_150) (fun _ h9 => h9) rfl (tk_M 77 (by decide)) rfl rfl (Nat.le_of_ble_eq_true rfl) dn_M_sumUp_100 (fun H locs hP hD hS => ?_)
    have hP := wM_P_77 hP
    have hD := wM_D_77 hD
    refine lv_iinc (v := (x2 + 1)) (lv' := [(2, .int ((x2 + 1))), (0, .ref h0), (1, .int x1)]) hx hb dn_M_sumUp_103 hl (k := 2) rfl (dc_inc (by decide)) (by decide) rfl (fun ls hl => ?_)
    refine lv_goto (tgt := 43) hx hb dn_M_sumUp_106 (by decide) ?_
    exact hk_43 x1 ((x2 + 1)) (upI s 77 (fun _ => t0)) hf H locs ls hP hD hS (lv_sub hl [1, 2, 0] rfl)
  have hd_43 : ∀ (n : Nat) (x1 : Int32) (x2 : Int32) (s : ms), hd_M_sumUp_43 N n x1 x2 s = some y → dcC p l e ({ frames := 0, cells := 0, slots := 0, locals := 0 }) s0 m [.ref h0].toArray below meth c QQ (dC, dI) A (wM h0 a cI cB cJ cZ s) 43 4 [(0, .ref h0), (1, .int x1), (2, .int x2)] [] := by
    intro n
    induction n with
    | zero => intro x1 x2 s hf; cases hf
    | succ n ih =>
      intro x1 x2 s hf H locs ls hP hD hS hl
      have hf : bd_M_sumUp_43 N (hd_M_sumUp_43 N n) x1 x2 s = some y := hf
      have hk_43 := ih
      generalize hd_M_sumUp_43 N n = k_43 at hf hk_43
      unfold bd_M_sumUp_43 at hf
      refine lv_iload_n hx hb dn_M_sumUp_43 rfl (lv_at hl 2 rfl) ?_
      refine lv_aload_n hx hb dn_M_sumUp_44 rfl (lv_at hl 0 rfl) ?_
      refine va_get (D := (dC, dI)) (ci := 0) (v := .ref ((a 14))) (C := rn_M) (T := fn_M) (N := 91) hx hb hg in_M hown hK hP 0 rfl rfl 14 (by decide) (hg _ wn_8_87) (fun _ h9 => h9) rfl dn_M_sumUp_45 ?_
      refine lv_iload_n hx hb dn_M_sumUp_48 rfl (lv_at hl 1 rfl) ?_
      refine lv_iconst (v := 1) hx hb dn_M_sumUp_49 (by decide) ?_
      refine lv_iadd hx hb dn_M_sumUp_50 ?_
      obtain ⟨hg_1, hf⟩ := dc_g hf
      refine va_iald hx hb hK hP 6 0 rfl rfl hg_1 dn_M_sumUp_51 ?_
      refine xk_ti (y := ((s.1 14) (Int32.toNatClampNeg ((x1 + 1))))) rfl ?_
      refine lv_aload_n hx hb dn_M_sumUp_52 rfl (lv_at hl 0 rfl) ?_
      refine va_get (D := (dC, dI)) (ci := 0) (v := .ref ((a 14))) (C := rn_M) (T := fn_M) (N := 91) hx hb hg in_M hown hK hP 0 rfl rfl 14 (by decide) (hg _ wn_8_87) (fun _ h9 => h9) rfl dn_M_sumUp_53 ?_
      refine lv_iload_n hx hb dn_M_sumUp_56 rfl (lv_at hl 1 rfl) ?_
      obtain ⟨hg_2, hf⟩ := dc_g hf
      refine va_iald hx hb hK hP 6 0 rfl rfl hg_2 dn_M_sumUp_57 ?_
      refine xk_ti (y := ((s.1 14) (Int32.toNatClampNeg x1))) rfl ?_
      refine lv_isub hx hb dn_M_sumUp_58 ?_
      refine lv_icmp_ge (tgt := 109) hx hb dn_M_sumUp_59 (by decide) (fun h => ?_) (fun h => ?_)
      · have hf := (if_pos h).symm.trans hf
        refine lv_aload_n hx hb dn_M_sumUp_109 rfl (lv_at hl 0 rfl) ?_
        refine lv_iconst (v := 0) hx hb dn_M_sumUp_110 (by decide) ?_
        refine va_put (D := (dC, dI)) (ci := 0) (v := .int 0) (ty := .int) (C := rn_M) (T := fn_M) (N := 91) hx hb hg in_M tn_M tk_M nn_M hown hK hP hD hS 0 rfl rfl 78 (by decide) (hg _ wn_8_151) (fun _ h9 => h9) rfl (tk_M 78 (by decide)) rfl rfl (Nat.le_of_ble_eq_true rfl) dn_M_sumUp_111 (fun H locs hP hD hS => ?_)
        have hP := wM_P_78 hP
        have hD := wM_D_78 hD
        refine lv_iconst (v := 0) hx hb dn_M_sumUp_114 (by decide) ?_
        refine lv_istore_n (lv' := [(2, .int 0), (0, .ref h0), (1, .int x1)]) hx hb dn_M_sumUp_115 rfl hl (by decide) rfl (fun ls hl => ?_)
        exact hd_116 N 0 (upI s 78 (fun _ => 0)) hf H locs ls hP hD hS (lv_sub hl [1, 0] rfl)
      · have hf := (if_neg h).symm.trans hf
        refine lv_aload_n hx hb dn_M_sumUp_62 rfl (lv_at hl 0 rfl) ?_
        refine lv_aload_n hx hb dn_M_sumUp_63 rfl (lv_at hl 0 rfl) ?_
        refine va_get (D := (dC, dI)) (ci := 0) (v := .ref ((a 21))) (C := rn_M) (T := fn_M) (N := 91) hx hb hg in_M hown hK hP 0 rfl rfl 21 (by decide) (hg _ wn_8_94) (fun _ h9 => h9) rfl dn_M_sumUp_64 ?_
        refine lv_aload_n hx hb dn_M_sumUp_67 rfl (lv_at hl 0 rfl) ?_
        refine va_get (D := (dC, dI)) (ci := 0) (v := .ref ((a 64))) (C := rn_M) (T := fn_M) (N := 91) hx hb hg in_M hown hK hP 0 rfl rfl 64 (by decide) (hg _ wn_8_137) (fun _ h9 => h9) rfl dn_M_sumUp_68 ?_
        refine lv_iload_n hx hb dn_M_sumUp_71 rfl (lv_at hl 2 rfl) ?_
        obtain ⟨hg_3, hf⟩ := dc_g hf
        refine va_iald hx hb hK hP 44 0 rfl rfl hg_3 dn_M_sumUp_72 ?_
        refine xk_ti (y := ((s.1 64) (Int32.toNatClampNeg x2))) rfl ?_
        obtain ⟨hg_4, hf⟩ := dc_g hf
        refine va_iald hx hb hK hP 12 0 rfl rfl hg_4 dn_M_sumUp_73 ?_
        refine xk_ti (y := ((s.1 21) (Int32.toNatClampNeg (((s.1 64) (Int32.toNatClampNeg x2)))))) rfl ?_
        refine lv_if_ne (tgt := 96) hx hb dn_M_sumUp_74 (by decide) (fun h => ?_) (fun h => ?_)
        · have hf := (if_neg h).symm.trans hf
          refine lv_aload_n hx hb dn_M_sumUp_96 rfl (lv_at hl 0 rfl) ?_
          refine va_get (D := (dC, dI)) (ci := 0) (v := .int ((s.1 77 0))) (C := rn_M) (T := fn_M) (N := 91) hx hb hg in_M hown hK hP 0 rfl rfl 77 (by decide) (hg _ wn_8_150) (fun _ h9 => h9) rfl dn_M_sumUp_97 ?_
          exact bl_100 k_43 hk_43 x1 x2 ((s.1 77 0)) s hf H locs ls hP hD hS hl
        · have hf := (if_pos h).symm.trans hf
          refine lv_aload_n hx hb dn_M_sumUp_77 rfl (lv_at hl 0 rfl) ?_
          refine va_get (D := (dC, dI)) (ci := 0) (v := .int ((s.1 77 0))) (C := rn_M) (T := fn_M) (N := 91) hx hb hg in_M hown hK hP 0 rfl rfl 77 (by decide) (hg _ wn_8_150) (fun _ h9 => h9) rfl dn_M_sumUp_78 ?_
          refine lv_aload_n hx hb dn_M_sumUp_81 rfl (lv_at hl 0 rfl) ?_
          refine va_get (D := (dC, dI)) (ci := 0) (v := .ref ((a 20))) (C := rn_M) (T := fn_M) (N := 91) hx hb hg in_M hown hK hP 0 rfl rfl 20 (by decide) (hg _ wn_8_93) (fun _ h9 => h9) rfl dn_M_sumUp_82 ?_
          refine lv_aload_n hx hb dn_M_sumUp_85 rfl (lv_at hl 0 rfl) ?_
          refine va_get (D := (dC, dI)) (ci := 0) (v := .ref ((a 64))) (C := rn_M) (T := fn_M) (N := 91) hx hb hg in_M hown hK hP 0 rfl rfl 64 (by decide) (hg _ wn_8_137) (fun _ h9 => h9) rfl dn_M_sumUp_86 ?_
          refine lv_iload_n hx hb dn_M_sumUp_89 rfl (lv_at hl 2 rfl) ?_
          obtain ⟨hg_5, hf⟩ := dc_g hf
          refine va_iald hx hb hK hP 44 0 rfl rfl hg_5 dn_M_sumUp_90 ?_
          refine xk_ti (y := ((s.1 64) (Int32.toNatClampNeg x2))) rfl ?_
          obtain ⟨hg_6, hf⟩ := dc_g hf
          refine va_iald hx hb hK hP 11 0 rfl rfl hg_6 dn_M_sumUp_91 ?_
          refine xk_ti (y := ((s.1 20) (Int32.toNatClampNeg (((s.1 64) (Int32.toNatClampNeg x2)))))) rfl ?_
          refine lv_iadd hx hb dn_M_sumUp_92 ?_
          refine lv_goto (tgt := 100) hx hb dn_M_sumUp_93 (by decide) ?_
          exact bl_100 k_43 hk_43 x1 x2 (((s.1 77 0) + ((s.1 20) (Int32.toNatClampNeg (((s.1 64) (Int32.toNatClampNeg x2))))))) s hf H locs ls hP hD hS hl
  intro H locs ls hP hD hS hl
  unfold fn_M_sumUp at hf
  refine lv_aload_n hx hb dn_M_sumUp_0 rfl (lv_at hl 0 rfl) ?_
  refine va_get (D := (dC, dI)) (ci := 0) (v := .int ((s.1 12 0))) (C := rn_M) (T := fn_M) (N := 91) hx hb hg in_M hown hK hP 0 rfl rfl 12 (by decide) (hg _ wn_8_85) (fun _ h9 => h9) rfl dn_M_sumUp_1 ?_
  refine lv_iconst (v := 1) hx hb dn_M_sumUp_4 (by decide) ?_
  refine lv_isub hx hb dn_M_sumUp_5 ?_
  refine lv_istore_n (lv' := [(1, .int (((s.1 12 0) - 1))), (0, .ref h0)]) hx hb dn_M_sumUp_6 rfl hl (by decide) rfl (fun ls hl => ?_)
  refine lv_aload_n hx hb dn_M_sumUp_7 rfl (lv_at hl 1 rfl) ?_
  refine lv_aload_n hx hb dn_M_sumUp_8 rfl (lv_at hl 1 rfl) ?_
  refine va_get (D := (dC, dI)) (ci := 0) (v := .int ((s.1 12 0))) (C := rn_M) (T := fn_M) (N := 91) hx hb hg in_M hown hK hP 0 rfl rfl 12 (by decide) (hg _ wn_8_85) (fun _ h9 => h9) rfl dn_M_sumUp_9 ?_
  refine va_put (D := (dC, dI)) (ci := 0) (v := .int ((s.1 12 0))) (ty := .int) (C := rn_M) (T := fn_M) (N := 91) hx hb hg in_M tn_M tk_M nn_M hown hK hP hD hS 0 rfl rfl 75 (by decide) (hg _ wn_8_148) (fun _ h9 => h9) rfl (tk_M 75 (by decide)) rfl rfl (Nat.le_of_ble_eq_true rfl) dn_M_sumUp_12 (fun H locs hP hD hS => ?_)
  have hP := wM_P_75 hP
  have hD := wM_D_75 hD
  refine lv_aload_n hx hb dn_M_sumUp_15 rfl (lv_at hl 1 rfl) ?_
  refine lv_aload_n hx hb dn_M_sumUp_16 rfl (lv_at hl 1 rfl) ?_
  refine va_get (D := (dC, dI)) (ci := 0) (v := .ref ((a 48))) (C := rn_M) (T := fn_M) (N := 91) hx hb hg in_M hown hK hP 0 rfl rfl 48 (by decide) (hg _ wn_8_121) (fun _ h9 => h9) rfl dn_M_sumUp_17 ?_
  refine lv_iload_n hx hb dn_M_sumUp_20 rfl (lv_at hl 0 rfl) ?_
  obtain ⟨hg_1, hf⟩ := dc_g hf
  refine va_lald hx hb hK hP 33 2 rfl rfl hg_1 dn_M_sumUp_21 ?_
  refine xk_tl (y := ((s.2 48) (Int32.toNatClampNeg (((s.1 12 0) - 1))))) rfl ?_
  refine lv_l2i (v := Int64.toInt32 (((s.2 48) (Int32.toNatClampNeg (((s.1 12 0) - 1)))))) hx hb dn_M_sumUp_22 rfl ?_
  refine va_put (D := (dC, dI)) (ci := 0) (v := .int ((Int64.toInt32 (((s.2 48) (Int32.toNatClampNeg (((s.1 12 0) - 1)))))))) (ty := .int) (C := rn_M) (T := fn_M) (N := 91) hx hb hg in_M tn_M tk_M nn_M hown hK hP hD hS 0 rfl rfl 76 (by decide) (hg _ wn_8_149) (fun _ h9 => h9) rfl (tk_M 76 (by decide)) rfl rfl (Nat.le_of_ble_eq_true rfl) dn_M_sumUp_23 (fun H locs hP hD hS => ?_)
  have hP := wM_P_76 hP
  have hD := wM_D_76 hD
  refine lv_aload_n hx hb dn_M_sumUp_26 rfl (lv_at hl 1 rfl) ?_
  refine lv_aload_n hx hb dn_M_sumUp_27 rfl (lv_at hl 1 rfl) ?_
  refine va_get (D := (dC, dI)) (ci := 0) (v := .ref ((a 45))) (C := rn_M) (T := fn_M) (N := 91) hx hb hg in_M hown hK hP 0 rfl rfl 45 (by decide) (hg _ wn_8_118) (fun _ h9 => h9) rfl dn_M_sumUp_28 ?_
  refine lv_iload_n hx hb dn_M_sumUp_31 rfl (lv_at hl 0 rfl) ?_
  obtain ⟨hg_2, hf⟩ := dc_g hf
  refine va_lald hx hb hK hP 30 2 rfl rfl hg_2 dn_M_sumUp_32 ?_
  refine xk_tl (y := ((s.2 45) (Int32.toNatClampNeg (((s.1 12 0) - 1))))) rfl ?_
  refine va_put (D := (dC, dI)) (ci := 0) (v := .long (((s.2 45) (Int32.toNatClampNeg (((s.1 12 0) - 1)))))) (ty := .long) (C := rn_M) (T := fn_M) (N := 91) hx hb hg in_M tn_M tk_M nn_M hown hK hP hD hS 0 rfl rfl 79 (by decide) (hg _ wn_8_152) (fun _ h9 => h9) rfl (tk_M 79 (by decide)) rfl rfl (Nat.le_of_ble_eq_true rfl) dn_M_sumUp_33 (fun H locs hP hD hS => ?_)
  have hP := wM_P_79 hP
  have hD := wM_D_79 hD
  refine lv_aload_n hx hb dn_M_sumUp_36 rfl (lv_at hl 1 rfl) ?_
  refine lv_iconst (v := 0) hx hb dn_M_sumUp_37 (by decide) ?_
  refine va_put (D := (dC, dI)) (ci := 0) (v := .int 0) (ty := .int) (C := rn_M) (T := fn_M) (N := 91) hx hb hg in_M tn_M tk_M nn_M hown hK hP hD hS 0 rfl rfl 77 (by decide) (hg _ wn_8_150) (fun _ h9 => h9) rfl (tk_M 77 (by decide)) rfl rfl (Nat.le_of_ble_eq_true rfl) dn_M_sumUp_38 (fun H locs hP hD hS => ?_)
  have hP := wM_P_77 hP
  have hD := wM_D_77 hD
  refine lv_iconst (v := 0) hx hb dn_M_sumUp_41 (by decide) ?_
  refine lv_istore_n (lv' := [(2, .int 0), (1, .int (((s.1 12 0) - 1))), (0, .ref h0)]) hx hb dn_M_sumUp_42 rfl hl (by decide) rfl (fun ls hl => ?_)
  exact hd_43 N (((s.1 12 0) - 1)) 0 (upI (upJ (upI (upI s 75 (fun _ => (s.1 12 0))) 76 (fun _ => (Int64.toInt32 (((s.2 48) (Int32.toNatClampNeg (((s.1 12 0) - 1)))))))) 79 (fun _ => ((s.2 45) (Int32.toNatClampNeg (((s.1 12 0) - 1)))))) 77 (fun _ => 0)) hf H locs ls hP hD hS (lv_sub hl [2, 1, 0] rfl)
theorem mn_M_push (N : Nat) (v1 : Int64) (s : ms) (y : (Unit × ms)) (hf : fn_M_push N v1 s = some y) : gl y.2 = gl s := by
  unfold fn_M_push at hf
  have hm : gl s = gl s := rfl
  obtain ⟨_, hf⟩ := dc_g hf
  exact (dc_e hf).trans hm
set_option maxHeartbeats 8000000 in
set_option maxRecDepth 100000 in
theorem ct_M_push (l : Launch) (dC : Nat → ClassId) (dI : Nat → Nat → Nat) (cI cB cJ cZ cQ : ClassId) (N sz : Nat) (h0 : Nat) (a : Nat → Nat) (v1 : Int64) (s : ms) (y : (Unit × ms)) (hf : fn_M_push N v1 s = some y) : Met l yn_M_push (xw yn_M_push bn_M_push 3 none) ({ frames := 0, cells := 0, slots := 0, locals := 0 }) (dc_P (dC, dI) xcl (xt cI cB cJ cZ cQ) [.ref h0, .long v1] sz (wM h0 a cI cB cJ cZ s)) (xk_Qv (dC, dI) xcl (xt cI cB cJ cZ cQ) (fun _ : Unit => True) (fun u : Unit => (wM h0 a cI cB cJ cZ y.2)) (va_A (wM h0 a cI cB cJ cZ s) sz)) 0 0 (va_A (wM h0 a cI cB cJ cZ s) sz) := by
  refine dc_of (QA := xk_Qv (dC, dI) xcl (xt cI cB cJ cZ cQ) (fun _ : Unit => True) (fun u : Unit => (wM h0 a cI cB cJ cZ y.2))) (by decide) (Nat.le_of_ble_eq_true rfl) ?_
  intro p e s0 m below meth c hx hb hml hown hg hr hlocks hin hP hK hN A hA hD hT ls hl
  have hown : s0.vm.findClass rn_M = some m.cls := hown
  obtain ⟨H, hH⟩ : ∃ z, z = s0.heap := ⟨_, rfl⟩
  rw [← hH] at hP
  have hS : va_S A s0.heap H [] := by rw [hH]; exact va_S.rf
  suffices kk : ∀ QQ : State → Prop, QQ = MQ below (xk_Qv (dC, dI) xcl (xt cI cB cJ cZ cQ) (fun _ : Unit => True) (fun u : Unit => (wM h0 a cI cB cJ cZ y.2)) A) [.ref h0, .long v1].toArray s0 0 0 A → dcC p l e ({ frames := 0, cells := 0, slots := 0, locals := 0 }) s0 m [.ref h0, .long v1].toArray below meth c QQ (dC, dI) A (wM h0 a cI cB cJ cZ s) 0 3 [(0, .ref h0), (1, .long v1)] [] by
    have k9 := kk _ rfl H [] ls hP hD hS hl
    rw [hH] at k9; exact k9
  clear hP hD hS hl hH H ls
  intro QQ hQQ
  intro H locs ls hP hD hS hl
  unfold fn_M_push at hf
  refine lv_aload_n hx hb dn_M_push_0 rfl (lv_at hl 0 rfl) ?_
  refine va_get (D := (dC, dI)) (ci := 0) (v := .ref ((a 84))) (C := rn_M) (T := fn_M) (N := 91) hx hb hg in_M hown hK hP 0 rfl rfl 84 (by decide) (hg _ wn_8_157) (fun _ h9 => h9) rfl dn_M_push_1 ?_
  refine lv_aload_n hx hb dn_M_push_4 rfl (lv_at hl 0 rfl) ?_
  refine va_get (D := (dC, dI)) (ci := 0) (v := .int ((s.1 85 0))) (C := rn_M) (T := fn_M) (N := 91) hx hb hg in_M hown hK hP 0 rfl rfl 85 (by decide) (hg _ wn_8_158) (fun _ h9 => h9) rfl dn_M_push_5 ?_
  refine lv_lload_n hx hb dn_M_push_8 rfl (lv_at hl 1 rfl) ?_
  obtain ⟨hg_1, hf⟩ := dc_g hf
  refine va_last hx hb hK hP hD hS 58 2 rfl rfl hg_1 dn_M_push_9 (fun H locs hP hD hS => ?_)
  have hP : va_P (dC, dI) xcl ((wM h0 a cI cB cJ cZ s).set 58 ((a 84), .inl (cJ, 4096, .inr (.inl (vp_updL (s.2 84) (Int32.toNatClampNeg ((s.1 85 0))) v1))))) H := hP
  have hD : va_D A ((wM h0 a cI cB cJ cZ s).set 58 ((a 84), .inl (cJ, 4096, .inr (.inl (vp_updL (s.2 84) (Int32.toNatClampNeg ((s.1 85 0))) v1))))) := hD
  have hP := wM_P_84 hP
  have hD := wM_D_84 hD
  refine lv_aload_n hx hb dn_M_push_10 rfl (lv_at hl 0 rfl) ?_
  refine lv_dup hx hb dn_M_push_11 rfl ?_
  refine va_get (D := (dC, dI)) (ci := 0) (v := .int ((s.1 85 0))) (C := rn_M) (T := fn_M) (N := 91) hx hb hg in_M hown hK hP 0 rfl rfl 85 (by decide) (hg _ wn_8_158) (fun _ h9 => h9) rfl dn_M_push_12 ?_
  refine lv_iconst (v := 1) hx hb dn_M_push_15 (by decide) ?_
  refine lv_iadd hx hb dn_M_push_16 ?_
  refine va_put (D := (dC, dI)) (ci := 0) (v := .int (((s.1 85 0) + 1))) (ty := .int) (C := rn_M) (T := fn_M) (N := 91) hx hb hg in_M tn_M tk_M nn_M hown hK hP hD hS 0 rfl rfl 85 (by decide) (hg _ wn_8_158) (fun _ h9 => h9) rfl (tk_M 85 (by decide)) rfl rfl (Nat.le_of_ble_eq_true rfl) dn_M_push_17 (fun H locs hP hD hS => ?_)
  have hP := wM_P_85 hP
  have hD := wM_D_85 hD
  rw [hQQ, ← Option.some.inj hf]
  exact xk_vret (w1 := fun u : Unit => (wM h0 a cI cB cJ cZ (upI (upJ s 84 (vp_updL (s.2 84) (Int32.toNatClampNeg ((s.1 85 0))) v1)) 85 (fun _ => ((s.1 85 0) + 1))))) () hx hb hr hlocks hK hS dn_M_push_20 hP hD trivial (Nat.le_refl _) (Nat.le_refl _)
theorem mn_M_pop (N : Nat) (s : ms) (y : (Int64 × ms)) (hf : fn_M_pop N s = some y) : gl y.2 = gl s := by
  unfold fn_M_pop at hf
  have hm : gl s = gl s := rfl
  obtain ⟨_, hf⟩ := dc_g hf
  exact (dc_e hf).trans hm
set_option maxHeartbeats 8000000 in
set_option maxRecDepth 100000 in
theorem ct_M_pop (l : Launch) (dC : Nat → ClassId) (dI : Nat → Nat → Nat) (cI cB cJ cZ cQ : ClassId) (N sz : Nat) (h0 : Nat) (a : Nat → Nat) (s : ms) (y : (Int64 × ms)) (hf : fn_M_pop N s = some y) : Met l yn_M_pop (xw yn_M_pop bn_M_pop 1 (some .long)) ({ frames := 0, cells := 0, slots := 0, locals := 0 }) (dc_P (dC, dI) xcl (xt cI cB cJ cZ cQ) [.ref h0] sz (wM h0 a cI cB cJ cZ s)) (xk_Ql (dC, dI) xcl (xt cI cB cJ cZ cQ) (fun (r : Int64) (_ : Unit) => r = y.1) (fun u : Unit => (wM h0 a cI cB cJ cZ y.2)) (va_A (wM h0 a cI cB cJ cZ s) sz)) 0 0 (va_A (wM h0 a cI cB cJ cZ s) sz) := by
  refine dc_of (QA := xk_Ql (dC, dI) xcl (xt cI cB cJ cZ cQ) (fun (r : Int64) (_ : Unit) => r = y.1) (fun u : Unit => (wM h0 a cI cB cJ cZ y.2))) (by decide) (Nat.le_of_ble_eq_true rfl) ?_
  intro p e s0 m below meth c hx hb hml hown hg hr hlocks hin hP hK hN A hA hD hT ls hl
  have hown : s0.vm.findClass rn_M = some m.cls := hown
  obtain ⟨H, hH⟩ : ∃ z, z = s0.heap := ⟨_, rfl⟩
  rw [← hH] at hP
  have hS : va_S A s0.heap H [] := by rw [hH]; exact va_S.rf
  suffices kk : ∀ QQ : State → Prop, QQ = MQ below (xk_Ql (dC, dI) xcl (xt cI cB cJ cZ cQ) (fun (r : Int64) (_ : Unit) => r = y.1) (fun u : Unit => (wM h0 a cI cB cJ cZ y.2)) A) [.ref h0].toArray s0 0 0 A → dcC p l e ({ frames := 0, cells := 0, slots := 0, locals := 0 }) s0 m [.ref h0].toArray below meth c QQ (dC, dI) A (wM h0 a cI cB cJ cZ s) 0 1 [(0, .ref h0)] [] by
    have k9 := kk _ rfl H [] ls hP hD hS hl
    rw [hH] at k9; exact k9
  clear hP hD hS hl hH H ls
  intro QQ hQQ
  intro H locs ls hP hD hS hl
  unfold fn_M_pop at hf
  refine lv_aload_n hx hb dn_M_pop_0 rfl (lv_at hl 0 rfl) ?_
  refine lv_dup hx hb dn_M_pop_1 rfl ?_
  refine va_get (D := (dC, dI)) (ci := 0) (v := .int ((s.1 85 0))) (C := rn_M) (T := fn_M) (N := 91) hx hb hg in_M hown hK hP 0 rfl rfl 85 (by decide) (hg _ wn_8_158) (fun _ h9 => h9) rfl dn_M_pop_2 ?_
  refine lv_iconst (v := 1) hx hb dn_M_pop_5 (by decide) ?_
  refine lv_isub hx hb dn_M_pop_6 ?_
  refine va_put (D := (dC, dI)) (ci := 0) (v := .int (((s.1 85 0) - 1))) (ty := .int) (C := rn_M) (T := fn_M) (N := 91) hx hb hg in_M tn_M tk_M nn_M hown hK hP hD hS 0 rfl rfl 85 (by decide) (hg _ wn_8_158) (fun _ h9 => h9) rfl (tk_M 85 (by decide)) rfl rfl (Nat.le_of_ble_eq_true rfl) dn_M_pop_7 (fun H locs hP hD hS => ?_)
  have hP := wM_P_85 hP
  have hD := wM_D_85 hD
  refine lv_aload_n hx hb dn_M_pop_10 rfl (lv_at hl 0 rfl) ?_
  refine va_get (D := (dC, dI)) (ci := 0) (v := .ref ((a 84))) (C := rn_M) (T := fn_M) (N := 91) hx hb hg in_M hown hK hP 0 rfl rfl 84 (by decide) (hg _ wn_8_157) (fun _ h9 => h9) rfl dn_M_pop_11 ?_
  refine lv_aload_n hx hb dn_M_pop_14 rfl (lv_at hl 0 rfl) ?_
  refine va_get (D := (dC, dI)) (ci := 0) (v := .int (((s.1 85 0) - 1))) (C := rn_M) (T := fn_M) (N := 91) hx hb hg in_M hown hK hP 0 rfl rfl 85 (by decide) (hg _ wn_8_158) (fun _ h9 => h9) rfl dn_M_pop_15 ?_
  obtain ⟨hg_1, hf⟩ := dc_g hf
  refine va_lald hx hb hK hP 58 2 rfl rfl hg_1 dn_M_pop_18 ?_
  refine xk_tl (y := ((s.2 84) (Int32.toNatClampNeg (((s.1 85 0) - 1))))) rfl ?_
  rw [hQQ, ← Option.some.inj hf]
  exact xk_lret (w1 := fun u : Unit => (wM h0 a cI cB cJ cZ (upI s 85 (fun _ => ((s.1 85 0) - 1))))) () hx hb hr hlocks hK hS dn_M_pop_19 hP hD rfl (Nat.le_refl _) (Nat.le_refl _)
theorem mn_M_mask (N : Nat) (v0 : Int32) (s : ms) (y : (Int64 × ms)) (hf : fn_M_mask N v0 s = some y) : gl y.2 = gl s := by
  unfold fn_M_mask at hf
  have hm : gl s = gl s := rfl
  by_cases h : v0 < 64
  · have hf := (if_pos h).symm.trans hf
    exact (dc_e hf).trans hm
  · have hf := (if_neg h).symm.trans hf
    exact (dc_e hf).trans hm
set_option maxHeartbeats 8000000 in
set_option maxRecDepth 100000 in
theorem ct_M_mask (l : Launch) (dC : Nat → ClassId) (dI : Nat → Nat → Nat) (cI cB cJ cZ cQ : ClassId) (N sz : Nat) (h0 : Nat) (a : Nat → Nat) (v0 : Int32) (s : ms) (y : (Int64 × ms)) (hf : fn_M_mask N v0 s = some y) : Met l yn_M_mask (xw yn_M_mask bn_M_mask 1 (some .long)) ({ frames := 0, cells := 0, slots := 0, locals := 0 }) (dc_P (dC, dI) xcl (xt cI cB cJ cZ cQ) [.int v0] sz (wM h0 a cI cB cJ cZ s)) (xk_Ql (dC, dI) xcl (xt cI cB cJ cZ cQ) (fun (r : Int64) (_ : Unit) => r = y.1) (fun u : Unit => (wM h0 a cI cB cJ cZ y.2)) (va_A (wM h0 a cI cB cJ cZ s) sz)) 0 0 (va_A (wM h0 a cI cB cJ cZ s) sz) := by
  refine dc_of (QA := xk_Ql (dC, dI) xcl (xt cI cB cJ cZ cQ) (fun (r : Int64) (_ : Unit) => r = y.1) (fun u : Unit => (wM h0 a cI cB cJ cZ y.2))) (by decide) (Nat.le_of_ble_eq_true rfl) ?_
  intro p e s0 m below meth c hx hb hml hown hg hr hlocks hin hP hK hN A hA hD hT ls hl
  have hown : s0.vm.findClass rn_M = some m.cls := hown
  obtain ⟨H, hH⟩ : ∃ z, z = s0.heap := ⟨_, rfl⟩
  rw [← hH] at hP
  have hS : va_S A s0.heap H [] := by rw [hH]; exact va_S.rf
  suffices kk : ∀ QQ : State → Prop, QQ = MQ below (xk_Ql (dC, dI) xcl (xt cI cB cJ cZ cQ) (fun (r : Int64) (_ : Unit) => r = y.1) (fun u : Unit => (wM h0 a cI cB cJ cZ y.2)) A) [.int v0].toArray s0 0 0 A → dcC p l e ({ frames := 0, cells := 0, slots := 0, locals := 0 }) s0 m [.int v0].toArray below meth c QQ (dC, dI) A (wM h0 a cI cB cJ cZ s) 0 1 [(0, .int v0)] [] by
    have k9 := kk _ rfl H [] ls hP hD hS hl
    rw [hH] at k9; exact k9
  clear hP hD hS hl hH H ls
  intro QQ hQQ
  intro H locs ls hP hD hS hl
  unfold fn_M_mask at hf
  refine lv_iload_n hx hb dn_M_mask_0 rfl (lv_at hl 0 rfl) ?_
  refine lv_bipush (v := 64) hx hb dn_M_mask_1 (by decide) ?_
  refine lv_icmp_lt (tgt := 12) hx hb dn_M_mask_3 (by decide) (fun h => ?_) (fun h => ?_)
  · have hf := (if_pos h).symm.trans hf
    refine lv_lconst (v := 1) hx hb dn_M_mask_12 (by decide) ?_
    refine lv_iload_n hx hb dn_M_mask_13 rfl (lv_at hl 0 rfl) ?_
    refine lv_lshl (v := (1 : Int64) <<< ((Int32.toInt64 v0) &&& 63)) hx hb dn_M_mask_14 rfl ?_
    refine lv_lconst (v := 1) hx hb dn_M_mask_15 (by decide) ?_
    refine lv_lsub hx hb dn_M_mask_16 ?_
    rw [hQQ, ← Option.some.inj hf]
    exact xk_lret (w1 := fun u : Unit => (wM h0 a cI cB cJ cZ s)) () hx hb hr hlocks hK hS dn_M_mask_17 hP hD rfl (Nat.le_refl _) (Nat.le_refl _)
  · have hf := (if_neg h).symm.trans hf
    refine lv_ldc2 hx hb hown (hg _ wn_10_228) dn_M_mask_6 ?_
    refine lv_goto (tgt := 17) hx hb dn_M_mask_9 (by decide) ?_
    rw [hQQ, ← Option.some.inj hf]
    exact xk_lret (w1 := fun u : Unit => (wM h0 a cI cB cJ cZ s)) () hx hb hr hlocks hK hS dn_M_mask_17 hP hD rfl (Nat.le_refl _) (Nat.le_refl _)
theorem mb_M_one_116 (N : Nat) (y : (Int64 × ms)) (k_116 : Int32 → Int64 → Int64 → Int32 → ms → Option (Int64 × ms)) (hkm_116 : ∀ (x1 : Int32) (x2 : Int64) (x4 : Int64) (x6 : Int32) (s : ms), k_116 x1 x2 x4 x6 s = some y → gl y.2 = gl s) (x1 : Int32) (x2 : Int64) (x4 : Int64) (x6 : Int32) (s : ms) (hf : bd_M_one_116 N k_116 x1 x2 x4 x6 s = some y) : gl y.2 = gl s := by
  unfold bd_M_one_116 at hf
  have hm : gl s = gl s := rfl
  by_cases h : x1 ≤ x6
  · have hf := (if_pos h).symm.trans hf
    exact (dc_e hf).trans hm
  · have hf := (if_neg h).symm.trans hf
    exact (hkm_116 x1 x2 ((x4 ^^^ (((x2 : Int64) >>> ((Int32.toInt64 x6) &&& 63)) &&& 1))) ((x6 + 1)) s hf).trans hm
theorem mh_M_one_116 (N : Nat) (y : (Int64 × ms)) : ∀ (n : Nat) (x1 : Int32) (x2 : Int64) (x4 : Int64) (x6 : Int32) (s : ms), hd_M_one_116 N n x1 x2 x4 x6 s = some y → gl y.2 = gl s := by
  intro n
  induction n with
  | zero => intro x1 x2 x4 x6 s hf; cases hf
  | succ n ih => intro x1 x2 x4 x6 s hf; exact mb_M_one_116 N y (hd_M_one_116 N n) ih x1 x2 x4 x6 s hf
theorem mn_M_one (N : Nat) (v0 : Int32) (v1 : Int32) (v2 : Int64) (s : ms) (y : (Int64 × ms)) (hf : fn_M_one N v0 v1 v2 s = some y) : gl y.2 = gl s := by
  unfold fn_M_one at hf
  have hm : gl s = gl s := rfl
  by_cases h_0 : v0 = 33
  · have hf := (if_pos h_0).symm.trans hf
    by_cases h : (lg_cmp v2 0) = 0
    · have hf := (if_pos h).symm.trans hf
      exact (dc_e hf).trans hm
    · have hf := (if_neg h).symm.trans hf
      exact (dc_e hf).trans hm
  have hf := (if_neg h_0).symm.trans hf
  by_cases h_1 : v0 = 38
  · have hf := (if_pos h_1).symm.trans hf
    obtain ⟨q_1, hc_2, hf⟩ := dc_b hf
    have hm := (mn_M_mask N v1 s q_1 hc_2).trans hm
    by_cases h : (lg_cmp v2 q_1.1) = 0
    · have hf := (if_pos h).symm.trans hf
      exact (dc_e hf).trans hm
    · have hf := (if_neg h).symm.trans hf
      exact (dc_e hf).trans hm
  have hf := (if_neg h_1).symm.trans hf
  by_cases h_2 : v0 = 45
  · have hf := (if_pos h_2).symm.trans hf
    obtain ⟨q_1, hc_2, hf⟩ := dc_b hf
    have hm := (mn_M_mask N v1 s q_1 hc_2).trans hm
    exact (dc_e hf).trans hm
  have hf := (if_neg h_2).symm.trans hf
  by_cases h_3 : v0 = 124
  · have hf := (if_pos h_3).symm.trans hf
    by_cases h : (lg_cmp v2 0) = 0
    · have hf := (if_pos h).symm.trans hf
      exact (dc_e hf).trans hm
    · have hf := (if_neg h).symm.trans hf
      exact (dc_e hf).trans hm
  have hf := (if_neg h_3).symm.trans hf
  by_cases h_4 : v0 = 126
  · have hf := (if_pos h_4).symm.trans hf
    obtain ⟨q_1, hc_2, hf⟩ := dc_b hf
    have hm := (mn_M_mask N v1 s q_1 hc_2).trans hm
    exact (dc_e hf).trans hm
  have hf := (if_neg h_4).symm.trans hf
  exact (mh_M_one_116 N y N v1 v2 0 0 s hf).trans hm
set_option maxHeartbeats 8000000 in
set_option maxRecDepth 100000 in
theorem ct_M_one (l : Launch) (dC : Nat → ClassId) (dI : Nat → Nat → Nat) (cI cB cJ cZ cQ : ClassId) (N sz : Nat) (h0 : Nat) (a : Nat → Nat) (v0 : Int32) (v1 : Int32) (v2 : Int64) (s : ms) (y : (Int64 × ms)) (hf : fn_M_one N v0 v1 v2 s = some y) : Met l yn_M_one (xw yn_M_one bn_M_one 7 (some .long)) ({ frames := 1, cells := 0, slots := 0, locals := 20 }) (dc_P (dC, dI) xcl (xt cI cB cJ cZ cQ) [.int v0, .int v1, .long v2] sz (wM h0 a cI cB cJ cZ s)) (xk_Ql (dC, dI) xcl (xt cI cB cJ cZ cQ) (fun (r : Int64) (_ : Unit) => r = y.1) (fun u : Unit => (wM h0 a cI cB cJ cZ y.2)) (va_A (wM h0 a cI cB cJ cZ s) sz)) 0 0 (va_A (wM h0 a cI cB cJ cZ s) sz) := by
  refine dc_of (QA := xk_Ql (dC, dI) xcl (xt cI cB cJ cZ cQ) (fun (r : Int64) (_ : Unit) => r = y.1) (fun u : Unit => (wM h0 a cI cB cJ cZ y.2))) (by decide) (Nat.le_of_ble_eq_true rfl) ?_
  intro p e s0 m below meth c hx hb hml hown hg hr hlocks hin hP hK hN A hA hD hT ls hl
  have hown : s0.vm.findClass rn_M = some m.cls := hown
  obtain ⟨H, hH⟩ : ∃ z, z = s0.heap := ⟨_, rfl⟩
  rw [← hH] at hP
  have hS : va_S A s0.heap H [] := by rw [hH]; exact va_S.rf
  suffices kk : ∀ QQ : State → Prop, QQ = MQ below (xk_Ql (dC, dI) xcl (xt cI cB cJ cZ cQ) (fun (r : Int64) (_ : Unit) => r = y.1) (fun u : Unit => (wM h0 a cI cB cJ cZ y.2)) A) [.int v0, .int v1, .long v2].toArray s0 0 0 A → dcC p l e ({ frames := 1, cells := 0, slots := 0, locals := 20 }) s0 m [.int v0, .int v1, .long v2].toArray below meth c QQ (dC, dI) A (wM h0 a cI cB cJ cZ s) 0 7 [(0, .int v0), (1, .int v1), (2, .long v2)] [] by
    have k9 := kk _ rfl H [] ls hP hD hS hl
    rw [hH] at k9; exact k9
  clear hP hD hS hl hH H ls
  intro QQ hQQ
  have hd_116 : ∀ (n : Nat) (x1 : Int32) (x2 : Int64) (x4 : Int64) (x6 : Int32) (s : ms), hd_M_one_116 N n x1 x2 x4 x6 s = some y → dcC p l e ({ frames := 1, cells := 0, slots := 0, locals := 20 }) s0 m [.int v0, .int v1, .long v2].toArray below meth c QQ (dC, dI) A (wM h0 a cI cB cJ cZ s) 116 7 [(1, .int x1), (2, .long x2), (4, .long x4), (6, .int x6)] [] := by
    intro n
    induction n with
    | zero => intro x1 x2 x4 x6 s hf; cases hf
    | succ n ih =>
      intro x1 x2 x4 x6 s hf H locs ls hP hD hS hl
      have hf : bd_M_one_116 N (hd_M_one_116 N n) x1 x2 x4 x6 s = some y := hf
      have hk_116 := ih
      generalize hd_M_one_116 N n = k_116 at hf hk_116
      unfold bd_M_one_116 at hf
      refine lv_iload hx hb dn_M_one_116 (lv_at hl 3 rfl) ?_
      refine lv_iload_n hx hb dn_M_one_118 rfl (lv_at hl 0 rfl) ?_
      refine lv_icmp_ge (tgt := 139) hx hb dn_M_one_119 (by decide) (fun h => ?_) (fun h => ?_)
      · have hf := (if_pos h).symm.trans hf
        refine lv_lload hx hb dn_M_one_139 (lv_at hl 2 rfl) ?_
        rw [hQQ, ← Option.some.inj hf]
        exact xk_lret (w1 := fun u : Unit => (wM h0 a cI cB cJ cZ s)) () hx hb hr hlocks hK hS dn_M_one_141 hP hD rfl (Nat.le_refl _) (Nat.le_refl _)
      · have hf := (if_neg h).symm.trans hf
        refine lv_lload hx hb dn_M_one_122 (lv_at hl 2 rfl) ?_
        refine lv_lload_n hx hb dn_M_one_124 rfl (lv_at hl 1 rfl) ?_
        refine lv_iload hx hb dn_M_one_125 (lv_at hl 3 rfl) ?_
        refine lv_lshr (v := (x2 : Int64) >>> ((Int32.toInt64 x6) &&& 63)) hx hb dn_M_one_127 rfl ?_
        refine lv_lconst (v := 1) hx hb dn_M_one_128 (by decide) ?_
        refine lv_land hx hb dn_M_one_129 ?_
        refine lv_lxor hx hb dn_M_one_130 ?_
        refine lv_lstore (lv' := [(4, .long ((x4 ^^^ (((x2 : Int64) >>> ((Int32.toInt64 x6) &&& 63)) &&& 1)))), (1, .int x1), (2, .long x2), (6, .int x6)]) hx hb dn_M_one_131 hl (by decide) rfl (fun ls hl => ?_)
        refine lv_iinc (v := (x6 + 1)) (lv' := [(6, .int ((x6 + 1))), (4, .long ((x4 ^^^ (((x2 : Int64) >>> ((Int32.toInt64 x6) &&& 63)) &&& 1)))), (1, .int x1), (2, .long x2)]) hx hb dn_M_one_133 hl (k := 3) rfl (dc_inc (by decide)) (by decide) rfl (fun ls hl => ?_)
        refine lv_goto (tgt := 116) hx hb dn_M_one_136 (by decide) ?_
        exact hk_116 x1 x2 ((x4 ^^^ (((x2 : Int64) >>> ((Int32.toInt64 x6) &&& 63)) &&& 1))) ((x6 + 1)) s hf H locs ls hP hD hS (lv_sub hl [2, 3, 1, 0] rfl)
  intro H locs ls hP hD hS hl
  unfold fn_M_one at hf
  refine lv_iload_n hx hb dn_M_one_0 rfl (lv_at hl 0 rfl) ?_
  by_cases h_0 : v0 = 33
  · have hf := (if_pos h_0).symm.trans hf
    refine xk_ti (y := 33) h_0 ?_
    refine lv_lookup (off := 70) (tgt := 71) hx hb dn_M_one_1 (by decide) (by decide) (by decide) ?_
    refine lv_lload_n hx hb dn_M_one_71 rfl (lv_at hl 2 rfl) ?_
    refine lv_lconst (v := 0) hx hb dn_M_one_72 (by decide) ?_
    refine W.lcmp hx hb dn_M_one_73 ?_
    refine lv_if_ne (tgt := 81) hx hb dn_M_one_74 (by decide) (fun h => ?_) (fun h => ?_)
    · have hf := (if_neg h).symm.trans hf
      refine lv_lconst (v := 0) hx hb dn_M_one_81 (by decide) ?_
      rw [hQQ, ← Option.some.inj hf]
      exact xk_lret (w1 := fun u : Unit => (wM h0 a cI cB cJ cZ s)) () hx hb hr hlocks hK hS dn_M_one_82 hP hD rfl (Nat.le_refl _) (Nat.le_refl _)
    · have hf := (if_pos h).symm.trans hf
      refine lv_lconst (v := 1) hx hb dn_M_one_77 (by decide) ?_
      refine lv_goto (tgt := 82) hx hb dn_M_one_78 (by decide) ?_
      rw [hQQ, ← Option.some.inj hf]
      exact xk_lret (w1 := fun u : Unit => (wM h0 a cI cB cJ cZ s)) () hx hb hr hlocks hK hS dn_M_one_82 hP hD rfl (Nat.le_refl _) (Nat.le_refl _)
  have hf := (if_neg h_0).symm.trans hf
  by_cases h_1 : v0 = 38
  · have hf := (if_pos h_1).symm.trans hf
    refine xk_ti (y := 38) h_1 ?_
    refine lv_lookup (off := 82) (tgt := 83) hx hb dn_M_one_1 (by decide) (by decide) (by decide) ?_
    refine lv_lload_n hx hb dn_M_one_83 rfl (lv_at hl 2 rfl) ?_
    refine lv_iload_n hx hb dn_M_one_84 rfl (lv_at hl 1 rfl) ?_
    obtain ⟨q_1, hc_2, hf⟩ := dc_b hf
    refine dc_calll (dc_runS (ar := 1) (As := [.int v1]) (rest := [.long v2]) ⟨hx, hb, hml, hown, hg⟩ hK hN hT hS hA (ct_M_mask l dC dI cI cB cJ cZ cQ N H.size h0 a v1 s q_1 hc_2) hP hD wn_10_225 wn_10_226 wn_1_13 wn_10_227 rfl rfl (by decide +kernel) ⟨Nat.le_of_ble_eq_true rfl, Nat.le_of_ble_eq_true rfl⟩ rfl hl.1 rfl (Nat.le_of_ble_eq_true rfl) dn_M_one_85 ⟨Nat.le_of_ble_eq_true rfl, Nat.le_of_ble_eq_true rfl⟩) hP hD hS hA (fun r_3 _ H locs hw hP hD hS => ?_)
    have hw : r_3 = q_1.1 := hw
    subst hw
    refine W.lcmp hx hb dn_M_one_88 ?_
    refine lv_if_ne (tgt := 96) hx hb dn_M_one_89 (by decide) (fun h => ?_) (fun h => ?_)
    · have hf := (if_neg h).symm.trans hf
      refine lv_lconst (v := 0) hx hb dn_M_one_96 (by decide) ?_
      rw [hQQ, ← Option.some.inj hf]
      exact xk_lret (w1 := fun u : Unit => (wM h0 a cI cB cJ cZ q_1.2)) () hx hb hr hlocks hK hS dn_M_one_97 hP hD rfl (Nat.le_refl _) (Nat.le_refl _)
    · have hf := (if_pos h).symm.trans hf
      refine lv_lconst (v := 1) hx hb dn_M_one_92 (by decide) ?_
      refine lv_goto (tgt := 97) hx hb dn_M_one_93 (by decide) ?_
      rw [hQQ, ← Option.some.inj hf]
      exact xk_lret (w1 := fun u : Unit => (wM h0 a cI cB cJ cZ q_1.2)) () hx hb hr hlocks hK hS dn_M_one_97 hP hD rfl (Nat.le_refl _) (Nat.le_refl _)
  have hf := (if_neg h_1).symm.trans hf
  by_cases h_2 : v0 = 45
  · have hf := (if_pos h_2).symm.trans hf
    refine xk_ti (y := 45) h_2 ?_
    refine lv_lookup (off := 62) (tgt := 63) hx hb dn_M_one_1 (by decide) (by decide) (by decide) ?_
    refine lv_lload_n hx hb dn_M_one_63 rfl (lv_at hl 2 rfl) ?_
    refine lv_lneg hx hb dn_M_one_64 ?_
    refine lv_iload_n hx hb dn_M_one_65 rfl (lv_at hl 1 rfl) ?_
    obtain ⟨q_1, hc_2, hf⟩ := dc_b hf
    refine dc_calll (dc_runS (ar := 1) (As := [.int v1]) (rest := [.long ((-v2))]) ⟨hx, hb, hml, hown, hg⟩ hK hN hT hS hA (ct_M_mask l dC dI cI cB cJ cZ cQ N H.size h0 a v1 s q_1 hc_2) hP hD wn_10_225 wn_10_226 wn_1_13 wn_10_227 rfl rfl (by decide +kernel) ⟨Nat.le_of_ble_eq_true rfl, Nat.le_of_ble_eq_true rfl⟩ rfl hl.1 rfl (Nat.le_of_ble_eq_true rfl) dn_M_one_66 ⟨Nat.le_of_ble_eq_true rfl, Nat.le_of_ble_eq_true rfl⟩) hP hD hS hA (fun r_3 _ H locs hw hP hD hS => ?_)
    have hw : r_3 = q_1.1 := hw
    subst hw
    refine lv_land hx hb dn_M_one_69 ?_
    rw [hQQ, ← Option.some.inj hf]
    exact xk_lret (w1 := fun u : Unit => (wM h0 a cI cB cJ cZ q_1.2)) () hx hb hr hlocks hK hS dn_M_one_70 hP hD rfl (Nat.le_refl _) (Nat.le_refl _)
  have hf := (if_neg h_2).symm.trans hf
  by_cases h_3 : v0 = 124
  · have hf := (if_pos h_3).symm.trans hf
    refine xk_ti (y := 124) h_3 ?_
    refine lv_lookup (off := 97) (tgt := 98) hx hb dn_M_one_1 (by decide) (by decide) (by decide) ?_
    refine lv_lload_n hx hb dn_M_one_98 rfl (lv_at hl 2 rfl) ?_
    refine lv_lconst (v := 0) hx hb dn_M_one_99 (by decide) ?_
    refine W.lcmp hx hb dn_M_one_100 ?_
    refine lv_if_ne (tgt := 108) hx hb dn_M_one_101 (by decide) (fun h => ?_) (fun h => ?_)
    · have hf := (if_neg h).symm.trans hf
      refine lv_lconst (v := 1) hx hb dn_M_one_108 (by decide) ?_
      rw [hQQ, ← Option.some.inj hf]
      exact xk_lret (w1 := fun u : Unit => (wM h0 a cI cB cJ cZ s)) () hx hb hr hlocks hK hS dn_M_one_109 hP hD rfl (Nat.le_refl _) (Nat.le_refl _)
    · have hf := (if_pos h).symm.trans hf
      refine lv_lconst (v := 0) hx hb dn_M_one_104 (by decide) ?_
      refine lv_goto (tgt := 109) hx hb dn_M_one_105 (by decide) ?_
      rw [hQQ, ← Option.some.inj hf]
      exact xk_lret (w1 := fun u : Unit => (wM h0 a cI cB cJ cZ s)) () hx hb hr hlocks hK hS dn_M_one_109 hP hD rfl (Nat.le_refl _) (Nat.le_refl _)
  have hf := (if_neg h_3).symm.trans hf
  by_cases h_4 : v0 = 126
  · have hf := (if_pos h_4).symm.trans hf
    refine xk_ti (y := 126) h_4 ?_
    refine lv_lookup (off := 51) (tgt := 52) hx hb dn_M_one_1 (by decide) (by decide) (by decide) ?_
    refine lv_lload_n hx hb dn_M_one_52 rfl (lv_at hl 2 rfl) ?_
    refine lv_ldc2 hx hb hown (hg _ wn_10_228) dn_M_one_53 ?_
    refine lv_lxor hx hb dn_M_one_56 ?_
    refine lv_iload_n hx hb dn_M_one_57 rfl (lv_at hl 1 rfl) ?_
    obtain ⟨q_1, hc_2, hf⟩ := dc_b hf
    refine dc_calll (dc_runS (ar := 1) (As := [.int v1]) (rest := [.long ((v2 ^^^ (-1)))]) ⟨hx, hb, hml, hown, hg⟩ hK hN hT hS hA (ct_M_mask l dC dI cI cB cJ cZ cQ N H.size h0 a v1 s q_1 hc_2) hP hD wn_10_225 wn_10_226 wn_1_13 wn_10_227 rfl rfl (by decide +kernel) ⟨Nat.le_of_ble_eq_true rfl, Nat.le_of_ble_eq_true rfl⟩ rfl hl.1 rfl (Nat.le_of_ble_eq_true rfl) dn_M_one_58 ⟨Nat.le_of_ble_eq_true rfl, Nat.le_of_ble_eq_true rfl⟩) hP hD hS hA (fun r_3 _ H locs hw hP hD hS => ?_)
    have hw : r_3 = q_1.1 := hw
    subst hw
    refine lv_land hx hb dn_M_one_61 ?_
    rw [hQQ, ← Option.some.inj hf]
    exact xk_lret (w1 := fun u : Unit => (wM h0 a cI cB cJ cZ q_1.2)) () hx hb hr hlocks hK hS dn_M_one_62 hP hD rfl (Nat.le_refl _) (Nat.le_refl _)
  have hf := (if_neg h_4).symm.trans hf
  refine lv_lookup (off := 109) (tgt := 110) hx hb dn_M_one_1 (by decide) (by rw [lv_osw h_0 (by decide)]; rw [lv_osw h_1 (by decide)]; rw [lv_osw h_2 (by decide)]; rw [lv_osw h_3 (by decide)]; rw [lv_osw h_4 (by decide)]; rfl) (by decide) ?_
  refine lv_lconst (v := 0) hx hb dn_M_one_110 (by decide) ?_
  refine lv_lstore (lv' := [(4, .long 0), (0, .int v0), (1, .int v1), (2, .long v2)]) hx hb dn_M_one_111 hl (by decide) rfl (fun ls hl => ?_)
  refine lv_iconst (v := 0) hx hb dn_M_one_113 (by decide) ?_
  refine lv_istore (lv' := [(6, .int 0), (4, .long 0), (0, .int v0), (1, .int v1), (2, .long v2)]) hx hb dn_M_one_114 hl (by decide) rfl (fun ls hl => ?_)
  exact hd_116 N v1 v2 0 0 s hf H locs ls hP hD hS (lv_sub hl [3, 4, 1, 0] rfl)
theorem mn_M_below (N : Nat) (v0 : Int64) (v2 : Int64) (s : ms) (y : (Int32 × ms)) (hf : fn_M_below N v0 v2 s = some y) : gl y.2 = gl s := by
  unfold fn_M_below at hf
  have hm : gl s = gl s := rfl
  by_cases h : 0 ≤ (lg_cmp ((v0 ^^^ (-9223372036854775808))) ((v2 ^^^ (-9223372036854775808))))
  · have hf := (if_pos h).symm.trans hf
    exact (dc_e hf).trans hm
  · have hf := (if_neg h).symm.trans hf
    exact (dc_e hf).trans hm
set_option maxHeartbeats 8000000 in
set_option maxRecDepth 100000 in
theorem ct_M_below (l : Launch) (dC : Nat → ClassId) (dI : Nat → Nat → Nat) (cI cB cJ cZ cQ : ClassId) (N sz : Nat) (h0 : Nat) (a : Nat → Nat) (v0 : Int64) (v2 : Int64) (s : ms) (y : (Int32 × ms)) (hf : fn_M_below N v0 v2 s = some y) : Met l yn_M_below (xw yn_M_below bn_M_below 4 (some .boolean)) ({ frames := 0, cells := 0, slots := 0, locals := 0 }) (dc_P (dC, dI) xcl (xt cI cB cJ cZ cQ) [.long v0, .long v2] sz (wM h0 a cI cB cJ cZ s)) (xk_Qi (dC, dI) xcl (xt cI cB cJ cZ cQ) (fun (r : Int32) (_ : Unit) => r = y.1) (fun u : Unit => (wM h0 a cI cB cJ cZ y.2)) (va_A (wM h0 a cI cB cJ cZ s) sz)) 0 0 (va_A (wM h0 a cI cB cJ cZ s) sz) := by
  refine dc_of (QA := xk_Qi (dC, dI) xcl (xt cI cB cJ cZ cQ) (fun (r : Int32) (_ : Unit) => r = y.1) (fun u : Unit => (wM h0 a cI cB cJ cZ y.2))) (by decide) (Nat.le_of_ble_eq_true rfl) ?_
  intro p e s0 m below meth c hx hb hml hown hg hr hlocks hin hP hK hN A hA hD hT ls hl
  have hown : s0.vm.findClass rn_M = some m.cls := hown
  obtain ⟨H, hH⟩ : ∃ z, z = s0.heap := ⟨_, rfl⟩
  rw [← hH] at hP
  have hS : va_S A s0.heap H [] := by rw [hH]; exact va_S.rf
  suffices kk : ∀ QQ : State → Prop, QQ = MQ below (xk_Qi (dC, dI) xcl (xt cI cB cJ cZ cQ) (fun (r : Int32) (_ : Unit) => r = y.1) (fun u : Unit => (wM h0 a cI cB cJ cZ y.2)) A) [.long v0, .long v2].toArray s0 0 0 A → dcC p l e ({ frames := 0, cells := 0, slots := 0, locals := 0 }) s0 m [.long v0, .long v2].toArray below meth c QQ (dC, dI) A (wM h0 a cI cB cJ cZ s) 0 4 [(0, .long v0), (2, .long v2)] [] by
    have k9 := kk _ rfl H [] ls hP hD hS hl
    rw [hH] at k9; exact k9
  clear hP hD hS hl hH H ls
  intro QQ hQQ
  intro H locs ls hP hD hS hl
  unfold fn_M_below at hf
  refine lv_lload_n hx hb dn_M_below_0 rfl (lv_at hl 0 rfl) ?_
  refine lv_ldc2 hx hb hown (hg _ wn_10_238) dn_M_below_1 ?_
  refine lv_lxor hx hb dn_M_below_4 ?_
  refine lv_lload_n hx hb dn_M_below_5 rfl (lv_at hl 1 rfl) ?_
  refine lv_ldc2 hx hb hown (hg _ wn_10_238) dn_M_below_6 ?_
  refine lv_lxor hx hb dn_M_below_9 ?_
  refine W.lcmp hx hb dn_M_below_10 ?_
  refine lv_if_ge (tgt := 18) hx hb dn_M_below_11 (by decide) (fun h => ?_) (fun h => ?_)
  · have hf := (if_pos h).symm.trans hf
    refine lv_iconst (v := 0) hx hb dn_M_below_18 (by decide) ?_
    rw [hQQ, ← Option.some.inj hf]
    exact xk_zret (w1 := fun u : Unit => (wM h0 a cI cB cJ cZ s)) () hx hb hr rfl hlocks hK hS dn_M_below_19 hP hD rfl (Nat.le_refl _) (Nat.le_refl _)
  · have hf := (if_neg h).symm.trans hf
    refine lv_iconst (v := 1) hx hb dn_M_below_14 (by decide) ?_
    refine lv_goto (tgt := 19) hx hb dn_M_below_15 (by decide) ?_
    rw [hQQ, ← Option.some.inj hf]
    exact xk_zret (w1 := fun u : Unit => (wM h0 a cI cB cJ cZ s)) () hx hb hr rfl hlocks hK hS dn_M_below_19 hP hD rfl (Nat.le_refl _) (Nat.le_refl _)
theorem mn_M_two (N : Nat) (v0 : Int32) (v1 : Int32) (v2 : Int64) (v4 : Int64) (s : ms) (y : (Int64 × ms)) (hf : fn_M_two N v0 v1 v2 v4 s = some y) : gl y.2 = gl s := by
  unfold fn_M_two at hf
  have hm : gl s = gl s := rfl
  by_cases h_0 : v0 = 38
  · have hf := (if_pos h_0).symm.trans hf
    exact (dc_e hf).trans hm
  have hf := (if_neg h_0).symm.trans hf
  by_cases h_1 : v0 = 43
  · have hf := (if_pos h_1).symm.trans hf
    obtain ⟨q_1, hc_2, hf⟩ := dc_b hf
    have hm := (mn_M_mask N v1 s q_1 hc_2).trans hm
    exact (dc_e hf).trans hm
  have hf := (if_neg h_1).symm.trans hf
  by_cases h_2 : v0 = 45
  · have hf := (if_pos h_2).symm.trans hf
    obtain ⟨q_1, hc_2, hf⟩ := dc_b hf
    have hm := (mn_M_mask N v1 s q_1 hc_2).trans hm
    exact (dc_e hf).trans hm
  have hf := (if_neg h_2).symm.trans hf
  by_cases h_3 : v0 = 60
  · have hf := (if_pos h_3).symm.trans hf
    obtain ⟨q_1, hc_2, hf⟩ := dc_b hf
    have hm := (mn_M_below N v2 v4 s q_1 hc_2).trans hm
    by_cases h : q_1.1 = 0
    · have hf := (if_pos h).symm.trans hf
      exact (dc_e hf).trans hm
    · have hf := (if_neg h).symm.trans hf
      exact (dc_e hf).trans hm
  have hf := (if_neg h_3).symm.trans hf
  by_cases h_4 : v0 = 62
  · have hf := (if_pos h_4).symm.trans hf
    obtain ⟨q_1, hc_2, hf⟩ := dc_b hf
    have hm := (mn_M_below N v4 v2 s q_1 hc_2).trans hm
    by_cases h : q_1.1 = 0
    · have hf := (if_pos h).symm.trans hf
      exact (dc_e hf).trans hm
    · have hf := (if_neg h).symm.trans hf
      exact (dc_e hf).trans hm
  have hf := (if_neg h_4).symm.trans hf
  by_cases h_5 : v0 = 94
  · have hf := (if_pos h_5).symm.trans hf
    exact (dc_e hf).trans hm
  have hf := (if_neg h_5).symm.trans hf
  by_cases h_6 : v0 = 124
  · have hf := (if_pos h_6).symm.trans hf
    exact (dc_e hf).trans hm
  have hf := (if_neg h_6).symm.trans hf
  by_cases h_7 : v0 = 256
  · have hf := (if_pos h_7).symm.trans hf
    by_cases h : (lg_cmp v2 0) = 0
    · have hf := (if_pos h).symm.trans hf
      exact (dc_e hf).trans hm
    · have hf := (if_neg h).symm.trans hf
      by_cases h : (lg_cmp v4 0) = 0
      · have hf := (if_pos h).symm.trans hf
        exact (dc_e hf).trans hm
      · have hf := (if_neg h).symm.trans hf
        exact (dc_e hf).trans hm
  have hf := (if_neg h_7).symm.trans hf
  by_cases h_8 : v0 = 257
  · have hf := (if_pos h_8).symm.trans hf
    by_cases h : (lg_cmp v2 0) = 0
    · have hf := (if_pos h).symm.trans hf
      by_cases h : (lg_cmp v4 0) = 0
      · have hf := (if_pos h).symm.trans hf
        exact (dc_e hf).trans hm
      · have hf := (if_neg h).symm.trans hf
        exact (dc_e hf).trans hm
    · have hf := (if_neg h).symm.trans hf
      exact (dc_e hf).trans hm
  have hf := (if_neg h_8).symm.trans hf
  by_cases h_9 : v0 = 258
  · have hf := (if_pos h_9).symm.trans hf
    by_cases h : (lg_cmp v2 v4) = 0
    · have hf := (if_pos h).symm.trans hf
      exact (dc_e hf).trans hm
    · have hf := (if_neg h).symm.trans hf
      exact (dc_e hf).trans hm
  have hf := (if_neg h_9).symm.trans hf
  by_cases h_10 : v0 = 259
  · have hf := (if_pos h_10).symm.trans hf
    by_cases h : (lg_cmp v2 v4) = 0
    · have hf := (if_pos h).symm.trans hf
      exact (dc_e hf).trans hm
    · have hf := (if_neg h).symm.trans hf
      exact (dc_e hf).trans hm
  have hf := (if_neg h_10).symm.trans hf
  by_cases h_11 : v0 = 260
  · have hf := (if_pos h_11).symm.trans hf
    obtain ⟨q_1, hc_2, hf⟩ := dc_b hf
    have hm := (mn_M_below N v4 v2 s q_1 hc_2).trans hm
    by_cases h : q_1.1 = 0
    · have hf := (if_pos h).symm.trans hf
      exact (dc_e hf).trans hm
    · have hf := (if_neg h).symm.trans hf
      exact (dc_e hf).trans hm
  have hf := (if_neg h_11).symm.trans hf
  by_cases h_12 : v0 = 261
  · have hf := (if_pos h_12).symm.trans hf
    obtain ⟨q_1, hc_2, hf⟩ := dc_b hf
    have hm := (mn_M_below N v2 v4 s q_1 hc_2).trans hm
    by_cases h : q_1.1 = 0
    · have hf := (if_pos h).symm.trans hf
      exact (dc_e hf).trans hm
    · have hf := (if_neg h).symm.trans hf
      exact (dc_e hf).trans hm
  have hf := (if_neg h_12).symm.trans hf
  by_cases h_13 : v0 = 262
  · have hf := (if_pos h_13).symm.trans hf
    by_cases h : (lg_cmp v4 0) < 0
    · have hf := (if_pos h).symm.trans hf
      exact (dc_e hf).trans hm
    · have hf := (if_neg h).symm.trans hf
      by_cases h : (lg_cmp v4 63) ≤ 0
      · have hf := (if_pos h).symm.trans hf
        obtain ⟨q_1, hc_2, hf⟩ := dc_b hf
        have hm := (mn_M_mask N v1 s q_1 hc_2).trans hm
        exact (dc_e hf).trans hm
      · have hf := (if_neg h).symm.trans hf
        exact (dc_e hf).trans hm
  have hf := (if_neg h_13).symm.trans hf
  by_cases h_14 : v0 = 263
  · have hf := (if_pos h_14).symm.trans hf
    by_cases h : (lg_cmp v4 0) < 0
    · have hf := (if_pos h).symm.trans hf
      exact (dc_e hf).trans hm
    · have hf := (if_neg h).symm.trans hf
      by_cases h : (lg_cmp v4 63) ≤ 0
      · have hf := (if_pos h).symm.trans hf
        exact (dc_e hf).trans hm
      · have hf := (if_neg h).symm.trans hf
        exact (dc_e hf).trans hm
  have hf := (if_neg h_14).symm.trans hf
  obtain ⟨q_1, hc_2, hf⟩ := dc_b hf
  have hm := (mn_M_mask N v1 s q_1 hc_2).trans hm
  exact (dc_e hf).trans hm
set_option maxHeartbeats 8000000 in
set_option maxRecDepth 100000 in
theorem ct_M_two (l : Launch) (dC : Nat → ClassId) (dI : Nat → Nat → Nat) (cI cB cJ cZ cQ : ClassId) (N sz : Nat) (h0 : Nat) (a : Nat → Nat) (v0 : Int32) (v1 : Int32) (v2 : Int64) (v4 : Int64) (s : ms) (y : (Int64 × ms)) (hf : fn_M_two N v0 v1 v2 v4 s = some y) : Met l yn_M_two (xw yn_M_two bn_M_two 6 (some .long)) ({ frames := 1, cells := 0, slots := 0, locals := 23 }) (dc_P (dC, dI) xcl (xt cI cB cJ cZ cQ) [.int v0, .int v1, .long v2, .long v4] sz (wM h0 a cI cB cJ cZ s)) (xk_Ql (dC, dI) xcl (xt cI cB cJ cZ cQ) (fun (r : Int64) (_ : Unit) => r = y.1) (fun u : Unit => (wM h0 a cI cB cJ cZ y.2)) (va_A (wM h0 a cI cB cJ cZ s) sz)) 0 0 (va_A (wM h0 a cI cB cJ cZ s) sz) := by
  refine dc_of (QA := xk_Ql (dC, dI) xcl (xt cI cB cJ cZ cQ) (fun (r : Int64) (_ : Unit) => r = y.1) (fun u : Unit => (wM h0 a cI cB cJ cZ y.2))) (by decide) (Nat.le_of_ble_eq_true rfl) ?_
  intro p e s0 m below meth c hx hb hml hown hg hr hlocks hin hP hK hN A hA hD hT ls hl
  have hown : s0.vm.findClass rn_M = some m.cls := hown
  obtain ⟨H, hH⟩ : ∃ z, z = s0.heap := ⟨_, rfl⟩
  rw [← hH] at hP
  have hS : va_S A s0.heap H [] := by rw [hH]; exact va_S.rf
  suffices kk : ∀ QQ : State → Prop, QQ = MQ below (xk_Ql (dC, dI) xcl (xt cI cB cJ cZ cQ) (fun (r : Int64) (_ : Unit) => r = y.1) (fun u : Unit => (wM h0 a cI cB cJ cZ y.2)) A) [.int v0, .int v1, .long v2, .long v4].toArray s0 0 0 A → dcC p l e ({ frames := 1, cells := 0, slots := 0, locals := 23 }) s0 m [.int v0, .int v1, .long v2, .long v4].toArray below meth c QQ (dC, dI) A (wM h0 a cI cB cJ cZ s) 0 6 [(0, .int v0), (1, .int v1), (2, .long v2), (4, .long v4)] [] by
    have k9 := kk _ rfl H [] ls hP hD hS hl
    rw [hH] at k9; exact k9
  clear hP hD hS hl hH H ls
  intro QQ hQQ
  intro H locs ls hP hD hS hl
  unfold fn_M_two at hf
  refine lv_iload_n hx hb dn_M_two_0 rfl (lv_at hl 0 rfl) ?_
  by_cases h_0 : v0 = 38
  · have hf := (if_pos h_0).symm.trans hf
    refine xk_ti (y := 38) h_0 ?_
    refine lv_lookup (off := 179) (tgt := 180) hx hb dn_M_two_1 (by decide) (by decide) (by decide) ?_
    refine lv_lload_n hx hb dn_M_two_180 rfl (lv_at hl 2 rfl) ?_
    refine lv_lload hx hb dn_M_two_181 (lv_at hl 3 rfl) ?_
    refine lv_land hx hb dn_M_two_183 ?_
    rw [hQQ, ← Option.some.inj hf]
    exact xk_lret (w1 := fun u : Unit => (wM h0 a cI cB cJ cZ s)) () hx hb hr hlocks hK hS dn_M_two_184 hP hD rfl (Nat.le_refl _) (Nat.le_refl _)
  have hf := (if_neg h_0).symm.trans hf
  by_cases h_1 : v0 = 43
  · have hf := (if_pos h_1).symm.trans hf
    refine xk_ti (y := 43) h_1 ?_
    refine lv_lookup (off := 327) (tgt := 328) hx hb dn_M_two_1 (by decide) (by decide) (by decide) ?_
    refine lv_lload_n hx hb dn_M_two_328 rfl (lv_at hl 2 rfl) ?_
    refine lv_lload hx hb dn_M_two_329 (lv_at hl 3 rfl) ?_
    refine lv_ladd hx hb dn_M_two_331 ?_
    refine lv_iload_n hx hb dn_M_two_332 rfl (lv_at hl 1 rfl) ?_
    obtain ⟨q_1, hc_2, hf⟩ := dc_b hf
    refine dc_calll (dc_runS (ar := 1) (As := [.int v1]) (rest := [.long ((v2 + v4))]) ⟨hx, hb, hml, hown, hg⟩ hK hN hT hS hA (ct_M_mask l dC dI cI cB cJ cZ cQ N H.size h0 a v1 s q_1 hc_2) hP hD wn_10_225 wn_10_226 wn_1_13 wn_10_227 rfl rfl (by decide +kernel) ⟨Nat.le_of_ble_eq_true rfl, Nat.le_of_ble_eq_true rfl⟩ rfl hl.1 rfl (Nat.le_of_ble_eq_true rfl) dn_M_two_333 ⟨Nat.le_of_ble_eq_true rfl, Nat.le_of_ble_eq_true rfl⟩) hP hD hS hA (fun r_3 _ H locs hw hP hD hS => ?_)
    have hw : r_3 = q_1.1 := hw
    subst hw
    refine lv_land hx hb dn_M_two_336 ?_
    rw [hQQ, ← Option.some.inj hf]
    exact xk_lret (w1 := fun u : Unit => (wM h0 a cI cB cJ cZ q_1.2)) () hx hb hr hlocks hK hS dn_M_two_337 hP hD rfl (Nat.le_refl _) (Nat.le_refl _)
  have hf := (if_neg h_1).symm.trans hf
  by_cases h_2 : v0 = 45
  · have hf := (if_pos h_2).symm.trans hf
    refine xk_ti (y := 45) h_2 ?_
    refine lv_lookup (off := 337) (tgt := 338) hx hb dn_M_two_1 (by decide) (by decide) (by decide) ?_
    refine lv_lload_n hx hb dn_M_two_338 rfl (lv_at hl 2 rfl) ?_
    refine lv_lload hx hb dn_M_two_339 (lv_at hl 3 rfl) ?_
    refine lv_lsub hx hb dn_M_two_341 ?_
    refine lv_iload_n hx hb dn_M_two_342 rfl (lv_at hl 1 rfl) ?_
    obtain ⟨q_1, hc_2, hf⟩ := dc_b hf
    refine dc_calll (dc_runS (ar := 1) (As := [.int v1]) (rest := [.long ((v2 - v4))]) ⟨hx, hb, hml, hown, hg⟩ hK hN hT hS hA (ct_M_mask l dC dI cI cB cJ cZ cQ N H.size h0 a v1 s q_1 hc_2) hP hD wn_10_225 wn_10_226 wn_1_13 wn_10_227 rfl rfl (by decide +kernel) ⟨Nat.le_of_ble_eq_true rfl, Nat.le_of_ble_eq_true rfl⟩ rfl hl.1 rfl (Nat.le_of_ble_eq_true rfl) dn_M_two_343 ⟨Nat.le_of_ble_eq_true rfl, Nat.le_of_ble_eq_true rfl⟩) hP hD hS hA (fun r_3 _ H locs hw hP hD hS => ?_)
    have hw : r_3 = q_1.1 := hw
    subst hw
    refine lv_land hx hb dn_M_two_346 ?_
    rw [hQQ, ← Option.some.inj hf]
    exact xk_lret (w1 := fun u : Unit => (wM h0 a cI cB cJ cZ q_1.2)) () hx hb hr hlocks hK hS dn_M_two_347 hP hD rfl (Nat.le_refl _) (Nat.le_refl _)
  have hf := (if_neg h_2).symm.trans hf
  by_cases h_3 : v0 = 60
  · have hf := (if_pos h_3).symm.trans hf
    refine xk_ti (y := 60) h_3 ?_
    refine lv_lookup (off := 210) (tgt := 211) hx hb dn_M_two_1 (by decide) (by decide) (by decide) ?_
    refine lv_lload_n hx hb dn_M_two_211 rfl (lv_at hl 2 rfl) ?_
    refine lv_lload hx hb dn_M_two_212 (lv_at hl 3 rfl) ?_
    obtain ⟨q_1, hc_2, hf⟩ := dc_b hf
    refine dc_calli (dc_runS (ar := 2) (As := [.long v2, .long v4]) (rest := []) ⟨hx, hb, hml, hown, hg⟩ hK hN hT hS hA (ct_M_below l dC dI cI cB cJ cZ cQ N H.size h0 a v2 v4 s q_1 hc_2) hP hD wn_10_235 wn_10_236 wn_1_13 wn_10_237 rfl rfl (by decide +kernel) ⟨Nat.le_of_ble_eq_true rfl, Nat.le_of_ble_eq_true rfl⟩ rfl hl.1 rfl (Nat.le_of_ble_eq_true rfl) dn_M_two_214 ⟨Nat.le_of_ble_eq_true rfl, Nat.le_of_ble_eq_true rfl⟩) hP hD hS hA (fun r_3 _ H locs hw hP hD hS => ?_)
    have hw : r_3 = q_1.1 := hw
    subst hw
    refine lv_if_eq (tgt := 224) hx hb dn_M_two_217 (by decide) (fun h => ?_) (fun h => ?_)
    · have hf := (if_pos h).symm.trans hf
      refine lv_lconst (v := 0) hx hb dn_M_two_224 (by decide) ?_
      rw [hQQ, ← Option.some.inj hf]
      exact xk_lret (w1 := fun u : Unit => (wM h0 a cI cB cJ cZ q_1.2)) () hx hb hr hlocks hK hS dn_M_two_225 hP hD rfl (Nat.le_refl _) (Nat.le_refl _)
    · have hf := (if_neg h).symm.trans hf
      refine lv_lconst (v := 1) hx hb dn_M_two_220 (by decide) ?_
      refine lv_goto (tgt := 225) hx hb dn_M_two_221 (by decide) ?_
      rw [hQQ, ← Option.some.inj hf]
      exact xk_lret (w1 := fun u : Unit => (wM h0 a cI cB cJ cZ q_1.2)) () hx hb hr hlocks hK hS dn_M_two_225 hP hD rfl (Nat.le_refl _) (Nat.le_refl _)
  have hf := (if_neg h_3).symm.trans hf
  by_cases h_4 : v0 = 62
  · have hf := (if_pos h_4).symm.trans hf
    refine xk_ti (y := 62) h_4 ?_
    refine lv_lookup (off := 240) (tgt := 241) hx hb dn_M_two_1 (by decide) (by decide) (by decide) ?_
    refine lv_lload hx hb dn_M_two_241 (lv_at hl 3 rfl) ?_
    refine lv_lload_n hx hb dn_M_two_243 rfl (lv_at hl 2 rfl) ?_
    obtain ⟨q_1, hc_2, hf⟩ := dc_b hf
    refine dc_calli (dc_runS (ar := 2) (As := [.long v4, .long v2]) (rest := []) ⟨hx, hb, hml, hown, hg⟩ hK hN hT hS hA (ct_M_below l dC dI cI cB cJ cZ cQ N H.size h0 a v4 v2 s q_1 hc_2) hP hD wn_10_235 wn_10_236 wn_1_13 wn_10_237 rfl rfl (by decide +kernel) ⟨Nat.le_of_ble_eq_true rfl, Nat.le_of_ble_eq_true rfl⟩ rfl hl.1 rfl (Nat.le_of_ble_eq_true rfl) dn_M_two_244 ⟨Nat.le_of_ble_eq_true rfl, Nat.le_of_ble_eq_true rfl⟩) hP hD hS hA (fun r_3 _ H locs hw hP hD hS => ?_)
    have hw : r_3 = q_1.1 := hw
    subst hw
    refine lv_if_eq (tgt := 254) hx hb dn_M_two_247 (by decide) (fun h => ?_) (fun h => ?_)
    · have hf := (if_pos h).symm.trans hf
      refine lv_lconst (v := 0) hx hb dn_M_two_254 (by decide) ?_
      rw [hQQ, ← Option.some.inj hf]
      exact xk_lret (w1 := fun u : Unit => (wM h0 a cI cB cJ cZ q_1.2)) () hx hb hr hlocks hK hS dn_M_two_255 hP hD rfl (Nat.le_refl _) (Nat.le_refl _)
    · have hf := (if_neg h).symm.trans hf
      refine lv_lconst (v := 1) hx hb dn_M_two_250 (by decide) ?_
      refine lv_goto (tgt := 255) hx hb dn_M_two_251 (by decide) ?_
      rw [hQQ, ← Option.some.inj hf]
      exact xk_lret (w1 := fun u : Unit => (wM h0 a cI cB cJ cZ q_1.2)) () hx hb hr hlocks hK hS dn_M_two_255 hP hD rfl (Nat.le_refl _) (Nat.le_refl _)
  have hf := (if_neg h_4).symm.trans hf
  by_cases h_5 : v0 = 94
  · have hf := (if_pos h_5).symm.trans hf
    refine xk_ti (y := 94) h_5 ?_
    refine lv_lookup (off := 174) (tgt := 175) hx hb dn_M_two_1 (by decide) (by decide) (by decide) ?_
    refine lv_lload_n hx hb dn_M_two_175 rfl (lv_at hl 2 rfl) ?_
    refine lv_lload hx hb dn_M_two_176 (lv_at hl 3 rfl) ?_
    refine lv_lxor hx hb dn_M_two_178 ?_
    rw [hQQ, ← Option.some.inj hf]
    exact xk_lret (w1 := fun u : Unit => (wM h0 a cI cB cJ cZ s)) () hx hb hr hlocks hK hS dn_M_two_179 hP hD rfl (Nat.le_refl _) (Nat.le_refl _)
  have hf := (if_neg h_5).symm.trans hf
  by_cases h_6 : v0 = 124
  · have hf := (if_pos h_6).symm.trans hf
    refine xk_ti (y := 124) h_6 ?_
    refine lv_lookup (off := 169) (tgt := 170) hx hb dn_M_two_1 (by decide) (by decide) (by decide) ?_
    refine lv_lload_n hx hb dn_M_two_170 rfl (lv_at hl 2 rfl) ?_
    refine lv_lload hx hb dn_M_two_171 (lv_at hl 3 rfl) ?_
    refine lv_lor hx hb dn_M_two_173 ?_
    rw [hQQ, ← Option.some.inj hf]
    exact xk_lret (w1 := fun u : Unit => (wM h0 a cI cB cJ cZ s)) () hx hb hr hlocks hK hS dn_M_two_174 hP hD rfl (Nat.le_refl _) (Nat.le_refl _)
  have hf := (if_neg h_6).symm.trans hf
  by_cases h_7 : v0 = 256
  · have hf := (if_pos h_7).symm.trans hf
    refine xk_ti (y := 256) h_7 ?_
    refine lv_lookup (off := 150) (tgt := 151) hx hb dn_M_two_1 (by decide) (by decide) (by decide) ?_
    refine lv_lload_n hx hb dn_M_two_151 rfl (lv_at hl 2 rfl) ?_
    refine lv_lconst (v := 0) hx hb dn_M_two_152 (by decide) ?_
    refine W.lcmp hx hb dn_M_two_153 ?_
    refine lv_if_eq (tgt := 168) hx hb dn_M_two_154 (by decide) (fun h => ?_) (fun h => ?_)
    · have hf := (if_pos h).symm.trans hf
      refine lv_lconst (v := 0) hx hb dn_M_two_168 (by decide) ?_
      rw [hQQ, ← Option.some.inj hf]
      exact xk_lret (w1 := fun u : Unit => (wM h0 a cI cB cJ cZ s)) () hx hb hr hlocks hK hS dn_M_two_169 hP hD rfl (Nat.le_refl _) (Nat.le_refl _)
    · have hf := (if_neg h).symm.trans hf
      refine lv_lload hx hb dn_M_two_157 (lv_at hl 3 rfl) ?_
      refine lv_lconst (v := 0) hx hb dn_M_two_159 (by decide) ?_
      refine W.lcmp hx hb dn_M_two_160 ?_
      refine lv_if_eq (tgt := 168) hx hb dn_M_two_161 (by decide) (fun h => ?_) (fun h => ?_)
      · have hf := (if_pos h).symm.trans hf
        refine lv_lconst (v := 0) hx hb dn_M_two_168 (by decide) ?_
        rw [hQQ, ← Option.some.inj hf]
        exact xk_lret (w1 := fun u : Unit => (wM h0 a cI cB cJ cZ s)) () hx hb hr hlocks hK hS dn_M_two_169 hP hD rfl (Nat.le_refl _) (Nat.le_refl _)
      · have hf := (if_neg h).symm.trans hf
        refine lv_lconst (v := 1) hx hb dn_M_two_164 (by decide) ?_
        refine lv_goto (tgt := 169) hx hb dn_M_two_165 (by decide) ?_
        rw [hQQ, ← Option.some.inj hf]
        exact xk_lret (w1 := fun u : Unit => (wM h0 a cI cB cJ cZ s)) () hx hb hr hlocks hK hS dn_M_two_169 hP hD rfl (Nat.le_refl _) (Nat.le_refl _)
  have hf := (if_neg h_7).symm.trans hf
  by_cases h_8 : v0 = 257
  · have hf := (if_pos h_8).symm.trans hf
    refine xk_ti (y := 257) h_8 ?_
    refine lv_lookup (off := 131) (tgt := 132) hx hb dn_M_two_1 (by decide) (by decide) (by decide) ?_
    refine lv_lload_n hx hb dn_M_two_132 rfl (lv_at hl 2 rfl) ?_
    refine lv_lconst (v := 0) hx hb dn_M_two_133 (by decide) ?_
    refine W.lcmp hx hb dn_M_two_134 ?_
    refine lv_if_ne (tgt := 145) hx hb dn_M_two_135 (by decide) (fun h => ?_) (fun h => ?_)
    · have hf := (if_neg h).symm.trans hf
      refine lv_lconst (v := 1) hx hb dn_M_two_145 (by decide) ?_
      refine lv_goto (tgt := 150) hx hb dn_M_two_146 (by decide) ?_
      rw [hQQ, ← Option.some.inj hf]
      exact xk_lret (w1 := fun u : Unit => (wM h0 a cI cB cJ cZ s)) () hx hb hr hlocks hK hS dn_M_two_150 hP hD rfl (Nat.le_refl _) (Nat.le_refl _)
    · have hf := (if_pos h).symm.trans hf
      refine lv_lload hx hb dn_M_two_138 (lv_at hl 3 rfl) ?_
      refine lv_lconst (v := 0) hx hb dn_M_two_140 (by decide) ?_
      refine W.lcmp hx hb dn_M_two_141 ?_
      refine lv_if_eq (tgt := 149) hx hb dn_M_two_142 (by decide) (fun h => ?_) (fun h => ?_)
      · have hf := (if_pos h).symm.trans hf
        refine lv_lconst (v := 0) hx hb dn_M_two_149 (by decide) ?_
        rw [hQQ, ← Option.some.inj hf]
        exact xk_lret (w1 := fun u : Unit => (wM h0 a cI cB cJ cZ s)) () hx hb hr hlocks hK hS dn_M_two_150 hP hD rfl (Nat.le_refl _) (Nat.le_refl _)
      · have hf := (if_neg h).symm.trans hf
        refine lv_lconst (v := 1) hx hb dn_M_two_145 (by decide) ?_
        refine lv_goto (tgt := 150) hx hb dn_M_two_146 (by decide) ?_
        rw [hQQ, ← Option.some.inj hf]
        exact xk_lret (w1 := fun u : Unit => (wM h0 a cI cB cJ cZ s)) () hx hb hr hlocks hK hS dn_M_two_150 hP hD rfl (Nat.le_refl _) (Nat.le_refl _)
  have hf := (if_neg h_8).symm.trans hf
  by_cases h_9 : v0 = 258
  · have hf := (if_pos h_9).symm.trans hf
    refine xk_ti (y := 258) h_9 ?_
    refine lv_lookup (off := 184) (tgt := 185) hx hb dn_M_two_1 (by decide) (by decide) (by decide) ?_
    refine lv_lload_n hx hb dn_M_two_185 rfl (lv_at hl 2 rfl) ?_
    refine lv_lload hx hb dn_M_two_186 (lv_at hl 3 rfl) ?_
    refine W.lcmp hx hb dn_M_two_188 ?_
    refine lv_if_ne (tgt := 196) hx hb dn_M_two_189 (by decide) (fun h => ?_) (fun h => ?_)
    · have hf := (if_neg h).symm.trans hf
      refine lv_lconst (v := 0) hx hb dn_M_two_196 (by decide) ?_
      rw [hQQ, ← Option.some.inj hf]
      exact xk_lret (w1 := fun u : Unit => (wM h0 a cI cB cJ cZ s)) () hx hb hr hlocks hK hS dn_M_two_197 hP hD rfl (Nat.le_refl _) (Nat.le_refl _)
    · have hf := (if_pos h).symm.trans hf
      refine lv_lconst (v := 1) hx hb dn_M_two_192 (by decide) ?_
      refine lv_goto (tgt := 197) hx hb dn_M_two_193 (by decide) ?_
      rw [hQQ, ← Option.some.inj hf]
      exact xk_lret (w1 := fun u : Unit => (wM h0 a cI cB cJ cZ s)) () hx hb hr hlocks hK hS dn_M_two_197 hP hD rfl (Nat.le_refl _) (Nat.le_refl _)
  have hf := (if_neg h_9).symm.trans hf
  by_cases h_10 : v0 = 259
  · have hf := (if_pos h_10).symm.trans hf
    refine xk_ti (y := 259) h_10 ?_
    refine lv_lookup (off := 197) (tgt := 198) hx hb dn_M_two_1 (by decide) (by decide) (by decide) ?_
    refine lv_lload_n hx hb dn_M_two_198 rfl (lv_at hl 2 rfl) ?_
    refine lv_lload hx hb dn_M_two_199 (lv_at hl 3 rfl) ?_
    refine W.lcmp hx hb dn_M_two_201 ?_
    refine lv_if_eq (tgt := 209) hx hb dn_M_two_202 (by decide) (fun h => ?_) (fun h => ?_)
    · have hf := (if_pos h).symm.trans hf
      refine lv_lconst (v := 0) hx hb dn_M_two_209 (by decide) ?_
      rw [hQQ, ← Option.some.inj hf]
      exact xk_lret (w1 := fun u : Unit => (wM h0 a cI cB cJ cZ s)) () hx hb hr hlocks hK hS dn_M_two_210 hP hD rfl (Nat.le_refl _) (Nat.le_refl _)
    · have hf := (if_neg h).symm.trans hf
      refine lv_lconst (v := 1) hx hb dn_M_two_205 (by decide) ?_
      refine lv_goto (tgt := 210) hx hb dn_M_two_206 (by decide) ?_
      rw [hQQ, ← Option.some.inj hf]
      exact xk_lret (w1 := fun u : Unit => (wM h0 a cI cB cJ cZ s)) () hx hb hr hlocks hK hS dn_M_two_210 hP hD rfl (Nat.le_refl _) (Nat.le_refl _)
  have hf := (if_neg h_10).symm.trans hf
  by_cases h_11 : v0 = 260
  · have hf := (if_pos h_11).symm.trans hf
    refine xk_ti (y := 260) h_11 ?_
    refine lv_lookup (off := 225) (tgt := 226) hx hb dn_M_two_1 (by decide) (by decide) (by decide) ?_
    refine lv_lload hx hb dn_M_two_226 (lv_at hl 3 rfl) ?_
    refine lv_lload_n hx hb dn_M_two_228 rfl (lv_at hl 2 rfl) ?_
    obtain ⟨q_1, hc_2, hf⟩ := dc_b hf
    refine dc_calli (dc_runS (ar := 2) (As := [.long v4, .long v2]) (rest := []) ⟨hx, hb, hml, hown, hg⟩ hK hN hT hS hA (ct_M_below l dC dI cI cB cJ cZ cQ N H.size h0 a v4 v2 s q_1 hc_2) hP hD wn_10_235 wn_10_236 wn_1_13 wn_10_237 rfl rfl (by decide +kernel) ⟨Nat.le_of_ble_eq_true rfl, Nat.le_of_ble_eq_true rfl⟩ rfl hl.1 rfl (Nat.le_of_ble_eq_true rfl) dn_M_two_229 ⟨Nat.le_of_ble_eq_true rfl, Nat.le_of_ble_eq_true rfl⟩) hP hD hS hA (fun r_3 _ H locs hw hP hD hS => ?_)
    have hw : r_3 = q_1.1 := hw
    subst hw
    refine lv_if_eq (tgt := 239) hx hb dn_M_two_232 (by decide) (fun h => ?_) (fun h => ?_)
    · have hf := (if_pos h).symm.trans hf
      refine lv_lconst (v := 1) hx hb dn_M_two_239 (by decide) ?_
      rw [hQQ, ← Option.some.inj hf]
      exact xk_lret (w1 := fun u : Unit => (wM h0 a cI cB cJ cZ q_1.2)) () hx hb hr hlocks hK hS dn_M_two_240 hP hD rfl (Nat.le_refl _) (Nat.le_refl _)
    · have hf := (if_neg h).symm.trans hf
      refine lv_lconst (v := 0) hx hb dn_M_two_235 (by decide) ?_
      refine lv_goto (tgt := 240) hx hb dn_M_two_236 (by decide) ?_
      rw [hQQ, ← Option.some.inj hf]
      exact xk_lret (w1 := fun u : Unit => (wM h0 a cI cB cJ cZ q_1.2)) () hx hb hr hlocks hK hS dn_M_two_240 hP hD rfl (Nat.le_refl _) (Nat.le_refl _)
  have hf := (if_neg h_11).symm.trans hf
  by_cases h_12 : v0 = 261
  · have hf := (if_pos h_12).symm.trans hf
    refine xk_ti (y := 261) h_12 ?_
    refine lv_lookup (off := 255) (tgt := 256) hx hb dn_M_two_1 (by decide) (by decide) (by decide) ?_
    refine lv_lload_n hx hb dn_M_two_256 rfl (lv_at hl 2 rfl) ?_
    refine lv_lload hx hb dn_M_two_257 (lv_at hl 3 rfl) ?_
    obtain ⟨q_1, hc_2, hf⟩ := dc_b hf
    refine dc_calli (dc_runS (ar := 2) (As := [.long v2, .long v4]) (rest := []) ⟨hx, hb, hml, hown, hg⟩ hK hN hT hS hA (ct_M_below l dC dI cI cB cJ cZ cQ N H.size h0 a v2 v4 s q_1 hc_2) hP hD wn_10_235 wn_10_236 wn_1_13 wn_10_237 rfl rfl (by decide +kernel) ⟨Nat.le_of_ble_eq_true rfl, Nat.le_of_ble_eq_true rfl⟩ rfl hl.1 rfl (Nat.le_of_ble_eq_true rfl) dn_M_two_259 ⟨Nat.le_of_ble_eq_true rfl, Nat.le_of_ble_eq_true rfl⟩) hP hD hS hA (fun r_3 _ H locs hw hP hD hS => ?_)
    have hw : r_3 = q_1.1 := hw
    subst hw
    refine lv_if_eq (tgt := 269) hx hb dn_M_two_262 (by decide) (fun h => ?_) (fun h => ?_)
    · have hf := (if_pos h).symm.trans hf
      refine lv_lconst (v := 1) hx hb dn_M_two_269 (by decide) ?_
      rw [hQQ, ← Option.some.inj hf]
      exact xk_lret (w1 := fun u : Unit => (wM h0 a cI cB cJ cZ q_1.2)) () hx hb hr hlocks hK hS dn_M_two_270 hP hD rfl (Nat.le_refl _) (Nat.le_refl _)
    · have hf := (if_neg h).symm.trans hf
      refine lv_lconst (v := 0) hx hb dn_M_two_265 (by decide) ?_
      refine lv_goto (tgt := 270) hx hb dn_M_two_266 (by decide) ?_
      rw [hQQ, ← Option.some.inj hf]
      exact xk_lret (w1 := fun u : Unit => (wM h0 a cI cB cJ cZ q_1.2)) () hx hb hr hlocks hK hS dn_M_two_270 hP hD rfl (Nat.le_refl _) (Nat.le_refl _)
  have hf := (if_neg h_12).symm.trans hf
  by_cases h_13 : v0 = 262
  · have hf := (if_pos h_13).symm.trans hf
    refine xk_ti (y := 262) h_13 ?_
    refine lv_lookup (off := 270) (tgt := 271) hx hb dn_M_two_1 (by decide) (by decide) (by decide) ?_
    refine lv_lload hx hb dn_M_two_271 (lv_at hl 3 rfl) ?_
    refine lv_lconst (v := 0) hx hb dn_M_two_273 (by decide) ?_
    refine W.lcmp hx hb dn_M_two_274 ?_
    refine lv_if_lt (tgt := 287) hx hb dn_M_two_275 (by decide) (fun h => ?_) (fun h => ?_)
    · have hf := (if_pos h).symm.trans hf
      refine lv_lconst (v := 0) hx hb dn_M_two_287 (by decide) ?_
      refine lv_goto (tgt := 301) hx hb dn_M_two_288 (by decide) ?_
      rw [hQQ, ← Option.some.inj hf]
      exact xk_lret (w1 := fun u : Unit => (wM h0 a cI cB cJ cZ s)) () hx hb hr hlocks hK hS dn_M_two_301 hP hD rfl (Nat.le_refl _) (Nat.le_refl _)
    · have hf := (if_neg h).symm.trans hf
      refine lv_lload hx hb dn_M_two_278 (lv_at hl 3 rfl) ?_
      refine lv_ldc2 hx hb hown (hg _ wn_10_44) dn_M_two_280 ?_
      refine W.lcmp hx hb dn_M_two_283 ?_
      refine lv_if_le (tgt := 291) hx hb dn_M_two_284 (by decide) (fun h => ?_) (fun h => ?_)
      · have hf := (if_pos h).symm.trans hf
        refine lv_lload_n hx hb dn_M_two_291 rfl (lv_at hl 2 rfl) ?_
        refine lv_lload hx hb dn_M_two_292 (lv_at hl 3 rfl) ?_
        refine lv_l2i (v := Int64.toInt32 v4) hx hb dn_M_two_294 rfl ?_
        refine lv_lshl (v := (v2 : Int64) <<< ((Int32.toInt64 ((Int64.toInt32 v4))) &&& 63)) hx hb dn_M_two_295 rfl ?_
        refine lv_iload_n hx hb dn_M_two_296 rfl (lv_at hl 1 rfl) ?_
        obtain ⟨q_1, hc_2, hf⟩ := dc_b hf
        refine dc_calll (dc_runS (ar := 1) (As := [.int v1]) (rest := [.long (((v2 : Int64) <<< ((Int32.toInt64 ((Int64.toInt32 v4))) &&& 63)))]) ⟨hx, hb, hml, hown, hg⟩ hK hN hT hS hA (ct_M_mask l dC dI cI cB cJ cZ cQ N H.size h0 a v1 s q_1 hc_2) hP hD wn_10_225 wn_10_226 wn_1_13 wn_10_227 rfl rfl (by decide +kernel) ⟨Nat.le_of_ble_eq_true rfl, Nat.le_of_ble_eq_true rfl⟩ rfl hl.1 rfl (Nat.le_of_ble_eq_true rfl) dn_M_two_297 ⟨Nat.le_of_ble_eq_true rfl, Nat.le_of_ble_eq_true rfl⟩) hP hD hS hA (fun r_3 _ H locs hw hP hD hS => ?_)
        have hw : r_3 = q_1.1 := hw
        subst hw
        refine lv_land hx hb dn_M_two_300 ?_
        rw [hQQ, ← Option.some.inj hf]
        exact xk_lret (w1 := fun u : Unit => (wM h0 a cI cB cJ cZ q_1.2)) () hx hb hr hlocks hK hS dn_M_two_301 hP hD rfl (Nat.le_refl _) (Nat.le_refl _)
      · have hf := (if_neg h).symm.trans hf
        refine lv_lconst (v := 0) hx hb dn_M_two_287 (by decide) ?_
        refine lv_goto (tgt := 301) hx hb dn_M_two_288 (by decide) ?_
        rw [hQQ, ← Option.some.inj hf]
        exact xk_lret (w1 := fun u : Unit => (wM h0 a cI cB cJ cZ s)) () hx hb hr hlocks hK hS dn_M_two_301 hP hD rfl (Nat.le_refl _) (Nat.le_refl _)
  have hf := (if_neg h_13).symm.trans hf
  by_cases h_14 : v0 = 263
  · have hf := (if_pos h_14).symm.trans hf
    refine xk_ti (y := 263) h_14 ?_
    refine lv_lookup (off := 301) (tgt := 302) hx hb dn_M_two_1 (by decide) (by decide) (by decide) ?_
    refine lv_lload hx hb dn_M_two_302 (lv_at hl 3 rfl) ?_
    refine lv_lconst (v := 0) hx hb dn_M_two_304 (by decide) ?_
    refine W.lcmp hx hb dn_M_two_305 ?_
    refine lv_if_lt (tgt := 318) hx hb dn_M_two_306 (by decide) (fun h => ?_) (fun h => ?_)
    · have hf := (if_pos h).symm.trans hf
      refine lv_lconst (v := 0) hx hb dn_M_two_318 (by decide) ?_
      refine lv_goto (tgt := 327) hx hb dn_M_two_319 (by decide) ?_
      rw [hQQ, ← Option.some.inj hf]
      exact xk_lret (w1 := fun u : Unit => (wM h0 a cI cB cJ cZ s)) () hx hb hr hlocks hK hS dn_M_two_327 hP hD rfl (Nat.le_refl _) (Nat.le_refl _)
    · have hf := (if_neg h).symm.trans hf
      refine lv_lload hx hb dn_M_two_309 (lv_at hl 3 rfl) ?_
      refine lv_ldc2 hx hb hown (hg _ wn_10_44) dn_M_two_311 ?_
      refine W.lcmp hx hb dn_M_two_314 ?_
      refine lv_if_le (tgt := 322) hx hb dn_M_two_315 (by decide) (fun h => ?_) (fun h => ?_)
      · have hf := (if_pos h).symm.trans hf
        refine lv_lload_n hx hb dn_M_two_322 rfl (lv_at hl 2 rfl) ?_
        refine lv_lload hx hb dn_M_two_323 (lv_at hl 3 rfl) ?_
        refine lv_l2i (v := Int64.toInt32 v4) hx hb dn_M_two_325 rfl ?_
        refine lv_lushr (v := (Int64.toUInt64 v2 >>> (Int64.toUInt64 (Int32.toInt64 ((Int64.toInt32 v4))) &&& Int64.toUInt64 63)).toInt64) hx hb dn_M_two_326 rfl ?_
        rw [hQQ, ← Option.some.inj hf]
        exact xk_lret (w1 := fun u : Unit => (wM h0 a cI cB cJ cZ s)) () hx hb hr hlocks hK hS dn_M_two_327 hP hD rfl (Nat.le_refl _) (Nat.le_refl _)
      · have hf := (if_neg h).symm.trans hf
        refine lv_lconst (v := 0) hx hb dn_M_two_318 (by decide) ?_
        refine lv_goto (tgt := 327) hx hb dn_M_two_319 (by decide) ?_
        rw [hQQ, ← Option.some.inj hf]
        exact xk_lret (w1 := fun u : Unit => (wM h0 a cI cB cJ cZ s)) () hx hb hr hlocks hK hS dn_M_two_327 hP hD rfl (Nat.le_refl _) (Nat.le_refl _)
  have hf := (if_neg h_14).symm.trans hf
  refine lv_lookup (off := 347) (tgt := 348) hx hb dn_M_two_1 (by decide) (by rw [lv_osw h_0 (by decide)]; rw [lv_osw h_1 (by decide)]; rw [lv_osw h_2 (by decide)]; rw [lv_osw h_3 (by decide)]; rw [lv_osw h_4 (by decide)]; rw [lv_osw h_5 (by decide)]; rw [lv_osw h_6 (by decide)]; rw [lv_osw h_7 (by decide)]; rw [lv_osw h_8 (by decide)]; rw [lv_osw h_9 (by decide)]; rw [lv_osw h_10 (by decide)]; rw [lv_osw h_11 (by decide)]; rw [lv_osw h_12 (by decide)]; rw [lv_osw h_13 (by decide)]; rw [lv_osw h_14 (by decide)]; rfl) (by decide) ?_
  refine lv_lload_n hx hb dn_M_two_348 rfl (lv_at hl 2 rfl) ?_
  refine lv_lload hx hb dn_M_two_349 (lv_at hl 3 rfl) ?_
  refine lv_lmul hx hb dn_M_two_351 ?_
  refine lv_iload_n hx hb dn_M_two_352 rfl (lv_at hl 1 rfl) ?_
  obtain ⟨q_1, hc_2, hf⟩ := dc_b hf
  refine dc_calll (dc_runS (ar := 1) (As := [.int v1]) (rest := [.long ((v2 * v4))]) ⟨hx, hb, hml, hown, hg⟩ hK hN hT hS hA (ct_M_mask l dC dI cI cB cJ cZ cQ N H.size h0 a v1 s q_1 hc_2) hP hD wn_10_225 wn_10_226 wn_1_13 wn_10_227 rfl rfl (by decide +kernel) ⟨Nat.le_of_ble_eq_true rfl, Nat.le_of_ble_eq_true rfl⟩ rfl hl.1 rfl (Nat.le_of_ble_eq_true rfl) dn_M_two_353 ⟨Nat.le_of_ble_eq_true rfl, Nat.le_of_ble_eq_true rfl⟩) hP hD hS hA (fun r_3 _ H locs hw hP hD hS => ?_)
  have hw : r_3 = q_1.1 := hw
  subst hw
  refine lv_land hx hb dn_M_two_356 ?_
  rw [hQQ, ← Option.some.inj hf]
  exact xk_lret (w1 := fun u : Unit => (wM h0 a cI cB cJ cZ q_1.2)) () hx hb hr hlocks hK hS dn_M_two_357 hP hD rfl (Nat.le_refl _) (Nat.le_refl _)
