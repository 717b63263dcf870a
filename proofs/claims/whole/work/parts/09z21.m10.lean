theorem mo_M_assign_31 (N : Nat) (y : (Unit × ms)) (s : ms) (hf : bk_M_assign_31 N s = some y) : gl s ≤ gl y.2 := by
  unfold bk_M_assign_31 at hf
  have hm : gl s ≤ gl s := Nat.le_refl _
  obtain ⟨_, hf⟩ := dc_g hf
  obtain ⟨q_2, hc_3, hf⟩ := dc_b hf
  have hm := Nat.le_trans hm (Nat.le_of_eq (mn_M_fail N 22 (((s.1 5) (Int32.toNatClampNeg ((s.1 8 0))))) s q_2 hc_3).symm)
  exact Nat.le_trans hm (Nat.le_of_eq (dc_e hf).symm)
theorem mo_M_assign_137 (N : Nat) (y : (Unit × ms)) (x1 : Int32) (x3 : Int32) (s : ms) (hf : bk_M_assign_137 N x1 x3 s = some y) : gl s ≤ gl y.2 := by
  unfold bk_M_assign_137 at hf
  have hm : gl s ≤ gl s := Nat.le_refl _
  obtain ⟨_, hf⟩ := dc_g hf
  obtain ⟨_, hf⟩ := dc_g hf
  obtain ⟨_, hf⟩ := dc_g hf
  exact Nat.le_trans hm (Nat.le_of_eq (dc_e hf).symm)
theorem mo_M_assign_110 (N : Nat) (y : (Unit × ms)) (x1 : Int32) (x2 : Int32) (x3 : Int32) (t0 : Int32) (s : ms) (hf : bk_M_assign_110 N x1 x2 x3 t0 s = some y) : gl s ≤ gl y.2 := by
  unfold bk_M_assign_110 at hf
  have hm : gl s ≤ gl s := Nat.le_refl _
  by_cases h : (s.1 9 0) = 0
  · have hf := (if_pos h).symm.trans hf
    obtain ⟨_, hf⟩ := dc_g hf
    by_cases h : t0 = ((s.1 20) (Int32.toNatClampNeg x1))
    · have hf := (if_pos h).symm.trans hf
      exact Nat.le_trans hm (mo_M_assign_137 N y x1 x3 s hf)
    · have hf := (if_neg h).symm.trans hf
      obtain ⟨q_2, hc_3, hf⟩ := dc_b hf
      have hm := Nat.le_trans hm (Nat.le_of_eq (mn_M_fail N 30 x2 s q_2 hc_3).symm)
      exact Nat.le_trans hm (mo_M_assign_137 N y x1 x3 q_2.2 hf)
  · have hf := (if_neg h).symm.trans hf
    exact Nat.le_trans hm (mo_M_assign_137 N y x1 x3 s hf)
theorem mo_M_assign_71 (N : Nat) (y : (Unit × ms)) (x1 : Int32) (s : ms) (hf : bk_M_assign_71 N x1 s = some y) : gl s ≤ gl y.2 := by
  unfold bk_M_assign_71 at hf
  have hm : gl s ≤ gl s := Nat.le_refl _
  obtain ⟨_, hf⟩ := dc_g hf
  obtain ⟨q_2, hc_3, hf⟩ := dc_b hf
  have hm := Nat.le_trans hm (mn_M_exp N (upI (upI s 8 (fun _ => ((s.1 8 0) + 1))) 8 (fun _ => (((s.1 8 0) + 1) + 1))) q_2 hc_3)
  exact Nat.le_trans hm (mo_M_assign_110 N y x1 (((s.1 5) (Int32.toNatClampNeg (((s.1 8 0) + 1))))) ((s.1 42 0)) q_2.1 q_2.2 hf)
theorem mn_M_assign (N : Nat) (s1 : ms) (y : (Unit × ms)) (hf : fn_M_assign N s1 = some y) : gl s1 ≤ gl y.2 := by
  unfold fn_M_assign at hf
  have hm : gl s1 ≤ gl s1 := Nat.le_refl _
  obtain ⟨q_1, hc_2, hf⟩ := dc_b hf
  have hm := Nat.le_trans hm (Nat.le_of_eq (mn_M_here N (((s1.1 8 0) + 1)) (upI s1 8 (fun _ => ((s1.1 8 0) + 1))) q_1 hc_2).symm)
  by_cases h : q_1.1 < 0
  · have hf := (if_pos h).symm.trans hf
    exact Nat.le_trans hm (mo_M_assign_31 N y q_1.2 hf)
  · have hf := (if_neg h).symm.trans hf
    obtain ⟨q_4, hc_5, hf⟩ := dc_b hf
    have hm := Nat.le_trans hm (Nat.le_of_eq (mn_M_isDriven N q_1.1 q_1.2 q_4 hc_5).symm)
    by_cases h : q_4.1 = 0
    · have hf := (if_pos h).symm.trans hf
      exact Nat.le_trans hm (mo_M_assign_31 N y q_4.2 hf)
    · have hf := (if_neg h).symm.trans hf
      obtain ⟨_, hf⟩ := dc_g hf
      by_cases h : ((q_4.2.1 23) (Int32.toNatClampNeg q_1.1)) = 0
      · have hf := (if_pos h).symm.trans hf
        exact Nat.le_trans hm (mo_M_assign_71 N y q_1.1 q_4.2 hf)
      · have hf := (if_neg h).symm.trans hf
        obtain ⟨_, hf⟩ := dc_g hf
        obtain ⟨q_9, hc_10, hf⟩ := dc_b hf
        have hm := Nat.le_trans hm (Nat.le_of_eq (mn_M_fail N 31 (((q_4.2.1 5) (Int32.toNatClampNeg ((q_4.2.1 8 0))))) q_4.2 q_9 hc_10).symm)
        exact Nat.le_trans hm (mo_M_assign_71 N y q_1.1 q_9.2 hf)
set_option maxHeartbeats 8000000 in
set_option maxRecDepth 100000 in
theorem ct_M_assign (l : Launch) (dC : Nat → ClassId) (dI : Nat → Nat → Nat) (cI cB cJ cZ cQ : ClassId) (N sz : Nat) (h0 : Nat) (a : Nat → Nat) (s1 : ms) (y : (Unit × ms)) (hf : fn_M_assign N s1 = some y) : Met l yn_M_assign (xw yn_M_assign bn_M_assign 5 none) ({ frames := 406, cells := 2 * (gl y.2 - gl s1), slots := 2 * (gl y.2 - gl s1), locals := 9741 }) (dc_P (dC, dI) xcl (xt cI cB cJ cZ cQ) [.ref h0] sz (wM h0 a cI cB cJ cZ s1)) (xk_Qv (dC, dI) xcl (xt cI cB cJ cZ cQ) (fun _ : Nat → Nat => True) (fun u : Nat → Nat => (wM h0 u cI cB cJ cZ y.2)) (va_A (wM h0 a cI cB cJ cZ s1) sz)) (2 * (gl y.2 - gl s1)) (2 * (gl y.2 - gl s1)) (va_A (wM h0 a cI cB cJ cZ s1) sz) := by
  refine dc_of (QA := xk_Qv (dC, dI) xcl (xt cI cB cJ cZ cQ) (fun _ : Nat → Nat => True) (fun u : Nat → Nat => (wM h0 u cI cB cJ cZ y.2))) (by decide) (Nat.le_of_ble_eq_true rfl) ?_
  intro p e s0 m below meth c hx hb hml hown hg hr hlocks hin hP hK hN A hA hD hT ls hl
  have hown : s0.vm.findClass rn_M = some m.cls := hown
  obtain ⟨H, hH⟩ : ∃ z, z = s0.heap := ⟨_, rfl⟩
  rw [← hH] at hP
  have hS : va_S A s0.heap H [] := by rw [hH]; exact va_S.rf
  suffices kk : ∀ QQ : State → Prop, QQ = MQ below (xk_Qv (dC, dI) xcl (xt cI cB cJ cZ cQ) (fun _ : Nat → Nat => True) (fun u : Nat → Nat => (wM h0 u cI cB cJ cZ y.2)) A) [.ref h0].toArray s0 (2 * (gl y.2 - gl s1)) (2 * (gl y.2 - gl s1)) A → gl s1 ≤ gl s1 → dcG p l e ({ frames := 406, cells := 2 * (gl y.2 - gl s1), slots := 2 * (gl y.2 - gl s1), locals := 9741 }) s0 m [.ref h0].toArray below meth c QQ (dC, dI) A (fun a => (wM h0 a cI cB cJ cZ s1)) (2 * (gl s1 - gl s1)) 0 5 [(0, .ref h0)] [] by
    have k9 := kk _ rfl (Nat.le_refl _) a H [] ls hP hD hS hl
    rw [hH, Nat.sub_self] at k9; exact k9
  clear hP hD hS hl hH H ls
  intro QQ hQQ
  have bl_31 : ∀ (s : ms), bk_M_assign_31 N s = some y → gl s1 ≤ gl s → dcG p l e ({ frames := 406, cells := 2 * (gl y.2 - gl s1), slots := 2 * (gl y.2 - gl s1), locals := 9741 }) s0 m [.ref h0].toArray below meth c QQ (dC, dI) A (fun a => (wM h0 a cI cB cJ cZ s)) (2 * (gl s - gl s1)) 31 5 [(0, .ref h0)] [] := by
    intro s hf hge a H locs ls hP hD hS hl
    have hle := mo_M_assign_31 N y s hf
    unfold bk_M_assign_31 at hf
    refine lv_aload_n hx hb dn_M_assign_31 rfl (lv_at hl 0 rfl) ?_
    refine lv_bipush (v := 22) hx hb dn_M_assign_32 (by decide) ?_
    refine lv_aload_n hx hb dn_M_assign_34 rfl (lv_at hl 0 rfl) ?_
    refine va_get (D := (dC, dI)) (ci := 0) (v := .ref ((a 5))) (C := rn_M) (T := fn_M) (N := 91) hx hb hg in_M hown hK hP 0 rfl rfl 5 (by decide) (hg _ wn_8_78) (fun _ h9 => h9) rfl dn_M_assign_35 ?_
    refine lv_aload_n hx hb dn_M_assign_38 rfl (lv_at hl 0 rfl) ?_
    refine va_get (D := (dC, dI)) (ci := 0) (v := .int ((s.1 8 0))) (C := rn_M) (T := fn_M) (N := 91) hx hb hg in_M hown hK hP 0 rfl rfl 8 (by decide) (hg _ wn_8_81) (fun _ h9 => h9) rfl dn_M_assign_39 ?_
    obtain ⟨hg_1, hf⟩ := dc_g hf
    refine va_iald hx hb hK hP 3 0 rfl rfl hg_1 dn_M_assign_42 ?_
    refine xk_ti (y := ((s.1 5) (Int32.toNatClampNeg ((s.1 8 0))))) rfl ?_
    obtain ⟨q_2, hc_3, hf⟩ := dc_b hf
    have hme := mn_M_fail N 22 (((s.1 5) (Int32.toNatClampNeg ((s.1 8 0))))) s q_2 hc_3
    refine dc_callv (dc_runV (ar := 2) (As := [.int 22, .int (((s.1 5) (Int32.toNatClampNeg ((s.1 8 0)))))]) (rest := []) (ci := 0) (q0 := 0) ⟨hx, hb, hml, hown, hg⟩ hK hN hT hS hA (ct_M_fail l dC dI cI cB cJ cZ cQ N H.size h0 a 22 (((s.1 5) (Int32.toNatClampNeg ((s.1 8 0))))) s q_2 hc_3) hP hD rfl rfl wn_9_186 wn_9_188 sn_M_fail wn_1_13 wn_9_189 rfl rfl (by decide +kernel) ⟨Nat.le_of_ble_eq_true rfl, Nat.le_of_ble_eq_true rfl⟩ rfl hl.1 rfl (Nat.le_of_ble_eq_true rfl) dn_M_assign_43 (dc_rm0 hle)) hP hD hS hA (fun _ H locs hw hP hD hS => ?_)
    refine W.widen (k := 2 * (gl q_2.2 - gl s1)) (n := 2 * (gl q_2.2 - gl s1)) (dc_we hme) (dc_we hme) ?_
    have hge := Nat.le_trans hge (Nat.le_of_eq hme.symm)
    have hle := Nat.le_trans (Nat.le_of_eq hme) hle
    rw [hQQ, ← Option.some.inj hf]
    exact xk_vret (w1 := fun u : Nat → Nat => (wM h0 u cI cB cJ cZ q_2.2)) a hx hb hr hlocks hK hS dn_M_assign_46 hP hD trivial (Nat.le_refl _) (Nat.le_refl _)
  have bl_137 : ∀ (x1 : Int32) (x3 : Int32) (s : ms), bk_M_assign_137 N x1 x3 s = some y → gl s1 ≤ gl s → dcG p l e ({ frames := 406, cells := 2 * (gl y.2 - gl s1), slots := 2 * (gl y.2 - gl s1), locals := 9741 }) s0 m [.ref h0].toArray below meth c QQ (dC, dI) A (fun a => (wM h0 a cI cB cJ cZ s)) (2 * (gl s - gl s1)) 137 5 [(0, .ref h0), (1, .int x1), (3, .int x3)] [] := by
    intro x1 x3 s hf hge a H locs ls hP hD hS hl
    have hle := mo_M_assign_137 N y x1 x3 s hf
    unfold bk_M_assign_137 at hf
    refine lv_aload_n hx hb dn_M_assign_137 rfl (lv_at hl 0 rfl) ?_
    refine va_get (D := (dC, dI)) (ci := 0) (v := .ref ((a 23))) (C := rn_M) (T := fn_M) (N := 91) hx hb hg in_M hown hK hP 0 rfl rfl 23 (by decide) (hg _ wn_8_96) (fun _ h9 => h9) rfl dn_M_assign_138 ?_
    refine lv_iload_n hx hb dn_M_assign_141 rfl (lv_at hl 1 rfl) ?_
    refine lv_iconst (v := 1) hx hb dn_M_assign_142 (by decide) ?_
    obtain ⟨hg_1, hf⟩ := dc_g hf
    refine va_iast hx hb hK hP hD hS 14 0 rfl rfl hg_1 dn_M_assign_143 (fun H locs hP hD hS => ?_)
    have hP : va_P (dC, dI) xcl ((wM h0 a cI cB cJ cZ s).set 14 ((a 23), .inl (cI, 11000, .inl (upd (s.1 23) (Int32.toNatClampNeg x1) 1)))) H := hP
    have hD : va_D A ((wM h0 a cI cB cJ cZ s).set 14 ((a 23), .inl (cI, 11000, .inl (upd (s.1 23) (Int32.toNatClampNeg x1) 1)))) := hD
    have hP := wM_P_23 hP
    have hD := wM_D_23 hD
    refine lv_aload_n hx hb dn_M_assign_144 rfl (lv_at hl 0 rfl) ?_
    refine va_get (D := (dC, dI)) (ci := 0) (v := .ref ((a 24))) (C := rn_M) (T := fn_M) (N := 91) hx hb hg in_M hown hK hP 0 rfl rfl 24 (by decide) (hg _ wn_8_97) (fun _ h9 => h9) rfl dn_M_assign_145 ?_
    refine lv_iload_n hx hb dn_M_assign_148 rfl (lv_at hl 1 rfl) ?_
    refine lv_iload_n hx hb dn_M_assign_149 rfl (lv_at hl 2 rfl) ?_
    obtain ⟨hg_2, hf⟩ := dc_g hf
    refine va_iast hx hb hK hP hD hS 15 0 rfl rfl hg_2 dn_M_assign_150 (fun H locs hP hD hS => ?_)
    have hP : va_P (dC, dI) xcl ((wM h0 a cI cB cJ cZ (upI s 23 (upd (s.1 23) (Int32.toNatClampNeg x1) 1))).set 15 ((a 24), .inl (cI, 11000, .inl (upd (s.1 24) (Int32.toNatClampNeg x1) x3)))) H := hP
    have hD : va_D A ((wM h0 a cI cB cJ cZ (upI s 23 (upd (s.1 23) (Int32.toNatClampNeg x1) 1))).set 15 ((a 24), .inl (cI, 11000, .inl (upd (s.1 24) (Int32.toNatClampNeg x1) x3)))) := hD
    have hP := wM_P_24 hP
    have hD := wM_D_24 hD
    refine lv_aload_n hx hb dn_M_assign_151 rfl (lv_at hl 0 rfl) ?_
    refine va_get (D := (dC, dI)) (ci := 0) (v := .ref ((a 25))) (C := rn_M) (T := fn_M) (N := 91) hx hb hg in_M hown hK hP 0 rfl rfl 25 (by decide) (hg _ wn_8_98) (fun _ h9 => h9) rfl dn_M_assign_152 ?_
    refine lv_iload_n hx hb dn_M_assign_155 rfl (lv_at hl 1 rfl) ?_
    refine lv_aload_n hx hb dn_M_assign_156 rfl (lv_at hl 0 rfl) ?_
    refine va_get (D := (dC, dI)) (ci := 0) (v := .int ((s.1 42 0))) (C := rn_M) (T := fn_M) (N := 91) hx hb hg in_M hown hK hP 0 rfl rfl 42 (by decide) (hg _ wn_8_115) (fun _ h9 => h9) rfl dn_M_assign_157 ?_
    obtain ⟨hg_3, hf⟩ := dc_g hf
    refine va_iast hx hb hK hP hD hS 16 0 rfl rfl hg_3 dn_M_assign_160 (fun H locs hP hD hS => ?_)
    have hP : va_P (dC, dI) xcl ((wM h0 a cI cB cJ cZ (upI (upI s 23 (upd (s.1 23) (Int32.toNatClampNeg x1) 1)) 24 (upd (s.1 24) (Int32.toNatClampNeg x1) x3))).set 16 ((a 25), .inl (cI, 11000, .inl (upd (s.1 25) (Int32.toNatClampNeg x1) ((s.1 42 0)))))) H := hP
    have hD : va_D A ((wM h0 a cI cB cJ cZ (upI (upI s 23 (upd (s.1 23) (Int32.toNatClampNeg x1) 1)) 24 (upd (s.1 24) (Int32.toNatClampNeg x1) x3))).set 16 ((a 25), .inl (cI, 11000, .inl (upd (s.1 25) (Int32.toNatClampNeg x1) ((s.1 42 0)))))) := hD
    have hP := wM_P_25 hP
    have hD := wM_D_25 hD
    refine lv_aload_n hx hb dn_M_assign_161 rfl (lv_at hl 0 rfl) ?_
    refine lv_dup hx hb dn_M_assign_162 rfl ?_
    refine va_get (D := (dC, dI)) (ci := 0) (v := .int ((s.1 8 0))) (C := rn_M) (T := fn_M) (N := 91) hx hb hg in_M hown hK hP 0 rfl rfl 8 (by decide) (hg _ wn_8_81) (fun _ h9 => h9) rfl dn_M_assign_163 ?_
    refine lv_iconst (v := 1) hx hb dn_M_assign_166 (by decide) ?_
    refine lv_iadd hx hb dn_M_assign_167 ?_
    refine va_put (D := (dC, dI)) (ci := 0) (v := .int (((s.1 8 0) + 1))) (ty := .int) (C := rn_M) (T := fn_M) (N := 91) hx hb hg in_M tn_M tk_M nn_M hown hK hP hD hS 0 rfl rfl 8 (by decide) (hg _ wn_8_81) (fun _ h9 => h9) rfl (tk_M 8 (by decide)) rfl rfl (Nat.le_of_ble_eq_true rfl) dn_M_assign_168 (fun H locs hP hD hS => ?_)
    have hP := wM_P_8 hP
    have hD := wM_D_8 hD
    rw [hQQ, ← Option.some.inj hf]
    exact xk_vret (w1 := fun u : Nat → Nat => (wM h0 u cI cB cJ cZ (upI (upI (upI (upI s 23 (upd (s.1 23) (Int32.toNatClampNeg x1) 1)) 24 (upd (s.1 24) (Int32.toNatClampNeg x1) x3)) 25 (upd (s.1 25) (Int32.toNatClampNeg x1) ((s.1 42 0)))) 8 (fun _ => ((s.1 8 0) + 1))))) a hx hb hr hlocks hK hS dn_M_assign_171 hP hD trivial (Nat.le_refl _) (Nat.le_refl _)
  have bl_110 : ∀ (x1 : Int32) (x2 : Int32) (x3 : Int32) (t0 : Int32) (s : ms), bk_M_assign_110 N x1 x2 x3 t0 s = some y → gl s1 ≤ gl s → dcG p l e ({ frames := 406, cells := 2 * (gl y.2 - gl s1), slots := 2 * (gl y.2 - gl s1), locals := 9741 }) s0 m [.ref h0].toArray below meth c QQ (dC, dI) A (fun a => (wM h0 a cI cB cJ cZ s)) (2 * (gl s - gl s1)) 110 5 [(0, .ref h0), (1, .int x1), (2, .int x2), (3, .int x3)] [.int t0] := by
    intro x1 x2 x3 t0 s hf hge a H locs ls hP hD hS hl
    have hle := mo_M_assign_110 N y x1 x2 x3 t0 s hf
    unfold bk_M_assign_110 at hf
    refine lv_istore (lv' := [(4, .int t0), (0, .ref h0), (1, .int x1), (2, .int x2), (3, .int x3)]) hx hb dn_M_assign_110 hl (by decide) rfl (fun ls hl => ?_)
    refine lv_aload_n hx hb dn_M_assign_112 rfl (lv_at hl 1 rfl) ?_
    refine va_get (D := (dC, dI)) (ci := 0) (v := .int ((s.1 9 0))) (C := rn_M) (T := fn_M) (N := 91) hx hb hg in_M hown hK hP 0 rfl rfl 9 (by decide) (hg _ wn_8_82) (fun _ h9 => h9) rfl dn_M_assign_113 ?_
    refine lv_if_ne (tgt := 137) hx hb dn_M_assign_116 (by decide) (fun h => ?_) (fun h => ?_)
    · have hf := (if_neg h).symm.trans hf
      exact bl_137 x1 x3 s hf hge a H locs ls hP hD hS (lv_sub hl [1, 2, 4] rfl)
    · have hf := (if_pos h).symm.trans hf
      refine lv_iload hx hb dn_M_assign_119 (lv_at hl 0 rfl) ?_
      refine lv_aload_n hx hb dn_M_assign_121 rfl (lv_at hl 1 rfl) ?_
      refine va_get (D := (dC, dI)) (ci := 0) (v := .ref ((a 20))) (C := rn_M) (T := fn_M) (N := 91) hx hb hg in_M hown hK hP 0 rfl rfl 20 (by decide) (hg _ wn_8_93) (fun _ h9 => h9) rfl dn_M_assign_122 ?_
      refine lv_iload_n hx hb dn_M_assign_125 rfl (lv_at hl 2 rfl) ?_
      obtain ⟨hg_1, hf⟩ := dc_g hf
      refine va_iald hx hb hK hP 11 0 rfl rfl hg_1 dn_M_assign_126 ?_
      refine xk_ti (y := ((s.1 20) (Int32.toNatClampNeg x1))) rfl ?_
      refine lv_icmp_eq (tgt := 137) hx hb dn_M_assign_127 (by decide) (fun h => ?_) (fun h => ?_)
      · have hf := (if_pos h).symm.trans hf
        exact bl_137 x1 x3 s hf hge a H locs ls hP hD hS (lv_sub hl [1, 2, 4] rfl)
      · have hf := (if_neg h).symm.trans hf
        refine lv_aload_n hx hb dn_M_assign_130 rfl (lv_at hl 1 rfl) ?_
        refine lv_bipush (v := 30) hx hb dn_M_assign_131 (by decide) ?_
        refine lv_iload_n hx hb dn_M_assign_133 rfl (lv_at hl 3 rfl) ?_
        obtain ⟨q_2, hc_3, hf⟩ := dc_b hf
        have hme := mn_M_fail N 30 x2 s q_2 hc_3
        refine dc_callv (dc_runV (ar := 2) (As := [.int 30, .int x2]) (rest := []) (ci := 0) (q0 := 0) ⟨hx, hb, hml, hown, hg⟩ hK hN hT hS hA (ct_M_fail l dC dI cI cB cJ cZ cQ N H.size h0 a 30 x2 s q_2 hc_3) hP hD rfl rfl wn_9_186 wn_9_188 sn_M_fail wn_1_13 wn_9_189 rfl rfl (by decide +kernel) ⟨Nat.le_of_ble_eq_true rfl, Nat.le_of_ble_eq_true rfl⟩ rfl hl.1 rfl (Nat.le_of_ble_eq_true rfl) dn_M_assign_134 (dc_rm0 hle)) hP hD hS hA (fun _ H locs hw hP hD hS => ?_)
        refine W.widen (k := 2 * (gl q_2.2 - gl s1)) (n := 2 * (gl q_2.2 - gl s1)) (dc_we hme) (dc_we hme) ?_
        have hge := Nat.le_trans hge (Nat.le_of_eq hme.symm)
        have hle := Nat.le_trans (Nat.le_of_eq hme) hle
        exact bl_137 x1 x3 q_2.2 hf hge a H locs ls hP hD hS (lv_sub hl [1, 2, 4] rfl)
  have bl_71 : ∀ (x1 : Int32) (s : ms), bk_M_assign_71 N x1 s = some y → gl s1 ≤ gl s → dcG p l e ({ frames := 406, cells := 2 * (gl y.2 - gl s1), slots := 2 * (gl y.2 - gl s1), locals := 9741 }) s0 m [.ref h0].toArray below meth c QQ (dC, dI) A (fun a => (wM h0 a cI cB cJ cZ s)) (2 * (gl s - gl s1)) 71 5 [(0, .ref h0), (1, .int x1)] [] := by
    intro x1 s hf hge a H locs ls hP hD hS hl
    have hle := mo_M_assign_71 N y x1 s hf
    unfold bk_M_assign_71 at hf
    refine lv_aload_n hx hb dn_M_assign_71 rfl (lv_at hl 0 rfl) ?_
    refine lv_dup hx hb dn_M_assign_72 rfl ?_
    refine va_get (D := (dC, dI)) (ci := 0) (v := .int ((s.1 8 0))) (C := rn_M) (T := fn_M) (N := 91) hx hb hg in_M hown hK hP 0 rfl rfl 8 (by decide) (hg _ wn_8_81) (fun _ h9 => h9) rfl dn_M_assign_73 ?_
    refine lv_iconst (v := 1) hx hb dn_M_assign_76 (by decide) ?_
    refine lv_iadd hx hb dn_M_assign_77 ?_
    refine va_put (D := (dC, dI)) (ci := 0) (v := .int (((s.1 8 0) + 1))) (ty := .int) (C := rn_M) (T := fn_M) (N := 91) hx hb hg in_M tn_M tk_M nn_M hown hK hP hD hS 0 rfl rfl 8 (by decide) (hg _ wn_8_81) (fun _ h9 => h9) rfl (tk_M 8 (by decide)) rfl rfl (Nat.le_of_ble_eq_true rfl) dn_M_assign_78 (fun H locs hP hD hS => ?_)
    have hP := wM_P_8 hP
    have hD := wM_D_8 hD
    refine lv_aload_n hx hb dn_M_assign_81 rfl (lv_at hl 0 rfl) ?_
    refine va_get (D := (dC, dI)) (ci := 0) (v := .ref ((a 5))) (C := rn_M) (T := fn_M) (N := 91) hx hb hg in_M hown hK hP 0 rfl rfl 5 (by decide) (hg _ wn_8_78) (fun _ h9 => h9) rfl dn_M_assign_82 ?_
    refine lv_aload_n hx hb dn_M_assign_85 rfl (lv_at hl 0 rfl) ?_
    refine va_get (D := (dC, dI)) (ci := 0) (v := .int (((s.1 8 0) + 1))) (C := rn_M) (T := fn_M) (N := 91) hx hb hg in_M hown hK hP 0 rfl rfl 8 (by decide) (hg _ wn_8_81) (fun _ h9 => h9) rfl dn_M_assign_86 ?_
    obtain ⟨hg_1, hf⟩ := dc_g hf
    refine va_iald hx hb hK hP 3 0 rfl rfl hg_1 dn_M_assign_89 ?_
    refine xk_ti (y := ((s.1 5) (Int32.toNatClampNeg (((s.1 8 0) + 1))))) rfl ?_
    refine lv_istore_n (lv' := [(2, .int (((s.1 5) (Int32.toNatClampNeg (((s.1 8 0) + 1)))))), (0, .ref h0), (1, .int x1)]) hx hb dn_M_assign_90 rfl hl (by decide) rfl (fun ls hl => ?_)
    refine lv_aload_n hx hb dn_M_assign_91 rfl (lv_at hl 1 rfl) ?_
    refine lv_dup hx hb dn_M_assign_92 rfl ?_
    refine va_get (D := (dC, dI)) (ci := 0) (v := .int (((s.1 8 0) + 1))) (C := rn_M) (T := fn_M) (N := 91) hx hb hg in_M hown hK hP 0 rfl rfl 8 (by decide) (hg _ wn_8_81) (fun _ h9 => h9) rfl dn_M_assign_93 ?_
    refine lv_iconst (v := 1) hx hb dn_M_assign_96 (by decide) ?_
    refine lv_iadd hx hb dn_M_assign_97 ?_
    refine va_put (D := (dC, dI)) (ci := 0) (v := .int ((((s.1 8 0) + 1) + 1))) (ty := .int) (C := rn_M) (T := fn_M) (N := 91) hx hb hg in_M tn_M tk_M nn_M hown hK hP hD hS 0 rfl rfl 8 (by decide) (hg _ wn_8_81) (fun _ h9 => h9) rfl (tk_M 8 (by decide)) rfl rfl (Nat.le_of_ble_eq_true rfl) dn_M_assign_98 (fun H locs hP hD hS => ?_)
    have hP := wM_P_8 hP
    have hD := wM_D_8 hD
    refine lv_aload_n hx hb dn_M_assign_101 rfl (lv_at hl 1 rfl) ?_
    refine va_get (D := (dC, dI)) (ci := 0) (v := .int ((s.1 42 0))) (C := rn_M) (T := fn_M) (N := 91) hx hb hg in_M hown hK hP 0 rfl rfl 42 (by decide) (hg _ wn_8_115) (fun _ h9 => h9) rfl dn_M_assign_102 ?_
    refine lv_istore_n (lv' := [(3, .int ((s.1 42 0))), (2, .int (((s.1 5) (Int32.toNatClampNeg (((s.1 8 0) + 1)))))), (0, .ref h0), (1, .int x1)]) hx hb dn_M_assign_105 rfl hl (by decide) rfl (fun ls hl => ?_)
    refine lv_aload_n hx hb dn_M_assign_106 rfl (lv_at hl 2 rfl) ?_
    obtain ⟨q_2, hc_3, hf⟩ := dc_b hf
    have hmg := mn_M_exp N (upI (upI s 8 (fun _ => ((s.1 8 0) + 1))) 8 (fun _ => (((s.1 8 0) + 1) + 1))) q_2 hc_3
    have hle2 : gl q_2.2 ≤ gl y.2 := mo_M_assign_110 N y _ _ _ _ _ hf
    refine dc_calli (dc_runV (ar := 0) (As := []) (rest := []) (ci := 0) (q0 := 0) ⟨hx, hb, hml, hown, hg⟩ hK hN hT hS hA (ct_M_exp l dC dI cI cB cJ cZ cQ N H.size h0 a (upI (upI s 8 (fun _ => ((s.1 8 0) + 1))) 8 (fun _ => (((s.1 8 0) + 1) + 1))) q_2 hc_3) hP hD rfl rfl wn_10_77 wn_10_79 sn_M_exp wn_1_13 wn_10_80 rfl rfl (by decide +kernel) ⟨Nat.le_of_ble_eq_true rfl, Nat.le_of_ble_eq_true rfl⟩ rfl hl.1 rfl (Nat.le_of_ble_eq_true rfl) dn_M_assign_107 (dc_rm hge hmg hle2)) hP hD hS hA (fun r_4 a H locs hw hP hD hS => ?_)
    refine W.widen (k := 2 * (gl q_2.2 - gl s1)) (n := 2 * (gl q_2.2 - gl s1)) (dc_wa hge hmg) (dc_wa hge hmg) ?_
    have hge := Nat.le_trans hge hmg
    have hle := hle2
    have hw : r_4 = q_2.1 := hw
    subst hw
    exact bl_110 x1 (((s.1 5) (Int32.toNatClampNeg (((s.1 8 0) + 1))))) ((s.1 42 0)) q_2.1 q_2.2 hf hge a H locs ls hP hD hS (lv_sub hl [2, 3, 1, 0] rfl)
  intro hge a H locs ls hP hD hS hl
  have hle := mn_M_assign N s1 y hf
  unfold fn_M_assign at hf
  refine lv_aload_n hx hb dn_M_assign_0 rfl (lv_at hl 0 rfl) ?_
  refine lv_dup hx hb dn_M_assign_1 rfl ?_
  refine va_get (D := (dC, dI)) (ci := 0) (v := .int ((s1.1 8 0))) (C := rn_M) (T := fn_M) (N := 91) hx hb hg in_M hown hK hP 0 rfl rfl 8 (by decide) (hg _ wn_8_81) (fun _ h9 => h9) rfl dn_M_assign_2 ?_
  refine lv_iconst (v := 1) hx hb dn_M_assign_5 (by decide) ?_
  refine lv_iadd hx hb dn_M_assign_6 ?_
  refine va_put (D := (dC, dI)) (ci := 0) (v := .int (((s1.1 8 0) + 1))) (ty := .int) (C := rn_M) (T := fn_M) (N := 91) hx hb hg in_M tn_M tk_M nn_M hown hK hP hD hS 0 rfl rfl 8 (by decide) (hg _ wn_8_81) (fun _ h9 => h9) rfl (tk_M 8 (by decide)) rfl rfl (Nat.le_of_ble_eq_true rfl) dn_M_assign_7 (fun H locs hP hD hS => ?_)
  have hP := wM_P_8 hP
  have hD := wM_D_8 hD
  refine lv_aload_n hx hb dn_M_assign_10 rfl (lv_at hl 0 rfl) ?_
  refine lv_aload_n hx hb dn_M_assign_11 rfl (lv_at hl 0 rfl) ?_
  refine va_get (D := (dC, dI)) (ci := 0) (v := .int (((s1.1 8 0) + 1))) (C := rn_M) (T := fn_M) (N := 91) hx hb hg in_M hown hK hP 0 rfl rfl 8 (by decide) (hg _ wn_8_81) (fun _ h9 => h9) rfl dn_M_assign_12 ?_
  obtain ⟨q_1, hc_2, hf⟩ := dc_b hf
  have hme := mn_M_here N (((s1.1 8 0) + 1)) (upI s1 8 (fun _ => ((s1.1 8 0) + 1))) q_1 hc_2
  refine dc_calli (dc_runV (ar := 1) (As := [.int (((s1.1 8 0) + 1))]) (rest := []) (ci := 0) (q0 := 0) ⟨hx, hb, hml, hown, hg⟩ hK hN hT hS hA (ct_M_here l dC dI cI cB cJ cZ cQ N H.size h0 a (((s1.1 8 0) + 1)) (upI s1 8 (fun _ => ((s1.1 8 0) + 1))) q_1 hc_2) hP hD rfl rfl wn_10_49 wn_10_51 sn_M_here wn_1_13 wn_10_52 rfl rfl (by decide +kernel) ⟨Nat.le_of_ble_eq_true rfl, Nat.le_of_ble_eq_true rfl⟩ rfl hl.1 rfl (Nat.le_of_ble_eq_true rfl) dn_M_assign_15 (dc_rm0 hle)) hP hD hS hA (fun r_3 _ H locs hw hP hD hS => ?_)
  refine W.widen (k := 2 * (gl q_1.2 - gl s1)) (n := 2 * (gl q_1.2 - gl s1)) (dc_we hme) (dc_we hme) ?_
  have hge := Nat.le_trans hge (Nat.le_of_eq hme.symm)
  have hle := Nat.le_trans (Nat.le_of_eq hme) hle
  have hw : r_3 = q_1.1 := hw
  subst hw
  refine lv_istore_n (lv' := [(1, .int q_1.1), (0, .ref h0)]) hx hb dn_M_assign_18 rfl hl (by decide) rfl (fun ls hl => ?_)
  refine lv_iload_n hx hb dn_M_assign_19 rfl (lv_at hl 0 rfl) ?_
  refine lv_if_lt (tgt := 31) hx hb dn_M_assign_20 (by decide) (fun h => ?_) (fun h => ?_)
  · have hf := (if_pos h).symm.trans hf
    exact bl_31 q_1.2 hf hge a H locs ls hP hD hS (lv_sub hl [1] rfl)
  · have hf := (if_neg h).symm.trans hf
    refine lv_aload_n hx hb dn_M_assign_23 rfl (lv_at hl 1 rfl) ?_
    refine lv_iload_n hx hb dn_M_assign_24 rfl (lv_at hl 0 rfl) ?_
    obtain ⟨q_4, hc_5, hf⟩ := dc_b hf
    have hme := mn_M_isDriven N q_1.1 q_1.2 q_4 hc_5
    refine dc_calli (dc_runV (ar := 1) (As := [.int q_1.1]) (rest := []) (ci := 0) (q0 := 0) ⟨hx, hb, hml, hown, hg⟩ hK hN hT hS hA (ct_M_isDriven l dC dI cI cB cJ cZ cQ N H.size h0 a q_1.1 q_1.2 q_4 hc_5) hP hD rfl rfl wn_10_73 wn_10_75 sn_M_isDriven wn_1_13 wn_10_76 rfl rfl (by decide +kernel) ⟨Nat.le_of_ble_eq_true rfl, Nat.le_of_ble_eq_true rfl⟩ rfl hl.1 rfl (Nat.le_of_ble_eq_true rfl) dn_M_assign_25 (dc_rm0 hle)) hP hD hS hA (fun r_6 _ H locs hw hP hD hS => ?_)
    refine W.widen (k := 2 * (gl q_4.2 - gl s1)) (n := 2 * (gl q_4.2 - gl s1)) (dc_we hme) (dc_we hme) ?_
    have hge := Nat.le_trans hge (Nat.le_of_eq hme.symm)
    have hle := Nat.le_trans (Nat.le_of_eq hme) hle
    have hw : r_6 = q_4.1 := hw
    subst hw
    refine lv_if_ne (tgt := 47) hx hb dn_M_assign_28 (by decide) (fun h => ?_) (fun h => ?_)
    · have hf := (if_neg h).symm.trans hf
      refine lv_aload_n hx hb dn_M_assign_47 rfl (lv_at hl 1 rfl) ?_
      refine va_get (D := (dC, dI)) (ci := 0) (v := .ref ((a 23))) (C := rn_M) (T := fn_M) (N := 91) hx hb hg in_M hown hK hP 0 rfl rfl 23 (by decide) (hg _ wn_8_96) (fun _ h9 => h9) rfl dn_M_assign_48 ?_
      refine lv_iload_n hx hb dn_M_assign_51 rfl (lv_at hl 0 rfl) ?_
      obtain ⟨hg_7, hf⟩ := dc_g hf
      refine va_iald hx hb hK hP 14 0 rfl rfl hg_7 dn_M_assign_52 ?_
      refine xk_ti (y := ((q_4.2.1 23) (Int32.toNatClampNeg q_1.1))) rfl ?_
      refine lv_if_eq (tgt := 71) hx hb dn_M_assign_53 (by decide) (fun h => ?_) (fun h => ?_)
      · have hf := (if_pos h).symm.trans hf
        exact bl_71 q_1.1 q_4.2 hf hge a H locs ls hP hD hS (lv_sub hl [1, 0] rfl)
      · have hf := (if_neg h).symm.trans hf
        refine lv_aload_n hx hb dn_M_assign_56 rfl (lv_at hl 1 rfl) ?_
        refine lv_bipush (v := 31) hx hb dn_M_assign_57 (by decide) ?_
        refine lv_aload_n hx hb dn_M_assign_59 rfl (lv_at hl 1 rfl) ?_
        refine va_get (D := (dC, dI)) (ci := 0) (v := .ref ((a 5))) (C := rn_M) (T := fn_M) (N := 91) hx hb hg in_M hown hK hP 0 rfl rfl 5 (by decide) (hg _ wn_8_78) (fun _ h9 => h9) rfl dn_M_assign_60 ?_
        refine lv_aload_n hx hb dn_M_assign_63 rfl (lv_at hl 1 rfl) ?_
        refine va_get (D := (dC, dI)) (ci := 0) (v := .int ((q_4.2.1 8 0))) (C := rn_M) (T := fn_M) (N := 91) hx hb hg in_M hown hK hP 0 rfl rfl 8 (by decide) (hg _ wn_8_81) (fun _ h9 => h9) rfl dn_M_assign_64 ?_
        obtain ⟨hg_8, hf⟩ := dc_g hf
        refine va_iald hx hb hK hP 3 0 rfl rfl hg_8 dn_M_assign_67 ?_
        refine xk_ti (y := ((q_4.2.1 5) (Int32.toNatClampNeg ((q_4.2.1 8 0))))) rfl ?_
        obtain ⟨q_9, hc_10, hf⟩ := dc_b hf
        have hme := mn_M_fail N 31 (((q_4.2.1 5) (Int32.toNatClampNeg ((q_4.2.1 8 0))))) q_4.2 q_9 hc_10
        refine dc_callv (dc_runV (ar := 2) (As := [.int 31, .int (((q_4.2.1 5) (Int32.toNatClampNeg ((q_4.2.1 8 0)))))]) (rest := []) (ci := 0) (q0 := 0) ⟨hx, hb, hml, hown, hg⟩ hK hN hT hS hA (ct_M_fail l dC dI cI cB cJ cZ cQ N H.size h0 a 31 (((q_4.2.1 5) (Int32.toNatClampNeg ((q_4.2.1 8 0))))) q_4.2 q_9 hc_10) hP hD rfl rfl wn_9_186 wn_9_188 sn_M_fail wn_1_13 wn_9_189 rfl rfl (by decide +kernel) ⟨Nat.le_of_ble_eq_true rfl, Nat.le_of_ble_eq_true rfl⟩ rfl hl.1 rfl (Nat.le_of_ble_eq_true rfl) dn_M_assign_68 (dc_rm0 hle)) hP hD hS hA (fun _ H locs hw hP hD hS => ?_)
        refine W.widen (k := 2 * (gl q_9.2 - gl s1)) (n := 2 * (gl q_9.2 - gl s1)) (dc_we hme) (dc_we hme) ?_
        have hge := Nat.le_trans hge (Nat.le_of_eq hme.symm)
        have hle := Nat.le_trans (Nat.le_of_eq hme) hle
        exact bl_71 q_1.1 q_9.2 hf hge a H locs ls hP hD hS (lv_sub hl [1, 0] rfl)
    · have hf := (if_pos h).symm.trans hf
      exact bl_31 q_4.2 hf hge a H locs ls hP hD hS (lv_sub hl [1] rfl)
theorem mo_M_item_239 (N : Nat) (y : (Unit × ms)) (s : ms) (hf : bk_M_item_239 N s = some y) : gl s ≤ gl y.2 := by
  unfold bk_M_item_239 at hf
  have hm : gl s ≤ gl s := Nat.le_refl _
  exact Nat.le_trans hm (Nat.le_of_eq (dc_e hf).symm)
theorem mo_M_item_56 (N : Nat) (y : (Unit × ms)) (t0 : Int32) (s : ms) (hf : bk_M_item_56 N t0 s = some y) : gl s ≤ gl y.2 := by
  unfold bk_M_item_56 at hf
  have hm : gl s ≤ gl s := Nat.le_refl _
  obtain ⟨q_1, hc_2, hf⟩ := dc_b hf
  have hm := Nat.le_trans hm (Nat.le_of_eq (mn_M_range N s q_1 hc_2).symm)
  obtain ⟨q_4, hc_5, hf⟩ := dc_b hf
  have hm := Nat.le_trans hm (Nat.le_of_eq (mn_M_declare N t0 q_1.1 q_1.2 q_4 hc_5).symm)
  exact Nat.le_trans hm (mo_M_item_239 N y (upI q_4.2 8 (fun _ => ((q_4.2.1 8 0) + 1))) hf)
theorem mo_M_item_35 (N : Nat) (y : (Unit × ms)) (t0 : Int32) (s : ms) (hf : bk_M_item_35 N t0 s = some y) : gl s ≤ gl y.2 := by
  unfold bk_M_item_35 at hf
  have hm : gl s ≤ gl s := Nat.le_refl _
  by_cases h : t0 = 0
  · have hf := (if_pos h).symm.trans hf
    exact Nat.le_trans hm (mo_M_item_56 N y 3 (upI s 8 (fun _ => ((s.1 8 0) + 1))) hf)
  · have hf := (if_neg h).symm.trans hf
    exact Nat.le_trans hm (mo_M_item_56 N y 4 (upI s 8 (fun _ => ((s.1 8 0) + 1))) hf)
theorem mo_M_item_20 (N : Nat) (y : (Unit × ms)) (s : ms) (hf : bk_M_item_20 N s = some y) : gl s ≤ gl y.2 := by
  unfold bk_M_item_20 at hf
  have hm : gl s ≤ gl s := Nat.le_refl _
  obtain ⟨q_1, hc_2, hf⟩ := dc_b hf
  have hm := Nat.le_trans hm (Nat.le_of_eq (mn_M_kind N s q_1 hc_2).symm)
  by_cases h : q_1.1 = 305
  · have hf := (if_pos h).symm.trans hf
    exact Nat.le_trans hm (mo_M_item_35 N y 1 q_1.2 hf)
  · have hf := (if_neg h).symm.trans hf
    exact Nat.le_trans hm (mo_M_item_35 N y 0 q_1.2 hf)
theorem mo_M_item_195 (N : Nat) (y : (Unit × ms)) (t0 : Int32) (s : ms) (hf : bk_M_item_195 N t0 s = some y) : gl s ≤ gl y.2 := by
  unfold bk_M_item_195 at hf
  have hm : gl s ≤ gl s := Nat.le_refl _
  obtain ⟨q_1, hc_2, hf⟩ := dc_b hf
  have hm := Nat.le_trans hm (Nat.le_of_eq (mn_M_cost N ((Int32.toInt64 t0)) s q_1 hc_2).symm)
  obtain ⟨_, hf⟩ := dc_g hf
  exact Nat.le_trans hm (mo_M_item_239 N y (upI (upI (upI q_1.2 37 (upd (q_1.2.1 37) (Int32.toNatClampNeg ((q_1.2.1 35 0))) ((q_1.2.1 42 0)))) 35 (fun _ => ((q_1.2.1 35 0) + 1))) 8 (fun _ => ((q_1.2.1 8 0) + 2))) hf)
theorem mo_M_item_131 (N : Nat) (y : (Unit × ms)) (s : ms) (hf : bk_M_item_131 N s = some y) : gl s ≤ gl y.2 := by
  unfold bk_M_item_131 at hf
  have hm : gl s ≤ gl s := Nat.le_refl _
  obtain ⟨_, hf⟩ := dc_g hf
  exact Nat.le_trans hm (mo_M_item_239 N y (upI (upI s 40 (upd (s.1 40) (Int32.toNatClampNeg ((s.1 38 0))) ((s.1 42 0)))) 38 (fun _ => ((s.1 38 0) + 1))) hf)
theorem mo_M_item_90 (N : Nat) (y : (Unit × ms)) (s : ms) (hf : bk_M_item_90 N s = some y) : gl s ≤ gl y.2 := by
  unfold bk_M_item_90 at hf
  have hm : gl s ≤ gl s := Nat.le_refl _
  exact Nat.le_trans hm (mo_M_item_239 N y s hf)
theorem mn_M_item (N : Nat) (s1 : ms) (y : (Unit × ms)) (hf : fn_M_item N s1 = some y) : gl s1 ≤ gl y.2 := by
  unfold fn_M_item at hf
  have hm : gl s1 ≤ gl s1 := Nat.le_refl _
  obtain ⟨q_1, hc_2, hf⟩ := dc_b hf
  have hm := Nat.le_trans hm (Nat.le_of_eq (mn_M_kind N s1 q_1 hc_2).symm)
  by_cases h : q_1.1 = 304
  · have hf := (if_pos h).symm.trans hf
    exact Nat.le_trans hm (mo_M_item_20 N y q_1.2 hf)
  · have hf := (if_neg h).symm.trans hf
    obtain ⟨q_4, hc_5, hf⟩ := dc_b hf
    have hm := Nat.le_trans hm (Nat.le_of_eq (mn_M_kind N q_1.2 q_4 hc_5).symm)
    by_cases h : q_4.1 = 305
    · have hf := (if_pos h).symm.trans hf
      exact Nat.le_trans hm (mo_M_item_20 N y q_4.2 hf)
    · have hf := (if_neg h).symm.trans hf
      obtain ⟨q_7, hc_8, hf⟩ := dc_b hf
      have hm := Nat.le_trans hm (Nat.le_of_eq (mn_M_kind N q_4.2 q_7 hc_8).symm)
      by_cases h : q_7.1 = 306
      · have hf := (if_pos h).symm.trans hf
        obtain ⟨q_10, hc_11, hf⟩ := dc_b hf
        have hm := Nat.le_trans hm (mn_M_assign N q_7.2 q_10 hc_11)
        exact Nat.le_trans hm (mo_M_item_90 N y q_10.2 hf)
      · have hf := (if_neg h).symm.trans hf
        obtain ⟨q_10, hc_11, hf⟩ := dc_b hf
        have hm := Nat.le_trans hm (Nat.le_of_eq (mn_M_kind N q_7.2 q_10 hc_11).symm)
        by_cases h : q_10.1 = 307
        · have hf := (if_pos h).symm.trans hf
          obtain ⟨_, hf⟩ := dc_g hf
          obtain ⟨q_14, hc_15, hf⟩ := dc_b hf
          have hm := Nat.le_trans hm (mn_M_statement N (upI (upI q_10.2 8 (fun _ => ((q_10.2.1 8 0) + 6))) 39 (upd (q_10.2.1 39) (Int32.toNatClampNeg ((q_10.2.1 38 0))) ((q_10.2.1 42 0)))) q_14 hc_15)
          exact Nat.le_trans hm (mo_M_item_131 N y q_14.2 hf)
        · have hf := (if_neg h).symm.trans hf
          obtain ⟨q_13, hc_14, hf⟩ := dc_b hf
          have hm := Nat.le_trans hm (Nat.le_of_eq (mn_M_kind N q_10.2 q_13 hc_14).symm)
          by_cases h : q_13.1 = 317
          · have hf := (if_pos h).symm.trans hf
            obtain ⟨_, hf⟩ := dc_g hf
            obtain ⟨q_17, hc_18, hf⟩ := dc_b hf
            have hm := Nat.le_trans hm (mn_M_exp N (upI (upI q_13.2 8 (fun _ => ((q_13.2.1 8 0) + 2))) 36 (upd (q_13.2.1 36) (Int32.toNatClampNeg ((q_13.2.1 35 0))) ((q_13.2.1 42 0)))) q_17 hc_18)
            exact Nat.le_trans hm (mo_M_item_195 N y q_17.1 q_17.2 hf)
          · have hf := (if_neg h).symm.trans hf
            obtain ⟨q_16, hc_17, hf⟩ := dc_b hf
            have hm := Nat.le_trans hm (mn_M_instance N q_13.2 q_16 hc_17)
            exact Nat.le_trans hm (mo_M_item_239 N y q_16.2 hf)
set_option maxHeartbeats 8000000 in
set_option maxRecDepth 100000 in
theorem ct_M_item (l : Launch) (dC : Nat → ClassId) (dI : Nat → Nat → Nat) (cI cB cJ cZ cQ : ClassId) (N sz : Nat) (h0 : Nat) (a : Nat → Nat) (s1 : ms) (y : (Unit × ms)) (hf : fn_M_item N s1 = some y) : Met l yn_M_item (xw yn_M_item bn_M_item 2 none) ({ frames := 808, cells := 2 * (gl y.2 - gl s1), slots := 2 * (gl y.2 - gl s1), locals := 19788 }) (dc_P (dC, dI) xcl (xt cI cB cJ cZ cQ) [.ref h0] sz (wM h0 a cI cB cJ cZ s1)) (xk_Qv (dC, dI) xcl (xt cI cB cJ cZ cQ) (fun _ : Nat → Nat => True) (fun u : Nat → Nat => (wM h0 u cI cB cJ cZ y.2)) (va_A (wM h0 a cI cB cJ cZ s1) sz)) (2 * (gl y.2 - gl s1)) (2 * (gl y.2 - gl s1)) (va_A (wM h0 a cI cB cJ cZ s1) sz) := by
  refine dc_of (QA := xk_Qv (dC, dI) xcl (xt cI cB cJ cZ cQ) (fun _ : Nat → Nat => True) (fun u : Nat → Nat => (wM h0 u cI cB cJ cZ y.2))) (by decide) (Nat.le_of_ble_eq_true rfl) ?_
  intro p e s0 m below meth c hx hb hml hown hg hr hlocks hin hP hK hN A hA hD hT ls hl
  have hown : s0.vm.findClass rn_M = some m.cls := hown
  obtain ⟨H, hH⟩ : ∃ z, z = s0.heap := ⟨_, rfl⟩
  rw [← hH] at hP
  have hS : va_S A s0.heap H [] := by rw [hH]; exact va_S.rf
  suffices kk : ∀ QQ : State → Prop, QQ = MQ below (xk_Qv (dC, dI) xcl (xt cI cB cJ cZ cQ) (fun _ : Nat → Nat => True) (fun u : Nat → Nat => (wM h0 u cI cB cJ cZ y.2)) A) [.ref h0].toArray s0 (2 * (gl y.2 - gl s1)) (2 * (gl y.2 - gl s1)) A → gl s1 ≤ gl s1 → dcG p l e ({ frames := 808, cells := 2 * (gl y.2 - gl s1), slots := 2 * (gl y.2 - gl s1), locals := 19788 }) s0 m [.ref h0].toArray below meth c QQ (dC, dI) A (fun a => (wM h0 a cI cB cJ cZ s1)) (2 * (gl s1 - gl s1)) 0 2 [(0, .ref h0)] [] by
    have k9 := kk _ rfl (Nat.le_refl _) a H [] ls hP hD hS hl
    rw [hH, Nat.sub_self] at k9; exact k9
  clear hP hD hS hl hH H ls
  intro QQ hQQ
  have bl_239 : ∀ (s : ms), bk_M_item_239 N s = some y → gl s1 ≤ gl s → dcG p l e ({ frames := 808, cells := 2 * (gl y.2 - gl s1), slots := 2 * (gl y.2 - gl s1), locals := 19788 }) s0 m [.ref h0].toArray below meth c QQ (dC, dI) A (fun a => (wM h0 a cI cB cJ cZ s)) (2 * (gl s - gl s1)) 239 2 [] [] := by
    intro s hf hge a H locs ls hP hD hS hl
    have hle := mo_M_item_239 N y s hf
    unfold bk_M_item_239 at hf
    rw [hQQ, ← Option.some.inj hf]
    exact xk_vret (w1 := fun u : Nat → Nat => (wM h0 u cI cB cJ cZ s)) a hx hb hr hlocks hK hS dn_M_item_239 hP hD trivial (Nat.le_refl _) (Nat.le_refl _)
  have bl_56 : ∀ (t0 : Int32) (s : ms), bk_M_item_56 N t0 s = some y → gl s1 ≤ gl s → dcG p l e ({ frames := 808, cells := 2 * (gl y.2 - gl s1), slots := 2 * (gl y.2 - gl s1), locals := 19788 }) s0 m [.ref h0].toArray below meth c QQ (dC, dI) A (fun a => (wM h0 a cI cB cJ cZ s)) (2 * (gl s - gl s1)) 56 2 [(0, .ref h0)] [.int t0, .ref h0] := by
    intro t0 s hf hge a H locs ls hP hD hS hl
    have hle := mo_M_item_56 N y t0 s hf
    unfold bk_M_item_56 at hf
    refine lv_aload_n hx hb dn_M_item_56 rfl (lv_at hl 0 rfl) ?_
    obtain ⟨q_1, hc_2, hf⟩ := dc_b hf
    have hme := mn_M_range N s q_1 hc_2
    refine dc_calli (dc_runV (ar := 0) (As := []) (rest := [.int t0, .ref h0]) (ci := 0) (q0 := 0) ⟨hx, hb, hml, hown, hg⟩ hK hN hT hS hA (ct_M_range l dC dI cI cB cJ cZ cQ N H.size h0 a s q_1 hc_2) hP hD rfl rfl wn_10_36 wn_10_38 sn_M_range wn_1_13 wn_10_39 rfl rfl (by decide +kernel) ⟨Nat.le_of_ble_eq_true rfl, Nat.le_of_ble_eq_true rfl⟩ rfl hl.1 rfl (Nat.le_of_ble_eq_true rfl) dn_M_item_57 (dc_rm0 hle)) hP hD hS hA (fun r_3 _ H locs hw hP hD hS => ?_)
    refine W.widen (k := 2 * (gl q_1.2 - gl s1)) (n := 2 * (gl q_1.2 - gl s1)) (dc_we hme) (dc_we hme) ?_
    have hge := Nat.le_trans hge (Nat.le_of_eq hme.symm)
    have hle := Nat.le_trans (Nat.le_of_eq hme) hle
    have hw : r_3 = q_1.1 := hw
    subst hw
    obtain ⟨q_4, hc_5, hf⟩ := dc_b hf
    have hme := mn_M_declare N t0 q_1.1 q_1.2 q_4 hc_5
    refine dc_callv (dc_runV (ar := 2) (As := [.int t0, .int q_1.1]) (rest := []) (ci := 0) (q0 := 0) ⟨hx, hb, hml, hown, hg⟩ hK hN hT hS hA (ct_M_declare l dC dI cI cB cJ cZ cQ N H.size h0 a t0 q_1.1 q_1.2 q_4 hc_5) hP hD rfl rfl wn_10_45 wn_10_47 sn_M_declare wn_1_13 wn_10_48 rfl rfl (by decide +kernel) ⟨Nat.le_of_ble_eq_true rfl, Nat.le_of_ble_eq_true rfl⟩ rfl hl.1 rfl (Nat.le_of_ble_eq_true rfl) dn_M_item_60 (dc_rm0 hle)) hP hD hS hA (fun _ H locs hw hP hD hS => ?_)
    refine W.widen (k := 2 * (gl q_4.2 - gl s1)) (n := 2 * (gl q_4.2 - gl s1)) (dc_we hme) (dc_we hme) ?_
    have hge := Nat.le_trans hge (Nat.le_of_eq hme.symm)
    have hle := Nat.le_trans (Nat.le_of_eq hme) hle
    refine lv_aload_n hx hb dn_M_item_63 rfl (lv_at hl 0 rfl) ?_
    refine lv_dup hx hb dn_M_item_64 rfl ?_
    refine va_get (D := (dC, dI)) (ci := 0) (v := .int ((q_4.2.1 8 0))) (C := rn_M) (T := fn_M) (N := 91) hx hb hg in_M hown hK hP 0 rfl rfl 8 (by decide) (hg _ wn_8_81) (fun _ h9 => h9) rfl dn_M_item_65 ?_
    refine lv_iconst (v := 1) hx hb dn_M_item_68 (by decide) ?_
    refine lv_iadd hx hb dn_M_item_69 ?_
    refine va_put (D := (dC, dI)) (ci := 0) (v := .int (((q_4.2.1 8 0) + 1))) (ty := .int) (C := rn_M) (T := fn_M) (N := 91) hx hb hg in_M tn_M tk_M nn_M hown hK hP hD hS 0 rfl rfl 8 (by decide) (hg _ wn_8_81) (fun _ h9 => h9) rfl (tk_M 8 (by decide)) rfl rfl (Nat.le_of_ble_eq_true rfl) dn_M_item_70 (fun H locs hP hD hS => ?_)
    have hP := wM_P_8 hP
    have hD := wM_D_8 hD
    refine lv_goto (tgt := 239) hx hb dn_M_item_73 (by decide) ?_
    exact bl_239 (upI q_4.2 8 (fun _ => ((q_4.2.1 8 0) + 1))) hf hge a H locs ls hP hD hS (lv_sub hl [] rfl)
  have bl_35 : ∀ (t0 : Int32) (s : ms), bk_M_item_35 N t0 s = some y → gl s1 ≤ gl s → dcG p l e ({ frames := 808, cells := 2 * (gl y.2 - gl s1), slots := 2 * (gl y.2 - gl s1), locals := 19788 }) s0 m [.ref h0].toArray below meth c QQ (dC, dI) A (fun a => (wM h0 a cI cB cJ cZ s)) (2 * (gl s - gl s1)) 35 2 [(0, .ref h0)] [.int t0] := by
    intro t0 s hf hge a H locs ls hP hD hS hl
    have hle := mo_M_item_35 N y t0 s hf
    unfold bk_M_item_35 at hf
    refine lv_istore_n (lv' := [(1, .int t0), (0, .ref h0)]) hx hb dn_M_item_35 rfl hl (by decide) rfl (fun ls hl => ?_)
    refine lv_aload_n hx hb dn_M_item_36 rfl (lv_at hl 1 rfl) ?_
    refine lv_dup hx hb dn_M_item_37 rfl ?_
    refine va_get (D := (dC, dI)) (ci := 0) (v := .int ((s.1 8 0))) (C := rn_M) (T := fn_M) (N := 91) hx hb hg in_M hown hK hP 0 rfl rfl 8 (by decide) (hg _ wn_8_81) (fun _ h9 => h9) rfl dn_M_item_38 ?_
    refine lv_iconst (v := 1) hx hb dn_M_item_41 (by decide) ?_
    refine lv_iadd hx hb dn_M_item_42 ?_
    refine va_put (D := (dC, dI)) (ci := 0) (v := .int (((s.1 8 0) + 1))) (ty := .int) (C := rn_M) (T := fn_M) (N := 91) hx hb hg in_M tn_M tk_M nn_M hown hK hP hD hS 0 rfl rfl 8 (by decide) (hg _ wn_8_81) (fun _ h9 => h9) rfl (tk_M 8 (by decide)) rfl rfl (Nat.le_of_ble_eq_true rfl) dn_M_item_43 (fun H locs hP hD hS => ?_)
    have hP := wM_P_8 hP
    have hD := wM_D_8 hD
    refine lv_aload_n hx hb dn_M_item_46 rfl (lv_at hl 1 rfl) ?_
    refine lv_iload_n hx hb dn_M_item_47 rfl (lv_at hl 0 rfl) ?_
    refine lv_if_eq (tgt := 55) hx hb dn_M_item_48 (by decide) (fun h => ?_) (fun h => ?_)
    · have hf := (if_pos h).symm.trans hf
      refine lv_iconst (v := 3) hx hb dn_M_item_55 (by decide) ?_
      exact bl_56 3 (upI s 8 (fun _ => ((s.1 8 0) + 1))) hf hge a H locs ls hP hD hS (lv_sub hl [1] rfl)
    · have hf := (if_neg h).symm.trans hf
      refine lv_iconst (v := 4) hx hb dn_M_item_51 (by decide) ?_
      refine lv_goto (tgt := 56) hx hb dn_M_item_52 (by decide) ?_
      exact bl_56 4 (upI s 8 (fun _ => ((s.1 8 0) + 1))) hf hge a H locs ls hP hD hS (lv_sub hl [1] rfl)
  have bl_20 : ∀ (s : ms), bk_M_item_20 N s = some y → gl s1 ≤ gl s → dcG p l e ({ frames := 808, cells := 2 * (gl y.2 - gl s1), slots := 2 * (gl y.2 - gl s1), locals := 19788 }) s0 m [.ref h0].toArray below meth c QQ (dC, dI) A (fun a => (wM h0 a cI cB cJ cZ s)) (2 * (gl s - gl s1)) 20 2 [(0, .ref h0)] [] := by
    intro s hf hge a H locs ls hP hD hS hl
    have hle := mo_M_item_20 N y s hf
    unfold bk_M_item_20 at hf
    refine lv_aload_n hx hb dn_M_item_20 rfl (lv_at hl 0 rfl) ?_
    obtain ⟨q_1, hc_2, hf⟩ := dc_b hf
    have hme := mn_M_kind N s q_1 hc_2
    refine dc_calli (dc_runV (ar := 0) (As := []) (rest := []) (ci := 0) (q0 := 0) ⟨hx, hb, hml, hown, hg⟩ hK hN hT hS hA (ct_M_kind l dC dI cI cB cJ cZ cQ N H.size h0 a s q_1 hc_2) hP hD rfl rfl wn_9_214 wn_9_216 sn_M_kind wn_1_13 wn_9_217 rfl rfl (by decide +kernel) ⟨Nat.le_of_ble_eq_true rfl, Nat.le_of_ble_eq_true rfl⟩ rfl hl.1 rfl (Nat.le_of_ble_eq_true rfl) dn_M_item_21 (dc_rm0 hle)) hP hD hS hA (fun r_3 _ H locs hw hP hD hS => ?_)
    refine W.widen (k := 2 * (gl q_1.2 - gl s1)) (n := 2 * (gl q_1.2 - gl s1)) (dc_we hme) (dc_we hme) ?_
    have hge := Nat.le_trans hge (Nat.le_of_eq hme.symm)
    have hle := Nat.le_trans (Nat.le_of_eq hme) hle
    have hw : r_3 = q_1.1 := hw
    subst hw
    refine lv_sipush (v := 305) hx hb dn_M_item_24 (by decide) ?_
    refine lv_icmp_ne (tgt := 34) hx hb dn_M_item_27 (by decide) (fun h => ?_) (fun h => ?_)
    · have hf := (if_neg h).symm.trans hf
      refine lv_iconst (v := 0) hx hb dn_M_item_34 (by decide) ?_
      exact bl_35 0 q_1.2 hf hge a H locs ls hP hD hS hl
    · have hf := (if_pos h).symm.trans hf
      refine lv_iconst (v := 1) hx hb dn_M_item_30 (by decide) ?_
      refine lv_goto (tgt := 35) hx hb dn_M_item_31 (by decide) ?_
      exact bl_35 1 q_1.2 hf hge a H locs ls hP hD hS hl
  have bl_195 : ∀ (t0 : Int32) (s : ms), bk_M_item_195 N t0 s = some y → gl s1 ≤ gl s → dcG p l e ({ frames := 808, cells := 2 * (gl y.2 - gl s1), slots := 2 * (gl y.2 - gl s1), locals := 19788 }) s0 m [.ref h0].toArray below meth c QQ (dC, dI) A (fun a => (wM h0 a cI cB cJ cZ s)) (2 * (gl s - gl s1)) 195 2 [(0, .ref h0)] [.int t0, .ref h0] := by
    intro t0 s hf hge a H locs ls hP hD hS hl
    have hle := mo_M_item_195 N y t0 s hf
    unfold bk_M_item_195 at hf
    refine lv_i2l (v := Int32.toInt64 t0) hx hb dn_M_item_195 rfl ?_
    obtain ⟨q_1, hc_2, hf⟩ := dc_b hf
    have hme := mn_M_cost N ((Int32.toInt64 t0)) s q_1 hc_2
    refine dc_callv (dc_runV (ar := 1) (As := [.long ((Int32.toInt64 t0))]) (rest := []) (ci := 0) (q0 := 0) ⟨hx, hb, hml, hown, hg⟩ hK hN hT hS hA (ct_M_cost l dC dI cI cB cJ cZ cQ N H.size h0 a ((Int32.toInt64 t0)) s q_1 hc_2) hP hD rfl rfl wn_10_109 wn_10_111 sn_M_cost wn_1_13 wn_10_112 rfl rfl (by decide +kernel) ⟨Nat.le_of_ble_eq_true rfl, Nat.le_of_ble_eq_true rfl⟩ rfl hl.1 rfl (Nat.le_of_ble_eq_true rfl) dn_M_item_196 (dc_rm0 hle)) hP hD hS hA (fun _ H locs hw hP hD hS => ?_)
    refine W.widen (k := 2 * (gl q_1.2 - gl s1)) (n := 2 * (gl q_1.2 - gl s1)) (dc_we hme) (dc_we hme) ?_
    have hge := Nat.le_trans hge (Nat.le_of_eq hme.symm)
    have hle := Nat.le_trans (Nat.le_of_eq hme) hle
    refine lv_aload_n hx hb dn_M_item_199 rfl (lv_at hl 0 rfl) ?_
    refine va_get (D := (dC, dI)) (ci := 0) (v := .ref ((a 37))) (C := rn_M) (T := fn_M) (N := 91) hx hb hg in_M hown hK hP 0 rfl rfl 37 (by decide) (hg _ wn_8_110) (fun _ h9 => h9) rfl dn_M_item_200 ?_
    refine lv_aload_n hx hb dn_M_item_203 rfl (lv_at hl 0 rfl) ?_
    refine va_get (D := (dC, dI)) (ci := 0) (v := .int ((q_1.2.1 35 0))) (C := rn_M) (T := fn_M) (N := 91) hx hb hg in_M hown hK hP 0 rfl rfl 35 (by decide) (hg _ wn_8_108) (fun _ h9 => h9) rfl dn_M_item_204 ?_
    refine lv_aload_n hx hb dn_M_item_207 rfl (lv_at hl 0 rfl) ?_
    refine va_get (D := (dC, dI)) (ci := 0) (v := .int ((q_1.2.1 42 0))) (C := rn_M) (T := fn_M) (N := 91) hx hb hg in_M hown hK hP 0 rfl rfl 42 (by decide) (hg _ wn_8_115) (fun _ h9 => h9) rfl dn_M_item_208 ?_
    obtain ⟨hg_3, hf⟩ := dc_g hf
    refine va_iast hx hb hK hP hD hS 25 0 rfl rfl hg_3 dn_M_item_211 (fun H locs hP hD hS => ?_)
    have hP : va_P (dC, dI) xcl ((wM h0 a cI cB cJ cZ q_1.2).set 25 ((a 37), .inl (cI, 6600, .inl (upd (q_1.2.1 37) (Int32.toNatClampNeg ((q_1.2.1 35 0))) ((q_1.2.1 42 0)))))) H := hP
    have hD : va_D A ((wM h0 a cI cB cJ cZ q_1.2).set 25 ((a 37), .inl (cI, 6600, .inl (upd (q_1.2.1 37) (Int32.toNatClampNeg ((q_1.2.1 35 0))) ((q_1.2.1 42 0)))))) := hD
    have hP := wM_P_37 hP
    have hD := wM_D_37 hD
    refine lv_aload_n hx hb dn_M_item_212 rfl (lv_at hl 0 rfl) ?_
    refine lv_dup hx hb dn_M_item_213 rfl ?_
    refine va_get (D := (dC, dI)) (ci := 0) (v := .int ((q_1.2.1 35 0))) (C := rn_M) (T := fn_M) (N := 91) hx hb hg in_M hown hK hP 0 rfl rfl 35 (by decide) (hg _ wn_8_108) (fun _ h9 => h9) rfl dn_M_item_214 ?_
    refine lv_iconst (v := 1) hx hb dn_M_item_217 (by decide) ?_
    refine lv_iadd hx hb dn_M_item_218 ?_
    refine va_put (D := (dC, dI)) (ci := 0) (v := .int (((q_1.2.1 35 0) + 1))) (ty := .int) (C := rn_M) (T := fn_M) (N := 91) hx hb hg in_M tn_M tk_M nn_M hown hK hP hD hS 0 rfl rfl 35 (by decide) (hg _ wn_8_108) (fun _ h9 => h9) rfl (tk_M 35 (by decide)) rfl rfl (Nat.le_of_ble_eq_true rfl) dn_M_item_219 (fun H locs hP hD hS => ?_)
    have hP := wM_P_35 hP
    have hD := wM_D_35 hD
    refine lv_aload_n hx hb dn_M_item_222 rfl (lv_at hl 0 rfl) ?_
    refine lv_aload_n hx hb dn_M_item_223 rfl (lv_at hl 0 rfl) ?_
    refine va_get (D := (dC, dI)) (ci := 0) (v := .int ((q_1.2.1 8 0))) (C := rn_M) (T := fn_M) (N := 91) hx hb hg in_M hown hK hP 0 rfl rfl 8 (by decide) (hg _ wn_8_81) (fun _ h9 => h9) rfl dn_M_item_224 ?_
    refine lv_iconst (v := 2) hx hb dn_M_item_227 (by decide) ?_
    refine lv_iadd hx hb dn_M_item_228 ?_
    refine va_put (D := (dC, dI)) (ci := 0) (v := .int (((q_1.2.1 8 0) + 2))) (ty := .int) (C := rn_M) (T := fn_M) (N := 91) hx hb hg in_M tn_M tk_M nn_M hown hK hP hD hS 0 rfl rfl 8 (by decide) (hg _ wn_8_81) (fun _ h9 => h9) rfl (tk_M 8 (by decide)) rfl rfl (Nat.le_of_ble_eq_true rfl) dn_M_item_229 (fun H locs hP hD hS => ?_)
    have hP := wM_P_8 hP
    have hD := wM_D_8 hD
    refine lv_goto (tgt := 239) hx hb dn_M_item_232 (by decide) ?_
    exact bl_239 (upI (upI (upI q_1.2 37 (upd (q_1.2.1 37) (Int32.toNatClampNeg ((q_1.2.1 35 0))) ((q_1.2.1 42 0)))) 35 (fun _ => ((q_1.2.1 35 0) + 1))) 8 (fun _ => ((q_1.2.1 8 0) + 2))) hf hge a H locs ls hP hD hS (lv_sub hl [] rfl)
  have bl_131 : ∀ (s : ms), bk_M_item_131 N s = some y → gl s1 ≤ gl s → dcG p l e ({ frames := 808, cells := 2 * (gl y.2 - gl s1), slots := 2 * (gl y.2 - gl s1), locals := 19788 }) s0 m [.ref h0].toArray below meth c QQ (dC, dI) A (fun a => (wM h0 a cI cB cJ cZ s)) (2 * (gl s - gl s1)) 131 2 [(0, .ref h0)] [] := by
    intro s hf hge a H locs ls hP hD hS hl
    have hle := mo_M_item_131 N y s hf
    unfold bk_M_item_131 at hf
    refine lv_aload_n hx hb dn_M_item_131 rfl (lv_at hl 0 rfl) ?_
    refine va_get (D := (dC, dI)) (ci := 0) (v := .ref ((a 40))) (C := rn_M) (T := fn_M) (N := 91) hx hb hg in_M hown hK hP 0 rfl rfl 40 (by decide) (hg _ wn_8_113) (fun _ h9 => h9) rfl dn_M_item_132 ?_
    refine lv_aload_n hx hb dn_M_item_135 rfl (lv_at hl 0 rfl) ?_
    refine va_get (D := (dC, dI)) (ci := 0) (v := .int ((s.1 38 0))) (C := rn_M) (T := fn_M) (N := 91) hx hb hg in_M hown hK hP 0 rfl rfl 38 (by decide) (hg _ wn_8_111) (fun _ h9 => h9) rfl dn_M_item_136 ?_
    refine lv_aload_n hx hb dn_M_item_139 rfl (lv_at hl 0 rfl) ?_
    refine va_get (D := (dC, dI)) (ci := 0) (v := .int ((s.1 42 0))) (C := rn_M) (T := fn_M) (N := 91) hx hb hg in_M hown hK hP 0 rfl rfl 42 (by decide) (hg _ wn_8_115) (fun _ h9 => h9) rfl dn_M_item_140 ?_
    obtain ⟨hg_1, hf⟩ := dc_g hf
    refine va_iast hx hb hK hP hD hS 27 0 rfl rfl hg_1 dn_M_item_143 (fun H locs hP hD hS => ?_)
    have hP : va_P (dC, dI) xcl ((wM h0 a cI cB cJ cZ s).set 27 ((a 40), .inl (cI, 6600, .inl (upd (s.1 40) (Int32.toNatClampNeg ((s.1 38 0))) ((s.1 42 0)))))) H := hP
    have hD : va_D A ((wM h0 a cI cB cJ cZ s).set 27 ((a 40), .inl (cI, 6600, .inl (upd (s.1 40) (Int32.toNatClampNeg ((s.1 38 0))) ((s.1 42 0)))))) := hD
    have hP := wM_P_40 hP
    have hD := wM_D_40 hD
    refine lv_aload_n hx hb dn_M_item_144 rfl (lv_at hl 0 rfl) ?_
    refine lv_dup hx hb dn_M_item_145 rfl ?_
    refine va_get (D := (dC, dI)) (ci := 0) (v := .int ((s.1 38 0))) (C := rn_M) (T := fn_M) (N := 91) hx hb hg in_M hown hK hP 0 rfl rfl 38 (by decide) (hg _ wn_8_111) (fun _ h9 => h9) rfl dn_M_item_146 ?_
    refine lv_iconst (v := 1) hx hb dn_M_item_149 (by decide) ?_
    refine lv_iadd hx hb dn_M_item_150 ?_
    refine va_put (D := (dC, dI)) (ci := 0) (v := .int (((s.1 38 0) + 1))) (ty := .int) (C := rn_M) (T := fn_M) (N := 91) hx hb hg in_M tn_M tk_M nn_M hown hK hP hD hS 0 rfl rfl 38 (by decide) (hg _ wn_8_111) (fun _ h9 => h9) rfl (tk_M 38 (by decide)) rfl rfl (Nat.le_of_ble_eq_true rfl) dn_M_item_151 (fun H locs hP hD hS => ?_)
    have hP := wM_P_38 hP
    have hD := wM_D_38 hD
    refine lv_goto (tgt := 239) hx hb dn_M_item_154 (by decide) ?_
    exact bl_239 (upI (upI s 40 (upd (s.1 40) (Int32.toNatClampNeg ((s.1 38 0))) ((s.1 42 0)))) 38 (fun _ => ((s.1 38 0) + 1))) hf hge a H locs ls hP hD hS (lv_sub hl [] rfl)
  have bl_90 : ∀ (s : ms), bk_M_item_90 N s = some y → gl s1 ≤ gl s → dcG p l e ({ frames := 808, cells := 2 * (gl y.2 - gl s1), slots := 2 * (gl y.2 - gl s1), locals := 19788 }) s0 m [.ref h0].toArray below meth c QQ (dC, dI) A (fun a => (wM h0 a cI cB cJ cZ s)) (2 * (gl s - gl s1)) 90 2 [] [] := by
    intro s hf hge a H locs ls hP hD hS hl
    have hle := mo_M_item_90 N y s hf
    unfold bk_M_item_90 at hf
    refine lv_goto (tgt := 239) hx hb dn_M_item_90 (by decide) ?_
    exact bl_239 s hf hge a H locs ls hP hD hS hl
  intro hge a H locs ls hP hD hS hl
  have hle := mn_M_item N s1 y hf
  unfold fn_M_item at hf
  refine lv_aload_n hx hb dn_M_item_0 rfl (lv_at hl 0 rfl) ?_
  obtain ⟨q_1, hc_2, hf⟩ := dc_b hf
  have hme := mn_M_kind N s1 q_1 hc_2
  refine dc_calli (dc_runV (ar := 0) (As := []) (rest := []) (ci := 0) (q0 := 0) ⟨hx, hb, hml, hown, hg⟩ hK hN hT hS hA (ct_M_kind l dC dI cI cB cJ cZ cQ N H.size h0 a s1 q_1 hc_2) hP hD rfl rfl wn_9_214 wn_9_216 sn_M_kind wn_1_13 wn_9_217 rfl rfl (by decide +kernel) ⟨Nat.le_of_ble_eq_true rfl, Nat.le_of_ble_eq_true rfl⟩ rfl hl.1 rfl (Nat.le_of_ble_eq_true rfl) dn_M_item_1 (dc_rm0 hle)) hP hD hS hA (fun r_3 _ H locs hw hP hD hS => ?_)
  refine W.widen (k := 2 * (gl q_1.2 - gl s1)) (n := 2 * (gl q_1.2 - gl s1)) (dc_we hme) (dc_we hme) ?_
  have hge := Nat.le_trans hge (Nat.le_of_eq hme.symm)
  have hle := Nat.le_trans (Nat.le_of_eq hme) hle
  have hw : r_3 = q_1.1 := hw
  subst hw
  refine lv_sipush (v := 304) hx hb dn_M_item_4 (by decide) ?_
  refine lv_icmp_eq (tgt := 20) hx hb dn_M_item_7 (by decide) (fun h => ?_) (fun h => ?_)
  · have hf := (if_pos h).symm.trans hf
    exact bl_20 q_1.2 hf hge a H locs ls hP hD hS hl
  · have hf := (if_neg h).symm.trans hf
    refine lv_aload_n hx hb dn_M_item_10 rfl (lv_at hl 0 rfl) ?_
    obtain ⟨q_4, hc_5, hf⟩ := dc_b hf
    have hme := mn_M_kind N q_1.2 q_4 hc_5
    refine dc_calli (dc_runV (ar := 0) (As := []) (rest := []) (ci := 0) (q0 := 0) ⟨hx, hb, hml, hown, hg⟩ hK hN hT hS hA (ct_M_kind l dC dI cI cB cJ cZ cQ N H.size h0 a q_1.2 q_4 hc_5) hP hD rfl rfl wn_9_214 wn_9_216 sn_M_kind wn_1_13 wn_9_217 rfl rfl (by decide +kernel) ⟨Nat.le_of_ble_eq_true rfl, Nat.le_of_ble_eq_true rfl⟩ rfl hl.1 rfl (Nat.le_of_ble_eq_true rfl) dn_M_item_11 (dc_rm0 hle)) hP hD hS hA (fun r_6 _ H locs hw hP hD hS => ?_)
    refine W.widen (k := 2 * (gl q_4.2 - gl s1)) (n := 2 * (gl q_4.2 - gl s1)) (dc_we hme) (dc_we hme) ?_
    have hge := Nat.le_trans hge (Nat.le_of_eq hme.symm)
    have hle := Nat.le_trans (Nat.le_of_eq hme) hle
    have hw : r_6 = q_4.1 := hw
    subst hw
    refine lv_sipush (v := 305) hx hb dn_M_item_14 (by decide) ?_
    refine lv_icmp_ne (tgt := 76) hx hb dn_M_item_17 (by decide) (fun h => ?_) (fun h => ?_)
    · have hf := (if_neg h).symm.trans hf
      refine lv_aload_n hx hb dn_M_item_76 rfl (lv_at hl 0 rfl) ?_
      obtain ⟨q_7, hc_8, hf⟩ := dc_b hf
      have hme := mn_M_kind N q_4.2 q_7 hc_8
      refine dc_calli (dc_runV (ar := 0) (As := []) (rest := []) (ci := 0) (q0 := 0) ⟨hx, hb, hml, hown, hg⟩ hK hN hT hS hA (ct_M_kind l dC dI cI cB cJ cZ cQ N H.size h0 a q_4.2 q_7 hc_8) hP hD rfl rfl wn_9_214 wn_9_216 sn_M_kind wn_1_13 wn_9_217 rfl rfl (by decide +kernel) ⟨Nat.le_of_ble_eq_true rfl, Nat.le_of_ble_eq_true rfl⟩ rfl hl.1 rfl (Nat.le_of_ble_eq_true rfl) dn_M_item_77 (dc_rm0 hle)) hP hD hS hA (fun r_9 _ H locs hw hP hD hS => ?_)
      refine W.widen (k := 2 * (gl q_7.2 - gl s1)) (n := 2 * (gl q_7.2 - gl s1)) (dc_we hme) (dc_we hme) ?_
      have hge := Nat.le_trans hge (Nat.le_of_eq hme.symm)
      have hle := Nat.le_trans (Nat.le_of_eq hme) hle
      have hw : r_9 = q_7.1 := hw
      subst hw
      refine lv_sipush (v := 306) hx hb dn_M_item_80 (by decide) ?_
      refine lv_icmp_ne (tgt := 93) hx hb dn_M_item_83 (by decide) (fun h => ?_) (fun h => ?_)
      · have hf := (if_neg h).symm.trans hf
        refine lv_aload_n hx hb dn_M_item_93 rfl (lv_at hl 0 rfl) ?_
        obtain ⟨q_10, hc_11, hf⟩ := dc_b hf
        have hme := mn_M_kind N q_7.2 q_10 hc_11
        refine dc_calli (dc_runV (ar := 0) (As := []) (rest := []) (ci := 0) (q0 := 0) ⟨hx, hb, hml, hown, hg⟩ hK hN hT hS hA (ct_M_kind l dC dI cI cB cJ cZ cQ N H.size h0 a q_7.2 q_10 hc_11) hP hD rfl rfl wn_9_214 wn_9_216 sn_M_kind wn_1_13 wn_9_217 rfl rfl (by decide +kernel) ⟨Nat.le_of_ble_eq_true rfl, Nat.le_of_ble_eq_true rfl⟩ rfl hl.1 rfl (Nat.le_of_ble_eq_true rfl) dn_M_item_94 (dc_rm0 hle)) hP hD hS hA (fun r_12 _ H locs hw hP hD hS => ?_)
        refine W.widen (k := 2 * (gl q_10.2 - gl s1)) (n := 2 * (gl q_10.2 - gl s1)) (dc_we hme) (dc_we hme) ?_
        have hge := Nat.le_trans hge (Nat.le_of_eq hme.symm)
        have hle := Nat.le_trans (Nat.le_of_eq hme) hle
        have hw : r_12 = q_10.1 := hw
        subst hw
        refine lv_sipush (v := 307) hx hb dn_M_item_97 (by decide) ?_
        refine lv_icmp_ne (tgt := 157) hx hb dn_M_item_100 (by decide) (fun h => ?_) (fun h => ?_)
        · have hf := (if_neg h).symm.trans hf
          refine lv_aload_n hx hb dn_M_item_157 rfl (lv_at hl 0 rfl) ?_
          obtain ⟨q_13, hc_14, hf⟩ := dc_b hf
          have hme := mn_M_kind N q_10.2 q_13 hc_14
          refine dc_calli (dc_runV (ar := 0) (As := []) (rest := []) (ci := 0) (q0 := 0) ⟨hx, hb, hml, hown, hg⟩ hK hN hT hS hA (ct_M_kind l dC dI cI cB cJ cZ cQ N H.size h0 a q_10.2 q_13 hc_14) hP hD rfl rfl wn_9_214 wn_9_216 sn_M_kind wn_1_13 wn_9_217 rfl rfl (by decide +kernel) ⟨Nat.le_of_ble_eq_true rfl, Nat.le_of_ble_eq_true rfl⟩ rfl hl.1 rfl (Nat.le_of_ble_eq_true rfl) dn_M_item_158 (dc_rm0 hle)) hP hD hS hA (fun r_15 _ H locs hw hP hD hS => ?_)
          refine W.widen (k := 2 * (gl q_13.2 - gl s1)) (n := 2 * (gl q_13.2 - gl s1)) (dc_we hme) (dc_we hme) ?_
          have hge := Nat.le_trans hge (Nat.le_of_eq hme.symm)
          have hle := Nat.le_trans (Nat.le_of_eq hme) hle
          have hw : r_15 = q_13.1 := hw
          subst hw
          refine lv_sipush (v := 317) hx hb dn_M_item_161 (by decide) ?_
          refine lv_icmp_ne (tgt := 235) hx hb dn_M_item_164 (by decide) (fun h => ?_) (fun h => ?_)
          · have hf := (if_neg h).symm.trans hf
            refine lv_aload_n hx hb dn_M_item_235 rfl (lv_at hl 0 rfl) ?_
            obtain ⟨q_16, hc_17, hf⟩ := dc_b hf
            have hmg := mn_M_instance N q_13.2 q_16 hc_17
            have hle2 : gl q_16.2 ≤ gl y.2 := mo_M_item_239 N y _ hf
            refine dc_callv (dc_runV (ar := 0) (As := []) (rest := []) (ci := 0) (q0 := 0) ⟨hx, hb, hml, hown, hg⟩ hK hN hT hS hA (ct_M_instance l dC dI cI cB cJ cZ cQ N H.size h0 a q_13.2 q_16 hc_17) hP hD rfl rfl wn_10_141 wn_10_143 sn_M_instance wn_1_13 wn_10_144 rfl rfl (by decide +kernel) ⟨Nat.le_of_ble_eq_true rfl, Nat.le_of_ble_eq_true rfl⟩ rfl hl.1 rfl (Nat.le_of_ble_eq_true rfl) dn_M_item_236 (dc_rm hge hmg hle2)) hP hD hS hA (fun a H locs hw hP hD hS => ?_)
            refine W.widen (k := 2 * (gl q_16.2 - gl s1)) (n := 2 * (gl q_16.2 - gl s1)) (dc_wa hge hmg) (dc_wa hge hmg) ?_
            have hge := Nat.le_trans hge hmg
            have hle := hle2
            exact bl_239 q_16.2 hf hge a H locs ls hP hD hS (lv_sub hl [] rfl)
          · have hf := (if_pos h).symm.trans hf
            refine lv_aload_n hx hb dn_M_item_167 rfl (lv_at hl 0 rfl) ?_
            refine lv_aload_n hx hb dn_M_item_168 rfl (lv_at hl 0 rfl) ?_
            refine va_get (D := (dC, dI)) (ci := 0) (v := .int ((q_13.2.1 8 0))) (C := rn_M) (T := fn_M) (N := 91) hx hb hg in_M hown hK hP 0 rfl rfl 8 (by decide) (hg _ wn_8_81) (fun _ h9 => h9) rfl dn_M_item_169 ?_
            refine lv_iconst (v := 2) hx hb dn_M_item_172 (by decide) ?_
            refine lv_iadd hx hb dn_M_item_173 ?_
            refine va_put (D := (dC, dI)) (ci := 0) (v := .int (((q_13.2.1 8 0) + 2))) (ty := .int) (C := rn_M) (T := fn_M) (N := 91) hx hb hg in_M tn_M tk_M nn_M hown hK hP hD hS 0 rfl rfl 8 (by decide) (hg _ wn_8_81) (fun _ h9 => h9) rfl (tk_M 8 (by decide)) rfl rfl (Nat.le_of_ble_eq_true rfl) dn_M_item_174 (fun H locs hP hD hS => ?_)
            have hP := wM_P_8 hP
            have hD := wM_D_8 hD
            refine lv_aload_n hx hb dn_M_item_177 rfl (lv_at hl 0 rfl) ?_
            refine va_get (D := (dC, dI)) (ci := 0) (v := .ref ((a 36))) (C := rn_M) (T := fn_M) (N := 91) hx hb hg in_M hown hK hP 0 rfl rfl 36 (by decide) (hg _ wn_8_109) (fun _ h9 => h9) rfl dn_M_item_178 ?_
            refine lv_aload_n hx hb dn_M_item_181 rfl (lv_at hl 0 rfl) ?_
            refine va_get (D := (dC, dI)) (ci := 0) (v := .int ((q_13.2.1 35 0))) (C := rn_M) (T := fn_M) (N := 91) hx hb hg in_M hown hK hP 0 rfl rfl 35 (by decide) (hg _ wn_8_108) (fun _ h9 => h9) rfl dn_M_item_182 ?_
            refine lv_aload_n hx hb dn_M_item_185 rfl (lv_at hl 0 rfl) ?_
            refine va_get (D := (dC, dI)) (ci := 0) (v := .int ((q_13.2.1 42 0))) (C := rn_M) (T := fn_M) (N := 91) hx hb hg in_M hown hK hP 0 rfl rfl 42 (by decide) (hg _ wn_8_115) (fun _ h9 => h9) rfl dn_M_item_186 ?_
            obtain ⟨hg_16, hf⟩ := dc_g hf
            refine va_iast hx hb hK hP hD hS 24 0 rfl rfl hg_16 dn_M_item_189 (fun H locs hP hD hS => ?_)
            have hP : va_P (dC, dI) xcl ((wM h0 a cI cB cJ cZ (upI q_13.2 8 (fun _ => ((q_13.2.1 8 0) + 2)))).set 24 ((a 36), .inl (cI, 6600, .inl (upd (q_13.2.1 36) (Int32.toNatClampNeg ((q_13.2.1 35 0))) ((q_13.2.1 42 0)))))) H := hP
            have hD : va_D A ((wM h0 a cI cB cJ cZ (upI q_13.2 8 (fun _ => ((q_13.2.1 8 0) + 2)))).set 24 ((a 36), .inl (cI, 6600, .inl (upd (q_13.2.1 36) (Int32.toNatClampNeg ((q_13.2.1 35 0))) ((q_13.2.1 42 0)))))) := hD
            have hP := wM_P_36 hP
            have hD := wM_D_36 hD
            refine lv_aload_n hx hb dn_M_item_190 rfl (lv_at hl 0 rfl) ?_
            refine lv_aload_n hx hb dn_M_item_191 rfl (lv_at hl 0 rfl) ?_
            obtain ⟨q_17, hc_18, hf⟩ := dc_b hf
            have hmg := mn_M_exp N (upI (upI q_13.2 8 (fun _ => ((q_13.2.1 8 0) + 2))) 36 (upd (q_13.2.1 36) (Int32.toNatClampNeg ((q_13.2.1 35 0))) ((q_13.2.1 42 0)))) q_17 hc_18
            have hle2 : gl q_17.2 ≤ gl y.2 := mo_M_item_195 N y _ _ hf
            refine dc_calli (dc_runV (ar := 0) (As := []) (rest := [.ref h0]) (ci := 0) (q0 := 0) ⟨hx, hb, hml, hown, hg⟩ hK hN hT hS hA (ct_M_exp l dC dI cI cB cJ cZ cQ N H.size h0 a (upI (upI q_13.2 8 (fun _ => ((q_13.2.1 8 0) + 2))) 36 (upd (q_13.2.1 36) (Int32.toNatClampNeg ((q_13.2.1 35 0))) ((q_13.2.1 42 0)))) q_17 hc_18) hP hD rfl rfl wn_10_77 wn_10_79 sn_M_exp wn_1_13 wn_10_80 rfl rfl (by decide +kernel) ⟨Nat.le_of_ble_eq_true rfl, Nat.le_of_ble_eq_true rfl⟩ rfl hl.1 rfl (Nat.le_of_ble_eq_true rfl) dn_M_item_192 (dc_rm hge hmg hle2)) hP hD hS hA (fun r_19 a H locs hw hP hD hS => ?_)
            refine W.widen (k := 2 * (gl q_17.2 - gl s1)) (n := 2 * (gl q_17.2 - gl s1)) (dc_wa hge hmg) (dc_wa hge hmg) ?_
            have hge := Nat.le_trans hge hmg
            have hle := hle2
            have hw : r_19 = q_17.1 := hw
            subst hw
            exact bl_195 q_17.1 q_17.2 hf hge a H locs ls hP hD hS hl
        · have hf := (if_pos h).symm.trans hf
          refine lv_aload_n hx hb dn_M_item_103 rfl (lv_at hl 0 rfl) ?_
          refine lv_aload_n hx hb dn_M_item_104 rfl (lv_at hl 0 rfl) ?_
          refine va_get (D := (dC, dI)) (ci := 0) (v := .int ((q_10.2.1 8 0))) (C := rn_M) (T := fn_M) (N := 91) hx hb hg in_M hown hK hP 0 rfl rfl 8 (by decide) (hg _ wn_8_81) (fun _ h9 => h9) rfl dn_M_item_105 ?_
          refine lv_bipush (v := 6) hx hb dn_M_item_108 (by decide) ?_
          refine lv_iadd hx hb dn_M_item_110 ?_
          refine va_put (D := (dC, dI)) (ci := 0) (v := .int (((q_10.2.1 8 0) + 6))) (ty := .int) (C := rn_M) (T := fn_M) (N := 91) hx hb hg in_M tn_M tk_M nn_M hown hK hP hD hS 0 rfl rfl 8 (by decide) (hg _ wn_8_81) (fun _ h9 => h9) rfl (tk_M 8 (by decide)) rfl rfl (Nat.le_of_ble_eq_true rfl) dn_M_item_111 (fun H locs hP hD hS => ?_)
          have hP := wM_P_8 hP
          have hD := wM_D_8 hD
          refine lv_aload_n hx hb dn_M_item_114 rfl (lv_at hl 0 rfl) ?_
          refine va_get (D := (dC, dI)) (ci := 0) (v := .ref ((a 39))) (C := rn_M) (T := fn_M) (N := 91) hx hb hg in_M hown hK hP 0 rfl rfl 39 (by decide) (hg _ wn_8_112) (fun _ h9 => h9) rfl dn_M_item_115 ?_
          refine lv_aload_n hx hb dn_M_item_118 rfl (lv_at hl 0 rfl) ?_
          refine va_get (D := (dC, dI)) (ci := 0) (v := .int ((q_10.2.1 38 0))) (C := rn_M) (T := fn_M) (N := 91) hx hb hg in_M hown hK hP 0 rfl rfl 38 (by decide) (hg _ wn_8_111) (fun _ h9 => h9) rfl dn_M_item_119 ?_
          refine lv_aload_n hx hb dn_M_item_122 rfl (lv_at hl 0 rfl) ?_
          refine va_get (D := (dC, dI)) (ci := 0) (v := .int ((q_10.2.1 42 0))) (C := rn_M) (T := fn_M) (N := 91) hx hb hg in_M hown hK hP 0 rfl rfl 42 (by decide) (hg _ wn_8_115) (fun _ h9 => h9) rfl dn_M_item_123 ?_
          obtain ⟨hg_13, hf⟩ := dc_g hf
          refine va_iast hx hb hK hP hD hS 26 0 rfl rfl hg_13 dn_M_item_126 (fun H locs hP hD hS => ?_)
          have hP : va_P (dC, dI) xcl ((wM h0 a cI cB cJ cZ (upI q_10.2 8 (fun _ => ((q_10.2.1 8 0) + 6)))).set 26 ((a 39), .inl (cI, 6600, .inl (upd (q_10.2.1 39) (Int32.toNatClampNeg ((q_10.2.1 38 0))) ((q_10.2.1 42 0)))))) H := hP
          have hD : va_D A ((wM h0 a cI cB cJ cZ (upI q_10.2 8 (fun _ => ((q_10.2.1 8 0) + 6)))).set 26 ((a 39), .inl (cI, 6600, .inl (upd (q_10.2.1 39) (Int32.toNatClampNeg ((q_10.2.1 38 0))) ((q_10.2.1 42 0)))))) := hD
          have hP := wM_P_39 hP
          have hD := wM_D_39 hD
          refine lv_aload_n hx hb dn_M_item_127 rfl (lv_at hl 0 rfl) ?_
          obtain ⟨q_14, hc_15, hf⟩ := dc_b hf
          have hmg := mn_M_statement N (upI (upI q_10.2 8 (fun _ => ((q_10.2.1 8 0) + 6))) 39 (upd (q_10.2.1 39) (Int32.toNatClampNeg ((q_10.2.1 38 0))) ((q_10.2.1 42 0)))) q_14 hc_15
          have hle2 : gl q_14.2 ≤ gl y.2 := mo_M_item_131 N y _ hf
          refine dc_callv (dc_runV (ar := 0) (As := []) (rest := []) (ci := 0) (q0 := 0) ⟨hx, hb, hml, hown, hg⟩ hK hN hT hS hA (ct_M_statement l dC dI cI cB cJ cZ cQ N H.size h0 a (upI (upI q_10.2 8 (fun _ => ((q_10.2.1 8 0) + 6))) 39 (upd (q_10.2.1 39) (Int32.toNatClampNeg ((q_10.2.1 38 0))) ((q_10.2.1 42 0)))) q_14 hc_15) hP hD rfl rfl wn_10_121 wn_10_123 sn_M_statement wn_1_13 wn_10_124 rfl rfl (by decide +kernel) ⟨Nat.le_of_ble_eq_true rfl, Nat.le_of_ble_eq_true rfl⟩ rfl hl.1 rfl (Nat.le_of_ble_eq_true rfl) dn_M_item_128 (dc_rm hge hmg hle2)) hP hD hS hA (fun a H locs hw hP hD hS => ?_)
          refine W.widen (k := 2 * (gl q_14.2 - gl s1)) (n := 2 * (gl q_14.2 - gl s1)) (dc_wa hge hmg) (dc_wa hge hmg) ?_
          have hge := Nat.le_trans hge hmg
          have hle := hle2
          exact bl_131 q_14.2 hf hge a H locs ls hP hD hS hl
      · have hf := (if_pos h).symm.trans hf
        refine lv_aload_n hx hb dn_M_item_86 rfl (lv_at hl 0 rfl) ?_
        obtain ⟨q_10, hc_11, hf⟩ := dc_b hf
        have hmg := mn_M_assign N q_7.2 q_10 hc_11
        have hle2 : gl q_10.2 ≤ gl y.2 := mo_M_item_90 N y _ hf
        refine dc_callv (dc_runV (ar := 0) (As := []) (rest := []) (ci := 0) (q0 := 0) ⟨hx, hb, hml, hown, hg⟩ hK hN hT hS hA (ct_M_assign l dC dI cI cB cJ cZ cQ N H.size h0 a q_7.2 q_10 hc_11) hP hD rfl rfl wn_10_69 wn_10_71 sn_M_assign wn_1_13 wn_10_72 rfl rfl (by decide +kernel) ⟨Nat.le_of_ble_eq_true rfl, Nat.le_of_ble_eq_true rfl⟩ rfl hl.1 rfl (Nat.le_of_ble_eq_true rfl) dn_M_item_87 (dc_rm hge hmg hle2)) hP hD hS hA (fun a H locs hw hP hD hS => ?_)
        refine W.widen (k := 2 * (gl q_10.2 - gl s1)) (n := 2 * (gl q_10.2 - gl s1)) (dc_wa hge hmg) (dc_wa hge hmg) ?_
        have hge := Nat.le_trans hge hmg
        have hle := hle2
        exact bl_90 q_10.2 hf hge a H locs ls hP hD hS (lv_sub hl [] rfl)
    · have hf := (if_pos h).symm.trans hf
      exact bl_20 q_4.2 hf hge a H locs ls hP hD hS hl
theorem mn_M_most (N : Nat) (v0 : Int64) (s : ms) (y : (Int64 × ms)) (hf : fn_M_most N v0 s = some y) : gl y.2 = gl s := by
  unfold fn_M_most at hf
  have hm : gl s = gl s := rfl
  by_cases h : (lg_cmp v0 1000000000) ≤ 0
  · have hf := (if_pos h).symm.trans hf
    exact (dc_e hf).trans hm
  · have hf := (if_neg h).symm.trans hf
    exact (dc_e hf).trans hm
set_option maxHeartbeats 8000000 in
set_option maxRecDepth 100000 in
theorem ct_M_most (l : Launch) (dC : Nat → ClassId) (dI : Nat → Nat → Nat) (cI cB cJ cZ cQ : ClassId) (N sz : Nat) (h0 : Nat) (a : Nat → Nat) (v0 : Int64) (s : ms) (y : (Int64 × ms)) (hf : fn_M_most N v0 s = some y) : Met l yn_M_most (xw yn_M_most bn_M_most 2 (some .long)) ({ frames := 0, cells := 0, slots := 0, locals := 0 }) (dc_P (dC, dI) xcl (xt cI cB cJ cZ cQ) [.long v0] sz (wM h0 a cI cB cJ cZ s)) (xk_Ql (dC, dI) xcl (xt cI cB cJ cZ cQ) (fun (r : Int64) (_ : Unit) => r = y.1) (fun u : Unit => (wM h0 a cI cB cJ cZ y.2)) (va_A (wM h0 a cI cB cJ cZ s) sz)) 0 0 (va_A (wM h0 a cI cB cJ cZ s) sz) := by
  refine dc_of (QA := xk_Ql (dC, dI) xcl (xt cI cB cJ cZ cQ) (fun (r : Int64) (_ : Unit) => r = y.1) (fun u : Unit => (wM h0 a cI cB cJ cZ y.2))) (by decide) (Nat.le_of_ble_eq_true rfl) ?_
  intro p e s0 m below meth c hx hb hml hown hg hr hlocks hin hP hK hN A hA hD hT ls hl
  have hown : s0.vm.findClass rn_M = some m.cls := hown
  obtain ⟨H, hH⟩ : ∃ z, z = s0.heap := ⟨_, rfl⟩
  rw [← hH] at hP
  have hS : va_S A s0.heap H [] := by rw [hH]; exact va_S.rf
  suffices kk : ∀ QQ : State → Prop, QQ = MQ below (xk_Ql (dC, dI) xcl (xt cI cB cJ cZ cQ) (fun (r : Int64) (_ : Unit) => r = y.1) (fun u : Unit => (wM h0 a cI cB cJ cZ y.2)) A) [.long v0].toArray s0 0 0 A → dcC p l e ({ frames := 0, cells := 0, slots := 0, locals := 0 }) s0 m [.long v0].toArray below meth c QQ (dC, dI) A (wM h0 a cI cB cJ cZ s) 0 2 [(0, .long v0)] [] by
    have k9 := kk _ rfl H [] ls hP hD hS hl
    rw [hH] at k9; exact k9
  clear hP hD hS hl hH H ls
  intro QQ hQQ
  intro H locs ls hP hD hS hl
  unfold fn_M_most at hf
  refine lv_lload_n hx hb dn_M_most_0 rfl (lv_at hl 0 rfl) ?_
  refine lv_ldc2 hx hb hown (hg _ wn_10_156) dn_M_most_1 ?_
  refine W.lcmp hx hb dn_M_most_4 ?_
  refine lv_if_le (tgt := 14) hx hb dn_M_most_5 (by decide) (fun h => ?_) (fun h => ?_)
  · have hf := (if_pos h).symm.trans hf
    refine lv_lload_n hx hb dn_M_most_14 rfl (lv_at hl 0 rfl) ?_
    rw [hQQ, ← Option.some.inj hf]
    exact xk_lret (w1 := fun u : Unit => (wM h0 a cI cB cJ cZ s)) () hx hb hr hlocks hK hS dn_M_most_15 hP hD rfl (Nat.le_refl _) (Nat.le_refl _)
  · have hf := (if_neg h).symm.trans hf
    refine lv_ldc2 hx hb hown (hg _ wn_10_156) dn_M_most_8 ?_
    refine lv_goto (tgt := 15) hx hb dn_M_most_11 (by decide) ?_
    rw [hQQ, ← Option.some.inj hf]
    exact xk_lret (w1 := fun u : Unit => (wM h0 a cI cB cJ cZ s)) () hx hb hr hlocks hK hS dn_M_most_15 hP hD rfl (Nat.le_refl _) (Nat.le_refl _)
theorem mo_M_module_172 (N : Nat) (k_125 : ms → Option (Unit × ms)) (y : (Unit × ms)) (hkm_125 : ∀ (s : ms), k_125 s = some y → gl s ≤ gl y.2) (t0 : Int32) (s : ms) (hf : bk_M_module_172 N k_125 t0 s = some y) : gl s ≤ gl y.2 := by
  unfold bk_M_module_172 at hf
  have hm : gl s ≤ gl s := Nat.le_refl _
  exact Nat.le_trans hm (hkm_125 (upI s 8 (fun _ => t0)) hf)
theorem mo_M_module_145 (N : Nat) (k_125 : ms → Option (Unit × ms)) (y : (Unit × ms)) (hkm_125 : ∀ (s : ms), k_125 s = some y → gl s ≤ gl y.2) (s : ms) (hf : bk_M_module_145 N k_125 s = some y) : gl s ≤ gl y.2 := by
  unfold bk_M_module_145 at hf
  have hm : gl s ≤ gl s := Nat.le_refl _
  obtain ⟨q_1, hc_2, hf⟩ := dc_b hf
  have hm := Nat.le_trans hm (Nat.le_of_eq (mn_M_port N s q_1 hc_2).symm)
  obtain ⟨q_3, hc_4, hf⟩ := dc_b hf
  have hm := Nat.le_trans hm (Nat.le_of_eq (mn_M_kind N q_1.2 q_3 hc_4).symm)
  by_cases h : q_3.1 = 44
  · have hf := (if_pos h).symm.trans hf
    exact Nat.le_trans hm (mo_M_module_172 N k_125 y hkm_125 (((q_3.2.1 8 0) + 1)) q_3.2 hf)
  · have hf := (if_neg h).symm.trans hf
    exact Nat.le_trans hm (mo_M_module_172 N k_125 y hkm_125 ((q_3.2.1 8 0)) q_3.2 hf)
theorem mb_M_module_376 (N : Nat) (y : (Unit × ms)) (k_376 : Int64 → Int64 → Int64 → Int64 → Int32 → ms → Option (Unit × ms)) (hkm_376 : ∀ (x1 : Int64) (x3 : Int64) (x5 : Int64) (x7 : Int64) (x9 : Int32) (s : ms), k_376 x1 x3 x5 x7 x9 s = some y → gl s ≤ gl y.2) (x1 : Int64) (x3 : Int64) (x5 : Int64) (x7 : Int64) (x9 : Int32) (s : ms) (hf : bd_M_module_376 N k_376 x1 x3 x5 x7 x9 s = some y) : gl s ≤ gl y.2 := by
  unfold bd_M_module_376 at hf
  have hm : gl s ≤ gl s := Nat.le_refl _
  by_cases h : (s.1 27 0) ≤ x9
  · have hf := (if_pos h).symm.trans hf
    obtain ⟨_, hf⟩ := dc_g hf
    obtain ⟨_, hf⟩ := dc_g hf
    obtain ⟨_, hf⟩ := dc_g hf
    obtain ⟨q_4, hc_5, hf⟩ := dc_b hf
    have hm := Nat.le_trans hm (Nat.le_of_eq (mn_M_most N x7 (upJ (upJ (upJ s 48 (vp_updL (s.2 48) (Int32.toNatClampNeg ((s.1 12 0))) x1)) 47 (vp_updL (s.2 47) (Int32.toNatClampNeg ((s.1 12 0))) x3)) 46 (vp_updL (s.2 46) (Int32.toNatClampNeg ((s.1 12 0))) x5)) q_4 hc_5).symm)
    obtain ⟨_, hf⟩ := dc_g hf
    obtain ⟨_, hf⟩ := dc_g hf
    obtain ⟨_, hf⟩ := dc_g hf
    obtain ⟨_, hf⟩ := dc_g hf
    obtain ⟨_, hf⟩ := dc_g hf
    exact Nat.le_trans hm (Nat.le_of_eq (dc_e hf).symm)
  · have hf := (if_neg h).symm.trans hf
    obtain ⟨_, hf⟩ := dc_g hf
    obtain ⟨_, hf⟩ := dc_g hf
    obtain ⟨q_3, hc_4, hf⟩ := dc_b hf
    have hm := Nat.le_trans hm (Nat.le_of_eq (mn_M_most N ((x1 + ((s.2 48) (Int32.toNatClampNeg (((s.1 28) (Int32.toNatClampNeg x9))))))) s q_3 hc_4).symm)
    obtain ⟨_, hf⟩ := dc_g hf
    obtain ⟨q_7, hc_8, hf⟩ := dc_b hf
    have hm := Nat.le_trans hm (Nat.le_of_eq (mn_M_most N ((x3 + ((q_3.2.2 47) (Int32.toNatClampNeg (((s.1 28) (Int32.toNatClampNeg x9))))))) q_3.2 q_7 hc_8).symm)
    obtain ⟨_, hf⟩ := dc_g hf
    obtain ⟨q_11, hc_12, hf⟩ := dc_b hf
    have hm := Nat.le_trans hm (Nat.le_of_eq (mn_M_most N (((x5 + 1) + ((q_7.2.2 46) (Int32.toNatClampNeg (((s.1 28) (Int32.toNatClampNeg x9))))))) q_7.2 q_11 hc_12).symm)
    obtain ⟨_, hf⟩ := dc_g hf
    obtain ⟨q_15, hc_16, hf⟩ := dc_b hf
    have hm := Nat.le_trans hm (Nat.le_of_eq (mn_M_most N ((x7 + ((q_11.2.2 45) (Int32.toNatClampNeg (((s.1 28) (Int32.toNatClampNeg x9))))))) q_11.2 q_15 hc_16).symm)
    exact Nat.le_trans hm (hkm_376 q_3.1 q_7.1 q_11.1 q_15.1 ((x9 + 1)) q_15.2 hf)
theorem mh_M_module_376 (N : Nat) (y : (Unit × ms)) : ∀ (n : Nat) (x1 : Int64) (x3 : Int64) (x5 : Int64) (x7 : Int64) (x9 : Int32) (s : ms), hd_M_module_376 N n x1 x3 x5 x7 x9 s = some y → gl s ≤ gl y.2 := by
  intro n
  induction n with
  | zero => intro x1 x3 x5 x7 x9 s hf; cases hf
  | succ n ih => intro x1 x3 x5 x7 x9 s hf; exact mb_M_module_376 N y (hd_M_module_376 N n) ih x1 x3 x5 x7 x9 s hf
theorem mb_M_module_299 (N : Nat) (y : (Unit × ms)) (k_299 : Int64 → Int32 → ms → Option (Unit × ms)) (hkm_299 : ∀ (x1 : Int64) (x3 : Int32) (s : ms), k_299 x1 x3 s = some y → gl s ≤ gl y.2) (x1 : Int64) (x3 : Int32) (s : ms) (hf : bd_M_module_299 N k_299 x1 x3 s = some y) : gl s ≤ gl y.2 := by
  unfold bd_M_module_299 at hf
  have hm : gl s ≤ gl s := Nat.le_refl _
  by_cases h : (s.1 18 0) ≤ x3
  · have hf := (if_pos h).symm.trans hf
    obtain ⟨_, hf⟩ := dc_g hf
    obtain ⟨_, hf⟩ := dc_g hf
    obtain ⟨_, hf⟩ := dc_g hf
    exact Nat.le_trans hm (mh_M_module_376 N y N x1 ((Int32.toInt64 (((s.1 18 0) - ((s.1 14) (Int32.toNatClampNeg ((s.1 12 0)))))))) 0 (((s.2 45) (Int32.toNatClampNeg ((s.1 12 0))))) (((s.1 15) (Int32.toNatClampNeg ((s.1 12 0))))) s hf)
  · have hf := (if_neg h).symm.trans hf
    obtain ⟨q_1, hc_2, hf⟩ := dc_b hf
    have hm := Nat.le_trans hm (Nat.le_of_eq (mn_M_isRegister N x3 s q_1 hc_2).symm)
    by_cases h : q_1.1 = 0
    · have hf := (if_pos h).symm.trans hf
      exact Nat.le_trans hm (hkm_299 x1 ((x3 + 1)) q_1.2 hf)
    · have hf := (if_neg h).symm.trans hf
      obtain ⟨_, hf⟩ := dc_g hf
      exact Nat.le_trans hm (hkm_299 ((x1 + (Int32.toInt64 (((q_1.2.1 20) (Int32.toNatClampNeg x3)))))) ((x3 + 1)) q_1.2 hf)
theorem mh_M_module_299 (N : Nat) (y : (Unit × ms)) : ∀ (n : Nat) (x1 : Int64) (x3 : Int32) (s : ms), hd_M_module_299 N n x1 x3 s = some y → gl s ≤ gl y.2 := by
  intro n
  induction n with
  | zero => intro x1 x3 s hf; cases hf
  | succ n ih => intro x1 x3 s hf; exact mb_M_module_299 N y (hd_M_module_299 N n) ih x1 x3 s hf
theorem mo_M_module_277 (N : Nat) (y : (Unit × ms)) (s : ms) (hf : bk_M_module_277 N s = some y) : gl s ≤ gl y.2 := by
  unfold bk_M_module_277 at hf
  have hm : gl s ≤ gl s := Nat.le_refl _
  obtain ⟨_, hf⟩ := dc_g hf
  exact Nat.le_trans hm (mh_M_module_299 N y N 0 (((s.1 14) (Int32.toNatClampNeg ((s.1 12 0))))) (upI s 8 (fun _ => ((s.1 8 0) + 1))) hf)
theorem mb_M_module_222 (N : Nat) (y : (Unit × ms)) (k_222 : Int32 → ms → Option (Unit × ms)) (hkm_222 : ∀ (x1 : Int32) (s : ms), k_222 x1 s = some y → gl s ≤ gl y.2) (x1 : Int32) (s : ms) (hf : bd_M_module_222 N k_222 x1 s = some y) : gl s ≤ gl y.2 := by
  unfold bd_M_module_222 at hf
  have hm : gl s ≤ gl s := Nat.le_refl _
  by_cases h : (s.1 18 0) ≤ x1
  · have hf := (if_pos h).symm.trans hf
    exact Nat.le_trans hm (mo_M_module_277 N y s hf)
  · have hf := (if_neg h).symm.trans hf
    by_cases h : (s.1 9 0) = 0
    · have hf := (if_pos h).symm.trans hf
      obtain ⟨q_1, hc_2, hf⟩ := dc_b hf
      have hm := Nat.le_trans hm (Nat.le_of_eq (mn_M_isDriven N x1 s q_1 hc_2).symm)
      by_cases h : q_1.1 = 0
      · have hf := (if_pos h).symm.trans hf
        exact Nat.le_trans hm (hkm_222 ((x1 + 1)) q_1.2 hf)
      · have hf := (if_neg h).symm.trans hf
        obtain ⟨_, hf⟩ := dc_g hf
        by_cases h : ((q_1.2.1 23) (Int32.toNatClampNeg x1)) = 0
        · have hf := (if_pos h).symm.trans hf
          obtain ⟨_, hf⟩ := dc_g hf
          obtain ⟨_, hf⟩ := dc_g hf
          obtain ⟨q_7, hc_8, hf⟩ := dc_b hf
          have hm := Nat.le_trans hm (Nat.le_of_eq (mn_M_fail N 33 (((q_1.2.1 5) (Int32.toNatClampNeg (((q_1.2.1 19) (Int32.toNatClampNeg x1)))))) q_1.2 q_7 hc_8).symm)
          exact Nat.le_trans hm (hkm_222 ((x1 + 1)) q_7.2 hf)
        · have hf := (if_neg h).symm.trans hf
          exact Nat.le_trans hm (hkm_222 ((x1 + 1)) q_1.2 hf)
    · have hf := (if_neg h).symm.trans hf
      exact Nat.le_trans hm (mo_M_module_277 N y s hf)
theorem mh_M_module_222 (N : Nat) (y : (Unit × ms)) : ∀ (n : Nat) (x1 : Int32) (s : ms), hd_M_module_222 N n x1 s = some y → gl s ≤ gl y.2 := by
  intro n
  induction n with
  | zero => intro x1 s hf; cases hf
  | succ n ih => intro x1 s hf; exact mb_M_module_222 N y (hd_M_module_222 N n) ih x1 s hf
theorem mo_M_module_212 (N : Nat) (y : (Unit × ms)) (s : ms) (hf : bk_M_module_212 N s = some y) : gl s ≤ gl y.2 := by
  unfold bk_M_module_212 at hf
  have hm : gl s ≤ gl s := Nat.le_refl _
  obtain ⟨_, hf⟩ := dc_g hf
  exact Nat.le_trans hm (mh_M_module_222 N y N (((s.1 14) (Int32.toNatClampNeg ((s.1 12 0))))) s hf)
theorem mo_M_module_209 (N : Nat) (k_188 : ms → Option (Unit × ms)) (y : (Unit × ms)) (hkm_188 : ∀ (s : ms), k_188 s = some y → gl s ≤ gl y.2) (s : ms) (hf : bk_M_module_209 N k_188 s = some y) : gl s ≤ gl y.2 := by
  unfold bk_M_module_209 at hf
  have hm : gl s ≤ gl s := Nat.le_refl _
  exact Nat.le_trans hm (hkm_188 s hf)
theorem mb_M_module_188 (N : Nat) (y : (Unit × ms)) (k_188 : ms → Option (Unit × ms)) (hkm_188 : ∀ (s : ms), k_188 s = some y → gl s ≤ gl y.2) (s : ms) (hf : bd_M_module_188 N k_188 s = some y) : gl s ≤ gl y.2 := by
  unfold bd_M_module_188 at hf
  have hm : gl s ≤ gl s := Nat.le_refl _
  by_cases h : (s.1 9 0) = 0
  · have hf := (if_pos h).symm.trans hf
    obtain ⟨q_1, hc_2, hf⟩ := dc_b hf
    have hm := Nat.le_trans hm (Nat.le_of_eq (mn_M_kind N s q_1 hc_2).symm)
    by_cases h : q_1.1 = 301
    · have hf := (if_pos h).symm.trans hf
      exact Nat.le_trans hm (mo_M_module_212 N y q_1.2 hf)
    · have hf := (if_neg h).symm.trans hf
      obtain ⟨q_4, hc_5, hf⟩ := dc_b hf
      have hm := Nat.le_trans hm (mn_M_item N q_1.2 q_4 hc_5)
      exact Nat.le_trans hm (mo_M_module_209 N k_188 y hkm_188 q_4.2 hf)
  · have hf := (if_neg h).symm.trans hf
    exact Nat.le_trans hm (mo_M_module_212 N y s hf)
theorem mh_M_module_188 (N : Nat) (y : (Unit × ms)) : ∀ (n : Nat) (s : ms), hd_M_module_188 N n s = some y → gl s ≤ gl y.2 := by
  intro n
  induction n with
  | zero => intro s hf; cases hf
  | succ n ih => intro s hf; exact mb_M_module_188 N y (hd_M_module_188 N n) ih s hf
theorem mb_M_module_125 (N : Nat) (y : (Unit × ms)) (k_125 : ms → Option (Unit × ms)) (hkm_125 : ∀ (s : ms), k_125 s = some y → gl s ≤ gl y.2) (s : ms) (hf : bd_M_module_125 N k_125 s = some y) : gl s ≤ gl y.2 := by
  unfold bd_M_module_125 at hf
  have hm : gl s ≤ gl s := Nat.le_refl _
  obtain ⟨q_1, hc_2, hf⟩ := dc_b hf
  have hm := Nat.le_trans hm (Nat.le_of_eq (mn_M_is N 302 s q_1 hc_2).symm)
  by_cases h : q_1.1 = 0
  · have hf := (if_pos h).symm.trans hf
    obtain ⟨q_4, hc_5, hf⟩ := dc_b hf
    have hm := Nat.le_trans hm (Nat.le_of_eq (mn_M_is N 303 q_1.2 q_4 hc_5).symm)
    by_cases h : q_4.1 = 0
    · have hf := (if_pos h).symm.trans hf
      exact Nat.le_trans hm (mh_M_module_188 N y N (upI q_4.2 8 (fun _ => ((q_4.2.1 8 0) + 2))) hf)
    · have hf := (if_neg h).symm.trans hf
      exact Nat.le_trans hm (mo_M_module_145 N k_125 y hkm_125 q_4.2 hf)
  · have hf := (if_neg h).symm.trans hf
    exact Nat.le_trans hm (mo_M_module_145 N k_125 y hkm_125 q_1.2 hf)
theorem mh_M_module_125 (N : Nat) (y : (Unit × ms)) : ∀ (n : Nat) (s : ms), hd_M_module_125 N n s = some y → gl s ≤ gl y.2 := by
  intro n
  induction n with
  | zero => intro s hf; cases hf
  | succ n ih => intro s hf; exact mb_M_module_125 N y (hd_M_module_125 N n) ih s hf
theorem mo_M_module_40 (N : Nat) (y : (Unit × ms)) (s : ms) (hf : bk_M_module_40 N s = some y) : gl s ≤ gl y.2 := by
  unfold bk_M_module_40 at hf
  have hm : gl s ≤ gl s := Nat.le_refl _
  obtain ⟨_, hf⟩ := dc_g hf
  obtain ⟨_, hf⟩ := dc_g hf
  obtain ⟨_, hf⟩ := dc_g hf
  obtain ⟨_, hf⟩ := dc_g hf
  obtain ⟨_, hf⟩ := dc_g hf
  obtain ⟨_, hf⟩ := dc_g hf
  exact Nat.le_trans hm (mh_M_module_125 N y N (upI (upJ (upI (upI (upI (upI (upI s 13 (upd (s.1 13) (Int32.toNatClampNeg ((s.1 12 0))) ((s.1 8 0)))) 14 (upd (s.1 14) (Int32.toNatClampNeg ((s.1 12 0))) ((s.1 18 0)))) 15 (upd (s.1 15) (Int32.toNatClampNeg ((s.1 12 0))) ((s.1 27 0)))) 16 (upd (s.1 16) (Int32.toNatClampNeg ((s.1 12 0))) ((s.1 35 0)))) 17 (upd (s.1 17) (Int32.toNatClampNeg ((s.1 12 0))) ((s.1 38 0)))) 45 (vp_updL (s.2 45) (Int32.toNatClampNeg ((s.1 12 0))) 0)) 8 (fun _ => ((s.1 8 0) + 2))) hf)
theorem mn_M_module (N : Nat) (s1 : ms) (y : (Unit × ms)) (hf : fn_M_module N s1 = some y) : gl s1 ≤ gl y.2 := by
  unfold fn_M_module at hf
  have hm : gl s1 ≤ gl s1 := Nat.le_refl _
  obtain ⟨q_1, hc_2, hf⟩ := dc_b hf
  have hm := Nat.le_trans hm (Nat.le_of_eq (mn_M_moduleNamed N (((s1.1 8 0) + 1)) ((s1.1 12 0)) (upI s1 8 (fun _ => ((s1.1 8 0) + 1))) q_1 hc_2).symm)
  by_cases h : q_1.1 < 0
  · have hf := (if_pos h).symm.trans hf
    exact Nat.le_trans hm (mo_M_module_40 N y q_1.2 hf)
  · have hf := (if_neg h).symm.trans hf
    obtain ⟨_, hf⟩ := dc_g hf
    obtain ⟨q_5, hc_6, hf⟩ := dc_b hf
    have hm := Nat.le_trans hm (Nat.le_of_eq (mn_M_fail N 20 (((q_1.2.1 5) (Int32.toNatClampNeg ((q_1.2.1 8 0))))) q_1.2 q_5 hc_6).symm)
    exact Nat.le_trans hm (mo_M_module_40 N y q_5.2 hf)
set_option maxHeartbeats 8000000 in
set_option maxRecDepth 100000 in
theorem ct_M_module (l : Launch) (dC : Nat → ClassId) (dI : Nat → Nat → Nat) (cI cB cJ cZ cQ : ClassId) (N sz : Nat) (h0 : Nat) (a : Nat → Nat) (s1 : ms) (y : (Unit × ms)) (hf : fn_M_module N s1 = some y) : Met l yn_M_module (xw yn_M_module bn_M_module 11 none) ({ frames := 809, cells := 2 * (gl y.2 - gl s1), slots := 2 * (gl y.2 - gl s1), locals := 19809 }) (dc_P (dC, dI) xcl (xt cI cB cJ cZ cQ) [.ref h0] sz (wM h0 a cI cB cJ cZ s1)) (xk_Qv (dC, dI) xcl (xt cI cB cJ cZ cQ) (fun _ : Nat → Nat => True) (fun u : Nat → Nat => (wM h0 u cI cB cJ cZ y.2)) (va_A (wM h0 a cI cB cJ cZ s1) sz)) (2 * (gl y.2 - gl s1)) (2 * (gl y.2 - gl s1)) (va_A (wM h0 a cI cB cJ cZ s1) sz) := by
  refine dc_of (QA := xk_Qv (dC, dI) xcl (xt cI cB cJ cZ cQ) (fun _ : Nat → Nat => True) (fun u : Nat → Nat => (wM h0 u cI cB cJ cZ y.2))) (by decide) (Nat.le_of_ble_eq_true rfl) ?_
  intro p e s0 m below meth c hx hb hml hown hg hr hlocks hin hP hK hN A hA hD hT ls hl
  have hown : s0.vm.findClass rn_M = some m.cls := hown
  obtain ⟨H, hH⟩ : ∃ z, z = s0.heap := ⟨_, rfl⟩
  rw [← hH] at hP
  have hS : va_S A s0.heap H [] := by rw [hH]; exact va_S.rf
  suffices kk : ∀ QQ : State → Prop, QQ = MQ below (xk_Qv (dC, dI) xcl (xt cI cB cJ cZ cQ) (fun _ : Nat → Nat => True) (fun u : Nat → Nat => (wM h0 u cI cB cJ cZ y.2)) A) [.ref h0].toArray s0 (2 * (gl y.2 - gl s1)) (2 * (gl y.2 - gl s1)) A → gl s1 ≤ gl s1 → dcG p l e ({ frames := 809, cells := 2 * (gl y.2 - gl s1), slots := 2 * (gl y.2 - gl s1), locals := 19809 }) s0 m [.ref h0].toArray below meth c QQ (dC, dI) A (fun a => (wM h0 a cI cB cJ cZ s1)) (2 * (gl s1 - gl s1)) 0 11 [(0, .ref h0)] [] by
    have k9 := kk _ rfl (Nat.le_refl _) a H [] ls hP hD hS hl
    rw [hH, Nat.sub_self] at k9; exact k9
  clear hP hD hS hl hH H ls
  intro QQ hQQ
  have bl_172 : ∀ (k_125 : ms → Option (Unit × ms)) (hk_125 : ∀ (s : ms), k_125 s = some y → gl s1 ≤ gl s → dcG p l e ({ frames := 809, cells := 2 * (gl y.2 - gl s1), slots := 2 * (gl y.2 - gl s1), locals := 19809 }) s0 m [.ref h0].toArray below meth c QQ (dC, dI) A (fun a => (wM h0 a cI cB cJ cZ s)) (2 * (gl s - gl s1)) 125 11 [(0, .ref h0)] []) (hkm_125 : ∀ (s : ms), k_125 s = some y → gl s ≤ gl y.2) (t0 : Int32) (s : ms), bk_M_module_172 N k_125 t0 s = some y → gl s1 ≤ gl s → dcG p l e ({ frames := 809, cells := 2 * (gl y.2 - gl s1), slots := 2 * (gl y.2 - gl s1), locals := 19809 }) s0 m [.ref h0].toArray below meth c QQ (dC, dI) A (fun a => (wM h0 a cI cB cJ cZ s)) (2 * (gl s - gl s1)) 172 11 [(0, .ref h0)] [.int t0, .ref h0] := by
    intro k_125 hk_125 hkm_125 t0 s hf hge a H locs ls hP hD hS hl
    have hle := mo_M_module_172 N k_125 y hkm_125 t0 s hf
    unfold bk_M_module_172 at hf
    refine va_put (D := (dC, dI)) (ci := 0) (v := .int t0) (ty := .int) (C := rn_M) (T := fn_M) (N := 91) hx hb hg in_M tn_M tk_M nn_M hown hK hP hD hS 0 rfl rfl 8 (by decide) (hg _ wn_8_81) (fun _ h9 => h9) rfl (tk_M 8 (by decide)) rfl rfl (Nat.le_of_ble_eq_true rfl) dn_M_module_172 (fun H locs hP hD hS => ?_)
    have hP := wM_P_8 hP
    have hD := wM_D_8 hD
    refine lv_goto (tgt := 125) hx hb dn_M_module_175 (by decide) ?_
    exact hk_125 (upI s 8 (fun _ => t0)) hf hge a H locs ls hP hD hS hl
  have bl_145 : ∀ (k_125 : ms → Option (Unit × ms)) (hk_125 : ∀ (s : ms), k_125 s = some y → gl s1 ≤ gl s → dcG p l e ({ frames := 809, cells := 2 * (gl y.2 - gl s1), slots := 2 * (gl y.2 - gl s1), locals := 19809 }) s0 m [.ref h0].toArray below meth c QQ (dC, dI) A (fun a => (wM h0 a cI cB cJ cZ s)) (2 * (gl s - gl s1)) 125 11 [(0, .ref h0)] []) (hkm_125 : ∀ (s : ms), k_125 s = some y → gl s ≤ gl y.2) (s : ms), bk_M_module_145 N k_125 s = some y → gl s1 ≤ gl s → dcG p l e ({ frames := 809, cells := 2 * (gl y.2 - gl s1), slots := 2 * (gl y.2 - gl s1), locals := 19809 }) s0 m [.ref h0].toArray below meth c QQ (dC, dI) A (fun a => (wM h0 a cI cB cJ cZ s)) (2 * (gl s - gl s1)) 145 11 [(0, .ref h0)] [] := by
    intro k_125 hk_125 hkm_125 s hf hge a H locs ls hP hD hS hl
    have hle := mo_M_module_145 N k_125 y hkm_125 s hf
    unfold bk_M_module_145 at hf
    refine lv_aload_n hx hb dn_M_module_145 rfl (lv_at hl 0 rfl) ?_
    obtain ⟨q_1, hc_2, hf⟩ := dc_b hf
    have hme := mn_M_port N s q_1 hc_2
    refine dc_callv (dc_runV (ar := 0) (As := []) (rest := []) (ci := 0) (q0 := 0) ⟨hx, hb, hml, hown, hg⟩ hK hN hT hS hA (ct_M_port l dC dI cI cB cJ cZ cQ N H.size h0 a s q_1 hc_2) hP hD rfl rfl wn_10_32 wn_10_34 sn_M_port wn_1_13 wn_10_35 rfl rfl (by decide +kernel) ⟨Nat.le_of_ble_eq_true rfl, Nat.le_of_ble_eq_true rfl⟩ rfl hl.1 rfl (Nat.le_of_ble_eq_true rfl) dn_M_module_146 (dc_rm0 hle)) hP hD hS hA (fun _ H locs hw hP hD hS => ?_)
    refine W.widen (k := 2 * (gl q_1.2 - gl s1)) (n := 2 * (gl q_1.2 - gl s1)) (dc_we hme) (dc_we hme) ?_
    have hge := Nat.le_trans hge (Nat.le_of_eq hme.symm)
    have hle := Nat.le_trans (Nat.le_of_eq hme) hle
    refine lv_aload_n hx hb dn_M_module_149 rfl (lv_at hl 0 rfl) ?_
    refine lv_aload_n hx hb dn_M_module_150 rfl (lv_at hl 0 rfl) ?_
    obtain ⟨q_3, hc_4, hf⟩ := dc_b hf
    have hme := mn_M_kind N q_1.2 q_3 hc_4
    refine dc_calli (dc_runV (ar := 0) (As := []) (rest := [.ref h0]) (ci := 0) (q0 := 0) ⟨hx, hb, hml, hown, hg⟩ hK hN hT hS hA (ct_M_kind l dC dI cI cB cJ cZ cQ N H.size h0 a q_1.2 q_3 hc_4) hP hD rfl rfl wn_9_214 wn_9_216 sn_M_kind wn_1_13 wn_9_217 rfl rfl (by decide +kernel) ⟨Nat.le_of_ble_eq_true rfl, Nat.le_of_ble_eq_true rfl⟩ rfl hl.1 rfl (Nat.le_of_ble_eq_true rfl) dn_M_module_151 (dc_rm0 hle)) hP hD hS hA (fun r_5 _ H locs hw hP hD hS => ?_)
    refine W.widen (k := 2 * (gl q_3.2 - gl s1)) (n := 2 * (gl q_3.2 - gl s1)) (dc_we hme) (dc_we hme) ?_
    have hge := Nat.le_trans hge (Nat.le_of_eq hme.symm)
    have hle := Nat.le_trans (Nat.le_of_eq hme) hle
    have hw : r_5 = q_3.1 := hw
    subst hw
    refine lv_bipush (v := 44) hx hb dn_M_module_154 (by decide) ?_
    refine lv_icmp_ne (tgt := 168) hx hb dn_M_module_156 (by decide) (fun h => ?_) (fun h => ?_)
    · have hf := (if_neg h).symm.trans hf
      refine lv_aload_n hx hb dn_M_module_168 rfl (lv_at hl 0 rfl) ?_
      refine va_get (D := (dC, dI)) (ci := 0) (v := .int ((q_3.2.1 8 0))) (C := rn_M) (T := fn_M) (N := 91) hx hb hg in_M hown hK hP 0 rfl rfl 8 (by decide) (hg _ wn_8_81) (fun _ h9 => h9) rfl dn_M_module_169 ?_
      exact bl_172 k_125 hk_125 hkm_125 ((q_3.2.1 8 0)) q_3.2 hf hge a H locs ls hP hD hS hl
    · have hf := (if_pos h).symm.trans hf
      refine lv_aload_n hx hb dn_M_module_159 rfl (lv_at hl 0 rfl) ?_
      refine va_get (D := (dC, dI)) (ci := 0) (v := .int ((q_3.2.1 8 0))) (C := rn_M) (T := fn_M) (N := 91) hx hb hg in_M hown hK hP 0 rfl rfl 8 (by decide) (hg _ wn_8_81) (fun _ h9 => h9) rfl dn_M_module_160 ?_
      refine lv_iconst (v := 1) hx hb dn_M_module_163 (by decide) ?_
      refine lv_iadd hx hb dn_M_module_164 ?_
      refine lv_goto (tgt := 172) hx hb dn_M_module_165 (by decide) ?_
      exact bl_172 k_125 hk_125 hkm_125 (((q_3.2.1 8 0) + 1)) q_3.2 hf hge a H locs ls hP hD hS hl
  have hd_376 : ∀ (n : Nat) (x1 : Int64) (x3 : Int64) (x5 : Int64) (x7 : Int64) (x9 : Int32) (s : ms), hd_M_module_376 N n x1 x3 x5 x7 x9 s = some y → gl s1 ≤ gl s → dcG p l e ({ frames := 809, cells := 2 * (gl y.2 - gl s1), slots := 2 * (gl y.2 - gl s1), locals := 19809 }) s0 m [.ref h0].toArray below meth c QQ (dC, dI) A (fun a => (wM h0 a cI cB cJ cZ s)) (2 * (gl s - gl s1)) 376 11 [(0, .ref h0), (1, .long x1), (3, .long x3), (5, .long x5), (7, .long x7), (9, .int x9)] [] := by
    intro n
    induction n with
    | zero => intro x1 x3 x5 x7 x9 s hf; cases hf
    | succ n ih =>
      intro x1 x3 x5 x7 x9 s hf hge a H locs ls hP hD hS hl
      have hle := mh_M_module_376 N y (n + 1) x1 x3 x5 x7 x9 s hf
      have hkm_376 := mh_M_module_376 N y n
      have hf : bd_M_module_376 N (hd_M_module_376 N n) x1 x3 x5 x7 x9 s = some y := hf
      have hk_376 := ih
      generalize hd_M_module_376 N n = k_376 at hf hk_376 hkm_376
      unfold bd_M_module_376 at hf
      refine lv_iload hx hb dn_M_module_376 (lv_at hl 5 rfl) ?_
      refine lv_aload_n hx hb dn_M_module_378 rfl (lv_at hl 0 rfl) ?_
      refine va_get (D := (dC, dI)) (ci := 0) (v := .int ((s.1 27 0))) (C := rn_M) (T := fn_M) (N := 91) hx hb hg in_M hown hK hP 0 rfl rfl 27 (by decide) (hg _ wn_8_100) (fun _ h9 => h9) rfl dn_M_module_379 ?_
      refine lv_icmp_ge (tgt := 458) hx hb dn_M_module_382 (by decide) (fun h => ?_) (fun h => ?_)
      · have hf := (if_pos h).symm.trans hf
        refine lv_aload_n hx hb dn_M_module_458 rfl (lv_at hl 0 rfl) ?_
        refine va_get (D := (dC, dI)) (ci := 0) (v := .ref ((a 48))) (C := rn_M) (T := fn_M) (N := 91) hx hb hg in_M hown hK hP 0 rfl rfl 48 (by decide) (hg _ wn_8_121) (fun _ h9 => h9) rfl dn_M_module_459 ?_
        refine lv_aload_n hx hb dn_M_module_462 rfl (lv_at hl 0 rfl) ?_
        refine va_get (D := (dC, dI)) (ci := 0) (v := .int ((s.1 12 0))) (C := rn_M) (T := fn_M) (N := 91) hx hb hg in_M hown hK hP 0 rfl rfl 12 (by decide) (hg _ wn_8_85) (fun _ h9 => h9) rfl dn_M_module_463 ?_
        refine lv_lload_n hx hb dn_M_module_466 rfl (lv_at hl 1 rfl) ?_
        obtain ⟨hg_1, hf⟩ := dc_g hf
        refine va_last hx hb hK hP hD hS 33 2 rfl rfl hg_1 dn_M_module_467 (fun H locs hP hD hS => ?_)
        have hP : va_P (dC, dI) xcl ((wM h0 a cI cB cJ cZ s).set 33 ((a 48), .inl (cJ, 3600, .inr (.inl (vp_updL (s.2 48) (Int32.toNatClampNeg ((s.1 12 0))) x1))))) H := hP
        have hD : va_D A ((wM h0 a cI cB cJ cZ s).set 33 ((a 48), .inl (cJ, 3600, .inr (.inl (vp_updL (s.2 48) (Int32.toNatClampNeg ((s.1 12 0))) x1))))) := hD
        have hP := wM_P_48 hP
        have hD := wM_D_48 hD
        refine lv_aload_n hx hb dn_M_module_468 rfl (lv_at hl 0 rfl) ?_
        refine va_get (D := (dC, dI)) (ci := 0) (v := .ref ((a 47))) (C := rn_M) (T := fn_M) (N := 91) hx hb hg in_M hown hK hP 0 rfl rfl 47 (by decide) (hg _ wn_8_120) (fun _ h9 => h9) rfl dn_M_module_469 ?_
        refine lv_aload_n hx hb dn_M_module_472 rfl (lv_at hl 0 rfl) ?_
        refine va_get (D := (dC, dI)) (ci := 0) (v := .int ((s.1 12 0))) (C := rn_M) (T := fn_M) (N := 91) hx hb hg in_M hown hK hP 0 rfl rfl 12 (by decide) (hg _ wn_8_85) (fun _ h9 => h9) rfl dn_M_module_473 ?_
        refine lv_lload_n hx hb dn_M_module_476 rfl (lv_at hl 2 rfl) ?_
        obtain ⟨hg_2, hf⟩ := dc_g hf
        refine va_last hx hb hK hP hD hS 32 2 rfl rfl hg_2 dn_M_module_477 (fun H locs hP hD hS => ?_)
        have hP : va_P (dC, dI) xcl ((wM h0 a cI cB cJ cZ (upJ s 48 (vp_updL (s.2 48) (Int32.toNatClampNeg ((s.1 12 0))) x1))).set 32 ((a 47), .inl (cJ, 3600, .inr (.inl (vp_updL (s.2 47) (Int32.toNatClampNeg ((s.1 12 0))) x3))))) H := hP
        have hD : va_D A ((wM h0 a cI cB cJ cZ (upJ s 48 (vp_updL (s.2 48) (Int32.toNatClampNeg ((s.1 12 0))) x1))).set 32 ((a 47), .inl (cJ, 3600, .inr (.inl (vp_updL (s.2 47) (Int32.toNatClampNeg ((s.1 12 0))) x3))))) := hD
        have hP := wM_P_47 hP
        have hD := wM_D_47 hD
        refine lv_aload_n hx hb dn_M_module_478 rfl (lv_at hl 0 rfl) ?_
        refine va_get (D := (dC, dI)) (ci := 0) (v := .ref ((a 46))) (C := rn_M) (T := fn_M) (N := 91) hx hb hg in_M hown hK hP 0 rfl rfl 46 (by decide) (hg _ wn_8_119) (fun _ h9 => h9) rfl dn_M_module_479 ?_
        refine lv_aload_n hx hb dn_M_module_482 rfl (lv_at hl 0 rfl) ?_
        refine va_get (D := (dC, dI)) (ci := 0) (v := .int ((s.1 12 0))) (C := rn_M) (T := fn_M) (N := 91) hx hb hg in_M hown hK hP 0 rfl rfl 12 (by decide) (hg _ wn_8_85) (fun _ h9 => h9) rfl dn_M_module_483 ?_
        refine lv_lload hx hb dn_M_module_486 (lv_at hl 3 rfl) ?_
        obtain ⟨hg_3, hf⟩ := dc_g hf
        refine va_last hx hb hK hP hD hS 31 2 rfl rfl hg_3 dn_M_module_488 (fun H locs hP hD hS => ?_)
        have hP : va_P (dC, dI) xcl ((wM h0 a cI cB cJ cZ (upJ (upJ s 48 (vp_updL (s.2 48) (Int32.toNatClampNeg ((s.1 12 0))) x1)) 47 (vp_updL (s.2 47) (Int32.toNatClampNeg ((s.1 12 0))) x3))).set 31 ((a 46), .inl (cJ, 3600, .inr (.inl (vp_updL (s.2 46) (Int32.toNatClampNeg ((s.1 12 0))) x5))))) H := hP
        have hD : va_D A ((wM h0 a cI cB cJ cZ (upJ (upJ s 48 (vp_updL (s.2 48) (Int32.toNatClampNeg ((s.1 12 0))) x1)) 47 (vp_updL (s.2 47) (Int32.toNatClampNeg ((s.1 12 0))) x3))).set 31 ((a 46), .inl (cJ, 3600, .inr (.inl (vp_updL (s.2 46) (Int32.toNatClampNeg ((s.1 12 0))) x5))))) := hD
        have hP := wM_P_46 hP
        have hD := wM_D_46 hD
        refine lv_aload_n hx hb dn_M_module_489 rfl (lv_at hl 0 rfl) ?_
        refine va_get (D := (dC, dI)) (ci := 0) (v := .ref ((a 45))) (C := rn_M) (T := fn_M) (N := 91) hx hb hg in_M hown hK hP 0 rfl rfl 45 (by decide) (hg _ wn_8_118) (fun _ h9 => h9) rfl dn_M_module_490 ?_
        refine lv_aload_n hx hb dn_M_module_493 rfl (lv_at hl 0 rfl) ?_
        refine va_get (D := (dC, dI)) (ci := 0) (v := .int ((s.1 12 0))) (C := rn_M) (T := fn_M) (N := 91) hx hb hg in_M hown hK hP 0 rfl rfl 12 (by decide) (hg _ wn_8_85) (fun _ h9 => h9) rfl dn_M_module_494 ?_
        refine lv_lload hx hb dn_M_module_497 (lv_at hl 4 rfl) ?_
        obtain ⟨q_4, hc_5, hf⟩ := dc_b hf
        have hme := mn_M_most N x7 (upJ (upJ (upJ s 48 (vp_updL (s.2 48) (Int32.toNatClampNeg ((s.1 12 0))) x1)) 47 (vp_updL (s.2 47) (Int32.toNatClampNeg ((s.1 12 0))) x3)) 46 (vp_updL (s.2 46) (Int32.toNatClampNeg ((s.1 12 0))) x5)) q_4 hc_5
        refine dc_calll (dc_runS (ar := 1) (As := [.long x7]) (rest := [.int ((s.1 12 0)), .ref ((a 45))]) ⟨hx, hb, hml, hown, hg⟩ hK hN hT hS hA (ct_M_most l dC dI cI cB cJ cZ cQ N H.size h0 a x7 (upJ (upJ (upJ s 48 (vp_updL (s.2 48) (Int32.toNatClampNeg ((s.1 12 0))) x1)) 47 (vp_updL (s.2 47) (Int32.toNatClampNeg ((s.1 12 0))) x3)) 46 (vp_updL (s.2 46) (Int32.toNatClampNeg ((s.1 12 0))) x5)) q_4 hc_5) hP hD wn_10_153 wn_10_154 wn_1_13 wn_10_155 rfl rfl (by decide +kernel) ⟨Nat.le_of_ble_eq_true rfl, Nat.le_of_ble_eq_true rfl⟩ rfl hl.1 rfl (Nat.le_of_ble_eq_true rfl) dn_M_module_499 (dc_rm0 hle)) hP hD hS hA (fun r_6 _ H locs hw hP hD hS => ?_)
        refine W.widen (k := 2 * (gl q_4.2 - gl s1)) (n := 2 * (gl q_4.2 - gl s1)) (dc_we hme) (dc_we hme) ?_
        have hge := Nat.le_trans hge (Nat.le_of_eq hme.symm)
        have hle := Nat.le_trans (Nat.le_of_eq hme) hle
        have hw : r_6 = q_4.1 := hw
        subst hw
        obtain ⟨hg_7, hf⟩ := dc_g hf
        refine va_last hx hb hK hP hD hS 30 2 rfl rfl hg_7 dn_M_module_502 (fun H locs hP hD hS => ?_)
        have hP : va_P (dC, dI) xcl ((wM h0 a cI cB cJ cZ q_4.2).set 30 ((a 45), .inl (cJ, 3600, .inr (.inl (vp_updL (q_4.2.2 45) (Int32.toNatClampNeg ((s.1 12 0))) q_4.1))))) H := hP
        have hD : va_D A ((wM h0 a cI cB cJ cZ q_4.2).set 30 ((a 45), .inl (cJ, 3600, .inr (.inl (vp_updL (q_4.2.2 45) (Int32.toNatClampNeg ((s.1 12 0))) q_4.1))))) := hD
        have hP := wM_P_45 hP
        have hD := wM_D_45 hD
        refine lv_aload_n hx hb dn_M_module_503 rfl (lv_at hl 0 rfl) ?_
        refine lv_dup hx hb dn_M_module_504 rfl ?_
        refine va_get (D := (dC, dI)) (ci := 0) (v := .int ((q_4.2.1 12 0))) (C := rn_M) (T := fn_M) (N := 91) hx hb hg in_M hown hK hP 0 rfl rfl 12 (by decide) (hg _ wn_8_85) (fun _ h9 => h9) rfl dn_M_module_505 ?_
        refine lv_iconst (v := 1) hx hb dn_M_module_508 (by decide) ?_
        refine lv_iadd hx hb dn_M_module_509 ?_
        refine va_put (D := (dC, dI)) (ci := 0) (v := .int (((q_4.2.1 12 0) + 1))) (ty := .int) (C := rn_M) (T := fn_M) (N := 91) hx hb hg in_M tn_M tk_M nn_M hown hK hP hD hS 0 rfl rfl 12 (by decide) (hg _ wn_8_85) (fun _ h9 => h9) rfl (tk_M 12 (by decide)) rfl rfl (Nat.le_of_ble_eq_true rfl) dn_M_module_510 (fun H locs hP hD hS => ?_)
        have hP := wM_P_12 hP
        have hD := wM_D_12 hD
        refine lv_aload_n hx hb dn_M_module_513 rfl (lv_at hl 0 rfl) ?_
        refine va_get (D := (dC, dI)) (ci := 0) (v := .ref ((a 14))) (C := rn_M) (T := fn_M) (N := 91) hx hb hg in_M hown hK hP 0 rfl rfl 14 (by decide) (hg _ wn_8_87) (fun _ h9 => h9) rfl dn_M_module_514 ?_
        refine lv_aload_n hx hb dn_M_module_517 rfl (lv_at hl 0 rfl) ?_
        refine va_get (D := (dC, dI)) (ci := 0) (v := .int (((q_4.2.1 12 0) + 1))) (C := rn_M) (T := fn_M) (N := 91) hx hb hg in_M hown hK hP 0 rfl rfl 12 (by decide) (hg _ wn_8_85) (fun _ h9 => h9) rfl dn_M_module_518 ?_
        refine lv_aload_n hx hb dn_M_module_521 rfl (lv_at hl 0 rfl) ?_
        refine va_get (D := (dC, dI)) (ci := 0) (v := .int ((q_4.2.1 18 0))) (C := rn_M) (T := fn_M) (N := 91) hx hb hg in_M hown hK hP 0 rfl rfl 18 (by decide) (hg _ wn_8_91) (fun _ h9 => h9) rfl dn_M_module_522 ?_
        obtain ⟨hg_8, hf⟩ := dc_g hf
        refine va_iast hx hb hK hP hD hS 6 0 rfl rfl hg_8 dn_M_module_525 (fun H locs hP hD hS => ?_)
        have hP : va_P (dC, dI) xcl ((wM h0 a cI cB cJ cZ (upI (upJ q_4.2 45 (vp_updL (q_4.2.2 45) (Int32.toNatClampNeg ((s.1 12 0))) q_4.1)) 12 (fun _ => ((q_4.2.1 12 0) + 1)))).set 6 ((a 14), .inl (cI, 3601, .inl (upd (q_4.2.1 14) (Int32.toNatClampNeg (((q_4.2.1 12 0) + 1))) ((q_4.2.1 18 0)))))) H := hP
        have hD : va_D A ((wM h0 a cI cB cJ cZ (upI (upJ q_4.2 45 (vp_updL (q_4.2.2 45) (Int32.toNatClampNeg ((s.1 12 0))) q_4.1)) 12 (fun _ => ((q_4.2.1 12 0) + 1)))).set 6 ((a 14), .inl (cI, 3601, .inl (upd (q_4.2.1 14) (Int32.toNatClampNeg (((q_4.2.1 12 0) + 1))) ((q_4.2.1 18 0)))))) := hD
        have hP := wM_P_14 hP
        have hD := wM_D_14 hD
        refine lv_aload_n hx hb dn_M_module_526 rfl (lv_at hl 0 rfl) ?_
        refine va_get (D := (dC, dI)) (ci := 0) (v := .ref ((a 15))) (C := rn_M) (T := fn_M) (N := 91) hx hb hg in_M hown hK hP 0 rfl rfl 15 (by decide) (hg _ wn_8_88) (fun _ h9 => h9) rfl dn_M_module_527 ?_
        refine lv_aload_n hx hb dn_M_module_530 rfl (lv_at hl 0 rfl) ?_
        refine va_get (D := (dC, dI)) (ci := 0) (v := .int (((q_4.2.1 12 0) + 1))) (C := rn_M) (T := fn_M) (N := 91) hx hb hg in_M hown hK hP 0 rfl rfl 12 (by decide) (hg _ wn_8_85) (fun _ h9 => h9) rfl dn_M_module_531 ?_
        refine lv_aload_n hx hb dn_M_module_534 rfl (lv_at hl 0 rfl) ?_
        refine va_get (D := (dC, dI)) (ci := 0) (v := .int ((q_4.2.1 27 0))) (C := rn_M) (T := fn_M) (N := 91) hx hb hg in_M hown hK hP 0 rfl rfl 27 (by decide) (hg _ wn_8_100) (fun _ h9 => h9) rfl dn_M_module_535 ?_
        obtain ⟨hg_9, hf⟩ := dc_g hf
        refine va_iast hx hb hK hP hD hS 7 0 rfl rfl hg_9 dn_M_module_538 (fun H locs hP hD hS => ?_)
        have hP : va_P (dC, dI) xcl ((wM h0 a cI cB cJ cZ (upI (upI (upJ q_4.2 45 (vp_updL (q_4.2.2 45) (Int32.toNatClampNeg ((s.1 12 0))) q_4.1)) 12 (fun _ => ((q_4.2.1 12 0) + 1))) 14 (upd (q_4.2.1 14) (Int32.toNatClampNeg (((q_4.2.1 12 0) + 1))) ((q_4.2.1 18 0))))).set 7 ((a 15), .inl (cI, 3601, .inl (upd (q_4.2.1 15) (Int32.toNatClampNeg (((q_4.2.1 12 0) + 1))) ((q_4.2.1 27 0)))))) H := hP
        have hD : va_D A ((wM h0 a cI cB cJ cZ (upI (upI (upJ q_4.2 45 (vp_updL (q_4.2.2 45) (Int32.toNatClampNeg ((s.1 12 0))) q_4.1)) 12 (fun _ => ((q_4.2.1 12 0) + 1))) 14 (upd (q_4.2.1 14) (Int32.toNatClampNeg (((q_4.2.1 12 0) + 1))) ((q_4.2.1 18 0))))).set 7 ((a 15), .inl (cI, 3601, .inl (upd (q_4.2.1 15) (Int32.toNatClampNeg (((q_4.2.1 12 0) + 1))) ((q_4.2.1 27 0)))))) := hD
        have hP := wM_P_15 hP
        have hD := wM_D_15 hD
        refine lv_aload_n hx hb dn_M_module_539 rfl (lv_at hl 0 rfl) ?_
        refine va_get (D := (dC, dI)) (ci := 0) (v := .ref ((a 16))) (C := rn_M) (T := fn_M) (N := 91) hx hb hg in_M hown hK hP 0 rfl rfl 16 (by decide) (hg _ wn_8_89) (fun _ h9 => h9) rfl dn_M_module_540 ?_
        refine lv_aload_n hx hb dn_M_module_543 rfl (lv_at hl 0 rfl) ?_
        refine va_get (D := (dC, dI)) (ci := 0) (v := .int (((q_4.2.1 12 0) + 1))) (C := rn_M) (T := fn_M) (N := 91) hx hb hg in_M hown hK hP 0 rfl rfl 12 (by decide) (hg _ wn_8_85) (fun _ h9 => h9) rfl dn_M_module_544 ?_
        refine lv_aload_n hx hb dn_M_module_547 rfl (lv_at hl 0 rfl) ?_
        refine va_get (D := (dC, dI)) (ci := 0) (v := .int ((q_4.2.1 35 0))) (C := rn_M) (T := fn_M) (N := 91) hx hb hg in_M hown hK hP 0 rfl rfl 35 (by decide) (hg _ wn_8_108) (fun _ h9 => h9) rfl dn_M_module_548 ?_
        obtain ⟨hg_10, hf⟩ := dc_g hf
        refine va_iast hx hb hK hP hD hS 8 0 rfl rfl hg_10 dn_M_module_551 (fun H locs hP hD hS => ?_)
        have hP : va_P (dC, dI) xcl ((wM h0 a cI cB cJ cZ (upI (upI (upI (upJ q_4.2 45 (vp_updL (q_4.2.2 45) (Int32.toNatClampNeg ((s.1 12 0))) q_4.1)) 12 (fun _ => ((q_4.2.1 12 0) + 1))) 14 (upd (q_4.2.1 14) (Int32.toNatClampNeg (((q_4.2.1 12 0) + 1))) ((q_4.2.1 18 0)))) 15 (upd (q_4.2.1 15) (Int32.toNatClampNeg (((q_4.2.1 12 0) + 1))) ((q_4.2.1 27 0))))).set 8 ((a 16), .inl (cI, 3601, .inl (upd (q_4.2.1 16) (Int32.toNatClampNeg (((q_4.2.1 12 0) + 1))) ((q_4.2.1 35 0)))))) H := hP
        have hD : va_D A ((wM h0 a cI cB cJ cZ (upI (upI (upI (upJ q_4.2 45 (vp_updL (q_4.2.2 45) (Int32.toNatClampNeg ((s.1 12 0))) q_4.1)) 12 (fun _ => ((q_4.2.1 12 0) + 1))) 14 (upd (q_4.2.1 14) (Int32.toNatClampNeg (((q_4.2.1 12 0) + 1))) ((q_4.2.1 18 0)))) 15 (upd (q_4.2.1 15) (Int32.toNatClampNeg (((q_4.2.1 12 0) + 1))) ((q_4.2.1 27 0))))).set 8 ((a 16), .inl (cI, 3601, .inl (upd (q_4.2.1 16) (Int32.toNatClampNeg (((q_4.2.1 12 0) + 1))) ((q_4.2.1 35 0)))))) := hD
        have hP := wM_P_16 hP
        have hD := wM_D_16 hD
        refine lv_aload_n hx hb dn_M_module_552 rfl (lv_at hl 0 rfl) ?_
        refine va_get (D := (dC, dI)) (ci := 0) (v := .ref ((a 17))) (C := rn_M) (T := fn_M) (N := 91) hx hb hg in_M hown hK hP 0 rfl rfl 17 (by decide) (hg _ wn_8_90) (fun _ h9 => h9) rfl dn_M_module_553 ?_
        refine lv_aload_n hx hb dn_M_module_556 rfl (lv_at hl 0 rfl) ?_
        refine va_get (D := (dC, dI)) (ci := 0) (v := .int (((q_4.2.1 12 0) + 1))) (C := rn_M) (T := fn_M) (N := 91) hx hb hg in_M hown hK hP 0 rfl rfl 12 (by decide) (hg _ wn_8_85) (fun _ h9 => h9) rfl dn_M_module_557 ?_
        refine lv_aload_n hx hb dn_M_module_560 rfl (lv_at hl 0 rfl) ?_
        refine va_get (D := (dC, dI)) (ci := 0) (v := .int ((q_4.2.1 38 0))) (C := rn_M) (T := fn_M) (N := 91) hx hb hg in_M hown hK hP 0 rfl rfl 38 (by decide) (hg _ wn_8_111) (fun _ h9 => h9) rfl dn_M_module_561 ?_
        obtain ⟨hg_11, hf⟩ := dc_g hf
        refine va_iast hx hb hK hP hD hS 9 0 rfl rfl hg_11 dn_M_module_564 (fun H locs hP hD hS => ?_)
        have hP : va_P (dC, dI) xcl ((wM h0 a cI cB cJ cZ (upI (upI (upI (upI (upJ q_4.2 45 (vp_updL (q_4.2.2 45) (Int32.toNatClampNeg ((s.1 12 0))) q_4.1)) 12 (fun _ => ((q_4.2.1 12 0) + 1))) 14 (upd (q_4.2.1 14) (Int32.toNatClampNeg (((q_4.2.1 12 0) + 1))) ((q_4.2.1 18 0)))) 15 (upd (q_4.2.1 15) (Int32.toNatClampNeg (((q_4.2.1 12 0) + 1))) ((q_4.2.1 27 0)))) 16 (upd (q_4.2.1 16) (Int32.toNatClampNeg (((q_4.2.1 12 0) + 1))) ((q_4.2.1 35 0))))).set 9 ((a 17), .inl (cI, 3601, .inl (upd (q_4.2.1 17) (Int32.toNatClampNeg (((q_4.2.1 12 0) + 1))) ((q_4.2.1 38 0)))))) H := hP
        have hD : va_D A ((wM h0 a cI cB cJ cZ (upI (upI (upI (upI (upJ q_4.2 45 (vp_updL (q_4.2.2 45) (Int32.toNatClampNeg ((s.1 12 0))) q_4.1)) 12 (fun _ => ((q_4.2.1 12 0) + 1))) 14 (upd (q_4.2.1 14) (Int32.toNatClampNeg (((q_4.2.1 12 0) + 1))) ((q_4.2.1 18 0)))) 15 (upd (q_4.2.1 15) (Int32.toNatClampNeg (((q_4.2.1 12 0) + 1))) ((q_4.2.1 27 0)))) 16 (upd (q_4.2.1 16) (Int32.toNatClampNeg (((q_4.2.1 12 0) + 1))) ((q_4.2.1 35 0))))).set 9 ((a 17), .inl (cI, 3601, .inl (upd (q_4.2.1 17) (Int32.toNatClampNeg (((q_4.2.1 12 0) + 1))) ((q_4.2.1 38 0)))))) := hD
        have hP := wM_P_17 hP
        have hD := wM_D_17 hD
        rw [hQQ, ← Option.some.inj hf]
        exact xk_vret (w1 := fun u : Nat → Nat => (wM h0 u cI cB cJ cZ (upI (upI (upI (upI (upI (upJ q_4.2 45 (vp_updL (q_4.2.2 45) (Int32.toNatClampNeg ((s.1 12 0))) q_4.1)) 12 (fun _ => ((q_4.2.1 12 0) + 1))) 14 (upd (q_4.2.1 14) (Int32.toNatClampNeg (((q_4.2.1 12 0) + 1))) ((q_4.2.1 18 0)))) 15 (upd (q_4.2.1 15) (Int32.toNatClampNeg (((q_4.2.1 12 0) + 1))) ((q_4.2.1 27 0)))) 16 (upd (q_4.2.1 16) (Int32.toNatClampNeg (((q_4.2.1 12 0) + 1))) ((q_4.2.1 35 0)))) 17 (upd (q_4.2.1 17) (Int32.toNatClampNeg (((q_4.2.1 12 0) + 1))) ((q_4.2.1 38 0)))))) a hx hb hr hlocks hK hS dn_M_module_565 hP hD trivial (Nat.le_refl _) (Nat.le_refl _)
      · have hf := (if_neg h).symm.trans hf
        refine lv_aload_n hx hb dn_M_module_385 rfl (lv_at hl 0 rfl) ?_
        refine va_get (D := (dC, dI)) (ci := 0) (v := .ref ((a 28))) (C := rn_M) (T := fn_M) (N := 91) hx hb hg in_M hown hK hP 0 rfl rfl 28 (by decide) (hg _ wn_8_101) (fun _ h9 => h9) rfl dn_M_module_386 ?_
        refine lv_iload hx hb dn_M_module_389 (lv_at hl 5 rfl) ?_
        obtain ⟨hg_1, hf⟩ := dc_g hf
        refine va_iald hx hb hK hP 18 0 rfl rfl hg_1 dn_M_module_391 ?_
        refine xk_ti (y := ((s.1 28) (Int32.toNatClampNeg x9))) rfl ?_
        refine lv_istore (lv' := [(10, .int (((s.1 28) (Int32.toNatClampNeg x9)))), (0, .ref h0), (1, .long x1), (3, .long x3), (5, .long x5), (7, .long x7), (9, .int x9)]) hx hb dn_M_module_392 hl (by decide) rfl (fun ls hl => ?_)
        refine lv_lload_n hx hb dn_M_module_394 rfl (lv_at hl 2 rfl) ?_
        refine lv_aload_n hx hb dn_M_module_395 rfl (lv_at hl 1 rfl) ?_
        refine va_get (D := (dC, dI)) (ci := 0) (v := .ref ((a 48))) (C := rn_M) (T := fn_M) (N := 91) hx hb hg in_M hown hK hP 0 rfl rfl 48 (by decide) (hg _ wn_8_121) (fun _ h9 => h9) rfl dn_M_module_396 ?_
        refine lv_iload hx hb dn_M_module_399 (lv_at hl 0 rfl) ?_
        obtain ⟨hg_2, hf⟩ := dc_g hf
        refine va_lald hx hb hK hP 33 2 rfl rfl hg_2 dn_M_module_401 ?_
        refine xk_tl (y := ((s.2 48) (Int32.toNatClampNeg (((s.1 28) (Int32.toNatClampNeg x9)))))) rfl ?_
        refine lv_ladd hx hb dn_M_module_402 ?_
        obtain ⟨q_3, hc_4, hf⟩ := dc_b hf
        have hme := mn_M_most N ((x1 + ((s.2 48) (Int32.toNatClampNeg (((s.1 28) (Int32.toNatClampNeg x9))))))) s q_3 hc_4
        refine dc_calll (dc_runS (ar := 1) (As := [.long ((x1 + ((s.2 48) (Int32.toNatClampNeg (((s.1 28) (Int32.toNatClampNeg x9)))))))]) (rest := []) ⟨hx, hb, hml, hown, hg⟩ hK hN hT hS hA (ct_M_most l dC dI cI cB cJ cZ cQ N H.size h0 a ((x1 + ((s.2 48) (Int32.toNatClampNeg (((s.1 28) (Int32.toNatClampNeg x9))))))) s q_3 hc_4) hP hD wn_10_153 wn_10_154 wn_1_13 wn_10_155 rfl rfl (by decide +kernel) ⟨Nat.le_of_ble_eq_true rfl, Nat.le_of_ble_eq_true rfl⟩ rfl hl.1 rfl (Nat.le_of_ble_eq_true rfl) dn_M_module_403 (dc_rm0 hle)) hP hD hS hA (fun r_5 _ H locs hw hP hD hS => ?_)
        refine W.widen (k := 2 * (gl q_3.2 - gl s1)) (n := 2 * (gl q_3.2 - gl s1)) (dc_we hme) (dc_we hme) ?_
        have hge := Nat.le_trans hge (Nat.le_of_eq hme.symm)
        have hle := Nat.le_trans (Nat.le_of_eq hme) hle
        have hw : r_5 = q_3.1 := hw
        subst hw
        refine lv_lstore_n (lv' := [(1, .long q_3.1), (10, .int (((s.1 28) (Int32.toNatClampNeg x9)))), (0, .ref h0), (3, .long x3), (5, .long x5), (7, .long x7), (9, .int x9)]) hx hb dn_M_module_406 rfl hl (by decide) rfl (fun ls hl => ?_)
        refine lv_lload_n hx hb dn_M_module_407 rfl (lv_at hl 3 rfl) ?_
        refine lv_aload_n hx hb dn_M_module_408 rfl (lv_at hl 2 rfl) ?_
        refine va_get (D := (dC, dI)) (ci := 0) (v := .ref ((a 47))) (C := rn_M) (T := fn_M) (N := 91) hx hb hg in_M hown hK hP 0 rfl rfl 47 (by decide) (hg _ wn_8_120) (fun _ h9 => h9) rfl dn_M_module_409 ?_
        refine lv_iload hx hb dn_M_module_412 (lv_at hl 1 rfl) ?_
        obtain ⟨hg_6, hf⟩ := dc_g hf
        refine va_lald hx hb hK hP 32 2 rfl rfl hg_6 dn_M_module_414 ?_
        refine xk_tl (y := ((q_3.2.2 47) (Int32.toNatClampNeg (((s.1 28) (Int32.toNatClampNeg x9)))))) rfl ?_
        refine lv_ladd hx hb dn_M_module_415 ?_
        obtain ⟨q_7, hc_8, hf⟩ := dc_b hf
        have hme := mn_M_most N ((x3 + ((q_3.2.2 47) (Int32.toNatClampNeg (((s.1 28) (Int32.toNatClampNeg x9))))))) q_3.2 q_7 hc_8
        refine dc_calll (dc_runS (ar := 1) (As := [.long ((x3 + ((q_3.2.2 47) (Int32.toNatClampNeg (((s.1 28) (Int32.toNatClampNeg x9)))))))]) (rest := []) ⟨hx, hb, hml, hown, hg⟩ hK hN hT hS hA (ct_M_most l dC dI cI cB cJ cZ cQ N H.size h0 a ((x3 + ((q_3.2.2 47) (Int32.toNatClampNeg (((s.1 28) (Int32.toNatClampNeg x9))))))) q_3.2 q_7 hc_8) hP hD wn_10_153 wn_10_154 wn_1_13 wn_10_155 rfl rfl (by decide +kernel) ⟨Nat.le_of_ble_eq_true rfl, Nat.le_of_ble_eq_true rfl⟩ rfl hl.1 rfl (Nat.le_of_ble_eq_true rfl) dn_M_module_416 (dc_rm0 hle)) hP hD hS hA (fun r_9 _ H locs hw hP hD hS => ?_)
        refine W.widen (k := 2 * (gl q_7.2 - gl s1)) (n := 2 * (gl q_7.2 - gl s1)) (dc_we hme) (dc_we hme) ?_
        have hge := Nat.le_trans hge (Nat.le_of_eq hme.symm)
        have hle := Nat.le_trans (Nat.le_of_eq hme) hle
        have hw : r_9 = q_7.1 := hw
        subst hw
        refine lv_lstore_n (lv' := [(3, .long q_7.1), (1, .long q_3.1), (10, .int (((s.1 28) (Int32.toNatClampNeg x9)))), (0, .ref h0), (5, .long x5), (7, .long x7), (9, .int x9)]) hx hb dn_M_module_419 rfl hl (by decide) rfl (fun ls hl => ?_)
        refine lv_lload hx hb dn_M_module_420 (lv_at hl 4 rfl) ?_
        refine lv_lconst (v := 1) hx hb dn_M_module_422 (by decide) ?_
        refine lv_ladd hx hb dn_M_module_423 ?_
        refine lv_aload_n hx hb dn_M_module_424 rfl (lv_at hl 3 rfl) ?_
        refine va_get (D := (dC, dI)) (ci := 0) (v := .ref ((a 46))) (C := rn_M) (T := fn_M) (N := 91) hx hb hg in_M hown hK hP 0 rfl rfl 46 (by decide) (hg _ wn_8_119) (fun _ h9 => h9) rfl dn_M_module_425 ?_
        refine lv_iload hx hb dn_M_module_428 (lv_at hl 2 rfl) ?_
        obtain ⟨hg_10, hf⟩ := dc_g hf
        refine va_lald hx hb hK hP 31 2 rfl rfl hg_10 dn_M_module_430 ?_
        refine xk_tl (y := ((q_7.2.2 46) (Int32.toNatClampNeg (((s.1 28) (Int32.toNatClampNeg x9)))))) rfl ?_
        refine lv_ladd hx hb dn_M_module_431 ?_
        obtain ⟨q_11, hc_12, hf⟩ := dc_b hf
        have hme := mn_M_most N (((x5 + 1) + ((q_7.2.2 46) (Int32.toNatClampNeg (((s.1 28) (Int32.toNatClampNeg x9))))))) q_7.2 q_11 hc_12
        refine dc_calll (dc_runS (ar := 1) (As := [.long (((x5 + 1) + ((q_7.2.2 46) (Int32.toNatClampNeg (((s.1 28) (Int32.toNatClampNeg x9)))))))]) (rest := []) ⟨hx, hb, hml, hown, hg⟩ hK hN hT hS hA (ct_M_most l dC dI cI cB cJ cZ cQ N H.size h0 a (((x5 + 1) + ((q_7.2.2 46) (Int32.toNatClampNeg (((s.1 28) (Int32.toNatClampNeg x9))))))) q_7.2 q_11 hc_12) hP hD wn_10_153 wn_10_154 wn_1_13 wn_10_155 rfl rfl (by decide +kernel) ⟨Nat.le_of_ble_eq_true rfl, Nat.le_of_ble_eq_true rfl⟩ rfl hl.1 rfl (Nat.le_of_ble_eq_true rfl) dn_M_module_432 (dc_rm0 hle)) hP hD hS hA (fun r_13 _ H locs hw hP hD hS => ?_)
        refine W.widen (k := 2 * (gl q_11.2 - gl s1)) (n := 2 * (gl q_11.2 - gl s1)) (dc_we hme) (dc_we hme) ?_
        have hge := Nat.le_trans hge (Nat.le_of_eq hme.symm)
        have hle := Nat.le_trans (Nat.le_of_eq hme) hle
        have hw : r_13 = q_11.1 := hw
        subst hw
        refine lv_lstore (lv' := [(5, .long q_11.1), (3, .long q_7.1), (1, .long q_3.1), (10, .int (((s.1 28) (Int32.toNatClampNeg x9)))), (0, .ref h0), (7, .long x7), (9, .int x9)]) hx hb dn_M_module_435 hl (by decide) rfl (fun ls hl => ?_)
        refine lv_lload hx hb dn_M_module_437 (lv_at hl 5 rfl) ?_
        refine lv_aload_n hx hb dn_M_module_439 rfl (lv_at hl 4 rfl) ?_
        refine va_get (D := (dC, dI)) (ci := 0) (v := .ref ((a 45))) (C := rn_M) (T := fn_M) (N := 91) hx hb hg in_M hown hK hP 0 rfl rfl 45 (by decide) (hg _ wn_8_118) (fun _ h9 => h9) rfl dn_M_module_440 ?_
        refine lv_iload hx hb dn_M_module_443 (lv_at hl 3 rfl) ?_
        obtain ⟨hg_14, hf⟩ := dc_g hf
        refine va_lald hx hb hK hP 30 2 rfl rfl hg_14 dn_M_module_445 ?_
        refine xk_tl (y := ((q_11.2.2 45) (Int32.toNatClampNeg (((s.1 28) (Int32.toNatClampNeg x9)))))) rfl ?_
        refine lv_ladd hx hb dn_M_module_446 ?_
        obtain ⟨q_15, hc_16, hf⟩ := dc_b hf
        have hme := mn_M_most N ((x7 + ((q_11.2.2 45) (Int32.toNatClampNeg (((s.1 28) (Int32.toNatClampNeg x9))))))) q_11.2 q_15 hc_16
        refine dc_calll (dc_runS (ar := 1) (As := [.long ((x7 + ((q_11.2.2 45) (Int32.toNatClampNeg (((s.1 28) (Int32.toNatClampNeg x9)))))))]) (rest := []) ⟨hx, hb, hml, hown, hg⟩ hK hN hT hS hA (ct_M_most l dC dI cI cB cJ cZ cQ N H.size h0 a ((x7 + ((q_11.2.2 45) (Int32.toNatClampNeg (((s.1 28) (Int32.toNatClampNeg x9))))))) q_11.2 q_15 hc_16) hP hD wn_10_153 wn_10_154 wn_1_13 wn_10_155 rfl rfl (by decide +kernel) ⟨Nat.le_of_ble_eq_true rfl, Nat.le_of_ble_eq_true rfl⟩ rfl hl.1 rfl (Nat.le_of_ble_eq_true rfl) dn_M_module_447 (dc_rm0 hle)) hP hD hS hA (fun r_17 _ H locs hw hP hD hS => ?_)
        refine W.widen (k := 2 * (gl q_15.2 - gl s1)) (n := 2 * (gl q_15.2 - gl s1)) (dc_we hme) (dc_we hme) ?_
        have hge := Nat.le_trans hge (Nat.le_of_eq hme.symm)
        have hle := Nat.le_trans (Nat.le_of_eq hme) hle
        have hw : r_17 = q_15.1 := hw
        subst hw
        refine lv_lstore (lv' := [(7, .long q_15.1), (5, .long q_11.1), (3, .long q_7.1), (1, .long q_3.1), (10, .int (((s.1 28) (Int32.toNatClampNeg x9)))), (0, .ref h0), (9, .int x9)]) hx hb dn_M_module_450 hl (by decide) rfl (fun ls hl => ?_)
        refine lv_iinc (v := (x9 + 1)) (lv' := [(9, .int ((x9 + 1))), (7, .long q_15.1), (5, .long q_11.1), (3, .long q_7.1), (1, .long q_3.1), (10, .int (((s.1 28) (Int32.toNatClampNeg x9)))), (0, .ref h0)]) hx hb dn_M_module_452 hl (k := 6) rfl (dc_inc (by decide)) (by decide) rfl (fun ls hl => ?_)
        refine lv_goto (tgt := 376) hx hb dn_M_module_455 (by decide) ?_
        exact hk_376 q_3.1 q_7.1 q_11.1 q_15.1 ((x9 + 1)) q_15.2 hf hge a H locs ls hP hD hS (lv_sub hl [6, 4, 3, 2, 1, 0] rfl)
  have hd_299 : ∀ (n : Nat) (x1 : Int64) (x3 : Int32) (s : ms), hd_M_module_299 N n x1 x3 s = some y → gl s1 ≤ gl s → dcG p l e ({ frames := 809, cells := 2 * (gl y.2 - gl s1), slots := 2 * (gl y.2 - gl s1), locals := 19809 }) s0 m [.ref h0].toArray below meth c QQ (dC, dI) A (fun a => (wM h0 a cI cB cJ cZ s)) (2 * (gl s - gl s1)) 299 11 [(0, .ref h0), (1, .long x1), (3, .int x3)] [] := by
    intro n
    induction n with
    | zero => intro x1 x3 s hf; cases hf
    | succ n ih =>
      intro x1 x3 s hf hge a H locs ls hP hD hS hl
      have hle := mh_M_module_299 N y (n + 1) x1 x3 s hf
      have hkm_299 := mh_M_module_299 N y n
      have hf : bd_M_module_299 N (hd_M_module_299 N n) x1 x3 s = some y := hf
      have hk_299 := ih
      generalize hd_M_module_299 N n = k_299 at hf hk_299 hkm_299
      unfold bd_M_module_299 at hf
      refine lv_iload_n hx hb dn_M_module_299 rfl (lv_at hl 2 rfl) ?_
      refine lv_aload_n hx hb dn_M_module_300 rfl (lv_at hl 0 rfl) ?_
      refine va_get (D := (dC, dI)) (ci := 0) (v := .int ((s.1 18 0))) (C := rn_M) (T := fn_M) (N := 91) hx hb hg in_M hown hK hP 0 rfl rfl 18 (by decide) (hg _ wn_8_91) (fun _ h9 => h9) rfl dn_M_module_301 ?_
      refine lv_icmp_ge (tgt := 335) hx hb dn_M_module_304 (by decide) (fun h => ?_) (fun h => ?_)
      · have hf := (if_pos h).symm.trans hf
        refine lv_aload_n hx hb dn_M_module_335 rfl (lv_at hl 0 rfl) ?_
        refine va_get (D := (dC, dI)) (ci := 0) (v := .int ((s.1 18 0))) (C := rn_M) (T := fn_M) (N := 91) hx hb hg in_M hown hK hP 0 rfl rfl 18 (by decide) (hg _ wn_8_91) (fun _ h9 => h9) rfl dn_M_module_336 ?_
        refine lv_aload_n hx hb dn_M_module_339 rfl (lv_at hl 0 rfl) ?_
        refine va_get (D := (dC, dI)) (ci := 0) (v := .ref ((a 14))) (C := rn_M) (T := fn_M) (N := 91) hx hb hg in_M hown hK hP 0 rfl rfl 14 (by decide) (hg _ wn_8_87) (fun _ h9 => h9) rfl dn_M_module_340 ?_
        refine lv_aload_n hx hb dn_M_module_343 rfl (lv_at hl 0 rfl) ?_
        refine va_get (D := (dC, dI)) (ci := 0) (v := .int ((s.1 12 0))) (C := rn_M) (T := fn_M) (N := 91) hx hb hg in_M hown hK hP 0 rfl rfl 12 (by decide) (hg _ wn_8_85) (fun _ h9 => h9) rfl dn_M_module_344 ?_
        obtain ⟨hg_1, hf⟩ := dc_g hf
        refine va_iald hx hb hK hP 6 0 rfl rfl hg_1 dn_M_module_347 ?_
        refine xk_ti (y := ((s.1 14) (Int32.toNatClampNeg ((s.1 12 0))))) rfl ?_
        refine lv_isub hx hb dn_M_module_348 ?_
        refine lv_i2l (v := Int32.toInt64 (((s.1 18 0) - ((s.1 14) (Int32.toNatClampNeg ((s.1 12 0))))))) hx hb dn_M_module_349 rfl ?_
        refine lv_lstore_n (lv' := [(3, .long ((Int32.toInt64 (((s.1 18 0) - ((s.1 14) (Int32.toNatClampNeg ((s.1 12 0))))))))), (0, .ref h0), (1, .long x1)]) hx hb dn_M_module_350 rfl hl (by decide) rfl (fun ls hl => ?_)
        refine lv_lconst (v := 0) hx hb dn_M_module_351 (by decide) ?_
        refine lv_lstore (lv' := [(5, .long 0), (3, .long ((Int32.toInt64 (((s.1 18 0) - ((s.1 14) (Int32.toNatClampNeg ((s.1 12 0))))))))), (0, .ref h0), (1, .long x1)]) hx hb dn_M_module_352 hl (by decide) rfl (fun ls hl => ?_)
        refine lv_aload_n hx hb dn_M_module_354 rfl (lv_at hl 2 rfl) ?_
        refine va_get (D := (dC, dI)) (ci := 0) (v := .ref ((a 45))) (C := rn_M) (T := fn_M) (N := 91) hx hb hg in_M hown hK hP 0 rfl rfl 45 (by decide) (hg _ wn_8_118) (fun _ h9 => h9) rfl dn_M_module_355 ?_
        refine lv_aload_n hx hb dn_M_module_358 rfl (lv_at hl 2 rfl) ?_
        refine va_get (D := (dC, dI)) (ci := 0) (v := .int ((s.1 12 0))) (C := rn_M) (T := fn_M) (N := 91) hx hb hg in_M hown hK hP 0 rfl rfl 12 (by decide) (hg _ wn_8_85) (fun _ h9 => h9) rfl dn_M_module_359 ?_
        obtain ⟨hg_2, hf⟩ := dc_g hf
        refine va_lald hx hb hK hP 30 2 rfl rfl hg_2 dn_M_module_362 ?_
        refine xk_tl (y := ((s.2 45) (Int32.toNatClampNeg ((s.1 12 0))))) rfl ?_
        refine lv_lstore (lv' := [(7, .long (((s.2 45) (Int32.toNatClampNeg ((s.1 12 0)))))), (5, .long 0), (3, .long ((Int32.toInt64 (((s.1 18 0) - ((s.1 14) (Int32.toNatClampNeg ((s.1 12 0))))))))), (0, .ref h0), (1, .long x1)]) hx hb dn_M_module_363 hl (by decide) rfl (fun ls hl => ?_)
        refine lv_aload_n hx hb dn_M_module_365 rfl (lv_at hl 3 rfl) ?_
        refine va_get (D := (dC, dI)) (ci := 0) (v := .ref ((a 15))) (C := rn_M) (T := fn_M) (N := 91) hx hb hg in_M hown hK hP 0 rfl rfl 15 (by decide) (hg _ wn_8_88) (fun _ h9 => h9) rfl dn_M_module_366 ?_
        refine lv_aload_n hx hb dn_M_module_369 rfl (lv_at hl 3 rfl) ?_
        refine va_get (D := (dC, dI)) (ci := 0) (v := .int ((s.1 12 0))) (C := rn_M) (T := fn_M) (N := 91) hx hb hg in_M hown hK hP 0 rfl rfl 12 (by decide) (hg _ wn_8_85) (fun _ h9 => h9) rfl dn_M_module_370 ?_
        obtain ⟨hg_3, hf⟩ := dc_g hf
        refine va_iald hx hb hK hP 7 0 rfl rfl hg_3 dn_M_module_373 ?_
        refine xk_ti (y := ((s.1 15) (Int32.toNatClampNeg ((s.1 12 0))))) rfl ?_
        refine lv_istore (lv' := [(9, .int (((s.1 15) (Int32.toNatClampNeg ((s.1 12 0)))))), (7, .long (((s.2 45) (Int32.toNatClampNeg ((s.1 12 0)))))), (5, .long 0), (3, .long ((Int32.toInt64 (((s.1 18 0) - ((s.1 14) (Int32.toNatClampNeg ((s.1 12 0))))))))), (0, .ref h0), (1, .long x1)]) hx hb dn_M_module_374 hl (by decide) rfl (fun ls hl => ?_)
        exact hd_376 N x1 ((Int32.toInt64 (((s.1 18 0) - ((s.1 14) (Int32.toNatClampNeg ((s.1 12 0)))))))) 0 (((s.2 45) (Int32.toNatClampNeg ((s.1 12 0))))) (((s.1 15) (Int32.toNatClampNeg ((s.1 12 0))))) s hf hge a H locs ls hP hD hS (lv_sub hl [4, 5, 3, 2, 1, 0] rfl)
      · have hf := (if_neg h).symm.trans hf
        refine lv_aload_n hx hb dn_M_module_307 rfl (lv_at hl 0 rfl) ?_
        refine lv_iload_n hx hb dn_M_module_308 rfl (lv_at hl 2 rfl) ?_
        obtain ⟨q_1, hc_2, hf⟩ := dc_b hf
        have hme := mn_M_isRegister N x3 s q_1 hc_2
        refine dc_calli (dc_runV (ar := 1) (As := [.int x3]) (rest := []) (ci := 0) (q0 := 0) ⟨hx, hb, hml, hown, hg⟩ hK hN hT hS hA (ct_M_isRegister l dC dI cI cB cJ cZ cQ N H.size h0 a x3 s q_1 hc_2) hP hD rfl rfl wn_10_137 wn_10_139 sn_M_isRegister wn_1_13 wn_10_140 rfl rfl (by decide +kernel) ⟨Nat.le_of_ble_eq_true rfl, Nat.le_of_ble_eq_true rfl⟩ rfl hl.1 rfl (Nat.le_of_ble_eq_true rfl) dn_M_module_309 (dc_rm0 hle)) hP hD hS hA (fun r_3 _ H locs hw hP hD hS => ?_)
        refine W.widen (k := 2 * (gl q_1.2 - gl s1)) (n := 2 * (gl q_1.2 - gl s1)) (dc_we hme) (dc_we hme) ?_
        have hge := Nat.le_trans hge (Nat.le_of_eq hme.symm)
        have hle := Nat.le_trans (Nat.le_of_eq hme) hle
        have hw : r_3 = q_1.1 := hw
        subst hw
        refine lv_if_eq (tgt := 327) hx hb dn_M_module_312 (by decide) (fun h => ?_) (fun h => ?_)
        · have hf := (if_pos h).symm.trans hf
          refine lv_lload_n hx hb dn_M_module_327 rfl (lv_at hl 1 rfl) ?_
          refine lv_lstore_n (lv' := [(1, .long x1), (0, .ref h0), (3, .int x3)]) hx hb dn_M_module_328 rfl hl (by decide) rfl (fun ls hl => ?_)
          refine lv_iinc (v := (x3 + 1)) (lv' := [(3, .int ((x3 + 1))), (1, .long x1), (0, .ref h0)]) hx hb dn_M_module_329 hl (k := 2) rfl (dc_inc (by decide)) (by decide) rfl (fun ls hl => ?_)
          refine lv_goto (tgt := 299) hx hb dn_M_module_332 (by decide) ?_
          exact hk_299 x1 ((x3 + 1)) q_1.2 hf hge a H locs ls hP hD hS (lv_sub hl [2, 1, 0] rfl)
        · have hf := (if_neg h).symm.trans hf
          refine lv_lload_n hx hb dn_M_module_315 rfl (lv_at hl 1 rfl) ?_
          refine lv_aload_n hx hb dn_M_module_316 rfl (lv_at hl 0 rfl) ?_
          refine va_get (D := (dC, dI)) (ci := 0) (v := .ref ((a 20))) (C := rn_M) (T := fn_M) (N := 91) hx hb hg in_M hown hK hP 0 rfl rfl 20 (by decide) (hg _ wn_8_93) (fun _ h9 => h9) rfl dn_M_module_317 ?_
          refine lv_iload_n hx hb dn_M_module_320 rfl (lv_at hl 2 rfl) ?_
          obtain ⟨hg_4, hf⟩ := dc_g hf
          refine va_iald hx hb hK hP 11 0 rfl rfl hg_4 dn_M_module_321 ?_
          refine xk_ti (y := ((q_1.2.1 20) (Int32.toNatClampNeg x3))) rfl ?_
          refine lv_i2l (v := Int32.toInt64 (((q_1.2.1 20) (Int32.toNatClampNeg x3)))) hx hb dn_M_module_322 rfl ?_
          refine lv_ladd hx hb dn_M_module_323 ?_
          refine lv_goto (tgt := 328) hx hb dn_M_module_324 (by decide) ?_
          refine lv_lstore_n (lv' := [(1, .long ((x1 + (Int32.toInt64 (((q_1.2.1 20) (Int32.toNatClampNeg x3))))))), (0, .ref h0), (3, .int x3)]) hx hb dn_M_module_328 rfl hl (by decide) rfl (fun ls hl => ?_)
          refine lv_iinc (v := (x3 + 1)) (lv' := [(3, .int ((x3 + 1))), (1, .long ((x1 + (Int32.toInt64 (((q_1.2.1 20) (Int32.toNatClampNeg x3))))))), (0, .ref h0)]) hx hb dn_M_module_329 hl (k := 2) rfl (dc_inc (by decide)) (by decide) rfl (fun ls hl => ?_)
          refine lv_goto (tgt := 299) hx hb dn_M_module_332 (by decide) ?_
          exact hk_299 ((x1 + (Int32.toInt64 (((q_1.2.1 20) (Int32.toNatClampNeg x3)))))) ((x3 + 1)) q_1.2 hf hge a H locs ls hP hD hS (lv_sub hl [2, 1, 0] rfl)
  have bl_277 : ∀ (s : ms), bk_M_module_277 N s = some y → gl s1 ≤ gl s → dcG p l e ({ frames := 809, cells := 2 * (gl y.2 - gl s1), slots := 2 * (gl y.2 - gl s1), locals := 19809 }) s0 m [.ref h0].toArray below meth c QQ (dC, dI) A (fun a => (wM h0 a cI cB cJ cZ s)) (2 * (gl s - gl s1)) 277 11 [(0, .ref h0)] [] := by
    intro s hf hge a H locs ls hP hD hS hl
    have hle := mo_M_module_277 N y s hf
    unfold bk_M_module_277 at hf
    refine lv_aload_n hx hb dn_M_module_277 rfl (lv_at hl 0 rfl) ?_
    refine lv_dup hx hb dn_M_module_278 rfl ?_
    refine va_get (D := (dC, dI)) (ci := 0) (v := .int ((s.1 8 0))) (C := rn_M) (T := fn_M) (N := 91) hx hb hg in_M hown hK hP 0 rfl rfl 8 (by decide) (hg _ wn_8_81) (fun _ h9 => h9) rfl dn_M_module_279 ?_
    refine lv_iconst (v := 1) hx hb dn_M_module_282 (by decide) ?_
    refine lv_iadd hx hb dn_M_module_283 ?_
    refine va_put (D := (dC, dI)) (ci := 0) (v := .int (((s.1 8 0) + 1))) (ty := .int) (C := rn_M) (T := fn_M) (N := 91) hx hb hg in_M tn_M tk_M nn_M hown hK hP hD hS 0 rfl rfl 8 (by decide) (hg _ wn_8_81) (fun _ h9 => h9) rfl (tk_M 8 (by decide)) rfl rfl (Nat.le_of_ble_eq_true rfl) dn_M_module_284 (fun H locs hP hD hS => ?_)
    have hP := wM_P_8 hP
    have hD := wM_D_8 hD
    refine lv_lconst (v := 0) hx hb dn_M_module_287 (by decide) ?_
    refine lv_lstore_n (lv' := [(1, .long 0), (0, .ref h0)]) hx hb dn_M_module_288 rfl hl (by decide) rfl (fun ls hl => ?_)
    refine lv_aload_n hx hb dn_M_module_289 rfl (lv_at hl 1 rfl) ?_
    refine va_get (D := (dC, dI)) (ci := 0) (v := .ref ((a 14))) (C := rn_M) (T := fn_M) (N := 91) hx hb hg in_M hown hK hP 0 rfl rfl 14 (by decide) (hg _ wn_8_87) (fun _ h9 => h9) rfl dn_M_module_290 ?_
    refine lv_aload_n hx hb dn_M_module_293 rfl (lv_at hl 1 rfl) ?_
    refine va_get (D := (dC, dI)) (ci := 0) (v := .int ((s.1 12 0))) (C := rn_M) (T := fn_M) (N := 91) hx hb hg in_M hown hK hP 0 rfl rfl 12 (by decide) (hg _ wn_8_85) (fun _ h9 => h9) rfl dn_M_module_294 ?_
    obtain ⟨hg_1, hf⟩ := dc_g hf
    refine va_iald hx hb hK hP 6 0 rfl rfl hg_1 dn_M_module_297 ?_
    refine xk_ti (y := ((s.1 14) (Int32.toNatClampNeg ((s.1 12 0))))) rfl ?_
    refine lv_istore_n (lv' := [(3, .int (((s.1 14) (Int32.toNatClampNeg ((s.1 12 0)))))), (1, .long 0), (0, .ref h0)]) hx hb dn_M_module_298 rfl hl (by decide) rfl (fun ls hl => ?_)
    exact hd_299 N 0 (((s.1 14) (Int32.toNatClampNeg ((s.1 12 0))))) (upI s 8 (fun _ => ((s.1 8 0) + 1))) hf hge a H locs ls hP hD hS (lv_sub hl [2, 1, 0] rfl)
  have hd_222 : ∀ (n : Nat) (x1 : Int32) (s : ms), hd_M_module_222 N n x1 s = some y → gl s1 ≤ gl s → dcG p l e ({ frames := 809, cells := 2 * (gl y.2 - gl s1), slots := 2 * (gl y.2 - gl s1), locals := 19809 }) s0 m [.ref h0].toArray below meth c QQ (dC, dI) A (fun a => (wM h0 a cI cB cJ cZ s)) (2 * (gl s - gl s1)) 222 11 [(0, .ref h0), (1, .int x1)] [] := by
    intro n
    induction n with
    | zero => intro x1 s hf; cases hf
    | succ n ih =>
      intro x1 s hf hge a H locs ls hP hD hS hl
      have hle := mh_M_module_222 N y (n + 1) x1 s hf
      have hkm_222 := mh_M_module_222 N y n
      have hf : bd_M_module_222 N (hd_M_module_222 N n) x1 s = some y := hf
      have hk_222 := ih
      generalize hd_M_module_222 N n = k_222 at hf hk_222 hkm_222
      unfold bd_M_module_222 at hf
      refine lv_iload_n hx hb dn_M_module_222 rfl (lv_at hl 1 rfl) ?_
      refine lv_aload_n hx hb dn_M_module_223 rfl (lv_at hl 0 rfl) ?_
      refine va_get (D := (dC, dI)) (ci := 0) (v := .int ((s.1 18 0))) (C := rn_M) (T := fn_M) (N := 91) hx hb hg in_M hown hK hP 0 rfl rfl 18 (by decide) (hg _ wn_8_91) (fun _ h9 => h9) rfl dn_M_module_224 ?_
      refine lv_icmp_ge (tgt := 277) hx hb dn_M_module_227 (by decide) (fun h => ?_) (fun h => ?_)
      · have hf := (if_pos h).symm.trans hf
        exact bl_277 s hf hge a H locs ls hP hD hS (lv_sub hl [0] rfl)
      · have hf := (if_neg h).symm.trans hf
        refine lv_aload_n hx hb dn_M_module_230 rfl (lv_at hl 0 rfl) ?_
        refine va_get (D := (dC, dI)) (ci := 0) (v := .int ((s.1 9 0))) (C := rn_M) (T := fn_M) (N := 91) hx hb hg in_M hown hK hP 0 rfl rfl 9 (by decide) (hg _ wn_8_82) (fun _ h9 => h9) rfl dn_M_module_231 ?_
        refine lv_if_ne (tgt := 277) hx hb dn_M_module_234 (by decide) (fun h => ?_) (fun h => ?_)
        · have hf := (if_neg h).symm.trans hf
          exact bl_277 s hf hge a H locs ls hP hD hS (lv_sub hl [0] rfl)
        · have hf := (if_pos h).symm.trans hf
          refine lv_aload_n hx hb dn_M_module_237 rfl (lv_at hl 0 rfl) ?_
          refine lv_iload_n hx hb dn_M_module_238 rfl (lv_at hl 1 rfl) ?_
          obtain ⟨q_1, hc_2, hf⟩ := dc_b hf
          have hme := mn_M_isDriven N x1 s q_1 hc_2
          refine dc_calli (dc_runV (ar := 1) (As := [.int x1]) (rest := []) (ci := 0) (q0 := 0) ⟨hx, hb, hml, hown, hg⟩ hK hN hT hS hA (ct_M_isDriven l dC dI cI cB cJ cZ cQ N H.size h0 a x1 s q_1 hc_2) hP hD rfl rfl wn_10_73 wn_10_75 sn_M_isDriven wn_1_13 wn_10_76 rfl rfl (by decide +kernel) ⟨Nat.le_of_ble_eq_true rfl, Nat.le_of_ble_eq_true rfl⟩ rfl hl.1 rfl (Nat.le_of_ble_eq_true rfl) dn_M_module_239 (dc_rm0 hle)) hP hD hS hA (fun r_3 _ H locs hw hP hD hS => ?_)
          refine W.widen (k := 2 * (gl q_1.2 - gl s1)) (n := 2 * (gl q_1.2 - gl s1)) (dc_we hme) (dc_we hme) ?_
          have hge := Nat.le_trans hge (Nat.le_of_eq hme.symm)
          have hle := Nat.le_trans (Nat.le_of_eq hme) hle
          have hw : r_3 = q_1.1 := hw
          subst hw
          refine lv_if_eq (tgt := 271) hx hb dn_M_module_242 (by decide) (fun h => ?_) (fun h => ?_)
          · have hf := (if_pos h).symm.trans hf
            refine lv_iinc (v := (x1 + 1)) (lv' := [(1, .int ((x1 + 1))), (0, .ref h0)]) hx hb dn_M_module_271 hl (k := 1) rfl (dc_inc (by decide)) (by decide) rfl (fun ls hl => ?_)
            refine lv_goto (tgt := 222) hx hb dn_M_module_274 (by decide) ?_
            exact hk_222 ((x1 + 1)) q_1.2 hf hge a H locs ls hP hD hS (lv_sub hl [1, 0] rfl)
          · have hf := (if_neg h).symm.trans hf
            refine lv_aload_n hx hb dn_M_module_245 rfl (lv_at hl 0 rfl) ?_
            refine va_get (D := (dC, dI)) (ci := 0) (v := .ref ((a 23))) (C := rn_M) (T := fn_M) (N := 91) hx hb hg in_M hown hK hP 0 rfl rfl 23 (by decide) (hg _ wn_8_96) (fun _ h9 => h9) rfl dn_M_module_246 ?_
            refine lv_iload_n hx hb dn_M_module_249 rfl (lv_at hl 1 rfl) ?_
            obtain ⟨hg_4, hf⟩ := dc_g hf
            refine va_iald hx hb hK hP 14 0 rfl rfl hg_4 dn_M_module_250 ?_
            refine xk_ti (y := ((q_1.2.1 23) (Int32.toNatClampNeg x1))) rfl ?_
            refine lv_if_ne (tgt := 271) hx hb dn_M_module_251 (by decide) (fun h => ?_) (fun h => ?_)
            · have hf := (if_neg h).symm.trans hf
              refine lv_iinc (v := (x1 + 1)) (lv' := [(1, .int ((x1 + 1))), (0, .ref h0)]) hx hb dn_M_module_271 hl (k := 1) rfl (dc_inc (by decide)) (by decide) rfl (fun ls hl => ?_)
              refine lv_goto (tgt := 222) hx hb dn_M_module_274 (by decide) ?_
              exact hk_222 ((x1 + 1)) q_1.2 hf hge a H locs ls hP hD hS (lv_sub hl [1, 0] rfl)
            · have hf := (if_pos h).symm.trans hf
              refine lv_aload_n hx hb dn_M_module_254 rfl (lv_at hl 0 rfl) ?_
              refine lv_bipush (v := 33) hx hb dn_M_module_255 (by decide) ?_
              refine lv_aload_n hx hb dn_M_module_257 rfl (lv_at hl 0 rfl) ?_
              refine va_get (D := (dC, dI)) (ci := 0) (v := .ref ((a 5))) (C := rn_M) (T := fn_M) (N := 91) hx hb hg in_M hown hK hP 0 rfl rfl 5 (by decide) (hg _ wn_8_78) (fun _ h9 => h9) rfl dn_M_module_258 ?_
              refine lv_aload_n hx hb dn_M_module_261 rfl (lv_at hl 0 rfl) ?_
              refine va_get (D := (dC, dI)) (ci := 0) (v := .ref ((a 19))) (C := rn_M) (T := fn_M) (N := 91) hx hb hg in_M hown hK hP 0 rfl rfl 19 (by decide) (hg _ wn_8_92) (fun _ h9 => h9) rfl dn_M_module_262 ?_
              refine lv_iload_n hx hb dn_M_module_265 rfl (lv_at hl 1 rfl) ?_
              obtain ⟨hg_5, hf⟩ := dc_g hf
              refine va_iald hx hb hK hP 10 0 rfl rfl hg_5 dn_M_module_266 ?_
              refine xk_ti (y := ((q_1.2.1 19) (Int32.toNatClampNeg x1))) rfl ?_
              obtain ⟨hg_6, hf⟩ := dc_g hf
              refine va_iald hx hb hK hP 3 0 rfl rfl hg_6 dn_M_module_267 ?_
              refine xk_ti (y := ((q_1.2.1 5) (Int32.toNatClampNeg (((q_1.2.1 19) (Int32.toNatClampNeg x1)))))) rfl ?_
              obtain ⟨q_7, hc_8, hf⟩ := dc_b hf
              have hme := mn_M_fail N 33 (((q_1.2.1 5) (Int32.toNatClampNeg (((q_1.2.1 19) (Int32.toNatClampNeg x1)))))) q_1.2 q_7 hc_8
              refine dc_callv (dc_runV (ar := 2) (As := [.int 33, .int (((q_1.2.1 5) (Int32.toNatClampNeg (((q_1.2.1 19) (Int32.toNatClampNeg x1))))))]) (rest := []) (ci := 0) (q0 := 0) ⟨hx, hb, hml, hown, hg⟩ hK hN hT hS hA (ct_M_fail l dC dI cI cB cJ cZ cQ N H.size h0 a 33 (((q_1.2.1 5) (Int32.toNatClampNeg (((q_1.2.1 19) (Int32.toNatClampNeg x1)))))) q_1.2 q_7 hc_8) hP hD rfl rfl wn_9_186 wn_9_188 sn_M_fail wn_1_13 wn_9_189 rfl rfl (by decide +kernel) ⟨Nat.le_of_ble_eq_true rfl, Nat.le_of_ble_eq_true rfl⟩ rfl hl.1 rfl (Nat.le_of_ble_eq_true rfl) dn_M_module_268 (dc_rm0 hle)) hP hD hS hA (fun _ H locs hw hP hD hS => ?_)
              refine W.widen (k := 2 * (gl q_7.2 - gl s1)) (n := 2 * (gl q_7.2 - gl s1)) (dc_we hme) (dc_we hme) ?_
              have hge := Nat.le_trans hge (Nat.le_of_eq hme.symm)
              have hle := Nat.le_trans (Nat.le_of_eq hme) hle
              refine lv_iinc (v := (x1 + 1)) (lv' := [(1, .int ((x1 + 1))), (0, .ref h0)]) hx hb dn_M_module_271 hl (k := 1) rfl (dc_inc (by decide)) (by decide) rfl (fun ls hl => ?_)
              refine lv_goto (tgt := 222) hx hb dn_M_module_274 (by decide) ?_
              exact hk_222 ((x1 + 1)) q_7.2 hf hge a H locs ls hP hD hS (lv_sub hl [1, 0] rfl)
  have bl_212 : ∀ (s : ms), bk_M_module_212 N s = some y → gl s1 ≤ gl s → dcG p l e ({ frames := 809, cells := 2 * (gl y.2 - gl s1), slots := 2 * (gl y.2 - gl s1), locals := 19809 }) s0 m [.ref h0].toArray below meth c QQ (dC, dI) A (fun a => (wM h0 a cI cB cJ cZ s)) (2 * (gl s - gl s1)) 212 11 [(0, .ref h0)] [] := by
    intro s hf hge a H locs ls hP hD hS hl
    have hle := mo_M_module_212 N y s hf
    unfold bk_M_module_212 at hf
    refine lv_aload_n hx hb dn_M_module_212 rfl (lv_at hl 0 rfl) ?_
    refine va_get (D := (dC, dI)) (ci := 0) (v := .ref ((a 14))) (C := rn_M) (T := fn_M) (N := 91) hx hb hg in_M hown hK hP 0 rfl rfl 14 (by decide) (hg _ wn_8_87) (fun _ h9 => h9) rfl dn_M_module_213 ?_
    refine lv_aload_n hx hb dn_M_module_216 rfl (lv_at hl 0 rfl) ?_
    refine va_get (D := (dC, dI)) (ci := 0) (v := .int ((s.1 12 0))) (C := rn_M) (T := fn_M) (N := 91) hx hb hg in_M hown hK hP 0 rfl rfl 12 (by decide) (hg _ wn_8_85) (fun _ h9 => h9) rfl dn_M_module_217 ?_
    obtain ⟨hg_1, hf⟩ := dc_g hf
    refine va_iald hx hb hK hP 6 0 rfl rfl hg_1 dn_M_module_220 ?_
    refine xk_ti (y := ((s.1 14) (Int32.toNatClampNeg ((s.1 12 0))))) rfl ?_
    refine lv_istore_n (lv' := [(1, .int (((s.1 14) (Int32.toNatClampNeg ((s.1 12 0)))))), (0, .ref h0)]) hx hb dn_M_module_221 rfl hl (by decide) rfl (fun ls hl => ?_)
    exact hd_222 N (((s.1 14) (Int32.toNatClampNeg ((s.1 12 0))))) s hf hge a H locs ls hP hD hS (lv_sub hl [1, 0] rfl)
  have bl_209 : ∀ (k_188 : ms → Option (Unit × ms)) (hk_188 : ∀ (s : ms), k_188 s = some y → gl s1 ≤ gl s → dcG p l e ({ frames := 809, cells := 2 * (gl y.2 - gl s1), slots := 2 * (gl y.2 - gl s1), locals := 19809 }) s0 m [.ref h0].toArray below meth c QQ (dC, dI) A (fun a => (wM h0 a cI cB cJ cZ s)) (2 * (gl s - gl s1)) 188 11 [(0, .ref h0)] []) (hkm_188 : ∀ (s : ms), k_188 s = some y → gl s ≤ gl y.2) (s : ms), bk_M_module_209 N k_188 s = some y → gl s1 ≤ gl s → dcG p l e ({ frames := 809, cells := 2 * (gl y.2 - gl s1), slots := 2 * (gl y.2 - gl s1), locals := 19809 }) s0 m [.ref h0].toArray below meth c QQ (dC, dI) A (fun a => (wM h0 a cI cB cJ cZ s)) (2 * (gl s - gl s1)) 209 11 [(0, .ref h0)] [] := by
    intro k_188 hk_188 hkm_188 s hf hge a H locs ls hP hD hS hl
    have hle := mo_M_module_209 N k_188 y hkm_188 s hf
    unfold bk_M_module_209 at hf
    refine lv_goto (tgt := 188) hx hb dn_M_module_209 (by decide) ?_
    exact hk_188 s hf hge a H locs ls hP hD hS hl
  have hd_188 : ∀ (n : Nat) (s : ms), hd_M_module_188 N n s = some y → gl s1 ≤ gl s → dcG p l e ({ frames := 809, cells := 2 * (gl y.2 - gl s1), slots := 2 * (gl y.2 - gl s1), locals := 19809 }) s0 m [.ref h0].toArray below meth c QQ (dC, dI) A (fun a => (wM h0 a cI cB cJ cZ s)) (2 * (gl s - gl s1)) 188 11 [(0, .ref h0)] [] := by
    intro n
    induction n with
    | zero => intro s hf; cases hf
    | succ n ih =>
      intro s hf hge a H locs ls hP hD hS hl
      have hle := mh_M_module_188 N y (n + 1) s hf
      have hkm_188 := mh_M_module_188 N y n
      have hf : bd_M_module_188 N (hd_M_module_188 N n) s = some y := hf
      have hk_188 := ih
      generalize hd_M_module_188 N n = k_188 at hf hk_188 hkm_188
      unfold bd_M_module_188 at hf
      refine lv_aload_n hx hb dn_M_module_188 rfl (lv_at hl 0 rfl) ?_
      refine va_get (D := (dC, dI)) (ci := 0) (v := .int ((s.1 9 0))) (C := rn_M) (T := fn_M) (N := 91) hx hb hg in_M hown hK hP 0 rfl rfl 9 (by decide) (hg _ wn_8_82) (fun _ h9 => h9) rfl dn_M_module_189 ?_
      refine lv_if_ne (tgt := 212) hx hb dn_M_module_192 (by decide) (fun h => ?_) (fun h => ?_)
      · have hf := (if_neg h).symm.trans hf
        exact bl_212 s hf hge a H locs ls hP hD hS hl
      · have hf := (if_pos h).symm.trans hf
        refine lv_aload_n hx hb dn_M_module_195 rfl (lv_at hl 0 rfl) ?_
        obtain ⟨q_1, hc_2, hf⟩ := dc_b hf
        have hme := mn_M_kind N s q_1 hc_2
        refine dc_calli (dc_runV (ar := 0) (As := []) (rest := []) (ci := 0) (q0 := 0) ⟨hx, hb, hml, hown, hg⟩ hK hN hT hS hA (ct_M_kind l dC dI cI cB cJ cZ cQ N H.size h0 a s q_1 hc_2) hP hD rfl rfl wn_9_214 wn_9_216 sn_M_kind wn_1_13 wn_9_217 rfl rfl (by decide +kernel) ⟨Nat.le_of_ble_eq_true rfl, Nat.le_of_ble_eq_true rfl⟩ rfl hl.1 rfl (Nat.le_of_ble_eq_true rfl) dn_M_module_196 (dc_rm0 hle)) hP hD hS hA (fun r_3 _ H locs hw hP hD hS => ?_)
        refine W.widen (k := 2 * (gl q_1.2 - gl s1)) (n := 2 * (gl q_1.2 - gl s1)) (dc_we hme) (dc_we hme) ?_
        have hge := Nat.le_trans hge (Nat.le_of_eq hme.symm)
        have hle := Nat.le_trans (Nat.le_of_eq hme) hle
        have hw : r_3 = q_1.1 := hw
        subst hw
        refine lv_sipush (v := 301) hx hb dn_M_module_199 (by decide) ?_
        refine lv_icmp_eq (tgt := 212) hx hb dn_M_module_202 (by decide) (fun h => ?_) (fun h => ?_)
        · have hf := (if_pos h).symm.trans hf
          exact bl_212 q_1.2 hf hge a H locs ls hP hD hS hl
        · have hf := (if_neg h).symm.trans hf
          refine lv_aload_n hx hb dn_M_module_205 rfl (lv_at hl 0 rfl) ?_
          obtain ⟨q_4, hc_5, hf⟩ := dc_b hf
          have hmg := mn_M_item N q_1.2 q_4 hc_5
          have hle2 : gl q_4.2 ≤ gl y.2 := mo_M_module_209 N k_188 y hkm_188 _ hf
          refine dc_callv (dc_runV (ar := 0) (As := []) (rest := []) (ci := 0) (q0 := 0) ⟨hx, hb, hml, hown, hg⟩ hK hN hT hS hA (ct_M_item l dC dI cI cB cJ cZ cQ N H.size h0 a q_1.2 q_4 hc_5) hP hD rfl rfl wn_10_65 wn_10_67 sn_M_item wn_1_13 wn_10_68 rfl rfl (by decide +kernel) ⟨Nat.le_of_ble_eq_true rfl, Nat.le_of_ble_eq_true rfl⟩ rfl hl.1 rfl (Nat.le_of_ble_eq_true rfl) dn_M_module_206 (dc_rm hge hmg hle2)) hP hD hS hA (fun a H locs hw hP hD hS => ?_)
          refine W.widen (k := 2 * (gl q_4.2 - gl s1)) (n := 2 * (gl q_4.2 - gl s1)) (dc_wa hge hmg) (dc_wa hge hmg) ?_
          have hge := Nat.le_trans hge hmg
          have hle := hle2
          exact bl_209 k_188 hk_188 hkm_188 q_4.2 hf hge a H locs ls hP hD hS hl
  have hd_125 : ∀ (n : Nat) (s : ms), hd_M_module_125 N n s = some y → gl s1 ≤ gl s → dcG p l e ({ frames := 809, cells := 2 * (gl y.2 - gl s1), slots := 2 * (gl y.2 - gl s1), locals := 19809 }) s0 m [.ref h0].toArray below meth c QQ (dC, dI) A (fun a => (wM h0 a cI cB cJ cZ s)) (2 * (gl s - gl s1)) 125 11 [(0, .ref h0)] [] := by
    intro n
    induction n with
    | zero => intro s hf; cases hf
    | succ n ih =>
      intro s hf hge a H locs ls hP hD hS hl
      have hle := mh_M_module_125 N y (n + 1) s hf
      have hkm_125 := mh_M_module_125 N y n
      have hf : bd_M_module_125 N (hd_M_module_125 N n) s = some y := hf
      have hk_125 := ih
      generalize hd_M_module_125 N n = k_125 at hf hk_125 hkm_125
      unfold bd_M_module_125 at hf
      refine lv_aload_n hx hb dn_M_module_125 rfl (lv_at hl 0 rfl) ?_
      refine lv_sipush (v := 302) hx hb dn_M_module_126 (by decide) ?_
      obtain ⟨q_1, hc_2, hf⟩ := dc_b hf
      have hme := mn_M_is N 302 s q_1 hc_2
      refine dc_calli (dc_runV (ar := 1) (As := [.int 302]) (rest := []) (ci := 0) (q0 := 0) ⟨hx, hb, hml, hown, hg⟩ hK hN hT hS hA (ct_M_is l dC dI cI cB cJ cZ cQ N H.size h0 a 302 s q_1 hc_2) hP hD rfl rfl wn_9_194 wn_9_196 sn_M_is wn_1_13 wn_9_197 rfl rfl (by decide +kernel) ⟨Nat.le_of_ble_eq_true rfl, Nat.le_of_ble_eq_true rfl⟩ rfl hl.1 rfl (Nat.le_of_ble_eq_true rfl) dn_M_module_129 (dc_rm0 hle)) hP hD hS hA (fun r_3 _ H locs hw hP hD hS => ?_)
      refine W.widen (k := 2 * (gl q_1.2 - gl s1)) (n := 2 * (gl q_1.2 - gl s1)) (dc_we hme) (dc_we hme) ?_
      have hge := Nat.le_trans hge (Nat.le_of_eq hme.symm)
      have hle := Nat.le_trans (Nat.le_of_eq hme) hle
      have hw : r_3 = q_1.1 := hw
      subst hw
      refine lv_if_ne (tgt := 145) hx hb dn_M_module_132 (by decide) (fun h => ?_) (fun h => ?_)
      · have hf := (if_neg h).symm.trans hf
        exact bl_145 k_125 hk_125 hkm_125 q_1.2 hf hge a H locs ls hP hD hS hl
      · have hf := (if_pos h).symm.trans hf
        refine lv_aload_n hx hb dn_M_module_135 rfl (lv_at hl 0 rfl) ?_
        refine lv_sipush (v := 303) hx hb dn_M_module_136 (by decide) ?_
        obtain ⟨q_4, hc_5, hf⟩ := dc_b hf
        have hme := mn_M_is N 303 q_1.2 q_4 hc_5
        refine dc_calli (dc_runV (ar := 1) (As := [.int 303]) (rest := []) (ci := 0) (q0 := 0) ⟨hx, hb, hml, hown, hg⟩ hK hN hT hS hA (ct_M_is l dC dI cI cB cJ cZ cQ N H.size h0 a 303 q_1.2 q_4 hc_5) hP hD rfl rfl wn_9_194 wn_9_196 sn_M_is wn_1_13 wn_9_197 rfl rfl (by decide +kernel) ⟨Nat.le_of_ble_eq_true rfl, Nat.le_of_ble_eq_true rfl⟩ rfl hl.1 rfl (Nat.le_of_ble_eq_true rfl) dn_M_module_139 (dc_rm0 hle)) hP hD hS hA (fun r_6 _ H locs hw hP hD hS => ?_)
        refine W.widen (k := 2 * (gl q_4.2 - gl s1)) (n := 2 * (gl q_4.2 - gl s1)) (dc_we hme) (dc_we hme) ?_
        have hge := Nat.le_trans hge (Nat.le_of_eq hme.symm)
        have hle := Nat.le_trans (Nat.le_of_eq hme) hle
        have hw : r_6 = q_4.1 := hw
        subst hw
        refine lv_if_eq (tgt := 178) hx hb dn_M_module_142 (by decide) (fun h => ?_) (fun h => ?_)
        · have hf := (if_pos h).symm.trans hf
          refine lv_aload_n hx hb dn_M_module_178 rfl (lv_at hl 0 rfl) ?_
          refine lv_aload_n hx hb dn_M_module_179 rfl (lv_at hl 0 rfl) ?_
          refine va_get (D := (dC, dI)) (ci := 0) (v := .int ((q_4.2.1 8 0))) (C := rn_M) (T := fn_M) (N := 91) hx hb hg in_M hown hK hP 0 rfl rfl 8 (by decide) (hg _ wn_8_81) (fun _ h9 => h9) rfl dn_M_module_180 ?_
          refine lv_iconst (v := 2) hx hb dn_M_module_183 (by decide) ?_
          refine lv_iadd hx hb dn_M_module_184 ?_
          refine va_put (D := (dC, dI)) (ci := 0) (v := .int (((q_4.2.1 8 0) + 2))) (ty := .int) (C := rn_M) (T := fn_M) (N := 91) hx hb hg in_M tn_M tk_M nn_M hown hK hP hD hS 0 rfl rfl 8 (by decide) (hg _ wn_8_81) (fun _ h9 => h9) rfl (tk_M 8 (by decide)) rfl rfl (Nat.le_of_ble_eq_true rfl) dn_M_module_185 (fun H locs hP hD hS => ?_)
          have hP := wM_P_8 hP
          have hD := wM_D_8 hD
          exact hd_188 N (upI q_4.2 8 (fun _ => ((q_4.2.1 8 0) + 2))) hf hge a H locs ls hP hD hS hl
        · have hf := (if_neg h).symm.trans hf
          exact bl_145 k_125 hk_125 hkm_125 q_4.2 hf hge a H locs ls hP hD hS hl
  have bl_40 : ∀ (s : ms), bk_M_module_40 N s = some y → gl s1 ≤ gl s → dcG p l e ({ frames := 809, cells := 2 * (gl y.2 - gl s1), slots := 2 * (gl y.2 - gl s1), locals := 19809 }) s0 m [.ref h0].toArray below meth c QQ (dC, dI) A (fun a => (wM h0 a cI cB cJ cZ s)) (2 * (gl s - gl s1)) 40 11 [(0, .ref h0)] [] := by
    intro s hf hge a H locs ls hP hD hS hl
    have hle := mo_M_module_40 N y s hf
    unfold bk_M_module_40 at hf
    refine lv_aload_n hx hb dn_M_module_40 rfl (lv_at hl 0 rfl) ?_
    refine va_get (D := (dC, dI)) (ci := 0) (v := .ref ((a 13))) (C := rn_M) (T := fn_M) (N := 91) hx hb hg in_M hown hK hP 0 rfl rfl 13 (by decide) (hg _ wn_8_86) (fun _ h9 => h9) rfl dn_M_module_41 ?_
    refine lv_aload_n hx hb dn_M_module_44 rfl (lv_at hl 0 rfl) ?_
    refine va_get (D := (dC, dI)) (ci := 0) (v := .int ((s.1 12 0))) (C := rn_M) (T := fn_M) (N := 91) hx hb hg in_M hown hK hP 0 rfl rfl 12 (by decide) (hg _ wn_8_85) (fun _ h9 => h9) rfl dn_M_module_45 ?_
    refine lv_aload_n hx hb dn_M_module_48 rfl (lv_at hl 0 rfl) ?_
    refine va_get (D := (dC, dI)) (ci := 0) (v := .int ((s.1 8 0))) (C := rn_M) (T := fn_M) (N := 91) hx hb hg in_M hown hK hP 0 rfl rfl 8 (by decide) (hg _ wn_8_81) (fun _ h9 => h9) rfl dn_M_module_49 ?_
    obtain ⟨hg_1, hf⟩ := dc_g hf
    refine va_iast hx hb hK hP hD hS 5 0 rfl rfl hg_1 dn_M_module_52 (fun H locs hP hD hS => ?_)
    have hP : va_P (dC, dI) xcl ((wM h0 a cI cB cJ cZ s).set 5 ((a 13), .inl (cI, 3600, .inl (upd (s.1 13) (Int32.toNatClampNeg ((s.1 12 0))) ((s.1 8 0)))))) H := hP
    have hD : va_D A ((wM h0 a cI cB cJ cZ s).set 5 ((a 13), .inl (cI, 3600, .inl (upd (s.1 13) (Int32.toNatClampNeg ((s.1 12 0))) ((s.1 8 0)))))) := hD
    have hP := wM_P_13 hP
    have hD := wM_D_13 hD
    refine lv_aload_n hx hb dn_M_module_53 rfl (lv_at hl 0 rfl) ?_
    refine va_get (D := (dC, dI)) (ci := 0) (v := .ref ((a 14))) (C := rn_M) (T := fn_M) (N := 91) hx hb hg in_M hown hK hP 0 rfl rfl 14 (by decide) (hg _ wn_8_87) (fun _ h9 => h9) rfl dn_M_module_54 ?_
    refine lv_aload_n hx hb dn_M_module_57 rfl (lv_at hl 0 rfl) ?_
    refine va_get (D := (dC, dI)) (ci := 0) (v := .int ((s.1 12 0))) (C := rn_M) (T := fn_M) (N := 91) hx hb hg in_M hown hK hP 0 rfl rfl 12 (by decide) (hg _ wn_8_85) (fun _ h9 => h9) rfl dn_M_module_58 ?_
    refine lv_aload_n hx hb dn_M_module_61 rfl (lv_at hl 0 rfl) ?_
    refine va_get (D := (dC, dI)) (ci := 0) (v := .int ((s.1 18 0))) (C := rn_M) (T := fn_M) (N := 91) hx hb hg in_M hown hK hP 0 rfl rfl 18 (by decide) (hg _ wn_8_91) (fun _ h9 => h9) rfl dn_M_module_62 ?_
    obtain ⟨hg_2, hf⟩ := dc_g hf
    refine va_iast hx hb hK hP hD hS 6 0 rfl rfl hg_2 dn_M_module_65 (fun H locs hP hD hS => ?_)
    have hP : va_P (dC, dI) xcl ((wM h0 a cI cB cJ cZ (upI s 13 (upd (s.1 13) (Int32.toNatClampNeg ((s.1 12 0))) ((s.1 8 0))))).set 6 ((a 14), .inl (cI, 3601, .inl (upd (s.1 14) (Int32.toNatClampNeg ((s.1 12 0))) ((s.1 18 0)))))) H := hP
    have hD : va_D A ((wM h0 a cI cB cJ cZ (upI s 13 (upd (s.1 13) (Int32.toNatClampNeg ((s.1 12 0))) ((s.1 8 0))))).set 6 ((a 14), .inl (cI, 3601, .inl (upd (s.1 14) (Int32.toNatClampNeg ((s.1 12 0))) ((s.1 18 0)))))) := hD
    have hP := wM_P_14 hP
    have hD := wM_D_14 hD
    refine lv_aload_n hx hb dn_M_module_66 rfl (lv_at hl 0 rfl) ?_
    refine va_get (D := (dC, dI)) (ci := 0) (v := .ref ((a 15))) (C := rn_M) (T := fn_M) (N := 91) hx hb hg in_M hown hK hP 0 rfl rfl 15 (by decide) (hg _ wn_8_88) (fun _ h9 => h9) rfl dn_M_module_67 ?_
    refine lv_aload_n hx hb dn_M_module_70 rfl (lv_at hl 0 rfl) ?_
    refine va_get (D := (dC, dI)) (ci := 0) (v := .int ((s.1 12 0))) (C := rn_M) (T := fn_M) (N := 91) hx hb hg in_M hown hK hP 0 rfl rfl 12 (by decide) (hg _ wn_8_85) (fun _ h9 => h9) rfl dn_M_module_71 ?_
    refine lv_aload_n hx hb dn_M_module_74 rfl (lv_at hl 0 rfl) ?_
    refine va_get (D := (dC, dI)) (ci := 0) (v := .int ((s.1 27 0))) (C := rn_M) (T := fn_M) (N := 91) hx hb hg in_M hown hK hP 0 rfl rfl 27 (by decide) (hg _ wn_8_100) (fun _ h9 => h9) rfl dn_M_module_75 ?_
    obtain ⟨hg_3, hf⟩ := dc_g hf
    refine va_iast hx hb hK hP hD hS 7 0 rfl rfl hg_3 dn_M_module_78 (fun H locs hP hD hS => ?_)
    have hP : va_P (dC, dI) xcl ((wM h0 a cI cB cJ cZ (upI (upI s 13 (upd (s.1 13) (Int32.toNatClampNeg ((s.1 12 0))) ((s.1 8 0)))) 14 (upd (s.1 14) (Int32.toNatClampNeg ((s.1 12 0))) ((s.1 18 0))))).set 7 ((a 15), .inl (cI, 3601, .inl (upd (s.1 15) (Int32.toNatClampNeg ((s.1 12 0))) ((s.1 27 0)))))) H := hP
    have hD : va_D A ((wM h0 a cI cB cJ cZ (upI (upI s 13 (upd (s.1 13) (Int32.toNatClampNeg ((s.1 12 0))) ((s.1 8 0)))) 14 (upd (s.1 14) (Int32.toNatClampNeg ((s.1 12 0))) ((s.1 18 0))))).set 7 ((a 15), .inl (cI, 3601, .inl (upd (s.1 15) (Int32.toNatClampNeg ((s.1 12 0))) ((s.1 27 0)))))) := hD
    have hP := wM_P_15 hP
    have hD := wM_D_15 hD
    refine lv_aload_n hx hb dn_M_module_79 rfl (lv_at hl 0 rfl) ?_
    refine va_get (D := (dC, dI)) (ci := 0) (v := .ref ((a 16))) (C := rn_M) (T := fn_M) (N := 91) hx hb hg in_M hown hK hP 0 rfl rfl 16 (by decide) (hg _ wn_8_89) (fun _ h9 => h9) rfl dn_M_module_80 ?_
    refine lv_aload_n hx hb dn_M_module_83 rfl (lv_at hl 0 rfl) ?_
    refine va_get (D := (dC, dI)) (ci := 0) (v := .int ((s.1 12 0))) (C := rn_M) (T := fn_M) (N := 91) hx hb hg in_M hown hK hP 0 rfl rfl 12 (by decide) (hg _ wn_8_85) (fun _ h9 => h9) rfl dn_M_module_84 ?_
    refine lv_aload_n hx hb dn_M_module_87 rfl (lv_at hl 0 rfl) ?_
    refine va_get (D := (dC, dI)) (ci := 0) (v := .int ((s.1 35 0))) (C := rn_M) (T := fn_M) (N := 91) hx hb hg in_M hown hK hP 0 rfl rfl 35 (by decide) (hg _ wn_8_108) (fun _ h9 => h9) rfl dn_M_module_88 ?_
    obtain ⟨hg_4, hf⟩ := dc_g hf
    refine va_iast hx hb hK hP hD hS 8 0 rfl rfl hg_4 dn_M_module_91 (fun H locs hP hD hS => ?_)
    have hP : va_P (dC, dI) xcl ((wM h0 a cI cB cJ cZ (upI (upI (upI s 13 (upd (s.1 13) (Int32.toNatClampNeg ((s.1 12 0))) ((s.1 8 0)))) 14 (upd (s.1 14) (Int32.toNatClampNeg ((s.1 12 0))) ((s.1 18 0)))) 15 (upd (s.1 15) (Int32.toNatClampNeg ((s.1 12 0))) ((s.1 27 0))))).set 8 ((a 16), .inl (cI, 3601, .inl (upd (s.1 16) (Int32.toNatClampNeg ((s.1 12 0))) ((s.1 35 0)))))) H := hP
    have hD : va_D A ((wM h0 a cI cB cJ cZ (upI (upI (upI s 13 (upd (s.1 13) (Int32.toNatClampNeg ((s.1 12 0))) ((s.1 8 0)))) 14 (upd (s.1 14) (Int32.toNatClampNeg ((s.1 12 0))) ((s.1 18 0)))) 15 (upd (s.1 15) (Int32.toNatClampNeg ((s.1 12 0))) ((s.1 27 0))))).set 8 ((a 16), .inl (cI, 3601, .inl (upd (s.1 16) (Int32.toNatClampNeg ((s.1 12 0))) ((s.1 35 0)))))) := hD
    have hP := wM_P_16 hP
    have hD := wM_D_16 hD
    refine lv_aload_n hx hb dn_M_module_92 rfl (lv_at hl 0 rfl) ?_
    refine va_get (D := (dC, dI)) (ci := 0) (v := .ref ((a 17))) (C := rn_M) (T := fn_M) (N := 91) hx hb hg in_M hown hK hP 0 rfl rfl 17 (by decide) (hg _ wn_8_90) (fun _ h9 => h9) rfl dn_M_module_93 ?_
    refine lv_aload_n hx hb dn_M_module_96 rfl (lv_at hl 0 rfl) ?_
    refine va_get (D := (dC, dI)) (ci := 0) (v := .int ((s.1 12 0))) (C := rn_M) (T := fn_M) (N := 91) hx hb hg in_M hown hK hP 0 rfl rfl 12 (by decide) (hg _ wn_8_85) (fun _ h9 => h9) rfl dn_M_module_97 ?_
    refine lv_aload_n hx hb dn_M_module_100 rfl (lv_at hl 0 rfl) ?_
    refine va_get (D := (dC, dI)) (ci := 0) (v := .int ((s.1 38 0))) (C := rn_M) (T := fn_M) (N := 91) hx hb hg in_M hown hK hP 0 rfl rfl 38 (by decide) (hg _ wn_8_111) (fun _ h9 => h9) rfl dn_M_module_101 ?_
    obtain ⟨hg_5, hf⟩ := dc_g hf
    refine va_iast hx hb hK hP hD hS 9 0 rfl rfl hg_5 dn_M_module_104 (fun H locs hP hD hS => ?_)
    have hP : va_P (dC, dI) xcl ((wM h0 a cI cB cJ cZ (upI (upI (upI (upI s 13 (upd (s.1 13) (Int32.toNatClampNeg ((s.1 12 0))) ((s.1 8 0)))) 14 (upd (s.1 14) (Int32.toNatClampNeg ((s.1 12 0))) ((s.1 18 0)))) 15 (upd (s.1 15) (Int32.toNatClampNeg ((s.1 12 0))) ((s.1 27 0)))) 16 (upd (s.1 16) (Int32.toNatClampNeg ((s.1 12 0))) ((s.1 35 0))))).set 9 ((a 17), .inl (cI, 3601, .inl (upd (s.1 17) (Int32.toNatClampNeg ((s.1 12 0))) ((s.1 38 0)))))) H := hP
    have hD : va_D A ((wM h0 a cI cB cJ cZ (upI (upI (upI (upI s 13 (upd (s.1 13) (Int32.toNatClampNeg ((s.1 12 0))) ((s.1 8 0)))) 14 (upd (s.1 14) (Int32.toNatClampNeg ((s.1 12 0))) ((s.1 18 0)))) 15 (upd (s.1 15) (Int32.toNatClampNeg ((s.1 12 0))) ((s.1 27 0)))) 16 (upd (s.1 16) (Int32.toNatClampNeg ((s.1 12 0))) ((s.1 35 0))))).set 9 ((a 17), .inl (cI, 3601, .inl (upd (s.1 17) (Int32.toNatClampNeg ((s.1 12 0))) ((s.1 38 0)))))) := hD
    have hP := wM_P_17 hP
    have hD := wM_D_17 hD
    refine lv_aload_n hx hb dn_M_module_105 rfl (lv_at hl 0 rfl) ?_
    refine va_get (D := (dC, dI)) (ci := 0) (v := .ref ((a 45))) (C := rn_M) (T := fn_M) (N := 91) hx hb hg in_M hown hK hP 0 rfl rfl 45 (by decide) (hg _ wn_8_118) (fun _ h9 => h9) rfl dn_M_module_106 ?_
    refine lv_aload_n hx hb dn_M_module_109 rfl (lv_at hl 0 rfl) ?_
    refine va_get (D := (dC, dI)) (ci := 0) (v := .int ((s.1 12 0))) (C := rn_M) (T := fn_M) (N := 91) hx hb hg in_M hown hK hP 0 rfl rfl 12 (by decide) (hg _ wn_8_85) (fun _ h9 => h9) rfl dn_M_module_110 ?_
    refine lv_lconst (v := 0) hx hb dn_M_module_113 (by decide) ?_
    obtain ⟨hg_6, hf⟩ := dc_g hf
    refine va_last hx hb hK hP hD hS 30 2 rfl rfl hg_6 dn_M_module_114 (fun H locs hP hD hS => ?_)
    have hP : va_P (dC, dI) xcl ((wM h0 a cI cB cJ cZ (upI (upI (upI (upI (upI s 13 (upd (s.1 13) (Int32.toNatClampNeg ((s.1 12 0))) ((s.1 8 0)))) 14 (upd (s.1 14) (Int32.toNatClampNeg ((s.1 12 0))) ((s.1 18 0)))) 15 (upd (s.1 15) (Int32.toNatClampNeg ((s.1 12 0))) ((s.1 27 0)))) 16 (upd (s.1 16) (Int32.toNatClampNeg ((s.1 12 0))) ((s.1 35 0)))) 17 (upd (s.1 17) (Int32.toNatClampNeg ((s.1 12 0))) ((s.1 38 0))))).set 30 ((a 45), .inl (cJ, 3600, .inr (.inl (vp_updL (s.2 45) (Int32.toNatClampNeg ((s.1 12 0))) 0))))) H := hP
    have hD : va_D A ((wM h0 a cI cB cJ cZ (upI (upI (upI (upI (upI s 13 (upd (s.1 13) (Int32.toNatClampNeg ((s.1 12 0))) ((s.1 8 0)))) 14 (upd (s.1 14) (Int32.toNatClampNeg ((s.1 12 0))) ((s.1 18 0)))) 15 (upd (s.1 15) (Int32.toNatClampNeg ((s.1 12 0))) ((s.1 27 0)))) 16 (upd (s.1 16) (Int32.toNatClampNeg ((s.1 12 0))) ((s.1 35 0)))) 17 (upd (s.1 17) (Int32.toNatClampNeg ((s.1 12 0))) ((s.1 38 0))))).set 30 ((a 45), .inl (cJ, 3600, .inr (.inl (vp_updL (s.2 45) (Int32.toNatClampNeg ((s.1 12 0))) 0))))) := hD
    have hP := wM_P_45 hP
    have hD := wM_D_45 hD
    refine lv_aload_n hx hb dn_M_module_115 rfl (lv_at hl 0 rfl) ?_
    refine lv_aload_n hx hb dn_M_module_116 rfl (lv_at hl 0 rfl) ?_
    refine va_get (D := (dC, dI)) (ci := 0) (v := .int ((s.1 8 0))) (C := rn_M) (T := fn_M) (N := 91) hx hb hg in_M hown hK hP 0 rfl rfl 8 (by decide) (hg _ wn_8_81) (fun _ h9 => h9) rfl dn_M_module_117 ?_
    refine lv_iconst (v := 2) hx hb dn_M_module_120 (by decide) ?_
    refine lv_iadd hx hb dn_M_module_121 ?_
    refine va_put (D := (dC, dI)) (ci := 0) (v := .int (((s.1 8 0) + 2))) (ty := .int) (C := rn_M) (T := fn_M) (N := 91) hx hb hg in_M tn_M tk_M nn_M hown hK hP hD hS 0 rfl rfl 8 (by decide) (hg _ wn_8_81) (fun _ h9 => h9) rfl (tk_M 8 (by decide)) rfl rfl (Nat.le_of_ble_eq_true rfl) dn_M_module_122 (fun H locs hP hD hS => ?_)
    have hP := wM_P_8 hP
    have hD := wM_D_8 hD
    exact hd_125 N (upI (upJ (upI (upI (upI (upI (upI s 13 (upd (s.1 13) (Int32.toNatClampNeg ((s.1 12 0))) ((s.1 8 0)))) 14 (upd (s.1 14) (Int32.toNatClampNeg ((s.1 12 0))) ((s.1 18 0)))) 15 (upd (s.1 15) (Int32.toNatClampNeg ((s.1 12 0))) ((s.1 27 0)))) 16 (upd (s.1 16) (Int32.toNatClampNeg ((s.1 12 0))) ((s.1 35 0)))) 17 (upd (s.1 17) (Int32.toNatClampNeg ((s.1 12 0))) ((s.1 38 0)))) 45 (vp_updL (s.2 45) (Int32.toNatClampNeg ((s.1 12 0))) 0)) 8 (fun _ => ((s.1 8 0) + 2))) hf hge a H locs ls hP hD hS hl
  intro hge a H locs ls hP hD hS hl
  have hle := mn_M_module N s1 y hf
  unfold fn_M_module at hf
  refine lv_aload_n hx hb dn_M_module_0 rfl (lv_at hl 0 rfl) ?_
  refine lv_dup hx hb dn_M_module_1 rfl ?_
  refine va_get (D := (dC, dI)) (ci := 0) (v := .int ((s1.1 8 0))) (C := rn_M) (T := fn_M) (N := 91) hx hb hg in_M hown hK hP 0 rfl rfl 8 (by decide) (hg _ wn_8_81) (fun _ h9 => h9) rfl dn_M_module_2 ?_
  refine lv_iconst (v := 1) hx hb dn_M_module_5 (by decide) ?_
  refine lv_iadd hx hb dn_M_module_6 ?_
  refine va_put (D := (dC, dI)) (ci := 0) (v := .int (((s1.1 8 0) + 1))) (ty := .int) (C := rn_M) (T := fn_M) (N := 91) hx hb hg in_M tn_M tk_M nn_M hown hK hP hD hS 0 rfl rfl 8 (by decide) (hg _ wn_8_81) (fun _ h9 => h9) rfl (tk_M 8 (by decide)) rfl rfl (Nat.le_of_ble_eq_true rfl) dn_M_module_7 (fun H locs hP hD hS => ?_)
  have hP := wM_P_8 hP
  have hD := wM_D_8 hD
  refine lv_aload_n hx hb dn_M_module_10 rfl (lv_at hl 0 rfl) ?_
  refine lv_aload_n hx hb dn_M_module_11 rfl (lv_at hl 0 rfl) ?_
  refine va_get (D := (dC, dI)) (ci := 0) (v := .int (((s1.1 8 0) + 1))) (C := rn_M) (T := fn_M) (N := 91) hx hb hg in_M hown hK hP 0 rfl rfl 8 (by decide) (hg _ wn_8_81) (fun _ h9 => h9) rfl dn_M_module_12 ?_
  refine lv_aload_n hx hb dn_M_module_15 rfl (lv_at hl 0 rfl) ?_
  refine va_get (D := (dC, dI)) (ci := 0) (v := .int ((s1.1 12 0))) (C := rn_M) (T := fn_M) (N := 91) hx hb hg in_M hown hK hP 0 rfl rfl 12 (by decide) (hg _ wn_8_85) (fun _ h9 => h9) rfl dn_M_module_16 ?_
  obtain ⟨q_1, hc_2, hf⟩ := dc_b hf
  have hme := mn_M_moduleNamed N (((s1.1 8 0) + 1)) ((s1.1 12 0)) (upI s1 8 (fun _ => ((s1.1 8 0) + 1))) q_1 hc_2
  refine dc_calli (dc_runV (ar := 2) (As := [.int (((s1.1 8 0) + 1)), .int ((s1.1 12 0))]) (rest := []) (ci := 0) (q0 := 0) ⟨hx, hb, hml, hown, hg⟩ hK hN hT hS hA (ct_M_moduleNamed l dC dI cI cB cJ cZ cQ N H.size h0 a (((s1.1 8 0) + 1)) ((s1.1 12 0)) (upI s1 8 (fun _ => ((s1.1 8 0) + 1))) q_1 hc_2) hP hD rfl rfl wn_10_24 wn_10_26 sn_M_moduleNamed wn_1_13 wn_10_27 rfl rfl (by decide +kernel) ⟨Nat.le_of_ble_eq_true rfl, Nat.le_of_ble_eq_true rfl⟩ rfl hl.1 rfl (Nat.le_of_ble_eq_true rfl) dn_M_module_19 (dc_rm0 hle)) hP hD hS hA (fun r_3 _ H locs hw hP hD hS => ?_)
  refine W.widen (k := 2 * (gl q_1.2 - gl s1)) (n := 2 * (gl q_1.2 - gl s1)) (dc_we hme) (dc_we hme) ?_
  have hge := Nat.le_trans hge (Nat.le_of_eq hme.symm)
  have hle := Nat.le_trans (Nat.le_of_eq hme) hle
  have hw : r_3 = q_1.1 := hw
  subst hw
  refine lv_if_lt (tgt := 40) hx hb dn_M_module_22 (by decide) (fun h => ?_) (fun h => ?_)
  · have hf := (if_pos h).symm.trans hf
    exact bl_40 q_1.2 hf hge a H locs ls hP hD hS hl
  · have hf := (if_neg h).symm.trans hf
    refine lv_aload_n hx hb dn_M_module_25 rfl (lv_at hl 0 rfl) ?_
    refine lv_bipush (v := 20) hx hb dn_M_module_26 (by decide) ?_
    refine lv_aload_n hx hb dn_M_module_28 rfl (lv_at hl 0 rfl) ?_
    refine va_get (D := (dC, dI)) (ci := 0) (v := .ref ((a 5))) (C := rn_M) (T := fn_M) (N := 91) hx hb hg in_M hown hK hP 0 rfl rfl 5 (by decide) (hg _ wn_8_78) (fun _ h9 => h9) rfl dn_M_module_29 ?_
    refine lv_aload_n hx hb dn_M_module_32 rfl (lv_at hl 0 rfl) ?_
    refine va_get (D := (dC, dI)) (ci := 0) (v := .int ((q_1.2.1 8 0))) (C := rn_M) (T := fn_M) (N := 91) hx hb hg in_M hown hK hP 0 rfl rfl 8 (by decide) (hg _ wn_8_81) (fun _ h9 => h9) rfl dn_M_module_33 ?_
    obtain ⟨hg_4, hf⟩ := dc_g hf
    refine va_iald hx hb hK hP 3 0 rfl rfl hg_4 dn_M_module_36 ?_
    refine xk_ti (y := ((q_1.2.1 5) (Int32.toNatClampNeg ((q_1.2.1 8 0))))) rfl ?_
    obtain ⟨q_5, hc_6, hf⟩ := dc_b hf
    have hme := mn_M_fail N 20 (((q_1.2.1 5) (Int32.toNatClampNeg ((q_1.2.1 8 0))))) q_1.2 q_5 hc_6
    refine dc_callv (dc_runV (ar := 2) (As := [.int 20, .int (((q_1.2.1 5) (Int32.toNatClampNeg ((q_1.2.1 8 0)))))]) (rest := []) (ci := 0) (q0 := 0) ⟨hx, hb, hml, hown, hg⟩ hK hN hT hS hA (ct_M_fail l dC dI cI cB cJ cZ cQ N H.size h0 a 20 (((q_1.2.1 5) (Int32.toNatClampNeg ((q_1.2.1 8 0))))) q_1.2 q_5 hc_6) hP hD rfl rfl wn_9_186 wn_9_188 sn_M_fail wn_1_13 wn_9_189 rfl rfl (by decide +kernel) ⟨Nat.le_of_ble_eq_true rfl, Nat.le_of_ble_eq_true rfl⟩ rfl hl.1 rfl (Nat.le_of_ble_eq_true rfl) dn_M_module_37 (dc_rm0 hle)) hP hD hS hA (fun _ H locs hw hP hD hS => ?_)
    refine W.widen (k := 2 * (gl q_5.2 - gl s1)) (n := 2 * (gl q_5.2 - gl s1)) (dc_we hme) (dc_we hme) ?_
    have hge := Nat.le_trans hge (Nat.le_of_eq hme.symm)
    have hle := Nat.le_trans (Nat.le_of_eq hme) hle
    exact bl_40 q_5.2 hf hge a H locs ls hP hD hS hl
