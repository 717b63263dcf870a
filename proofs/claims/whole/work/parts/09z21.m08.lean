theorem mn_M_isDriven (N : Nat) (v1 : Int32) (s : ms) (y : (Int32 × ms)) (hf : fn_M_isDriven N v1 s = some y) : gl y.2 = gl s := by
  unfold fn_M_isDriven at hf
  have hm : gl s = gl s := rfl
  obtain ⟨_, hf⟩ := dc_g hf
  by_cases h : ((s.1 21) (Int32.toNatClampNeg v1)) = 1
  · have hf := (if_pos h).symm.trans hf
    exact (dc_e hf).trans hm
  · have hf := (if_neg h).symm.trans hf
    obtain ⟨_, hf⟩ := dc_g hf
    by_cases h : ((s.1 21) (Int32.toNatClampNeg v1)) = 3
    · have hf := (if_pos h).symm.trans hf
      exact (dc_e hf).trans hm
    · have hf := (if_neg h).symm.trans hf
      exact (dc_e hf).trans hm
set_option maxHeartbeats 8000000 in
set_option maxRecDepth 100000 in
theorem ct_M_isDriven (l : Launch) (dC : Nat → ClassId) (dI : Nat → Nat → Nat) (cI cB cJ cZ cQ : ClassId) (N sz : Nat) (h0 : Nat) (a : Nat → Nat) (v1 : Int32) (s : ms) (y : (Int32 × ms)) (hf : fn_M_isDriven N v1 s = some y) : Met l yn_M_isDriven (xw yn_M_isDriven bn_M_isDriven 2 (some .boolean)) ({ frames := 0, cells := 0, slots := 0, locals := 0 }) (dc_P (dC, dI) xcl (xt cI cB cJ cZ cQ) [.ref h0, .int v1] sz (wM h0 a cI cB cJ cZ s)) (xk_Qi (dC, dI) xcl (xt cI cB cJ cZ cQ) (fun (r : Int32) (_ : Unit) => r = y.1) (fun u : Unit => (wM h0 a cI cB cJ cZ y.2)) (va_A (wM h0 a cI cB cJ cZ s) sz)) 0 0 (va_A (wM h0 a cI cB cJ cZ s) sz) := by
  refine dc_of (QA := xk_Qi (dC, dI) xcl (xt cI cB cJ cZ cQ) (fun (r : Int32) (_ : Unit) => r = y.1) (fun u : Unit => (wM h0 a cI cB cJ cZ y.2))) (by decide) (Nat.le_of_ble_eq_true rfl) ?_
  intro p e s0 m below meth c hx hb hml hown hg hr hlocks hin hP hK hN A hA hD hT ls hl
  have hown : s0.vm.findClass rn_M = some m.cls := hown
  obtain ⟨H, hH⟩ : ∃ z, z = s0.heap := ⟨_, rfl⟩
  rw [← hH] at hP
  have hS : va_S A s0.heap H [] := by rw [hH]; exact va_S.rf
  suffices kk : ∀ QQ : State → Prop, QQ = MQ below (xk_Qi (dC, dI) xcl (xt cI cB cJ cZ cQ) (fun (r : Int32) (_ : Unit) => r = y.1) (fun u : Unit => (wM h0 a cI cB cJ cZ y.2)) A) [.ref h0, .int v1].toArray s0 0 0 A → dcC p l e ({ frames := 0, cells := 0, slots := 0, locals := 0 }) s0 m [.ref h0, .int v1].toArray below meth c QQ (dC, dI) A (wM h0 a cI cB cJ cZ s) 0 2 [(0, .ref h0), (1, .int v1)] [] by
    have k9 := kk _ rfl H [] ls hP hD hS hl
    rw [hH] at k9; exact k9
  clear hP hD hS hl hH H ls
  intro QQ hQQ
  intro H locs ls hP hD hS hl
  unfold fn_M_isDriven at hf
  refine lv_aload_n hx hb dn_M_isDriven_0 rfl (lv_at hl 0 rfl) ?_
  refine va_get (D := (dC, dI)) (ci := 0) (v := .ref ((a 21))) (C := rn_M) (T := fn_M) (N := 91) hx hb hg in_M hown hK hP 0 rfl rfl 21 (by decide) (hg _ wn_8_94) (fun _ h9 => h9) rfl dn_M_isDriven_1 ?_
  refine lv_iload_n hx hb dn_M_isDriven_4 rfl (lv_at hl 1 rfl) ?_
  obtain ⟨hg_1, hf⟩ := dc_g hf
  refine va_iald hx hb hK hP 12 0 rfl rfl hg_1 dn_M_isDriven_5 ?_
  refine xk_ti (y := ((s.1 21) (Int32.toNatClampNeg v1))) rfl ?_
  refine lv_iconst (v := 1) hx hb dn_M_isDriven_6 (by decide) ?_
  refine lv_icmp_eq (tgt := 20) hx hb dn_M_isDriven_7 (by decide) (fun h => ?_) (fun h => ?_)
  · have hf := (if_pos h).symm.trans hf
    refine lv_iconst (v := 1) hx hb dn_M_isDriven_20 (by decide) ?_
    refine lv_goto (tgt := 25) hx hb dn_M_isDriven_21 (by decide) ?_
    rw [hQQ, ← Option.some.inj hf]
    exact xk_zret (w1 := fun u : Unit => (wM h0 a cI cB cJ cZ s)) () hx hb hr rfl hlocks hK hS dn_M_isDriven_25 hP hD rfl (Nat.le_refl _) (Nat.le_refl _)
  · have hf := (if_neg h).symm.trans hf
    refine lv_aload_n hx hb dn_M_isDriven_10 rfl (lv_at hl 0 rfl) ?_
    refine va_get (D := (dC, dI)) (ci := 0) (v := .ref ((a 21))) (C := rn_M) (T := fn_M) (N := 91) hx hb hg in_M hown hK hP 0 rfl rfl 21 (by decide) (hg _ wn_8_94) (fun _ h9 => h9) rfl dn_M_isDriven_11 ?_
    refine lv_iload_n hx hb dn_M_isDriven_14 rfl (lv_at hl 1 rfl) ?_
    obtain ⟨hg_2, hf⟩ := dc_g hf
    refine va_iald hx hb hK hP 12 0 rfl rfl hg_2 dn_M_isDriven_15 ?_
    refine xk_ti (y := ((s.1 21) (Int32.toNatClampNeg v1))) rfl ?_
    refine lv_iconst (v := 3) hx hb dn_M_isDriven_16 (by decide) ?_
    refine lv_icmp_ne (tgt := 24) hx hb dn_M_isDriven_17 (by decide) (fun h => ?_) (fun h => ?_)
    · have hf := (if_neg h).symm.trans hf
      refine lv_iconst (v := 0) hx hb dn_M_isDriven_24 (by decide) ?_
      rw [hQQ, ← Option.some.inj hf]
      exact xk_zret (w1 := fun u : Unit => (wM h0 a cI cB cJ cZ s)) () hx hb hr rfl hlocks hK hS dn_M_isDriven_25 hP hD rfl (Nat.le_refl _) (Nat.le_refl _)
    · have hf := (if_pos h).symm.trans hf
      refine lv_iconst (v := 1) hx hb dn_M_isDriven_20 (by decide) ?_
      refine lv_goto (tgt := 25) hx hb dn_M_isDriven_21 (by decide) ?_
      rw [hQQ, ← Option.some.inj hf]
      exact xk_zret (w1 := fun u : Unit => (wM h0 a cI cB cJ cZ s)) () hx hb hr rfl hlocks hK hS dn_M_isDriven_25 hP hD rfl (Nat.le_refl _) (Nat.le_refl _)
theorem mo_M_link_73 (N : Nat) (y : (Unit × ms)) (s : ms) (hf : bk_M_link_73 N s = some y) : gl s ≤ gl y.2 := by
  unfold bk_M_link_73 at hf
  have hm : gl s ≤ gl s := Nat.le_refl _
  obtain ⟨_, hf⟩ := dc_g hf
  obtain ⟨q_2, hc_3, hf⟩ := dc_b hf
  have hm := Nat.le_trans hm (Nat.le_of_eq (mn_M_fail N 23 (((s.1 5) (Int32.toNatClampNeg ((s.1 8 0))))) s q_2 hc_3).symm)
  exact Nat.le_trans hm (Nat.le_of_eq (dc_e hf).symm)
theorem mo_M_link_337 (N : Nat) (y : (Unit × ms)) (s : ms) (hf : bk_M_link_337 N s = some y) : gl s ≤ gl y.2 := by
  unfold bk_M_link_337 at hf
  have hm : gl s ≤ gl s := Nat.le_refl _
  exact Nat.le_trans hm (Nat.le_of_eq (dc_e hf).symm)
theorem mo_M_link_261 (N : Nat) (y : (Unit × ms)) (x3 : Int32) (x5 : Int32) (x7 : Int32) (x8 : Int32) (s : ms) (hf : bk_M_link_261 N x3 x5 x7 x8 s = some y) : gl s ≤ gl y.2 := by
  unfold bk_M_link_261 at hf
  have hm : gl s ≤ gl s := Nat.le_refl _
  obtain ⟨_, hf⟩ := dc_g hf
  obtain ⟨_, hf⟩ := dc_g hf
  obtain ⟨_, hf⟩ := dc_g hf
  by_cases h : x7 = 0
  · have hf := (if_pos h).symm.trans hf
    exact Nat.le_trans hm (mo_M_link_337 N y (upI (upI (upI (upI s 32 (upd (s.1 32) (Int32.toNatClampNeg ((s.1 31 0))) x3)) 33 (upd (s.1 33) (Int32.toNatClampNeg ((s.1 31 0))) x5)) 34 (upd (s.1 34) (Int32.toNatClampNeg ((s.1 31 0))) ((s.1 42 0)))) 31 (fun _ => ((s.1 31 0) + 1))) hf)
  · have hf := (if_neg h).symm.trans hf
    obtain ⟨_, hf⟩ := dc_g hf
    obtain ⟨_, hf⟩ := dc_g hf
    obtain ⟨_, hf⟩ := dc_g hf
    exact Nat.le_trans hm (mo_M_link_337 N y (upI (upI (upI (upI (upI (upI (upI s 32 (upd (s.1 32) (Int32.toNatClampNeg ((s.1 31 0))) x3)) 33 (upd (s.1 33) (Int32.toNatClampNeg ((s.1 31 0))) x5)) 34 (upd (s.1 34) (Int32.toNatClampNeg ((s.1 31 0))) ((s.1 42 0)))) 31 (fun _ => ((s.1 31 0) + 1))) 23 (upd (s.1 23) (Int32.toNatClampNeg x8) 2)) 24 (upd (s.1 24) (Int32.toNatClampNeg x8) ((s.1 27 0)))) 25 (upd (s.1 25) (Int32.toNatClampNeg x8) x3)) hf)
theorem mo_M_link_233 (N : Nat) (y : (Unit × ms)) (x3 : Int32) (x4 : Int32) (x5 : Int32) (x7 : Int32) (x8 : Int32) (s : ms) (hf : bk_M_link_233 N x3 x4 x5 x7 x8 s = some y) : gl s ≤ gl y.2 := by
  unfold bk_M_link_233 at hf
  have hm : gl s ≤ gl s := Nat.le_refl _
  by_cases h : x7 = 0
  · have hf := (if_pos h).symm.trans hf
    exact Nat.le_trans hm (mo_M_link_261 N y x3 x5 x7 x8 s hf)
  · have hf := (if_neg h).symm.trans hf
    obtain ⟨_, hf⟩ := dc_g hf
    by_cases h : ((s.1 23) (Int32.toNatClampNeg x8)) = 0
    · have hf := (if_pos h).symm.trans hf
      exact Nat.le_trans hm (mo_M_link_261 N y x3 x5 x7 x8 s hf)
    · have hf := (if_neg h).symm.trans hf
      obtain ⟨_, hf⟩ := dc_g hf
      obtain ⟨q_3, hc_4, hf⟩ := dc_b hf
      have hm := Nat.le_trans hm (Nat.le_of_eq (mn_M_fail N 31 (((s.1 5) (Int32.toNatClampNeg x4))) s q_3 hc_4).symm)
      exact Nat.le_trans hm (mo_M_link_261 N y x3 x5 x7 x8 q_3.2 hf)
theorem mo_M_link_215 (N : Nat) (y : (Unit × ms)) (x2 : Int32) (x3 : Int32) (x4 : Int32) (x5 : Int32) (x6 : Int32) (x7 : Int32) (x8 : Int32) (s : ms) (hf : bk_M_link_215 N x2 x3 x4 x5 x6 x7 x8 s = some y) : gl s ≤ gl y.2 := by
  unfold bk_M_link_215 at hf
  have hm : gl s ≤ gl s := Nat.le_refl _
  obtain ⟨_, hf⟩ := dc_g hf
  by_cases h : x6 = ((s.1 20) (Int32.toNatClampNeg x3))
  · have hf := (if_pos h).symm.trans hf
    exact Nat.le_trans hm (mo_M_link_233 N y x3 x4 x5 x7 x8 s hf)
  · have hf := (if_neg h).symm.trans hf
    obtain ⟨q_2, hc_3, hf⟩ := dc_b hf
    have hm := Nat.le_trans hm (Nat.le_of_eq (mn_M_fail N 30 x2 s q_2 hc_3).symm)
    exact Nat.le_trans hm (mo_M_link_233 N y x3 x4 x5 x7 x8 q_2.2 hf)
theorem mo_M_link_201 (N : Nat) (y : (Unit × ms)) (x4 : Int32) (s : ms) (hf : bk_M_link_201 N x4 s = some y) : gl s ≤ gl y.2 := by
  unfold bk_M_link_201 at hf
  have hm : gl s ≤ gl s := Nat.le_refl _
  obtain ⟨_, hf⟩ := dc_g hf
  obtain ⟨q_2, hc_3, hf⟩ := dc_b hf
  have hm := Nat.le_trans hm (Nat.le_of_eq (mn_M_fail N 25 (((s.1 5) (Int32.toNatClampNeg x4))) s q_2 hc_3).symm)
  exact Nat.le_trans hm (Nat.le_of_eq (dc_e hf).symm)
theorem mo_M_link_180 (N : Nat) (y : (Unit × ms)) (x2 : Int32) (x3 : Int32) (x4 : Int32) (x5 : Int32) (x6 : Int32) (x7 : Int32) (t0 : Int32) (s : ms) (hf : bk_M_link_180 N x2 x3 x4 x5 x6 x7 t0 s = some y) : gl s ≤ gl y.2 := by
  unfold bk_M_link_180 at hf
  have hm : gl s ≤ gl s := Nat.le_refl _
  by_cases h : x7 = 0
  · have hf := (if_pos h).symm.trans hf
    exact Nat.le_trans hm (mo_M_link_215 N y x2 x3 x4 x5 x6 x7 t0 s hf)
  · have hf := (if_neg h).symm.trans hf
    by_cases h : t0 < 0
    · have hf := (if_pos h).symm.trans hf
      exact Nat.le_trans hm (mo_M_link_201 N y x4 s hf)
    · have hf := (if_neg h).symm.trans hf
      obtain ⟨q_1, hc_2, hf⟩ := dc_b hf
      have hm := Nat.le_trans hm (Nat.le_of_eq (mn_M_isDriven N t0 s q_1 hc_2).symm)
      by_cases h : q_1.1 = 0
      · have hf := (if_pos h).symm.trans hf
        exact Nat.le_trans hm (mo_M_link_201 N y x4 q_1.2 hf)
      · have hf := (if_neg h).symm.trans hf
        exact Nat.le_trans hm (mo_M_link_215 N y x2 x3 x4 x5 x6 x7 t0 q_1.2 hf)
theorem mo_M_link_179 (N : Nat) (y : (Unit × ms)) (x2 : Int32) (x3 : Int32) (x4 : Int32) (x5 : Int32) (x6 : Int32) (x7 : Int32) (s : ms) (hf : bk_M_link_179 N x2 x3 x4 x5 x6 x7 s = some y) : gl s ≤ gl y.2 := by
  unfold bk_M_link_179 at hf
  have hm : gl s ≤ gl s := Nat.le_refl _
  exact Nat.le_trans hm (mo_M_link_180 N y x2 x3 x4 x5 x6 x7 ((-1)) s hf)
theorem mo_M_link_139 (N : Nat) (y : (Unit × ms)) (x2 : Int32) (x3 : Int32) (x4 : Int32) (x5 : Int32) (x6 : Int32) (t0 : Int32) (s : ms) (hf : bk_M_link_139 N x2 x3 x4 x5 x6 t0 s = some y) : gl s ≤ gl y.2 := by
  unfold bk_M_link_139 at hf
  have hm : gl s ≤ gl s := Nat.le_refl _
  by_cases h : t0 = 0
  · have hf := (if_pos h).symm.trans hf
    exact Nat.le_trans hm (mo_M_link_179 N y x2 x3 x4 x5 x6 t0 s hf)
  · have hf := (if_neg h).symm.trans hf
    obtain ⟨_, hf⟩ := dc_g hf
    by_cases h : ((s.1 4) (Int32.toNatClampNeg x4)) = 400
    · have hf := (if_pos h).symm.trans hf
      by_cases h : (s.1 8 0) = (x4 + 1)
      · have hf := (if_pos h).symm.trans hf
        obtain ⟨q_2, hc_3, hf⟩ := dc_b hf
        have hm := Nat.le_trans hm (Nat.le_of_eq (mn_M_here N x4 s q_2 hc_3).symm)
        exact Nat.le_trans hm (mo_M_link_180 N y x2 x3 x4 x5 x6 t0 q_2.1 q_2.2 hf)
      · have hf := (if_neg h).symm.trans hf
        exact Nat.le_trans hm (mo_M_link_179 N y x2 x3 x4 x5 x6 t0 s hf)
    · have hf := (if_neg h).symm.trans hf
      exact Nat.le_trans hm (mo_M_link_179 N y x2 x3 x4 x5 x6 t0 s hf)
theorem mo_M_link_115 (N : Nat) (y : (Unit × ms)) (x2 : Int32) (x3 : Int32) (x4 : Int32) (x5 : Int32) (t0 : Int32) (s : ms) (hf : bk_M_link_115 N x2 x3 x4 x5 t0 s = some y) : gl s ≤ gl y.2 := by
  unfold bk_M_link_115 at hf
  have hm : gl s ≤ gl s := Nat.le_refl _
  by_cases h : (s.1 9 0) = 0
  · have hf := (if_pos h).symm.trans hf
    obtain ⟨_, hf⟩ := dc_g hf
    by_cases h : ((s.1 21) (Int32.toNatClampNeg x3)) = 0
    · have hf := (if_pos h).symm.trans hf
      exact Nat.le_trans hm (mo_M_link_139 N y x2 x3 x4 x5 t0 0 s hf)
    · have hf := (if_neg h).symm.trans hf
      exact Nat.le_trans hm (mo_M_link_139 N y x2 x3 x4 x5 t0 1 s hf)
  · have hf := (if_neg h).symm.trans hf
    exact Nat.le_trans hm (Nat.le_of_eq (dc_e hf).symm)
theorem mn_M_link (N : Nat) (v1 : Int32) (s1 : ms) (y : (Unit × ms)) (hf : fn_M_link N v1 s1 = some y) : gl s1 ≤ gl y.2 := by
  unfold fn_M_link at hf
  have hm : gl s1 ≤ gl s1 := Nat.le_refl _
  obtain ⟨_, hf⟩ := dc_g hf
  obtain ⟨_, hf⟩ := dc_g hf
  obtain ⟨_, hf⟩ := dc_g hf
  obtain ⟨q_4, hc_5, hf⟩ := dc_b hf
  have hm := Nat.le_trans hm (Nat.le_of_eq (mn_M_signalNamed N (((s1.1 8 0) + 1)) (((s1.1 14) (Int32.toNatClampNeg v1))) (((s1.1 14) (Int32.toNatClampNeg ((v1 + 1))))) (upI s1 8 (fun _ => ((s1.1 8 0) + 1))) q_4 hc_5).symm)
  by_cases h : q_4.1 < 0
  · have hf := (if_pos h).symm.trans hf
    exact Nat.le_trans hm (mo_M_link_73 N y q_4.2 hf)
  · have hf := (if_neg h).symm.trans hf
    obtain ⟨_, hf⟩ := dc_g hf
    by_cases h : 2 < ((q_4.2.1 21) (Int32.toNatClampNeg q_4.1))
    · have hf := (if_pos h).symm.trans hf
      exact Nat.le_trans hm (mo_M_link_73 N y q_4.2 hf)
    · have hf := (if_neg h).symm.trans hf
      obtain ⟨q_8, hc_9, hf⟩ := dc_b hf
      have hm := Nat.le_trans hm (Nat.le_of_eq (mn_M_linkOf N ((q_4.2.1 27 0)) ((q_4.2.1 31 0)) q_4.1 q_4.2 q_8 hc_9).symm)
      by_cases h : q_8.1 < 0
      · have hf := (if_pos h).symm.trans hf
        obtain ⟨q_11, hc_12, hf⟩ := dc_b hf
        have hm := Nat.le_trans hm (mn_M_exp N (upI q_8.2 8 (fun _ => ((q_8.2.1 8 0) + 2))) q_11 hc_12)
        exact Nat.le_trans hm (mo_M_link_115 N y (((s1.1 5) (Int32.toNatClampNeg ((s1.1 8 0))))) q_4.1 (((q_8.2.1 8 0) + 2)) ((q_8.2.1 42 0)) q_11.1 q_11.2 hf)
      · have hf := (if_neg h).symm.trans hf
        exact Nat.le_trans hm (mo_M_link_73 N y q_8.2 hf)
set_option maxHeartbeats 8000000 in
set_option maxRecDepth 100000 in
theorem ct_M_link (l : Launch) (dC : Nat → ClassId) (dI : Nat → Nat → Nat) (cI cB cJ cZ cQ : ClassId) (N sz : Nat) (h0 : Nat) (a : Nat → Nat) (v1 : Int32) (s1 : ms) (y : (Unit × ms)) (hf : fn_M_link N v1 s1 = some y) : Met l yn_M_link (xw yn_M_link bn_M_link 9 none) ({ frames := 406, cells := 2 * (gl y.2 - gl s1), slots := 2 * (gl y.2 - gl s1), locals := 9741 }) (dc_P (dC, dI) xcl (xt cI cB cJ cZ cQ) [.ref h0, .int v1] sz (wM h0 a cI cB cJ cZ s1)) (xk_Qv (dC, dI) xcl (xt cI cB cJ cZ cQ) (fun _ : Nat → Nat => True) (fun u : Nat → Nat => (wM h0 u cI cB cJ cZ y.2)) (va_A (wM h0 a cI cB cJ cZ s1) sz)) (2 * (gl y.2 - gl s1)) (2 * (gl y.2 - gl s1)) (va_A (wM h0 a cI cB cJ cZ s1) sz) := by
  refine dc_of (QA := xk_Qv (dC, dI) xcl (xt cI cB cJ cZ cQ) (fun _ : Nat → Nat => True) (fun u : Nat → Nat => (wM h0 u cI cB cJ cZ y.2))) (by decide) (Nat.le_of_ble_eq_true rfl) ?_
  intro p e s0 m below meth c hx hb hml hown hg hr hlocks hin hP hK hN A hA hD hT ls hl
  have hown : s0.vm.findClass rn_M = some m.cls := hown
  obtain ⟨H, hH⟩ : ∃ z, z = s0.heap := ⟨_, rfl⟩
  rw [← hH] at hP
  have hS : va_S A s0.heap H [] := by rw [hH]; exact va_S.rf
  suffices kk : ∀ QQ : State → Prop, QQ = MQ below (xk_Qv (dC, dI) xcl (xt cI cB cJ cZ cQ) (fun _ : Nat → Nat => True) (fun u : Nat → Nat => (wM h0 u cI cB cJ cZ y.2)) A) [.ref h0, .int v1].toArray s0 (2 * (gl y.2 - gl s1)) (2 * (gl y.2 - gl s1)) A → gl s1 ≤ gl s1 → dcG p l e ({ frames := 406, cells := 2 * (gl y.2 - gl s1), slots := 2 * (gl y.2 - gl s1), locals := 9741 }) s0 m [.ref h0, .int v1].toArray below meth c QQ (dC, dI) A (fun a => (wM h0 a cI cB cJ cZ s1)) (2 * (gl s1 - gl s1)) 0 9 [(0, .ref h0), (1, .int v1)] [] by
    have k9 := kk _ rfl (Nat.le_refl _) a H [] ls hP hD hS hl
    rw [hH, Nat.sub_self] at k9; exact k9
  clear hP hD hS hl hH H ls
  intro QQ hQQ
  have bl_73 : ∀ (s : ms), bk_M_link_73 N s = some y → gl s1 ≤ gl s → dcG p l e ({ frames := 406, cells := 2 * (gl y.2 - gl s1), slots := 2 * (gl y.2 - gl s1), locals := 9741 }) s0 m [.ref h0, .int v1].toArray below meth c QQ (dC, dI) A (fun a => (wM h0 a cI cB cJ cZ s)) (2 * (gl s - gl s1)) 73 9 [(0, .ref h0)] [] := by
    intro s hf hge a H locs ls hP hD hS hl
    have hle := mo_M_link_73 N y s hf
    unfold bk_M_link_73 at hf
    refine lv_aload_n hx hb dn_M_link_73 rfl (lv_at hl 0 rfl) ?_
    refine lv_bipush (v := 23) hx hb dn_M_link_74 (by decide) ?_
    refine lv_aload_n hx hb dn_M_link_76 rfl (lv_at hl 0 rfl) ?_
    refine va_get (D := (dC, dI)) (ci := 0) (v := .ref ((a 5))) (C := rn_M) (T := fn_M) (N := 91) hx hb hg in_M hown hK hP 0 rfl rfl 5 (by decide) (hg _ wn_8_78) (fun _ h9 => h9) rfl dn_M_link_77 ?_
    refine lv_aload_n hx hb dn_M_link_80 rfl (lv_at hl 0 rfl) ?_
    refine va_get (D := (dC, dI)) (ci := 0) (v := .int ((s.1 8 0))) (C := rn_M) (T := fn_M) (N := 91) hx hb hg in_M hown hK hP 0 rfl rfl 8 (by decide) (hg _ wn_8_81) (fun _ h9 => h9) rfl dn_M_link_81 ?_
    obtain ⟨hg_1, hf⟩ := dc_g hf
    refine va_iald hx hb hK hP 3 0 rfl rfl hg_1 dn_M_link_84 ?_
    refine xk_ti (y := ((s.1 5) (Int32.toNatClampNeg ((s.1 8 0))))) rfl ?_
    obtain ⟨q_2, hc_3, hf⟩ := dc_b hf
    have hme := mn_M_fail N 23 (((s.1 5) (Int32.toNatClampNeg ((s.1 8 0))))) s q_2 hc_3
    refine dc_callv (dc_runV (ar := 2) (As := [.int 23, .int (((s.1 5) (Int32.toNatClampNeg ((s.1 8 0)))))]) (rest := []) (ci := 0) (q0 := 0) ⟨hx, hb, hml, hown, hg⟩ hK hN hT hS hA (ct_M_fail l dC dI cI cB cJ cZ cQ N H.size h0 a 23 (((s.1 5) (Int32.toNatClampNeg ((s.1 8 0))))) s q_2 hc_3) hP hD rfl rfl wn_9_186 wn_9_188 sn_M_fail wn_1_13 wn_9_189 rfl rfl (by decide +kernel) ⟨Nat.le_of_ble_eq_true rfl, Nat.le_of_ble_eq_true rfl⟩ rfl hl.1 rfl (Nat.le_of_ble_eq_true rfl) dn_M_link_85 (dc_rm0 hle)) hP hD hS hA (fun _ H locs hw hP hD hS => ?_)
    refine W.widen (k := 2 * (gl q_2.2 - gl s1)) (n := 2 * (gl q_2.2 - gl s1)) (dc_we hme) (dc_we hme) ?_
    have hge := Nat.le_trans hge (Nat.le_of_eq hme.symm)
    have hle := Nat.le_trans (Nat.le_of_eq hme) hle
    rw [hQQ, ← Option.some.inj hf]
    exact xk_vret (w1 := fun u : Nat → Nat => (wM h0 u cI cB cJ cZ q_2.2)) a hx hb hr hlocks hK hS dn_M_link_88 hP hD trivial (Nat.le_refl _) (Nat.le_refl _)
  have bl_337 : ∀ (s : ms), bk_M_link_337 N s = some y → gl s1 ≤ gl s → dcG p l e ({ frames := 406, cells := 2 * (gl y.2 - gl s1), slots := 2 * (gl y.2 - gl s1), locals := 9741 }) s0 m [.ref h0, .int v1].toArray below meth c QQ (dC, dI) A (fun a => (wM h0 a cI cB cJ cZ s)) (2 * (gl s - gl s1)) 337 9 [(0, .ref h0)] [] := by
    intro s hf hge a H locs ls hP hD hS hl
    have hle := mo_M_link_337 N y s hf
    unfold bk_M_link_337 at hf
    refine lv_aload_n hx hb dn_M_link_337 rfl (lv_at hl 0 rfl) ?_
    refine lv_dup hx hb dn_M_link_338 rfl ?_
    refine va_get (D := (dC, dI)) (ci := 0) (v := .int ((s.1 8 0))) (C := rn_M) (T := fn_M) (N := 91) hx hb hg in_M hown hK hP 0 rfl rfl 8 (by decide) (hg _ wn_8_81) (fun _ h9 => h9) rfl dn_M_link_339 ?_
    refine lv_iconst (v := 1) hx hb dn_M_link_342 (by decide) ?_
    refine lv_iadd hx hb dn_M_link_343 ?_
    refine va_put (D := (dC, dI)) (ci := 0) (v := .int (((s.1 8 0) + 1))) (ty := .int) (C := rn_M) (T := fn_M) (N := 91) hx hb hg in_M tn_M tk_M nn_M hown hK hP hD hS 0 rfl rfl 8 (by decide) (hg _ wn_8_81) (fun _ h9 => h9) rfl (tk_M 8 (by decide)) rfl rfl (Nat.le_of_ble_eq_true rfl) dn_M_link_344 (fun H locs hP hD hS => ?_)
    have hP := wM_P_8 hP
    have hD := wM_D_8 hD
    rw [hQQ, ← Option.some.inj hf]
    exact xk_vret (w1 := fun u : Nat → Nat => (wM h0 u cI cB cJ cZ (upI s 8 (fun _ => ((s.1 8 0) + 1))))) a hx hb hr hlocks hK hS dn_M_link_347 hP hD trivial (Nat.le_refl _) (Nat.le_refl _)
  have bl_261 : ∀ (x3 : Int32) (x5 : Int32) (x7 : Int32) (x8 : Int32) (s : ms), bk_M_link_261 N x3 x5 x7 x8 s = some y → gl s1 ≤ gl s → dcG p l e ({ frames := 406, cells := 2 * (gl y.2 - gl s1), slots := 2 * (gl y.2 - gl s1), locals := 9741 }) s0 m [.ref h0, .int v1].toArray below meth c QQ (dC, dI) A (fun a => (wM h0 a cI cB cJ cZ s)) (2 * (gl s - gl s1)) 261 9 [(0, .ref h0), (3, .int x3), (5, .int x5), (7, .int x7), (8, .int x8)] [] := by
    intro x3 x5 x7 x8 s hf hge a H locs ls hP hD hS hl
    have hle := mo_M_link_261 N y x3 x5 x7 x8 s hf
    unfold bk_M_link_261 at hf
    refine lv_aload_n hx hb dn_M_link_261 rfl (lv_at hl 0 rfl) ?_
    refine va_get (D := (dC, dI)) (ci := 0) (v := .ref ((a 32))) (C := rn_M) (T := fn_M) (N := 91) hx hb hg in_M hown hK hP 0 rfl rfl 32 (by decide) (hg _ wn_8_105) (fun _ h9 => h9) rfl dn_M_link_262 ?_
    refine lv_aload_n hx hb dn_M_link_265 rfl (lv_at hl 0 rfl) ?_
    refine va_get (D := (dC, dI)) (ci := 0) (v := .int ((s.1 31 0))) (C := rn_M) (T := fn_M) (N := 91) hx hb hg in_M hown hK hP 0 rfl rfl 31 (by decide) (hg _ wn_8_104) (fun _ h9 => h9) rfl dn_M_link_266 ?_
    refine lv_iload_n hx hb dn_M_link_269 rfl (lv_at hl 1 rfl) ?_
    obtain ⟨hg_1, hf⟩ := dc_g hf
    refine va_iast hx hb hK hP hD hS 21 0 rfl rfl hg_1 dn_M_link_270 (fun H locs hP hD hS => ?_)
    have hP : va_P (dC, dI) xcl ((wM h0 a cI cB cJ cZ s).set 21 ((a 32), .inl (cI, 11000, .inl (upd (s.1 32) (Int32.toNatClampNeg ((s.1 31 0))) x3)))) H := hP
    have hD : va_D A ((wM h0 a cI cB cJ cZ s).set 21 ((a 32), .inl (cI, 11000, .inl (upd (s.1 32) (Int32.toNatClampNeg ((s.1 31 0))) x3)))) := hD
    have hP := wM_P_32 hP
    have hD := wM_D_32 hD
    refine lv_aload_n hx hb dn_M_link_271 rfl (lv_at hl 0 rfl) ?_
    refine va_get (D := (dC, dI)) (ci := 0) (v := .ref ((a 33))) (C := rn_M) (T := fn_M) (N := 91) hx hb hg in_M hown hK hP 0 rfl rfl 33 (by decide) (hg _ wn_8_106) (fun _ h9 => h9) rfl dn_M_link_272 ?_
    refine lv_aload_n hx hb dn_M_link_275 rfl (lv_at hl 0 rfl) ?_
    refine va_get (D := (dC, dI)) (ci := 0) (v := .int ((s.1 31 0))) (C := rn_M) (T := fn_M) (N := 91) hx hb hg in_M hown hK hP 0 rfl rfl 31 (by decide) (hg _ wn_8_104) (fun _ h9 => h9) rfl dn_M_link_276 ?_
    refine lv_iload hx hb dn_M_link_279 (lv_at hl 2 rfl) ?_
    obtain ⟨hg_2, hf⟩ := dc_g hf
    refine va_iast hx hb hK hP hD hS 22 0 rfl rfl hg_2 dn_M_link_281 (fun H locs hP hD hS => ?_)
    have hP : va_P (dC, dI) xcl ((wM h0 a cI cB cJ cZ (upI s 32 (upd (s.1 32) (Int32.toNatClampNeg ((s.1 31 0))) x3))).set 22 ((a 33), .inl (cI, 11000, .inl (upd (s.1 33) (Int32.toNatClampNeg ((s.1 31 0))) x5)))) H := hP
    have hD : va_D A ((wM h0 a cI cB cJ cZ (upI s 32 (upd (s.1 32) (Int32.toNatClampNeg ((s.1 31 0))) x3))).set 22 ((a 33), .inl (cI, 11000, .inl (upd (s.1 33) (Int32.toNatClampNeg ((s.1 31 0))) x5)))) := hD
    have hP := wM_P_33 hP
    have hD := wM_D_33 hD
    refine lv_aload_n hx hb dn_M_link_282 rfl (lv_at hl 0 rfl) ?_
    refine va_get (D := (dC, dI)) (ci := 0) (v := .ref ((a 34))) (C := rn_M) (T := fn_M) (N := 91) hx hb hg in_M hown hK hP 0 rfl rfl 34 (by decide) (hg _ wn_8_107) (fun _ h9 => h9) rfl dn_M_link_283 ?_
    refine lv_aload_n hx hb dn_M_link_286 rfl (lv_at hl 0 rfl) ?_
    refine va_get (D := (dC, dI)) (ci := 0) (v := .int ((s.1 31 0))) (C := rn_M) (T := fn_M) (N := 91) hx hb hg in_M hown hK hP 0 rfl rfl 31 (by decide) (hg _ wn_8_104) (fun _ h9 => h9) rfl dn_M_link_287 ?_
    refine lv_aload_n hx hb dn_M_link_290 rfl (lv_at hl 0 rfl) ?_
    refine va_get (D := (dC, dI)) (ci := 0) (v := .int ((s.1 42 0))) (C := rn_M) (T := fn_M) (N := 91) hx hb hg in_M hown hK hP 0 rfl rfl 42 (by decide) (hg _ wn_8_115) (fun _ h9 => h9) rfl dn_M_link_291 ?_
    obtain ⟨hg_3, hf⟩ := dc_g hf
    refine va_iast hx hb hK hP hD hS 23 0 rfl rfl hg_3 dn_M_link_294 (fun H locs hP hD hS => ?_)
    have hP : va_P (dC, dI) xcl ((wM h0 a cI cB cJ cZ (upI (upI s 32 (upd (s.1 32) (Int32.toNatClampNeg ((s.1 31 0))) x3)) 33 (upd (s.1 33) (Int32.toNatClampNeg ((s.1 31 0))) x5))).set 23 ((a 34), .inl (cI, 11000, .inl (upd (s.1 34) (Int32.toNatClampNeg ((s.1 31 0))) ((s.1 42 0)))))) H := hP
    have hD : va_D A ((wM h0 a cI cB cJ cZ (upI (upI s 32 (upd (s.1 32) (Int32.toNatClampNeg ((s.1 31 0))) x3)) 33 (upd (s.1 33) (Int32.toNatClampNeg ((s.1 31 0))) x5))).set 23 ((a 34), .inl (cI, 11000, .inl (upd (s.1 34) (Int32.toNatClampNeg ((s.1 31 0))) ((s.1 42 0)))))) := hD
    have hP := wM_P_34 hP
    have hD := wM_D_34 hD
    refine lv_aload_n hx hb dn_M_link_295 rfl (lv_at hl 0 rfl) ?_
    refine lv_dup hx hb dn_M_link_296 rfl ?_
    refine va_get (D := (dC, dI)) (ci := 0) (v := .int ((s.1 31 0))) (C := rn_M) (T := fn_M) (N := 91) hx hb hg in_M hown hK hP 0 rfl rfl 31 (by decide) (hg _ wn_8_104) (fun _ h9 => h9) rfl dn_M_link_297 ?_
    refine lv_iconst (v := 1) hx hb dn_M_link_300 (by decide) ?_
    refine lv_iadd hx hb dn_M_link_301 ?_
    refine va_put (D := (dC, dI)) (ci := 0) (v := .int (((s.1 31 0) + 1))) (ty := .int) (C := rn_M) (T := fn_M) (N := 91) hx hb hg in_M tn_M tk_M nn_M hown hK hP hD hS 0 rfl rfl 31 (by decide) (hg _ wn_8_104) (fun _ h9 => h9) rfl (tk_M 31 (by decide)) rfl rfl (Nat.le_of_ble_eq_true rfl) dn_M_link_302 (fun H locs hP hD hS => ?_)
    have hP := wM_P_31 hP
    have hD := wM_D_31 hD
    refine lv_iload hx hb dn_M_link_305 (lv_at hl 3 rfl) ?_
    refine lv_if_eq (tgt := 337) hx hb dn_M_link_307 (by decide) (fun h => ?_) (fun h => ?_)
    · have hf := (if_pos h).symm.trans hf
      exact bl_337 (upI (upI (upI (upI s 32 (upd (s.1 32) (Int32.toNatClampNeg ((s.1 31 0))) x3)) 33 (upd (s.1 33) (Int32.toNatClampNeg ((s.1 31 0))) x5)) 34 (upd (s.1 34) (Int32.toNatClampNeg ((s.1 31 0))) ((s.1 42 0)))) 31 (fun _ => ((s.1 31 0) + 1))) hf hge a H locs ls hP hD hS (lv_sub hl [0] rfl)
    · have hf := (if_neg h).symm.trans hf
      refine lv_aload_n hx hb dn_M_link_310 rfl (lv_at hl 0 rfl) ?_
      refine va_get (D := (dC, dI)) (ci := 0) (v := .ref ((a 23))) (C := rn_M) (T := fn_M) (N := 91) hx hb hg in_M hown hK hP 0 rfl rfl 23 (by decide) (hg _ wn_8_96) (fun _ h9 => h9) rfl dn_M_link_311 ?_
      refine lv_iload hx hb dn_M_link_314 (lv_at hl 4 rfl) ?_
      refine lv_iconst (v := 2) hx hb dn_M_link_316 (by decide) ?_
      obtain ⟨hg_4, hf⟩ := dc_g hf
      refine va_iast hx hb hK hP hD hS 14 0 rfl rfl hg_4 dn_M_link_317 (fun H locs hP hD hS => ?_)
      have hP : va_P (dC, dI) xcl ((wM h0 a cI cB cJ cZ (upI (upI (upI (upI s 32 (upd (s.1 32) (Int32.toNatClampNeg ((s.1 31 0))) x3)) 33 (upd (s.1 33) (Int32.toNatClampNeg ((s.1 31 0))) x5)) 34 (upd (s.1 34) (Int32.toNatClampNeg ((s.1 31 0))) ((s.1 42 0)))) 31 (fun _ => ((s.1 31 0) + 1)))).set 14 ((a 23), .inl (cI, 11000, .inl (upd (s.1 23) (Int32.toNatClampNeg x8) 2)))) H := hP
      have hD : va_D A ((wM h0 a cI cB cJ cZ (upI (upI (upI (upI s 32 (upd (s.1 32) (Int32.toNatClampNeg ((s.1 31 0))) x3)) 33 (upd (s.1 33) (Int32.toNatClampNeg ((s.1 31 0))) x5)) 34 (upd (s.1 34) (Int32.toNatClampNeg ((s.1 31 0))) ((s.1 42 0)))) 31 (fun _ => ((s.1 31 0) + 1)))).set 14 ((a 23), .inl (cI, 11000, .inl (upd (s.1 23) (Int32.toNatClampNeg x8) 2)))) := hD
      have hP := wM_P_23 hP
      have hD := wM_D_23 hD
      refine lv_aload_n hx hb dn_M_link_318 rfl (lv_at hl 0 rfl) ?_
      refine va_get (D := (dC, dI)) (ci := 0) (v := .ref ((a 24))) (C := rn_M) (T := fn_M) (N := 91) hx hb hg in_M hown hK hP 0 rfl rfl 24 (by decide) (hg _ wn_8_97) (fun _ h9 => h9) rfl dn_M_link_319 ?_
      refine lv_iload hx hb dn_M_link_322 (lv_at hl 4 rfl) ?_
      refine lv_aload_n hx hb dn_M_link_324 rfl (lv_at hl 0 rfl) ?_
      refine va_get (D := (dC, dI)) (ci := 0) (v := .int ((s.1 27 0))) (C := rn_M) (T := fn_M) (N := 91) hx hb hg in_M hown hK hP 0 rfl rfl 27 (by decide) (hg _ wn_8_100) (fun _ h9 => h9) rfl dn_M_link_325 ?_
      obtain ⟨hg_5, hf⟩ := dc_g hf
      refine va_iast hx hb hK hP hD hS 15 0 rfl rfl hg_5 dn_M_link_328 (fun H locs hP hD hS => ?_)
      have hP : va_P (dC, dI) xcl ((wM h0 a cI cB cJ cZ (upI (upI (upI (upI (upI s 32 (upd (s.1 32) (Int32.toNatClampNeg ((s.1 31 0))) x3)) 33 (upd (s.1 33) (Int32.toNatClampNeg ((s.1 31 0))) x5)) 34 (upd (s.1 34) (Int32.toNatClampNeg ((s.1 31 0))) ((s.1 42 0)))) 31 (fun _ => ((s.1 31 0) + 1))) 23 (upd (s.1 23) (Int32.toNatClampNeg x8) 2))).set 15 ((a 24), .inl (cI, 11000, .inl (upd (s.1 24) (Int32.toNatClampNeg x8) ((s.1 27 0)))))) H := hP
      have hD : va_D A ((wM h0 a cI cB cJ cZ (upI (upI (upI (upI (upI s 32 (upd (s.1 32) (Int32.toNatClampNeg ((s.1 31 0))) x3)) 33 (upd (s.1 33) (Int32.toNatClampNeg ((s.1 31 0))) x5)) 34 (upd (s.1 34) (Int32.toNatClampNeg ((s.1 31 0))) ((s.1 42 0)))) 31 (fun _ => ((s.1 31 0) + 1))) 23 (upd (s.1 23) (Int32.toNatClampNeg x8) 2))).set 15 ((a 24), .inl (cI, 11000, .inl (upd (s.1 24) (Int32.toNatClampNeg x8) ((s.1 27 0)))))) := hD
      have hP := wM_P_24 hP
      have hD := wM_D_24 hD
      refine lv_aload_n hx hb dn_M_link_329 rfl (lv_at hl 0 rfl) ?_
      refine va_get (D := (dC, dI)) (ci := 0) (v := .ref ((a 25))) (C := rn_M) (T := fn_M) (N := 91) hx hb hg in_M hown hK hP 0 rfl rfl 25 (by decide) (hg _ wn_8_98) (fun _ h9 => h9) rfl dn_M_link_330 ?_
      refine lv_iload hx hb dn_M_link_333 (lv_at hl 4 rfl) ?_
      refine lv_iload_n hx hb dn_M_link_335 rfl (lv_at hl 1 rfl) ?_
      obtain ⟨hg_6, hf⟩ := dc_g hf
      refine va_iast hx hb hK hP hD hS 16 0 rfl rfl hg_6 dn_M_link_336 (fun H locs hP hD hS => ?_)
      have hP : va_P (dC, dI) xcl ((wM h0 a cI cB cJ cZ (upI (upI (upI (upI (upI (upI s 32 (upd (s.1 32) (Int32.toNatClampNeg ((s.1 31 0))) x3)) 33 (upd (s.1 33) (Int32.toNatClampNeg ((s.1 31 0))) x5)) 34 (upd (s.1 34) (Int32.toNatClampNeg ((s.1 31 0))) ((s.1 42 0)))) 31 (fun _ => ((s.1 31 0) + 1))) 23 (upd (s.1 23) (Int32.toNatClampNeg x8) 2)) 24 (upd (s.1 24) (Int32.toNatClampNeg x8) ((s.1 27 0))))).set 16 ((a 25), .inl (cI, 11000, .inl (upd (s.1 25) (Int32.toNatClampNeg x8) x3)))) H := hP
      have hD : va_D A ((wM h0 a cI cB cJ cZ (upI (upI (upI (upI (upI (upI s 32 (upd (s.1 32) (Int32.toNatClampNeg ((s.1 31 0))) x3)) 33 (upd (s.1 33) (Int32.toNatClampNeg ((s.1 31 0))) x5)) 34 (upd (s.1 34) (Int32.toNatClampNeg ((s.1 31 0))) ((s.1 42 0)))) 31 (fun _ => ((s.1 31 0) + 1))) 23 (upd (s.1 23) (Int32.toNatClampNeg x8) 2)) 24 (upd (s.1 24) (Int32.toNatClampNeg x8) ((s.1 27 0))))).set 16 ((a 25), .inl (cI, 11000, .inl (upd (s.1 25) (Int32.toNatClampNeg x8) x3)))) := hD
      have hP := wM_P_25 hP
      have hD := wM_D_25 hD
      exact bl_337 (upI (upI (upI (upI (upI (upI (upI s 32 (upd (s.1 32) (Int32.toNatClampNeg ((s.1 31 0))) x3)) 33 (upd (s.1 33) (Int32.toNatClampNeg ((s.1 31 0))) x5)) 34 (upd (s.1 34) (Int32.toNatClampNeg ((s.1 31 0))) ((s.1 42 0)))) 31 (fun _ => ((s.1 31 0) + 1))) 23 (upd (s.1 23) (Int32.toNatClampNeg x8) 2)) 24 (upd (s.1 24) (Int32.toNatClampNeg x8) ((s.1 27 0)))) 25 (upd (s.1 25) (Int32.toNatClampNeg x8) x3)) hf hge a H locs ls hP hD hS (lv_sub hl [0] rfl)
  have bl_233 : ∀ (x3 : Int32) (x4 : Int32) (x5 : Int32) (x7 : Int32) (x8 : Int32) (s : ms), bk_M_link_233 N x3 x4 x5 x7 x8 s = some y → gl s1 ≤ gl s → dcG p l e ({ frames := 406, cells := 2 * (gl y.2 - gl s1), slots := 2 * (gl y.2 - gl s1), locals := 9741 }) s0 m [.ref h0, .int v1].toArray below meth c QQ (dC, dI) A (fun a => (wM h0 a cI cB cJ cZ s)) (2 * (gl s - gl s1)) 233 9 [(0, .ref h0), (3, .int x3), (4, .int x4), (5, .int x5), (7, .int x7), (8, .int x8)] [] := by
    intro x3 x4 x5 x7 x8 s hf hge a H locs ls hP hD hS hl
    have hle := mo_M_link_233 N y x3 x4 x5 x7 x8 s hf
    unfold bk_M_link_233 at hf
    refine lv_iload hx hb dn_M_link_233 (lv_at hl 4 rfl) ?_
    refine lv_if_eq (tgt := 261) hx hb dn_M_link_235 (by decide) (fun h => ?_) (fun h => ?_)
    · have hf := (if_pos h).symm.trans hf
      exact bl_261 x3 x5 x7 x8 s hf hge a H locs ls hP hD hS (lv_sub hl [0, 1, 3, 4, 5] rfl)
    · have hf := (if_neg h).symm.trans hf
      refine lv_aload_n hx hb dn_M_link_238 rfl (lv_at hl 0 rfl) ?_
      refine va_get (D := (dC, dI)) (ci := 0) (v := .ref ((a 23))) (C := rn_M) (T := fn_M) (N := 91) hx hb hg in_M hown hK hP 0 rfl rfl 23 (by decide) (hg _ wn_8_96) (fun _ h9 => h9) rfl dn_M_link_239 ?_
      refine lv_iload hx hb dn_M_link_242 (lv_at hl 5 rfl) ?_
      obtain ⟨hg_1, hf⟩ := dc_g hf
      refine va_iald hx hb hK hP 14 0 rfl rfl hg_1 dn_M_link_244 ?_
      refine xk_ti (y := ((s.1 23) (Int32.toNatClampNeg x8))) rfl ?_
      refine lv_if_eq (tgt := 261) hx hb dn_M_link_245 (by decide) (fun h => ?_) (fun h => ?_)
      · have hf := (if_pos h).symm.trans hf
        exact bl_261 x3 x5 x7 x8 s hf hge a H locs ls hP hD hS (lv_sub hl [0, 1, 3, 4, 5] rfl)
      · have hf := (if_neg h).symm.trans hf
        refine lv_aload_n hx hb dn_M_link_248 rfl (lv_at hl 0 rfl) ?_
        refine lv_bipush (v := 31) hx hb dn_M_link_249 (by decide) ?_
        refine lv_aload_n hx hb dn_M_link_251 rfl (lv_at hl 0 rfl) ?_
        refine va_get (D := (dC, dI)) (ci := 0) (v := .ref ((a 5))) (C := rn_M) (T := fn_M) (N := 91) hx hb hg in_M hown hK hP 0 rfl rfl 5 (by decide) (hg _ wn_8_78) (fun _ h9 => h9) rfl dn_M_link_252 ?_
        refine lv_iload hx hb dn_M_link_255 (lv_at hl 2 rfl) ?_
        obtain ⟨hg_2, hf⟩ := dc_g hf
        refine va_iald hx hb hK hP 3 0 rfl rfl hg_2 dn_M_link_257 ?_
        refine xk_ti (y := ((s.1 5) (Int32.toNatClampNeg x4))) rfl ?_
        obtain ⟨q_3, hc_4, hf⟩ := dc_b hf
        have hme := mn_M_fail N 31 (((s.1 5) (Int32.toNatClampNeg x4))) s q_3 hc_4
        refine dc_callv (dc_runV (ar := 2) (As := [.int 31, .int (((s.1 5) (Int32.toNatClampNeg x4)))]) (rest := []) (ci := 0) (q0 := 0) ⟨hx, hb, hml, hown, hg⟩ hK hN hT hS hA (ct_M_fail l dC dI cI cB cJ cZ cQ N H.size h0 a 31 (((s.1 5) (Int32.toNatClampNeg x4))) s q_3 hc_4) hP hD rfl rfl wn_9_186 wn_9_188 sn_M_fail wn_1_13 wn_9_189 rfl rfl (by decide +kernel) ⟨Nat.le_of_ble_eq_true rfl, Nat.le_of_ble_eq_true rfl⟩ rfl hl.1 rfl (Nat.le_of_ble_eq_true rfl) dn_M_link_258 (dc_rm0 hle)) hP hD hS hA (fun _ H locs hw hP hD hS => ?_)
        refine W.widen (k := 2 * (gl q_3.2 - gl s1)) (n := 2 * (gl q_3.2 - gl s1)) (dc_we hme) (dc_we hme) ?_
        have hge := Nat.le_trans hge (Nat.le_of_eq hme.symm)
        have hle := Nat.le_trans (Nat.le_of_eq hme) hle
        exact bl_261 x3 x5 x7 x8 q_3.2 hf hge a H locs ls hP hD hS (lv_sub hl [0, 1, 3, 4, 5] rfl)
  have bl_215 : ∀ (x2 : Int32) (x3 : Int32) (x4 : Int32) (x5 : Int32) (x6 : Int32) (x7 : Int32) (x8 : Int32) (s : ms), bk_M_link_215 N x2 x3 x4 x5 x6 x7 x8 s = some y → gl s1 ≤ gl s → dcG p l e ({ frames := 406, cells := 2 * (gl y.2 - gl s1), slots := 2 * (gl y.2 - gl s1), locals := 9741 }) s0 m [.ref h0, .int v1].toArray below meth c QQ (dC, dI) A (fun a => (wM h0 a cI cB cJ cZ s)) (2 * (gl s - gl s1)) 215 9 [(0, .ref h0), (2, .int x2), (3, .int x3), (4, .int x4), (5, .int x5), (6, .int x6), (7, .int x7), (8, .int x8)] [] := by
    intro x2 x3 x4 x5 x6 x7 x8 s hf hge a H locs ls hP hD hS hl
    have hle := mo_M_link_215 N y x2 x3 x4 x5 x6 x7 x8 s hf
    unfold bk_M_link_215 at hf
    refine lv_iload hx hb dn_M_link_215 (lv_at hl 5 rfl) ?_
    refine lv_aload_n hx hb dn_M_link_217 rfl (lv_at hl 0 rfl) ?_
    refine va_get (D := (dC, dI)) (ci := 0) (v := .ref ((a 20))) (C := rn_M) (T := fn_M) (N := 91) hx hb hg in_M hown hK hP 0 rfl rfl 20 (by decide) (hg _ wn_8_93) (fun _ h9 => h9) rfl dn_M_link_218 ?_
    refine lv_iload_n hx hb dn_M_link_221 rfl (lv_at hl 2 rfl) ?_
    obtain ⟨hg_1, hf⟩ := dc_g hf
    refine va_iald hx hb hK hP 11 0 rfl rfl hg_1 dn_M_link_222 ?_
    refine xk_ti (y := ((s.1 20) (Int32.toNatClampNeg x3))) rfl ?_
    refine lv_icmp_eq (tgt := 233) hx hb dn_M_link_223 (by decide) (fun h => ?_) (fun h => ?_)
    · have hf := (if_pos h).symm.trans hf
      exact bl_233 x3 x4 x5 x7 x8 s hf hge a H locs ls hP hD hS (lv_sub hl [0, 2, 3, 4, 6, 7] rfl)
    · have hf := (if_neg h).symm.trans hf
      refine lv_aload_n hx hb dn_M_link_226 rfl (lv_at hl 0 rfl) ?_
      refine lv_bipush (v := 30) hx hb dn_M_link_227 (by decide) ?_
      refine lv_iload_n hx hb dn_M_link_229 rfl (lv_at hl 1 rfl) ?_
      obtain ⟨q_2, hc_3, hf⟩ := dc_b hf
      have hme := mn_M_fail N 30 x2 s q_2 hc_3
      refine dc_callv (dc_runV (ar := 2) (As := [.int 30, .int x2]) (rest := []) (ci := 0) (q0 := 0) ⟨hx, hb, hml, hown, hg⟩ hK hN hT hS hA (ct_M_fail l dC dI cI cB cJ cZ cQ N H.size h0 a 30 x2 s q_2 hc_3) hP hD rfl rfl wn_9_186 wn_9_188 sn_M_fail wn_1_13 wn_9_189 rfl rfl (by decide +kernel) ⟨Nat.le_of_ble_eq_true rfl, Nat.le_of_ble_eq_true rfl⟩ rfl hl.1 rfl (Nat.le_of_ble_eq_true rfl) dn_M_link_230 (dc_rm0 hle)) hP hD hS hA (fun _ H locs hw hP hD hS => ?_)
      refine W.widen (k := 2 * (gl q_2.2 - gl s1)) (n := 2 * (gl q_2.2 - gl s1)) (dc_we hme) (dc_we hme) ?_
      have hge := Nat.le_trans hge (Nat.le_of_eq hme.symm)
      have hle := Nat.le_trans (Nat.le_of_eq hme) hle
      exact bl_233 x3 x4 x5 x7 x8 q_2.2 hf hge a H locs ls hP hD hS (lv_sub hl [0, 2, 3, 4, 6, 7] rfl)
  have bl_201 : ∀ (x4 : Int32) (s : ms), bk_M_link_201 N x4 s = some y → gl s1 ≤ gl s → dcG p l e ({ frames := 406, cells := 2 * (gl y.2 - gl s1), slots := 2 * (gl y.2 - gl s1), locals := 9741 }) s0 m [.ref h0, .int v1].toArray below meth c QQ (dC, dI) A (fun a => (wM h0 a cI cB cJ cZ s)) (2 * (gl s - gl s1)) 201 9 [(0, .ref h0), (4, .int x4)] [] := by
    intro x4 s hf hge a H locs ls hP hD hS hl
    have hle := mo_M_link_201 N y x4 s hf
    unfold bk_M_link_201 at hf
    refine lv_aload_n hx hb dn_M_link_201 rfl (lv_at hl 0 rfl) ?_
    refine lv_bipush (v := 25) hx hb dn_M_link_202 (by decide) ?_
    refine lv_aload_n hx hb dn_M_link_204 rfl (lv_at hl 0 rfl) ?_
    refine va_get (D := (dC, dI)) (ci := 0) (v := .ref ((a 5))) (C := rn_M) (T := fn_M) (N := 91) hx hb hg in_M hown hK hP 0 rfl rfl 5 (by decide) (hg _ wn_8_78) (fun _ h9 => h9) rfl dn_M_link_205 ?_
    refine lv_iload hx hb dn_M_link_208 (lv_at hl 1 rfl) ?_
    obtain ⟨hg_1, hf⟩ := dc_g hf
    refine va_iald hx hb hK hP 3 0 rfl rfl hg_1 dn_M_link_210 ?_
    refine xk_ti (y := ((s.1 5) (Int32.toNatClampNeg x4))) rfl ?_
    obtain ⟨q_2, hc_3, hf⟩ := dc_b hf
    have hme := mn_M_fail N 25 (((s.1 5) (Int32.toNatClampNeg x4))) s q_2 hc_3
    refine dc_callv (dc_runV (ar := 2) (As := [.int 25, .int (((s.1 5) (Int32.toNatClampNeg x4)))]) (rest := []) (ci := 0) (q0 := 0) ⟨hx, hb, hml, hown, hg⟩ hK hN hT hS hA (ct_M_fail l dC dI cI cB cJ cZ cQ N H.size h0 a 25 (((s.1 5) (Int32.toNatClampNeg x4))) s q_2 hc_3) hP hD rfl rfl wn_9_186 wn_9_188 sn_M_fail wn_1_13 wn_9_189 rfl rfl (by decide +kernel) ⟨Nat.le_of_ble_eq_true rfl, Nat.le_of_ble_eq_true rfl⟩ rfl hl.1 rfl (Nat.le_of_ble_eq_true rfl) dn_M_link_211 (dc_rm0 hle)) hP hD hS hA (fun _ H locs hw hP hD hS => ?_)
    refine W.widen (k := 2 * (gl q_2.2 - gl s1)) (n := 2 * (gl q_2.2 - gl s1)) (dc_we hme) (dc_we hme) ?_
    have hge := Nat.le_trans hge (Nat.le_of_eq hme.symm)
    have hle := Nat.le_trans (Nat.le_of_eq hme) hle
    rw [hQQ, ← Option.some.inj hf]
    exact xk_vret (w1 := fun u : Nat → Nat => (wM h0 u cI cB cJ cZ q_2.2)) a hx hb hr hlocks hK hS dn_M_link_214 hP hD trivial (Nat.le_refl _) (Nat.le_refl _)
  have bl_180 : ∀ (x2 : Int32) (x3 : Int32) (x4 : Int32) (x5 : Int32) (x6 : Int32) (x7 : Int32) (t0 : Int32) (s : ms), bk_M_link_180 N x2 x3 x4 x5 x6 x7 t0 s = some y → gl s1 ≤ gl s → dcG p l e ({ frames := 406, cells := 2 * (gl y.2 - gl s1), slots := 2 * (gl y.2 - gl s1), locals := 9741 }) s0 m [.ref h0, .int v1].toArray below meth c QQ (dC, dI) A (fun a => (wM h0 a cI cB cJ cZ s)) (2 * (gl s - gl s1)) 180 9 [(0, .ref h0), (2, .int x2), (3, .int x3), (4, .int x4), (5, .int x5), (6, .int x6), (7, .int x7)] [.int t0] := by
    intro x2 x3 x4 x5 x6 x7 t0 s hf hge a H locs ls hP hD hS hl
    have hle := mo_M_link_180 N y x2 x3 x4 x5 x6 x7 t0 s hf
    unfold bk_M_link_180 at hf
    refine lv_istore (lv' := [(8, .int t0), (0, .ref h0), (2, .int x2), (3, .int x3), (4, .int x4), (5, .int x5), (6, .int x6), (7, .int x7)]) hx hb dn_M_link_180 hl (by decide) rfl (fun ls hl => ?_)
    refine lv_iload hx hb dn_M_link_182 (lv_at hl 7 rfl) ?_
    refine lv_if_eq (tgt := 215) hx hb dn_M_link_184 (by decide) (fun h => ?_) (fun h => ?_)
    · have hf := (if_pos h).symm.trans hf
      exact bl_215 x2 x3 x4 x5 x6 x7 t0 s hf hge a H locs ls hP hD hS (lv_sub hl [1, 2, 3, 4, 5, 6, 7, 0] rfl)
    · have hf := (if_neg h).symm.trans hf
      refine lv_iload hx hb dn_M_link_187 (lv_at hl 0 rfl) ?_
      refine lv_if_lt (tgt := 201) hx hb dn_M_link_189 (by decide) (fun h => ?_) (fun h => ?_)
      · have hf := (if_pos h).symm.trans hf
        exact bl_201 x4 s hf hge a H locs ls hP hD hS (lv_sub hl [1, 4] rfl)
      · have hf := (if_neg h).symm.trans hf
        refine lv_aload_n hx hb dn_M_link_192 rfl (lv_at hl 1 rfl) ?_
        refine lv_iload hx hb dn_M_link_193 (lv_at hl 0 rfl) ?_
        obtain ⟨q_1, hc_2, hf⟩ := dc_b hf
        have hme := mn_M_isDriven N t0 s q_1 hc_2
        refine dc_calli (dc_runV (ar := 1) (As := [.int t0]) (rest := []) (ci := 0) (q0 := 0) ⟨hx, hb, hml, hown, hg⟩ hK hN hT hS hA (ct_M_isDriven l dC dI cI cB cJ cZ cQ N H.size h0 a t0 s q_1 hc_2) hP hD rfl rfl wn_10_73 wn_10_75 sn_M_isDriven wn_1_13 wn_10_76 rfl rfl (by decide +kernel) ⟨Nat.le_of_ble_eq_true rfl, Nat.le_of_ble_eq_true rfl⟩ rfl hl.1 rfl (Nat.le_of_ble_eq_true rfl) dn_M_link_195 (dc_rm0 hle)) hP hD hS hA (fun r_3 _ H locs hw hP hD hS => ?_)
        refine W.widen (k := 2 * (gl q_1.2 - gl s1)) (n := 2 * (gl q_1.2 - gl s1)) (dc_we hme) (dc_we hme) ?_
        have hge := Nat.le_trans hge (Nat.le_of_eq hme.symm)
        have hle := Nat.le_trans (Nat.le_of_eq hme) hle
        have hw : r_3 = q_1.1 := hw
        subst hw
        refine lv_if_ne (tgt := 215) hx hb dn_M_link_198 (by decide) (fun h => ?_) (fun h => ?_)
        · have hf := (if_neg h).symm.trans hf
          exact bl_215 x2 x3 x4 x5 x6 x7 t0 q_1.2 hf hge a H locs ls hP hD hS (lv_sub hl [1, 2, 3, 4, 5, 6, 7, 0] rfl)
        · have hf := (if_pos h).symm.trans hf
          exact bl_201 x4 q_1.2 hf hge a H locs ls hP hD hS (lv_sub hl [1, 4] rfl)
  have bl_179 : ∀ (x2 : Int32) (x3 : Int32) (x4 : Int32) (x5 : Int32) (x6 : Int32) (x7 : Int32) (s : ms), bk_M_link_179 N x2 x3 x4 x5 x6 x7 s = some y → gl s1 ≤ gl s → dcG p l e ({ frames := 406, cells := 2 * (gl y.2 - gl s1), slots := 2 * (gl y.2 - gl s1), locals := 9741 }) s0 m [.ref h0, .int v1].toArray below meth c QQ (dC, dI) A (fun a => (wM h0 a cI cB cJ cZ s)) (2 * (gl s - gl s1)) 179 9 [(0, .ref h0), (2, .int x2), (3, .int x3), (4, .int x4), (5, .int x5), (6, .int x6), (7, .int x7)] [] := by
    intro x2 x3 x4 x5 x6 x7 s hf hge a H locs ls hP hD hS hl
    have hle := mo_M_link_179 N y x2 x3 x4 x5 x6 x7 s hf
    unfold bk_M_link_179 at hf
    refine lv_iconst (v := (-1)) hx hb dn_M_link_179 (by decide) ?_
    exact bl_180 x2 x3 x4 x5 x6 x7 ((-1)) s hf hge a H locs ls hP hD hS hl
  have bl_139 : ∀ (x2 : Int32) (x3 : Int32) (x4 : Int32) (x5 : Int32) (x6 : Int32) (t0 : Int32) (s : ms), bk_M_link_139 N x2 x3 x4 x5 x6 t0 s = some y → gl s1 ≤ gl s → dcG p l e ({ frames := 406, cells := 2 * (gl y.2 - gl s1), slots := 2 * (gl y.2 - gl s1), locals := 9741 }) s0 m [.ref h0, .int v1].toArray below meth c QQ (dC, dI) A (fun a => (wM h0 a cI cB cJ cZ s)) (2 * (gl s - gl s1)) 139 9 [(0, .ref h0), (2, .int x2), (3, .int x3), (4, .int x4), (5, .int x5), (6, .int x6)] [.int t0] := by
    intro x2 x3 x4 x5 x6 t0 s hf hge a H locs ls hP hD hS hl
    have hle := mo_M_link_139 N y x2 x3 x4 x5 x6 t0 s hf
    unfold bk_M_link_139 at hf
    refine lv_istore (lv' := [(7, .int t0), (0, .ref h0), (2, .int x2), (3, .int x3), (4, .int x4), (5, .int x5), (6, .int x6)]) hx hb dn_M_link_139 hl (by decide) rfl (fun ls hl => ?_)
    refine lv_iload hx hb dn_M_link_141 (lv_at hl 0 rfl) ?_
    refine lv_if_eq (tgt := 179) hx hb dn_M_link_143 (by decide) (fun h => ?_) (fun h => ?_)
    · have hf := (if_pos h).symm.trans hf
      exact bl_179 x2 x3 x4 x5 x6 t0 s hf hge a H locs ls hP hD hS (lv_sub hl [1, 2, 3, 4, 5, 6, 0] rfl)
    · have hf := (if_neg h).symm.trans hf
      refine lv_aload_n hx hb dn_M_link_146 rfl (lv_at hl 1 rfl) ?_
      refine va_get (D := (dC, dI)) (ci := 0) (v := .ref ((a 4))) (C := rn_M) (T := fn_M) (N := 91) hx hb hg in_M hown hK hP 0 rfl rfl 4 (by decide) (hg _ wn_8_77) (fun _ h9 => h9) rfl dn_M_link_147 ?_
      refine lv_iload hx hb dn_M_link_150 (lv_at hl 4 rfl) ?_
      obtain ⟨hg_1, hf⟩ := dc_g hf
      refine va_iald hx hb hK hP 2 0 rfl rfl hg_1 dn_M_link_152 ?_
      refine xk_ti (y := ((s.1 4) (Int32.toNatClampNeg x4))) rfl ?_
      refine lv_sipush (v := 400) hx hb dn_M_link_153 (by decide) ?_
      refine lv_icmp_ne (tgt := 179) hx hb dn_M_link_156 (by decide) (fun h => ?_) (fun h => ?_)
      · have hf := (if_neg h).symm.trans hf
        exact bl_179 x2 x3 x4 x5 x6 t0 s hf hge a H locs ls hP hD hS (lv_sub hl [1, 2, 3, 4, 5, 6, 0] rfl)
      · have hf := (if_pos h).symm.trans hf
        refine lv_aload_n hx hb dn_M_link_159 rfl (lv_at hl 1 rfl) ?_
        refine va_get (D := (dC, dI)) (ci := 0) (v := .int ((s.1 8 0))) (C := rn_M) (T := fn_M) (N := 91) hx hb hg in_M hown hK hP 0 rfl rfl 8 (by decide) (hg _ wn_8_81) (fun _ h9 => h9) rfl dn_M_link_160 ?_
        refine lv_iload hx hb dn_M_link_163 (lv_at hl 4 rfl) ?_
        refine lv_iconst (v := 1) hx hb dn_M_link_165 (by decide) ?_
        refine lv_iadd hx hb dn_M_link_166 ?_
        refine lv_icmp_ne (tgt := 179) hx hb dn_M_link_167 (by decide) (fun h => ?_) (fun h => ?_)
        · have hf := (if_neg h).symm.trans hf
          exact bl_179 x2 x3 x4 x5 x6 t0 s hf hge a H locs ls hP hD hS (lv_sub hl [1, 2, 3, 4, 5, 6, 0] rfl)
        · have hf := (if_pos h).symm.trans hf
          refine lv_aload_n hx hb dn_M_link_170 rfl (lv_at hl 1 rfl) ?_
          refine lv_iload hx hb dn_M_link_171 (lv_at hl 4 rfl) ?_
          obtain ⟨q_2, hc_3, hf⟩ := dc_b hf
          have hme := mn_M_here N x4 s q_2 hc_3
          refine dc_calli (dc_runV (ar := 1) (As := [.int x4]) (rest := []) (ci := 0) (q0 := 0) ⟨hx, hb, hml, hown, hg⟩ hK hN hT hS hA (ct_M_here l dC dI cI cB cJ cZ cQ N H.size h0 a x4 s q_2 hc_3) hP hD rfl rfl wn_10_49 wn_10_51 sn_M_here wn_1_13 wn_10_52 rfl rfl (by decide +kernel) ⟨Nat.le_of_ble_eq_true rfl, Nat.le_of_ble_eq_true rfl⟩ rfl hl.1 rfl (Nat.le_of_ble_eq_true rfl) dn_M_link_173 (dc_rm0 hle)) hP hD hS hA (fun r_4 _ H locs hw hP hD hS => ?_)
          refine W.widen (k := 2 * (gl q_2.2 - gl s1)) (n := 2 * (gl q_2.2 - gl s1)) (dc_we hme) (dc_we hme) ?_
          have hge := Nat.le_trans hge (Nat.le_of_eq hme.symm)
          have hle := Nat.le_trans (Nat.le_of_eq hme) hle
          have hw : r_4 = q_2.1 := hw
          subst hw
          refine lv_goto (tgt := 180) hx hb dn_M_link_176 (by decide) ?_
          exact bl_180 x2 x3 x4 x5 x6 t0 q_2.1 q_2.2 hf hge a H locs ls hP hD hS (lv_sub hl [1, 2, 3, 4, 5, 6, 0] rfl)
  have bl_115 : ∀ (x2 : Int32) (x3 : Int32) (x4 : Int32) (x5 : Int32) (t0 : Int32) (s : ms), bk_M_link_115 N x2 x3 x4 x5 t0 s = some y → gl s1 ≤ gl s → dcG p l e ({ frames := 406, cells := 2 * (gl y.2 - gl s1), slots := 2 * (gl y.2 - gl s1), locals := 9741 }) s0 m [.ref h0, .int v1].toArray below meth c QQ (dC, dI) A (fun a => (wM h0 a cI cB cJ cZ s)) (2 * (gl s - gl s1)) 115 9 [(0, .ref h0), (2, .int x2), (3, .int x3), (4, .int x4), (5, .int x5)] [.int t0] := by
    intro x2 x3 x4 x5 t0 s hf hge a H locs ls hP hD hS hl
    have hle := mo_M_link_115 N y x2 x3 x4 x5 t0 s hf
    unfold bk_M_link_115 at hf
    refine lv_istore (lv' := [(6, .int t0), (0, .ref h0), (2, .int x2), (3, .int x3), (4, .int x4), (5, .int x5)]) hx hb dn_M_link_115 hl (by decide) rfl (fun ls hl => ?_)
    refine lv_aload_n hx hb dn_M_link_117 rfl (lv_at hl 1 rfl) ?_
    refine va_get (D := (dC, dI)) (ci := 0) (v := .int ((s.1 9 0))) (C := rn_M) (T := fn_M) (N := 91) hx hb hg in_M hown hK hP 0 rfl rfl 9 (by decide) (hg _ wn_8_82) (fun _ h9 => h9) rfl dn_M_link_118 ?_
    refine lv_if_eq (tgt := 125) hx hb dn_M_link_121 (by decide) (fun h => ?_) (fun h => ?_)
    · have hf := (if_pos h).symm.trans hf
      refine lv_aload_n hx hb dn_M_link_125 rfl (lv_at hl 1 rfl) ?_
      refine va_get (D := (dC, dI)) (ci := 0) (v := .ref ((a 21))) (C := rn_M) (T := fn_M) (N := 91) hx hb hg in_M hown hK hP 0 rfl rfl 21 (by decide) (hg _ wn_8_94) (fun _ h9 => h9) rfl dn_M_link_126 ?_
      refine lv_iload_n hx hb dn_M_link_129 rfl (lv_at hl 3 rfl) ?_
      obtain ⟨hg_1, hf⟩ := dc_g hf
      refine va_iald hx hb hK hP 12 0 rfl rfl hg_1 dn_M_link_130 ?_
      refine xk_ti (y := ((s.1 21) (Int32.toNatClampNeg x3))) rfl ?_
      refine lv_if_eq (tgt := 138) hx hb dn_M_link_131 (by decide) (fun h => ?_) (fun h => ?_)
      · have hf := (if_pos h).symm.trans hf
        refine lv_iconst (v := 0) hx hb dn_M_link_138 (by decide) ?_
        exact bl_139 x2 x3 x4 x5 t0 0 s hf hge a H locs ls hP hD hS (lv_sub hl [1, 2, 3, 4, 5, 0] rfl)
      · have hf := (if_neg h).symm.trans hf
        refine lv_iconst (v := 1) hx hb dn_M_link_134 (by decide) ?_
        refine lv_goto (tgt := 139) hx hb dn_M_link_135 (by decide) ?_
        exact bl_139 x2 x3 x4 x5 t0 1 s hf hge a H locs ls hP hD hS (lv_sub hl [1, 2, 3, 4, 5, 0] rfl)
    · have hf := (if_neg h).symm.trans hf
      rw [hQQ, ← Option.some.inj hf]
      exact xk_vret (w1 := fun u : Nat → Nat => (wM h0 u cI cB cJ cZ s)) a hx hb hr hlocks hK hS dn_M_link_124 hP hD trivial (Nat.le_refl _) (Nat.le_refl _)
  intro hge a H locs ls hP hD hS hl
  have hle := mn_M_link N v1 s1 y hf
  unfold fn_M_link at hf
  refine lv_aload_n hx hb dn_M_link_0 rfl (lv_at hl 0 rfl) ?_
  refine va_get (D := (dC, dI)) (ci := 0) (v := .ref ((a 5))) (C := rn_M) (T := fn_M) (N := 91) hx hb hg in_M hown hK hP 0 rfl rfl 5 (by decide) (hg _ wn_8_78) (fun _ h9 => h9) rfl dn_M_link_1 ?_
  refine lv_aload_n hx hb dn_M_link_4 rfl (lv_at hl 0 rfl) ?_
  refine va_get (D := (dC, dI)) (ci := 0) (v := .int ((s1.1 8 0))) (C := rn_M) (T := fn_M) (N := 91) hx hb hg in_M hown hK hP 0 rfl rfl 8 (by decide) (hg _ wn_8_81) (fun _ h9 => h9) rfl dn_M_link_5 ?_
  obtain ⟨hg_1, hf⟩ := dc_g hf
  refine va_iald hx hb hK hP 3 0 rfl rfl hg_1 dn_M_link_8 ?_
  refine xk_ti (y := ((s1.1 5) (Int32.toNatClampNeg ((s1.1 8 0))))) rfl ?_
  refine lv_istore_n (lv' := [(2, .int (((s1.1 5) (Int32.toNatClampNeg ((s1.1 8 0)))))), (0, .ref h0), (1, .int v1)]) hx hb dn_M_link_9 rfl hl (by decide) rfl (fun ls hl => ?_)
  refine lv_aload_n hx hb dn_M_link_10 rfl (lv_at hl 1 rfl) ?_
  refine lv_dup hx hb dn_M_link_11 rfl ?_
  refine va_get (D := (dC, dI)) (ci := 0) (v := .int ((s1.1 8 0))) (C := rn_M) (T := fn_M) (N := 91) hx hb hg in_M hown hK hP 0 rfl rfl 8 (by decide) (hg _ wn_8_81) (fun _ h9 => h9) rfl dn_M_link_12 ?_
  refine lv_iconst (v := 1) hx hb dn_M_link_15 (by decide) ?_
  refine lv_iadd hx hb dn_M_link_16 ?_
  refine va_put (D := (dC, dI)) (ci := 0) (v := .int (((s1.1 8 0) + 1))) (ty := .int) (C := rn_M) (T := fn_M) (N := 91) hx hb hg in_M tn_M tk_M nn_M hown hK hP hD hS 0 rfl rfl 8 (by decide) (hg _ wn_8_81) (fun _ h9 => h9) rfl (tk_M 8 (by decide)) rfl rfl (Nat.le_of_ble_eq_true rfl) dn_M_link_17 (fun H locs hP hD hS => ?_)
  have hP := wM_P_8 hP
  have hD := wM_D_8 hD
  refine lv_aload_n hx hb dn_M_link_20 rfl (lv_at hl 1 rfl) ?_
  refine lv_aload_n hx hb dn_M_link_21 rfl (lv_at hl 1 rfl) ?_
  refine va_get (D := (dC, dI)) (ci := 0) (v := .int (((s1.1 8 0) + 1))) (C := rn_M) (T := fn_M) (N := 91) hx hb hg in_M hown hK hP 0 rfl rfl 8 (by decide) (hg _ wn_8_81) (fun _ h9 => h9) rfl dn_M_link_22 ?_
  refine lv_aload_n hx hb dn_M_link_25 rfl (lv_at hl 1 rfl) ?_
  refine va_get (D := (dC, dI)) (ci := 0) (v := .ref ((a 14))) (C := rn_M) (T := fn_M) (N := 91) hx hb hg in_M hown hK hP 0 rfl rfl 14 (by decide) (hg _ wn_8_87) (fun _ h9 => h9) rfl dn_M_link_26 ?_
  refine lv_iload_n hx hb dn_M_link_29 rfl (lv_at hl 2 rfl) ?_
  obtain ⟨hg_2, hf⟩ := dc_g hf
  refine va_iald hx hb hK hP 6 0 rfl rfl hg_2 dn_M_link_30 ?_
  refine xk_ti (y := ((s1.1 14) (Int32.toNatClampNeg v1))) rfl ?_
  refine lv_aload_n hx hb dn_M_link_31 rfl (lv_at hl 1 rfl) ?_
  refine va_get (D := (dC, dI)) (ci := 0) (v := .ref ((a 14))) (C := rn_M) (T := fn_M) (N := 91) hx hb hg in_M hown hK hP 0 rfl rfl 14 (by decide) (hg _ wn_8_87) (fun _ h9 => h9) rfl dn_M_link_32 ?_
  refine lv_iload_n hx hb dn_M_link_35 rfl (lv_at hl 2 rfl) ?_
  refine lv_iconst (v := 1) hx hb dn_M_link_36 (by decide) ?_
  refine lv_iadd hx hb dn_M_link_37 ?_
  obtain ⟨hg_3, hf⟩ := dc_g hf
  refine va_iald hx hb hK hP 6 0 rfl rfl hg_3 dn_M_link_38 ?_
  refine xk_ti (y := ((s1.1 14) (Int32.toNatClampNeg ((v1 + 1))))) rfl ?_
  obtain ⟨q_4, hc_5, hf⟩ := dc_b hf
  have hme := mn_M_signalNamed N (((s1.1 8 0) + 1)) (((s1.1 14) (Int32.toNatClampNeg v1))) (((s1.1 14) (Int32.toNatClampNeg ((v1 + 1))))) (upI s1 8 (fun _ => ((s1.1 8 0) + 1))) q_4 hc_5
  refine dc_calli (dc_runV (ar := 3) (As := [.int (((s1.1 8 0) + 1)), .int (((s1.1 14) (Int32.toNatClampNeg v1))), .int (((s1.1 14) (Int32.toNatClampNeg ((v1 + 1)))))]) (rest := []) (ci := 0) (q0 := 0) ⟨hx, hb, hml, hown, hg⟩ hK hN hT hS hA (ct_M_signalNamed l dC dI cI cB cJ cZ cQ N H.size h0 a (((s1.1 8 0) + 1)) (((s1.1 14) (Int32.toNatClampNeg v1))) (((s1.1 14) (Int32.toNatClampNeg ((v1 + 1))))) (upI s1 8 (fun _ => ((s1.1 8 0) + 1))) q_4 hc_5) hP hD rfl rfl wn_10_53 wn_10_55 sn_M_signalNamed wn_1_13 wn_10_56 rfl rfl (by decide +kernel) ⟨Nat.le_of_ble_eq_true rfl, Nat.le_of_ble_eq_true rfl⟩ rfl hl.1 rfl (Nat.le_of_ble_eq_true rfl) dn_M_link_39 (dc_rm0 hle)) hP hD hS hA (fun r_6 _ H locs hw hP hD hS => ?_)
  refine W.widen (k := 2 * (gl q_4.2 - gl s1)) (n := 2 * (gl q_4.2 - gl s1)) (dc_we hme) (dc_we hme) ?_
  have hge := Nat.le_trans hge (Nat.le_of_eq hme.symm)
  have hle := Nat.le_trans (Nat.le_of_eq hme) hle
  have hw : r_6 = q_4.1 := hw
  subst hw
  refine lv_istore_n (lv' := [(3, .int q_4.1), (2, .int (((s1.1 5) (Int32.toNatClampNeg ((s1.1 8 0)))))), (0, .ref h0), (1, .int v1)]) hx hb dn_M_link_42 rfl hl (by decide) rfl (fun ls hl => ?_)
  refine lv_iload_n hx hb dn_M_link_43 rfl (lv_at hl 0 rfl) ?_
  refine lv_if_lt (tgt := 73) hx hb dn_M_link_44 (by decide) (fun h => ?_) (fun h => ?_)
  · have hf := (if_pos h).symm.trans hf
    exact bl_73 q_4.2 hf hge a H locs ls hP hD hS (lv_sub hl [2] rfl)
  · have hf := (if_neg h).symm.trans hf
    refine lv_aload_n hx hb dn_M_link_47 rfl (lv_at hl 2 rfl) ?_
    refine va_get (D := (dC, dI)) (ci := 0) (v := .ref ((a 21))) (C := rn_M) (T := fn_M) (N := 91) hx hb hg in_M hown hK hP 0 rfl rfl 21 (by decide) (hg _ wn_8_94) (fun _ h9 => h9) rfl dn_M_link_48 ?_
    refine lv_iload_n hx hb dn_M_link_51 rfl (lv_at hl 0 rfl) ?_
    obtain ⟨hg_7, hf⟩ := dc_g hf
    refine va_iald hx hb hK hP 12 0 rfl rfl hg_7 dn_M_link_52 ?_
    refine xk_ti (y := ((q_4.2.1 21) (Int32.toNatClampNeg q_4.1))) rfl ?_
    refine lv_iconst (v := 2) hx hb dn_M_link_53 (by decide) ?_
    refine lv_icmp_gt (tgt := 73) hx hb dn_M_link_54 (by decide) (fun h => ?_) (fun h => ?_)
    · have hf := (if_pos h).symm.trans hf
      exact bl_73 q_4.2 hf hge a H locs ls hP hD hS (lv_sub hl [2] rfl)
    · have hf := (if_neg h).symm.trans hf
      refine lv_aload_n hx hb dn_M_link_57 rfl (lv_at hl 2 rfl) ?_
      refine lv_aload_n hx hb dn_M_link_58 rfl (lv_at hl 2 rfl) ?_
      refine va_get (D := (dC, dI)) (ci := 0) (v := .int ((q_4.2.1 27 0))) (C := rn_M) (T := fn_M) (N := 91) hx hb hg in_M hown hK hP 0 rfl rfl 27 (by decide) (hg _ wn_8_100) (fun _ h9 => h9) rfl dn_M_link_59 ?_
      refine lv_aload_n hx hb dn_M_link_62 rfl (lv_at hl 2 rfl) ?_
      refine va_get (D := (dC, dI)) (ci := 0) (v := .int ((q_4.2.1 31 0))) (C := rn_M) (T := fn_M) (N := 91) hx hb hg in_M hown hK hP 0 rfl rfl 31 (by decide) (hg _ wn_8_104) (fun _ h9 => h9) rfl dn_M_link_63 ?_
      refine lv_iload_n hx hb dn_M_link_66 rfl (lv_at hl 0 rfl) ?_
      obtain ⟨q_8, hc_9, hf⟩ := dc_b hf
      have hme := mn_M_linkOf N ((q_4.2.1 27 0)) ((q_4.2.1 31 0)) q_4.1 q_4.2 q_8 hc_9
      refine dc_calli (dc_runV (ar := 3) (As := [.int ((q_4.2.1 27 0)), .int ((q_4.2.1 31 0)), .int q_4.1]) (rest := []) (ci := 0) (q0 := 0) ⟨hx, hb, hml, hown, hg⟩ hK hN hT hS hA (ct_M_linkOf l dC dI cI cB cJ cZ cQ N H.size h0 a ((q_4.2.1 27 0)) ((q_4.2.1 31 0)) q_4.1 q_4.2 q_8 hc_9) hP hD rfl rfl wn_10_149 wn_10_151 sn_M_linkOf wn_1_13 wn_10_152 rfl rfl (by decide +kernel) ⟨Nat.le_of_ble_eq_true rfl, Nat.le_of_ble_eq_true rfl⟩ rfl hl.1 rfl (Nat.le_of_ble_eq_true rfl) dn_M_link_67 (dc_rm0 hle)) hP hD hS hA (fun r_10 _ H locs hw hP hD hS => ?_)
      refine W.widen (k := 2 * (gl q_8.2 - gl s1)) (n := 2 * (gl q_8.2 - gl s1)) (dc_we hme) (dc_we hme) ?_
      have hge := Nat.le_trans hge (Nat.le_of_eq hme.symm)
      have hle := Nat.le_trans (Nat.le_of_eq hme) hle
      have hw : r_10 = q_8.1 := hw
      subst hw
      refine lv_if_lt (tgt := 89) hx hb dn_M_link_70 (by decide) (fun h => ?_) (fun h => ?_)
      · have hf := (if_pos h).symm.trans hf
        refine lv_aload_n hx hb dn_M_link_89 rfl (lv_at hl 2 rfl) ?_
        refine lv_aload_n hx hb dn_M_link_90 rfl (lv_at hl 2 rfl) ?_
        refine va_get (D := (dC, dI)) (ci := 0) (v := .int ((q_8.2.1 8 0))) (C := rn_M) (T := fn_M) (N := 91) hx hb hg in_M hown hK hP 0 rfl rfl 8 (by decide) (hg _ wn_8_81) (fun _ h9 => h9) rfl dn_M_link_91 ?_
        refine lv_iconst (v := 2) hx hb dn_M_link_94 (by decide) ?_
        refine lv_iadd hx hb dn_M_link_95 ?_
        refine va_put (D := (dC, dI)) (ci := 0) (v := .int (((q_8.2.1 8 0) + 2))) (ty := .int) (C := rn_M) (T := fn_M) (N := 91) hx hb hg in_M tn_M tk_M nn_M hown hK hP hD hS 0 rfl rfl 8 (by decide) (hg _ wn_8_81) (fun _ h9 => h9) rfl (tk_M 8 (by decide)) rfl rfl (Nat.le_of_ble_eq_true rfl) dn_M_link_96 (fun H locs hP hD hS => ?_)
        have hP := wM_P_8 hP
        have hD := wM_D_8 hD
        refine lv_aload_n hx hb dn_M_link_99 rfl (lv_at hl 2 rfl) ?_
        refine va_get (D := (dC, dI)) (ci := 0) (v := .int (((q_8.2.1 8 0) + 2))) (C := rn_M) (T := fn_M) (N := 91) hx hb hg in_M hown hK hP 0 rfl rfl 8 (by decide) (hg _ wn_8_81) (fun _ h9 => h9) rfl dn_M_link_100 ?_
        refine lv_istore (lv' := [(4, .int (((q_8.2.1 8 0) + 2))), (3, .int q_4.1), (2, .int (((s1.1 5) (Int32.toNatClampNeg ((s1.1 8 0)))))), (0, .ref h0), (1, .int v1)]) hx hb dn_M_link_103 hl (by decide) rfl (fun ls hl => ?_)
        refine lv_aload_n hx hb dn_M_link_105 rfl (lv_at hl 3 rfl) ?_
        refine va_get (D := (dC, dI)) (ci := 0) (v := .int ((q_8.2.1 42 0))) (C := rn_M) (T := fn_M) (N := 91) hx hb hg in_M hown hK hP 0 rfl rfl 42 (by decide) (hg _ wn_8_115) (fun _ h9 => h9) rfl dn_M_link_106 ?_
        refine lv_istore (lv' := [(5, .int ((q_8.2.1 42 0))), (4, .int (((q_8.2.1 8 0) + 2))), (3, .int q_4.1), (2, .int (((s1.1 5) (Int32.toNatClampNeg ((s1.1 8 0)))))), (0, .ref h0), (1, .int v1)]) hx hb dn_M_link_109 hl (by decide) rfl (fun ls hl => ?_)
        refine lv_aload_n hx hb dn_M_link_111 rfl (lv_at hl 4 rfl) ?_
        obtain ⟨q_11, hc_12, hf⟩ := dc_b hf
        have hmg := mn_M_exp N (upI q_8.2 8 (fun _ => ((q_8.2.1 8 0) + 2))) q_11 hc_12
        have hle2 : gl q_11.2 ≤ gl y.2 := mo_M_link_115 N y _ _ _ _ _ _ hf
        refine dc_calli (dc_runV (ar := 0) (As := []) (rest := []) (ci := 0) (q0 := 0) ⟨hx, hb, hml, hown, hg⟩ hK hN hT hS hA (ct_M_exp l dC dI cI cB cJ cZ cQ N H.size h0 a (upI q_8.2 8 (fun _ => ((q_8.2.1 8 0) + 2))) q_11 hc_12) hP hD rfl rfl wn_10_77 wn_10_79 sn_M_exp wn_1_13 wn_10_80 rfl rfl (by decide +kernel) ⟨Nat.le_of_ble_eq_true rfl, Nat.le_of_ble_eq_true rfl⟩ rfl hl.1 rfl (Nat.le_of_ble_eq_true rfl) dn_M_link_112 (dc_rm hge hmg hle2)) hP hD hS hA (fun r_13 a H locs hw hP hD hS => ?_)
        refine W.widen (k := 2 * (gl q_11.2 - gl s1)) (n := 2 * (gl q_11.2 - gl s1)) (dc_wa hge hmg) (dc_wa hge hmg) ?_
        have hge := Nat.le_trans hge hmg
        have hle := hle2
        have hw : r_13 = q_11.1 := hw
        subst hw
        exact bl_115 (((s1.1 5) (Int32.toNatClampNeg ((s1.1 8 0))))) q_4.1 (((q_8.2.1 8 0) + 2)) ((q_8.2.1 42 0)) q_11.1 q_11.2 hf hge a H locs ls hP hD hS (lv_sub hl [4, 3, 2, 1, 0] rfl)
      · have hf := (if_neg h).symm.trans hf
        exact bl_73 q_8.2 hf hge a H locs ls hP hD hS (lv_sub hl [2] rfl)
theorem mo_M_instance_254 (N : Nat) (y : (Unit × ms)) (s : ms) (hf : bk_M_instance_254 N s = some y) : gl s ≤ gl y.2 := by
  unfold bk_M_instance_254 at hf
  have hm : gl s ≤ gl s := Nat.le_refl _
  obtain ⟨_, hf⟩ := dc_g hf
  exact Nat.le_trans hm (Nat.le_of_eq (dc_e hf).symm)
theorem mb_M_instance_191 (N : Nat) (y : (Unit × ms)) (k_191 : Int32 → Int32 → Int32 → ms → Option (Unit × ms)) (hkm_191 : ∀ (x1 : Int32) (x2 : Int32) (x3 : Int32) (s : ms), k_191 x1 x2 x3 s = some y → gl s ≤ gl y.2) (x1 : Int32) (x2 : Int32) (x3 : Int32) (s : ms) (hf : bd_M_instance_191 N k_191 x1 x2 x3 s = some y) : gl s ≤ gl y.2 := by
  unfold bd_M_instance_191 at hf
  have hm : gl s ≤ gl s := Nat.le_refl _
  obtain ⟨_, hf⟩ := dc_g hf
  by_cases h : ((s.1 14) (Int32.toNatClampNeg ((x1 + 1)))) ≤ x3
  · have hf := (if_pos h).symm.trans hf
    exact Nat.le_trans hm (mo_M_instance_254 N y s hf)
  · have hf := (if_neg h).symm.trans hf
    by_cases h : (s.1 9 0) = 0
    · have hf := (if_pos h).symm.trans hf
      obtain ⟨_, hf⟩ := dc_g hf
      by_cases h : 3 ≤ ((s.1 21) (Int32.toNatClampNeg x3))
      · have hf := (if_pos h).symm.trans hf
        exact Nat.le_trans hm (hkm_191 x1 x2 ((x3 + 1)) s hf)
      · have hf := (if_neg h).symm.trans hf
        obtain ⟨q_3, hc_4, hf⟩ := dc_b hf
        have hm := Nat.le_trans hm (Nat.le_of_eq (mn_M_linkOf N ((s.1 27 0)) ((s.1 31 0)) x3 s q_3 hc_4).symm)
        by_cases h : 0 ≤ q_3.1
        · have hf := (if_pos h).symm.trans hf
          exact Nat.le_trans hm (hkm_191 x1 x2 ((x3 + 1)) q_3.2 hf)
        · have hf := (if_neg h).symm.trans hf
          obtain ⟨_, hf⟩ := dc_g hf
          obtain ⟨q_7, hc_8, hf⟩ := dc_b hf
          have hm := Nat.le_trans hm (Nat.le_of_eq (mn_M_fail N 24 (((q_3.2.1 5) (Int32.toNatClampNeg x2))) q_3.2 q_7 hc_8).symm)
          exact Nat.le_trans hm (hkm_191 x1 x2 ((x3 + 1)) q_7.2 hf)
    · have hf := (if_neg h).symm.trans hf
      exact Nat.le_trans hm (mo_M_instance_254 N y s hf)
theorem mh_M_instance_191 (N : Nat) (y : (Unit × ms)) : ∀ (n : Nat) (x1 : Int32) (x2 : Int32) (x3 : Int32) (s : ms), hd_M_instance_191 N n x1 x2 x3 s = some y → gl s ≤ gl y.2 := by
  intro n
  induction n with
  | zero => intro x1 x2 x3 s hf; cases hf
  | succ n ih => intro x1 x2 x3 s hf; exact mb_M_instance_191 N y (hd_M_instance_191 N n) ih x1 x2 x3 s hf
theorem mo_M_instance_168 (N : Nat) (k_131 : Int32 → Int32 → ms → Option (Unit × ms)) (y : (Unit × ms)) (hkm_131 : ∀ (x1 : Int32) (x2 : Int32) (s : ms), k_131 x1 x2 s = some y → gl s ≤ gl y.2) (x1 : Int32) (x2 : Int32) (t0 : Int32) (s : ms) (hf : bk_M_instance_168 N k_131 x1 x2 t0 s = some y) : gl s ≤ gl y.2 := by
  unfold bk_M_instance_168 at hf
  have hm : gl s ≤ gl s := Nat.le_refl _
  exact Nat.le_trans hm (hkm_131 x1 x2 (upI s 8 (fun _ => t0)) hf)
theorem mo_M_instance_145 (N : Nat) (k_131 : Int32 → Int32 → ms → Option (Unit × ms)) (y : (Unit × ms)) (hkm_131 : ∀ (x1 : Int32) (x2 : Int32) (s : ms), k_131 x1 x2 s = some y → gl s ≤ gl y.2) (x1 : Int32) (x2 : Int32) (s : ms) (hf : bk_M_instance_145 N k_131 x1 x2 s = some y) : gl s ≤ gl y.2 := by
  unfold bk_M_instance_145 at hf
  have hm : gl s ≤ gl s := Nat.le_refl _
  obtain ⟨q_1, hc_2, hf⟩ := dc_b hf
  have hm := Nat.le_trans hm (Nat.le_of_eq (mn_M_kind N s q_1 hc_2).symm)
  by_cases h : q_1.1 = 44
  · have hf := (if_pos h).symm.trans hf
    exact Nat.le_trans hm (mo_M_instance_168 N k_131 y hkm_131 x1 x2 (((q_1.2.1 8 0) + 1)) q_1.2 hf)
  · have hf := (if_neg h).symm.trans hf
    exact Nat.le_trans hm (mo_M_instance_168 N k_131 y hkm_131 x1 x2 ((q_1.2.1 8 0)) q_1.2 hf)
theorem mb_M_instance_131 (N : Nat) (y : (Unit × ms)) (k_131 : Int32 → Int32 → ms → Option (Unit × ms)) (hkm_131 : ∀ (x1 : Int32) (x2 : Int32) (s : ms), k_131 x1 x2 s = some y → gl s ≤ gl y.2) (x1 : Int32) (x2 : Int32) (s : ms) (hf : bd_M_instance_131 N k_131 x1 x2 s = some y) : gl s ≤ gl y.2 := by
  unfold bd_M_instance_131 at hf
  have hm : gl s ≤ gl s := Nat.le_refl _
  obtain ⟨q_1, hc_2, hf⟩ := dc_b hf
  have hm := Nat.le_trans hm (Nat.le_of_eq (mn_M_is N 46 s q_1 hc_2).symm)
  by_cases h : q_1.1 = 0
  · have hf := (if_pos h).symm.trans hf
    obtain ⟨_, hf⟩ := dc_g hf
    exact Nat.le_trans hm (mh_M_instance_191 N y N x1 x2 (((q_1.2.1 14) (Int32.toNatClampNeg x1))) (upI q_1.2 8 (fun _ => ((q_1.2.1 8 0) + 1))) hf)
  · have hf := (if_neg h).symm.trans hf
    obtain ⟨q_4, hc_5, hf⟩ := dc_b hf
    have hm := Nat.le_trans hm (mn_M_link N x1 q_1.2 q_4 hc_5)
    exact Nat.le_trans hm (mo_M_instance_145 N k_131 y hkm_131 x1 x2 q_4.2 hf)
theorem mh_M_instance_131 (N : Nat) (y : (Unit × ms)) : ∀ (n : Nat) (x1 : Int32) (x2 : Int32) (s : ms), hd_M_instance_131 N n x1 x2 s = some y → gl s ≤ gl y.2 := by
  intro n
  induction n with
  | zero => intro x1 x2 s hf; cases hf
  | succ n ih => intro x1 x2 s hf; exact mb_M_instance_131 N y (hd_M_instance_131 N n) ih x1 x2 s hf
theorem mo_M_instance_85 (N : Nat) (y : (Unit × ms)) (x1 : Int32) (x2 : Int32) (s : ms) (hf : bk_M_instance_85 N x1 x2 s = some y) : gl s ≤ gl y.2 := by
  unfold bk_M_instance_85 at hf
  have hm : gl s ≤ gl s := Nat.le_refl _
  obtain ⟨_, hf⟩ := dc_g hf
  obtain ⟨_, hf⟩ := dc_g hf
  obtain ⟨_, hf⟩ := dc_g hf
  exact Nat.le_trans hm (mh_M_instance_131 N y N x1 x2 (upI (upI (upI (upI s 28 (upd (s.1 28) (Int32.toNatClampNeg ((s.1 27 0))) x1)) 29 (upd (s.1 29) (Int32.toNatClampNeg ((s.1 27 0))) ((s.1 8 0)))) 30 (upd (s.1 30) (Int32.toNatClampNeg ((s.1 27 0))) ((s.1 31 0)))) 8 (fun _ => ((s.1 8 0) + 2))) hf)
theorem mo_M_instance_70 (N : Nat) (y : (Unit × ms)) (x1 : Int32) (x2 : Int32) (s : ms) (hf : bk_M_instance_70 N x1 x2 s = some y) : gl s ≤ gl y.2 := by
  unfold bk_M_instance_70 at hf
  have hm : gl s ≤ gl s := Nat.le_refl _
  obtain ⟨_, hf⟩ := dc_g hf
  obtain ⟨q_2, hc_3, hf⟩ := dc_b hf
  have hm := Nat.le_trans hm (Nat.le_of_eq (mn_M_fail N 21 (((s.1 5) (Int32.toNatClampNeg ((s.1 8 0))))) s q_2 hc_3).symm)
  exact Nat.le_trans hm (mo_M_instance_85 N y x1 x2 q_2.2 hf)
theorem mn_M_instance (N : Nat) (s1 : ms) (y : (Unit × ms)) (hf : fn_M_instance N s1 = some y) : gl s1 ≤ gl y.2 := by
  unfold fn_M_instance at hf
  have hm : gl s1 ≤ gl s1 := Nat.le_refl _
  obtain ⟨q_1, hc_2, hf⟩ := dc_b hf
  have hm := Nat.le_trans hm (Nat.le_of_eq (mn_M_moduleNamed N ((s1.1 8 0)) ((s1.1 12 0)) s1 q_1 hc_2).symm)
  by_cases h : 0 ≤ q_1.1
  · have hf := (if_pos h).symm.trans hf
    obtain ⟨q_4, hc_5, hf⟩ := dc_b hf
    have hm := Nat.le_trans hm (Nat.le_of_eq (mn_M_here N (((q_1.2.1 8 0) + 1)) (upI q_1.2 8 (fun _ => ((q_1.2.1 8 0) + 1))) q_4 hc_5).symm)
    by_cases h : 0 ≤ q_4.1
    · have hf := (if_pos h).symm.trans hf
      exact Nat.le_trans hm (mo_M_instance_70 N y q_1.1 (((q_1.2.1 8 0) + 1)) q_4.2 hf)
    · have hf := (if_neg h).symm.trans hf
      obtain ⟨q_7, hc_8, hf⟩ := dc_b hf
      have hm := Nat.le_trans hm (Nat.le_of_eq (mn_M_isInstanceName N ((q_4.2.1 8 0)) q_4.2 q_7 hc_8).symm)
      by_cases h : q_7.1 = 0
      · have hf := (if_pos h).symm.trans hf
        exact Nat.le_trans hm (mo_M_instance_85 N y q_1.1 (((q_1.2.1 8 0) + 1)) q_7.2 hf)
      · have hf := (if_neg h).symm.trans hf
        exact Nat.le_trans hm (mo_M_instance_70 N y q_1.1 (((q_1.2.1 8 0) + 1)) q_7.2 hf)
  · have hf := (if_neg h).symm.trans hf
    obtain ⟨_, hf⟩ := dc_g hf
    obtain ⟨q_5, hc_6, hf⟩ := dc_b hf
    have hm := Nat.le_trans hm (Nat.le_of_eq (mn_M_fail N 22 (((q_1.2.1 5) (Int32.toNatClampNeg ((q_1.2.1 8 0))))) q_1.2 q_5 hc_6).symm)
    exact Nat.le_trans hm (Nat.le_of_eq (dc_e hf).symm)
set_option maxHeartbeats 8000000 in
set_option maxRecDepth 100000 in
theorem ct_M_instance (l : Launch) (dC : Nat → ClassId) (dI : Nat → Nat → Nat) (cI cB cJ cZ cQ : ClassId) (N sz : Nat) (h0 : Nat) (a : Nat → Nat) (s1 : ms) (y : (Unit × ms)) (hf : fn_M_instance N s1 = some y) : Met l yn_M_instance (xw yn_M_instance bn_M_instance 4 none) ({ frames := 407, cells := 2 * (gl y.2 - gl s1), slots := 2 * (gl y.2 - gl s1), locals := 9769 }) (dc_P (dC, dI) xcl (xt cI cB cJ cZ cQ) [.ref h0] sz (wM h0 a cI cB cJ cZ s1)) (xk_Qv (dC, dI) xcl (xt cI cB cJ cZ cQ) (fun _ : Nat → Nat => True) (fun u : Nat → Nat => (wM h0 u cI cB cJ cZ y.2)) (va_A (wM h0 a cI cB cJ cZ s1) sz)) (2 * (gl y.2 - gl s1)) (2 * (gl y.2 - gl s1)) (va_A (wM h0 a cI cB cJ cZ s1) sz) := by
  refine dc_of (QA := xk_Qv (dC, dI) xcl (xt cI cB cJ cZ cQ) (fun _ : Nat → Nat => True) (fun u : Nat → Nat => (wM h0 u cI cB cJ cZ y.2))) (by decide) (Nat.le_of_ble_eq_true rfl) ?_
  intro p e s0 m below meth c hx hb hml hown hg hr hlocks hin hP hK hN A hA hD hT ls hl
  have hown : s0.vm.findClass rn_M = some m.cls := hown
  obtain ⟨H, hH⟩ : ∃ z, z = s0.heap := ⟨_, rfl⟩
  rw [← hH] at hP
  have hS : va_S A s0.heap H [] := by rw [hH]; exact va_S.rf
  suffices kk : ∀ QQ : State → Prop, QQ = MQ below (xk_Qv (dC, dI) xcl (xt cI cB cJ cZ cQ) (fun _ : Nat → Nat => True) (fun u : Nat → Nat => (wM h0 u cI cB cJ cZ y.2)) A) [.ref h0].toArray s0 (2 * (gl y.2 - gl s1)) (2 * (gl y.2 - gl s1)) A → gl s1 ≤ gl s1 → dcG p l e ({ frames := 407, cells := 2 * (gl y.2 - gl s1), slots := 2 * (gl y.2 - gl s1), locals := 9769 }) s0 m [.ref h0].toArray below meth c QQ (dC, dI) A (fun a => (wM h0 a cI cB cJ cZ s1)) (2 * (gl s1 - gl s1)) 0 4 [(0, .ref h0)] [] by
    have k9 := kk _ rfl (Nat.le_refl _) a H [] ls hP hD hS hl
    rw [hH, Nat.sub_self] at k9; exact k9
  clear hP hD hS hl hH H ls
  intro QQ hQQ
  have bl_254 : ∀ (s : ms), bk_M_instance_254 N s = some y → gl s1 ≤ gl s → dcG p l e ({ frames := 407, cells := 2 * (gl y.2 - gl s1), slots := 2 * (gl y.2 - gl s1), locals := 9769 }) s0 m [.ref h0].toArray below meth c QQ (dC, dI) A (fun a => (wM h0 a cI cB cJ cZ s)) (2 * (gl s - gl s1)) 254 4 [(0, .ref h0)] [] := by
    intro s hf hge a H locs ls hP hD hS hl
    have hle := mo_M_instance_254 N y s hf
    unfold bk_M_instance_254 at hf
    refine lv_aload_n hx hb dn_M_instance_254 rfl (lv_at hl 0 rfl) ?_
    refine lv_dup hx hb dn_M_instance_255 rfl ?_
    refine va_get (D := (dC, dI)) (ci := 0) (v := .int ((s.1 8 0))) (C := rn_M) (T := fn_M) (N := 91) hx hb hg in_M hown hK hP 0 rfl rfl 8 (by decide) (hg _ wn_8_81) (fun _ h9 => h9) rfl dn_M_instance_256 ?_
    refine lv_iconst (v := 1) hx hb dn_M_instance_259 (by decide) ?_
    refine lv_iadd hx hb dn_M_instance_260 ?_
    refine va_put (D := (dC, dI)) (ci := 0) (v := .int (((s.1 8 0) + 1))) (ty := .int) (C := rn_M) (T := fn_M) (N := 91) hx hb hg in_M tn_M tk_M nn_M hown hK hP hD hS 0 rfl rfl 8 (by decide) (hg _ wn_8_81) (fun _ h9 => h9) rfl (tk_M 8 (by decide)) rfl rfl (Nat.le_of_ble_eq_true rfl) dn_M_instance_261 (fun H locs hP hD hS => ?_)
    have hP := wM_P_8 hP
    have hD := wM_D_8 hD
    refine lv_aload_n hx hb dn_M_instance_264 rfl (lv_at hl 0 rfl) ?_
    refine lv_dup hx hb dn_M_instance_265 rfl ?_
    refine va_get (D := (dC, dI)) (ci := 0) (v := .int ((s.1 27 0))) (C := rn_M) (T := fn_M) (N := 91) hx hb hg in_M hown hK hP 0 rfl rfl 27 (by decide) (hg _ wn_8_100) (fun _ h9 => h9) rfl dn_M_instance_266 ?_
    refine lv_iconst (v := 1) hx hb dn_M_instance_269 (by decide) ?_
    refine lv_iadd hx hb dn_M_instance_270 ?_
    refine va_put (D := (dC, dI)) (ci := 0) (v := .int (((s.1 27 0) + 1))) (ty := .int) (C := rn_M) (T := fn_M) (N := 91) hx hb hg in_M tn_M tk_M nn_M hown hK hP hD hS 0 rfl rfl 27 (by decide) (hg _ wn_8_100) (fun _ h9 => h9) rfl (tk_M 27 (by decide)) rfl rfl (Nat.le_of_ble_eq_true rfl) dn_M_instance_271 (fun H locs hP hD hS => ?_)
    have hP := wM_P_27 hP
    have hD := wM_D_27 hD
    refine lv_aload_n hx hb dn_M_instance_274 rfl (lv_at hl 0 rfl) ?_
    refine va_get (D := (dC, dI)) (ci := 0) (v := .ref ((a 30))) (C := rn_M) (T := fn_M) (N := 91) hx hb hg in_M hown hK hP 0 rfl rfl 30 (by decide) (hg _ wn_8_103) (fun _ h9 => h9) rfl dn_M_instance_275 ?_
    refine lv_aload_n hx hb dn_M_instance_278 rfl (lv_at hl 0 rfl) ?_
    refine va_get (D := (dC, dI)) (ci := 0) (v := .int (((s.1 27 0) + 1))) (C := rn_M) (T := fn_M) (N := 91) hx hb hg in_M hown hK hP 0 rfl rfl 27 (by decide) (hg _ wn_8_100) (fun _ h9 => h9) rfl dn_M_instance_279 ?_
    refine lv_aload_n hx hb dn_M_instance_282 rfl (lv_at hl 0 rfl) ?_
    refine va_get (D := (dC, dI)) (ci := 0) (v := .int ((s.1 31 0))) (C := rn_M) (T := fn_M) (N := 91) hx hb hg in_M hown hK hP 0 rfl rfl 31 (by decide) (hg _ wn_8_104) (fun _ h9 => h9) rfl dn_M_instance_283 ?_
    obtain ⟨hg_1, hf⟩ := dc_g hf
    refine va_iast hx hb hK hP hD hS 20 0 rfl rfl hg_1 dn_M_instance_286 (fun H locs hP hD hS => ?_)
    have hP : va_P (dC, dI) xcl ((wM h0 a cI cB cJ cZ (upI (upI s 8 (fun _ => ((s.1 8 0) + 1))) 27 (fun _ => ((s.1 27 0) + 1)))).set 20 ((a 30), .inl (cI, 11001, .inl (upd (s.1 30) (Int32.toNatClampNeg (((s.1 27 0) + 1))) ((s.1 31 0)))))) H := hP
    have hD : va_D A ((wM h0 a cI cB cJ cZ (upI (upI s 8 (fun _ => ((s.1 8 0) + 1))) 27 (fun _ => ((s.1 27 0) + 1)))).set 20 ((a 30), .inl (cI, 11001, .inl (upd (s.1 30) (Int32.toNatClampNeg (((s.1 27 0) + 1))) ((s.1 31 0)))))) := hD
    have hP := wM_P_30 hP
    have hD := wM_D_30 hD
    rw [hQQ, ← Option.some.inj hf]
    exact xk_vret (w1 := fun u : Nat → Nat => (wM h0 u cI cB cJ cZ (upI (upI (upI s 8 (fun _ => ((s.1 8 0) + 1))) 27 (fun _ => ((s.1 27 0) + 1))) 30 (upd (s.1 30) (Int32.toNatClampNeg (((s.1 27 0) + 1))) ((s.1 31 0)))))) a hx hb hr hlocks hK hS dn_M_instance_287 hP hD trivial (Nat.le_refl _) (Nat.le_refl _)
  have hd_191 : ∀ (n : Nat) (x1 : Int32) (x2 : Int32) (x3 : Int32) (s : ms), hd_M_instance_191 N n x1 x2 x3 s = some y → gl s1 ≤ gl s → dcG p l e ({ frames := 407, cells := 2 * (gl y.2 - gl s1), slots := 2 * (gl y.2 - gl s1), locals := 9769 }) s0 m [.ref h0].toArray below meth c QQ (dC, dI) A (fun a => (wM h0 a cI cB cJ cZ s)) (2 * (gl s - gl s1)) 191 4 [(0, .ref h0), (1, .int x1), (2, .int x2), (3, .int x3)] [] := by
    intro n
    induction n with
    | zero => intro x1 x2 x3 s hf; cases hf
    | succ n ih =>
      intro x1 x2 x3 s hf hge a H locs ls hP hD hS hl
      have hle := mh_M_instance_191 N y (n + 1) x1 x2 x3 s hf
      have hkm_191 := mh_M_instance_191 N y n
      have hf : bd_M_instance_191 N (hd_M_instance_191 N n) x1 x2 x3 s = some y := hf
      have hk_191 := ih
      generalize hd_M_instance_191 N n = k_191 at hf hk_191 hkm_191
      unfold bd_M_instance_191 at hf
      refine lv_iload_n hx hb dn_M_instance_191 rfl (lv_at hl 3 rfl) ?_
      refine lv_aload_n hx hb dn_M_instance_192 rfl (lv_at hl 0 rfl) ?_
      refine va_get (D := (dC, dI)) (ci := 0) (v := .ref ((a 14))) (C := rn_M) (T := fn_M) (N := 91) hx hb hg in_M hown hK hP 0 rfl rfl 14 (by decide) (hg _ wn_8_87) (fun _ h9 => h9) rfl dn_M_instance_193 ?_
      refine lv_iload_n hx hb dn_M_instance_196 rfl (lv_at hl 1 rfl) ?_
      refine lv_iconst (v := 1) hx hb dn_M_instance_197 (by decide) ?_
      refine lv_iadd hx hb dn_M_instance_198 ?_
      obtain ⟨hg_1, hf⟩ := dc_g hf
      refine va_iald hx hb hK hP 6 0 rfl rfl hg_1 dn_M_instance_199 ?_
      refine xk_ti (y := ((s.1 14) (Int32.toNatClampNeg ((x1 + 1))))) rfl ?_
      refine lv_icmp_ge (tgt := 254) hx hb dn_M_instance_200 (by decide) (fun h => ?_) (fun h => ?_)
      · have hf := (if_pos h).symm.trans hf
        exact bl_254 s hf hge a H locs ls hP hD hS (lv_sub hl [0] rfl)
      · have hf := (if_neg h).symm.trans hf
        refine lv_aload_n hx hb dn_M_instance_203 rfl (lv_at hl 0 rfl) ?_
        refine va_get (D := (dC, dI)) (ci := 0) (v := .int ((s.1 9 0))) (C := rn_M) (T := fn_M) (N := 91) hx hb hg in_M hown hK hP 0 rfl rfl 9 (by decide) (hg _ wn_8_82) (fun _ h9 => h9) rfl dn_M_instance_204 ?_
        refine lv_if_ne (tgt := 254) hx hb dn_M_instance_207 (by decide) (fun h => ?_) (fun h => ?_)
        · have hf := (if_neg h).symm.trans hf
          exact bl_254 s hf hge a H locs ls hP hD hS (lv_sub hl [0] rfl)
        · have hf := (if_pos h).symm.trans hf
          refine lv_aload_n hx hb dn_M_instance_210 rfl (lv_at hl 0 rfl) ?_
          refine va_get (D := (dC, dI)) (ci := 0) (v := .ref ((a 21))) (C := rn_M) (T := fn_M) (N := 91) hx hb hg in_M hown hK hP 0 rfl rfl 21 (by decide) (hg _ wn_8_94) (fun _ h9 => h9) rfl dn_M_instance_211 ?_
          refine lv_iload_n hx hb dn_M_instance_214 rfl (lv_at hl 3 rfl) ?_
          obtain ⟨hg_2, hf⟩ := dc_g hf
          refine va_iald hx hb hK hP 12 0 rfl rfl hg_2 dn_M_instance_215 ?_
          refine xk_ti (y := ((s.1 21) (Int32.toNatClampNeg x3))) rfl ?_
          refine lv_iconst (v := 3) hx hb dn_M_instance_216 (by decide) ?_
          refine lv_icmp_ge (tgt := 248) hx hb dn_M_instance_217 (by decide) (fun h => ?_) (fun h => ?_)
          · have hf := (if_pos h).symm.trans hf
            refine lv_iinc (v := (x3 + 1)) (lv' := [(3, .int ((x3 + 1))), (0, .ref h0), (1, .int x1), (2, .int x2)]) hx hb dn_M_instance_248 hl (k := 3) rfl (dc_inc (by decide)) (by decide) rfl (fun ls hl => ?_)
            refine lv_goto (tgt := 191) hx hb dn_M_instance_251 (by decide) ?_
            exact hk_191 x1 x2 ((x3 + 1)) s hf hge a H locs ls hP hD hS (lv_sub hl [1, 2, 3, 0] rfl)
          · have hf := (if_neg h).symm.trans hf
            refine lv_aload_n hx hb dn_M_instance_220 rfl (lv_at hl 0 rfl) ?_
            refine lv_aload_n hx hb dn_M_instance_221 rfl (lv_at hl 0 rfl) ?_
            refine va_get (D := (dC, dI)) (ci := 0) (v := .int ((s.1 27 0))) (C := rn_M) (T := fn_M) (N := 91) hx hb hg in_M hown hK hP 0 rfl rfl 27 (by decide) (hg _ wn_8_100) (fun _ h9 => h9) rfl dn_M_instance_222 ?_
            refine lv_aload_n hx hb dn_M_instance_225 rfl (lv_at hl 0 rfl) ?_
            refine va_get (D := (dC, dI)) (ci := 0) (v := .int ((s.1 31 0))) (C := rn_M) (T := fn_M) (N := 91) hx hb hg in_M hown hK hP 0 rfl rfl 31 (by decide) (hg _ wn_8_104) (fun _ h9 => h9) rfl dn_M_instance_226 ?_
            refine lv_iload_n hx hb dn_M_instance_229 rfl (lv_at hl 3 rfl) ?_
            obtain ⟨q_3, hc_4, hf⟩ := dc_b hf
            have hme := mn_M_linkOf N ((s.1 27 0)) ((s.1 31 0)) x3 s q_3 hc_4
            refine dc_calli (dc_runV (ar := 3) (As := [.int ((s.1 27 0)), .int ((s.1 31 0)), .int x3]) (rest := []) (ci := 0) (q0 := 0) ⟨hx, hb, hml, hown, hg⟩ hK hN hT hS hA (ct_M_linkOf l dC dI cI cB cJ cZ cQ N H.size h0 a ((s.1 27 0)) ((s.1 31 0)) x3 s q_3 hc_4) hP hD rfl rfl wn_10_149 wn_10_151 sn_M_linkOf wn_1_13 wn_10_152 rfl rfl (by decide +kernel) ⟨Nat.le_of_ble_eq_true rfl, Nat.le_of_ble_eq_true rfl⟩ rfl hl.1 rfl (Nat.le_of_ble_eq_true rfl) dn_M_instance_230 (dc_rm0 hle)) hP hD hS hA (fun r_5 _ H locs hw hP hD hS => ?_)
            refine W.widen (k := 2 * (gl q_3.2 - gl s1)) (n := 2 * (gl q_3.2 - gl s1)) (dc_we hme) (dc_we hme) ?_
            have hge := Nat.le_trans hge (Nat.le_of_eq hme.symm)
            have hle := Nat.le_trans (Nat.le_of_eq hme) hle
            have hw : r_5 = q_3.1 := hw
            subst hw
            refine lv_if_ge (tgt := 248) hx hb dn_M_instance_233 (by decide) (fun h => ?_) (fun h => ?_)
            · have hf := (if_pos h).symm.trans hf
              refine lv_iinc (v := (x3 + 1)) (lv' := [(3, .int ((x3 + 1))), (0, .ref h0), (1, .int x1), (2, .int x2)]) hx hb dn_M_instance_248 hl (k := 3) rfl (dc_inc (by decide)) (by decide) rfl (fun ls hl => ?_)
              refine lv_goto (tgt := 191) hx hb dn_M_instance_251 (by decide) ?_
              exact hk_191 x1 x2 ((x3 + 1)) q_3.2 hf hge a H locs ls hP hD hS (lv_sub hl [1, 2, 3, 0] rfl)
            · have hf := (if_neg h).symm.trans hf
              refine lv_aload_n hx hb dn_M_instance_236 rfl (lv_at hl 0 rfl) ?_
              refine lv_bipush (v := 24) hx hb dn_M_instance_237 (by decide) ?_
              refine lv_aload_n hx hb dn_M_instance_239 rfl (lv_at hl 0 rfl) ?_
              refine va_get (D := (dC, dI)) (ci := 0) (v := .ref ((a 5))) (C := rn_M) (T := fn_M) (N := 91) hx hb hg in_M hown hK hP 0 rfl rfl 5 (by decide) (hg _ wn_8_78) (fun _ h9 => h9) rfl dn_M_instance_240 ?_
              refine lv_iload_n hx hb dn_M_instance_243 rfl (lv_at hl 2 rfl) ?_
              obtain ⟨hg_6, hf⟩ := dc_g hf
              refine va_iald hx hb hK hP 3 0 rfl rfl hg_6 dn_M_instance_244 ?_
              refine xk_ti (y := ((q_3.2.1 5) (Int32.toNatClampNeg x2))) rfl ?_
              obtain ⟨q_7, hc_8, hf⟩ := dc_b hf
              have hme := mn_M_fail N 24 (((q_3.2.1 5) (Int32.toNatClampNeg x2))) q_3.2 q_7 hc_8
              refine dc_callv (dc_runV (ar := 2) (As := [.int 24, .int (((q_3.2.1 5) (Int32.toNatClampNeg x2)))]) (rest := []) (ci := 0) (q0 := 0) ⟨hx, hb, hml, hown, hg⟩ hK hN hT hS hA (ct_M_fail l dC dI cI cB cJ cZ cQ N H.size h0 a 24 (((q_3.2.1 5) (Int32.toNatClampNeg x2))) q_3.2 q_7 hc_8) hP hD rfl rfl wn_9_186 wn_9_188 sn_M_fail wn_1_13 wn_9_189 rfl rfl (by decide +kernel) ⟨Nat.le_of_ble_eq_true rfl, Nat.le_of_ble_eq_true rfl⟩ rfl hl.1 rfl (Nat.le_of_ble_eq_true rfl) dn_M_instance_245 (dc_rm0 hle)) hP hD hS hA (fun _ H locs hw hP hD hS => ?_)
              refine W.widen (k := 2 * (gl q_7.2 - gl s1)) (n := 2 * (gl q_7.2 - gl s1)) (dc_we hme) (dc_we hme) ?_
              have hge := Nat.le_trans hge (Nat.le_of_eq hme.symm)
              have hle := Nat.le_trans (Nat.le_of_eq hme) hle
              refine lv_iinc (v := (x3 + 1)) (lv' := [(3, .int ((x3 + 1))), (0, .ref h0), (1, .int x1), (2, .int x2)]) hx hb dn_M_instance_248 hl (k := 3) rfl (dc_inc (by decide)) (by decide) rfl (fun ls hl => ?_)
              refine lv_goto (tgt := 191) hx hb dn_M_instance_251 (by decide) ?_
              exact hk_191 x1 x2 ((x3 + 1)) q_7.2 hf hge a H locs ls hP hD hS (lv_sub hl [1, 2, 3, 0] rfl)
  have bl_168 : ∀ (k_131 : Int32 → Int32 → ms → Option (Unit × ms)) (hk_131 : ∀ (x1 : Int32) (x2 : Int32) (s : ms), k_131 x1 x2 s = some y → gl s1 ≤ gl s → dcG p l e ({ frames := 407, cells := 2 * (gl y.2 - gl s1), slots := 2 * (gl y.2 - gl s1), locals := 9769 }) s0 m [.ref h0].toArray below meth c QQ (dC, dI) A (fun a => (wM h0 a cI cB cJ cZ s)) (2 * (gl s - gl s1)) 131 4 [(0, .ref h0), (1, .int x1), (2, .int x2)] []) (hkm_131 : ∀ (x1 : Int32) (x2 : Int32) (s : ms), k_131 x1 x2 s = some y → gl s ≤ gl y.2) (x1 : Int32) (x2 : Int32) (t0 : Int32) (s : ms), bk_M_instance_168 N k_131 x1 x2 t0 s = some y → gl s1 ≤ gl s → dcG p l e ({ frames := 407, cells := 2 * (gl y.2 - gl s1), slots := 2 * (gl y.2 - gl s1), locals := 9769 }) s0 m [.ref h0].toArray below meth c QQ (dC, dI) A (fun a => (wM h0 a cI cB cJ cZ s)) (2 * (gl s - gl s1)) 168 4 [(0, .ref h0), (1, .int x1), (2, .int x2)] [.int t0, .ref h0] := by
    intro k_131 hk_131 hkm_131 x1 x2 t0 s hf hge a H locs ls hP hD hS hl
    have hle := mo_M_instance_168 N k_131 y hkm_131 x1 x2 t0 s hf
    unfold bk_M_instance_168 at hf
    refine va_put (D := (dC, dI)) (ci := 0) (v := .int t0) (ty := .int) (C := rn_M) (T := fn_M) (N := 91) hx hb hg in_M tn_M tk_M nn_M hown hK hP hD hS 0 rfl rfl 8 (by decide) (hg _ wn_8_81) (fun _ h9 => h9) rfl (tk_M 8 (by decide)) rfl rfl (Nat.le_of_ble_eq_true rfl) dn_M_instance_168 (fun H locs hP hD hS => ?_)
    have hP := wM_P_8 hP
    have hD := wM_D_8 hD
    refine lv_goto (tgt := 131) hx hb dn_M_instance_171 (by decide) ?_
    exact hk_131 x1 x2 (upI s 8 (fun _ => t0)) hf hge a H locs ls hP hD hS hl
  have bl_145 : ∀ (k_131 : Int32 → Int32 → ms → Option (Unit × ms)) (hk_131 : ∀ (x1 : Int32) (x2 : Int32) (s : ms), k_131 x1 x2 s = some y → gl s1 ≤ gl s → dcG p l e ({ frames := 407, cells := 2 * (gl y.2 - gl s1), slots := 2 * (gl y.2 - gl s1), locals := 9769 }) s0 m [.ref h0].toArray below meth c QQ (dC, dI) A (fun a => (wM h0 a cI cB cJ cZ s)) (2 * (gl s - gl s1)) 131 4 [(0, .ref h0), (1, .int x1), (2, .int x2)] []) (hkm_131 : ∀ (x1 : Int32) (x2 : Int32) (s : ms), k_131 x1 x2 s = some y → gl s ≤ gl y.2) (x1 : Int32) (x2 : Int32) (s : ms), bk_M_instance_145 N k_131 x1 x2 s = some y → gl s1 ≤ gl s → dcG p l e ({ frames := 407, cells := 2 * (gl y.2 - gl s1), slots := 2 * (gl y.2 - gl s1), locals := 9769 }) s0 m [.ref h0].toArray below meth c QQ (dC, dI) A (fun a => (wM h0 a cI cB cJ cZ s)) (2 * (gl s - gl s1)) 145 4 [(0, .ref h0), (1, .int x1), (2, .int x2)] [] := by
    intro k_131 hk_131 hkm_131 x1 x2 s hf hge a H locs ls hP hD hS hl
    have hle := mo_M_instance_145 N k_131 y hkm_131 x1 x2 s hf
    unfold bk_M_instance_145 at hf
    refine lv_aload_n hx hb dn_M_instance_145 rfl (lv_at hl 0 rfl) ?_
    refine lv_aload_n hx hb dn_M_instance_146 rfl (lv_at hl 0 rfl) ?_
    obtain ⟨q_1, hc_2, hf⟩ := dc_b hf
    have hme := mn_M_kind N s q_1 hc_2
    refine dc_calli (dc_runV (ar := 0) (As := []) (rest := [.ref h0]) (ci := 0) (q0 := 0) ⟨hx, hb, hml, hown, hg⟩ hK hN hT hS hA (ct_M_kind l dC dI cI cB cJ cZ cQ N H.size h0 a s q_1 hc_2) hP hD rfl rfl wn_9_214 wn_9_216 sn_M_kind wn_1_13 wn_9_217 rfl rfl (by decide +kernel) ⟨Nat.le_of_ble_eq_true rfl, Nat.le_of_ble_eq_true rfl⟩ rfl hl.1 rfl (Nat.le_of_ble_eq_true rfl) dn_M_instance_147 (dc_rm0 hle)) hP hD hS hA (fun r_3 _ H locs hw hP hD hS => ?_)
    refine W.widen (k := 2 * (gl q_1.2 - gl s1)) (n := 2 * (gl q_1.2 - gl s1)) (dc_we hme) (dc_we hme) ?_
    have hge := Nat.le_trans hge (Nat.le_of_eq hme.symm)
    have hle := Nat.le_trans (Nat.le_of_eq hme) hle
    have hw : r_3 = q_1.1 := hw
    subst hw
    refine lv_bipush (v := 44) hx hb dn_M_instance_150 (by decide) ?_
    refine lv_icmp_ne (tgt := 164) hx hb dn_M_instance_152 (by decide) (fun h => ?_) (fun h => ?_)
    · have hf := (if_neg h).symm.trans hf
      refine lv_aload_n hx hb dn_M_instance_164 rfl (lv_at hl 0 rfl) ?_
      refine va_get (D := (dC, dI)) (ci := 0) (v := .int ((q_1.2.1 8 0))) (C := rn_M) (T := fn_M) (N := 91) hx hb hg in_M hown hK hP 0 rfl rfl 8 (by decide) (hg _ wn_8_81) (fun _ h9 => h9) rfl dn_M_instance_165 ?_
      exact bl_168 k_131 hk_131 hkm_131 x1 x2 ((q_1.2.1 8 0)) q_1.2 hf hge a H locs ls hP hD hS hl
    · have hf := (if_pos h).symm.trans hf
      refine lv_aload_n hx hb dn_M_instance_155 rfl (lv_at hl 0 rfl) ?_
      refine va_get (D := (dC, dI)) (ci := 0) (v := .int ((q_1.2.1 8 0))) (C := rn_M) (T := fn_M) (N := 91) hx hb hg in_M hown hK hP 0 rfl rfl 8 (by decide) (hg _ wn_8_81) (fun _ h9 => h9) rfl dn_M_instance_156 ?_
      refine lv_iconst (v := 1) hx hb dn_M_instance_159 (by decide) ?_
      refine lv_iadd hx hb dn_M_instance_160 ?_
      refine lv_goto (tgt := 168) hx hb dn_M_instance_161 (by decide) ?_
      exact bl_168 k_131 hk_131 hkm_131 x1 x2 (((q_1.2.1 8 0) + 1)) q_1.2 hf hge a H locs ls hP hD hS hl
  have hd_131 : ∀ (n : Nat) (x1 : Int32) (x2 : Int32) (s : ms), hd_M_instance_131 N n x1 x2 s = some y → gl s1 ≤ gl s → dcG p l e ({ frames := 407, cells := 2 * (gl y.2 - gl s1), slots := 2 * (gl y.2 - gl s1), locals := 9769 }) s0 m [.ref h0].toArray below meth c QQ (dC, dI) A (fun a => (wM h0 a cI cB cJ cZ s)) (2 * (gl s - gl s1)) 131 4 [(0, .ref h0), (1, .int x1), (2, .int x2)] [] := by
    intro n
    induction n with
    | zero => intro x1 x2 s hf; cases hf
    | succ n ih =>
      intro x1 x2 s hf hge a H locs ls hP hD hS hl
      have hle := mh_M_instance_131 N y (n + 1) x1 x2 s hf
      have hkm_131 := mh_M_instance_131 N y n
      have hf : bd_M_instance_131 N (hd_M_instance_131 N n) x1 x2 s = some y := hf
      have hk_131 := ih
      generalize hd_M_instance_131 N n = k_131 at hf hk_131 hkm_131
      unfold bd_M_instance_131 at hf
      refine lv_aload_n hx hb dn_M_instance_131 rfl (lv_at hl 0 rfl) ?_
      refine lv_bipush (v := 46) hx hb dn_M_instance_132 (by decide) ?_
      obtain ⟨q_1, hc_2, hf⟩ := dc_b hf
      have hme := mn_M_is N 46 s q_1 hc_2
      refine dc_calli (dc_runV (ar := 1) (As := [.int 46]) (rest := []) (ci := 0) (q0 := 0) ⟨hx, hb, hml, hown, hg⟩ hK hN hT hS hA (ct_M_is l dC dI cI cB cJ cZ cQ N H.size h0 a 46 s q_1 hc_2) hP hD rfl rfl wn_9_194 wn_9_196 sn_M_is wn_1_13 wn_9_197 rfl rfl (by decide +kernel) ⟨Nat.le_of_ble_eq_true rfl, Nat.le_of_ble_eq_true rfl⟩ rfl hl.1 rfl (Nat.le_of_ble_eq_true rfl) dn_M_instance_134 (dc_rm0 hle)) hP hD hS hA (fun r_3 _ H locs hw hP hD hS => ?_)
      refine W.widen (k := 2 * (gl q_1.2 - gl s1)) (n := 2 * (gl q_1.2 - gl s1)) (dc_we hme) (dc_we hme) ?_
      have hge := Nat.le_trans hge (Nat.le_of_eq hme.symm)
      have hle := Nat.le_trans (Nat.le_of_eq hme) hle
      have hw : r_3 = q_1.1 := hw
      subst hw
      refine lv_if_eq (tgt := 174) hx hb dn_M_instance_137 (by decide) (fun h => ?_) (fun h => ?_)
      · have hf := (if_pos h).symm.trans hf
        refine lv_aload_n hx hb dn_M_instance_174 rfl (lv_at hl 0 rfl) ?_
        refine lv_dup hx hb dn_M_instance_175 rfl ?_
        refine va_get (D := (dC, dI)) (ci := 0) (v := .int ((q_1.2.1 8 0))) (C := rn_M) (T := fn_M) (N := 91) hx hb hg in_M hown hK hP 0 rfl rfl 8 (by decide) (hg _ wn_8_81) (fun _ h9 => h9) rfl dn_M_instance_176 ?_
        refine lv_iconst (v := 1) hx hb dn_M_instance_179 (by decide) ?_
        refine lv_iadd hx hb dn_M_instance_180 ?_
        refine va_put (D := (dC, dI)) (ci := 0) (v := .int (((q_1.2.1 8 0) + 1))) (ty := .int) (C := rn_M) (T := fn_M) (N := 91) hx hb hg in_M tn_M tk_M nn_M hown hK hP hD hS 0 rfl rfl 8 (by decide) (hg _ wn_8_81) (fun _ h9 => h9) rfl (tk_M 8 (by decide)) rfl rfl (Nat.le_of_ble_eq_true rfl) dn_M_instance_181 (fun H locs hP hD hS => ?_)
        have hP := wM_P_8 hP
        have hD := wM_D_8 hD
        refine lv_aload_n hx hb dn_M_instance_184 rfl (lv_at hl 0 rfl) ?_
        refine va_get (D := (dC, dI)) (ci := 0) (v := .ref ((a 14))) (C := rn_M) (T := fn_M) (N := 91) hx hb hg in_M hown hK hP 0 rfl rfl 14 (by decide) (hg _ wn_8_87) (fun _ h9 => h9) rfl dn_M_instance_185 ?_
        refine lv_iload_n hx hb dn_M_instance_188 rfl (lv_at hl 1 rfl) ?_
        obtain ⟨hg_4, hf⟩ := dc_g hf
        refine va_iald hx hb hK hP 6 0 rfl rfl hg_4 dn_M_instance_189 ?_
        refine xk_ti (y := ((q_1.2.1 14) (Int32.toNatClampNeg x1))) rfl ?_
        refine lv_istore_n (lv' := [(3, .int (((q_1.2.1 14) (Int32.toNatClampNeg x1)))), (0, .ref h0), (1, .int x1), (2, .int x2)]) hx hb dn_M_instance_190 rfl hl (by decide) rfl (fun ls hl => ?_)
        exact hd_191 N x1 x2 (((q_1.2.1 14) (Int32.toNatClampNeg x1))) (upI q_1.2 8 (fun _ => ((q_1.2.1 8 0) + 1))) hf hge a H locs ls hP hD hS (lv_sub hl [1, 2, 3, 0] rfl)
      · have hf := (if_neg h).symm.trans hf
        refine lv_aload_n hx hb dn_M_instance_140 rfl (lv_at hl 0 rfl) ?_
        refine lv_iload_n hx hb dn_M_instance_141 rfl (lv_at hl 1 rfl) ?_
        obtain ⟨q_4, hc_5, hf⟩ := dc_b hf
        have hmg := mn_M_link N x1 q_1.2 q_4 hc_5
        have hle2 : gl q_4.2 ≤ gl y.2 := mo_M_instance_145 N k_131 y hkm_131 _ _ _ hf
        refine dc_callv (dc_runV (ar := 1) (As := [.int x1]) (rest := []) (ci := 0) (q0 := 0) ⟨hx, hb, hml, hown, hg⟩ hK hN hT hS hA (ct_M_link l dC dI cI cB cJ cZ cQ N H.size h0 a x1 q_1.2 q_4 hc_5) hP hD rfl rfl wn_10_145 wn_10_147 sn_M_link wn_1_13 wn_10_148 rfl rfl (by decide +kernel) ⟨Nat.le_of_ble_eq_true rfl, Nat.le_of_ble_eq_true rfl⟩ rfl hl.1 rfl (Nat.le_of_ble_eq_true rfl) dn_M_instance_142 (dc_rm hge hmg hle2)) hP hD hS hA (fun a H locs hw hP hD hS => ?_)
        refine W.widen (k := 2 * (gl q_4.2 - gl s1)) (n := 2 * (gl q_4.2 - gl s1)) (dc_wa hge hmg) (dc_wa hge hmg) ?_
        have hge := Nat.le_trans hge hmg
        have hle := hle2
        exact bl_145 k_131 hk_131 hkm_131 x1 x2 q_4.2 hf hge a H locs ls hP hD hS hl
  have bl_85 : ∀ (x1 : Int32) (x2 : Int32) (s : ms), bk_M_instance_85 N x1 x2 s = some y → gl s1 ≤ gl s → dcG p l e ({ frames := 407, cells := 2 * (gl y.2 - gl s1), slots := 2 * (gl y.2 - gl s1), locals := 9769 }) s0 m [.ref h0].toArray below meth c QQ (dC, dI) A (fun a => (wM h0 a cI cB cJ cZ s)) (2 * (gl s - gl s1)) 85 4 [(0, .ref h0), (1, .int x1), (2, .int x2)] [] := by
    intro x1 x2 s hf hge a H locs ls hP hD hS hl
    have hle := mo_M_instance_85 N y x1 x2 s hf
    unfold bk_M_instance_85 at hf
    refine lv_aload_n hx hb dn_M_instance_85 rfl (lv_at hl 0 rfl) ?_
    refine va_get (D := (dC, dI)) (ci := 0) (v := .ref ((a 28))) (C := rn_M) (T := fn_M) (N := 91) hx hb hg in_M hown hK hP 0 rfl rfl 28 (by decide) (hg _ wn_8_101) (fun _ h9 => h9) rfl dn_M_instance_86 ?_
    refine lv_aload_n hx hb dn_M_instance_89 rfl (lv_at hl 0 rfl) ?_
    refine va_get (D := (dC, dI)) (ci := 0) (v := .int ((s.1 27 0))) (C := rn_M) (T := fn_M) (N := 91) hx hb hg in_M hown hK hP 0 rfl rfl 27 (by decide) (hg _ wn_8_100) (fun _ h9 => h9) rfl dn_M_instance_90 ?_
    refine lv_iload_n hx hb dn_M_instance_93 rfl (lv_at hl 1 rfl) ?_
    obtain ⟨hg_1, hf⟩ := dc_g hf
    refine va_iast hx hb hK hP hD hS 18 0 rfl rfl hg_1 dn_M_instance_94 (fun H locs hP hD hS => ?_)
    have hP : va_P (dC, dI) xcl ((wM h0 a cI cB cJ cZ s).set 18 ((a 28), .inl (cI, 11000, .inl (upd (s.1 28) (Int32.toNatClampNeg ((s.1 27 0))) x1)))) H := hP
    have hD : va_D A ((wM h0 a cI cB cJ cZ s).set 18 ((a 28), .inl (cI, 11000, .inl (upd (s.1 28) (Int32.toNatClampNeg ((s.1 27 0))) x1)))) := hD
    have hP := wM_P_28 hP
    have hD := wM_D_28 hD
    refine lv_aload_n hx hb dn_M_instance_95 rfl (lv_at hl 0 rfl) ?_
    refine va_get (D := (dC, dI)) (ci := 0) (v := .ref ((a 29))) (C := rn_M) (T := fn_M) (N := 91) hx hb hg in_M hown hK hP 0 rfl rfl 29 (by decide) (hg _ wn_8_102) (fun _ h9 => h9) rfl dn_M_instance_96 ?_
    refine lv_aload_n hx hb dn_M_instance_99 rfl (lv_at hl 0 rfl) ?_
    refine va_get (D := (dC, dI)) (ci := 0) (v := .int ((s.1 27 0))) (C := rn_M) (T := fn_M) (N := 91) hx hb hg in_M hown hK hP 0 rfl rfl 27 (by decide) (hg _ wn_8_100) (fun _ h9 => h9) rfl dn_M_instance_100 ?_
    refine lv_aload_n hx hb dn_M_instance_103 rfl (lv_at hl 0 rfl) ?_
    refine va_get (D := (dC, dI)) (ci := 0) (v := .int ((s.1 8 0))) (C := rn_M) (T := fn_M) (N := 91) hx hb hg in_M hown hK hP 0 rfl rfl 8 (by decide) (hg _ wn_8_81) (fun _ h9 => h9) rfl dn_M_instance_104 ?_
    obtain ⟨hg_2, hf⟩ := dc_g hf
    refine va_iast hx hb hK hP hD hS 19 0 rfl rfl hg_2 dn_M_instance_107 (fun H locs hP hD hS => ?_)
    have hP : va_P (dC, dI) xcl ((wM h0 a cI cB cJ cZ (upI s 28 (upd (s.1 28) (Int32.toNatClampNeg ((s.1 27 0))) x1))).set 19 ((a 29), .inl (cI, 11000, .inl (upd (s.1 29) (Int32.toNatClampNeg ((s.1 27 0))) ((s.1 8 0)))))) H := hP
    have hD : va_D A ((wM h0 a cI cB cJ cZ (upI s 28 (upd (s.1 28) (Int32.toNatClampNeg ((s.1 27 0))) x1))).set 19 ((a 29), .inl (cI, 11000, .inl (upd (s.1 29) (Int32.toNatClampNeg ((s.1 27 0))) ((s.1 8 0)))))) := hD
    have hP := wM_P_29 hP
    have hD := wM_D_29 hD
    refine lv_aload_n hx hb dn_M_instance_108 rfl (lv_at hl 0 rfl) ?_
    refine va_get (D := (dC, dI)) (ci := 0) (v := .ref ((a 30))) (C := rn_M) (T := fn_M) (N := 91) hx hb hg in_M hown hK hP 0 rfl rfl 30 (by decide) (hg _ wn_8_103) (fun _ h9 => h9) rfl dn_M_instance_109 ?_
    refine lv_aload_n hx hb dn_M_instance_112 rfl (lv_at hl 0 rfl) ?_
    refine va_get (D := (dC, dI)) (ci := 0) (v := .int ((s.1 27 0))) (C := rn_M) (T := fn_M) (N := 91) hx hb hg in_M hown hK hP 0 rfl rfl 27 (by decide) (hg _ wn_8_100) (fun _ h9 => h9) rfl dn_M_instance_113 ?_
    refine lv_aload_n hx hb dn_M_instance_116 rfl (lv_at hl 0 rfl) ?_
    refine va_get (D := (dC, dI)) (ci := 0) (v := .int ((s.1 31 0))) (C := rn_M) (T := fn_M) (N := 91) hx hb hg in_M hown hK hP 0 rfl rfl 31 (by decide) (hg _ wn_8_104) (fun _ h9 => h9) rfl dn_M_instance_117 ?_
    obtain ⟨hg_3, hf⟩ := dc_g hf
    refine va_iast hx hb hK hP hD hS 20 0 rfl rfl hg_3 dn_M_instance_120 (fun H locs hP hD hS => ?_)
    have hP : va_P (dC, dI) xcl ((wM h0 a cI cB cJ cZ (upI (upI s 28 (upd (s.1 28) (Int32.toNatClampNeg ((s.1 27 0))) x1)) 29 (upd (s.1 29) (Int32.toNatClampNeg ((s.1 27 0))) ((s.1 8 0))))).set 20 ((a 30), .inl (cI, 11001, .inl (upd (s.1 30) (Int32.toNatClampNeg ((s.1 27 0))) ((s.1 31 0)))))) H := hP
    have hD : va_D A ((wM h0 a cI cB cJ cZ (upI (upI s 28 (upd (s.1 28) (Int32.toNatClampNeg ((s.1 27 0))) x1)) 29 (upd (s.1 29) (Int32.toNatClampNeg ((s.1 27 0))) ((s.1 8 0))))).set 20 ((a 30), .inl (cI, 11001, .inl (upd (s.1 30) (Int32.toNatClampNeg ((s.1 27 0))) ((s.1 31 0)))))) := hD
    have hP := wM_P_30 hP
    have hD := wM_D_30 hD
    refine lv_aload_n hx hb dn_M_instance_121 rfl (lv_at hl 0 rfl) ?_
    refine lv_aload_n hx hb dn_M_instance_122 rfl (lv_at hl 0 rfl) ?_
    refine va_get (D := (dC, dI)) (ci := 0) (v := .int ((s.1 8 0))) (C := rn_M) (T := fn_M) (N := 91) hx hb hg in_M hown hK hP 0 rfl rfl 8 (by decide) (hg _ wn_8_81) (fun _ h9 => h9) rfl dn_M_instance_123 ?_
    refine lv_iconst (v := 2) hx hb dn_M_instance_126 (by decide) ?_
    refine lv_iadd hx hb dn_M_instance_127 ?_
    refine va_put (D := (dC, dI)) (ci := 0) (v := .int (((s.1 8 0) + 2))) (ty := .int) (C := rn_M) (T := fn_M) (N := 91) hx hb hg in_M tn_M tk_M nn_M hown hK hP hD hS 0 rfl rfl 8 (by decide) (hg _ wn_8_81) (fun _ h9 => h9) rfl (tk_M 8 (by decide)) rfl rfl (Nat.le_of_ble_eq_true rfl) dn_M_instance_128 (fun H locs hP hD hS => ?_)
    have hP := wM_P_8 hP
    have hD := wM_D_8 hD
    exact hd_131 N x1 x2 (upI (upI (upI (upI s 28 (upd (s.1 28) (Int32.toNatClampNeg ((s.1 27 0))) x1)) 29 (upd (s.1 29) (Int32.toNatClampNeg ((s.1 27 0))) ((s.1 8 0)))) 30 (upd (s.1 30) (Int32.toNatClampNeg ((s.1 27 0))) ((s.1 31 0)))) 8 (fun _ => ((s.1 8 0) + 2))) hf hge a H locs ls hP hD hS hl
  have bl_70 : ∀ (x1 : Int32) (x2 : Int32) (s : ms), bk_M_instance_70 N x1 x2 s = some y → gl s1 ≤ gl s → dcG p l e ({ frames := 407, cells := 2 * (gl y.2 - gl s1), slots := 2 * (gl y.2 - gl s1), locals := 9769 }) s0 m [.ref h0].toArray below meth c QQ (dC, dI) A (fun a => (wM h0 a cI cB cJ cZ s)) (2 * (gl s - gl s1)) 70 4 [(0, .ref h0), (1, .int x1), (2, .int x2)] [] := by
    intro x1 x2 s hf hge a H locs ls hP hD hS hl
    have hle := mo_M_instance_70 N y x1 x2 s hf
    unfold bk_M_instance_70 at hf
    refine lv_aload_n hx hb dn_M_instance_70 rfl (lv_at hl 0 rfl) ?_
    refine lv_bipush (v := 21) hx hb dn_M_instance_71 (by decide) ?_
    refine lv_aload_n hx hb dn_M_instance_73 rfl (lv_at hl 0 rfl) ?_
    refine va_get (D := (dC, dI)) (ci := 0) (v := .ref ((a 5))) (C := rn_M) (T := fn_M) (N := 91) hx hb hg in_M hown hK hP 0 rfl rfl 5 (by decide) (hg _ wn_8_78) (fun _ h9 => h9) rfl dn_M_instance_74 ?_
    refine lv_aload_n hx hb dn_M_instance_77 rfl (lv_at hl 0 rfl) ?_
    refine va_get (D := (dC, dI)) (ci := 0) (v := .int ((s.1 8 0))) (C := rn_M) (T := fn_M) (N := 91) hx hb hg in_M hown hK hP 0 rfl rfl 8 (by decide) (hg _ wn_8_81) (fun _ h9 => h9) rfl dn_M_instance_78 ?_
    obtain ⟨hg_1, hf⟩ := dc_g hf
    refine va_iald hx hb hK hP 3 0 rfl rfl hg_1 dn_M_instance_81 ?_
    refine xk_ti (y := ((s.1 5) (Int32.toNatClampNeg ((s.1 8 0))))) rfl ?_
    obtain ⟨q_2, hc_3, hf⟩ := dc_b hf
    have hme := mn_M_fail N 21 (((s.1 5) (Int32.toNatClampNeg ((s.1 8 0))))) s q_2 hc_3
    refine dc_callv (dc_runV (ar := 2) (As := [.int 21, .int (((s.1 5) (Int32.toNatClampNeg ((s.1 8 0)))))]) (rest := []) (ci := 0) (q0 := 0) ⟨hx, hb, hml, hown, hg⟩ hK hN hT hS hA (ct_M_fail l dC dI cI cB cJ cZ cQ N H.size h0 a 21 (((s.1 5) (Int32.toNatClampNeg ((s.1 8 0))))) s q_2 hc_3) hP hD rfl rfl wn_9_186 wn_9_188 sn_M_fail wn_1_13 wn_9_189 rfl rfl (by decide +kernel) ⟨Nat.le_of_ble_eq_true rfl, Nat.le_of_ble_eq_true rfl⟩ rfl hl.1 rfl (Nat.le_of_ble_eq_true rfl) dn_M_instance_82 (dc_rm0 hle)) hP hD hS hA (fun _ H locs hw hP hD hS => ?_)
    refine W.widen (k := 2 * (gl q_2.2 - gl s1)) (n := 2 * (gl q_2.2 - gl s1)) (dc_we hme) (dc_we hme) ?_
    have hge := Nat.le_trans hge (Nat.le_of_eq hme.symm)
    have hle := Nat.le_trans (Nat.le_of_eq hme) hle
    exact bl_85 x1 x2 q_2.2 hf hge a H locs ls hP hD hS hl
  intro hge a H locs ls hP hD hS hl
  have hle := mn_M_instance N s1 y hf
  unfold fn_M_instance at hf
  refine lv_aload_n hx hb dn_M_instance_0 rfl (lv_at hl 0 rfl) ?_
  refine lv_aload_n hx hb dn_M_instance_1 rfl (lv_at hl 0 rfl) ?_
  refine va_get (D := (dC, dI)) (ci := 0) (v := .int ((s1.1 8 0))) (C := rn_M) (T := fn_M) (N := 91) hx hb hg in_M hown hK hP 0 rfl rfl 8 (by decide) (hg _ wn_8_81) (fun _ h9 => h9) rfl dn_M_instance_2 ?_
  refine lv_aload_n hx hb dn_M_instance_5 rfl (lv_at hl 0 rfl) ?_
  refine va_get (D := (dC, dI)) (ci := 0) (v := .int ((s1.1 12 0))) (C := rn_M) (T := fn_M) (N := 91) hx hb hg in_M hown hK hP 0 rfl rfl 12 (by decide) (hg _ wn_8_85) (fun _ h9 => h9) rfl dn_M_instance_6 ?_
  obtain ⟨q_1, hc_2, hf⟩ := dc_b hf
  have hme := mn_M_moduleNamed N ((s1.1 8 0)) ((s1.1 12 0)) s1 q_1 hc_2
  refine dc_calli (dc_runV (ar := 2) (As := [.int ((s1.1 8 0)), .int ((s1.1 12 0))]) (rest := []) (ci := 0) (q0 := 0) ⟨hx, hb, hml, hown, hg⟩ hK hN hT hS hA (ct_M_moduleNamed l dC dI cI cB cJ cZ cQ N H.size h0 a ((s1.1 8 0)) ((s1.1 12 0)) s1 q_1 hc_2) hP hD rfl rfl wn_10_24 wn_10_26 sn_M_moduleNamed wn_1_13 wn_10_27 rfl rfl (by decide +kernel) ⟨Nat.le_of_ble_eq_true rfl, Nat.le_of_ble_eq_true rfl⟩ rfl hl.1 rfl (Nat.le_of_ble_eq_true rfl) dn_M_instance_9 (dc_rm0 hle)) hP hD hS hA (fun r_3 _ H locs hw hP hD hS => ?_)
  refine W.widen (k := 2 * (gl q_1.2 - gl s1)) (n := 2 * (gl q_1.2 - gl s1)) (dc_we hme) (dc_we hme) ?_
  have hge := Nat.le_trans hge (Nat.le_of_eq hme.symm)
  have hle := Nat.le_trans (Nat.le_of_eq hme) hle
  have hw : r_3 = q_1.1 := hw
  subst hw
  refine lv_istore_n (lv' := [(1, .int q_1.1), (0, .ref h0)]) hx hb dn_M_instance_12 rfl hl (by decide) rfl (fun ls hl => ?_)
  refine lv_iload_n hx hb dn_M_instance_13 rfl (lv_at hl 0 rfl) ?_
  refine lv_if_ge (tgt := 33) hx hb dn_M_instance_14 (by decide) (fun h => ?_) (fun h => ?_)
  · have hf := (if_pos h).symm.trans hf
    refine lv_aload_n hx hb dn_M_instance_33 rfl (lv_at hl 1 rfl) ?_
    refine lv_dup hx hb dn_M_instance_34 rfl ?_
    refine va_get (D := (dC, dI)) (ci := 0) (v := .int ((q_1.2.1 8 0))) (C := rn_M) (T := fn_M) (N := 91) hx hb hg in_M hown hK hP 0 rfl rfl 8 (by decide) (hg _ wn_8_81) (fun _ h9 => h9) rfl dn_M_instance_35 ?_
    refine lv_iconst (v := 1) hx hb dn_M_instance_38 (by decide) ?_
    refine lv_iadd hx hb dn_M_instance_39 ?_
    refine va_put (D := (dC, dI)) (ci := 0) (v := .int (((q_1.2.1 8 0) + 1))) (ty := .int) (C := rn_M) (T := fn_M) (N := 91) hx hb hg in_M tn_M tk_M nn_M hown hK hP hD hS 0 rfl rfl 8 (by decide) (hg _ wn_8_81) (fun _ h9 => h9) rfl (tk_M 8 (by decide)) rfl rfl (Nat.le_of_ble_eq_true rfl) dn_M_instance_40 (fun H locs hP hD hS => ?_)
    have hP := wM_P_8 hP
    have hD := wM_D_8 hD
    refine lv_aload_n hx hb dn_M_instance_43 rfl (lv_at hl 1 rfl) ?_
    refine va_get (D := (dC, dI)) (ci := 0) (v := .int (((q_1.2.1 8 0) + 1))) (C := rn_M) (T := fn_M) (N := 91) hx hb hg in_M hown hK hP 0 rfl rfl 8 (by decide) (hg _ wn_8_81) (fun _ h9 => h9) rfl dn_M_instance_44 ?_
    refine lv_istore_n (lv' := [(2, .int (((q_1.2.1 8 0) + 1))), (1, .int q_1.1), (0, .ref h0)]) hx hb dn_M_instance_47 rfl hl (by decide) rfl (fun ls hl => ?_)
    refine lv_aload_n hx hb dn_M_instance_48 rfl (lv_at hl 2 rfl) ?_
    refine lv_aload_n hx hb dn_M_instance_49 rfl (lv_at hl 2 rfl) ?_
    refine va_get (D := (dC, dI)) (ci := 0) (v := .int (((q_1.2.1 8 0) + 1))) (C := rn_M) (T := fn_M) (N := 91) hx hb hg in_M hown hK hP 0 rfl rfl 8 (by decide) (hg _ wn_8_81) (fun _ h9 => h9) rfl dn_M_instance_50 ?_
    obtain ⟨q_4, hc_5, hf⟩ := dc_b hf
    have hme := mn_M_here N (((q_1.2.1 8 0) + 1)) (upI q_1.2 8 (fun _ => ((q_1.2.1 8 0) + 1))) q_4 hc_5
    refine dc_calli (dc_runV (ar := 1) (As := [.int (((q_1.2.1 8 0) + 1))]) (rest := []) (ci := 0) (q0 := 0) ⟨hx, hb, hml, hown, hg⟩ hK hN hT hS hA (ct_M_here l dC dI cI cB cJ cZ cQ N H.size h0 a (((q_1.2.1 8 0) + 1)) (upI q_1.2 8 (fun _ => ((q_1.2.1 8 0) + 1))) q_4 hc_5) hP hD rfl rfl wn_10_49 wn_10_51 sn_M_here wn_1_13 wn_10_52 rfl rfl (by decide +kernel) ⟨Nat.le_of_ble_eq_true rfl, Nat.le_of_ble_eq_true rfl⟩ rfl hl.1 rfl (Nat.le_of_ble_eq_true rfl) dn_M_instance_53 (dc_rm0 hle)) hP hD hS hA (fun r_6 _ H locs hw hP hD hS => ?_)
    refine W.widen (k := 2 * (gl q_4.2 - gl s1)) (n := 2 * (gl q_4.2 - gl s1)) (dc_we hme) (dc_we hme) ?_
    have hge := Nat.le_trans hge (Nat.le_of_eq hme.symm)
    have hle := Nat.le_trans (Nat.le_of_eq hme) hle
    have hw : r_6 = q_4.1 := hw
    subst hw
    refine lv_if_ge (tgt := 70) hx hb dn_M_instance_56 (by decide) (fun h => ?_) (fun h => ?_)
    · have hf := (if_pos h).symm.trans hf
      exact bl_70 q_1.1 (((q_1.2.1 8 0) + 1)) q_4.2 hf hge a H locs ls hP hD hS (lv_sub hl [2, 1, 0] rfl)
    · have hf := (if_neg h).symm.trans hf
      refine lv_aload_n hx hb dn_M_instance_59 rfl (lv_at hl 2 rfl) ?_
      refine lv_aload_n hx hb dn_M_instance_60 rfl (lv_at hl 2 rfl) ?_
      refine va_get (D := (dC, dI)) (ci := 0) (v := .int ((q_4.2.1 8 0))) (C := rn_M) (T := fn_M) (N := 91) hx hb hg in_M hown hK hP 0 rfl rfl 8 (by decide) (hg _ wn_8_81) (fun _ h9 => h9) rfl dn_M_instance_61 ?_
      obtain ⟨q_7, hc_8, hf⟩ := dc_b hf
      have hme := mn_M_isInstanceName N ((q_4.2.1 8 0)) q_4.2 q_7 hc_8
      refine dc_calli (dc_runV (ar := 1) (As := [.int ((q_4.2.1 8 0))]) (rest := []) (ci := 0) (q0 := 0) ⟨hx, hb, hml, hown, hg⟩ hK hN hT hS hA (ct_M_isInstanceName l dC dI cI cB cJ cZ cQ N H.size h0 a ((q_4.2.1 8 0)) q_4.2 q_7 hc_8) hP hD rfl rfl wn_10_57 wn_10_59 sn_M_isInstanceName wn_1_13 wn_10_60 rfl rfl (by decide +kernel) ⟨Nat.le_of_ble_eq_true rfl, Nat.le_of_ble_eq_true rfl⟩ rfl hl.1 rfl (Nat.le_of_ble_eq_true rfl) dn_M_instance_64 (dc_rm0 hle)) hP hD hS hA (fun r_9 _ H locs hw hP hD hS => ?_)
      refine W.widen (k := 2 * (gl q_7.2 - gl s1)) (n := 2 * (gl q_7.2 - gl s1)) (dc_we hme) (dc_we hme) ?_
      have hge := Nat.le_trans hge (Nat.le_of_eq hme.symm)
      have hle := Nat.le_trans (Nat.le_of_eq hme) hle
      have hw : r_9 = q_7.1 := hw
      subst hw
      refine lv_if_eq (tgt := 85) hx hb dn_M_instance_67 (by decide) (fun h => ?_) (fun h => ?_)
      · have hf := (if_pos h).symm.trans hf
        exact bl_85 q_1.1 (((q_1.2.1 8 0) + 1)) q_7.2 hf hge a H locs ls hP hD hS (lv_sub hl [2, 1, 0] rfl)
      · have hf := (if_neg h).symm.trans hf
        exact bl_70 q_1.1 (((q_1.2.1 8 0) + 1)) q_7.2 hf hge a H locs ls hP hD hS (lv_sub hl [2, 1, 0] rfl)
  · have hf := (if_neg h).symm.trans hf
    refine lv_aload_n hx hb dn_M_instance_17 rfl (lv_at hl 1 rfl) ?_
    refine lv_bipush (v := 22) hx hb dn_M_instance_18 (by decide) ?_
    refine lv_aload_n hx hb dn_M_instance_20 rfl (lv_at hl 1 rfl) ?_
    refine va_get (D := (dC, dI)) (ci := 0) (v := .ref ((a 5))) (C := rn_M) (T := fn_M) (N := 91) hx hb hg in_M hown hK hP 0 rfl rfl 5 (by decide) (hg _ wn_8_78) (fun _ h9 => h9) rfl dn_M_instance_21 ?_
    refine lv_aload_n hx hb dn_M_instance_24 rfl (lv_at hl 1 rfl) ?_
    refine va_get (D := (dC, dI)) (ci := 0) (v := .int ((q_1.2.1 8 0))) (C := rn_M) (T := fn_M) (N := 91) hx hb hg in_M hown hK hP 0 rfl rfl 8 (by decide) (hg _ wn_8_81) (fun _ h9 => h9) rfl dn_M_instance_25 ?_
    obtain ⟨hg_4, hf⟩ := dc_g hf
    refine va_iald hx hb hK hP 3 0 rfl rfl hg_4 dn_M_instance_28 ?_
    refine xk_ti (y := ((q_1.2.1 5) (Int32.toNatClampNeg ((q_1.2.1 8 0))))) rfl ?_
    obtain ⟨q_5, hc_6, hf⟩ := dc_b hf
    have hme := mn_M_fail N 22 (((q_1.2.1 5) (Int32.toNatClampNeg ((q_1.2.1 8 0))))) q_1.2 q_5 hc_6
    refine dc_callv (dc_runV (ar := 2) (As := [.int 22, .int (((q_1.2.1 5) (Int32.toNatClampNeg ((q_1.2.1 8 0)))))]) (rest := []) (ci := 0) (q0 := 0) ⟨hx, hb, hml, hown, hg⟩ hK hN hT hS hA (ct_M_fail l dC dI cI cB cJ cZ cQ N H.size h0 a 22 (((q_1.2.1 5) (Int32.toNatClampNeg ((q_1.2.1 8 0))))) q_1.2 q_5 hc_6) hP hD rfl rfl wn_9_186 wn_9_188 sn_M_fail wn_1_13 wn_9_189 rfl rfl (by decide +kernel) ⟨Nat.le_of_ble_eq_true rfl, Nat.le_of_ble_eq_true rfl⟩ rfl hl.1 rfl (Nat.le_of_ble_eq_true rfl) dn_M_instance_29 (dc_rm0 hle)) hP hD hS hA (fun _ H locs hw hP hD hS => ?_)
    refine W.widen (k := 2 * (gl q_5.2 - gl s1)) (n := 2 * (gl q_5.2 - gl s1)) (dc_we hme) (dc_we hme) ?_
    have hge := Nat.le_trans hge (Nat.le_of_eq hme.symm)
    have hle := Nat.le_trans (Nat.le_of_eq hme) hle
    rw [hQQ, ← Option.some.inj hf]
    exact xk_vret (w1 := fun u : Nat → Nat => (wM h0 u cI cB cJ cZ q_5.2)) a hx hb hr hlocks hK hS dn_M_instance_32 hP hD trivial (Nat.le_refl _) (Nat.le_refl _)
