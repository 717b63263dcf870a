theorem mo_M_reset_13 (N : Nat) (y : (Unit × ms)) (t0 : Int32) (s : ms) (hf : bk_M_reset_13 N t0 s = some y) : gl y.2 = gl s := by
  unfold bk_M_reset_13 at hf
  have hm : gl s = gl s := rfl
  by_cases h : (s.1 54 0) = 0
  · have hf := (if_pos h).symm.trans hf
    exact (dc_e hf).trans hm
  · have hf := (if_neg h).symm.trans hf
    obtain ⟨q_1, hc_2, hf⟩ := dc_b hf
    have hm := (mn_M_begin0 N (upI s 0 (fun _ => t0)) q_1 hc_2).trans hm
    exact (dc_e hf).trans hm
theorem mn_M_reset (N : Nat) (s : ms) (y : (Unit × ms)) (hf : fn_M_reset N s = some y) : gl y.2 = gl s := by
  unfold fn_M_reset at hf
  have hm : gl s = gl s := rfl
  by_cases h : (s.1 54 0) = 0
  · have hf := (if_pos h).symm.trans hf
    exact (mo_M_reset_13 N y 1 s hf).trans hm
  · have hf := (if_neg h).symm.trans hf
    exact (mo_M_reset_13 N y 0 s hf).trans hm
set_option maxHeartbeats 8000000 in
set_option maxRecDepth 100000 in
theorem ct_M_reset (l : Launch) (dC : Nat → ClassId) (dI : Nat → Nat → Nat) (cI cB cJ cZ cQ : ClassId) (N sz : Nat) (h0 : Nat) (a : Nat → Nat) (s : ms) (y : (Unit × ms)) (hf : fn_M_reset N s = some y) : Met l yn_M_reset (xw yn_M_reset bn_M_reset 1 none) ({ frames := 5, cells := 0, slots := 0, locals := 141 }) (dc_P (dC, dI) xcl (xt cI cB cJ cZ cQ) [.ref h0] sz (wM h0 a cI cB cJ cZ s)) (xk_Qv (dC, dI) xcl (xt cI cB cJ cZ cQ) (fun _ : Unit => True) (fun u : Unit => (wM h0 a cI cB cJ cZ y.2)) (va_A (wM h0 a cI cB cJ cZ s) sz)) 0 0 (va_A (wM h0 a cI cB cJ cZ s) sz) := by
  refine dc_of (QA := xk_Qv (dC, dI) xcl (xt cI cB cJ cZ cQ) (fun _ : Unit => True) (fun u : Unit => (wM h0 a cI cB cJ cZ y.2))) (by decide) (Nat.le_of_ble_eq_true rfl) ?_
  intro p e s0 m below meth c hx hb hml hown hg hr hlocks hin hP hK hN A hA hD hT ls hl
  have hown : s0.vm.findClass rn_M = some m.cls := hown
  obtain ⟨H, hH⟩ : ∃ z, z = s0.heap := ⟨_, rfl⟩
  rw [← hH] at hP
  have hS : va_S A s0.heap H [] := by rw [hH]; exact va_S.rf
  suffices kk : ∀ QQ : State → Prop, QQ = MQ below (xk_Qv (dC, dI) xcl (xt cI cB cJ cZ cQ) (fun _ : Unit => True) (fun u : Unit => (wM h0 a cI cB cJ cZ y.2)) A) [.ref h0].toArray s0 0 0 A → dcC p l e ({ frames := 5, cells := 0, slots := 0, locals := 141 }) s0 m [.ref h0].toArray below meth c QQ (dC, dI) A (wM h0 a cI cB cJ cZ s) 0 1 [(0, .ref h0)] [] by
    have k9 := kk _ rfl H [] ls hP hD hS hl
    rw [hH] at k9; exact k9
  clear hP hD hS hl hH H ls
  intro QQ hQQ
  have bl_13 : ∀ (t0 : Int32) (s : ms), bk_M_reset_13 N t0 s = some y → dcC p l e ({ frames := 5, cells := 0, slots := 0, locals := 141 }) s0 m [.ref h0].toArray below meth c QQ (dC, dI) A (wM h0 a cI cB cJ cZ s) 13 1 [(0, .ref h0)] [.int t0, .ref h0] := by
    intro t0 s hf H locs ls hP hD hS hl
    unfold bk_M_reset_13 at hf
    refine va_put (D := (dC, dI)) (ci := 0) (v := .int t0) (ty := .int) (C := rn_M) (T := fn_M) (N := 91) hx hb hg in_M tn_M tk_M nn_M hown hK hP hD hS 0 rfl rfl 0 (by decide) (hg _ wn_8_73) (fun _ h9 => h9) rfl (tk_M 0 (by decide)) rfl rfl (Nat.le_of_ble_eq_true rfl) dn_M_reset_13 (fun H locs hP hD hS => ?_)
    have hP := wM_P_0 hP
    have hD := wM_D_0 hD
    refine lv_aload_n hx hb dn_M_reset_16 rfl (lv_at hl 0 rfl) ?_
    refine va_get (D := (dC, dI)) (ci := 0) (v := .int ((s.1 54 0))) (C := rn_M) (T := fn_M) (N := 91) hx hb hg in_M hown hK hP 0 rfl rfl 54 (by decide) (hg _ wn_8_127) (fun _ h9 => h9) rfl dn_M_reset_17 ?_
    refine lv_if_eq (tgt := 27) hx hb dn_M_reset_20 (by decide) (fun h => ?_) (fun h => ?_)
    · have hf := (if_pos h).symm.trans hf
      rw [hQQ, ← Option.some.inj hf]
      exact xk_vret (w1 := fun u : Unit => (wM h0 a cI cB cJ cZ (upI s 0 (fun _ => t0)))) () hx hb hr hlocks hK hS dn_M_reset_27 hP hD trivial (Nat.le_refl _) (Nat.le_refl _)
    · have hf := (if_neg h).symm.trans hf
      refine lv_aload_n hx hb dn_M_reset_23 rfl (lv_at hl 0 rfl) ?_
      obtain ⟨q_1, hc_2, hf⟩ := dc_b hf
      refine dc_callv (dc_runV (ar := 0) (As := []) (rest := []) (ci := 0) (q0 := 0) ⟨hx, hb, hml, hown, hg⟩ hK hN hT hS hA (ct_M_begin0 l dC dI cI cB cJ cZ cQ N H.size h0 a (upI s 0 (fun _ => t0)) q_1 hc_2) hP hD rfl rfl wn_10_205 wn_10_207 sn_M_begin0 wn_1_13 wn_10_208 rfl rfl (by decide +kernel) ⟨Nat.le_of_ble_eq_true rfl, Nat.le_of_ble_eq_true rfl⟩ rfl hl.1 rfl (Nat.le_of_ble_eq_true rfl) dn_M_reset_24 ⟨Nat.le_of_ble_eq_true rfl, Nat.le_of_ble_eq_true rfl⟩) hP hD hS hA (fun _ H locs hw hP hD hS => ?_)
      rw [hQQ, ← Option.some.inj hf]
      exact xk_vret (w1 := fun u : Unit => (wM h0 a cI cB cJ cZ q_1.2)) () hx hb hr hlocks hK hS dn_M_reset_27 hP hD trivial (Nat.le_refl _) (Nat.le_refl _)
  intro H locs ls hP hD hS hl
  unfold fn_M_reset at hf
  refine lv_aload_n hx hb dn_M_reset_0 rfl (lv_at hl 0 rfl) ?_
  refine lv_aload_n hx hb dn_M_reset_1 rfl (lv_at hl 0 rfl) ?_
  refine va_get (D := (dC, dI)) (ci := 0) (v := .int ((s.1 54 0))) (C := rn_M) (T := fn_M) (N := 91) hx hb hg in_M hown hK hP 0 rfl rfl 54 (by decide) (hg _ wn_8_127) (fun _ h9 => h9) rfl dn_M_reset_2 ?_
  refine lv_if_eq (tgt := 12) hx hb dn_M_reset_5 (by decide) (fun h => ?_) (fun h => ?_)
  · have hf := (if_pos h).symm.trans hf
    refine lv_iconst (v := 1) hx hb dn_M_reset_12 (by decide) ?_
    exact bl_13 1 s hf H locs ls hP hD hS hl
  · have hf := (if_neg h).symm.trans hf
    refine lv_iconst (v := 0) hx hb dn_M_reset_8 (by decide) ?_
    refine lv_goto (tgt := 13) hx hb dn_M_reset_9 (by decide) ?_
    exact bl_13 0 s hf H locs ls hP hD hS hl
theorem mo_M_set_57 (N : Nat) (y : (Unit × ms)) (x1 : Int32) (x2 : Int32) (t0 : Int32) (s : ms) (hf : bk_M_set_57 N x1 x2 t0 s = some y) : gl y.2 = gl s := by
  unfold bk_M_set_57 at hf
  have hm : gl s = gl s := rfl
  by_cases h : t0 = 0
  · have hf := (if_pos h).symm.trans hf
    obtain ⟨_, hf⟩ := dc_g hf
    obtain ⟨q_2, hc_3, hf⟩ := dc_b hf
    have hm := (mn_M_settle_82_83 N (upJ (upI s 0 (fun _ => t0)) 83 (vp_updL (s.2 83) (Int32.toNatClampNeg x1) ((Int32.toInt64 x2)))) q_2 hc_3).trans hm
    exact (dc_e hf).trans hm
  · have hf := (if_neg h).symm.trans hf
    exact (dc_e hf).trans hm
theorem mo_M_set_52 (N : Nat) (y : (Unit × ms)) (x1 : Int32) (x2 : Int32) (s : ms) (hf : bk_M_set_52 N x1 x2 s = some y) : gl y.2 = gl s := by
  unfold bk_M_set_52 at hf
  have hm : gl s = gl s := rfl
  exact (mo_M_set_57 N y x1 x2 3 s hf).trans hm
theorem mn_M_set (N : Nat) (v1 : Int32) (v2 : Int32) (s : ms) (y : (Unit × ms)) (hf : fn_M_set N v1 v2 s = some y) : gl y.2 = gl s := by
  unfold fn_M_set at hf
  have hm : gl s = gl s := rfl
  by_cases h : (s.1 54 0) = 0
  · have hf := (if_pos h).symm.trans hf
    exact (mo_M_set_57 N y v1 v2 1 s hf).trans hm
  · have hf := (if_neg h).symm.trans hf
    obtain ⟨q_1, hc_2, hf⟩ := dc_b hf
    have hm := (mn_M_isSignal N v1 s q_1 hc_2).trans hm
    by_cases h : q_1.1 = 0
    · have hf := (if_pos h).symm.trans hf
      exact (mo_M_set_57 N y v1 v2 2 q_1.2 hf).trans hm
    · have hf := (if_neg h).symm.trans hf
      obtain ⟨q_4, hc_5, hf⟩ := dc_b hf
      have hm := (mn_M_kindOf N v1 q_1.2 q_4 hc_5).trans hm
      by_cases h : q_4.1 = 0
      · have hf := (if_pos h).symm.trans hf
        by_cases h : v2 < 0
        · have hf := (if_pos h).symm.trans hf
          exact (mo_M_set_52 N y v1 v2 q_4.2 hf).trans hm
        · have hf := (if_neg h).symm.trans hf
          obtain ⟨_, hf⟩ := dc_g hf
          obtain ⟨_, hf⟩ := dc_g hf
          by_cases h : ((v2 : Int32) >>> (((q_4.2.1 20) (Int32.toNatClampNeg (((q_4.2.1 64) (Int32.toNatClampNeg v1))))) &&& 31)) = 0
          · have hf := (if_pos h).symm.trans hf
            exact (mo_M_set_57 N y v1 v2 0 q_4.2 hf).trans hm
          · have hf := (if_neg h).symm.trans hf
            exact (mo_M_set_52 N y v1 v2 q_4.2 hf).trans hm
      · have hf := (if_neg h).symm.trans hf
        exact (mo_M_set_52 N y v1 v2 q_4.2 hf).trans hm
set_option maxHeartbeats 8000000 in
set_option maxRecDepth 100000 in
theorem ct_M_set (l : Launch) (dC : Nat → ClassId) (dI : Nat → Nat → Nat) (cI cB cJ cZ cQ : ClassId) (N sz : Nat) (h0 : Nat) (a : Nat → Nat) (v1 : Int32) (v2 : Int32) (s : ms) (y : (Unit × ms)) (hf : fn_M_set N v1 v2 s = some y) : Met l yn_M_set (xw yn_M_set bn_M_set 3 none) ({ frames := 4, cells := 0, slots := 0, locals := 120 }) (dc_P (dC, dI) xcl (xt cI cB cJ cZ cQ) [.ref h0, .int v1, .int v2] sz (wM h0 a cI cB cJ cZ s)) (xk_Qv (dC, dI) xcl (xt cI cB cJ cZ cQ) (fun _ : Unit => True) (fun u : Unit => (wM h0 a cI cB cJ cZ y.2)) (va_A (wM h0 a cI cB cJ cZ s) sz)) 0 0 (va_A (wM h0 a cI cB cJ cZ s) sz) := by
  refine dc_of (QA := xk_Qv (dC, dI) xcl (xt cI cB cJ cZ cQ) (fun _ : Unit => True) (fun u : Unit => (wM h0 a cI cB cJ cZ y.2))) (by decide) (Nat.le_of_ble_eq_true rfl) ?_
  intro p e s0 m below meth c hx hb hml hown hg hr hlocks hin hP hK hN A hA hD hT ls hl
  have hown : s0.vm.findClass rn_M = some m.cls := hown
  obtain ⟨H, hH⟩ : ∃ z, z = s0.heap := ⟨_, rfl⟩
  rw [← hH] at hP
  have hS : va_S A s0.heap H [] := by rw [hH]; exact va_S.rf
  suffices kk : ∀ QQ : State → Prop, QQ = MQ below (xk_Qv (dC, dI) xcl (xt cI cB cJ cZ cQ) (fun _ : Unit => True) (fun u : Unit => (wM h0 a cI cB cJ cZ y.2)) A) [.ref h0, .int v1, .int v2].toArray s0 0 0 A → dcC p l e ({ frames := 4, cells := 0, slots := 0, locals := 120 }) s0 m [.ref h0, .int v1, .int v2].toArray below meth c QQ (dC, dI) A (wM h0 a cI cB cJ cZ s) 0 3 [(0, .ref h0), (1, .int v1), (2, .int v2)] [] by
    have k9 := kk _ rfl H [] ls hP hD hS hl
    rw [hH] at k9; exact k9
  clear hP hD hS hl hH H ls
  intro QQ hQQ
  have bl_57 : ∀ (x1 : Int32) (x2 : Int32) (t0 : Int32) (s : ms), bk_M_set_57 N x1 x2 t0 s = some y → dcC p l e ({ frames := 4, cells := 0, slots := 0, locals := 120 }) s0 m [.ref h0, .int v1, .int v2].toArray below meth c QQ (dC, dI) A (wM h0 a cI cB cJ cZ s) 57 3 [(0, .ref h0), (1, .int x1), (2, .int x2)] [.int t0, .ref h0] := by
    intro x1 x2 t0 s hf H locs ls hP hD hS hl
    unfold bk_M_set_57 at hf
    refine va_put (D := (dC, dI)) (ci := 0) (v := .int t0) (ty := .int) (C := rn_M) (T := fn_M) (N := 91) hx hb hg in_M tn_M tk_M nn_M hown hK hP hD hS 0 rfl rfl 0 (by decide) (hg _ wn_8_73) (fun _ h9 => h9) rfl (tk_M 0 (by decide)) rfl rfl (Nat.le_of_ble_eq_true rfl) dn_M_set_57 (fun H locs hP hD hS => ?_)
    have hP := wM_P_0 hP
    have hD := wM_D_0 hD
    refine lv_aload_n hx hb dn_M_set_60 rfl (lv_at hl 0 rfl) ?_
    refine va_get (D := (dC, dI)) (ci := 0) (v := .int t0) (C := rn_M) (T := fn_M) (N := 91) hx hb hg in_M hown hK hP 0 rfl rfl 0 (by decide) (hg _ wn_8_73) (fun _ h9 => h9) rfl dn_M_set_61 ?_
    refine lv_if_ne (tgt := 87) hx hb dn_M_set_64 (by decide) (fun h => ?_) (fun h => ?_)
    · have hf := (if_neg h).symm.trans hf
      rw [hQQ, ← Option.some.inj hf]
      exact xk_vret (w1 := fun u : Unit => (wM h0 a cI cB cJ cZ (upI s 0 (fun _ => t0)))) () hx hb hr hlocks hK hS dn_M_set_87 hP hD trivial (Nat.le_refl _) (Nat.le_refl _)
    · have hf := (if_pos h).symm.trans hf
      refine lv_aload_n hx hb dn_M_set_67 rfl (lv_at hl 0 rfl) ?_
      refine va_get (D := (dC, dI)) (ci := 0) (v := .ref ((a 83))) (C := rn_M) (T := fn_M) (N := 91) hx hb hg in_M hown hK hP 0 rfl rfl 83 (by decide) (hg _ wn_8_156) (fun _ h9 => h9) rfl dn_M_set_68 ?_
      refine lv_iload_n hx hb dn_M_set_71 rfl (lv_at hl 1 rfl) ?_
      refine lv_iload_n hx hb dn_M_set_72 rfl (lv_at hl 2 rfl) ?_
      refine lv_i2l (v := Int32.toInt64 x2) hx hb dn_M_set_73 rfl ?_
      obtain ⟨hg_1, hf⟩ := dc_g hf
      refine va_last hx hb hK hP hD hS 57 2 rfl rfl hg_1 dn_M_set_74 (fun H locs hP hD hS => ?_)
      have hP : va_P (dC, dI) xcl ((wM h0 a cI cB cJ cZ (upI s 0 (fun _ => t0))).set 57 ((a 83), .inl (cJ, 1100, .inr (.inl (vp_updL (s.2 83) (Int32.toNatClampNeg x1) ((Int32.toInt64 x2))))))) H := hP
      have hD : va_D A ((wM h0 a cI cB cJ cZ (upI s 0 (fun _ => t0))).set 57 ((a 83), .inl (cJ, 1100, .inr (.inl (vp_updL (s.2 83) (Int32.toNatClampNeg x1) ((Int32.toInt64 x2))))))) := hD
      have hP := wM_P_83 hP
      have hD := wM_D_83 hD
      refine lv_aload_n hx hb dn_M_set_75 rfl (lv_at hl 0 rfl) ?_
      refine lv_aload_n hx hb dn_M_set_76 rfl (lv_at hl 0 rfl) ?_
      refine va_get (D := (dC, dI)) (ci := 0) (v := .ref ((a 82))) (C := rn_M) (T := fn_M) (N := 91) hx hb hg in_M hown hK hP 0 rfl rfl 82 (by decide) (hg _ wn_8_155) (fun _ h9 => h9) rfl dn_M_set_77 ?_
      refine lv_aload_n hx hb dn_M_set_80 rfl (lv_at hl 0 rfl) ?_
      refine va_get (D := (dC, dI)) (ci := 0) (v := .ref ((a 83))) (C := rn_M) (T := fn_M) (N := 91) hx hb hg in_M hown hK hP 0 rfl rfl 83 (by decide) (hg _ wn_8_156) (fun _ h9 => h9) rfl dn_M_set_81 ?_
      obtain ⟨q_2, hc_3, hf⟩ := dc_b hf
      refine dc_callv (dc_runV (ar := 2) (As := [.ref ((a 82)), .ref ((a 83))]) (rest := []) (ci := 0) (q0 := 0) ⟨hx, hb, hml, hown, hg⟩ hK hN hT hS hA (ct_M_settle_82_83 l dC dI cI cB cJ cZ cQ N H.size h0 a (upJ (upI s 0 (fun _ => t0)) 83 (vp_updL (s.2 83) (Int32.toNatClampNeg x1) ((Int32.toInt64 x2)))) q_2 hc_3) hP hD rfl rfl wn_10_209 wn_10_211 sn_M_settle wn_1_13 wn_10_212 rfl rfl (by decide +kernel) ⟨Nat.le_of_ble_eq_true rfl, Nat.le_of_ble_eq_true rfl⟩ rfl hl.1 rfl (Nat.le_of_ble_eq_true rfl) dn_M_set_84 ⟨Nat.le_of_ble_eq_true rfl, Nat.le_of_ble_eq_true rfl⟩) hP hD hS hA (fun _ H locs hw hP hD hS => ?_)
      rw [hQQ, ← Option.some.inj hf]
      exact xk_vret (w1 := fun u : Unit => (wM h0 a cI cB cJ cZ q_2.2)) () hx hb hr hlocks hK hS dn_M_set_87 hP hD trivial (Nat.le_refl _) (Nat.le_refl _)
  have bl_52 : ∀ (x1 : Int32) (x2 : Int32) (s : ms), bk_M_set_52 N x1 x2 s = some y → dcC p l e ({ frames := 4, cells := 0, slots := 0, locals := 120 }) s0 m [.ref h0, .int v1, .int v2].toArray below meth c QQ (dC, dI) A (wM h0 a cI cB cJ cZ s) 52 3 [(0, .ref h0), (1, .int x1), (2, .int x2)] [.ref h0] := by
    intro x1 x2 s hf H locs ls hP hD hS hl
    unfold bk_M_set_52 at hf
    refine lv_iconst (v := 3) hx hb dn_M_set_52 (by decide) ?_
    refine lv_goto (tgt := 57) hx hb dn_M_set_53 (by decide) ?_
    exact bl_57 x1 x2 3 s hf H locs ls hP hD hS hl
  intro H locs ls hP hD hS hl
  unfold fn_M_set at hf
  refine lv_aload_n hx hb dn_M_set_0 rfl (lv_at hl 0 rfl) ?_
  refine lv_aload_n hx hb dn_M_set_1 rfl (lv_at hl 0 rfl) ?_
  refine va_get (D := (dC, dI)) (ci := 0) (v := .int ((s.1 54 0))) (C := rn_M) (T := fn_M) (N := 91) hx hb hg in_M hown hK hP 0 rfl rfl 54 (by decide) (hg _ wn_8_127) (fun _ h9 => h9) rfl dn_M_set_2 ?_
  refine lv_if_ne (tgt := 12) hx hb dn_M_set_5 (by decide) (fun h => ?_) (fun h => ?_)
  · have hf := (if_neg h).symm.trans hf
    refine lv_aload_n hx hb dn_M_set_12 rfl (lv_at hl 0 rfl) ?_
    refine lv_iload_n hx hb dn_M_set_13 rfl (lv_at hl 1 rfl) ?_
    obtain ⟨q_1, hc_2, hf⟩ := dc_b hf
    refine dc_calli (dc_runV (ar := 1) (As := [.int v1]) (rest := [.ref h0]) (ci := 0) (q0 := 0) ⟨hx, hb, hml, hown, hg⟩ hK hN hT hS hA (ct_M_isSignal l dC dI cI cB cJ cZ cQ N H.size h0 a v1 s q_1 hc_2) hP hD rfl rfl wn_11_31 wn_11_33 sn_M_isSignal wn_1_13 wn_11_34 rfl rfl (by decide +kernel) ⟨Nat.le_of_ble_eq_true rfl, Nat.le_of_ble_eq_true rfl⟩ rfl hl.1 rfl (Nat.le_of_ble_eq_true rfl) dn_M_set_14 ⟨Nat.le_of_ble_eq_true rfl, Nat.le_of_ble_eq_true rfl⟩) hP hD hS hA (fun r_3 _ H locs hw hP hD hS => ?_)
    have hw : r_3 = q_1.1 := hw
    subst hw
    refine lv_if_ne (tgt := 24) hx hb dn_M_set_17 (by decide) (fun h => ?_) (fun h => ?_)
    · have hf := (if_neg h).symm.trans hf
      refine lv_aload_n hx hb dn_M_set_24 rfl (lv_at hl 0 rfl) ?_
      refine lv_iload_n hx hb dn_M_set_25 rfl (lv_at hl 1 rfl) ?_
      obtain ⟨q_4, hc_5, hf⟩ := dc_b hf
      refine dc_calli (dc_runV (ar := 1) (As := [.int v1]) (rest := [.ref h0]) (ci := 0) (q0 := 0) ⟨hx, hb, hml, hown, hg⟩ hK hN hT hS hA (ct_M_kindOf l dC dI cI cB cJ cZ cQ N H.size h0 a v1 q_1.2 q_4 hc_5) hP hD rfl rfl wn_11_35 wn_11_37 sn_M_kindOf wn_1_13 wn_11_38 rfl rfl (by decide +kernel) ⟨Nat.le_of_ble_eq_true rfl, Nat.le_of_ble_eq_true rfl⟩ rfl hl.1 rfl (Nat.le_of_ble_eq_true rfl) dn_M_set_26 ⟨Nat.le_of_ble_eq_true rfl, Nat.le_of_ble_eq_true rfl⟩) hP hD hS hA (fun r_6 _ H locs hw hP hD hS => ?_)
      have hw : r_6 = q_4.1 := hw
      subst hw
      refine lv_if_ne (tgt := 52) hx hb dn_M_set_29 (by decide) (fun h => ?_) (fun h => ?_)
      · have hf := (if_neg h).symm.trans hf
        exact bl_52 v1 v2 q_4.2 hf H locs ls hP hD hS hl
      · have hf := (if_pos h).symm.trans hf
        refine lv_iload_n hx hb dn_M_set_32 rfl (lv_at hl 2 rfl) ?_
        refine lv_if_lt (tgt := 52) hx hb dn_M_set_33 (by decide) (fun h => ?_) (fun h => ?_)
        · have hf := (if_pos h).symm.trans hf
          exact bl_52 v1 v2 q_4.2 hf H locs ls hP hD hS hl
        · have hf := (if_neg h).symm.trans hf
          refine lv_iload_n hx hb dn_M_set_36 rfl (lv_at hl 2 rfl) ?_
          refine lv_aload_n hx hb dn_M_set_37 rfl (lv_at hl 0 rfl) ?_
          refine va_get (D := (dC, dI)) (ci := 0) (v := .ref ((a 20))) (C := rn_M) (T := fn_M) (N := 91) hx hb hg in_M hown hK hP 0 rfl rfl 20 (by decide) (hg _ wn_8_93) (fun _ h9 => h9) rfl dn_M_set_38 ?_
          refine lv_aload_n hx hb dn_M_set_41 rfl (lv_at hl 0 rfl) ?_
          refine va_get (D := (dC, dI)) (ci := 0) (v := .ref ((a 64))) (C := rn_M) (T := fn_M) (N := 91) hx hb hg in_M hown hK hP 0 rfl rfl 64 (by decide) (hg _ wn_8_137) (fun _ h9 => h9) rfl dn_M_set_42 ?_
          refine lv_iload_n hx hb dn_M_set_45 rfl (lv_at hl 1 rfl) ?_
          obtain ⟨hg_7, hf⟩ := dc_g hf
          refine va_iald hx hb hK hP 44 0 rfl rfl hg_7 dn_M_set_46 ?_
          refine xk_ti (y := ((q_4.2.1 64) (Int32.toNatClampNeg v1))) rfl ?_
          obtain ⟨hg_8, hf⟩ := dc_g hf
          refine va_iald hx hb hK hP 11 0 rfl rfl hg_8 dn_M_set_47 ?_
          refine xk_ti (y := ((q_4.2.1 20) (Int32.toNatClampNeg (((q_4.2.1 64) (Int32.toNatClampNeg v1)))))) rfl ?_
          refine lv_ishr hx hb dn_M_set_48 ?_
          refine lv_if_eq (tgt := 56) hx hb dn_M_set_49 (by decide) (fun h => ?_) (fun h => ?_)
          · have hf := (if_pos h).symm.trans hf
            refine lv_iconst (v := 0) hx hb dn_M_set_56 (by decide) ?_
            exact bl_57 v1 v2 0 q_4.2 hf H locs ls hP hD hS hl
          · have hf := (if_neg h).symm.trans hf
            exact bl_52 v1 v2 q_4.2 hf H locs ls hP hD hS hl
    · have hf := (if_pos h).symm.trans hf
      refine lv_iconst (v := 2) hx hb dn_M_set_20 (by decide) ?_
      refine lv_goto (tgt := 57) hx hb dn_M_set_21 (by decide) ?_
      exact bl_57 v1 v2 2 q_1.2 hf H locs ls hP hD hS hl
  · have hf := (if_pos h).symm.trans hf
    refine lv_iconst (v := 1) hx hb dn_M_set_8 (by decide) ?_
    refine lv_goto (tgt := 57) hx hb dn_M_set_9 (by decide) ?_
    exact bl_57 v1 v2 1 s hf H locs ls hP hD hS hl
theorem mb_M_goOn_82_50 (N : Nat) (k_27 : Int32 → ms → Option (Unit × ms)) (y : (Unit × ms)) (hkm_27 : ∀ (x2 : Int32) (s : ms), k_27 x2 s = some y → gl y.2 = gl s) (k_50 : Int32 → Int32 → Int32 → ms → Option (Unit × ms)) (hkm_50 : ∀ (x2 : Int32) (x3 : Int32) (x4 : Int32) (s : ms), k_50 x2 x3 x4 s = some y → gl y.2 = gl s) (x2 : Int32) (x3 : Int32) (x4 : Int32) (s : ms) (hf : bd_M_goOn_82_50 N k_27 k_50 x2 x3 x4 s = some y) : gl y.2 = gl s := by
  unfold bd_M_goOn_82_50 at hf
  have hm : gl s = gl s := rfl
  obtain ⟨_, hf⟩ := dc_g hf
  by_cases h : ((s.1 17) (Int32.toNatClampNeg ((x3 + 1)))) ≤ x4
  · have hf := (if_pos h).symm.trans hf
    exact (hkm_27 ((x2 + 1)) s hf).trans hm
  · have hf := (if_neg h).symm.trans hf
    obtain ⟨_, hf⟩ := dc_g hf
    obtain ⟨_, hf⟩ := dc_g hf
    obtain ⟨q_4, hc_5, hf⟩ := dc_b hf
    have hm := (mn_M_run N (((s.1 39) (Int32.toNatClampNeg x4))) (((s.1 40) (Int32.toNatClampNeg x4))) x2 s q_4 hc_5).trans hm
    exact (hkm_50 x2 x3 ((x4 + 1)) q_4.2 hf).trans hm
theorem mh_M_goOn_82_50 (N : Nat) (k_27 : Int32 → ms → Option (Unit × ms)) (y : (Unit × ms)) (hkm_27 : ∀ (x2 : Int32) (s : ms), k_27 x2 s = some y → gl y.2 = gl s) : ∀ (n : Nat) (x2 : Int32) (x3 : Int32) (x4 : Int32) (s : ms), hd_M_goOn_82_50 N k_27 n x2 x3 x4 s = some y → gl y.2 = gl s := by
  intro n
  induction n with
  | zero => intro x2 x3 x4 s hf; cases hf
  | succ n ih => intro x2 x3 x4 s hf; exact mb_M_goOn_82_50 N k_27 y hkm_27 (hd_M_goOn_82_50 N k_27 n) ih x2 x3 x4 s hf
theorem mb_M_goOn_82_27 (N : Nat) (y : (Unit × ms)) (k_27 : Int32 → ms → Option (Unit × ms)) (hkm_27 : ∀ (x2 : Int32) (s : ms), k_27 x2 s = some y → gl y.2 = gl s) (x2 : Int32) (s : ms) (hf : bd_M_goOn_82_27 N k_27 x2 s = some y) : gl y.2 = gl s := by
  unfold bd_M_goOn_82_27 at hf
  have hm : gl s = gl s := rfl
  by_cases h : (s.1 56 0) ≤ x2
  · have hf := (if_pos h).symm.trans hf
    exact (dc_e hf).trans hm
  · have hf := (if_neg h).symm.trans hf
    obtain ⟨_, hf⟩ := dc_g hf
    obtain ⟨_, hf⟩ := dc_g hf
    exact (mh_M_goOn_82_50 N k_27 y hkm_27 N x2 (((s.1 57) (Int32.toNatClampNeg x2))) (((s.1 17) (Int32.toNatClampNeg (((s.1 57) (Int32.toNatClampNeg x2)))))) s hf).trans hm
theorem mh_M_goOn_82_27 (N : Nat) (y : (Unit × ms)) : ∀ (n : Nat) (x2 : Int32) (s : ms), hd_M_goOn_82_27 N n x2 s = some y → gl y.2 = gl s := by
  intro n
  induction n with
  | zero => intro x2 s hf; cases hf
  | succ n ih => intro x2 s hf; exact mb_M_goOn_82_27 N y (hd_M_goOn_82_27 N n) ih x2 s hf
theorem mb_M_goOn_82_2 (N : Nat) (y : (Unit × ms)) (k_2 : Int32 → ms → Option (Unit × ms)) (hkm_2 : ∀ (x2 : Int32) (s : ms), k_2 x2 s = some y → gl y.2 = gl s) (x2 : Int32) (s : ms) (hf : bd_M_goOn_82_2 N k_2 x2 s = some y) : gl y.2 = gl s := by
  unfold bd_M_goOn_82_2 at hf
  have hm : gl s = gl s := rfl
  by_cases h : (s.1 63 0) ≤ x2
  · have hf := (if_pos h).symm.trans hf
    exact (mh_M_goOn_82_27 N y N 0 s hf).trans hm
  · have hf := (if_neg h).symm.trans hf
    obtain ⟨_, hf⟩ := dc_g hf
    obtain ⟨_, hf⟩ := dc_g hf
    exact (hkm_2 ((x2 + 1)) (upJ s 81 (vp_updL (s.2 81) (Int32.toNatClampNeg x2) (((s.2 82) (Int32.toNatClampNeg x2))))) hf).trans hm
theorem mh_M_goOn_82_2 (N : Nat) (y : (Unit × ms)) : ∀ (n : Nat) (x2 : Int32) (s : ms), hd_M_goOn_82_2 N n x2 s = some y → gl y.2 = gl s := by
  intro n
  induction n with
  | zero => intro x2 s hf; cases hf
  | succ n ih => intro x2 s hf; exact mb_M_goOn_82_2 N y (hd_M_goOn_82_2 N n) ih x2 s hf
theorem mn_M_goOn_82 (N : Nat) (s : ms) (y : (Unit × ms)) (hf : fn_M_goOn_82 N s = some y) : gl y.2 = gl s := by
  unfold fn_M_goOn_82 at hf
  have hm : gl s = gl s := rfl
  exact (mh_M_goOn_82_2 N y N 0 s hf).trans hm
set_option maxHeartbeats 8000000 in
set_option maxRecDepth 100000 in
theorem ct_M_goOn_82 (l : Launch) (dC : Nat → ClassId) (dI : Nat → Nat → Nat) (cI cB cJ cZ cQ : ClassId) (N sz : Nat) (h0 : Nat) (a : Nat → Nat) (s : ms) (y : (Unit × ms)) (hf : fn_M_goOn_82 N s = some y) : Met l yn_M_goOn (xw yn_M_goOn bn_M_goOn 5 none) ({ frames := 3, cells := 0, slots := 0, locals := 96 }) (dc_P (dC, dI) xcl (xt cI cB cJ cZ cQ) [.ref h0, .ref ((a 82))] sz (wM h0 a cI cB cJ cZ s)) (xk_Qv (dC, dI) xcl (xt cI cB cJ cZ cQ) (fun _ : Unit => True) (fun u : Unit => (wM h0 a cI cB cJ cZ y.2)) (va_A (wM h0 a cI cB cJ cZ s) sz)) 0 0 (va_A (wM h0 a cI cB cJ cZ s) sz) := by
  refine dc_of (QA := xk_Qv (dC, dI) xcl (xt cI cB cJ cZ cQ) (fun _ : Unit => True) (fun u : Unit => (wM h0 a cI cB cJ cZ y.2))) (by decide) (Nat.le_of_ble_eq_true rfl) ?_
  intro p e s0 m below meth c hx hb hml hown hg hr hlocks hin hP hK hN A hA hD hT ls hl
  have hown : s0.vm.findClass rn_M = some m.cls := hown
  obtain ⟨H, hH⟩ : ∃ z, z = s0.heap := ⟨_, rfl⟩
  rw [← hH] at hP
  have hS : va_S A s0.heap H [] := by rw [hH]; exact va_S.rf
  suffices kk : ∀ QQ : State → Prop, QQ = MQ below (xk_Qv (dC, dI) xcl (xt cI cB cJ cZ cQ) (fun _ : Unit => True) (fun u : Unit => (wM h0 a cI cB cJ cZ y.2)) A) [.ref h0, .ref ((a 82))].toArray s0 0 0 A → dcC p l e ({ frames := 3, cells := 0, slots := 0, locals := 96 }) s0 m [.ref h0, .ref ((a 82))].toArray below meth c QQ (dC, dI) A (wM h0 a cI cB cJ cZ s) 0 5 [(0, .ref h0), (1, .ref ((a 82)))] [] by
    have k9 := kk _ rfl H [] ls hP hD hS hl
    rw [hH] at k9; exact k9
  clear hP hD hS hl hH H ls
  intro QQ hQQ
  have hd_50 : ∀ (k_27 : Int32 → ms → Option (Unit × ms)) (hk_27 : ∀ (x2 : Int32) (s : ms), k_27 x2 s = some y → dcC p l e ({ frames := 3, cells := 0, slots := 0, locals := 96 }) s0 m [.ref h0, .ref ((a 82))].toArray below meth c QQ (dC, dI) A (wM h0 a cI cB cJ cZ s) 27 5 [(0, .ref h0), (2, .int x2)] []) (n : Nat) (x2 : Int32) (x3 : Int32) (x4 : Int32) (s : ms), hd_M_goOn_82_50 N k_27 n x2 x3 x4 s = some y → dcC p l e ({ frames := 3, cells := 0, slots := 0, locals := 96 }) s0 m [.ref h0, .ref ((a 82))].toArray below meth c QQ (dC, dI) A (wM h0 a cI cB cJ cZ s) 50 5 [(0, .ref h0), (2, .int x2), (3, .int x3), (4, .int x4)] [] := by
    intro k_27 hk_27 n
    induction n with
    | zero => intro x2 x3 x4 s hf; cases hf
    | succ n ih =>
      intro x2 x3 x4 s hf H locs ls hP hD hS hl
      have hf : bd_M_goOn_82_50 N k_27 (hd_M_goOn_82_50 N k_27 n) x2 x3 x4 s = some y := hf
      have hk_50 := ih
      generalize hd_M_goOn_82_50 N k_27 n = k_50 at hf hk_50
      unfold bd_M_goOn_82_50 at hf
      refine lv_iload hx hb dn_M_goOn_50 (lv_at hl 3 rfl) ?_
      refine lv_aload_n hx hb dn_M_goOn_52 rfl (lv_at hl 0 rfl) ?_
      refine va_get (D := (dC, dI)) (ci := 0) (v := .ref ((a 17))) (C := rn_M) (T := fn_M) (N := 91) hx hb hg in_M hown hK hP 0 rfl rfl 17 (by decide) (hg _ wn_8_90) (fun _ h9 => h9) rfl dn_M_goOn_53 ?_
      refine lv_iload_n hx hb dn_M_goOn_56 rfl (lv_at hl 2 rfl) ?_
      refine lv_iconst (v := 1) hx hb dn_M_goOn_57 (by decide) ?_
      refine lv_iadd hx hb dn_M_goOn_58 ?_
      obtain ⟨hg_1, hf⟩ := dc_g hf
      refine va_iald hx hb hK hP 9 0 rfl rfl hg_1 dn_M_goOn_59 ?_
      refine xk_ti (y := ((s.1 17) (Int32.toNatClampNeg ((x3 + 1))))) rfl ?_
      refine lv_icmp_ge (tgt := 88) hx hb dn_M_goOn_60 (by decide) (fun h => ?_) (fun h => ?_)
      · have hf := (if_pos h).symm.trans hf
        refine lv_iinc (v := (x2 + 1)) (lv' := [(2, .int ((x2 + 1))), (0, .ref h0), (3, .int x3), (4, .int x4)]) hx hb dn_M_goOn_88 hl (k := 1) rfl (dc_inc (by decide)) (by decide) rfl (fun ls hl => ?_)
        refine lv_goto (tgt := 27) hx hb dn_M_goOn_91 (by decide) ?_
        exact hk_27 ((x2 + 1)) s hf H locs ls hP hD hS (lv_sub hl [1, 0] rfl)
      · have hf := (if_neg h).symm.trans hf
        refine lv_aload_n hx hb dn_M_goOn_63 rfl (lv_at hl 0 rfl) ?_
        refine lv_aload_n hx hb dn_M_goOn_64 rfl (lv_at hl 0 rfl) ?_
        refine va_get (D := (dC, dI)) (ci := 0) (v := .ref ((a 39))) (C := rn_M) (T := fn_M) (N := 91) hx hb hg in_M hown hK hP 0 rfl rfl 39 (by decide) (hg _ wn_8_112) (fun _ h9 => h9) rfl dn_M_goOn_65 ?_
        refine lv_iload hx hb dn_M_goOn_68 (lv_at hl 3 rfl) ?_
        obtain ⟨hg_2, hf⟩ := dc_g hf
        refine va_iald hx hb hK hP 26 0 rfl rfl hg_2 dn_M_goOn_70 ?_
        refine xk_ti (y := ((s.1 39) (Int32.toNatClampNeg x4))) rfl ?_
        refine lv_aload_n hx hb dn_M_goOn_71 rfl (lv_at hl 0 rfl) ?_
        refine va_get (D := (dC, dI)) (ci := 0) (v := .ref ((a 40))) (C := rn_M) (T := fn_M) (N := 91) hx hb hg in_M hown hK hP 0 rfl rfl 40 (by decide) (hg _ wn_8_113) (fun _ h9 => h9) rfl dn_M_goOn_72 ?_
        refine lv_iload hx hb dn_M_goOn_75 (lv_at hl 3 rfl) ?_
        obtain ⟨hg_3, hf⟩ := dc_g hf
        refine va_iald hx hb hK hP 27 0 rfl rfl hg_3 dn_M_goOn_77 ?_
        refine xk_ti (y := ((s.1 40) (Int32.toNatClampNeg x4))) rfl ?_
        refine lv_iload_n hx hb dn_M_goOn_78 rfl (lv_at hl 1 rfl) ?_
        obtain ⟨q_4, hc_5, hf⟩ := dc_b hf
        refine dc_callv (dc_runV (ar := 3) (As := [.int (((s.1 39) (Int32.toNatClampNeg x4))), .int (((s.1 40) (Int32.toNatClampNeg x4))), .int x2]) (rest := []) (ci := 0) (q0 := 0) ⟨hx, hb, hml, hown, hg⟩ hK hN hT hS hA (ct_M_run l dC dI cI cB cJ cZ cQ N H.size h0 a (((s.1 39) (Int32.toNatClampNeg x4))) (((s.1 40) (Int32.toNatClampNeg x4))) x2 s q_4 hc_5) hP hD rfl rfl wn_10_213 wn_10_215 sn_M_run wn_1_13 wn_10_216 rfl rfl (by decide +kernel) ⟨Nat.le_of_ble_eq_true rfl, Nat.le_of_ble_eq_true rfl⟩ rfl hl.1 rfl (Nat.le_of_ble_eq_true rfl) dn_M_goOn_79 ⟨Nat.le_of_ble_eq_true rfl, Nat.le_of_ble_eq_true rfl⟩) hP hD hS hA (fun _ H locs hw hP hD hS => ?_)
        refine lv_iinc (v := (x4 + 1)) (lv' := [(4, .int ((x4 + 1))), (0, .ref h0), (2, .int x2), (3, .int x3)]) hx hb dn_M_goOn_82 hl (k := 3) rfl (dc_inc (by decide)) (by decide) rfl (fun ls hl => ?_)
        refine lv_goto (tgt := 50) hx hb dn_M_goOn_85 (by decide) ?_
        exact hk_50 x2 x3 ((x4 + 1)) q_4.2 hf H locs ls hP hD hS (lv_sub hl [1, 2, 3, 0] rfl)
  have hd_27 : ∀ (n : Nat) (x2 : Int32) (s : ms), hd_M_goOn_82_27 N n x2 s = some y → dcC p l e ({ frames := 3, cells := 0, slots := 0, locals := 96 }) s0 m [.ref h0, .ref ((a 82))].toArray below meth c QQ (dC, dI) A (wM h0 a cI cB cJ cZ s) 27 5 [(0, .ref h0), (2, .int x2)] [] := by
    intro n
    induction n with
    | zero => intro x2 s hf; cases hf
    | succ n ih =>
      intro x2 s hf H locs ls hP hD hS hl
      have hf : bd_M_goOn_82_27 N (hd_M_goOn_82_27 N n) x2 s = some y := hf
      have hk_27 := ih
      generalize hd_M_goOn_82_27 N n = k_27 at hf hk_27
      unfold bd_M_goOn_82_27 at hf
      refine lv_iload_n hx hb dn_M_goOn_27 rfl (lv_at hl 1 rfl) ?_
      refine lv_aload_n hx hb dn_M_goOn_28 rfl (lv_at hl 0 rfl) ?_
      refine va_get (D := (dC, dI)) (ci := 0) (v := .int ((s.1 56 0))) (C := rn_M) (T := fn_M) (N := 91) hx hb hg in_M hown hK hP 0 rfl rfl 56 (by decide) (hg _ wn_8_129) (fun _ h9 => h9) rfl dn_M_goOn_29 ?_
      refine lv_icmp_ge (tgt := 94) hx hb dn_M_goOn_32 (by decide) (fun h => ?_) (fun h => ?_)
      · have hf := (if_pos h).symm.trans hf
        rw [hQQ, ← Option.some.inj hf]
        exact xk_vret (w1 := fun u : Unit => (wM h0 a cI cB cJ cZ s)) () hx hb hr hlocks hK hS dn_M_goOn_94 hP hD trivial (Nat.le_refl _) (Nat.le_refl _)
      · have hf := (if_neg h).symm.trans hf
        refine lv_aload_n hx hb dn_M_goOn_35 rfl (lv_at hl 0 rfl) ?_
        refine va_get (D := (dC, dI)) (ci := 0) (v := .ref ((a 57))) (C := rn_M) (T := fn_M) (N := 91) hx hb hg in_M hown hK hP 0 rfl rfl 57 (by decide) (hg _ wn_8_130) (fun _ h9 => h9) rfl dn_M_goOn_36 ?_
        refine lv_iload_n hx hb dn_M_goOn_39 rfl (lv_at hl 1 rfl) ?_
        obtain ⟨hg_1, hf⟩ := dc_g hf
        refine va_iald hx hb hK hP 38 0 rfl rfl hg_1 dn_M_goOn_40 ?_
        refine xk_ti (y := ((s.1 57) (Int32.toNatClampNeg x2))) rfl ?_
        refine lv_istore_n (lv' := [(3, .int (((s.1 57) (Int32.toNatClampNeg x2)))), (0, .ref h0), (2, .int x2)]) hx hb dn_M_goOn_41 rfl hl (by decide) rfl (fun ls hl => ?_)
        refine lv_aload_n hx hb dn_M_goOn_42 rfl (lv_at hl 1 rfl) ?_
        refine va_get (D := (dC, dI)) (ci := 0) (v := .ref ((a 17))) (C := rn_M) (T := fn_M) (N := 91) hx hb hg in_M hown hK hP 0 rfl rfl 17 (by decide) (hg _ wn_8_90) (fun _ h9 => h9) rfl dn_M_goOn_43 ?_
        refine lv_iload_n hx hb dn_M_goOn_46 rfl (lv_at hl 0 rfl) ?_
        obtain ⟨hg_2, hf⟩ := dc_g hf
        refine va_iald hx hb hK hP 9 0 rfl rfl hg_2 dn_M_goOn_47 ?_
        refine xk_ti (y := ((s.1 17) (Int32.toNatClampNeg (((s.1 57) (Int32.toNatClampNeg x2)))))) rfl ?_
        refine lv_istore (lv' := [(4, .int (((s.1 17) (Int32.toNatClampNeg (((s.1 57) (Int32.toNatClampNeg x2))))))), (3, .int (((s.1 57) (Int32.toNatClampNeg x2)))), (0, .ref h0), (2, .int x2)]) hx hb dn_M_goOn_48 hl (by decide) rfl (fun ls hl => ?_)
        exact hd_50 k_27 hk_27 N x2 (((s.1 57) (Int32.toNatClampNeg x2))) (((s.1 17) (Int32.toNatClampNeg (((s.1 57) (Int32.toNatClampNeg x2)))))) s hf H locs ls hP hD hS (lv_sub hl [2, 3, 1, 0] rfl)
  have hd_2 : ∀ (n : Nat) (x2 : Int32) (s : ms), hd_M_goOn_82_2 N n x2 s = some y → dcC p l e ({ frames := 3, cells := 0, slots := 0, locals := 96 }) s0 m [.ref h0, .ref ((a 82))].toArray below meth c QQ (dC, dI) A (wM h0 a cI cB cJ cZ s) 2 5 [(0, .ref h0), (1, .ref ((a 82))), (2, .int x2)] [] := by
    intro n
    induction n with
    | zero => intro x2 s hf; cases hf
    | succ n ih =>
      intro x2 s hf H locs ls hP hD hS hl
      have hf : bd_M_goOn_82_2 N (hd_M_goOn_82_2 N n) x2 s = some y := hf
      have hk_2 := ih
      generalize hd_M_goOn_82_2 N n = k_2 at hf hk_2
      unfold bd_M_goOn_82_2 at hf
      refine lv_iload_n hx hb dn_M_goOn_2 rfl (lv_at hl 2 rfl) ?_
      refine lv_aload_n hx hb dn_M_goOn_3 rfl (lv_at hl 0 rfl) ?_
      refine va_get (D := (dC, dI)) (ci := 0) (v := .int ((s.1 63 0))) (C := rn_M) (T := fn_M) (N := 91) hx hb hg in_M hown hK hP 0 rfl rfl 63 (by decide) (hg _ wn_8_136) (fun _ h9 => h9) rfl dn_M_goOn_4 ?_
      refine lv_icmp_ge (tgt := 25) hx hb dn_M_goOn_7 (by decide) (fun h => ?_) (fun h => ?_)
      · have hf := (if_pos h).symm.trans hf
        refine lv_iconst (v := 0) hx hb dn_M_goOn_25 (by decide) ?_
        refine lv_istore_n (lv' := [(2, .int 0), (0, .ref h0), (1, .ref ((a 82)))]) hx hb dn_M_goOn_26 rfl hl (by decide) rfl (fun ls hl => ?_)
        exact hd_27 N 0 s hf H locs ls hP hD hS (lv_sub hl [1, 0] rfl)
      · have hf := (if_neg h).symm.trans hf
        refine lv_aload_n hx hb dn_M_goOn_10 rfl (lv_at hl 0 rfl) ?_
        refine va_get (D := (dC, dI)) (ci := 0) (v := .ref ((a 81))) (C := rn_M) (T := fn_M) (N := 91) hx hb hg in_M hown hK hP 0 rfl rfl 81 (by decide) (hg _ wn_8_154) (fun _ h9 => h9) rfl dn_M_goOn_11 ?_
        refine lv_iload_n hx hb dn_M_goOn_14 rfl (lv_at hl 2 rfl) ?_
        refine lv_aload_n hx hb dn_M_goOn_15 rfl (lv_at hl 1 rfl) ?_
        refine lv_iload_n hx hb dn_M_goOn_16 rfl (lv_at hl 2 rfl) ?_
        obtain ⟨hg_1, hf⟩ := dc_g hf
        refine va_lald hx hb hK hP 56 2 rfl rfl hg_1 dn_M_goOn_17 ?_
        refine xk_tl (y := ((s.2 82) (Int32.toNatClampNeg x2))) rfl ?_
        obtain ⟨hg_2, hf⟩ := dc_g hf
        refine va_last hx hb hK hP hD hS 55 2 rfl rfl hg_2 dn_M_goOn_18 (fun H locs hP hD hS => ?_)
        have hP : va_P (dC, dI) xcl ((wM h0 a cI cB cJ cZ s).set 55 ((a 81), .inl (cJ, 1100, .inr (.inl (vp_updL (s.2 81) (Int32.toNatClampNeg x2) (((s.2 82) (Int32.toNatClampNeg x2)))))))) H := hP
        have hD : va_D A ((wM h0 a cI cB cJ cZ s).set 55 ((a 81), .inl (cJ, 1100, .inr (.inl (vp_updL (s.2 81) (Int32.toNatClampNeg x2) (((s.2 82) (Int32.toNatClampNeg x2)))))))) := hD
        have hP := wM_P_81 hP
        have hD := wM_D_81 hD
        refine lv_iinc (v := (x2 + 1)) (lv' := [(2, .int ((x2 + 1))), (0, .ref h0), (1, .ref ((a 82)))]) hx hb dn_M_goOn_19 hl (k := 2) rfl (dc_inc (by decide)) (by decide) rfl (fun ls hl => ?_)
        refine lv_goto (tgt := 2) hx hb dn_M_goOn_22 (by decide) ?_
        exact hk_2 ((x2 + 1)) (upJ s 81 (vp_updL (s.2 81) (Int32.toNatClampNeg x2) (((s.2 82) (Int32.toNatClampNeg x2))))) hf H locs ls hP hD hS (lv_sub hl [1, 2, 0] rfl)
  intro H locs ls hP hD hS hl
  unfold fn_M_goOn_82 at hf
  refine lv_iconst (v := 0) hx hb dn_M_goOn_0 (by decide) ?_
  refine lv_istore_n (lv' := [(2, .int 0), (0, .ref h0), (1, .ref ((a 82)))]) hx hb dn_M_goOn_1 rfl hl (by decide) rfl (fun ls hl => ?_)
  exact hd_2 N 0 s hf H locs ls hP hD hS (lv_sub hl [1, 2, 0] rfl)
theorem mb_M_step_35 (N : Nat) (y : (Int32 × ms)) (k_35 : Int32 → ms → Option (Int32 × ms)) (hkm_35 : ∀ (x1 : Int32) (s : ms), k_35 x1 s = some y → gl y.2 = gl s) (x1 : Int32) (s : ms) (hf : bd_M_step_35 N k_35 x1 s = some y) : gl y.2 = gl s := by
  unfold bd_M_step_35 at hf
  have hm : gl s = gl s := rfl
  by_cases h : (s.1 63 0) ≤ x1
  · have hf := (if_pos h).symm.trans hf
    obtain ⟨q_1, hc_2, hf⟩ := dc_b hf
    have hm := (mn_M_settle_82_83 N s q_1 hc_2).trans hm
    exact (dc_e hf).trans hm
  · have hf := (if_neg h).symm.trans hf
    obtain ⟨_, hf⟩ := dc_g hf
    obtain ⟨_, hf⟩ := dc_g hf
    exact (hkm_35 ((x1 + 1)) (upJ s 82 (vp_updL (s.2 82) (Int32.toNatClampNeg x1) (((s.2 81) (Int32.toNatClampNeg x1))))) hf).trans hm
theorem mh_M_step_35 (N : Nat) (y : (Int32 × ms)) : ∀ (n : Nat) (x1 : Int32) (s : ms), hd_M_step_35 N n x1 s = some y → gl y.2 = gl s := by
  intro n
  induction n with
  | zero => intro x1 s hf; cases hf
  | succ n ih => intro x1 s hf; exact mb_M_step_35 N y (hd_M_step_35 N n) ih x1 s hf
theorem mo_M_step_13 (N : Nat) (y : (Int32 × ms)) (t0 : Int32) (s : ms) (hf : bk_M_step_13 N t0 s = some y) : gl y.2 = gl s := by
  unfold bk_M_step_13 at hf
  have hm : gl s = gl s := rfl
  by_cases h : t0 ≤ 0
  · have hf := (if_pos h).symm.trans hf
    obtain ⟨q_1, hc_2, hf⟩ := dc_b hf
    have hm := (mn_M_goOn_82 N (upI s 0 (fun _ => t0)) q_1 hc_2).trans hm
    exact (mh_M_step_35 N y N 0 q_1.2 hf).trans hm
  · have hf := (if_neg h).symm.trans hf
    exact (dc_e hf).trans hm
theorem mn_M_step (N : Nat) (s : ms) (y : (Int32 × ms)) (hf : fn_M_step N s = some y) : gl y.2 = gl s := by
  unfold fn_M_step at hf
  have hm : gl s = gl s := rfl
  by_cases h : (s.1 54 0) = 0
  · have hf := (if_pos h).symm.trans hf
    exact (mo_M_step_13 N y 1 s hf).trans hm
  · have hf := (if_neg h).symm.trans hf
    exact (mo_M_step_13 N y 0 s hf).trans hm
set_option maxHeartbeats 8000000 in
set_option maxRecDepth 100000 in
theorem ct_M_step (l : Launch) (dC : Nat → ClassId) (dI : Nat → Nat → Nat) (cI cB cJ cZ cQ : ClassId) (N sz : Nat) (h0 : Nat) (a : Nat → Nat) (s : ms) (y : (Int32 × ms)) (hf : fn_M_step N s = some y) : Met l yn_M_step (xw yn_M_step bn_M_step 2 (some .int)) ({ frames := 4, cells := 0, slots := 0, locals := 120 }) (dc_P (dC, dI) xcl (xt cI cB cJ cZ cQ) [.ref h0] sz (wM h0 a cI cB cJ cZ s)) (xk_Qi (dC, dI) xcl (xt cI cB cJ cZ cQ) (fun (r : Int32) (_ : Unit) => r = y.1) (fun u : Unit => (wM h0 a cI cB cJ cZ y.2)) (va_A (wM h0 a cI cB cJ cZ s) sz)) 0 0 (va_A (wM h0 a cI cB cJ cZ s) sz) := by
  refine dc_of (QA := xk_Qi (dC, dI) xcl (xt cI cB cJ cZ cQ) (fun (r : Int32) (_ : Unit) => r = y.1) (fun u : Unit => (wM h0 a cI cB cJ cZ y.2))) (by decide) (Nat.le_of_ble_eq_true rfl) ?_
  intro p e s0 m below meth c hx hb hml hown hg hr hlocks hin hP hK hN A hA hD hT ls hl
  have hown : s0.vm.findClass rn_M = some m.cls := hown
  obtain ⟨H, hH⟩ : ∃ z, z = s0.heap := ⟨_, rfl⟩
  rw [← hH] at hP
  have hS : va_S A s0.heap H [] := by rw [hH]; exact va_S.rf
  suffices kk : ∀ QQ : State → Prop, QQ = MQ below (xk_Qi (dC, dI) xcl (xt cI cB cJ cZ cQ) (fun (r : Int32) (_ : Unit) => r = y.1) (fun u : Unit => (wM h0 a cI cB cJ cZ y.2)) A) [.ref h0].toArray s0 0 0 A → dcC p l e ({ frames := 4, cells := 0, slots := 0, locals := 120 }) s0 m [.ref h0].toArray below meth c QQ (dC, dI) A (wM h0 a cI cB cJ cZ s) 0 2 [(0, .ref h0)] [] by
    have k9 := kk _ rfl H [] ls hP hD hS hl
    rw [hH] at k9; exact k9
  clear hP hD hS hl hH H ls
  intro QQ hQQ
  have hd_35 : ∀ (n : Nat) (x1 : Int32) (s : ms), hd_M_step_35 N n x1 s = some y → dcC p l e ({ frames := 4, cells := 0, slots := 0, locals := 120 }) s0 m [.ref h0].toArray below meth c QQ (dC, dI) A (wM h0 a cI cB cJ cZ s) 35 2 [(0, .ref h0), (1, .int x1)] [] := by
    intro n
    induction n with
    | zero => intro x1 s hf; cases hf
    | succ n ih =>
      intro x1 s hf H locs ls hP hD hS hl
      have hf : bd_M_step_35 N (hd_M_step_35 N n) x1 s = some y := hf
      have hk_35 := ih
      generalize hd_M_step_35 N n = k_35 at hf hk_35
      unfold bd_M_step_35 at hf
      refine lv_iload_n hx hb dn_M_step_35 rfl (lv_at hl 1 rfl) ?_
      refine lv_aload_n hx hb dn_M_step_36 rfl (lv_at hl 0 rfl) ?_
      refine va_get (D := (dC, dI)) (ci := 0) (v := .int ((s.1 63 0))) (C := rn_M) (T := fn_M) (N := 91) hx hb hg in_M hown hK hP 0 rfl rfl 63 (by decide) (hg _ wn_8_136) (fun _ h9 => h9) rfl dn_M_step_37 ?_
      refine lv_icmp_ge (tgt := 61) hx hb dn_M_step_40 (by decide) (fun h => ?_) (fun h => ?_)
      · have hf := (if_pos h).symm.trans hf
        refine lv_aload_n hx hb dn_M_step_61 rfl (lv_at hl 0 rfl) ?_
        refine lv_aload_n hx hb dn_M_step_62 rfl (lv_at hl 0 rfl) ?_
        refine va_get (D := (dC, dI)) (ci := 0) (v := .ref ((a 82))) (C := rn_M) (T := fn_M) (N := 91) hx hb hg in_M hown hK hP 0 rfl rfl 82 (by decide) (hg _ wn_8_155) (fun _ h9 => h9) rfl dn_M_step_63 ?_
        refine lv_aload_n hx hb dn_M_step_66 rfl (lv_at hl 0 rfl) ?_
        refine va_get (D := (dC, dI)) (ci := 0) (v := .ref ((a 83))) (C := rn_M) (T := fn_M) (N := 91) hx hb hg in_M hown hK hP 0 rfl rfl 83 (by decide) (hg _ wn_8_156) (fun _ h9 => h9) rfl dn_M_step_67 ?_
        obtain ⟨q_1, hc_2, hf⟩ := dc_b hf
        refine dc_callv (dc_runV (ar := 2) (As := [.ref ((a 82)), .ref ((a 83))]) (rest := []) (ci := 0) (q0 := 0) ⟨hx, hb, hml, hown, hg⟩ hK hN hT hS hA (ct_M_settle_82_83 l dC dI cI cB cJ cZ cQ N H.size h0 a s q_1 hc_2) hP hD rfl rfl wn_10_209 wn_10_211 sn_M_settle wn_1_13 wn_10_212 rfl rfl (by decide +kernel) ⟨Nat.le_of_ble_eq_true rfl, Nat.le_of_ble_eq_true rfl⟩ rfl hl.1 rfl (Nat.le_of_ble_eq_true rfl) dn_M_step_70 ⟨Nat.le_of_ble_eq_true rfl, Nat.le_of_ble_eq_true rfl⟩) hP hD hS hA (fun _ H locs hw hP hD hS => ?_)
        refine lv_aload_n hx hb dn_M_step_73 rfl (lv_at hl 0 rfl) ?_
        refine lv_dup hx hb dn_M_step_74 rfl ?_
        refine va_get (D := (dC, dI)) (ci := 0) (v := .int ((q_1.2.1 86 0))) (C := rn_M) (T := fn_M) (N := 91) hx hb hg in_M hown hK hP 0 rfl rfl 86 (by decide) (hg _ wn_8_159) (fun _ h9 => h9) rfl dn_M_step_75 ?_
        refine lv_iconst (v := 1) hx hb dn_M_step_78 (by decide) ?_
        refine lv_iadd hx hb dn_M_step_79 ?_
        refine va_put (D := (dC, dI)) (ci := 0) (v := .int (((q_1.2.1 86 0) + 1))) (ty := .int) (C := rn_M) (T := fn_M) (N := 91) hx hb hg in_M tn_M tk_M nn_M hown hK hP hD hS 0 rfl rfl 86 (by decide) (hg _ wn_8_159) (fun _ h9 => h9) rfl (tk_M 86 (by decide)) rfl rfl (Nat.le_of_ble_eq_true rfl) dn_M_step_80 (fun H locs hP hD hS => ?_)
        have hP := wM_P_86 hP
        have hD := wM_D_86 hD
        refine lv_aload_n hx hb dn_M_step_83 rfl (lv_at hl 0 rfl) ?_
        refine va_get (D := (dC, dI)) (ci := 0) (v := .int (((q_1.2.1 86 0) + 1))) (C := rn_M) (T := fn_M) (N := 91) hx hb hg in_M hown hK hP 0 rfl rfl 86 (by decide) (hg _ wn_8_159) (fun _ h9 => h9) rfl dn_M_step_84 ?_
        rw [hQQ, ← Option.some.inj hf]
        exact xk_iret (w1 := fun u : Unit => (wM h0 a cI cB cJ cZ (upI q_1.2 86 (fun _ => ((q_1.2.1 86 0) + 1))))) () hx hb hr hlocks hK hS dn_M_step_87 hP hD rfl (Nat.le_refl _) (Nat.le_refl _)
      · have hf := (if_neg h).symm.trans hf
        refine lv_aload_n hx hb dn_M_step_43 rfl (lv_at hl 0 rfl) ?_
        refine va_get (D := (dC, dI)) (ci := 0) (v := .ref ((a 82))) (C := rn_M) (T := fn_M) (N := 91) hx hb hg in_M hown hK hP 0 rfl rfl 82 (by decide) (hg _ wn_8_155) (fun _ h9 => h9) rfl dn_M_step_44 ?_
        refine lv_iload_n hx hb dn_M_step_47 rfl (lv_at hl 1 rfl) ?_
        refine lv_aload_n hx hb dn_M_step_48 rfl (lv_at hl 0 rfl) ?_
        refine va_get (D := (dC, dI)) (ci := 0) (v := .ref ((a 81))) (C := rn_M) (T := fn_M) (N := 91) hx hb hg in_M hown hK hP 0 rfl rfl 81 (by decide) (hg _ wn_8_154) (fun _ h9 => h9) rfl dn_M_step_49 ?_
        refine lv_iload_n hx hb dn_M_step_52 rfl (lv_at hl 1 rfl) ?_
        obtain ⟨hg_1, hf⟩ := dc_g hf
        refine va_lald hx hb hK hP 55 2 rfl rfl hg_1 dn_M_step_53 ?_
        refine xk_tl (y := ((s.2 81) (Int32.toNatClampNeg x1))) rfl ?_
        obtain ⟨hg_2, hf⟩ := dc_g hf
        refine va_last hx hb hK hP hD hS 56 2 rfl rfl hg_2 dn_M_step_54 (fun H locs hP hD hS => ?_)
        have hP : va_P (dC, dI) xcl ((wM h0 a cI cB cJ cZ s).set 56 ((a 82), .inl (cJ, 1100, .inr (.inl (vp_updL (s.2 82) (Int32.toNatClampNeg x1) (((s.2 81) (Int32.toNatClampNeg x1)))))))) H := hP
        have hD : va_D A ((wM h0 a cI cB cJ cZ s).set 56 ((a 82), .inl (cJ, 1100, .inr (.inl (vp_updL (s.2 82) (Int32.toNatClampNeg x1) (((s.2 81) (Int32.toNatClampNeg x1)))))))) := hD
        have hP := wM_P_82 hP
        have hD := wM_D_82 hD
        refine lv_iinc (v := (x1 + 1)) (lv' := [(1, .int ((x1 + 1))), (0, .ref h0)]) hx hb dn_M_step_55 hl (k := 1) rfl (dc_inc (by decide)) (by decide) rfl (fun ls hl => ?_)
        refine lv_goto (tgt := 35) hx hb dn_M_step_58 (by decide) ?_
        exact hk_35 ((x1 + 1)) (upJ s 82 (vp_updL (s.2 82) (Int32.toNatClampNeg x1) (((s.2 81) (Int32.toNatClampNeg x1))))) hf H locs ls hP hD hS (lv_sub hl [1, 0] rfl)
  have bl_13 : ∀ (t0 : Int32) (s : ms), bk_M_step_13 N t0 s = some y → dcC p l e ({ frames := 4, cells := 0, slots := 0, locals := 120 }) s0 m [.ref h0].toArray below meth c QQ (dC, dI) A (wM h0 a cI cB cJ cZ s) 13 2 [(0, .ref h0)] [.int t0, .ref h0] := by
    intro t0 s hf H locs ls hP hD hS hl
    unfold bk_M_step_13 at hf
    refine va_put (D := (dC, dI)) (ci := 0) (v := .int t0) (ty := .int) (C := rn_M) (T := fn_M) (N := 91) hx hb hg in_M tn_M tk_M nn_M hown hK hP hD hS 0 rfl rfl 0 (by decide) (hg _ wn_8_73) (fun _ h9 => h9) rfl (tk_M 0 (by decide)) rfl rfl (Nat.le_of_ble_eq_true rfl) dn_M_step_13 (fun H locs hP hD hS => ?_)
    have hP := wM_P_0 hP
    have hD := wM_D_0 hD
    refine lv_aload_n hx hb dn_M_step_16 rfl (lv_at hl 0 rfl) ?_
    refine va_get (D := (dC, dI)) (ci := 0) (v := .int t0) (C := rn_M) (T := fn_M) (N := 91) hx hb hg in_M hown hK hP 0 rfl rfl 0 (by decide) (hg _ wn_8_73) (fun _ h9 => h9) rfl dn_M_step_17 ?_
    refine lv_if_le (tgt := 25) hx hb dn_M_step_20 (by decide) (fun h => ?_) (fun h => ?_)
    · have hf := (if_pos h).symm.trans hf
      refine lv_aload_n hx hb dn_M_step_25 rfl (lv_at hl 0 rfl) ?_
      refine lv_aload_n hx hb dn_M_step_26 rfl (lv_at hl 0 rfl) ?_
      refine va_get (D := (dC, dI)) (ci := 0) (v := .ref ((a 82))) (C := rn_M) (T := fn_M) (N := 91) hx hb hg in_M hown hK hP 0 rfl rfl 82 (by decide) (hg _ wn_8_155) (fun _ h9 => h9) rfl dn_M_step_27 ?_
      obtain ⟨q_1, hc_2, hf⟩ := dc_b hf
      refine dc_callv (dc_runV (ar := 1) (As := [.ref ((a 82))]) (rest := []) (ci := 0) (q0 := 0) ⟨hx, hb, hml, hown, hg⟩ hK hN hT hS hA (ct_M_goOn_82 l dC dI cI cB cJ cZ cQ N H.size h0 a (upI s 0 (fun _ => t0)) q_1 hc_2) hP hD rfl rfl wn_11_51 wn_11_53 sn_M_goOn wn_1_13 wn_11_54 rfl rfl (by decide +kernel) ⟨Nat.le_of_ble_eq_true rfl, Nat.le_of_ble_eq_true rfl⟩ rfl hl.1 rfl (Nat.le_of_ble_eq_true rfl) dn_M_step_30 ⟨Nat.le_of_ble_eq_true rfl, Nat.le_of_ble_eq_true rfl⟩) hP hD hS hA (fun _ H locs hw hP hD hS => ?_)
      refine lv_iconst (v := 0) hx hb dn_M_step_33 (by decide) ?_
      refine lv_istore_n (lv' := [(1, .int 0), (0, .ref h0)]) hx hb dn_M_step_34 rfl hl (by decide) rfl (fun ls hl => ?_)
      exact hd_35 N 0 q_1.2 hf H locs ls hP hD hS (lv_sub hl [1, 0] rfl)
    · have hf := (if_neg h).symm.trans hf
      refine lv_iconst (v := 0) hx hb dn_M_step_23 (by decide) ?_
      rw [hQQ, ← Option.some.inj hf]
      exact xk_iret (w1 := fun u : Unit => (wM h0 a cI cB cJ cZ (upI s 0 (fun _ => t0)))) () hx hb hr hlocks hK hS dn_M_step_24 hP hD rfl (Nat.le_refl _) (Nat.le_refl _)
  intro H locs ls hP hD hS hl
  unfold fn_M_step at hf
  refine lv_aload_n hx hb dn_M_step_0 rfl (lv_at hl 0 rfl) ?_
  refine lv_aload_n hx hb dn_M_step_1 rfl (lv_at hl 0 rfl) ?_
  refine va_get (D := (dC, dI)) (ci := 0) (v := .int ((s.1 54 0))) (C := rn_M) (T := fn_M) (N := 91) hx hb hg in_M hown hK hP 0 rfl rfl 54 (by decide) (hg _ wn_8_127) (fun _ h9 => h9) rfl dn_M_step_2 ?_
  refine lv_if_eq (tgt := 12) hx hb dn_M_step_5 (by decide) (fun h => ?_) (fun h => ?_)
  · have hf := (if_pos h).symm.trans hf
    refine lv_iconst (v := 1) hx hb dn_M_step_12 (by decide) ?_
    exact bl_13 1 s hf H locs ls hP hD hS hl
  · have hf := (if_neg h).symm.trans hf
    refine lv_iconst (v := 0) hx hb dn_M_step_8 (by decide) ?_
    refine lv_goto (tgt := 13) hx hb dn_M_step_9 (by decide) ?_
    exact bl_13 0 s hf H locs ls hP hD hS hl
theorem mo_M_value_25 (N : Nat) (y : (Int64 × ms)) (x1 : Int32) (t0 : Int32) (s : ms) (hf : bk_M_value_25 N x1 t0 s = some y) : gl y.2 = gl s := by
  unfold bk_M_value_25 at hf
  have hm : gl s = gl s := rfl
  by_cases h : t0 ≤ 0
  · have hf := (if_pos h).symm.trans hf
    obtain ⟨_, hf⟩ := dc_g hf
    exact (dc_e hf).trans hm
  · have hf := (if_neg h).symm.trans hf
    exact (dc_e hf).trans hm
theorem mn_M_value (N : Nat) (v1 : Int32) (s : ms) (y : (Int64 × ms)) (hf : fn_M_value N v1 s = some y) : gl y.2 = gl s := by
  unfold fn_M_value at hf
  have hm : gl s = gl s := rfl
  by_cases h : (s.1 54 0) = 0
  · have hf := (if_pos h).symm.trans hf
    exact (mo_M_value_25 N y v1 1 s hf).trans hm
  · have hf := (if_neg h).symm.trans hf
    obtain ⟨q_1, hc_2, hf⟩ := dc_b hf
    have hm := (mn_M_isSignal N v1 s q_1 hc_2).trans hm
    by_cases h : q_1.1 = 0
    · have hf := (if_pos h).symm.trans hf
      exact (mo_M_value_25 N y v1 2 q_1.2 hf).trans hm
    · have hf := (if_neg h).symm.trans hf
      exact (mo_M_value_25 N y v1 0 q_1.2 hf).trans hm
set_option maxHeartbeats 8000000 in
set_option maxRecDepth 100000 in
theorem ct_M_value (l : Launch) (dC : Nat → ClassId) (dI : Nat → Nat → Nat) (cI cB cJ cZ cQ : ClassId) (N sz : Nat) (h0 : Nat) (a : Nat → Nat) (v1 : Int32) (s : ms) (y : (Int64 × ms)) (hf : fn_M_value N v1 s = some y) : Met l yn_M_value (xw yn_M_value bn_M_value 2 (some .long)) ({ frames := 1, cells := 0, slots := 0, locals := 21 }) (dc_P (dC, dI) xcl (xt cI cB cJ cZ cQ) [.ref h0, .int v1] sz (wM h0 a cI cB cJ cZ s)) (xk_Ql (dC, dI) xcl (xt cI cB cJ cZ cQ) (fun (r : Int64) (_ : Unit) => r = y.1) (fun u : Unit => (wM h0 a cI cB cJ cZ y.2)) (va_A (wM h0 a cI cB cJ cZ s) sz)) 0 0 (va_A (wM h0 a cI cB cJ cZ s) sz) := by
  refine dc_of (QA := xk_Ql (dC, dI) xcl (xt cI cB cJ cZ cQ) (fun (r : Int64) (_ : Unit) => r = y.1) (fun u : Unit => (wM h0 a cI cB cJ cZ y.2))) (by decide) (Nat.le_of_ble_eq_true rfl) ?_
  intro p e s0 m below meth c hx hb hml hown hg hr hlocks hin hP hK hN A hA hD hT ls hl
  have hown : s0.vm.findClass rn_M = some m.cls := hown
  obtain ⟨H, hH⟩ : ∃ z, z = s0.heap := ⟨_, rfl⟩
  rw [← hH] at hP
  have hS : va_S A s0.heap H [] := by rw [hH]; exact va_S.rf
  suffices kk : ∀ QQ : State → Prop, QQ = MQ below (xk_Ql (dC, dI) xcl (xt cI cB cJ cZ cQ) (fun (r : Int64) (_ : Unit) => r = y.1) (fun u : Unit => (wM h0 a cI cB cJ cZ y.2)) A) [.ref h0, .int v1].toArray s0 0 0 A → dcC p l e ({ frames := 1, cells := 0, slots := 0, locals := 21 }) s0 m [.ref h0, .int v1].toArray below meth c QQ (dC, dI) A (wM h0 a cI cB cJ cZ s) 0 2 [(0, .ref h0), (1, .int v1)] [] by
    have k9 := kk _ rfl H [] ls hP hD hS hl
    rw [hH] at k9; exact k9
  clear hP hD hS hl hH H ls
  intro QQ hQQ
  have bl_25 : ∀ (x1 : Int32) (t0 : Int32) (s : ms), bk_M_value_25 N x1 t0 s = some y → dcC p l e ({ frames := 1, cells := 0, slots := 0, locals := 21 }) s0 m [.ref h0, .int v1].toArray below meth c QQ (dC, dI) A (wM h0 a cI cB cJ cZ s) 25 2 [(0, .ref h0), (1, .int x1)] [.int t0, .ref h0] := by
    intro x1 t0 s hf H locs ls hP hD hS hl
    unfold bk_M_value_25 at hf
    refine va_put (D := (dC, dI)) (ci := 0) (v := .int t0) (ty := .int) (C := rn_M) (T := fn_M) (N := 91) hx hb hg in_M tn_M tk_M nn_M hown hK hP hD hS 0 rfl rfl 0 (by decide) (hg _ wn_8_73) (fun _ h9 => h9) rfl (tk_M 0 (by decide)) rfl rfl (Nat.le_of_ble_eq_true rfl) dn_M_value_25 (fun H locs hP hD hS => ?_)
    have hP := wM_P_0 hP
    have hD := wM_D_0 hD
    refine lv_aload_n hx hb dn_M_value_28 rfl (lv_at hl 0 rfl) ?_
    refine va_get (D := (dC, dI)) (ci := 0) (v := .int t0) (C := rn_M) (T := fn_M) (N := 91) hx hb hg in_M hown hK hP 0 rfl rfl 0 (by decide) (hg _ wn_8_73) (fun _ h9 => h9) rfl dn_M_value_29 ?_
    refine lv_if_le (tgt := 39) hx hb dn_M_value_32 (by decide) (fun h => ?_) (fun h => ?_)
    · have hf := (if_pos h).symm.trans hf
      refine lv_aload_n hx hb dn_M_value_39 rfl (lv_at hl 0 rfl) ?_
      refine va_get (D := (dC, dI)) (ci := 0) (v := .ref ((a 80))) (C := rn_M) (T := fn_M) (N := 91) hx hb hg in_M hown hK hP 0 rfl rfl 80 (by decide) (hg _ wn_8_153) (fun _ h9 => h9) rfl dn_M_value_40 ?_
      refine lv_iload_n hx hb dn_M_value_43 rfl (lv_at hl 1 rfl) ?_
      obtain ⟨hg_1, hf⟩ := dc_g hf
      refine va_lald hx hb hK hP 54 2 rfl rfl hg_1 dn_M_value_44 ?_
      refine xk_tl (y := ((s.2 80) (Int32.toNatClampNeg x1))) rfl ?_
      rw [hQQ, ← Option.some.inj hf]
      exact xk_lret (w1 := fun u : Unit => (wM h0 a cI cB cJ cZ (upI s 0 (fun _ => t0)))) () hx hb hr hlocks hK hS dn_M_value_45 hP hD rfl (Nat.le_refl _) (Nat.le_refl _)
    · have hf := (if_neg h).symm.trans hf
      refine lv_lconst (v := 0) hx hb dn_M_value_35 (by decide) ?_
      refine lv_goto (tgt := 45) hx hb dn_M_value_36 (by decide) ?_
      rw [hQQ, ← Option.some.inj hf]
      exact xk_lret (w1 := fun u : Unit => (wM h0 a cI cB cJ cZ (upI s 0 (fun _ => t0)))) () hx hb hr hlocks hK hS dn_M_value_45 hP hD rfl (Nat.le_refl _) (Nat.le_refl _)
  intro H locs ls hP hD hS hl
  unfold fn_M_value at hf
  refine lv_aload_n hx hb dn_M_value_0 rfl (lv_at hl 0 rfl) ?_
  refine lv_aload_n hx hb dn_M_value_1 rfl (lv_at hl 0 rfl) ?_
  refine va_get (D := (dC, dI)) (ci := 0) (v := .int ((s.1 54 0))) (C := rn_M) (T := fn_M) (N := 91) hx hb hg in_M hown hK hP 0 rfl rfl 54 (by decide) (hg _ wn_8_127) (fun _ h9 => h9) rfl dn_M_value_2 ?_
  refine lv_if_ne (tgt := 12) hx hb dn_M_value_5 (by decide) (fun h => ?_) (fun h => ?_)
  · have hf := (if_neg h).symm.trans hf
    refine lv_aload_n hx hb dn_M_value_12 rfl (lv_at hl 0 rfl) ?_
    refine lv_iload_n hx hb dn_M_value_13 rfl (lv_at hl 1 rfl) ?_
    obtain ⟨q_1, hc_2, hf⟩ := dc_b hf
    refine dc_calli (dc_runV (ar := 1) (As := [.int v1]) (rest := [.ref h0]) (ci := 0) (q0 := 0) ⟨hx, hb, hml, hown, hg⟩ hK hN hT hS hA (ct_M_isSignal l dC dI cI cB cJ cZ cQ N H.size h0 a v1 s q_1 hc_2) hP hD rfl rfl wn_11_31 wn_11_33 sn_M_isSignal wn_1_13 wn_11_34 rfl rfl (by decide +kernel) ⟨Nat.le_of_ble_eq_true rfl, Nat.le_of_ble_eq_true rfl⟩ rfl hl.1 rfl (Nat.le_of_ble_eq_true rfl) dn_M_value_14 ⟨Nat.le_of_ble_eq_true rfl, Nat.le_of_ble_eq_true rfl⟩) hP hD hS hA (fun r_3 _ H locs hw hP hD hS => ?_)
    have hw : r_3 = q_1.1 := hw
    subst hw
    refine lv_if_ne (tgt := 24) hx hb dn_M_value_17 (by decide) (fun h => ?_) (fun h => ?_)
    · have hf := (if_neg h).symm.trans hf
      refine lv_iconst (v := 0) hx hb dn_M_value_24 (by decide) ?_
      exact bl_25 v1 0 q_1.2 hf H locs ls hP hD hS hl
    · have hf := (if_pos h).symm.trans hf
      refine lv_iconst (v := 2) hx hb dn_M_value_20 (by decide) ?_
      refine lv_goto (tgt := 25) hx hb dn_M_value_21 (by decide) ?_
      exact bl_25 v1 2 q_1.2 hf H locs ls hP hD hS hl
  · have hf := (if_pos h).symm.trans hf
    refine lv_iconst (v := 1) hx hb dn_M_value_8 (by decide) ?_
    refine lv_goto (tgt := 25) hx hb dn_M_value_9 (by decide) ?_
    exact bl_25 v1 1 s hf H locs ls hP hD hS hl
theorem mb_M_failingNow_27 (N : Nat) (k_4 : Int32 → Int32 → ms → Option (Int32 × ms)) (y : (Int32 × ms)) (hkm_4 : ∀ (x1 : Int32) (x2 : Int32) (s : ms), k_4 x1 x2 s = some y → gl y.2 = gl s) (k_27 : Int32 → Int32 → Int32 → Int32 → ms → Option (Int32 × ms)) (hkm_27 : ∀ (x1 : Int32) (x2 : Int32) (x3 : Int32) (x4 : Int32) (s : ms), k_27 x1 x2 x3 x4 s = some y → gl y.2 = gl s) (x1 : Int32) (x2 : Int32) (x3 : Int32) (x4 : Int32) (s : ms) (hf : bd_M_failingNow_27 N k_4 k_27 x1 x2 x3 x4 s = some y) : gl y.2 = gl s := by
  unfold bd_M_failingNow_27 at hf
  have hm : gl s = gl s := rfl
  obtain ⟨_, hf⟩ := dc_g hf
  by_cases h : ((s.1 16) (Int32.toNatClampNeg ((x3 + 1)))) ≤ x4
  · have hf := (if_pos h).symm.trans hf
    exact (hkm_4 x1 ((x2 + 1)) s hf).trans hm
  · have hf := (if_neg h).symm.trans hf
    obtain ⟨_, hf⟩ := dc_g hf
    obtain ⟨_, hf⟩ := dc_g hf
    obtain ⟨q_4, hc_5, hf⟩ := dc_b hf
    have hm := (mn_M_run N (((s.1 36) (Int32.toNatClampNeg x4))) (((s.1 37) (Int32.toNatClampNeg x4))) x2 s q_4 hc_5).trans hm
    obtain ⟨q_6, hc_7, hf⟩ := dc_b hf
    have hm := (mn_M_pop N q_4.2 q_6 hc_7).trans hm
    by_cases h : (lg_cmp q_6.1 0) = 0
    · have hf := (if_pos h).symm.trans hf
      exact (hkm_27 ((x1 + 1)) x2 x3 ((x4 + 1)) q_6.2 hf).trans hm
    · have hf := (if_neg h).symm.trans hf
      exact (hkm_27 x1 x2 x3 ((x4 + 1)) q_6.2 hf).trans hm
theorem mh_M_failingNow_27 (N : Nat) (k_4 : Int32 → Int32 → ms → Option (Int32 × ms)) (y : (Int32 × ms)) (hkm_4 : ∀ (x1 : Int32) (x2 : Int32) (s : ms), k_4 x1 x2 s = some y → gl y.2 = gl s) : ∀ (n : Nat) (x1 : Int32) (x2 : Int32) (x3 : Int32) (x4 : Int32) (s : ms), hd_M_failingNow_27 N k_4 n x1 x2 x3 x4 s = some y → gl y.2 = gl s := by
  intro n
  induction n with
  | zero => intro x1 x2 x3 x4 s hf; cases hf
  | succ n ih => intro x1 x2 x3 x4 s hf; exact mb_M_failingNow_27 N k_4 y hkm_4 (hd_M_failingNow_27 N k_4 n) ih x1 x2 x3 x4 s hf
theorem mb_M_failingNow_4 (N : Nat) (y : (Int32 × ms)) (k_4 : Int32 → Int32 → ms → Option (Int32 × ms)) (hkm_4 : ∀ (x1 : Int32) (x2 : Int32) (s : ms), k_4 x1 x2 s = some y → gl y.2 = gl s) (x1 : Int32) (x2 : Int32) (s : ms) (hf : bd_M_failingNow_4 N k_4 x1 x2 s = some y) : gl y.2 = gl s := by
  unfold bd_M_failingNow_4 at hf
  have hm : gl s = gl s := rfl
  by_cases h : (s.1 56 0) ≤ x2
  · have hf := (if_pos h).symm.trans hf
    exact (dc_e hf).trans hm
  · have hf := (if_neg h).symm.trans hf
    obtain ⟨_, hf⟩ := dc_g hf
    obtain ⟨_, hf⟩ := dc_g hf
    exact (mh_M_failingNow_27 N k_4 y hkm_4 N x1 x2 (((s.1 57) (Int32.toNatClampNeg x2))) (((s.1 16) (Int32.toNatClampNeg (((s.1 57) (Int32.toNatClampNeg x2)))))) s hf).trans hm
theorem mh_M_failingNow_4 (N : Nat) (y : (Int32 × ms)) : ∀ (n : Nat) (x1 : Int32) (x2 : Int32) (s : ms), hd_M_failingNow_4 N n x1 x2 s = some y → gl y.2 = gl s := by
  intro n
  induction n with
  | zero => intro x1 x2 s hf; cases hf
  | succ n ih => intro x1 x2 s hf; exact mb_M_failingNow_4 N y (hd_M_failingNow_4 N n) ih x1 x2 s hf
theorem mn_M_failingNow (N : Nat) (s : ms) (y : (Int32 × ms)) (hf : fn_M_failingNow N s = some y) : gl y.2 = gl s := by
  unfold fn_M_failingNow at hf
  have hm : gl s = gl s := rfl
  exact (mh_M_failingNow_4 N y N 0 0 s hf).trans hm
set_option maxHeartbeats 8000000 in
set_option maxRecDepth 100000 in
theorem ct_M_failingNow (l : Launch) (dC : Nat → ClassId) (dI : Nat → Nat → Nat) (cI cB cJ cZ cQ : ClassId) (N sz : Nat) (h0 : Nat) (a : Nat → Nat) (s : ms) (y : (Int32 × ms)) (hf : fn_M_failingNow N s = some y) : Met l yn_M_failingNow (xw yn_M_failingNow bn_M_failingNow 5 (some .int)) ({ frames := 3, cells := 0, slots := 0, locals := 96 }) (dc_P (dC, dI) xcl (xt cI cB cJ cZ cQ) [.ref h0] sz (wM h0 a cI cB cJ cZ s)) (xk_Qi (dC, dI) xcl (xt cI cB cJ cZ cQ) (fun (r : Int32) (_ : Unit) => r = y.1) (fun u : Unit => (wM h0 a cI cB cJ cZ y.2)) (va_A (wM h0 a cI cB cJ cZ s) sz)) 0 0 (va_A (wM h0 a cI cB cJ cZ s) sz) := by
  refine dc_of (QA := xk_Qi (dC, dI) xcl (xt cI cB cJ cZ cQ) (fun (r : Int32) (_ : Unit) => r = y.1) (fun u : Unit => (wM h0 a cI cB cJ cZ y.2))) (by decide) (Nat.le_of_ble_eq_true rfl) ?_
  intro p e s0 m below meth c hx hb hml hown hg hr hlocks hin hP hK hN A hA hD hT ls hl
  have hown : s0.vm.findClass rn_M = some m.cls := hown
  obtain ⟨H, hH⟩ : ∃ z, z = s0.heap := ⟨_, rfl⟩
  rw [← hH] at hP
  have hS : va_S A s0.heap H [] := by rw [hH]; exact va_S.rf
  suffices kk : ∀ QQ : State → Prop, QQ = MQ below (xk_Qi (dC, dI) xcl (xt cI cB cJ cZ cQ) (fun (r : Int32) (_ : Unit) => r = y.1) (fun u : Unit => (wM h0 a cI cB cJ cZ y.2)) A) [.ref h0].toArray s0 0 0 A → dcC p l e ({ frames := 3, cells := 0, slots := 0, locals := 96 }) s0 m [.ref h0].toArray below meth c QQ (dC, dI) A (wM h0 a cI cB cJ cZ s) 0 5 [(0, .ref h0)] [] by
    have k9 := kk _ rfl H [] ls hP hD hS hl
    rw [hH] at k9; exact k9
  clear hP hD hS hl hH H ls
  intro QQ hQQ
  have hd_27 : ∀ (k_4 : Int32 → Int32 → ms → Option (Int32 × ms)) (hk_4 : ∀ (x1 : Int32) (x2 : Int32) (s : ms), k_4 x1 x2 s = some y → dcC p l e ({ frames := 3, cells := 0, slots := 0, locals := 96 }) s0 m [.ref h0].toArray below meth c QQ (dC, dI) A (wM h0 a cI cB cJ cZ s) 4 5 [(0, .ref h0), (1, .int x1), (2, .int x2)] []) (n : Nat) (x1 : Int32) (x2 : Int32) (x3 : Int32) (x4 : Int32) (s : ms), hd_M_failingNow_27 N k_4 n x1 x2 x3 x4 s = some y → dcC p l e ({ frames := 3, cells := 0, slots := 0, locals := 96 }) s0 m [.ref h0].toArray below meth c QQ (dC, dI) A (wM h0 a cI cB cJ cZ s) 27 5 [(0, .ref h0), (1, .int x1), (2, .int x2), (3, .int x3), (4, .int x4)] [] := by
    intro k_4 hk_4 n
    induction n with
    | zero => intro x1 x2 x3 x4 s hf; cases hf
    | succ n ih =>
      intro x1 x2 x3 x4 s hf H locs ls hP hD hS hl
      have hf : bd_M_failingNow_27 N k_4 (hd_M_failingNow_27 N k_4 n) x1 x2 x3 x4 s = some y := hf
      have hk_27 := ih
      generalize hd_M_failingNow_27 N k_4 n = k_27 at hf hk_27
      unfold bd_M_failingNow_27 at hf
      refine lv_iload hx hb dn_M_failingNow_27 (lv_at hl 4 rfl) ?_
      refine lv_aload_n hx hb dn_M_failingNow_29 rfl (lv_at hl 0 rfl) ?_
      refine va_get (D := (dC, dI)) (ci := 0) (v := .ref ((a 16))) (C := rn_M) (T := fn_M) (N := 91) hx hb hg in_M hown hK hP 0 rfl rfl 16 (by decide) (hg _ wn_8_89) (fun _ h9 => h9) rfl dn_M_failingNow_30 ?_
      refine lv_iload_n hx hb dn_M_failingNow_33 rfl (lv_at hl 3 rfl) ?_
      refine lv_iconst (v := 1) hx hb dn_M_failingNow_34 (by decide) ?_
      refine lv_iadd hx hb dn_M_failingNow_35 ?_
      obtain ⟨hg_1, hf⟩ := dc_g hf
      refine va_iald hx hb hK hP 8 0 rfl rfl hg_1 dn_M_failingNow_36 ?_
      refine xk_ti (y := ((s.1 16) (Int32.toNatClampNeg ((x3 + 1))))) rfl ?_
      refine lv_icmp_ge (tgt := 82) hx hb dn_M_failingNow_37 (by decide) (fun h => ?_) (fun h => ?_)
      · have hf := (if_pos h).symm.trans hf
        refine lv_iinc (v := (x2 + 1)) (lv' := [(2, .int ((x2 + 1))), (0, .ref h0), (1, .int x1), (3, .int x3), (4, .int x4)]) hx hb dn_M_failingNow_82 hl (k := 2) rfl (dc_inc (by decide)) (by decide) rfl (fun ls hl => ?_)
        refine lv_goto (tgt := 4) hx hb dn_M_failingNow_85 (by decide) ?_
        exact hk_4 x1 ((x2 + 1)) s hf H locs ls hP hD hS (lv_sub hl [1, 2, 0] rfl)
      · have hf := (if_neg h).symm.trans hf
        refine lv_aload_n hx hb dn_M_failingNow_40 rfl (lv_at hl 0 rfl) ?_
        refine lv_aload_n hx hb dn_M_failingNow_41 rfl (lv_at hl 0 rfl) ?_
        refine va_get (D := (dC, dI)) (ci := 0) (v := .ref ((a 36))) (C := rn_M) (T := fn_M) (N := 91) hx hb hg in_M hown hK hP 0 rfl rfl 36 (by decide) (hg _ wn_8_109) (fun _ h9 => h9) rfl dn_M_failingNow_42 ?_
        refine lv_iload hx hb dn_M_failingNow_45 (lv_at hl 4 rfl) ?_
        obtain ⟨hg_2, hf⟩ := dc_g hf
        refine va_iald hx hb hK hP 24 0 rfl rfl hg_2 dn_M_failingNow_47 ?_
        refine xk_ti (y := ((s.1 36) (Int32.toNatClampNeg x4))) rfl ?_
        refine lv_aload_n hx hb dn_M_failingNow_48 rfl (lv_at hl 0 rfl) ?_
        refine va_get (D := (dC, dI)) (ci := 0) (v := .ref ((a 37))) (C := rn_M) (T := fn_M) (N := 91) hx hb hg in_M hown hK hP 0 rfl rfl 37 (by decide) (hg _ wn_8_110) (fun _ h9 => h9) rfl dn_M_failingNow_49 ?_
        refine lv_iload hx hb dn_M_failingNow_52 (lv_at hl 4 rfl) ?_
        obtain ⟨hg_3, hf⟩ := dc_g hf
        refine va_iald hx hb hK hP 25 0 rfl rfl hg_3 dn_M_failingNow_54 ?_
        refine xk_ti (y := ((s.1 37) (Int32.toNatClampNeg x4))) rfl ?_
        refine lv_iload_n hx hb dn_M_failingNow_55 rfl (lv_at hl 2 rfl) ?_
        obtain ⟨q_4, hc_5, hf⟩ := dc_b hf
        refine dc_callv (dc_runV (ar := 3) (As := [.int (((s.1 36) (Int32.toNatClampNeg x4))), .int (((s.1 37) (Int32.toNatClampNeg x4))), .int x2]) (rest := []) (ci := 0) (q0 := 0) ⟨hx, hb, hml, hown, hg⟩ hK hN hT hS hA (ct_M_run l dC dI cI cB cJ cZ cQ N H.size h0 a (((s.1 36) (Int32.toNatClampNeg x4))) (((s.1 37) (Int32.toNatClampNeg x4))) x2 s q_4 hc_5) hP hD rfl rfl wn_10_213 wn_10_215 sn_M_run wn_1_13 wn_10_216 rfl rfl (by decide +kernel) ⟨Nat.le_of_ble_eq_true rfl, Nat.le_of_ble_eq_true rfl⟩ rfl hl.1 rfl (Nat.le_of_ble_eq_true rfl) dn_M_failingNow_56 ⟨Nat.le_of_ble_eq_true rfl, Nat.le_of_ble_eq_true rfl⟩) hP hD hS hA (fun _ H locs hw hP hD hS => ?_)
        refine lv_aload_n hx hb dn_M_failingNow_59 rfl (lv_at hl 0 rfl) ?_
        obtain ⟨q_6, hc_7, hf⟩ := dc_b hf
        refine dc_calll (dc_runV (ar := 0) (As := []) (rest := []) (ci := 0) (q0 := 0) ⟨hx, hb, hml, hown, hg⟩ hK hN hT hS hA (ct_M_pop l dC dI cI cB cJ cZ cQ N H.size h0 a q_4.2 q_6 hc_7) hP hD rfl rfl wn_10_221 wn_10_223 sn_M_pop wn_1_13 wn_10_224 rfl rfl (by decide +kernel) ⟨Nat.le_of_ble_eq_true rfl, Nat.le_of_ble_eq_true rfl⟩ rfl hl.1 rfl (Nat.le_of_ble_eq_true rfl) dn_M_failingNow_60 ⟨Nat.le_of_ble_eq_true rfl, Nat.le_of_ble_eq_true rfl⟩) hP hD hS hA (fun r_8 _ H locs hw hP hD hS => ?_)
        have hw : r_8 = q_6.1 := hw
        subst hw
        refine lv_lconst (v := 0) hx hb dn_M_failingNow_63 (by decide) ?_
        refine W.lcmp hx hb dn_M_failingNow_64 ?_
        refine lv_if_ne (tgt := 74) hx hb dn_M_failingNow_65 (by decide) (fun h => ?_) (fun h => ?_)
        · have hf := (if_neg h).symm.trans hf
          refine lv_iload_n hx hb dn_M_failingNow_74 rfl (lv_at hl 1 rfl) ?_
          refine lv_istore_n (lv' := [(1, .int x1), (0, .ref h0), (2, .int x2), (3, .int x3), (4, .int x4)]) hx hb dn_M_failingNow_75 rfl hl (by decide) rfl (fun ls hl => ?_)
          refine lv_iinc (v := (x4 + 1)) (lv' := [(4, .int ((x4 + 1))), (1, .int x1), (0, .ref h0), (2, .int x2), (3, .int x3)]) hx hb dn_M_failingNow_76 hl (k := 4) rfl (dc_inc (by decide)) (by decide) rfl (fun ls hl => ?_)
          refine lv_goto (tgt := 27) hx hb dn_M_failingNow_79 (by decide) ?_
          exact hk_27 x1 x2 x3 ((x4 + 1)) q_6.2 hf H locs ls hP hD hS (lv_sub hl [2, 1, 3, 4, 0] rfl)
        · have hf := (if_pos h).symm.trans hf
          refine lv_iload_n hx hb dn_M_failingNow_68 rfl (lv_at hl 1 rfl) ?_
          refine lv_iconst (v := 1) hx hb dn_M_failingNow_69 (by decide) ?_
          refine lv_iadd hx hb dn_M_failingNow_70 ?_
          refine lv_goto (tgt := 75) hx hb dn_M_failingNow_71 (by decide) ?_
          refine lv_istore_n (lv' := [(1, .int ((x1 + 1))), (0, .ref h0), (2, .int x2), (3, .int x3), (4, .int x4)]) hx hb dn_M_failingNow_75 rfl hl (by decide) rfl (fun ls hl => ?_)
          refine lv_iinc (v := (x4 + 1)) (lv' := [(4, .int ((x4 + 1))), (1, .int ((x1 + 1))), (0, .ref h0), (2, .int x2), (3, .int x3)]) hx hb dn_M_failingNow_76 hl (k := 4) rfl (dc_inc (by decide)) (by decide) rfl (fun ls hl => ?_)
          refine lv_goto (tgt := 27) hx hb dn_M_failingNow_79 (by decide) ?_
          exact hk_27 ((x1 + 1)) x2 x3 ((x4 + 1)) q_6.2 hf H locs ls hP hD hS (lv_sub hl [2, 1, 3, 4, 0] rfl)
  have hd_4 : ∀ (n : Nat) (x1 : Int32) (x2 : Int32) (s : ms), hd_M_failingNow_4 N n x1 x2 s = some y → dcC p l e ({ frames := 3, cells := 0, slots := 0, locals := 96 }) s0 m [.ref h0].toArray below meth c QQ (dC, dI) A (wM h0 a cI cB cJ cZ s) 4 5 [(0, .ref h0), (1, .int x1), (2, .int x2)] [] := by
    intro n
    induction n with
    | zero => intro x1 x2 s hf; cases hf
    | succ n ih =>
      intro x1 x2 s hf H locs ls hP hD hS hl
      have hf : bd_M_failingNow_4 N (hd_M_failingNow_4 N n) x1 x2 s = some y := hf
      have hk_4 := ih
      generalize hd_M_failingNow_4 N n = k_4 at hf hk_4
      unfold bd_M_failingNow_4 at hf
      refine lv_iload_n hx hb dn_M_failingNow_4 rfl (lv_at hl 2 rfl) ?_
      refine lv_aload_n hx hb dn_M_failingNow_5 rfl (lv_at hl 0 rfl) ?_
      refine va_get (D := (dC, dI)) (ci := 0) (v := .int ((s.1 56 0))) (C := rn_M) (T := fn_M) (N := 91) hx hb hg in_M hown hK hP 0 rfl rfl 56 (by decide) (hg _ wn_8_129) (fun _ h9 => h9) rfl dn_M_failingNow_6 ?_
      refine lv_icmp_ge (tgt := 88) hx hb dn_M_failingNow_9 (by decide) (fun h => ?_) (fun h => ?_)
      · have hf := (if_pos h).symm.trans hf
        refine lv_iload_n hx hb dn_M_failingNow_88 rfl (lv_at hl 1 rfl) ?_
        rw [hQQ, ← Option.some.inj hf]
        exact xk_iret (w1 := fun u : Unit => (wM h0 a cI cB cJ cZ s)) () hx hb hr hlocks hK hS dn_M_failingNow_89 hP hD rfl (Nat.le_refl _) (Nat.le_refl _)
      · have hf := (if_neg h).symm.trans hf
        refine lv_aload_n hx hb dn_M_failingNow_12 rfl (lv_at hl 0 rfl) ?_
        refine va_get (D := (dC, dI)) (ci := 0) (v := .ref ((a 57))) (C := rn_M) (T := fn_M) (N := 91) hx hb hg in_M hown hK hP 0 rfl rfl 57 (by decide) (hg _ wn_8_130) (fun _ h9 => h9) rfl dn_M_failingNow_13 ?_
        refine lv_iload_n hx hb dn_M_failingNow_16 rfl (lv_at hl 2 rfl) ?_
        obtain ⟨hg_1, hf⟩ := dc_g hf
        refine va_iald hx hb hK hP 38 0 rfl rfl hg_1 dn_M_failingNow_17 ?_
        refine xk_ti (y := ((s.1 57) (Int32.toNatClampNeg x2))) rfl ?_
        refine lv_istore_n (lv' := [(3, .int (((s.1 57) (Int32.toNatClampNeg x2)))), (0, .ref h0), (1, .int x1), (2, .int x2)]) hx hb dn_M_failingNow_18 rfl hl (by decide) rfl (fun ls hl => ?_)
        refine lv_aload_n hx hb dn_M_failingNow_19 rfl (lv_at hl 1 rfl) ?_
        refine va_get (D := (dC, dI)) (ci := 0) (v := .ref ((a 16))) (C := rn_M) (T := fn_M) (N := 91) hx hb hg in_M hown hK hP 0 rfl rfl 16 (by decide) (hg _ wn_8_89) (fun _ h9 => h9) rfl dn_M_failingNow_20 ?_
        refine lv_iload_n hx hb dn_M_failingNow_23 rfl (lv_at hl 0 rfl) ?_
        obtain ⟨hg_2, hf⟩ := dc_g hf
        refine va_iald hx hb hK hP 8 0 rfl rfl hg_2 dn_M_failingNow_24 ?_
        refine xk_ti (y := ((s.1 16) (Int32.toNatClampNeg (((s.1 57) (Int32.toNatClampNeg x2)))))) rfl ?_
        refine lv_istore (lv' := [(4, .int (((s.1 16) (Int32.toNatClampNeg (((s.1 57) (Int32.toNatClampNeg x2))))))), (3, .int (((s.1 57) (Int32.toNatClampNeg x2)))), (0, .ref h0), (1, .int x1), (2, .int x2)]) hx hb dn_M_failingNow_25 hl (by decide) rfl (fun ls hl => ?_)
        exact hd_27 k_4 hk_4 N x1 x2 (((s.1 57) (Int32.toNatClampNeg x2))) (((s.1 16) (Int32.toNatClampNeg (((s.1 57) (Int32.toNatClampNeg x2)))))) s hf H locs ls hP hD hS (lv_sub hl [2, 3, 4, 1, 0] rfl)
  intro H locs ls hP hD hS hl
  unfold fn_M_failingNow at hf
  refine lv_iconst (v := 0) hx hb dn_M_failingNow_0 (by decide) ?_
  refine lv_istore_n (lv' := [(1, .int 0), (0, .ref h0)]) hx hb dn_M_failingNow_1 rfl hl (by decide) rfl (fun ls hl => ?_)
  refine lv_iconst (v := 0) hx hb dn_M_failingNow_2 (by decide) ?_
  refine lv_istore_n (lv' := [(2, .int 0), (1, .int 0), (0, .ref h0)]) hx hb dn_M_failingNow_3 rfl hl (by decide) rfl (fun ls hl => ?_)
  exact hd_4 N 0 0 s hf H locs ls hP hD hS (lv_sub hl [2, 1, 0] rfl)
theorem mo_M_failing_13 (N : Nat) (y : (Int32 × ms)) (t0 : Int32) (s : ms) (hf : bk_M_failing_13 N t0 s = some y) : gl y.2 = gl s := by
  unfold bk_M_failing_13 at hf
  have hm : gl s = gl s := rfl
  by_cases h : t0 ≤ 0
  · have hf := (if_pos h).symm.trans hf
    obtain ⟨q_1, hc_2, hf⟩ := dc_b hf
    have hm := (mn_M_failingNow N (upI s 0 (fun _ => t0)) q_1 hc_2).trans hm
    exact (dc_e hf).trans hm
  · have hf := (if_neg h).symm.trans hf
    exact (dc_e hf).trans hm
theorem mn_M_failing (N : Nat) (s : ms) (y : (Int32 × ms)) (hf : fn_M_failing N s = some y) : gl y.2 = gl s := by
  unfold fn_M_failing at hf
  have hm : gl s = gl s := rfl
  by_cases h : (s.1 54 0) = 0
  · have hf := (if_pos h).symm.trans hf
    exact (mo_M_failing_13 N y 1 s hf).trans hm
  · have hf := (if_neg h).symm.trans hf
    exact (mo_M_failing_13 N y 0 s hf).trans hm
set_option maxHeartbeats 8000000 in
set_option maxRecDepth 100000 in
theorem ct_M_failing (l : Launch) (dC : Nat → ClassId) (dI : Nat → Nat → Nat) (cI cB cJ cZ cQ : ClassId) (N sz : Nat) (h0 : Nat) (a : Nat → Nat) (s : ms) (y : (Int32 × ms)) (hf : fn_M_failing N s = some y) : Met l yn_M_failing (xw yn_M_failing bn_M_failing 1 (some .int)) ({ frames := 4, cells := 0, slots := 0, locals := 120 }) (dc_P (dC, dI) xcl (xt cI cB cJ cZ cQ) [.ref h0] sz (wM h0 a cI cB cJ cZ s)) (xk_Qi (dC, dI) xcl (xt cI cB cJ cZ cQ) (fun (r : Int32) (_ : Unit) => r = y.1) (fun u : Unit => (wM h0 a cI cB cJ cZ y.2)) (va_A (wM h0 a cI cB cJ cZ s) sz)) 0 0 (va_A (wM h0 a cI cB cJ cZ s) sz) := by
  refine dc_of (QA := xk_Qi (dC, dI) xcl (xt cI cB cJ cZ cQ) (fun (r : Int32) (_ : Unit) => r = y.1) (fun u : Unit => (wM h0 a cI cB cJ cZ y.2))) (by decide) (Nat.le_of_ble_eq_true rfl) ?_
  intro p e s0 m below meth c hx hb hml hown hg hr hlocks hin hP hK hN A hA hD hT ls hl
  have hown : s0.vm.findClass rn_M = some m.cls := hown
  obtain ⟨H, hH⟩ : ∃ z, z = s0.heap := ⟨_, rfl⟩
  rw [← hH] at hP
  have hS : va_S A s0.heap H [] := by rw [hH]; exact va_S.rf
  suffices kk : ∀ QQ : State → Prop, QQ = MQ below (xk_Qi (dC, dI) xcl (xt cI cB cJ cZ cQ) (fun (r : Int32) (_ : Unit) => r = y.1) (fun u : Unit => (wM h0 a cI cB cJ cZ y.2)) A) [.ref h0].toArray s0 0 0 A → dcC p l e ({ frames := 4, cells := 0, slots := 0, locals := 120 }) s0 m [.ref h0].toArray below meth c QQ (dC, dI) A (wM h0 a cI cB cJ cZ s) 0 1 [(0, .ref h0)] [] by
    have k9 := kk _ rfl H [] ls hP hD hS hl
    rw [hH] at k9; exact k9
  clear hP hD hS hl hH H ls
  intro QQ hQQ
  have bl_13 : ∀ (t0 : Int32) (s : ms), bk_M_failing_13 N t0 s = some y → dcC p l e ({ frames := 4, cells := 0, slots := 0, locals := 120 }) s0 m [.ref h0].toArray below meth c QQ (dC, dI) A (wM h0 a cI cB cJ cZ s) 13 1 [(0, .ref h0)] [.int t0, .ref h0] := by
    intro t0 s hf H locs ls hP hD hS hl
    unfold bk_M_failing_13 at hf
    refine va_put (D := (dC, dI)) (ci := 0) (v := .int t0) (ty := .int) (C := rn_M) (T := fn_M) (N := 91) hx hb hg in_M tn_M tk_M nn_M hown hK hP hD hS 0 rfl rfl 0 (by decide) (hg _ wn_8_73) (fun _ h9 => h9) rfl (tk_M 0 (by decide)) rfl rfl (Nat.le_of_ble_eq_true rfl) dn_M_failing_13 (fun H locs hP hD hS => ?_)
    have hP := wM_P_0 hP
    have hD := wM_D_0 hD
    refine lv_aload_n hx hb dn_M_failing_16 rfl (lv_at hl 0 rfl) ?_
    refine va_get (D := (dC, dI)) (ci := 0) (v := .int t0) (C := rn_M) (T := fn_M) (N := 91) hx hb hg in_M hown hK hP 0 rfl rfl 0 (by decide) (hg _ wn_8_73) (fun _ h9 => h9) rfl dn_M_failing_17 ?_
    refine lv_if_le (tgt := 27) hx hb dn_M_failing_20 (by decide) (fun h => ?_) (fun h => ?_)
    · have hf := (if_pos h).symm.trans hf
      refine lv_aload_n hx hb dn_M_failing_27 rfl (lv_at hl 0 rfl) ?_
      obtain ⟨q_1, hc_2, hf⟩ := dc_b hf
      refine dc_calli (dc_runV (ar := 0) (As := []) (rest := []) (ci := 0) (q0 := 0) ⟨hx, hb, hml, hown, hg⟩ hK hN hT hS hA (ct_M_failingNow l dC dI cI cB cJ cZ cQ N H.size h0 a (upI s 0 (fun _ => t0)) q_1 hc_2) hP hD rfl rfl wn_11_63 wn_11_65 sn_M_failingNow wn_1_13 wn_11_66 rfl rfl (by decide +kernel) ⟨Nat.le_of_ble_eq_true rfl, Nat.le_of_ble_eq_true rfl⟩ rfl hl.1 rfl (Nat.le_of_ble_eq_true rfl) dn_M_failing_28 ⟨Nat.le_of_ble_eq_true rfl, Nat.le_of_ble_eq_true rfl⟩) hP hD hS hA (fun r_3 _ H locs hw hP hD hS => ?_)
      have hw : r_3 = q_1.1 := hw
      subst hw
      rw [hQQ, ← Option.some.inj hf]
      exact xk_iret (w1 := fun u : Unit => (wM h0 a cI cB cJ cZ q_1.2)) () hx hb hr hlocks hK hS dn_M_failing_31 hP hD rfl (Nat.le_refl _) (Nat.le_refl _)
    · have hf := (if_neg h).symm.trans hf
      refine lv_iconst (v := 0) hx hb dn_M_failing_23 (by decide) ?_
      refine lv_goto (tgt := 31) hx hb dn_M_failing_24 (by decide) ?_
      rw [hQQ, ← Option.some.inj hf]
      exact xk_iret (w1 := fun u : Unit => (wM h0 a cI cB cJ cZ (upI s 0 (fun _ => t0)))) () hx hb hr hlocks hK hS dn_M_failing_31 hP hD rfl (Nat.le_refl _) (Nat.le_refl _)
  intro H locs ls hP hD hS hl
  unfold fn_M_failing at hf
  refine lv_aload_n hx hb dn_M_failing_0 rfl (lv_at hl 0 rfl) ?_
  refine lv_aload_n hx hb dn_M_failing_1 rfl (lv_at hl 0 rfl) ?_
  refine va_get (D := (dC, dI)) (ci := 0) (v := .int ((s.1 54 0))) (C := rn_M) (T := fn_M) (N := 91) hx hb hg in_M hown hK hP 0 rfl rfl 54 (by decide) (hg _ wn_8_127) (fun _ h9 => h9) rfl dn_M_failing_2 ?_
  refine lv_if_eq (tgt := 12) hx hb dn_M_failing_5 (by decide) (fun h => ?_) (fun h => ?_)
  · have hf := (if_pos h).symm.trans hf
    refine lv_iconst (v := 1) hx hb dn_M_failing_12 (by decide) ?_
    exact bl_13 1 s hf H locs ls hP hD hS hl
  · have hf := (if_neg h).symm.trans hf
    refine lv_iconst (v := 0) hx hb dn_M_failing_8 (by decide) ?_
    refine lv_goto (tgt := 13) hx hb dn_M_failing_9 (by decide) ?_
    exact bl_13 0 s hf H locs ls hP hD hS hl
