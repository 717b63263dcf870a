theorem mb_M_begin0_7 (N : Nat) (y : (Unit × ms)) (k_7 : Int32 → ms → Option (Unit × ms)) (hkm_7 : ∀ (x1 : Int32) (s : ms), k_7 x1 s = some y → gl y.2 = gl s) (x1 : Int32) (s : ms) (hf : bd_M_begin0_7 N k_7 x1 s = some y) : gl y.2 = gl s := by
  unfold bd_M_begin0_7 at hf
  have hm : gl s = gl s := rfl
  by_cases h : (s.1 63 0) ≤ x1
  · have hf := (if_pos h).symm.trans hf
    obtain ⟨q_1, hc_2, hf⟩ := dc_b hf
    have hm := (mn_M_settle_82_83 N s q_1 hc_2).trans hm
    exact (dc_e hf).trans hm
  · have hf := (if_neg h).symm.trans hf
    obtain ⟨_, hf⟩ := dc_g hf
    obtain ⟨_, hf⟩ := dc_g hf
    obtain ⟨_, hf⟩ := dc_g hf
    obtain ⟨_, hf⟩ := dc_g hf
    exact (hkm_7 ((x1 + 1)) (upJ (upJ s 82 (vp_updL (s.2 82) (Int32.toNatClampNeg x1) (((s.2 22) (Int32.toNatClampNeg (((s.1 64) (Int32.toNatClampNeg x1)))))))) 83 (vp_updL (s.2 83) (Int32.toNatClampNeg x1) 0)) hf).trans hm
theorem mh_M_begin0_7 (N : Nat) (y : (Unit × ms)) : ∀ (n : Nat) (x1 : Int32) (s : ms), hd_M_begin0_7 N n x1 s = some y → gl y.2 = gl s := by
  intro n
  induction n with
  | zero => intro x1 s hf; cases hf
  | succ n ih => intro x1 s hf; exact mb_M_begin0_7 N y (hd_M_begin0_7 N n) ih x1 s hf
theorem mn_M_begin0 (N : Nat) (s : ms) (y : (Unit × ms)) (hf : fn_M_begin0 N s = some y) : gl y.2 = gl s := by
  unfold fn_M_begin0 at hf
  have hm : gl s = gl s := rfl
  exact (mh_M_begin0_7 N y N 0 (upI s 86 (fun _ => 0)) hf).trans hm
set_option maxHeartbeats 8000000 in
set_option maxRecDepth 100000 in
theorem ct_M_begin0 (l : Launch) (dC : Nat → ClassId) (dI : Nat → Nat → Nat) (cI cB cJ cZ cQ : ClassId) (N sz : Nat) (h0 : Nat) (a : Nat → Nat) (s : ms) (y : (Unit × ms)) (hf : fn_M_begin0 N s = some y) : Met l yn_M_begin0 (xw yn_M_begin0 bn_M_begin0 2 none) ({ frames := 4, cells := 0, slots := 0, locals := 120 }) (dc_P (dC, dI) xcl (xt cI cB cJ cZ cQ) [.ref h0] sz (wM h0 a cI cB cJ cZ s)) (xk_Qv (dC, dI) xcl (xt cI cB cJ cZ cQ) (fun _ : Unit => True) (fun u : Unit => (wM h0 a cI cB cJ cZ y.2)) (va_A (wM h0 a cI cB cJ cZ s) sz)) 0 0 (va_A (wM h0 a cI cB cJ cZ s) sz) := by
  refine dc_of (QA := xk_Qv (dC, dI) xcl (xt cI cB cJ cZ cQ) (fun _ : Unit => True) (fun u : Unit => (wM h0 a cI cB cJ cZ y.2))) (by decide) (Nat.le_of_ble_eq_true rfl) ?_
  intro p e s0 m below meth c hx hb hml hown hg hr hlocks hin hP hK hN A hA hD hT ls hl
  have hown : s0.vm.findClass rn_M = some m.cls := hown
  obtain ⟨H, hH⟩ : ∃ z, z = s0.heap := ⟨_, rfl⟩
  rw [← hH] at hP
  have hS : va_S A s0.heap H [] := by rw [hH]; exact va_S.rf
  suffices kk : ∀ QQ : State → Prop, QQ = MQ below (xk_Qv (dC, dI) xcl (xt cI cB cJ cZ cQ) (fun _ : Unit => True) (fun u : Unit => (wM h0 a cI cB cJ cZ y.2)) A) [.ref h0].toArray s0 0 0 A → dcC p l e ({ frames := 4, cells := 0, slots := 0, locals := 120 }) s0 m [.ref h0].toArray below meth c QQ (dC, dI) A (wM h0 a cI cB cJ cZ s) 0 2 [(0, .ref h0)] [] by
    have k9 := kk _ rfl H [] ls hP hD hS hl
    rw [hH] at k9; exact k9
  clear hP hD hS hl hH H ls
  intro QQ hQQ
  have hd_7 : ∀ (n : Nat) (x1 : Int32) (s : ms), hd_M_begin0_7 N n x1 s = some y → dcC p l e ({ frames := 4, cells := 0, slots := 0, locals := 120 }) s0 m [.ref h0].toArray below meth c QQ (dC, dI) A (wM h0 a cI cB cJ cZ s) 7 2 [(0, .ref h0), (1, .int x1)] [] := by
    intro n
    induction n with
    | zero => intro x1 s hf; cases hf
    | succ n ih =>
      intro x1 s hf H locs ls hP hD hS hl
      have hf : bd_M_begin0_7 N (hd_M_begin0_7 N n) x1 s = some y := hf
      have hk_7 := ih
      generalize hd_M_begin0_7 N n = k_7 at hf hk_7
      unfold bd_M_begin0_7 at hf
      refine lv_iload_n hx hb dn_M_begin0_7 rfl (lv_at hl 1 rfl) ?_
      refine lv_aload_n hx hb dn_M_begin0_8 rfl (lv_at hl 0 rfl) ?_
      refine va_get (D := (dC, dI)) (ci := 0) (v := .int ((s.1 63 0))) (C := rn_M) (T := fn_M) (N := 91) hx hb hg in_M hown hK hP 0 rfl rfl 63 (by decide) (hg _ wn_8_136) (fun _ h9 => h9) rfl dn_M_begin0_9 ?_
      refine lv_icmp_ge (tgt := 45) hx hb dn_M_begin0_12 (by decide) (fun h => ?_) (fun h => ?_)
      · have hf := (if_pos h).symm.trans hf
        refine lv_aload_n hx hb dn_M_begin0_45 rfl (lv_at hl 0 rfl) ?_
        refine lv_aload_n hx hb dn_M_begin0_46 rfl (lv_at hl 0 rfl) ?_
        refine va_get (D := (dC, dI)) (ci := 0) (v := .ref ((a 82))) (C := rn_M) (T := fn_M) (N := 91) hx hb hg in_M hown hK hP 0 rfl rfl 82 (by decide) (hg _ wn_8_155) (fun _ h9 => h9) rfl dn_M_begin0_47 ?_
        refine lv_aload_n hx hb dn_M_begin0_50 rfl (lv_at hl 0 rfl) ?_
        refine va_get (D := (dC, dI)) (ci := 0) (v := .ref ((a 83))) (C := rn_M) (T := fn_M) (N := 91) hx hb hg in_M hown hK hP 0 rfl rfl 83 (by decide) (hg _ wn_8_156) (fun _ h9 => h9) rfl dn_M_begin0_51 ?_
        obtain ⟨q_1, hc_2, hf⟩ := dc_b hf
        refine dc_callv (dc_runV (ar := 2) (As := [.ref ((a 82)), .ref ((a 83))]) (rest := []) (ci := 0) (q0 := 0) ⟨hx, hb, hml, hown, hg⟩ hK hN hT hS hA (ct_M_settle_82_83 l dC dI cI cB cJ cZ cQ N H.size h0 a s q_1 hc_2) hP hD rfl rfl wn_10_209 wn_10_211 sn_M_settle wn_1_13 wn_10_212 rfl rfl (by decide +kernel) ⟨Nat.le_of_ble_eq_true rfl, Nat.le_of_ble_eq_true rfl⟩ rfl hl.1 rfl (Nat.le_of_ble_eq_true rfl) dn_M_begin0_54 ⟨Nat.le_of_ble_eq_true rfl, Nat.le_of_ble_eq_true rfl⟩) hP hD hS hA (fun _ H locs hw hP hD hS => ?_)
        rw [hQQ, ← Option.some.inj hf]
        exact xk_vret (w1 := fun u : Unit => (wM h0 a cI cB cJ cZ q_1.2)) () hx hb hr hlocks hK hS dn_M_begin0_57 hP hD trivial (Nat.le_refl _) (Nat.le_refl _)
      · have hf := (if_neg h).symm.trans hf
        refine lv_aload_n hx hb dn_M_begin0_15 rfl (lv_at hl 0 rfl) ?_
        refine va_get (D := (dC, dI)) (ci := 0) (v := .ref ((a 82))) (C := rn_M) (T := fn_M) (N := 91) hx hb hg in_M hown hK hP 0 rfl rfl 82 (by decide) (hg _ wn_8_155) (fun _ h9 => h9) rfl dn_M_begin0_16 ?_
        refine lv_iload_n hx hb dn_M_begin0_19 rfl (lv_at hl 1 rfl) ?_
        refine lv_aload_n hx hb dn_M_begin0_20 rfl (lv_at hl 0 rfl) ?_
        refine va_get (D := (dC, dI)) (ci := 0) (v := .ref ((a 22))) (C := rn_M) (T := fn_M) (N := 91) hx hb hg in_M hown hK hP 0 rfl rfl 22 (by decide) (hg _ wn_8_95) (fun _ h9 => h9) rfl dn_M_begin0_21 ?_
        refine lv_aload_n hx hb dn_M_begin0_24 rfl (lv_at hl 0 rfl) ?_
        refine va_get (D := (dC, dI)) (ci := 0) (v := .ref ((a 64))) (C := rn_M) (T := fn_M) (N := 91) hx hb hg in_M hown hK hP 0 rfl rfl 64 (by decide) (hg _ wn_8_137) (fun _ h9 => h9) rfl dn_M_begin0_25 ?_
        refine lv_iload_n hx hb dn_M_begin0_28 rfl (lv_at hl 1 rfl) ?_
        obtain ⟨hg_1, hf⟩ := dc_g hf
        refine va_iald hx hb hK hP 44 0 rfl rfl hg_1 dn_M_begin0_29 ?_
        refine xk_ti (y := ((s.1 64) (Int32.toNatClampNeg x1))) rfl ?_
        obtain ⟨hg_2, hf⟩ := dc_g hf
        refine va_lald hx hb hK hP 13 2 rfl rfl hg_2 dn_M_begin0_30 ?_
        refine xk_tl (y := ((s.2 22) (Int32.toNatClampNeg (((s.1 64) (Int32.toNatClampNeg x1)))))) rfl ?_
        obtain ⟨hg_3, hf⟩ := dc_g hf
        refine va_last hx hb hK hP hD hS 56 2 rfl rfl hg_3 dn_M_begin0_31 (fun H locs hP hD hS => ?_)
        have hP : va_P (dC, dI) xcl ((wM h0 a cI cB cJ cZ s).set 56 ((a 82), .inl (cJ, 1100, .inr (.inl (vp_updL (s.2 82) (Int32.toNatClampNeg x1) (((s.2 22) (Int32.toNatClampNeg (((s.1 64) (Int32.toNatClampNeg x1))))))))))) H := hP
        have hD : va_D A ((wM h0 a cI cB cJ cZ s).set 56 ((a 82), .inl (cJ, 1100, .inr (.inl (vp_updL (s.2 82) (Int32.toNatClampNeg x1) (((s.2 22) (Int32.toNatClampNeg (((s.1 64) (Int32.toNatClampNeg x1))))))))))) := hD
        have hP := wM_P_82 hP
        have hD := wM_D_82 hD
        refine lv_aload_n hx hb dn_M_begin0_32 rfl (lv_at hl 0 rfl) ?_
        refine va_get (D := (dC, dI)) (ci := 0) (v := .ref ((a 83))) (C := rn_M) (T := fn_M) (N := 91) hx hb hg in_M hown hK hP 0 rfl rfl 83 (by decide) (hg _ wn_8_156) (fun _ h9 => h9) rfl dn_M_begin0_33 ?_
        refine lv_iload_n hx hb dn_M_begin0_36 rfl (lv_at hl 1 rfl) ?_
        refine lv_lconst (v := 0) hx hb dn_M_begin0_37 (by decide) ?_
        obtain ⟨hg_4, hf⟩ := dc_g hf
        refine va_last hx hb hK hP hD hS 57 2 rfl rfl hg_4 dn_M_begin0_38 (fun H locs hP hD hS => ?_)
        have hP : va_P (dC, dI) xcl ((wM h0 a cI cB cJ cZ (upJ s 82 (vp_updL (s.2 82) (Int32.toNatClampNeg x1) (((s.2 22) (Int32.toNatClampNeg (((s.1 64) (Int32.toNatClampNeg x1))))))))).set 57 ((a 83), .inl (cJ, 1100, .inr (.inl (vp_updL (s.2 83) (Int32.toNatClampNeg x1) 0))))) H := hP
        have hD : va_D A ((wM h0 a cI cB cJ cZ (upJ s 82 (vp_updL (s.2 82) (Int32.toNatClampNeg x1) (((s.2 22) (Int32.toNatClampNeg (((s.1 64) (Int32.toNatClampNeg x1))))))))).set 57 ((a 83), .inl (cJ, 1100, .inr (.inl (vp_updL (s.2 83) (Int32.toNatClampNeg x1) 0))))) := hD
        have hP := wM_P_83 hP
        have hD := wM_D_83 hD
        refine lv_iinc (v := (x1 + 1)) (lv' := [(1, .int ((x1 + 1))), (0, .ref h0)]) hx hb dn_M_begin0_39 hl (k := 1) rfl (dc_inc (by decide)) (by decide) rfl (fun ls hl => ?_)
        refine lv_goto (tgt := 7) hx hb dn_M_begin0_42 (by decide) ?_
        exact hk_7 ((x1 + 1)) (upJ (upJ s 82 (vp_updL (s.2 82) (Int32.toNatClampNeg x1) (((s.2 22) (Int32.toNatClampNeg (((s.1 64) (Int32.toNatClampNeg x1)))))))) 83 (vp_updL (s.2 83) (Int32.toNatClampNeg x1) 0)) hf H locs ls hP hD hS (lv_sub hl [1, 0] rfl)
  intro H locs ls hP hD hS hl
  unfold fn_M_begin0 at hf
  refine lv_aload_n hx hb dn_M_begin0_0 rfl (lv_at hl 0 rfl) ?_
  refine lv_iconst (v := 0) hx hb dn_M_begin0_1 (by decide) ?_
  refine va_put (D := (dC, dI)) (ci := 0) (v := .int 0) (ty := .int) (C := rn_M) (T := fn_M) (N := 91) hx hb hg in_M tn_M tk_M nn_M hown hK hP hD hS 0 rfl rfl 86 (by decide) (hg _ wn_8_159) (fun _ h9 => h9) rfl (tk_M 86 (by decide)) rfl rfl (Nat.le_of_ble_eq_true rfl) dn_M_begin0_2 (fun H locs hP hD hS => ?_)
  have hP := wM_P_86 hP
  have hD := wM_D_86 hD
  refine lv_iconst (v := 0) hx hb dn_M_begin0_5 (by decide) ?_
  refine lv_istore_n (lv' := [(1, .int 0), (0, .ref h0)]) hx hb dn_M_begin0_6 rfl hl (by decide) rfl (fun ls hl => ?_)
  exact hd_7 N 0 (upI s 86 (fun _ => 0)) hf H locs ls hP hD hS (lv_sub hl [1, 0] rfl)
theorem mb_M_read_I_166 (N : Nat) (y : (Int32 × ms)) (k_166 : Int32 → ms → Option (Int32 × ms)) (hkm_166 : ∀ (x2 : Int32) (s : ms), k_166 x2 s = some y → gl s ≤ gl y.2) (x2 : Int32) (s : ms) (hf : bd_M_read_I_166 N k_166 x2 s = some y) : gl s ≤ gl y.2 := by
  unfold bd_M_read_I_166 at hf
  have hm : gl s ≤ gl s := Nat.le_refl _
  by_cases h : (s.1 63 0) ≤ x2
  · have hf := (if_pos h).symm.trans hf
    obtain ⟨q_1, hc_2, hf⟩ := dc_b hf
    have hm := Nat.le_trans hm (Nat.le_of_eq (mn_M_begin0 N s q_1 hc_2).symm)
    exact Nat.le_trans hm (Nat.le_of_eq (dc_e hf).symm)
  · have hf := (if_neg h).symm.trans hf
    obtain ⟨_, hf⟩ := dc_g hf
    exact Nat.le_trans hm (hkm_166 ((x2 + 1)) (upJ s 83 (vp_updL (s.2 83) (Int32.toNatClampNeg x2) 0)) hf)
theorem mh_M_read_I_166 (N : Nat) (y : (Int32 × ms)) : ∀ (n : Nat) (x2 : Int32) (s : ms), hd_M_read_I_166 N n x2 s = some y → gl s ≤ gl y.2 := by
  intro n
  induction n with
  | zero => intro x2 s hf; cases hf
  | succ n ih => intro x2 s hf; exact mb_M_read_I_166 N y (hd_M_read_I_166 N n) ih x2 s hf
theorem mb_M_read_I_121 (N : Nat) (y : (Int32 × ms)) (k_121 : Int32 → ms → Option (Int32 × ms)) (hkm_121 : ∀ (x2 : Int32) (s : ms), k_121 x2 s = some y → gl s ≤ gl y.2) (x2 : Int32) (s : ms) (hf : bd_M_read_I_121 N k_121 x2 s = some y) : gl s ≤ gl y.2 := by
  unfold bd_M_read_I_121 at hf
  have hm : gl s ≤ gl s := Nat.le_refl _
  by_cases h : (s.1 2 0) ≤ x2
  · have hf := (if_pos h).symm.trans hf
    obtain ⟨q_1, hc_2, hf⟩ := dc_b hf
    have hm := Nat.le_trans hm (Nat.le_of_eq (mn_M_sumUp N (upI (upI s 89 (fun _ => (s.1 2 0))) 54 (fun _ => 1)) q_1 hc_2).symm)
    exact Nat.le_trans hm (mh_M_read_I_166 N y N 0 q_1.2 hf)
  · have hf := (if_neg h).symm.trans hf
    obtain ⟨_, hf⟩ := dc_g hf
    obtain ⟨_, hf⟩ := dc_g hf
    exact Nat.le_trans hm (hkm_121 ((x2 + 1)) (upI s 55 (upd (s.1 55) (Int32.toNatClampNeg x2) (vp_nar .byte (((s.1 90) (Int32.toNatClampNeg x2)))))) hf)
theorem mh_M_read_I_121 (N : Nat) (y : (Int32 × ms)) : ∀ (n : Nat) (x2 : Int32) (s : ms), hd_M_read_I_121 N n x2 s = some y → gl s ≤ gl y.2 := by
  intro n
  induction n with
  | zero => intro x2 s hf; cases hf
  | succ n ih => intro x2 s hf; exact mb_M_read_I_121 N y (hd_M_read_I_121 N n) ih x2 s hf
theorem mo_M_read_I_117 (N : Nat) (y : (Int32 × ms)) (x1 : Int32) (s : ms) (hf : bk_M_read_I_117 N x1 s = some y) : gl s ≤ gl y.2 := by
  unfold bk_M_read_I_117 at hf
  have hm : gl s ≤ gl s := Nat.le_refl _
  exact Nat.le_trans hm (Nat.le_of_eq (dc_e hf).symm)
theorem mb_M_read_I_79 (N : Nat) (y : (Int32 × ms)) (k_79 : Int32 → Int32 → ms → Option (Int32 × ms)) (hkm_79 : ∀ (x1 : Int32) (x2 : Int32) (s : ms), k_79 x1 x2 s = some y → gl s ≤ gl y.2) (x1 : Int32) (x2 : Int32) (s : ms) (hf : bd_M_read_I_79 N k_79 x1 x2 s = some y) : gl s ≤ gl y.2 := by
  unfold bd_M_read_I_79 at hf
  have hm : gl s ≤ gl s := Nat.le_refl _
  by_cases h : (s.1 89 0) ≤ x2
  · have hf := (if_pos h).symm.trans hf
    obtain ⟨q_1, hc_2, hf⟩ := dc_b hf
    have hm := Nat.le_trans hm (mn_M_readSource N (upI s 2 (fun _ => (s.1 89 0))) q_1 hc_2)
    exact Nat.le_trans hm (mo_M_read_I_117 N y x1 q_1.2 hf)
  · have hf := (if_neg h).symm.trans hf
    obtain ⟨_, hf⟩ := dc_g hf
    obtain ⟨_, hf⟩ := dc_g hf
    exact Nat.le_trans hm (hkm_79 x1 ((x2 + 1)) (upI s 90 (upd (s.1 90) (Int32.toNatClampNeg x2) (vp_nar .byte (((s.1 55) (Int32.toNatClampNeg x2)))))) hf)
theorem mh_M_read_I_79 (N : Nat) (y : (Int32 × ms)) : ∀ (n : Nat) (x1 : Int32) (x2 : Int32) (s : ms), hd_M_read_I_79 N n x1 x2 s = some y → gl s ≤ gl y.2 := by
  intro n
  induction n with
  | zero => intro x1 x2 s hf; cases hf
  | succ n ih => intro x1 x2 s hf; exact mb_M_read_I_79 N y (hd_M_read_I_79 N n) ih x1 x2 s hf
theorem mo_M_read_I_50 (N : Nat) (y : (Int32 × ms)) (s : ms) (hf : bk_M_read_I_50 N s = some y) : gl s ≤ gl y.2 := by
  unfold bk_M_read_I_50 at hf
  have hm : gl s ≤ gl s := Nat.le_refl _
  by_cases h : (s.1 9 0) = 0
  · have hf := (if_pos h).symm.trans hf
    exact Nat.le_trans hm (mh_M_read_I_121 N y N 0 (upI s 3 (fun _ => (s.1 9 0))) hf)
  · have hf := (if_neg h).symm.trans hf
    by_cases h : (s.1 54 0) = 0
    · have hf := (if_pos h).symm.trans hf
      exact Nat.le_trans hm (mo_M_read_I_117 N y ((s.1 10 0)) (upI s 3 (fun _ => (s.1 9 0))) hf)
    · have hf := (if_neg h).symm.trans hf
      exact Nat.le_trans hm (mh_M_read_I_79 N y N ((s.1 10 0)) 0 (upI s 3 (fun _ => (s.1 9 0))) hf)
theorem mb_M_read_I_7 (N : Nat) (y : (Int32 × ms)) (k_7 : Int32 → ms → Option (Int32 × ms)) (hkm_7 : ∀ (x1 : Int32) (s : ms), k_7 x1 s = some y → gl s ≤ gl y.2) (x1 : Int32) (s : ms) (hf : bd_M_read_I_7 N k_7 x1 s = some y) : gl s ≤ gl y.2 := by
  unfold bd_M_read_I_7 at hf
  have hm : gl s ≤ gl s := Nat.le_refl _
  by_cases h : (s.1 88 0) ≤ x1
  · have hf := (if_pos h).symm.trans hf
    obtain ⟨q_1, hc_2, hf⟩ := dc_b hf
    have hm := Nat.le_trans hm (mn_M_readSource N (upI (upI s 2 (fun _ => (s.1 88 0))) 88 (fun _ => 0)) q_1 hc_2)
    exact Nat.le_trans hm (mo_M_read_I_50 N y q_1.2 hf)
  · have hf := (if_neg h).symm.trans hf
    obtain ⟨_, hf⟩ := dc_g hf
    obtain ⟨_, hf⟩ := dc_g hf
    exact Nat.le_trans hm (hkm_7 ((x1 + 1)) (upI s 90 (upd (s.1 90) (Int32.toNatClampNeg x1) (vp_nar .byte (((s.1 1) (Int32.toNatClampNeg x1)))))) hf)
theorem mh_M_read_I_7 (N : Nat) (y : (Int32 × ms)) : ∀ (n : Nat) (x1 : Int32) (s : ms), hd_M_read_I_7 N n x1 s = some y → gl s ≤ gl y.2 := by
  intro n
  induction n with
  | zero => intro x1 s hf; cases hf
  | succ n ih => intro x1 s hf; exact mb_M_read_I_7 N y (hd_M_read_I_7 N n) ih x1 s hf
theorem mn_M_read_I (N : Nat) (s1 : ms) (y : (Int32 × ms)) (hf : fn_M_read_I N s1 = some y) : gl s1 ≤ gl y.2 := by
  unfold fn_M_read_I at hf
  have hm : gl s1 ≤ gl s1 := Nat.le_refl _
  exact Nat.le_trans hm (mh_M_read_I_7 N y N 0 (upI s1 0 (fun _ => 0)) hf)
set_option maxHeartbeats 8000000 in
set_option maxRecDepth 100000 in
theorem ct_M_read_I (l : Launch) (dC : Nat → ClassId) (dI : Nat → Nat → Nat) (cI cB cJ cZ cQ : ClassId) (N sz : Nat) (h0 : Nat) (a : Nat → Nat) (s1 : ms) (y : (Int32 × ms)) (hf : fn_M_read_I N s1 = some y) : Met l yn_M_read_I (xw yn_M_read_I bn_M_read_I 3 (some .int)) ({ frames := 812, cells := 2 * (gl y.2 - gl s1), slots := 2 * (gl y.2 - gl s1), locals := 19879 }) (dc_P (dC, dI) xcl (xt cI cB cJ cZ cQ) [.ref h0] sz (wM h0 a cI cB cJ cZ s1)) (xk_Qi (dC, dI) xcl (xt cI cB cJ cZ cQ) (fun (r : Int32) (_ : Nat → Nat) => r = y.1) (fun u : Nat → Nat => (wM h0 u cI cB cJ cZ y.2)) (va_A (wM h0 a cI cB cJ cZ s1) sz)) (2 * (gl y.2 - gl s1)) (2 * (gl y.2 - gl s1)) (va_A (wM h0 a cI cB cJ cZ s1) sz) := by
  refine dc_of (QA := xk_Qi (dC, dI) xcl (xt cI cB cJ cZ cQ) (fun (r : Int32) (_ : Nat → Nat) => r = y.1) (fun u : Nat → Nat => (wM h0 u cI cB cJ cZ y.2))) (by decide) (Nat.le_of_ble_eq_true rfl) ?_
  intro p e s0 m below meth c hx hb hml hown hg hr hlocks hin hP hK hN A hA hD hT ls hl
  have hown : s0.vm.findClass rn_M = some m.cls := hown
  obtain ⟨H, hH⟩ : ∃ z, z = s0.heap := ⟨_, rfl⟩
  rw [← hH] at hP
  have hS : va_S A s0.heap H [] := by rw [hH]; exact va_S.rf
  suffices kk : ∀ QQ : State → Prop, QQ = MQ below (xk_Qi (dC, dI) xcl (xt cI cB cJ cZ cQ) (fun (r : Int32) (_ : Nat → Nat) => r = y.1) (fun u : Nat → Nat => (wM h0 u cI cB cJ cZ y.2)) A) [.ref h0].toArray s0 (2 * (gl y.2 - gl s1)) (2 * (gl y.2 - gl s1)) A → gl s1 ≤ gl s1 → dcG p l e ({ frames := 812, cells := 2 * (gl y.2 - gl s1), slots := 2 * (gl y.2 - gl s1), locals := 19879 }) s0 m [.ref h0].toArray below meth c QQ (dC, dI) A (fun a => (wM h0 a cI cB cJ cZ s1)) (2 * (gl s1 - gl s1)) 0 3 [(0, .ref h0)] [] by
    have k9 := kk _ rfl (Nat.le_refl _) a H [] ls hP hD hS hl
    rw [hH, Nat.sub_self] at k9; exact k9
  clear hP hD hS hl hH H ls
  intro QQ hQQ
  have hd_166 : ∀ (n : Nat) (x2 : Int32) (s : ms), hd_M_read_I_166 N n x2 s = some y → gl s1 ≤ gl s → dcG p l e ({ frames := 812, cells := 2 * (gl y.2 - gl s1), slots := 2 * (gl y.2 - gl s1), locals := 19879 }) s0 m [.ref h0].toArray below meth c QQ (dC, dI) A (fun a => (wM h0 a cI cB cJ cZ s)) (2 * (gl s - gl s1)) 166 3 [(0, .ref h0), (2, .int x2)] [] := by
    intro n
    induction n with
    | zero => intro x2 s hf; cases hf
    | succ n ih =>
      intro x2 s hf hge a H locs ls hP hD hS hl
      have hle := mh_M_read_I_166 N y (n + 1) x2 s hf
      have hkm_166 := mh_M_read_I_166 N y n
      have hf : bd_M_read_I_166 N (hd_M_read_I_166 N n) x2 s = some y := hf
      have hk_166 := ih
      generalize hd_M_read_I_166 N n = k_166 at hf hk_166 hkm_166
      unfold bd_M_read_I_166 at hf
      refine lv_iload_n hx hb dn_M_read_I_166 rfl (lv_at hl 1 rfl) ?_
      refine lv_aload_n hx hb dn_M_read_I_167 rfl (lv_at hl 0 rfl) ?_
      refine va_get (D := (dC, dI)) (ci := 0) (v := .int ((s.1 63 0))) (C := rn_M) (T := fn_M) (N := 91) hx hb hg in_M hown hK hP 0 rfl rfl 63 (by decide) (hg _ wn_8_136) (fun _ h9 => h9) rfl dn_M_read_I_168 ?_
      refine lv_icmp_ge (tgt := 187) hx hb dn_M_read_I_171 (by decide) (fun h => ?_) (fun h => ?_)
      · have hf := (if_pos h).symm.trans hf
        refine lv_aload_n hx hb dn_M_read_I_187 rfl (lv_at hl 0 rfl) ?_
        obtain ⟨q_1, hc_2, hf⟩ := dc_b hf
        have hme := mn_M_begin0 N s q_1 hc_2
        refine dc_callv (dc_runV (ar := 0) (As := []) (rest := []) (ci := 0) (q0 := 0) ⟨hx, hb, hml, hown, hg⟩ hK hN hT hS hA (ct_M_begin0 l dC dI cI cB cJ cZ cQ N H.size h0 a s q_1 hc_2) hP hD rfl rfl wn_10_205 wn_10_207 sn_M_begin0 wn_1_13 wn_10_208 rfl rfl (by decide +kernel) ⟨Nat.le_of_ble_eq_true rfl, Nat.le_of_ble_eq_true rfl⟩ rfl hl.1 rfl (Nat.le_of_ble_eq_true rfl) dn_M_read_I_188 (dc_rm0 hle)) hP hD hS hA (fun _ H locs hw hP hD hS => ?_)
        refine W.widen (k := 2 * (gl q_1.2 - gl s1)) (n := 2 * (gl q_1.2 - gl s1)) (dc_we hme) (dc_we hme) ?_
        have hge := Nat.le_trans hge (Nat.le_of_eq hme.symm)
        have hle := Nat.le_trans (Nat.le_of_eq hme) hle
        refine lv_iconst (v := (-1)) hx hb dn_M_read_I_191 (by decide) ?_
        rw [hQQ, ← Option.some.inj hf]
        exact xk_iret (w1 := fun u : Nat → Nat => (wM h0 u cI cB cJ cZ q_1.2)) a hx hb hr hlocks hK hS dn_M_read_I_192 hP hD rfl (Nat.le_refl _) (Nat.le_refl _)
      · have hf := (if_neg h).symm.trans hf
        refine lv_aload_n hx hb dn_M_read_I_174 rfl (lv_at hl 0 rfl) ?_
        refine va_get (D := (dC, dI)) (ci := 0) (v := .ref ((a 83))) (C := rn_M) (T := fn_M) (N := 91) hx hb hg in_M hown hK hP 0 rfl rfl 83 (by decide) (hg _ wn_8_156) (fun _ h9 => h9) rfl dn_M_read_I_175 ?_
        refine lv_iload_n hx hb dn_M_read_I_178 rfl (lv_at hl 1 rfl) ?_
        refine lv_lconst (v := 0) hx hb dn_M_read_I_179 (by decide) ?_
        obtain ⟨hg_1, hf⟩ := dc_g hf
        refine va_last hx hb hK hP hD hS 57 2 rfl rfl hg_1 dn_M_read_I_180 (fun H locs hP hD hS => ?_)
        have hP : va_P (dC, dI) xcl ((wM h0 a cI cB cJ cZ s).set 57 ((a 83), .inl (cJ, 1100, .inr (.inl (vp_updL (s.2 83) (Int32.toNatClampNeg x2) 0))))) H := hP
        have hD : va_D A ((wM h0 a cI cB cJ cZ s).set 57 ((a 83), .inl (cJ, 1100, .inr (.inl (vp_updL (s.2 83) (Int32.toNatClampNeg x2) 0))))) := hD
        have hP := wM_P_83 hP
        have hD := wM_D_83 hD
        refine lv_iinc (v := (x2 + 1)) (lv' := [(2, .int ((x2 + 1))), (0, .ref h0)]) hx hb dn_M_read_I_181 hl (k := 1) rfl (dc_inc (by decide)) (by decide) rfl (fun ls hl => ?_)
        refine lv_goto (tgt := 166) hx hb dn_M_read_I_184 (by decide) ?_
        exact hk_166 ((x2 + 1)) (upJ s 83 (vp_updL (s.2 83) (Int32.toNatClampNeg x2) 0)) hf hge a H locs ls hP hD hS (lv_sub hl [1, 0] rfl)
  have hd_121 : ∀ (n : Nat) (x2 : Int32) (s : ms), hd_M_read_I_121 N n x2 s = some y → gl s1 ≤ gl s → dcG p l e ({ frames := 812, cells := 2 * (gl y.2 - gl s1), slots := 2 * (gl y.2 - gl s1), locals := 19879 }) s0 m [.ref h0].toArray below meth c QQ (dC, dI) A (fun a => (wM h0 a cI cB cJ cZ s)) (2 * (gl s - gl s1)) 121 3 [(0, .ref h0), (2, .int x2)] [] := by
    intro n
    induction n with
    | zero => intro x2 s hf; cases hf
    | succ n ih =>
      intro x2 s hf hge a H locs ls hP hD hS hl
      have hle := mh_M_read_I_121 N y (n + 1) x2 s hf
      have hkm_121 := mh_M_read_I_121 N y n
      have hf : bd_M_read_I_121 N (hd_M_read_I_121 N n) x2 s = some y := hf
      have hk_121 := ih
      generalize hd_M_read_I_121 N n = k_121 at hf hk_121 hkm_121
      unfold bd_M_read_I_121 at hf
      refine lv_iload_n hx hb dn_M_read_I_121 rfl (lv_at hl 1 rfl) ?_
      refine lv_aload_n hx hb dn_M_read_I_122 rfl (lv_at hl 0 rfl) ?_
      refine va_get (D := (dC, dI)) (ci := 0) (v := .int ((s.1 2 0))) (C := rn_M) (T := fn_M) (N := 91) hx hb hg in_M hown hK hP 0 rfl rfl 2 (by decide) (hg _ wn_8_75) (fun _ h9 => h9) rfl dn_M_read_I_123 ?_
      refine lv_icmp_ge (tgt := 147) hx hb dn_M_read_I_126 (by decide) (fun h => ?_) (fun h => ?_)
      · have hf := (if_pos h).symm.trans hf
        refine lv_aload_n hx hb dn_M_read_I_147 rfl (lv_at hl 0 rfl) ?_
        refine lv_aload_n hx hb dn_M_read_I_148 rfl (lv_at hl 0 rfl) ?_
        refine va_get (D := (dC, dI)) (ci := 0) (v := .int ((s.1 2 0))) (C := rn_M) (T := fn_M) (N := 91) hx hb hg in_M hown hK hP 0 rfl rfl 2 (by decide) (hg _ wn_8_75) (fun _ h9 => h9) rfl dn_M_read_I_149 ?_
        refine va_put (D := (dC, dI)) (ci := 0) (v := .int ((s.1 2 0))) (ty := .int) (C := rn_M) (T := fn_M) (N := 91) hx hb hg in_M tn_M tk_M nn_M hown hK hP hD hS 0 rfl rfl 89 (by decide) (hg _ wn_8_162) (fun _ h9 => h9) rfl (tk_M 89 (by decide)) rfl rfl (Nat.le_of_ble_eq_true rfl) dn_M_read_I_152 (fun H locs hP hD hS => ?_)
        have hP := wM_P_89 hP
        have hD := wM_D_89 hD
        refine lv_aload_n hx hb dn_M_read_I_155 rfl (lv_at hl 0 rfl) ?_
        refine lv_iconst (v := 1) hx hb dn_M_read_I_156 (by decide) ?_
        refine va_put (D := (dC, dI)) (ci := 0) (v := .int 1) (ty := .boolean) (C := rn_M) (T := fn_M) (N := 91) hx hb hg in_M tn_M tk_M nn_M hown hK hP hD hS 0 rfl rfl 54 (by decide) (hg _ wn_8_127) (fun _ h9 => h9) rfl (tk_M 54 (by decide)) rfl rfl (Nat.le_of_ble_eq_true rfl) dn_M_read_I_157 (fun H locs hP hD hS => ?_)
        have hP := wM_P_54 hP
        have hD := wM_D_54 hD
        refine lv_aload_n hx hb dn_M_read_I_160 rfl (lv_at hl 0 rfl) ?_
        obtain ⟨q_1, hc_2, hf⟩ := dc_b hf
        have hme := mn_M_sumUp N (upI (upI s 89 (fun _ => (s.1 2 0))) 54 (fun _ => 1)) q_1 hc_2
        refine dc_callv (dc_runV (ar := 0) (As := []) (rest := []) (ci := 0) (q0 := 0) ⟨hx, hb, hml, hown, hg⟩ hK hN hT hS hA (ct_M_sumUp l dC dI cI cB cJ cZ cQ N H.size h0 a (upI (upI s 89 (fun _ => (s.1 2 0))) 54 (fun _ => 1)) q_1 hc_2) hP hD rfl rfl wn_10_201 wn_10_203 sn_M_sumUp wn_1_13 wn_10_204 rfl rfl (by decide +kernel) ⟨Nat.le_of_ble_eq_true rfl, Nat.le_of_ble_eq_true rfl⟩ rfl hl.1 rfl (Nat.le_of_ble_eq_true rfl) dn_M_read_I_161 (dc_rm0 hle)) hP hD hS hA (fun _ H locs hw hP hD hS => ?_)
        refine W.widen (k := 2 * (gl q_1.2 - gl s1)) (n := 2 * (gl q_1.2 - gl s1)) (dc_we hme) (dc_we hme) ?_
        have hge := Nat.le_trans hge (Nat.le_of_eq hme.symm)
        have hle := Nat.le_trans (Nat.le_of_eq hme) hle
        refine lv_iconst (v := 0) hx hb dn_M_read_I_164 (by decide) ?_
        refine lv_istore_n (lv' := [(2, .int 0), (0, .ref h0)]) hx hb dn_M_read_I_165 rfl hl (by decide) rfl (fun ls hl => ?_)
        exact hd_166 N 0 q_1.2 hf hge a H locs ls hP hD hS (lv_sub hl [1, 0] rfl)
      · have hf := (if_neg h).symm.trans hf
        refine lv_aload_n hx hb dn_M_read_I_129 rfl (lv_at hl 0 rfl) ?_
        refine va_get (D := (dC, dI)) (ci := 0) (v := .ref ((a 55))) (C := rn_M) (T := fn_M) (N := 91) hx hb hg in_M hown hK hP 0 rfl rfl 55 (by decide) (hg _ wn_8_128) (fun _ h9 => h9) rfl dn_M_read_I_130 ?_
        refine lv_iload_n hx hb dn_M_read_I_133 rfl (lv_at hl 1 rfl) ?_
        refine lv_aload_n hx hb dn_M_read_I_134 rfl (lv_at hl 0 rfl) ?_
        refine va_get (D := (dC, dI)) (ci := 0) (v := .ref ((a 90))) (C := rn_M) (T := fn_M) (N := 91) hx hb hg in_M hown hK hP 0 rfl rfl 90 (by decide) (hg _ wn_8_163) (fun _ h9 => h9) rfl dn_M_read_I_135 ?_
        refine lv_iload_n hx hb dn_M_read_I_138 rfl (lv_at hl 1 rfl) ?_
        obtain ⟨hg_1, hf⟩ := dc_g hf
        refine va_bald hx hb hK hP 59 1 rfl rfl hg_1 dn_M_read_I_139 ?_
        refine xk_ti (y := ((s.1 90) (Int32.toNatClampNeg x2))) rfl ?_
        obtain ⟨hg_2, hf⟩ := dc_g hf
        refine va_bast hx hb hK hP hD hS 37 1 rfl rfl hg_2 dn_M_read_I_140 (fun H locs hP hD hS => ?_)
        have hP : va_P (dC, dI) xcl ((wM h0 a cI cB cJ cZ s).set 37 ((a 55), .inl (cB, 65536, .inl (upd (s.1 55) (Int32.toNatClampNeg x2) (vp_nar .byte (((s.1 90) (Int32.toNatClampNeg x2)))))))) H := hP
        have hD : va_D A ((wM h0 a cI cB cJ cZ s).set 37 ((a 55), .inl (cB, 65536, .inl (upd (s.1 55) (Int32.toNatClampNeg x2) (vp_nar .byte (((s.1 90) (Int32.toNatClampNeg x2)))))))) := hD
        have hP := wM_P_55 hP
        have hD := wM_D_55 hD
        refine lv_iinc (v := (x2 + 1)) (lv' := [(2, .int ((x2 + 1))), (0, .ref h0)]) hx hb dn_M_read_I_141 hl (k := 1) rfl (dc_inc (by decide)) (by decide) rfl (fun ls hl => ?_)
        refine lv_goto (tgt := 121) hx hb dn_M_read_I_144 (by decide) ?_
        exact hk_121 ((x2 + 1)) (upI s 55 (upd (s.1 55) (Int32.toNatClampNeg x2) (vp_nar .byte (((s.1 90) (Int32.toNatClampNeg x2)))))) hf hge a H locs ls hP hD hS (lv_sub hl [1, 0] rfl)
  have bl_117 : ∀ (x1 : Int32) (s : ms), bk_M_read_I_117 N x1 s = some y → gl s1 ≤ gl s → dcG p l e ({ frames := 812, cells := 2 * (gl y.2 - gl s1), slots := 2 * (gl y.2 - gl s1), locals := 19879 }) s0 m [.ref h0].toArray below meth c QQ (dC, dI) A (fun a => (wM h0 a cI cB cJ cZ s)) (2 * (gl s - gl s1)) 117 3 [(1, .int x1)] [] := by
    intro x1 s hf hge a H locs ls hP hD hS hl
    have hle := mo_M_read_I_117 N y x1 s hf
    unfold bk_M_read_I_117 at hf
    refine lv_iload_n hx hb dn_M_read_I_117 rfl (lv_at hl 0 rfl) ?_
    rw [hQQ, ← Option.some.inj hf]
    exact xk_iret (w1 := fun u : Nat → Nat => (wM h0 u cI cB cJ cZ s)) a hx hb hr hlocks hK hS dn_M_read_I_118 hP hD rfl (Nat.le_refl _) (Nat.le_refl _)
  have hd_79 : ∀ (n : Nat) (x1 : Int32) (x2 : Int32) (s : ms), hd_M_read_I_79 N n x1 x2 s = some y → gl s1 ≤ gl s → dcG p l e ({ frames := 812, cells := 2 * (gl y.2 - gl s1), slots := 2 * (gl y.2 - gl s1), locals := 19879 }) s0 m [.ref h0].toArray below meth c QQ (dC, dI) A (fun a => (wM h0 a cI cB cJ cZ s)) (2 * (gl s - gl s1)) 79 3 [(0, .ref h0), (1, .int x1), (2, .int x2)] [] := by
    intro n
    induction n with
    | zero => intro x1 x2 s hf; cases hf
    | succ n ih =>
      intro x1 x2 s hf hge a H locs ls hP hD hS hl
      have hle := mh_M_read_I_79 N y (n + 1) x1 x2 s hf
      have hkm_79 := mh_M_read_I_79 N y n
      have hf : bd_M_read_I_79 N (hd_M_read_I_79 N n) x1 x2 s = some y := hf
      have hk_79 := ih
      generalize hd_M_read_I_79 N n = k_79 at hf hk_79 hkm_79
      unfold bd_M_read_I_79 at hf
      refine lv_iload_n hx hb dn_M_read_I_79 rfl (lv_at hl 2 rfl) ?_
      refine lv_aload_n hx hb dn_M_read_I_80 rfl (lv_at hl 0 rfl) ?_
      refine va_get (D := (dC, dI)) (ci := 0) (v := .int ((s.1 89 0))) (C := rn_M) (T := fn_M) (N := 91) hx hb hg in_M hown hK hP 0 rfl rfl 89 (by decide) (hg _ wn_8_162) (fun _ h9 => h9) rfl dn_M_read_I_81 ?_
      refine lv_icmp_ge (tgt := 105) hx hb dn_M_read_I_84 (by decide) (fun h => ?_) (fun h => ?_)
      · have hf := (if_pos h).symm.trans hf
        refine lv_aload_n hx hb dn_M_read_I_105 rfl (lv_at hl 0 rfl) ?_
        refine lv_aload_n hx hb dn_M_read_I_106 rfl (lv_at hl 0 rfl) ?_
        refine va_get (D := (dC, dI)) (ci := 0) (v := .int ((s.1 89 0))) (C := rn_M) (T := fn_M) (N := 91) hx hb hg in_M hown hK hP 0 rfl rfl 89 (by decide) (hg _ wn_8_162) (fun _ h9 => h9) rfl dn_M_read_I_107 ?_
        refine va_put (D := (dC, dI)) (ci := 0) (v := .int ((s.1 89 0))) (ty := .int) (C := rn_M) (T := fn_M) (N := 91) hx hb hg in_M tn_M tk_M nn_M hown hK hP hD hS 0 rfl rfl 2 (by decide) (hg _ wn_8_75) (fun _ h9 => h9) rfl (tk_M 2 (by decide)) rfl rfl (Nat.le_of_ble_eq_true rfl) dn_M_read_I_110 (fun H locs hP hD hS => ?_)
        have hP := wM_P_2 hP
        have hD := wM_D_2 hD
        refine lv_aload_n hx hb dn_M_read_I_113 rfl (lv_at hl 0 rfl) ?_
        obtain ⟨q_1, hc_2, hf⟩ := dc_b hf
        have hmg := mn_M_readSource N (upI s 2 (fun _ => (s.1 89 0))) q_1 hc_2
        have hle2 : gl q_1.2 ≤ gl y.2 := mo_M_read_I_117 N y _ _ hf
        refine dc_callv (dc_runV (ar := 0) (As := []) (rest := []) (ci := 0) (q0 := 0) ⟨hx, hb, hml, hown, hg⟩ hK hN hT hS hA (ct_M_readSource l dC dI cI cB cJ cZ cQ N H.size h0 a (upI s 2 (fun _ => (s.1 89 0))) q_1 hc_2) hP hD rfl rfl wn_9_116 wn_9_118 sn_M_readSource wn_1_13 wn_9_119 rfl rfl (by decide +kernel) ⟨Nat.le_of_ble_eq_true rfl, Nat.le_of_ble_eq_true rfl⟩ rfl hl.1 rfl (Nat.le_of_ble_eq_true rfl) dn_M_read_I_114 (dc_rm hge hmg hle2)) hP hD hS hA (fun a H locs hw hP hD hS => ?_)
        refine W.widen (k := 2 * (gl q_1.2 - gl s1)) (n := 2 * (gl q_1.2 - gl s1)) (dc_wa hge hmg) (dc_wa hge hmg) ?_
        have hge := Nat.le_trans hge hmg
        have hle := hle2
        exact bl_117 x1 q_1.2 hf hge a H locs ls hP hD hS (lv_sub hl [1] rfl)
      · have hf := (if_neg h).symm.trans hf
        refine lv_aload_n hx hb dn_M_read_I_87 rfl (lv_at hl 0 rfl) ?_
        refine va_get (D := (dC, dI)) (ci := 0) (v := .ref ((a 90))) (C := rn_M) (T := fn_M) (N := 91) hx hb hg in_M hown hK hP 0 rfl rfl 90 (by decide) (hg _ wn_8_163) (fun _ h9 => h9) rfl dn_M_read_I_88 ?_
        refine lv_iload_n hx hb dn_M_read_I_91 rfl (lv_at hl 2 rfl) ?_
        refine lv_aload_n hx hb dn_M_read_I_92 rfl (lv_at hl 0 rfl) ?_
        refine va_get (D := (dC, dI)) (ci := 0) (v := .ref ((a 55))) (C := rn_M) (T := fn_M) (N := 91) hx hb hg in_M hown hK hP 0 rfl rfl 55 (by decide) (hg _ wn_8_128) (fun _ h9 => h9) rfl dn_M_read_I_93 ?_
        refine lv_iload_n hx hb dn_M_read_I_96 rfl (lv_at hl 2 rfl) ?_
        obtain ⟨hg_1, hf⟩ := dc_g hf
        refine va_bald hx hb hK hP 37 1 rfl rfl hg_1 dn_M_read_I_97 ?_
        refine xk_ti (y := ((s.1 55) (Int32.toNatClampNeg x2))) rfl ?_
        obtain ⟨hg_2, hf⟩ := dc_g hf
        refine va_bast hx hb hK hP hD hS 59 1 rfl rfl hg_2 dn_M_read_I_98 (fun H locs hP hD hS => ?_)
        have hP : va_P (dC, dI) xcl ((wM h0 a cI cB cJ cZ s).set 59 ((a 90), .inl (cB, 65536, .inl (upd (s.1 90) (Int32.toNatClampNeg x2) (vp_nar .byte (((s.1 55) (Int32.toNatClampNeg x2)))))))) H := hP
        have hD : va_D A ((wM h0 a cI cB cJ cZ s).set 59 ((a 90), .inl (cB, 65536, .inl (upd (s.1 90) (Int32.toNatClampNeg x2) (vp_nar .byte (((s.1 55) (Int32.toNatClampNeg x2)))))))) := hD
        have hP := wM_P_90 hP
        have hD := wM_D_90 hD
        refine lv_iinc (v := (x2 + 1)) (lv' := [(2, .int ((x2 + 1))), (0, .ref h0), (1, .int x1)]) hx hb dn_M_read_I_99 hl (k := 2) rfl (dc_inc (by decide)) (by decide) rfl (fun ls hl => ?_)
        refine lv_goto (tgt := 79) hx hb dn_M_read_I_102 (by decide) ?_
        exact hk_79 x1 ((x2 + 1)) (upI s 90 (upd (s.1 90) (Int32.toNatClampNeg x2) (vp_nar .byte (((s.1 55) (Int32.toNatClampNeg x2)))))) hf hge a H locs ls hP hD hS (lv_sub hl [1, 2, 0] rfl)
  have bl_50 : ∀ (s : ms), bk_M_read_I_50 N s = some y → gl s1 ≤ gl s → dcG p l e ({ frames := 812, cells := 2 * (gl y.2 - gl s1), slots := 2 * (gl y.2 - gl s1), locals := 19879 }) s0 m [.ref h0].toArray below meth c QQ (dC, dI) A (fun a => (wM h0 a cI cB cJ cZ s)) (2 * (gl s - gl s1)) 50 3 [(0, .ref h0)] [] := by
    intro s hf hge a H locs ls hP hD hS hl
    have hle := mo_M_read_I_50 N y s hf
    unfold bk_M_read_I_50 at hf
    refine lv_aload_n hx hb dn_M_read_I_50 rfl (lv_at hl 0 rfl) ?_
    refine lv_aload_n hx hb dn_M_read_I_51 rfl (lv_at hl 0 rfl) ?_
    refine va_get (D := (dC, dI)) (ci := 0) (v := .int ((s.1 9 0))) (C := rn_M) (T := fn_M) (N := 91) hx hb hg in_M hown hK hP 0 rfl rfl 9 (by decide) (hg _ wn_8_82) (fun _ h9 => h9) rfl dn_M_read_I_52 ?_
    refine va_put (D := (dC, dI)) (ci := 0) (v := .int ((s.1 9 0))) (ty := .int) (C := rn_M) (T := fn_M) (N := 91) hx hb hg in_M tn_M tk_M nn_M hown hK hP hD hS 0 rfl rfl 3 (by decide) (hg _ wn_8_76) (fun _ h9 => h9) rfl (tk_M 3 (by decide)) rfl rfl (Nat.le_of_ble_eq_true rfl) dn_M_read_I_55 (fun H locs hP hD hS => ?_)
    have hP := wM_P_3 hP
    have hD := wM_D_3 hD
    refine lv_aload_n hx hb dn_M_read_I_58 rfl (lv_at hl 0 rfl) ?_
    refine va_get (D := (dC, dI)) (ci := 0) (v := .int ((s.1 10 0))) (C := rn_M) (T := fn_M) (N := 91) hx hb hg in_M hown hK hP 0 rfl rfl 10 (by decide) (hg _ wn_8_83) (fun _ h9 => h9) rfl dn_M_read_I_59 ?_
    refine lv_istore_n (lv' := [(1, .int ((s.1 10 0))), (0, .ref h0)]) hx hb dn_M_read_I_62 rfl hl (by decide) rfl (fun ls hl => ?_)
    refine lv_aload_n hx hb dn_M_read_I_63 rfl (lv_at hl 1 rfl) ?_
    refine va_get (D := (dC, dI)) (ci := 0) (v := .int ((s.1 9 0))) (C := rn_M) (T := fn_M) (N := 91) hx hb hg in_M hown hK hP 0 rfl rfl 9 (by decide) (hg _ wn_8_82) (fun _ h9 => h9) rfl dn_M_read_I_64 ?_
    refine lv_if_eq (tgt := 119) hx hb dn_M_read_I_67 (by decide) (fun h => ?_) (fun h => ?_)
    · have hf := (if_pos h).symm.trans hf
      refine lv_iconst (v := 0) hx hb dn_M_read_I_119 (by decide) ?_
      refine lv_istore_n (lv' := [(2, .int 0), (1, .int ((s.1 10 0))), (0, .ref h0)]) hx hb dn_M_read_I_120 rfl hl (by decide) rfl (fun ls hl => ?_)
      exact hd_121 N 0 (upI s 3 (fun _ => (s.1 9 0))) hf hge a H locs ls hP hD hS (lv_sub hl [2, 0] rfl)
    · have hf := (if_neg h).symm.trans hf
      refine lv_aload_n hx hb dn_M_read_I_70 rfl (lv_at hl 1 rfl) ?_
      refine va_get (D := (dC, dI)) (ci := 0) (v := .int ((s.1 54 0))) (C := rn_M) (T := fn_M) (N := 91) hx hb hg in_M hown hK hP 0 rfl rfl 54 (by decide) (hg _ wn_8_127) (fun _ h9 => h9) rfl dn_M_read_I_71 ?_
      refine lv_if_eq (tgt := 117) hx hb dn_M_read_I_74 (by decide) (fun h => ?_) (fun h => ?_)
      · have hf := (if_pos h).symm.trans hf
        exact bl_117 ((s.1 10 0)) (upI s 3 (fun _ => (s.1 9 0))) hf hge a H locs ls hP hD hS (lv_sub hl [0] rfl)
      · have hf := (if_neg h).symm.trans hf
        refine lv_iconst (v := 0) hx hb dn_M_read_I_77 (by decide) ?_
        refine lv_istore_n (lv' := [(2, .int 0), (1, .int ((s.1 10 0))), (0, .ref h0)]) hx hb dn_M_read_I_78 rfl hl (by decide) rfl (fun ls hl => ?_)
        exact hd_79 N ((s.1 10 0)) 0 (upI s 3 (fun _ => (s.1 9 0))) hf hge a H locs ls hP hD hS (lv_sub hl [2, 1, 0] rfl)
  have hd_7 : ∀ (n : Nat) (x1 : Int32) (s : ms), hd_M_read_I_7 N n x1 s = some y → gl s1 ≤ gl s → dcG p l e ({ frames := 812, cells := 2 * (gl y.2 - gl s1), slots := 2 * (gl y.2 - gl s1), locals := 19879 }) s0 m [.ref h0].toArray below meth c QQ (dC, dI) A (fun a => (wM h0 a cI cB cJ cZ s)) (2 * (gl s - gl s1)) 7 3 [(0, .ref h0), (1, .int x1)] [] := by
    intro n
    induction n with
    | zero => intro x1 s hf; cases hf
    | succ n ih =>
      intro x1 s hf hge a H locs ls hP hD hS hl
      have hle := mh_M_read_I_7 N y (n + 1) x1 s hf
      have hkm_7 := mh_M_read_I_7 N y n
      have hf : bd_M_read_I_7 N (hd_M_read_I_7 N n) x1 s = some y := hf
      have hk_7 := ih
      generalize hd_M_read_I_7 N n = k_7 at hf hk_7 hkm_7
      unfold bd_M_read_I_7 at hf
      refine lv_iload_n hx hb dn_M_read_I_7 rfl (lv_at hl 1 rfl) ?_
      refine lv_aload_n hx hb dn_M_read_I_8 rfl (lv_at hl 0 rfl) ?_
      refine va_get (D := (dC, dI)) (ci := 0) (v := .int ((s.1 88 0))) (C := rn_M) (T := fn_M) (N := 91) hx hb hg in_M hown hK hP 0 rfl rfl 88 (by decide) (hg _ wn_8_161) (fun _ h9 => h9) rfl dn_M_read_I_9 ?_
      refine lv_icmp_ge (tgt := 33) hx hb dn_M_read_I_12 (by decide) (fun h => ?_) (fun h => ?_)
      · have hf := (if_pos h).symm.trans hf
        refine lv_aload_n hx hb dn_M_read_I_33 rfl (lv_at hl 0 rfl) ?_
        refine lv_aload_n hx hb dn_M_read_I_34 rfl (lv_at hl 0 rfl) ?_
        refine va_get (D := (dC, dI)) (ci := 0) (v := .int ((s.1 88 0))) (C := rn_M) (T := fn_M) (N := 91) hx hb hg in_M hown hK hP 0 rfl rfl 88 (by decide) (hg _ wn_8_161) (fun _ h9 => h9) rfl dn_M_read_I_35 ?_
        refine va_put (D := (dC, dI)) (ci := 0) (v := .int ((s.1 88 0))) (ty := .int) (C := rn_M) (T := fn_M) (N := 91) hx hb hg in_M tn_M tk_M nn_M hown hK hP hD hS 0 rfl rfl 2 (by decide) (hg _ wn_8_75) (fun _ h9 => h9) rfl (tk_M 2 (by decide)) rfl rfl (Nat.le_of_ble_eq_true rfl) dn_M_read_I_38 (fun H locs hP hD hS => ?_)
        have hP := wM_P_2 hP
        have hD := wM_D_2 hD
        refine lv_aload_n hx hb dn_M_read_I_41 rfl (lv_at hl 0 rfl) ?_
        refine lv_iconst (v := 0) hx hb dn_M_read_I_42 (by decide) ?_
        refine va_put (D := (dC, dI)) (ci := 0) (v := .int 0) (ty := .int) (C := rn_M) (T := fn_M) (N := 91) hx hb hg in_M tn_M tk_M nn_M hown hK hP hD hS 0 rfl rfl 88 (by decide) (hg _ wn_8_161) (fun _ h9 => h9) rfl (tk_M 88 (by decide)) rfl rfl (Nat.le_of_ble_eq_true rfl) dn_M_read_I_43 (fun H locs hP hD hS => ?_)
        have hP := wM_P_88 hP
        have hD := wM_D_88 hD
        refine lv_aload_n hx hb dn_M_read_I_46 rfl (lv_at hl 0 rfl) ?_
        obtain ⟨q_1, hc_2, hf⟩ := dc_b hf
        have hmg := mn_M_readSource N (upI (upI s 2 (fun _ => (s.1 88 0))) 88 (fun _ => 0)) q_1 hc_2
        have hle2 : gl q_1.2 ≤ gl y.2 := mo_M_read_I_50 N y _ hf
        refine dc_callv (dc_runV (ar := 0) (As := []) (rest := []) (ci := 0) (q0 := 0) ⟨hx, hb, hml, hown, hg⟩ hK hN hT hS hA (ct_M_readSource l dC dI cI cB cJ cZ cQ N H.size h0 a (upI (upI s 2 (fun _ => (s.1 88 0))) 88 (fun _ => 0)) q_1 hc_2) hP hD rfl rfl wn_9_116 wn_9_118 sn_M_readSource wn_1_13 wn_9_119 rfl rfl (by decide +kernel) ⟨Nat.le_of_ble_eq_true rfl, Nat.le_of_ble_eq_true rfl⟩ rfl hl.1 rfl (Nat.le_of_ble_eq_true rfl) dn_M_read_I_47 (dc_rm hge hmg hle2)) hP hD hS hA (fun a H locs hw hP hD hS => ?_)
        refine W.widen (k := 2 * (gl q_1.2 - gl s1)) (n := 2 * (gl q_1.2 - gl s1)) (dc_wa hge hmg) (dc_wa hge hmg) ?_
        have hge := Nat.le_trans hge hmg
        have hle := hle2
        exact bl_50 q_1.2 hf hge a H locs ls hP hD hS (lv_sub hl [0] rfl)
      · have hf := (if_neg h).symm.trans hf
        refine lv_aload_n hx hb dn_M_read_I_15 rfl (lv_at hl 0 rfl) ?_
        refine va_get (D := (dC, dI)) (ci := 0) (v := .ref ((a 90))) (C := rn_M) (T := fn_M) (N := 91) hx hb hg in_M hown hK hP 0 rfl rfl 90 (by decide) (hg _ wn_8_163) (fun _ h9 => h9) rfl dn_M_read_I_16 ?_
        refine lv_iload_n hx hb dn_M_read_I_19 rfl (lv_at hl 1 rfl) ?_
        refine lv_aload_n hx hb dn_M_read_I_20 rfl (lv_at hl 0 rfl) ?_
        refine va_get (D := (dC, dI)) (ci := 0) (v := .ref ((a 1))) (C := rn_M) (T := fn_M) (N := 91) hx hb hg in_M hown hK hP 0 rfl rfl 1 (by decide) (hg _ wn_8_74) (fun _ h9 => h9) rfl dn_M_read_I_21 ?_
        refine lv_iload_n hx hb dn_M_read_I_24 rfl (lv_at hl 1 rfl) ?_
        obtain ⟨hg_1, hf⟩ := dc_g hf
        refine va_bald hx hb hK hP 1 1 rfl rfl hg_1 dn_M_read_I_25 ?_
        refine xk_ti (y := ((s.1 1) (Int32.toNatClampNeg x1))) rfl ?_
        obtain ⟨hg_2, hf⟩ := dc_g hf
        refine va_bast hx hb hK hP hD hS 59 1 rfl rfl hg_2 dn_M_read_I_26 (fun H locs hP hD hS => ?_)
        have hP : va_P (dC, dI) xcl ((wM h0 a cI cB cJ cZ s).set 59 ((a 90), .inl (cB, 65536, .inl (upd (s.1 90) (Int32.toNatClampNeg x1) (vp_nar .byte (((s.1 1) (Int32.toNatClampNeg x1)))))))) H := hP
        have hD : va_D A ((wM h0 a cI cB cJ cZ s).set 59 ((a 90), .inl (cB, 65536, .inl (upd (s.1 90) (Int32.toNatClampNeg x1) (vp_nar .byte (((s.1 1) (Int32.toNatClampNeg x1)))))))) := hD
        have hP := wM_P_90 hP
        have hD := wM_D_90 hD
        refine lv_iinc (v := (x1 + 1)) (lv' := [(1, .int ((x1 + 1))), (0, .ref h0)]) hx hb dn_M_read_I_27 hl (k := 1) rfl (dc_inc (by decide)) (by decide) rfl (fun ls hl => ?_)
        refine lv_goto (tgt := 7) hx hb dn_M_read_I_30 (by decide) ?_
        exact hk_7 ((x1 + 1)) (upI s 90 (upd (s.1 90) (Int32.toNatClampNeg x1) (vp_nar .byte (((s.1 1) (Int32.toNatClampNeg x1)))))) hf hge a H locs ls hP hD hS (lv_sub hl [1, 0] rfl)
  intro hge a H locs ls hP hD hS hl
  have hle := mn_M_read_I N s1 y hf
  unfold fn_M_read_I at hf
  refine lv_aload_n hx hb dn_M_read_I_0 rfl (lv_at hl 0 rfl) ?_
  refine lv_iconst (v := 0) hx hb dn_M_read_I_1 (by decide) ?_
  refine va_put (D := (dC, dI)) (ci := 0) (v := .int 0) (ty := .int) (C := rn_M) (T := fn_M) (N := 91) hx hb hg in_M tn_M tk_M nn_M hown hK hP hD hS 0 rfl rfl 0 (by decide) (hg _ wn_8_73) (fun _ h9 => h9) rfl (tk_M 0 (by decide)) rfl rfl (Nat.le_of_ble_eq_true rfl) dn_M_read_I_2 (fun H locs hP hD hS => ?_)
  have hP := wM_P_0 hP
  have hD := wM_D_0 hD
  refine lv_iconst (v := 0) hx hb dn_M_read_I_5 (by decide) ?_
  refine lv_istore_n (lv' := [(1, .int 0), (0, .ref h0)]) hx hb dn_M_read_I_6 rfl hl (by decide) rfl (fun ls hl => ?_)
  exact hd_7 N 0 (upI s1 0 (fun _ => 0)) hf hge a H locs ls hP hD hS (lv_sub hl [1, 0] rfl)
theorem mo_M_feed_89 (N : Nat) (k_36 : Int32 → Int32 → Int32 → Int32 → Int32 → Int32 → ms → Option (Int32 × ms)) (y : (Int32 × ms)) (hkm_36 : ∀ (x1 : Int32) (x2 : Int32) (x3 : Int32) (x4 : Int32) (x5 : Int32) (x6 : Int32) (s : ms), k_36 x1 x2 x3 x4 x5 x6 s = some y → gl y.2 = gl s) (x1 : Int32) (x2 : Int32) (x3 : Int32) (x4 : Int32) (x5 : Int32) (x6 : Int32) (t0 : Int32) (s : ms) (hf : bk_M_feed_89 N k_36 x1 x2 x3 x4 x5 x6 t0 s = some y) : gl y.2 = gl s := by
  unfold bk_M_feed_89 at hf
  have hm : gl s = gl s := rfl
  obtain ⟨_, hf⟩ := dc_g hf
  exact (hkm_36 x1 x2 x3 x4 x5 ((x6 + 1)) (upI s 1 (upd (s.1 1) (Int32.toNatClampNeg (((s.1 88 0) + x6))) (vp_nar .byte (((Int32.toInt8 (((t0 : Int32) >>> ((24 - (8 * (x6 - x6 / 4 * 4))) &&& 31)))).toInt32))))) hf).trans hm
theorem mb_M_feed_36 (N : Nat) (y : (Int32 × ms)) (k_36 : Int32 → Int32 → Int32 → Int32 → Int32 → Int32 → ms → Option (Int32 × ms)) (hkm_36 : ∀ (x1 : Int32) (x2 : Int32) (x3 : Int32) (x4 : Int32) (x5 : Int32) (x6 : Int32) (s : ms), k_36 x1 x2 x3 x4 x5 x6 s = some y → gl y.2 = gl s) (x1 : Int32) (x2 : Int32) (x3 : Int32) (x4 : Int32) (x5 : Int32) (x6 : Int32) (s : ms) (hf : bd_M_feed_36 N k_36 x1 x2 x3 x4 x5 x6 s = some y) : gl y.2 = gl s := by
  unfold bd_M_feed_36 at hf
  have hm : gl s = gl s := rfl
  by_cases h : 20 ≤ x6
  · have hf := (if_pos h).symm.trans hf
    exact (dc_e hf).trans hm
  · have hf := (if_neg h).symm.trans hf
    by_cases h : 4 ≤ x6
    · have hf := (if_pos h).symm.trans hf
      by_cases h : 8 ≤ x6
      · have hf := (if_pos h).symm.trans hf
        by_cases h : 12 ≤ x6
        · have hf := (if_pos h).symm.trans hf
          by_cases h : 16 ≤ x6
          · have hf := (if_pos h).symm.trans hf
            exact (mo_M_feed_89 N k_36 y hkm_36 x1 x2 x3 x4 x5 x6 x5 s hf).trans hm
          · have hf := (if_neg h).symm.trans hf
            exact (mo_M_feed_89 N k_36 y hkm_36 x1 x2 x3 x4 x5 x6 x4 s hf).trans hm
        · have hf := (if_neg h).symm.trans hf
          exact (mo_M_feed_89 N k_36 y hkm_36 x1 x2 x3 x4 x5 x6 x3 s hf).trans hm
      · have hf := (if_neg h).symm.trans hf
        exact (mo_M_feed_89 N k_36 y hkm_36 x1 x2 x3 x4 x5 x6 x2 s hf).trans hm
    · have hf := (if_neg h).symm.trans hf
      exact (mo_M_feed_89 N k_36 y hkm_36 x1 x2 x3 x4 x5 x6 x1 s hf).trans hm
theorem mh_M_feed_36 (N : Nat) (y : (Int32 × ms)) : ∀ (n : Nat) (x1 : Int32) (x2 : Int32) (x3 : Int32) (x4 : Int32) (x5 : Int32) (x6 : Int32) (s : ms), hd_M_feed_36 N n x1 x2 x3 x4 x5 x6 s = some y → gl y.2 = gl s := by
  intro n
  induction n with
  | zero => intro x1 x2 x3 x4 x5 x6 s hf; cases hf
  | succ n ih => intro x1 x2 x3 x4 x5 x6 s hf; exact mb_M_feed_36 N y (hd_M_feed_36 N n) ih x1 x2 x3 x4 x5 x6 s hf
theorem mo_M_feed_21 (N : Nat) (y : (Int32 × ms)) (x1 : Int32) (x2 : Int32) (x3 : Int32) (x4 : Int32) (x5 : Int32) (t0 : Int32) (s : ms) (hf : bk_M_feed_21 N x1 x2 x3 x4 x5 t0 s = some y) : gl y.2 = gl s := by
  unfold bk_M_feed_21 at hf
  have hm : gl s = gl s := rfl
  by_cases h : t0 ≤ 0
  · have hf := (if_pos h).symm.trans hf
    exact (mh_M_feed_36 N y N x1 x2 x3 x4 x5 0 (upI s 0 (fun _ => t0)) hf).trans hm
  · have hf := (if_neg h).symm.trans hf
    exact (dc_e hf).trans hm
theorem mn_M_feed (N : Nat) (v1 : Int32) (v2 : Int32) (v3 : Int32) (v4 : Int32) (v5 : Int32) (s : ms) (y : (Int32 × ms)) (hf : fn_M_feed N v1 v2 v3 v4 v5 s = some y) : gl y.2 = gl s := by
  unfold fn_M_feed at hf
  have hm : gl s = gl s := rfl
  by_cases h : ((s.1 88 0) + 20) ≤ 65536
  · have hf := (if_pos h).symm.trans hf
    exact (mo_M_feed_21 N y v1 v2 v3 v4 v5 0 s hf).trans hm
  · have hf := (if_neg h).symm.trans hf
    exact (mo_M_feed_21 N y v1 v2 v3 v4 v5 1 s hf).trans hm
set_option maxHeartbeats 8000000 in
set_option maxRecDepth 100000 in
theorem ct_M_feed (l : Launch) (dC : Nat → ClassId) (dI : Nat → Nat → Nat) (cI cB cJ cZ cQ : ClassId) (N sz : Nat) (h0 : Nat) (a : Nat → Nat) (v1 : Int32) (v2 : Int32) (v3 : Int32) (v4 : Int32) (v5 : Int32) (s : ms) (y : (Int32 × ms)) (hf : fn_M_feed N v1 v2 v3 v4 v5 s = some y) : Met l yn_M_feed (xw yn_M_feed bn_M_feed 8 (some .int)) ({ frames := 0, cells := 0, slots := 0, locals := 0 }) (dc_P (dC, dI) xcl (xt cI cB cJ cZ cQ) [.ref h0, .int v1, .int v2, .int v3, .int v4, .int v5] sz (wM h0 a cI cB cJ cZ s)) (xk_Qi (dC, dI) xcl (xt cI cB cJ cZ cQ) (fun (r : Int32) (_ : Unit) => r = y.1) (fun u : Unit => (wM h0 a cI cB cJ cZ y.2)) (va_A (wM h0 a cI cB cJ cZ s) sz)) 0 0 (va_A (wM h0 a cI cB cJ cZ s) sz) := by
  refine dc_of (QA := xk_Qi (dC, dI) xcl (xt cI cB cJ cZ cQ) (fun (r : Int32) (_ : Unit) => r = y.1) (fun u : Unit => (wM h0 a cI cB cJ cZ y.2))) (by decide) (Nat.le_of_ble_eq_true rfl) ?_
  intro p e s0 m below meth c hx hb hml hown hg hr hlocks hin hP hK hN A hA hD hT ls hl
  have hown : s0.vm.findClass rn_M = some m.cls := hown
  obtain ⟨H, hH⟩ : ∃ z, z = s0.heap := ⟨_, rfl⟩
  rw [← hH] at hP
  have hS : va_S A s0.heap H [] := by rw [hH]; exact va_S.rf
  suffices kk : ∀ QQ : State → Prop, QQ = MQ below (xk_Qi (dC, dI) xcl (xt cI cB cJ cZ cQ) (fun (r : Int32) (_ : Unit) => r = y.1) (fun u : Unit => (wM h0 a cI cB cJ cZ y.2)) A) [.ref h0, .int v1, .int v2, .int v3, .int v4, .int v5].toArray s0 0 0 A → dcC p l e ({ frames := 0, cells := 0, slots := 0, locals := 0 }) s0 m [.ref h0, .int v1, .int v2, .int v3, .int v4, .int v5].toArray below meth c QQ (dC, dI) A (wM h0 a cI cB cJ cZ s) 0 8 [(0, .ref h0), (1, .int v1), (2, .int v2), (3, .int v3), (4, .int v4), (5, .int v5)] [] by
    have k9 := kk _ rfl H [] ls hP hD hS hl
    rw [hH] at k9; exact k9
  clear hP hD hS hl hH H ls
  intro QQ hQQ
  have bl_89 : ∀ (k_36 : Int32 → Int32 → Int32 → Int32 → Int32 → Int32 → ms → Option (Int32 × ms)) (hk_36 : ∀ (x1 : Int32) (x2 : Int32) (x3 : Int32) (x4 : Int32) (x5 : Int32) (x6 : Int32) (s : ms), k_36 x1 x2 x3 x4 x5 x6 s = some y → dcC p l e ({ frames := 0, cells := 0, slots := 0, locals := 0 }) s0 m [.ref h0, .int v1, .int v2, .int v3, .int v4, .int v5].toArray below meth c QQ (dC, dI) A (wM h0 a cI cB cJ cZ s) 36 8 [(0, .ref h0), (1, .int x1), (2, .int x2), (3, .int x3), (4, .int x4), (5, .int x5), (6, .int x6)] []) (x1 : Int32) (x2 : Int32) (x3 : Int32) (x4 : Int32) (x5 : Int32) (x6 : Int32) (t0 : Int32) (s : ms), bk_M_feed_89 N k_36 x1 x2 x3 x4 x5 x6 t0 s = some y → dcC p l e ({ frames := 0, cells := 0, slots := 0, locals := 0 }) s0 m [.ref h0, .int v1, .int v2, .int v3, .int v4, .int v5].toArray below meth c QQ (dC, dI) A (wM h0 a cI cB cJ cZ s) 89 8 [(0, .ref h0), (1, .int x1), (2, .int x2), (3, .int x3), (4, .int x4), (5, .int x5), (6, .int x6)] [.int t0] := by
    intro k_36 hk_36 x1 x2 x3 x4 x5 x6 t0 s hf H locs ls hP hD hS hl
    unfold bk_M_feed_89 at hf
    refine lv_istore (lv' := [(7, .int t0), (0, .ref h0), (1, .int x1), (2, .int x2), (3, .int x3), (4, .int x4), (5, .int x5), (6, .int x6)]) hx hb dn_M_feed_89 hl (by decide) rfl (fun ls hl => ?_)
    refine lv_aload_n hx hb dn_M_feed_91 rfl (lv_at hl 1 rfl) ?_
    refine va_get (D := (dC, dI)) (ci := 0) (v := .ref ((a 1))) (C := rn_M) (T := fn_M) (N := 91) hx hb hg in_M hown hK hP 0 rfl rfl 1 (by decide) (hg _ wn_8_74) (fun _ h9 => h9) rfl dn_M_feed_92 ?_
    refine lv_aload_n hx hb dn_M_feed_95 rfl (lv_at hl 1 rfl) ?_
    refine va_get (D := (dC, dI)) (ci := 0) (v := .int ((s.1 88 0))) (C := rn_M) (T := fn_M) (N := 91) hx hb hg in_M hown hK hP 0 rfl rfl 88 (by decide) (hg _ wn_8_161) (fun _ h9 => h9) rfl dn_M_feed_96 ?_
    refine lv_iload hx hb dn_M_feed_99 (lv_at hl 7 rfl) ?_
    refine lv_iadd hx hb dn_M_feed_101 ?_
    refine lv_iload hx hb dn_M_feed_102 (lv_at hl 0 rfl) ?_
    refine lv_bipush (v := 24) hx hb dn_M_feed_104 (by decide) ?_
    refine lv_bipush (v := 8) hx hb dn_M_feed_106 (by decide) ?_
    refine lv_iload hx hb dn_M_feed_108 (lv_at hl 7 rfl) ?_
    refine lv_iconst (v := 4) hx hb dn_M_feed_110 (by decide) ?_
    refine lv_irem hx hb dn_M_feed_111 (by decide) ?_
    refine lv_imul hx hb dn_M_feed_112 ?_
    refine lv_isub hx hb dn_M_feed_113 ?_
    refine lv_ishr hx hb dn_M_feed_114 ?_
    refine lv_i2b (v := (Int32.toInt8 (((t0 : Int32) >>> ((24 - (8 * (x6 - x6 / 4 * 4))) &&& 31)))).toInt32) hx hb dn_M_feed_115 rfl ?_
    obtain ⟨hg_1, hf⟩ := dc_g hf
    refine va_bast hx hb hK hP hD hS 1 1 rfl rfl hg_1 dn_M_feed_116 (fun H locs hP hD hS => ?_)
    have hP : va_P (dC, dI) xcl ((wM h0 a cI cB cJ cZ s).set 1 ((a 1), .inl (cB, 65536, .inl (upd (s.1 1) (Int32.toNatClampNeg (((s.1 88 0) + x6))) (vp_nar .byte (((Int32.toInt8 (((t0 : Int32) >>> ((24 - (8 * (x6 - x6 / 4 * 4))) &&& 31)))).toInt32))))))) H := hP
    have hD : va_D A ((wM h0 a cI cB cJ cZ s).set 1 ((a 1), .inl (cB, 65536, .inl (upd (s.1 1) (Int32.toNatClampNeg (((s.1 88 0) + x6))) (vp_nar .byte (((Int32.toInt8 (((t0 : Int32) >>> ((24 - (8 * (x6 - x6 / 4 * 4))) &&& 31)))).toInt32))))))) := hD
    have hP := wM_P_1 hP
    have hD := wM_D_1 hD
    refine lv_iinc (v := (x6 + 1)) (lv' := [(6, .int ((x6 + 1))), (7, .int t0), (0, .ref h0), (1, .int x1), (2, .int x2), (3, .int x3), (4, .int x4), (5, .int x5)]) hx hb dn_M_feed_117 hl (k := 7) rfl (dc_inc (by decide)) (by decide) rfl (fun ls hl => ?_)
    refine lv_goto (tgt := 36) hx hb dn_M_feed_120 (by decide) ?_
    exact hk_36 x1 x2 x3 x4 x5 ((x6 + 1)) (upI s 1 (upd (s.1 1) (Int32.toNatClampNeg (((s.1 88 0) + x6))) (vp_nar .byte (((Int32.toInt8 (((t0 : Int32) >>> ((24 - (8 * (x6 - x6 / 4 * 4))) &&& 31)))).toInt32))))) hf H locs ls hP hD hS (lv_sub hl [2, 3, 4, 5, 6, 7, 0] rfl)
  have hd_36 : ∀ (n : Nat) (x1 : Int32) (x2 : Int32) (x3 : Int32) (x4 : Int32) (x5 : Int32) (x6 : Int32) (s : ms), hd_M_feed_36 N n x1 x2 x3 x4 x5 x6 s = some y → dcC p l e ({ frames := 0, cells := 0, slots := 0, locals := 0 }) s0 m [.ref h0, .int v1, .int v2, .int v3, .int v4, .int v5].toArray below meth c QQ (dC, dI) A (wM h0 a cI cB cJ cZ s) 36 8 [(0, .ref h0), (1, .int x1), (2, .int x2), (3, .int x3), (4, .int x4), (5, .int x5), (6, .int x6)] [] := by
    intro n
    induction n with
    | zero => intro x1 x2 x3 x4 x5 x6 s hf; cases hf
    | succ n ih =>
      intro x1 x2 x3 x4 x5 x6 s hf H locs ls hP hD hS hl
      have hf : bd_M_feed_36 N (hd_M_feed_36 N n) x1 x2 x3 x4 x5 x6 s = some y := hf
      have hk_36 := ih
      generalize hd_M_feed_36 N n = k_36 at hf hk_36
      unfold bd_M_feed_36 at hf
      refine lv_iload hx hb dn_M_feed_36 (lv_at hl 6 rfl) ?_
      refine lv_bipush (v := 20) hx hb dn_M_feed_38 (by decide) ?_
      refine lv_icmp_ge (tgt := 123) hx hb dn_M_feed_40 (by decide) (fun h => ?_) (fun h => ?_)
      · have hf := (if_pos h).symm.trans hf
        refine lv_aload_n hx hb dn_M_feed_123 rfl (lv_at hl 0 rfl) ?_
        refine lv_aload_n hx hb dn_M_feed_124 rfl (lv_at hl 0 rfl) ?_
        refine va_get (D := (dC, dI)) (ci := 0) (v := .int ((s.1 88 0))) (C := rn_M) (T := fn_M) (N := 91) hx hb hg in_M hown hK hP 0 rfl rfl 88 (by decide) (hg _ wn_8_161) (fun _ h9 => h9) rfl dn_M_feed_125 ?_
        refine lv_bipush (v := 20) hx hb dn_M_feed_128 (by decide) ?_
        refine lv_iadd hx hb dn_M_feed_130 ?_
        refine va_put (D := (dC, dI)) (ci := 0) (v := .int (((s.1 88 0) + 20))) (ty := .int) (C := rn_M) (T := fn_M) (N := 91) hx hb hg in_M tn_M tk_M nn_M hown hK hP hD hS 0 rfl rfl 88 (by decide) (hg _ wn_8_161) (fun _ h9 => h9) rfl (tk_M 88 (by decide)) rfl rfl (Nat.le_of_ble_eq_true rfl) dn_M_feed_131 (fun H locs hP hD hS => ?_)
        have hP := wM_P_88 hP
        have hD := wM_D_88 hD
        refine lv_aload_n hx hb dn_M_feed_134 rfl (lv_at hl 0 rfl) ?_
        refine va_get (D := (dC, dI)) (ci := 0) (v := .int (((s.1 88 0) + 20))) (C := rn_M) (T := fn_M) (N := 91) hx hb hg in_M hown hK hP 0 rfl rfl 88 (by decide) (hg _ wn_8_161) (fun _ h9 => h9) rfl dn_M_feed_135 ?_
        rw [hQQ, ← Option.some.inj hf]
        exact xk_iret (w1 := fun u : Unit => (wM h0 a cI cB cJ cZ (upI s 88 (fun _ => ((s.1 88 0) + 20))))) () hx hb hr hlocks hK hS dn_M_feed_138 hP hD rfl (Nat.le_refl _) (Nat.le_refl _)
      · have hf := (if_neg h).symm.trans hf
        refine lv_iload hx hb dn_M_feed_43 (lv_at hl 6 rfl) ?_
        refine lv_iconst (v := 4) hx hb dn_M_feed_45 (by decide) ?_
        refine lv_icmp_ge (tgt := 53) hx hb dn_M_feed_46 (by decide) (fun h => ?_) (fun h => ?_)
        · have hf := (if_pos h).symm.trans hf
          refine lv_iload hx hb dn_M_feed_53 (lv_at hl 6 rfl) ?_
          refine lv_bipush (v := 8) hx hb dn_M_feed_55 (by decide) ?_
          refine lv_icmp_ge (tgt := 64) hx hb dn_M_feed_57 (by decide) (fun h => ?_) (fun h => ?_)
          · have hf := (if_pos h).symm.trans hf
            refine lv_iload hx hb dn_M_feed_64 (lv_at hl 6 rfl) ?_
            refine lv_bipush (v := 12) hx hb dn_M_feed_66 (by decide) ?_
            refine lv_icmp_ge (tgt := 75) hx hb dn_M_feed_68 (by decide) (fun h => ?_) (fun h => ?_)
            · have hf := (if_pos h).symm.trans hf
              refine lv_iload hx hb dn_M_feed_75 (lv_at hl 6 rfl) ?_
              refine lv_bipush (v := 16) hx hb dn_M_feed_77 (by decide) ?_
              refine lv_icmp_ge (tgt := 87) hx hb dn_M_feed_79 (by decide) (fun h => ?_) (fun h => ?_)
              · have hf := (if_pos h).symm.trans hf
                refine lv_iload hx hb dn_M_feed_87 (lv_at hl 5 rfl) ?_
                exact bl_89 k_36 hk_36 x1 x2 x3 x4 x5 x6 x5 s hf H locs ls hP hD hS hl
              · have hf := (if_neg h).symm.trans hf
                refine lv_iload hx hb dn_M_feed_82 (lv_at hl 4 rfl) ?_
                refine lv_goto (tgt := 89) hx hb dn_M_feed_84 (by decide) ?_
                exact bl_89 k_36 hk_36 x1 x2 x3 x4 x5 x6 x4 s hf H locs ls hP hD hS hl
            · have hf := (if_neg h).symm.trans hf
              refine lv_iload_n hx hb dn_M_feed_71 rfl (lv_at hl 3 rfl) ?_
              refine lv_goto (tgt := 89) hx hb dn_M_feed_72 (by decide) ?_
              exact bl_89 k_36 hk_36 x1 x2 x3 x4 x5 x6 x3 s hf H locs ls hP hD hS hl
          · have hf := (if_neg h).symm.trans hf
            refine lv_iload_n hx hb dn_M_feed_60 rfl (lv_at hl 2 rfl) ?_
            refine lv_goto (tgt := 89) hx hb dn_M_feed_61 (by decide) ?_
            exact bl_89 k_36 hk_36 x1 x2 x3 x4 x5 x6 x2 s hf H locs ls hP hD hS hl
        · have hf := (if_neg h).symm.trans hf
          refine lv_iload_n hx hb dn_M_feed_49 rfl (lv_at hl 1 rfl) ?_
          refine lv_goto (tgt := 89) hx hb dn_M_feed_50 (by decide) ?_
          exact bl_89 k_36 hk_36 x1 x2 x3 x4 x5 x6 x1 s hf H locs ls hP hD hS hl
  have bl_21 : ∀ (x1 : Int32) (x2 : Int32) (x3 : Int32) (x4 : Int32) (x5 : Int32) (t0 : Int32) (s : ms), bk_M_feed_21 N x1 x2 x3 x4 x5 t0 s = some y → dcC p l e ({ frames := 0, cells := 0, slots := 0, locals := 0 }) s0 m [.ref h0, .int v1, .int v2, .int v3, .int v4, .int v5].toArray below meth c QQ (dC, dI) A (wM h0 a cI cB cJ cZ s) 21 8 [(0, .ref h0), (1, .int x1), (2, .int x2), (3, .int x3), (4, .int x4), (5, .int x5)] [.int t0, .ref h0] := by
    intro x1 x2 x3 x4 x5 t0 s hf H locs ls hP hD hS hl
    unfold bk_M_feed_21 at hf
    refine va_put (D := (dC, dI)) (ci := 0) (v := .int t0) (ty := .int) (C := rn_M) (T := fn_M) (N := 91) hx hb hg in_M tn_M tk_M nn_M hown hK hP hD hS 0 rfl rfl 0 (by decide) (hg _ wn_8_73) (fun _ h9 => h9) rfl (tk_M 0 (by decide)) rfl rfl (Nat.le_of_ble_eq_true rfl) dn_M_feed_21 (fun H locs hP hD hS => ?_)
    have hP := wM_P_0 hP
    have hD := wM_D_0 hD
    refine lv_aload_n hx hb dn_M_feed_24 rfl (lv_at hl 0 rfl) ?_
    refine va_get (D := (dC, dI)) (ci := 0) (v := .int t0) (C := rn_M) (T := fn_M) (N := 91) hx hb hg in_M hown hK hP 0 rfl rfl 0 (by decide) (hg _ wn_8_73) (fun _ h9 => h9) rfl dn_M_feed_25 ?_
    refine lv_if_le (tgt := 33) hx hb dn_M_feed_28 (by decide) (fun h => ?_) (fun h => ?_)
    · have hf := (if_pos h).symm.trans hf
      refine lv_iconst (v := 0) hx hb dn_M_feed_33 (by decide) ?_
      refine lv_istore (lv' := [(6, .int 0), (0, .ref h0), (1, .int x1), (2, .int x2), (3, .int x3), (4, .int x4), (5, .int x5)]) hx hb dn_M_feed_34 hl (by decide) rfl (fun ls hl => ?_)
      exact hd_36 N x1 x2 x3 x4 x5 0 (upI s 0 (fun _ => t0)) hf H locs ls hP hD hS (lv_sub hl [1, 2, 3, 4, 5, 6, 0] rfl)
    · have hf := (if_neg h).symm.trans hf
      refine lv_iconst (v := 0) hx hb dn_M_feed_31 (by decide) ?_
      rw [hQQ, ← Option.some.inj hf]
      exact xk_iret (w1 := fun u : Unit => (wM h0 a cI cB cJ cZ (upI s 0 (fun _ => t0)))) () hx hb hr hlocks hK hS dn_M_feed_32 hP hD rfl (Nat.le_refl _) (Nat.le_refl _)
  intro H locs ls hP hD hS hl
  unfold fn_M_feed at hf
  refine lv_aload_n hx hb dn_M_feed_0 rfl (lv_at hl 0 rfl) ?_
  refine lv_aload_n hx hb dn_M_feed_1 rfl (lv_at hl 0 rfl) ?_
  refine va_get (D := (dC, dI)) (ci := 0) (v := .int ((s.1 88 0))) (C := rn_M) (T := fn_M) (N := 91) hx hb hg in_M hown hK hP 0 rfl rfl 88 (by decide) (hg _ wn_8_161) (fun _ h9 => h9) rfl dn_M_feed_2 ?_
  refine lv_bipush (v := 20) hx hb dn_M_feed_5 (by decide) ?_
  refine lv_iadd hx hb dn_M_feed_7 ?_
  refine lv_aload_n hx hb dn_M_feed_8 rfl (lv_at hl 0 rfl) ?_
  refine va_get (D := (dC, dI)) (ci := 0) (v := .ref ((a 1))) (C := rn_M) (T := fn_M) (N := 91) hx hb hg in_M hown hK hP 0 rfl rfl 1 (by decide) (hg _ wn_8_74) (fun _ h9 => h9) rfl dn_M_feed_9 ?_
  refine va_alen (v := 65536) hx hb hK hP 1 1 rfl rfl rfl dn_M_feed_12 ?_
  refine lv_icmp_le (tgt := 20) hx hb dn_M_feed_13 (by decide) (fun h => ?_) (fun h => ?_)
  · have hf := (if_pos h).symm.trans hf
    refine lv_iconst (v := 0) hx hb dn_M_feed_20 (by decide) ?_
    exact bl_21 v1 v2 v3 v4 v5 0 s hf H locs ls hP hD hS hl
  · have hf := (if_neg h).symm.trans hf
    refine lv_iconst (v := 1) hx hb dn_M_feed_16 (by decide) ?_
    refine lv_goto (tgt := 21) hx hb dn_M_feed_17 (by decide) ?_
    exact bl_21 v1 v2 v3 v4 v5 1 s hf H locs ls hP hD hS hl
theorem mo_M_end_37 (N : Nat) (y : (Unit × ms)) (t0 : Int32) (s : ms) (hf : bk_M_end_37 N t0 s = some y) : gl y.2 = gl s := by
  unfold bk_M_end_37 at hf
  have hm : gl s = gl s := rfl
  exact (dc_e hf).trans hm
theorem mo_M_end_18 (N : Nat) (y : (Unit × ms)) (x1 : Int32) (t0 : Int32) (s : ms) (hf : bk_M_end_18 N x1 t0 s = some y) : gl y.2 = gl s := by
  unfold bk_M_end_18 at hf
  have hm : gl s = gl s := rfl
  by_cases h : t0 ≤ 0
  · have hf := (if_pos h).symm.trans hf
    exact (mo_M_end_37 N y x1 (upI s 0 (fun _ => t0)) hf).trans hm
  · have hf := (if_neg h).symm.trans hf
    exact (mo_M_end_37 N y ((s.1 88 0)) (upI s 0 (fun _ => t0)) hf).trans hm
theorem mo_M_end_13 (N : Nat) (y : (Unit × ms)) (x1 : Int32) (s : ms) (hf : bk_M_end_13 N x1 s = some y) : gl y.2 = gl s := by
  unfold bk_M_end_13 at hf
  have hm : gl s = gl s := rfl
  exact (mo_M_end_18 N y x1 1 s hf).trans hm
theorem mn_M_end (N : Nat) (v1 : Int32) (s : ms) (y : (Unit × ms)) (hf : fn_M_end N v1 s = some y) : gl y.2 = gl s := by
  unfold fn_M_end at hf
  have hm : gl s = gl s := rfl
  by_cases h : v1 < 0
  · have hf := (if_pos h).symm.trans hf
    exact (mo_M_end_13 N y v1 s hf).trans hm
  · have hf := (if_neg h).symm.trans hf
    by_cases h : v1 ≤ (s.1 88 0)
    · have hf := (if_pos h).symm.trans hf
      exact (mo_M_end_18 N y v1 0 s hf).trans hm
    · have hf := (if_neg h).symm.trans hf
      exact (mo_M_end_13 N y v1 s hf).trans hm
set_option maxHeartbeats 8000000 in
set_option maxRecDepth 100000 in
theorem ct_M_end (l : Launch) (dC : Nat → ClassId) (dI : Nat → Nat → Nat) (cI cB cJ cZ cQ : ClassId) (N sz : Nat) (h0 : Nat) (a : Nat → Nat) (v1 : Int32) (s : ms) (y : (Unit × ms)) (hf : fn_M_end N v1 s = some y) : Met l yn_M_end (xw yn_M_end bn_M_end 2 none) ({ frames := 0, cells := 0, slots := 0, locals := 0 }) (dc_P (dC, dI) xcl (xt cI cB cJ cZ cQ) [.ref h0, .int v1] sz (wM h0 a cI cB cJ cZ s)) (xk_Qv (dC, dI) xcl (xt cI cB cJ cZ cQ) (fun _ : Unit => True) (fun u : Unit => (wM h0 a cI cB cJ cZ y.2)) (va_A (wM h0 a cI cB cJ cZ s) sz)) 0 0 (va_A (wM h0 a cI cB cJ cZ s) sz) := by
  refine dc_of (QA := xk_Qv (dC, dI) xcl (xt cI cB cJ cZ cQ) (fun _ : Unit => True) (fun u : Unit => (wM h0 a cI cB cJ cZ y.2))) (by decide) (Nat.le_of_ble_eq_true rfl) ?_
  intro p e s0 m below meth c hx hb hml hown hg hr hlocks hin hP hK hN A hA hD hT ls hl
  have hown : s0.vm.findClass rn_M = some m.cls := hown
  obtain ⟨H, hH⟩ : ∃ z, z = s0.heap := ⟨_, rfl⟩
  rw [← hH] at hP
  have hS : va_S A s0.heap H [] := by rw [hH]; exact va_S.rf
  suffices kk : ∀ QQ : State → Prop, QQ = MQ below (xk_Qv (dC, dI) xcl (xt cI cB cJ cZ cQ) (fun _ : Unit => True) (fun u : Unit => (wM h0 a cI cB cJ cZ y.2)) A) [.ref h0, .int v1].toArray s0 0 0 A → dcC p l e ({ frames := 0, cells := 0, slots := 0, locals := 0 }) s0 m [.ref h0, .int v1].toArray below meth c QQ (dC, dI) A (wM h0 a cI cB cJ cZ s) 0 2 [(0, .ref h0), (1, .int v1)] [] by
    have k9 := kk _ rfl H [] ls hP hD hS hl
    rw [hH] at k9; exact k9
  clear hP hD hS hl hH H ls
  intro QQ hQQ
  have bl_37 : ∀ (t0 : Int32) (s : ms), bk_M_end_37 N t0 s = some y → dcC p l e ({ frames := 0, cells := 0, slots := 0, locals := 0 }) s0 m [.ref h0, .int v1].toArray below meth c QQ (dC, dI) A (wM h0 a cI cB cJ cZ s) 37 2 [] [.int t0, .ref h0] := by
    intro t0 s hf H locs ls hP hD hS hl
    unfold bk_M_end_37 at hf
    refine va_put (D := (dC, dI)) (ci := 0) (v := .int t0) (ty := .int) (C := rn_M) (T := fn_M) (N := 91) hx hb hg in_M tn_M tk_M nn_M hown hK hP hD hS 0 rfl rfl 88 (by decide) (hg _ wn_8_161) (fun _ h9 => h9) rfl (tk_M 88 (by decide)) rfl rfl (Nat.le_of_ble_eq_true rfl) dn_M_end_37 (fun H locs hP hD hS => ?_)
    have hP := wM_P_88 hP
    have hD := wM_D_88 hD
    rw [hQQ, ← Option.some.inj hf]
    exact xk_vret (w1 := fun u : Unit => (wM h0 a cI cB cJ cZ (upI s 88 (fun _ => t0)))) () hx hb hr hlocks hK hS dn_M_end_40 hP hD trivial (Nat.le_refl _) (Nat.le_refl _)
  have bl_18 : ∀ (x1 : Int32) (t0 : Int32) (s : ms), bk_M_end_18 N x1 t0 s = some y → dcC p l e ({ frames := 0, cells := 0, slots := 0, locals := 0 }) s0 m [.ref h0, .int v1].toArray below meth c QQ (dC, dI) A (wM h0 a cI cB cJ cZ s) 18 2 [(0, .ref h0), (1, .int x1)] [.int t0, .ref h0] := by
    intro x1 t0 s hf H locs ls hP hD hS hl
    unfold bk_M_end_18 at hf
    refine va_put (D := (dC, dI)) (ci := 0) (v := .int t0) (ty := .int) (C := rn_M) (T := fn_M) (N := 91) hx hb hg in_M tn_M tk_M nn_M hown hK hP hD hS 0 rfl rfl 0 (by decide) (hg _ wn_8_73) (fun _ h9 => h9) rfl (tk_M 0 (by decide)) rfl rfl (Nat.le_of_ble_eq_true rfl) dn_M_end_18 (fun H locs hP hD hS => ?_)
    have hP := wM_P_0 hP
    have hD := wM_D_0 hD
    refine lv_aload_n hx hb dn_M_end_21 rfl (lv_at hl 0 rfl) ?_
    refine lv_aload_n hx hb dn_M_end_22 rfl (lv_at hl 0 rfl) ?_
    refine va_get (D := (dC, dI)) (ci := 0) (v := .int t0) (C := rn_M) (T := fn_M) (N := 91) hx hb hg in_M hown hK hP 0 rfl rfl 0 (by decide) (hg _ wn_8_73) (fun _ h9 => h9) rfl dn_M_end_23 ?_
    refine lv_if_le (tgt := 36) hx hb dn_M_end_26 (by decide) (fun h => ?_) (fun h => ?_)
    · have hf := (if_pos h).symm.trans hf
      refine lv_iload_n hx hb dn_M_end_36 rfl (lv_at hl 1 rfl) ?_
      exact bl_37 x1 (upI s 0 (fun _ => t0)) hf H locs ls hP hD hS (lv_sub hl [] rfl)
    · have hf := (if_neg h).symm.trans hf
      refine lv_aload_n hx hb dn_M_end_29 rfl (lv_at hl 0 rfl) ?_
      refine va_get (D := (dC, dI)) (ci := 0) (v := .int ((s.1 88 0))) (C := rn_M) (T := fn_M) (N := 91) hx hb hg in_M hown hK hP 0 rfl rfl 88 (by decide) (hg _ wn_8_161) (fun _ h9 => h9) rfl dn_M_end_30 ?_
      refine lv_goto (tgt := 37) hx hb dn_M_end_33 (by decide) ?_
      exact bl_37 ((s.1 88 0)) (upI s 0 (fun _ => t0)) hf H locs ls hP hD hS (lv_sub hl [] rfl)
  have bl_13 : ∀ (x1 : Int32) (s : ms), bk_M_end_13 N x1 s = some y → dcC p l e ({ frames := 0, cells := 0, slots := 0, locals := 0 }) s0 m [.ref h0, .int v1].toArray below meth c QQ (dC, dI) A (wM h0 a cI cB cJ cZ s) 13 2 [(0, .ref h0), (1, .int x1)] [.ref h0] := by
    intro x1 s hf H locs ls hP hD hS hl
    unfold bk_M_end_13 at hf
    refine lv_iconst (v := 1) hx hb dn_M_end_13 (by decide) ?_
    refine lv_goto (tgt := 18) hx hb dn_M_end_14 (by decide) ?_
    exact bl_18 x1 1 s hf H locs ls hP hD hS hl
  intro H locs ls hP hD hS hl
  unfold fn_M_end at hf
  refine lv_aload_n hx hb dn_M_end_0 rfl (lv_at hl 0 rfl) ?_
  refine lv_iload_n hx hb dn_M_end_1 rfl (lv_at hl 1 rfl) ?_
  refine lv_if_lt (tgt := 13) hx hb dn_M_end_2 (by decide) (fun h => ?_) (fun h => ?_)
  · have hf := (if_pos h).symm.trans hf
    exact bl_13 v1 s hf H locs ls hP hD hS hl
  · have hf := (if_neg h).symm.trans hf
    refine lv_iload_n hx hb dn_M_end_5 rfl (lv_at hl 1 rfl) ?_
    refine lv_aload_n hx hb dn_M_end_6 rfl (lv_at hl 0 rfl) ?_
    refine va_get (D := (dC, dI)) (ci := 0) (v := .int ((s.1 88 0))) (C := rn_M) (T := fn_M) (N := 91) hx hb hg in_M hown hK hP 0 rfl rfl 88 (by decide) (hg _ wn_8_161) (fun _ h9 => h9) rfl dn_M_end_7 ?_
    refine lv_icmp_le (tgt := 17) hx hb dn_M_end_10 (by decide) (fun h => ?_) (fun h => ?_)
    · have hf := (if_pos h).symm.trans hf
      refine lv_iconst (v := 0) hx hb dn_M_end_17 (by decide) ?_
      exact bl_18 v1 0 s hf H locs ls hP hD hS hl
    · have hf := (if_neg h).symm.trans hf
      exact bl_13 v1 s hf H locs ls hP hD hS hl
theorem mn_M_fault (N : Nat) (s : ms) (y : (Int32 × ms)) (hf : fn_M_fault N s = some y) : gl y.2 = gl s := by
  unfold fn_M_fault at hf
  have hm : gl s = gl s := rfl
  exact (dc_e hf).trans hm
set_option maxHeartbeats 8000000 in
set_option maxRecDepth 100000 in
theorem ct_M_fault (l : Launch) (dC : Nat → ClassId) (dI : Nat → Nat → Nat) (cI cB cJ cZ cQ : ClassId) (N sz : Nat) (h0 : Nat) (a : Nat → Nat) (s : ms) (y : (Int32 × ms)) (hf : fn_M_fault N s = some y) : Met l yn_M_fault (xw yn_M_fault bn_M_fault 1 (some .int)) ({ frames := 0, cells := 0, slots := 0, locals := 0 }) (dc_P (dC, dI) xcl (xt cI cB cJ cZ cQ) [.ref h0] sz (wM h0 a cI cB cJ cZ s)) (xk_Qi (dC, dI) xcl (xt cI cB cJ cZ cQ) (fun (r : Int32) (_ : Unit) => r = y.1) (fun u : Unit => (wM h0 a cI cB cJ cZ y.2)) (va_A (wM h0 a cI cB cJ cZ s) sz)) 0 0 (va_A (wM h0 a cI cB cJ cZ s) sz) := by
  refine dc_of (QA := xk_Qi (dC, dI) xcl (xt cI cB cJ cZ cQ) (fun (r : Int32) (_ : Unit) => r = y.1) (fun u : Unit => (wM h0 a cI cB cJ cZ y.2))) (by decide) (Nat.le_of_ble_eq_true rfl) ?_
  intro p e s0 m below meth c hx hb hml hown hg hr hlocks hin hP hK hN A hA hD hT ls hl
  have hown : s0.vm.findClass rn_M = some m.cls := hown
  obtain ⟨H, hH⟩ : ∃ z, z = s0.heap := ⟨_, rfl⟩
  rw [← hH] at hP
  have hS : va_S A s0.heap H [] := by rw [hH]; exact va_S.rf
  suffices kk : ∀ QQ : State → Prop, QQ = MQ below (xk_Qi (dC, dI) xcl (xt cI cB cJ cZ cQ) (fun (r : Int32) (_ : Unit) => r = y.1) (fun u : Unit => (wM h0 a cI cB cJ cZ y.2)) A) [.ref h0].toArray s0 0 0 A → dcC p l e ({ frames := 0, cells := 0, slots := 0, locals := 0 }) s0 m [.ref h0].toArray below meth c QQ (dC, dI) A (wM h0 a cI cB cJ cZ s) 0 1 [(0, .ref h0)] [] by
    have k9 := kk _ rfl H [] ls hP hD hS hl
    rw [hH] at k9; exact k9
  clear hP hD hS hl hH H ls
  intro QQ hQQ
  intro H locs ls hP hD hS hl
  unfold fn_M_fault at hf
  refine lv_aload_n hx hb dn_M_fault_0 rfl (lv_at hl 0 rfl) ?_
  refine lv_iconst (v := 0) hx hb dn_M_fault_1 (by decide) ?_
  refine va_put (D := (dC, dI)) (ci := 0) (v := .int 0) (ty := .int) (C := rn_M) (T := fn_M) (N := 91) hx hb hg in_M tn_M tk_M nn_M hown hK hP hD hS 0 rfl rfl 0 (by decide) (hg _ wn_8_73) (fun _ h9 => h9) rfl (tk_M 0 (by decide)) rfl rfl (Nat.le_of_ble_eq_true rfl) dn_M_fault_2 (fun H locs hP hD hS => ?_)
  have hP := wM_P_0 hP
  have hD := wM_D_0 hD
  refine lv_aload_n hx hb dn_M_fault_5 rfl (lv_at hl 0 rfl) ?_
  refine va_get (D := (dC, dI)) (ci := 0) (v := .int ((s.1 3 0))) (C := rn_M) (T := fn_M) (N := 91) hx hb hg in_M hown hK hP 0 rfl rfl 3 (by decide) (hg _ wn_8_76) (fun _ h9 => h9) rfl dn_M_fault_6 ?_
  rw [hQQ, ← Option.some.inj hf]
  exact xk_iret (w1 := fun u : Unit => (wM h0 a cI cB cJ cZ (upI s 0 (fun _ => 0)))) () hx hb hr hlocks hK hS dn_M_fault_9 hP hD rfl (Nat.le_refl _) (Nat.le_refl _)
theorem mo_M_count_27 (N : Nat) (y : (Int32 × ms)) (x1 : Int32) (t0 : Int32) (s : ms) (hf : bk_M_count_27 N x1 t0 s = some y) : gl y.2 = gl s := by
  unfold bk_M_count_27 at hf
  have hm : gl s = gl s := rfl
  by_cases h : t0 ≤ 0
  · have hf := (if_pos h).symm.trans hf
    by_cases h_0 : x1 = 0
    · have hf := (if_pos h_0).symm.trans hf
      exact (dc_e hf).trans hm
    have hf := (if_neg h_0).symm.trans hf
    by_cases h_1 : x1 = 1
    · have hf := (if_pos h_1).symm.trans hf
      exact (dc_e hf).trans hm
    have hf := (if_neg h_1).symm.trans hf
    by_cases h_2 : x1 = 2
    · have hf := (if_pos h_2).symm.trans hf
      exact (dc_e hf).trans hm
    have hf := (if_neg h_2).symm.trans hf
    by_cases h_3 : x1 = 3
    · have hf := (if_pos h_3).symm.trans hf
      exact (dc_e hf).trans hm
    have hf := (if_neg h_3).symm.trans hf
    by_cases h_4 : x1 = 4
    · have hf := (if_pos h_4).symm.trans hf
      exact (dc_e hf).trans hm
    have hf := (if_neg h_4).symm.trans hf
    by_cases h_5 : x1 = 5
    · have hf := (if_pos h_5).symm.trans hf
      exact (dc_e hf).trans hm
    have hf := (if_neg h_5).symm.trans hf
    exact (dc_e hf).trans hm
  · have hf := (if_neg h).symm.trans hf
    exact (dc_e hf).trans hm
theorem mo_M_count_22 (N : Nat) (y : (Int32 × ms)) (x1 : Int32) (s : ms) (hf : bk_M_count_22 N x1 s = some y) : gl y.2 = gl s := by
  unfold bk_M_count_22 at hf
  have hm : gl s = gl s := rfl
  exact (mo_M_count_27 N y x1 2 s hf).trans hm
theorem mn_M_count (N : Nat) (v1 : Int32) (s : ms) (y : (Int32 × ms)) (hf : fn_M_count N v1 s = some y) : gl y.2 = gl s := by
  unfold fn_M_count at hf
  have hm : gl s = gl s := rfl
  by_cases h : (s.1 54 0) = 0
  · have hf := (if_pos h).symm.trans hf
    exact (mo_M_count_27 N y v1 1 s hf).trans hm
  · have hf := (if_neg h).symm.trans hf
    by_cases h : v1 < 0
    · have hf := (if_pos h).symm.trans hf
      exact (mo_M_count_22 N y v1 s hf).trans hm
    · have hf := (if_neg h).symm.trans hf
      by_cases h : v1 ≤ 6
      · have hf := (if_pos h).symm.trans hf
        exact (mo_M_count_27 N y v1 0 s hf).trans hm
      · have hf := (if_neg h).symm.trans hf
        exact (mo_M_count_22 N y v1 s hf).trans hm
set_option maxHeartbeats 8000000 in
set_option maxRecDepth 100000 in
theorem ct_M_count (l : Launch) (dC : Nat → ClassId) (dI : Nat → Nat → Nat) (cI cB cJ cZ cQ : ClassId) (N sz : Nat) (h0 : Nat) (a : Nat → Nat) (v1 : Int32) (s : ms) (y : (Int32 × ms)) (hf : fn_M_count N v1 s = some y) : Met l yn_M_count (xw yn_M_count bn_M_count 2 (some .int)) ({ frames := 0, cells := 0, slots := 0, locals := 0 }) (dc_P (dC, dI) xcl (xt cI cB cJ cZ cQ) [.ref h0, .int v1] sz (wM h0 a cI cB cJ cZ s)) (xk_Qi (dC, dI) xcl (xt cI cB cJ cZ cQ) (fun (r : Int32) (_ : Unit) => r = y.1) (fun u : Unit => (wM h0 a cI cB cJ cZ y.2)) (va_A (wM h0 a cI cB cJ cZ s) sz)) 0 0 (va_A (wM h0 a cI cB cJ cZ s) sz) := by
  refine dc_of (QA := xk_Qi (dC, dI) xcl (xt cI cB cJ cZ cQ) (fun (r : Int32) (_ : Unit) => r = y.1) (fun u : Unit => (wM h0 a cI cB cJ cZ y.2))) (by decide) (Nat.le_of_ble_eq_true rfl) ?_
  intro p e s0 m below meth c hx hb hml hown hg hr hlocks hin hP hK hN A hA hD hT ls hl
  have hown : s0.vm.findClass rn_M = some m.cls := hown
  obtain ⟨H, hH⟩ : ∃ z, z = s0.heap := ⟨_, rfl⟩
  rw [← hH] at hP
  have hS : va_S A s0.heap H [] := by rw [hH]; exact va_S.rf
  suffices kk : ∀ QQ : State → Prop, QQ = MQ below (xk_Qi (dC, dI) xcl (xt cI cB cJ cZ cQ) (fun (r : Int32) (_ : Unit) => r = y.1) (fun u : Unit => (wM h0 a cI cB cJ cZ y.2)) A) [.ref h0, .int v1].toArray s0 0 0 A → dcC p l e ({ frames := 0, cells := 0, slots := 0, locals := 0 }) s0 m [.ref h0, .int v1].toArray below meth c QQ (dC, dI) A (wM h0 a cI cB cJ cZ s) 0 2 [(0, .ref h0), (1, .int v1)] [] by
    have k9 := kk _ rfl H [] ls hP hD hS hl
    rw [hH] at k9; exact k9
  clear hP hD hS hl hH H ls
  intro QQ hQQ
  have bl_27 : ∀ (x1 : Int32) (t0 : Int32) (s : ms), bk_M_count_27 N x1 t0 s = some y → dcC p l e ({ frames := 0, cells := 0, slots := 0, locals := 0 }) s0 m [.ref h0, .int v1].toArray below meth c QQ (dC, dI) A (wM h0 a cI cB cJ cZ s) 27 2 [(0, .ref h0), (1, .int x1)] [.int t0, .ref h0] := by
    intro x1 t0 s hf H locs ls hP hD hS hl
    unfold bk_M_count_27 at hf
    refine va_put (D := (dC, dI)) (ci := 0) (v := .int t0) (ty := .int) (C := rn_M) (T := fn_M) (N := 91) hx hb hg in_M tn_M tk_M nn_M hown hK hP hD hS 0 rfl rfl 0 (by decide) (hg _ wn_8_73) (fun _ h9 => h9) rfl (tk_M 0 (by decide)) rfl rfl (Nat.le_of_ble_eq_true rfl) dn_M_count_27 (fun H locs hP hD hS => ?_)
    have hP := wM_P_0 hP
    have hD := wM_D_0 hD
    refine lv_aload_n hx hb dn_M_count_30 rfl (lv_at hl 0 rfl) ?_
    refine va_get (D := (dC, dI)) (ci := 0) (v := .int t0) (C := rn_M) (T := fn_M) (N := 91) hx hb hg in_M hown hK hP 0 rfl rfl 0 (by decide) (hg _ wn_8_73) (fun _ h9 => h9) rfl dn_M_count_31 ?_
    refine lv_if_le (tgt := 39) hx hb dn_M_count_34 (by decide) (fun h => ?_) (fun h => ?_)
    · have hf := (if_pos h).symm.trans hf
      refine lv_iload_n hx hb dn_M_count_39 rfl (lv_at hl 1 rfl) ?_
      by_cases h_0 : x1 = 0
      · have hf := (if_pos h_0).symm.trans hf
        refine xk_ti (y := 0) h_0 ?_
        refine lv_tableIn (tgt := 80) hx hb dn_M_count_40 (by decide) (by decide) rfl (by decide) ?_
        refine lv_aload_n hx hb dn_M_count_80 rfl (lv_at hl 0 rfl) ?_
        refine va_get (D := (dC, dI)) (ci := 0) (v := .int ((s.1 75 0))) (C := rn_M) (T := fn_M) (N := 91) hx hb hg in_M hown hK hP 0 rfl rfl 75 (by decide) (hg _ wn_8_148) (fun _ h9 => h9) rfl dn_M_count_81 ?_
        rw [hQQ, ← Option.some.inj hf]
        exact xk_iret (w1 := fun u : Unit => (wM h0 a cI cB cJ cZ (upI s 0 (fun _ => t0)))) () hx hb hr hlocks hK hS dn_M_count_84 hP hD rfl (Nat.le_refl _) (Nat.le_refl _)
      have hf := (if_neg h_0).symm.trans hf
      by_cases h_1 : x1 = 1
      · have hf := (if_pos h_1).symm.trans hf
        refine xk_ti (y := 1) h_1 ?_
        refine lv_tableIn (tgt := 85) hx hb dn_M_count_40 (by decide) (by decide) rfl (by decide) ?_
        refine lv_aload_n hx hb dn_M_count_85 rfl (lv_at hl 0 rfl) ?_
        refine va_get (D := (dC, dI)) (ci := 0) (v := .int ((s.1 56 0))) (C := rn_M) (T := fn_M) (N := 91) hx hb hg in_M hown hK hP 0 rfl rfl 56 (by decide) (hg _ wn_8_129) (fun _ h9 => h9) rfl dn_M_count_86 ?_
        refine lv_iconst (v := 1) hx hb dn_M_count_89 (by decide) ?_
        refine lv_isub hx hb dn_M_count_90 ?_
        rw [hQQ, ← Option.some.inj hf]
        exact xk_iret (w1 := fun u : Unit => (wM h0 a cI cB cJ cZ (upI s 0 (fun _ => t0)))) () hx hb hr hlocks hK hS dn_M_count_91 hP hD rfl (Nat.le_refl _) (Nat.le_refl _)
      have hf := (if_neg h_1).symm.trans hf
      by_cases h_2 : x1 = 2
      · have hf := (if_pos h_2).symm.trans hf
        refine xk_ti (y := 2) h_2 ?_
        refine lv_tableIn (tgt := 92) hx hb dn_M_count_40 (by decide) (by decide) rfl (by decide) ?_
        refine lv_aload_n hx hb dn_M_count_92 rfl (lv_at hl 0 rfl) ?_
        refine va_get (D := (dC, dI)) (ci := 0) (v := .int ((s.1 63 0))) (C := rn_M) (T := fn_M) (N := 91) hx hb hg in_M hown hK hP 0 rfl rfl 63 (by decide) (hg _ wn_8_136) (fun _ h9 => h9) rfl dn_M_count_93 ?_
        rw [hQQ, ← Option.some.inj hf]
        exact xk_iret (w1 := fun u : Unit => (wM h0 a cI cB cJ cZ (upI s 0 (fun _ => t0)))) () hx hb hr hlocks hK hS dn_M_count_96 hP hD rfl (Nat.le_refl _) (Nat.le_refl _)
      have hf := (if_neg h_2).symm.trans hf
      by_cases h_3 : x1 = 3
      · have hf := (if_pos h_3).symm.trans hf
        refine xk_ti (y := 3) h_3 ?_
        refine lv_tableIn (tgt := 97) hx hb dn_M_count_40 (by decide) (by decide) rfl (by decide) ?_
        refine lv_aload_n hx hb dn_M_count_97 rfl (lv_at hl 0 rfl) ?_
        refine va_get (D := (dC, dI)) (ci := 0) (v := .int ((s.1 76 0))) (C := rn_M) (T := fn_M) (N := 91) hx hb hg in_M hown hK hP 0 rfl rfl 76 (by decide) (hg _ wn_8_149) (fun _ h9 => h9) rfl dn_M_count_98 ?_
        rw [hQQ, ← Option.some.inj hf]
        exact xk_iret (w1 := fun u : Unit => (wM h0 a cI cB cJ cZ (upI s 0 (fun _ => t0)))) () hx hb hr hlocks hK hS dn_M_count_101 hP hD rfl (Nat.le_refl _) (Nat.le_refl _)
      have hf := (if_neg h_3).symm.trans hf
      by_cases h_4 : x1 = 4
      · have hf := (if_pos h_4).symm.trans hf
        refine xk_ti (y := 4) h_4 ?_
        refine lv_tableIn (tgt := 102) hx hb dn_M_count_40 (by decide) (by decide) rfl (by decide) ?_
        refine lv_aload_n hx hb dn_M_count_102 rfl (lv_at hl 0 rfl) ?_
        refine va_get (D := (dC, dI)) (ci := 0) (v := .int ((s.1 77 0))) (C := rn_M) (T := fn_M) (N := 91) hx hb hg in_M hown hK hP 0 rfl rfl 77 (by decide) (hg _ wn_8_150) (fun _ h9 => h9) rfl dn_M_count_103 ?_
        rw [hQQ, ← Option.some.inj hf]
        exact xk_iret (w1 := fun u : Unit => (wM h0 a cI cB cJ cZ (upI s 0 (fun _ => t0)))) () hx hb hr hlocks hK hS dn_M_count_106 hP hD rfl (Nat.le_refl _) (Nat.le_refl _)
      have hf := (if_neg h_4).symm.trans hf
      by_cases h_5 : x1 = 5
      · have hf := (if_pos h_5).symm.trans hf
        refine xk_ti (y := 5) h_5 ?_
        refine lv_tableIn (tgt := 107) hx hb dn_M_count_40 (by decide) (by decide) rfl (by decide) ?_
        refine lv_aload_n hx hb dn_M_count_107 rfl (lv_at hl 0 rfl) ?_
        refine va_get (D := (dC, dI)) (ci := 0) (v := .int ((s.1 78 0))) (C := rn_M) (T := fn_M) (N := 91) hx hb hg in_M hown hK hP 0 rfl rfl 78 (by decide) (hg _ wn_8_151) (fun _ h9 => h9) rfl dn_M_count_108 ?_
        rw [hQQ, ← Option.some.inj hf]
        exact xk_iret (w1 := fun u : Unit => (wM h0 a cI cB cJ cZ (upI s 0 (fun _ => t0)))) () hx hb hr hlocks hK hS dn_M_count_111 hP hD rfl (Nat.le_refl _) (Nat.le_refl _)
      have hf := (if_neg h_5).symm.trans hf
      refine lv_tableOut (tgt := 112) hx hb dn_M_count_40 (dc_out (fun k h1 h2 => by rcases (show k = 0 ∨ k = 1 ∨ k = 2 ∨ k = 3 ∨ k = 4 ∨ k = 5 by omega) with rfl | rfl | rfl | rfl | rfl | rfl <;> first | exact lv_neT h_0 (by decide) | exact lv_neT h_1 (by decide) | exact lv_neT h_2 (by decide) | exact lv_neT h_3 (by decide) | exact lv_neT h_4 (by decide) | exact lv_neT h_5 (by decide)) (by decide)) (by decide) ?_
      refine lv_aload_n hx hb dn_M_count_112 rfl (lv_at hl 0 rfl) ?_
      refine va_get (D := (dC, dI)) (ci := 0) (v := .long ((s.2 79 0))) (C := rn_M) (T := fn_M) (N := 91) hx hb hg in_M hown hK hP 0 rfl rfl 79 (by decide) (hg _ wn_8_152) (fun _ h9 => h9) rfl dn_M_count_113 ?_
      refine lv_l2i (v := Int64.toInt32 ((s.2 79 0))) hx hb dn_M_count_116 rfl ?_
      rw [hQQ, ← Option.some.inj hf]
      exact xk_iret (w1 := fun u : Unit => (wM h0 a cI cB cJ cZ (upI s 0 (fun _ => t0)))) () hx hb hr hlocks hK hS dn_M_count_117 hP hD rfl (Nat.le_refl _) (Nat.le_refl _)
    · have hf := (if_neg h).symm.trans hf
      refine lv_iconst (v := 0) hx hb dn_M_count_37 (by decide) ?_
      rw [hQQ, ← Option.some.inj hf]
      exact xk_iret (w1 := fun u : Unit => (wM h0 a cI cB cJ cZ (upI s 0 (fun _ => t0)))) () hx hb hr hlocks hK hS dn_M_count_38 hP hD rfl (Nat.le_refl _) (Nat.le_refl _)
  have bl_22 : ∀ (x1 : Int32) (s : ms), bk_M_count_22 N x1 s = some y → dcC p l e ({ frames := 0, cells := 0, slots := 0, locals := 0 }) s0 m [.ref h0, .int v1].toArray below meth c QQ (dC, dI) A (wM h0 a cI cB cJ cZ s) 22 2 [(0, .ref h0), (1, .int x1)] [.ref h0] := by
    intro x1 s hf H locs ls hP hD hS hl
    unfold bk_M_count_22 at hf
    refine lv_iconst (v := 2) hx hb dn_M_count_22 (by decide) ?_
    refine lv_goto (tgt := 27) hx hb dn_M_count_23 (by decide) ?_
    exact bl_27 x1 2 s hf H locs ls hP hD hS hl
  intro H locs ls hP hD hS hl
  unfold fn_M_count at hf
  refine lv_aload_n hx hb dn_M_count_0 rfl (lv_at hl 0 rfl) ?_
  refine lv_aload_n hx hb dn_M_count_1 rfl (lv_at hl 0 rfl) ?_
  refine va_get (D := (dC, dI)) (ci := 0) (v := .int ((s.1 54 0))) (C := rn_M) (T := fn_M) (N := 91) hx hb hg in_M hown hK hP 0 rfl rfl 54 (by decide) (hg _ wn_8_127) (fun _ h9 => h9) rfl dn_M_count_2 ?_
  refine lv_if_ne (tgt := 12) hx hb dn_M_count_5 (by decide) (fun h => ?_) (fun h => ?_)
  · have hf := (if_neg h).symm.trans hf
    refine lv_iload_n hx hb dn_M_count_12 rfl (lv_at hl 1 rfl) ?_
    refine lv_if_lt (tgt := 22) hx hb dn_M_count_13 (by decide) (fun h => ?_) (fun h => ?_)
    · have hf := (if_pos h).symm.trans hf
      exact bl_22 v1 s hf H locs ls hP hD hS hl
    · have hf := (if_neg h).symm.trans hf
      refine lv_iload_n hx hb dn_M_count_16 rfl (lv_at hl 1 rfl) ?_
      refine lv_bipush (v := 6) hx hb dn_M_count_17 (by decide) ?_
      refine lv_icmp_le (tgt := 26) hx hb dn_M_count_19 (by decide) (fun h => ?_) (fun h => ?_)
      · have hf := (if_pos h).symm.trans hf
        refine lv_iconst (v := 0) hx hb dn_M_count_26 (by decide) ?_
        exact bl_27 v1 0 s hf H locs ls hP hD hS hl
      · have hf := (if_neg h).symm.trans hf
        exact bl_22 v1 s hf H locs ls hP hD hS hl
  · have hf := (if_pos h).symm.trans hf
    refine lv_iconst (v := 1) hx hb dn_M_count_8 (by decide) ?_
    refine lv_goto (tgt := 27) hx hb dn_M_count_9 (by decide) ?_
    exact bl_27 v1 1 s hf H locs ls hP hD hS hl
