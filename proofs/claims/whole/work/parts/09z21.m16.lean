theorem mb_M_goesOn_31 (N : Nat) (y : (Int32 × ms)) (k_31 : Int32 → Int32 → Int32 → Int32 → ms → Option (Int32 × ms)) (hkm_31 : ∀ (x1 : Int32) (x2 : Int32) (x3 : Int32) (x4 : Int32) (s : ms), k_31 x1 x2 x3 x4 s = some y → gl y.2 = gl s) (x1 : Int32) (x2 : Int32) (x3 : Int32) (x4 : Int32) (s : ms) (hf : bd_M_goesOn_31 N k_31 x1 x2 x3 x4 s = some y) : gl y.2 = gl s := by
  unfold bd_M_goesOn_31 at hf
  have hm : gl s = gl s := rfl
  by_cases h : x3 = 0
  · have hf := (if_pos h).symm.trans hf
    obtain ⟨_, hf⟩ := dc_g hf
    exact (dc_e hf).trans hm
  · have hf := (if_neg h).symm.trans hf
    obtain ⟨_, hf⟩ := dc_g hf
    obtain ⟨_, hf⟩ := dc_g hf
    by_cases h : (((s.1 6) (Int32.toNatClampNeg x2)) - ((s.1 5) (Int32.toNatClampNeg x2))) ≤ x4
    · have hf := (if_pos h).symm.trans hf
      obtain ⟨_, hf⟩ := dc_g hf
      exact (dc_e hf).trans hm
    · have hf := (if_neg h).symm.trans hf
      obtain ⟨_, hf⟩ := dc_g hf
      obtain ⟨_, hf⟩ := dc_g hf
      obtain ⟨_, hf⟩ := dc_g hf
      by_cases h : ((s.1 1) (Int32.toNatClampNeg ((x1 + x4)))) = ((s.1 90) (Int32.toNatClampNeg ((((s.1 5) (Int32.toNatClampNeg x2)) + x4))))
      · have hf := (if_pos h).symm.trans hf
        exact (hkm_31 x1 x2 1 ((x4 + 1)) s hf).trans hm
      · have hf := (if_neg h).symm.trans hf
        exact (hkm_31 x1 x2 0 ((x4 + 1)) s hf).trans hm
theorem mh_M_goesOn_31 (N : Nat) (y : (Int32 × ms)) : ∀ (n : Nat) (x1 : Int32) (x2 : Int32) (x3 : Int32) (x4 : Int32) (s : ms), hd_M_goesOn_31 N n x1 x2 x3 x4 s = some y → gl y.2 = gl s := by
  intro n
  induction n with
  | zero => intro x1 x2 x3 x4 s hf; cases hf
  | succ n ih => intro x1 x2 x3 x4 s hf; exact mb_M_goesOn_31 N y (hd_M_goesOn_31 N n) ih x1 x2 x3 x4 s hf
theorem mn_M_goesOn (N : Nat) (v1 : Int32) (v2 : Int32) (s : ms) (y : (Int32 × ms)) (hf : fn_M_goesOn N v1 v2 s = some y) : gl y.2 = gl s := by
  unfold fn_M_goesOn at hf
  have hm : gl s = gl s := rfl
  obtain ⟨_, hf⟩ := dc_g hf
  obtain ⟨_, hf⟩ := dc_g hf
  by_cases h : (s.1 88 0) < ((v1 + ((s.1 6) (Int32.toNatClampNeg v2))) - ((s.1 5) (Int32.toNatClampNeg v2)))
  · have hf := (if_pos h).symm.trans hf
    exact (mh_M_goesOn_31 N y N v1 v2 0 0 s hf).trans hm
  · have hf := (if_neg h).symm.trans hf
    exact (mh_M_goesOn_31 N y N v1 v2 1 0 s hf).trans hm
set_option maxHeartbeats 8000000 in
set_option maxRecDepth 100000 in
theorem ct_M_goesOn (l : Launch) (dC : Nat → ClassId) (dI : Nat → Nat → Nat) (cI cB cJ cZ cQ : ClassId) (N sz : Nat) (h0 : Nat) (a : Nat → Nat) (v1 : Int32) (v2 : Int32) (s : ms) (y : (Int32 × ms)) (hf : fn_M_goesOn N v1 v2 s = some y) : Met l yn_M_goesOn (xw yn_M_goesOn bn_M_goesOn 5 (some .boolean)) ({ frames := 0, cells := 0, slots := 0, locals := 0 }) (dc_P (dC, dI) xcl (xt cI cB cJ cZ cQ) [.ref h0, .int v1, .int v2] sz (wM h0 a cI cB cJ cZ s)) (xk_Qi (dC, dI) xcl (xt cI cB cJ cZ cQ) (fun (r : Int32) (_ : Unit) => r = y.1) (fun u : Unit => (wM h0 a cI cB cJ cZ y.2)) (va_A (wM h0 a cI cB cJ cZ s) sz)) 0 0 (va_A (wM h0 a cI cB cJ cZ s) sz) := by
  refine dc_of (QA := xk_Qi (dC, dI) xcl (xt cI cB cJ cZ cQ) (fun (r : Int32) (_ : Unit) => r = y.1) (fun u : Unit => (wM h0 a cI cB cJ cZ y.2))) (by decide) (Nat.le_of_ble_eq_true rfl) ?_
  intro p e s0 m below meth c hx hb hml hown hg hr hlocks hin hP hK hN A hA hD hT ls hl
  have hown : s0.vm.findClass rn_M = some m.cls := hown
  obtain ⟨H, hH⟩ : ∃ z, z = s0.heap := ⟨_, rfl⟩
  rw [← hH] at hP
  have hS : va_S A s0.heap H [] := by rw [hH]; exact va_S.rf
  suffices kk : ∀ QQ : State → Prop, QQ = MQ below (xk_Qi (dC, dI) xcl (xt cI cB cJ cZ cQ) (fun (r : Int32) (_ : Unit) => r = y.1) (fun u : Unit => (wM h0 a cI cB cJ cZ y.2)) A) [.ref h0, .int v1, .int v2].toArray s0 0 0 A → dcC p l e ({ frames := 0, cells := 0, slots := 0, locals := 0 }) s0 m [.ref h0, .int v1, .int v2].toArray below meth c QQ (dC, dI) A (wM h0 a cI cB cJ cZ s) 0 5 [(0, .ref h0), (1, .int v1), (2, .int v2)] [] by
    have k9 := kk _ rfl H [] ls hP hD hS hl
    rw [hH] at k9; exact k9
  clear hP hD hS hl hH H ls
  intro QQ hQQ
  have hd_31 : ∀ (n : Nat) (x1 : Int32) (x2 : Int32) (x3 : Int32) (x4 : Int32) (s : ms), hd_M_goesOn_31 N n x1 x2 x3 x4 s = some y → dcC p l e ({ frames := 0, cells := 0, slots := 0, locals := 0 }) s0 m [.ref h0, .int v1, .int v2].toArray below meth c QQ (dC, dI) A (wM h0 a cI cB cJ cZ s) 31 5 [(0, .ref h0), (1, .int x1), (2, .int x2), (3, .int x3), (4, .int x4)] [] := by
    intro n
    induction n with
    | zero => intro x1 x2 x3 x4 s hf; cases hf
    | succ n ih =>
      intro x1 x2 x3 x4 s hf H locs ls hP hD hS hl
      have hf : bd_M_goesOn_31 N (hd_M_goesOn_31 N n) x1 x2 x3 x4 s = some y := hf
      have hk_31 := ih
      generalize hd_M_goesOn_31 N n = k_31 at hf hk_31
      unfold bd_M_goesOn_31 at hf
      refine lv_iload_n hx hb dn_M_goesOn_31 rfl (lv_at hl 3 rfl) ?_
      refine lv_if_eq (tgt := 91) hx hb dn_M_goesOn_32 (by decide) (fun h => ?_) (fun h => ?_)
      · have hf := (if_pos h).symm.trans hf
        refine lv_iload_n hx hb dn_M_goesOn_91 rfl (lv_at hl 3 rfl) ?_
        obtain ⟨hg_1, hf⟩ := dc_g hf
        rw [hQQ, ← Option.some.inj hf]
        exact xk_zret (w1 := fun u : Unit => (wM h0 a cI cB cJ cZ s)) () hx hb hr (dc_z hg_1) hlocks hK hS dn_M_goesOn_92 hP hD rfl (Nat.le_refl _) (Nat.le_refl _)
      · have hf := (if_neg h).symm.trans hf
        refine lv_iload hx hb dn_M_goesOn_35 (lv_at hl 4 rfl) ?_
        refine lv_aload_n hx hb dn_M_goesOn_37 rfl (lv_at hl 0 rfl) ?_
        refine va_get (D := (dC, dI)) (ci := 0) (v := .ref ((a 6))) (C := rn_M) (T := fn_M) (N := 91) hx hb hg in_M hown hK hP 0 rfl rfl 6 (by decide) (hg _ wn_8_79) (fun _ h9 => h9) rfl dn_M_goesOn_38 ?_
        refine lv_iload_n hx hb dn_M_goesOn_41 rfl (lv_at hl 2 rfl) ?_
        obtain ⟨hg_1, hf⟩ := dc_g hf
        refine va_iald hx hb hK hP 4 0 rfl rfl hg_1 dn_M_goesOn_42 ?_
        refine xk_ti (y := ((s.1 6) (Int32.toNatClampNeg x2))) rfl ?_
        refine lv_aload_n hx hb dn_M_goesOn_43 rfl (lv_at hl 0 rfl) ?_
        refine va_get (D := (dC, dI)) (ci := 0) (v := .ref ((a 5))) (C := rn_M) (T := fn_M) (N := 91) hx hb hg in_M hown hK hP 0 rfl rfl 5 (by decide) (hg _ wn_8_78) (fun _ h9 => h9) rfl dn_M_goesOn_44 ?_
        refine lv_iload_n hx hb dn_M_goesOn_47 rfl (lv_at hl 2 rfl) ?_
        obtain ⟨hg_2, hf⟩ := dc_g hf
        refine va_iald hx hb hK hP 3 0 rfl rfl hg_2 dn_M_goesOn_48 ?_
        refine xk_ti (y := ((s.1 5) (Int32.toNatClampNeg x2))) rfl ?_
        refine lv_isub hx hb dn_M_goesOn_49 ?_
        refine lv_icmp_ge (tgt := 91) hx hb dn_M_goesOn_50 (by decide) (fun h => ?_) (fun h => ?_)
        · have hf := (if_pos h).symm.trans hf
          refine lv_iload_n hx hb dn_M_goesOn_91 rfl (lv_at hl 3 rfl) ?_
          obtain ⟨hg_3, hf⟩ := dc_g hf
          rw [hQQ, ← Option.some.inj hf]
          exact xk_zret (w1 := fun u : Unit => (wM h0 a cI cB cJ cZ s)) () hx hb hr (dc_z hg_3) hlocks hK hS dn_M_goesOn_92 hP hD rfl (Nat.le_refl _) (Nat.le_refl _)
        · have hf := (if_neg h).symm.trans hf
          refine lv_aload_n hx hb dn_M_goesOn_53 rfl (lv_at hl 0 rfl) ?_
          refine va_get (D := (dC, dI)) (ci := 0) (v := .ref ((a 1))) (C := rn_M) (T := fn_M) (N := 91) hx hb hg in_M hown hK hP 0 rfl rfl 1 (by decide) (hg _ wn_8_74) (fun _ h9 => h9) rfl dn_M_goesOn_54 ?_
          refine lv_iload_n hx hb dn_M_goesOn_57 rfl (lv_at hl 1 rfl) ?_
          refine lv_iload hx hb dn_M_goesOn_58 (lv_at hl 4 rfl) ?_
          refine lv_iadd hx hb dn_M_goesOn_60 ?_
          obtain ⟨hg_3, hf⟩ := dc_g hf
          refine va_bald hx hb hK hP 1 1 rfl rfl hg_3 dn_M_goesOn_61 ?_
          refine xk_ti (y := ((s.1 1) (Int32.toNatClampNeg ((x1 + x4))))) rfl ?_
          refine lv_aload_n hx hb dn_M_goesOn_62 rfl (lv_at hl 0 rfl) ?_
          refine va_get (D := (dC, dI)) (ci := 0) (v := .ref ((a 90))) (C := rn_M) (T := fn_M) (N := 91) hx hb hg in_M hown hK hP 0 rfl rfl 90 (by decide) (hg _ wn_8_163) (fun _ h9 => h9) rfl dn_M_goesOn_63 ?_
          refine lv_aload_n hx hb dn_M_goesOn_66 rfl (lv_at hl 0 rfl) ?_
          refine va_get (D := (dC, dI)) (ci := 0) (v := .ref ((a 5))) (C := rn_M) (T := fn_M) (N := 91) hx hb hg in_M hown hK hP 0 rfl rfl 5 (by decide) (hg _ wn_8_78) (fun _ h9 => h9) rfl dn_M_goesOn_67 ?_
          refine lv_iload_n hx hb dn_M_goesOn_70 rfl (lv_at hl 2 rfl) ?_
          obtain ⟨hg_4, hf⟩ := dc_g hf
          refine va_iald hx hb hK hP 3 0 rfl rfl hg_4 dn_M_goesOn_71 ?_
          refine xk_ti (y := ((s.1 5) (Int32.toNatClampNeg x2))) rfl ?_
          refine lv_iload hx hb dn_M_goesOn_72 (lv_at hl 4 rfl) ?_
          refine lv_iadd hx hb dn_M_goesOn_74 ?_
          obtain ⟨hg_5, hf⟩ := dc_g hf
          refine va_bald hx hb hK hP 59 1 rfl rfl hg_5 dn_M_goesOn_75 ?_
          refine xk_ti (y := ((s.1 90) (Int32.toNatClampNeg ((((s.1 5) (Int32.toNatClampNeg x2)) + x4))))) rfl ?_
          refine lv_icmp_ne (tgt := 83) hx hb dn_M_goesOn_76 (by decide) (fun h => ?_) (fun h => ?_)
          · have hf := (if_neg h).symm.trans hf
            refine lv_iconst (v := 0) hx hb dn_M_goesOn_83 (by decide) ?_
            refine lv_istore_n (lv' := [(3, .int 0), (0, .ref h0), (1, .int x1), (2, .int x2), (4, .int x4)]) hx hb dn_M_goesOn_84 rfl hl (by decide) rfl (fun ls hl => ?_)
            refine lv_iinc (v := (x4 + 1)) (lv' := [(4, .int ((x4 + 1))), (3, .int 0), (0, .ref h0), (1, .int x1), (2, .int x2)]) hx hb dn_M_goesOn_85 hl (k := 4) rfl (dc_inc (by decide)) (by decide) rfl (fun ls hl => ?_)
            refine lv_goto (tgt := 31) hx hb dn_M_goesOn_88 (by decide) ?_
            exact hk_31 x1 x2 0 ((x4 + 1)) s hf H locs ls hP hD hS (lv_sub hl [2, 3, 4, 1, 0] rfl)
          · have hf := (if_pos h).symm.trans hf
            refine lv_iconst (v := 1) hx hb dn_M_goesOn_79 (by decide) ?_
            refine lv_goto (tgt := 84) hx hb dn_M_goesOn_80 (by decide) ?_
            refine lv_istore_n (lv' := [(3, .int 1), (0, .ref h0), (1, .int x1), (2, .int x2), (4, .int x4)]) hx hb dn_M_goesOn_84 rfl hl (by decide) rfl (fun ls hl => ?_)
            refine lv_iinc (v := (x4 + 1)) (lv' := [(4, .int ((x4 + 1))), (3, .int 1), (0, .ref h0), (1, .int x1), (2, .int x2)]) hx hb dn_M_goesOn_85 hl (k := 4) rfl (dc_inc (by decide)) (by decide) rfl (fun ls hl => ?_)
            refine lv_goto (tgt := 31) hx hb dn_M_goesOn_88 (by decide) ?_
            exact hk_31 x1 x2 1 ((x4 + 1)) s hf H locs ls hP hD hS (lv_sub hl [2, 3, 4, 1, 0] rfl)
  intro H locs ls hP hD hS hl
  unfold fn_M_goesOn at hf
  refine lv_iload_n hx hb dn_M_goesOn_0 rfl (lv_at hl 1 rfl) ?_
  refine lv_aload_n hx hb dn_M_goesOn_1 rfl (lv_at hl 0 rfl) ?_
  refine va_get (D := (dC, dI)) (ci := 0) (v := .ref ((a 6))) (C := rn_M) (T := fn_M) (N := 91) hx hb hg in_M hown hK hP 0 rfl rfl 6 (by decide) (hg _ wn_8_79) (fun _ h9 => h9) rfl dn_M_goesOn_2 ?_
  refine lv_iload_n hx hb dn_M_goesOn_5 rfl (lv_at hl 2 rfl) ?_
  obtain ⟨hg_1, hf⟩ := dc_g hf
  refine va_iald hx hb hK hP 4 0 rfl rfl hg_1 dn_M_goesOn_6 ?_
  refine xk_ti (y := ((s.1 6) (Int32.toNatClampNeg v2))) rfl ?_
  refine lv_iadd hx hb dn_M_goesOn_7 ?_
  refine lv_aload_n hx hb dn_M_goesOn_8 rfl (lv_at hl 0 rfl) ?_
  refine va_get (D := (dC, dI)) (ci := 0) (v := .ref ((a 5))) (C := rn_M) (T := fn_M) (N := 91) hx hb hg in_M hown hK hP 0 rfl rfl 5 (by decide) (hg _ wn_8_78) (fun _ h9 => h9) rfl dn_M_goesOn_9 ?_
  refine lv_iload_n hx hb dn_M_goesOn_12 rfl (lv_at hl 2 rfl) ?_
  obtain ⟨hg_2, hf⟩ := dc_g hf
  refine va_iald hx hb hK hP 3 0 rfl rfl hg_2 dn_M_goesOn_13 ?_
  refine xk_ti (y := ((s.1 5) (Int32.toNatClampNeg v2))) rfl ?_
  refine lv_isub hx hb dn_M_goesOn_14 ?_
  refine lv_aload_n hx hb dn_M_goesOn_15 rfl (lv_at hl 0 rfl) ?_
  refine va_get (D := (dC, dI)) (ci := 0) (v := .int ((s.1 88 0))) (C := rn_M) (T := fn_M) (N := 91) hx hb hg in_M hown hK hP 0 rfl rfl 88 (by decide) (hg _ wn_8_161) (fun _ h9 => h9) rfl dn_M_goesOn_16 ?_
  refine lv_icmp_gt (tgt := 26) hx hb dn_M_goesOn_19 (by decide) (fun h => ?_) (fun h => ?_)
  · have hf := (if_pos h).symm.trans hf
    refine lv_iconst (v := 0) hx hb dn_M_goesOn_26 (by decide) ?_
    refine lv_istore_n (lv' := [(3, .int 0), (0, .ref h0), (1, .int v1), (2, .int v2)]) hx hb dn_M_goesOn_27 rfl hl (by decide) rfl (fun ls hl => ?_)
    refine lv_iconst (v := 0) hx hb dn_M_goesOn_28 (by decide) ?_
    refine lv_istore (lv' := [(4, .int 0), (3, .int 0), (0, .ref h0), (1, .int v1), (2, .int v2)]) hx hb dn_M_goesOn_29 hl (by decide) rfl (fun ls hl => ?_)
    exact hd_31 N v1 v2 0 0 s hf H locs ls hP hD hS (lv_sub hl [2, 3, 4, 1, 0] rfl)
  · have hf := (if_neg h).symm.trans hf
    refine lv_iconst (v := 1) hx hb dn_M_goesOn_22 (by decide) ?_
    refine lv_goto (tgt := 27) hx hb dn_M_goesOn_23 (by decide) ?_
    refine lv_istore_n (lv' := [(3, .int 1), (0, .ref h0), (1, .int v1), (2, .int v2)]) hx hb dn_M_goesOn_27 rfl hl (by decide) rfl (fun ls hl => ?_)
    refine lv_iconst (v := 0) hx hb dn_M_goesOn_28 (by decide) ?_
    refine lv_istore (lv' := [(4, .int 0), (3, .int 1), (0, .ref h0), (1, .int v1), (2, .int v2)]) hx hb dn_M_goesOn_29 hl (by decide) rfl (fun ls hl => ?_)
    exact hd_31 N v1 v2 1 0 s hf H locs ls hP hD hS (lv_sub hl [2, 3, 4, 1, 0] rfl)
theorem mo_M_isNamed_145 (N : Nat) (y : (Int32 × ms)) (x1 : Int32) (x4 : Int32) (x5 : Int32) (s : ms) (hf : bk_M_isNamed_145 N x1 x4 x5 s = some y) : gl y.2 = gl s := by
  unfold bk_M_isNamed_145 at hf
  have hm : gl s = gl s := rfl
  obtain ⟨_, hf⟩ := dc_g hf
  obtain ⟨_, hf⟩ := dc_g hf
  by_cases h : x5 = 0
  · have hf := (if_pos h).symm.trans hf
    exact (dc_e hf).trans hm
  · have hf := (if_neg h).symm.trans hf
    obtain ⟨q_3, hc_4, hf⟩ := dc_b hf
    have hm := (mn_M_goesOn N x4 (((s.1 19) (Int32.toNatClampNeg (((s.1 64) (Int32.toNatClampNeg x1)))))) s q_3 hc_4).trans hm
    by_cases h : q_3.1 = 0
    · have hf := (if_pos h).symm.trans hf
      exact (dc_e hf).trans hm
    · have hf := (if_neg h).symm.trans hf
      obtain ⟨_, hf⟩ := dc_g hf
      obtain ⟨_, hf⟩ := dc_g hf
      by_cases h : ((x4 + ((q_3.2.1 6) (Int32.toNatClampNeg (((s.1 19) (Int32.toNatClampNeg (((s.1 64) (Int32.toNatClampNeg x1))))))))) - ((q_3.2.1 5) (Int32.toNatClampNeg (((s.1 19) (Int32.toNatClampNeg (((s.1 64) (Int32.toNatClampNeg x1))))))))) = (q_3.2.1 88 0)
      · have hf := (if_pos h).symm.trans hf
        exact (dc_e hf).trans hm
      · have hf := (if_neg h).symm.trans hf
        exact (dc_e hf).trans hm
theorem mo_M_isNamed_133 (N : Nat) (k_49 : Int32 → Int32 → Int32 → Int32 → ms → Option (Int32 × ms)) (y : (Int32 × ms)) (hkm_49 : ∀ (x1 : Int32) (x4 : Int32) (x5 : Int32) (x6 : Int32) (s : ms), k_49 x1 x4 x5 x6 s = some y → gl y.2 = gl s) (x1 : Int32) (x4 : Int32) (x6 : Int32) (s : ms) (hf : bk_M_isNamed_133 N k_49 x1 x4 x6 s = some y) : gl y.2 = gl s := by
  unfold bk_M_isNamed_133 at hf
  have hm : gl s = gl s := rfl
  exact (hkm_49 x1 ((x4 + 1)) 0 ((x6 + (-1))) s hf).trans hm
theorem mb_M_isNamed_49 (N : Nat) (y : (Int32 × ms)) (k_49 : Int32 → Int32 → Int32 → Int32 → ms → Option (Int32 × ms)) (hkm_49 : ∀ (x1 : Int32) (x4 : Int32) (x5 : Int32) (x6 : Int32) (s : ms), k_49 x1 x4 x5 x6 s = some y → gl y.2 = gl s) (x1 : Int32) (x4 : Int32) (x5 : Int32) (x6 : Int32) (s : ms) (hf : bd_M_isNamed_49 N k_49 x1 x4 x5 x6 s = some y) : gl y.2 = gl s := by
  unfold bd_M_isNamed_49 at hf
  have hm : gl s = gl s := rfl
  by_cases h : x6 < 0
  · have hf := (if_pos h).symm.trans hf
    exact (mo_M_isNamed_145 N y x1 x4 x5 s hf).trans hm
  · have hf := (if_neg h).symm.trans hf
    by_cases h : x5 = 0
    · have hf := (if_pos h).symm.trans hf
      exact (mo_M_isNamed_145 N y x1 x4 x5 s hf).trans hm
    · have hf := (if_neg h).symm.trans hf
      obtain ⟨_, hf⟩ := dc_g hf
      obtain ⟨_, hf⟩ := dc_g hf
      obtain ⟨q_3, hc_4, hf⟩ := dc_b hf
      have hm := (mn_M_goesOn N x4 (((s.1 29) (Int32.toNatClampNeg (((s.1 74) (Int32.toNatClampNeg x6)))))) s q_3 hc_4).trans hm
      obtain ⟨_, hf⟩ := dc_g hf
      obtain ⟨_, hf⟩ := dc_g hf
      by_cases h : q_3.1 = 0
      · have hf := (if_pos h).symm.trans hf
        exact (mo_M_isNamed_133 N k_49 y hkm_49 x1 (((x4 + ((q_3.2.1 6) (Int32.toNatClampNeg (((s.1 29) (Int32.toNatClampNeg (((s.1 74) (Int32.toNatClampNeg x6))))))))) - ((q_3.2.1 5) (Int32.toNatClampNeg (((s.1 29) (Int32.toNatClampNeg (((s.1 74) (Int32.toNatClampNeg x6)))))))))) x6 q_3.2 hf).trans hm
      · have hf := (if_neg h).symm.trans hf
        by_cases h : (q_3.2.1 88 0) ≤ ((x4 + ((q_3.2.1 6) (Int32.toNatClampNeg (((s.1 29) (Int32.toNatClampNeg (((s.1 74) (Int32.toNatClampNeg x6))))))))) - ((q_3.2.1 5) (Int32.toNatClampNeg (((s.1 29) (Int32.toNatClampNeg (((s.1 74) (Int32.toNatClampNeg x6)))))))))
        · have hf := (if_pos h).symm.trans hf
          exact (mo_M_isNamed_133 N k_49 y hkm_49 x1 (((x4 + ((q_3.2.1 6) (Int32.toNatClampNeg (((s.1 29) (Int32.toNatClampNeg (((s.1 74) (Int32.toNatClampNeg x6))))))))) - ((q_3.2.1 5) (Int32.toNatClampNeg (((s.1 29) (Int32.toNatClampNeg (((s.1 74) (Int32.toNatClampNeg x6)))))))))) x6 q_3.2 hf).trans hm
        · have hf := (if_neg h).symm.trans hf
          obtain ⟨_, hf⟩ := dc_g hf
          by_cases h : ((q_3.2.1 1) (Int32.toNatClampNeg (((x4 + ((q_3.2.1 6) (Int32.toNatClampNeg (((s.1 29) (Int32.toNatClampNeg (((s.1 74) (Int32.toNatClampNeg x6))))))))) - ((q_3.2.1 5) (Int32.toNatClampNeg (((s.1 29) (Int32.toNatClampNeg (((s.1 74) (Int32.toNatClampNeg x6)))))))))))) = 46
          · have hf := (if_pos h).symm.trans hf
            exact (hkm_49 x1 ((((x4 + ((q_3.2.1 6) (Int32.toNatClampNeg (((s.1 29) (Int32.toNatClampNeg (((s.1 74) (Int32.toNatClampNeg x6))))))))) - ((q_3.2.1 5) (Int32.toNatClampNeg (((s.1 29) (Int32.toNatClampNeg (((s.1 74) (Int32.toNatClampNeg x6))))))))) + 1)) 1 ((x6 + (-1))) q_3.2 hf).trans hm
          · have hf := (if_neg h).symm.trans hf
            exact (mo_M_isNamed_133 N k_49 y hkm_49 x1 (((x4 + ((q_3.2.1 6) (Int32.toNatClampNeg (((s.1 29) (Int32.toNatClampNeg (((s.1 74) (Int32.toNatClampNeg x6))))))))) - ((q_3.2.1 5) (Int32.toNatClampNeg (((s.1 29) (Int32.toNatClampNeg (((s.1 74) (Int32.toNatClampNeg x6)))))))))) x6 q_3.2 hf).trans hm
theorem mh_M_isNamed_49 (N : Nat) (y : (Int32 × ms)) : ∀ (n : Nat) (x1 : Int32) (x4 : Int32) (x5 : Int32) (x6 : Int32) (s : ms), hd_M_isNamed_49 N n x1 x4 x5 x6 s = some y → gl y.2 = gl s := by
  intro n
  induction n with
  | zero => intro x1 x4 x5 x6 s hf; cases hf
  | succ n ih => intro x1 x4 x5 x6 s hf; exact mb_M_isNamed_49 N y (hd_M_isNamed_49 N n) ih x1 x4 x5 x6 s hf
theorem mb_M_isNamed_9 (N : Nat) (y : (Int32 × ms)) (k_9 : Int32 → Int32 → Int32 → ms → Option (Int32 × ms)) (hkm_9 : ∀ (x1 : Int32) (x2 : Int32) (x3 : Int32) (s : ms), k_9 x1 x2 x3 s = some y → gl y.2 = gl s) (x1 : Int32) (x2 : Int32) (x3 : Int32) (s : ms) (hf : bd_M_isNamed_9 N k_9 x1 x2 x3 s = some y) : gl y.2 = gl s := by
  unfold bd_M_isNamed_9 at hf
  have hm : gl s = gl s := rfl
  by_cases h : x3 ≤ 0
  · have hf := (if_pos h).symm.trans hf
    exact (mh_M_isNamed_49 N y N x1 0 1 ((x2 - 1)) s hf).trans hm
  · have hf := (if_neg h).symm.trans hf
    obtain ⟨_, hf⟩ := dc_g hf
    obtain ⟨_, hf⟩ := dc_g hf
    obtain ⟨_, hf⟩ := dc_g hf
    exact (hkm_9 x1 ((x2 + 1)) (((s.1 59) (Int32.toNatClampNeg x3))) (upI s 74 (upd (s.1 74) (Int32.toNatClampNeg x2) (((s.1 60) (Int32.toNatClampNeg x3))))) hf).trans hm
theorem mh_M_isNamed_9 (N : Nat) (y : (Int32 × ms)) : ∀ (n : Nat) (x1 : Int32) (x2 : Int32) (x3 : Int32) (s : ms), hd_M_isNamed_9 N n x1 x2 x3 s = some y → gl y.2 = gl s := by
  intro n
  induction n with
  | zero => intro x1 x2 x3 s hf; cases hf
  | succ n ih => intro x1 x2 x3 s hf; exact mb_M_isNamed_9 N y (hd_M_isNamed_9 N n) ih x1 x2 x3 s hf
theorem mn_M_isNamed (N : Nat) (v1 : Int32) (s : ms) (y : (Int32 × ms)) (hf : fn_M_isNamed N v1 s = some y) : gl y.2 = gl s := by
  unfold fn_M_isNamed at hf
  have hm : gl s = gl s := rfl
  obtain ⟨_, hf⟩ := dc_g hf
  exact (mh_M_isNamed_9 N y N v1 0 (((s.1 65) (Int32.toNatClampNeg v1))) s hf).trans hm
set_option maxHeartbeats 8000000 in
set_option maxRecDepth 100000 in
theorem ct_M_isNamed (l : Launch) (dC : Nat → ClassId) (dI : Nat → Nat → Nat) (cI cB cJ cZ cQ : ClassId) (N sz : Nat) (h0 : Nat) (a : Nat → Nat) (v1 : Int32) (s : ms) (y : (Int32 × ms)) (hf : fn_M_isNamed N v1 s = some y) : Met l yn_M_isNamed (xw yn_M_isNamed bn_M_isNamed 8 (some .boolean)) ({ frames := 1, cells := 0, slots := 0, locals := 24 }) (dc_P (dC, dI) xcl (xt cI cB cJ cZ cQ) [.ref h0, .int v1] sz (wM h0 a cI cB cJ cZ s)) (xk_Qi (dC, dI) xcl (xt cI cB cJ cZ cQ) (fun (r : Int32) (_ : Unit) => r = y.1) (fun u : Unit => (wM h0 a cI cB cJ cZ y.2)) (va_A (wM h0 a cI cB cJ cZ s) sz)) 0 0 (va_A (wM h0 a cI cB cJ cZ s) sz) := by
  refine dc_of (QA := xk_Qi (dC, dI) xcl (xt cI cB cJ cZ cQ) (fun (r : Int32) (_ : Unit) => r = y.1) (fun u : Unit => (wM h0 a cI cB cJ cZ y.2))) (by decide) (Nat.le_of_ble_eq_true rfl) ?_
  intro p e s0 m below meth c hx hb hml hown hg hr hlocks hin hP hK hN A hA hD hT ls hl
  have hown : s0.vm.findClass rn_M = some m.cls := hown
  obtain ⟨H, hH⟩ : ∃ z, z = s0.heap := ⟨_, rfl⟩
  rw [← hH] at hP
  have hS : va_S A s0.heap H [] := by rw [hH]; exact va_S.rf
  suffices kk : ∀ QQ : State → Prop, QQ = MQ below (xk_Qi (dC, dI) xcl (xt cI cB cJ cZ cQ) (fun (r : Int32) (_ : Unit) => r = y.1) (fun u : Unit => (wM h0 a cI cB cJ cZ y.2)) A) [.ref h0, .int v1].toArray s0 0 0 A → dcC p l e ({ frames := 1, cells := 0, slots := 0, locals := 24 }) s0 m [.ref h0, .int v1].toArray below meth c QQ (dC, dI) A (wM h0 a cI cB cJ cZ s) 0 8 [(0, .ref h0), (1, .int v1)] [] by
    have k9 := kk _ rfl H [] ls hP hD hS hl
    rw [hH] at k9; exact k9
  clear hP hD hS hl hH H ls
  intro QQ hQQ
  have bl_145 : ∀ (x1 : Int32) (x4 : Int32) (x5 : Int32) (s : ms), bk_M_isNamed_145 N x1 x4 x5 s = some y → dcC p l e ({ frames := 1, cells := 0, slots := 0, locals := 24 }) s0 m [.ref h0, .int v1].toArray below meth c QQ (dC, dI) A (wM h0 a cI cB cJ cZ s) 145 8 [(0, .ref h0), (1, .int x1), (4, .int x4), (5, .int x5)] [] := by
    intro x1 x4 x5 s hf H locs ls hP hD hS hl
    unfold bk_M_isNamed_145 at hf
    refine lv_aload_n hx hb dn_M_isNamed_145 rfl (lv_at hl 0 rfl) ?_
    refine va_get (D := (dC, dI)) (ci := 0) (v := .ref ((a 19))) (C := rn_M) (T := fn_M) (N := 91) hx hb hg in_M hown hK hP 0 rfl rfl 19 (by decide) (hg _ wn_8_92) (fun _ h9 => h9) rfl dn_M_isNamed_146 ?_
    refine lv_aload_n hx hb dn_M_isNamed_149 rfl (lv_at hl 0 rfl) ?_
    refine va_get (D := (dC, dI)) (ci := 0) (v := .ref ((a 64))) (C := rn_M) (T := fn_M) (N := 91) hx hb hg in_M hown hK hP 0 rfl rfl 64 (by decide) (hg _ wn_8_137) (fun _ h9 => h9) rfl dn_M_isNamed_150 ?_
    refine lv_iload_n hx hb dn_M_isNamed_153 rfl (lv_at hl 1 rfl) ?_
    obtain ⟨hg_1, hf⟩ := dc_g hf
    refine va_iald hx hb hK hP 44 0 rfl rfl hg_1 dn_M_isNamed_154 ?_
    refine xk_ti (y := ((s.1 64) (Int32.toNatClampNeg x1))) rfl ?_
    obtain ⟨hg_2, hf⟩ := dc_g hf
    refine va_iald hx hb hK hP 10 0 rfl rfl hg_2 dn_M_isNamed_155 ?_
    refine xk_ti (y := ((s.1 19) (Int32.toNatClampNeg (((s.1 64) (Int32.toNatClampNeg x1)))))) rfl ?_
    refine lv_istore (lv' := [(6, .int (((s.1 19) (Int32.toNatClampNeg (((s.1 64) (Int32.toNatClampNeg x1))))))), (0, .ref h0), (1, .int x1), (4, .int x4), (5, .int x5)]) hx hb dn_M_isNamed_156 hl (by decide) rfl (fun ls hl => ?_)
    refine lv_iload hx hb dn_M_isNamed_158 (lv_at hl 4 rfl) ?_
    refine lv_if_eq (tgt := 203) hx hb dn_M_isNamed_160 (by decide) (fun h => ?_) (fun h => ?_)
    · have hf := (if_pos h).symm.trans hf
      refine lv_iconst (v := 0) hx hb dn_M_isNamed_203 (by decide) ?_
      rw [hQQ, ← Option.some.inj hf]
      exact xk_zret (w1 := fun u : Unit => (wM h0 a cI cB cJ cZ s)) () hx hb hr rfl hlocks hK hS dn_M_isNamed_204 hP hD rfl (Nat.le_refl _) (Nat.le_refl _)
    · have hf := (if_neg h).symm.trans hf
      refine lv_aload_n hx hb dn_M_isNamed_163 rfl (lv_at hl 1 rfl) ?_
      refine lv_iload hx hb dn_M_isNamed_164 (lv_at hl 3 rfl) ?_
      refine lv_iload hx hb dn_M_isNamed_166 (lv_at hl 0 rfl) ?_
      obtain ⟨q_3, hc_4, hf⟩ := dc_b hf
      refine dc_calli (dc_runV (ar := 2) (As := [.int x4, .int (((s.1 19) (Int32.toNatClampNeg (((s.1 64) (Int32.toNatClampNeg x1))))))]) (rest := []) (ci := 0) (q0 := 0) ⟨hx, hb, hml, hown, hg⟩ hK hN hT hS hA (ct_M_goesOn l dC dI cI cB cJ cZ cQ N H.size h0 a x4 (((s.1 19) (Int32.toNatClampNeg (((s.1 64) (Int32.toNatClampNeg x1)))))) s q_3 hc_4) hP hD rfl rfl wn_11_23 wn_11_25 sn_M_goesOn wn_1_13 wn_11_26 rfl rfl (by decide +kernel) ⟨Nat.le_of_ble_eq_true rfl, Nat.le_of_ble_eq_true rfl⟩ rfl hl.1 rfl (Nat.le_of_ble_eq_true rfl) dn_M_isNamed_168 ⟨Nat.le_of_ble_eq_true rfl, Nat.le_of_ble_eq_true rfl⟩) hP hD hS hA (fun r_5 _ H locs hw hP hD hS => ?_)
      have hw : r_5 = q_3.1 := hw
      subst hw
      refine lv_if_eq (tgt := 203) hx hb dn_M_isNamed_171 (by decide) (fun h => ?_) (fun h => ?_)
      · have hf := (if_pos h).symm.trans hf
        refine lv_iconst (v := 0) hx hb dn_M_isNamed_203 (by decide) ?_
        rw [hQQ, ← Option.some.inj hf]
        exact xk_zret (w1 := fun u : Unit => (wM h0 a cI cB cJ cZ q_3.2)) () hx hb hr rfl hlocks hK hS dn_M_isNamed_204 hP hD rfl (Nat.le_refl _) (Nat.le_refl _)
      · have hf := (if_neg h).symm.trans hf
        refine lv_iload hx hb dn_M_isNamed_174 (lv_at hl 3 rfl) ?_
        refine lv_aload_n hx hb dn_M_isNamed_176 rfl (lv_at hl 1 rfl) ?_
        refine va_get (D := (dC, dI)) (ci := 0) (v := .ref ((a 6))) (C := rn_M) (T := fn_M) (N := 91) hx hb hg in_M hown hK hP 0 rfl rfl 6 (by decide) (hg _ wn_8_79) (fun _ h9 => h9) rfl dn_M_isNamed_177 ?_
        refine lv_iload hx hb dn_M_isNamed_180 (lv_at hl 0 rfl) ?_
        obtain ⟨hg_6, hf⟩ := dc_g hf
        refine va_iald hx hb hK hP 4 0 rfl rfl hg_6 dn_M_isNamed_182 ?_
        refine xk_ti (y := ((q_3.2.1 6) (Int32.toNatClampNeg (((s.1 19) (Int32.toNatClampNeg (((s.1 64) (Int32.toNatClampNeg x1))))))))) rfl ?_
        refine lv_iadd hx hb dn_M_isNamed_183 ?_
        refine lv_aload_n hx hb dn_M_isNamed_184 rfl (lv_at hl 1 rfl) ?_
        refine va_get (D := (dC, dI)) (ci := 0) (v := .ref ((a 5))) (C := rn_M) (T := fn_M) (N := 91) hx hb hg in_M hown hK hP 0 rfl rfl 5 (by decide) (hg _ wn_8_78) (fun _ h9 => h9) rfl dn_M_isNamed_185 ?_
        refine lv_iload hx hb dn_M_isNamed_188 (lv_at hl 0 rfl) ?_
        obtain ⟨hg_7, hf⟩ := dc_g hf
        refine va_iald hx hb hK hP 3 0 rfl rfl hg_7 dn_M_isNamed_190 ?_
        refine xk_ti (y := ((q_3.2.1 5) (Int32.toNatClampNeg (((s.1 19) (Int32.toNatClampNeg (((s.1 64) (Int32.toNatClampNeg x1))))))))) rfl ?_
        refine lv_isub hx hb dn_M_isNamed_191 ?_
        refine lv_aload_n hx hb dn_M_isNamed_192 rfl (lv_at hl 1 rfl) ?_
        refine va_get (D := (dC, dI)) (ci := 0) (v := .int ((q_3.2.1 88 0))) (C := rn_M) (T := fn_M) (N := 91) hx hb hg in_M hown hK hP 0 rfl rfl 88 (by decide) (hg _ wn_8_161) (fun _ h9 => h9) rfl dn_M_isNamed_193 ?_
        refine lv_icmp_ne (tgt := 203) hx hb dn_M_isNamed_196 (by decide) (fun h => ?_) (fun h => ?_)
        · have hf := (if_neg h).symm.trans hf
          refine lv_iconst (v := 0) hx hb dn_M_isNamed_203 (by decide) ?_
          rw [hQQ, ← Option.some.inj hf]
          exact xk_zret (w1 := fun u : Unit => (wM h0 a cI cB cJ cZ q_3.2)) () hx hb hr rfl hlocks hK hS dn_M_isNamed_204 hP hD rfl (Nat.le_refl _) (Nat.le_refl _)
        · have hf := (if_pos h).symm.trans hf
          refine lv_iconst (v := 1) hx hb dn_M_isNamed_199 (by decide) ?_
          refine lv_goto (tgt := 204) hx hb dn_M_isNamed_200 (by decide) ?_
          rw [hQQ, ← Option.some.inj hf]
          exact xk_zret (w1 := fun u : Unit => (wM h0 a cI cB cJ cZ q_3.2)) () hx hb hr rfl hlocks hK hS dn_M_isNamed_204 hP hD rfl (Nat.le_refl _) (Nat.le_refl _)
  have bl_133 : ∀ (k_49 : Int32 → Int32 → Int32 → Int32 → ms → Option (Int32 × ms)) (hk_49 : ∀ (x1 : Int32) (x4 : Int32) (x5 : Int32) (x6 : Int32) (s : ms), k_49 x1 x4 x5 x6 s = some y → dcC p l e ({ frames := 1, cells := 0, slots := 0, locals := 24 }) s0 m [.ref h0, .int v1].toArray below meth c QQ (dC, dI) A (wM h0 a cI cB cJ cZ s) 49 8 [(0, .ref h0), (1, .int x1), (4, .int x4), (5, .int x5), (6, .int x6)] []) (x1 : Int32) (x4 : Int32) (x6 : Int32) (s : ms), bk_M_isNamed_133 N k_49 x1 x4 x6 s = some y → dcC p l e ({ frames := 1, cells := 0, slots := 0, locals := 24 }) s0 m [.ref h0, .int v1].toArray below meth c QQ (dC, dI) A (wM h0 a cI cB cJ cZ s) 133 8 [(0, .ref h0), (1, .int x1), (4, .int x4), (6, .int x6)] [] := by
    intro k_49 hk_49 x1 x4 x6 s hf H locs ls hP hD hS hl
    unfold bk_M_isNamed_133 at hf
    refine lv_iconst (v := 0) hx hb dn_M_isNamed_133 (by decide) ?_
    refine lv_istore (lv' := [(5, .int 0), (0, .ref h0), (1, .int x1), (4, .int x4), (6, .int x6)]) hx hb dn_M_isNamed_134 hl (by decide) rfl (fun ls hl => ?_)
    refine lv_iinc (v := (x4 + 1)) (lv' := [(4, .int ((x4 + 1))), (5, .int 0), (0, .ref h0), (1, .int x1), (6, .int x6)]) hx hb dn_M_isNamed_136 hl (k := 3) rfl (dc_inc (by decide)) (by decide) rfl (fun ls hl => ?_)
    refine lv_iinc (v := (x6 + (-1))) (lv' := [(6, .int ((x6 + (-1)))), (4, .int ((x4 + 1))), (5, .int 0), (0, .ref h0), (1, .int x1)]) hx hb dn_M_isNamed_139 hl (k := 4) rfl (dc_inc (by decide)) (by decide) rfl (fun ls hl => ?_)
    refine lv_goto (tgt := 49) hx hb dn_M_isNamed_142 (by decide) ?_
    exact hk_49 x1 ((x4 + 1)) 0 ((x6 + (-1))) s hf H locs ls hP hD hS (lv_sub hl [3, 4, 1, 2, 0] rfl)
  have hd_49 : ∀ (n : Nat) (x1 : Int32) (x4 : Int32) (x5 : Int32) (x6 : Int32) (s : ms), hd_M_isNamed_49 N n x1 x4 x5 x6 s = some y → dcC p l e ({ frames := 1, cells := 0, slots := 0, locals := 24 }) s0 m [.ref h0, .int v1].toArray below meth c QQ (dC, dI) A (wM h0 a cI cB cJ cZ s) 49 8 [(0, .ref h0), (1, .int x1), (4, .int x4), (5, .int x5), (6, .int x6)] [] := by
    intro n
    induction n with
    | zero => intro x1 x4 x5 x6 s hf; cases hf
    | succ n ih =>
      intro x1 x4 x5 x6 s hf H locs ls hP hD hS hl
      have hf : bd_M_isNamed_49 N (hd_M_isNamed_49 N n) x1 x4 x5 x6 s = some y := hf
      have hk_49 := ih
      generalize hd_M_isNamed_49 N n = k_49 at hf hk_49
      unfold bd_M_isNamed_49 at hf
      refine lv_iload hx hb dn_M_isNamed_49 (lv_at hl 4 rfl) ?_
      refine lv_if_lt (tgt := 145) hx hb dn_M_isNamed_51 (by decide) (fun h => ?_) (fun h => ?_)
      · have hf := (if_pos h).symm.trans hf
        exact bl_145 x1 x4 x5 s hf H locs ls hP hD hS (lv_sub hl [0, 1, 2, 3] rfl)
      · have hf := (if_neg h).symm.trans hf
        refine lv_iload hx hb dn_M_isNamed_54 (lv_at hl 3 rfl) ?_
        refine lv_if_eq (tgt := 145) hx hb dn_M_isNamed_56 (by decide) (fun h => ?_) (fun h => ?_)
        · have hf := (if_pos h).symm.trans hf
          exact bl_145 x1 x4 x5 s hf H locs ls hP hD hS (lv_sub hl [0, 1, 2, 3] rfl)
        · have hf := (if_neg h).symm.trans hf
          refine lv_aload_n hx hb dn_M_isNamed_59 rfl (lv_at hl 0 rfl) ?_
          refine va_get (D := (dC, dI)) (ci := 0) (v := .ref ((a 29))) (C := rn_M) (T := fn_M) (N := 91) hx hb hg in_M hown hK hP 0 rfl rfl 29 (by decide) (hg _ wn_8_102) (fun _ h9 => h9) rfl dn_M_isNamed_60 ?_
          refine lv_aload_n hx hb dn_M_isNamed_63 rfl (lv_at hl 0 rfl) ?_
          refine va_get (D := (dC, dI)) (ci := 0) (v := .ref ((a 74))) (C := rn_M) (T := fn_M) (N := 91) hx hb hg in_M hown hK hP 0 rfl rfl 74 (by decide) (hg _ wn_8_147) (fun _ h9 => h9) rfl dn_M_isNamed_64 ?_
          refine lv_iload hx hb dn_M_isNamed_67 (lv_at hl 4 rfl) ?_
          obtain ⟨hg_1, hf⟩ := dc_g hf
          refine va_iald hx hb hK hP 53 0 rfl rfl hg_1 dn_M_isNamed_69 ?_
          refine xk_ti (y := ((s.1 74) (Int32.toNatClampNeg x6))) rfl ?_
          obtain ⟨hg_2, hf⟩ := dc_g hf
          refine va_iald hx hb hK hP 19 0 rfl rfl hg_2 dn_M_isNamed_70 ?_
          refine xk_ti (y := ((s.1 29) (Int32.toNatClampNeg (((s.1 74) (Int32.toNatClampNeg x6)))))) rfl ?_
          refine lv_istore (lv' := [(7, .int (((s.1 29) (Int32.toNatClampNeg (((s.1 74) (Int32.toNatClampNeg x6))))))), (0, .ref h0), (1, .int x1), (4, .int x4), (5, .int x5), (6, .int x6)]) hx hb dn_M_isNamed_71 hl (by decide) rfl (fun ls hl => ?_)
          refine lv_aload_n hx hb dn_M_isNamed_73 rfl (lv_at hl 1 rfl) ?_
          refine lv_iload hx hb dn_M_isNamed_74 (lv_at hl 3 rfl) ?_
          refine lv_iload hx hb dn_M_isNamed_76 (lv_at hl 0 rfl) ?_
          obtain ⟨q_3, hc_4, hf⟩ := dc_b hf
          refine dc_calli (dc_runV (ar := 2) (As := [.int x4, .int (((s.1 29) (Int32.toNatClampNeg (((s.1 74) (Int32.toNatClampNeg x6))))))]) (rest := []) (ci := 0) (q0 := 0) ⟨hx, hb, hml, hown, hg⟩ hK hN hT hS hA (ct_M_goesOn l dC dI cI cB cJ cZ cQ N H.size h0 a x4 (((s.1 29) (Int32.toNatClampNeg (((s.1 74) (Int32.toNatClampNeg x6)))))) s q_3 hc_4) hP hD rfl rfl wn_11_23 wn_11_25 sn_M_goesOn wn_1_13 wn_11_26 rfl rfl (by decide +kernel) ⟨Nat.le_of_ble_eq_true rfl, Nat.le_of_ble_eq_true rfl⟩ rfl hl.1 rfl (Nat.le_of_ble_eq_true rfl) dn_M_isNamed_78 ⟨Nat.le_of_ble_eq_true rfl, Nat.le_of_ble_eq_true rfl⟩) hP hD hS hA (fun r_5 _ H locs hw hP hD hS => ?_)
          have hw : r_5 = q_3.1 := hw
          subst hw
          refine lv_istore (lv' := [(5, .int q_3.1), (7, .int (((s.1 29) (Int32.toNatClampNeg (((s.1 74) (Int32.toNatClampNeg x6))))))), (0, .ref h0), (1, .int x1), (4, .int x4), (6, .int x6)]) hx hb dn_M_isNamed_81 hl (by decide) rfl (fun ls hl => ?_)
          refine lv_iload hx hb dn_M_isNamed_83 (lv_at hl 4 rfl) ?_
          refine lv_aload_n hx hb dn_M_isNamed_85 rfl (lv_at hl 2 rfl) ?_
          refine va_get (D := (dC, dI)) (ci := 0) (v := .ref ((a 6))) (C := rn_M) (T := fn_M) (N := 91) hx hb hg in_M hown hK hP 0 rfl rfl 6 (by decide) (hg _ wn_8_79) (fun _ h9 => h9) rfl dn_M_isNamed_86 ?_
          refine lv_iload hx hb dn_M_isNamed_89 (lv_at hl 1 rfl) ?_
          obtain ⟨hg_6, hf⟩ := dc_g hf
          refine va_iald hx hb hK hP 4 0 rfl rfl hg_6 dn_M_isNamed_91 ?_
          refine xk_ti (y := ((q_3.2.1 6) (Int32.toNatClampNeg (((s.1 29) (Int32.toNatClampNeg (((s.1 74) (Int32.toNatClampNeg x6))))))))) rfl ?_
          refine lv_iadd hx hb dn_M_isNamed_92 ?_
          refine lv_aload_n hx hb dn_M_isNamed_93 rfl (lv_at hl 2 rfl) ?_
          refine va_get (D := (dC, dI)) (ci := 0) (v := .ref ((a 5))) (C := rn_M) (T := fn_M) (N := 91) hx hb hg in_M hown hK hP 0 rfl rfl 5 (by decide) (hg _ wn_8_78) (fun _ h9 => h9) rfl dn_M_isNamed_94 ?_
          refine lv_iload hx hb dn_M_isNamed_97 (lv_at hl 1 rfl) ?_
          obtain ⟨hg_7, hf⟩ := dc_g hf
          refine va_iald hx hb hK hP 3 0 rfl rfl hg_7 dn_M_isNamed_99 ?_
          refine xk_ti (y := ((q_3.2.1 5) (Int32.toNatClampNeg (((s.1 29) (Int32.toNatClampNeg (((s.1 74) (Int32.toNatClampNeg x6))))))))) rfl ?_
          refine lv_isub hx hb dn_M_isNamed_100 ?_
          refine lv_istore (lv' := [(4, .int (((x4 + ((q_3.2.1 6) (Int32.toNatClampNeg (((s.1 29) (Int32.toNatClampNeg (((s.1 74) (Int32.toNatClampNeg x6))))))))) - ((q_3.2.1 5) (Int32.toNatClampNeg (((s.1 29) (Int32.toNatClampNeg (((s.1 74) (Int32.toNatClampNeg x6))))))))))), (5, .int q_3.1), (7, .int (((s.1 29) (Int32.toNatClampNeg (((s.1 74) (Int32.toNatClampNeg x6))))))), (0, .ref h0), (1, .int x1), (6, .int x6)]) hx hb dn_M_isNamed_101 hl (by decide) rfl (fun ls hl => ?_)
          refine lv_iload hx hb dn_M_isNamed_103 (lv_at hl 1 rfl) ?_
          refine lv_if_eq (tgt := 133) hx hb dn_M_isNamed_105 (by decide) (fun h => ?_) (fun h => ?_)
          · have hf := (if_pos h).symm.trans hf
            exact bl_133 k_49 hk_49 x1 (((x4 + ((q_3.2.1 6) (Int32.toNatClampNeg (((s.1 29) (Int32.toNatClampNeg (((s.1 74) (Int32.toNatClampNeg x6))))))))) - ((q_3.2.1 5) (Int32.toNatClampNeg (((s.1 29) (Int32.toNatClampNeg (((s.1 74) (Int32.toNatClampNeg x6)))))))))) x6 q_3.2 hf H locs ls hP hD hS (lv_sub hl [3, 4, 0, 5] rfl)
          · have hf := (if_neg h).symm.trans hf
            refine lv_iload hx hb dn_M_isNamed_108 (lv_at hl 0 rfl) ?_
            refine lv_aload_n hx hb dn_M_isNamed_110 rfl (lv_at hl 3 rfl) ?_
            refine va_get (D := (dC, dI)) (ci := 0) (v := .int ((q_3.2.1 88 0))) (C := rn_M) (T := fn_M) (N := 91) hx hb hg in_M hown hK hP 0 rfl rfl 88 (by decide) (hg _ wn_8_161) (fun _ h9 => h9) rfl dn_M_isNamed_111 ?_
            refine lv_icmp_ge (tgt := 133) hx hb dn_M_isNamed_114 (by decide) (fun h => ?_) (fun h => ?_)
            · have hf := (if_pos h).symm.trans hf
              exact bl_133 k_49 hk_49 x1 (((x4 + ((q_3.2.1 6) (Int32.toNatClampNeg (((s.1 29) (Int32.toNatClampNeg (((s.1 74) (Int32.toNatClampNeg x6))))))))) - ((q_3.2.1 5) (Int32.toNatClampNeg (((s.1 29) (Int32.toNatClampNeg (((s.1 74) (Int32.toNatClampNeg x6)))))))))) x6 q_3.2 hf H locs ls hP hD hS (lv_sub hl [3, 4, 0, 5] rfl)
            · have hf := (if_neg h).symm.trans hf
              refine lv_aload_n hx hb dn_M_isNamed_117 rfl (lv_at hl 3 rfl) ?_
              refine va_get (D := (dC, dI)) (ci := 0) (v := .ref ((a 1))) (C := rn_M) (T := fn_M) (N := 91) hx hb hg in_M hown hK hP 0 rfl rfl 1 (by decide) (hg _ wn_8_74) (fun _ h9 => h9) rfl dn_M_isNamed_118 ?_
              refine lv_iload hx hb dn_M_isNamed_121 (lv_at hl 0 rfl) ?_
              obtain ⟨hg_8, hf⟩ := dc_g hf
              refine va_bald hx hb hK hP 1 1 rfl rfl hg_8 dn_M_isNamed_123 ?_
              refine xk_ti (y := ((q_3.2.1 1) (Int32.toNatClampNeg (((x4 + ((q_3.2.1 6) (Int32.toNatClampNeg (((s.1 29) (Int32.toNatClampNeg (((s.1 74) (Int32.toNatClampNeg x6))))))))) - ((q_3.2.1 5) (Int32.toNatClampNeg (((s.1 29) (Int32.toNatClampNeg (((s.1 74) (Int32.toNatClampNeg x6))))))))))))) rfl ?_
              refine lv_bipush (v := 46) hx hb dn_M_isNamed_124 (by decide) ?_
              refine lv_icmp_ne (tgt := 133) hx hb dn_M_isNamed_126 (by decide) (fun h => ?_) (fun h => ?_)
              · have hf := (if_neg h).symm.trans hf
                exact bl_133 k_49 hk_49 x1 (((x4 + ((q_3.2.1 6) (Int32.toNatClampNeg (((s.1 29) (Int32.toNatClampNeg (((s.1 74) (Int32.toNatClampNeg x6))))))))) - ((q_3.2.1 5) (Int32.toNatClampNeg (((s.1 29) (Int32.toNatClampNeg (((s.1 74) (Int32.toNatClampNeg x6)))))))))) x6 q_3.2 hf H locs ls hP hD hS (lv_sub hl [3, 4, 0, 5] rfl)
              · have hf := (if_pos h).symm.trans hf
                refine lv_iconst (v := 1) hx hb dn_M_isNamed_129 (by decide) ?_
                refine lv_goto (tgt := 134) hx hb dn_M_isNamed_130 (by decide) ?_
                refine lv_istore (lv' := [(5, .int 1), (4, .int (((x4 + ((q_3.2.1 6) (Int32.toNatClampNeg (((s.1 29) (Int32.toNatClampNeg (((s.1 74) (Int32.toNatClampNeg x6))))))))) - ((q_3.2.1 5) (Int32.toNatClampNeg (((s.1 29) (Int32.toNatClampNeg (((s.1 74) (Int32.toNatClampNeg x6))))))))))), (7, .int (((s.1 29) (Int32.toNatClampNeg (((s.1 74) (Int32.toNatClampNeg x6))))))), (0, .ref h0), (1, .int x1), (6, .int x6)]) hx hb dn_M_isNamed_134 hl (by decide) rfl (fun ls hl => ?_)
                refine lv_iinc (v := (((x4 + ((q_3.2.1 6) (Int32.toNatClampNeg (((s.1 29) (Int32.toNatClampNeg (((s.1 74) (Int32.toNatClampNeg x6))))))))) - ((q_3.2.1 5) (Int32.toNatClampNeg (((s.1 29) (Int32.toNatClampNeg (((s.1 74) (Int32.toNatClampNeg x6))))))))) + 1)) (lv' := [(4, .int ((((x4 + ((q_3.2.1 6) (Int32.toNatClampNeg (((s.1 29) (Int32.toNatClampNeg (((s.1 74) (Int32.toNatClampNeg x6))))))))) - ((q_3.2.1 5) (Int32.toNatClampNeg (((s.1 29) (Int32.toNatClampNeg (((s.1 74) (Int32.toNatClampNeg x6))))))))) + 1))), (5, .int 1), (7, .int (((s.1 29) (Int32.toNatClampNeg (((s.1 74) (Int32.toNatClampNeg x6))))))), (0, .ref h0), (1, .int x1), (6, .int x6)]) hx hb dn_M_isNamed_136 hl (k := 1) rfl (dc_inc (by decide)) (by decide) rfl (fun ls hl => ?_)
                refine lv_iinc (v := (x6 + (-1))) (lv' := [(6, .int ((x6 + (-1)))), (4, .int ((((x4 + ((q_3.2.1 6) (Int32.toNatClampNeg (((s.1 29) (Int32.toNatClampNeg (((s.1 74) (Int32.toNatClampNeg x6))))))))) - ((q_3.2.1 5) (Int32.toNatClampNeg (((s.1 29) (Int32.toNatClampNeg (((s.1 74) (Int32.toNatClampNeg x6))))))))) + 1))), (5, .int 1), (7, .int (((s.1 29) (Int32.toNatClampNeg (((s.1 74) (Int32.toNatClampNeg x6))))))), (0, .ref h0), (1, .int x1)]) hx hb dn_M_isNamed_139 hl (k := 5) rfl (dc_inc (by decide)) (by decide) rfl (fun ls hl => ?_)
                refine lv_goto (tgt := 49) hx hb dn_M_isNamed_142 (by decide) ?_
                exact hk_49 x1 ((((x4 + ((q_3.2.1 6) (Int32.toNatClampNeg (((s.1 29) (Int32.toNatClampNeg (((s.1 74) (Int32.toNatClampNeg x6))))))))) - ((q_3.2.1 5) (Int32.toNatClampNeg (((s.1 29) (Int32.toNatClampNeg (((s.1 74) (Int32.toNatClampNeg x6))))))))) + 1)) 1 ((x6 + (-1))) q_3.2 hf H locs ls hP hD hS (lv_sub hl [4, 5, 1, 2, 0] rfl)
  have hd_9 : ∀ (n : Nat) (x1 : Int32) (x2 : Int32) (x3 : Int32) (s : ms), hd_M_isNamed_9 N n x1 x2 x3 s = some y → dcC p l e ({ frames := 1, cells := 0, slots := 0, locals := 24 }) s0 m [.ref h0, .int v1].toArray below meth c QQ (dC, dI) A (wM h0 a cI cB cJ cZ s) 9 8 [(0, .ref h0), (1, .int x1), (2, .int x2), (3, .int x3)] [] := by
    intro n
    induction n with
    | zero => intro x1 x2 x3 s hf; cases hf
    | succ n ih =>
      intro x1 x2 x3 s hf H locs ls hP hD hS hl
      have hf : bd_M_isNamed_9 N (hd_M_isNamed_9 N n) x1 x2 x3 s = some y := hf
      have hk_9 := ih
      generalize hd_M_isNamed_9 N n = k_9 at hf hk_9
      unfold bd_M_isNamed_9 at hf
      refine lv_iload_n hx hb dn_M_isNamed_9 rfl (lv_at hl 3 rfl) ?_
      refine lv_if_le (tgt := 38) hx hb dn_M_isNamed_10 (by decide) (fun h => ?_) (fun h => ?_)
      · have hf := (if_pos h).symm.trans hf
        refine lv_iconst (v := 0) hx hb dn_M_isNamed_38 (by decide) ?_
        refine lv_istore (lv' := [(4, .int 0), (0, .ref h0), (1, .int x1), (2, .int x2), (3, .int x3)]) hx hb dn_M_isNamed_39 hl (by decide) rfl (fun ls hl => ?_)
        refine lv_iconst (v := 1) hx hb dn_M_isNamed_41 (by decide) ?_
        refine lv_istore (lv' := [(5, .int 1), (4, .int 0), (0, .ref h0), (1, .int x1), (2, .int x2), (3, .int x3)]) hx hb dn_M_isNamed_42 hl (by decide) rfl (fun ls hl => ?_)
        refine lv_iload_n hx hb dn_M_isNamed_44 rfl (lv_at hl 4 rfl) ?_
        refine lv_iconst (v := 1) hx hb dn_M_isNamed_45 (by decide) ?_
        refine lv_isub hx hb dn_M_isNamed_46 ?_
        refine lv_istore (lv' := [(6, .int ((x2 - 1))), (5, .int 1), (4, .int 0), (0, .ref h0), (1, .int x1), (2, .int x2), (3, .int x3)]) hx hb dn_M_isNamed_47 hl (by decide) rfl (fun ls hl => ?_)
        exact hd_49 N x1 0 1 ((x2 - 1)) s hf H locs ls hP hD hS (lv_sub hl [3, 4, 2, 1, 0] rfl)
      · have hf := (if_neg h).symm.trans hf
        refine lv_aload_n hx hb dn_M_isNamed_13 rfl (lv_at hl 0 rfl) ?_
        refine va_get (D := (dC, dI)) (ci := 0) (v := .ref ((a 74))) (C := rn_M) (T := fn_M) (N := 91) hx hb hg in_M hown hK hP 0 rfl rfl 74 (by decide) (hg _ wn_8_147) (fun _ h9 => h9) rfl dn_M_isNamed_14 ?_
        refine lv_iload_n hx hb dn_M_isNamed_17 rfl (lv_at hl 2 rfl) ?_
        refine lv_aload_n hx hb dn_M_isNamed_18 rfl (lv_at hl 0 rfl) ?_
        refine va_get (D := (dC, dI)) (ci := 0) (v := .ref ((a 60))) (C := rn_M) (T := fn_M) (N := 91) hx hb hg in_M hown hK hP 0 rfl rfl 60 (by decide) (hg _ wn_8_133) (fun _ h9 => h9) rfl dn_M_isNamed_19 ?_
        refine lv_iload_n hx hb dn_M_isNamed_22 rfl (lv_at hl 3 rfl) ?_
        obtain ⟨hg_1, hf⟩ := dc_g hf
        refine va_iald hx hb hK hP 41 0 rfl rfl hg_1 dn_M_isNamed_23 ?_
        refine xk_ti (y := ((s.1 60) (Int32.toNatClampNeg x3))) rfl ?_
        obtain ⟨hg_2, hf⟩ := dc_g hf
        refine va_iast hx hb hK hP hD hS 53 0 rfl rfl hg_2 dn_M_isNamed_24 (fun H locs hP hD hS => ?_)
        have hP : va_P (dC, dI) xcl ((wM h0 a cI cB cJ cZ s).set 53 ((a 74), .inl (cI, 1100, .inl (upd (s.1 74) (Int32.toNatClampNeg x2) (((s.1 60) (Int32.toNatClampNeg x3))))))) H := hP
        have hD : va_D A ((wM h0 a cI cB cJ cZ s).set 53 ((a 74), .inl (cI, 1100, .inl (upd (s.1 74) (Int32.toNatClampNeg x2) (((s.1 60) (Int32.toNatClampNeg x3))))))) := hD
        have hP := wM_P_74 hP
        have hD := wM_D_74 hD
        refine lv_iinc (v := (x2 + 1)) (lv' := [(2, .int ((x2 + 1))), (0, .ref h0), (1, .int x1), (3, .int x3)]) hx hb dn_M_isNamed_25 hl (k := 2) rfl (dc_inc (by decide)) (by decide) rfl (fun ls hl => ?_)
        refine lv_aload_n hx hb dn_M_isNamed_28 rfl (lv_at hl 1 rfl) ?_
        refine va_get (D := (dC, dI)) (ci := 0) (v := .ref ((a 59))) (C := rn_M) (T := fn_M) (N := 91) hx hb hg in_M hown hK hP 0 rfl rfl 59 (by decide) (hg _ wn_8_132) (fun _ h9 => h9) rfl dn_M_isNamed_29 ?_
        refine lv_iload_n hx hb dn_M_isNamed_32 rfl (lv_at hl 3 rfl) ?_
        obtain ⟨hg_3, hf⟩ := dc_g hf
        refine va_iald hx hb hK hP 40 0 rfl rfl hg_3 dn_M_isNamed_33 ?_
        refine xk_ti (y := ((s.1 59) (Int32.toNatClampNeg x3))) rfl ?_
        refine lv_istore_n (lv' := [(3, .int (((s.1 59) (Int32.toNatClampNeg x3)))), (2, .int ((x2 + 1))), (0, .ref h0), (1, .int x1)]) hx hb dn_M_isNamed_34 rfl hl (by decide) rfl (fun ls hl => ?_)
        refine lv_goto (tgt := 9) hx hb dn_M_isNamed_35 (by decide) ?_
        exact hk_9 x1 ((x2 + 1)) (((s.1 59) (Int32.toNatClampNeg x3))) (upI s 74 (upd (s.1 74) (Int32.toNatClampNeg x2) (((s.1 60) (Int32.toNatClampNeg x3))))) hf H locs ls hP hD hS (lv_sub hl [2, 3, 1, 0] rfl)
  intro H locs ls hP hD hS hl
  unfold fn_M_isNamed at hf
  refine lv_iconst (v := 0) hx hb dn_M_isNamed_0 (by decide) ?_
  refine lv_istore_n (lv' := [(2, .int 0), (0, .ref h0), (1, .int v1)]) hx hb dn_M_isNamed_1 rfl hl (by decide) rfl (fun ls hl => ?_)
  refine lv_aload_n hx hb dn_M_isNamed_2 rfl (lv_at hl 1 rfl) ?_
  refine va_get (D := (dC, dI)) (ci := 0) (v := .ref ((a 65))) (C := rn_M) (T := fn_M) (N := 91) hx hb hg in_M hown hK hP 0 rfl rfl 65 (by decide) (hg _ wn_8_138) (fun _ h9 => h9) rfl dn_M_isNamed_3 ?_
  refine lv_iload_n hx hb dn_M_isNamed_6 rfl (lv_at hl 2 rfl) ?_
  obtain ⟨hg_1, hf⟩ := dc_g hf
  refine va_iald hx hb hK hP 45 0 rfl rfl hg_1 dn_M_isNamed_7 ?_
  refine xk_ti (y := ((s.1 65) (Int32.toNatClampNeg v1))) rfl ?_
  refine lv_istore_n (lv' := [(3, .int (((s.1 65) (Int32.toNatClampNeg v1)))), (2, .int 0), (0, .ref h0), (1, .int v1)]) hx hb dn_M_isNamed_8 rfl hl (by decide) rfl (fun ls hl => ?_)
  exact hd_9 N v1 0 (((s.1 65) (Int32.toNatClampNeg v1))) s hf H locs ls hP hD hS (lv_sub hl [2, 3, 1, 0] rfl)
theorem mb_M_find_29 (N : Nat) (y : (Int32 × ms)) (k_29 : Int32 → Int32 → ms → Option (Int32 × ms)) (hkm_29 : ∀ (x1 : Int32) (x2 : Int32) (s : ms), k_29 x1 x2 s = some y → gl y.2 = gl s) (x1 : Int32) (x2 : Int32) (s : ms) (hf : bd_M_find_29 N k_29 x1 x2 s = some y) : gl y.2 = gl s := by
  unfold bd_M_find_29 at hf
  have hm : gl s = gl s := rfl
  by_cases h : (s.1 63 0) ≤ x2
  · have hf := (if_pos h).symm.trans hf
    exact (dc_e hf).trans hm
  · have hf := (if_neg h).symm.trans hf
    by_cases h : 0 ≤ x1
    · have hf := (if_pos h).symm.trans hf
      exact (hkm_29 x1 ((x2 + 1)) s hf).trans hm
    · have hf := (if_neg h).symm.trans hf
      obtain ⟨q_1, hc_2, hf⟩ := dc_b hf
      have hm := (mn_M_isNamed N x2 s q_1 hc_2).trans hm
      by_cases h : q_1.1 = 0
      · have hf := (if_pos h).symm.trans hf
        exact (hkm_29 x1 ((x2 + 1)) q_1.2 hf).trans hm
      · have hf := (if_neg h).symm.trans hf
        exact (hkm_29 x2 ((x2 + 1)) q_1.2 hf).trans hm
theorem mh_M_find_29 (N : Nat) (y : (Int32 × ms)) : ∀ (n : Nat) (x1 : Int32) (x2 : Int32) (s : ms), hd_M_find_29 N n x1 x2 s = some y → gl y.2 = gl s := by
  intro n
  induction n with
  | zero => intro x1 x2 s hf; cases hf
  | succ n ih => intro x1 x2 s hf; exact mb_M_find_29 N y (hd_M_find_29 N n) ih x1 x2 s hf
theorem mo_M_find_13 (N : Nat) (y : (Int32 × ms)) (t0 : Int32) (s : ms) (hf : bk_M_find_13 N t0 s = some y) : gl y.2 = gl s := by
  unfold bk_M_find_13 at hf
  have hm : gl s = gl s := rfl
  by_cases h : t0 ≤ 0
  · have hf := (if_pos h).symm.trans hf
    exact (mh_M_find_29 N y N ((-1)) 0 (upI s 0 (fun _ => t0)) hf).trans hm
  · have hf := (if_neg h).symm.trans hf
    exact (dc_e hf).trans hm
theorem mn_M_find (N : Nat) (s : ms) (y : (Int32 × ms)) (hf : fn_M_find N s = some y) : gl y.2 = gl s := by
  unfold fn_M_find at hf
  have hm : gl s = gl s := rfl
  by_cases h : (s.1 54 0) = 0
  · have hf := (if_pos h).symm.trans hf
    exact (mo_M_find_13 N y 1 s hf).trans hm
  · have hf := (if_neg h).symm.trans hf
    exact (mo_M_find_13 N y 0 s hf).trans hm
set_option maxHeartbeats 8000000 in
set_option maxRecDepth 100000 in
theorem ct_M_find (l : Launch) (dC : Nat → ClassId) (dI : Nat → Nat → Nat) (cI cB cJ cZ cQ : ClassId) (N sz : Nat) (h0 : Nat) (a : Nat → Nat) (s : ms) (y : (Int32 × ms)) (hf : fn_M_find N s = some y) : Met l yn_M_find (xw yn_M_find bn_M_find 3 (some .int)) ({ frames := 2, cells := 0, slots := 0, locals := 51 }) (dc_P (dC, dI) xcl (xt cI cB cJ cZ cQ) [.ref h0] sz (wM h0 a cI cB cJ cZ s)) (xk_Qi (dC, dI) xcl (xt cI cB cJ cZ cQ) (fun (r : Int32) (_ : Unit) => r = y.1) (fun u : Unit => (wM h0 a cI cB cJ cZ y.2)) (va_A (wM h0 a cI cB cJ cZ s) sz)) 0 0 (va_A (wM h0 a cI cB cJ cZ s) sz) := by
  refine dc_of (QA := xk_Qi (dC, dI) xcl (xt cI cB cJ cZ cQ) (fun (r : Int32) (_ : Unit) => r = y.1) (fun u : Unit => (wM h0 a cI cB cJ cZ y.2))) (by decide) (Nat.le_of_ble_eq_true rfl) ?_
  intro p e s0 m below meth c hx hb hml hown hg hr hlocks hin hP hK hN A hA hD hT ls hl
  have hown : s0.vm.findClass rn_M = some m.cls := hown
  obtain ⟨H, hH⟩ : ∃ z, z = s0.heap := ⟨_, rfl⟩
  rw [← hH] at hP
  have hS : va_S A s0.heap H [] := by rw [hH]; exact va_S.rf
  suffices kk : ∀ QQ : State → Prop, QQ = MQ below (xk_Qi (dC, dI) xcl (xt cI cB cJ cZ cQ) (fun (r : Int32) (_ : Unit) => r = y.1) (fun u : Unit => (wM h0 a cI cB cJ cZ y.2)) A) [.ref h0].toArray s0 0 0 A → dcC p l e ({ frames := 2, cells := 0, slots := 0, locals := 51 }) s0 m [.ref h0].toArray below meth c QQ (dC, dI) A (wM h0 a cI cB cJ cZ s) 0 3 [(0, .ref h0)] [] by
    have k9 := kk _ rfl H [] ls hP hD hS hl
    rw [hH] at k9; exact k9
  clear hP hD hS hl hH H ls
  intro QQ hQQ
  have hd_29 : ∀ (n : Nat) (x1 : Int32) (x2 : Int32) (s : ms), hd_M_find_29 N n x1 x2 s = some y → dcC p l e ({ frames := 2, cells := 0, slots := 0, locals := 51 }) s0 m [.ref h0].toArray below meth c QQ (dC, dI) A (wM h0 a cI cB cJ cZ s) 29 3 [(0, .ref h0), (1, .int x1), (2, .int x2)] [] := by
    intro n
    induction n with
    | zero => intro x1 x2 s hf; cases hf
    | succ n ih =>
      intro x1 x2 s hf H locs ls hP hD hS hl
      have hf : bd_M_find_29 N (hd_M_find_29 N n) x1 x2 s = some y := hf
      have hk_29 := ih
      generalize hd_M_find_29 N n = k_29 at hf hk_29
      unfold bd_M_find_29 at hf
      refine lv_iload_n hx hb dn_M_find_29 rfl (lv_at hl 2 rfl) ?_
      refine lv_aload_n hx hb dn_M_find_30 rfl (lv_at hl 0 rfl) ?_
      refine va_get (D := (dC, dI)) (ci := 0) (v := .int ((s.1 63 0))) (C := rn_M) (T := fn_M) (N := 91) hx hb hg in_M hown hK hP 0 rfl rfl 63 (by decide) (hg _ wn_8_136) (fun _ h9 => h9) rfl dn_M_find_31 ?_
      refine lv_icmp_ge (tgt := 61) hx hb dn_M_find_34 (by decide) (fun h => ?_) (fun h => ?_)
      · have hf := (if_pos h).symm.trans hf
        refine lv_aload_n hx hb dn_M_find_61 rfl (lv_at hl 0 rfl) ?_
        refine lv_iconst (v := 0) hx hb dn_M_find_62 (by decide) ?_
        refine va_put (D := (dC, dI)) (ci := 0) (v := .int 0) (ty := .int) (C := rn_M) (T := fn_M) (N := 91) hx hb hg in_M tn_M tk_M nn_M hown hK hP hD hS 0 rfl rfl 88 (by decide) (hg _ wn_8_161) (fun _ h9 => h9) rfl (tk_M 88 (by decide)) rfl rfl (Nat.le_of_ble_eq_true rfl) dn_M_find_63 (fun H locs hP hD hS => ?_)
        have hP := wM_P_88 hP
        have hD := wM_D_88 hD
        refine lv_iload_n hx hb dn_M_find_66 rfl (lv_at hl 1 rfl) ?_
        rw [hQQ, ← Option.some.inj hf]
        exact xk_iret (w1 := fun u : Unit => (wM h0 a cI cB cJ cZ (upI s 88 (fun _ => 0)))) () hx hb hr hlocks hK hS dn_M_find_67 hP hD rfl (Nat.le_refl _) (Nat.le_refl _)
      · have hf := (if_neg h).symm.trans hf
        refine lv_iload_n hx hb dn_M_find_37 rfl (lv_at hl 1 rfl) ?_
        refine lv_if_ge (tgt := 53) hx hb dn_M_find_38 (by decide) (fun h => ?_) (fun h => ?_)
        · have hf := (if_pos h).symm.trans hf
          refine lv_iload_n hx hb dn_M_find_53 rfl (lv_at hl 1 rfl) ?_
          refine lv_istore_n (lv' := [(1, .int x1), (0, .ref h0), (2, .int x2)]) hx hb dn_M_find_54 rfl hl (by decide) rfl (fun ls hl => ?_)
          refine lv_iinc (v := (x2 + 1)) (lv' := [(2, .int ((x2 + 1))), (1, .int x1), (0, .ref h0)]) hx hb dn_M_find_55 hl (k := 2) rfl (dc_inc (by decide)) (by decide) rfl (fun ls hl => ?_)
          refine lv_goto (tgt := 29) hx hb dn_M_find_58 (by decide) ?_
          exact hk_29 x1 ((x2 + 1)) s hf H locs ls hP hD hS (lv_sub hl [2, 1, 0] rfl)
        · have hf := (if_neg h).symm.trans hf
          refine lv_aload_n hx hb dn_M_find_41 rfl (lv_at hl 0 rfl) ?_
          refine lv_iload_n hx hb dn_M_find_42 rfl (lv_at hl 2 rfl) ?_
          obtain ⟨q_1, hc_2, hf⟩ := dc_b hf
          refine dc_calli (dc_runV (ar := 1) (As := [.int x2]) (rest := []) (ci := 0) (q0 := 0) ⟨hx, hb, hml, hown, hg⟩ hK hN hT hS hA (ct_M_isNamed l dC dI cI cB cJ cZ cQ N H.size h0 a x2 s q_1 hc_2) hP hD rfl rfl wn_11_19 wn_11_21 sn_M_isNamed wn_1_13 wn_11_22 rfl rfl (by decide +kernel) ⟨Nat.le_of_ble_eq_true rfl, Nat.le_of_ble_eq_true rfl⟩ rfl hl.1 rfl (Nat.le_of_ble_eq_true rfl) dn_M_find_43 ⟨Nat.le_of_ble_eq_true rfl, Nat.le_of_ble_eq_true rfl⟩) hP hD hS hA (fun r_3 _ H locs hw hP hD hS => ?_)
          have hw : r_3 = q_1.1 := hw
          subst hw
          refine lv_if_eq (tgt := 53) hx hb dn_M_find_46 (by decide) (fun h => ?_) (fun h => ?_)
          · have hf := (if_pos h).symm.trans hf
            refine lv_iload_n hx hb dn_M_find_53 rfl (lv_at hl 1 rfl) ?_
            refine lv_istore_n (lv' := [(1, .int x1), (0, .ref h0), (2, .int x2)]) hx hb dn_M_find_54 rfl hl (by decide) rfl (fun ls hl => ?_)
            refine lv_iinc (v := (x2 + 1)) (lv' := [(2, .int ((x2 + 1))), (1, .int x1), (0, .ref h0)]) hx hb dn_M_find_55 hl (k := 2) rfl (dc_inc (by decide)) (by decide) rfl (fun ls hl => ?_)
            refine lv_goto (tgt := 29) hx hb dn_M_find_58 (by decide) ?_
            exact hk_29 x1 ((x2 + 1)) q_1.2 hf H locs ls hP hD hS (lv_sub hl [2, 1, 0] rfl)
          · have hf := (if_neg h).symm.trans hf
            refine lv_iload_n hx hb dn_M_find_49 rfl (lv_at hl 2 rfl) ?_
            refine lv_goto (tgt := 54) hx hb dn_M_find_50 (by decide) ?_
            refine lv_istore_n (lv' := [(1, .int x2), (0, .ref h0), (2, .int x2)]) hx hb dn_M_find_54 rfl hl (by decide) rfl (fun ls hl => ?_)
            refine lv_iinc (v := (x2 + 1)) (lv' := [(2, .int ((x2 + 1))), (1, .int x2), (0, .ref h0)]) hx hb dn_M_find_55 hl (k := 2) rfl (dc_inc (by decide)) (by decide) rfl (fun ls hl => ?_)
            refine lv_goto (tgt := 29) hx hb dn_M_find_58 (by decide) ?_
            exact hk_29 x2 ((x2 + 1)) q_1.2 hf H locs ls hP hD hS (lv_sub hl [2, 1, 0] rfl)
  have bl_13 : ∀ (t0 : Int32) (s : ms), bk_M_find_13 N t0 s = some y → dcC p l e ({ frames := 2, cells := 0, slots := 0, locals := 51 }) s0 m [.ref h0].toArray below meth c QQ (dC, dI) A (wM h0 a cI cB cJ cZ s) 13 3 [(0, .ref h0)] [.int t0, .ref h0] := by
    intro t0 s hf H locs ls hP hD hS hl
    unfold bk_M_find_13 at hf
    refine va_put (D := (dC, dI)) (ci := 0) (v := .int t0) (ty := .int) (C := rn_M) (T := fn_M) (N := 91) hx hb hg in_M tn_M tk_M nn_M hown hK hP hD hS 0 rfl rfl 0 (by decide) (hg _ wn_8_73) (fun _ h9 => h9) rfl (tk_M 0 (by decide)) rfl rfl (Nat.le_of_ble_eq_true rfl) dn_M_find_13 (fun H locs hP hD hS => ?_)
    have hP := wM_P_0 hP
    have hD := wM_D_0 hD
    refine lv_aload_n hx hb dn_M_find_16 rfl (lv_at hl 0 rfl) ?_
    refine va_get (D := (dC, dI)) (ci := 0) (v := .int t0) (C := rn_M) (T := fn_M) (N := 91) hx hb hg in_M hown hK hP 0 rfl rfl 0 (by decide) (hg _ wn_8_73) (fun _ h9 => h9) rfl dn_M_find_17 ?_
    refine lv_if_le (tgt := 25) hx hb dn_M_find_20 (by decide) (fun h => ?_) (fun h => ?_)
    · have hf := (if_pos h).symm.trans hf
      refine lv_iconst (v := (-1)) hx hb dn_M_find_25 (by decide) ?_
      refine lv_istore_n (lv' := [(1, .int ((-1))), (0, .ref h0)]) hx hb dn_M_find_26 rfl hl (by decide) rfl (fun ls hl => ?_)
      refine lv_iconst (v := 0) hx hb dn_M_find_27 (by decide) ?_
      refine lv_istore_n (lv' := [(2, .int 0), (1, .int ((-1))), (0, .ref h0)]) hx hb dn_M_find_28 rfl hl (by decide) rfl (fun ls hl => ?_)
      exact hd_29 N ((-1)) 0 (upI s 0 (fun _ => t0)) hf H locs ls hP hD hS (lv_sub hl [2, 1, 0] rfl)
    · have hf := (if_neg h).symm.trans hf
      refine lv_iconst (v := 0) hx hb dn_M_find_23 (by decide) ?_
      rw [hQQ, ← Option.some.inj hf]
      exact xk_iret (w1 := fun u : Unit => (wM h0 a cI cB cJ cZ (upI s 0 (fun _ => t0)))) () hx hb hr hlocks hK hS dn_M_find_24 hP hD rfl (Nat.le_refl _) (Nat.le_refl _)
  intro H locs ls hP hD hS hl
  unfold fn_M_find at hf
  refine lv_aload_n hx hb dn_M_find_0 rfl (lv_at hl 0 rfl) ?_
  refine lv_aload_n hx hb dn_M_find_1 rfl (lv_at hl 0 rfl) ?_
  refine va_get (D := (dC, dI)) (ci := 0) (v := .int ((s.1 54 0))) (C := rn_M) (T := fn_M) (N := 91) hx hb hg in_M hown hK hP 0 rfl rfl 54 (by decide) (hg _ wn_8_127) (fun _ h9 => h9) rfl dn_M_find_2 ?_
  refine lv_if_eq (tgt := 12) hx hb dn_M_find_5 (by decide) (fun h => ?_) (fun h => ?_)
  · have hf := (if_pos h).symm.trans hf
    refine lv_iconst (v := 1) hx hb dn_M_find_12 (by decide) ?_
    exact bl_13 1 s hf H locs ls hP hD hS hl
  · have hf := (if_neg h).symm.trans hf
    refine lv_iconst (v := 0) hx hb dn_M_find_8 (by decide) ?_
    refine lv_goto (tgt := 13) hx hb dn_M_find_9 (by decide) ?_
    exact bl_13 0 s hf H locs ls hP hD hS hl
theorem mn_M_isSignal (N : Nat) (v1 : Int32) (s : ms) (y : (Int32 × ms)) (hf : fn_M_isSignal N v1 s = some y) : gl y.2 = gl s := by
  unfold fn_M_isSignal at hf
  have hm : gl s = gl s := rfl
  by_cases h : v1 < 0
  · have hf := (if_pos h).symm.trans hf
    exact (dc_e hf).trans hm
  · have hf := (if_neg h).symm.trans hf
    by_cases h : (s.1 63 0) ≤ v1
    · have hf := (if_pos h).symm.trans hf
      exact (dc_e hf).trans hm
    · have hf := (if_neg h).symm.trans hf
      exact (dc_e hf).trans hm
set_option maxHeartbeats 8000000 in
set_option maxRecDepth 100000 in
theorem ct_M_isSignal (l : Launch) (dC : Nat → ClassId) (dI : Nat → Nat → Nat) (cI cB cJ cZ cQ : ClassId) (N sz : Nat) (h0 : Nat) (a : Nat → Nat) (v1 : Int32) (s : ms) (y : (Int32 × ms)) (hf : fn_M_isSignal N v1 s = some y) : Met l yn_M_isSignal (xw yn_M_isSignal bn_M_isSignal 2 (some .boolean)) ({ frames := 0, cells := 0, slots := 0, locals := 0 }) (dc_P (dC, dI) xcl (xt cI cB cJ cZ cQ) [.ref h0, .int v1] sz (wM h0 a cI cB cJ cZ s)) (xk_Qi (dC, dI) xcl (xt cI cB cJ cZ cQ) (fun (r : Int32) (_ : Unit) => r = y.1) (fun u : Unit => (wM h0 a cI cB cJ cZ y.2)) (va_A (wM h0 a cI cB cJ cZ s) sz)) 0 0 (va_A (wM h0 a cI cB cJ cZ s) sz) := by
  refine dc_of (QA := xk_Qi (dC, dI) xcl (xt cI cB cJ cZ cQ) (fun (r : Int32) (_ : Unit) => r = y.1) (fun u : Unit => (wM h0 a cI cB cJ cZ y.2))) (by decide) (Nat.le_of_ble_eq_true rfl) ?_
  intro p e s0 m below meth c hx hb hml hown hg hr hlocks hin hP hK hN A hA hD hT ls hl
  have hown : s0.vm.findClass rn_M = some m.cls := hown
  obtain ⟨H, hH⟩ : ∃ z, z = s0.heap := ⟨_, rfl⟩
  rw [← hH] at hP
  have hS : va_S A s0.heap H [] := by rw [hH]; exact va_S.rf
  suffices kk : ∀ QQ : State → Prop, QQ = MQ below (xk_Qi (dC, dI) xcl (xt cI cB cJ cZ cQ) (fun (r : Int32) (_ : Unit) => r = y.1) (fun u : Unit => (wM h0 a cI cB cJ cZ y.2)) A) [.ref h0, .int v1].toArray s0 0 0 A → dcC p l e ({ frames := 0, cells := 0, slots := 0, locals := 0 }) s0 m [.ref h0, .int v1].toArray below meth c QQ (dC, dI) A (wM h0 a cI cB cJ cZ s) 0 2 [(0, .ref h0), (1, .int v1)] [] by
    have k9 := kk _ rfl H [] ls hP hD hS hl
    rw [hH] at k9; exact k9
  clear hP hD hS hl hH H ls
  intro QQ hQQ
  intro H locs ls hP hD hS hl
  unfold fn_M_isSignal at hf
  refine lv_iload_n hx hb dn_M_isSignal_0 rfl (lv_at hl 1 rfl) ?_
  refine lv_if_lt (tgt := 16) hx hb dn_M_isSignal_1 (by decide) (fun h => ?_) (fun h => ?_)
  · have hf := (if_pos h).symm.trans hf
    refine lv_iconst (v := 0) hx hb dn_M_isSignal_16 (by decide) ?_
    rw [hQQ, ← Option.some.inj hf]
    exact xk_zret (w1 := fun u : Unit => (wM h0 a cI cB cJ cZ s)) () hx hb hr rfl hlocks hK hS dn_M_isSignal_17 hP hD rfl (Nat.le_refl _) (Nat.le_refl _)
  · have hf := (if_neg h).symm.trans hf
    refine lv_iload_n hx hb dn_M_isSignal_4 rfl (lv_at hl 1 rfl) ?_
    refine lv_aload_n hx hb dn_M_isSignal_5 rfl (lv_at hl 0 rfl) ?_
    refine va_get (D := (dC, dI)) (ci := 0) (v := .int ((s.1 63 0))) (C := rn_M) (T := fn_M) (N := 91) hx hb hg in_M hown hK hP 0 rfl rfl 63 (by decide) (hg _ wn_8_136) (fun _ h9 => h9) rfl dn_M_isSignal_6 ?_
    refine lv_icmp_ge (tgt := 16) hx hb dn_M_isSignal_9 (by decide) (fun h => ?_) (fun h => ?_)
    · have hf := (if_pos h).symm.trans hf
      refine lv_iconst (v := 0) hx hb dn_M_isSignal_16 (by decide) ?_
      rw [hQQ, ← Option.some.inj hf]
      exact xk_zret (w1 := fun u : Unit => (wM h0 a cI cB cJ cZ s)) () hx hb hr rfl hlocks hK hS dn_M_isSignal_17 hP hD rfl (Nat.le_refl _) (Nat.le_refl _)
    · have hf := (if_neg h).symm.trans hf
      refine lv_iconst (v := 1) hx hb dn_M_isSignal_12 (by decide) ?_
      refine lv_goto (tgt := 17) hx hb dn_M_isSignal_13 (by decide) ?_
      rw [hQQ, ← Option.some.inj hf]
      exact xk_zret (w1 := fun u : Unit => (wM h0 a cI cB cJ cZ s)) () hx hb hr rfl hlocks hK hS dn_M_isSignal_17 hP hD rfl (Nat.le_refl _) (Nat.le_refl _)
theorem mn_M_kindOf (N : Nat) (v1 : Int32) (s : ms) (y : (Int32 × ms)) (hf : fn_M_kindOf N v1 s = some y) : gl y.2 = gl s := by
  unfold fn_M_kindOf at hf
  have hm : gl s = gl s := rfl
  obtain ⟨_, hf⟩ := dc_g hf
  obtain ⟨q_2, hc_3, hf⟩ := dc_b hf
  have hm := (mn_M_isRegister N (((s.1 64) (Int32.toNatClampNeg v1))) s q_2 hc_3).trans hm
  by_cases h : q_2.1 = 0
  · have hf := (if_pos h).symm.trans hf
    obtain ⟨_, hf⟩ := dc_g hf
    by_cases h : ((q_2.2.1 21) (Int32.toNatClampNeg (((s.1 64) (Int32.toNatClampNeg v1))))) = 0
    · have hf := (if_pos h).symm.trans hf
      obtain ⟨_, hf⟩ := dc_g hf
      by_cases h : ((q_2.2.1 65) (Int32.toNatClampNeg v1)) = 0
      · have hf := (if_pos h).symm.trans hf
        exact (dc_e hf).trans hm
      · have hf := (if_neg h).symm.trans hf
        exact (dc_e hf).trans hm
    · have hf := (if_neg h).symm.trans hf
      exact (dc_e hf).trans hm
  · have hf := (if_neg h).symm.trans hf
    exact (dc_e hf).trans hm
set_option maxHeartbeats 8000000 in
set_option maxRecDepth 100000 in
theorem ct_M_kindOf (l : Launch) (dC : Nat → ClassId) (dI : Nat → Nat → Nat) (cI cB cJ cZ cQ : ClassId) (N sz : Nat) (h0 : Nat) (a : Nat → Nat) (v1 : Int32) (s : ms) (y : (Int32 × ms)) (hf : fn_M_kindOf N v1 s = some y) : Met l yn_M_kindOf (xw yn_M_kindOf bn_M_kindOf 3 (some .int)) ({ frames := 1, cells := 0, slots := 0, locals := 21 }) (dc_P (dC, dI) xcl (xt cI cB cJ cZ cQ) [.ref h0, .int v1] sz (wM h0 a cI cB cJ cZ s)) (xk_Qi (dC, dI) xcl (xt cI cB cJ cZ cQ) (fun (r : Int32) (_ : Unit) => r = y.1) (fun u : Unit => (wM h0 a cI cB cJ cZ y.2)) (va_A (wM h0 a cI cB cJ cZ s) sz)) 0 0 (va_A (wM h0 a cI cB cJ cZ s) sz) := by
  refine dc_of (QA := xk_Qi (dC, dI) xcl (xt cI cB cJ cZ cQ) (fun (r : Int32) (_ : Unit) => r = y.1) (fun u : Unit => (wM h0 a cI cB cJ cZ y.2))) (by decide) (Nat.le_of_ble_eq_true rfl) ?_
  intro p e s0 m below meth c hx hb hml hown hg hr hlocks hin hP hK hN A hA hD hT ls hl
  have hown : s0.vm.findClass rn_M = some m.cls := hown
  obtain ⟨H, hH⟩ : ∃ z, z = s0.heap := ⟨_, rfl⟩
  rw [← hH] at hP
  have hS : va_S A s0.heap H [] := by rw [hH]; exact va_S.rf
  suffices kk : ∀ QQ : State → Prop, QQ = MQ below (xk_Qi (dC, dI) xcl (xt cI cB cJ cZ cQ) (fun (r : Int32) (_ : Unit) => r = y.1) (fun u : Unit => (wM h0 a cI cB cJ cZ y.2)) A) [.ref h0, .int v1].toArray s0 0 0 A → dcC p l e ({ frames := 1, cells := 0, slots := 0, locals := 21 }) s0 m [.ref h0, .int v1].toArray below meth c QQ (dC, dI) A (wM h0 a cI cB cJ cZ s) 0 3 [(0, .ref h0), (1, .int v1)] [] by
    have k9 := kk _ rfl H [] ls hP hD hS hl
    rw [hH] at k9; exact k9
  clear hP hD hS hl hH H ls
  intro QQ hQQ
  intro H locs ls hP hD hS hl
  unfold fn_M_kindOf at hf
  refine lv_aload_n hx hb dn_M_kindOf_0 rfl (lv_at hl 0 rfl) ?_
  refine va_get (D := (dC, dI)) (ci := 0) (v := .ref ((a 64))) (C := rn_M) (T := fn_M) (N := 91) hx hb hg in_M hown hK hP 0 rfl rfl 64 (by decide) (hg _ wn_8_137) (fun _ h9 => h9) rfl dn_M_kindOf_1 ?_
  refine lv_iload_n hx hb dn_M_kindOf_4 rfl (lv_at hl 1 rfl) ?_
  obtain ⟨hg_1, hf⟩ := dc_g hf
  refine va_iald hx hb hK hP 44 0 rfl rfl hg_1 dn_M_kindOf_5 ?_
  refine xk_ti (y := ((s.1 64) (Int32.toNatClampNeg v1))) rfl ?_
  refine lv_istore_n (lv' := [(2, .int (((s.1 64) (Int32.toNatClampNeg v1)))), (0, .ref h0), (1, .int v1)]) hx hb dn_M_kindOf_6 rfl hl (by decide) rfl (fun ls hl => ?_)
  refine lv_aload_n hx hb dn_M_kindOf_7 rfl (lv_at hl 1 rfl) ?_
  refine lv_iload_n hx hb dn_M_kindOf_8 rfl (lv_at hl 0 rfl) ?_
  obtain ⟨q_2, hc_3, hf⟩ := dc_b hf
  refine dc_calli (dc_runV (ar := 1) (As := [.int (((s.1 64) (Int32.toNatClampNeg v1)))]) (rest := []) (ci := 0) (q0 := 0) ⟨hx, hb, hml, hown, hg⟩ hK hN hT hS hA (ct_M_isRegister l dC dI cI cB cJ cZ cQ N H.size h0 a (((s.1 64) (Int32.toNatClampNeg v1))) s q_2 hc_3) hP hD rfl rfl wn_10_137 wn_10_139 sn_M_isRegister wn_1_13 wn_10_140 rfl rfl (by decide +kernel) ⟨Nat.le_of_ble_eq_true rfl, Nat.le_of_ble_eq_true rfl⟩ rfl hl.1 rfl (Nat.le_of_ble_eq_true rfl) dn_M_kindOf_9 ⟨Nat.le_of_ble_eq_true rfl, Nat.le_of_ble_eq_true rfl⟩) hP hD hS hA (fun r_4 _ H locs hw hP hD hS => ?_)
  have hw : r_4 = q_2.1 := hw
  subst hw
  refine lv_if_eq (tgt := 19) hx hb dn_M_kindOf_12 (by decide) (fun h => ?_) (fun h => ?_)
  · have hf := (if_pos h).symm.trans hf
    refine lv_aload_n hx hb dn_M_kindOf_19 rfl (lv_at hl 1 rfl) ?_
    refine va_get (D := (dC, dI)) (ci := 0) (v := .ref ((a 21))) (C := rn_M) (T := fn_M) (N := 91) hx hb hg in_M hown hK hP 0 rfl rfl 21 (by decide) (hg _ wn_8_94) (fun _ h9 => h9) rfl dn_M_kindOf_20 ?_
    refine lv_iload_n hx hb dn_M_kindOf_23 rfl (lv_at hl 0 rfl) ?_
    obtain ⟨hg_5, hf⟩ := dc_g hf
    refine va_iald hx hb hK hP 12 0 rfl rfl hg_5 dn_M_kindOf_24 ?_
    refine xk_ti (y := ((q_2.2.1 21) (Int32.toNatClampNeg (((s.1 64) (Int32.toNatClampNeg v1)))))) rfl ?_
    refine lv_if_ne (tgt := 41) hx hb dn_M_kindOf_25 (by decide) (fun h => ?_) (fun h => ?_)
    · have hf := (if_neg h).symm.trans hf
      refine lv_iconst (v := 1) hx hb dn_M_kindOf_41 (by decide) ?_
      rw [hQQ, ← Option.some.inj hf]
      exact xk_iret (w1 := fun u : Unit => (wM h0 a cI cB cJ cZ q_2.2)) () hx hb hr hlocks hK hS dn_M_kindOf_42 hP hD rfl (Nat.le_refl _) (Nat.le_refl _)
    · have hf := (if_pos h).symm.trans hf
      refine lv_aload_n hx hb dn_M_kindOf_28 rfl (lv_at hl 1 rfl) ?_
      refine va_get (D := (dC, dI)) (ci := 0) (v := .ref ((a 65))) (C := rn_M) (T := fn_M) (N := 91) hx hb hg in_M hown hK hP 0 rfl rfl 65 (by decide) (hg _ wn_8_138) (fun _ h9 => h9) rfl dn_M_kindOf_29 ?_
      refine lv_iload_n hx hb dn_M_kindOf_32 rfl (lv_at hl 2 rfl) ?_
      obtain ⟨hg_6, hf⟩ := dc_g hf
      refine va_iald hx hb hK hP 45 0 rfl rfl hg_6 dn_M_kindOf_33 ?_
      refine xk_ti (y := ((q_2.2.1 65) (Int32.toNatClampNeg v1))) rfl ?_
      refine lv_if_ne (tgt := 41) hx hb dn_M_kindOf_34 (by decide) (fun h => ?_) (fun h => ?_)
      · have hf := (if_neg h).symm.trans hf
        refine lv_iconst (v := 1) hx hb dn_M_kindOf_41 (by decide) ?_
        rw [hQQ, ← Option.some.inj hf]
        exact xk_iret (w1 := fun u : Unit => (wM h0 a cI cB cJ cZ q_2.2)) () hx hb hr hlocks hK hS dn_M_kindOf_42 hP hD rfl (Nat.le_refl _) (Nat.le_refl _)
      · have hf := (if_pos h).symm.trans hf
        refine lv_iconst (v := 0) hx hb dn_M_kindOf_37 (by decide) ?_
        refine lv_goto (tgt := 42) hx hb dn_M_kindOf_38 (by decide) ?_
        rw [hQQ, ← Option.some.inj hf]
        exact xk_iret (w1 := fun u : Unit => (wM h0 a cI cB cJ cZ q_2.2)) () hx hb hr hlocks hK hS dn_M_kindOf_42 hP hD rfl (Nat.le_refl _) (Nat.le_refl _)
  · have hf := (if_neg h).symm.trans hf
    refine lv_iconst (v := 2) hx hb dn_M_kindOf_15 (by decide) ?_
    refine lv_goto (tgt := 42) hx hb dn_M_kindOf_16 (by decide) ?_
    rw [hQQ, ← Option.some.inj hf]
    exact xk_iret (w1 := fun u : Unit => (wM h0 a cI cB cJ cZ q_2.2)) () hx hb hr hlocks hK hS dn_M_kindOf_42 hP hD rfl (Nat.le_refl _) (Nat.le_refl _)
theorem mo_M_signal_38 (N : Nat) (y : (Int32 × ms)) (x1 : Int32) (x2 : Int32) (t0 : Int32) (s : ms) (hf : bk_M_signal_38 N x1 x2 t0 s = some y) : gl y.2 = gl s := by
  unfold bk_M_signal_38 at hf
  have hm : gl s = gl s := rfl
  by_cases h : t0 ≤ 0
  · have hf := (if_pos h).symm.trans hf
    by_cases h : x2 = 0
    · have hf := (if_pos h).symm.trans hf
      obtain ⟨_, hf⟩ := dc_g hf
      obtain ⟨_, hf⟩ := dc_g hf
      exact (dc_e hf).trans hm
    · have hf := (if_neg h).symm.trans hf
      by_cases h : x2 = 1
      · have hf := (if_pos h).symm.trans hf
        obtain ⟨q_1, hc_2, hf⟩ := dc_b hf
        have hm := (mn_M_kindOf N x1 (upI s 0 (fun _ => t0)) q_1 hc_2).trans hm
        exact (dc_e hf).trans hm
      · have hf := (if_neg h).symm.trans hf
        obtain ⟨_, hf⟩ := dc_g hf
        obtain ⟨_, hf⟩ := dc_g hf
        obtain ⟨_, hf⟩ := dc_g hf
        exact (dc_e hf).trans hm
  · have hf := (if_neg h).symm.trans hf
    exact (dc_e hf).trans hm
theorem mo_M_signal_33 (N : Nat) (y : (Int32 × ms)) (x1 : Int32) (x2 : Int32) (s : ms) (hf : bk_M_signal_33 N x1 x2 s = some y) : gl y.2 = gl s := by
  unfold bk_M_signal_33 at hf
  have hm : gl s = gl s := rfl
  exact (mo_M_signal_38 N y x1 x2 3 s hf).trans hm
theorem mn_M_signal (N : Nat) (v1 : Int32) (v2 : Int32) (s : ms) (y : (Int32 × ms)) (hf : fn_M_signal N v1 v2 s = some y) : gl y.2 = gl s := by
  unfold fn_M_signal at hf
  have hm : gl s = gl s := rfl
  by_cases h : (s.1 54 0) = 0
  · have hf := (if_pos h).symm.trans hf
    exact (mo_M_signal_38 N y v1 v2 1 s hf).trans hm
  · have hf := (if_neg h).symm.trans hf
    obtain ⟨q_1, hc_2, hf⟩ := dc_b hf
    have hm := (mn_M_isSignal N v1 s q_1 hc_2).trans hm
    by_cases h : q_1.1 = 0
    · have hf := (if_pos h).symm.trans hf
      exact (mo_M_signal_38 N y v1 v2 2 q_1.2 hf).trans hm
    · have hf := (if_neg h).symm.trans hf
      by_cases h : v2 < 0
      · have hf := (if_pos h).symm.trans hf
        exact (mo_M_signal_33 N y v1 v2 q_1.2 hf).trans hm
      · have hf := (if_neg h).symm.trans hf
        by_cases h : v2 ≤ 2
        · have hf := (if_pos h).symm.trans hf
          exact (mo_M_signal_38 N y v1 v2 0 q_1.2 hf).trans hm
        · have hf := (if_neg h).symm.trans hf
          exact (mo_M_signal_33 N y v1 v2 q_1.2 hf).trans hm
set_option maxHeartbeats 8000000 in
set_option maxRecDepth 100000 in
theorem ct_M_signal (l : Launch) (dC : Nat → ClassId) (dI : Nat → Nat → Nat) (cI cB cJ cZ cQ : ClassId) (N sz : Nat) (h0 : Nat) (a : Nat → Nat) (v1 : Int32) (v2 : Int32) (s : ms) (y : (Int32 × ms)) (hf : fn_M_signal N v1 v2 s = some y) : Met l yn_M_signal (xw yn_M_signal bn_M_signal 3 (some .int)) ({ frames := 2, cells := 0, slots := 0, locals := 43 }) (dc_P (dC, dI) xcl (xt cI cB cJ cZ cQ) [.ref h0, .int v1, .int v2] sz (wM h0 a cI cB cJ cZ s)) (xk_Qi (dC, dI) xcl (xt cI cB cJ cZ cQ) (fun (r : Int32) (_ : Unit) => r = y.1) (fun u : Unit => (wM h0 a cI cB cJ cZ y.2)) (va_A (wM h0 a cI cB cJ cZ s) sz)) 0 0 (va_A (wM h0 a cI cB cJ cZ s) sz) := by
  refine dc_of (QA := xk_Qi (dC, dI) xcl (xt cI cB cJ cZ cQ) (fun (r : Int32) (_ : Unit) => r = y.1) (fun u : Unit => (wM h0 a cI cB cJ cZ y.2))) (by decide) (Nat.le_of_ble_eq_true rfl) ?_
  intro p e s0 m below meth c hx hb hml hown hg hr hlocks hin hP hK hN A hA hD hT ls hl
  have hown : s0.vm.findClass rn_M = some m.cls := hown
  obtain ⟨H, hH⟩ : ∃ z, z = s0.heap := ⟨_, rfl⟩
  rw [← hH] at hP
  have hS : va_S A s0.heap H [] := by rw [hH]; exact va_S.rf
  suffices kk : ∀ QQ : State → Prop, QQ = MQ below (xk_Qi (dC, dI) xcl (xt cI cB cJ cZ cQ) (fun (r : Int32) (_ : Unit) => r = y.1) (fun u : Unit => (wM h0 a cI cB cJ cZ y.2)) A) [.ref h0, .int v1, .int v2].toArray s0 0 0 A → dcC p l e ({ frames := 2, cells := 0, slots := 0, locals := 43 }) s0 m [.ref h0, .int v1, .int v2].toArray below meth c QQ (dC, dI) A (wM h0 a cI cB cJ cZ s) 0 3 [(0, .ref h0), (1, .int v1), (2, .int v2)] [] by
    have k9 := kk _ rfl H [] ls hP hD hS hl
    rw [hH] at k9; exact k9
  clear hP hD hS hl hH H ls
  intro QQ hQQ
  have bl_38 : ∀ (x1 : Int32) (x2 : Int32) (t0 : Int32) (s : ms), bk_M_signal_38 N x1 x2 t0 s = some y → dcC p l e ({ frames := 2, cells := 0, slots := 0, locals := 43 }) s0 m [.ref h0, .int v1, .int v2].toArray below meth c QQ (dC, dI) A (wM h0 a cI cB cJ cZ s) 38 3 [(0, .ref h0), (1, .int x1), (2, .int x2)] [.int t0, .ref h0] := by
    intro x1 x2 t0 s hf H locs ls hP hD hS hl
    unfold bk_M_signal_38 at hf
    refine va_put (D := (dC, dI)) (ci := 0) (v := .int t0) (ty := .int) (C := rn_M) (T := fn_M) (N := 91) hx hb hg in_M tn_M tk_M nn_M hown hK hP hD hS 0 rfl rfl 0 (by decide) (hg _ wn_8_73) (fun _ h9 => h9) rfl (tk_M 0 (by decide)) rfl rfl (Nat.le_of_ble_eq_true rfl) dn_M_signal_38 (fun H locs hP hD hS => ?_)
    have hP := wM_P_0 hP
    have hD := wM_D_0 hD
    refine lv_aload_n hx hb dn_M_signal_41 rfl (lv_at hl 0 rfl) ?_
    refine va_get (D := (dC, dI)) (ci := 0) (v := .int t0) (C := rn_M) (T := fn_M) (N := 91) hx hb hg in_M hown hK hP 0 rfl rfl 0 (by decide) (hg _ wn_8_73) (fun _ h9 => h9) rfl dn_M_signal_42 ?_
    refine lv_if_le (tgt := 50) hx hb dn_M_signal_45 (by decide) (fun h => ?_) (fun h => ?_)
    · have hf := (if_pos h).symm.trans hf
      refine lv_iload_n hx hb dn_M_signal_50 rfl (lv_at hl 2 rfl) ?_
      refine lv_if_ne (tgt := 68) hx hb dn_M_signal_51 (by decide) (fun h => ?_) (fun h => ?_)
      · have hf := (if_neg h).symm.trans hf
        refine lv_iload_n hx hb dn_M_signal_68 rfl (lv_at hl 2 rfl) ?_
        refine lv_iconst (v := 1) hx hb dn_M_signal_69 (by decide) ?_
        refine lv_icmp_ne (tgt := 81) hx hb dn_M_signal_70 (by decide) (fun h => ?_) (fun h => ?_)
        · have hf := (if_neg h).symm.trans hf
          refine lv_aload_n hx hb dn_M_signal_81 rfl (lv_at hl 0 rfl) ?_
          refine va_get (D := (dC, dI)) (ci := 0) (v := .ref ((a 5))) (C := rn_M) (T := fn_M) (N := 91) hx hb hg in_M hown hK hP 0 rfl rfl 5 (by decide) (hg _ wn_8_78) (fun _ h9 => h9) rfl dn_M_signal_82 ?_
          refine lv_aload_n hx hb dn_M_signal_85 rfl (lv_at hl 0 rfl) ?_
          refine va_get (D := (dC, dI)) (ci := 0) (v := .ref ((a 19))) (C := rn_M) (T := fn_M) (N := 91) hx hb hg in_M hown hK hP 0 rfl rfl 19 (by decide) (hg _ wn_8_92) (fun _ h9 => h9) rfl dn_M_signal_86 ?_
          refine lv_aload_n hx hb dn_M_signal_89 rfl (lv_at hl 0 rfl) ?_
          refine va_get (D := (dC, dI)) (ci := 0) (v := .ref ((a 64))) (C := rn_M) (T := fn_M) (N := 91) hx hb hg in_M hown hK hP 0 rfl rfl 64 (by decide) (hg _ wn_8_137) (fun _ h9 => h9) rfl dn_M_signal_90 ?_
          refine lv_iload_n hx hb dn_M_signal_93 rfl (lv_at hl 1 rfl) ?_
          obtain ⟨hg_1, hf⟩ := dc_g hf
          refine va_iald hx hb hK hP 44 0 rfl rfl hg_1 dn_M_signal_94 ?_
          refine xk_ti (y := ((s.1 64) (Int32.toNatClampNeg x1))) rfl ?_
          obtain ⟨hg_2, hf⟩ := dc_g hf
          refine va_iald hx hb hK hP 10 0 rfl rfl hg_2 dn_M_signal_95 ?_
          refine xk_ti (y := ((s.1 19) (Int32.toNatClampNeg (((s.1 64) (Int32.toNatClampNeg x1)))))) rfl ?_
          obtain ⟨hg_3, hf⟩ := dc_g hf
          refine va_iald hx hb hK hP 3 0 rfl rfl hg_3 dn_M_signal_96 ?_
          refine xk_ti (y := ((s.1 5) (Int32.toNatClampNeg (((s.1 19) (Int32.toNatClampNeg (((s.1 64) (Int32.toNatClampNeg x1))))))))) rfl ?_
          rw [hQQ, ← Option.some.inj hf]
          exact xk_iret (w1 := fun u : Unit => (wM h0 a cI cB cJ cZ (upI s 0 (fun _ => t0)))) () hx hb hr hlocks hK hS dn_M_signal_97 hP hD rfl (Nat.le_refl _) (Nat.le_refl _)
        · have hf := (if_pos h).symm.trans hf
          refine lv_aload_n hx hb dn_M_signal_73 rfl (lv_at hl 0 rfl) ?_
          refine lv_iload_n hx hb dn_M_signal_74 rfl (lv_at hl 1 rfl) ?_
          obtain ⟨q_1, hc_2, hf⟩ := dc_b hf
          refine dc_calli (dc_runV (ar := 1) (As := [.int x1]) (rest := []) (ci := 0) (q0 := 0) ⟨hx, hb, hml, hown, hg⟩ hK hN hT hS hA (ct_M_kindOf l dC dI cI cB cJ cZ cQ N H.size h0 a x1 (upI s 0 (fun _ => t0)) q_1 hc_2) hP hD rfl rfl wn_11_35 wn_11_37 sn_M_kindOf wn_1_13 wn_11_38 rfl rfl (by decide +kernel) ⟨Nat.le_of_ble_eq_true rfl, Nat.le_of_ble_eq_true rfl⟩ rfl hl.1 rfl (Nat.le_of_ble_eq_true rfl) dn_M_signal_75 ⟨Nat.le_of_ble_eq_true rfl, Nat.le_of_ble_eq_true rfl⟩) hP hD hS hA (fun r_3 _ H locs hw hP hD hS => ?_)
          have hw : r_3 = q_1.1 := hw
          subst hw
          refine lv_goto (tgt := 97) hx hb dn_M_signal_78 (by decide) ?_
          rw [hQQ, ← Option.some.inj hf]
          exact xk_iret (w1 := fun u : Unit => (wM h0 a cI cB cJ cZ q_1.2)) () hx hb hr hlocks hK hS dn_M_signal_97 hP hD rfl (Nat.le_refl _) (Nat.le_refl _)
      · have hf := (if_pos h).symm.trans hf
        refine lv_aload_n hx hb dn_M_signal_54 rfl (lv_at hl 0 rfl) ?_
        refine va_get (D := (dC, dI)) (ci := 0) (v := .ref ((a 20))) (C := rn_M) (T := fn_M) (N := 91) hx hb hg in_M hown hK hP 0 rfl rfl 20 (by decide) (hg _ wn_8_93) (fun _ h9 => h9) rfl dn_M_signal_55 ?_
        refine lv_aload_n hx hb dn_M_signal_58 rfl (lv_at hl 0 rfl) ?_
        refine va_get (D := (dC, dI)) (ci := 0) (v := .ref ((a 64))) (C := rn_M) (T := fn_M) (N := 91) hx hb hg in_M hown hK hP 0 rfl rfl 64 (by decide) (hg _ wn_8_137) (fun _ h9 => h9) rfl dn_M_signal_59 ?_
        refine lv_iload_n hx hb dn_M_signal_62 rfl (lv_at hl 1 rfl) ?_
        obtain ⟨hg_1, hf⟩ := dc_g hf
        refine va_iald hx hb hK hP 44 0 rfl rfl hg_1 dn_M_signal_63 ?_
        refine xk_ti (y := ((s.1 64) (Int32.toNatClampNeg x1))) rfl ?_
        obtain ⟨hg_2, hf⟩ := dc_g hf
        refine va_iald hx hb hK hP 11 0 rfl rfl hg_2 dn_M_signal_64 ?_
        refine xk_ti (y := ((s.1 20) (Int32.toNatClampNeg (((s.1 64) (Int32.toNatClampNeg x1)))))) rfl ?_
        refine lv_goto (tgt := 97) hx hb dn_M_signal_65 (by decide) ?_
        rw [hQQ, ← Option.some.inj hf]
        exact xk_iret (w1 := fun u : Unit => (wM h0 a cI cB cJ cZ (upI s 0 (fun _ => t0)))) () hx hb hr hlocks hK hS dn_M_signal_97 hP hD rfl (Nat.le_refl _) (Nat.le_refl _)
    · have hf := (if_neg h).symm.trans hf
      refine lv_iconst (v := 0) hx hb dn_M_signal_48 (by decide) ?_
      rw [hQQ, ← Option.some.inj hf]
      exact xk_iret (w1 := fun u : Unit => (wM h0 a cI cB cJ cZ (upI s 0 (fun _ => t0)))) () hx hb hr hlocks hK hS dn_M_signal_49 hP hD rfl (Nat.le_refl _) (Nat.le_refl _)
  have bl_33 : ∀ (x1 : Int32) (x2 : Int32) (s : ms), bk_M_signal_33 N x1 x2 s = some y → dcC p l e ({ frames := 2, cells := 0, slots := 0, locals := 43 }) s0 m [.ref h0, .int v1, .int v2].toArray below meth c QQ (dC, dI) A (wM h0 a cI cB cJ cZ s) 33 3 [(0, .ref h0), (1, .int x1), (2, .int x2)] [.ref h0] := by
    intro x1 x2 s hf H locs ls hP hD hS hl
    unfold bk_M_signal_33 at hf
    refine lv_iconst (v := 3) hx hb dn_M_signal_33 (by decide) ?_
    refine lv_goto (tgt := 38) hx hb dn_M_signal_34 (by decide) ?_
    exact bl_38 x1 x2 3 s hf H locs ls hP hD hS hl
  intro H locs ls hP hD hS hl
  unfold fn_M_signal at hf
  refine lv_aload_n hx hb dn_M_signal_0 rfl (lv_at hl 0 rfl) ?_
  refine lv_aload_n hx hb dn_M_signal_1 rfl (lv_at hl 0 rfl) ?_
  refine va_get (D := (dC, dI)) (ci := 0) (v := .int ((s.1 54 0))) (C := rn_M) (T := fn_M) (N := 91) hx hb hg in_M hown hK hP 0 rfl rfl 54 (by decide) (hg _ wn_8_127) (fun _ h9 => h9) rfl dn_M_signal_2 ?_
  refine lv_if_ne (tgt := 12) hx hb dn_M_signal_5 (by decide) (fun h => ?_) (fun h => ?_)
  · have hf := (if_neg h).symm.trans hf
    refine lv_aload_n hx hb dn_M_signal_12 rfl (lv_at hl 0 rfl) ?_
    refine lv_iload_n hx hb dn_M_signal_13 rfl (lv_at hl 1 rfl) ?_
    obtain ⟨q_1, hc_2, hf⟩ := dc_b hf
    refine dc_calli (dc_runV (ar := 1) (As := [.int v1]) (rest := [.ref h0]) (ci := 0) (q0 := 0) ⟨hx, hb, hml, hown, hg⟩ hK hN hT hS hA (ct_M_isSignal l dC dI cI cB cJ cZ cQ N H.size h0 a v1 s q_1 hc_2) hP hD rfl rfl wn_11_31 wn_11_33 sn_M_isSignal wn_1_13 wn_11_34 rfl rfl (by decide +kernel) ⟨Nat.le_of_ble_eq_true rfl, Nat.le_of_ble_eq_true rfl⟩ rfl hl.1 rfl (Nat.le_of_ble_eq_true rfl) dn_M_signal_14 ⟨Nat.le_of_ble_eq_true rfl, Nat.le_of_ble_eq_true rfl⟩) hP hD hS hA (fun r_3 _ H locs hw hP hD hS => ?_)
    have hw : r_3 = q_1.1 := hw
    subst hw
    refine lv_if_ne (tgt := 24) hx hb dn_M_signal_17 (by decide) (fun h => ?_) (fun h => ?_)
    · have hf := (if_neg h).symm.trans hf
      refine lv_iload_n hx hb dn_M_signal_24 rfl (lv_at hl 2 rfl) ?_
      refine lv_if_lt (tgt := 33) hx hb dn_M_signal_25 (by decide) (fun h => ?_) (fun h => ?_)
      · have hf := (if_pos h).symm.trans hf
        exact bl_33 v1 v2 q_1.2 hf H locs ls hP hD hS hl
      · have hf := (if_neg h).symm.trans hf
        refine lv_iload_n hx hb dn_M_signal_28 rfl (lv_at hl 2 rfl) ?_
        refine lv_iconst (v := 2) hx hb dn_M_signal_29 (by decide) ?_
        refine lv_icmp_le (tgt := 37) hx hb dn_M_signal_30 (by decide) (fun h => ?_) (fun h => ?_)
        · have hf := (if_pos h).symm.trans hf
          refine lv_iconst (v := 0) hx hb dn_M_signal_37 (by decide) ?_
          exact bl_38 v1 v2 0 q_1.2 hf H locs ls hP hD hS hl
        · have hf := (if_neg h).symm.trans hf
          exact bl_33 v1 v2 q_1.2 hf H locs ls hP hD hS hl
    · have hf := (if_pos h).symm.trans hf
      refine lv_iconst (v := 2) hx hb dn_M_signal_20 (by decide) ?_
      refine lv_goto (tgt := 38) hx hb dn_M_signal_21 (by decide) ?_
      exact bl_38 v1 v2 2 q_1.2 hf H locs ls hP hD hS hl
  · have hf := (if_pos h).symm.trans hf
    refine lv_iconst (v := 1) hx hb dn_M_signal_8 (by decide) ?_
    refine lv_goto (tgt := 38) hx hb dn_M_signal_9 (by decide) ?_
    exact bl_38 v1 v2 1 s hf H locs ls hP hD hS hl
