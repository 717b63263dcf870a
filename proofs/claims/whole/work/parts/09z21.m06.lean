theorem mn_M_here (N : Nat) (v1 : Int32) (s : ms) (y : (Int32 × ms)) (hf : fn_M_here N v1 s = some y) : gl y.2 = gl s := by
  unfold fn_M_here at hf
  have hm : gl s = gl s := rfl
  obtain ⟨_, hf⟩ := dc_g hf
  obtain ⟨q_2, hc_3, hf⟩ := dc_b hf
  have hm := (mn_M_signalNamed N v1 (((s.1 14) (Int32.toNatClampNeg ((s.1 12 0))))) ((s.1 18 0)) s q_2 hc_3).trans hm
  exact (dc_e hf).trans hm
set_option maxHeartbeats 8000000 in
set_option maxRecDepth 100000 in
theorem ct_M_here (l : Launch) (dC : Nat → ClassId) (dI : Nat → Nat → Nat) (cI cB cJ cZ cQ : ClassId) (N sz : Nat) (h0 : Nat) (a : Nat → Nat) (v1 : Int32) (s : ms) (y : (Int32 × ms)) (hf : fn_M_here N v1 s = some y) : Met l yn_M_here (xw yn_M_here bn_M_here 2 (some .int)) ({ frames := 2, cells := 0, slots := 0, locals := 48 }) (dc_P (dC, dI) xcl (xt cI cB cJ cZ cQ) [.ref h0, .int v1] sz (wM h0 a cI cB cJ cZ s)) (xk_Qi (dC, dI) xcl (xt cI cB cJ cZ cQ) (fun (r : Int32) (_ : Unit) => r = y.1) (fun u : Unit => (wM h0 a cI cB cJ cZ y.2)) (va_A (wM h0 a cI cB cJ cZ s) sz)) 0 0 (va_A (wM h0 a cI cB cJ cZ s) sz) := by
  refine dc_of (QA := xk_Qi (dC, dI) xcl (xt cI cB cJ cZ cQ) (fun (r : Int32) (_ : Unit) => r = y.1) (fun u : Unit => (wM h0 a cI cB cJ cZ y.2))) (by decide) (Nat.le_of_ble_eq_true rfl) ?_
  intro p e s0 m below meth c hx hb hml hown hg hr hlocks hin hP hK hN A hA hD hT ls hl
  have hown : s0.vm.findClass rn_M = some m.cls := hown
  obtain ⟨H, hH⟩ : ∃ z, z = s0.heap := ⟨_, rfl⟩
  rw [← hH] at hP
  have hS : va_S A s0.heap H [] := by rw [hH]; exact va_S.rf
  suffices kk : ∀ QQ : State → Prop, QQ = MQ below (xk_Qi (dC, dI) xcl (xt cI cB cJ cZ cQ) (fun (r : Int32) (_ : Unit) => r = y.1) (fun u : Unit => (wM h0 a cI cB cJ cZ y.2)) A) [.ref h0, .int v1].toArray s0 0 0 A → dcC p l e ({ frames := 2, cells := 0, slots := 0, locals := 48 }) s0 m [.ref h0, .int v1].toArray below meth c QQ (dC, dI) A (wM h0 a cI cB cJ cZ s) 0 2 [(0, .ref h0), (1, .int v1)] [] by
    have k9 := kk _ rfl H [] ls hP hD hS hl
    rw [hH] at k9; exact k9
  clear hP hD hS hl hH H ls
  intro QQ hQQ
  intro H locs ls hP hD hS hl
  unfold fn_M_here at hf
  refine lv_aload_n hx hb dn_M_here_0 rfl (lv_at hl 0 rfl) ?_
  refine lv_iload_n hx hb dn_M_here_1 rfl (lv_at hl 1 rfl) ?_
  refine lv_aload_n hx hb dn_M_here_2 rfl (lv_at hl 0 rfl) ?_
  refine va_get (D := (dC, dI)) (ci := 0) (v := .ref ((a 14))) (C := rn_M) (T := fn_M) (N := 91) hx hb hg in_M hown hK hP 0 rfl rfl 14 (by decide) (hg _ wn_8_87) (fun _ h9 => h9) rfl dn_M_here_3 ?_
  refine lv_aload_n hx hb dn_M_here_6 rfl (lv_at hl 0 rfl) ?_
  refine va_get (D := (dC, dI)) (ci := 0) (v := .int ((s.1 12 0))) (C := rn_M) (T := fn_M) (N := 91) hx hb hg in_M hown hK hP 0 rfl rfl 12 (by decide) (hg _ wn_8_85) (fun _ h9 => h9) rfl dn_M_here_7 ?_
  obtain ⟨hg_1, hf⟩ := dc_g hf
  refine va_iald hx hb hK hP 6 0 rfl rfl hg_1 dn_M_here_10 ?_
  refine xk_ti (y := ((s.1 14) (Int32.toNatClampNeg ((s.1 12 0))))) rfl ?_
  refine lv_aload_n hx hb dn_M_here_11 rfl (lv_at hl 0 rfl) ?_
  refine va_get (D := (dC, dI)) (ci := 0) (v := .int ((s.1 18 0))) (C := rn_M) (T := fn_M) (N := 91) hx hb hg in_M hown hK hP 0 rfl rfl 18 (by decide) (hg _ wn_8_91) (fun _ h9 => h9) rfl dn_M_here_12 ?_
  obtain ⟨q_2, hc_3, hf⟩ := dc_b hf
  refine dc_calli (dc_runV (ar := 3) (As := [.int v1, .int (((s.1 14) (Int32.toNatClampNeg ((s.1 12 0))))), .int ((s.1 18 0))]) (rest := []) (ci := 0) (q0 := 0) ⟨hx, hb, hml, hown, hg⟩ hK hN hT hS hA (ct_M_signalNamed l dC dI cI cB cJ cZ cQ N H.size h0 a v1 (((s.1 14) (Int32.toNatClampNeg ((s.1 12 0))))) ((s.1 18 0)) s q_2 hc_3) hP hD rfl rfl wn_10_53 wn_10_55 sn_M_signalNamed wn_1_13 wn_10_56 rfl rfl (by decide +kernel) ⟨Nat.le_of_ble_eq_true rfl, Nat.le_of_ble_eq_true rfl⟩ rfl hl.1 rfl (Nat.le_of_ble_eq_true rfl) dn_M_here_15 ⟨Nat.le_of_ble_eq_true rfl, Nat.le_of_ble_eq_true rfl⟩) hP hD hS hA (fun r_4 _ H locs hw hP hD hS => ?_)
  have hw : r_4 = q_2.1 := hw
  subst hw
  rw [hQQ, ← Option.some.inj hf]
  exact xk_iret (w1 := fun u : Unit => (wM h0 a cI cB cJ cZ q_2.2)) () hx hb hr hlocks hK hS dn_M_here_18 hP hD rfl (Nat.le_refl _) (Nat.le_refl _)
theorem mo_M_isInstanceName_38 (N : Nat) (k_12 : Int32 → Int32 → Int32 → ms → Option (Int32 × ms)) (y : (Int32 × ms)) (hkm_12 : ∀ (x1 : Int32) (x2 : Int32) (x3 : Int32) (s : ms), k_12 x1 x2 x3 s = some y → gl y.2 = gl s) (x1 : Int32) (x3 : Int32) (s : ms) (hf : bk_M_isInstanceName_38 N k_12 x1 x3 s = some y) : gl y.2 = gl s := by
  unfold bk_M_isInstanceName_38 at hf
  have hm : gl s = gl s := rfl
  exact (hkm_12 x1 1 ((x3 + 1)) s hf).trans hm
theorem mb_M_isInstanceName_12 (N : Nat) (y : (Int32 × ms)) (k_12 : Int32 → Int32 → Int32 → ms → Option (Int32 × ms)) (hkm_12 : ∀ (x1 : Int32) (x2 : Int32) (x3 : Int32) (s : ms), k_12 x1 x2 x3 s = some y → gl y.2 = gl s) (x1 : Int32) (x2 : Int32) (x3 : Int32) (s : ms) (hf : bd_M_isInstanceName_12 N k_12 x1 x2 x3 s = some y) : gl y.2 = gl s := by
  unfold bd_M_isInstanceName_12 at hf
  have hm : gl s = gl s := rfl
  by_cases h : (s.1 27 0) ≤ x3
  · have hf := (if_pos h).symm.trans hf
    obtain ⟨_, hf⟩ := dc_g hf
    exact (dc_e hf).trans hm
  · have hf := (if_neg h).symm.trans hf
    by_cases h : x2 = 0
    · have hf := (if_pos h).symm.trans hf
      obtain ⟨_, hf⟩ := dc_g hf
      obtain ⟨q_2, hc_3, hf⟩ := dc_b hf
      have hm := (mn_M_sameToken N (((s.1 29) (Int32.toNatClampNeg x3))) x1 s q_2 hc_3).trans hm
      by_cases h : q_2.1 = 0
      · have hf := (if_pos h).symm.trans hf
        exact (hkm_12 x1 0 ((x3 + 1)) q_2.2 hf).trans hm
      · have hf := (if_neg h).symm.trans hf
        exact (mo_M_isInstanceName_38 N k_12 y hkm_12 x1 x3 q_2.2 hf).trans hm
    · have hf := (if_neg h).symm.trans hf
      exact (mo_M_isInstanceName_38 N k_12 y hkm_12 x1 x3 s hf).trans hm
theorem mh_M_isInstanceName_12 (N : Nat) (y : (Int32 × ms)) : ∀ (n : Nat) (x1 : Int32) (x2 : Int32) (x3 : Int32) (s : ms), hd_M_isInstanceName_12 N n x1 x2 x3 s = some y → gl y.2 = gl s := by
  intro n
  induction n with
  | zero => intro x1 x2 x3 s hf; cases hf
  | succ n ih => intro x1 x2 x3 s hf; exact mb_M_isInstanceName_12 N y (hd_M_isInstanceName_12 N n) ih x1 x2 x3 s hf
theorem mn_M_isInstanceName (N : Nat) (v1 : Int32) (s : ms) (y : (Int32 × ms)) (hf : fn_M_isInstanceName N v1 s = some y) : gl y.2 = gl s := by
  unfold fn_M_isInstanceName at hf
  have hm : gl s = gl s := rfl
  obtain ⟨_, hf⟩ := dc_g hf
  exact (mh_M_isInstanceName_12 N y N v1 0 (((s.1 15) (Int32.toNatClampNeg ((s.1 12 0))))) s hf).trans hm
set_option maxHeartbeats 8000000 in
set_option maxRecDepth 100000 in
theorem ct_M_isInstanceName (l : Launch) (dC : Nat → ClassId) (dI : Nat → Nat → Nat) (cI cB cJ cZ cQ : ClassId) (N sz : Nat) (h0 : Nat) (a : Nat → Nat) (v1 : Int32) (s : ms) (y : (Int32 × ms)) (hf : fn_M_isInstanceName N v1 s = some y) : Met l yn_M_isInstanceName (xw yn_M_isInstanceName bn_M_isInstanceName 4 (some .boolean)) ({ frames := 1, cells := 0, slots := 0, locals := 24 }) (dc_P (dC, dI) xcl (xt cI cB cJ cZ cQ) [.ref h0, .int v1] sz (wM h0 a cI cB cJ cZ s)) (xk_Qi (dC, dI) xcl (xt cI cB cJ cZ cQ) (fun (r : Int32) (_ : Unit) => r = y.1) (fun u : Unit => (wM h0 a cI cB cJ cZ y.2)) (va_A (wM h0 a cI cB cJ cZ s) sz)) 0 0 (va_A (wM h0 a cI cB cJ cZ s) sz) := by
  refine dc_of (QA := xk_Qi (dC, dI) xcl (xt cI cB cJ cZ cQ) (fun (r : Int32) (_ : Unit) => r = y.1) (fun u : Unit => (wM h0 a cI cB cJ cZ y.2))) (by decide) (Nat.le_of_ble_eq_true rfl) ?_
  intro p e s0 m below meth c hx hb hml hown hg hr hlocks hin hP hK hN A hA hD hT ls hl
  have hown : s0.vm.findClass rn_M = some m.cls := hown
  obtain ⟨H, hH⟩ : ∃ z, z = s0.heap := ⟨_, rfl⟩
  rw [← hH] at hP
  have hS : va_S A s0.heap H [] := by rw [hH]; exact va_S.rf
  suffices kk : ∀ QQ : State → Prop, QQ = MQ below (xk_Qi (dC, dI) xcl (xt cI cB cJ cZ cQ) (fun (r : Int32) (_ : Unit) => r = y.1) (fun u : Unit => (wM h0 a cI cB cJ cZ y.2)) A) [.ref h0, .int v1].toArray s0 0 0 A → dcC p l e ({ frames := 1, cells := 0, slots := 0, locals := 24 }) s0 m [.ref h0, .int v1].toArray below meth c QQ (dC, dI) A (wM h0 a cI cB cJ cZ s) 0 4 [(0, .ref h0), (1, .int v1)] [] by
    have k9 := kk _ rfl H [] ls hP hD hS hl
    rw [hH] at k9; exact k9
  clear hP hD hS hl hH H ls
  intro QQ hQQ
  have bl_38 : ∀ (k_12 : Int32 → Int32 → Int32 → ms → Option (Int32 × ms)) (hk_12 : ∀ (x1 : Int32) (x2 : Int32) (x3 : Int32) (s : ms), k_12 x1 x2 x3 s = some y → dcC p l e ({ frames := 1, cells := 0, slots := 0, locals := 24 }) s0 m [.ref h0, .int v1].toArray below meth c QQ (dC, dI) A (wM h0 a cI cB cJ cZ s) 12 4 [(0, .ref h0), (1, .int x1), (2, .int x2), (3, .int x3)] []) (x1 : Int32) (x3 : Int32) (s : ms), bk_M_isInstanceName_38 N k_12 x1 x3 s = some y → dcC p l e ({ frames := 1, cells := 0, slots := 0, locals := 24 }) s0 m [.ref h0, .int v1].toArray below meth c QQ (dC, dI) A (wM h0 a cI cB cJ cZ s) 38 4 [(0, .ref h0), (1, .int x1), (3, .int x3)] [] := by
    intro k_12 hk_12 x1 x3 s hf H locs ls hP hD hS hl
    unfold bk_M_isInstanceName_38 at hf
    refine lv_iconst (v := 1) hx hb dn_M_isInstanceName_38 (by decide) ?_
    refine lv_goto (tgt := 43) hx hb dn_M_isInstanceName_39 (by decide) ?_
    refine lv_istore_n (lv' := [(2, .int 1), (0, .ref h0), (1, .int x1), (3, .int x3)]) hx hb dn_M_isInstanceName_43 rfl hl (by decide) rfl (fun ls hl => ?_)
    refine lv_iinc (v := (x3 + 1)) (lv' := [(3, .int ((x3 + 1))), (2, .int 1), (0, .ref h0), (1, .int x1)]) hx hb dn_M_isInstanceName_44 hl (k := 3) rfl (dc_inc (by decide)) (by decide) rfl (fun ls hl => ?_)
    refine lv_goto (tgt := 12) hx hb dn_M_isInstanceName_47 (by decide) ?_
    exact hk_12 x1 1 ((x3 + 1)) s hf H locs ls hP hD hS (lv_sub hl [2, 3, 1, 0] rfl)
  have hd_12 : ∀ (n : Nat) (x1 : Int32) (x2 : Int32) (x3 : Int32) (s : ms), hd_M_isInstanceName_12 N n x1 x2 x3 s = some y → dcC p l e ({ frames := 1, cells := 0, slots := 0, locals := 24 }) s0 m [.ref h0, .int v1].toArray below meth c QQ (dC, dI) A (wM h0 a cI cB cJ cZ s) 12 4 [(0, .ref h0), (1, .int x1), (2, .int x2), (3, .int x3)] [] := by
    intro n
    induction n with
    | zero => intro x1 x2 x3 s hf; cases hf
    | succ n ih =>
      intro x1 x2 x3 s hf H locs ls hP hD hS hl
      have hf : bd_M_isInstanceName_12 N (hd_M_isInstanceName_12 N n) x1 x2 x3 s = some y := hf
      have hk_12 := ih
      generalize hd_M_isInstanceName_12 N n = k_12 at hf hk_12
      unfold bd_M_isInstanceName_12 at hf
      refine lv_iload_n hx hb dn_M_isInstanceName_12 rfl (lv_at hl 3 rfl) ?_
      refine lv_aload_n hx hb dn_M_isInstanceName_13 rfl (lv_at hl 0 rfl) ?_
      refine va_get (D := (dC, dI)) (ci := 0) (v := .int ((s.1 27 0))) (C := rn_M) (T := fn_M) (N := 91) hx hb hg in_M hown hK hP 0 rfl rfl 27 (by decide) (hg _ wn_8_100) (fun _ h9 => h9) rfl dn_M_isInstanceName_14 ?_
      refine lv_icmp_ge (tgt := 50) hx hb dn_M_isInstanceName_17 (by decide) (fun h => ?_) (fun h => ?_)
      · have hf := (if_pos h).symm.trans hf
        refine lv_iload_n hx hb dn_M_isInstanceName_50 rfl (lv_at hl 2 rfl) ?_
        obtain ⟨hg_1, hf⟩ := dc_g hf
        rw [hQQ, ← Option.some.inj hf]
        exact xk_zret (w1 := fun u : Unit => (wM h0 a cI cB cJ cZ s)) () hx hb hr (dc_z hg_1) hlocks hK hS dn_M_isInstanceName_51 hP hD rfl (Nat.le_refl _) (Nat.le_refl _)
      · have hf := (if_neg h).symm.trans hf
        refine lv_iload_n hx hb dn_M_isInstanceName_20 rfl (lv_at hl 2 rfl) ?_
        refine lv_if_ne (tgt := 38) hx hb dn_M_isInstanceName_21 (by decide) (fun h => ?_) (fun h => ?_)
        · have hf := (if_neg h).symm.trans hf
          exact bl_38 k_12 hk_12 x1 x3 s hf H locs ls hP hD hS (lv_sub hl [0, 1, 3] rfl)
        · have hf := (if_pos h).symm.trans hf
          refine lv_aload_n hx hb dn_M_isInstanceName_24 rfl (lv_at hl 0 rfl) ?_
          refine lv_aload_n hx hb dn_M_isInstanceName_25 rfl (lv_at hl 0 rfl) ?_
          refine va_get (D := (dC, dI)) (ci := 0) (v := .ref ((a 29))) (C := rn_M) (T := fn_M) (N := 91) hx hb hg in_M hown hK hP 0 rfl rfl 29 (by decide) (hg _ wn_8_102) (fun _ h9 => h9) rfl dn_M_isInstanceName_26 ?_
          refine lv_iload_n hx hb dn_M_isInstanceName_29 rfl (lv_at hl 3 rfl) ?_
          obtain ⟨hg_1, hf⟩ := dc_g hf
          refine va_iald hx hb hK hP 19 0 rfl rfl hg_1 dn_M_isInstanceName_30 ?_
          refine xk_ti (y := ((s.1 29) (Int32.toNatClampNeg x3))) rfl ?_
          refine lv_iload_n hx hb dn_M_isInstanceName_31 rfl (lv_at hl 1 rfl) ?_
          obtain ⟨q_2, hc_3, hf⟩ := dc_b hf
          refine dc_calli (dc_runV (ar := 2) (As := [.int (((s.1 29) (Int32.toNatClampNeg x3))), .int x1]) (rest := []) (ci := 0) (q0 := 0) ⟨hx, hb, hml, hown, hg⟩ hK hN hT hS hA (ct_M_sameToken l dC dI cI cB cJ cZ cQ N H.size h0 a (((s.1 29) (Int32.toNatClampNeg x3))) x1 s q_2 hc_3) hP hD rfl rfl wn_10_28 wn_10_30 sn_M_sameToken wn_1_13 wn_10_31 rfl rfl (by decide +kernel) ⟨Nat.le_of_ble_eq_true rfl, Nat.le_of_ble_eq_true rfl⟩ rfl hl.1 rfl (Nat.le_of_ble_eq_true rfl) dn_M_isInstanceName_32 ⟨Nat.le_of_ble_eq_true rfl, Nat.le_of_ble_eq_true rfl⟩) hP hD hS hA (fun r_4 _ H locs hw hP hD hS => ?_)
          have hw : r_4 = q_2.1 := hw
          subst hw
          refine lv_if_eq (tgt := 42) hx hb dn_M_isInstanceName_35 (by decide) (fun h => ?_) (fun h => ?_)
          · have hf := (if_pos h).symm.trans hf
            refine lv_iconst (v := 0) hx hb dn_M_isInstanceName_42 (by decide) ?_
            refine lv_istore_n (lv' := [(2, .int 0), (0, .ref h0), (1, .int x1), (3, .int x3)]) hx hb dn_M_isInstanceName_43 rfl hl (by decide) rfl (fun ls hl => ?_)
            refine lv_iinc (v := (x3 + 1)) (lv' := [(3, .int ((x3 + 1))), (2, .int 0), (0, .ref h0), (1, .int x1)]) hx hb dn_M_isInstanceName_44 hl (k := 3) rfl (dc_inc (by decide)) (by decide) rfl (fun ls hl => ?_)
            refine lv_goto (tgt := 12) hx hb dn_M_isInstanceName_47 (by decide) ?_
            exact hk_12 x1 0 ((x3 + 1)) q_2.2 hf H locs ls hP hD hS (lv_sub hl [2, 3, 1, 0] rfl)
          · have hf := (if_neg h).symm.trans hf
            exact bl_38 k_12 hk_12 x1 x3 q_2.2 hf H locs ls hP hD hS (lv_sub hl [0, 1, 3] rfl)
  intro H locs ls hP hD hS hl
  unfold fn_M_isInstanceName at hf
  refine lv_iconst (v := 0) hx hb dn_M_isInstanceName_0 (by decide) ?_
  refine lv_istore_n (lv' := [(2, .int 0), (0, .ref h0), (1, .int v1)]) hx hb dn_M_isInstanceName_1 rfl hl (by decide) rfl (fun ls hl => ?_)
  refine lv_aload_n hx hb dn_M_isInstanceName_2 rfl (lv_at hl 1 rfl) ?_
  refine va_get (D := (dC, dI)) (ci := 0) (v := .ref ((a 15))) (C := rn_M) (T := fn_M) (N := 91) hx hb hg in_M hown hK hP 0 rfl rfl 15 (by decide) (hg _ wn_8_88) (fun _ h9 => h9) rfl dn_M_isInstanceName_3 ?_
  refine lv_aload_n hx hb dn_M_isInstanceName_6 rfl (lv_at hl 1 rfl) ?_
  refine va_get (D := (dC, dI)) (ci := 0) (v := .int ((s.1 12 0))) (C := rn_M) (T := fn_M) (N := 91) hx hb hg in_M hown hK hP 0 rfl rfl 12 (by decide) (hg _ wn_8_85) (fun _ h9 => h9) rfl dn_M_isInstanceName_7 ?_
  obtain ⟨hg_1, hf⟩ := dc_g hf
  refine va_iald hx hb hK hP 7 0 rfl rfl hg_1 dn_M_isInstanceName_10 ?_
  refine xk_ti (y := ((s.1 15) (Int32.toNatClampNeg ((s.1 12 0))))) rfl ?_
  refine lv_istore_n (lv' := [(3, .int (((s.1 15) (Int32.toNatClampNeg ((s.1 12 0)))))), (2, .int 0), (0, .ref h0), (1, .int v1)]) hx hb dn_M_isInstanceName_11 rfl hl (by decide) rfl (fun ls hl => ?_)
  exact hd_12 N v1 0 (((s.1 15) (Int32.toNatClampNeg ((s.1 12 0))))) s hf H locs ls hP hD hS (lv_sub hl [2, 3, 1, 0] rfl)
theorem mb_M_widthOfNumber_9 (N : Nat) (y : (Int32 × ms)) (k_9 : Int32 → Int32 → ms → Option (Int32 × ms)) (hkm_9 : ∀ (x2 : Int32) (x3 : Int32) (s : ms), k_9 x2 x3 s = some y → gl y.2 = gl s) (x2 : Int32) (x3 : Int32) (s : ms) (hf : bd_M_widthOfNumber_9 N k_9 x2 x3 s = some y) : gl y.2 = gl s := by
  unfold bd_M_widthOfNumber_9 at hf
  have hm : gl s = gl s := rfl
  obtain ⟨q_1, hc_2, hf⟩ := dc_b hf
  have hm := (mn_M_at N x2 s q_1 hc_2).trans hm
  obtain ⟨q_4, hc_5, hf⟩ := dc_b hf
  have hm := (mn_M_isDigit N q_1.1 q_1.2 q_4 hc_5).trans hm
  by_cases h : q_4.1 = 0
  · have hf := (if_pos h).symm.trans hf
    exact (dc_e hf).trans hm
  · have hf := (if_neg h).symm.trans hf
    obtain ⟨q_7, hc_8, hf⟩ := dc_b hf
    have hm := (mn_M_at N x2 q_4.2 q_7 hc_8).trans hm
    exact (hkm_9 ((x2 + 1)) ((((x3 * 10) + q_7.1) - 48)) q_7.2 hf).trans hm
theorem mh_M_widthOfNumber_9 (N : Nat) (y : (Int32 × ms)) : ∀ (n : Nat) (x2 : Int32) (x3 : Int32) (s : ms), hd_M_widthOfNumber_9 N n x2 x3 s = some y → gl y.2 = gl s := by
  intro n
  induction n with
  | zero => intro x2 x3 s hf; cases hf
  | succ n ih => intro x2 x3 s hf; exact mb_M_widthOfNumber_9 N y (hd_M_widthOfNumber_9 N n) ih x2 x3 s hf
theorem mn_M_widthOfNumber (N : Nat) (v1 : Int32) (s : ms) (y : (Int32 × ms)) (hf : fn_M_widthOfNumber N v1 s = some y) : gl y.2 = gl s := by
  unfold fn_M_widthOfNumber at hf
  have hm : gl s = gl s := rfl
  obtain ⟨_, hf⟩ := dc_g hf
  exact (mh_M_widthOfNumber_9 N y N (((s.1 5) (Int32.toNatClampNeg v1))) 0 s hf).trans hm
set_option maxHeartbeats 8000000 in
set_option maxRecDepth 100000 in
theorem ct_M_widthOfNumber (l : Launch) (dC : Nat → ClassId) (dI : Nat → Nat → Nat) (cI cB cJ cZ cQ : ClassId) (N sz : Nat) (h0 : Nat) (a : Nat → Nat) (v1 : Int32) (s : ms) (y : (Int32 × ms)) (hf : fn_M_widthOfNumber N v1 s = some y) : Met l yn_M_widthOfNumber (xw yn_M_widthOfNumber bn_M_widthOfNumber 4 (some .int)) ({ frames := 1, cells := 0, slots := 0, locals := 21 }) (dc_P (dC, dI) xcl (xt cI cB cJ cZ cQ) [.ref h0, .int v1] sz (wM h0 a cI cB cJ cZ s)) (xk_Qi (dC, dI) xcl (xt cI cB cJ cZ cQ) (fun (r : Int32) (_ : Unit) => r = y.1) (fun u : Unit => (wM h0 a cI cB cJ cZ y.2)) (va_A (wM h0 a cI cB cJ cZ s) sz)) 0 0 (va_A (wM h0 a cI cB cJ cZ s) sz) := by
  refine dc_of (QA := xk_Qi (dC, dI) xcl (xt cI cB cJ cZ cQ) (fun (r : Int32) (_ : Unit) => r = y.1) (fun u : Unit => (wM h0 a cI cB cJ cZ y.2))) (by decide) (Nat.le_of_ble_eq_true rfl) ?_
  intro p e s0 m below meth c hx hb hml hown hg hr hlocks hin hP hK hN A hA hD hT ls hl
  have hown : s0.vm.findClass rn_M = some m.cls := hown
  obtain ⟨H, hH⟩ : ∃ z, z = s0.heap := ⟨_, rfl⟩
  rw [← hH] at hP
  have hS : va_S A s0.heap H [] := by rw [hH]; exact va_S.rf
  suffices kk : ∀ QQ : State → Prop, QQ = MQ below (xk_Qi (dC, dI) xcl (xt cI cB cJ cZ cQ) (fun (r : Int32) (_ : Unit) => r = y.1) (fun u : Unit => (wM h0 a cI cB cJ cZ y.2)) A) [.ref h0, .int v1].toArray s0 0 0 A → dcC p l e ({ frames := 1, cells := 0, slots := 0, locals := 21 }) s0 m [.ref h0, .int v1].toArray below meth c QQ (dC, dI) A (wM h0 a cI cB cJ cZ s) 0 4 [(0, .ref h0), (1, .int v1)] [] by
    have k9 := kk _ rfl H [] ls hP hD hS hl
    rw [hH] at k9; exact k9
  clear hP hD hS hl hH H ls
  intro QQ hQQ
  have hd_9 : ∀ (n : Nat) (x2 : Int32) (x3 : Int32) (s : ms), hd_M_widthOfNumber_9 N n x2 x3 s = some y → dcC p l e ({ frames := 1, cells := 0, slots := 0, locals := 21 }) s0 m [.ref h0, .int v1].toArray below meth c QQ (dC, dI) A (wM h0 a cI cB cJ cZ s) 9 4 [(0, .ref h0), (2, .int x2), (3, .int x3)] [] := by
    intro n
    induction n with
    | zero => intro x2 x3 s hf; cases hf
    | succ n ih =>
      intro x2 x3 s hf H locs ls hP hD hS hl
      have hf : bd_M_widthOfNumber_9 N (hd_M_widthOfNumber_9 N n) x2 x3 s = some y := hf
      have hk_9 := ih
      generalize hd_M_widthOfNumber_9 N n = k_9 at hf hk_9
      unfold bd_M_widthOfNumber_9 at hf
      refine lv_aload_n hx hb dn_M_widthOfNumber_9 rfl (lv_at hl 0 rfl) ?_
      refine lv_iload_n hx hb dn_M_widthOfNumber_10 rfl (lv_at hl 1 rfl) ?_
      obtain ⟨q_1, hc_2, hf⟩ := dc_b hf
      refine dc_calli (dc_runV (ar := 1) (As := [.int x2]) (rest := []) (ci := 0) (q0 := 0) ⟨hx, hb, hml, hown, hg⟩ hK hN hT hS hA (ct_M_at l dC dI cI cB cJ cZ cQ N H.size h0 a x2 s q_1 hc_2) hP hD rfl rfl wn_9_128 wn_9_130 sn_M_at wn_1_13 wn_9_131 rfl rfl (by decide +kernel) ⟨Nat.le_of_ble_eq_true rfl, Nat.le_of_ble_eq_true rfl⟩ rfl hl.1 rfl (Nat.le_of_ble_eq_true rfl) dn_M_widthOfNumber_11 ⟨Nat.le_of_ble_eq_true rfl, Nat.le_of_ble_eq_true rfl⟩) hP hD hS hA (fun r_3 _ H locs hw hP hD hS => ?_)
      have hw : r_3 = q_1.1 := hw
      subst hw
      obtain ⟨q_4, hc_5, hf⟩ := dc_b hf
      refine dc_calli (dc_runS (ar := 1) (As := [.int q_1.1]) (rest := []) ⟨hx, hb, hml, hown, hg⟩ hK hN hT hS hA (ct_M_isDigit l dC dI cI cB cJ cZ cQ N H.size h0 a q_1.1 q_1.2 q_4 hc_5) hP hD wn_9_142 wn_9_143 wn_1_13 wn_9_144 rfl rfl (by decide +kernel) ⟨Nat.le_of_ble_eq_true rfl, Nat.le_of_ble_eq_true rfl⟩ rfl hl.1 rfl (Nat.le_of_ble_eq_true rfl) dn_M_widthOfNumber_14 ⟨Nat.le_of_ble_eq_true rfl, Nat.le_of_ble_eq_true rfl⟩) hP hD hS hA (fun r_6 _ H locs hw hP hD hS => ?_)
      have hw : r_6 = q_4.1 := hw
      subst hw
      refine lv_if_eq (tgt := 40) hx hb dn_M_widthOfNumber_17 (by decide) (fun h => ?_) (fun h => ?_)
      · have hf := (if_pos h).symm.trans hf
        refine lv_iload_n hx hb dn_M_widthOfNumber_40 rfl (lv_at hl 2 rfl) ?_
        rw [hQQ, ← Option.some.inj hf]
        exact xk_iret (w1 := fun u : Unit => (wM h0 a cI cB cJ cZ q_4.2)) () hx hb hr hlocks hK hS dn_M_widthOfNumber_41 hP hD rfl (Nat.le_refl _) (Nat.le_refl _)
      · have hf := (if_neg h).symm.trans hf
        refine lv_iload_n hx hb dn_M_widthOfNumber_20 rfl (lv_at hl 2 rfl) ?_
        refine lv_bipush (v := 10) hx hb dn_M_widthOfNumber_21 (by decide) ?_
        refine lv_imul hx hb dn_M_widthOfNumber_23 ?_
        refine lv_aload_n hx hb dn_M_widthOfNumber_24 rfl (lv_at hl 0 rfl) ?_
        refine lv_iload_n hx hb dn_M_widthOfNumber_25 rfl (lv_at hl 1 rfl) ?_
        obtain ⟨q_7, hc_8, hf⟩ := dc_b hf
        refine dc_calli (dc_runV (ar := 1) (As := [.int x2]) (rest := [.int ((x3 * 10))]) (ci := 0) (q0 := 0) ⟨hx, hb, hml, hown, hg⟩ hK hN hT hS hA (ct_M_at l dC dI cI cB cJ cZ cQ N H.size h0 a x2 q_4.2 q_7 hc_8) hP hD rfl rfl wn_9_128 wn_9_130 sn_M_at wn_1_13 wn_9_131 rfl rfl (by decide +kernel) ⟨Nat.le_of_ble_eq_true rfl, Nat.le_of_ble_eq_true rfl⟩ rfl hl.1 rfl (Nat.le_of_ble_eq_true rfl) dn_M_widthOfNumber_26 ⟨Nat.le_of_ble_eq_true rfl, Nat.le_of_ble_eq_true rfl⟩) hP hD hS hA (fun r_9 _ H locs hw hP hD hS => ?_)
        have hw : r_9 = q_7.1 := hw
        subst hw
        refine lv_iadd hx hb dn_M_widthOfNumber_29 ?_
        refine lv_bipush (v := 48) hx hb dn_M_widthOfNumber_30 (by decide) ?_
        refine lv_isub hx hb dn_M_widthOfNumber_32 ?_
        refine lv_istore_n (lv' := [(3, .int ((((x3 * 10) + q_7.1) - 48))), (0, .ref h0), (2, .int x2)]) hx hb dn_M_widthOfNumber_33 rfl hl (by decide) rfl (fun ls hl => ?_)
        refine lv_iinc (v := (x2 + 1)) (lv' := [(2, .int ((x2 + 1))), (3, .int ((((x3 * 10) + q_7.1) - 48))), (0, .ref h0)]) hx hb dn_M_widthOfNumber_34 hl (k := 2) rfl (dc_inc (by decide)) (by decide) rfl (fun ls hl => ?_)
        refine lv_goto (tgt := 9) hx hb dn_M_widthOfNumber_37 (by decide) ?_
        exact hk_9 ((x2 + 1)) ((((x3 * 10) + q_7.1) - 48)) q_7.2 hf H locs ls hP hD hS (lv_sub hl [2, 0, 1] rfl)
  intro H locs ls hP hD hS hl
  unfold fn_M_widthOfNumber at hf
  refine lv_aload_n hx hb dn_M_widthOfNumber_0 rfl (lv_at hl 0 rfl) ?_
  refine va_get (D := (dC, dI)) (ci := 0) (v := .ref ((a 5))) (C := rn_M) (T := fn_M) (N := 91) hx hb hg in_M hown hK hP 0 rfl rfl 5 (by decide) (hg _ wn_8_78) (fun _ h9 => h9) rfl dn_M_widthOfNumber_1 ?_
  refine lv_iload_n hx hb dn_M_widthOfNumber_4 rfl (lv_at hl 1 rfl) ?_
  obtain ⟨hg_1, hf⟩ := dc_g hf
  refine va_iald hx hb hK hP 3 0 rfl rfl hg_1 dn_M_widthOfNumber_5 ?_
  refine xk_ti (y := ((s.1 5) (Int32.toNatClampNeg v1))) rfl ?_
  refine lv_istore_n (lv' := [(2, .int (((s.1 5) (Int32.toNatClampNeg v1)))), (0, .ref h0), (1, .int v1)]) hx hb dn_M_widthOfNumber_6 rfl hl (by decide) rfl (fun ls hl => ?_)
  refine lv_iconst (v := 0) hx hb dn_M_widthOfNumber_7 (by decide) ?_
  refine lv_istore_n (lv' := [(3, .int 0), (2, .int (((s.1 5) (Int32.toNatClampNeg v1)))), (0, .ref h0), (1, .int v1)]) hx hb dn_M_widthOfNumber_8 rfl hl (by decide) rfl (fun ls hl => ?_)
  exact hd_9 N (((s.1 5) (Int32.toNatClampNeg v1))) 0 s hf H locs ls hP hD hS (lv_sub hl [2, 1, 0] rfl)
theorem mo_M_declare_173 (N : Nat) (y : (Unit × ms)) (s : ms) (hf : bk_M_declare_173 N s = some y) : gl y.2 = gl s := by
  unfold bk_M_declare_173 at hf
  have hm : gl s = gl s := rfl
  obtain ⟨q_1, hc_2, hf⟩ := dc_b hf
  have hm := (mn_M_numberOf N ((s.1 8 0)) s q_1 hc_2).trans hm
  obtain ⟨_, hf⟩ := dc_g hf
  exact (dc_e hf).trans hm
theorem mo_M_declare_44 (N : Nat) (y : (Unit × ms)) (x1 : Int32) (x2 : Int32) (s : ms) (hf : bk_M_declare_44 N x1 x2 s = some y) : gl y.2 = gl s := by
  unfold bk_M_declare_44 at hf
  have hm : gl s = gl s := rfl
  obtain ⟨_, hf⟩ := dc_g hf
  obtain ⟨_, hf⟩ := dc_g hf
  obtain ⟨_, hf⟩ := dc_g hf
  obtain ⟨_, hf⟩ := dc_g hf
  obtain ⟨_, hf⟩ := dc_g hf
  obtain ⟨_, hf⟩ := dc_g hf
  obtain ⟨q_7, hc_8, hf⟩ := dc_b hf
  have hm := (mn_M_is N 61 (upI (upI (upI (upI (upJ (upI (upI (upI s 19 (upd (s.1 19) (Int32.toNatClampNeg ((s.1 18 0))) ((s.1 8 0)))) 20 (upd (s.1 20) (Int32.toNatClampNeg ((s.1 18 0))) x2)) 21 (upd (s.1 21) (Int32.toNatClampNeg ((s.1 18 0))) x1)) 22 (vp_updL (s.2 22) (Int32.toNatClampNeg ((s.1 18 0))) 0)) 23 (upd (s.1 23) (Int32.toNatClampNeg ((s.1 18 0))) 0)) 26 (upd (s.1 26) (Int32.toNatClampNeg ((s.1 18 0))) 0)) 18 (fun _ => ((s.1 18 0) + 1))) 8 (fun _ => ((s.1 8 0) + 1))) q_7 hc_8).trans hm
  by_cases h : q_7.1 = 0
  · have hf := (if_pos h).symm.trans hf
    exact (dc_e hf).trans hm
  · have hf := (if_neg h).symm.trans hf
    obtain ⟨q_10, hc_11, hf⟩ := dc_b hf
    have hm := (mn_M_widthOfNumber N (((q_7.2.1 8 0) + 1)) (upI q_7.2 8 (fun _ => ((q_7.2.1 8 0) + 1))) q_10 hc_11).trans hm
    by_cases h : q_10.1 = x2
    · have hf := (if_pos h).symm.trans hf
      exact (mo_M_declare_173 N y q_10.2 hf).trans hm
    · have hf := (if_neg h).symm.trans hf
      obtain ⟨_, hf⟩ := dc_g hf
      obtain ⟨q_14, hc_15, hf⟩ := dc_b hf
      have hm := (mn_M_fail N 30 (((q_10.2.1 5) (Int32.toNatClampNeg ((q_10.2.1 8 0))))) q_10.2 q_14 hc_15).trans hm
      exact (mo_M_declare_173 N y q_14.2 hf).trans hm
theorem mo_M_declare_29 (N : Nat) (y : (Unit × ms)) (x1 : Int32) (x2 : Int32) (s : ms) (hf : bk_M_declare_29 N x1 x2 s = some y) : gl y.2 = gl s := by
  unfold bk_M_declare_29 at hf
  have hm : gl s = gl s := rfl
  obtain ⟨_, hf⟩ := dc_g hf
  obtain ⟨q_2, hc_3, hf⟩ := dc_b hf
  have hm := (mn_M_fail N 21 (((s.1 5) (Int32.toNatClampNeg ((s.1 8 0))))) s q_2 hc_3).trans hm
  exact (mo_M_declare_44 N y x1 x2 q_2.2 hf).trans hm
theorem mn_M_declare (N : Nat) (v1 : Int32) (v2 : Int32) (s : ms) (y : (Unit × ms)) (hf : fn_M_declare N v1 v2 s = some y) : gl y.2 = gl s := by
  unfold fn_M_declare at hf
  have hm : gl s = gl s := rfl
  by_cases h : (s.1 9 0) = 0
  · have hf := (if_pos h).symm.trans hf
    obtain ⟨q_1, hc_2, hf⟩ := dc_b hf
    have hm := (mn_M_here N ((s.1 8 0)) s q_1 hc_2).trans hm
    by_cases h : 0 ≤ q_1.1
    · have hf := (if_pos h).symm.trans hf
      exact (mo_M_declare_29 N y v1 v2 q_1.2 hf).trans hm
    · have hf := (if_neg h).symm.trans hf
      obtain ⟨q_4, hc_5, hf⟩ := dc_b hf
      have hm := (mn_M_isInstanceName N ((q_1.2.1 8 0)) q_1.2 q_4 hc_5).trans hm
      by_cases h : q_4.1 = 0
      · have hf := (if_pos h).symm.trans hf
        exact (mo_M_declare_44 N y v1 v2 q_4.2 hf).trans hm
      · have hf := (if_neg h).symm.trans hf
        exact (mo_M_declare_29 N y v1 v2 q_4.2 hf).trans hm
  · have hf := (if_neg h).symm.trans hf
    exact (mo_M_declare_44 N y v1 v2 s hf).trans hm
set_option maxHeartbeats 8000000 in
set_option maxRecDepth 100000 in
theorem ct_M_declare (l : Launch) (dC : Nat → ClassId) (dI : Nat → Nat → Nat) (cI cB cJ cZ cQ : ClassId) (N sz : Nat) (h0 : Nat) (a : Nat → Nat) (v1 : Int32) (v2 : Int32) (s : ms) (y : (Unit × ms)) (hf : fn_M_declare N v1 v2 s = some y) : Met l yn_M_declare (xw yn_M_declare bn_M_declare 3 none) ({ frames := 4, cells := 0, slots := 0, locals := 93 }) (dc_P (dC, dI) xcl (xt cI cB cJ cZ cQ) [.ref h0, .int v1, .int v2] sz (wM h0 a cI cB cJ cZ s)) (xk_Qv (dC, dI) xcl (xt cI cB cJ cZ cQ) (fun _ : Unit => True) (fun u : Unit => (wM h0 a cI cB cJ cZ y.2)) (va_A (wM h0 a cI cB cJ cZ s) sz)) 0 0 (va_A (wM h0 a cI cB cJ cZ s) sz) := by
  refine dc_of (QA := xk_Qv (dC, dI) xcl (xt cI cB cJ cZ cQ) (fun _ : Unit => True) (fun u : Unit => (wM h0 a cI cB cJ cZ y.2))) (by decide) (Nat.le_of_ble_eq_true rfl) ?_
  intro p e s0 m below meth c hx hb hml hown hg hr hlocks hin hP hK hN A hA hD hT ls hl
  have hown : s0.vm.findClass rn_M = some m.cls := hown
  obtain ⟨H, hH⟩ : ∃ z, z = s0.heap := ⟨_, rfl⟩
  rw [← hH] at hP
  have hS : va_S A s0.heap H [] := by rw [hH]; exact va_S.rf
  suffices kk : ∀ QQ : State → Prop, QQ = MQ below (xk_Qv (dC, dI) xcl (xt cI cB cJ cZ cQ) (fun _ : Unit => True) (fun u : Unit => (wM h0 a cI cB cJ cZ y.2)) A) [.ref h0, .int v1, .int v2].toArray s0 0 0 A → dcC p l e ({ frames := 4, cells := 0, slots := 0, locals := 93 }) s0 m [.ref h0, .int v1, .int v2].toArray below meth c QQ (dC, dI) A (wM h0 a cI cB cJ cZ s) 0 3 [(0, .ref h0), (1, .int v1), (2, .int v2)] [] by
    have k9 := kk _ rfl H [] ls hP hD hS hl
    rw [hH] at k9; exact k9
  clear hP hD hS hl hH H ls
  intro QQ hQQ
  have bl_173 : ∀ (s : ms), bk_M_declare_173 N s = some y → dcC p l e ({ frames := 4, cells := 0, slots := 0, locals := 93 }) s0 m [.ref h0, .int v1, .int v2].toArray below meth c QQ (dC, dI) A (wM h0 a cI cB cJ cZ s) 173 3 [(0, .ref h0)] [] := by
    intro s hf H locs ls hP hD hS hl
    unfold bk_M_declare_173 at hf
    refine lv_aload_n hx hb dn_M_declare_173 rfl (lv_at hl 0 rfl) ?_
    refine va_get (D := (dC, dI)) (ci := 0) (v := .ref ((a 22))) (C := rn_M) (T := fn_M) (N := 91) hx hb hg in_M hown hK hP 0 rfl rfl 22 (by decide) (hg _ wn_8_95) (fun _ h9 => h9) rfl dn_M_declare_174 ?_
    refine lv_aload_n hx hb dn_M_declare_177 rfl (lv_at hl 0 rfl) ?_
    refine va_get (D := (dC, dI)) (ci := 0) (v := .int ((s.1 18 0))) (C := rn_M) (T := fn_M) (N := 91) hx hb hg in_M hown hK hP 0 rfl rfl 18 (by decide) (hg _ wn_8_91) (fun _ h9 => h9) rfl dn_M_declare_178 ?_
    refine lv_iconst (v := 1) hx hb dn_M_declare_181 (by decide) ?_
    refine lv_isub hx hb dn_M_declare_182 ?_
    refine lv_aload_n hx hb dn_M_declare_183 rfl (lv_at hl 0 rfl) ?_
    refine lv_aload_n hx hb dn_M_declare_184 rfl (lv_at hl 0 rfl) ?_
    refine va_get (D := (dC, dI)) (ci := 0) (v := .int ((s.1 8 0))) (C := rn_M) (T := fn_M) (N := 91) hx hb hg in_M hown hK hP 0 rfl rfl 8 (by decide) (hg _ wn_8_81) (fun _ h9 => h9) rfl dn_M_declare_185 ?_
    obtain ⟨q_1, hc_2, hf⟩ := dc_b hf
    refine dc_calll (dc_runV (ar := 1) (As := [.int ((s.1 8 0))]) (rest := [.int (((s.1 18 0) - 1)), .ref ((a 22))]) (ci := 0) (q0 := 0) ⟨hx, hb, hml, hown, hg⟩ hK hN hT hS hA (ct_M_numberOf l dC dI cI cB cJ cZ cQ N H.size h0 a ((s.1 8 0)) s q_1 hc_2) hP hD rfl rfl wn_10_40 wn_10_42 sn_M_numberOf wn_1_13 wn_10_43 rfl rfl (by decide +kernel) ⟨Nat.le_of_ble_eq_true rfl, Nat.le_of_ble_eq_true rfl⟩ rfl hl.1 rfl (Nat.le_of_ble_eq_true rfl) dn_M_declare_188 ⟨Nat.le_of_ble_eq_true rfl, Nat.le_of_ble_eq_true rfl⟩) hP hD hS hA (fun r_3 _ H locs hw hP hD hS => ?_)
    have hw : r_3 = q_1.1 := hw
    subst hw
    obtain ⟨hg_4, hf⟩ := dc_g hf
    refine va_last hx hb hK hP hD hS 13 2 rfl rfl hg_4 dn_M_declare_191 (fun H locs hP hD hS => ?_)
    have hP : va_P (dC, dI) xcl ((wM h0 a cI cB cJ cZ q_1.2).set 13 ((a 22), .inl (cJ, 11000, .inr (.inl (vp_updL (q_1.2.2 22) (Int32.toNatClampNeg (((s.1 18 0) - 1))) q_1.1))))) H := hP
    have hD : va_D A ((wM h0 a cI cB cJ cZ q_1.2).set 13 ((a 22), .inl (cJ, 11000, .inr (.inl (vp_updL (q_1.2.2 22) (Int32.toNatClampNeg (((s.1 18 0) - 1))) q_1.1))))) := hD
    have hP := wM_P_22 hP
    have hD := wM_D_22 hD
    refine lv_aload_n hx hb dn_M_declare_192 rfl (lv_at hl 0 rfl) ?_
    refine lv_dup hx hb dn_M_declare_193 rfl ?_
    refine va_get (D := (dC, dI)) (ci := 0) (v := .int ((q_1.2.1 8 0))) (C := rn_M) (T := fn_M) (N := 91) hx hb hg in_M hown hK hP 0 rfl rfl 8 (by decide) (hg _ wn_8_81) (fun _ h9 => h9) rfl dn_M_declare_194 ?_
    refine lv_iconst (v := 1) hx hb dn_M_declare_197 (by decide) ?_
    refine lv_iadd hx hb dn_M_declare_198 ?_
    refine va_put (D := (dC, dI)) (ci := 0) (v := .int (((q_1.2.1 8 0) + 1))) (ty := .int) (C := rn_M) (T := fn_M) (N := 91) hx hb hg in_M tn_M tk_M nn_M hown hK hP hD hS 0 rfl rfl 8 (by decide) (hg _ wn_8_81) (fun _ h9 => h9) rfl (tk_M 8 (by decide)) rfl rfl (Nat.le_of_ble_eq_true rfl) dn_M_declare_199 (fun H locs hP hD hS => ?_)
    have hP := wM_P_8 hP
    have hD := wM_D_8 hD
    rw [hQQ, ← Option.some.inj hf]
    exact xk_vret (w1 := fun u : Unit => (wM h0 a cI cB cJ cZ (upI (upJ q_1.2 22 (vp_updL (q_1.2.2 22) (Int32.toNatClampNeg (((s.1 18 0) - 1))) q_1.1)) 8 (fun _ => ((q_1.2.1 8 0) + 1))))) () hx hb hr hlocks hK hS dn_M_declare_202 hP hD trivial (Nat.le_refl _) (Nat.le_refl _)
  have bl_44 : ∀ (x1 : Int32) (x2 : Int32) (s : ms), bk_M_declare_44 N x1 x2 s = some y → dcC p l e ({ frames := 4, cells := 0, slots := 0, locals := 93 }) s0 m [.ref h0, .int v1, .int v2].toArray below meth c QQ (dC, dI) A (wM h0 a cI cB cJ cZ s) 44 3 [(0, .ref h0), (1, .int x1), (2, .int x2)] [] := by
    intro x1 x2 s hf H locs ls hP hD hS hl
    unfold bk_M_declare_44 at hf
    refine lv_aload_n hx hb dn_M_declare_44 rfl (lv_at hl 0 rfl) ?_
    refine va_get (D := (dC, dI)) (ci := 0) (v := .ref ((a 19))) (C := rn_M) (T := fn_M) (N := 91) hx hb hg in_M hown hK hP 0 rfl rfl 19 (by decide) (hg _ wn_8_92) (fun _ h9 => h9) rfl dn_M_declare_45 ?_
    refine lv_aload_n hx hb dn_M_declare_48 rfl (lv_at hl 0 rfl) ?_
    refine va_get (D := (dC, dI)) (ci := 0) (v := .int ((s.1 18 0))) (C := rn_M) (T := fn_M) (N := 91) hx hb hg in_M hown hK hP 0 rfl rfl 18 (by decide) (hg _ wn_8_91) (fun _ h9 => h9) rfl dn_M_declare_49 ?_
    refine lv_aload_n hx hb dn_M_declare_52 rfl (lv_at hl 0 rfl) ?_
    refine va_get (D := (dC, dI)) (ci := 0) (v := .int ((s.1 8 0))) (C := rn_M) (T := fn_M) (N := 91) hx hb hg in_M hown hK hP 0 rfl rfl 8 (by decide) (hg _ wn_8_81) (fun _ h9 => h9) rfl dn_M_declare_53 ?_
    obtain ⟨hg_1, hf⟩ := dc_g hf
    refine va_iast hx hb hK hP hD hS 10 0 rfl rfl hg_1 dn_M_declare_56 (fun H locs hP hD hS => ?_)
    have hP : va_P (dC, dI) xcl ((wM h0 a cI cB cJ cZ s).set 10 ((a 19), .inl (cI, 11000, .inl (upd (s.1 19) (Int32.toNatClampNeg ((s.1 18 0))) ((s.1 8 0)))))) H := hP
    have hD : va_D A ((wM h0 a cI cB cJ cZ s).set 10 ((a 19), .inl (cI, 11000, .inl (upd (s.1 19) (Int32.toNatClampNeg ((s.1 18 0))) ((s.1 8 0)))))) := hD
    have hP := wM_P_19 hP
    have hD := wM_D_19 hD
    refine lv_aload_n hx hb dn_M_declare_57 rfl (lv_at hl 0 rfl) ?_
    refine va_get (D := (dC, dI)) (ci := 0) (v := .ref ((a 20))) (C := rn_M) (T := fn_M) (N := 91) hx hb hg in_M hown hK hP 0 rfl rfl 20 (by decide) (hg _ wn_8_93) (fun _ h9 => h9) rfl dn_M_declare_58 ?_
    refine lv_aload_n hx hb dn_M_declare_61 rfl (lv_at hl 0 rfl) ?_
    refine va_get (D := (dC, dI)) (ci := 0) (v := .int ((s.1 18 0))) (C := rn_M) (T := fn_M) (N := 91) hx hb hg in_M hown hK hP 0 rfl rfl 18 (by decide) (hg _ wn_8_91) (fun _ h9 => h9) rfl dn_M_declare_62 ?_
    refine lv_iload_n hx hb dn_M_declare_65 rfl (lv_at hl 2 rfl) ?_
    obtain ⟨hg_2, hf⟩ := dc_g hf
    refine va_iast hx hb hK hP hD hS 11 0 rfl rfl hg_2 dn_M_declare_66 (fun H locs hP hD hS => ?_)
    have hP : va_P (dC, dI) xcl ((wM h0 a cI cB cJ cZ (upI s 19 (upd (s.1 19) (Int32.toNatClampNeg ((s.1 18 0))) ((s.1 8 0))))).set 11 ((a 20), .inl (cI, 11000, .inl (upd (s.1 20) (Int32.toNatClampNeg ((s.1 18 0))) x2)))) H := hP
    have hD : va_D A ((wM h0 a cI cB cJ cZ (upI s 19 (upd (s.1 19) (Int32.toNatClampNeg ((s.1 18 0))) ((s.1 8 0))))).set 11 ((a 20), .inl (cI, 11000, .inl (upd (s.1 20) (Int32.toNatClampNeg ((s.1 18 0))) x2)))) := hD
    have hP := wM_P_20 hP
    have hD := wM_D_20 hD
    refine lv_aload_n hx hb dn_M_declare_67 rfl (lv_at hl 0 rfl) ?_
    refine va_get (D := (dC, dI)) (ci := 0) (v := .ref ((a 21))) (C := rn_M) (T := fn_M) (N := 91) hx hb hg in_M hown hK hP 0 rfl rfl 21 (by decide) (hg _ wn_8_94) (fun _ h9 => h9) rfl dn_M_declare_68 ?_
    refine lv_aload_n hx hb dn_M_declare_71 rfl (lv_at hl 0 rfl) ?_
    refine va_get (D := (dC, dI)) (ci := 0) (v := .int ((s.1 18 0))) (C := rn_M) (T := fn_M) (N := 91) hx hb hg in_M hown hK hP 0 rfl rfl 18 (by decide) (hg _ wn_8_91) (fun _ h9 => h9) rfl dn_M_declare_72 ?_
    refine lv_iload_n hx hb dn_M_declare_75 rfl (lv_at hl 1 rfl) ?_
    obtain ⟨hg_3, hf⟩ := dc_g hf
    refine va_iast hx hb hK hP hD hS 12 0 rfl rfl hg_3 dn_M_declare_76 (fun H locs hP hD hS => ?_)
    have hP : va_P (dC, dI) xcl ((wM h0 a cI cB cJ cZ (upI (upI s 19 (upd (s.1 19) (Int32.toNatClampNeg ((s.1 18 0))) ((s.1 8 0)))) 20 (upd (s.1 20) (Int32.toNatClampNeg ((s.1 18 0))) x2))).set 12 ((a 21), .inl (cI, 11000, .inl (upd (s.1 21) (Int32.toNatClampNeg ((s.1 18 0))) x1)))) H := hP
    have hD : va_D A ((wM h0 a cI cB cJ cZ (upI (upI s 19 (upd (s.1 19) (Int32.toNatClampNeg ((s.1 18 0))) ((s.1 8 0)))) 20 (upd (s.1 20) (Int32.toNatClampNeg ((s.1 18 0))) x2))).set 12 ((a 21), .inl (cI, 11000, .inl (upd (s.1 21) (Int32.toNatClampNeg ((s.1 18 0))) x1)))) := hD
    have hP := wM_P_21 hP
    have hD := wM_D_21 hD
    refine lv_aload_n hx hb dn_M_declare_77 rfl (lv_at hl 0 rfl) ?_
    refine va_get (D := (dC, dI)) (ci := 0) (v := .ref ((a 22))) (C := rn_M) (T := fn_M) (N := 91) hx hb hg in_M hown hK hP 0 rfl rfl 22 (by decide) (hg _ wn_8_95) (fun _ h9 => h9) rfl dn_M_declare_78 ?_
    refine lv_aload_n hx hb dn_M_declare_81 rfl (lv_at hl 0 rfl) ?_
    refine va_get (D := (dC, dI)) (ci := 0) (v := .int ((s.1 18 0))) (C := rn_M) (T := fn_M) (N := 91) hx hb hg in_M hown hK hP 0 rfl rfl 18 (by decide) (hg _ wn_8_91) (fun _ h9 => h9) rfl dn_M_declare_82 ?_
    refine lv_lconst (v := 0) hx hb dn_M_declare_85 (by decide) ?_
    obtain ⟨hg_4, hf⟩ := dc_g hf
    refine va_last hx hb hK hP hD hS 13 2 rfl rfl hg_4 dn_M_declare_86 (fun H locs hP hD hS => ?_)
    have hP : va_P (dC, dI) xcl ((wM h0 a cI cB cJ cZ (upI (upI (upI s 19 (upd (s.1 19) (Int32.toNatClampNeg ((s.1 18 0))) ((s.1 8 0)))) 20 (upd (s.1 20) (Int32.toNatClampNeg ((s.1 18 0))) x2)) 21 (upd (s.1 21) (Int32.toNatClampNeg ((s.1 18 0))) x1))).set 13 ((a 22), .inl (cJ, 11000, .inr (.inl (vp_updL (s.2 22) (Int32.toNatClampNeg ((s.1 18 0))) 0))))) H := hP
    have hD : va_D A ((wM h0 a cI cB cJ cZ (upI (upI (upI s 19 (upd (s.1 19) (Int32.toNatClampNeg ((s.1 18 0))) ((s.1 8 0)))) 20 (upd (s.1 20) (Int32.toNatClampNeg ((s.1 18 0))) x2)) 21 (upd (s.1 21) (Int32.toNatClampNeg ((s.1 18 0))) x1))).set 13 ((a 22), .inl (cJ, 11000, .inr (.inl (vp_updL (s.2 22) (Int32.toNatClampNeg ((s.1 18 0))) 0))))) := hD
    have hP := wM_P_22 hP
    have hD := wM_D_22 hD
    refine lv_aload_n hx hb dn_M_declare_87 rfl (lv_at hl 0 rfl) ?_
    refine va_get (D := (dC, dI)) (ci := 0) (v := .ref ((a 23))) (C := rn_M) (T := fn_M) (N := 91) hx hb hg in_M hown hK hP 0 rfl rfl 23 (by decide) (hg _ wn_8_96) (fun _ h9 => h9) rfl dn_M_declare_88 ?_
    refine lv_aload_n hx hb dn_M_declare_91 rfl (lv_at hl 0 rfl) ?_
    refine va_get (D := (dC, dI)) (ci := 0) (v := .int ((s.1 18 0))) (C := rn_M) (T := fn_M) (N := 91) hx hb hg in_M hown hK hP 0 rfl rfl 18 (by decide) (hg _ wn_8_91) (fun _ h9 => h9) rfl dn_M_declare_92 ?_
    refine lv_iconst (v := 0) hx hb dn_M_declare_95 (by decide) ?_
    obtain ⟨hg_5, hf⟩ := dc_g hf
    refine va_iast hx hb hK hP hD hS 14 0 rfl rfl hg_5 dn_M_declare_96 (fun H locs hP hD hS => ?_)
    have hP : va_P (dC, dI) xcl ((wM h0 a cI cB cJ cZ (upJ (upI (upI (upI s 19 (upd (s.1 19) (Int32.toNatClampNeg ((s.1 18 0))) ((s.1 8 0)))) 20 (upd (s.1 20) (Int32.toNatClampNeg ((s.1 18 0))) x2)) 21 (upd (s.1 21) (Int32.toNatClampNeg ((s.1 18 0))) x1)) 22 (vp_updL (s.2 22) (Int32.toNatClampNeg ((s.1 18 0))) 0))).set 14 ((a 23), .inl (cI, 11000, .inl (upd (s.1 23) (Int32.toNatClampNeg ((s.1 18 0))) 0)))) H := hP
    have hD : va_D A ((wM h0 a cI cB cJ cZ (upJ (upI (upI (upI s 19 (upd (s.1 19) (Int32.toNatClampNeg ((s.1 18 0))) ((s.1 8 0)))) 20 (upd (s.1 20) (Int32.toNatClampNeg ((s.1 18 0))) x2)) 21 (upd (s.1 21) (Int32.toNatClampNeg ((s.1 18 0))) x1)) 22 (vp_updL (s.2 22) (Int32.toNatClampNeg ((s.1 18 0))) 0))).set 14 ((a 23), .inl (cI, 11000, .inl (upd (s.1 23) (Int32.toNatClampNeg ((s.1 18 0))) 0)))) := hD
    have hP := wM_P_23 hP
    have hD := wM_D_23 hD
    refine lv_aload_n hx hb dn_M_declare_97 rfl (lv_at hl 0 rfl) ?_
    refine va_get (D := (dC, dI)) (ci := 0) (v := .ref ((a 26))) (C := rn_M) (T := fn_M) (N := 91) hx hb hg in_M hown hK hP 0 rfl rfl 26 (by decide) (hg _ wn_8_99) (fun _ h9 => h9) rfl dn_M_declare_98 ?_
    refine lv_aload_n hx hb dn_M_declare_101 rfl (lv_at hl 0 rfl) ?_
    refine va_get (D := (dC, dI)) (ci := 0) (v := .int ((s.1 18 0))) (C := rn_M) (T := fn_M) (N := 91) hx hb hg in_M hown hK hP 0 rfl rfl 18 (by decide) (hg _ wn_8_91) (fun _ h9 => h9) rfl dn_M_declare_102 ?_
    refine lv_iconst (v := 0) hx hb dn_M_declare_105 (by decide) ?_
    obtain ⟨hg_6, hf⟩ := dc_g hf
    refine va_iast hx hb hK hP hD hS 17 0 rfl rfl hg_6 dn_M_declare_106 (fun H locs hP hD hS => ?_)
    have hP : va_P (dC, dI) xcl ((wM h0 a cI cB cJ cZ (upI (upJ (upI (upI (upI s 19 (upd (s.1 19) (Int32.toNatClampNeg ((s.1 18 0))) ((s.1 8 0)))) 20 (upd (s.1 20) (Int32.toNatClampNeg ((s.1 18 0))) x2)) 21 (upd (s.1 21) (Int32.toNatClampNeg ((s.1 18 0))) x1)) 22 (vp_updL (s.2 22) (Int32.toNatClampNeg ((s.1 18 0))) 0)) 23 (upd (s.1 23) (Int32.toNatClampNeg ((s.1 18 0))) 0))).set 17 ((a 26), .inl (cI, 11000, .inl (upd (s.1 26) (Int32.toNatClampNeg ((s.1 18 0))) 0)))) H := hP
    have hD : va_D A ((wM h0 a cI cB cJ cZ (upI (upJ (upI (upI (upI s 19 (upd (s.1 19) (Int32.toNatClampNeg ((s.1 18 0))) ((s.1 8 0)))) 20 (upd (s.1 20) (Int32.toNatClampNeg ((s.1 18 0))) x2)) 21 (upd (s.1 21) (Int32.toNatClampNeg ((s.1 18 0))) x1)) 22 (vp_updL (s.2 22) (Int32.toNatClampNeg ((s.1 18 0))) 0)) 23 (upd (s.1 23) (Int32.toNatClampNeg ((s.1 18 0))) 0))).set 17 ((a 26), .inl (cI, 11000, .inl (upd (s.1 26) (Int32.toNatClampNeg ((s.1 18 0))) 0)))) := hD
    have hP := wM_P_26 hP
    have hD := wM_D_26 hD
    refine lv_aload_n hx hb dn_M_declare_107 rfl (lv_at hl 0 rfl) ?_
    refine lv_dup hx hb dn_M_declare_108 rfl ?_
    refine va_get (D := (dC, dI)) (ci := 0) (v := .int ((s.1 18 0))) (C := rn_M) (T := fn_M) (N := 91) hx hb hg in_M hown hK hP 0 rfl rfl 18 (by decide) (hg _ wn_8_91) (fun _ h9 => h9) rfl dn_M_declare_109 ?_
    refine lv_iconst (v := 1) hx hb dn_M_declare_112 (by decide) ?_
    refine lv_iadd hx hb dn_M_declare_113 ?_
    refine va_put (D := (dC, dI)) (ci := 0) (v := .int (((s.1 18 0) + 1))) (ty := .int) (C := rn_M) (T := fn_M) (N := 91) hx hb hg in_M tn_M tk_M nn_M hown hK hP hD hS 0 rfl rfl 18 (by decide) (hg _ wn_8_91) (fun _ h9 => h9) rfl (tk_M 18 (by decide)) rfl rfl (Nat.le_of_ble_eq_true rfl) dn_M_declare_114 (fun H locs hP hD hS => ?_)
    have hP := wM_P_18 hP
    have hD := wM_D_18 hD
    refine lv_aload_n hx hb dn_M_declare_117 rfl (lv_at hl 0 rfl) ?_
    refine lv_dup hx hb dn_M_declare_118 rfl ?_
    refine va_get (D := (dC, dI)) (ci := 0) (v := .int ((s.1 8 0))) (C := rn_M) (T := fn_M) (N := 91) hx hb hg in_M hown hK hP 0 rfl rfl 8 (by decide) (hg _ wn_8_81) (fun _ h9 => h9) rfl dn_M_declare_119 ?_
    refine lv_iconst (v := 1) hx hb dn_M_declare_122 (by decide) ?_
    refine lv_iadd hx hb dn_M_declare_123 ?_
    refine va_put (D := (dC, dI)) (ci := 0) (v := .int (((s.1 8 0) + 1))) (ty := .int) (C := rn_M) (T := fn_M) (N := 91) hx hb hg in_M tn_M tk_M nn_M hown hK hP hD hS 0 rfl rfl 8 (by decide) (hg _ wn_8_81) (fun _ h9 => h9) rfl (tk_M 8 (by decide)) rfl rfl (Nat.le_of_ble_eq_true rfl) dn_M_declare_124 (fun H locs hP hD hS => ?_)
    have hP := wM_P_8 hP
    have hD := wM_D_8 hD
    refine lv_aload_n hx hb dn_M_declare_127 rfl (lv_at hl 0 rfl) ?_
    refine lv_bipush (v := 61) hx hb dn_M_declare_128 (by decide) ?_
    obtain ⟨q_7, hc_8, hf⟩ := dc_b hf
    refine dc_calli (dc_runV (ar := 1) (As := [.int 61]) (rest := []) (ci := 0) (q0 := 0) ⟨hx, hb, hml, hown, hg⟩ hK hN hT hS hA (ct_M_is l dC dI cI cB cJ cZ cQ N H.size h0 a 61 (upI (upI (upI (upI (upJ (upI (upI (upI s 19 (upd (s.1 19) (Int32.toNatClampNeg ((s.1 18 0))) ((s.1 8 0)))) 20 (upd (s.1 20) (Int32.toNatClampNeg ((s.1 18 0))) x2)) 21 (upd (s.1 21) (Int32.toNatClampNeg ((s.1 18 0))) x1)) 22 (vp_updL (s.2 22) (Int32.toNatClampNeg ((s.1 18 0))) 0)) 23 (upd (s.1 23) (Int32.toNatClampNeg ((s.1 18 0))) 0)) 26 (upd (s.1 26) (Int32.toNatClampNeg ((s.1 18 0))) 0)) 18 (fun _ => ((s.1 18 0) + 1))) 8 (fun _ => ((s.1 8 0) + 1))) q_7 hc_8) hP hD rfl rfl wn_9_194 wn_9_196 sn_M_is wn_1_13 wn_9_197 rfl rfl (by decide +kernel) ⟨Nat.le_of_ble_eq_true rfl, Nat.le_of_ble_eq_true rfl⟩ rfl hl.1 rfl (Nat.le_of_ble_eq_true rfl) dn_M_declare_130 ⟨Nat.le_of_ble_eq_true rfl, Nat.le_of_ble_eq_true rfl⟩) hP hD hS hA (fun r_9 _ H locs hw hP hD hS => ?_)
    have hw : r_9 = q_7.1 := hw
    subst hw
    refine lv_if_eq (tgt := 202) hx hb dn_M_declare_133 (by decide) (fun h => ?_) (fun h => ?_)
    · have hf := (if_pos h).symm.trans hf
      rw [hQQ, ← Option.some.inj hf]
      exact xk_vret (w1 := fun u : Unit => (wM h0 a cI cB cJ cZ q_7.2)) () hx hb hr hlocks hK hS dn_M_declare_202 hP hD trivial (Nat.le_refl _) (Nat.le_refl _)
    · have hf := (if_neg h).symm.trans hf
      refine lv_aload_n hx hb dn_M_declare_136 rfl (lv_at hl 0 rfl) ?_
      refine lv_dup hx hb dn_M_declare_137 rfl ?_
      refine va_get (D := (dC, dI)) (ci := 0) (v := .int ((q_7.2.1 8 0))) (C := rn_M) (T := fn_M) (N := 91) hx hb hg in_M hown hK hP 0 rfl rfl 8 (by decide) (hg _ wn_8_81) (fun _ h9 => h9) rfl dn_M_declare_138 ?_
      refine lv_iconst (v := 1) hx hb dn_M_declare_141 (by decide) ?_
      refine lv_iadd hx hb dn_M_declare_142 ?_
      refine va_put (D := (dC, dI)) (ci := 0) (v := .int (((q_7.2.1 8 0) + 1))) (ty := .int) (C := rn_M) (T := fn_M) (N := 91) hx hb hg in_M tn_M tk_M nn_M hown hK hP hD hS 0 rfl rfl 8 (by decide) (hg _ wn_8_81) (fun _ h9 => h9) rfl (tk_M 8 (by decide)) rfl rfl (Nat.le_of_ble_eq_true rfl) dn_M_declare_143 (fun H locs hP hD hS => ?_)
      have hP := wM_P_8 hP
      have hD := wM_D_8 hD
      refine lv_aload_n hx hb dn_M_declare_146 rfl (lv_at hl 0 rfl) ?_
      refine lv_aload_n hx hb dn_M_declare_147 rfl (lv_at hl 0 rfl) ?_
      refine va_get (D := (dC, dI)) (ci := 0) (v := .int (((q_7.2.1 8 0) + 1))) (C := rn_M) (T := fn_M) (N := 91) hx hb hg in_M hown hK hP 0 rfl rfl 8 (by decide) (hg _ wn_8_81) (fun _ h9 => h9) rfl dn_M_declare_148 ?_
      obtain ⟨q_10, hc_11, hf⟩ := dc_b hf
      refine dc_calli (dc_runV (ar := 1) (As := [.int (((q_7.2.1 8 0) + 1))]) (rest := []) (ci := 0) (q0 := 0) ⟨hx, hb, hml, hown, hg⟩ hK hN hT hS hA (ct_M_widthOfNumber l dC dI cI cB cJ cZ cQ N H.size h0 a (((q_7.2.1 8 0) + 1)) (upI q_7.2 8 (fun _ => ((q_7.2.1 8 0) + 1))) q_10 hc_11) hP hD rfl rfl wn_10_61 wn_10_63 sn_M_widthOfNumber wn_1_13 wn_10_64 rfl rfl (by decide +kernel) ⟨Nat.le_of_ble_eq_true rfl, Nat.le_of_ble_eq_true rfl⟩ rfl hl.1 rfl (Nat.le_of_ble_eq_true rfl) dn_M_declare_151 ⟨Nat.le_of_ble_eq_true rfl, Nat.le_of_ble_eq_true rfl⟩) hP hD hS hA (fun r_12 _ H locs hw hP hD hS => ?_)
      have hw : r_12 = q_10.1 := hw
      subst hw
      refine lv_iload_n hx hb dn_M_declare_154 rfl (lv_at hl 2 rfl) ?_
      refine lv_icmp_eq (tgt := 173) hx hb dn_M_declare_155 (by decide) (fun h => ?_) (fun h => ?_)
      · have hf := (if_pos h).symm.trans hf
        exact bl_173 q_10.2 hf H locs ls hP hD hS (lv_sub hl [0] rfl)
      · have hf := (if_neg h).symm.trans hf
        refine lv_aload_n hx hb dn_M_declare_158 rfl (lv_at hl 0 rfl) ?_
        refine lv_bipush (v := 30) hx hb dn_M_declare_159 (by decide) ?_
        refine lv_aload_n hx hb dn_M_declare_161 rfl (lv_at hl 0 rfl) ?_
        refine va_get (D := (dC, dI)) (ci := 0) (v := .ref ((a 5))) (C := rn_M) (T := fn_M) (N := 91) hx hb hg in_M hown hK hP 0 rfl rfl 5 (by decide) (hg _ wn_8_78) (fun _ h9 => h9) rfl dn_M_declare_162 ?_
        refine lv_aload_n hx hb dn_M_declare_165 rfl (lv_at hl 0 rfl) ?_
        refine va_get (D := (dC, dI)) (ci := 0) (v := .int ((q_10.2.1 8 0))) (C := rn_M) (T := fn_M) (N := 91) hx hb hg in_M hown hK hP 0 rfl rfl 8 (by decide) (hg _ wn_8_81) (fun _ h9 => h9) rfl dn_M_declare_166 ?_
        obtain ⟨hg_13, hf⟩ := dc_g hf
        refine va_iald hx hb hK hP 3 0 rfl rfl hg_13 dn_M_declare_169 ?_
        refine xk_ti (y := ((q_10.2.1 5) (Int32.toNatClampNeg ((q_10.2.1 8 0))))) rfl ?_
        obtain ⟨q_14, hc_15, hf⟩ := dc_b hf
        refine dc_callv (dc_runV (ar := 2) (As := [.int 30, .int (((q_10.2.1 5) (Int32.toNatClampNeg ((q_10.2.1 8 0)))))]) (rest := []) (ci := 0) (q0 := 0) ⟨hx, hb, hml, hown, hg⟩ hK hN hT hS hA (ct_M_fail l dC dI cI cB cJ cZ cQ N H.size h0 a 30 (((q_10.2.1 5) (Int32.toNatClampNeg ((q_10.2.1 8 0))))) q_10.2 q_14 hc_15) hP hD rfl rfl wn_9_186 wn_9_188 sn_M_fail wn_1_13 wn_9_189 rfl rfl (by decide +kernel) ⟨Nat.le_of_ble_eq_true rfl, Nat.le_of_ble_eq_true rfl⟩ rfl hl.1 rfl (Nat.le_of_ble_eq_true rfl) dn_M_declare_170 ⟨Nat.le_of_ble_eq_true rfl, Nat.le_of_ble_eq_true rfl⟩) hP hD hS hA (fun _ H locs hw hP hD hS => ?_)
        exact bl_173 q_14.2 hf H locs ls hP hD hS (lv_sub hl [0] rfl)
  have bl_29 : ∀ (x1 : Int32) (x2 : Int32) (s : ms), bk_M_declare_29 N x1 x2 s = some y → dcC p l e ({ frames := 4, cells := 0, slots := 0, locals := 93 }) s0 m [.ref h0, .int v1, .int v2].toArray below meth c QQ (dC, dI) A (wM h0 a cI cB cJ cZ s) 29 3 [(0, .ref h0), (1, .int x1), (2, .int x2)] [] := by
    intro x1 x2 s hf H locs ls hP hD hS hl
    unfold bk_M_declare_29 at hf
    refine lv_aload_n hx hb dn_M_declare_29 rfl (lv_at hl 0 rfl) ?_
    refine lv_bipush (v := 21) hx hb dn_M_declare_30 (by decide) ?_
    refine lv_aload_n hx hb dn_M_declare_32 rfl (lv_at hl 0 rfl) ?_
    refine va_get (D := (dC, dI)) (ci := 0) (v := .ref ((a 5))) (C := rn_M) (T := fn_M) (N := 91) hx hb hg in_M hown hK hP 0 rfl rfl 5 (by decide) (hg _ wn_8_78) (fun _ h9 => h9) rfl dn_M_declare_33 ?_
    refine lv_aload_n hx hb dn_M_declare_36 rfl (lv_at hl 0 rfl) ?_
    refine va_get (D := (dC, dI)) (ci := 0) (v := .int ((s.1 8 0))) (C := rn_M) (T := fn_M) (N := 91) hx hb hg in_M hown hK hP 0 rfl rfl 8 (by decide) (hg _ wn_8_81) (fun _ h9 => h9) rfl dn_M_declare_37 ?_
    obtain ⟨hg_1, hf⟩ := dc_g hf
    refine va_iald hx hb hK hP 3 0 rfl rfl hg_1 dn_M_declare_40 ?_
    refine xk_ti (y := ((s.1 5) (Int32.toNatClampNeg ((s.1 8 0))))) rfl ?_
    obtain ⟨q_2, hc_3, hf⟩ := dc_b hf
    refine dc_callv (dc_runV (ar := 2) (As := [.int 21, .int (((s.1 5) (Int32.toNatClampNeg ((s.1 8 0)))))]) (rest := []) (ci := 0) (q0 := 0) ⟨hx, hb, hml, hown, hg⟩ hK hN hT hS hA (ct_M_fail l dC dI cI cB cJ cZ cQ N H.size h0 a 21 (((s.1 5) (Int32.toNatClampNeg ((s.1 8 0))))) s q_2 hc_3) hP hD rfl rfl wn_9_186 wn_9_188 sn_M_fail wn_1_13 wn_9_189 rfl rfl (by decide +kernel) ⟨Nat.le_of_ble_eq_true rfl, Nat.le_of_ble_eq_true rfl⟩ rfl hl.1 rfl (Nat.le_of_ble_eq_true rfl) dn_M_declare_41 ⟨Nat.le_of_ble_eq_true rfl, Nat.le_of_ble_eq_true rfl⟩) hP hD hS hA (fun _ H locs hw hP hD hS => ?_)
    exact bl_44 x1 x2 q_2.2 hf H locs ls hP hD hS hl
  intro H locs ls hP hD hS hl
  unfold fn_M_declare at hf
  refine lv_aload_n hx hb dn_M_declare_0 rfl (lv_at hl 0 rfl) ?_
  refine va_get (D := (dC, dI)) (ci := 0) (v := .int ((s.1 9 0))) (C := rn_M) (T := fn_M) (N := 91) hx hb hg in_M hown hK hP 0 rfl rfl 9 (by decide) (hg _ wn_8_82) (fun _ h9 => h9) rfl dn_M_declare_1 ?_
  refine lv_if_ne (tgt := 44) hx hb dn_M_declare_4 (by decide) (fun h => ?_) (fun h => ?_)
  · have hf := (if_neg h).symm.trans hf
    exact bl_44 v1 v2 s hf H locs ls hP hD hS hl
  · have hf := (if_pos h).symm.trans hf
    refine lv_aload_n hx hb dn_M_declare_7 rfl (lv_at hl 0 rfl) ?_
    refine lv_aload_n hx hb dn_M_declare_8 rfl (lv_at hl 0 rfl) ?_
    refine va_get (D := (dC, dI)) (ci := 0) (v := .int ((s.1 8 0))) (C := rn_M) (T := fn_M) (N := 91) hx hb hg in_M hown hK hP 0 rfl rfl 8 (by decide) (hg _ wn_8_81) (fun _ h9 => h9) rfl dn_M_declare_9 ?_
    obtain ⟨q_1, hc_2, hf⟩ := dc_b hf
    refine dc_calli (dc_runV (ar := 1) (As := [.int ((s.1 8 0))]) (rest := []) (ci := 0) (q0 := 0) ⟨hx, hb, hml, hown, hg⟩ hK hN hT hS hA (ct_M_here l dC dI cI cB cJ cZ cQ N H.size h0 a ((s.1 8 0)) s q_1 hc_2) hP hD rfl rfl wn_10_49 wn_10_51 sn_M_here wn_1_13 wn_10_52 rfl rfl (by decide +kernel) ⟨Nat.le_of_ble_eq_true rfl, Nat.le_of_ble_eq_true rfl⟩ rfl hl.1 rfl (Nat.le_of_ble_eq_true rfl) dn_M_declare_12 ⟨Nat.le_of_ble_eq_true rfl, Nat.le_of_ble_eq_true rfl⟩) hP hD hS hA (fun r_3 _ H locs hw hP hD hS => ?_)
    have hw : r_3 = q_1.1 := hw
    subst hw
    refine lv_if_ge (tgt := 29) hx hb dn_M_declare_15 (by decide) (fun h => ?_) (fun h => ?_)
    · have hf := (if_pos h).symm.trans hf
      exact bl_29 v1 v2 q_1.2 hf H locs ls hP hD hS hl
    · have hf := (if_neg h).symm.trans hf
      refine lv_aload_n hx hb dn_M_declare_18 rfl (lv_at hl 0 rfl) ?_
      refine lv_aload_n hx hb dn_M_declare_19 rfl (lv_at hl 0 rfl) ?_
      refine va_get (D := (dC, dI)) (ci := 0) (v := .int ((q_1.2.1 8 0))) (C := rn_M) (T := fn_M) (N := 91) hx hb hg in_M hown hK hP 0 rfl rfl 8 (by decide) (hg _ wn_8_81) (fun _ h9 => h9) rfl dn_M_declare_20 ?_
      obtain ⟨q_4, hc_5, hf⟩ := dc_b hf
      refine dc_calli (dc_runV (ar := 1) (As := [.int ((q_1.2.1 8 0))]) (rest := []) (ci := 0) (q0 := 0) ⟨hx, hb, hml, hown, hg⟩ hK hN hT hS hA (ct_M_isInstanceName l dC dI cI cB cJ cZ cQ N H.size h0 a ((q_1.2.1 8 0)) q_1.2 q_4 hc_5) hP hD rfl rfl wn_10_57 wn_10_59 sn_M_isInstanceName wn_1_13 wn_10_60 rfl rfl (by decide +kernel) ⟨Nat.le_of_ble_eq_true rfl, Nat.le_of_ble_eq_true rfl⟩ rfl hl.1 rfl (Nat.le_of_ble_eq_true rfl) dn_M_declare_23 ⟨Nat.le_of_ble_eq_true rfl, Nat.le_of_ble_eq_true rfl⟩) hP hD hS hA (fun r_6 _ H locs hw hP hD hS => ?_)
      have hw : r_6 = q_4.1 := hw
      subst hw
      refine lv_if_eq (tgt := 44) hx hb dn_M_declare_26 (by decide) (fun h => ?_) (fun h => ?_)
      · have hf := (if_pos h).symm.trans hf
        exact bl_44 v1 v2 q_4.2 hf H locs ls hP hD hS hl
      · have hf := (if_neg h).symm.trans hf
        exact bl_29 v1 v2 q_4.2 hf H locs ls hP hD hS hl
theorem mo_M_port_89 (N : Nat) (y : (Unit × ms)) (t0 : Int32) (s : ms) (hf : bk_M_port_89 N t0 s = some y) : gl y.2 = gl s := by
  unfold bk_M_port_89 at hf
  have hm : gl s = gl s := rfl
  obtain ⟨q_1, hc_2, hf⟩ := dc_b hf
  have hm := (mn_M_range N s q_1 hc_2).trans hm
  obtain ⟨q_4, hc_5, hf⟩ := dc_b hf
  have hm := (mn_M_declare N t0 q_1.1 q_1.2 q_4 hc_5).trans hm
  exact (dc_e hf).trans hm
theorem mo_M_port_76 (N : Nat) (y : (Unit × ms)) (x1 : Int32) (t0 : Int32) (s : ms) (hf : bk_M_port_76 N x1 t0 s = some y) : gl y.2 = gl s := by
  unfold bk_M_port_76 at hf
  have hm : gl s = gl s := rfl
  by_cases h : x1 = 0
  · have hf := (if_pos h).symm.trans hf
    exact (mo_M_port_89 N y 1 (upI s 8 (fun _ => t0)) hf).trans hm
  · have hf := (if_neg h).symm.trans hf
    exact (mo_M_port_89 N y 2 (upI s 8 (fun _ => t0)) hf).trans hm
theorem mo_M_port_57 (N : Nat) (y : (Unit × ms)) (t0 : Int32) (s : ms) (hf : bk_M_port_57 N t0 s = some y) : gl y.2 = gl s := by
  unfold bk_M_port_57 at hf
  have hm : gl s = gl s := rfl
  by_cases h : t0 = 0
  · have hf := (if_pos h).symm.trans hf
    exact (mo_M_port_76 N y t0 ((s.1 8 0)) s hf).trans hm
  · have hf := (if_neg h).symm.trans hf
    exact (mo_M_port_76 N y t0 (((s.1 8 0) + 1)) s hf).trans hm
theorem mn_M_port (N : Nat) (s : ms) (y : (Unit × ms)) (hf : fn_M_port N s = some y) : gl y.2 = gl s := by
  unfold fn_M_port at hf
  have hm : gl s = gl s := rfl
  obtain ⟨q_1, hc_2, hf⟩ := dc_b hf
  have hm := (mn_M_kind N s q_1 hc_2).trans hm
  by_cases h : q_1.1 = 302
  · have hf := (if_pos h).symm.trans hf
    obtain ⟨q_4, hc_5, hf⟩ := dc_b hf
    have hm := (mn_M_range N (upI q_1.2 8 (fun _ => ((q_1.2.1 8 0) + 1))) q_4 hc_5).trans hm
    obtain ⟨q_7, hc_8, hf⟩ := dc_b hf
    have hm := (mn_M_declare N 0 q_4.1 q_4.2 q_7 hc_8).trans hm
    exact (dc_e hf).trans hm
  · have hf := (if_neg h).symm.trans hf
    obtain ⟨q_4, hc_5, hf⟩ := dc_b hf
    have hm := (mn_M_kind N (upI q_1.2 8 (fun _ => ((q_1.2.1 8 0) + 1))) q_4 hc_5).trans hm
    by_cases h : q_4.1 = 305
    · have hf := (if_pos h).symm.trans hf
      exact (mo_M_port_57 N y 1 q_4.2 hf).trans hm
    · have hf := (if_neg h).symm.trans hf
      exact (mo_M_port_57 N y 0 q_4.2 hf).trans hm
set_option maxHeartbeats 8000000 in
set_option maxRecDepth 100000 in
theorem ct_M_port (l : Launch) (dC : Nat → ClassId) (dI : Nat → Nat → Nat) (cI cB cJ cZ cQ : ClassId) (N sz : Nat) (h0 : Nat) (a : Nat → Nat) (s : ms) (y : (Unit × ms)) (hf : fn_M_port N s = some y) : Met l yn_M_port (xw yn_M_port bn_M_port 2 none) ({ frames := 5, cells := 0, slots := 0, locals := 117 }) (dc_P (dC, dI) xcl (xt cI cB cJ cZ cQ) [.ref h0] sz (wM h0 a cI cB cJ cZ s)) (xk_Qv (dC, dI) xcl (xt cI cB cJ cZ cQ) (fun _ : Unit => True) (fun u : Unit => (wM h0 a cI cB cJ cZ y.2)) (va_A (wM h0 a cI cB cJ cZ s) sz)) 0 0 (va_A (wM h0 a cI cB cJ cZ s) sz) := by
  refine dc_of (QA := xk_Qv (dC, dI) xcl (xt cI cB cJ cZ cQ) (fun _ : Unit => True) (fun u : Unit => (wM h0 a cI cB cJ cZ y.2))) (by decide) (Nat.le_of_ble_eq_true rfl) ?_
  intro p e s0 m below meth c hx hb hml hown hg hr hlocks hin hP hK hN A hA hD hT ls hl
  have hown : s0.vm.findClass rn_M = some m.cls := hown
  obtain ⟨H, hH⟩ : ∃ z, z = s0.heap := ⟨_, rfl⟩
  rw [← hH] at hP
  have hS : va_S A s0.heap H [] := by rw [hH]; exact va_S.rf
  suffices kk : ∀ QQ : State → Prop, QQ = MQ below (xk_Qv (dC, dI) xcl (xt cI cB cJ cZ cQ) (fun _ : Unit => True) (fun u : Unit => (wM h0 a cI cB cJ cZ y.2)) A) [.ref h0].toArray s0 0 0 A → dcC p l e ({ frames := 5, cells := 0, slots := 0, locals := 117 }) s0 m [.ref h0].toArray below meth c QQ (dC, dI) A (wM h0 a cI cB cJ cZ s) 0 2 [(0, .ref h0)] [] by
    have k9 := kk _ rfl H [] ls hP hD hS hl
    rw [hH] at k9; exact k9
  clear hP hD hS hl hH H ls
  intro QQ hQQ
  have bl_89 : ∀ (t0 : Int32) (s : ms), bk_M_port_89 N t0 s = some y → dcC p l e ({ frames := 5, cells := 0, slots := 0, locals := 117 }) s0 m [.ref h0].toArray below meth c QQ (dC, dI) A (wM h0 a cI cB cJ cZ s) 89 2 [(0, .ref h0)] [.int t0, .ref h0] := by
    intro t0 s hf H locs ls hP hD hS hl
    unfold bk_M_port_89 at hf
    refine lv_aload_n hx hb dn_M_port_89 rfl (lv_at hl 0 rfl) ?_
    obtain ⟨q_1, hc_2, hf⟩ := dc_b hf
    refine dc_calli (dc_runV (ar := 0) (As := []) (rest := [.int t0, .ref h0]) (ci := 0) (q0 := 0) ⟨hx, hb, hml, hown, hg⟩ hK hN hT hS hA (ct_M_range l dC dI cI cB cJ cZ cQ N H.size h0 a s q_1 hc_2) hP hD rfl rfl wn_10_36 wn_10_38 sn_M_range wn_1_13 wn_10_39 rfl rfl (by decide +kernel) ⟨Nat.le_of_ble_eq_true rfl, Nat.le_of_ble_eq_true rfl⟩ rfl hl.1 rfl (Nat.le_of_ble_eq_true rfl) dn_M_port_90 ⟨Nat.le_of_ble_eq_true rfl, Nat.le_of_ble_eq_true rfl⟩) hP hD hS hA (fun r_3 _ H locs hw hP hD hS => ?_)
    have hw : r_3 = q_1.1 := hw
    subst hw
    obtain ⟨q_4, hc_5, hf⟩ := dc_b hf
    refine dc_callv (dc_runV (ar := 2) (As := [.int t0, .int q_1.1]) (rest := []) (ci := 0) (q0 := 0) ⟨hx, hb, hml, hown, hg⟩ hK hN hT hS hA (ct_M_declare l dC dI cI cB cJ cZ cQ N H.size h0 a t0 q_1.1 q_1.2 q_4 hc_5) hP hD rfl rfl wn_10_45 wn_10_47 sn_M_declare wn_1_13 wn_10_48 rfl rfl (by decide +kernel) ⟨Nat.le_of_ble_eq_true rfl, Nat.le_of_ble_eq_true rfl⟩ rfl hl.1 rfl (Nat.le_of_ble_eq_true rfl) dn_M_port_93 ⟨Nat.le_of_ble_eq_true rfl, Nat.le_of_ble_eq_true rfl⟩) hP hD hS hA (fun _ H locs hw hP hD hS => ?_)
    rw [hQQ, ← Option.some.inj hf]
    exact xk_vret (w1 := fun u : Unit => (wM h0 a cI cB cJ cZ q_4.2)) () hx hb hr hlocks hK hS dn_M_port_96 hP hD trivial (Nat.le_refl _) (Nat.le_refl _)
  have bl_76 : ∀ (x1 : Int32) (t0 : Int32) (s : ms), bk_M_port_76 N x1 t0 s = some y → dcC p l e ({ frames := 5, cells := 0, slots := 0, locals := 117 }) s0 m [.ref h0].toArray below meth c QQ (dC, dI) A (wM h0 a cI cB cJ cZ s) 76 2 [(0, .ref h0), (1, .int x1)] [.int t0, .ref h0] := by
    intro x1 t0 s hf H locs ls hP hD hS hl
    unfold bk_M_port_76 at hf
    refine va_put (D := (dC, dI)) (ci := 0) (v := .int t0) (ty := .int) (C := rn_M) (T := fn_M) (N := 91) hx hb hg in_M tn_M tk_M nn_M hown hK hP hD hS 0 rfl rfl 8 (by decide) (hg _ wn_8_81) (fun _ h9 => h9) rfl (tk_M 8 (by decide)) rfl rfl (Nat.le_of_ble_eq_true rfl) dn_M_port_76 (fun H locs hP hD hS => ?_)
    have hP := wM_P_8 hP
    have hD := wM_D_8 hD
    refine lv_aload_n hx hb dn_M_port_79 rfl (lv_at hl 0 rfl) ?_
    refine lv_iload_n hx hb dn_M_port_80 rfl (lv_at hl 1 rfl) ?_
    refine lv_if_eq (tgt := 88) hx hb dn_M_port_81 (by decide) (fun h => ?_) (fun h => ?_)
    · have hf := (if_pos h).symm.trans hf
      refine lv_iconst (v := 1) hx hb dn_M_port_88 (by decide) ?_
      exact bl_89 1 (upI s 8 (fun _ => t0)) hf H locs ls hP hD hS (lv_sub hl [0] rfl)
    · have hf := (if_neg h).symm.trans hf
      refine lv_iconst (v := 2) hx hb dn_M_port_84 (by decide) ?_
      refine lv_goto (tgt := 89) hx hb dn_M_port_85 (by decide) ?_
      exact bl_89 2 (upI s 8 (fun _ => t0)) hf H locs ls hP hD hS (lv_sub hl [0] rfl)
  have bl_57 : ∀ (t0 : Int32) (s : ms), bk_M_port_57 N t0 s = some y → dcC p l e ({ frames := 5, cells := 0, slots := 0, locals := 117 }) s0 m [.ref h0].toArray below meth c QQ (dC, dI) A (wM h0 a cI cB cJ cZ s) 57 2 [(0, .ref h0)] [.int t0] := by
    intro t0 s hf H locs ls hP hD hS hl
    unfold bk_M_port_57 at hf
    refine lv_istore_n (lv' := [(1, .int t0), (0, .ref h0)]) hx hb dn_M_port_57 rfl hl (by decide) rfl (fun ls hl => ?_)
    refine lv_aload_n hx hb dn_M_port_58 rfl (lv_at hl 1 rfl) ?_
    refine lv_iload_n hx hb dn_M_port_59 rfl (lv_at hl 0 rfl) ?_
    refine lv_if_eq (tgt := 72) hx hb dn_M_port_60 (by decide) (fun h => ?_) (fun h => ?_)
    · have hf := (if_pos h).symm.trans hf
      refine lv_aload_n hx hb dn_M_port_72 rfl (lv_at hl 1 rfl) ?_
      refine va_get (D := (dC, dI)) (ci := 0) (v := .int ((s.1 8 0))) (C := rn_M) (T := fn_M) (N := 91) hx hb hg in_M hown hK hP 0 rfl rfl 8 (by decide) (hg _ wn_8_81) (fun _ h9 => h9) rfl dn_M_port_73 ?_
      exact bl_76 t0 ((s.1 8 0)) s hf H locs ls hP hD hS (lv_sub hl [1, 0] rfl)
    · have hf := (if_neg h).symm.trans hf
      refine lv_aload_n hx hb dn_M_port_63 rfl (lv_at hl 1 rfl) ?_
      refine va_get (D := (dC, dI)) (ci := 0) (v := .int ((s.1 8 0))) (C := rn_M) (T := fn_M) (N := 91) hx hb hg in_M hown hK hP 0 rfl rfl 8 (by decide) (hg _ wn_8_81) (fun _ h9 => h9) rfl dn_M_port_64 ?_
      refine lv_iconst (v := 1) hx hb dn_M_port_67 (by decide) ?_
      refine lv_iadd hx hb dn_M_port_68 ?_
      refine lv_goto (tgt := 76) hx hb dn_M_port_69 (by decide) ?_
      exact bl_76 t0 (((s.1 8 0) + 1)) s hf H locs ls hP hD hS (lv_sub hl [1, 0] rfl)
  intro H locs ls hP hD hS hl
  unfold fn_M_port at hf
  refine lv_aload_n hx hb dn_M_port_0 rfl (lv_at hl 0 rfl) ?_
  obtain ⟨q_1, hc_2, hf⟩ := dc_b hf
  refine dc_calli (dc_runV (ar := 0) (As := []) (rest := []) (ci := 0) (q0 := 0) ⟨hx, hb, hml, hown, hg⟩ hK hN hT hS hA (ct_M_kind l dC dI cI cB cJ cZ cQ N H.size h0 a s q_1 hc_2) hP hD rfl rfl wn_9_214 wn_9_216 sn_M_kind wn_1_13 wn_9_217 rfl rfl (by decide +kernel) ⟨Nat.le_of_ble_eq_true rfl, Nat.le_of_ble_eq_true rfl⟩ rfl hl.1 rfl (Nat.le_of_ble_eq_true rfl) dn_M_port_1 ⟨Nat.le_of_ble_eq_true rfl, Nat.le_of_ble_eq_true rfl⟩) hP hD hS hA (fun r_3 _ H locs hw hP hD hS => ?_)
  have hw : r_3 = q_1.1 := hw
  subst hw
  refine lv_sipush (v := 302) hx hb dn_M_port_4 (by decide) ?_
  refine lv_icmp_ne (tgt := 32) hx hb dn_M_port_7 (by decide) (fun h => ?_) (fun h => ?_)
  · have hf := (if_neg h).symm.trans hf
    refine lv_aload_n hx hb dn_M_port_32 rfl (lv_at hl 0 rfl) ?_
    refine lv_dup hx hb dn_M_port_33 rfl ?_
    refine va_get (D := (dC, dI)) (ci := 0) (v := .int ((q_1.2.1 8 0))) (C := rn_M) (T := fn_M) (N := 91) hx hb hg in_M hown hK hP 0 rfl rfl 8 (by decide) (hg _ wn_8_81) (fun _ h9 => h9) rfl dn_M_port_34 ?_
    refine lv_iconst (v := 1) hx hb dn_M_port_37 (by decide) ?_
    refine lv_iadd hx hb dn_M_port_38 ?_
    refine va_put (D := (dC, dI)) (ci := 0) (v := .int (((q_1.2.1 8 0) + 1))) (ty := .int) (C := rn_M) (T := fn_M) (N := 91) hx hb hg in_M tn_M tk_M nn_M hown hK hP hD hS 0 rfl rfl 8 (by decide) (hg _ wn_8_81) (fun _ h9 => h9) rfl (tk_M 8 (by decide)) rfl rfl (Nat.le_of_ble_eq_true rfl) dn_M_port_39 (fun H locs hP hD hS => ?_)
    have hP := wM_P_8 hP
    have hD := wM_D_8 hD
    refine lv_aload_n hx hb dn_M_port_42 rfl (lv_at hl 0 rfl) ?_
    obtain ⟨q_4, hc_5, hf⟩ := dc_b hf
    refine dc_calli (dc_runV (ar := 0) (As := []) (rest := []) (ci := 0) (q0 := 0) ⟨hx, hb, hml, hown, hg⟩ hK hN hT hS hA (ct_M_kind l dC dI cI cB cJ cZ cQ N H.size h0 a (upI q_1.2 8 (fun _ => ((q_1.2.1 8 0) + 1))) q_4 hc_5) hP hD rfl rfl wn_9_214 wn_9_216 sn_M_kind wn_1_13 wn_9_217 rfl rfl (by decide +kernel) ⟨Nat.le_of_ble_eq_true rfl, Nat.le_of_ble_eq_true rfl⟩ rfl hl.1 rfl (Nat.le_of_ble_eq_true rfl) dn_M_port_43 ⟨Nat.le_of_ble_eq_true rfl, Nat.le_of_ble_eq_true rfl⟩) hP hD hS hA (fun r_6 _ H locs hw hP hD hS => ?_)
    have hw : r_6 = q_4.1 := hw
    subst hw
    refine lv_sipush (v := 305) hx hb dn_M_port_46 (by decide) ?_
    refine lv_icmp_ne (tgt := 56) hx hb dn_M_port_49 (by decide) (fun h => ?_) (fun h => ?_)
    · have hf := (if_neg h).symm.trans hf
      refine lv_iconst (v := 0) hx hb dn_M_port_56 (by decide) ?_
      exact bl_57 0 q_4.2 hf H locs ls hP hD hS hl
    · have hf := (if_pos h).symm.trans hf
      refine lv_iconst (v := 1) hx hb dn_M_port_52 (by decide) ?_
      refine lv_goto (tgt := 57) hx hb dn_M_port_53 (by decide) ?_
      exact bl_57 1 q_4.2 hf H locs ls hP hD hS hl
  · have hf := (if_pos h).symm.trans hf
    refine lv_aload_n hx hb dn_M_port_10 rfl (lv_at hl 0 rfl) ?_
    refine lv_dup hx hb dn_M_port_11 rfl ?_
    refine va_get (D := (dC, dI)) (ci := 0) (v := .int ((q_1.2.1 8 0))) (C := rn_M) (T := fn_M) (N := 91) hx hb hg in_M hown hK hP 0 rfl rfl 8 (by decide) (hg _ wn_8_81) (fun _ h9 => h9) rfl dn_M_port_12 ?_
    refine lv_iconst (v := 1) hx hb dn_M_port_15 (by decide) ?_
    refine lv_iadd hx hb dn_M_port_16 ?_
    refine va_put (D := (dC, dI)) (ci := 0) (v := .int (((q_1.2.1 8 0) + 1))) (ty := .int) (C := rn_M) (T := fn_M) (N := 91) hx hb hg in_M tn_M tk_M nn_M hown hK hP hD hS 0 rfl rfl 8 (by decide) (hg _ wn_8_81) (fun _ h9 => h9) rfl (tk_M 8 (by decide)) rfl rfl (Nat.le_of_ble_eq_true rfl) dn_M_port_17 (fun H locs hP hD hS => ?_)
    have hP := wM_P_8 hP
    have hD := wM_D_8 hD
    refine lv_aload_n hx hb dn_M_port_20 rfl (lv_at hl 0 rfl) ?_
    refine lv_iconst (v := 0) hx hb dn_M_port_21 (by decide) ?_
    refine lv_aload_n hx hb dn_M_port_22 rfl (lv_at hl 0 rfl) ?_
    obtain ⟨q_4, hc_5, hf⟩ := dc_b hf
    refine dc_calli (dc_runV (ar := 0) (As := []) (rest := [.int 0, .ref h0]) (ci := 0) (q0 := 0) ⟨hx, hb, hml, hown, hg⟩ hK hN hT hS hA (ct_M_range l dC dI cI cB cJ cZ cQ N H.size h0 a (upI q_1.2 8 (fun _ => ((q_1.2.1 8 0) + 1))) q_4 hc_5) hP hD rfl rfl wn_10_36 wn_10_38 sn_M_range wn_1_13 wn_10_39 rfl rfl (by decide +kernel) ⟨Nat.le_of_ble_eq_true rfl, Nat.le_of_ble_eq_true rfl⟩ rfl hl.1 rfl (Nat.le_of_ble_eq_true rfl) dn_M_port_23 ⟨Nat.le_of_ble_eq_true rfl, Nat.le_of_ble_eq_true rfl⟩) hP hD hS hA (fun r_6 _ H locs hw hP hD hS => ?_)
    have hw : r_6 = q_4.1 := hw
    subst hw
    obtain ⟨q_7, hc_8, hf⟩ := dc_b hf
    refine dc_callv (dc_runV (ar := 2) (As := [.int 0, .int q_4.1]) (rest := []) (ci := 0) (q0 := 0) ⟨hx, hb, hml, hown, hg⟩ hK hN hT hS hA (ct_M_declare l dC dI cI cB cJ cZ cQ N H.size h0 a 0 q_4.1 q_4.2 q_7 hc_8) hP hD rfl rfl wn_10_45 wn_10_47 sn_M_declare wn_1_13 wn_10_48 rfl rfl (by decide +kernel) ⟨Nat.le_of_ble_eq_true rfl, Nat.le_of_ble_eq_true rfl⟩ rfl hl.1 rfl (Nat.le_of_ble_eq_true rfl) dn_M_port_26 ⟨Nat.le_of_ble_eq_true rfl, Nat.le_of_ble_eq_true rfl⟩) hP hD hS hA (fun _ H locs hw hP hD hS => ?_)
    refine lv_goto (tgt := 96) hx hb dn_M_port_29 (by decide) ?_
    rw [hQQ, ← Option.some.inj hf]
    exact xk_vret (w1 := fun u : Unit => (wM h0 a cI cB cJ cZ q_7.2)) () hx hb hr hlocks hK hS dn_M_port_96 hP hD trivial (Nat.le_refl _) (Nat.le_refl _)
theorem mb_M_linkOf_8 (N : Nat) (y : (Int32 × ms)) (k_8 : Int32 → Int32 → Int32 → ms → Option (Int32 × ms)) (hkm_8 : ∀ (x2 : Int32) (x3 : Int32) (x4 : Int32) (s : ms), k_8 x2 x3 x4 s = some y → gl y.2 = gl s) (x2 : Int32) (x3 : Int32) (x4 : Int32) (s : ms) (hf : bd_M_linkOf_8 N k_8 x2 x3 x4 s = some y) : gl y.2 = gl s := by
  unfold bd_M_linkOf_8 at hf
  have hm : gl s = gl s := rfl
  by_cases h : x2 ≤ x4
  · have hf := (if_pos h).symm.trans hf
    exact (dc_e hf).trans hm
  · have hf := (if_neg h).symm.trans hf
    obtain ⟨_, hf⟩ := dc_g hf
    by_cases h : ((s.1 32) (Int32.toNatClampNeg x4)) = x3
    · have hf := (if_pos h).symm.trans hf
      exact (dc_e hf).trans hm
    · have hf := (if_neg h).symm.trans hf
      exact (hkm_8 x2 x3 ((x4 + 1)) s hf).trans hm
theorem mh_M_linkOf_8 (N : Nat) (y : (Int32 × ms)) : ∀ (n : Nat) (x2 : Int32) (x3 : Int32) (x4 : Int32) (s : ms), hd_M_linkOf_8 N n x2 x3 x4 s = some y → gl y.2 = gl s := by
  intro n
  induction n with
  | zero => intro x2 x3 x4 s hf; cases hf
  | succ n ih => intro x2 x3 x4 s hf; exact mb_M_linkOf_8 N y (hd_M_linkOf_8 N n) ih x2 x3 x4 s hf
theorem mn_M_linkOf (N : Nat) (v1 : Int32) (v2 : Int32) (v3 : Int32) (s : ms) (y : (Int32 × ms)) (hf : fn_M_linkOf N v1 v2 v3 s = some y) : gl y.2 = gl s := by
  unfold fn_M_linkOf at hf
  have hm : gl s = gl s := rfl
  obtain ⟨_, hf⟩ := dc_g hf
  exact (mh_M_linkOf_8 N y N v2 v3 (((s.1 30) (Int32.toNatClampNeg v1))) s hf).trans hm
set_option maxHeartbeats 8000000 in
set_option maxRecDepth 100000 in
theorem ct_M_linkOf (l : Launch) (dC : Nat → ClassId) (dI : Nat → Nat → Nat) (cI cB cJ cZ cQ : ClassId) (N sz : Nat) (h0 : Nat) (a : Nat → Nat) (v1 : Int32) (v2 : Int32) (v3 : Int32) (s : ms) (y : (Int32 × ms)) (hf : fn_M_linkOf N v1 v2 v3 s = some y) : Met l yn_M_linkOf (xw yn_M_linkOf bn_M_linkOf 5 (some .int)) ({ frames := 0, cells := 0, slots := 0, locals := 0 }) (dc_P (dC, dI) xcl (xt cI cB cJ cZ cQ) [.ref h0, .int v1, .int v2, .int v3] sz (wM h0 a cI cB cJ cZ s)) (xk_Qi (dC, dI) xcl (xt cI cB cJ cZ cQ) (fun (r : Int32) (_ : Unit) => r = y.1) (fun u : Unit => (wM h0 a cI cB cJ cZ y.2)) (va_A (wM h0 a cI cB cJ cZ s) sz)) 0 0 (va_A (wM h0 a cI cB cJ cZ s) sz) := by
  refine dc_of (QA := xk_Qi (dC, dI) xcl (xt cI cB cJ cZ cQ) (fun (r : Int32) (_ : Unit) => r = y.1) (fun u : Unit => (wM h0 a cI cB cJ cZ y.2))) (by decide) (Nat.le_of_ble_eq_true rfl) ?_
  intro p e s0 m below meth c hx hb hml hown hg hr hlocks hin hP hK hN A hA hD hT ls hl
  have hown : s0.vm.findClass rn_M = some m.cls := hown
  obtain ⟨H, hH⟩ : ∃ z, z = s0.heap := ⟨_, rfl⟩
  rw [← hH] at hP
  have hS : va_S A s0.heap H [] := by rw [hH]; exact va_S.rf
  suffices kk : ∀ QQ : State → Prop, QQ = MQ below (xk_Qi (dC, dI) xcl (xt cI cB cJ cZ cQ) (fun (r : Int32) (_ : Unit) => r = y.1) (fun u : Unit => (wM h0 a cI cB cJ cZ y.2)) A) [.ref h0, .int v1, .int v2, .int v3].toArray s0 0 0 A → dcC p l e ({ frames := 0, cells := 0, slots := 0, locals := 0 }) s0 m [.ref h0, .int v1, .int v2, .int v3].toArray below meth c QQ (dC, dI) A (wM h0 a cI cB cJ cZ s) 0 5 [(0, .ref h0), (1, .int v1), (2, .int v2), (3, .int v3)] [] by
    have k9 := kk _ rfl H [] ls hP hD hS hl
    rw [hH] at k9; exact k9
  clear hP hD hS hl hH H ls
  intro QQ hQQ
  have hd_8 : ∀ (n : Nat) (x2 : Int32) (x3 : Int32) (x4 : Int32) (s : ms), hd_M_linkOf_8 N n x2 x3 x4 s = some y → dcC p l e ({ frames := 0, cells := 0, slots := 0, locals := 0 }) s0 m [.ref h0, .int v1, .int v2, .int v3].toArray below meth c QQ (dC, dI) A (wM h0 a cI cB cJ cZ s) 8 5 [(0, .ref h0), (2, .int x2), (3, .int x3), (4, .int x4)] [] := by
    intro n
    induction n with
    | zero => intro x2 x3 x4 s hf; cases hf
    | succ n ih =>
      intro x2 x3 x4 s hf H locs ls hP hD hS hl
      have hf : bd_M_linkOf_8 N (hd_M_linkOf_8 N n) x2 x3 x4 s = some y := hf
      have hk_8 := ih
      generalize hd_M_linkOf_8 N n = k_8 at hf hk_8
      unfold bd_M_linkOf_8 at hf
      refine lv_iload hx hb dn_M_linkOf_8 (lv_at hl 3 rfl) ?_
      refine lv_iload_n hx hb dn_M_linkOf_10 rfl (lv_at hl 1 rfl) ?_
      refine lv_icmp_ge (tgt := 34) hx hb dn_M_linkOf_11 (by decide) (fun h => ?_) (fun h => ?_)
      · have hf := (if_pos h).symm.trans hf
        refine lv_iconst (v := (-1)) hx hb dn_M_linkOf_34 (by decide) ?_
        rw [hQQ, ← Option.some.inj hf]
        exact xk_iret (w1 := fun u : Unit => (wM h0 a cI cB cJ cZ s)) () hx hb hr hlocks hK hS dn_M_linkOf_35 hP hD rfl (Nat.le_refl _) (Nat.le_refl _)
      · have hf := (if_neg h).symm.trans hf
        refine lv_aload_n hx hb dn_M_linkOf_14 rfl (lv_at hl 0 rfl) ?_
        refine va_get (D := (dC, dI)) (ci := 0) (v := .ref ((a 32))) (C := rn_M) (T := fn_M) (N := 91) hx hb hg in_M hown hK hP 0 rfl rfl 32 (by decide) (hg _ wn_8_105) (fun _ h9 => h9) rfl dn_M_linkOf_15 ?_
        refine lv_iload hx hb dn_M_linkOf_18 (lv_at hl 3 rfl) ?_
        obtain ⟨hg_1, hf⟩ := dc_g hf
        refine va_iald hx hb hK hP 21 0 rfl rfl hg_1 dn_M_linkOf_20 ?_
        refine xk_ti (y := ((s.1 32) (Int32.toNatClampNeg x4))) rfl ?_
        refine lv_iload_n hx hb dn_M_linkOf_21 rfl (lv_at hl 2 rfl) ?_
        refine lv_icmp_ne (tgt := 28) hx hb dn_M_linkOf_22 (by decide) (fun h => ?_) (fun h => ?_)
        · have hf := (if_neg h).symm.trans hf
          refine lv_iinc (v := (x4 + 1)) (lv' := [(4, .int ((x4 + 1))), (0, .ref h0), (2, .int x2), (3, .int x3)]) hx hb dn_M_linkOf_28 hl (k := 3) rfl (dc_inc (by decide)) (by decide) rfl (fun ls hl => ?_)
          refine lv_goto (tgt := 8) hx hb dn_M_linkOf_31 (by decide) ?_
          exact hk_8 x2 x3 ((x4 + 1)) s hf H locs ls hP hD hS (lv_sub hl [1, 2, 3, 0] rfl)
        · have hf := (if_pos h).symm.trans hf
          refine lv_iload hx hb dn_M_linkOf_25 (lv_at hl 3 rfl) ?_
          rw [hQQ, ← Option.some.inj hf]
          exact xk_iret (w1 := fun u : Unit => (wM h0 a cI cB cJ cZ s)) () hx hb hr hlocks hK hS dn_M_linkOf_27 hP hD rfl (Nat.le_refl _) (Nat.le_refl _)
  intro H locs ls hP hD hS hl
  unfold fn_M_linkOf at hf
  refine lv_aload_n hx hb dn_M_linkOf_0 rfl (lv_at hl 0 rfl) ?_
  refine va_get (D := (dC, dI)) (ci := 0) (v := .ref ((a 30))) (C := rn_M) (T := fn_M) (N := 91) hx hb hg in_M hown hK hP 0 rfl rfl 30 (by decide) (hg _ wn_8_103) (fun _ h9 => h9) rfl dn_M_linkOf_1 ?_
  refine lv_iload_n hx hb dn_M_linkOf_4 rfl (lv_at hl 1 rfl) ?_
  obtain ⟨hg_1, hf⟩ := dc_g hf
  refine va_iald hx hb hK hP 20 0 rfl rfl hg_1 dn_M_linkOf_5 ?_
  refine xk_ti (y := ((s.1 30) (Int32.toNatClampNeg v1))) rfl ?_
  refine lv_istore (lv' := [(4, .int (((s.1 30) (Int32.toNatClampNeg v1)))), (0, .ref h0), (1, .int v1), (2, .int v2), (3, .int v3)]) hx hb dn_M_linkOf_6 hl (by decide) rfl (fun ls hl => ?_)
  exact hd_8 N v2 v3 (((s.1 30) (Int32.toNatClampNeg v1))) s hf H locs ls hP hD hS (lv_sub hl [1, 3, 4, 0] rfl)
theorem mn_M_cost (N : Nat) (v1 : Int64) (s : ms) (y : (Unit × ms)) (hf : fn_M_cost N v1 s = some y) : gl y.2 = gl s := by
  unfold fn_M_cost at hf
  have hm : gl s = gl s := rfl
  obtain ⟨_, hf⟩ := dc_g hf
  obtain ⟨_, hf⟩ := dc_g hf
  exact (dc_e hf).trans hm
set_option maxHeartbeats 8000000 in
set_option maxRecDepth 100000 in
theorem ct_M_cost (l : Launch) (dC : Nat → ClassId) (dI : Nat → Nat → Nat) (cI cB cJ cZ cQ : ClassId) (N sz : Nat) (h0 : Nat) (a : Nat → Nat) (v1 : Int64) (s : ms) (y : (Unit × ms)) (hf : fn_M_cost N v1 s = some y) : Met l yn_M_cost (xw yn_M_cost bn_M_cost 3 none) ({ frames := 0, cells := 0, slots := 0, locals := 0 }) (dc_P (dC, dI) xcl (xt cI cB cJ cZ cQ) [.ref h0, .long v1] sz (wM h0 a cI cB cJ cZ s)) (xk_Qv (dC, dI) xcl (xt cI cB cJ cZ cQ) (fun _ : Unit => True) (fun u : Unit => (wM h0 a cI cB cJ cZ y.2)) (va_A (wM h0 a cI cB cJ cZ s) sz)) 0 0 (va_A (wM h0 a cI cB cJ cZ s) sz) := by
  refine dc_of (QA := xk_Qv (dC, dI) xcl (xt cI cB cJ cZ cQ) (fun _ : Unit => True) (fun u : Unit => (wM h0 a cI cB cJ cZ y.2))) (by decide) (Nat.le_of_ble_eq_true rfl) ?_
  intro p e s0 m below meth c hx hb hml hown hg hr hlocks hin hP hK hN A hA hD hT ls hl
  have hown : s0.vm.findClass rn_M = some m.cls := hown
  obtain ⟨H, hH⟩ : ∃ z, z = s0.heap := ⟨_, rfl⟩
  rw [← hH] at hP
  have hS : va_S A s0.heap H [] := by rw [hH]; exact va_S.rf
  suffices kk : ∀ QQ : State → Prop, QQ = MQ below (xk_Qv (dC, dI) xcl (xt cI cB cJ cZ cQ) (fun _ : Unit => True) (fun u : Unit => (wM h0 a cI cB cJ cZ y.2)) A) [.ref h0, .long v1].toArray s0 0 0 A → dcC p l e ({ frames := 0, cells := 0, slots := 0, locals := 0 }) s0 m [.ref h0, .long v1].toArray below meth c QQ (dC, dI) A (wM h0 a cI cB cJ cZ s) 0 3 [(0, .ref h0), (1, .long v1)] [] by
    have k9 := kk _ rfl H [] ls hP hD hS hl
    rw [hH] at k9; exact k9
  clear hP hD hS hl hH H ls
  intro QQ hQQ
  intro H locs ls hP hD hS hl
  unfold fn_M_cost at hf
  refine lv_aload_n hx hb dn_M_cost_0 rfl (lv_at hl 0 rfl) ?_
  refine va_get (D := (dC, dI)) (ci := 0) (v := .ref ((a 45))) (C := rn_M) (T := fn_M) (N := 91) hx hb hg in_M hown hK hP 0 rfl rfl 45 (by decide) (hg _ wn_8_118) (fun _ h9 => h9) rfl dn_M_cost_1 ?_
  refine lv_aload_n hx hb dn_M_cost_4 rfl (lv_at hl 0 rfl) ?_
  refine va_get (D := (dC, dI)) (ci := 0) (v := .int ((s.1 12 0))) (C := rn_M) (T := fn_M) (N := 91) hx hb hg in_M hown hK hP 0 rfl rfl 12 (by decide) (hg _ wn_8_85) (fun _ h9 => h9) rfl dn_M_cost_5 ?_
  refine lv_aload_n hx hb dn_M_cost_8 rfl (lv_at hl 0 rfl) ?_
  refine va_get (D := (dC, dI)) (ci := 0) (v := .ref ((a 45))) (C := rn_M) (T := fn_M) (N := 91) hx hb hg in_M hown hK hP 0 rfl rfl 45 (by decide) (hg _ wn_8_118) (fun _ h9 => h9) rfl dn_M_cost_9 ?_
  refine lv_aload_n hx hb dn_M_cost_12 rfl (lv_at hl 0 rfl) ?_
  refine va_get (D := (dC, dI)) (ci := 0) (v := .int ((s.1 12 0))) (C := rn_M) (T := fn_M) (N := 91) hx hb hg in_M hown hK hP 0 rfl rfl 12 (by decide) (hg _ wn_8_85) (fun _ h9 => h9) rfl dn_M_cost_13 ?_
  obtain ⟨hg_1, hf⟩ := dc_g hf
  refine va_lald hx hb hK hP 30 2 rfl rfl hg_1 dn_M_cost_16 ?_
  refine xk_tl (y := ((s.2 45) (Int32.toNatClampNeg ((s.1 12 0))))) rfl ?_
  refine lv_lload_n hx hb dn_M_cost_17 rfl (lv_at hl 1 rfl) ?_
  refine lv_ladd hx hb dn_M_cost_18 ?_
  obtain ⟨hg_2, hf⟩ := dc_g hf
  refine va_last hx hb hK hP hD hS 30 2 rfl rfl hg_2 dn_M_cost_19 (fun H locs hP hD hS => ?_)
  have hP : va_P (dC, dI) xcl ((wM h0 a cI cB cJ cZ s).set 30 ((a 45), .inl (cJ, 3600, .inr (.inl (vp_updL (s.2 45) (Int32.toNatClampNeg ((s.1 12 0))) ((((s.2 45) (Int32.toNatClampNeg ((s.1 12 0)))) + v1))))))) H := hP
  have hD : va_D A ((wM h0 a cI cB cJ cZ s).set 30 ((a 45), .inl (cJ, 3600, .inr (.inl (vp_updL (s.2 45) (Int32.toNatClampNeg ((s.1 12 0))) ((((s.2 45) (Int32.toNatClampNeg ((s.1 12 0)))) + v1))))))) := hD
  have hP := wM_P_45 hP
  have hD := wM_D_45 hD
  rw [hQQ, ← Option.some.inj hf]
  exact xk_vret (w1 := fun u : Unit => (wM h0 a cI cB cJ cZ (upJ s 45 (vp_updL (s.2 45) (Int32.toNatClampNeg ((s.1 12 0))) ((((s.2 45) (Int32.toNatClampNeg ((s.1 12 0)))) + v1)))))) () hx hb hr hlocks hK hS dn_M_cost_20 hP hD trivial (Nat.le_refl _) (Nat.le_refl _)
theorem mn_M_pushWidth (N : Nat) (v1 : Int32) (s : ms) (y : (Unit × ms)) (hf : fn_M_pushWidth N v1 s = some y) : gl y.2 = gl s := by
  unfold fn_M_pushWidth at hf
  have hm : gl s = gl s := rfl
  obtain ⟨_, hf⟩ := dc_g hf
  exact (dc_e hf).trans hm
set_option maxHeartbeats 8000000 in
set_option maxRecDepth 100000 in
theorem ct_M_pushWidth (l : Launch) (dC : Nat → ClassId) (dI : Nat → Nat → Nat) (cI cB cJ cZ cQ : ClassId) (N sz : Nat) (h0 : Nat) (a : Nat → Nat) (v1 : Int32) (s : ms) (y : (Unit × ms)) (hf : fn_M_pushWidth N v1 s = some y) : Met l yn_M_pushWidth (xw yn_M_pushWidth bn_M_pushWidth 2 none) ({ frames := 0, cells := 0, slots := 0, locals := 0 }) (dc_P (dC, dI) xcl (xt cI cB cJ cZ cQ) [.ref h0, .int v1] sz (wM h0 a cI cB cJ cZ s)) (xk_Qv (dC, dI) xcl (xt cI cB cJ cZ cQ) (fun _ : Unit => True) (fun u : Unit => (wM h0 a cI cB cJ cZ y.2)) (va_A (wM h0 a cI cB cJ cZ s) sz)) 0 0 (va_A (wM h0 a cI cB cJ cZ s) sz) := by
  refine dc_of (QA := xk_Qv (dC, dI) xcl (xt cI cB cJ cZ cQ) (fun _ : Unit => True) (fun u : Unit => (wM h0 a cI cB cJ cZ y.2))) (by decide) (Nat.le_of_ble_eq_true rfl) ?_
  intro p e s0 m below meth c hx hb hml hown hg hr hlocks hin hP hK hN A hA hD hT ls hl
  have hown : s0.vm.findClass rn_M = some m.cls := hown
  obtain ⟨H, hH⟩ : ∃ z, z = s0.heap := ⟨_, rfl⟩
  rw [← hH] at hP
  have hS : va_S A s0.heap H [] := by rw [hH]; exact va_S.rf
  suffices kk : ∀ QQ : State → Prop, QQ = MQ below (xk_Qv (dC, dI) xcl (xt cI cB cJ cZ cQ) (fun _ : Unit => True) (fun u : Unit => (wM h0 a cI cB cJ cZ y.2)) A) [.ref h0, .int v1].toArray s0 0 0 A → dcC p l e ({ frames := 0, cells := 0, slots := 0, locals := 0 }) s0 m [.ref h0, .int v1].toArray below meth c QQ (dC, dI) A (wM h0 a cI cB cJ cZ s) 0 2 [(0, .ref h0), (1, .int v1)] [] by
    have k9 := kk _ rfl H [] ls hP hD hS hl
    rw [hH] at k9; exact k9
  clear hP hD hS hl hH H ls
  intro QQ hQQ
  intro H locs ls hP hD hS hl
  unfold fn_M_pushWidth at hf
  refine lv_aload_n hx hb dn_M_pushWidth_0 rfl (lv_at hl 0 rfl) ?_
  refine va_get (D := (dC, dI)) (ci := 0) (v := .ref ((a 52))) (C := rn_M) (T := fn_M) (N := 91) hx hb hg in_M hown hK hP 0 rfl rfl 52 (by decide) (hg _ wn_8_125) (fun _ h9 => h9) rfl dn_M_pushWidth_1 ?_
  refine lv_aload_n hx hb dn_M_pushWidth_4 rfl (lv_at hl 0 rfl) ?_
  refine va_get (D := (dC, dI)) (ci := 0) (v := .int ((s.1 53 0))) (C := rn_M) (T := fn_M) (N := 91) hx hb hg in_M hown hK hP 0 rfl rfl 53 (by decide) (hg _ wn_8_126) (fun _ h9 => h9) rfl dn_M_pushWidth_5 ?_
  refine lv_iload_n hx hb dn_M_pushWidth_8 rfl (lv_at hl 1 rfl) ?_
  obtain ⟨hg_1, hf⟩ := dc_g hf
  refine va_iast hx hb hK hP hD hS 36 0 rfl rfl hg_1 dn_M_pushWidth_9 (fun H locs hP hD hS => ?_)
  have hP : va_P (dC, dI) xcl ((wM h0 a cI cB cJ cZ s).set 36 ((a 52), .inl (cI, 4096, .inl (upd (s.1 52) (Int32.toNatClampNeg ((s.1 53 0))) v1)))) H := hP
  have hD : va_D A ((wM h0 a cI cB cJ cZ s).set 36 ((a 52), .inl (cI, 4096, .inl (upd (s.1 52) (Int32.toNatClampNeg ((s.1 53 0))) v1)))) := hD
  have hP := wM_P_52 hP
  have hD := wM_D_52 hD
  refine lv_aload_n hx hb dn_M_pushWidth_10 rfl (lv_at hl 0 rfl) ?_
  refine lv_dup hx hb dn_M_pushWidth_11 rfl ?_
  refine va_get (D := (dC, dI)) (ci := 0) (v := .int ((s.1 53 0))) (C := rn_M) (T := fn_M) (N := 91) hx hb hg in_M hown hK hP 0 rfl rfl 53 (by decide) (hg _ wn_8_126) (fun _ h9 => h9) rfl dn_M_pushWidth_12 ?_
  refine lv_iconst (v := 1) hx hb dn_M_pushWidth_15 (by decide) ?_
  refine lv_iadd hx hb dn_M_pushWidth_16 ?_
  refine va_put (D := (dC, dI)) (ci := 0) (v := .int (((s.1 53 0) + 1))) (ty := .int) (C := rn_M) (T := fn_M) (N := 91) hx hb hg in_M tn_M tk_M nn_M hown hK hP hD hS 0 rfl rfl 53 (by decide) (hg _ wn_8_126) (fun _ h9 => h9) rfl (tk_M 53 (by decide)) rfl rfl (Nat.le_of_ble_eq_true rfl) dn_M_pushWidth_17 (fun H locs hP hD hS => ?_)
  have hP := wM_P_53 hP
  have hD := wM_D_53 hD
  rw [hQQ, ← Option.some.inj hf]
  exact xk_vret (w1 := fun u : Unit => (wM h0 a cI cB cJ cZ (upI (upI s 52 (upd (s.1 52) (Int32.toNatClampNeg ((s.1 53 0))) v1)) 53 (fun _ => ((s.1 53 0) + 1))))) () hx hb hr hlocks hK hS dn_M_pushWidth_20 hP hD trivial (Nat.le_refl _) (Nat.le_refl _)
theorem mo_M_reckon_206 (N : Nat) (y : (Unit × ms)) (s : ms) (hf : bk_M_reckon_206 N s = some y) : gl s ≤ gl y.2 := by
  unfold bk_M_reckon_206 at hf
  have hm : gl s ≤ gl s := Nat.le_refl _
  exact Nat.le_trans hm (Nat.le_of_eq (dc_e hf).symm)
theorem mo_M_reckon_183 (N : Nat) (y : (Unit × ms)) (x1 : Int32) (t0 : Int32) (s : ms) (hf : bk_M_reckon_183 N x1 t0 s = some y) : gl s ≤ gl y.2 := by
  unfold bk_M_reckon_183 at hf
  have hm : gl s ≤ gl s := Nat.le_refl _
  obtain ⟨_, hf⟩ := dc_g hf
  obtain ⟨q_2, hc_3, hf⟩ := dc_b hf
  have hm := Nat.le_trans hm (mn_M_lay N 5 x1 t0 (upI s 52 (upd (s.1 52) (Int32.toNatClampNeg (((s.1 53 0) - 1))) t0)) q_2 hc_3)
  exact Nat.le_trans hm (mo_M_reckon_206 N y q_2.2 hf)
theorem mo_M_reckon_178 (N : Nat) (y : (Unit × ms)) (x1 : Int32) (s : ms) (hf : bk_M_reckon_178 N x1 s = some y) : gl s ≤ gl y.2 := by
  unfold bk_M_reckon_178 at hf
  have hm : gl s ≤ gl s := Nat.le_refl _
  exact Nat.le_trans hm (mo_M_reckon_183 N y x1 1 s hf)
theorem mo_M_reckon_155 (N : Nat) (y : (Unit × ms)) (x1 : Int32) (x3 : Int32) (x4 : Int32) (t0 : Int64) (s : ms) (hf : bk_M_reckon_155 N x1 x3 x4 t0 s = some y) : gl s ≤ gl y.2 := by
  unfold bk_M_reckon_155 at hf
  have hm : gl s ≤ gl s := Nat.le_refl _
  obtain ⟨q_1, hc_2, hf⟩ := dc_b hf
  have hm := Nat.le_trans hm (Nat.le_of_eq (mn_M_cost N t0 s q_1 hc_2).symm)
  by_cases h : x4 < 3
  · have hf := (if_pos h).symm.trans hf
    exact Nat.le_trans hm (mo_M_reckon_178 N y x1 q_1.2 hf)
  · have hf := (if_neg h).symm.trans hf
    by_cases h : x4 = 6
    · have hf := (if_pos h).symm.trans hf
      exact Nat.le_trans hm (mo_M_reckon_178 N y x1 q_1.2 hf)
    · have hf := (if_neg h).symm.trans hf
      by_cases h : x4 = 7
      · have hf := (if_pos h).symm.trans hf
        exact Nat.le_trans hm (mo_M_reckon_178 N y x1 q_1.2 hf)
      · have hf := (if_neg h).symm.trans hf
        exact Nat.le_trans hm (mo_M_reckon_183 N y x1 x3 q_1.2 hf)
theorem mo_M_reckon_120 (N : Nat) (y : (Unit × ms)) (x1 : Int32) (x2 : Int32) (x3 : Int32) (x4 : Int32) (t0 : Int32) (s : ms) (hf : bk_M_reckon_120 N x1 x2 x3 x4 t0 s = some y) : gl s ≤ gl y.2 := by
  unfold bk_M_reckon_120 at hf
  have hm : gl s ≤ gl s := Nat.le_refl _
  by_cases h : x4 = 8
  · have hf := (if_pos h).symm.trans hf
    exact Nat.le_trans hm (mo_M_reckon_155 N y x1 x3 x4 ((Int32.toInt64 (((3 * x3) + x2)))) s hf)
  · have hf := (if_neg h).symm.trans hf
    by_cases h : x1 = 42
    · have hf := (if_pos h).symm.trans hf
      exact Nat.le_trans hm (mo_M_reckon_155 N y x1 x3 x4 ((Int32.toInt64 ((x3 * x3)))) s hf)
    · have hf := (if_neg h).symm.trans hf
      exact Nat.le_trans hm (mo_M_reckon_155 N y x1 x3 x4 ((Int32.toInt64 t0)) s hf)
theorem mo_M_reckon_110 (N : Nat) (y : (Unit × ms)) (x1 : Int32) (x2 : Int32) (x3 : Int32) (x4 : Int32) (s : ms) (hf : bk_M_reckon_110 N x1 x2 x3 x4 s = some y) : gl s ≤ gl y.2 := by
  unfold bk_M_reckon_110 at hf
  have hm : gl s ≤ gl s := Nat.le_refl _
  by_cases h : x3 ≤ x2
  · have hf := (if_pos h).symm.trans hf
    exact Nat.le_trans hm (mo_M_reckon_120 N y x1 x2 x3 x4 x2 s hf)
  · have hf := (if_neg h).symm.trans hf
    exact Nat.le_trans hm (mo_M_reckon_120 N y x1 x2 x3 x4 x3 s hf)
theorem mo_M_reckon_76 (N : Nat) (y : (Unit × ms)) (x1 : Int32) (x2 : Int32) (x3 : Int32) (x4 : Int32) (t0 : Int32) (s : ms) (hf : bk_M_reckon_76 N x1 x2 x3 x4 t0 s = some y) : gl s ≤ gl y.2 := by
  unfold bk_M_reckon_76 at hf
  have hm : gl s ≤ gl s := Nat.le_refl _
  by_cases h : (s.1 9 0) = 0
  · have hf := (if_pos h).symm.trans hf
    by_cases h : t0 = 0
    · have hf := (if_pos h).symm.trans hf
      by_cases h : x3 = x2
      · have hf := (if_pos h).symm.trans hf
        exact Nat.le_trans hm (mo_M_reckon_110 N y x1 x2 x3 x4 s hf)
      · have hf := (if_neg h).symm.trans hf
        obtain ⟨_, hf⟩ := dc_g hf
        obtain ⟨q_2, hc_3, hf⟩ := dc_b hf
        have hm := Nat.le_trans hm (Nat.le_of_eq (mn_M_fail N 30 (((s.1 50) (Int32.toNatClampNeg ((s.1 51 0))))) s q_2 hc_3).symm)
        exact Nat.le_trans hm (mo_M_reckon_110 N y x1 x2 x3 x4 q_2.2 hf)
    · have hf := (if_neg h).symm.trans hf
      exact Nat.le_trans hm (mo_M_reckon_110 N y x1 x2 x3 x4 s hf)
  · have hf := (if_neg h).symm.trans hf
    exact Nat.le_trans hm (mo_M_reckon_110 N y x1 x2 x3 x4 s hf)
theorem mo_M_reckon_71 (N : Nat) (y : (Unit × ms)) (x1 : Int32) (x2 : Int32) (x3 : Int32) (x4 : Int32) (s : ms) (hf : bk_M_reckon_71 N x1 x2 x3 x4 s = some y) : gl s ≤ gl y.2 := by
  unfold bk_M_reckon_71 at hf
  have hm : gl s ≤ gl s := Nat.le_refl _
  exact Nat.le_trans hm (mo_M_reckon_76 N y x1 x2 x3 x4 1 s hf)
theorem mn_M_reckon (N : Nat) (s1 : ms) (y : (Unit × ms)) (hf : fn_M_reckon N s1 = some y) : gl s1 ≤ gl y.2 := by
  unfold fn_M_reckon at hf
  have hm : gl s1 ≤ gl s1 := Nat.le_refl _
  obtain ⟨_, hf⟩ := dc_g hf
  obtain ⟨_, hf⟩ := dc_g hf
  obtain ⟨_, hf⟩ := dc_g hf
  obtain ⟨q_4, hc_5, hf⟩ := dc_b hf
  have hm := Nat.le_trans hm (Nat.le_of_eq (mn_M_rank N (((s1.1 49) (Int32.toNatClampNeg (((s1.1 51 0) - 1))))) (upI (upI s1 51 (fun _ => ((s1.1 51 0) - 1))) 53 (fun _ => ((s1.1 53 0) - 1))) q_4 hc_5).symm)
  by_cases h : q_4.1 < 3
  · have hf := (if_pos h).symm.trans hf
    exact Nat.le_trans hm (mo_M_reckon_71 N y (((s1.1 49) (Int32.toNatClampNeg (((s1.1 51 0) - 1))))) (((s1.1 52) (Int32.toNatClampNeg (((s1.1 53 0) - 1))))) (((s1.1 52) (Int32.toNatClampNeg ((((s1.1 53 0) - 1) - 1))))) q_4.1 q_4.2 hf)
  · have hf := (if_neg h).symm.trans hf
    by_cases h : q_4.1 = 8
    · have hf := (if_pos h).symm.trans hf
      exact Nat.le_trans hm (mo_M_reckon_71 N y (((s1.1 49) (Int32.toNatClampNeg (((s1.1 51 0) - 1))))) (((s1.1 52) (Int32.toNatClampNeg (((s1.1 53 0) - 1))))) (((s1.1 52) (Int32.toNatClampNeg ((((s1.1 53 0) - 1) - 1))))) q_4.1 q_4.2 hf)
    · have hf := (if_neg h).symm.trans hf
      exact Nat.le_trans hm (mo_M_reckon_76 N y (((s1.1 49) (Int32.toNatClampNeg (((s1.1 51 0) - 1))))) (((s1.1 52) (Int32.toNatClampNeg (((s1.1 53 0) - 1))))) (((s1.1 52) (Int32.toNatClampNeg ((((s1.1 53 0) - 1) - 1))))) q_4.1 0 q_4.2 hf)
set_option maxHeartbeats 8000000 in
set_option maxRecDepth 100000 in
theorem ct_M_reckon (l : Launch) (dC : Nat → ClassId) (dI : Nat → Nat → Nat) (cI cB cJ cZ cQ : ClassId) (N sz : Nat) (h0 : Nat) (a : Nat → Nat) (s1 : ms) (y : (Unit × ms)) (hf : fn_M_reckon N s1 = some y) : Met l yn_M_reckon (xw yn_M_reckon bn_M_reckon 8 none) ({ frames := 1, cells := 2 * (gl y.2 - gl s1), slots := 2 * (gl y.2 - gl s1), locals := 25 }) (dc_P (dC, dI) xcl (xt cI cB cJ cZ cQ) [.ref h0] sz (wM h0 a cI cB cJ cZ s1)) (xk_Qv (dC, dI) xcl (xt cI cB cJ cZ cQ) (fun _ : Nat → Nat => True) (fun u : Nat → Nat => (wM h0 u cI cB cJ cZ y.2)) (va_A (wM h0 a cI cB cJ cZ s1) sz)) (2 * (gl y.2 - gl s1)) (2 * (gl y.2 - gl s1)) (va_A (wM h0 a cI cB cJ cZ s1) sz) := by
  refine dc_of (QA := xk_Qv (dC, dI) xcl (xt cI cB cJ cZ cQ) (fun _ : Nat → Nat => True) (fun u : Nat → Nat => (wM h0 u cI cB cJ cZ y.2))) (by decide) (Nat.le_of_ble_eq_true rfl) ?_
  intro p e s0 m below meth c hx hb hml hown hg hr hlocks hin hP hK hN A hA hD hT ls hl
  have hown : s0.vm.findClass rn_M = some m.cls := hown
  obtain ⟨H, hH⟩ : ∃ z, z = s0.heap := ⟨_, rfl⟩
  rw [← hH] at hP
  have hS : va_S A s0.heap H [] := by rw [hH]; exact va_S.rf
  suffices kk : ∀ QQ : State → Prop, QQ = MQ below (xk_Qv (dC, dI) xcl (xt cI cB cJ cZ cQ) (fun _ : Nat → Nat => True) (fun u : Nat → Nat => (wM h0 u cI cB cJ cZ y.2)) A) [.ref h0].toArray s0 (2 * (gl y.2 - gl s1)) (2 * (gl y.2 - gl s1)) A → gl s1 ≤ gl s1 → dcG p l e ({ frames := 1, cells := 2 * (gl y.2 - gl s1), slots := 2 * (gl y.2 - gl s1), locals := 25 }) s0 m [.ref h0].toArray below meth c QQ (dC, dI) A (fun a => (wM h0 a cI cB cJ cZ s1)) (2 * (gl s1 - gl s1)) 0 8 [(0, .ref h0)] [] by
    have k9 := kk _ rfl (Nat.le_refl _) a H [] ls hP hD hS hl
    rw [hH, Nat.sub_self] at k9; exact k9
  clear hP hD hS hl hH H ls
  intro QQ hQQ
  have bl_206 : ∀ (s : ms), bk_M_reckon_206 N s = some y → gl s1 ≤ gl s → dcG p l e ({ frames := 1, cells := 2 * (gl y.2 - gl s1), slots := 2 * (gl y.2 - gl s1), locals := 25 }) s0 m [.ref h0].toArray below meth c QQ (dC, dI) A (fun a => (wM h0 a cI cB cJ cZ s)) (2 * (gl s - gl s1)) 206 8 [] [] := by
    intro s hf hge a H locs ls hP hD hS hl
    have hle := mo_M_reckon_206 N y s hf
    unfold bk_M_reckon_206 at hf
    rw [hQQ, ← Option.some.inj hf]
    exact xk_vret (w1 := fun u : Nat → Nat => (wM h0 u cI cB cJ cZ s)) a hx hb hr hlocks hK hS dn_M_reckon_206 hP hD trivial (Nat.le_refl _) (Nat.le_refl _)
  have bl_183 : ∀ (x1 : Int32) (t0 : Int32) (s : ms), bk_M_reckon_183 N x1 t0 s = some y → gl s1 ≤ gl s → dcG p l e ({ frames := 1, cells := 2 * (gl y.2 - gl s1), slots := 2 * (gl y.2 - gl s1), locals := 25 }) s0 m [.ref h0].toArray below meth c QQ (dC, dI) A (fun a => (wM h0 a cI cB cJ cZ s)) (2 * (gl s - gl s1)) 183 8 [(0, .ref h0), (1, .int x1)] [.int t0] := by
    intro x1 t0 s hf hge a H locs ls hP hD hS hl
    have hle := mo_M_reckon_183 N y x1 t0 s hf
    unfold bk_M_reckon_183 at hf
    refine lv_istore (lv' := [(7, .int t0), (0, .ref h0), (1, .int x1)]) hx hb dn_M_reckon_183 hl (by decide) rfl (fun ls hl => ?_)
    refine lv_aload_n hx hb dn_M_reckon_185 rfl (lv_at hl 1 rfl) ?_
    refine va_get (D := (dC, dI)) (ci := 0) (v := .ref ((a 52))) (C := rn_M) (T := fn_M) (N := 91) hx hb hg in_M hown hK hP 0 rfl rfl 52 (by decide) (hg _ wn_8_125) (fun _ h9 => h9) rfl dn_M_reckon_186 ?_
    refine lv_aload_n hx hb dn_M_reckon_189 rfl (lv_at hl 1 rfl) ?_
    refine va_get (D := (dC, dI)) (ci := 0) (v := .int ((s.1 53 0))) (C := rn_M) (T := fn_M) (N := 91) hx hb hg in_M hown hK hP 0 rfl rfl 53 (by decide) (hg _ wn_8_126) (fun _ h9 => h9) rfl dn_M_reckon_190 ?_
    refine lv_iconst (v := 1) hx hb dn_M_reckon_193 (by decide) ?_
    refine lv_isub hx hb dn_M_reckon_194 ?_
    refine lv_iload hx hb dn_M_reckon_195 (lv_at hl 0 rfl) ?_
    obtain ⟨hg_1, hf⟩ := dc_g hf
    refine va_iast hx hb hK hP hD hS 36 0 rfl rfl hg_1 dn_M_reckon_197 (fun H locs hP hD hS => ?_)
    have hP : va_P (dC, dI) xcl ((wM h0 a cI cB cJ cZ s).set 36 ((a 52), .inl (cI, 4096, .inl (upd (s.1 52) (Int32.toNatClampNeg (((s.1 53 0) - 1))) t0)))) H := hP
    have hD : va_D A ((wM h0 a cI cB cJ cZ s).set 36 ((a 52), .inl (cI, 4096, .inl (upd (s.1 52) (Int32.toNatClampNeg (((s.1 53 0) - 1))) t0)))) := hD
    have hP := wM_P_52 hP
    have hD := wM_D_52 hD
    refine lv_aload_n hx hb dn_M_reckon_198 rfl (lv_at hl 1 rfl) ?_
    refine lv_iconst (v := 5) hx hb dn_M_reckon_199 (by decide) ?_
    refine lv_iload_n hx hb dn_M_reckon_200 rfl (lv_at hl 2 rfl) ?_
    refine lv_iload hx hb dn_M_reckon_201 (lv_at hl 0 rfl) ?_
    obtain ⟨q_2, hc_3, hf⟩ := dc_b hf
    have hmg := mn_M_lay N 5 x1 t0 (upI s 52 (upd (s.1 52) (Int32.toNatClampNeg (((s.1 53 0) - 1))) t0)) q_2 hc_3
    have hle2 : gl q_2.2 ≤ gl y.2 := mo_M_reckon_206 N y _ hf
    refine dc_callv (dc_runV (ar := 3) (As := [.int 5, .int x1, .int t0]) (rest := []) (ci := 0) (q0 := 0) ⟨hx, hb, hml, hown, hg⟩ hK hN hT hS hA (ct_M_lay l dC dI cI cB cJ cZ cQ N H.size h0 a 5 x1 t0 (upI s 52 (upd (s.1 52) (Int32.toNatClampNeg (((s.1 53 0) - 1))) t0)) q_2 hc_3) hP hD rfl rfl wn_10_97 wn_10_99 sn_M_lay wn_1_13 wn_10_100 rfl rfl (by decide +kernel) ⟨Nat.le_of_ble_eq_true rfl, Nat.le_of_ble_eq_true rfl⟩ rfl hl.1 rfl (Nat.le_of_ble_eq_true rfl) dn_M_reckon_203 (dc_rm hge hmg hle2)) hP hD hS hA (fun a H locs hw hP hD hS => ?_)
    refine W.widen (k := 2 * (gl q_2.2 - gl s1)) (n := 2 * (gl q_2.2 - gl s1)) (dc_wa hge hmg) (dc_wa hge hmg) ?_
    have hge := Nat.le_trans hge hmg
    have hle := hle2
    exact bl_206 q_2.2 hf hge a H locs ls hP hD hS (lv_sub hl [] rfl)
  have bl_178 : ∀ (x1 : Int32) (s : ms), bk_M_reckon_178 N x1 s = some y → gl s1 ≤ gl s → dcG p l e ({ frames := 1, cells := 2 * (gl y.2 - gl s1), slots := 2 * (gl y.2 - gl s1), locals := 25 }) s0 m [.ref h0].toArray below meth c QQ (dC, dI) A (fun a => (wM h0 a cI cB cJ cZ s)) (2 * (gl s - gl s1)) 178 8 [(0, .ref h0), (1, .int x1)] [] := by
    intro x1 s hf hge a H locs ls hP hD hS hl
    have hle := mo_M_reckon_178 N y x1 s hf
    unfold bk_M_reckon_178 at hf
    refine lv_iconst (v := 1) hx hb dn_M_reckon_178 (by decide) ?_
    refine lv_goto (tgt := 183) hx hb dn_M_reckon_179 (by decide) ?_
    exact bl_183 x1 1 s hf hge a H locs ls hP hD hS hl
  have bl_155 : ∀ (x1 : Int32) (x3 : Int32) (x4 : Int32) (t0 : Int64) (s : ms), bk_M_reckon_155 N x1 x3 x4 t0 s = some y → gl s1 ≤ gl s → dcG p l e ({ frames := 1, cells := 2 * (gl y.2 - gl s1), slots := 2 * (gl y.2 - gl s1), locals := 25 }) s0 m [.ref h0].toArray below meth c QQ (dC, dI) A (fun a => (wM h0 a cI cB cJ cZ s)) (2 * (gl s - gl s1)) 155 8 [(0, .ref h0), (1, .int x1), (3, .int x3), (4, .int x4)] [.long t0, .ref h0] := by
    intro x1 x3 x4 t0 s hf hge a H locs ls hP hD hS hl
    have hle := mo_M_reckon_155 N y x1 x3 x4 t0 s hf
    unfold bk_M_reckon_155 at hf
    obtain ⟨q_1, hc_2, hf⟩ := dc_b hf
    have hme := mn_M_cost N t0 s q_1 hc_2
    refine dc_callv (dc_runV (ar := 1) (As := [.long t0]) (rest := []) (ci := 0) (q0 := 0) ⟨hx, hb, hml, hown, hg⟩ hK hN hT hS hA (ct_M_cost l dC dI cI cB cJ cZ cQ N H.size h0 a t0 s q_1 hc_2) hP hD rfl rfl wn_10_109 wn_10_111 sn_M_cost wn_1_13 wn_10_112 rfl rfl (by decide +kernel) ⟨Nat.le_of_ble_eq_true rfl, Nat.le_of_ble_eq_true rfl⟩ rfl hl.1 rfl (Nat.le_of_ble_eq_true rfl) dn_M_reckon_155 (dc_rm0 hle)) hP hD hS hA (fun _ H locs hw hP hD hS => ?_)
    refine W.widen (k := 2 * (gl q_1.2 - gl s1)) (n := 2 * (gl q_1.2 - gl s1)) (dc_we hme) (dc_we hme) ?_
    have hge := Nat.le_trans hge (Nat.le_of_eq hme.symm)
    have hle := Nat.le_trans (Nat.le_of_eq hme) hle
    refine lv_iload hx hb dn_M_reckon_158 (lv_at hl 3 rfl) ?_
    refine lv_iconst (v := 3) hx hb dn_M_reckon_160 (by decide) ?_
    refine lv_icmp_lt (tgt := 178) hx hb dn_M_reckon_161 (by decide) (fun h => ?_) (fun h => ?_)
    · have hf := (if_pos h).symm.trans hf
      exact bl_178 x1 q_1.2 hf hge a H locs ls hP hD hS (lv_sub hl [0, 1] rfl)
    · have hf := (if_neg h).symm.trans hf
      refine lv_iload hx hb dn_M_reckon_164 (lv_at hl 3 rfl) ?_
      refine lv_bipush (v := 6) hx hb dn_M_reckon_166 (by decide) ?_
      refine lv_icmp_eq (tgt := 178) hx hb dn_M_reckon_168 (by decide) (fun h => ?_) (fun h => ?_)
      · have hf := (if_pos h).symm.trans hf
        exact bl_178 x1 q_1.2 hf hge a H locs ls hP hD hS (lv_sub hl [0, 1] rfl)
      · have hf := (if_neg h).symm.trans hf
        refine lv_iload hx hb dn_M_reckon_171 (lv_at hl 3 rfl) ?_
        refine lv_bipush (v := 7) hx hb dn_M_reckon_173 (by decide) ?_
        refine lv_icmp_ne (tgt := 182) hx hb dn_M_reckon_175 (by decide) (fun h => ?_) (fun h => ?_)
        · have hf := (if_neg h).symm.trans hf
          refine lv_iload_n hx hb dn_M_reckon_182 rfl (lv_at hl 2 rfl) ?_
          exact bl_183 x1 x3 q_1.2 hf hge a H locs ls hP hD hS (lv_sub hl [0, 1] rfl)
        · have hf := (if_pos h).symm.trans hf
          exact bl_178 x1 q_1.2 hf hge a H locs ls hP hD hS (lv_sub hl [0, 1] rfl)
  have bl_120 : ∀ (x1 : Int32) (x2 : Int32) (x3 : Int32) (x4 : Int32) (t0 : Int32) (s : ms), bk_M_reckon_120 N x1 x2 x3 x4 t0 s = some y → gl s1 ≤ gl s → dcG p l e ({ frames := 1, cells := 2 * (gl y.2 - gl s1), slots := 2 * (gl y.2 - gl s1), locals := 25 }) s0 m [.ref h0].toArray below meth c QQ (dC, dI) A (fun a => (wM h0 a cI cB cJ cZ s)) (2 * (gl s - gl s1)) 120 8 [(0, .ref h0), (1, .int x1), (2, .int x2), (3, .int x3), (4, .int x4)] [.int t0] := by
    intro x1 x2 x3 x4 t0 s hf hge a H locs ls hP hD hS hl
    have hle := mo_M_reckon_120 N y x1 x2 x3 x4 t0 s hf
    unfold bk_M_reckon_120 at hf
    refine lv_istore (lv' := [(6, .int t0), (0, .ref h0), (1, .int x1), (2, .int x2), (3, .int x3), (4, .int x4)]) hx hb dn_M_reckon_120 hl (by decide) rfl (fun ls hl => ?_)
    refine lv_aload_n hx hb dn_M_reckon_122 rfl (lv_at hl 1 rfl) ?_
    refine lv_iload hx hb dn_M_reckon_123 (lv_at hl 5 rfl) ?_
    refine lv_bipush (v := 8) hx hb dn_M_reckon_125 (by decide) ?_
    refine lv_icmp_ne (tgt := 139) hx hb dn_M_reckon_127 (by decide) (fun h => ?_) (fun h => ?_)
    · have hf := (if_neg h).symm.trans hf
      refine lv_iload_n hx hb dn_M_reckon_139 rfl (lv_at hl 2 rfl) ?_
      refine lv_bipush (v := 42) hx hb dn_M_reckon_140 (by decide) ?_
      refine lv_icmp_ne (tgt := 152) hx hb dn_M_reckon_142 (by decide) (fun h => ?_) (fun h => ?_)
      · have hf := (if_neg h).symm.trans hf
        refine lv_iload hx hb dn_M_reckon_152 (lv_at hl 0 rfl) ?_
        refine lv_i2l (v := Int32.toInt64 t0) hx hb dn_M_reckon_154 rfl ?_
        exact bl_155 x1 x3 x4 ((Int32.toInt64 t0)) s hf hge a H locs ls hP hD hS (lv_sub hl [1, 2, 4, 5] rfl)
      · have hf := (if_pos h).symm.trans hf
        refine lv_iload_n hx hb dn_M_reckon_145 rfl (lv_at hl 4 rfl) ?_
        refine lv_iload_n hx hb dn_M_reckon_146 rfl (lv_at hl 4 rfl) ?_
        refine lv_imul hx hb dn_M_reckon_147 ?_
        refine lv_i2l (v := Int32.toInt64 ((x3 * x3))) hx hb dn_M_reckon_148 rfl ?_
        refine lv_goto (tgt := 155) hx hb dn_M_reckon_149 (by decide) ?_
        exact bl_155 x1 x3 x4 ((Int32.toInt64 ((x3 * x3)))) s hf hge a H locs ls hP hD hS (lv_sub hl [1, 2, 4, 5] rfl)
    · have hf := (if_pos h).symm.trans hf
      refine lv_iconst (v := 3) hx hb dn_M_reckon_130 (by decide) ?_
      refine lv_iload_n hx hb dn_M_reckon_131 rfl (lv_at hl 4 rfl) ?_
      refine lv_imul hx hb dn_M_reckon_132 ?_
      refine lv_iload_n hx hb dn_M_reckon_133 rfl (lv_at hl 3 rfl) ?_
      refine lv_iadd hx hb dn_M_reckon_134 ?_
      refine lv_i2l (v := Int32.toInt64 (((3 * x3) + x2))) hx hb dn_M_reckon_135 rfl ?_
      refine lv_goto (tgt := 155) hx hb dn_M_reckon_136 (by decide) ?_
      exact bl_155 x1 x3 x4 ((Int32.toInt64 (((3 * x3) + x2)))) s hf hge a H locs ls hP hD hS (lv_sub hl [1, 2, 4, 5] rfl)
  have bl_110 : ∀ (x1 : Int32) (x2 : Int32) (x3 : Int32) (x4 : Int32) (s : ms), bk_M_reckon_110 N x1 x2 x3 x4 s = some y → gl s1 ≤ gl s → dcG p l e ({ frames := 1, cells := 2 * (gl y.2 - gl s1), slots := 2 * (gl y.2 - gl s1), locals := 25 }) s0 m [.ref h0].toArray below meth c QQ (dC, dI) A (fun a => (wM h0 a cI cB cJ cZ s)) (2 * (gl s - gl s1)) 110 8 [(0, .ref h0), (1, .int x1), (2, .int x2), (3, .int x3), (4, .int x4)] [] := by
    intro x1 x2 x3 x4 s hf hge a H locs ls hP hD hS hl
    have hle := mo_M_reckon_110 N y x1 x2 x3 x4 s hf
    unfold bk_M_reckon_110 at hf
    refine lv_iload_n hx hb dn_M_reckon_110 rfl (lv_at hl 3 rfl) ?_
    refine lv_iload_n hx hb dn_M_reckon_111 rfl (lv_at hl 2 rfl) ?_
    refine lv_icmp_le (tgt := 119) hx hb dn_M_reckon_112 (by decide) (fun h => ?_) (fun h => ?_)
    · have hf := (if_pos h).symm.trans hf
      refine lv_iload_n hx hb dn_M_reckon_119 rfl (lv_at hl 2 rfl) ?_
      exact bl_120 x1 x2 x3 x4 x2 s hf hge a H locs ls hP hD hS hl
    · have hf := (if_neg h).symm.trans hf
      refine lv_iload_n hx hb dn_M_reckon_115 rfl (lv_at hl 3 rfl) ?_
      refine lv_goto (tgt := 120) hx hb dn_M_reckon_116 (by decide) ?_
      exact bl_120 x1 x2 x3 x4 x3 s hf hge a H locs ls hP hD hS hl
  have bl_76 : ∀ (x1 : Int32) (x2 : Int32) (x3 : Int32) (x4 : Int32) (t0 : Int32) (s : ms), bk_M_reckon_76 N x1 x2 x3 x4 t0 s = some y → gl s1 ≤ gl s → dcG p l e ({ frames := 1, cells := 2 * (gl y.2 - gl s1), slots := 2 * (gl y.2 - gl s1), locals := 25 }) s0 m [.ref h0].toArray below meth c QQ (dC, dI) A (fun a => (wM h0 a cI cB cJ cZ s)) (2 * (gl s - gl s1)) 76 8 [(0, .ref h0), (1, .int x1), (2, .int x2), (3, .int x3), (4, .int x4)] [.int t0] := by
    intro x1 x2 x3 x4 t0 s hf hge a H locs ls hP hD hS hl
    have hle := mo_M_reckon_76 N y x1 x2 x3 x4 t0 s hf
    unfold bk_M_reckon_76 at hf
    refine lv_istore (lv' := [(5, .int t0), (0, .ref h0), (1, .int x1), (2, .int x2), (3, .int x3), (4, .int x4)]) hx hb dn_M_reckon_76 hl (by decide) rfl (fun ls hl => ?_)
    refine lv_aload_n hx hb dn_M_reckon_78 rfl (lv_at hl 1 rfl) ?_
    refine va_get (D := (dC, dI)) (ci := 0) (v := .int ((s.1 9 0))) (C := rn_M) (T := fn_M) (N := 91) hx hb hg in_M hown hK hP 0 rfl rfl 9 (by decide) (hg _ wn_8_82) (fun _ h9 => h9) rfl dn_M_reckon_79 ?_
    refine lv_if_ne (tgt := 110) hx hb dn_M_reckon_82 (by decide) (fun h => ?_) (fun h => ?_)
    · have hf := (if_neg h).symm.trans hf
      exact bl_110 x1 x2 x3 x4 s hf hge a H locs ls hP hD hS (lv_sub hl [1, 2, 3, 4, 5] rfl)
    · have hf := (if_pos h).symm.trans hf
      refine lv_iload hx hb dn_M_reckon_85 (lv_at hl 0 rfl) ?_
      refine lv_if_ne (tgt := 110) hx hb dn_M_reckon_87 (by decide) (fun h => ?_) (fun h => ?_)
      · have hf := (if_neg h).symm.trans hf
        exact bl_110 x1 x2 x3 x4 s hf hge a H locs ls hP hD hS (lv_sub hl [1, 2, 3, 4, 5] rfl)
      · have hf := (if_pos h).symm.trans hf
        refine lv_iload_n hx hb dn_M_reckon_90 rfl (lv_at hl 4 rfl) ?_
        refine lv_iload_n hx hb dn_M_reckon_91 rfl (lv_at hl 3 rfl) ?_
        refine lv_icmp_eq (tgt := 110) hx hb dn_M_reckon_92 (by decide) (fun h => ?_) (fun h => ?_)
        · have hf := (if_pos h).symm.trans hf
          exact bl_110 x1 x2 x3 x4 s hf hge a H locs ls hP hD hS (lv_sub hl [1, 2, 3, 4, 5] rfl)
        · have hf := (if_neg h).symm.trans hf
          refine lv_aload_n hx hb dn_M_reckon_95 rfl (lv_at hl 1 rfl) ?_
          refine lv_bipush (v := 30) hx hb dn_M_reckon_96 (by decide) ?_
          refine lv_aload_n hx hb dn_M_reckon_98 rfl (lv_at hl 1 rfl) ?_
          refine va_get (D := (dC, dI)) (ci := 0) (v := .ref ((a 50))) (C := rn_M) (T := fn_M) (N := 91) hx hb hg in_M hown hK hP 0 rfl rfl 50 (by decide) (hg _ wn_8_123) (fun _ h9 => h9) rfl dn_M_reckon_99 ?_
          refine lv_aload_n hx hb dn_M_reckon_102 rfl (lv_at hl 1 rfl) ?_
          refine va_get (D := (dC, dI)) (ci := 0) (v := .int ((s.1 51 0))) (C := rn_M) (T := fn_M) (N := 91) hx hb hg in_M hown hK hP 0 rfl rfl 51 (by decide) (hg _ wn_8_124) (fun _ h9 => h9) rfl dn_M_reckon_103 ?_
          obtain ⟨hg_1, hf⟩ := dc_g hf
          refine va_iald hx hb hK hP 35 0 rfl rfl hg_1 dn_M_reckon_106 ?_
          refine xk_ti (y := ((s.1 50) (Int32.toNatClampNeg ((s.1 51 0))))) rfl ?_
          obtain ⟨q_2, hc_3, hf⟩ := dc_b hf
          have hme := mn_M_fail N 30 (((s.1 50) (Int32.toNatClampNeg ((s.1 51 0))))) s q_2 hc_3
          refine dc_callv (dc_runV (ar := 2) (As := [.int 30, .int (((s.1 50) (Int32.toNatClampNeg ((s.1 51 0)))))]) (rest := []) (ci := 0) (q0 := 0) ⟨hx, hb, hml, hown, hg⟩ hK hN hT hS hA (ct_M_fail l dC dI cI cB cJ cZ cQ N H.size h0 a 30 (((s.1 50) (Int32.toNatClampNeg ((s.1 51 0))))) s q_2 hc_3) hP hD rfl rfl wn_9_186 wn_9_188 sn_M_fail wn_1_13 wn_9_189 rfl rfl (by decide +kernel) ⟨Nat.le_of_ble_eq_true rfl, Nat.le_of_ble_eq_true rfl⟩ rfl hl.1 rfl (Nat.le_of_ble_eq_true rfl) dn_M_reckon_107 (dc_rm0 hle)) hP hD hS hA (fun _ H locs hw hP hD hS => ?_)
          refine W.widen (k := 2 * (gl q_2.2 - gl s1)) (n := 2 * (gl q_2.2 - gl s1)) (dc_we hme) (dc_we hme) ?_
          have hge := Nat.le_trans hge (Nat.le_of_eq hme.symm)
          have hle := Nat.le_trans (Nat.le_of_eq hme) hle
          exact bl_110 x1 x2 x3 x4 q_2.2 hf hge a H locs ls hP hD hS (lv_sub hl [1, 2, 3, 4, 5] rfl)
  have bl_71 : ∀ (x1 : Int32) (x2 : Int32) (x3 : Int32) (x4 : Int32) (s : ms), bk_M_reckon_71 N x1 x2 x3 x4 s = some y → gl s1 ≤ gl s → dcG p l e ({ frames := 1, cells := 2 * (gl y.2 - gl s1), slots := 2 * (gl y.2 - gl s1), locals := 25 }) s0 m [.ref h0].toArray below meth c QQ (dC, dI) A (fun a => (wM h0 a cI cB cJ cZ s)) (2 * (gl s - gl s1)) 71 8 [(0, .ref h0), (1, .int x1), (2, .int x2), (3, .int x3), (4, .int x4)] [] := by
    intro x1 x2 x3 x4 s hf hge a H locs ls hP hD hS hl
    have hle := mo_M_reckon_71 N y x1 x2 x3 x4 s hf
    unfold bk_M_reckon_71 at hf
    refine lv_iconst (v := 1) hx hb dn_M_reckon_71 (by decide) ?_
    refine lv_goto (tgt := 76) hx hb dn_M_reckon_72 (by decide) ?_
    exact bl_76 x1 x2 x3 x4 1 s hf hge a H locs ls hP hD hS hl
  intro hge a H locs ls hP hD hS hl
  have hle := mn_M_reckon N s1 y hf
  unfold fn_M_reckon at hf
  refine lv_aload_n hx hb dn_M_reckon_0 rfl (lv_at hl 0 rfl) ?_
  refine lv_dup hx hb dn_M_reckon_1 rfl ?_
  refine va_get (D := (dC, dI)) (ci := 0) (v := .int ((s1.1 51 0))) (C := rn_M) (T := fn_M) (N := 91) hx hb hg in_M hown hK hP 0 rfl rfl 51 (by decide) (hg _ wn_8_124) (fun _ h9 => h9) rfl dn_M_reckon_2 ?_
  refine lv_iconst (v := 1) hx hb dn_M_reckon_5 (by decide) ?_
  refine lv_isub hx hb dn_M_reckon_6 ?_
  refine va_put (D := (dC, dI)) (ci := 0) (v := .int (((s1.1 51 0) - 1))) (ty := .int) (C := rn_M) (T := fn_M) (N := 91) hx hb hg in_M tn_M tk_M nn_M hown hK hP hD hS 0 rfl rfl 51 (by decide) (hg _ wn_8_124) (fun _ h9 => h9) rfl (tk_M 51 (by decide)) rfl rfl (Nat.le_of_ble_eq_true rfl) dn_M_reckon_7 (fun H locs hP hD hS => ?_)
  have hP := wM_P_51 hP
  have hD := wM_D_51 hD
  refine lv_aload_n hx hb dn_M_reckon_10 rfl (lv_at hl 0 rfl) ?_
  refine va_get (D := (dC, dI)) (ci := 0) (v := .ref ((a 49))) (C := rn_M) (T := fn_M) (N := 91) hx hb hg in_M hown hK hP 0 rfl rfl 49 (by decide) (hg _ wn_8_122) (fun _ h9 => h9) rfl dn_M_reckon_11 ?_
  refine lv_aload_n hx hb dn_M_reckon_14 rfl (lv_at hl 0 rfl) ?_
  refine va_get (D := (dC, dI)) (ci := 0) (v := .int (((s1.1 51 0) - 1))) (C := rn_M) (T := fn_M) (N := 91) hx hb hg in_M hown hK hP 0 rfl rfl 51 (by decide) (hg _ wn_8_124) (fun _ h9 => h9) rfl dn_M_reckon_15 ?_
  obtain ⟨hg_1, hf⟩ := dc_g hf
  refine va_iald hx hb hK hP 34 0 rfl rfl hg_1 dn_M_reckon_18 ?_
  refine xk_ti (y := ((s1.1 49) (Int32.toNatClampNeg (((s1.1 51 0) - 1))))) rfl ?_
  refine lv_istore_n (lv' := [(1, .int (((s1.1 49) (Int32.toNatClampNeg (((s1.1 51 0) - 1)))))), (0, .ref h0)]) hx hb dn_M_reckon_19 rfl hl (by decide) rfl (fun ls hl => ?_)
  refine lv_aload_n hx hb dn_M_reckon_20 rfl (lv_at hl 1 rfl) ?_
  refine lv_dup hx hb dn_M_reckon_21 rfl ?_
  refine va_get (D := (dC, dI)) (ci := 0) (v := .int ((s1.1 53 0))) (C := rn_M) (T := fn_M) (N := 91) hx hb hg in_M hown hK hP 0 rfl rfl 53 (by decide) (hg _ wn_8_126) (fun _ h9 => h9) rfl dn_M_reckon_22 ?_
  refine lv_iconst (v := 1) hx hb dn_M_reckon_25 (by decide) ?_
  refine lv_isub hx hb dn_M_reckon_26 ?_
  refine va_put (D := (dC, dI)) (ci := 0) (v := .int (((s1.1 53 0) - 1))) (ty := .int) (C := rn_M) (T := fn_M) (N := 91) hx hb hg in_M tn_M tk_M nn_M hown hK hP hD hS 0 rfl rfl 53 (by decide) (hg _ wn_8_126) (fun _ h9 => h9) rfl (tk_M 53 (by decide)) rfl rfl (Nat.le_of_ble_eq_true rfl) dn_M_reckon_27 (fun H locs hP hD hS => ?_)
  have hP := wM_P_53 hP
  have hD := wM_D_53 hD
  refine lv_aload_n hx hb dn_M_reckon_30 rfl (lv_at hl 1 rfl) ?_
  refine va_get (D := (dC, dI)) (ci := 0) (v := .ref ((a 52))) (C := rn_M) (T := fn_M) (N := 91) hx hb hg in_M hown hK hP 0 rfl rfl 52 (by decide) (hg _ wn_8_125) (fun _ h9 => h9) rfl dn_M_reckon_31 ?_
  refine lv_aload_n hx hb dn_M_reckon_34 rfl (lv_at hl 1 rfl) ?_
  refine va_get (D := (dC, dI)) (ci := 0) (v := .int (((s1.1 53 0) - 1))) (C := rn_M) (T := fn_M) (N := 91) hx hb hg in_M hown hK hP 0 rfl rfl 53 (by decide) (hg _ wn_8_126) (fun _ h9 => h9) rfl dn_M_reckon_35 ?_
  obtain ⟨hg_2, hf⟩ := dc_g hf
  refine va_iald hx hb hK hP 36 0 rfl rfl hg_2 dn_M_reckon_38 ?_
  refine xk_ti (y := ((s1.1 52) (Int32.toNatClampNeg (((s1.1 53 0) - 1))))) rfl ?_
  refine lv_istore_n (lv' := [(2, .int (((s1.1 52) (Int32.toNatClampNeg (((s1.1 53 0) - 1)))))), (1, .int (((s1.1 49) (Int32.toNatClampNeg (((s1.1 51 0) - 1)))))), (0, .ref h0)]) hx hb dn_M_reckon_39 rfl hl (by decide) rfl (fun ls hl => ?_)
  refine lv_aload_n hx hb dn_M_reckon_40 rfl (lv_at hl 2 rfl) ?_
  refine va_get (D := (dC, dI)) (ci := 0) (v := .ref ((a 52))) (C := rn_M) (T := fn_M) (N := 91) hx hb hg in_M hown hK hP 0 rfl rfl 52 (by decide) (hg _ wn_8_125) (fun _ h9 => h9) rfl dn_M_reckon_41 ?_
  refine lv_aload_n hx hb dn_M_reckon_44 rfl (lv_at hl 2 rfl) ?_
  refine va_get (D := (dC, dI)) (ci := 0) (v := .int (((s1.1 53 0) - 1))) (C := rn_M) (T := fn_M) (N := 91) hx hb hg in_M hown hK hP 0 rfl rfl 53 (by decide) (hg _ wn_8_126) (fun _ h9 => h9) rfl dn_M_reckon_45 ?_
  refine lv_iconst (v := 1) hx hb dn_M_reckon_48 (by decide) ?_
  refine lv_isub hx hb dn_M_reckon_49 ?_
  obtain ⟨hg_3, hf⟩ := dc_g hf
  refine va_iald hx hb hK hP 36 0 rfl rfl hg_3 dn_M_reckon_50 ?_
  refine xk_ti (y := ((s1.1 52) (Int32.toNatClampNeg ((((s1.1 53 0) - 1) - 1))))) rfl ?_
  refine lv_istore_n (lv' := [(3, .int (((s1.1 52) (Int32.toNatClampNeg ((((s1.1 53 0) - 1) - 1)))))), (2, .int (((s1.1 52) (Int32.toNatClampNeg (((s1.1 53 0) - 1)))))), (1, .int (((s1.1 49) (Int32.toNatClampNeg (((s1.1 51 0) - 1)))))), (0, .ref h0)]) hx hb dn_M_reckon_51 rfl hl (by decide) rfl (fun ls hl => ?_)
  refine lv_iload_n hx hb dn_M_reckon_52 rfl (lv_at hl 2 rfl) ?_
  obtain ⟨q_4, hc_5, hf⟩ := dc_b hf
  have hme := mn_M_rank N (((s1.1 49) (Int32.toNatClampNeg (((s1.1 51 0) - 1))))) (upI (upI s1 51 (fun _ => ((s1.1 51 0) - 1))) 53 (fun _ => ((s1.1 53 0) - 1))) q_4 hc_5
  refine dc_calli (dc_runS (ar := 1) (As := [.int (((s1.1 49) (Int32.toNatClampNeg (((s1.1 51 0) - 1)))))]) (rest := []) ⟨hx, hb, hml, hown, hg⟩ hK hN hT hS hA (ct_M_rank l dC dI cI cB cJ cZ cQ N H.size h0 a (((s1.1 49) (Int32.toNatClampNeg (((s1.1 51 0) - 1))))) (upI (upI s1 51 (fun _ => ((s1.1 51 0) - 1))) 53 (fun _ => ((s1.1 53 0) - 1))) q_4 hc_5) hP hD wn_10_1 wn_10_2 wn_1_13 wn_10_3 rfl rfl (by decide +kernel) ⟨Nat.le_of_ble_eq_true rfl, Nat.le_of_ble_eq_true rfl⟩ rfl hl.1 rfl (Nat.le_of_ble_eq_true rfl) dn_M_reckon_53 (dc_rm0 hle)) hP hD hS hA (fun r_6 _ H locs hw hP hD hS => ?_)
  refine W.widen (k := 2 * (gl q_4.2 - gl s1)) (n := 2 * (gl q_4.2 - gl s1)) (dc_we hme) (dc_we hme) ?_
  have hge := Nat.le_trans hge (Nat.le_of_eq hme.symm)
  have hle := Nat.le_trans (Nat.le_of_eq hme) hle
  have hw : r_6 = q_4.1 := hw
  subst hw
  refine lv_istore (lv' := [(4, .int q_4.1), (3, .int (((s1.1 52) (Int32.toNatClampNeg ((((s1.1 53 0) - 1) - 1)))))), (2, .int (((s1.1 52) (Int32.toNatClampNeg (((s1.1 53 0) - 1)))))), (1, .int (((s1.1 49) (Int32.toNatClampNeg (((s1.1 51 0) - 1)))))), (0, .ref h0)]) hx hb dn_M_reckon_56 hl (by decide) rfl (fun ls hl => ?_)
  refine lv_iload hx hb dn_M_reckon_58 (lv_at hl 0 rfl) ?_
  refine lv_iconst (v := 3) hx hb dn_M_reckon_60 (by decide) ?_
  refine lv_icmp_lt (tgt := 71) hx hb dn_M_reckon_61 (by decide) (fun h => ?_) (fun h => ?_)
  · have hf := (if_pos h).symm.trans hf
    exact bl_71 (((s1.1 49) (Int32.toNatClampNeg (((s1.1 51 0) - 1))))) (((s1.1 52) (Int32.toNatClampNeg (((s1.1 53 0) - 1))))) (((s1.1 52) (Int32.toNatClampNeg ((((s1.1 53 0) - 1) - 1))))) q_4.1 q_4.2 hf hge a H locs ls hP hD hS (lv_sub hl [4, 3, 2, 1, 0] rfl)
  · have hf := (if_neg h).symm.trans hf
    refine lv_iload hx hb dn_M_reckon_64 (lv_at hl 0 rfl) ?_
    refine lv_bipush (v := 8) hx hb dn_M_reckon_66 (by decide) ?_
    refine lv_icmp_ne (tgt := 75) hx hb dn_M_reckon_68 (by decide) (fun h => ?_) (fun h => ?_)
    · have hf := (if_neg h).symm.trans hf
      refine lv_iconst (v := 0) hx hb dn_M_reckon_75 (by decide) ?_
      exact bl_76 (((s1.1 49) (Int32.toNatClampNeg (((s1.1 51 0) - 1))))) (((s1.1 52) (Int32.toNatClampNeg (((s1.1 53 0) - 1))))) (((s1.1 52) (Int32.toNatClampNeg ((((s1.1 53 0) - 1) - 1))))) q_4.1 0 q_4.2 hf hge a H locs ls hP hD hS (lv_sub hl [4, 3, 2, 1, 0] rfl)
    · have hf := (if_pos h).symm.trans hf
      exact bl_71 (((s1.1 49) (Int32.toNatClampNeg (((s1.1 51 0) - 1))))) (((s1.1 52) (Int32.toNatClampNeg (((s1.1 53 0) - 1))))) (((s1.1 52) (Int32.toNatClampNeg ((((s1.1 53 0) - 1) - 1))))) q_4.1 q_4.2 hf hge a H locs ls hP hD hS (lv_sub hl [4, 3, 2, 1, 0] rfl)
