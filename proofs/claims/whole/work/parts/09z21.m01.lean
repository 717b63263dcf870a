theorem mn_M_token (N : Nat) (v1 : Int32) (v2 : Int32) (v3 : Int32) (s : ms) (y : (Unit × ms)) (hf : fn_M_token N v1 v2 v3 s = some y) : gl y.2 = gl s := by
  unfold fn_M_token at hf
  have hm : gl s = gl s := rfl
  obtain ⟨_, hf⟩ := dc_g hf
  obtain ⟨_, hf⟩ := dc_g hf
  obtain ⟨_, hf⟩ := dc_g hf
  exact (dc_e hf).trans hm
set_option maxHeartbeats 8000000 in
set_option maxRecDepth 100000 in
theorem ct_M_token (l : Launch) (dC : Nat → ClassId) (dI : Nat → Nat → Nat) (cI cB cJ cZ cQ : ClassId) (N sz : Nat) (h0 : Nat) (a : Nat → Nat) (v1 : Int32) (v2 : Int32) (v3 : Int32) (s : ms) (y : (Unit × ms)) (hf : fn_M_token N v1 v2 v3 s = some y) : Met l yn_M_token (xw yn_M_token bn_M_token 4 none) ({ frames := 0, cells := 0, slots := 0, locals := 0 }) (dc_P (dC, dI) xcl (xt cI cB cJ cZ cQ) [.ref h0, .int v1, .int v2, .int v3] sz (wM h0 a cI cB cJ cZ s)) (xk_Qv (dC, dI) xcl (xt cI cB cJ cZ cQ) (fun _ : Unit => True) (fun u : Unit => (wM h0 a cI cB cJ cZ y.2)) (va_A (wM h0 a cI cB cJ cZ s) sz)) 0 0 (va_A (wM h0 a cI cB cJ cZ s) sz) := by
  refine dc_of (QA := xk_Qv (dC, dI) xcl (xt cI cB cJ cZ cQ) (fun _ : Unit => True) (fun u : Unit => (wM h0 a cI cB cJ cZ y.2))) (by decide) (Nat.le_of_ble_eq_true rfl) ?_
  intro p e s0 m below meth c hx hb hml hown hg hr hlocks hin hP hK hN A hA hD hT ls hl
  have hown : s0.vm.findClass rn_M = some m.cls := hown
  obtain ⟨H, hH⟩ : ∃ z, z = s0.heap := ⟨_, rfl⟩
  rw [← hH] at hP
  have hS : va_S A s0.heap H [] := by rw [hH]; exact va_S.rf
  suffices kk : ∀ QQ : State → Prop, QQ = MQ below (xk_Qv (dC, dI) xcl (xt cI cB cJ cZ cQ) (fun _ : Unit => True) (fun u : Unit => (wM h0 a cI cB cJ cZ y.2)) A) [.ref h0, .int v1, .int v2, .int v3].toArray s0 0 0 A → dcC p l e ({ frames := 0, cells := 0, slots := 0, locals := 0 }) s0 m [.ref h0, .int v1, .int v2, .int v3].toArray below meth c QQ (dC, dI) A (wM h0 a cI cB cJ cZ s) 0 4 [(0, .ref h0), (1, .int v1), (2, .int v2), (3, .int v3)] [] by
    have k9 := kk _ rfl H [] ls hP hD hS hl
    rw [hH] at k9; exact k9
  clear hP hD hS hl hH H ls
  intro QQ hQQ
  intro H locs ls hP hD hS hl
  unfold fn_M_token at hf
  refine lv_aload_n hx hb dn_M_token_0 rfl (lv_at hl 0 rfl) ?_
  refine va_get (D := (dC, dI)) (ci := 0) (v := .ref ((a 4))) (C := rn_M) (T := fn_M) (N := 91) hx hb hg in_M hown hK hP 0 rfl rfl 4 (by decide) (hg _ wn_8_77) (fun _ h9 => h9) rfl dn_M_token_1 ?_
  refine lv_aload_n hx hb dn_M_token_4 rfl (lv_at hl 0 rfl) ?_
  refine va_get (D := (dC, dI)) (ci := 0) (v := .int ((s.1 7 0))) (C := rn_M) (T := fn_M) (N := 91) hx hb hg in_M hown hK hP 0 rfl rfl 7 (by decide) (hg _ wn_8_80) (fun _ h9 => h9) rfl dn_M_token_5 ?_
  refine lv_iload_n hx hb dn_M_token_8 rfl (lv_at hl 1 rfl) ?_
  obtain ⟨hg_1, hf⟩ := dc_g hf
  refine va_iast hx hb hK hP hD hS 2 0 rfl rfl hg_1 dn_M_token_9 (fun H locs hP hD hS => ?_)
  have hP : va_P (dC, dI) xcl ((wM h0 a cI cB cJ cZ s).set 2 ((a 4), .inl (cI, 65540, .inl (upd (s.1 4) (Int32.toNatClampNeg ((s.1 7 0))) v1)))) H := hP
  have hD : va_D A ((wM h0 a cI cB cJ cZ s).set 2 ((a 4), .inl (cI, 65540, .inl (upd (s.1 4) (Int32.toNatClampNeg ((s.1 7 0))) v1)))) := hD
  have hP := wM_P_4 hP
  have hD := wM_D_4 hD
  refine lv_aload_n hx hb dn_M_token_10 rfl (lv_at hl 0 rfl) ?_
  refine va_get (D := (dC, dI)) (ci := 0) (v := .ref ((a 5))) (C := rn_M) (T := fn_M) (N := 91) hx hb hg in_M hown hK hP 0 rfl rfl 5 (by decide) (hg _ wn_8_78) (fun _ h9 => h9) rfl dn_M_token_11 ?_
  refine lv_aload_n hx hb dn_M_token_14 rfl (lv_at hl 0 rfl) ?_
  refine va_get (D := (dC, dI)) (ci := 0) (v := .int ((s.1 7 0))) (C := rn_M) (T := fn_M) (N := 91) hx hb hg in_M hown hK hP 0 rfl rfl 7 (by decide) (hg _ wn_8_80) (fun _ h9 => h9) rfl dn_M_token_15 ?_
  refine lv_iload_n hx hb dn_M_token_18 rfl (lv_at hl 2 rfl) ?_
  obtain ⟨hg_2, hf⟩ := dc_g hf
  refine va_iast hx hb hK hP hD hS 3 0 rfl rfl hg_2 dn_M_token_19 (fun H locs hP hD hS => ?_)
  have hP : va_P (dC, dI) xcl ((wM h0 a cI cB cJ cZ (upI s 4 (upd (s.1 4) (Int32.toNatClampNeg ((s.1 7 0))) v1))).set 3 ((a 5), .inl (cI, 65540, .inl (upd (s.1 5) (Int32.toNatClampNeg ((s.1 7 0))) v2)))) H := hP
  have hD : va_D A ((wM h0 a cI cB cJ cZ (upI s 4 (upd (s.1 4) (Int32.toNatClampNeg ((s.1 7 0))) v1))).set 3 ((a 5), .inl (cI, 65540, .inl (upd (s.1 5) (Int32.toNatClampNeg ((s.1 7 0))) v2)))) := hD
  have hP := wM_P_5 hP
  have hD := wM_D_5 hD
  refine lv_aload_n hx hb dn_M_token_20 rfl (lv_at hl 0 rfl) ?_
  refine va_get (D := (dC, dI)) (ci := 0) (v := .ref ((a 6))) (C := rn_M) (T := fn_M) (N := 91) hx hb hg in_M hown hK hP 0 rfl rfl 6 (by decide) (hg _ wn_8_79) (fun _ h9 => h9) rfl dn_M_token_21 ?_
  refine lv_aload_n hx hb dn_M_token_24 rfl (lv_at hl 0 rfl) ?_
  refine va_get (D := (dC, dI)) (ci := 0) (v := .int ((s.1 7 0))) (C := rn_M) (T := fn_M) (N := 91) hx hb hg in_M hown hK hP 0 rfl rfl 7 (by decide) (hg _ wn_8_80) (fun _ h9 => h9) rfl dn_M_token_25 ?_
  refine lv_iload_n hx hb dn_M_token_28 rfl (lv_at hl 3 rfl) ?_
  obtain ⟨hg_3, hf⟩ := dc_g hf
  refine va_iast hx hb hK hP hD hS 4 0 rfl rfl hg_3 dn_M_token_29 (fun H locs hP hD hS => ?_)
  have hP : va_P (dC, dI) xcl ((wM h0 a cI cB cJ cZ (upI (upI s 4 (upd (s.1 4) (Int32.toNatClampNeg ((s.1 7 0))) v1)) 5 (upd (s.1 5) (Int32.toNatClampNeg ((s.1 7 0))) v2))).set 4 ((a 6), .inl (cI, 65540, .inl (upd (s.1 6) (Int32.toNatClampNeg ((s.1 7 0))) v3)))) H := hP
  have hD : va_D A ((wM h0 a cI cB cJ cZ (upI (upI s 4 (upd (s.1 4) (Int32.toNatClampNeg ((s.1 7 0))) v1)) 5 (upd (s.1 5) (Int32.toNatClampNeg ((s.1 7 0))) v2))).set 4 ((a 6), .inl (cI, 65540, .inl (upd (s.1 6) (Int32.toNatClampNeg ((s.1 7 0))) v3)))) := hD
  have hP := wM_P_6 hP
  have hD := wM_D_6 hD
  refine lv_aload_n hx hb dn_M_token_30 rfl (lv_at hl 0 rfl) ?_
  refine lv_dup hx hb dn_M_token_31 rfl ?_
  refine va_get (D := (dC, dI)) (ci := 0) (v := .int ((s.1 7 0))) (C := rn_M) (T := fn_M) (N := 91) hx hb hg in_M hown hK hP 0 rfl rfl 7 (by decide) (hg _ wn_8_80) (fun _ h9 => h9) rfl dn_M_token_32 ?_
  refine lv_iconst (v := 1) hx hb dn_M_token_35 (by decide) ?_
  refine lv_iadd hx hb dn_M_token_36 ?_
  refine va_put (D := (dC, dI)) (ci := 0) (v := .int (((s.1 7 0) + 1))) (ty := .int) (C := rn_M) (T := fn_M) (N := 91) hx hb hg in_M tn_M tk_M nn_M hown hK hP hD hS 0 rfl rfl 7 (by decide) (hg _ wn_8_80) (fun _ h9 => h9) rfl (tk_M 7 (by decide)) rfl rfl (Nat.le_of_ble_eq_true rfl) dn_M_token_37 (fun H locs hP hD hS => ?_)
  have hP := wM_P_7 hP
  have hD := wM_D_7 hD
  rw [hQQ, ← Option.some.inj hf]
  exact xk_vret (w1 := fun u : Unit => (wM h0 a cI cB cJ cZ (upI (upI (upI (upI s 4 (upd (s.1 4) (Int32.toNatClampNeg ((s.1 7 0))) v1)) 5 (upd (s.1 5) (Int32.toNatClampNeg ((s.1 7 0))) v2)) 6 (upd (s.1 6) (Int32.toNatClampNeg ((s.1 7 0))) v3)) 7 (fun _ => ((s.1 7 0) + 1))))) () hx hb hr hlocks hK hS dn_M_token_40 hP hD trivial (Nat.le_refl _) (Nat.le_refl _)
theorem mn_M_isIn (N : Nat) (v0 : Int32) (s : ms) (y : (Int32 × ms)) (hf : fn_M_isIn N v0 s = some y) : gl y.2 = gl s := by
  unfold fn_M_isIn at hf
  have hm : gl s = gl s := rfl
  obtain ⟨q_1, hc_2, hf⟩ := dc_b hf
  have hm := (mn_M_isLetter N v0 s q_1 hc_2).trans hm
  by_cases h : q_1.1 = 0
  · have hf := (if_pos h).symm.trans hf
    obtain ⟨q_4, hc_5, hf⟩ := dc_b hf
    have hm := (mn_M_isDigit N v0 q_1.2 q_4 hc_5).trans hm
    by_cases h : q_4.1 = 0
    · have hf := (if_pos h).symm.trans hf
      by_cases h : v0 = 36
      · have hf := (if_pos h).symm.trans hf
        exact (dc_e hf).trans hm
      · have hf := (if_neg h).symm.trans hf
        exact (dc_e hf).trans hm
    · have hf := (if_neg h).symm.trans hf
      exact (dc_e hf).trans hm
  · have hf := (if_neg h).symm.trans hf
    exact (dc_e hf).trans hm
set_option maxHeartbeats 8000000 in
set_option maxRecDepth 100000 in
theorem ct_M_isIn (l : Launch) (dC : Nat → ClassId) (dI : Nat → Nat → Nat) (cI cB cJ cZ cQ : ClassId) (N sz : Nat) (h0 : Nat) (a : Nat → Nat) (v0 : Int32) (s : ms) (y : (Int32 × ms)) (hf : fn_M_isIn N v0 s = some y) : Met l yn_M_isIn (xw yn_M_isIn bn_M_isIn 1 (some .boolean)) ({ frames := 1, cells := 0, slots := 0, locals := 20 }) (dc_P (dC, dI) xcl (xt cI cB cJ cZ cQ) [.int v0] sz (wM h0 a cI cB cJ cZ s)) (xk_Qi (dC, dI) xcl (xt cI cB cJ cZ cQ) (fun (r : Int32) (_ : Unit) => r = y.1) (fun u : Unit => (wM h0 a cI cB cJ cZ y.2)) (va_A (wM h0 a cI cB cJ cZ s) sz)) 0 0 (va_A (wM h0 a cI cB cJ cZ s) sz) := by
  refine dc_of (QA := xk_Qi (dC, dI) xcl (xt cI cB cJ cZ cQ) (fun (r : Int32) (_ : Unit) => r = y.1) (fun u : Unit => (wM h0 a cI cB cJ cZ y.2))) (by decide) (Nat.le_of_ble_eq_true rfl) ?_
  intro p e s0 m below meth c hx hb hml hown hg hr hlocks hin hP hK hN A hA hD hT ls hl
  have hown : s0.vm.findClass rn_M = some m.cls := hown
  obtain ⟨H, hH⟩ : ∃ z, z = s0.heap := ⟨_, rfl⟩
  rw [← hH] at hP
  have hS : va_S A s0.heap H [] := by rw [hH]; exact va_S.rf
  suffices kk : ∀ QQ : State → Prop, QQ = MQ below (xk_Qi (dC, dI) xcl (xt cI cB cJ cZ cQ) (fun (r : Int32) (_ : Unit) => r = y.1) (fun u : Unit => (wM h0 a cI cB cJ cZ y.2)) A) [.int v0].toArray s0 0 0 A → dcC p l e ({ frames := 1, cells := 0, slots := 0, locals := 20 }) s0 m [.int v0].toArray below meth c QQ (dC, dI) A (wM h0 a cI cB cJ cZ s) 0 1 [(0, .int v0)] [] by
    have k9 := kk _ rfl H [] ls hP hD hS hl
    rw [hH] at k9; exact k9
  clear hP hD hS hl hH H ls
  intro QQ hQQ
  intro H locs ls hP hD hS hl
  unfold fn_M_isIn at hf
  refine lv_iload_n hx hb dn_M_isIn_0 rfl (lv_at hl 0 rfl) ?_
  obtain ⟨q_1, hc_2, hf⟩ := dc_b hf
  refine dc_calli (dc_runS (ar := 1) (As := [.int v0]) (rest := []) ⟨hx, hb, hml, hown, hg⟩ hK hN hT hS hA (ct_M_isLetter l dC dI cI cB cJ cZ cQ N H.size h0 a v0 s q_1 hc_2) hP hD wn_9_136 wn_9_137 wn_1_13 wn_9_138 rfl rfl (by decide +kernel) ⟨Nat.le_of_ble_eq_true rfl, Nat.le_of_ble_eq_true rfl⟩ rfl hl.1 rfl (Nat.le_of_ble_eq_true rfl) dn_M_isIn_1 ⟨Nat.le_of_ble_eq_true rfl, Nat.le_of_ble_eq_true rfl⟩) hP hD hS hA (fun r_3 _ H locs hw hP hD hS => ?_)
  have hw : r_3 = q_1.1 := hw
  subst hw
  refine lv_if_ne (tgt := 20) hx hb dn_M_isIn_4 (by decide) (fun h => ?_) (fun h => ?_)
  · have hf := (if_neg h).symm.trans hf
    refine lv_iconst (v := 1) hx hb dn_M_isIn_20 (by decide) ?_
    refine lv_goto (tgt := 25) hx hb dn_M_isIn_21 (by decide) ?_
    rw [hQQ, ← Option.some.inj hf]
    exact xk_zret (w1 := fun u : Unit => (wM h0 a cI cB cJ cZ q_1.2)) () hx hb hr rfl hlocks hK hS dn_M_isIn_25 hP hD rfl (Nat.le_refl _) (Nat.le_refl _)
  · have hf := (if_pos h).symm.trans hf
    refine lv_iload_n hx hb dn_M_isIn_7 rfl (lv_at hl 0 rfl) ?_
    obtain ⟨q_4, hc_5, hf⟩ := dc_b hf
    refine dc_calli (dc_runS (ar := 1) (As := [.int v0]) (rest := []) ⟨hx, hb, hml, hown, hg⟩ hK hN hT hS hA (ct_M_isDigit l dC dI cI cB cJ cZ cQ N H.size h0 a v0 q_1.2 q_4 hc_5) hP hD wn_9_142 wn_9_143 wn_1_13 wn_9_144 rfl rfl (by decide +kernel) ⟨Nat.le_of_ble_eq_true rfl, Nat.le_of_ble_eq_true rfl⟩ rfl hl.1 rfl (Nat.le_of_ble_eq_true rfl) dn_M_isIn_8 ⟨Nat.le_of_ble_eq_true rfl, Nat.le_of_ble_eq_true rfl⟩) hP hD hS hA (fun r_6 _ H locs hw hP hD hS => ?_)
    have hw : r_6 = q_4.1 := hw
    subst hw
    refine lv_if_ne (tgt := 20) hx hb dn_M_isIn_11 (by decide) (fun h => ?_) (fun h => ?_)
    · have hf := (if_neg h).symm.trans hf
      refine lv_iconst (v := 1) hx hb dn_M_isIn_20 (by decide) ?_
      refine lv_goto (tgt := 25) hx hb dn_M_isIn_21 (by decide) ?_
      rw [hQQ, ← Option.some.inj hf]
      exact xk_zret (w1 := fun u : Unit => (wM h0 a cI cB cJ cZ q_4.2)) () hx hb hr rfl hlocks hK hS dn_M_isIn_25 hP hD rfl (Nat.le_refl _) (Nat.le_refl _)
    · have hf := (if_pos h).symm.trans hf
      refine lv_iload_n hx hb dn_M_isIn_14 rfl (lv_at hl 0 rfl) ?_
      refine lv_bipush (v := 36) hx hb dn_M_isIn_15 (by decide) ?_
      refine lv_icmp_ne (tgt := 24) hx hb dn_M_isIn_17 (by decide) (fun h => ?_) (fun h => ?_)
      · have hf := (if_neg h).symm.trans hf
        refine lv_iconst (v := 0) hx hb dn_M_isIn_24 (by decide) ?_
        rw [hQQ, ← Option.some.inj hf]
        exact xk_zret (w1 := fun u : Unit => (wM h0 a cI cB cJ cZ q_4.2)) () hx hb hr rfl hlocks hK hS dn_M_isIn_25 hP hD rfl (Nat.le_refl _) (Nat.le_refl _)
      · have hf := (if_pos h).symm.trans hf
        refine lv_iconst (v := 1) hx hb dn_M_isIn_20 (by decide) ?_
        refine lv_goto (tgt := 25) hx hb dn_M_isIn_21 (by decide) ?_
        rw [hQQ, ← Option.some.inj hf]
        exact xk_zret (w1 := fun u : Unit => (wM h0 a cI cB cJ cZ q_4.2)) () hx hb hr rfl hlocks hK hS dn_M_isIn_25 hP hD rfl (Nat.le_refl _) (Nat.le_refl _)
theorem mb_M_numberEnd_32 (N : Nat) (y : (Int32 × ms)) (k_32 : Int32 → ms → Option (Int32 × ms)) (hkm_32 : ∀ (x2 : Int32) (s : ms), k_32 x2 s = some y → gl y.2 = gl s) (x2 : Int32) (s : ms) (hf : bd_M_numberEnd_32 N k_32 x2 s = some y) : gl y.2 = gl s := by
  unfold bd_M_numberEnd_32 at hf
  have hm : gl s = gl s := rfl
  obtain ⟨q_1, hc_2, hf⟩ := dc_b hf
  have hm := (mn_M_at N x2 s q_1 hc_2).trans hm
  obtain ⟨q_4, hc_5, hf⟩ := dc_b hf
  have hm := (mn_M_isIn N q_1.1 q_1.2 q_4 hc_5).trans hm
  by_cases h : q_4.1 = 0
  · have hf := (if_pos h).symm.trans hf
    exact (dc_e hf).trans hm
  · have hf := (if_neg h).symm.trans hf
    exact (hkm_32 ((x2 + 1)) q_4.2 hf).trans hm
theorem mh_M_numberEnd_32 (N : Nat) (y : (Int32 × ms)) : ∀ (n : Nat) (x2 : Int32) (s : ms), hd_M_numberEnd_32 N n x2 s = some y → gl y.2 = gl s := by
  intro n
  induction n with
  | zero => intro x2 s hf; cases hf
  | succ n ih => intro x2 s hf; exact mb_M_numberEnd_32 N y (hd_M_numberEnd_32 N n) ih x2 s hf
theorem mb_M_numberEnd_2 (N : Nat) (y : (Int32 × ms)) (k_2 : Int32 → ms → Option (Int32 × ms)) (hkm_2 : ∀ (x2 : Int32) (s : ms), k_2 x2 s = some y → gl y.2 = gl s) (x2 : Int32) (s : ms) (hf : bd_M_numberEnd_2 N k_2 x2 s = some y) : gl y.2 = gl s := by
  unfold bd_M_numberEnd_2 at hf
  have hm : gl s = gl s := rfl
  obtain ⟨q_1, hc_2, hf⟩ := dc_b hf
  have hm := (mn_M_at N x2 s q_1 hc_2).trans hm
  obtain ⟨q_4, hc_5, hf⟩ := dc_b hf
  have hm := (mn_M_isDigit N q_1.1 q_1.2 q_4 hc_5).trans hm
  by_cases h : q_4.1 = 0
  · have hf := (if_pos h).symm.trans hf
    obtain ⟨q_7, hc_8, hf⟩ := dc_b hf
    have hm := (mn_M_at N x2 q_4.2 q_7 hc_8).trans hm
    by_cases h : q_7.1 = 39
    · have hf := (if_pos h).symm.trans hf
      exact (mh_M_numberEnd_32 N y N ((x2 + 1)) q_7.2 hf).trans hm
    · have hf := (if_neg h).symm.trans hf
      exact (mh_M_numberEnd_32 N y N x2 q_7.2 hf).trans hm
  · have hf := (if_neg h).symm.trans hf
    exact (hkm_2 ((x2 + 1)) q_4.2 hf).trans hm
theorem mh_M_numberEnd_2 (N : Nat) (y : (Int32 × ms)) : ∀ (n : Nat) (x2 : Int32) (s : ms), hd_M_numberEnd_2 N n x2 s = some y → gl y.2 = gl s := by
  intro n
  induction n with
  | zero => intro x2 s hf; cases hf
  | succ n ih => intro x2 s hf; exact mb_M_numberEnd_2 N y (hd_M_numberEnd_2 N n) ih x2 s hf
theorem mn_M_numberEnd (N : Nat) (v1 : Int32) (s : ms) (y : (Int32 × ms)) (hf : fn_M_numberEnd N v1 s = some y) : gl y.2 = gl s := by
  unfold fn_M_numberEnd at hf
  have hm : gl s = gl s := rfl
  exact (mh_M_numberEnd_2 N y N v1 s hf).trans hm
set_option maxHeartbeats 8000000 in
set_option maxRecDepth 100000 in
theorem ct_M_numberEnd (l : Launch) (dC : Nat → ClassId) (dI : Nat → Nat → Nat) (cI cB cJ cZ cQ : ClassId) (N sz : Nat) (h0 : Nat) (a : Nat → Nat) (v1 : Int32) (s : ms) (y : (Int32 × ms)) (hf : fn_M_numberEnd N v1 s = some y) : Met l yn_M_numberEnd (xw yn_M_numberEnd bn_M_numberEnd 3 (some .int)) ({ frames := 2, cells := 0, slots := 0, locals := 40 }) (dc_P (dC, dI) xcl (xt cI cB cJ cZ cQ) [.ref h0, .int v1] sz (wM h0 a cI cB cJ cZ s)) (xk_Qi (dC, dI) xcl (xt cI cB cJ cZ cQ) (fun (r : Int32) (_ : Unit) => r = y.1) (fun u : Unit => (wM h0 a cI cB cJ cZ y.2)) (va_A (wM h0 a cI cB cJ cZ s) sz)) 0 0 (va_A (wM h0 a cI cB cJ cZ s) sz) := by
  refine dc_of (QA := xk_Qi (dC, dI) xcl (xt cI cB cJ cZ cQ) (fun (r : Int32) (_ : Unit) => r = y.1) (fun u : Unit => (wM h0 a cI cB cJ cZ y.2))) (by decide) (Nat.le_of_ble_eq_true rfl) ?_
  intro p e s0 m below meth c hx hb hml hown hg hr hlocks hin hP hK hN A hA hD hT ls hl
  have hown : s0.vm.findClass rn_M = some m.cls := hown
  obtain ⟨H, hH⟩ : ∃ z, z = s0.heap := ⟨_, rfl⟩
  rw [← hH] at hP
  have hS : va_S A s0.heap H [] := by rw [hH]; exact va_S.rf
  suffices kk : ∀ QQ : State → Prop, QQ = MQ below (xk_Qi (dC, dI) xcl (xt cI cB cJ cZ cQ) (fun (r : Int32) (_ : Unit) => r = y.1) (fun u : Unit => (wM h0 a cI cB cJ cZ y.2)) A) [.ref h0, .int v1].toArray s0 0 0 A → dcC p l e ({ frames := 2, cells := 0, slots := 0, locals := 40 }) s0 m [.ref h0, .int v1].toArray below meth c QQ (dC, dI) A (wM h0 a cI cB cJ cZ s) 0 3 [(0, .ref h0), (1, .int v1)] [] by
    have k9 := kk _ rfl H [] ls hP hD hS hl
    rw [hH] at k9; exact k9
  clear hP hD hS hl hH H ls
  intro QQ hQQ
  have hd_32 : ∀ (n : Nat) (x2 : Int32) (s : ms), hd_M_numberEnd_32 N n x2 s = some y → dcC p l e ({ frames := 2, cells := 0, slots := 0, locals := 40 }) s0 m [.ref h0, .int v1].toArray below meth c QQ (dC, dI) A (wM h0 a cI cB cJ cZ s) 32 3 [(0, .ref h0), (2, .int x2)] [] := by
    intro n
    induction n with
    | zero => intro x2 s hf; cases hf
    | succ n ih =>
      intro x2 s hf H locs ls hP hD hS hl
      have hf : bd_M_numberEnd_32 N (hd_M_numberEnd_32 N n) x2 s = some y := hf
      have hk_32 := ih
      generalize hd_M_numberEnd_32 N n = k_32 at hf hk_32
      unfold bd_M_numberEnd_32 at hf
      refine lv_aload_n hx hb dn_M_numberEnd_32 rfl (lv_at hl 0 rfl) ?_
      refine lv_iload_n hx hb dn_M_numberEnd_33 rfl (lv_at hl 1 rfl) ?_
      obtain ⟨q_1, hc_2, hf⟩ := dc_b hf
      refine dc_calli (dc_runV (ar := 1) (As := [.int x2]) (rest := []) (ci := 0) (q0 := 0) ⟨hx, hb, hml, hown, hg⟩ hK hN hT hS hA (ct_M_at l dC dI cI cB cJ cZ cQ N H.size h0 a x2 s q_1 hc_2) hP hD rfl rfl wn_9_128 wn_9_130 sn_M_at wn_1_13 wn_9_131 rfl rfl (by decide +kernel) ⟨Nat.le_of_ble_eq_true rfl, Nat.le_of_ble_eq_true rfl⟩ rfl hl.1 rfl (Nat.le_of_ble_eq_true rfl) dn_M_numberEnd_34 ⟨Nat.le_of_ble_eq_true rfl, Nat.le_of_ble_eq_true rfl⟩) hP hD hS hA (fun r_3 _ H locs hw hP hD hS => ?_)
      have hw : r_3 = q_1.1 := hw
      subst hw
      obtain ⟨q_4, hc_5, hf⟩ := dc_b hf
      refine dc_calli (dc_runS (ar := 1) (As := [.int q_1.1]) (rest := []) ⟨hx, hb, hml, hown, hg⟩ hK hN hT hS hA (ct_M_isIn l dC dI cI cB cJ cZ cQ N H.size h0 a q_1.1 q_1.2 q_4 hc_5) hP hD wn_9_139 wn_9_140 wn_1_13 wn_9_141 rfl rfl (by decide +kernel) ⟨Nat.le_of_ble_eq_true rfl, Nat.le_of_ble_eq_true rfl⟩ rfl hl.1 rfl (Nat.le_of_ble_eq_true rfl) dn_M_numberEnd_37 ⟨Nat.le_of_ble_eq_true rfl, Nat.le_of_ble_eq_true rfl⟩) hP hD hS hA (fun r_6 _ H locs hw hP hD hS => ?_)
      have hw : r_6 = q_4.1 := hw
      subst hw
      refine lv_if_eq (tgt := 49) hx hb dn_M_numberEnd_40 (by decide) (fun h => ?_) (fun h => ?_)
      · have hf := (if_pos h).symm.trans hf
        refine lv_iload_n hx hb dn_M_numberEnd_49 rfl (lv_at hl 1 rfl) ?_
        rw [hQQ, ← Option.some.inj hf]
        exact xk_iret (w1 := fun u : Unit => (wM h0 a cI cB cJ cZ q_4.2)) () hx hb hr hlocks hK hS dn_M_numberEnd_50 hP hD rfl (Nat.le_refl _) (Nat.le_refl _)
      · have hf := (if_neg h).symm.trans hf
        refine lv_iinc (v := (x2 + 1)) (lv' := [(2, .int ((x2 + 1))), (0, .ref h0)]) hx hb dn_M_numberEnd_43 hl (k := 1) rfl (dc_inc (by decide)) (by decide) rfl (fun ls hl => ?_)
        refine lv_goto (tgt := 32) hx hb dn_M_numberEnd_46 (by decide) ?_
        exact hk_32 ((x2 + 1)) q_4.2 hf H locs ls hP hD hS (lv_sub hl [1, 0] rfl)
  have hd_2 : ∀ (n : Nat) (x2 : Int32) (s : ms), hd_M_numberEnd_2 N n x2 s = some y → dcC p l e ({ frames := 2, cells := 0, slots := 0, locals := 40 }) s0 m [.ref h0, .int v1].toArray below meth c QQ (dC, dI) A (wM h0 a cI cB cJ cZ s) 2 3 [(0, .ref h0), (2, .int x2)] [] := by
    intro n
    induction n with
    | zero => intro x2 s hf; cases hf
    | succ n ih =>
      intro x2 s hf H locs ls hP hD hS hl
      have hf : bd_M_numberEnd_2 N (hd_M_numberEnd_2 N n) x2 s = some y := hf
      have hk_2 := ih
      generalize hd_M_numberEnd_2 N n = k_2 at hf hk_2
      unfold bd_M_numberEnd_2 at hf
      refine lv_aload_n hx hb dn_M_numberEnd_2 rfl (lv_at hl 0 rfl) ?_
      refine lv_iload_n hx hb dn_M_numberEnd_3 rfl (lv_at hl 1 rfl) ?_
      obtain ⟨q_1, hc_2, hf⟩ := dc_b hf
      refine dc_calli (dc_runV (ar := 1) (As := [.int x2]) (rest := []) (ci := 0) (q0 := 0) ⟨hx, hb, hml, hown, hg⟩ hK hN hT hS hA (ct_M_at l dC dI cI cB cJ cZ cQ N H.size h0 a x2 s q_1 hc_2) hP hD rfl rfl wn_9_128 wn_9_130 sn_M_at wn_1_13 wn_9_131 rfl rfl (by decide +kernel) ⟨Nat.le_of_ble_eq_true rfl, Nat.le_of_ble_eq_true rfl⟩ rfl hl.1 rfl (Nat.le_of_ble_eq_true rfl) dn_M_numberEnd_4 ⟨Nat.le_of_ble_eq_true rfl, Nat.le_of_ble_eq_true rfl⟩) hP hD hS hA (fun r_3 _ H locs hw hP hD hS => ?_)
      have hw : r_3 = q_1.1 := hw
      subst hw
      obtain ⟨q_4, hc_5, hf⟩ := dc_b hf
      refine dc_calli (dc_runS (ar := 1) (As := [.int q_1.1]) (rest := []) ⟨hx, hb, hml, hown, hg⟩ hK hN hT hS hA (ct_M_isDigit l dC dI cI cB cJ cZ cQ N H.size h0 a q_1.1 q_1.2 q_4 hc_5) hP hD wn_9_142 wn_9_143 wn_1_13 wn_9_144 rfl rfl (by decide +kernel) ⟨Nat.le_of_ble_eq_true rfl, Nat.le_of_ble_eq_true rfl⟩ rfl hl.1 rfl (Nat.le_of_ble_eq_true rfl) dn_M_numberEnd_7 ⟨Nat.le_of_ble_eq_true rfl, Nat.le_of_ble_eq_true rfl⟩) hP hD hS hA (fun r_6 _ H locs hw hP hD hS => ?_)
      have hw : r_6 = q_4.1 := hw
      subst hw
      refine lv_if_eq (tgt := 19) hx hb dn_M_numberEnd_10 (by decide) (fun h => ?_) (fun h => ?_)
      · have hf := (if_pos h).symm.trans hf
        refine lv_aload_n hx hb dn_M_numberEnd_19 rfl (lv_at hl 0 rfl) ?_
        refine lv_iload_n hx hb dn_M_numberEnd_20 rfl (lv_at hl 1 rfl) ?_
        obtain ⟨q_7, hc_8, hf⟩ := dc_b hf
        refine dc_calli (dc_runV (ar := 1) (As := [.int x2]) (rest := []) (ci := 0) (q0 := 0) ⟨hx, hb, hml, hown, hg⟩ hK hN hT hS hA (ct_M_at l dC dI cI cB cJ cZ cQ N H.size h0 a x2 q_4.2 q_7 hc_8) hP hD rfl rfl wn_9_128 wn_9_130 sn_M_at wn_1_13 wn_9_131 rfl rfl (by decide +kernel) ⟨Nat.le_of_ble_eq_true rfl, Nat.le_of_ble_eq_true rfl⟩ rfl hl.1 rfl (Nat.le_of_ble_eq_true rfl) dn_M_numberEnd_21 ⟨Nat.le_of_ble_eq_true rfl, Nat.le_of_ble_eq_true rfl⟩) hP hD hS hA (fun r_9 _ H locs hw hP hD hS => ?_)
        have hw : r_9 = q_7.1 := hw
        subst hw
        refine lv_bipush (v := 39) hx hb dn_M_numberEnd_24 (by decide) ?_
        refine lv_icmp_ne (tgt := 32) hx hb dn_M_numberEnd_26 (by decide) (fun h => ?_) (fun h => ?_)
        · have hf := (if_neg h).symm.trans hf
          exact hd_32 N x2 q_7.2 hf H locs ls hP hD hS hl
        · have hf := (if_pos h).symm.trans hf
          refine lv_iinc (v := (x2 + 1)) (lv' := [(2, .int ((x2 + 1))), (0, .ref h0)]) hx hb dn_M_numberEnd_29 hl (k := 1) rfl (dc_inc (by decide)) (by decide) rfl (fun ls hl => ?_)
          exact hd_32 N ((x2 + 1)) q_7.2 hf H locs ls hP hD hS (lv_sub hl [1, 0] rfl)
      · have hf := (if_neg h).symm.trans hf
        refine lv_iinc (v := (x2 + 1)) (lv' := [(2, .int ((x2 + 1))), (0, .ref h0)]) hx hb dn_M_numberEnd_13 hl (k := 1) rfl (dc_inc (by decide)) (by decide) rfl (fun ls hl => ?_)
        refine lv_goto (tgt := 2) hx hb dn_M_numberEnd_16 (by decide) ?_
        exact hk_2 ((x2 + 1)) q_4.2 hf H locs ls hP hD hS (lv_sub hl [1, 0] rfl)
  intro H locs ls hP hD hS hl
  unfold fn_M_numberEnd at hf
  refine lv_iload_n hx hb dn_M_numberEnd_0 rfl (lv_at hl 1 rfl) ?_
  refine lv_istore_n (lv' := [(2, .int v1), (0, .ref h0), (1, .int v1)]) hx hb dn_M_numberEnd_1 rfl hl (by decide) rfl (fun ls hl => ?_)
  exact hd_2 N v1 s hf H locs ls hP hD hS (lv_sub hl [1, 0] rfl)
theorem mo_M_digit_36 (N : Nat) (y : (Int32 × ms)) (x0 : Int32) (s : ms) (hf : bk_M_digit_36 N x0 s = some y) : gl y.2 = gl s := by
  unfold bk_M_digit_36 at hf
  have hm : gl s = gl s := rfl
  by_cases h : x0 < 65
  · have hf := (if_pos h).symm.trans hf
    exact (dc_e hf).trans hm
  · have hf := (if_neg h).symm.trans hf
    by_cases h : 70 < x0
    · have hf := (if_pos h).symm.trans hf
      exact (dc_e hf).trans hm
    · have hf := (if_neg h).symm.trans hf
      exact (dc_e hf).trans hm
theorem mn_M_digit (N : Nat) (v0 : Int32) (s : ms) (y : (Int32 × ms)) (hf : fn_M_digit N v0 s = some y) : gl y.2 = gl s := by
  unfold fn_M_digit at hf
  have hm : gl s = gl s := rfl
  obtain ⟨q_1, hc_2, hf⟩ := dc_b hf
  have hm := (mn_M_isDigit N v0 s q_1 hc_2).trans hm
  by_cases h : q_1.1 = 0
  · have hf := (if_pos h).symm.trans hf
    by_cases h : v0 < 97
    · have hf := (if_pos h).symm.trans hf
      exact (mo_M_digit_36 N y v0 q_1.2 hf).trans hm
    · have hf := (if_neg h).symm.trans hf
      by_cases h : 102 < v0
      · have hf := (if_pos h).symm.trans hf
        exact (mo_M_digit_36 N y v0 q_1.2 hf).trans hm
      · have hf := (if_neg h).symm.trans hf
        exact (dc_e hf).trans hm
  · have hf := (if_neg h).symm.trans hf
    exact (dc_e hf).trans hm
set_option maxHeartbeats 8000000 in
set_option maxRecDepth 100000 in
theorem ct_M_digit (l : Launch) (dC : Nat → ClassId) (dI : Nat → Nat → Nat) (cI cB cJ cZ cQ : ClassId) (N sz : Nat) (h0 : Nat) (a : Nat → Nat) (v0 : Int32) (s : ms) (y : (Int32 × ms)) (hf : fn_M_digit N v0 s = some y) : Met l yn_M_digit (xw yn_M_digit bn_M_digit 1 (some .int)) ({ frames := 1, cells := 0, slots := 0, locals := 20 }) (dc_P (dC, dI) xcl (xt cI cB cJ cZ cQ) [.int v0] sz (wM h0 a cI cB cJ cZ s)) (xk_Qi (dC, dI) xcl (xt cI cB cJ cZ cQ) (fun (r : Int32) (_ : Unit) => r = y.1) (fun u : Unit => (wM h0 a cI cB cJ cZ y.2)) (va_A (wM h0 a cI cB cJ cZ s) sz)) 0 0 (va_A (wM h0 a cI cB cJ cZ s) sz) := by
  refine dc_of (QA := xk_Qi (dC, dI) xcl (xt cI cB cJ cZ cQ) (fun (r : Int32) (_ : Unit) => r = y.1) (fun u : Unit => (wM h0 a cI cB cJ cZ y.2))) (by decide) (Nat.le_of_ble_eq_true rfl) ?_
  intro p e s0 m below meth c hx hb hml hown hg hr hlocks hin hP hK hN A hA hD hT ls hl
  have hown : s0.vm.findClass rn_M = some m.cls := hown
  obtain ⟨H, hH⟩ : ∃ z, z = s0.heap := ⟨_, rfl⟩
  rw [← hH] at hP
  have hS : va_S A s0.heap H [] := by rw [hH]; exact va_S.rf
  suffices kk : ∀ QQ : State → Prop, QQ = MQ below (xk_Qi (dC, dI) xcl (xt cI cB cJ cZ cQ) (fun (r : Int32) (_ : Unit) => r = y.1) (fun u : Unit => (wM h0 a cI cB cJ cZ y.2)) A) [.int v0].toArray s0 0 0 A → dcC p l e ({ frames := 1, cells := 0, slots := 0, locals := 20 }) s0 m [.int v0].toArray below meth c QQ (dC, dI) A (wM h0 a cI cB cJ cZ s) 0 1 [(0, .int v0)] [] by
    have k9 := kk _ rfl H [] ls hP hD hS hl
    rw [hH] at k9; exact k9
  clear hP hD hS hl hH H ls
  intro QQ hQQ
  have bl_36 : ∀ (x0 : Int32) (s : ms), bk_M_digit_36 N x0 s = some y → dcC p l e ({ frames := 1, cells := 0, slots := 0, locals := 20 }) s0 m [.int v0].toArray below meth c QQ (dC, dI) A (wM h0 a cI cB cJ cZ s) 36 1 [(0, .int x0)] [] := by
    intro x0 s hf H locs ls hP hD hS hl
    unfold bk_M_digit_36 at hf
    refine lv_iload_n hx hb dn_M_digit_36 rfl (lv_at hl 0 rfl) ?_
    refine lv_bipush (v := 65) hx hb dn_M_digit_37 (by decide) ?_
    refine lv_icmp_lt (tgt := 58) hx hb dn_M_digit_39 (by decide) (fun h => ?_) (fun h => ?_)
    · have hf := (if_pos h).symm.trans hf
      refine lv_bipush (v := 99) hx hb dn_M_digit_58 (by decide) ?_
      rw [hQQ, ← Option.some.inj hf]
      exact xk_iret (w1 := fun u : Unit => (wM h0 a cI cB cJ cZ s)) () hx hb hr hlocks hK hS dn_M_digit_60 hP hD rfl (Nat.le_refl _) (Nat.le_refl _)
    · have hf := (if_neg h).symm.trans hf
      refine lv_iload_n hx hb dn_M_digit_42 rfl (lv_at hl 0 rfl) ?_
      refine lv_bipush (v := 70) hx hb dn_M_digit_43 (by decide) ?_
      refine lv_icmp_gt (tgt := 58) hx hb dn_M_digit_45 (by decide) (fun h => ?_) (fun h => ?_)
      · have hf := (if_pos h).symm.trans hf
        refine lv_bipush (v := 99) hx hb dn_M_digit_58 (by decide) ?_
        rw [hQQ, ← Option.some.inj hf]
        exact xk_iret (w1 := fun u : Unit => (wM h0 a cI cB cJ cZ s)) () hx hb hr hlocks hK hS dn_M_digit_60 hP hD rfl (Nat.le_refl _) (Nat.le_refl _)
      · have hf := (if_neg h).symm.trans hf
        refine lv_iload_n hx hb dn_M_digit_48 rfl (lv_at hl 0 rfl) ?_
        refine lv_bipush (v := 65) hx hb dn_M_digit_49 (by decide) ?_
        refine lv_isub hx hb dn_M_digit_51 ?_
        refine lv_bipush (v := 10) hx hb dn_M_digit_52 (by decide) ?_
        refine lv_iadd hx hb dn_M_digit_54 ?_
        refine lv_goto (tgt := 60) hx hb dn_M_digit_55 (by decide) ?_
        rw [hQQ, ← Option.some.inj hf]
        exact xk_iret (w1 := fun u : Unit => (wM h0 a cI cB cJ cZ s)) () hx hb hr hlocks hK hS dn_M_digit_60 hP hD rfl (Nat.le_refl _) (Nat.le_refl _)
  intro H locs ls hP hD hS hl
  unfold fn_M_digit at hf
  refine lv_iload_n hx hb dn_M_digit_0 rfl (lv_at hl 0 rfl) ?_
  obtain ⟨q_1, hc_2, hf⟩ := dc_b hf
  refine dc_calli (dc_runS (ar := 1) (As := [.int v0]) (rest := []) ⟨hx, hb, hml, hown, hg⟩ hK hN hT hS hA (ct_M_isDigit l dC dI cI cB cJ cZ cQ N H.size h0 a v0 s q_1 hc_2) hP hD wn_9_142 wn_9_143 wn_1_13 wn_9_144 rfl rfl (by decide +kernel) ⟨Nat.le_of_ble_eq_true rfl, Nat.le_of_ble_eq_true rfl⟩ rfl hl.1 rfl (Nat.le_of_ble_eq_true rfl) dn_M_digit_1 ⟨Nat.le_of_ble_eq_true rfl, Nat.le_of_ble_eq_true rfl⟩) hP hD hS hA (fun r_3 _ H locs hw hP hD hS => ?_)
  have hw : r_3 = q_1.1 := hw
  subst hw
  refine lv_if_eq (tgt := 14) hx hb dn_M_digit_4 (by decide) (fun h => ?_) (fun h => ?_)
  · have hf := (if_pos h).symm.trans hf
    refine lv_iload_n hx hb dn_M_digit_14 rfl (lv_at hl 0 rfl) ?_
    refine lv_bipush (v := 97) hx hb dn_M_digit_15 (by decide) ?_
    refine lv_icmp_lt (tgt := 36) hx hb dn_M_digit_17 (by decide) (fun h => ?_) (fun h => ?_)
    · have hf := (if_pos h).symm.trans hf
      exact bl_36 v0 q_1.2 hf H locs ls hP hD hS hl
    · have hf := (if_neg h).symm.trans hf
      refine lv_iload_n hx hb dn_M_digit_20 rfl (lv_at hl 0 rfl) ?_
      refine lv_bipush (v := 102) hx hb dn_M_digit_21 (by decide) ?_
      refine lv_icmp_gt (tgt := 36) hx hb dn_M_digit_23 (by decide) (fun h => ?_) (fun h => ?_)
      · have hf := (if_pos h).symm.trans hf
        exact bl_36 v0 q_1.2 hf H locs ls hP hD hS hl
      · have hf := (if_neg h).symm.trans hf
        refine lv_iload_n hx hb dn_M_digit_26 rfl (lv_at hl 0 rfl) ?_
        refine lv_bipush (v := 97) hx hb dn_M_digit_27 (by decide) ?_
        refine lv_isub hx hb dn_M_digit_29 ?_
        refine lv_bipush (v := 10) hx hb dn_M_digit_30 (by decide) ?_
        refine lv_iadd hx hb dn_M_digit_32 ?_
        refine lv_goto (tgt := 60) hx hb dn_M_digit_33 (by decide) ?_
        rw [hQQ, ← Option.some.inj hf]
        exact xk_iret (w1 := fun u : Unit => (wM h0 a cI cB cJ cZ q_1.2)) () hx hb hr hlocks hK hS dn_M_digit_60 hP hD rfl (Nat.le_refl _) (Nat.le_refl _)
  · have hf := (if_neg h).symm.trans hf
    refine lv_iload_n hx hb dn_M_digit_7 rfl (lv_at hl 0 rfl) ?_
    refine lv_bipush (v := 48) hx hb dn_M_digit_8 (by decide) ?_
    refine lv_isub hx hb dn_M_digit_10 ?_
    refine lv_goto (tgt := 60) hx hb dn_M_digit_11 (by decide) ?_
    rw [hQQ, ← Option.some.inj hf]
    exact xk_iret (w1 := fun u : Unit => (wM h0 a cI cB cJ cZ q_1.2)) () hx hb hr hlocks hK hS dn_M_digit_60 hP hD rfl (Nat.le_refl _) (Nat.le_refl _)
theorem mo_M_read_IIIIJ_149 (N : Nat) (y : (Int64 × ms)) (x5 : Int64) (x7 : Int64) (t0 : Int32) (s : ms) (hf : bk_M_read_IIIIJ_149 N x5 x7 t0 s = some y) : gl y.2 = gl s := by
  unfold bk_M_read_IIIIJ_149 at hf
  have hm : gl s = gl s := rfl
  obtain ⟨_, hf⟩ := dc_g hf
  exact (dc_e hf).trans hm
theorem mo_M_read_IIIIJ_148 (N : Nat) (y : (Int64 × ms)) (x5 : Int64) (x7 : Int64) (s : ms) (hf : bk_M_read_IIIIJ_148 N x5 x7 s = some y) : gl y.2 = gl s := by
  unfold bk_M_read_IIIIJ_148 at hf
  have hm : gl s = gl s := rfl
  exact (mo_M_read_IIIIJ_149 N y x5 x7 0 s hf).trans hm
theorem mo_M_read_IIIIJ_144 (N : Nat) (y : (Int64 × ms)) (x5 : Int64) (x7 : Int64) (s : ms) (hf : bk_M_read_IIIIJ_144 N x5 x7 s = some y) : gl y.2 = gl s := by
  unfold bk_M_read_IIIIJ_144 at hf
  have hm : gl s = gl s := rfl
  exact (mo_M_read_IIIIJ_149 N y x5 x7 1 s hf).trans hm
theorem mo_M_read_IIIIJ_76 (N : Nat) (k_12 : Int32 → Int32 → Int32 → Int64 → Int64 → Int32 → Int32 → ms → Option (Int64 × ms)) (y : (Int64 × ms)) (hkm_12 : ∀ (x2 : Int32) (x3 : Int32) (x4 : Int32) (x5 : Int64) (x7 : Int64) (x9 : Int32) (x10 : Int32) (s : ms), k_12 x2 x3 x4 x5 x7 x9 x10 s = some y → gl y.2 = gl s) (x2 : Int32) (x3 : Int32) (x4 : Int32) (x5 : Int64) (x7 : Int64) (x10 : Int32) (t0 : Int32) (s : ms) (hf : bk_M_read_IIIIJ_76 N k_12 x2 x3 x4 x5 x7 x10 t0 s = some y) : gl y.2 = gl s := by
  unfold bk_M_read_IIIIJ_76 at hf
  have hm : gl s = gl s := rfl
  exact (hkm_12 x2 x3 x4 ((x5 &&& 4294967295)) x7 t0 ((x10 + 1)) s hf).trans hm
theorem mo_M_read_IIIIJ_71 (N : Nat) (k_12 : Int32 → Int32 → Int32 → Int64 → Int64 → Int32 → Int32 → ms → Option (Int64 × ms)) (y : (Int64 × ms)) (hkm_12 : ∀ (x2 : Int32) (x3 : Int32) (x4 : Int32) (x5 : Int64) (x7 : Int64) (x9 : Int32) (x10 : Int32) (s : ms), k_12 x2 x3 x4 x5 x7 x9 x10 s = some y → gl y.2 = gl s) (x2 : Int32) (x3 : Int32) (x4 : Int32) (x5 : Int64) (x7 : Int64) (x10 : Int32) (s : ms) (hf : bk_M_read_IIIIJ_71 N k_12 x2 x3 x4 x5 x7 x10 s = some y) : gl y.2 = gl s := by
  unfold bk_M_read_IIIIJ_71 at hf
  have hm : gl s = gl s := rfl
  exact (mo_M_read_IIIIJ_76 N k_12 y hkm_12 x2 x3 x4 x5 x7 x10 1 s hf).trans hm
theorem mb_M_read_IIIIJ_12 (N : Nat) (y : (Int64 × ms)) (k_12 : Int32 → Int32 → Int32 → Int64 → Int64 → Int32 → Int32 → ms → Option (Int64 × ms)) (hkm_12 : ∀ (x2 : Int32) (x3 : Int32) (x4 : Int32) (x5 : Int64) (x7 : Int64) (x9 : Int32) (x10 : Int32) (s : ms), k_12 x2 x3 x4 x5 x7 x9 x10 s = some y → gl y.2 = gl s) (x2 : Int32) (x3 : Int32) (x4 : Int32) (x5 : Int64) (x7 : Int64) (x9 : Int32) (x10 : Int32) (s : ms) (hf : bd_M_read_IIIIJ_12 N k_12 x2 x3 x4 x5 x7 x9 x10 s = some y) : gl y.2 = gl s := by
  unfold bd_M_read_IIIIJ_12 at hf
  have hm : gl s = gl s := rfl
  by_cases h : x2 ≤ x10
  · have hf := (if_pos h).symm.trans hf
    by_cases h : x9 = 0
    · have hf := (if_pos h).symm.trans hf
      by_cases h : 64 ≤ x4
      · have hf := (if_pos h).symm.trans hf
        exact (mo_M_read_IIIIJ_144 N y x5 x7 s hf).trans hm
      · have hf := (if_neg h).symm.trans hf
        by_cases h : x4 < 32
        · have hf := (if_pos h).symm.trans hf
          by_cases h : (lg_cmp x5 0) = 0
          · have hf := (if_pos h).symm.trans hf
            by_cases h : (lg_cmp (((x7 : Int64) >>> ((Int32.toInt64 x4) &&& 63))) 0) = 0
            · have hf := (if_pos h).symm.trans hf
              exact (mo_M_read_IIIIJ_144 N y x5 x7 s hf).trans hm
            · have hf := (if_neg h).symm.trans hf
              exact (mo_M_read_IIIIJ_148 N y x5 x7 s hf).trans hm
          · have hf := (if_neg h).symm.trans hf
            exact (mo_M_read_IIIIJ_148 N y x5 x7 s hf).trans hm
        · have hf := (if_neg h).symm.trans hf
          by_cases h : (lg_cmp (((x5 : Int64) >>> ((Int32.toInt64 ((x4 - 32))) &&& 63))) 0) = 0
          · have hf := (if_pos h).symm.trans hf
            exact (mo_M_read_IIIIJ_144 N y x5 x7 s hf).trans hm
          · have hf := (if_neg h).symm.trans hf
            exact (mo_M_read_IIIIJ_148 N y x5 x7 s hf).trans hm
    · have hf := (if_neg h).symm.trans hf
      exact (mo_M_read_IIIIJ_148 N y x5 x7 s hf).trans hm
  · have hf := (if_neg h).symm.trans hf
    obtain ⟨q_1, hc_2, hf⟩ := dc_b hf
    have hm := (mn_M_at N x10 s q_1 hc_2).trans hm
    obtain ⟨q_4, hc_5, hf⟩ := dc_b hf
    have hm := (mn_M_digit N q_1.1 q_1.2 q_4 hc_5).trans hm
    by_cases h : x9 = 0
    · have hf := (if_pos h).symm.trans hf
      by_cases h : (lg_cmp (((x5 * (Int32.toInt64 x3)) + ((((x7 * (Int32.toInt64 x3)) + (Int32.toInt64 q_4.1)) : Int64) >>> ((Int32.toInt64 32) &&& 63)))) 4294967295) ≤ 0
      · have hf := (if_pos h).symm.trans hf
        exact (mo_M_read_IIIIJ_76 N k_12 y hkm_12 x2 x3 x4 (((x5 * (Int32.toInt64 x3)) + ((((x7 * (Int32.toInt64 x3)) + (Int32.toInt64 q_4.1)) : Int64) >>> ((Int32.toInt64 32) &&& 63)))) ((((x7 * (Int32.toInt64 x3)) + (Int32.toInt64 q_4.1)) &&& 4294967295)) x10 0 q_4.2 hf).trans hm
      · have hf := (if_neg h).symm.trans hf
        exact (mo_M_read_IIIIJ_71 N k_12 y hkm_12 x2 x3 x4 (((x5 * (Int32.toInt64 x3)) + ((((x7 * (Int32.toInt64 x3)) + (Int32.toInt64 q_4.1)) : Int64) >>> ((Int32.toInt64 32) &&& 63)))) ((((x7 * (Int32.toInt64 x3)) + (Int32.toInt64 q_4.1)) &&& 4294967295)) x10 q_4.2 hf).trans hm
    · have hf := (if_neg h).symm.trans hf
      exact (mo_M_read_IIIIJ_71 N k_12 y hkm_12 x2 x3 x4 (((x5 * (Int32.toInt64 x3)) + ((((x7 * (Int32.toInt64 x3)) + (Int32.toInt64 q_4.1)) : Int64) >>> ((Int32.toInt64 32) &&& 63)))) ((((x7 * (Int32.toInt64 x3)) + (Int32.toInt64 q_4.1)) &&& 4294967295)) x10 q_4.2 hf).trans hm
theorem mh_M_read_IIIIJ_12 (N : Nat) (y : (Int64 × ms)) : ∀ (n : Nat) (x2 : Int32) (x3 : Int32) (x4 : Int32) (x5 : Int64) (x7 : Int64) (x9 : Int32) (x10 : Int32) (s : ms), hd_M_read_IIIIJ_12 N n x2 x3 x4 x5 x7 x9 x10 s = some y → gl y.2 = gl s := by
  intro n
  induction n with
  | zero => intro x2 x3 x4 x5 x7 x9 x10 s hf; cases hf
  | succ n ih => intro x2 x3 x4 x5 x7 x9 x10 s hf; exact mb_M_read_IIIIJ_12 N y (hd_M_read_IIIIJ_12 N n) ih x2 x3 x4 x5 x7 x9 x10 s hf
theorem mn_M_read_IIIIJ (N : Nat) (v1 : Int32) (v2 : Int32) (v3 : Int32) (v4 : Int32) (s : ms) (y : (Int64 × ms)) (hf : fn_M_read_IIIIJ N v1 v2 v3 v4 s = some y) : gl y.2 = gl s := by
  unfold fn_M_read_IIIIJ at hf
  have hm : gl s = gl s := rfl
  exact (mh_M_read_IIIIJ_12 N y N v2 v3 v4 0 0 0 v1 s hf).trans hm
set_option maxHeartbeats 8000000 in
set_option maxRecDepth 100000 in
theorem ct_M_read_IIIIJ (l : Launch) (dC : Nat → ClassId) (dI : Nat → Nat → Nat) (cI cB cJ cZ cQ : ClassId) (N sz : Nat) (h0 : Nat) (a : Nat → Nat) (v1 : Int32) (v2 : Int32) (v3 : Int32) (v4 : Int32) (s : ms) (y : (Int64 × ms)) (hf : fn_M_read_IIIIJ N v1 v2 v3 v4 s = some y) : Met l yn_M_read_IIIIJ (xw yn_M_read_IIIIJ bn_M_read_IIIIJ 11 (some .long)) ({ frames := 2, cells := 0, slots := 0, locals := 40 }) (dc_P (dC, dI) xcl (xt cI cB cJ cZ cQ) [.ref h0, .int v1, .int v2, .int v3, .int v4] sz (wM h0 a cI cB cJ cZ s)) (xk_Ql (dC, dI) xcl (xt cI cB cJ cZ cQ) (fun (r : Int64) (_ : Unit) => r = y.1) (fun u : Unit => (wM h0 a cI cB cJ cZ y.2)) (va_A (wM h0 a cI cB cJ cZ s) sz)) 0 0 (va_A (wM h0 a cI cB cJ cZ s) sz) := by
  refine dc_of (QA := xk_Ql (dC, dI) xcl (xt cI cB cJ cZ cQ) (fun (r : Int64) (_ : Unit) => r = y.1) (fun u : Unit => (wM h0 a cI cB cJ cZ y.2))) (by decide) (Nat.le_of_ble_eq_true rfl) ?_
  intro p e s0 m below meth c hx hb hml hown hg hr hlocks hin hP hK hN A hA hD hT ls hl
  have hown : s0.vm.findClass rn_M = some m.cls := hown
  obtain ⟨H, hH⟩ : ∃ z, z = s0.heap := ⟨_, rfl⟩
  rw [← hH] at hP
  have hS : va_S A s0.heap H [] := by rw [hH]; exact va_S.rf
  suffices kk : ∀ QQ : State → Prop, QQ = MQ below (xk_Ql (dC, dI) xcl (xt cI cB cJ cZ cQ) (fun (r : Int64) (_ : Unit) => r = y.1) (fun u : Unit => (wM h0 a cI cB cJ cZ y.2)) A) [.ref h0, .int v1, .int v2, .int v3, .int v4].toArray s0 0 0 A → dcC p l e ({ frames := 2, cells := 0, slots := 0, locals := 40 }) s0 m [.ref h0, .int v1, .int v2, .int v3, .int v4].toArray below meth c QQ (dC, dI) A (wM h0 a cI cB cJ cZ s) 0 11 [(0, .ref h0), (1, .int v1), (2, .int v2), (3, .int v3), (4, .int v4)] [] by
    have k9 := kk _ rfl H [] ls hP hD hS hl
    rw [hH] at k9; exact k9
  clear hP hD hS hl hH H ls
  intro QQ hQQ
  have bl_149 : ∀ (x5 : Int64) (x7 : Int64) (t0 : Int32) (s : ms), bk_M_read_IIIIJ_149 N x5 x7 t0 s = some y → dcC p l e ({ frames := 2, cells := 0, slots := 0, locals := 40 }) s0 m [.ref h0, .int v1, .int v2, .int v3, .int v4].toArray below meth c QQ (dC, dI) A (wM h0 a cI cB cJ cZ s) 149 11 [(0, .ref h0), (5, .long x5), (7, .long x7)] [.int t0] := by
    intro x5 x7 t0 s hf H locs ls hP hD hS hl
    unfold bk_M_read_IIIIJ_149 at hf
    refine lv_istore (lv' := [(10, .int t0), (0, .ref h0), (5, .long x5), (7, .long x7)]) hx hb dn_M_read_IIIIJ_149 hl (by decide) rfl (fun ls hl => ?_)
    refine lv_aload_n hx hb dn_M_read_IIIIJ_151 rfl (lv_at hl 1 rfl) ?_
    refine lv_iload hx hb dn_M_read_IIIIJ_152 (lv_at hl 0 rfl) ?_
    obtain ⟨hg_1, hf⟩ := dc_g hf
    refine va_put (D := (dC, dI)) (ci := 0) (v := .int t0) (ty := .boolean) (C := rn_M) (T := fn_M) (N := 91) hx hb hg in_M tn_M tk_M nn_M hown hK hP hD hS 0 rfl rfl 87 (by decide) (hg _ wn_8_160) (fun _ h9 => h9) rfl (tk_M 87 (by decide)) (dc_z hg_1) (dc_zf hg_1) (Nat.le_of_ble_eq_true rfl) dn_M_read_IIIIJ_154 (fun H locs hP hD hS => ?_)
    have hP := wM_P_87 hP
    have hD := wM_D_87 hD
    refine lv_lload hx hb dn_M_read_IIIIJ_157 (lv_at hl 2 rfl) ?_
    refine lv_bipush (v := 32) hx hb dn_M_read_IIIIJ_159 (by decide) ?_
    refine lv_lshl (v := (x5 : Int64) <<< ((Int32.toInt64 32) &&& 63)) hx hb dn_M_read_IIIIJ_161 rfl ?_
    refine lv_lload hx hb dn_M_read_IIIIJ_162 (lv_at hl 3 rfl) ?_
    refine lv_lor hx hb dn_M_read_IIIIJ_164 ?_
    rw [hQQ, ← Option.some.inj hf]
    exact xk_lret (w1 := fun u : Unit => (wM h0 a cI cB cJ cZ (upI s 87 (fun _ => t0)))) () hx hb hr hlocks hK hS dn_M_read_IIIIJ_165 hP hD rfl (Nat.le_refl _) (Nat.le_refl _)
  have bl_148 : ∀ (x5 : Int64) (x7 : Int64) (s : ms), bk_M_read_IIIIJ_148 N x5 x7 s = some y → dcC p l e ({ frames := 2, cells := 0, slots := 0, locals := 40 }) s0 m [.ref h0, .int v1, .int v2, .int v3, .int v4].toArray below meth c QQ (dC, dI) A (wM h0 a cI cB cJ cZ s) 148 11 [(0, .ref h0), (5, .long x5), (7, .long x7)] [] := by
    intro x5 x7 s hf H locs ls hP hD hS hl
    unfold bk_M_read_IIIIJ_148 at hf
    refine lv_iconst (v := 0) hx hb dn_M_read_IIIIJ_148 (by decide) ?_
    exact bl_149 x5 x7 0 s hf H locs ls hP hD hS hl
  have bl_144 : ∀ (x5 : Int64) (x7 : Int64) (s : ms), bk_M_read_IIIIJ_144 N x5 x7 s = some y → dcC p l e ({ frames := 2, cells := 0, slots := 0, locals := 40 }) s0 m [.ref h0, .int v1, .int v2, .int v3, .int v4].toArray below meth c QQ (dC, dI) A (wM h0 a cI cB cJ cZ s) 144 11 [(0, .ref h0), (5, .long x5), (7, .long x7)] [] := by
    intro x5 x7 s hf H locs ls hP hD hS hl
    unfold bk_M_read_IIIIJ_144 at hf
    refine lv_iconst (v := 1) hx hb dn_M_read_IIIIJ_144 (by decide) ?_
    refine lv_goto (tgt := 149) hx hb dn_M_read_IIIIJ_145 (by decide) ?_
    exact bl_149 x5 x7 1 s hf H locs ls hP hD hS hl
  have bl_76 : ∀ (k_12 : Int32 → Int32 → Int32 → Int64 → Int64 → Int32 → Int32 → ms → Option (Int64 × ms)) (hk_12 : ∀ (x2 : Int32) (x3 : Int32) (x4 : Int32) (x5 : Int64) (x7 : Int64) (x9 : Int32) (x10 : Int32) (s : ms), k_12 x2 x3 x4 x5 x7 x9 x10 s = some y → dcC p l e ({ frames := 2, cells := 0, slots := 0, locals := 40 }) s0 m [.ref h0, .int v1, .int v2, .int v3, .int v4].toArray below meth c QQ (dC, dI) A (wM h0 a cI cB cJ cZ s) 12 11 [(0, .ref h0), (2, .int x2), (3, .int x3), (4, .int x4), (5, .long x5), (7, .long x7), (9, .int x9), (10, .int x10)] []) (x2 : Int32) (x3 : Int32) (x4 : Int32) (x5 : Int64) (x7 : Int64) (x10 : Int32) (t0 : Int32) (s : ms), bk_M_read_IIIIJ_76 N k_12 x2 x3 x4 x5 x7 x10 t0 s = some y → dcC p l e ({ frames := 2, cells := 0, slots := 0, locals := 40 }) s0 m [.ref h0, .int v1, .int v2, .int v3, .int v4].toArray below meth c QQ (dC, dI) A (wM h0 a cI cB cJ cZ s) 76 11 [(0, .ref h0), (2, .int x2), (3, .int x3), (4, .int x4), (5, .long x5), (7, .long x7), (10, .int x10)] [.int t0] := by
    intro k_12 hk_12 x2 x3 x4 x5 x7 x10 t0 s hf H locs ls hP hD hS hl
    unfold bk_M_read_IIIIJ_76 at hf
    refine lv_istore (lv' := [(9, .int t0), (0, .ref h0), (2, .int x2), (3, .int x3), (4, .int x4), (5, .long x5), (7, .long x7), (10, .int x10)]) hx hb dn_M_read_IIIIJ_76 hl (by decide) rfl (fun ls hl => ?_)
    refine lv_lload hx hb dn_M_read_IIIIJ_78 (lv_at hl 5 rfl) ?_
    refine lv_ldc2 hx hb hown (hg _ wn_9_166) dn_M_read_IIIIJ_80 ?_
    refine lv_land hx hb dn_M_read_IIIIJ_83 ?_
    refine lv_lstore (lv' := [(5, .long ((x5 &&& 4294967295))), (9, .int t0), (0, .ref h0), (2, .int x2), (3, .int x3), (4, .int x4), (7, .long x7), (10, .int x10)]) hx hb dn_M_read_IIIIJ_84 hl (by decide) rfl (fun ls hl => ?_)
    refine lv_iinc (v := (x10 + 1)) (lv' := [(10, .int ((x10 + 1))), (5, .long ((x5 &&& 4294967295))), (9, .int t0), (0, .ref h0), (2, .int x2), (3, .int x3), (4, .int x4), (7, .long x7)]) hx hb dn_M_read_IIIIJ_86 hl (k := 7) rfl (dc_inc (by decide)) (by decide) rfl (fun ls hl => ?_)
    refine lv_goto (tgt := 12) hx hb dn_M_read_IIIIJ_89 (by decide) ?_
    exact hk_12 x2 x3 x4 ((x5 &&& 4294967295)) x7 t0 ((x10 + 1)) s hf H locs ls hP hD hS (lv_sub hl [3, 4, 5, 6, 1, 7, 2, 0] rfl)
  have bl_71 : ∀ (k_12 : Int32 → Int32 → Int32 → Int64 → Int64 → Int32 → Int32 → ms → Option (Int64 × ms)) (hk_12 : ∀ (x2 : Int32) (x3 : Int32) (x4 : Int32) (x5 : Int64) (x7 : Int64) (x9 : Int32) (x10 : Int32) (s : ms), k_12 x2 x3 x4 x5 x7 x9 x10 s = some y → dcC p l e ({ frames := 2, cells := 0, slots := 0, locals := 40 }) s0 m [.ref h0, .int v1, .int v2, .int v3, .int v4].toArray below meth c QQ (dC, dI) A (wM h0 a cI cB cJ cZ s) 12 11 [(0, .ref h0), (2, .int x2), (3, .int x3), (4, .int x4), (5, .long x5), (7, .long x7), (9, .int x9), (10, .int x10)] []) (x2 : Int32) (x3 : Int32) (x4 : Int32) (x5 : Int64) (x7 : Int64) (x10 : Int32) (s : ms), bk_M_read_IIIIJ_71 N k_12 x2 x3 x4 x5 x7 x10 s = some y → dcC p l e ({ frames := 2, cells := 0, slots := 0, locals := 40 }) s0 m [.ref h0, .int v1, .int v2, .int v3, .int v4].toArray below meth c QQ (dC, dI) A (wM h0 a cI cB cJ cZ s) 71 11 [(0, .ref h0), (2, .int x2), (3, .int x3), (4, .int x4), (5, .long x5), (7, .long x7), (10, .int x10)] [] := by
    intro k_12 hk_12 x2 x3 x4 x5 x7 x10 s hf H locs ls hP hD hS hl
    unfold bk_M_read_IIIIJ_71 at hf
    refine lv_iconst (v := 1) hx hb dn_M_read_IIIIJ_71 (by decide) ?_
    refine lv_goto (tgt := 76) hx hb dn_M_read_IIIIJ_72 (by decide) ?_
    exact bl_76 k_12 hk_12 x2 x3 x4 x5 x7 x10 1 s hf H locs ls hP hD hS hl
  have hd_12 : ∀ (n : Nat) (x2 : Int32) (x3 : Int32) (x4 : Int32) (x5 : Int64) (x7 : Int64) (x9 : Int32) (x10 : Int32) (s : ms), hd_M_read_IIIIJ_12 N n x2 x3 x4 x5 x7 x9 x10 s = some y → dcC p l e ({ frames := 2, cells := 0, slots := 0, locals := 40 }) s0 m [.ref h0, .int v1, .int v2, .int v3, .int v4].toArray below meth c QQ (dC, dI) A (wM h0 a cI cB cJ cZ s) 12 11 [(0, .ref h0), (2, .int x2), (3, .int x3), (4, .int x4), (5, .long x5), (7, .long x7), (9, .int x9), (10, .int x10)] [] := by
    intro n
    induction n with
    | zero => intro x2 x3 x4 x5 x7 x9 x10 s hf; cases hf
    | succ n ih =>
      intro x2 x3 x4 x5 x7 x9 x10 s hf H locs ls hP hD hS hl
      have hf : bd_M_read_IIIIJ_12 N (hd_M_read_IIIIJ_12 N n) x2 x3 x4 x5 x7 x9 x10 s = some y := hf
      have hk_12 := ih
      generalize hd_M_read_IIIIJ_12 N n = k_12 at hf hk_12
      unfold bd_M_read_IIIIJ_12 at hf
      refine lv_iload hx hb dn_M_read_IIIIJ_12 (lv_at hl 7 rfl) ?_
      refine lv_iload_n hx hb dn_M_read_IIIIJ_14 rfl (lv_at hl 1 rfl) ?_
      refine lv_icmp_ge (tgt := 92) hx hb dn_M_read_IIIIJ_15 (by decide) (fun h => ?_) (fun h => ?_)
      · have hf := (if_pos h).symm.trans hf
        refine lv_iload hx hb dn_M_read_IIIIJ_92 (lv_at hl 6 rfl) ?_
        refine lv_if_ne (tgt := 148) hx hb dn_M_read_IIIIJ_94 (by decide) (fun h => ?_) (fun h => ?_)
        · have hf := (if_neg h).symm.trans hf
          exact bl_148 x5 x7 s hf H locs ls hP hD hS (lv_sub hl [0, 4, 5] rfl)
        · have hf := (if_pos h).symm.trans hf
          refine lv_iload hx hb dn_M_read_IIIIJ_97 (lv_at hl 3 rfl) ?_
          refine lv_bipush (v := 64) hx hb dn_M_read_IIIIJ_99 (by decide) ?_
          refine lv_icmp_ge (tgt := 144) hx hb dn_M_read_IIIIJ_101 (by decide) (fun h => ?_) (fun h => ?_)
          · have hf := (if_pos h).symm.trans hf
            exact bl_144 x5 x7 s hf H locs ls hP hD hS (lv_sub hl [0, 4, 5] rfl)
          · have hf := (if_neg h).symm.trans hf
            refine lv_iload hx hb dn_M_read_IIIIJ_104 (lv_at hl 3 rfl) ?_
            refine lv_bipush (v := 32) hx hb dn_M_read_IIIIJ_106 (by decide) ?_
            refine lv_icmp_lt (tgt := 127) hx hb dn_M_read_IIIIJ_108 (by decide) (fun h => ?_) (fun h => ?_)
            · have hf := (if_pos h).symm.trans hf
              refine lv_lload hx hb dn_M_read_IIIIJ_127 (lv_at hl 4 rfl) ?_
              refine lv_lconst (v := 0) hx hb dn_M_read_IIIIJ_129 (by decide) ?_
              refine W.lcmp hx hb dn_M_read_IIIIJ_130 ?_
              refine lv_if_ne (tgt := 148) hx hb dn_M_read_IIIIJ_131 (by decide) (fun h => ?_) (fun h => ?_)
              · have hf := (if_neg h).symm.trans hf
                exact bl_148 x5 x7 s hf H locs ls hP hD hS (lv_sub hl [0, 4, 5] rfl)
              · have hf := (if_pos h).symm.trans hf
                refine lv_lload hx hb dn_M_read_IIIIJ_134 (lv_at hl 5 rfl) ?_
                refine lv_iload hx hb dn_M_read_IIIIJ_136 (lv_at hl 3 rfl) ?_
                refine lv_lshr (v := (x7 : Int64) >>> ((Int32.toInt64 x4) &&& 63)) hx hb dn_M_read_IIIIJ_138 rfl ?_
                refine lv_lconst (v := 0) hx hb dn_M_read_IIIIJ_139 (by decide) ?_
                refine W.lcmp hx hb dn_M_read_IIIIJ_140 ?_
                refine lv_if_ne (tgt := 148) hx hb dn_M_read_IIIIJ_141 (by decide) (fun h => ?_) (fun h => ?_)
                · have hf := (if_neg h).symm.trans hf
                  exact bl_148 x5 x7 s hf H locs ls hP hD hS (lv_sub hl [0, 4, 5] rfl)
                · have hf := (if_pos h).symm.trans hf
                  exact bl_144 x5 x7 s hf H locs ls hP hD hS (lv_sub hl [0, 4, 5] rfl)
            · have hf := (if_neg h).symm.trans hf
              refine lv_lload hx hb dn_M_read_IIIIJ_111 (lv_at hl 4 rfl) ?_
              refine lv_iload hx hb dn_M_read_IIIIJ_113 (lv_at hl 3 rfl) ?_
              refine lv_bipush (v := 32) hx hb dn_M_read_IIIIJ_115 (by decide) ?_
              refine lv_isub hx hb dn_M_read_IIIIJ_117 ?_
              refine lv_lshr (v := (x5 : Int64) >>> ((Int32.toInt64 ((x4 - 32))) &&& 63)) hx hb dn_M_read_IIIIJ_118 rfl ?_
              refine lv_lconst (v := 0) hx hb dn_M_read_IIIIJ_119 (by decide) ?_
              refine W.lcmp hx hb dn_M_read_IIIIJ_120 ?_
              refine lv_if_ne (tgt := 148) hx hb dn_M_read_IIIIJ_121 (by decide) (fun h => ?_) (fun h => ?_)
              · have hf := (if_neg h).symm.trans hf
                exact bl_148 x5 x7 s hf H locs ls hP hD hS (lv_sub hl [0, 4, 5] rfl)
              · have hf := (if_pos h).symm.trans hf
                refine lv_goto (tgt := 144) hx hb dn_M_read_IIIIJ_124 (by decide) ?_
                exact bl_144 x5 x7 s hf H locs ls hP hD hS (lv_sub hl [0, 4, 5] rfl)
      · have hf := (if_neg h).symm.trans hf
        refine lv_lload hx hb dn_M_read_IIIIJ_18 (lv_at hl 5 rfl) ?_
        refine lv_iload_n hx hb dn_M_read_IIIIJ_20 rfl (lv_at hl 2 rfl) ?_
        refine lv_i2l (v := Int32.toInt64 x3) hx hb dn_M_read_IIIIJ_21 rfl ?_
        refine lv_lmul hx hb dn_M_read_IIIIJ_22 ?_
        refine lv_aload_n hx hb dn_M_read_IIIIJ_23 rfl (lv_at hl 0 rfl) ?_
        refine lv_iload hx hb dn_M_read_IIIIJ_24 (lv_at hl 7 rfl) ?_
        obtain ⟨q_1, hc_2, hf⟩ := dc_b hf
        refine dc_calli (dc_runV (ar := 1) (As := [.int x10]) (rest := [.long ((x7 * (Int32.toInt64 x3)))]) (ci := 0) (q0 := 0) ⟨hx, hb, hml, hown, hg⟩ hK hN hT hS hA (ct_M_at l dC dI cI cB cJ cZ cQ N H.size h0 a x10 s q_1 hc_2) hP hD rfl rfl wn_9_128 wn_9_130 sn_M_at wn_1_13 wn_9_131 rfl rfl (by decide +kernel) ⟨Nat.le_of_ble_eq_true rfl, Nat.le_of_ble_eq_true rfl⟩ rfl hl.1 rfl (Nat.le_of_ble_eq_true rfl) dn_M_read_IIIIJ_26 ⟨Nat.le_of_ble_eq_true rfl, Nat.le_of_ble_eq_true rfl⟩) hP hD hS hA (fun r_3 _ H locs hw hP hD hS => ?_)
        have hw : r_3 = q_1.1 := hw
        subst hw
        obtain ⟨q_4, hc_5, hf⟩ := dc_b hf
        refine dc_calli (dc_runS (ar := 1) (As := [.int q_1.1]) (rest := [.long ((x7 * (Int32.toInt64 x3)))]) ⟨hx, hb, hml, hown, hg⟩ hK hN hT hS hA (ct_M_digit l dC dI cI cB cJ cZ cQ N H.size h0 a q_1.1 q_1.2 q_4 hc_5) hP hD wn_9_163 wn_9_164 wn_1_13 wn_9_165 rfl rfl (by decide +kernel) ⟨Nat.le_of_ble_eq_true rfl, Nat.le_of_ble_eq_true rfl⟩ rfl hl.1 rfl (Nat.le_of_ble_eq_true rfl) dn_M_read_IIIIJ_29 ⟨Nat.le_of_ble_eq_true rfl, Nat.le_of_ble_eq_true rfl⟩) hP hD hS hA (fun r_6 _ H locs hw hP hD hS => ?_)
        have hw : r_6 = q_4.1 := hw
        subst hw
        refine lv_i2l (v := Int32.toInt64 q_4.1) hx hb dn_M_read_IIIIJ_32 rfl ?_
        refine lv_ladd hx hb dn_M_read_IIIIJ_33 ?_
        refine lv_lstore (lv' := [(7, .long (((x7 * (Int32.toInt64 x3)) + (Int32.toInt64 q_4.1)))), (0, .ref h0), (2, .int x2), (3, .int x3), (4, .int x4), (5, .long x5), (9, .int x9), (10, .int x10)]) hx hb dn_M_read_IIIIJ_34 hl (by decide) rfl (fun ls hl => ?_)
        refine lv_lload hx hb dn_M_read_IIIIJ_36 (lv_at hl 5 rfl) ?_
        refine lv_iload_n hx hb dn_M_read_IIIIJ_38 rfl (lv_at hl 3 rfl) ?_
        refine lv_i2l (v := Int32.toInt64 x3) hx hb dn_M_read_IIIIJ_39 rfl ?_
        refine lv_lmul hx hb dn_M_read_IIIIJ_40 ?_
        refine lv_lload hx hb dn_M_read_IIIIJ_41 (lv_at hl 0 rfl) ?_
        refine lv_bipush (v := 32) hx hb dn_M_read_IIIIJ_43 (by decide) ?_
        refine lv_lshr (v := (((x7 * (Int32.toInt64 x3)) + (Int32.toInt64 q_4.1)) : Int64) >>> ((Int32.toInt64 32) &&& 63)) hx hb dn_M_read_IIIIJ_45 rfl ?_
        refine lv_ladd hx hb dn_M_read_IIIIJ_46 ?_
        refine lv_lstore (lv' := [(5, .long (((x5 * (Int32.toInt64 x3)) + ((((x7 * (Int32.toInt64 x3)) + (Int32.toInt64 q_4.1)) : Int64) >>> ((Int32.toInt64 32) &&& 63))))), (7, .long (((x7 * (Int32.toInt64 x3)) + (Int32.toInt64 q_4.1)))), (0, .ref h0), (2, .int x2), (3, .int x3), (4, .int x4), (9, .int x9), (10, .int x10)]) hx hb dn_M_read_IIIIJ_47 hl (by decide) rfl (fun ls hl => ?_)
        refine lv_lload hx hb dn_M_read_IIIIJ_49 (lv_at hl 1 rfl) ?_
        refine lv_ldc2 hx hb hown (hg _ wn_9_166) dn_M_read_IIIIJ_51 ?_
        refine lv_land hx hb dn_M_read_IIIIJ_54 ?_
        refine lv_lstore (lv' := [(7, .long ((((x7 * (Int32.toInt64 x3)) + (Int32.toInt64 q_4.1)) &&& 4294967295))), (5, .long (((x5 * (Int32.toInt64 x3)) + ((((x7 * (Int32.toInt64 x3)) + (Int32.toInt64 q_4.1)) : Int64) >>> ((Int32.toInt64 32) &&& 63))))), (0, .ref h0), (2, .int x2), (3, .int x3), (4, .int x4), (9, .int x9), (10, .int x10)]) hx hb dn_M_read_IIIIJ_55 hl (by decide) rfl (fun ls hl => ?_)
        refine lv_iload hx hb dn_M_read_IIIIJ_57 (lv_at hl 6 rfl) ?_
        refine lv_if_ne (tgt := 71) hx hb dn_M_read_IIIIJ_59 (by decide) (fun h => ?_) (fun h => ?_)
        · have hf := (if_neg h).symm.trans hf
          exact bl_71 k_12 hk_12 x2 x3 x4 (((x5 * (Int32.toInt64 x3)) + ((((x7 * (Int32.toInt64 x3)) + (Int32.toInt64 q_4.1)) : Int64) >>> ((Int32.toInt64 32) &&& 63)))) ((((x7 * (Int32.toInt64 x3)) + (Int32.toInt64 q_4.1)) &&& 4294967295)) x10 q_4.2 hf H locs ls hP hD hS (lv_sub hl [2, 3, 4, 5, 1, 0, 7] rfl)
        · have hf := (if_pos h).symm.trans hf
          refine lv_lload hx hb dn_M_read_IIIIJ_62 (lv_at hl 1 rfl) ?_
          refine lv_ldc2 hx hb hown (hg _ wn_9_166) dn_M_read_IIIIJ_64 ?_
          refine W.lcmp hx hb dn_M_read_IIIIJ_67 ?_
          refine lv_if_le (tgt := 75) hx hb dn_M_read_IIIIJ_68 (by decide) (fun h => ?_) (fun h => ?_)
          · have hf := (if_pos h).symm.trans hf
            refine lv_iconst (v := 0) hx hb dn_M_read_IIIIJ_75 (by decide) ?_
            exact bl_76 k_12 hk_12 x2 x3 x4 (((x5 * (Int32.toInt64 x3)) + ((((x7 * (Int32.toInt64 x3)) + (Int32.toInt64 q_4.1)) : Int64) >>> ((Int32.toInt64 32) &&& 63)))) ((((x7 * (Int32.toInt64 x3)) + (Int32.toInt64 q_4.1)) &&& 4294967295)) x10 0 q_4.2 hf H locs ls hP hD hS (lv_sub hl [2, 3, 4, 5, 1, 0, 7] rfl)
          · have hf := (if_neg h).symm.trans hf
            exact bl_71 k_12 hk_12 x2 x3 x4 (((x5 * (Int32.toInt64 x3)) + ((((x7 * (Int32.toInt64 x3)) + (Int32.toInt64 q_4.1)) : Int64) >>> ((Int32.toInt64 32) &&& 63)))) ((((x7 * (Int32.toInt64 x3)) + (Int32.toInt64 q_4.1)) &&& 4294967295)) x10 q_4.2 hf H locs ls hP hD hS (lv_sub hl [2, 3, 4, 5, 1, 0, 7] rfl)
  intro H locs ls hP hD hS hl
  unfold fn_M_read_IIIIJ at hf
  refine lv_lconst (v := 0) hx hb dn_M_read_IIIIJ_0 (by decide) ?_
  refine lv_lstore (lv' := [(5, .long 0), (0, .ref h0), (1, .int v1), (2, .int v2), (3, .int v3), (4, .int v4)]) hx hb dn_M_read_IIIIJ_1 hl (by decide) rfl (fun ls hl => ?_)
  refine lv_lconst (v := 0) hx hb dn_M_read_IIIIJ_3 (by decide) ?_
  refine lv_lstore (lv' := [(7, .long 0), (5, .long 0), (0, .ref h0), (1, .int v1), (2, .int v2), (3, .int v3), (4, .int v4)]) hx hb dn_M_read_IIIIJ_4 hl (by decide) rfl (fun ls hl => ?_)
  refine lv_iconst (v := 0) hx hb dn_M_read_IIIIJ_6 (by decide) ?_
  refine lv_istore (lv' := [(9, .int 0), (7, .long 0), (5, .long 0), (0, .ref h0), (1, .int v1), (2, .int v2), (3, .int v3), (4, .int v4)]) hx hb dn_M_read_IIIIJ_7 hl (by decide) rfl (fun ls hl => ?_)
  refine lv_iload_n hx hb dn_M_read_IIIIJ_9 rfl (lv_at hl 4 rfl) ?_
  refine lv_istore (lv' := [(10, .int v1), (9, .int 0), (7, .long 0), (5, .long 0), (0, .ref h0), (1, .int v1), (2, .int v2), (3, .int v3), (4, .int v4)]) hx hb dn_M_read_IIIIJ_10 hl (by decide) rfl (fun ls hl => ?_)
  exact hd_12 N v2 v3 v4 0 0 0 v1 s hf H locs ls hP hD hS (lv_sub hl [4, 6, 7, 8, 3, 2, 1, 0] rfl)
theorem mo_M_numberKind_237 (N : Nat) (y : (Int32 × ms)) (x9 : Int32) (s : ms) (hf : bk_M_numberKind_237 N x9 s = some y) : gl y.2 = gl s := by
  unfold bk_M_numberKind_237 at hf
  have hm : gl s = gl s := rfl
  by_cases h : x9 = 0
  · have hf := (if_pos h).symm.trans hf
    exact (dc_e hf).trans hm
  · have hf := (if_neg h).symm.trans hf
    by_cases h : (s.1 87 0) = 0
    · have hf := (if_pos h).symm.trans hf
      exact (dc_e hf).trans hm
    · have hf := (if_neg h).symm.trans hf
      exact (dc_e hf).trans hm
theorem mo_M_numberKind_218 (N : Nat) (y : (Int32 × ms)) (x2 : Int32) (x3 : Int32) (x4 : Int64) (x8 : Int32) (x9 : Int32) (s : ms) (hf : bk_M_numberKind_218 N x2 x3 x4 x8 x9 s = some y) : gl y.2 = gl s := by
  unfold bk_M_numberKind_218 at hf
  have hm : gl s = gl s := rfl
  by_cases h : x9 = 0
  · have hf := (if_pos h).symm.trans hf
    exact (mo_M_numberKind_237 N y x9 s hf).trans hm
  · have hf := (if_neg h).symm.trans hf
    obtain ⟨q_1, hc_2, hf⟩ := dc_b hf
    have hm := (mn_M_read_IIIIJ N ((x3 + 2)) x2 x8 ((Int64.toInt32 x4)) s q_1 hc_2).trans hm
    exact (mo_M_numberKind_237 N y x9 q_1.2 hf).trans hm
theorem mb_M_numberKind_180 (N : Nat) (y : (Int32 × ms)) (k_180 : Int32 → Int32 → Int64 → Int32 → Int32 → Int32 → ms → Option (Int32 × ms)) (hkm_180 : ∀ (x2 : Int32) (x3 : Int32) (x4 : Int64) (x8 : Int32) (x9 : Int32) (x10 : Int32) (s : ms), k_180 x2 x3 x4 x8 x9 x10 s = some y → gl y.2 = gl s) (x2 : Int32) (x3 : Int32) (x4 : Int64) (x8 : Int32) (x9 : Int32) (x10 : Int32) (s : ms) (hf : bd_M_numberKind_180 N k_180 x2 x3 x4 x8 x9 x10 s = some y) : gl y.2 = gl s := by
  unfold bd_M_numberKind_180 at hf
  have hm : gl s = gl s := rfl
  by_cases h : x2 ≤ x10
  · have hf := (if_pos h).symm.trans hf
    exact (mo_M_numberKind_218 N y x2 x3 x4 x8 x9 s hf).trans hm
  · have hf := (if_neg h).symm.trans hf
    by_cases h : x9 = 0
    · have hf := (if_pos h).symm.trans hf
      exact (mo_M_numberKind_218 N y x2 x3 x4 x8 x9 s hf).trans hm
    · have hf := (if_neg h).symm.trans hf
      obtain ⟨q_1, hc_2, hf⟩ := dc_b hf
      have hm := (mn_M_at N x10 s q_1 hc_2).trans hm
      obtain ⟨q_4, hc_5, hf⟩ := dc_b hf
      have hm := (mn_M_digit N q_1.1 q_1.2 q_4 hc_5).trans hm
      by_cases h : x8 ≤ q_4.1
      · have hf := (if_pos h).symm.trans hf
        exact (hkm_180 x2 x3 x4 x8 0 ((x10 + 1)) q_4.2 hf).trans hm
      · have hf := (if_neg h).symm.trans hf
        exact (hkm_180 x2 x3 x4 x8 1 ((x10 + 1)) q_4.2 hf).trans hm
theorem mh_M_numberKind_180 (N : Nat) (y : (Int32 × ms)) : ∀ (n : Nat) (x2 : Int32) (x3 : Int32) (x4 : Int64) (x8 : Int32) (x9 : Int32) (x10 : Int32) (s : ms), hd_M_numberKind_180 N n x2 x3 x4 x8 x9 x10 s = some y → gl y.2 = gl s := by
  intro n
  induction n with
  | zero => intro x2 x3 x4 x8 x9 x10 s hf; cases hf
  | succ n ih => intro x2 x3 x4 x8 x9 x10 s hf; exact mb_M_numberKind_180 N y (hd_M_numberKind_180 N n) ih x2 x3 x4 x8 x9 x10 s hf
theorem mo_M_numberKind_173 (N : Nat) (y : (Int32 × ms)) (x2 : Int32) (x3 : Int32) (x4 : Int64) (x8 : Int32) (t0 : Int32) (s : ms) (hf : bk_M_numberKind_173 N x2 x3 x4 x8 t0 s = some y) : gl y.2 = gl s := by
  unfold bk_M_numberKind_173 at hf
  have hm : gl s = gl s := rfl
  exact (mh_M_numberKind_180 N y N x2 x3 x4 x8 t0 ((x3 + 2)) s hf).trans hm
theorem mo_M_numberKind_161 (N : Nat) (y : (Int32 × ms)) (x2 : Int32) (x3 : Int32) (x4 : Int64) (t0 : Int32) (s : ms) (hf : bk_M_numberKind_161 N x2 x3 x4 t0 s = some y) : gl y.2 = gl s := by
  unfold bk_M_numberKind_161 at hf
  have hm : gl s = gl s := rfl
  by_cases h : t0 ≤ 0
  · have hf := (if_pos h).symm.trans hf
    exact (mo_M_numberKind_173 N y x2 x3 x4 t0 0 s hf).trans hm
  · have hf := (if_neg h).symm.trans hf
    exact (mo_M_numberKind_173 N y x2 x3 x4 t0 1 s hf).trans hm
theorem mo_M_numberKind_24 (N : Nat) (y : (Int32 × ms)) (x1 : Int32) (x2 : Int32) (x3 : Int32) (s : ms) (hf : bk_M_numberKind_24 N x1 x2 x3 s = some y) : gl y.2 = gl s := by
  unfold bk_M_numberKind_24 at hf
  have hm : gl s = gl s := rfl
  obtain ⟨q_1, hc_2, hf⟩ := dc_b hf
  have hm := (mn_M_read_IIIIJ N x1 x3 10 16 s q_1 hc_2).trans hm
  by_cases h : x3 = x2
  · have hf := (if_pos h).symm.trans hf
    by_cases h : (q_1.2.1 87 0) = 0
    · have hf := (if_pos h).symm.trans hf
      exact (dc_e hf).trans hm
    · have hf := (if_neg h).symm.trans hf
      exact (dc_e hf).trans hm
  · have hf := (if_neg h).symm.trans hf
    obtain ⟨q_4, hc_5, hf⟩ := dc_b hf
    have hm := (mn_M_at N x3 q_1.2 q_4 hc_5).trans hm
    by_cases h : q_4.1 = 39
    · have hf := (if_pos h).symm.trans hf
      by_cases h : (q_1.2.1 87 0) = 0
      · have hf := (if_pos h).symm.trans hf
        exact (dc_e hf).trans hm
      · have hf := (if_neg h).symm.trans hf
        by_cases h : (lg_cmp q_1.1 1) < 0
        · have hf := (if_pos h).symm.trans hf
          exact (dc_e hf).trans hm
        · have hf := (if_neg h).symm.trans hf
          by_cases h : 0 < (lg_cmp q_1.1 64)
          · have hf := (if_pos h).symm.trans hf
            exact (dc_e hf).trans hm
          · have hf := (if_neg h).symm.trans hf
            by_cases h : (x3 + 2) < x2
            · have hf := (if_pos h).symm.trans hf
              obtain ⟨q_7, hc_8, hf⟩ := dc_b hf
              have hm := (mn_M_at N ((x3 + 1)) q_4.2 q_7 hc_8).trans hm
              by_cases h : q_7.1 = 98
              · have hf := (if_pos h).symm.trans hf
                exact (mo_M_numberKind_161 N y x2 x3 q_1.1 2 q_7.2 hf).trans hm
              · have hf := (if_neg h).symm.trans hf
                by_cases h : q_7.1 = 111
                · have hf := (if_pos h).symm.trans hf
                  exact (mo_M_numberKind_161 N y x2 x3 q_1.1 8 q_7.2 hf).trans hm
                · have hf := (if_neg h).symm.trans hf
                  by_cases h : q_7.1 = 100
                  · have hf := (if_pos h).symm.trans hf
                    exact (mo_M_numberKind_161 N y x2 x3 q_1.1 10 q_7.2 hf).trans hm
                  · have hf := (if_neg h).symm.trans hf
                    by_cases h : q_7.1 = 104
                    · have hf := (if_pos h).symm.trans hf
                      exact (mo_M_numberKind_161 N y x2 x3 q_1.1 16 q_7.2 hf).trans hm
                    · have hf := (if_neg h).symm.trans hf
                      exact (mo_M_numberKind_161 N y x2 x3 q_1.1 0 q_7.2 hf).trans hm
            · have hf := (if_neg h).symm.trans hf
              exact (dc_e hf).trans hm
    · have hf := (if_neg h).symm.trans hf
      exact (dc_e hf).trans hm
theorem mb_M_numberKind_2 (N : Nat) (y : (Int32 × ms)) (k_2 : Int32 → Int32 → Int32 → ms → Option (Int32 × ms)) (hkm_2 : ∀ (x1 : Int32) (x2 : Int32) (x3 : Int32) (s : ms), k_2 x1 x2 x3 s = some y → gl y.2 = gl s) (x1 : Int32) (x2 : Int32) (x3 : Int32) (s : ms) (hf : bd_M_numberKind_2 N k_2 x1 x2 x3 s = some y) : gl y.2 = gl s := by
  unfold bd_M_numberKind_2 at hf
  have hm : gl s = gl s := rfl
  by_cases h : x2 ≤ x3
  · have hf := (if_pos h).symm.trans hf
    exact (mo_M_numberKind_24 N y x1 x2 x3 s hf).trans hm
  · have hf := (if_neg h).symm.trans hf
    obtain ⟨q_1, hc_2, hf⟩ := dc_b hf
    have hm := (mn_M_at N x3 s q_1 hc_2).trans hm
    obtain ⟨q_4, hc_5, hf⟩ := dc_b hf
    have hm := (mn_M_isDigit N q_1.1 q_1.2 q_4 hc_5).trans hm
    by_cases h : q_4.1 = 0
    · have hf := (if_pos h).symm.trans hf
      exact (mo_M_numberKind_24 N y x1 x2 x3 q_4.2 hf).trans hm
    · have hf := (if_neg h).symm.trans hf
      exact (hkm_2 x1 x2 ((x3 + 1)) q_4.2 hf).trans hm
theorem mh_M_numberKind_2 (N : Nat) (y : (Int32 × ms)) : ∀ (n : Nat) (x1 : Int32) (x2 : Int32) (x3 : Int32) (s : ms), hd_M_numberKind_2 N n x1 x2 x3 s = some y → gl y.2 = gl s := by
  intro n
  induction n with
  | zero => intro x1 x2 x3 s hf; cases hf
  | succ n ih => intro x1 x2 x3 s hf; exact mb_M_numberKind_2 N y (hd_M_numberKind_2 N n) ih x1 x2 x3 s hf
theorem mn_M_numberKind (N : Nat) (v1 : Int32) (v2 : Int32) (s : ms) (y : (Int32 × ms)) (hf : fn_M_numberKind N v1 v2 s = some y) : gl y.2 = gl s := by
  unfold fn_M_numberKind at hf
  have hm : gl s = gl s := rfl
  exact (mh_M_numberKind_2 N y N v1 v2 v1 s hf).trans hm
set_option maxHeartbeats 8000000 in
set_option maxRecDepth 100000 in
theorem ct_M_numberKind (l : Launch) (dC : Nat → ClassId) (dI : Nat → Nat → Nat) (cI cB cJ cZ cQ : ClassId) (N sz : Nat) (h0 : Nat) (a : Nat → Nat) (v1 : Int32) (v2 : Int32) (s : ms) (y : (Int32 × ms)) (hf : fn_M_numberKind N v1 v2 s = some y) : Met l yn_M_numberKind (xw yn_M_numberKind bn_M_numberKind 11 (some .int)) ({ frames := 3, cells := 0, slots := 0, locals := 70 }) (dc_P (dC, dI) xcl (xt cI cB cJ cZ cQ) [.ref h0, .int v1, .int v2] sz (wM h0 a cI cB cJ cZ s)) (xk_Qi (dC, dI) xcl (xt cI cB cJ cZ cQ) (fun (r : Int32) (_ : Unit) => r = y.1) (fun u : Unit => (wM h0 a cI cB cJ cZ y.2)) (va_A (wM h0 a cI cB cJ cZ s) sz)) 0 0 (va_A (wM h0 a cI cB cJ cZ s) sz) := by
  refine dc_of (QA := xk_Qi (dC, dI) xcl (xt cI cB cJ cZ cQ) (fun (r : Int32) (_ : Unit) => r = y.1) (fun u : Unit => (wM h0 a cI cB cJ cZ y.2))) (by decide) (Nat.le_of_ble_eq_true rfl) ?_
  intro p e s0 m below meth c hx hb hml hown hg hr hlocks hin hP hK hN A hA hD hT ls hl
  have hown : s0.vm.findClass rn_M = some m.cls := hown
  obtain ⟨H, hH⟩ : ∃ z, z = s0.heap := ⟨_, rfl⟩
  rw [← hH] at hP
  have hS : va_S A s0.heap H [] := by rw [hH]; exact va_S.rf
  suffices kk : ∀ QQ : State → Prop, QQ = MQ below (xk_Qi (dC, dI) xcl (xt cI cB cJ cZ cQ) (fun (r : Int32) (_ : Unit) => r = y.1) (fun u : Unit => (wM h0 a cI cB cJ cZ y.2)) A) [.ref h0, .int v1, .int v2].toArray s0 0 0 A → dcC p l e ({ frames := 3, cells := 0, slots := 0, locals := 70 }) s0 m [.ref h0, .int v1, .int v2].toArray below meth c QQ (dC, dI) A (wM h0 a cI cB cJ cZ s) 0 11 [(0, .ref h0), (1, .int v1), (2, .int v2)] [] by
    have k9 := kk _ rfl H [] ls hP hD hS hl
    rw [hH] at k9; exact k9
  clear hP hD hS hl hH H ls
  intro QQ hQQ
  have bl_237 : ∀ (x9 : Int32) (s : ms), bk_M_numberKind_237 N x9 s = some y → dcC p l e ({ frames := 3, cells := 0, slots := 0, locals := 70 }) s0 m [.ref h0, .int v1, .int v2].toArray below meth c QQ (dC, dI) A (wM h0 a cI cB cJ cZ s) 237 11 [(0, .ref h0), (9, .int x9)] [] := by
    intro x9 s hf H locs ls hP hD hS hl
    unfold bk_M_numberKind_237 at hf
    refine lv_iload hx hb dn_M_numberKind_237 (lv_at hl 1 rfl) ?_
    refine lv_if_eq (tgt := 255) hx hb dn_M_numberKind_239 (by decide) (fun h => ?_) (fun h => ?_)
    · have hf := (if_pos h).symm.trans hf
      refine lv_sipush (v := 404) hx hb dn_M_numberKind_255 (by decide) ?_
      rw [hQQ, ← Option.some.inj hf]
      exact xk_iret (w1 := fun u : Unit => (wM h0 a cI cB cJ cZ s)) () hx hb hr hlocks hK hS dn_M_numberKind_258 hP hD rfl (Nat.le_refl _) (Nat.le_refl _)
    · have hf := (if_neg h).symm.trans hf
      refine lv_aload_n hx hb dn_M_numberKind_242 rfl (lv_at hl 0 rfl) ?_
      refine va_get (D := (dC, dI)) (ci := 0) (v := .int ((s.1 87 0))) (C := rn_M) (T := fn_M) (N := 91) hx hb hg in_M hown hK hP 0 rfl rfl 87 (by decide) (hg _ wn_8_160) (fun _ h9 => h9) rfl dn_M_numberKind_243 ?_
      refine lv_if_eq (tgt := 255) hx hb dn_M_numberKind_246 (by decide) (fun h => ?_) (fun h => ?_)
      · have hf := (if_pos h).symm.trans hf
        refine lv_sipush (v := 404) hx hb dn_M_numberKind_255 (by decide) ?_
        rw [hQQ, ← Option.some.inj hf]
        exact xk_iret (w1 := fun u : Unit => (wM h0 a cI cB cJ cZ s)) () hx hb hr hlocks hK hS dn_M_numberKind_258 hP hD rfl (Nat.le_refl _) (Nat.le_refl _)
      · have hf := (if_neg h).symm.trans hf
        refine lv_sipush (v := 402) hx hb dn_M_numberKind_249 (by decide) ?_
        refine lv_goto (tgt := 258) hx hb dn_M_numberKind_252 (by decide) ?_
        rw [hQQ, ← Option.some.inj hf]
        exact xk_iret (w1 := fun u : Unit => (wM h0 a cI cB cJ cZ s)) () hx hb hr hlocks hK hS dn_M_numberKind_258 hP hD rfl (Nat.le_refl _) (Nat.le_refl _)
  have bl_218 : ∀ (x2 : Int32) (x3 : Int32) (x4 : Int64) (x8 : Int32) (x9 : Int32) (s : ms), bk_M_numberKind_218 N x2 x3 x4 x8 x9 s = some y → dcC p l e ({ frames := 3, cells := 0, slots := 0, locals := 70 }) s0 m [.ref h0, .int v1, .int v2].toArray below meth c QQ (dC, dI) A (wM h0 a cI cB cJ cZ s) 218 11 [(0, .ref h0), (2, .int x2), (3, .int x3), (4, .long x4), (8, .int x8), (9, .int x9)] [] := by
    intro x2 x3 x4 x8 x9 s hf H locs ls hP hD hS hl
    unfold bk_M_numberKind_218 at hf
    refine lv_iload hx hb dn_M_numberKind_218 (lv_at hl 5 rfl) ?_
    refine lv_if_eq (tgt := 237) hx hb dn_M_numberKind_220 (by decide) (fun h => ?_) (fun h => ?_)
    · have hf := (if_pos h).symm.trans hf
      exact bl_237 x9 s hf H locs ls hP hD hS (lv_sub hl [0, 5] rfl)
    · have hf := (if_neg h).symm.trans hf
      refine lv_aload_n hx hb dn_M_numberKind_223 rfl (lv_at hl 0 rfl) ?_
      refine lv_iload_n hx hb dn_M_numberKind_224 rfl (lv_at hl 2 rfl) ?_
      refine lv_iconst (v := 2) hx hb dn_M_numberKind_225 (by decide) ?_
      refine lv_iadd hx hb dn_M_numberKind_226 ?_
      refine lv_iload_n hx hb dn_M_numberKind_227 rfl (lv_at hl 1 rfl) ?_
      refine lv_iload hx hb dn_M_numberKind_228 (lv_at hl 4 rfl) ?_
      refine lv_lload hx hb dn_M_numberKind_230 (lv_at hl 3 rfl) ?_
      refine lv_l2i (v := Int64.toInt32 x4) hx hb dn_M_numberKind_232 rfl ?_
      obtain ⟨q_1, hc_2, hf⟩ := dc_b hf
      refine dc_calll (dc_runV (ar := 4) (As := [.int ((x3 + 2)), .int x2, .int x8, .int ((Int64.toInt32 x4))]) (rest := []) (ci := 0) (q0 := 0) ⟨hx, hb, hml, hown, hg⟩ hK hN hT hS hA (ct_M_read_IIIIJ l dC dI cI cB cJ cZ cQ N H.size h0 a ((x3 + 2)) x2 x8 ((Int64.toInt32 x4)) s q_1 hc_2) hP hD rfl rfl wn_9_159 wn_9_161 sn_M_read_IIIIJ wn_1_13 wn_9_162 rfl rfl (by decide +kernel) ⟨Nat.le_of_ble_eq_true rfl, Nat.le_of_ble_eq_true rfl⟩ rfl hl.1 rfl (Nat.le_of_ble_eq_true rfl) dn_M_numberKind_233 ⟨Nat.le_of_ble_eq_true rfl, Nat.le_of_ble_eq_true rfl⟩) hP hD hS hA (fun r_3 _ H locs hw hP hD hS => ?_)
      have hw : r_3 = q_1.1 := hw
      subst hw
      refine lv_pop2_2 hx hb dn_M_numberKind_236 rfl ?_
      exact bl_237 x9 q_1.2 hf H locs ls hP hD hS (lv_sub hl [0, 5] rfl)
  have hd_180 : ∀ (n : Nat) (x2 : Int32) (x3 : Int32) (x4 : Int64) (x8 : Int32) (x9 : Int32) (x10 : Int32) (s : ms), hd_M_numberKind_180 N n x2 x3 x4 x8 x9 x10 s = some y → dcC p l e ({ frames := 3, cells := 0, slots := 0, locals := 70 }) s0 m [.ref h0, .int v1, .int v2].toArray below meth c QQ (dC, dI) A (wM h0 a cI cB cJ cZ s) 180 11 [(0, .ref h0), (2, .int x2), (3, .int x3), (4, .long x4), (8, .int x8), (9, .int x9), (10, .int x10)] [] := by
    intro n
    induction n with
    | zero => intro x2 x3 x4 x8 x9 x10 s hf; cases hf
    | succ n ih =>
      intro x2 x3 x4 x8 x9 x10 s hf H locs ls hP hD hS hl
      have hf : bd_M_numberKind_180 N (hd_M_numberKind_180 N n) x2 x3 x4 x8 x9 x10 s = some y := hf
      have hk_180 := ih
      generalize hd_M_numberKind_180 N n = k_180 at hf hk_180
      unfold bd_M_numberKind_180 at hf
      refine lv_iload hx hb dn_M_numberKind_180 (lv_at hl 6 rfl) ?_
      refine lv_iload_n hx hb dn_M_numberKind_182 rfl (lv_at hl 1 rfl) ?_
      refine lv_icmp_ge (tgt := 218) hx hb dn_M_numberKind_183 (by decide) (fun h => ?_) (fun h => ?_)
      · have hf := (if_pos h).symm.trans hf
        exact bl_218 x2 x3 x4 x8 x9 s hf H locs ls hP hD hS (lv_sub hl [0, 1, 2, 3, 4, 5] rfl)
      · have hf := (if_neg h).symm.trans hf
        refine lv_iload hx hb dn_M_numberKind_186 (lv_at hl 5 rfl) ?_
        refine lv_if_eq (tgt := 218) hx hb dn_M_numberKind_188 (by decide) (fun h => ?_) (fun h => ?_)
        · have hf := (if_pos h).symm.trans hf
          exact bl_218 x2 x3 x4 x8 x9 s hf H locs ls hP hD hS (lv_sub hl [0, 1, 2, 3, 4, 5] rfl)
        · have hf := (if_neg h).symm.trans hf
          refine lv_aload_n hx hb dn_M_numberKind_191 rfl (lv_at hl 0 rfl) ?_
          refine lv_iload hx hb dn_M_numberKind_192 (lv_at hl 6 rfl) ?_
          obtain ⟨q_1, hc_2, hf⟩ := dc_b hf
          refine dc_calli (dc_runV (ar := 1) (As := [.int x10]) (rest := []) (ci := 0) (q0 := 0) ⟨hx, hb, hml, hown, hg⟩ hK hN hT hS hA (ct_M_at l dC dI cI cB cJ cZ cQ N H.size h0 a x10 s q_1 hc_2) hP hD rfl rfl wn_9_128 wn_9_130 sn_M_at wn_1_13 wn_9_131 rfl rfl (by decide +kernel) ⟨Nat.le_of_ble_eq_true rfl, Nat.le_of_ble_eq_true rfl⟩ rfl hl.1 rfl (Nat.le_of_ble_eq_true rfl) dn_M_numberKind_194 ⟨Nat.le_of_ble_eq_true rfl, Nat.le_of_ble_eq_true rfl⟩) hP hD hS hA (fun r_3 _ H locs hw hP hD hS => ?_)
          have hw : r_3 = q_1.1 := hw
          subst hw
          obtain ⟨q_4, hc_5, hf⟩ := dc_b hf
          refine dc_calli (dc_runS (ar := 1) (As := [.int q_1.1]) (rest := []) ⟨hx, hb, hml, hown, hg⟩ hK hN hT hS hA (ct_M_digit l dC dI cI cB cJ cZ cQ N H.size h0 a q_1.1 q_1.2 q_4 hc_5) hP hD wn_9_163 wn_9_164 wn_1_13 wn_9_165 rfl rfl (by decide +kernel) ⟨Nat.le_of_ble_eq_true rfl, Nat.le_of_ble_eq_true rfl⟩ rfl hl.1 rfl (Nat.le_of_ble_eq_true rfl) dn_M_numberKind_197 ⟨Nat.le_of_ble_eq_true rfl, Nat.le_of_ble_eq_true rfl⟩) hP hD hS hA (fun r_6 _ H locs hw hP hD hS => ?_)
          have hw : r_6 = q_4.1 := hw
          subst hw
          refine lv_iload hx hb dn_M_numberKind_200 (lv_at hl 4 rfl) ?_
          refine lv_icmp_ge (tgt := 209) hx hb dn_M_numberKind_202 (by decide) (fun h => ?_) (fun h => ?_)
          · have hf := (if_pos h).symm.trans hf
            refine lv_iconst (v := 0) hx hb dn_M_numberKind_209 (by decide) ?_
            refine lv_istore (lv' := [(9, .int 0), (0, .ref h0), (2, .int x2), (3, .int x3), (4, .long x4), (8, .int x8), (10, .int x10)]) hx hb dn_M_numberKind_210 hl (by decide) rfl (fun ls hl => ?_)
            refine lv_iinc (v := (x10 + 1)) (lv' := [(10, .int ((x10 + 1))), (9, .int 0), (0, .ref h0), (2, .int x2), (3, .int x3), (4, .long x4), (8, .int x8)]) hx hb dn_M_numberKind_212 hl (k := 6) rfl (dc_inc (by decide)) (by decide) rfl (fun ls hl => ?_)
            refine lv_goto (tgt := 180) hx hb dn_M_numberKind_215 (by decide) ?_
            exact hk_180 x2 x3 x4 x8 0 ((x10 + 1)) q_4.2 hf H locs ls hP hD hS (lv_sub hl [2, 3, 4, 5, 6, 1, 0] rfl)
          · have hf := (if_neg h).symm.trans hf
            refine lv_iconst (v := 1) hx hb dn_M_numberKind_205 (by decide) ?_
            refine lv_goto (tgt := 210) hx hb dn_M_numberKind_206 (by decide) ?_
            refine lv_istore (lv' := [(9, .int 1), (0, .ref h0), (2, .int x2), (3, .int x3), (4, .long x4), (8, .int x8), (10, .int x10)]) hx hb dn_M_numberKind_210 hl (by decide) rfl (fun ls hl => ?_)
            refine lv_iinc (v := (x10 + 1)) (lv' := [(10, .int ((x10 + 1))), (9, .int 1), (0, .ref h0), (2, .int x2), (3, .int x3), (4, .long x4), (8, .int x8)]) hx hb dn_M_numberKind_212 hl (k := 6) rfl (dc_inc (by decide)) (by decide) rfl (fun ls hl => ?_)
            refine lv_goto (tgt := 180) hx hb dn_M_numberKind_215 (by decide) ?_
            exact hk_180 x2 x3 x4 x8 1 ((x10 + 1)) q_4.2 hf H locs ls hP hD hS (lv_sub hl [2, 3, 4, 5, 6, 1, 0] rfl)
  have bl_173 : ∀ (x2 : Int32) (x3 : Int32) (x4 : Int64) (x8 : Int32) (t0 : Int32) (s : ms), bk_M_numberKind_173 N x2 x3 x4 x8 t0 s = some y → dcC p l e ({ frames := 3, cells := 0, slots := 0, locals := 70 }) s0 m [.ref h0, .int v1, .int v2].toArray below meth c QQ (dC, dI) A (wM h0 a cI cB cJ cZ s) 173 11 [(0, .ref h0), (2, .int x2), (3, .int x3), (4, .long x4), (8, .int x8)] [.int t0] := by
    intro x2 x3 x4 x8 t0 s hf H locs ls hP hD hS hl
    unfold bk_M_numberKind_173 at hf
    refine lv_istore (lv' := [(9, .int t0), (0, .ref h0), (2, .int x2), (3, .int x3), (4, .long x4), (8, .int x8)]) hx hb dn_M_numberKind_173 hl (by decide) rfl (fun ls hl => ?_)
    refine lv_iload_n hx hb dn_M_numberKind_175 rfl (lv_at hl 3 rfl) ?_
    refine lv_iconst (v := 2) hx hb dn_M_numberKind_176 (by decide) ?_
    refine lv_iadd hx hb dn_M_numberKind_177 ?_
    refine lv_istore (lv' := [(10, .int ((x3 + 2))), (9, .int t0), (0, .ref h0), (2, .int x2), (3, .int x3), (4, .long x4), (8, .int x8)]) hx hb dn_M_numberKind_178 hl (by decide) rfl (fun ls hl => ?_)
    exact hd_180 N x2 x3 x4 x8 t0 ((x3 + 2)) s hf H locs ls hP hD hS (lv_sub hl [2, 3, 4, 5, 6, 1, 0] rfl)
  have bl_161 : ∀ (x2 : Int32) (x3 : Int32) (x4 : Int64) (t0 : Int32) (s : ms), bk_M_numberKind_161 N x2 x3 x4 t0 s = some y → dcC p l e ({ frames := 3, cells := 0, slots := 0, locals := 70 }) s0 m [.ref h0, .int v1, .int v2].toArray below meth c QQ (dC, dI) A (wM h0 a cI cB cJ cZ s) 161 11 [(0, .ref h0), (2, .int x2), (3, .int x3), (4, .long x4)] [.int t0] := by
    intro x2 x3 x4 t0 s hf H locs ls hP hD hS hl
    unfold bk_M_numberKind_161 at hf
    refine lv_istore (lv' := [(8, .int t0), (0, .ref h0), (2, .int x2), (3, .int x3), (4, .long x4)]) hx hb dn_M_numberKind_161 hl (by decide) rfl (fun ls hl => ?_)
    refine lv_iload hx hb dn_M_numberKind_163 (lv_at hl 0 rfl) ?_
    refine lv_if_le (tgt := 172) hx hb dn_M_numberKind_165 (by decide) (fun h => ?_) (fun h => ?_)
    · have hf := (if_pos h).symm.trans hf
      refine lv_iconst (v := 0) hx hb dn_M_numberKind_172 (by decide) ?_
      exact bl_173 x2 x3 x4 t0 0 s hf H locs ls hP hD hS (lv_sub hl [1, 2, 3, 4, 0] rfl)
    · have hf := (if_neg h).symm.trans hf
      refine lv_iconst (v := 1) hx hb dn_M_numberKind_168 (by decide) ?_
      refine lv_goto (tgt := 173) hx hb dn_M_numberKind_169 (by decide) ?_
      exact bl_173 x2 x3 x4 t0 1 s hf H locs ls hP hD hS (lv_sub hl [1, 2, 3, 4, 0] rfl)
  have bl_24 : ∀ (x1 : Int32) (x2 : Int32) (x3 : Int32) (s : ms), bk_M_numberKind_24 N x1 x2 x3 s = some y → dcC p l e ({ frames := 3, cells := 0, slots := 0, locals := 70 }) s0 m [.ref h0, .int v1, .int v2].toArray below meth c QQ (dC, dI) A (wM h0 a cI cB cJ cZ s) 24 11 [(0, .ref h0), (1, .int x1), (2, .int x2), (3, .int x3)] [] := by
    intro x1 x2 x3 s hf H locs ls hP hD hS hl
    unfold bk_M_numberKind_24 at hf
    refine lv_aload_n hx hb dn_M_numberKind_24 rfl (lv_at hl 0 rfl) ?_
    refine lv_iload_n hx hb dn_M_numberKind_25 rfl (lv_at hl 1 rfl) ?_
    refine lv_iload_n hx hb dn_M_numberKind_26 rfl (lv_at hl 3 rfl) ?_
    refine lv_bipush (v := 10) hx hb dn_M_numberKind_27 (by decide) ?_
    refine lv_bipush (v := 16) hx hb dn_M_numberKind_29 (by decide) ?_
    obtain ⟨q_1, hc_2, hf⟩ := dc_b hf
    refine dc_calll (dc_runV (ar := 4) (As := [.int x1, .int x3, .int 10, .int 16]) (rest := []) (ci := 0) (q0 := 0) ⟨hx, hb, hml, hown, hg⟩ hK hN hT hS hA (ct_M_read_IIIIJ l dC dI cI cB cJ cZ cQ N H.size h0 a x1 x3 10 16 s q_1 hc_2) hP hD rfl rfl wn_9_159 wn_9_161 sn_M_read_IIIIJ wn_1_13 wn_9_162 rfl rfl (by decide +kernel) ⟨Nat.le_of_ble_eq_true rfl, Nat.le_of_ble_eq_true rfl⟩ rfl hl.1 rfl (Nat.le_of_ble_eq_true rfl) dn_M_numberKind_31 ⟨Nat.le_of_ble_eq_true rfl, Nat.le_of_ble_eq_true rfl⟩) hP hD hS hA (fun r_3 _ H locs hw hP hD hS => ?_)
    have hw : r_3 = q_1.1 := hw
    subst hw
    refine lv_lstore (lv' := [(4, .long q_1.1), (0, .ref h0), (1, .int x1), (2, .int x2), (3, .int x3)]) hx hb dn_M_numberKind_34 hl (by decide) rfl (fun ls hl => ?_)
    refine lv_aload_n hx hb dn_M_numberKind_36 rfl (lv_at hl 1 rfl) ?_
    refine va_get (D := (dC, dI)) (ci := 0) (v := .int ((q_1.2.1 87 0))) (C := rn_M) (T := fn_M) (N := 91) hx hb hg in_M hown hK hP 0 rfl rfl 87 (by decide) (hg _ wn_8_160) (fun _ h9 => h9) rfl dn_M_numberKind_37 ?_
    refine lv_istore (lv' := [(6, .int ((q_1.2.1 87 0))), (4, .long q_1.1), (0, .ref h0), (1, .int x1), (2, .int x2), (3, .int x3)]) hx hb dn_M_numberKind_40 hl (by decide) rfl (fun ls hl => ?_)
    refine lv_iload_n hx hb dn_M_numberKind_42 rfl (lv_at hl 5 rfl) ?_
    refine lv_iload_n hx hb dn_M_numberKind_43 rfl (lv_at hl 4 rfl) ?_
    refine lv_icmp_ne (tgt := 62) hx hb dn_M_numberKind_44 (by decide) (fun h => ?_) (fun h => ?_)
    · have hf := (if_neg h).symm.trans hf
      refine lv_aload_n hx hb dn_M_numberKind_62 rfl (lv_at hl 2 rfl) ?_
      refine lv_iload_n hx hb dn_M_numberKind_63 rfl (lv_at hl 5 rfl) ?_
      obtain ⟨q_4, hc_5, hf⟩ := dc_b hf
      refine dc_calli (dc_runV (ar := 1) (As := [.int x3]) (rest := []) (ci := 0) (q0 := 0) ⟨hx, hb, hml, hown, hg⟩ hK hN hT hS hA (ct_M_at l dC dI cI cB cJ cZ cQ N H.size h0 a x3 q_1.2 q_4 hc_5) hP hD rfl rfl wn_9_128 wn_9_130 sn_M_at wn_1_13 wn_9_131 rfl rfl (by decide +kernel) ⟨Nat.le_of_ble_eq_true rfl, Nat.le_of_ble_eq_true rfl⟩ rfl hl.1 rfl (Nat.le_of_ble_eq_true rfl) dn_M_numberKind_64 ⟨Nat.le_of_ble_eq_true rfl, Nat.le_of_ble_eq_true rfl⟩) hP hD hS hA (fun r_6 _ H locs hw hP hD hS => ?_)
      have hw : r_6 = q_4.1 := hw
      subst hw
      refine lv_bipush (v := 39) hx hb dn_M_numberKind_67 (by decide) ?_
      refine lv_icmp_ne (tgt := 100) hx hb dn_M_numberKind_69 (by decide) (fun h => ?_) (fun h => ?_)
      · have hf := (if_neg h).symm.trans hf
        refine lv_sipush (v := 404) hx hb dn_M_numberKind_100 (by decide) ?_
        rw [hQQ, ← Option.some.inj hf]
        exact xk_iret (w1 := fun u : Unit => (wM h0 a cI cB cJ cZ q_4.2)) () hx hb hr hlocks hK hS dn_M_numberKind_103 hP hD rfl (Nat.le_refl _) (Nat.le_refl _)
      · have hf := (if_pos h).symm.trans hf
        refine lv_iload hx hb dn_M_numberKind_72 (lv_at hl 0 rfl) ?_
        refine lv_if_eq (tgt := 100) hx hb dn_M_numberKind_74 (by decide) (fun h => ?_) (fun h => ?_)
        · have hf := (if_pos h).symm.trans hf
          refine lv_sipush (v := 404) hx hb dn_M_numberKind_100 (by decide) ?_
          rw [hQQ, ← Option.some.inj hf]
          exact xk_iret (w1 := fun u : Unit => (wM h0 a cI cB cJ cZ q_4.2)) () hx hb hr hlocks hK hS dn_M_numberKind_103 hP hD rfl (Nat.le_refl _) (Nat.le_refl _)
        · have hf := (if_neg h).symm.trans hf
          refine lv_lload hx hb dn_M_numberKind_77 (lv_at hl 1 rfl) ?_
          refine lv_lconst (v := 1) hx hb dn_M_numberKind_79 (by decide) ?_
          refine W.lcmp hx hb dn_M_numberKind_80 ?_
          refine lv_if_lt (tgt := 100) hx hb dn_M_numberKind_81 (by decide) (fun h => ?_) (fun h => ?_)
          · have hf := (if_pos h).symm.trans hf
            refine lv_sipush (v := 404) hx hb dn_M_numberKind_100 (by decide) ?_
            rw [hQQ, ← Option.some.inj hf]
            exact xk_iret (w1 := fun u : Unit => (wM h0 a cI cB cJ cZ q_4.2)) () hx hb hr hlocks hK hS dn_M_numberKind_103 hP hD rfl (Nat.le_refl _) (Nat.le_refl _)
          · have hf := (if_neg h).symm.trans hf
            refine lv_lload hx hb dn_M_numberKind_84 (lv_at hl 1 rfl) ?_
            refine lv_ldc2 hx hb hown (hg _ wn_9_167) dn_M_numberKind_86 ?_
            refine W.lcmp hx hb dn_M_numberKind_89 ?_
            refine lv_if_gt (tgt := 100) hx hb dn_M_numberKind_90 (by decide) (fun h => ?_) (fun h => ?_)
            · have hf := (if_pos h).symm.trans hf
              refine lv_sipush (v := 404) hx hb dn_M_numberKind_100 (by decide) ?_
              rw [hQQ, ← Option.some.inj hf]
              exact xk_iret (w1 := fun u : Unit => (wM h0 a cI cB cJ cZ q_4.2)) () hx hb hr hlocks hK hS dn_M_numberKind_103 hP hD rfl (Nat.le_refl _) (Nat.le_refl _)
            · have hf := (if_neg h).symm.trans hf
              refine lv_iload_n hx hb dn_M_numberKind_93 rfl (lv_at hl 5 rfl) ?_
              refine lv_iconst (v := 2) hx hb dn_M_numberKind_94 (by decide) ?_
              refine lv_iadd hx hb dn_M_numberKind_95 ?_
              refine lv_iload_n hx hb dn_M_numberKind_96 rfl (lv_at hl 4 rfl) ?_
              refine lv_icmp_lt (tgt := 104) hx hb dn_M_numberKind_97 (by decide) (fun h => ?_) (fun h => ?_)
              · have hf := (if_pos h).symm.trans hf
                refine lv_aload_n hx hb dn_M_numberKind_104 rfl (lv_at hl 2 rfl) ?_
                refine lv_iload_n hx hb dn_M_numberKind_105 rfl (lv_at hl 5 rfl) ?_
                refine lv_iconst (v := 1) hx hb dn_M_numberKind_106 (by decide) ?_
                refine lv_iadd hx hb dn_M_numberKind_107 ?_
                obtain ⟨q_7, hc_8, hf⟩ := dc_b hf
                refine dc_calli (dc_runV (ar := 1) (As := [.int ((x3 + 1))]) (rest := []) (ci := 0) (q0 := 0) ⟨hx, hb, hml, hown, hg⟩ hK hN hT hS hA (ct_M_at l dC dI cI cB cJ cZ cQ N H.size h0 a ((x3 + 1)) q_4.2 q_7 hc_8) hP hD rfl rfl wn_9_128 wn_9_130 sn_M_at wn_1_13 wn_9_131 rfl rfl (by decide +kernel) ⟨Nat.le_of_ble_eq_true rfl, Nat.le_of_ble_eq_true rfl⟩ rfl hl.1 rfl (Nat.le_of_ble_eq_true rfl) dn_M_numberKind_108 ⟨Nat.le_of_ble_eq_true rfl, Nat.le_of_ble_eq_true rfl⟩) hP hD hS hA (fun r_9 _ H locs hw hP hD hS => ?_)
                have hw : r_9 = q_7.1 := hw
                subst hw
                refine lv_istore (lv' := [(7, .int q_7.1), (6, .int ((q_1.2.1 87 0))), (4, .long q_1.1), (0, .ref h0), (1, .int x1), (2, .int x2), (3, .int x3)]) hx hb dn_M_numberKind_111 hl (by decide) rfl (fun ls hl => ?_)
                refine lv_iload hx hb dn_M_numberKind_113 (lv_at hl 0 rfl) ?_
                refine lv_bipush (v := 98) hx hb dn_M_numberKind_115 (by decide) ?_
                refine lv_icmp_ne (tgt := 124) hx hb dn_M_numberKind_117 (by decide) (fun h => ?_) (fun h => ?_)
                · have hf := (if_neg h).symm.trans hf
                  refine lv_iload hx hb dn_M_numberKind_124 (lv_at hl 0 rfl) ?_
                  refine lv_bipush (v := 111) hx hb dn_M_numberKind_126 (by decide) ?_
                  refine lv_icmp_ne (tgt := 136) hx hb dn_M_numberKind_128 (by decide) (fun h => ?_) (fun h => ?_)
                  · have hf := (if_neg h).symm.trans hf
                    refine lv_iload hx hb dn_M_numberKind_136 (lv_at hl 0 rfl) ?_
                    refine lv_bipush (v := 100) hx hb dn_M_numberKind_138 (by decide) ?_
                    refine lv_icmp_ne (tgt := 148) hx hb dn_M_numberKind_140 (by decide) (fun h => ?_) (fun h => ?_)
                    · have hf := (if_neg h).symm.trans hf
                      refine lv_iload hx hb dn_M_numberKind_148 (lv_at hl 0 rfl) ?_
                      refine lv_bipush (v := 104) hx hb dn_M_numberKind_150 (by decide) ?_
                      refine lv_icmp_ne (tgt := 160) hx hb dn_M_numberKind_152 (by decide) (fun h => ?_) (fun h => ?_)
                      · have hf := (if_neg h).symm.trans hf
                        refine lv_iconst (v := 0) hx hb dn_M_numberKind_160 (by decide) ?_
                        exact bl_161 x2 x3 q_1.1 0 q_7.2 hf H locs ls hP hD hS (lv_sub hl [3, 5, 6, 2] rfl)
                      · have hf := (if_pos h).symm.trans hf
                        refine lv_bipush (v := 16) hx hb dn_M_numberKind_155 (by decide) ?_
                        refine lv_goto (tgt := 161) hx hb dn_M_numberKind_157 (by decide) ?_
                        exact bl_161 x2 x3 q_1.1 16 q_7.2 hf H locs ls hP hD hS (lv_sub hl [3, 5, 6, 2] rfl)
                    · have hf := (if_pos h).symm.trans hf
                      refine lv_bipush (v := 10) hx hb dn_M_numberKind_143 (by decide) ?_
                      refine lv_goto (tgt := 161) hx hb dn_M_numberKind_145 (by decide) ?_
                      exact bl_161 x2 x3 q_1.1 10 q_7.2 hf H locs ls hP hD hS (lv_sub hl [3, 5, 6, 2] rfl)
                  · have hf := (if_pos h).symm.trans hf
                    refine lv_bipush (v := 8) hx hb dn_M_numberKind_131 (by decide) ?_
                    refine lv_goto (tgt := 161) hx hb dn_M_numberKind_133 (by decide) ?_
                    exact bl_161 x2 x3 q_1.1 8 q_7.2 hf H locs ls hP hD hS (lv_sub hl [3, 5, 6, 2] rfl)
                · have hf := (if_pos h).symm.trans hf
                  refine lv_iconst (v := 2) hx hb dn_M_numberKind_120 (by decide) ?_
                  refine lv_goto (tgt := 161) hx hb dn_M_numberKind_121 (by decide) ?_
                  exact bl_161 x2 x3 q_1.1 2 q_7.2 hf H locs ls hP hD hS (lv_sub hl [3, 5, 6, 2] rfl)
              · have hf := (if_neg h).symm.trans hf
                refine lv_sipush (v := 404) hx hb dn_M_numberKind_100 (by decide) ?_
                rw [hQQ, ← Option.some.inj hf]
                exact xk_iret (w1 := fun u : Unit => (wM h0 a cI cB cJ cZ q_4.2)) () hx hb hr hlocks hK hS dn_M_numberKind_103 hP hD rfl (Nat.le_refl _) (Nat.le_refl _)
    · have hf := (if_pos h).symm.trans hf
      refine lv_iload hx hb dn_M_numberKind_47 (lv_at hl 0 rfl) ?_
      refine lv_if_eq (tgt := 58) hx hb dn_M_numberKind_49 (by decide) (fun h => ?_) (fun h => ?_)
      · have hf := (if_pos h).symm.trans hf
        refine lv_sipush (v := 404) hx hb dn_M_numberKind_58 (by decide) ?_
        rw [hQQ, ← Option.some.inj hf]
        exact xk_iret (w1 := fun u : Unit => (wM h0 a cI cB cJ cZ q_1.2)) () hx hb hr hlocks hK hS dn_M_numberKind_61 hP hD rfl (Nat.le_refl _) (Nat.le_refl _)
      · have hf := (if_neg h).symm.trans hf
        refine lv_sipush (v := 401) hx hb dn_M_numberKind_52 (by decide) ?_
        refine lv_goto (tgt := 61) hx hb dn_M_numberKind_55 (by decide) ?_
        rw [hQQ, ← Option.some.inj hf]
        exact xk_iret (w1 := fun u : Unit => (wM h0 a cI cB cJ cZ q_1.2)) () hx hb hr hlocks hK hS dn_M_numberKind_61 hP hD rfl (Nat.le_refl _) (Nat.le_refl _)
  have hd_2 : ∀ (n : Nat) (x1 : Int32) (x2 : Int32) (x3 : Int32) (s : ms), hd_M_numberKind_2 N n x1 x2 x3 s = some y → dcC p l e ({ frames := 3, cells := 0, slots := 0, locals := 70 }) s0 m [.ref h0, .int v1, .int v2].toArray below meth c QQ (dC, dI) A (wM h0 a cI cB cJ cZ s) 2 11 [(0, .ref h0), (1, .int x1), (2, .int x2), (3, .int x3)] [] := by
    intro n
    induction n with
    | zero => intro x1 x2 x3 s hf; cases hf
    | succ n ih =>
      intro x1 x2 x3 s hf H locs ls hP hD hS hl
      have hf : bd_M_numberKind_2 N (hd_M_numberKind_2 N n) x1 x2 x3 s = some y := hf
      have hk_2 := ih
      generalize hd_M_numberKind_2 N n = k_2 at hf hk_2
      unfold bd_M_numberKind_2 at hf
      refine lv_iload_n hx hb dn_M_numberKind_2 rfl (lv_at hl 3 rfl) ?_
      refine lv_iload_n hx hb dn_M_numberKind_3 rfl (lv_at hl 2 rfl) ?_
      refine lv_icmp_ge (tgt := 24) hx hb dn_M_numberKind_4 (by decide) (fun h => ?_) (fun h => ?_)
      · have hf := (if_pos h).symm.trans hf
        exact bl_24 x1 x2 x3 s hf H locs ls hP hD hS hl
      · have hf := (if_neg h).symm.trans hf
        refine lv_aload_n hx hb dn_M_numberKind_7 rfl (lv_at hl 0 rfl) ?_
        refine lv_iload_n hx hb dn_M_numberKind_8 rfl (lv_at hl 3 rfl) ?_
        obtain ⟨q_1, hc_2, hf⟩ := dc_b hf
        refine dc_calli (dc_runV (ar := 1) (As := [.int x3]) (rest := []) (ci := 0) (q0 := 0) ⟨hx, hb, hml, hown, hg⟩ hK hN hT hS hA (ct_M_at l dC dI cI cB cJ cZ cQ N H.size h0 a x3 s q_1 hc_2) hP hD rfl rfl wn_9_128 wn_9_130 sn_M_at wn_1_13 wn_9_131 rfl rfl (by decide +kernel) ⟨Nat.le_of_ble_eq_true rfl, Nat.le_of_ble_eq_true rfl⟩ rfl hl.1 rfl (Nat.le_of_ble_eq_true rfl) dn_M_numberKind_9 ⟨Nat.le_of_ble_eq_true rfl, Nat.le_of_ble_eq_true rfl⟩) hP hD hS hA (fun r_3 _ H locs hw hP hD hS => ?_)
        have hw : r_3 = q_1.1 := hw
        subst hw
        obtain ⟨q_4, hc_5, hf⟩ := dc_b hf
        refine dc_calli (dc_runS (ar := 1) (As := [.int q_1.1]) (rest := []) ⟨hx, hb, hml, hown, hg⟩ hK hN hT hS hA (ct_M_isDigit l dC dI cI cB cJ cZ cQ N H.size h0 a q_1.1 q_1.2 q_4 hc_5) hP hD wn_9_142 wn_9_143 wn_1_13 wn_9_144 rfl rfl (by decide +kernel) ⟨Nat.le_of_ble_eq_true rfl, Nat.le_of_ble_eq_true rfl⟩ rfl hl.1 rfl (Nat.le_of_ble_eq_true rfl) dn_M_numberKind_12 ⟨Nat.le_of_ble_eq_true rfl, Nat.le_of_ble_eq_true rfl⟩) hP hD hS hA (fun r_6 _ H locs hw hP hD hS => ?_)
        have hw : r_6 = q_4.1 := hw
        subst hw
        refine lv_if_eq (tgt := 24) hx hb dn_M_numberKind_15 (by decide) (fun h => ?_) (fun h => ?_)
        · have hf := (if_pos h).symm.trans hf
          exact bl_24 x1 x2 x3 q_4.2 hf H locs ls hP hD hS hl
        · have hf := (if_neg h).symm.trans hf
          refine lv_iinc (v := (x3 + 1)) (lv' := [(3, .int ((x3 + 1))), (0, .ref h0), (1, .int x1), (2, .int x2)]) hx hb dn_M_numberKind_18 hl (k := 3) rfl (dc_inc (by decide)) (by decide) rfl (fun ls hl => ?_)
          refine lv_goto (tgt := 2) hx hb dn_M_numberKind_21 (by decide) ?_
          exact hk_2 x1 x2 ((x3 + 1)) q_4.2 hf H locs ls hP hD hS (lv_sub hl [1, 2, 3, 0] rfl)
  intro H locs ls hP hD hS hl
  unfold fn_M_numberKind at hf
  refine lv_iload_n hx hb dn_M_numberKind_0 rfl (lv_at hl 1 rfl) ?_
  refine lv_istore_n (lv' := [(3, .int v1), (0, .ref h0), (1, .int v1), (2, .int v2)]) hx hb dn_M_numberKind_1 rfl hl (by decide) rfl (fun ls hl => ?_)
  exact hd_2 N v1 v2 v1 s hf H locs ls hP hD hS (lv_sub hl [1, 2, 3, 0] rfl)
