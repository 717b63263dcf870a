def fn_M_is (x1 : Int32) (s : ms) : Option (Int32 × ms) :=
  if (s.1 9 0) = 0 then (if ((s.1 8 0) < 0 ∨ 65540 ≤ Int32.toNatClampNeg ((s.1 8 0))) then none else if ((s.1 4) (Int32.toNatClampNeg ((s.1 8 0)))) = x1 then (some (1, s)) else (some (0, s))) else (some (0, s))
set_option maxHeartbeats 8000000 in
set_option maxRecDepth 100000 in
theorem ct_M_is (l : Launch) (dC : Nat → ClassId) (dI : Nat → Nat → Nat) (cI cB cJ cZ cQ : ClassId) (sz : Nat) (h0 : Nat) (a : Nat → Nat) (x1 : Int32) (s : ms) (y : (Int32 × ms)) (hf : fn_M_is x1 s = some y) : Met l yn_M_is (xw yn_M_is bn_M_is 2 (some .boolean)) ({ frames := 0, cells := 0, slots := 0, locals := 0 }) (xk_P (dC, dI) xcl (xt cI cB cJ cZ cQ) [.ref h0, .int x1] sz (wM h0 a cI cB cJ cZ s)) (xk_Qi (dC, dI) xcl (xt cI cB cJ cZ cQ) (fun (r : Int32) (_ : Unit) => r = y.1) (fun _ : Unit => (wM h0 a cI cB cJ cZ y.2)) (va_A (wM h0 a cI cB cJ cZ s) sz)) 0 0 (va_A (wM h0 a cI cB cJ cZ s) sz) := by
  refine xk_of (QA := xk_Qi (dC, dI) xcl (xt cI cB cJ cZ cQ) (fun (r : Int32) (_ : Unit) => r = y.1) (fun _ : Unit => (wM h0 a cI cB cJ cZ y.2))) (by decide) (Nat.le_of_ble_eq_true rfl) ?_
  intro p e s0 m below meth c hx hb hml hown hg hr hlocks hin hP hK hN A hA hD hS ls hl
  have hown : s0.vm.findClass rn_M = some m.cls := hown
  obtain ⟨H, hH⟩ : ∃ z, z = s0.heap := ⟨_, rfl⟩
  rw [← hH] at hP
  have hS : va_S A s0.heap H [] := by rw [hH]; exact va_S.rf
  suffices kk : ∀ QQ : State → Prop, QQ = MQ below (xk_Qi (dC, dI) xcl (xt cI cB cJ cZ cQ) (fun (r : Int32) (_ : Unit) => r = y.1) (fun _ : Unit => (wM h0 a cI cB cJ cZ y.2)) A) [.ref h0, .int x1].toArray s0 0 0 A → dcC p l e ({ frames := 0, cells := 0, slots := 0, locals := 0 }) s0 m [.ref h0, .int x1].toArray below meth c QQ (dC, dI) A (wM h0 a cI cB cJ cZ s) 0 2 [(0, .ref h0), (1, .int x1)] [] by
    have k9 := kk _ rfl H [] ls hP hD hS hl
    rw [hH] at k9; exact k9
  clear hP hD hS hl hH H ls
  intro QQ hQQ
  intro H locs ls hP hD hS hl
  unfold fn_M_is at hf
  refine lv_aload_n hx hb dn_M_is_0 rfl (lv_at hl 0 rfl) ?_
  refine va_get (D := (dC, dI)) (ci := 0) (v := .int ((s.1 9 0))) (C := rn_M) (T := fn_M) (N := 91) hx hb hg in_M hown hK hP 0 rfl rfl 9 (by decide) (hg _ wn_8_77) (fun _ h9 => h9) rfl dn_M_is_1 ?_
  refine lv_if_ne (tgt := 24) hx hb dn_M_is_4 (by decide) (fun h => ?_) (fun h => ?_)
  · have hf := (if_neg h).symm.trans hf
    refine lv_iconst (v := 0) hx hb dn_M_is_24 (by decide) ?_
    rw [hQQ, ← Option.some.inj hf]
    exact xk_zret (w1 := fun _ : Unit => (wM h0 a cI cB cJ cZ s)) () hx hb hr rfl hlocks hK hS dn_M_is_25 hP hD rfl (Nat.le_refl _) (Nat.le_refl _)
  · have hf := (if_pos h).symm.trans hf
    refine lv_aload_n hx hb dn_M_is_7 rfl (lv_at hl 0 rfl) ?_
    refine va_get (D := (dC, dI)) (ci := 0) (v := .ref ((a 4))) (C := rn_M) (T := fn_M) (N := 91) hx hb hg in_M hown hK hP 0 rfl rfl 4 (by decide) (hg _ wn_8_72) (fun _ h9 => h9) rfl dn_M_is_8 ?_
    refine lv_aload_n hx hb dn_M_is_11 rfl (lv_at hl 0 rfl) ?_
    refine va_get (D := (dC, dI)) (ci := 0) (v := .int ((s.1 8 0))) (C := rn_M) (T := fn_M) (N := 91) hx hb hg in_M hown hK hP 0 rfl rfl 8 (by decide) (hg _ wn_8_76) (fun _ h9 => h9) rfl dn_M_is_12 ?_
    obtain ⟨hg_1, hf⟩ := dc_g hf
    refine va_iald hx hb hK hP 2 0 rfl rfl hg_1 dn_M_is_15 ?_
    refine xk_ti (y := ((s.1 4) (Int32.toNatClampNeg ((s.1 8 0))))) rfl ?_
    refine lv_iload_n hx hb dn_M_is_16 rfl (lv_at hl 1 rfl) ?_
    refine lv_icmp_ne (tgt := 24) hx hb dn_M_is_17 (by decide) (fun h => ?_) (fun h => ?_)
    · have hf := (if_neg h).symm.trans hf
      refine lv_iconst (v := 0) hx hb dn_M_is_24 (by decide) ?_
      rw [hQQ, ← Option.some.inj hf]
      exact xk_zret (w1 := fun _ : Unit => (wM h0 a cI cB cJ cZ s)) () hx hb hr rfl hlocks hK hS dn_M_is_25 hP hD rfl (Nat.le_refl _) (Nat.le_refl _)
    · have hf := (if_pos h).symm.trans hf
      refine lv_iconst (v := 1) hx hb dn_M_is_20 (by decide) ?_
      refine lv_goto (tgt := 25) hx hb dn_M_is_21 (by decide) ?_
      rw [hQQ, ← Option.some.inj hf]
      exact xk_zret (w1 := fun _ : Unit => (wM h0 a cI cB cJ cZ s)) () hx hb hr rfl hlocks hK hS dn_M_is_25 hP hD rfl (Nat.le_refl _) (Nat.le_refl _)
def bk_M_open_41 (x1 : Int32) (s : ms) : Option (Unit × ms) :=
  (fn_M_take x1 s).bind (fun q_1 => some ((), q_1.2))
def fn_M_open (x1 : Int32) (s : ms) : Option (Unit × ms) :=
  (fn_M_is x1 s).bind (fun q_1 => if q_1.1 = 0 then (bk_M_open_41 x1 q_1.2) else (if ((q_1.2.1 11 0) + 1) ≤ 60 then (bk_M_open_41 x1 (upI q_1.2 11 (fun _ => ((q_1.2.1 11 0) + 1)))) else (if ((q_1.2.1 8 0) < 0 ∨ 65540 ≤ Int32.toNatClampNeg ((q_1.2.1 8 0))) then none else (fn_M_fail 3 (((q_1.2.1 5) (Int32.toNatClampNeg ((q_1.2.1 8 0))))) (upI q_1.2 11 (fun _ => ((q_1.2.1 11 0) + 1)))).bind (fun q_5 => bk_M_open_41 x1 q_5.2))))
set_option maxHeartbeats 8000000 in
set_option maxRecDepth 100000 in
theorem ct_M_open (l : Launch) (dC : Nat → ClassId) (dI : Nat → Nat → Nat) (cI cB cJ cZ cQ : ClassId) (sz : Nat) (h0 : Nat) (a : Nat → Nat) (x1 : Int32) (s : ms) (y : (Unit × ms)) (hf : fn_M_open x1 s = some y) : Met l yn_M_open (xw yn_M_open bn_M_open 2 none) ({ frames := 3, cells := 0, slots := 0, locals := 63 }) (xk_P (dC, dI) xcl (xt cI cB cJ cZ cQ) [.ref h0, .int x1] sz (wM h0 a cI cB cJ cZ s)) (xk_Qv (dC, dI) xcl (xt cI cB cJ cZ cQ) (fun _ : Unit => True) (fun _ : Unit => (wM h0 a cI cB cJ cZ y.2)) (va_A (wM h0 a cI cB cJ cZ s) sz)) 0 0 (va_A (wM h0 a cI cB cJ cZ s) sz) := by
  refine xk_of (QA := xk_Qv (dC, dI) xcl (xt cI cB cJ cZ cQ) (fun _ : Unit => True) (fun _ : Unit => (wM h0 a cI cB cJ cZ y.2))) (by decide) (Nat.le_of_ble_eq_true rfl) ?_
  intro p e s0 m below meth c hx hb hml hown hg hr hlocks hin hP hK hN A hA hD hS ls hl
  have hown : s0.vm.findClass rn_M = some m.cls := hown
  obtain ⟨H, hH⟩ : ∃ z, z = s0.heap := ⟨_, rfl⟩
  rw [← hH] at hP
  have hS : va_S A s0.heap H [] := by rw [hH]; exact va_S.rf
  suffices kk : ∀ QQ : State → Prop, QQ = MQ below (xk_Qv (dC, dI) xcl (xt cI cB cJ cZ cQ) (fun _ : Unit => True) (fun _ : Unit => (wM h0 a cI cB cJ cZ y.2)) A) [.ref h0, .int x1].toArray s0 0 0 A → dcC p l e ({ frames := 3, cells := 0, slots := 0, locals := 63 }) s0 m [.ref h0, .int x1].toArray below meth c QQ (dC, dI) A (wM h0 a cI cB cJ cZ s) 0 2 [(0, .ref h0), (1, .int x1)] [] by
    have k9 := kk _ rfl H [] ls hP hD hS hl
    rw [hH] at k9; exact k9
  clear hP hD hS hl hH H ls
  intro QQ hQQ
  have bl_41 : ∀ (x1 : Int32) (s : ms), bk_M_open_41 x1 s = some y → dcC p l e ({ frames := 3, cells := 0, slots := 0, locals := 63 }) s0 m [.ref h0, .int x1].toArray below meth c QQ (dC, dI) A (wM h0 a cI cB cJ cZ s) 41 2 [(0, .ref h0), (1, .int x1)] [] := by
    intro x1 s hf H locs ls hP hD hS hl
    unfold bk_M_open_41 at hf
    refine lv_aload_n hx hb dn_M_open_41 rfl (lv_at hl 0 rfl) ?_
    refine lv_iload_n hx hb dn_M_open_42 rfl (lv_at hl 1 rfl) ?_
    obtain ⟨q_1, hc_2, hf⟩ := dc_b hf
    refine dc_callv (xk_runV (ar := 1) (As := [.int x1]) (rest := []) (ci := 0) (q0 := 0) ⟨hx, hb, hml, hown, hg⟩ hK hN (ct_M_take l dC dI cI cB cJ cZ cQ H.size h0 a x1 s q_1 hc_2) hP hD rfl rfl wn_9_173 wn_9_175 sn_M_take wn_1_13 wn_9_176 rfl rfl (by decide +kernel) ⟨Nat.le_of_ble_eq_true rfl, Nat.le_of_ble_eq_true rfl⟩ rfl hl.1 rfl (Nat.le_of_ble_eq_true rfl) dn_M_open_43 ⟨Nat.le_of_ble_eq_true rfl, Nat.le_of_ble_eq_true rfl⟩) hP hD hS hA (fun _ H locs hw hP hD hS => ?_)
    rw [hQQ, ← Option.some.inj hf]
    exact xk_vret (w1 := fun _ : Unit => (wM h0 a cI cB cJ cZ q_1.2)) () hx hb hr hlocks hK hS dn_M_open_46 hP hD trivial (Nat.le_refl _) (Nat.le_refl _)
  intro H locs ls hP hD hS hl
  unfold fn_M_open at hf
  refine lv_aload_n hx hb dn_M_open_0 rfl (lv_at hl 0 rfl) ?_
  refine lv_iload_n hx hb dn_M_open_1 rfl (lv_at hl 1 rfl) ?_
  obtain ⟨q_1, hc_2, hf⟩ := dc_b hf
  refine dc_calli (xk_runV (ar := 1) (As := [.int x1]) (rest := []) (ci := 0) (q0 := 0) ⟨hx, hb, hml, hown, hg⟩ hK hN (ct_M_is l dC dI cI cB cJ cZ cQ H.size h0 a x1 s q_1 hc_2) hP hD rfl rfl wn_9_189 wn_9_191 sn_M_is wn_1_13 wn_9_192 rfl rfl (by decide +kernel) ⟨Nat.le_of_ble_eq_true rfl, Nat.le_of_ble_eq_true rfl⟩ rfl hl.1 rfl (Nat.le_of_ble_eq_true rfl) dn_M_open_2 ⟨Nat.le_of_ble_eq_true rfl, Nat.le_of_ble_eq_true rfl⟩) hP hD hS hA (fun r_3 _ H locs hw hP hD hS => ?_)
  have hw : r_3 = q_1.1 := hw
  subst hw
  refine lv_if_eq (tgt := 41) hx hb dn_M_open_5 (by decide) (fun h => ?_) (fun h => ?_)
  · have hf := (if_pos h).symm.trans hf
    exact bl_41 x1 q_1.2 hf H locs ls hP hD hS hl
  · have hf := (if_neg h).symm.trans hf
    refine lv_aload_n hx hb dn_M_open_8 rfl (lv_at hl 0 rfl) ?_
    refine lv_dup hx hb dn_M_open_9 rfl ?_
    refine va_get (D := (dC, dI)) (ci := 0) (v := .int ((q_1.2.1 11 0))) (C := rn_M) (T := fn_M) (N := 91) hx hb hg in_M hown hK hP 0 rfl rfl 11 (by decide) (hg _ wn_8_79) (fun _ h9 => h9) rfl dn_M_open_10 ?_
    refine lv_iconst (v := 1) hx hb dn_M_open_13 (by decide) ?_
    refine lv_iadd hx hb dn_M_open_14 ?_
    refine va_put (D := (dC, dI)) (ci := 0) (v := .int (((q_1.2.1 11 0) + 1))) (ty := .int) (C := rn_M) (T := fn_M) (N := 91) hx hb hg in_M tn_M tk_M nn_M hown hK hP hD hS 0 rfl rfl 11 (by decide) (hg _ wn_8_79) (fun _ h9 => h9) rfl (tk_M 11 (by decide)) rfl rfl (Nat.le_of_ble_eq_true rfl) dn_M_open_15 (fun H locs hP hD hS => ?_)
    have hP : va_P (dC, dI) xcl (wM h0 a cI cB cJ cZ (upI q_1.2 11 (fun _ => ((q_1.2.1 11 0) + 1)))) H := hP
    have hD : va_D A (wM h0 a cI cB cJ cZ (upI q_1.2 11 (fun _ => ((q_1.2.1 11 0) + 1)))) := hD
    refine lv_aload_n hx hb dn_M_open_18 rfl (lv_at hl 0 rfl) ?_
    refine va_get (D := (dC, dI)) (ci := 0) (v := .int (((q_1.2.1 11 0) + 1))) (C := rn_M) (T := fn_M) (N := 91) hx hb hg in_M hown hK hP 0 rfl rfl 11 (by decide) (hg _ wn_8_79) (fun _ h9 => h9) rfl dn_M_open_19 ?_
    refine lv_bipush (v := 60) hx hb dn_M_open_22 (by decide) ?_
    refine lv_icmp_le (tgt := 41) hx hb dn_M_open_24 (by decide) (fun h => ?_) (fun h => ?_)
    · have hf := (if_pos h).symm.trans hf
      exact bl_41 x1 (upI q_1.2 11 (fun _ => ((q_1.2.1 11 0) + 1))) hf H locs ls hP hD hS hl
    · have hf := (if_neg h).symm.trans hf
      refine lv_aload_n hx hb dn_M_open_27 rfl (lv_at hl 0 rfl) ?_
      refine lv_iconst (v := 3) hx hb dn_M_open_28 (by decide) ?_
      refine lv_aload_n hx hb dn_M_open_29 rfl (lv_at hl 0 rfl) ?_
      refine va_get (D := (dC, dI)) (ci := 0) (v := .ref ((a 5))) (C := rn_M) (T := fn_M) (N := 91) hx hb hg in_M hown hK hP 0 rfl rfl 5 (by decide) (hg _ wn_8_73) (fun _ h9 => h9) rfl dn_M_open_30 ?_
      refine lv_aload_n hx hb dn_M_open_33 rfl (lv_at hl 0 rfl) ?_
      refine va_get (D := (dC, dI)) (ci := 0) (v := .int ((q_1.2.1 8 0))) (C := rn_M) (T := fn_M) (N := 91) hx hb hg in_M hown hK hP 0 rfl rfl 8 (by decide) (hg _ wn_8_76) (fun _ h9 => h9) rfl dn_M_open_34 ?_
      obtain ⟨hg_4, hf⟩ := dc_g hf
      refine va_iald hx hb hK hP 3 0 rfl rfl hg_4 dn_M_open_37 ?_
      refine xk_ti (y := ((q_1.2.1 5) (Int32.toNatClampNeg ((q_1.2.1 8 0))))) rfl ?_
      obtain ⟨q_5, hc_6, hf⟩ := dc_b hf
      refine dc_callv (xk_runV (ar := 2) (As := [.int 3, .int (((q_1.2.1 5) (Int32.toNatClampNeg ((q_1.2.1 8 0)))))]) (rest := []) (ci := 0) (q0 := 0) ⟨hx, hb, hml, hown, hg⟩ hK hN (ct_M_fail l dC dI cI cB cJ cZ cQ H.size h0 a 3 (((q_1.2.1 5) (Int32.toNatClampNeg ((q_1.2.1 8 0))))) (upI q_1.2 11 (fun _ => ((q_1.2.1 11 0) + 1))) q_5 hc_6) hP hD rfl rfl wn_9_181 wn_9_183 sn_M_fail wn_1_13 wn_9_184 rfl rfl (by decide +kernel) ⟨Nat.le_of_ble_eq_true rfl, Nat.le_of_ble_eq_true rfl⟩ rfl hl.1 rfl (Nat.le_of_ble_eq_true rfl) dn_M_open_38 ⟨Nat.le_of_ble_eq_true rfl, Nat.le_of_ble_eq_true rfl⟩) hP hD hS hA (fun _ H locs hw hP hD hS => ?_)
      exact bl_41 x1 q_5.2 hf H locs ls hP hD hS hl
def fn_M_shut (x1 : Int32) (s : ms) : Option (Unit × ms) :=
  (fn_M_take x1 s).bind (fun q_1 => some ((), upI q_1.2 11 (fun _ => ((q_1.2.1 11 0) - 1))))
set_option maxHeartbeats 8000000 in
set_option maxRecDepth 100000 in
theorem ct_M_shut (l : Launch) (dC : Nat → ClassId) (dI : Nat → Nat → Nat) (cI cB cJ cZ cQ : ClassId) (sz : Nat) (h0 : Nat) (a : Nat → Nat) (x1 : Int32) (s : ms) (y : (Unit × ms)) (hf : fn_M_shut x1 s = some y) : Met l yn_M_shut (xw yn_M_shut bn_M_shut 2 none) ({ frames := 3, cells := 0, slots := 0, locals := 63 }) (xk_P (dC, dI) xcl (xt cI cB cJ cZ cQ) [.ref h0, .int x1] sz (wM h0 a cI cB cJ cZ s)) (xk_Qv (dC, dI) xcl (xt cI cB cJ cZ cQ) (fun _ : Unit => True) (fun _ : Unit => (wM h0 a cI cB cJ cZ y.2)) (va_A (wM h0 a cI cB cJ cZ s) sz)) 0 0 (va_A (wM h0 a cI cB cJ cZ s) sz) := by
  refine xk_of (QA := xk_Qv (dC, dI) xcl (xt cI cB cJ cZ cQ) (fun _ : Unit => True) (fun _ : Unit => (wM h0 a cI cB cJ cZ y.2))) (by decide) (Nat.le_of_ble_eq_true rfl) ?_
  intro p e s0 m below meth c hx hb hml hown hg hr hlocks hin hP hK hN A hA hD hS ls hl
  have hown : s0.vm.findClass rn_M = some m.cls := hown
  obtain ⟨H, hH⟩ : ∃ z, z = s0.heap := ⟨_, rfl⟩
  rw [← hH] at hP
  have hS : va_S A s0.heap H [] := by rw [hH]; exact va_S.rf
  suffices kk : ∀ QQ : State → Prop, QQ = MQ below (xk_Qv (dC, dI) xcl (xt cI cB cJ cZ cQ) (fun _ : Unit => True) (fun _ : Unit => (wM h0 a cI cB cJ cZ y.2)) A) [.ref h0, .int x1].toArray s0 0 0 A → dcC p l e ({ frames := 3, cells := 0, slots := 0, locals := 63 }) s0 m [.ref h0, .int x1].toArray below meth c QQ (dC, dI) A (wM h0 a cI cB cJ cZ s) 0 2 [(0, .ref h0), (1, .int x1)] [] by
    have k9 := kk _ rfl H [] ls hP hD hS hl
    rw [hH] at k9; exact k9
  clear hP hD hS hl hH H ls
  intro QQ hQQ
  intro H locs ls hP hD hS hl
  unfold fn_M_shut at hf
  refine lv_aload_n hx hb dn_M_shut_0 rfl (lv_at hl 0 rfl) ?_
  refine lv_iload_n hx hb dn_M_shut_1 rfl (lv_at hl 1 rfl) ?_
  obtain ⟨q_1, hc_2, hf⟩ := dc_b hf
  refine dc_callv (xk_runV (ar := 1) (As := [.int x1]) (rest := []) (ci := 0) (q0 := 0) ⟨hx, hb, hml, hown, hg⟩ hK hN (ct_M_take l dC dI cI cB cJ cZ cQ H.size h0 a x1 s q_1 hc_2) hP hD rfl rfl wn_9_173 wn_9_175 sn_M_take wn_1_13 wn_9_176 rfl rfl (by decide +kernel) ⟨Nat.le_of_ble_eq_true rfl, Nat.le_of_ble_eq_true rfl⟩ rfl hl.1 rfl (Nat.le_of_ble_eq_true rfl) dn_M_shut_2 ⟨Nat.le_of_ble_eq_true rfl, Nat.le_of_ble_eq_true rfl⟩) hP hD hS hA (fun _ H locs hw hP hD hS => ?_)
  refine lv_aload_n hx hb dn_M_shut_5 rfl (lv_at hl 0 rfl) ?_
  refine lv_dup hx hb dn_M_shut_6 rfl ?_
  refine va_get (D := (dC, dI)) (ci := 0) (v := .int ((q_1.2.1 11 0))) (C := rn_M) (T := fn_M) (N := 91) hx hb hg in_M hown hK hP 0 rfl rfl 11 (by decide) (hg _ wn_8_79) (fun _ h9 => h9) rfl dn_M_shut_7 ?_
  refine lv_iconst (v := 1) hx hb dn_M_shut_10 (by decide) ?_
  refine lv_isub hx hb dn_M_shut_11 ?_
  refine va_put (D := (dC, dI)) (ci := 0) (v := .int (((q_1.2.1 11 0) - 1))) (ty := .int) (C := rn_M) (T := fn_M) (N := 91) hx hb hg in_M tn_M tk_M nn_M hown hK hP hD hS 0 rfl rfl 11 (by decide) (hg _ wn_8_79) (fun _ h9 => h9) rfl (tk_M 11 (by decide)) rfl rfl (Nat.le_of_ble_eq_true rfl) dn_M_shut_12 (fun H locs hP hD hS => ?_)
  have hP : va_P (dC, dI) xcl (wM h0 a cI cB cJ cZ (upI q_1.2 11 (fun _ => ((q_1.2.1 11 0) - 1)))) H := hP
  have hD : va_D A (wM h0 a cI cB cJ cZ (upI q_1.2 11 (fun _ => ((q_1.2.1 11 0) - 1)))) := hD
  rw [hQQ, ← Option.some.inj hf]
  exact xk_vret (w1 := fun _ : Unit => (wM h0 a cI cB cJ cZ (upI q_1.2 11 (fun _ => ((q_1.2.1 11 0) - 1))))) () hx hb hr hlocks hK hS dn_M_shut_15 hP hD trivial (Nat.le_refl _) (Nat.le_refl _)
def fn_M_rangeGrammar (s : ms) : Option (Unit × ms) :=
  (fn_M_is 91 s).bind (fun q_1 => if q_1.1 = 0 then (some ((), q_1.2)) else ((fn_M_open 91 q_1.2).bind (fun q_4 => (fn_M_take 401 q_4.2).bind (fun q_6 => (fn_M_take 58 q_6.2).bind (fun q_8 => (fn_M_take 401 q_8.2).bind (fun q_10 => (fn_M_shut 93 q_10.2).bind (fun q_12 => some ((), q_12.2))))))))
set_option maxHeartbeats 8000000 in
set_option maxRecDepth 100000 in
theorem ct_M_rangeGrammar (l : Launch) (dC : Nat → ClassId) (dI : Nat → Nat → Nat) (cI cB cJ cZ cQ : ClassId) (sz : Nat) (h0 : Nat) (a : Nat → Nat) (s : ms) (y : (Unit × ms)) (hf : fn_M_rangeGrammar s = some y) : Met l yn_M_rangeGrammar (xw yn_M_rangeGrammar bn_M_rangeGrammar 1 none) ({ frames := 4, cells := 0, slots := 0, locals := 84 }) (xk_P (dC, dI) xcl (xt cI cB cJ cZ cQ) [.ref h0] sz (wM h0 a cI cB cJ cZ s)) (xk_Qv (dC, dI) xcl (xt cI cB cJ cZ cQ) (fun _ : Unit => True) (fun _ : Unit => (wM h0 a cI cB cJ cZ y.2)) (va_A (wM h0 a cI cB cJ cZ s) sz)) 0 0 (va_A (wM h0 a cI cB cJ cZ s) sz) := by
  refine xk_of (QA := xk_Qv (dC, dI) xcl (xt cI cB cJ cZ cQ) (fun _ : Unit => True) (fun _ : Unit => (wM h0 a cI cB cJ cZ y.2))) (by decide) (Nat.le_of_ble_eq_true rfl) ?_
  intro p e s0 m below meth c hx hb hml hown hg hr hlocks hin hP hK hN A hA hD hS ls hl
  have hown : s0.vm.findClass rn_M = some m.cls := hown
  obtain ⟨H, hH⟩ : ∃ z, z = s0.heap := ⟨_, rfl⟩
  rw [← hH] at hP
  have hS : va_S A s0.heap H [] := by rw [hH]; exact va_S.rf
  suffices kk : ∀ QQ : State → Prop, QQ = MQ below (xk_Qv (dC, dI) xcl (xt cI cB cJ cZ cQ) (fun _ : Unit => True) (fun _ : Unit => (wM h0 a cI cB cJ cZ y.2)) A) [.ref h0].toArray s0 0 0 A → dcC p l e ({ frames := 4, cells := 0, slots := 0, locals := 84 }) s0 m [.ref h0].toArray below meth c QQ (dC, dI) A (wM h0 a cI cB cJ cZ s) 0 1 [(0, .ref h0)] [] by
    have k9 := kk _ rfl H [] ls hP hD hS hl
    rw [hH] at k9; exact k9
  clear hP hD hS hl hH H ls
  intro QQ hQQ
  intro H locs ls hP hD hS hl
  unfold fn_M_rangeGrammar at hf
  refine lv_aload_n hx hb dn_M_rangeGrammar_0 rfl (lv_at hl 0 rfl) ?_
  refine lv_bipush (v := 91) hx hb dn_M_rangeGrammar_1 (by decide) ?_
  obtain ⟨q_1, hc_2, hf⟩ := dc_b hf
  refine dc_calli (xk_runV (ar := 1) (As := [.int 91]) (rest := []) (ci := 0) (q0 := 0) ⟨hx, hb, hml, hown, hg⟩ hK hN (ct_M_is l dC dI cI cB cJ cZ cQ H.size h0 a 91 s q_1 hc_2) hP hD rfl rfl wn_9_189 wn_9_191 sn_M_is wn_1_13 wn_9_192 rfl rfl (by decide +kernel) ⟨Nat.le_of_ble_eq_true rfl, Nat.le_of_ble_eq_true rfl⟩ rfl hl.1 rfl (Nat.le_of_ble_eq_true rfl) dn_M_rangeGrammar_3 ⟨Nat.le_of_ble_eq_true rfl, Nat.le_of_ble_eq_true rfl⟩) hP hD hS hA (fun r_3 _ H locs hw hP hD hS => ?_)
  have hw : r_3 = q_1.1 := hw
  subst hw
  refine lv_if_eq (tgt := 41) hx hb dn_M_rangeGrammar_6 (by decide) (fun h => ?_) (fun h => ?_)
  · have hf := (if_pos h).symm.trans hf
    rw [hQQ, ← Option.some.inj hf]
    exact xk_vret (w1 := fun _ : Unit => (wM h0 a cI cB cJ cZ q_1.2)) () hx hb hr hlocks hK hS dn_M_rangeGrammar_41 hP hD trivial (Nat.le_refl _) (Nat.le_refl _)
  · have hf := (if_neg h).symm.trans hf
    refine lv_aload_n hx hb dn_M_rangeGrammar_9 rfl (lv_at hl 0 rfl) ?_
    refine lv_bipush (v := 91) hx hb dn_M_rangeGrammar_10 (by decide) ?_
    obtain ⟨q_4, hc_5, hf⟩ := dc_b hf
    refine dc_callv (xk_runV (ar := 1) (As := [.int 91]) (rest := []) (ci := 0) (q0 := 0) ⟨hx, hb, hml, hown, hg⟩ hK hN (ct_M_open l dC dI cI cB cJ cZ cQ H.size h0 a 91 q_1.2 q_4 hc_5) hP hD rfl rfl wn_9_185 wn_9_187 sn_M_open wn_1_13 wn_9_188 rfl rfl (by decide +kernel) ⟨Nat.le_of_ble_eq_true rfl, Nat.le_of_ble_eq_true rfl⟩ rfl hl.1 rfl (Nat.le_of_ble_eq_true rfl) dn_M_rangeGrammar_12 ⟨Nat.le_of_ble_eq_true rfl, Nat.le_of_ble_eq_true rfl⟩) hP hD hS hA (fun _ H locs hw hP hD hS => ?_)
    refine lv_aload_n hx hb dn_M_rangeGrammar_15 rfl (lv_at hl 0 rfl) ?_
    refine lv_sipush (v := 401) hx hb dn_M_rangeGrammar_16 (by decide) ?_
    obtain ⟨q_6, hc_7, hf⟩ := dc_b hf
    refine dc_callv (xk_runV (ar := 1) (As := [.int 401]) (rest := []) (ci := 0) (q0 := 0) ⟨hx, hb, hml, hown, hg⟩ hK hN (ct_M_take l dC dI cI cB cJ cZ cQ H.size h0 a 401 q_4.2 q_6 hc_7) hP hD rfl rfl wn_9_173 wn_9_175 sn_M_take wn_1_13 wn_9_176 rfl rfl (by decide +kernel) ⟨Nat.le_of_ble_eq_true rfl, Nat.le_of_ble_eq_true rfl⟩ rfl hl.1 rfl (Nat.le_of_ble_eq_true rfl) dn_M_rangeGrammar_19 ⟨Nat.le_of_ble_eq_true rfl, Nat.le_of_ble_eq_true rfl⟩) hP hD hS hA (fun _ H locs hw hP hD hS => ?_)
    refine lv_aload_n hx hb dn_M_rangeGrammar_22 rfl (lv_at hl 0 rfl) ?_
    refine lv_bipush (v := 58) hx hb dn_M_rangeGrammar_23 (by decide) ?_
    obtain ⟨q_8, hc_9, hf⟩ := dc_b hf
    refine dc_callv (xk_runV (ar := 1) (As := [.int 58]) (rest := []) (ci := 0) (q0 := 0) ⟨hx, hb, hml, hown, hg⟩ hK hN (ct_M_take l dC dI cI cB cJ cZ cQ H.size h0 a 58 q_6.2 q_8 hc_9) hP hD rfl rfl wn_9_173 wn_9_175 sn_M_take wn_1_13 wn_9_176 rfl rfl (by decide +kernel) ⟨Nat.le_of_ble_eq_true rfl, Nat.le_of_ble_eq_true rfl⟩ rfl hl.1 rfl (Nat.le_of_ble_eq_true rfl) dn_M_rangeGrammar_25 ⟨Nat.le_of_ble_eq_true rfl, Nat.le_of_ble_eq_true rfl⟩) hP hD hS hA (fun _ H locs hw hP hD hS => ?_)
    refine lv_aload_n hx hb dn_M_rangeGrammar_28 rfl (lv_at hl 0 rfl) ?_
    refine lv_sipush (v := 401) hx hb dn_M_rangeGrammar_29 (by decide) ?_
    obtain ⟨q_10, hc_11, hf⟩ := dc_b hf
    refine dc_callv (xk_runV (ar := 1) (As := [.int 401]) (rest := []) (ci := 0) (q0 := 0) ⟨hx, hb, hml, hown, hg⟩ hK hN (ct_M_take l dC dI cI cB cJ cZ cQ H.size h0 a 401 q_8.2 q_10 hc_11) hP hD rfl rfl wn_9_173 wn_9_175 sn_M_take wn_1_13 wn_9_176 rfl rfl (by decide +kernel) ⟨Nat.le_of_ble_eq_true rfl, Nat.le_of_ble_eq_true rfl⟩ rfl hl.1 rfl (Nat.le_of_ble_eq_true rfl) dn_M_rangeGrammar_32 ⟨Nat.le_of_ble_eq_true rfl, Nat.le_of_ble_eq_true rfl⟩) hP hD hS hA (fun _ H locs hw hP hD hS => ?_)
    refine lv_aload_n hx hb dn_M_rangeGrammar_35 rfl (lv_at hl 0 rfl) ?_
    refine lv_bipush (v := 93) hx hb dn_M_rangeGrammar_36 (by decide) ?_
    obtain ⟨q_12, hc_13, hf⟩ := dc_b hf
    refine dc_callv (xk_runV (ar := 1) (As := [.int 93]) (rest := []) (ci := 0) (q0 := 0) ⟨hx, hb, hml, hown, hg⟩ hK hN (ct_M_shut l dC dI cI cB cJ cZ cQ H.size h0 a 93 q_10.2 q_12 hc_13) hP hD rfl rfl wn_9_201 wn_9_203 sn_M_shut wn_1_13 wn_9_204 rfl rfl (by decide +kernel) ⟨Nat.le_of_ble_eq_true rfl, Nat.le_of_ble_eq_true rfl⟩ rfl hl.1 rfl (Nat.le_of_ble_eq_true rfl) dn_M_rangeGrammar_38 ⟨Nat.le_of_ble_eq_true rfl, Nat.le_of_ble_eq_true rfl⟩) hP hD hS hA (fun _ H locs hw hP hD hS => ?_)
    rw [hQQ, ← Option.some.inj hf]
    exact xk_vret (w1 := fun _ : Unit => (wM h0 a cI cB cJ cZ q_12.2)) () hx hb hr hlocks hK hS dn_M_rangeGrammar_41 hP hD trivial (Nat.le_refl _) (Nat.le_refl _)
def fn_M_beginGrammar (s : ms) : Option (Unit × ms) :=
  (fn_M_is 61 s).bind (fun q_1 => if q_1.1 = 0 then (some ((), q_1.2)) else ((fn_M_take 402 (upI q_1.2 8 (fun _ => ((q_1.2.1 8 0) + 1)))).bind (fun q_4 => some ((), q_4.2))))
set_option maxHeartbeats 8000000 in
set_option maxRecDepth 100000 in
theorem ct_M_beginGrammar (l : Launch) (dC : Nat → ClassId) (dI : Nat → Nat → Nat) (cI cB cJ cZ cQ : ClassId) (sz : Nat) (h0 : Nat) (a : Nat → Nat) (s : ms) (y : (Unit × ms)) (hf : fn_M_beginGrammar s = some y) : Met l yn_M_beginGrammar (xw yn_M_beginGrammar bn_M_beginGrammar 1 none) ({ frames := 3, cells := 0, slots := 0, locals := 63 }) (xk_P (dC, dI) xcl (xt cI cB cJ cZ cQ) [.ref h0] sz (wM h0 a cI cB cJ cZ s)) (xk_Qv (dC, dI) xcl (xt cI cB cJ cZ cQ) (fun _ : Unit => True) (fun _ : Unit => (wM h0 a cI cB cJ cZ y.2)) (va_A (wM h0 a cI cB cJ cZ s) sz)) 0 0 (va_A (wM h0 a cI cB cJ cZ s) sz) := by
  refine xk_of (QA := xk_Qv (dC, dI) xcl (xt cI cB cJ cZ cQ) (fun _ : Unit => True) (fun _ : Unit => (wM h0 a cI cB cJ cZ y.2))) (by decide) (Nat.le_of_ble_eq_true rfl) ?_
  intro p e s0 m below meth c hx hb hml hown hg hr hlocks hin hP hK hN A hA hD hS ls hl
  have hown : s0.vm.findClass rn_M = some m.cls := hown
  obtain ⟨H, hH⟩ : ∃ z, z = s0.heap := ⟨_, rfl⟩
  rw [← hH] at hP
  have hS : va_S A s0.heap H [] := by rw [hH]; exact va_S.rf
  suffices kk : ∀ QQ : State → Prop, QQ = MQ below (xk_Qv (dC, dI) xcl (xt cI cB cJ cZ cQ) (fun _ : Unit => True) (fun _ : Unit => (wM h0 a cI cB cJ cZ y.2)) A) [.ref h0].toArray s0 0 0 A → dcC p l e ({ frames := 3, cells := 0, slots := 0, locals := 63 }) s0 m [.ref h0].toArray below meth c QQ (dC, dI) A (wM h0 a cI cB cJ cZ s) 0 1 [(0, .ref h0)] [] by
    have k9 := kk _ rfl H [] ls hP hD hS hl
    rw [hH] at k9; exact k9
  clear hP hD hS hl hH H ls
  intro QQ hQQ
  intro H locs ls hP hD hS hl
  unfold fn_M_beginGrammar at hf
  refine lv_aload_n hx hb dn_M_beginGrammar_0 rfl (lv_at hl 0 rfl) ?_
  refine lv_bipush (v := 61) hx hb dn_M_beginGrammar_1 (by decide) ?_
  obtain ⟨q_1, hc_2, hf⟩ := dc_b hf
  refine dc_calli (xk_runV (ar := 1) (As := [.int 61]) (rest := []) (ci := 0) (q0 := 0) ⟨hx, hb, hml, hown, hg⟩ hK hN (ct_M_is l dC dI cI cB cJ cZ cQ H.size h0 a 61 s q_1 hc_2) hP hD rfl rfl wn_9_189 wn_9_191 sn_M_is wn_1_13 wn_9_192 rfl rfl (by decide +kernel) ⟨Nat.le_of_ble_eq_true rfl, Nat.le_of_ble_eq_true rfl⟩ rfl hl.1 rfl (Nat.le_of_ble_eq_true rfl) dn_M_beginGrammar_3 ⟨Nat.le_of_ble_eq_true rfl, Nat.le_of_ble_eq_true rfl⟩) hP hD hS hA (fun r_3 _ H locs hw hP hD hS => ?_)
  have hw : r_3 = q_1.1 := hw
  subst hw
  refine lv_if_eq (tgt := 26) hx hb dn_M_beginGrammar_6 (by decide) (fun h => ?_) (fun h => ?_)
  · have hf := (if_pos h).symm.trans hf
    rw [hQQ, ← Option.some.inj hf]
    exact xk_vret (w1 := fun _ : Unit => (wM h0 a cI cB cJ cZ q_1.2)) () hx hb hr hlocks hK hS dn_M_beginGrammar_26 hP hD trivial (Nat.le_refl _) (Nat.le_refl _)
  · have hf := (if_neg h).symm.trans hf
    refine lv_aload_n hx hb dn_M_beginGrammar_9 rfl (lv_at hl 0 rfl) ?_
    refine lv_dup hx hb dn_M_beginGrammar_10 rfl ?_
    refine va_get (D := (dC, dI)) (ci := 0) (v := .int ((q_1.2.1 8 0))) (C := rn_M) (T := fn_M) (N := 91) hx hb hg in_M hown hK hP 0 rfl rfl 8 (by decide) (hg _ wn_8_76) (fun _ h9 => h9) rfl dn_M_beginGrammar_11 ?_
    refine lv_iconst (v := 1) hx hb dn_M_beginGrammar_14 (by decide) ?_
    refine lv_iadd hx hb dn_M_beginGrammar_15 ?_
    refine va_put (D := (dC, dI)) (ci := 0) (v := .int (((q_1.2.1 8 0) + 1))) (ty := .int) (C := rn_M) (T := fn_M) (N := 91) hx hb hg in_M tn_M tk_M nn_M hown hK hP hD hS 0 rfl rfl 8 (by decide) (hg _ wn_8_76) (fun _ h9 => h9) rfl (tk_M 8 (by decide)) rfl rfl (Nat.le_of_ble_eq_true rfl) dn_M_beginGrammar_16 (fun H locs hP hD hS => ?_)
    have hP : va_P (dC, dI) xcl (wM h0 a cI cB cJ cZ (upI q_1.2 8 (fun _ => ((q_1.2.1 8 0) + 1)))) H := hP
    have hD : va_D A (wM h0 a cI cB cJ cZ (upI q_1.2 8 (fun _ => ((q_1.2.1 8 0) + 1)))) := hD
    refine lv_aload_n hx hb dn_M_beginGrammar_19 rfl (lv_at hl 0 rfl) ?_
    refine lv_sipush (v := 402) hx hb dn_M_beginGrammar_20 (by decide) ?_
    obtain ⟨q_4, hc_5, hf⟩ := dc_b hf
    refine dc_callv (xk_runV (ar := 1) (As := [.int 402]) (rest := []) (ci := 0) (q0 := 0) ⟨hx, hb, hml, hown, hg⟩ hK hN (ct_M_take l dC dI cI cB cJ cZ cQ H.size h0 a 402 (upI q_1.2 8 (fun _ => ((q_1.2.1 8 0) + 1))) q_4 hc_5) hP hD rfl rfl wn_9_173 wn_9_175 sn_M_take wn_1_13 wn_9_176 rfl rfl (by decide +kernel) ⟨Nat.le_of_ble_eq_true rfl, Nat.le_of_ble_eq_true rfl⟩ rfl hl.1 rfl (Nat.le_of_ble_eq_true rfl) dn_M_beginGrammar_23 ⟨Nat.le_of_ble_eq_true rfl, Nat.le_of_ble_eq_true rfl⟩) hP hD hS hA (fun _ H locs hw hP hD hS => ?_)
    rw [hQQ, ← Option.some.inj hf]
    exact xk_vret (w1 := fun _ : Unit => (wM h0 a cI cB cJ cZ q_4.2)) () hx hb hr hlocks hK hS dn_M_beginGrammar_26 hP hD trivial (Nat.le_refl _) (Nat.le_refl _)
def fn_M_portGrammar (s : ms) : Option (Unit × ms) :=
  (fn_M_is 302 s).bind (fun q_1 => if q_1.1 = 0 then ((fn_M_take 303 q_1.2).bind (fun q_4 => (fn_M_is 305 q_4.2).bind (fun q_6 => if q_6.1 = 0 then ((fn_M_rangeGrammar q_6.2).bind (fun q_9 => (fn_M_take 400 q_9.2).bind (fun q_11 => some ((), q_11.2)))) else ((fn_M_rangeGrammar (upI q_6.2 8 (fun _ => ((q_6.2.1 8 0) + 1)))).bind (fun q_9 => (fn_M_take 400 q_9.2).bind (fun q_11 => (fn_M_beginGrammar q_11.2).bind (fun q_13 => some ((), q_13.2)))))))) else ((fn_M_rangeGrammar (upI q_1.2 8 (fun _ => ((q_1.2.1 8 0) + 1)))).bind (fun q_4 => (fn_M_take 400 q_4.2).bind (fun q_6 => some ((), q_6.2)))))
set_option maxHeartbeats 8000000 in
set_option maxRecDepth 100000 in
theorem ct_M_portGrammar (l : Launch) (dC : Nat → ClassId) (dI : Nat → Nat → Nat) (cI cB cJ cZ cQ : ClassId) (sz : Nat) (h0 : Nat) (a : Nat → Nat) (s : ms) (y : (Unit × ms)) (hf : fn_M_portGrammar s = some y) : Met l yn_M_portGrammar (xw yn_M_portGrammar bn_M_portGrammar 1 none) ({ frames := 5, cells := 0, slots := 0, locals := 104 }) (xk_P (dC, dI) xcl (xt cI cB cJ cZ cQ) [.ref h0] sz (wM h0 a cI cB cJ cZ s)) (xk_Qv (dC, dI) xcl (xt cI cB cJ cZ cQ) (fun _ : Unit => True) (fun _ : Unit => (wM h0 a cI cB cJ cZ y.2)) (va_A (wM h0 a cI cB cJ cZ s) sz)) 0 0 (va_A (wM h0 a cI cB cJ cZ s) sz) := by
  refine xk_of (QA := xk_Qv (dC, dI) xcl (xt cI cB cJ cZ cQ) (fun _ : Unit => True) (fun _ : Unit => (wM h0 a cI cB cJ cZ y.2))) (by decide) (Nat.le_of_ble_eq_true rfl) ?_
  intro p e s0 m below meth c hx hb hml hown hg hr hlocks hin hP hK hN A hA hD hS ls hl
  have hown : s0.vm.findClass rn_M = some m.cls := hown
  obtain ⟨H, hH⟩ : ∃ z, z = s0.heap := ⟨_, rfl⟩
  rw [← hH] at hP
  have hS : va_S A s0.heap H [] := by rw [hH]; exact va_S.rf
  suffices kk : ∀ QQ : State → Prop, QQ = MQ below (xk_Qv (dC, dI) xcl (xt cI cB cJ cZ cQ) (fun _ : Unit => True) (fun _ : Unit => (wM h0 a cI cB cJ cZ y.2)) A) [.ref h0].toArray s0 0 0 A → dcC p l e ({ frames := 5, cells := 0, slots := 0, locals := 104 }) s0 m [.ref h0].toArray below meth c QQ (dC, dI) A (wM h0 a cI cB cJ cZ s) 0 1 [(0, .ref h0)] [] by
    have k9 := kk _ rfl H [] ls hP hD hS hl
    rw [hH] at k9; exact k9
  clear hP hD hS hl hH H ls
  intro QQ hQQ
  intro H locs ls hP hD hS hl
  unfold fn_M_portGrammar at hf
  refine lv_aload_n hx hb dn_M_portGrammar_0 rfl (lv_at hl 0 rfl) ?_
  refine lv_sipush (v := 302) hx hb dn_M_portGrammar_1 (by decide) ?_
  obtain ⟨q_1, hc_2, hf⟩ := dc_b hf
  refine dc_calli (xk_runV (ar := 1) (As := [.int 302]) (rest := []) (ci := 0) (q0 := 0) ⟨hx, hb, hml, hown, hg⟩ hK hN (ct_M_is l dC dI cI cB cJ cZ cQ H.size h0 a 302 s q_1 hc_2) hP hD rfl rfl wn_9_189 wn_9_191 sn_M_is wn_1_13 wn_9_192 rfl rfl (by decide +kernel) ⟨Nat.le_of_ble_eq_true rfl, Nat.le_of_ble_eq_true rfl⟩ rfl hl.1 rfl (Nat.le_of_ble_eq_true rfl) dn_M_portGrammar_4 ⟨Nat.le_of_ble_eq_true rfl, Nat.le_of_ble_eq_true rfl⟩) hP hD hS hA (fun r_3 _ H locs hw hP hD hS => ?_)
  have hw : r_3 = q_1.1 := hw
  subst hw
  refine lv_if_eq (tgt := 34) hx hb dn_M_portGrammar_7 (by decide) (fun h => ?_) (fun h => ?_)
  · have hf := (if_pos h).symm.trans hf
    refine lv_aload_n hx hb dn_M_portGrammar_34 rfl (lv_at hl 0 rfl) ?_
    refine lv_sipush (v := 303) hx hb dn_M_portGrammar_35 (by decide) ?_
    obtain ⟨q_4, hc_5, hf⟩ := dc_b hf
    refine dc_callv (xk_runV (ar := 1) (As := [.int 303]) (rest := []) (ci := 0) (q0 := 0) ⟨hx, hb, hml, hown, hg⟩ hK hN (ct_M_take l dC dI cI cB cJ cZ cQ H.size h0 a 303 q_1.2 q_4 hc_5) hP hD rfl rfl wn_9_173 wn_9_175 sn_M_take wn_1_13 wn_9_176 rfl rfl (by decide +kernel) ⟨Nat.le_of_ble_eq_true rfl, Nat.le_of_ble_eq_true rfl⟩ rfl hl.1 rfl (Nat.le_of_ble_eq_true rfl) dn_M_portGrammar_38 ⟨Nat.le_of_ble_eq_true rfl, Nat.le_of_ble_eq_true rfl⟩) hP hD hS hA (fun _ H locs hw hP hD hS => ?_)
    refine lv_aload_n hx hb dn_M_portGrammar_41 rfl (lv_at hl 0 rfl) ?_
    refine lv_sipush (v := 305) hx hb dn_M_portGrammar_42 (by decide) ?_
    obtain ⟨q_6, hc_7, hf⟩ := dc_b hf
    refine dc_calli (xk_runV (ar := 1) (As := [.int 305]) (rest := []) (ci := 0) (q0 := 0) ⟨hx, hb, hml, hown, hg⟩ hK hN (ct_M_is l dC dI cI cB cJ cZ cQ H.size h0 a 305 q_4.2 q_6 hc_7) hP hD rfl rfl wn_9_189 wn_9_191 sn_M_is wn_1_13 wn_9_192 rfl rfl (by decide +kernel) ⟨Nat.le_of_ble_eq_true rfl, Nat.le_of_ble_eq_true rfl⟩ rfl hl.1 rfl (Nat.le_of_ble_eq_true rfl) dn_M_portGrammar_45 ⟨Nat.le_of_ble_eq_true rfl, Nat.le_of_ble_eq_true rfl⟩) hP hD hS hA (fun r_8 _ H locs hw hP hD hS => ?_)
    have hw : r_8 = q_6.1 := hw
    subst hw
    refine lv_if_eq (tgt := 79) hx hb dn_M_portGrammar_48 (by decide) (fun h => ?_) (fun h => ?_)
    · have hf := (if_pos h).symm.trans hf
      refine lv_aload_n hx hb dn_M_portGrammar_79 rfl (lv_at hl 0 rfl) ?_
      obtain ⟨q_9, hc_10, hf⟩ := dc_b hf
      refine dc_callv (xk_runV (ar := 0) (As := []) (rest := []) (ci := 0) (q0 := 0) ⟨hx, hb, hml, hown, hg⟩ hK hN (ct_M_rangeGrammar l dC dI cI cB cJ cZ cQ H.size h0 a q_6.2 q_9 hc_10) hP hD rfl rfl wn_9_197 wn_9_199 sn_M_rangeGrammar wn_1_13 wn_9_200 rfl rfl (by decide +kernel) ⟨Nat.le_of_ble_eq_true rfl, Nat.le_of_ble_eq_true rfl⟩ rfl hl.1 rfl (Nat.le_of_ble_eq_true rfl) dn_M_portGrammar_80 ⟨Nat.le_of_ble_eq_true rfl, Nat.le_of_ble_eq_true rfl⟩) hP hD hS hA (fun _ H locs hw hP hD hS => ?_)
      refine lv_aload_n hx hb dn_M_portGrammar_83 rfl (lv_at hl 0 rfl) ?_
      refine lv_sipush (v := 400) hx hb dn_M_portGrammar_84 (by decide) ?_
      obtain ⟨q_11, hc_12, hf⟩ := dc_b hf
      refine dc_callv (xk_runV (ar := 1) (As := [.int 400]) (rest := []) (ci := 0) (q0 := 0) ⟨hx, hb, hml, hown, hg⟩ hK hN (ct_M_take l dC dI cI cB cJ cZ cQ H.size h0 a 400 q_9.2 q_11 hc_12) hP hD rfl rfl wn_9_173 wn_9_175 sn_M_take wn_1_13 wn_9_176 rfl rfl (by decide +kernel) ⟨Nat.le_of_ble_eq_true rfl, Nat.le_of_ble_eq_true rfl⟩ rfl hl.1 rfl (Nat.le_of_ble_eq_true rfl) dn_M_portGrammar_87 ⟨Nat.le_of_ble_eq_true rfl, Nat.le_of_ble_eq_true rfl⟩) hP hD hS hA (fun _ H locs hw hP hD hS => ?_)
      rw [hQQ, ← Option.some.inj hf]
      exact xk_vret (w1 := fun _ : Unit => (wM h0 a cI cB cJ cZ q_11.2)) () hx hb hr hlocks hK hS dn_M_portGrammar_90 hP hD trivial (Nat.le_refl _) (Nat.le_refl _)
    · have hf := (if_neg h).symm.trans hf
      refine lv_aload_n hx hb dn_M_portGrammar_51 rfl (lv_at hl 0 rfl) ?_
      refine lv_dup hx hb dn_M_portGrammar_52 rfl ?_
      refine va_get (D := (dC, dI)) (ci := 0) (v := .int ((q_6.2.1 8 0))) (C := rn_M) (T := fn_M) (N := 91) hx hb hg in_M hown hK hP 0 rfl rfl 8 (by decide) (hg _ wn_8_76) (fun _ h9 => h9) rfl dn_M_portGrammar_53 ?_
      refine lv_iconst (v := 1) hx hb dn_M_portGrammar_56 (by decide) ?_
      refine lv_iadd hx hb dn_M_portGrammar_57 ?_
      refine va_put (D := (dC, dI)) (ci := 0) (v := .int (((q_6.2.1 8 0) + 1))) (ty := .int) (C := rn_M) (T := fn_M) (N := 91) hx hb hg in_M tn_M tk_M nn_M hown hK hP hD hS 0 rfl rfl 8 (by decide) (hg _ wn_8_76) (fun _ h9 => h9) rfl (tk_M 8 (by decide)) rfl rfl (Nat.le_of_ble_eq_true rfl) dn_M_portGrammar_58 (fun H locs hP hD hS => ?_)
      have hP : va_P (dC, dI) xcl (wM h0 a cI cB cJ cZ (upI q_6.2 8 (fun _ => ((q_6.2.1 8 0) + 1)))) H := hP
      have hD : va_D A (wM h0 a cI cB cJ cZ (upI q_6.2 8 (fun _ => ((q_6.2.1 8 0) + 1)))) := hD
      refine lv_aload_n hx hb dn_M_portGrammar_61 rfl (lv_at hl 0 rfl) ?_
      obtain ⟨q_9, hc_10, hf⟩ := dc_b hf
      refine dc_callv (xk_runV (ar := 0) (As := []) (rest := []) (ci := 0) (q0 := 0) ⟨hx, hb, hml, hown, hg⟩ hK hN (ct_M_rangeGrammar l dC dI cI cB cJ cZ cQ H.size h0 a (upI q_6.2 8 (fun _ => ((q_6.2.1 8 0) + 1))) q_9 hc_10) hP hD rfl rfl wn_9_197 wn_9_199 sn_M_rangeGrammar wn_1_13 wn_9_200 rfl rfl (by decide +kernel) ⟨Nat.le_of_ble_eq_true rfl, Nat.le_of_ble_eq_true rfl⟩ rfl hl.1 rfl (Nat.le_of_ble_eq_true rfl) dn_M_portGrammar_62 ⟨Nat.le_of_ble_eq_true rfl, Nat.le_of_ble_eq_true rfl⟩) hP hD hS hA (fun _ H locs hw hP hD hS => ?_)
      refine lv_aload_n hx hb dn_M_portGrammar_65 rfl (lv_at hl 0 rfl) ?_
      refine lv_sipush (v := 400) hx hb dn_M_portGrammar_66 (by decide) ?_
      obtain ⟨q_11, hc_12, hf⟩ := dc_b hf
      refine dc_callv (xk_runV (ar := 1) (As := [.int 400]) (rest := []) (ci := 0) (q0 := 0) ⟨hx, hb, hml, hown, hg⟩ hK hN (ct_M_take l dC dI cI cB cJ cZ cQ H.size h0 a 400 q_9.2 q_11 hc_12) hP hD rfl rfl wn_9_173 wn_9_175 sn_M_take wn_1_13 wn_9_176 rfl rfl (by decide +kernel) ⟨Nat.le_of_ble_eq_true rfl, Nat.le_of_ble_eq_true rfl⟩ rfl hl.1 rfl (Nat.le_of_ble_eq_true rfl) dn_M_portGrammar_69 ⟨Nat.le_of_ble_eq_true rfl, Nat.le_of_ble_eq_true rfl⟩) hP hD hS hA (fun _ H locs hw hP hD hS => ?_)
      refine lv_aload_n hx hb dn_M_portGrammar_72 rfl (lv_at hl 0 rfl) ?_
      obtain ⟨q_13, hc_14, hf⟩ := dc_b hf
      refine dc_callv (xk_runV (ar := 0) (As := []) (rest := []) (ci := 0) (q0 := 0) ⟨hx, hb, hml, hown, hg⟩ hK hN (ct_M_beginGrammar l dC dI cI cB cJ cZ cQ H.size h0 a q_11.2 q_13 hc_14) hP hD rfl rfl wn_9_205 wn_9_207 sn_M_beginGrammar wn_1_13 wn_9_208 rfl rfl (by decide +kernel) ⟨Nat.le_of_ble_eq_true rfl, Nat.le_of_ble_eq_true rfl⟩ rfl hl.1 rfl (Nat.le_of_ble_eq_true rfl) dn_M_portGrammar_73 ⟨Nat.le_of_ble_eq_true rfl, Nat.le_of_ble_eq_true rfl⟩) hP hD hS hA (fun _ H locs hw hP hD hS => ?_)
      refine lv_goto (tgt := 90) hx hb dn_M_portGrammar_76 (by decide) ?_
      rw [hQQ, ← Option.some.inj hf]
      exact xk_vret (w1 := fun _ : Unit => (wM h0 a cI cB cJ cZ q_13.2)) () hx hb hr hlocks hK hS dn_M_portGrammar_90 hP hD trivial (Nat.le_refl _) (Nat.le_refl _)
  · have hf := (if_neg h).symm.trans hf
    refine lv_aload_n hx hb dn_M_portGrammar_10 rfl (lv_at hl 0 rfl) ?_
    refine lv_dup hx hb dn_M_portGrammar_11 rfl ?_
    refine va_get (D := (dC, dI)) (ci := 0) (v := .int ((q_1.2.1 8 0))) (C := rn_M) (T := fn_M) (N := 91) hx hb hg in_M hown hK hP 0 rfl rfl 8 (by decide) (hg _ wn_8_76) (fun _ h9 => h9) rfl dn_M_portGrammar_12 ?_
    refine lv_iconst (v := 1) hx hb dn_M_portGrammar_15 (by decide) ?_
    refine lv_iadd hx hb dn_M_portGrammar_16 ?_
    refine va_put (D := (dC, dI)) (ci := 0) (v := .int (((q_1.2.1 8 0) + 1))) (ty := .int) (C := rn_M) (T := fn_M) (N := 91) hx hb hg in_M tn_M tk_M nn_M hown hK hP hD hS 0 rfl rfl 8 (by decide) (hg _ wn_8_76) (fun _ h9 => h9) rfl (tk_M 8 (by decide)) rfl rfl (Nat.le_of_ble_eq_true rfl) dn_M_portGrammar_17 (fun H locs hP hD hS => ?_)
    have hP : va_P (dC, dI) xcl (wM h0 a cI cB cJ cZ (upI q_1.2 8 (fun _ => ((q_1.2.1 8 0) + 1)))) H := hP
    have hD : va_D A (wM h0 a cI cB cJ cZ (upI q_1.2 8 (fun _ => ((q_1.2.1 8 0) + 1)))) := hD
    refine lv_aload_n hx hb dn_M_portGrammar_20 rfl (lv_at hl 0 rfl) ?_
    obtain ⟨q_4, hc_5, hf⟩ := dc_b hf
    refine dc_callv (xk_runV (ar := 0) (As := []) (rest := []) (ci := 0) (q0 := 0) ⟨hx, hb, hml, hown, hg⟩ hK hN (ct_M_rangeGrammar l dC dI cI cB cJ cZ cQ H.size h0 a (upI q_1.2 8 (fun _ => ((q_1.2.1 8 0) + 1))) q_4 hc_5) hP hD rfl rfl wn_9_197 wn_9_199 sn_M_rangeGrammar wn_1_13 wn_9_200 rfl rfl (by decide +kernel) ⟨Nat.le_of_ble_eq_true rfl, Nat.le_of_ble_eq_true rfl⟩ rfl hl.1 rfl (Nat.le_of_ble_eq_true rfl) dn_M_portGrammar_21 ⟨Nat.le_of_ble_eq_true rfl, Nat.le_of_ble_eq_true rfl⟩) hP hD hS hA (fun _ H locs hw hP hD hS => ?_)
    refine lv_aload_n hx hb dn_M_portGrammar_24 rfl (lv_at hl 0 rfl) ?_
    refine lv_sipush (v := 400) hx hb dn_M_portGrammar_25 (by decide) ?_
    obtain ⟨q_6, hc_7, hf⟩ := dc_b hf
    refine dc_callv (xk_runV (ar := 1) (As := [.int 400]) (rest := []) (ci := 0) (q0 := 0) ⟨hx, hb, hml, hown, hg⟩ hK hN (ct_M_take l dC dI cI cB cJ cZ cQ H.size h0 a 400 q_4.2 q_6 hc_7) hP hD rfl rfl wn_9_173 wn_9_175 sn_M_take wn_1_13 wn_9_176 rfl rfl (by decide +kernel) ⟨Nat.le_of_ble_eq_true rfl, Nat.le_of_ble_eq_true rfl⟩ rfl hl.1 rfl (Nat.le_of_ble_eq_true rfl) dn_M_portGrammar_28 ⟨Nat.le_of_ble_eq_true rfl, Nat.le_of_ble_eq_true rfl⟩) hP hD hS hA (fun _ H locs hw hP hD hS => ?_)
    refine lv_goto (tgt := 90) hx hb dn_M_portGrammar_31 (by decide) ?_
    rw [hQQ, ← Option.some.inj hf]
    exact xk_vret (w1 := fun _ : Unit => (wM h0 a cI cB cJ cZ q_6.2)) () hx hb hr hlocks hK hS dn_M_portGrammar_90 hP hD trivial (Nat.le_refl _) (Nat.le_refl _)
def fn_M_kind (s : ms) : Option (Int32 × ms) :=
  if ((s.1 8 0) < 0 ∨ 65540 ≤ Int32.toNatClampNeg ((s.1 8 0))) then none else some (((s.1 4) (Int32.toNatClampNeg ((s.1 8 0)))), s)
set_option maxHeartbeats 8000000 in
set_option maxRecDepth 100000 in
theorem ct_M_kind (l : Launch) (dC : Nat → ClassId) (dI : Nat → Nat → Nat) (cI cB cJ cZ cQ : ClassId) (sz : Nat) (h0 : Nat) (a : Nat → Nat) (s : ms) (y : (Int32 × ms)) (hf : fn_M_kind s = some y) : Met l yn_M_kind (xw yn_M_kind bn_M_kind 1 (some .int)) ({ frames := 0, cells := 0, slots := 0, locals := 0 }) (xk_P (dC, dI) xcl (xt cI cB cJ cZ cQ) [.ref h0] sz (wM h0 a cI cB cJ cZ s)) (xk_Qi (dC, dI) xcl (xt cI cB cJ cZ cQ) (fun (r : Int32) (_ : Unit) => r = y.1) (fun _ : Unit => (wM h0 a cI cB cJ cZ y.2)) (va_A (wM h0 a cI cB cJ cZ s) sz)) 0 0 (va_A (wM h0 a cI cB cJ cZ s) sz) := by
  refine xk_of (QA := xk_Qi (dC, dI) xcl (xt cI cB cJ cZ cQ) (fun (r : Int32) (_ : Unit) => r = y.1) (fun _ : Unit => (wM h0 a cI cB cJ cZ y.2))) (by decide) (Nat.le_of_ble_eq_true rfl) ?_
  intro p e s0 m below meth c hx hb hml hown hg hr hlocks hin hP hK hN A hA hD hS ls hl
  have hown : s0.vm.findClass rn_M = some m.cls := hown
  obtain ⟨H, hH⟩ : ∃ z, z = s0.heap := ⟨_, rfl⟩
  rw [← hH] at hP
  have hS : va_S A s0.heap H [] := by rw [hH]; exact va_S.rf
  suffices kk : ∀ QQ : State → Prop, QQ = MQ below (xk_Qi (dC, dI) xcl (xt cI cB cJ cZ cQ) (fun (r : Int32) (_ : Unit) => r = y.1) (fun _ : Unit => (wM h0 a cI cB cJ cZ y.2)) A) [.ref h0].toArray s0 0 0 A → dcC p l e ({ frames := 0, cells := 0, slots := 0, locals := 0 }) s0 m [.ref h0].toArray below meth c QQ (dC, dI) A (wM h0 a cI cB cJ cZ s) 0 1 [(0, .ref h0)] [] by
    have k9 := kk _ rfl H [] ls hP hD hS hl
    rw [hH] at k9; exact k9
  clear hP hD hS hl hH H ls
  intro QQ hQQ
  intro H locs ls hP hD hS hl
  unfold fn_M_kind at hf
  refine lv_aload_n hx hb dn_M_kind_0 rfl (lv_at hl 0 rfl) ?_
  refine va_get (D := (dC, dI)) (ci := 0) (v := .ref ((a 4))) (C := rn_M) (T := fn_M) (N := 91) hx hb hg in_M hown hK hP 0 rfl rfl 4 (by decide) (hg _ wn_8_72) (fun _ h9 => h9) rfl dn_M_kind_1 ?_
  refine lv_aload_n hx hb dn_M_kind_4 rfl (lv_at hl 0 rfl) ?_
  refine va_get (D := (dC, dI)) (ci := 0) (v := .int ((s.1 8 0))) (C := rn_M) (T := fn_M) (N := 91) hx hb hg in_M hown hK hP 0 rfl rfl 8 (by decide) (hg _ wn_8_76) (fun _ h9 => h9) rfl dn_M_kind_5 ?_
  obtain ⟨hg_1, hf⟩ := dc_g hf
  refine va_iald hx hb hK hP 2 0 rfl rfl hg_1 dn_M_kind_8 ?_
  refine xk_ti (y := ((s.1 4) (Int32.toNatClampNeg ((s.1 8 0))))) rfl ?_
  rw [hQQ, ← Option.some.inj hf]
  exact xk_iret (w1 := fun _ : Unit => (wM h0 a cI cB cJ cZ s)) () hx hb hr hlocks hK hS dn_M_kind_9 hP hD rfl (Nat.le_refl _) (Nat.le_refl _)
def fn_M_isUnary (x0 : Int32) (s : ms) : Option (Int32 × ms) :=
  if x0 = 126 then (some (1, s)) else (if x0 = 33 then (some (1, s)) else (if x0 = 45 then (some (1, s)) else (if x0 = 38 then (some (1, s)) else (if x0 = 124 then (some (1, s)) else (if x0 = 94 then (some (1, s)) else (some (0, s)))))))
set_option maxHeartbeats 8000000 in
set_option maxRecDepth 100000 in
theorem ct_M_isUnary (l : Launch) (dC : Nat → ClassId) (dI : Nat → Nat → Nat) (cI cB cJ cZ cQ : ClassId) (sz : Nat) (h0 : Nat) (a : Nat → Nat) (x0 : Int32) (s : ms) (y : (Int32 × ms)) (hf : fn_M_isUnary x0 s = some y) : Met l yn_M_isUnary (xw yn_M_isUnary bn_M_isUnary 1 (some .boolean)) ({ frames := 0, cells := 0, slots := 0, locals := 0 }) (xk_P (dC, dI) xcl (xt cI cB cJ cZ cQ) [.int x0] sz (wM h0 a cI cB cJ cZ s)) (xk_Qi (dC, dI) xcl (xt cI cB cJ cZ cQ) (fun (r : Int32) (_ : Unit) => r = y.1) (fun _ : Unit => (wM h0 a cI cB cJ cZ y.2)) (va_A (wM h0 a cI cB cJ cZ s) sz)) 0 0 (va_A (wM h0 a cI cB cJ cZ s) sz) := by
  refine xk_of (QA := xk_Qi (dC, dI) xcl (xt cI cB cJ cZ cQ) (fun (r : Int32) (_ : Unit) => r = y.1) (fun _ : Unit => (wM h0 a cI cB cJ cZ y.2))) (by decide) (Nat.le_of_ble_eq_true rfl) ?_
  intro p e s0 m below meth c hx hb hml hown hg hr hlocks hin hP hK hN A hA hD hS ls hl
  have hown : s0.vm.findClass rn_M = some m.cls := hown
  obtain ⟨H, hH⟩ : ∃ z, z = s0.heap := ⟨_, rfl⟩
  rw [← hH] at hP
  have hS : va_S A s0.heap H [] := by rw [hH]; exact va_S.rf
  suffices kk : ∀ QQ : State → Prop, QQ = MQ below (xk_Qi (dC, dI) xcl (xt cI cB cJ cZ cQ) (fun (r : Int32) (_ : Unit) => r = y.1) (fun _ : Unit => (wM h0 a cI cB cJ cZ y.2)) A) [.int x0].toArray s0 0 0 A → dcC p l e ({ frames := 0, cells := 0, slots := 0, locals := 0 }) s0 m [.int x0].toArray below meth c QQ (dC, dI) A (wM h0 a cI cB cJ cZ s) 0 1 [(0, .int x0)] [] by
    have k9 := kk _ rfl H [] ls hP hD hS hl
    rw [hH] at k9; exact k9
  clear hP hD hS hl hH H ls
  intro QQ hQQ
  intro H locs ls hP hD hS hl
  unfold fn_M_isUnary at hf
  refine lv_iload_n hx hb dn_M_isUnary_0 rfl (lv_at hl 0 rfl) ?_
  refine lv_bipush (v := 126) hx hb dn_M_isUnary_1 (by decide) ?_
  refine lv_icmp_eq (tgt := 36) hx hb dn_M_isUnary_3 (by decide) (fun h => ?_) (fun h => ?_)
  · have hf := (if_pos h).symm.trans hf
    refine lv_iconst (v := 1) hx hb dn_M_isUnary_36 (by decide) ?_
    refine lv_goto (tgt := 41) hx hb dn_M_isUnary_37 (by decide) ?_
    rw [hQQ, ← Option.some.inj hf]
    exact xk_zret (w1 := fun _ : Unit => (wM h0 a cI cB cJ cZ s)) () hx hb hr rfl hlocks hK hS dn_M_isUnary_41 hP hD rfl (Nat.le_refl _) (Nat.le_refl _)
  · have hf := (if_neg h).symm.trans hf
    refine lv_iload_n hx hb dn_M_isUnary_6 rfl (lv_at hl 0 rfl) ?_
    refine lv_bipush (v := 33) hx hb dn_M_isUnary_7 (by decide) ?_
    refine lv_icmp_eq (tgt := 36) hx hb dn_M_isUnary_9 (by decide) (fun h => ?_) (fun h => ?_)
    · have hf := (if_pos h).symm.trans hf
      refine lv_iconst (v := 1) hx hb dn_M_isUnary_36 (by decide) ?_
      refine lv_goto (tgt := 41) hx hb dn_M_isUnary_37 (by decide) ?_
      rw [hQQ, ← Option.some.inj hf]
      exact xk_zret (w1 := fun _ : Unit => (wM h0 a cI cB cJ cZ s)) () hx hb hr rfl hlocks hK hS dn_M_isUnary_41 hP hD rfl (Nat.le_refl _) (Nat.le_refl _)
    · have hf := (if_neg h).symm.trans hf
      refine lv_iload_n hx hb dn_M_isUnary_12 rfl (lv_at hl 0 rfl) ?_
      refine lv_bipush (v := 45) hx hb dn_M_isUnary_13 (by decide) ?_
      refine lv_icmp_eq (tgt := 36) hx hb dn_M_isUnary_15 (by decide) (fun h => ?_) (fun h => ?_)
      · have hf := (if_pos h).symm.trans hf
        refine lv_iconst (v := 1) hx hb dn_M_isUnary_36 (by decide) ?_
        refine lv_goto (tgt := 41) hx hb dn_M_isUnary_37 (by decide) ?_
        rw [hQQ, ← Option.some.inj hf]
        exact xk_zret (w1 := fun _ : Unit => (wM h0 a cI cB cJ cZ s)) () hx hb hr rfl hlocks hK hS dn_M_isUnary_41 hP hD rfl (Nat.le_refl _) (Nat.le_refl _)
      · have hf := (if_neg h).symm.trans hf
        refine lv_iload_n hx hb dn_M_isUnary_18 rfl (lv_at hl 0 rfl) ?_
        refine lv_bipush (v := 38) hx hb dn_M_isUnary_19 (by decide) ?_
        refine lv_icmp_eq (tgt := 36) hx hb dn_M_isUnary_21 (by decide) (fun h => ?_) (fun h => ?_)
        · have hf := (if_pos h).symm.trans hf
          refine lv_iconst (v := 1) hx hb dn_M_isUnary_36 (by decide) ?_
          refine lv_goto (tgt := 41) hx hb dn_M_isUnary_37 (by decide) ?_
          rw [hQQ, ← Option.some.inj hf]
          exact xk_zret (w1 := fun _ : Unit => (wM h0 a cI cB cJ cZ s)) () hx hb hr rfl hlocks hK hS dn_M_isUnary_41 hP hD rfl (Nat.le_refl _) (Nat.le_refl _)
        · have hf := (if_neg h).symm.trans hf
          refine lv_iload_n hx hb dn_M_isUnary_24 rfl (lv_at hl 0 rfl) ?_
          refine lv_bipush (v := 124) hx hb dn_M_isUnary_25 (by decide) ?_
          refine lv_icmp_eq (tgt := 36) hx hb dn_M_isUnary_27 (by decide) (fun h => ?_) (fun h => ?_)
          · have hf := (if_pos h).symm.trans hf
            refine lv_iconst (v := 1) hx hb dn_M_isUnary_36 (by decide) ?_
            refine lv_goto (tgt := 41) hx hb dn_M_isUnary_37 (by decide) ?_
            rw [hQQ, ← Option.some.inj hf]
            exact xk_zret (w1 := fun _ : Unit => (wM h0 a cI cB cJ cZ s)) () hx hb hr rfl hlocks hK hS dn_M_isUnary_41 hP hD rfl (Nat.le_refl _) (Nat.le_refl _)
          · have hf := (if_neg h).symm.trans hf
            refine lv_iload_n hx hb dn_M_isUnary_30 rfl (lv_at hl 0 rfl) ?_
            refine lv_bipush (v := 94) hx hb dn_M_isUnary_31 (by decide) ?_
            refine lv_icmp_ne (tgt := 40) hx hb dn_M_isUnary_33 (by decide) (fun h => ?_) (fun h => ?_)
            · have hf := (if_neg h).symm.trans hf
              refine lv_iconst (v := 0) hx hb dn_M_isUnary_40 (by decide) ?_
              rw [hQQ, ← Option.some.inj hf]
              exact xk_zret (w1 := fun _ : Unit => (wM h0 a cI cB cJ cZ s)) () hx hb hr rfl hlocks hK hS dn_M_isUnary_41 hP hD rfl (Nat.le_refl _) (Nat.le_refl _)
            · have hf := (if_pos h).symm.trans hf
              refine lv_iconst (v := 1) hx hb dn_M_isUnary_36 (by decide) ?_
              refine lv_goto (tgt := 41) hx hb dn_M_isUnary_37 (by decide) ?_
              rw [hQQ, ← Option.some.inj hf]
              exact xk_zret (w1 := fun _ : Unit => (wM h0 a cI cB cJ cZ s)) () hx hb hr rfl hlocks hK hS dn_M_isUnary_41 hP hD rfl (Nat.le_refl _) (Nat.le_refl _)
def fn_M_partGrammar (s : ms) : Option (Unit × ms) :=
  (fn_M_take 401 s).bind (fun q_1 => (fn_M_is 58 q_1.2).bind (fun q_3 => if q_3.1 = 0 then (some ((), q_3.2)) else ((fn_M_take 401 (upI q_3.2 8 (fun _ => ((q_3.2.1 8 0) + 1)))).bind (fun q_6 => some ((), q_6.2)))))
set_option maxHeartbeats 8000000 in
set_option maxRecDepth 100000 in
theorem ct_M_partGrammar (l : Launch) (dC : Nat → ClassId) (dI : Nat → Nat → Nat) (cI cB cJ cZ cQ : ClassId) (sz : Nat) (h0 : Nat) (a : Nat → Nat) (s : ms) (y : (Unit × ms)) (hf : fn_M_partGrammar s = some y) : Met l yn_M_partGrammar (xw yn_M_partGrammar bn_M_partGrammar 1 none) ({ frames := 3, cells := 0, slots := 0, locals := 63 }) (xk_P (dC, dI) xcl (xt cI cB cJ cZ cQ) [.ref h0] sz (wM h0 a cI cB cJ cZ s)) (xk_Qv (dC, dI) xcl (xt cI cB cJ cZ cQ) (fun _ : Unit => True) (fun _ : Unit => (wM h0 a cI cB cJ cZ y.2)) (va_A (wM h0 a cI cB cJ cZ s) sz)) 0 0 (va_A (wM h0 a cI cB cJ cZ s) sz) := by
  refine xk_of (QA := xk_Qv (dC, dI) xcl (xt cI cB cJ cZ cQ) (fun _ : Unit => True) (fun _ : Unit => (wM h0 a cI cB cJ cZ y.2))) (by decide) (Nat.le_of_ble_eq_true rfl) ?_
  intro p e s0 m below meth c hx hb hml hown hg hr hlocks hin hP hK hN A hA hD hS ls hl
  have hown : s0.vm.findClass rn_M = some m.cls := hown
  obtain ⟨H, hH⟩ : ∃ z, z = s0.heap := ⟨_, rfl⟩
  rw [← hH] at hP
  have hS : va_S A s0.heap H [] := by rw [hH]; exact va_S.rf
  suffices kk : ∀ QQ : State → Prop, QQ = MQ below (xk_Qv (dC, dI) xcl (xt cI cB cJ cZ cQ) (fun _ : Unit => True) (fun _ : Unit => (wM h0 a cI cB cJ cZ y.2)) A) [.ref h0].toArray s0 0 0 A → dcC p l e ({ frames := 3, cells := 0, slots := 0, locals := 63 }) s0 m [.ref h0].toArray below meth c QQ (dC, dI) A (wM h0 a cI cB cJ cZ s) 0 1 [(0, .ref h0)] [] by
    have k9 := kk _ rfl H [] ls hP hD hS hl
    rw [hH] at k9; exact k9
  clear hP hD hS hl hH H ls
  intro QQ hQQ
  intro H locs ls hP hD hS hl
  unfold fn_M_partGrammar at hf
  refine lv_aload_n hx hb dn_M_partGrammar_0 rfl (lv_at hl 0 rfl) ?_
  refine lv_sipush (v := 401) hx hb dn_M_partGrammar_1 (by decide) ?_
  obtain ⟨q_1, hc_2, hf⟩ := dc_b hf
  refine dc_callv (xk_runV (ar := 1) (As := [.int 401]) (rest := []) (ci := 0) (q0 := 0) ⟨hx, hb, hml, hown, hg⟩ hK hN (ct_M_take l dC dI cI cB cJ cZ cQ H.size h0 a 401 s q_1 hc_2) hP hD rfl rfl wn_9_173 wn_9_175 sn_M_take wn_1_13 wn_9_176 rfl rfl (by decide +kernel) ⟨Nat.le_of_ble_eq_true rfl, Nat.le_of_ble_eq_true rfl⟩ rfl hl.1 rfl (Nat.le_of_ble_eq_true rfl) dn_M_partGrammar_4 ⟨Nat.le_of_ble_eq_true rfl, Nat.le_of_ble_eq_true rfl⟩) hP hD hS hA (fun _ H locs hw hP hD hS => ?_)
  refine lv_aload_n hx hb dn_M_partGrammar_7 rfl (lv_at hl 0 rfl) ?_
  refine lv_bipush (v := 58) hx hb dn_M_partGrammar_8 (by decide) ?_
  obtain ⟨q_3, hc_4, hf⟩ := dc_b hf
  refine dc_calli (xk_runV (ar := 1) (As := [.int 58]) (rest := []) (ci := 0) (q0 := 0) ⟨hx, hb, hml, hown, hg⟩ hK hN (ct_M_is l dC dI cI cB cJ cZ cQ H.size h0 a 58 q_1.2 q_3 hc_4) hP hD rfl rfl wn_9_189 wn_9_191 sn_M_is wn_1_13 wn_9_192 rfl rfl (by decide +kernel) ⟨Nat.le_of_ble_eq_true rfl, Nat.le_of_ble_eq_true rfl⟩ rfl hl.1 rfl (Nat.le_of_ble_eq_true rfl) dn_M_partGrammar_10 ⟨Nat.le_of_ble_eq_true rfl, Nat.le_of_ble_eq_true rfl⟩) hP hD hS hA (fun r_5 _ H locs hw hP hD hS => ?_)
  have hw : r_5 = q_3.1 := hw
  subst hw
  refine lv_if_eq (tgt := 33) hx hb dn_M_partGrammar_13 (by decide) (fun h => ?_) (fun h => ?_)
  · have hf := (if_pos h).symm.trans hf
    rw [hQQ, ← Option.some.inj hf]
    exact xk_vret (w1 := fun _ : Unit => (wM h0 a cI cB cJ cZ q_3.2)) () hx hb hr hlocks hK hS dn_M_partGrammar_33 hP hD trivial (Nat.le_refl _) (Nat.le_refl _)
  · have hf := (if_neg h).symm.trans hf
    refine lv_aload_n hx hb dn_M_partGrammar_16 rfl (lv_at hl 0 rfl) ?_
    refine lv_dup hx hb dn_M_partGrammar_17 rfl ?_
    refine va_get (D := (dC, dI)) (ci := 0) (v := .int ((q_3.2.1 8 0))) (C := rn_M) (T := fn_M) (N := 91) hx hb hg in_M hown hK hP 0 rfl rfl 8 (by decide) (hg _ wn_8_76) (fun _ h9 => h9) rfl dn_M_partGrammar_18 ?_
    refine lv_iconst (v := 1) hx hb dn_M_partGrammar_21 (by decide) ?_
    refine lv_iadd hx hb dn_M_partGrammar_22 ?_
    refine va_put (D := (dC, dI)) (ci := 0) (v := .int (((q_3.2.1 8 0) + 1))) (ty := .int) (C := rn_M) (T := fn_M) (N := 91) hx hb hg in_M tn_M tk_M nn_M hown hK hP hD hS 0 rfl rfl 8 (by decide) (hg _ wn_8_76) (fun _ h9 => h9) rfl (tk_M 8 (by decide)) rfl rfl (Nat.le_of_ble_eq_true rfl) dn_M_partGrammar_23 (fun H locs hP hD hS => ?_)
    have hP : va_P (dC, dI) xcl (wM h0 a cI cB cJ cZ (upI q_3.2 8 (fun _ => ((q_3.2.1 8 0) + 1)))) H := hP
    have hD : va_D A (wM h0 a cI cB cJ cZ (upI q_3.2 8 (fun _ => ((q_3.2.1 8 0) + 1)))) := hD
    refine lv_aload_n hx hb dn_M_partGrammar_26 rfl (lv_at hl 0 rfl) ?_
    refine lv_sipush (v := 401) hx hb dn_M_partGrammar_27 (by decide) ?_
    obtain ⟨q_6, hc_7, hf⟩ := dc_b hf
    refine dc_callv (xk_runV (ar := 1) (As := [.int 401]) (rest := []) (ci := 0) (q0 := 0) ⟨hx, hb, hml, hown, hg⟩ hK hN (ct_M_take l dC dI cI cB cJ cZ cQ H.size h0 a 401 (upI q_3.2 8 (fun _ => ((q_3.2.1 8 0) + 1))) q_6 hc_7) hP hD rfl rfl wn_9_173 wn_9_175 sn_M_take wn_1_13 wn_9_176 rfl rfl (by decide +kernel) ⟨Nat.le_of_ble_eq_true rfl, Nat.le_of_ble_eq_true rfl⟩ rfl hl.1 rfl (Nat.le_of_ble_eq_true rfl) dn_M_partGrammar_30 ⟨Nat.le_of_ble_eq_true rfl, Nat.le_of_ble_eq_true rfl⟩) hP hD hS hA (fun _ H locs hw hP hD hS => ?_)
    rw [hQQ, ← Option.some.inj hf]
    exact xk_vret (w1 := fun _ : Unit => (wM h0 a cI cB cJ cZ q_6.2)) () hx hb hr hlocks hK hS dn_M_partGrammar_33 hP hD trivial (Nat.le_refl _) (Nat.le_refl _)
def fn_M_rank (x0 : Int32) (s : ms) : Option (Int32 × ms) :=
  if x0 = 38 then (some (5, s)) else (if x0 = 42 then (some (10, s)) else (if x0 = 43 then (some (9, s)) else (if x0 = 45 then (some (9, s)) else (if x0 = 60 then (some (7, s)) else (if x0 = 62 then (some (7, s)) else (if x0 = 94 then (some (4, s)) else (if x0 = 124 then (some (3, s)) else (if x0 = 256 then (some (2, s)) else (if x0 = 257 then (some (1, s)) else (if x0 = 258 then (some (6, s)) else (if x0 = 259 then (some (6, s)) else (if x0 = 260 then (some (7, s)) else (if x0 = 261 then (some (7, s)) else (if x0 = 262 then (some (8, s)) else (if x0 = 263 then (some (8, s)) else (some (0, s)))))))))))))))))
set_option maxHeartbeats 8000000 in
set_option maxRecDepth 100000 in
theorem ct_M_rank (l : Launch) (dC : Nat → ClassId) (dI : Nat → Nat → Nat) (cI cB cJ cZ cQ : ClassId) (sz : Nat) (h0 : Nat) (a : Nat → Nat) (x0 : Int32) (s : ms) (y : (Int32 × ms)) (hf : fn_M_rank x0 s = some y) : Met l yn_M_rank (xw yn_M_rank bn_M_rank 1 (some .int)) ({ frames := 0, cells := 0, slots := 0, locals := 0 }) (xk_P (dC, dI) xcl (xt cI cB cJ cZ cQ) [.int x0] sz (wM h0 a cI cB cJ cZ s)) (xk_Qi (dC, dI) xcl (xt cI cB cJ cZ cQ) (fun (r : Int32) (_ : Unit) => r = y.1) (fun _ : Unit => (wM h0 a cI cB cJ cZ y.2)) (va_A (wM h0 a cI cB cJ cZ s) sz)) 0 0 (va_A (wM h0 a cI cB cJ cZ s) sz) := by
  refine xk_of (QA := xk_Qi (dC, dI) xcl (xt cI cB cJ cZ cQ) (fun (r : Int32) (_ : Unit) => r = y.1) (fun _ : Unit => (wM h0 a cI cB cJ cZ y.2))) (by decide) (Nat.le_of_ble_eq_true rfl) ?_
  intro p e s0 m below meth c hx hb hml hown hg hr hlocks hin hP hK hN A hA hD hS ls hl
  have hown : s0.vm.findClass rn_M = some m.cls := hown
  obtain ⟨H, hH⟩ : ∃ z, z = s0.heap := ⟨_, rfl⟩
  rw [← hH] at hP
  have hS : va_S A s0.heap H [] := by rw [hH]; exact va_S.rf
  suffices kk : ∀ QQ : State → Prop, QQ = MQ below (xk_Qi (dC, dI) xcl (xt cI cB cJ cZ cQ) (fun (r : Int32) (_ : Unit) => r = y.1) (fun _ : Unit => (wM h0 a cI cB cJ cZ y.2)) A) [.int x0].toArray s0 0 0 A → dcC p l e ({ frames := 0, cells := 0, slots := 0, locals := 0 }) s0 m [.int x0].toArray below meth c QQ (dC, dI) A (wM h0 a cI cB cJ cZ s) 0 1 [(0, .int x0)] [] by
    have k9 := kk _ rfl H [] ls hP hD hS hl
    rw [hH] at k9; exact k9
  clear hP hD hS hl hH H ls
  intro QQ hQQ
  intro H locs ls hP hD hS hl
  unfold fn_M_rank at hf
  refine lv_iload_n hx hb dn_M_rank_0 rfl (lv_at hl 0 rfl) ?_
  by_cases h_0 : x0 = 38
  · have hf := (if_pos h_0).symm.trans hf
    refine xk_ti (y := 38) h_0 ?_
    refine lv_lookup (off := 147) (tgt := 148) hx hb dn_M_rank_1 (by decide) (by decide) (by decide) ?_
    refine lv_iconst (v := 5) hx hb dn_M_rank_148 (by decide) ?_
    rw [hQQ, ← Option.some.inj hf]
    exact xk_iret (w1 := fun _ : Unit => (wM h0 a cI cB cJ cZ s)) () hx hb hr hlocks hK hS dn_M_rank_149 hP hD rfl (Nat.le_refl _) (Nat.le_refl _)
  have hf := (if_neg h_0).symm.trans hf
  by_cases h_1 : x0 = 42
  · have hf := (if_pos h_1).symm.trans hf
    refine xk_ti (y := 42) h_1 ?_
    refine lv_lookup (off := 161) (tgt := 162) hx hb dn_M_rank_1 (by decide) (by decide) (by decide) ?_
    refine lv_bipush (v := 10) hx hb dn_M_rank_162 (by decide) ?_
    rw [hQQ, ← Option.some.inj hf]
    exact xk_iret (w1 := fun _ : Unit => (wM h0 a cI cB cJ cZ s)) () hx hb hr hlocks hK hS dn_M_rank_164 hP hD rfl (Nat.le_refl _) (Nat.le_refl _)
  have hf := (if_neg h_1).symm.trans hf
  by_cases h_2 : x0 = 43
  · have hf := (if_pos h_2).symm.trans hf
    refine xk_ti (y := 43) h_2 ?_
    refine lv_lookup (off := 158) (tgt := 159) hx hb dn_M_rank_1 (by decide) (by decide) (by decide) ?_
    refine lv_bipush (v := 9) hx hb dn_M_rank_159 (by decide) ?_
    rw [hQQ, ← Option.some.inj hf]
    exact xk_iret (w1 := fun _ : Unit => (wM h0 a cI cB cJ cZ s)) () hx hb hr hlocks hK hS dn_M_rank_161 hP hD rfl (Nat.le_refl _) (Nat.le_refl _)
  have hf := (if_neg h_2).symm.trans hf
  by_cases h_3 : x0 = 45
  · have hf := (if_pos h_3).symm.trans hf
    refine xk_ti (y := 45) h_3 ?_
    refine lv_lookup (off := 158) (tgt := 159) hx hb dn_M_rank_1 (by decide) (by decide) (by decide) ?_
    refine lv_bipush (v := 9) hx hb dn_M_rank_159 (by decide) ?_
    rw [hQQ, ← Option.some.inj hf]
    exact xk_iret (w1 := fun _ : Unit => (wM h0 a cI cB cJ cZ s)) () hx hb hr hlocks hK hS dn_M_rank_161 hP hD rfl (Nat.le_refl _) (Nat.le_refl _)
  have hf := (if_neg h_3).symm.trans hf
  by_cases h_4 : x0 = 60
  · have hf := (if_pos h_4).symm.trans hf
    refine xk_ti (y := 60) h_4 ?_
    refine lv_lookup (off := 152) (tgt := 153) hx hb dn_M_rank_1 (by decide) (by decide) (by decide) ?_
    refine lv_bipush (v := 7) hx hb dn_M_rank_153 (by decide) ?_
    rw [hQQ, ← Option.some.inj hf]
    exact xk_iret (w1 := fun _ : Unit => (wM h0 a cI cB cJ cZ s)) () hx hb hr hlocks hK hS dn_M_rank_155 hP hD rfl (Nat.le_refl _) (Nat.le_refl _)
  have hf := (if_neg h_4).symm.trans hf
  by_cases h_5 : x0 = 62
  · have hf := (if_pos h_5).symm.trans hf
    refine xk_ti (y := 62) h_5 ?_
    refine lv_lookup (off := 152) (tgt := 153) hx hb dn_M_rank_1 (by decide) (by decide) (by decide) ?_
    refine lv_bipush (v := 7) hx hb dn_M_rank_153 (by decide) ?_
    rw [hQQ, ← Option.some.inj hf]
    exact xk_iret (w1 := fun _ : Unit => (wM h0 a cI cB cJ cZ s)) () hx hb hr hlocks hK hS dn_M_rank_155 hP hD rfl (Nat.le_refl _) (Nat.le_refl _)
  have hf := (if_neg h_5).symm.trans hf
  by_cases h_6 : x0 = 94
  · have hf := (if_pos h_6).symm.trans hf
    refine xk_ti (y := 94) h_6 ?_
    refine lv_lookup (off := 145) (tgt := 146) hx hb dn_M_rank_1 (by decide) (by decide) (by decide) ?_
    refine lv_iconst (v := 4) hx hb dn_M_rank_146 (by decide) ?_
    rw [hQQ, ← Option.some.inj hf]
    exact xk_iret (w1 := fun _ : Unit => (wM h0 a cI cB cJ cZ s)) () hx hb hr hlocks hK hS dn_M_rank_147 hP hD rfl (Nat.le_refl _) (Nat.le_refl _)
  have hf := (if_neg h_6).symm.trans hf
  by_cases h_7 : x0 = 124
  · have hf := (if_pos h_7).symm.trans hf
    refine xk_ti (y := 124) h_7 ?_
    refine lv_lookup (off := 143) (tgt := 144) hx hb dn_M_rank_1 (by decide) (by decide) (by decide) ?_
    refine lv_iconst (v := 3) hx hb dn_M_rank_144 (by decide) ?_
    rw [hQQ, ← Option.some.inj hf]
    exact xk_iret (w1 := fun _ : Unit => (wM h0 a cI cB cJ cZ s)) () hx hb hr hlocks hK hS dn_M_rank_145 hP hD rfl (Nat.le_refl _) (Nat.le_refl _)
  have hf := (if_neg h_7).symm.trans hf
  by_cases h_8 : x0 = 256
  · have hf := (if_pos h_8).symm.trans hf
    refine xk_ti (y := 256) h_8 ?_
    refine lv_lookup (off := 141) (tgt := 142) hx hb dn_M_rank_1 (by decide) (by decide) (by decide) ?_
    refine lv_iconst (v := 2) hx hb dn_M_rank_142 (by decide) ?_
    rw [hQQ, ← Option.some.inj hf]
    exact xk_iret (w1 := fun _ : Unit => (wM h0 a cI cB cJ cZ s)) () hx hb hr hlocks hK hS dn_M_rank_143 hP hD rfl (Nat.le_refl _) (Nat.le_refl _)
  have hf := (if_neg h_8).symm.trans hf
  by_cases h_9 : x0 = 257
  · have hf := (if_pos h_9).symm.trans hf
    refine xk_ti (y := 257) h_9 ?_
    refine lv_lookup (off := 139) (tgt := 140) hx hb dn_M_rank_1 (by decide) (by decide) (by decide) ?_
    refine lv_iconst (v := 1) hx hb dn_M_rank_140 (by decide) ?_
    rw [hQQ, ← Option.some.inj hf]
    exact xk_iret (w1 := fun _ : Unit => (wM h0 a cI cB cJ cZ s)) () hx hb hr hlocks hK hS dn_M_rank_141 hP hD rfl (Nat.le_refl _) (Nat.le_refl _)
  have hf := (if_neg h_9).symm.trans hf
  by_cases h_10 : x0 = 258
  · have hf := (if_pos h_10).symm.trans hf
    refine xk_ti (y := 258) h_10 ?_
    refine lv_lookup (off := 149) (tgt := 150) hx hb dn_M_rank_1 (by decide) (by decide) (by decide) ?_
    refine lv_bipush (v := 6) hx hb dn_M_rank_150 (by decide) ?_
    rw [hQQ, ← Option.some.inj hf]
    exact xk_iret (w1 := fun _ : Unit => (wM h0 a cI cB cJ cZ s)) () hx hb hr hlocks hK hS dn_M_rank_152 hP hD rfl (Nat.le_refl _) (Nat.le_refl _)
  have hf := (if_neg h_10).symm.trans hf
  by_cases h_11 : x0 = 259
  · have hf := (if_pos h_11).symm.trans hf
    refine xk_ti (y := 259) h_11 ?_
    refine lv_lookup (off := 149) (tgt := 150) hx hb dn_M_rank_1 (by decide) (by decide) (by decide) ?_
    refine lv_bipush (v := 6) hx hb dn_M_rank_150 (by decide) ?_
    rw [hQQ, ← Option.some.inj hf]
    exact xk_iret (w1 := fun _ : Unit => (wM h0 a cI cB cJ cZ s)) () hx hb hr hlocks hK hS dn_M_rank_152 hP hD rfl (Nat.le_refl _) (Nat.le_refl _)
  have hf := (if_neg h_11).symm.trans hf
  by_cases h_12 : x0 = 260
  · have hf := (if_pos h_12).symm.trans hf
    refine xk_ti (y := 260) h_12 ?_
    refine lv_lookup (off := 152) (tgt := 153) hx hb dn_M_rank_1 (by decide) (by decide) (by decide) ?_
    refine lv_bipush (v := 7) hx hb dn_M_rank_153 (by decide) ?_
    rw [hQQ, ← Option.some.inj hf]
    exact xk_iret (w1 := fun _ : Unit => (wM h0 a cI cB cJ cZ s)) () hx hb hr hlocks hK hS dn_M_rank_155 hP hD rfl (Nat.le_refl _) (Nat.le_refl _)
  have hf := (if_neg h_12).symm.trans hf
  by_cases h_13 : x0 = 261
  · have hf := (if_pos h_13).symm.trans hf
    refine xk_ti (y := 261) h_13 ?_
    refine lv_lookup (off := 152) (tgt := 153) hx hb dn_M_rank_1 (by decide) (by decide) (by decide) ?_
    refine lv_bipush (v := 7) hx hb dn_M_rank_153 (by decide) ?_
    rw [hQQ, ← Option.some.inj hf]
    exact xk_iret (w1 := fun _ : Unit => (wM h0 a cI cB cJ cZ s)) () hx hb hr hlocks hK hS dn_M_rank_155 hP hD rfl (Nat.le_refl _) (Nat.le_refl _)
  have hf := (if_neg h_13).symm.trans hf
  by_cases h_14 : x0 = 262
  · have hf := (if_pos h_14).symm.trans hf
    refine xk_ti (y := 262) h_14 ?_
    refine lv_lookup (off := 155) (tgt := 156) hx hb dn_M_rank_1 (by decide) (by decide) (by decide) ?_
    refine lv_bipush (v := 8) hx hb dn_M_rank_156 (by decide) ?_
    rw [hQQ, ← Option.some.inj hf]
    exact xk_iret (w1 := fun _ : Unit => (wM h0 a cI cB cJ cZ s)) () hx hb hr hlocks hK hS dn_M_rank_158 hP hD rfl (Nat.le_refl _) (Nat.le_refl _)
  have hf := (if_neg h_14).symm.trans hf
  by_cases h_15 : x0 = 263
  · have hf := (if_pos h_15).symm.trans hf
    refine xk_ti (y := 263) h_15 ?_
    refine lv_lookup (off := 155) (tgt := 156) hx hb dn_M_rank_1 (by decide) (by decide) (by decide) ?_
    refine lv_bipush (v := 8) hx hb dn_M_rank_156 (by decide) ?_
    rw [hQQ, ← Option.some.inj hf]
    exact xk_iret (w1 := fun _ : Unit => (wM h0 a cI cB cJ cZ s)) () hx hb hr hlocks hK hS dn_M_rank_158 hP hD rfl (Nat.le_refl _) (Nat.le_refl _)
  have hf := (if_neg h_15).symm.trans hf
  refine lv_lookup (off := 164) (tgt := 165) hx hb dn_M_rank_1 (by decide) (by rw [lv_osw h_0 (by decide)]; rw [lv_osw h_1 (by decide)]; rw [lv_osw h_2 (by decide)]; rw [lv_osw h_3 (by decide)]; rw [lv_osw h_4 (by decide)]; rw [lv_osw h_5 (by decide)]; rw [lv_osw h_6 (by decide)]; rw [lv_osw h_7 (by decide)]; rw [lv_osw h_8 (by decide)]; rw [lv_osw h_9 (by decide)]; rw [lv_osw h_10 (by decide)]; rw [lv_osw h_11 (by decide)]; rw [lv_osw h_12 (by decide)]; rw [lv_osw h_13 (by decide)]; rw [lv_osw h_14 (by decide)]; rw [lv_osw h_15 (by decide)]; rfl) (by decide) ?_
  refine lv_iconst (v := 0) hx hb dn_M_rank_165 (by decide) ?_
  rw [hQQ, ← Option.some.inj hf]
  exact xk_iret (w1 := fun _ : Unit => (wM h0 a cI cB cJ cZ s)) () hx hb hr hlocks hK hS dn_M_rank_166 hP hD rfl (Nat.le_refl _) (Nat.le_refl _)
def bd_M_sameToken_38 (k_38 : Int32 → Int32 → Int32 → Int32 → ms → Option (Int32 × ms)) (x1 : Int32) (x2 : Int32) (x3 : Int32) (x4 : Int32) (s : ms) : Option (Int32 × ms) :=
  if x3 = 0 then (if ¬ (vp_nar .boolean x3 = x3) then none else some (x3, s)) else (if (x1 < 0 ∨ 65540 ≤ Int32.toNatClampNeg x1) then none else if (x1 < 0 ∨ 65540 ≤ Int32.toNatClampNeg x1) then none else if (((s.1 6) (Int32.toNatClampNeg x1)) - ((s.1 5) (Int32.toNatClampNeg x1))) ≤ x4 then (if ¬ (vp_nar .boolean x3 = x3) then none else some (x3, s)) else (if (x1 < 0 ∨ 65540 ≤ Int32.toNatClampNeg x1) then none else if ((((s.1 5) (Int32.toNatClampNeg x1)) + x4) < 0 ∨ 65536 ≤ Int32.toNatClampNeg ((((s.1 5) (Int32.toNatClampNeg x1)) + x4))) then none else if (x2 < 0 ∨ 65540 ≤ Int32.toNatClampNeg x2) then none else if ((((s.1 5) (Int32.toNatClampNeg x2)) + x4) < 0 ∨ 65536 ≤ Int32.toNatClampNeg ((((s.1 5) (Int32.toNatClampNeg x2)) + x4))) then none else if ((s.1 90) (Int32.toNatClampNeg ((((s.1 5) (Int32.toNatClampNeg x1)) + x4)))) = ((s.1 90) (Int32.toNatClampNeg ((((s.1 5) (Int32.toNatClampNeg x2)) + x4)))) then (k_38 x1 x2 1 ((x4 + 1)) s) else (k_38 x1 x2 0 ((x4 + 1)) s)))
def hd_M_sameToken_38 : Nat → Int32 → Int32 → Int32 → Int32 → ms → Option (Int32 × ms)
  | 0, _, _, _, _, _ => none
  | n + 1, x1, x2, x3, x4, s => bd_M_sameToken_38 (hd_M_sameToken_38 n) x1 x2 x3 x4 s
def fn_M_sameToken (x1 : Int32) (x2 : Int32) (s : ms) : Option (Int32 × ms) :=
  if (x1 < 0 ∨ 65540 ≤ Int32.toNatClampNeg x1) then none else if (x1 < 0 ∨ 65540 ≤ Int32.toNatClampNeg x1) then none else if (x2 < 0 ∨ 65540 ≤ Int32.toNatClampNeg x2) then none else if (x2 < 0 ∨ 65540 ≤ Int32.toNatClampNeg x2) then none else if (((s.1 6) (Int32.toNatClampNeg x1)) - ((s.1 5) (Int32.toNatClampNeg x1))) = (((s.1 6) (Int32.toNatClampNeg x2)) - ((s.1 5) (Int32.toNatClampNeg x2))) then (hd_M_sameToken_38 dc_N x1 x2 1 0 s) else (hd_M_sameToken_38 dc_N x1 x2 0 0 s)
set_option maxHeartbeats 8000000 in
set_option maxRecDepth 100000 in
theorem ct_M_sameToken (l : Launch) (dC : Nat → ClassId) (dI : Nat → Nat → Nat) (cI cB cJ cZ cQ : ClassId) (sz : Nat) (h0 : Nat) (a : Nat → Nat) (x1 : Int32) (x2 : Int32) (s : ms) (y : (Int32 × ms)) (hf : fn_M_sameToken x1 x2 s = some y) : Met l yn_M_sameToken (xw yn_M_sameToken bn_M_sameToken 5 (some .boolean)) ({ frames := 0, cells := 0, slots := 0, locals := 0 }) (xk_P (dC, dI) xcl (xt cI cB cJ cZ cQ) [.ref h0, .int x1, .int x2] sz (wM h0 a cI cB cJ cZ s)) (xk_Qi (dC, dI) xcl (xt cI cB cJ cZ cQ) (fun (r : Int32) (_ : Unit) => r = y.1) (fun _ : Unit => (wM h0 a cI cB cJ cZ y.2)) (va_A (wM h0 a cI cB cJ cZ s) sz)) 0 0 (va_A (wM h0 a cI cB cJ cZ s) sz) := by
  refine xk_of (QA := xk_Qi (dC, dI) xcl (xt cI cB cJ cZ cQ) (fun (r : Int32) (_ : Unit) => r = y.1) (fun _ : Unit => (wM h0 a cI cB cJ cZ y.2))) (by decide) (Nat.le_of_ble_eq_true rfl) ?_
  intro p e s0 m below meth c hx hb hml hown hg hr hlocks hin hP hK hN A hA hD hS ls hl
  have hown : s0.vm.findClass rn_M = some m.cls := hown
  obtain ⟨H, hH⟩ : ∃ z, z = s0.heap := ⟨_, rfl⟩
  rw [← hH] at hP
  have hS : va_S A s0.heap H [] := by rw [hH]; exact va_S.rf
  suffices kk : ∀ QQ : State → Prop, QQ = MQ below (xk_Qi (dC, dI) xcl (xt cI cB cJ cZ cQ) (fun (r : Int32) (_ : Unit) => r = y.1) (fun _ : Unit => (wM h0 a cI cB cJ cZ y.2)) A) [.ref h0, .int x1, .int x2].toArray s0 0 0 A → dcC p l e ({ frames := 0, cells := 0, slots := 0, locals := 0 }) s0 m [.ref h0, .int x1, .int x2].toArray below meth c QQ (dC, dI) A (wM h0 a cI cB cJ cZ s) 0 5 [(0, .ref h0), (1, .int x1), (2, .int x2)] [] by
    have k9 := kk _ rfl H [] ls hP hD hS hl
    rw [hH] at k9; exact k9
  clear hP hD hS hl hH H ls
  intro QQ hQQ
  have hd_38 : ∀ (n : Nat) (x1 : Int32) (x2 : Int32) (x3 : Int32) (x4 : Int32) (s : ms), hd_M_sameToken_38 n x1 x2 x3 x4 s = some y → dcC p l e ({ frames := 0, cells := 0, slots := 0, locals := 0 }) s0 m [.ref h0, .int x1, .int x2].toArray below meth c QQ (dC, dI) A (wM h0 a cI cB cJ cZ s) 38 5 [(0, .ref h0), (1, .int x1), (2, .int x2), (3, .int x3), (4, .int x4)] [] := by
    intro n
    induction n with
    | zero => intro x1 x2 x3 x4 s hf; cases hf
    | succ n ih =>
      intro x1 x2 x3 x4 s hf H locs ls hP hD hS hl
      have hf : bd_M_sameToken_38 (hd_M_sameToken_38 n) x1 x2 x3 x4 s = some y := hf
      have hk_38 := ih
      generalize hd_M_sameToken_38 n = k_38 at hf hk_38
      unfold bd_M_sameToken_38 at hf
      refine lv_iload_n hx hb dn_M_sameToken_38 rfl (lv_at hl 3 rfl) ?_
      refine lv_if_eq (tgt := 103) hx hb dn_M_sameToken_39 (by decide) (fun h => ?_) (fun h => ?_)
      · have hf := (if_pos h).symm.trans hf
        refine lv_iload_n hx hb dn_M_sameToken_103 rfl (lv_at hl 3 rfl) ?_
        obtain ⟨hg_1, hf⟩ := dc_g hf
        rw [hQQ, ← Option.some.inj hf]
        exact xk_zret (w1 := fun _ : Unit => (wM h0 a cI cB cJ cZ s)) () hx hb hr (dc_z (Decidable.not_not.mp hg_1)) hlocks hK hS dn_M_sameToken_104 hP hD rfl (Nat.le_refl _) (Nat.le_refl _)
      · have hf := (if_neg h).symm.trans hf
        refine lv_iload hx hb dn_M_sameToken_42 (lv_at hl 4 rfl) ?_
        refine lv_aload_n hx hb dn_M_sameToken_44 rfl (lv_at hl 0 rfl) ?_
        refine va_get (D := (dC, dI)) (ci := 0) (v := .ref ((a 6))) (C := rn_M) (T := fn_M) (N := 91) hx hb hg in_M hown hK hP 0 rfl rfl 6 (by decide) (hg _ wn_8_74) (fun _ h9 => h9) rfl dn_M_sameToken_45 ?_
        refine lv_iload_n hx hb dn_M_sameToken_48 rfl (lv_at hl 1 rfl) ?_
        obtain ⟨hg_1, hf⟩ := dc_g hf
        refine va_iald hx hb hK hP 4 0 rfl rfl hg_1 dn_M_sameToken_49 ?_
        refine xk_ti (y := ((s.1 6) (Int32.toNatClampNeg x1))) rfl ?_
        refine lv_aload_n hx hb dn_M_sameToken_50 rfl (lv_at hl 0 rfl) ?_
        refine va_get (D := (dC, dI)) (ci := 0) (v := .ref ((a 5))) (C := rn_M) (T := fn_M) (N := 91) hx hb hg in_M hown hK hP 0 rfl rfl 5 (by decide) (hg _ wn_8_73) (fun _ h9 => h9) rfl dn_M_sameToken_51 ?_
        refine lv_iload_n hx hb dn_M_sameToken_54 rfl (lv_at hl 1 rfl) ?_
        obtain ⟨hg_2, hf⟩ := dc_g hf
        refine va_iald hx hb hK hP 3 0 rfl rfl hg_2 dn_M_sameToken_55 ?_
        refine xk_ti (y := ((s.1 5) (Int32.toNatClampNeg x1))) rfl ?_
        refine lv_isub hx hb dn_M_sameToken_56 ?_
        refine lv_icmp_ge (tgt := 103) hx hb dn_M_sameToken_57 (by decide) (fun h => ?_) (fun h => ?_)
        · have hf := (if_pos h).symm.trans hf
          refine lv_iload_n hx hb dn_M_sameToken_103 rfl (lv_at hl 3 rfl) ?_
          obtain ⟨hg_3, hf⟩ := dc_g hf
          rw [hQQ, ← Option.some.inj hf]
          exact xk_zret (w1 := fun _ : Unit => (wM h0 a cI cB cJ cZ s)) () hx hb hr (dc_z (Decidable.not_not.mp hg_3)) hlocks hK hS dn_M_sameToken_104 hP hD rfl (Nat.le_refl _) (Nat.le_refl _)
        · have hf := (if_neg h).symm.trans hf
          refine lv_aload_n hx hb dn_M_sameToken_60 rfl (lv_at hl 0 rfl) ?_
          refine va_get (D := (dC, dI)) (ci := 0) (v := .ref ((a 90))) (C := rn_M) (T := fn_M) (N := 91) hx hb hg in_M hown hK hP 0 rfl rfl 90 (by decide) (hg _ wn_8_158) (fun _ h9 => h9) rfl dn_M_sameToken_61 ?_
          refine lv_aload_n hx hb dn_M_sameToken_64 rfl (lv_at hl 0 rfl) ?_
          refine va_get (D := (dC, dI)) (ci := 0) (v := .ref ((a 5))) (C := rn_M) (T := fn_M) (N := 91) hx hb hg in_M hown hK hP 0 rfl rfl 5 (by decide) (hg _ wn_8_73) (fun _ h9 => h9) rfl dn_M_sameToken_65 ?_
          refine lv_iload_n hx hb dn_M_sameToken_68 rfl (lv_at hl 1 rfl) ?_
          obtain ⟨hg_3, hf⟩ := dc_g hf
          refine va_iald hx hb hK hP 3 0 rfl rfl hg_3 dn_M_sameToken_69 ?_
          refine xk_ti (y := ((s.1 5) (Int32.toNatClampNeg x1))) rfl ?_
          refine lv_iload hx hb dn_M_sameToken_70 (lv_at hl 4 rfl) ?_
          refine lv_iadd hx hb dn_M_sameToken_72 ?_
          obtain ⟨hg_4, hf⟩ := dc_g hf
          refine va_bald hx hb hK hP 59 1 rfl rfl hg_4 dn_M_sameToken_73 ?_
          refine xk_ti (y := ((s.1 90) (Int32.toNatClampNeg ((((s.1 5) (Int32.toNatClampNeg x1)) + x4))))) rfl ?_
          refine lv_aload_n hx hb dn_M_sameToken_74 rfl (lv_at hl 0 rfl) ?_
          refine va_get (D := (dC, dI)) (ci := 0) (v := .ref ((a 90))) (C := rn_M) (T := fn_M) (N := 91) hx hb hg in_M hown hK hP 0 rfl rfl 90 (by decide) (hg _ wn_8_158) (fun _ h9 => h9) rfl dn_M_sameToken_75 ?_
          refine lv_aload_n hx hb dn_M_sameToken_78 rfl (lv_at hl 0 rfl) ?_
          refine va_get (D := (dC, dI)) (ci := 0) (v := .ref ((a 5))) (C := rn_M) (T := fn_M) (N := 91) hx hb hg in_M hown hK hP 0 rfl rfl 5 (by decide) (hg _ wn_8_73) (fun _ h9 => h9) rfl dn_M_sameToken_79 ?_
          refine lv_iload_n hx hb dn_M_sameToken_82 rfl (lv_at hl 2 rfl) ?_
          obtain ⟨hg_5, hf⟩ := dc_g hf
          refine va_iald hx hb hK hP 3 0 rfl rfl hg_5 dn_M_sameToken_83 ?_
          refine xk_ti (y := ((s.1 5) (Int32.toNatClampNeg x2))) rfl ?_
          refine lv_iload hx hb dn_M_sameToken_84 (lv_at hl 4 rfl) ?_
          refine lv_iadd hx hb dn_M_sameToken_86 ?_
          obtain ⟨hg_6, hf⟩ := dc_g hf
          refine va_bald hx hb hK hP 59 1 rfl rfl hg_6 dn_M_sameToken_87 ?_
          refine xk_ti (y := ((s.1 90) (Int32.toNatClampNeg ((((s.1 5) (Int32.toNatClampNeg x2)) + x4))))) rfl ?_
          refine lv_icmp_ne (tgt := 95) hx hb dn_M_sameToken_88 (by decide) (fun h => ?_) (fun h => ?_)
          · have hf := (if_neg h).symm.trans hf
            refine lv_iconst (v := 0) hx hb dn_M_sameToken_95 (by decide) ?_
            refine lv_istore_n (lv' := [(3, .int 0), (0, .ref h0), (1, .int x1), (2, .int x2), (4, .int x4)]) hx hb dn_M_sameToken_96 rfl hl (by decide) rfl (fun ls hl => ?_)
            refine lv_iinc (v := (x4 + 1)) (lv' := [(4, .int ((x4 + 1))), (3, .int 0), (0, .ref h0), (1, .int x1), (2, .int x2)]) hx hb dn_M_sameToken_97 hl (k := 4) rfl (dc_inc (by decide)) (by decide) rfl (fun ls hl => ?_)
            refine lv_goto (tgt := 38) hx hb dn_M_sameToken_100 (by decide) ?_
            exact hk_38 x1 x2 0 ((x4 + 1)) s hf H locs ls hP hD hS (lv_sub hl [2, 3, 4, 1, 0] rfl)
          · have hf := (if_pos h).symm.trans hf
            refine lv_iconst (v := 1) hx hb dn_M_sameToken_91 (by decide) ?_
            refine lv_goto (tgt := 96) hx hb dn_M_sameToken_92 (by decide) ?_
            refine lv_istore_n (lv' := [(3, .int 1), (0, .ref h0), (1, .int x1), (2, .int x2), (4, .int x4)]) hx hb dn_M_sameToken_96 rfl hl (by decide) rfl (fun ls hl => ?_)
            refine lv_iinc (v := (x4 + 1)) (lv' := [(4, .int ((x4 + 1))), (3, .int 1), (0, .ref h0), (1, .int x1), (2, .int x2)]) hx hb dn_M_sameToken_97 hl (k := 4) rfl (dc_inc (by decide)) (by decide) rfl (fun ls hl => ?_)
            refine lv_goto (tgt := 38) hx hb dn_M_sameToken_100 (by decide) ?_
            exact hk_38 x1 x2 1 ((x4 + 1)) s hf H locs ls hP hD hS (lv_sub hl [2, 3, 4, 1, 0] rfl)
  intro H locs ls hP hD hS hl
  unfold fn_M_sameToken at hf
  refine lv_aload_n hx hb dn_M_sameToken_0 rfl (lv_at hl 0 rfl) ?_
  refine va_get (D := (dC, dI)) (ci := 0) (v := .ref ((a 6))) (C := rn_M) (T := fn_M) (N := 91) hx hb hg in_M hown hK hP 0 rfl rfl 6 (by decide) (hg _ wn_8_74) (fun _ h9 => h9) rfl dn_M_sameToken_1 ?_
  refine lv_iload_n hx hb dn_M_sameToken_4 rfl (lv_at hl 1 rfl) ?_
  obtain ⟨hg_1, hf⟩ := dc_g hf
  refine va_iald hx hb hK hP 4 0 rfl rfl hg_1 dn_M_sameToken_5 ?_
  refine xk_ti (y := ((s.1 6) (Int32.toNatClampNeg x1))) rfl ?_
  refine lv_aload_n hx hb dn_M_sameToken_6 rfl (lv_at hl 0 rfl) ?_
  refine va_get (D := (dC, dI)) (ci := 0) (v := .ref ((a 5))) (C := rn_M) (T := fn_M) (N := 91) hx hb hg in_M hown hK hP 0 rfl rfl 5 (by decide) (hg _ wn_8_73) (fun _ h9 => h9) rfl dn_M_sameToken_7 ?_
  refine lv_iload_n hx hb dn_M_sameToken_10 rfl (lv_at hl 1 rfl) ?_
  obtain ⟨hg_2, hf⟩ := dc_g hf
  refine va_iald hx hb hK hP 3 0 rfl rfl hg_2 dn_M_sameToken_11 ?_
  refine xk_ti (y := ((s.1 5) (Int32.toNatClampNeg x1))) rfl ?_
  refine lv_isub hx hb dn_M_sameToken_12 ?_
  refine lv_aload_n hx hb dn_M_sameToken_13 rfl (lv_at hl 0 rfl) ?_
  refine va_get (D := (dC, dI)) (ci := 0) (v := .ref ((a 6))) (C := rn_M) (T := fn_M) (N := 91) hx hb hg in_M hown hK hP 0 rfl rfl 6 (by decide) (hg _ wn_8_74) (fun _ h9 => h9) rfl dn_M_sameToken_14 ?_
  refine lv_iload_n hx hb dn_M_sameToken_17 rfl (lv_at hl 2 rfl) ?_
  obtain ⟨hg_3, hf⟩ := dc_g hf
  refine va_iald hx hb hK hP 4 0 rfl rfl hg_3 dn_M_sameToken_18 ?_
  refine xk_ti (y := ((s.1 6) (Int32.toNatClampNeg x2))) rfl ?_
  refine lv_aload_n hx hb dn_M_sameToken_19 rfl (lv_at hl 0 rfl) ?_
  refine va_get (D := (dC, dI)) (ci := 0) (v := .ref ((a 5))) (C := rn_M) (T := fn_M) (N := 91) hx hb hg in_M hown hK hP 0 rfl rfl 5 (by decide) (hg _ wn_8_73) (fun _ h9 => h9) rfl dn_M_sameToken_20 ?_
  refine lv_iload_n hx hb dn_M_sameToken_23 rfl (lv_at hl 2 rfl) ?_
  obtain ⟨hg_4, hf⟩ := dc_g hf
  refine va_iald hx hb hK hP 3 0 rfl rfl hg_4 dn_M_sameToken_24 ?_
  refine xk_ti (y := ((s.1 5) (Int32.toNatClampNeg x2))) rfl ?_
  refine lv_isub hx hb dn_M_sameToken_25 ?_
  refine lv_icmp_ne (tgt := 33) hx hb dn_M_sameToken_26 (by decide) (fun h => ?_) (fun h => ?_)
  · have hf := (if_neg h).symm.trans hf
    refine lv_iconst (v := 0) hx hb dn_M_sameToken_33 (by decide) ?_
    refine lv_istore_n (lv' := [(3, .int 0), (0, .ref h0), (1, .int x1), (2, .int x2)]) hx hb dn_M_sameToken_34 rfl hl (by decide) rfl (fun ls hl => ?_)
    refine lv_iconst (v := 0) hx hb dn_M_sameToken_35 (by decide) ?_
    refine lv_istore (lv' := [(4, .int 0), (3, .int 0), (0, .ref h0), (1, .int x1), (2, .int x2)]) hx hb dn_M_sameToken_36 hl (by decide) rfl (fun ls hl => ?_)
    exact hd_38 dc_N x1 x2 0 0 s hf H locs ls hP hD hS (lv_sub hl [2, 3, 4, 1, 0] rfl)
  · have hf := (if_pos h).symm.trans hf
    refine lv_iconst (v := 1) hx hb dn_M_sameToken_29 (by decide) ?_
    refine lv_goto (tgt := 34) hx hb dn_M_sameToken_30 (by decide) ?_
    refine lv_istore_n (lv' := [(3, .int 1), (0, .ref h0), (1, .int x1), (2, .int x2)]) hx hb dn_M_sameToken_34 rfl hl (by decide) rfl (fun ls hl => ?_)
    refine lv_iconst (v := 0) hx hb dn_M_sameToken_35 (by decide) ?_
    refine lv_istore (lv' := [(4, .int 0), (3, .int 1), (0, .ref h0), (1, .int x1), (2, .int x2)]) hx hb dn_M_sameToken_36 hl (by decide) rfl (fun ls hl => ?_)
    exact hd_38 dc_N x1 x2 1 0 s hf H locs ls hP hD hS (lv_sub hl [2, 3, 4, 1, 0] rfl)
def bd_M_moduleNamed_2 (k_2 : Int32 → Int32 → Int32 → ms → Option (Int32 × ms)) (x1 : Int32) (x2 : Int32) (x3 : Int32) (s : ms) : Option (Int32 × ms) :=
  if x2 ≤ x3 then (some ((-1), s)) else (if (x3 < 0 ∨ 3600 ≤ Int32.toNatClampNeg x3) then none else (fn_M_sameToken (((s.1 13) (Int32.toNatClampNeg x3))) x1 s).bind (fun q_2 => if q_2.1 = 0 then (k_2 x1 x2 ((x3 + 1)) q_2.2) else (some (x3, q_2.2))))
def hd_M_moduleNamed_2 : Nat → Int32 → Int32 → Int32 → ms → Option (Int32 × ms)
  | 0, _, _, _, _ => none
  | n + 1, x1, x2, x3, s => bd_M_moduleNamed_2 (hd_M_moduleNamed_2 n) x1 x2 x3 s
def fn_M_moduleNamed (x1 : Int32) (x2 : Int32) (s : ms) : Option (Int32 × ms) :=
  hd_M_moduleNamed_2 dc_N x1 x2 0 s
set_option maxHeartbeats 8000000 in
set_option maxRecDepth 100000 in
theorem ct_M_moduleNamed (l : Launch) (dC : Nat → ClassId) (dI : Nat → Nat → Nat) (cI cB cJ cZ cQ : ClassId) (sz : Nat) (h0 : Nat) (a : Nat → Nat) (x1 : Int32) (x2 : Int32) (s : ms) (y : (Int32 × ms)) (hf : fn_M_moduleNamed x1 x2 s = some y) : Met l yn_M_moduleNamed (xw yn_M_moduleNamed bn_M_moduleNamed 4 (some .int)) ({ frames := 1, cells := 0, slots := 0, locals := 24 }) (xk_P (dC, dI) xcl (xt cI cB cJ cZ cQ) [.ref h0, .int x1, .int x2] sz (wM h0 a cI cB cJ cZ s)) (xk_Qi (dC, dI) xcl (xt cI cB cJ cZ cQ) (fun (r : Int32) (_ : Unit) => r = y.1) (fun _ : Unit => (wM h0 a cI cB cJ cZ y.2)) (va_A (wM h0 a cI cB cJ cZ s) sz)) 0 0 (va_A (wM h0 a cI cB cJ cZ s) sz) := by
  refine xk_of (QA := xk_Qi (dC, dI) xcl (xt cI cB cJ cZ cQ) (fun (r : Int32) (_ : Unit) => r = y.1) (fun _ : Unit => (wM h0 a cI cB cJ cZ y.2))) (by decide) (Nat.le_of_ble_eq_true rfl) ?_
  intro p e s0 m below meth c hx hb hml hown hg hr hlocks hin hP hK hN A hA hD hS ls hl
  have hown : s0.vm.findClass rn_M = some m.cls := hown
  obtain ⟨H, hH⟩ : ∃ z, z = s0.heap := ⟨_, rfl⟩
  rw [← hH] at hP
  have hS : va_S A s0.heap H [] := by rw [hH]; exact va_S.rf
  suffices kk : ∀ QQ : State → Prop, QQ = MQ below (xk_Qi (dC, dI) xcl (xt cI cB cJ cZ cQ) (fun (r : Int32) (_ : Unit) => r = y.1) (fun _ : Unit => (wM h0 a cI cB cJ cZ y.2)) A) [.ref h0, .int x1, .int x2].toArray s0 0 0 A → dcC p l e ({ frames := 1, cells := 0, slots := 0, locals := 24 }) s0 m [.ref h0, .int x1, .int x2].toArray below meth c QQ (dC, dI) A (wM h0 a cI cB cJ cZ s) 0 4 [(0, .ref h0), (1, .int x1), (2, .int x2)] [] by
    have k9 := kk _ rfl H [] ls hP hD hS hl
    rw [hH] at k9; exact k9
  clear hP hD hS hl hH H ls
  intro QQ hQQ
  have hd_2 : ∀ (n : Nat) (x1 : Int32) (x2 : Int32) (x3 : Int32) (s : ms), hd_M_moduleNamed_2 n x1 x2 x3 s = some y → dcC p l e ({ frames := 1, cells := 0, slots := 0, locals := 24 }) s0 m [.ref h0, .int x1, .int x2].toArray below meth c QQ (dC, dI) A (wM h0 a cI cB cJ cZ s) 2 4 [(0, .ref h0), (1, .int x1), (2, .int x2), (3, .int x3)] [] := by
    intro n
    induction n with
    | zero => intro x1 x2 x3 s hf; cases hf
    | succ n ih =>
      intro x1 x2 x3 s hf H locs ls hP hD hS hl
      have hf : bd_M_moduleNamed_2 (hd_M_moduleNamed_2 n) x1 x2 x3 s = some y := hf
      have hk_2 := ih
      generalize hd_M_moduleNamed_2 n = k_2 at hf hk_2
      unfold bd_M_moduleNamed_2 at hf
      refine lv_iload_n hx hb dn_M_moduleNamed_2 rfl (lv_at hl 3 rfl) ?_
      refine lv_iload_n hx hb dn_M_moduleNamed_3 rfl (lv_at hl 2 rfl) ?_
      refine lv_icmp_ge (tgt := 29) hx hb dn_M_moduleNamed_4 (by decide) (fun h => ?_) (fun h => ?_)
      · have hf := (if_pos h).symm.trans hf
        refine lv_iconst (v := (-1)) hx hb dn_M_moduleNamed_29 (by decide) ?_
        rw [hQQ, ← Option.some.inj hf]
        exact xk_iret (w1 := fun _ : Unit => (wM h0 a cI cB cJ cZ s)) () hx hb hr hlocks hK hS dn_M_moduleNamed_30 hP hD rfl (Nat.le_refl _) (Nat.le_refl _)
      · have hf := (if_neg h).symm.trans hf
        refine lv_aload_n hx hb dn_M_moduleNamed_7 rfl (lv_at hl 0 rfl) ?_
        refine lv_aload_n hx hb dn_M_moduleNamed_8 rfl (lv_at hl 0 rfl) ?_
        refine va_get (D := (dC, dI)) (ci := 0) (v := .ref ((a 13))) (C := rn_M) (T := fn_M) (N := 91) hx hb hg in_M hown hK hP 0 rfl rfl 13 (by decide) (hg _ wn_8_81) (fun _ h9 => h9) rfl dn_M_moduleNamed_9 ?_
        refine lv_iload_n hx hb dn_M_moduleNamed_12 rfl (lv_at hl 3 rfl) ?_
        obtain ⟨hg_1, hf⟩ := dc_g hf
        refine va_iald hx hb hK hP 5 0 rfl rfl hg_1 dn_M_moduleNamed_13 ?_
        refine xk_ti (y := ((s.1 13) (Int32.toNatClampNeg x3))) rfl ?_
        refine lv_iload_n hx hb dn_M_moduleNamed_14 rfl (lv_at hl 1 rfl) ?_
        obtain ⟨q_2, hc_3, hf⟩ := dc_b hf
        refine dc_calli (xk_runV (ar := 2) (As := [.int (((s.1 13) (Int32.toNatClampNeg x3))), .int x1]) (rest := []) (ci := 0) (q0 := 0) ⟨hx, hb, hml, hown, hg⟩ hK hN (ct_M_sameToken l dC dI cI cB cJ cZ cQ H.size h0 a (((s.1 13) (Int32.toNatClampNeg x3))) x1 s q_2 hc_3) hP hD rfl rfl wn_10_23 wn_10_25 sn_M_sameToken wn_1_13 wn_10_26 rfl rfl (by decide +kernel) ⟨Nat.le_of_ble_eq_true rfl, Nat.le_of_ble_eq_true rfl⟩ rfl hl.1 rfl (Nat.le_of_ble_eq_true rfl) dn_M_moduleNamed_15 ⟨Nat.le_of_ble_eq_true rfl, Nat.le_of_ble_eq_true rfl⟩) hP hD hS hA (fun r_4 _ H locs hw hP hD hS => ?_)
        have hw : r_4 = q_2.1 := hw
        subst hw
        refine lv_if_eq (tgt := 23) hx hb dn_M_moduleNamed_18 (by decide) (fun h => ?_) (fun h => ?_)
        · have hf := (if_pos h).symm.trans hf
          refine lv_iinc (v := (x3 + 1)) (lv' := [(3, .int ((x3 + 1))), (0, .ref h0), (1, .int x1), (2, .int x2)]) hx hb dn_M_moduleNamed_23 hl (k := 3) rfl (dc_inc (by decide)) (by decide) rfl (fun ls hl => ?_)
          refine lv_goto (tgt := 2) hx hb dn_M_moduleNamed_26 (by decide) ?_
          exact hk_2 x1 x2 ((x3 + 1)) q_2.2 hf H locs ls hP hD hS (lv_sub hl [1, 2, 3, 0] rfl)
        · have hf := (if_neg h).symm.trans hf
          refine lv_iload_n hx hb dn_M_moduleNamed_21 rfl (lv_at hl 3 rfl) ?_
          rw [hQQ, ← Option.some.inj hf]
          exact xk_iret (w1 := fun _ : Unit => (wM h0 a cI cB cJ cZ q_2.2)) () hx hb hr hlocks hK hS dn_M_moduleNamed_22 hP hD rfl (Nat.le_refl _) (Nat.le_refl _)
  intro H locs ls hP hD hS hl
  unfold fn_M_moduleNamed at hf
  refine lv_iconst (v := 0) hx hb dn_M_moduleNamed_0 (by decide) ?_
  refine lv_istore_n (lv' := [(3, .int 0), (0, .ref h0), (1, .int x1), (2, .int x2)]) hx hb dn_M_moduleNamed_1 rfl hl (by decide) rfl (fun ls hl => ?_)
  exact hd_2 dc_N x1 x2 0 s hf H locs ls hP hD hS (lv_sub hl [1, 2, 3, 0] rfl)
def bd_M_signalNamed_3 (k_3 : Int32 → Int32 → Int32 → ms → Option (Int32 × ms)) (x1 : Int32) (x3 : Int32) (x4 : Int32) (s : ms) : Option (Int32 × ms) :=
  if x3 ≤ x4 then (some ((-1), s)) else (if (x4 < 0 ∨ 11000 ≤ Int32.toNatClampNeg x4) then none else (fn_M_sameToken (((s.1 19) (Int32.toNatClampNeg x4))) x1 s).bind (fun q_2 => if q_2.1 = 0 then (k_3 x1 x3 ((x4 + 1)) q_2.2) else (some (x4, q_2.2))))
def hd_M_signalNamed_3 : Nat → Int32 → Int32 → Int32 → ms → Option (Int32 × ms)
  | 0, _, _, _, _ => none
  | n + 1, x1, x3, x4, s => bd_M_signalNamed_3 (hd_M_signalNamed_3 n) x1 x3 x4 s
def fn_M_signalNamed (x1 : Int32) (x2 : Int32) (x3 : Int32) (s : ms) : Option (Int32 × ms) :=
  hd_M_signalNamed_3 dc_N x1 x3 x2 s
set_option maxHeartbeats 8000000 in
set_option maxRecDepth 100000 in
theorem ct_M_signalNamed (l : Launch) (dC : Nat → ClassId) (dI : Nat → Nat → Nat) (cI cB cJ cZ cQ : ClassId) (sz : Nat) (h0 : Nat) (a : Nat → Nat) (x1 : Int32) (x2 : Int32) (x3 : Int32) (s : ms) (y : (Int32 × ms)) (hf : fn_M_signalNamed x1 x2 x3 s = some y) : Met l yn_M_signalNamed (xw yn_M_signalNamed bn_M_signalNamed 5 (some .int)) ({ frames := 1, cells := 0, slots := 0, locals := 24 }) (xk_P (dC, dI) xcl (xt cI cB cJ cZ cQ) [.ref h0, .int x1, .int x2, .int x3] sz (wM h0 a cI cB cJ cZ s)) (xk_Qi (dC, dI) xcl (xt cI cB cJ cZ cQ) (fun (r : Int32) (_ : Unit) => r = y.1) (fun _ : Unit => (wM h0 a cI cB cJ cZ y.2)) (va_A (wM h0 a cI cB cJ cZ s) sz)) 0 0 (va_A (wM h0 a cI cB cJ cZ s) sz) := by
  refine xk_of (QA := xk_Qi (dC, dI) xcl (xt cI cB cJ cZ cQ) (fun (r : Int32) (_ : Unit) => r = y.1) (fun _ : Unit => (wM h0 a cI cB cJ cZ y.2))) (by decide) (Nat.le_of_ble_eq_true rfl) ?_
  intro p e s0 m below meth c hx hb hml hown hg hr hlocks hin hP hK hN A hA hD hS ls hl
  have hown : s0.vm.findClass rn_M = some m.cls := hown
  obtain ⟨H, hH⟩ : ∃ z, z = s0.heap := ⟨_, rfl⟩
  rw [← hH] at hP
  have hS : va_S A s0.heap H [] := by rw [hH]; exact va_S.rf
  suffices kk : ∀ QQ : State → Prop, QQ = MQ below (xk_Qi (dC, dI) xcl (xt cI cB cJ cZ cQ) (fun (r : Int32) (_ : Unit) => r = y.1) (fun _ : Unit => (wM h0 a cI cB cJ cZ y.2)) A) [.ref h0, .int x1, .int x2, .int x3].toArray s0 0 0 A → dcC p l e ({ frames := 1, cells := 0, slots := 0, locals := 24 }) s0 m [.ref h0, .int x1, .int x2, .int x3].toArray below meth c QQ (dC, dI) A (wM h0 a cI cB cJ cZ s) 0 5 [(0, .ref h0), (1, .int x1), (2, .int x2), (3, .int x3)] [] by
    have k9 := kk _ rfl H [] ls hP hD hS hl
    rw [hH] at k9; exact k9
  clear hP hD hS hl hH H ls
  intro QQ hQQ
  have hd_3 : ∀ (n : Nat) (x1 : Int32) (x3 : Int32) (x4 : Int32) (s : ms), hd_M_signalNamed_3 n x1 x3 x4 s = some y → dcC p l e ({ frames := 1, cells := 0, slots := 0, locals := 24 }) s0 m [.ref h0, .int x1, .int x2, .int x3].toArray below meth c QQ (dC, dI) A (wM h0 a cI cB cJ cZ s) 3 5 [(0, .ref h0), (1, .int x1), (3, .int x3), (4, .int x4)] [] := by
    intro n
    induction n with
    | zero => intro x1 x3 x4 s hf; cases hf
    | succ n ih =>
      intro x1 x3 x4 s hf H locs ls hP hD hS hl
      have hf : bd_M_signalNamed_3 (hd_M_signalNamed_3 n) x1 x3 x4 s = some y := hf
      have hk_3 := ih
      generalize hd_M_signalNamed_3 n = k_3 at hf hk_3
      unfold bd_M_signalNamed_3 at hf
      refine lv_iload hx hb dn_M_signalNamed_3 (lv_at hl 3 rfl) ?_
      refine lv_iload_n hx hb dn_M_signalNamed_5 rfl (lv_at hl 2 rfl) ?_
      refine lv_icmp_ge (tgt := 33) hx hb dn_M_signalNamed_6 (by decide) (fun h => ?_) (fun h => ?_)
      · have hf := (if_pos h).symm.trans hf
        refine lv_iconst (v := (-1)) hx hb dn_M_signalNamed_33 (by decide) ?_
        rw [hQQ, ← Option.some.inj hf]
        exact xk_iret (w1 := fun _ : Unit => (wM h0 a cI cB cJ cZ s)) () hx hb hr hlocks hK hS dn_M_signalNamed_34 hP hD rfl (Nat.le_refl _) (Nat.le_refl _)
      · have hf := (if_neg h).symm.trans hf
        refine lv_aload_n hx hb dn_M_signalNamed_9 rfl (lv_at hl 0 rfl) ?_
        refine lv_aload_n hx hb dn_M_signalNamed_10 rfl (lv_at hl 0 rfl) ?_
        refine va_get (D := (dC, dI)) (ci := 0) (v := .ref ((a 19))) (C := rn_M) (T := fn_M) (N := 91) hx hb hg in_M hown hK hP 0 rfl rfl 19 (by decide) (hg _ wn_8_87) (fun _ h9 => h9) rfl dn_M_signalNamed_11 ?_
        refine lv_iload hx hb dn_M_signalNamed_14 (lv_at hl 3 rfl) ?_
        obtain ⟨hg_1, hf⟩ := dc_g hf
        refine va_iald hx hb hK hP 10 0 rfl rfl hg_1 dn_M_signalNamed_16 ?_
        refine xk_ti (y := ((s.1 19) (Int32.toNatClampNeg x4))) rfl ?_
        refine lv_iload_n hx hb dn_M_signalNamed_17 rfl (lv_at hl 1 rfl) ?_
        obtain ⟨q_2, hc_3, hf⟩ := dc_b hf
        refine dc_calli (xk_runV (ar := 2) (As := [.int (((s.1 19) (Int32.toNatClampNeg x4))), .int x1]) (rest := []) (ci := 0) (q0 := 0) ⟨hx, hb, hml, hown, hg⟩ hK hN (ct_M_sameToken l dC dI cI cB cJ cZ cQ H.size h0 a (((s.1 19) (Int32.toNatClampNeg x4))) x1 s q_2 hc_3) hP hD rfl rfl wn_10_23 wn_10_25 sn_M_sameToken wn_1_13 wn_10_26 rfl rfl (by decide +kernel) ⟨Nat.le_of_ble_eq_true rfl, Nat.le_of_ble_eq_true rfl⟩ rfl hl.1 rfl (Nat.le_of_ble_eq_true rfl) dn_M_signalNamed_18 ⟨Nat.le_of_ble_eq_true rfl, Nat.le_of_ble_eq_true rfl⟩) hP hD hS hA (fun r_4 _ H locs hw hP hD hS => ?_)
        have hw : r_4 = q_2.1 := hw
        subst hw
        refine lv_if_eq (tgt := 27) hx hb dn_M_signalNamed_21 (by decide) (fun h => ?_) (fun h => ?_)
        · have hf := (if_pos h).symm.trans hf
          refine lv_iinc (v := (x4 + 1)) (lv' := [(4, .int ((x4 + 1))), (0, .ref h0), (1, .int x1), (3, .int x3)]) hx hb dn_M_signalNamed_27 hl (k := 3) rfl (dc_inc (by decide)) (by decide) rfl (fun ls hl => ?_)
          refine lv_goto (tgt := 3) hx hb dn_M_signalNamed_30 (by decide) ?_
          exact hk_3 x1 x3 ((x4 + 1)) q_2.2 hf H locs ls hP hD hS (lv_sub hl [1, 2, 3, 0] rfl)
        · have hf := (if_neg h).symm.trans hf
          refine lv_iload hx hb dn_M_signalNamed_24 (lv_at hl 3 rfl) ?_
          rw [hQQ, ← Option.some.inj hf]
          exact xk_iret (w1 := fun _ : Unit => (wM h0 a cI cB cJ cZ q_2.2)) () hx hb hr hlocks hK hS dn_M_signalNamed_26 hP hD rfl (Nat.le_refl _) (Nat.le_refl _)
  intro H locs ls hP hD hS hl
  unfold fn_M_signalNamed at hf
  refine lv_iload_n hx hb dn_M_signalNamed_0 rfl (lv_at hl 2 rfl) ?_
  refine lv_istore (lv' := [(4, .int x2), (0, .ref h0), (1, .int x1), (2, .int x2), (3, .int x3)]) hx hb dn_M_signalNamed_1 hl (by decide) rfl (fun ls hl => ?_)
  exact hd_3 dc_N x1 x3 x2 s hf H locs ls hP hD hS (lv_sub hl [1, 2, 4, 0] rfl)
def fn_M_here (x1 : Int32) (s : ms) : Option (Int32 × ms) :=
  if ((s.1 12 0) < 0 ∨ 3601 ≤ Int32.toNatClampNeg ((s.1 12 0))) then none else (fn_M_signalNamed x1 (((s.1 14) (Int32.toNatClampNeg ((s.1 12 0))))) ((s.1 18 0)) s).bind (fun q_2 => some (q_2.1, q_2.2))
set_option maxHeartbeats 8000000 in
set_option maxRecDepth 100000 in
theorem ct_M_here (l : Launch) (dC : Nat → ClassId) (dI : Nat → Nat → Nat) (cI cB cJ cZ cQ : ClassId) (sz : Nat) (h0 : Nat) (a : Nat → Nat) (x1 : Int32) (s : ms) (y : (Int32 × ms)) (hf : fn_M_here x1 s = some y) : Met l yn_M_here (xw yn_M_here bn_M_here 2 (some .int)) ({ frames := 2, cells := 0, slots := 0, locals := 48 }) (xk_P (dC, dI) xcl (xt cI cB cJ cZ cQ) [.ref h0, .int x1] sz (wM h0 a cI cB cJ cZ s)) (xk_Qi (dC, dI) xcl (xt cI cB cJ cZ cQ) (fun (r : Int32) (_ : Unit) => r = y.1) (fun _ : Unit => (wM h0 a cI cB cJ cZ y.2)) (va_A (wM h0 a cI cB cJ cZ s) sz)) 0 0 (va_A (wM h0 a cI cB cJ cZ s) sz) := by
  refine xk_of (QA := xk_Qi (dC, dI) xcl (xt cI cB cJ cZ cQ) (fun (r : Int32) (_ : Unit) => r = y.1) (fun _ : Unit => (wM h0 a cI cB cJ cZ y.2))) (by decide) (Nat.le_of_ble_eq_true rfl) ?_
  intro p e s0 m below meth c hx hb hml hown hg hr hlocks hin hP hK hN A hA hD hS ls hl
  have hown : s0.vm.findClass rn_M = some m.cls := hown
  obtain ⟨H, hH⟩ : ∃ z, z = s0.heap := ⟨_, rfl⟩
  rw [← hH] at hP
  have hS : va_S A s0.heap H [] := by rw [hH]; exact va_S.rf
  suffices kk : ∀ QQ : State → Prop, QQ = MQ below (xk_Qi (dC, dI) xcl (xt cI cB cJ cZ cQ) (fun (r : Int32) (_ : Unit) => r = y.1) (fun _ : Unit => (wM h0 a cI cB cJ cZ y.2)) A) [.ref h0, .int x1].toArray s0 0 0 A → dcC p l e ({ frames := 2, cells := 0, slots := 0, locals := 48 }) s0 m [.ref h0, .int x1].toArray below meth c QQ (dC, dI) A (wM h0 a cI cB cJ cZ s) 0 2 [(0, .ref h0), (1, .int x1)] [] by
    have k9 := kk _ rfl H [] ls hP hD hS hl
    rw [hH] at k9; exact k9
  clear hP hD hS hl hH H ls
  intro QQ hQQ
  intro H locs ls hP hD hS hl
  unfold fn_M_here at hf
  refine lv_aload_n hx hb dn_M_here_0 rfl (lv_at hl 0 rfl) ?_
  refine lv_iload_n hx hb dn_M_here_1 rfl (lv_at hl 1 rfl) ?_
  refine lv_aload_n hx hb dn_M_here_2 rfl (lv_at hl 0 rfl) ?_
  refine va_get (D := (dC, dI)) (ci := 0) (v := .ref ((a 14))) (C := rn_M) (T := fn_M) (N := 91) hx hb hg in_M hown hK hP 0 rfl rfl 14 (by decide) (hg _ wn_8_82) (fun _ h9 => h9) rfl dn_M_here_3 ?_
  refine lv_aload_n hx hb dn_M_here_6 rfl (lv_at hl 0 rfl) ?_
  refine va_get (D := (dC, dI)) (ci := 0) (v := .int ((s.1 12 0))) (C := rn_M) (T := fn_M) (N := 91) hx hb hg in_M hown hK hP 0 rfl rfl 12 (by decide) (hg _ wn_8_80) (fun _ h9 => h9) rfl dn_M_here_7 ?_
  obtain ⟨hg_1, hf⟩ := dc_g hf
  refine va_iald hx hb hK hP 6 0 rfl rfl hg_1 dn_M_here_10 ?_
  refine xk_ti (y := ((s.1 14) (Int32.toNatClampNeg ((s.1 12 0))))) rfl ?_
  refine lv_aload_n hx hb dn_M_here_11 rfl (lv_at hl 0 rfl) ?_
  refine va_get (D := (dC, dI)) (ci := 0) (v := .int ((s.1 18 0))) (C := rn_M) (T := fn_M) (N := 91) hx hb hg in_M hown hK hP 0 rfl rfl 18 (by decide) (hg _ wn_8_86) (fun _ h9 => h9) rfl dn_M_here_12 ?_
  obtain ⟨q_2, hc_3, hf⟩ := dc_b hf
  refine dc_calli (xk_runV (ar := 3) (As := [.int x1, .int (((s.1 14) (Int32.toNatClampNeg ((s.1 12 0))))), .int ((s.1 18 0))]) (rest := []) (ci := 0) (q0 := 0) ⟨hx, hb, hml, hown, hg⟩ hK hN (ct_M_signalNamed l dC dI cI cB cJ cZ cQ H.size h0 a x1 (((s.1 14) (Int32.toNatClampNeg ((s.1 12 0))))) ((s.1 18 0)) s q_2 hc_3) hP hD rfl rfl wn_10_48 wn_10_50 sn_M_signalNamed wn_1_13 wn_10_51 rfl rfl (by decide +kernel) ⟨Nat.le_of_ble_eq_true rfl, Nat.le_of_ble_eq_true rfl⟩ rfl hl.1 rfl (Nat.le_of_ble_eq_true rfl) dn_M_here_15 ⟨Nat.le_of_ble_eq_true rfl, Nat.le_of_ble_eq_true rfl⟩) hP hD hS hA (fun r_4 _ H locs hw hP hD hS => ?_)
  have hw : r_4 = q_2.1 := hw
  subst hw
  rw [hQQ, ← Option.some.inj hf]
  exact xk_iret (w1 := fun _ : Unit => (wM h0 a cI cB cJ cZ q_2.2)) () hx hb hr hlocks hK hS dn_M_here_18 hP hD rfl (Nat.le_refl _) (Nat.le_refl _)
def bk_M_isInstanceName_38 (k_12 : Int32 → Int32 → Int32 → ms → Option (Int32 × ms)) (x1 : Int32) (x3 : Int32) (s : ms) : Option (Int32 × ms) :=
  k_12 x1 1 ((x3 + 1)) s
def bd_M_isInstanceName_12 (k_12 : Int32 → Int32 → Int32 → ms → Option (Int32 × ms)) (x1 : Int32) (x2 : Int32) (x3 : Int32) (s : ms) : Option (Int32 × ms) :=
  if (s.1 27 0) ≤ x3 then (if ¬ (vp_nar .boolean x2 = x2) then none else some (x2, s)) else (if x2 = 0 then (if (x3 < 0 ∨ 11000 ≤ Int32.toNatClampNeg x3) then none else (fn_M_sameToken (((s.1 29) (Int32.toNatClampNeg x3))) x1 s).bind (fun q_2 => if q_2.1 = 0 then (k_12 x1 0 ((x3 + 1)) q_2.2) else (bk_M_isInstanceName_38 k_12 x1 x3 q_2.2))) else (bk_M_isInstanceName_38 k_12 x1 x3 s))
def hd_M_isInstanceName_12 : Nat → Int32 → Int32 → Int32 → ms → Option (Int32 × ms)
  | 0, _, _, _, _ => none
  | n + 1, x1, x2, x3, s => bd_M_isInstanceName_12 (hd_M_isInstanceName_12 n) x1 x2 x3 s
def fn_M_isInstanceName (x1 : Int32) (s : ms) : Option (Int32 × ms) :=
  if ((s.1 12 0) < 0 ∨ 3601 ≤ Int32.toNatClampNeg ((s.1 12 0))) then none else hd_M_isInstanceName_12 dc_N x1 0 (((s.1 15) (Int32.toNatClampNeg ((s.1 12 0))))) s
set_option maxHeartbeats 8000000 in
set_option maxRecDepth 100000 in
theorem ct_M_isInstanceName (l : Launch) (dC : Nat → ClassId) (dI : Nat → Nat → Nat) (cI cB cJ cZ cQ : ClassId) (sz : Nat) (h0 : Nat) (a : Nat → Nat) (x1 : Int32) (s : ms) (y : (Int32 × ms)) (hf : fn_M_isInstanceName x1 s = some y) : Met l yn_M_isInstanceName (xw yn_M_isInstanceName bn_M_isInstanceName 4 (some .boolean)) ({ frames := 1, cells := 0, slots := 0, locals := 24 }) (xk_P (dC, dI) xcl (xt cI cB cJ cZ cQ) [.ref h0, .int x1] sz (wM h0 a cI cB cJ cZ s)) (xk_Qi (dC, dI) xcl (xt cI cB cJ cZ cQ) (fun (r : Int32) (_ : Unit) => r = y.1) (fun _ : Unit => (wM h0 a cI cB cJ cZ y.2)) (va_A (wM h0 a cI cB cJ cZ s) sz)) 0 0 (va_A (wM h0 a cI cB cJ cZ s) sz) := by
  refine xk_of (QA := xk_Qi (dC, dI) xcl (xt cI cB cJ cZ cQ) (fun (r : Int32) (_ : Unit) => r = y.1) (fun _ : Unit => (wM h0 a cI cB cJ cZ y.2))) (by decide) (Nat.le_of_ble_eq_true rfl) ?_
  intro p e s0 m below meth c hx hb hml hown hg hr hlocks hin hP hK hN A hA hD hS ls hl
  have hown : s0.vm.findClass rn_M = some m.cls := hown
  obtain ⟨H, hH⟩ : ∃ z, z = s0.heap := ⟨_, rfl⟩
  rw [← hH] at hP
  have hS : va_S A s0.heap H [] := by rw [hH]; exact va_S.rf
  suffices kk : ∀ QQ : State → Prop, QQ = MQ below (xk_Qi (dC, dI) xcl (xt cI cB cJ cZ cQ) (fun (r : Int32) (_ : Unit) => r = y.1) (fun _ : Unit => (wM h0 a cI cB cJ cZ y.2)) A) [.ref h0, .int x1].toArray s0 0 0 A → dcC p l e ({ frames := 1, cells := 0, slots := 0, locals := 24 }) s0 m [.ref h0, .int x1].toArray below meth c QQ (dC, dI) A (wM h0 a cI cB cJ cZ s) 0 4 [(0, .ref h0), (1, .int x1)] [] by
    have k9 := kk _ rfl H [] ls hP hD hS hl
    rw [hH] at k9; exact k9
  clear hP hD hS hl hH H ls
  intro QQ hQQ
  have bl_38 : ∀ (k_12 : Int32 → Int32 → Int32 → ms → Option (Int32 × ms)) (hk_12 : ∀ (x1 : Int32) (x2 : Int32) (x3 : Int32) (s : ms), k_12 x1 x2 x3 s = some y → dcC p l e ({ frames := 1, cells := 0, slots := 0, locals := 24 }) s0 m [.ref h0, .int x1].toArray below meth c QQ (dC, dI) A (wM h0 a cI cB cJ cZ s) 12 4 [(0, .ref h0), (1, .int x1), (2, .int x2), (3, .int x3)] []) (x1 : Int32) (x3 : Int32) (s : ms), bk_M_isInstanceName_38 k_12 x1 x3 s = some y → dcC p l e ({ frames := 1, cells := 0, slots := 0, locals := 24 }) s0 m [.ref h0, .int x1].toArray below meth c QQ (dC, dI) A (wM h0 a cI cB cJ cZ s) 38 4 [(0, .ref h0), (1, .int x1), (3, .int x3)] [] := by
    intro k_12 hk_12 x1 x3 s hf H locs ls hP hD hS hl
    unfold bk_M_isInstanceName_38 at hf
    refine lv_iconst (v := 1) hx hb dn_M_isInstanceName_38 (by decide) ?_
    refine lv_goto (tgt := 43) hx hb dn_M_isInstanceName_39 (by decide) ?_
    refine lv_istore_n (lv' := [(2, .int 1), (0, .ref h0), (1, .int x1), (3, .int x3)]) hx hb dn_M_isInstanceName_43 rfl hl (by decide) rfl (fun ls hl => ?_)
    refine lv_iinc (v := (x3 + 1)) (lv' := [(3, .int ((x3 + 1))), (2, .int 1), (0, .ref h0), (1, .int x1)]) hx hb dn_M_isInstanceName_44 hl (k := 3) rfl (dc_inc (by decide)) (by decide) rfl (fun ls hl => ?_)
    refine lv_goto (tgt := 12) hx hb dn_M_isInstanceName_47 (by decide) ?_
    exact hk_12 x1 1 ((x3 + 1)) s hf H locs ls hP hD hS (lv_sub hl [2, 3, 1, 0] rfl)
  have hd_12 : ∀ (n : Nat) (x1 : Int32) (x2 : Int32) (x3 : Int32) (s : ms), hd_M_isInstanceName_12 n x1 x2 x3 s = some y → dcC p l e ({ frames := 1, cells := 0, slots := 0, locals := 24 }) s0 m [.ref h0, .int x1].toArray below meth c QQ (dC, dI) A (wM h0 a cI cB cJ cZ s) 12 4 [(0, .ref h0), (1, .int x1), (2, .int x2), (3, .int x3)] [] := by
    intro n
    induction n with
    | zero => intro x1 x2 x3 s hf; cases hf
    | succ n ih =>
      intro x1 x2 x3 s hf H locs ls hP hD hS hl
      have hf : bd_M_isInstanceName_12 (hd_M_isInstanceName_12 n) x1 x2 x3 s = some y := hf
      have hk_12 := ih
      generalize hd_M_isInstanceName_12 n = k_12 at hf hk_12
      unfold bd_M_isInstanceName_12 at hf
      refine lv_iload_n hx hb dn_M_isInstanceName_12 rfl (lv_at hl 3 rfl) ?_
      refine lv_aload_n hx hb dn_M_isInstanceName_13 rfl (lv_at hl 0 rfl) ?_
      refine va_get (D := (dC, dI)) (ci := 0) (v := .int ((s.1 27 0))) (C := rn_M) (T := fn_M) (N := 91) hx hb hg in_M hown hK hP 0 rfl rfl 27 (by decide) (hg _ wn_8_95) (fun _ h9 => h9) rfl dn_M_isInstanceName_14 ?_
      refine lv_icmp_ge (tgt := 50) hx hb dn_M_isInstanceName_17 (by decide) (fun h => ?_) (fun h => ?_)
      · have hf := (if_pos h).symm.trans hf
        refine lv_iload_n hx hb dn_M_isInstanceName_50 rfl (lv_at hl 2 rfl) ?_
        obtain ⟨hg_1, hf⟩ := dc_g hf
        rw [hQQ, ← Option.some.inj hf]
        exact xk_zret (w1 := fun _ : Unit => (wM h0 a cI cB cJ cZ s)) () hx hb hr (dc_z (Decidable.not_not.mp hg_1)) hlocks hK hS dn_M_isInstanceName_51 hP hD rfl (Nat.le_refl _) (Nat.le_refl _)
      · have hf := (if_neg h).symm.trans hf
        refine lv_iload_n hx hb dn_M_isInstanceName_20 rfl (lv_at hl 2 rfl) ?_
        refine lv_if_ne (tgt := 38) hx hb dn_M_isInstanceName_21 (by decide) (fun h => ?_) (fun h => ?_)
        · have hf := (if_neg h).symm.trans hf
          exact bl_38 k_12 hk_12 x1 x3 s hf H locs ls hP hD hS (lv_sub hl [0, 1, 3] rfl)
        · have hf := (if_pos h).symm.trans hf
          refine lv_aload_n hx hb dn_M_isInstanceName_24 rfl (lv_at hl 0 rfl) ?_
          refine lv_aload_n hx hb dn_M_isInstanceName_25 rfl (lv_at hl 0 rfl) ?_
          refine va_get (D := (dC, dI)) (ci := 0) (v := .ref ((a 29))) (C := rn_M) (T := fn_M) (N := 91) hx hb hg in_M hown hK hP 0 rfl rfl 29 (by decide) (hg _ wn_8_97) (fun _ h9 => h9) rfl dn_M_isInstanceName_26 ?_
          refine lv_iload_n hx hb dn_M_isInstanceName_29 rfl (lv_at hl 3 rfl) ?_
          obtain ⟨hg_1, hf⟩ := dc_g hf
          refine va_iald hx hb hK hP 19 0 rfl rfl hg_1 dn_M_isInstanceName_30 ?_
          refine xk_ti (y := ((s.1 29) (Int32.toNatClampNeg x3))) rfl ?_
          refine lv_iload_n hx hb dn_M_isInstanceName_31 rfl (lv_at hl 1 rfl) ?_
          obtain ⟨q_2, hc_3, hf⟩ := dc_b hf
          refine dc_calli (xk_runV (ar := 2) (As := [.int (((s.1 29) (Int32.toNatClampNeg x3))), .int x1]) (rest := []) (ci := 0) (q0 := 0) ⟨hx, hb, hml, hown, hg⟩ hK hN (ct_M_sameToken l dC dI cI cB cJ cZ cQ H.size h0 a (((s.1 29) (Int32.toNatClampNeg x3))) x1 s q_2 hc_3) hP hD rfl rfl wn_10_23 wn_10_25 sn_M_sameToken wn_1_13 wn_10_26 rfl rfl (by decide +kernel) ⟨Nat.le_of_ble_eq_true rfl, Nat.le_of_ble_eq_true rfl⟩ rfl hl.1 rfl (Nat.le_of_ble_eq_true rfl) dn_M_isInstanceName_32 ⟨Nat.le_of_ble_eq_true rfl, Nat.le_of_ble_eq_true rfl⟩) hP hD hS hA (fun r_4 _ H locs hw hP hD hS => ?_)
          have hw : r_4 = q_2.1 := hw
          subst hw
          refine lv_if_eq (tgt := 42) hx hb dn_M_isInstanceName_35 (by decide) (fun h => ?_) (fun h => ?_)
          · have hf := (if_pos h).symm.trans hf
            refine lv_iconst (v := 0) hx hb dn_M_isInstanceName_42 (by decide) ?_
            refine lv_istore_n (lv' := [(2, .int 0), (0, .ref h0), (1, .int x1), (3, .int x3)]) hx hb dn_M_isInstanceName_43 rfl hl (by decide) rfl (fun ls hl => ?_)
            refine lv_iinc (v := (x3 + 1)) (lv' := [(3, .int ((x3 + 1))), (2, .int 0), (0, .ref h0), (1, .int x1)]) hx hb dn_M_isInstanceName_44 hl (k := 3) rfl (dc_inc (by decide)) (by decide) rfl (fun ls hl => ?_)
            refine lv_goto (tgt := 12) hx hb dn_M_isInstanceName_47 (by decide) ?_
            exact hk_12 x1 0 ((x3 + 1)) q_2.2 hf H locs ls hP hD hS (lv_sub hl [2, 3, 1, 0] rfl)
          · have hf := (if_neg h).symm.trans hf
            exact bl_38 k_12 hk_12 x1 x3 q_2.2 hf H locs ls hP hD hS (lv_sub hl [0, 1, 3] rfl)
  intro H locs ls hP hD hS hl
  unfold fn_M_isInstanceName at hf
  refine lv_iconst (v := 0) hx hb dn_M_isInstanceName_0 (by decide) ?_
  refine lv_istore_n (lv' := [(2, .int 0), (0, .ref h0), (1, .int x1)]) hx hb dn_M_isInstanceName_1 rfl hl (by decide) rfl (fun ls hl => ?_)
  refine lv_aload_n hx hb dn_M_isInstanceName_2 rfl (lv_at hl 1 rfl) ?_
  refine va_get (D := (dC, dI)) (ci := 0) (v := .ref ((a 15))) (C := rn_M) (T := fn_M) (N := 91) hx hb hg in_M hown hK hP 0 rfl rfl 15 (by decide) (hg _ wn_8_83) (fun _ h9 => h9) rfl dn_M_isInstanceName_3 ?_
  refine lv_aload_n hx hb dn_M_isInstanceName_6 rfl (lv_at hl 1 rfl) ?_
  refine va_get (D := (dC, dI)) (ci := 0) (v := .int ((s.1 12 0))) (C := rn_M) (T := fn_M) (N := 91) hx hb hg in_M hown hK hP 0 rfl rfl 12 (by decide) (hg _ wn_8_80) (fun _ h9 => h9) rfl dn_M_isInstanceName_7 ?_
  obtain ⟨hg_1, hf⟩ := dc_g hf
  refine va_iald hx hb hK hP 7 0 rfl rfl hg_1 dn_M_isInstanceName_10 ?_
  refine xk_ti (y := ((s.1 15) (Int32.toNatClampNeg ((s.1 12 0))))) rfl ?_
  refine lv_istore_n (lv' := [(3, .int (((s.1 15) (Int32.toNatClampNeg ((s.1 12 0)))))), (2, .int 0), (0, .ref h0), (1, .int x1)]) hx hb dn_M_isInstanceName_11 rfl hl (by decide) rfl (fun ls hl => ?_)
  exact hd_12 dc_N x1 0 (((s.1 15) (Int32.toNatClampNeg ((s.1 12 0))))) s hf H locs ls hP hD hS (lv_sub hl [2, 3, 1, 0] rfl)
def bd_M_widthOfNumber_9 (k_9 : Int32 → Int32 → ms → Option (Int32 × ms)) (x2 : Int32) (x3 : Int32) (s : ms) : Option (Int32 × ms) :=
  (fn_M_at x2 s).bind (fun q_1 => (fn_M_isDigit q_1.1 q_1.2).bind (fun q_4 => if q_4.1 = 0 then (some (x3, q_4.2)) else ((fn_M_at x2 q_4.2).bind (fun q_7 => k_9 ((x2 + 1)) ((((x3 * 10) + q_7.1) - 48)) q_7.2))))
def hd_M_widthOfNumber_9 : Nat → Int32 → Int32 → ms → Option (Int32 × ms)
  | 0, _, _, _ => none
  | n + 1, x2, x3, s => bd_M_widthOfNumber_9 (hd_M_widthOfNumber_9 n) x2 x3 s
def fn_M_widthOfNumber (x1 : Int32) (s : ms) : Option (Int32 × ms) :=
  if (x1 < 0 ∨ 65540 ≤ Int32.toNatClampNeg x1) then none else hd_M_widthOfNumber_9 dc_N (((s.1 5) (Int32.toNatClampNeg x1))) 0 s
set_option maxHeartbeats 8000000 in
set_option maxRecDepth 100000 in
theorem ct_M_widthOfNumber (l : Launch) (dC : Nat → ClassId) (dI : Nat → Nat → Nat) (cI cB cJ cZ cQ : ClassId) (sz : Nat) (h0 : Nat) (a : Nat → Nat) (x1 : Int32) (s : ms) (y : (Int32 × ms)) (hf : fn_M_widthOfNumber x1 s = some y) : Met l yn_M_widthOfNumber (xw yn_M_widthOfNumber bn_M_widthOfNumber 4 (some .int)) ({ frames := 1, cells := 0, slots := 0, locals := 21 }) (xk_P (dC, dI) xcl (xt cI cB cJ cZ cQ) [.ref h0, .int x1] sz (wM h0 a cI cB cJ cZ s)) (xk_Qi (dC, dI) xcl (xt cI cB cJ cZ cQ) (fun (r : Int32) (_ : Unit) => r = y.1) (fun _ : Unit => (wM h0 a cI cB cJ cZ y.2)) (va_A (wM h0 a cI cB cJ cZ s) sz)) 0 0 (va_A (wM h0 a cI cB cJ cZ s) sz) := by
  refine xk_of (QA := xk_Qi (dC, dI) xcl (xt cI cB cJ cZ cQ) (fun (r : Int32) (_ : Unit) => r = y.1) (fun _ : Unit => (wM h0 a cI cB cJ cZ y.2))) (by decide) (Nat.le_of_ble_eq_true rfl) ?_
  intro p e s0 m below meth c hx hb hml hown hg hr hlocks hin hP hK hN A hA hD hS ls hl
  have hown : s0.vm.findClass rn_M = some m.cls := hown
  obtain ⟨H, hH⟩ : ∃ z, z = s0.heap := ⟨_, rfl⟩
  rw [← hH] at hP
  have hS : va_S A s0.heap H [] := by rw [hH]; exact va_S.rf
  suffices kk : ∀ QQ : State → Prop, QQ = MQ below (xk_Qi (dC, dI) xcl (xt cI cB cJ cZ cQ) (fun (r : Int32) (_ : Unit) => r = y.1) (fun _ : Unit => (wM h0 a cI cB cJ cZ y.2)) A) [.ref h0, .int x1].toArray s0 0 0 A → dcC p l e ({ frames := 1, cells := 0, slots := 0, locals := 21 }) s0 m [.ref h0, .int x1].toArray below meth c QQ (dC, dI) A (wM h0 a cI cB cJ cZ s) 0 4 [(0, .ref h0), (1, .int x1)] [] by
    have k9 := kk _ rfl H [] ls hP hD hS hl
    rw [hH] at k9; exact k9
  clear hP hD hS hl hH H ls
  intro QQ hQQ
  have hd_9 : ∀ (n : Nat) (x2 : Int32) (x3 : Int32) (s : ms), hd_M_widthOfNumber_9 n x2 x3 s = some y → dcC p l e ({ frames := 1, cells := 0, slots := 0, locals := 21 }) s0 m [.ref h0, .int x1].toArray below meth c QQ (dC, dI) A (wM h0 a cI cB cJ cZ s) 9 4 [(0, .ref h0), (2, .int x2), (3, .int x3)] [] := by
    intro n
    induction n with
    | zero => intro x2 x3 s hf; cases hf
    | succ n ih =>
      intro x2 x3 s hf H locs ls hP hD hS hl
      have hf : bd_M_widthOfNumber_9 (hd_M_widthOfNumber_9 n) x2 x3 s = some y := hf
      have hk_9 := ih
      generalize hd_M_widthOfNumber_9 n = k_9 at hf hk_9
      unfold bd_M_widthOfNumber_9 at hf
      refine lv_aload_n hx hb dn_M_widthOfNumber_9 rfl (lv_at hl 0 rfl) ?_
      refine lv_iload_n hx hb dn_M_widthOfNumber_10 rfl (lv_at hl 1 rfl) ?_
      obtain ⟨q_1, hc_2, hf⟩ := dc_b hf
      refine dc_calli (xk_runV (ar := 1) (As := [.int x2]) (rest := []) (ci := 0) (q0 := 0) ⟨hx, hb, hml, hown, hg⟩ hK hN (ct_M_at l dC dI cI cB cJ cZ cQ H.size h0 a x2 s q_1 hc_2) hP hD rfl rfl wn_9_123 wn_9_125 sn_M_at wn_1_13 wn_9_126 rfl rfl (by decide +kernel) ⟨Nat.le_of_ble_eq_true rfl, Nat.le_of_ble_eq_true rfl⟩ rfl hl.1 rfl (Nat.le_of_ble_eq_true rfl) dn_M_widthOfNumber_11 ⟨Nat.le_of_ble_eq_true rfl, Nat.le_of_ble_eq_true rfl⟩) hP hD hS hA (fun r_3 _ H locs hw hP hD hS => ?_)
      have hw : r_3 = q_1.1 := hw
      subst hw
      obtain ⟨q_4, hc_5, hf⟩ := dc_b hf
      refine dc_calli (xk_runS (ar := 1) (As := [.int q_1.1]) (rest := []) ⟨hx, hb, hml, hown, hg⟩ hK hN (ct_M_isDigit l dC dI cI cB cJ cZ cQ H.size h0 a q_1.1 q_1.2 q_4 hc_5) hP hD wn_9_137 wn_9_138 wn_1_13 wn_9_139 rfl rfl (by decide +kernel) ⟨Nat.le_of_ble_eq_true rfl, Nat.le_of_ble_eq_true rfl⟩ rfl hl.1 rfl (Nat.le_of_ble_eq_true rfl) dn_M_widthOfNumber_14 ⟨Nat.le_of_ble_eq_true rfl, Nat.le_of_ble_eq_true rfl⟩) hP hD hS hA (fun r_6 _ H locs hw hP hD hS => ?_)
      have hw : r_6 = q_4.1 := hw
      subst hw
      refine lv_if_eq (tgt := 40) hx hb dn_M_widthOfNumber_17 (by decide) (fun h => ?_) (fun h => ?_)
      · have hf := (if_pos h).symm.trans hf
        refine lv_iload_n hx hb dn_M_widthOfNumber_40 rfl (lv_at hl 2 rfl) ?_
        rw [hQQ, ← Option.some.inj hf]
        exact xk_iret (w1 := fun _ : Unit => (wM h0 a cI cB cJ cZ q_4.2)) () hx hb hr hlocks hK hS dn_M_widthOfNumber_41 hP hD rfl (Nat.le_refl _) (Nat.le_refl _)
      · have hf := (if_neg h).symm.trans hf
        refine lv_iload_n hx hb dn_M_widthOfNumber_20 rfl (lv_at hl 2 rfl) ?_
        refine lv_bipush (v := 10) hx hb dn_M_widthOfNumber_21 (by decide) ?_
        refine lv_imul hx hb dn_M_widthOfNumber_23 ?_
        refine lv_aload_n hx hb dn_M_widthOfNumber_24 rfl (lv_at hl 0 rfl) ?_
        refine lv_iload_n hx hb dn_M_widthOfNumber_25 rfl (lv_at hl 1 rfl) ?_
        obtain ⟨q_7, hc_8, hf⟩ := dc_b hf
        refine dc_calli (xk_runV (ar := 1) (As := [.int x2]) (rest := [.int ((x3 * 10))]) (ci := 0) (q0 := 0) ⟨hx, hb, hml, hown, hg⟩ hK hN (ct_M_at l dC dI cI cB cJ cZ cQ H.size h0 a x2 q_4.2 q_7 hc_8) hP hD rfl rfl wn_9_123 wn_9_125 sn_M_at wn_1_13 wn_9_126 rfl rfl (by decide +kernel) ⟨Nat.le_of_ble_eq_true rfl, Nat.le_of_ble_eq_true rfl⟩ rfl hl.1 rfl (Nat.le_of_ble_eq_true rfl) dn_M_widthOfNumber_26 ⟨Nat.le_of_ble_eq_true rfl, Nat.le_of_ble_eq_true rfl⟩) hP hD hS hA (fun r_9 _ H locs hw hP hD hS => ?_)
        have hw : r_9 = q_7.1 := hw
        subst hw
        refine lv_iadd hx hb dn_M_widthOfNumber_29 ?_
        refine lv_bipush (v := 48) hx hb dn_M_widthOfNumber_30 (by decide) ?_
        refine lv_isub hx hb dn_M_widthOfNumber_32 ?_
        refine lv_istore_n (lv' := [(3, .int ((((x3 * 10) + q_7.1) - 48))), (0, .ref h0), (2, .int x2)]) hx hb dn_M_widthOfNumber_33 rfl hl (by decide) rfl (fun ls hl => ?_)
        refine lv_iinc (v := (x2 + 1)) (lv' := [(2, .int ((x2 + 1))), (3, .int ((((x3 * 10) + q_7.1) - 48))), (0, .ref h0)]) hx hb dn_M_widthOfNumber_34 hl (k := 2) rfl (dc_inc (by decide)) (by decide) rfl (fun ls hl => ?_)
        refine lv_goto (tgt := 9) hx hb dn_M_widthOfNumber_37 (by decide) ?_
        exact hk_9 ((x2 + 1)) ((((x3 * 10) + q_7.1) - 48)) q_7.2 hf H locs ls hP hD hS (lv_sub hl [2, 0, 1] rfl)
  intro H locs ls hP hD hS hl
  unfold fn_M_widthOfNumber at hf
  refine lv_aload_n hx hb dn_M_widthOfNumber_0 rfl (lv_at hl 0 rfl) ?_
  refine va_get (D := (dC, dI)) (ci := 0) (v := .ref ((a 5))) (C := rn_M) (T := fn_M) (N := 91) hx hb hg in_M hown hK hP 0 rfl rfl 5 (by decide) (hg _ wn_8_73) (fun _ h9 => h9) rfl dn_M_widthOfNumber_1 ?_
  refine lv_iload_n hx hb dn_M_widthOfNumber_4 rfl (lv_at hl 1 rfl) ?_
  obtain ⟨hg_1, hf⟩ := dc_g hf
  refine va_iald hx hb hK hP 3 0 rfl rfl hg_1 dn_M_widthOfNumber_5 ?_
  refine xk_ti (y := ((s.1 5) (Int32.toNatClampNeg x1))) rfl ?_
  refine lv_istore_n (lv' := [(2, .int (((s.1 5) (Int32.toNatClampNeg x1)))), (0, .ref h0), (1, .int x1)]) hx hb dn_M_widthOfNumber_6 rfl hl (by decide) rfl (fun ls hl => ?_)
  refine lv_iconst (v := 0) hx hb dn_M_widthOfNumber_7 (by decide) ?_
  refine lv_istore_n (lv' := [(3, .int 0), (2, .int (((s.1 5) (Int32.toNatClampNeg x1)))), (0, .ref h0), (1, .int x1)]) hx hb dn_M_widthOfNumber_8 rfl hl (by decide) rfl (fun ls hl => ?_)
  exact hd_9 dc_N (((s.1 5) (Int32.toNatClampNeg x1))) 0 s hf H locs ls hP hD hS (lv_sub hl [2, 1, 0] rfl)
def bd_M_linkOf_8 (k_8 : Int32 → Int32 → Int32 → ms → Option (Int32 × ms)) (x2 : Int32) (x3 : Int32) (x4 : Int32) (s : ms) : Option (Int32 × ms) :=
  if x2 ≤ x4 then (some ((-1), s)) else (if (x4 < 0 ∨ 11000 ≤ Int32.toNatClampNeg x4) then none else if ((s.1 32) (Int32.toNatClampNeg x4)) = x3 then (some (x4, s)) else (k_8 x2 x3 ((x4 + 1)) s))
def hd_M_linkOf_8 : Nat → Int32 → Int32 → Int32 → ms → Option (Int32 × ms)
  | 0, _, _, _, _ => none
  | n + 1, x2, x3, x4, s => bd_M_linkOf_8 (hd_M_linkOf_8 n) x2 x3 x4 s
def fn_M_linkOf (x1 : Int32) (x2 : Int32) (x3 : Int32) (s : ms) : Option (Int32 × ms) :=
  if (x1 < 0 ∨ 11001 ≤ Int32.toNatClampNeg x1) then none else hd_M_linkOf_8 dc_N x2 x3 (((s.1 30) (Int32.toNatClampNeg x1))) s
set_option maxHeartbeats 8000000 in
set_option maxRecDepth 100000 in
theorem ct_M_linkOf (l : Launch) (dC : Nat → ClassId) (dI : Nat → Nat → Nat) (cI cB cJ cZ cQ : ClassId) (sz : Nat) (h0 : Nat) (a : Nat → Nat) (x1 : Int32) (x2 : Int32) (x3 : Int32) (s : ms) (y : (Int32 × ms)) (hf : fn_M_linkOf x1 x2 x3 s = some y) : Met l yn_M_linkOf (xw yn_M_linkOf bn_M_linkOf 5 (some .int)) ({ frames := 0, cells := 0, slots := 0, locals := 0 }) (xk_P (dC, dI) xcl (xt cI cB cJ cZ cQ) [.ref h0, .int x1, .int x2, .int x3] sz (wM h0 a cI cB cJ cZ s)) (xk_Qi (dC, dI) xcl (xt cI cB cJ cZ cQ) (fun (r : Int32) (_ : Unit) => r = y.1) (fun _ : Unit => (wM h0 a cI cB cJ cZ y.2)) (va_A (wM h0 a cI cB cJ cZ s) sz)) 0 0 (va_A (wM h0 a cI cB cJ cZ s) sz) := by
  refine xk_of (QA := xk_Qi (dC, dI) xcl (xt cI cB cJ cZ cQ) (fun (r : Int32) (_ : Unit) => r = y.1) (fun _ : Unit => (wM h0 a cI cB cJ cZ y.2))) (by decide) (Nat.le_of_ble_eq_true rfl) ?_
  intro p e s0 m below meth c hx hb hml hown hg hr hlocks hin hP hK hN A hA hD hS ls hl
  have hown : s0.vm.findClass rn_M = some m.cls := hown
  obtain ⟨H, hH⟩ : ∃ z, z = s0.heap := ⟨_, rfl⟩
  rw [← hH] at hP
  have hS : va_S A s0.heap H [] := by rw [hH]; exact va_S.rf
  suffices kk : ∀ QQ : State → Prop, QQ = MQ below (xk_Qi (dC, dI) xcl (xt cI cB cJ cZ cQ) (fun (r : Int32) (_ : Unit) => r = y.1) (fun _ : Unit => (wM h0 a cI cB cJ cZ y.2)) A) [.ref h0, .int x1, .int x2, .int x3].toArray s0 0 0 A → dcC p l e ({ frames := 0, cells := 0, slots := 0, locals := 0 }) s0 m [.ref h0, .int x1, .int x2, .int x3].toArray below meth c QQ (dC, dI) A (wM h0 a cI cB cJ cZ s) 0 5 [(0, .ref h0), (1, .int x1), (2, .int x2), (3, .int x3)] [] by
    have k9 := kk _ rfl H [] ls hP hD hS hl
    rw [hH] at k9; exact k9
  clear hP hD hS hl hH H ls
  intro QQ hQQ
  have hd_8 : ∀ (n : Nat) (x2 : Int32) (x3 : Int32) (x4 : Int32) (s : ms), hd_M_linkOf_8 n x2 x3 x4 s = some y → dcC p l e ({ frames := 0, cells := 0, slots := 0, locals := 0 }) s0 m [.ref h0, .int x1, .int x2, .int x3].toArray below meth c QQ (dC, dI) A (wM h0 a cI cB cJ cZ s) 8 5 [(0, .ref h0), (2, .int x2), (3, .int x3), (4, .int x4)] [] := by
    intro n
    induction n with
    | zero => intro x2 x3 x4 s hf; cases hf
    | succ n ih =>
      intro x2 x3 x4 s hf H locs ls hP hD hS hl
      have hf : bd_M_linkOf_8 (hd_M_linkOf_8 n) x2 x3 x4 s = some y := hf
      have hk_8 := ih
      generalize hd_M_linkOf_8 n = k_8 at hf hk_8
      unfold bd_M_linkOf_8 at hf
      refine lv_iload hx hb dn_M_linkOf_8 (lv_at hl 3 rfl) ?_
      refine lv_iload_n hx hb dn_M_linkOf_10 rfl (lv_at hl 1 rfl) ?_
      refine lv_icmp_ge (tgt := 34) hx hb dn_M_linkOf_11 (by decide) (fun h => ?_) (fun h => ?_)
      · have hf := (if_pos h).symm.trans hf
        refine lv_iconst (v := (-1)) hx hb dn_M_linkOf_34 (by decide) ?_
        rw [hQQ, ← Option.some.inj hf]
        exact xk_iret (w1 := fun _ : Unit => (wM h0 a cI cB cJ cZ s)) () hx hb hr hlocks hK hS dn_M_linkOf_35 hP hD rfl (Nat.le_refl _) (Nat.le_refl _)
      · have hf := (if_neg h).symm.trans hf
        refine lv_aload_n hx hb dn_M_linkOf_14 rfl (lv_at hl 0 rfl) ?_
        refine va_get (D := (dC, dI)) (ci := 0) (v := .ref ((a 32))) (C := rn_M) (T := fn_M) (N := 91) hx hb hg in_M hown hK hP 0 rfl rfl 32 (by decide) (hg _ wn_8_100) (fun _ h9 => h9) rfl dn_M_linkOf_15 ?_
        refine lv_iload hx hb dn_M_linkOf_18 (lv_at hl 3 rfl) ?_
        obtain ⟨hg_1, hf⟩ := dc_g hf
        refine va_iald hx hb hK hP 21 0 rfl rfl hg_1 dn_M_linkOf_20 ?_
        refine xk_ti (y := ((s.1 32) (Int32.toNatClampNeg x4))) rfl ?_
        refine lv_iload_n hx hb dn_M_linkOf_21 rfl (lv_at hl 2 rfl) ?_
        refine lv_icmp_ne (tgt := 28) hx hb dn_M_linkOf_22 (by decide) (fun h => ?_) (fun h => ?_)
        · have hf := (if_neg h).symm.trans hf
          refine lv_iinc (v := (x4 + 1)) (lv' := [(4, .int ((x4 + 1))), (0, .ref h0), (2, .int x2), (3, .int x3)]) hx hb dn_M_linkOf_28 hl (k := 3) rfl (dc_inc (by decide)) (by decide) rfl (fun ls hl => ?_)
          refine lv_goto (tgt := 8) hx hb dn_M_linkOf_31 (by decide) ?_
          exact hk_8 x2 x3 ((x4 + 1)) s hf H locs ls hP hD hS (lv_sub hl [1, 2, 3, 0] rfl)
        · have hf := (if_pos h).symm.trans hf
          refine lv_iload hx hb dn_M_linkOf_25 (lv_at hl 3 rfl) ?_
          rw [hQQ, ← Option.some.inj hf]
          exact xk_iret (w1 := fun _ : Unit => (wM h0 a cI cB cJ cZ s)) () hx hb hr hlocks hK hS dn_M_linkOf_27 hP hD rfl (Nat.le_refl _) (Nat.le_refl _)
  intro H locs ls hP hD hS hl
  unfold fn_M_linkOf at hf
  refine lv_aload_n hx hb dn_M_linkOf_0 rfl (lv_at hl 0 rfl) ?_
  refine va_get (D := (dC, dI)) (ci := 0) (v := .ref ((a 30))) (C := rn_M) (T := fn_M) (N := 91) hx hb hg in_M hown hK hP 0 rfl rfl 30 (by decide) (hg _ wn_8_98) (fun _ h9 => h9) rfl dn_M_linkOf_1 ?_
  refine lv_iload_n hx hb dn_M_linkOf_4 rfl (lv_at hl 1 rfl) ?_
  obtain ⟨hg_1, hf⟩ := dc_g hf
  refine va_iald hx hb hK hP 20 0 rfl rfl hg_1 dn_M_linkOf_5 ?_
  refine xk_ti (y := ((s.1 30) (Int32.toNatClampNeg x1))) rfl ?_
  refine lv_istore (lv' := [(4, .int (((s.1 30) (Int32.toNatClampNeg x1)))), (0, .ref h0), (1, .int x1), (2, .int x2), (3, .int x3)]) hx hb dn_M_linkOf_6 hl (by decide) rfl (fun ls hl => ?_)
  exact hd_8 dc_N x2 x3 (((s.1 30) (Int32.toNatClampNeg x1))) s hf H locs ls hP hD hS (lv_sub hl [1, 3, 4, 0] rfl)
def fn_M_isDriven (x1 : Int32) (s : ms) : Option (Int32 × ms) :=
  if (x1 < 0 ∨ 11000 ≤ Int32.toNatClampNeg x1) then none else if ((s.1 21) (Int32.toNatClampNeg x1)) = 1 then (some (1, s)) else (if (x1 < 0 ∨ 11000 ≤ Int32.toNatClampNeg x1) then none else if ((s.1 21) (Int32.toNatClampNeg x1)) = 3 then (some (1, s)) else (some (0, s)))
set_option maxHeartbeats 8000000 in
set_option maxRecDepth 100000 in
theorem ct_M_isDriven (l : Launch) (dC : Nat → ClassId) (dI : Nat → Nat → Nat) (cI cB cJ cZ cQ : ClassId) (sz : Nat) (h0 : Nat) (a : Nat → Nat) (x1 : Int32) (s : ms) (y : (Int32 × ms)) (hf : fn_M_isDriven x1 s = some y) : Met l yn_M_isDriven (xw yn_M_isDriven bn_M_isDriven 2 (some .boolean)) ({ frames := 0, cells := 0, slots := 0, locals := 0 }) (xk_P (dC, dI) xcl (xt cI cB cJ cZ cQ) [.ref h0, .int x1] sz (wM h0 a cI cB cJ cZ s)) (xk_Qi (dC, dI) xcl (xt cI cB cJ cZ cQ) (fun (r : Int32) (_ : Unit) => r = y.1) (fun _ : Unit => (wM h0 a cI cB cJ cZ y.2)) (va_A (wM h0 a cI cB cJ cZ s) sz)) 0 0 (va_A (wM h0 a cI cB cJ cZ s) sz) := by
  refine xk_of (QA := xk_Qi (dC, dI) xcl (xt cI cB cJ cZ cQ) (fun (r : Int32) (_ : Unit) => r = y.1) (fun _ : Unit => (wM h0 a cI cB cJ cZ y.2))) (by decide) (Nat.le_of_ble_eq_true rfl) ?_
  intro p e s0 m below meth c hx hb hml hown hg hr hlocks hin hP hK hN A hA hD hS ls hl
  have hown : s0.vm.findClass rn_M = some m.cls := hown
  obtain ⟨H, hH⟩ : ∃ z, z = s0.heap := ⟨_, rfl⟩
  rw [← hH] at hP
  have hS : va_S A s0.heap H [] := by rw [hH]; exact va_S.rf
  suffices kk : ∀ QQ : State → Prop, QQ = MQ below (xk_Qi (dC, dI) xcl (xt cI cB cJ cZ cQ) (fun (r : Int32) (_ : Unit) => r = y.1) (fun _ : Unit => (wM h0 a cI cB cJ cZ y.2)) A) [.ref h0, .int x1].toArray s0 0 0 A → dcC p l e ({ frames := 0, cells := 0, slots := 0, locals := 0 }) s0 m [.ref h0, .int x1].toArray below meth c QQ (dC, dI) A (wM h0 a cI cB cJ cZ s) 0 2 [(0, .ref h0), (1, .int x1)] [] by
    have k9 := kk _ rfl H [] ls hP hD hS hl
    rw [hH] at k9; exact k9
  clear hP hD hS hl hH H ls
  intro QQ hQQ
  intro H locs ls hP hD hS hl
  unfold fn_M_isDriven at hf
  refine lv_aload_n hx hb dn_M_isDriven_0 rfl (lv_at hl 0 rfl) ?_
  refine va_get (D := (dC, dI)) (ci := 0) (v := .ref ((a 21))) (C := rn_M) (T := fn_M) (N := 91) hx hb hg in_M hown hK hP 0 rfl rfl 21 (by decide) (hg _ wn_8_89) (fun _ h9 => h9) rfl dn_M_isDriven_1 ?_
  refine lv_iload_n hx hb dn_M_isDriven_4 rfl (lv_at hl 1 rfl) ?_
  obtain ⟨hg_1, hf⟩ := dc_g hf
  refine va_iald hx hb hK hP 12 0 rfl rfl hg_1 dn_M_isDriven_5 ?_
  refine xk_ti (y := ((s.1 21) (Int32.toNatClampNeg x1))) rfl ?_
  refine lv_iconst (v := 1) hx hb dn_M_isDriven_6 (by decide) ?_
  refine lv_icmp_eq (tgt := 20) hx hb dn_M_isDriven_7 (by decide) (fun h => ?_) (fun h => ?_)
  · have hf := (if_pos h).symm.trans hf
    refine lv_iconst (v := 1) hx hb dn_M_isDriven_20 (by decide) ?_
    refine lv_goto (tgt := 25) hx hb dn_M_isDriven_21 (by decide) ?_
    rw [hQQ, ← Option.some.inj hf]
    exact xk_zret (w1 := fun _ : Unit => (wM h0 a cI cB cJ cZ s)) () hx hb hr rfl hlocks hK hS dn_M_isDriven_25 hP hD rfl (Nat.le_refl _) (Nat.le_refl _)
  · have hf := (if_neg h).symm.trans hf
    refine lv_aload_n hx hb dn_M_isDriven_10 rfl (lv_at hl 0 rfl) ?_
    refine va_get (D := (dC, dI)) (ci := 0) (v := .ref ((a 21))) (C := rn_M) (T := fn_M) (N := 91) hx hb hg in_M hown hK hP 0 rfl rfl 21 (by decide) (hg _ wn_8_89) (fun _ h9 => h9) rfl dn_M_isDriven_11 ?_
    refine lv_iload_n hx hb dn_M_isDriven_14 rfl (lv_at hl 1 rfl) ?_
    obtain ⟨hg_2, hf⟩ := dc_g hf
    refine va_iald hx hb hK hP 12 0 rfl rfl hg_2 dn_M_isDriven_15 ?_
    refine xk_ti (y := ((s.1 21) (Int32.toNatClampNeg x1))) rfl ?_
    refine lv_iconst (v := 3) hx hb dn_M_isDriven_16 (by decide) ?_
    refine lv_icmp_ne (tgt := 24) hx hb dn_M_isDriven_17 (by decide) (fun h => ?_) (fun h => ?_)
    · have hf := (if_neg h).symm.trans hf
      refine lv_iconst (v := 0) hx hb dn_M_isDriven_24 (by decide) ?_
      rw [hQQ, ← Option.some.inj hf]
      exact xk_zret (w1 := fun _ : Unit => (wM h0 a cI cB cJ cZ s)) () hx hb hr rfl hlocks hK hS dn_M_isDriven_25 hP hD rfl (Nat.le_refl _) (Nat.le_refl _)
    · have hf := (if_pos h).symm.trans hf
      refine lv_iconst (v := 1) hx hb dn_M_isDriven_20 (by decide) ?_
      refine lv_goto (tgt := 25) hx hb dn_M_isDriven_21 (by decide) ?_
      rw [hQQ, ← Option.some.inj hf]
      exact xk_zret (w1 := fun _ : Unit => (wM h0 a cI cB cJ cZ s)) () hx hb hr rfl hlocks hK hS dn_M_isDriven_25 hP hD rfl (Nat.le_refl _) (Nat.le_refl _)
def fn_M_cost (x1 : Int64) (s : ms) : Option (Unit × ms) :=
  if ((s.1 12 0) < 0 ∨ 3600 ≤ Int32.toNatClampNeg ((s.1 12 0))) then none else if ((s.1 12 0) < 0 ∨ 3600 ≤ Int32.toNatClampNeg ((s.1 12 0))) then none else some ((), upJ s 45 (vp_updL (s.2 45) (Int32.toNatClampNeg ((s.1 12 0))) ((((s.2 45) (Int32.toNatClampNeg ((s.1 12 0)))) + x1))))
set_option maxHeartbeats 8000000 in
set_option maxRecDepth 100000 in
theorem ct_M_cost (l : Launch) (dC : Nat → ClassId) (dI : Nat → Nat → Nat) (cI cB cJ cZ cQ : ClassId) (sz : Nat) (h0 : Nat) (a : Nat → Nat) (x1 : Int64) (s : ms) (y : (Unit × ms)) (hf : fn_M_cost x1 s = some y) : Met l yn_M_cost (xw yn_M_cost bn_M_cost 3 none) ({ frames := 0, cells := 0, slots := 0, locals := 0 }) (xk_P (dC, dI) xcl (xt cI cB cJ cZ cQ) [.ref h0, .long x1] sz (wM h0 a cI cB cJ cZ s)) (xk_Qv (dC, dI) xcl (xt cI cB cJ cZ cQ) (fun _ : Unit => True) (fun _ : Unit => (wM h0 a cI cB cJ cZ y.2)) (va_A (wM h0 a cI cB cJ cZ s) sz)) 0 0 (va_A (wM h0 a cI cB cJ cZ s) sz) := by
  refine xk_of (QA := xk_Qv (dC, dI) xcl (xt cI cB cJ cZ cQ) (fun _ : Unit => True) (fun _ : Unit => (wM h0 a cI cB cJ cZ y.2))) (by decide) (Nat.le_of_ble_eq_true rfl) ?_
  intro p e s0 m below meth c hx hb hml hown hg hr hlocks hin hP hK hN A hA hD hS ls hl
  have hown : s0.vm.findClass rn_M = some m.cls := hown
  obtain ⟨H, hH⟩ : ∃ z, z = s0.heap := ⟨_, rfl⟩
  rw [← hH] at hP
  have hS : va_S A s0.heap H [] := by rw [hH]; exact va_S.rf
  suffices kk : ∀ QQ : State → Prop, QQ = MQ below (xk_Qv (dC, dI) xcl (xt cI cB cJ cZ cQ) (fun _ : Unit => True) (fun _ : Unit => (wM h0 a cI cB cJ cZ y.2)) A) [.ref h0, .long x1].toArray s0 0 0 A → dcC p l e ({ frames := 0, cells := 0, slots := 0, locals := 0 }) s0 m [.ref h0, .long x1].toArray below meth c QQ (dC, dI) A (wM h0 a cI cB cJ cZ s) 0 3 [(0, .ref h0), (1, .long x1)] [] by
    have k9 := kk _ rfl H [] ls hP hD hS hl
    rw [hH] at k9; exact k9
  clear hP hD hS hl hH H ls
  intro QQ hQQ
  intro H locs ls hP hD hS hl
  unfold fn_M_cost at hf
  refine lv_aload_n hx hb dn_M_cost_0 rfl (lv_at hl 0 rfl) ?_
  refine va_get (D := (dC, dI)) (ci := 0) (v := .ref ((a 45))) (C := rn_M) (T := fn_M) (N := 91) hx hb hg in_M hown hK hP 0 rfl rfl 45 (by decide) (hg _ wn_8_113) (fun _ h9 => h9) rfl dn_M_cost_1 ?_
  refine lv_aload_n hx hb dn_M_cost_4 rfl (lv_at hl 0 rfl) ?_
  refine va_get (D := (dC, dI)) (ci := 0) (v := .int ((s.1 12 0))) (C := rn_M) (T := fn_M) (N := 91) hx hb hg in_M hown hK hP 0 rfl rfl 12 (by decide) (hg _ wn_8_80) (fun _ h9 => h9) rfl dn_M_cost_5 ?_
  refine lv_aload_n hx hb dn_M_cost_8 rfl (lv_at hl 0 rfl) ?_
  refine va_get (D := (dC, dI)) (ci := 0) (v := .ref ((a 45))) (C := rn_M) (T := fn_M) (N := 91) hx hb hg in_M hown hK hP 0 rfl rfl 45 (by decide) (hg _ wn_8_113) (fun _ h9 => h9) rfl dn_M_cost_9 ?_
  refine lv_aload_n hx hb dn_M_cost_12 rfl (lv_at hl 0 rfl) ?_
  refine va_get (D := (dC, dI)) (ci := 0) (v := .int ((s.1 12 0))) (C := rn_M) (T := fn_M) (N := 91) hx hb hg in_M hown hK hP 0 rfl rfl 12 (by decide) (hg _ wn_8_80) (fun _ h9 => h9) rfl dn_M_cost_13 ?_
  obtain ⟨hg_1, hf⟩ := dc_g hf
  refine va_lald hx hb hK hP 30 2 rfl rfl hg_1 dn_M_cost_16 ?_
  refine xk_tl (y := ((s.2 45) (Int32.toNatClampNeg ((s.1 12 0))))) rfl ?_
  refine lv_lload_n hx hb dn_M_cost_17 rfl (lv_at hl 1 rfl) ?_
  refine lv_ladd hx hb dn_M_cost_18 ?_
  obtain ⟨hg_2, hf⟩ := dc_g hf
  refine va_last hx hb hK hP hD hS 30 2 rfl rfl hg_2 dn_M_cost_19 (fun H locs hP hD hS => ?_)
  have hP : va_P (dC, dI) xcl (wM h0 a cI cB cJ cZ (upJ s 45 (vp_updL (s.2 45) (Int32.toNatClampNeg ((s.1 12 0))) ((((s.2 45) (Int32.toNatClampNeg ((s.1 12 0)))) + x1))))) H := hP
  have hD : va_D A (wM h0 a cI cB cJ cZ (upJ s 45 (vp_updL (s.2 45) (Int32.toNatClampNeg ((s.1 12 0))) ((((s.2 45) (Int32.toNatClampNeg ((s.1 12 0)))) + x1))))) := hD
  rw [hQQ, ← Option.some.inj hf]
  exact xk_vret (w1 := fun _ : Unit => (wM h0 a cI cB cJ cZ (upJ s 45 (vp_updL (s.2 45) (Int32.toNatClampNeg ((s.1 12 0))) ((((s.2 45) (Int32.toNatClampNeg ((s.1 12 0)))) + x1)))))) () hx hb hr hlocks hK hS dn_M_cost_20 hP hD trivial (Nat.le_refl _) (Nat.le_refl _)
def fn_M_pushWidth (x1 : Int32) (s : ms) : Option (Unit × ms) :=
  if ((s.1 53 0) < 0 ∨ 4096 ≤ Int32.toNatClampNeg ((s.1 53 0))) then none else some ((), upI (upI s 52 (upd (s.1 52) (Int32.toNatClampNeg ((s.1 53 0))) x1)) 53 (fun _ => ((s.1 53 0) + 1)))
set_option maxHeartbeats 8000000 in
set_option maxRecDepth 100000 in
theorem ct_M_pushWidth (l : Launch) (dC : Nat → ClassId) (dI : Nat → Nat → Nat) (cI cB cJ cZ cQ : ClassId) (sz : Nat) (h0 : Nat) (a : Nat → Nat) (x1 : Int32) (s : ms) (y : (Unit × ms)) (hf : fn_M_pushWidth x1 s = some y) : Met l yn_M_pushWidth (xw yn_M_pushWidth bn_M_pushWidth 2 none) ({ frames := 0, cells := 0, slots := 0, locals := 0 }) (xk_P (dC, dI) xcl (xt cI cB cJ cZ cQ) [.ref h0, .int x1] sz (wM h0 a cI cB cJ cZ s)) (xk_Qv (dC, dI) xcl (xt cI cB cJ cZ cQ) (fun _ : Unit => True) (fun _ : Unit => (wM h0 a cI cB cJ cZ y.2)) (va_A (wM h0 a cI cB cJ cZ s) sz)) 0 0 (va_A (wM h0 a cI cB cJ cZ s) sz) := by
  refine xk_of (QA := xk_Qv (dC, dI) xcl (xt cI cB cJ cZ cQ) (fun _ : Unit => True) (fun _ : Unit => (wM h0 a cI cB cJ cZ y.2))) (by decide) (Nat.le_of_ble_eq_true rfl) ?_
  intro p e s0 m below meth c hx hb hml hown hg hr hlocks hin hP hK hN A hA hD hS ls hl
  have hown : s0.vm.findClass rn_M = some m.cls := hown
  obtain ⟨H, hH⟩ : ∃ z, z = s0.heap := ⟨_, rfl⟩
  rw [← hH] at hP
  have hS : va_S A s0.heap H [] := by rw [hH]; exact va_S.rf
  suffices kk : ∀ QQ : State → Prop, QQ = MQ below (xk_Qv (dC, dI) xcl (xt cI cB cJ cZ cQ) (fun _ : Unit => True) (fun _ : Unit => (wM h0 a cI cB cJ cZ y.2)) A) [.ref h0, .int x1].toArray s0 0 0 A → dcC p l e ({ frames := 0, cells := 0, slots := 0, locals := 0 }) s0 m [.ref h0, .int x1].toArray below meth c QQ (dC, dI) A (wM h0 a cI cB cJ cZ s) 0 2 [(0, .ref h0), (1, .int x1)] [] by
    have k9 := kk _ rfl H [] ls hP hD hS hl
    rw [hH] at k9; exact k9
  clear hP hD hS hl hH H ls
  intro QQ hQQ
  intro H locs ls hP hD hS hl
  unfold fn_M_pushWidth at hf
  refine lv_aload_n hx hb dn_M_pushWidth_0 rfl (lv_at hl 0 rfl) ?_
  refine va_get (D := (dC, dI)) (ci := 0) (v := .ref ((a 52))) (C := rn_M) (T := fn_M) (N := 91) hx hb hg in_M hown hK hP 0 rfl rfl 52 (by decide) (hg _ wn_8_120) (fun _ h9 => h9) rfl dn_M_pushWidth_1 ?_
  refine lv_aload_n hx hb dn_M_pushWidth_4 rfl (lv_at hl 0 rfl) ?_
  refine va_get (D := (dC, dI)) (ci := 0) (v := .int ((s.1 53 0))) (C := rn_M) (T := fn_M) (N := 91) hx hb hg in_M hown hK hP 0 rfl rfl 53 (by decide) (hg _ wn_8_121) (fun _ h9 => h9) rfl dn_M_pushWidth_5 ?_
  refine lv_iload_n hx hb dn_M_pushWidth_8 rfl (lv_at hl 1 rfl) ?_
  obtain ⟨hg_1, hf⟩ := dc_g hf
  refine va_iast hx hb hK hP hD hS 36 0 rfl rfl hg_1 dn_M_pushWidth_9 (fun H locs hP hD hS => ?_)
  have hP : va_P (dC, dI) xcl (wM h0 a cI cB cJ cZ (upI s 52 (upd (s.1 52) (Int32.toNatClampNeg ((s.1 53 0))) x1))) H := hP
  have hD : va_D A (wM h0 a cI cB cJ cZ (upI s 52 (upd (s.1 52) (Int32.toNatClampNeg ((s.1 53 0))) x1))) := hD
  refine lv_aload_n hx hb dn_M_pushWidth_10 rfl (lv_at hl 0 rfl) ?_
  refine lv_dup hx hb dn_M_pushWidth_11 rfl ?_
  refine va_get (D := (dC, dI)) (ci := 0) (v := .int ((s.1 53 0))) (C := rn_M) (T := fn_M) (N := 91) hx hb hg in_M hown hK hP 0 rfl rfl 53 (by decide) (hg _ wn_8_121) (fun _ h9 => h9) rfl dn_M_pushWidth_12 ?_
  refine lv_iconst (v := 1) hx hb dn_M_pushWidth_15 (by decide) ?_
  refine lv_iadd hx hb dn_M_pushWidth_16 ?_
  refine va_put (D := (dC, dI)) (ci := 0) (v := .int (((s.1 53 0) + 1))) (ty := .int) (C := rn_M) (T := fn_M) (N := 91) hx hb hg in_M tn_M tk_M nn_M hown hK hP hD hS 0 rfl rfl 53 (by decide) (hg _ wn_8_121) (fun _ h9 => h9) rfl (tk_M 53 (by decide)) rfl rfl (Nat.le_of_ble_eq_true rfl) dn_M_pushWidth_17 (fun H locs hP hD hS => ?_)
  have hP : va_P (dC, dI) xcl (wM h0 a cI cB cJ cZ (upI (upI s 52 (upd (s.1 52) (Int32.toNatClampNeg ((s.1 53 0))) x1)) 53 (fun _ => ((s.1 53 0) + 1)))) H := hP
  have hD : va_D A (wM h0 a cI cB cJ cZ (upI (upI s 52 (upd (s.1 52) (Int32.toNatClampNeg ((s.1 53 0))) x1)) 53 (fun _ => ((s.1 53 0) + 1)))) := hD
  rw [hQQ, ← Option.some.inj hf]
  exact xk_vret (w1 := fun _ : Unit => (wM h0 a cI cB cJ cZ (upI (upI s 52 (upd (s.1 52) (Int32.toNatClampNeg ((s.1 53 0))) x1)) 53 (fun _ => ((s.1 53 0) + 1))))) () hx hb hr hlocks hK hS dn_M_pushWidth_20 hP hD trivial (Nat.le_refl _) (Nat.le_refl _)
def fn_M_isRegister (x1 : Int32) (s : ms) : Option (Int32 × ms) :=
  if (x1 < 0 ∨ 11000 ≤ Int32.toNatClampNeg x1) then none else if ((s.1 21) (Int32.toNatClampNeg x1)) = 2 then (some (1, s)) else (if (x1 < 0 ∨ 11000 ≤ Int32.toNatClampNeg x1) then none else if ((s.1 21) (Int32.toNatClampNeg x1)) = 4 then (some (1, s)) else (some (0, s)))
set_option maxHeartbeats 8000000 in
set_option maxRecDepth 100000 in
theorem ct_M_isRegister (l : Launch) (dC : Nat → ClassId) (dI : Nat → Nat → Nat) (cI cB cJ cZ cQ : ClassId) (sz : Nat) (h0 : Nat) (a : Nat → Nat) (x1 : Int32) (s : ms) (y : (Int32 × ms)) (hf : fn_M_isRegister x1 s = some y) : Met l yn_M_isRegister (xw yn_M_isRegister bn_M_isRegister 2 (some .boolean)) ({ frames := 0, cells := 0, slots := 0, locals := 0 }) (xk_P (dC, dI) xcl (xt cI cB cJ cZ cQ) [.ref h0, .int x1] sz (wM h0 a cI cB cJ cZ s)) (xk_Qi (dC, dI) xcl (xt cI cB cJ cZ cQ) (fun (r : Int32) (_ : Unit) => r = y.1) (fun _ : Unit => (wM h0 a cI cB cJ cZ y.2)) (va_A (wM h0 a cI cB cJ cZ s) sz)) 0 0 (va_A (wM h0 a cI cB cJ cZ s) sz) := by
  refine xk_of (QA := xk_Qi (dC, dI) xcl (xt cI cB cJ cZ cQ) (fun (r : Int32) (_ : Unit) => r = y.1) (fun _ : Unit => (wM h0 a cI cB cJ cZ y.2))) (by decide) (Nat.le_of_ble_eq_true rfl) ?_
  intro p e s0 m below meth c hx hb hml hown hg hr hlocks hin hP hK hN A hA hD hS ls hl
  have hown : s0.vm.findClass rn_M = some m.cls := hown
  obtain ⟨H, hH⟩ : ∃ z, z = s0.heap := ⟨_, rfl⟩
  rw [← hH] at hP
  have hS : va_S A s0.heap H [] := by rw [hH]; exact va_S.rf
  suffices kk : ∀ QQ : State → Prop, QQ = MQ below (xk_Qi (dC, dI) xcl (xt cI cB cJ cZ cQ) (fun (r : Int32) (_ : Unit) => r = y.1) (fun _ : Unit => (wM h0 a cI cB cJ cZ y.2)) A) [.ref h0, .int x1].toArray s0 0 0 A → dcC p l e ({ frames := 0, cells := 0, slots := 0, locals := 0 }) s0 m [.ref h0, .int x1].toArray below meth c QQ (dC, dI) A (wM h0 a cI cB cJ cZ s) 0 2 [(0, .ref h0), (1, .int x1)] [] by
    have k9 := kk _ rfl H [] ls hP hD hS hl
    rw [hH] at k9; exact k9
  clear hP hD hS hl hH H ls
  intro QQ hQQ
  intro H locs ls hP hD hS hl
  unfold fn_M_isRegister at hf
  refine lv_aload_n hx hb dn_M_isRegister_0 rfl (lv_at hl 0 rfl) ?_
  refine va_get (D := (dC, dI)) (ci := 0) (v := .ref ((a 21))) (C := rn_M) (T := fn_M) (N := 91) hx hb hg in_M hown hK hP 0 rfl rfl 21 (by decide) (hg _ wn_8_89) (fun _ h9 => h9) rfl dn_M_isRegister_1 ?_
  refine lv_iload_n hx hb dn_M_isRegister_4 rfl (lv_at hl 1 rfl) ?_
  obtain ⟨hg_1, hf⟩ := dc_g hf
  refine va_iald hx hb hK hP 12 0 rfl rfl hg_1 dn_M_isRegister_5 ?_
  refine xk_ti (y := ((s.1 21) (Int32.toNatClampNeg x1))) rfl ?_
  refine lv_iconst (v := 2) hx hb dn_M_isRegister_6 (by decide) ?_
  refine lv_icmp_eq (tgt := 20) hx hb dn_M_isRegister_7 (by decide) (fun h => ?_) (fun h => ?_)
  · have hf := (if_pos h).symm.trans hf
    refine lv_iconst (v := 1) hx hb dn_M_isRegister_20 (by decide) ?_
    refine lv_goto (tgt := 25) hx hb dn_M_isRegister_21 (by decide) ?_
    rw [hQQ, ← Option.some.inj hf]
    exact xk_zret (w1 := fun _ : Unit => (wM h0 a cI cB cJ cZ s)) () hx hb hr rfl hlocks hK hS dn_M_isRegister_25 hP hD rfl (Nat.le_refl _) (Nat.le_refl _)
  · have hf := (if_neg h).symm.trans hf
    refine lv_aload_n hx hb dn_M_isRegister_10 rfl (lv_at hl 0 rfl) ?_
    refine va_get (D := (dC, dI)) (ci := 0) (v := .ref ((a 21))) (C := rn_M) (T := fn_M) (N := 91) hx hb hg in_M hown hK hP 0 rfl rfl 21 (by decide) (hg _ wn_8_89) (fun _ h9 => h9) rfl dn_M_isRegister_11 ?_
    refine lv_iload_n hx hb dn_M_isRegister_14 rfl (lv_at hl 1 rfl) ?_
    obtain ⟨hg_2, hf⟩ := dc_g hf
    refine va_iald hx hb hK hP 12 0 rfl rfl hg_2 dn_M_isRegister_15 ?_
    refine xk_ti (y := ((s.1 21) (Int32.toNatClampNeg x1))) rfl ?_
    refine lv_iconst (v := 4) hx hb dn_M_isRegister_16 (by decide) ?_
    refine lv_icmp_ne (tgt := 24) hx hb dn_M_isRegister_17 (by decide) (fun h => ?_) (fun h => ?_)
    · have hf := (if_neg h).symm.trans hf
      refine lv_iconst (v := 0) hx hb dn_M_isRegister_24 (by decide) ?_
      rw [hQQ, ← Option.some.inj hf]
      exact xk_zret (w1 := fun _ : Unit => (wM h0 a cI cB cJ cZ s)) () hx hb hr rfl hlocks hK hS dn_M_isRegister_25 hP hD rfl (Nat.le_refl _) (Nat.le_refl _)
    · have hf := (if_pos h).symm.trans hf
      refine lv_iconst (v := 1) hx hb dn_M_isRegister_20 (by decide) ?_
      refine lv_goto (tgt := 25) hx hb dn_M_isRegister_21 (by decide) ?_
      rw [hQQ, ← Option.some.inj hf]
      exact xk_zret (w1 := fun _ : Unit => (wM h0 a cI cB cJ cZ s)) () hx hb hr rfl hlocks hK hS dn_M_isRegister_25 hP hD rfl (Nat.le_refl _) (Nat.le_refl _)
def bd_M_patch_2 (k_2 : Int32 → ms → Option (Unit × ms)) (x2 : Int32) (s : ms) : Option (Unit × ms) :=
  if x2 < 0 then (some ((), s)) else (if ((x2 + 1) < 0 ∨ 4096 ≤ Int32.toNatClampNeg ((x2 + 1))) then none else if ((x2 + 1) < 0 ∨ 4096 ≤ Int32.toNatClampNeg ((x2 + 1))) then none else k_2 (((s.1 41) (Int32.toNatClampNeg ((x2 + 1))))) (upI s 41 (upd (s.1 41) (Int32.toNatClampNeg ((x2 + 1))) ((s.1 42 0)))))
def hd_M_patch_2 : Nat → Int32 → ms → Option (Unit × ms)
  | 0, _, _ => none
  | n + 1, x2, s => bd_M_patch_2 (hd_M_patch_2 n) x2 s
def fn_M_patch (x1 : Int32) (s : ms) : Option (Unit × ms) :=
  hd_M_patch_2 dc_N x1 s
set_option maxHeartbeats 8000000 in
set_option maxRecDepth 100000 in
theorem ct_M_patch (l : Launch) (dC : Nat → ClassId) (dI : Nat → Nat → Nat) (cI cB cJ cZ cQ : ClassId) (sz : Nat) (h0 : Nat) (a : Nat → Nat) (x1 : Int32) (s : ms) (y : (Unit × ms)) (hf : fn_M_patch x1 s = some y) : Met l yn_M_patch (xw yn_M_patch bn_M_patch 4 none) ({ frames := 0, cells := 0, slots := 0, locals := 0 }) (xk_P (dC, dI) xcl (xt cI cB cJ cZ cQ) [.ref h0, .int x1] sz (wM h0 a cI cB cJ cZ s)) (xk_Qv (dC, dI) xcl (xt cI cB cJ cZ cQ) (fun _ : Unit => True) (fun _ : Unit => (wM h0 a cI cB cJ cZ y.2)) (va_A (wM h0 a cI cB cJ cZ s) sz)) 0 0 (va_A (wM h0 a cI cB cJ cZ s) sz) := by
  refine xk_of (QA := xk_Qv (dC, dI) xcl (xt cI cB cJ cZ cQ) (fun _ : Unit => True) (fun _ : Unit => (wM h0 a cI cB cJ cZ y.2))) (by decide) (Nat.le_of_ble_eq_true rfl) ?_
  intro p e s0 m below meth c hx hb hml hown hg hr hlocks hin hP hK hN A hA hD hS ls hl
  have hown : s0.vm.findClass rn_M = some m.cls := hown
  obtain ⟨H, hH⟩ : ∃ z, z = s0.heap := ⟨_, rfl⟩
  rw [← hH] at hP
  have hS : va_S A s0.heap H [] := by rw [hH]; exact va_S.rf
  suffices kk : ∀ QQ : State → Prop, QQ = MQ below (xk_Qv (dC, dI) xcl (xt cI cB cJ cZ cQ) (fun _ : Unit => True) (fun _ : Unit => (wM h0 a cI cB cJ cZ y.2)) A) [.ref h0, .int x1].toArray s0 0 0 A → dcC p l e ({ frames := 0, cells := 0, slots := 0, locals := 0 }) s0 m [.ref h0, .int x1].toArray below meth c QQ (dC, dI) A (wM h0 a cI cB cJ cZ s) 0 4 [(0, .ref h0), (1, .int x1)] [] by
    have k9 := kk _ rfl H [] ls hP hD hS hl
    rw [hH] at k9; exact k9
  clear hP hD hS hl hH H ls
  intro QQ hQQ
  have hd_2 : ∀ (n : Nat) (x2 : Int32) (s : ms), hd_M_patch_2 n x2 s = some y → dcC p l e ({ frames := 0, cells := 0, slots := 0, locals := 0 }) s0 m [.ref h0, .int x1].toArray below meth c QQ (dC, dI) A (wM h0 a cI cB cJ cZ s) 2 4 [(0, .ref h0), (2, .int x2)] [] := by
    intro n
    induction n with
    | zero => intro x2 s hf; cases hf
    | succ n ih =>
      intro x2 s hf H locs ls hP hD hS hl
      have hf : bd_M_patch_2 (hd_M_patch_2 n) x2 s = some y := hf
      have hk_2 := ih
      generalize hd_M_patch_2 n = k_2 at hf hk_2
      unfold bd_M_patch_2 at hf
      refine lv_iload_n hx hb dn_M_patch_2 rfl (lv_at hl 1 rfl) ?_
      refine lv_if_lt (tgt := 32) hx hb dn_M_patch_3 (by decide) (fun h => ?_) (fun h => ?_)
      · have hf := (if_pos h).symm.trans hf
        rw [hQQ, ← Option.some.inj hf]
        exact xk_vret (w1 := fun _ : Unit => (wM h0 a cI cB cJ cZ s)) () hx hb hr hlocks hK hS dn_M_patch_32 hP hD trivial (Nat.le_refl _) (Nat.le_refl _)
      · have hf := (if_neg h).symm.trans hf
        refine lv_aload_n hx hb dn_M_patch_6 rfl (lv_at hl 0 rfl) ?_
        refine va_get (D := (dC, dI)) (ci := 0) (v := .ref ((a 41))) (C := rn_M) (T := fn_M) (N := 91) hx hb hg in_M hown hK hP 0 rfl rfl 41 (by decide) (hg _ wn_8_109) (fun _ h9 => h9) rfl dn_M_patch_7 ?_
        refine lv_iload_n hx hb dn_M_patch_10 rfl (lv_at hl 1 rfl) ?_
        refine lv_iconst (v := 1) hx hb dn_M_patch_11 (by decide) ?_
        refine lv_iadd hx hb dn_M_patch_12 ?_
        obtain ⟨hg_1, hf⟩ := dc_g hf
        refine va_iald hx hb hK hP 28 0 rfl rfl hg_1 dn_M_patch_13 ?_
        refine xk_ti (y := ((s.1 41) (Int32.toNatClampNeg ((x2 + 1))))) rfl ?_
        refine lv_istore_n (lv' := [(3, .int (((s.1 41) (Int32.toNatClampNeg ((x2 + 1)))))), (0, .ref h0), (2, .int x2)]) hx hb dn_M_patch_14 rfl hl (by decide) rfl (fun ls hl => ?_)
        refine lv_aload_n hx hb dn_M_patch_15 rfl (lv_at hl 1 rfl) ?_
        refine va_get (D := (dC, dI)) (ci := 0) (v := .ref ((a 41))) (C := rn_M) (T := fn_M) (N := 91) hx hb hg in_M hown hK hP 0 rfl rfl 41 (by decide) (hg _ wn_8_109) (fun _ h9 => h9) rfl dn_M_patch_16 ?_
        refine lv_iload_n hx hb dn_M_patch_19 rfl (lv_at hl 2 rfl) ?_
        refine lv_iconst (v := 1) hx hb dn_M_patch_20 (by decide) ?_
        refine lv_iadd hx hb dn_M_patch_21 ?_
        refine lv_aload_n hx hb dn_M_patch_22 rfl (lv_at hl 1 rfl) ?_
        refine va_get (D := (dC, dI)) (ci := 0) (v := .int ((s.1 42 0))) (C := rn_M) (T := fn_M) (N := 91) hx hb hg in_M hown hK hP 0 rfl rfl 42 (by decide) (hg _ wn_8_110) (fun _ h9 => h9) rfl dn_M_patch_23 ?_
        obtain ⟨hg_2, hf⟩ := dc_g hf
        refine va_iast hx hb hK hP hD hS 28 0 rfl rfl hg_2 dn_M_patch_26 (fun H locs hP hD hS => ?_)
        have hP : va_P (dC, dI) xcl (wM h0 a cI cB cJ cZ (upI s 41 (upd (s.1 41) (Int32.toNatClampNeg ((x2 + 1))) ((s.1 42 0))))) H := hP
        have hD : va_D A (wM h0 a cI cB cJ cZ (upI s 41 (upd (s.1 41) (Int32.toNatClampNeg ((x2 + 1))) ((s.1 42 0))))) := hD
        refine lv_iload_n hx hb dn_M_patch_27 rfl (lv_at hl 0 rfl) ?_
        refine lv_istore_n (lv' := [(2, .int (((s.1 41) (Int32.toNatClampNeg ((x2 + 1)))))), (3, .int (((s.1 41) (Int32.toNatClampNeg ((x2 + 1)))))), (0, .ref h0)]) hx hb dn_M_patch_28 rfl hl (by decide) rfl (fun ls hl => ?_)
        refine lv_goto (tgt := 2) hx hb dn_M_patch_29 (by decide) ?_
        exact hk_2 (((s.1 41) (Int32.toNatClampNeg ((x2 + 1))))) (upI s 41 (upd (s.1 41) (Int32.toNatClampNeg ((x2 + 1))) ((s.1 42 0)))) hf H locs ls hP hD hS (lv_sub hl [2, 0] rfl)
  intro H locs ls hP hD hS hl
  unfold fn_M_patch at hf
  refine lv_iload_n hx hb dn_M_patch_0 rfl (lv_at hl 1 rfl) ?_
  refine lv_istore_n (lv' := [(2, .int x1), (0, .ref h0), (1, .int x1)]) hx hb dn_M_patch_1 rfl hl (by decide) rfl (fun ls hl => ?_)
  exact hd_2 dc_N x1 s hf H locs ls hP hD hS (lv_sub hl [1, 0] rfl)
def fn_M_most (x0 : Int64) (s : ms) : Option (Int64 × ms) :=
  if (lg_cmp x0 1000000000) ≤ 0 then (some (x0, s)) else (some (1000000000, s))
set_option maxHeartbeats 8000000 in
set_option maxRecDepth 100000 in
theorem ct_M_most (l : Launch) (dC : Nat → ClassId) (dI : Nat → Nat → Nat) (cI cB cJ cZ cQ : ClassId) (sz : Nat) (h0 : Nat) (a : Nat → Nat) (x0 : Int64) (s : ms) (y : (Int64 × ms)) (hf : fn_M_most x0 s = some y) : Met l yn_M_most (xw yn_M_most bn_M_most 2 (some .long)) ({ frames := 0, cells := 0, slots := 0, locals := 0 }) (xk_P (dC, dI) xcl (xt cI cB cJ cZ cQ) [.long x0] sz (wM h0 a cI cB cJ cZ s)) (xk_Ql (dC, dI) xcl (xt cI cB cJ cZ cQ) (fun (r : Int64) (_ : Unit) => r = y.1) (fun _ : Unit => (wM h0 a cI cB cJ cZ y.2)) (va_A (wM h0 a cI cB cJ cZ s) sz)) 0 0 (va_A (wM h0 a cI cB cJ cZ s) sz) := by
  refine xk_of (QA := xk_Ql (dC, dI) xcl (xt cI cB cJ cZ cQ) (fun (r : Int64) (_ : Unit) => r = y.1) (fun _ : Unit => (wM h0 a cI cB cJ cZ y.2))) (by decide) (Nat.le_of_ble_eq_true rfl) ?_
  intro p e s0 m below meth c hx hb hml hown hg hr hlocks hin hP hK hN A hA hD hS ls hl
  have hown : s0.vm.findClass rn_M = some m.cls := hown
  obtain ⟨H, hH⟩ : ∃ z, z = s0.heap := ⟨_, rfl⟩
  rw [← hH] at hP
  have hS : va_S A s0.heap H [] := by rw [hH]; exact va_S.rf
  suffices kk : ∀ QQ : State → Prop, QQ = MQ below (xk_Ql (dC, dI) xcl (xt cI cB cJ cZ cQ) (fun (r : Int64) (_ : Unit) => r = y.1) (fun _ : Unit => (wM h0 a cI cB cJ cZ y.2)) A) [.long x0].toArray s0 0 0 A → dcC p l e ({ frames := 0, cells := 0, slots := 0, locals := 0 }) s0 m [.long x0].toArray below meth c QQ (dC, dI) A (wM h0 a cI cB cJ cZ s) 0 2 [(0, .long x0)] [] by
    have k9 := kk _ rfl H [] ls hP hD hS hl
    rw [hH] at k9; exact k9
  clear hP hD hS hl hH H ls
  intro QQ hQQ
  intro H locs ls hP hD hS hl
  unfold fn_M_most at hf
  refine lv_lload_n hx hb dn_M_most_0 rfl (lv_at hl 0 rfl) ?_
  refine lv_ldc2 hx hb hown (hg _ wn_10_151) dn_M_most_1 ?_
  refine W.lcmp hx hb dn_M_most_4 ?_
  refine lv_if_le (tgt := 14) hx hb dn_M_most_5 (by decide) (fun h => ?_) (fun h => ?_)
  · have hf := (if_pos h).symm.trans hf
    refine lv_lload_n hx hb dn_M_most_14 rfl (lv_at hl 0 rfl) ?_
    rw [hQQ, ← Option.some.inj hf]
    exact xk_lret (w1 := fun _ : Unit => (wM h0 a cI cB cJ cZ s)) () hx hb hr hlocks hK hS dn_M_most_15 hP hD rfl (Nat.le_refl _) (Nat.le_refl _)
  · have hf := (if_neg h).symm.trans hf
    refine lv_ldc2 hx hb hown (hg _ wn_10_151) dn_M_most_8 ?_
    refine lv_goto (tgt := 15) hx hb dn_M_most_11 (by decide) ?_
    rw [hQQ, ← Option.some.inj hf]
    exact xk_lret (w1 := fun _ : Unit => (wM h0 a cI cB cJ cZ s)) () hx hb hr hlocks hK hS dn_M_most_15 hP hD rfl (Nat.le_refl _) (Nat.le_refl _)
def fn_M_bound (x1 : Int32) (x2 : Int32) (x3 : Int32) (s : ms) : Option (Unit × ms) :=
  if x1 = 0 then ((fn_M_fail x2 x3 s).bind (fun q_1 => some ((), q_1.2))) else (some ((), s))
set_option maxHeartbeats 8000000 in
set_option maxRecDepth 100000 in
theorem ct_M_bound (l : Launch) (dC : Nat → ClassId) (dI : Nat → Nat → Nat) (cI cB cJ cZ cQ : ClassId) (sz : Nat) (h0 : Nat) (a : Nat → Nat) (x1 : Int32) (x2 : Int32) (x3 : Int32) (s : ms) (y : (Unit × ms)) (hf : fn_M_bound x1 x2 x3 s = some y) : Met l yn_M_bound (xw yn_M_bound bn_M_bound 4 none) ({ frames := 1, cells := 0, slots := 0, locals := 22 }) (xk_P (dC, dI) xcl (xt cI cB cJ cZ cQ) [.ref h0, .int x1, .int x2, .int x3] sz (wM h0 a cI cB cJ cZ s)) (xk_Qv (dC, dI) xcl (xt cI cB cJ cZ cQ) (fun _ : Unit => True) (fun _ : Unit => (wM h0 a cI cB cJ cZ y.2)) (va_A (wM h0 a cI cB cJ cZ s) sz)) 0 0 (va_A (wM h0 a cI cB cJ cZ s) sz) := by
  refine xk_of (QA := xk_Qv (dC, dI) xcl (xt cI cB cJ cZ cQ) (fun _ : Unit => True) (fun _ : Unit => (wM h0 a cI cB cJ cZ y.2))) (by decide) (Nat.le_of_ble_eq_true rfl) ?_
  intro p e s0 m below meth c hx hb hml hown hg hr hlocks hin hP hK hN A hA hD hS ls hl
  have hown : s0.vm.findClass rn_M = some m.cls := hown
  obtain ⟨H, hH⟩ : ∃ z, z = s0.heap := ⟨_, rfl⟩
  rw [← hH] at hP
  have hS : va_S A s0.heap H [] := by rw [hH]; exact va_S.rf
  suffices kk : ∀ QQ : State → Prop, QQ = MQ below (xk_Qv (dC, dI) xcl (xt cI cB cJ cZ cQ) (fun _ : Unit => True) (fun _ : Unit => (wM h0 a cI cB cJ cZ y.2)) A) [.ref h0, .int x1, .int x2, .int x3].toArray s0 0 0 A → dcC p l e ({ frames := 1, cells := 0, slots := 0, locals := 22 }) s0 m [.ref h0, .int x1, .int x2, .int x3].toArray below meth c QQ (dC, dI) A (wM h0 a cI cB cJ cZ s) 0 4 [(0, .ref h0), (1, .int x1), (2, .int x2), (3, .int x3)] [] by
    have k9 := kk _ rfl H [] ls hP hD hS hl
    rw [hH] at k9; exact k9
  clear hP hD hS hl hH H ls
  intro QQ hQQ
  intro H locs ls hP hD hS hl
  unfold fn_M_bound at hf
  refine lv_iload_n hx hb dn_M_bound_0 rfl (lv_at hl 1 rfl) ?_
  refine lv_if_ne (tgt := 10) hx hb dn_M_bound_1 (by decide) (fun h => ?_) (fun h => ?_)
  · have hf := (if_neg h).symm.trans hf
    rw [hQQ, ← Option.some.inj hf]
    exact xk_vret (w1 := fun _ : Unit => (wM h0 a cI cB cJ cZ s)) () hx hb hr hlocks hK hS dn_M_bound_10 hP hD trivial (Nat.le_refl _) (Nat.le_refl _)
  · have hf := (if_pos h).symm.trans hf
    refine lv_aload_n hx hb dn_M_bound_4 rfl (lv_at hl 0 rfl) ?_
    refine lv_iload_n hx hb dn_M_bound_5 rfl (lv_at hl 2 rfl) ?_
    refine lv_iload_n hx hb dn_M_bound_6 rfl (lv_at hl 3 rfl) ?_
    obtain ⟨q_1, hc_2, hf⟩ := dc_b hf
    refine dc_callv (xk_runV (ar := 2) (As := [.int x2, .int x3]) (rest := []) (ci := 0) (q0 := 0) ⟨hx, hb, hml, hown, hg⟩ hK hN (ct_M_fail l dC dI cI cB cJ cZ cQ H.size h0 a x2 x3 s q_1 hc_2) hP hD rfl rfl wn_9_181 wn_9_183 sn_M_fail wn_1_13 wn_9_184 rfl rfl (by decide +kernel) ⟨Nat.le_of_ble_eq_true rfl, Nat.le_of_ble_eq_true rfl⟩ rfl hl.1 rfl (Nat.le_of_ble_eq_true rfl) dn_M_bound_7 ⟨Nat.le_of_ble_eq_true rfl, Nat.le_of_ble_eq_true rfl⟩) hP hD hS hA (fun _ H locs hw hP hD hS => ?_)
    rw [hQQ, ← Option.some.inj hf]
    exact xk_vret (w1 := fun _ : Unit => (wM h0 a cI cB cJ cZ q_1.2)) () hx hb hr hlocks hK hS dn_M_bound_10 hP hD trivial (Nat.le_refl _) (Nat.le_refl _)
def bk_M_limits_291 (x2 : Int32) (t0 : Int32) (s : ms) : Option (Unit × ms) :=
  (fn_M_bound t0 46 x2 s).bind (fun q_1 => some ((), q_1.2))
def bk_M_limits_286 (x2 : Int32) (s : ms) : Option (Unit × ms) :=
  bk_M_limits_291 x2 1 s
def bk_M_limits_260 (x2 : Int32) (x5 : Int64) (x7 : Int64) (t0 : Int32) (s : ms) : Option (Unit × ms) :=
  (fn_M_bound t0 44 x2 s).bind (fun q_1 => if (q_1.2.1 9 0) = 0 then (if 0 < (lg_cmp ((x5 * x7)) 16777216) then (bk_M_limits_291 x2 0 q_1.2) else (bk_M_limits_286 x2 q_1.2)) else (bk_M_limits_286 x2 q_1.2))
def bk_M_limits_235 (x1 : Int32) (x2 : Int32) (x5 : Int64) (x7 : Int64) (t0 : Int32) (s : ms) : Option (Unit × ms) :=
  (fn_M_bound t0 43 x2 s).bind (fun q_1 => if (x1 < 0 ∨ 3600 ≤ Int32.toNatClampNeg x1) then none else if 0 < (lg_cmp (((q_1.2.2 45) (Int32.toNatClampNeg x1))) 1500) then (bk_M_limits_260 x2 x5 x7 0 q_1.2) else (bk_M_limits_260 x2 x5 x7 1 q_1.2))
def bk_M_limits_215 (x1 : Int32) (x2 : Int32) (x3 : Int64) (x5 : Int64) (x7 : Int64) (t0 : Int32) (s : ms) : Option (Unit × ms) :=
  (fn_M_bound t0 42 x2 s).bind (fun q_1 => if 0 < (lg_cmp x3 6) then (bk_M_limits_235 x1 x2 x5 x7 0 q_1.2) else (bk_M_limits_235 x1 x2 x5 x7 1 q_1.2))
def bk_M_limits_190 (x1 : Int32) (x2 : Int32) (x3 : Int64) (x5 : Int64) (x7 : Int64) (t0 : Int32) (s : ms) : Option (Unit × ms) :=
  (fn_M_bound t0 41 x2 s).bind (fun q_1 => if (x1 < 0 ∨ 3600 ≤ Int32.toNatClampNeg x1) then none else if 0 < (lg_cmp (((q_1.2.2 48) (Int32.toNatClampNeg x1))) 12) then (bk_M_limits_215 x1 x2 x3 x5 x7 0 q_1.2) else (bk_M_limits_215 x1 x2 x3 x5 x7 1 q_1.2))
def bk_M_limits_165 (x1 : Int32) (x2 : Int32) (x3 : Int64) (x5 : Int64) (x7 : Int64) (t0 : Int32) (s : ms) : Option (Unit × ms) :=
  (fn_M_bound t0 40 x2 s).bind (fun q_1 => if (x1 < 0 ∨ 3600 ≤ Int32.toNatClampNeg x1) then none else if 0 < (lg_cmp (((q_1.2.2 47) (Int32.toNatClampNeg x1))) 1024) then (bk_M_limits_190 x1 x2 x3 x5 x7 0 q_1.2) else (bk_M_limits_190 x1 x2 x3 x5 x7 1 q_1.2))
def bk_M_limits_144 (x1 : Int32) (x2 : Int32) (x3 : Int64) (x5 : Int64) (t0 : Int64) (s : ms) : Option (Unit × ms) :=
  if (x1 < 0 ∨ 3600 ≤ Int32.toNatClampNeg x1) then none else if 0 < (lg_cmp (((s.2 46) (Int32.toNatClampNeg x1))) 256) then (bk_M_limits_165 x1 x2 x3 x5 t0 0 s) else (bk_M_limits_165 x1 x2 x3 x5 t0 1 s)
def bk_M_limits_118 (x1 : Int32) (x2 : Int32) (x3 : Int64) (t0 : Int64) (t1 : Int32) (t2 : Int64) (s : ms) : Option (Unit × ms) :=
  if (x1 < 0 ∨ 3600 ≤ Int32.toNatClampNeg x1) then none else if (lg_cmp (((s.2 45) (Int32.toNatClampNeg x1))) 1) ≤ 0 then (bk_M_limits_144 x1 x2 x3 (((t2 : Int64) <<< ((Int32.toInt64 ((t1 + (Int64.toInt32 t0)))) &&& 63))) 1 s) else (if (x1 < 0 ∨ 3600 ≤ Int32.toNatClampNeg x1) then none else bk_M_limits_144 x1 x2 x3 (((t2 : Int64) <<< ((Int32.toInt64 ((t1 + (Int64.toInt32 t0)))) &&& 63))) (((s.2 45) (Int32.toNatClampNeg x1))) s)
def bk_M_limits_102 (x1 : Int32) (x2 : Int32) (x3 : Int64) (t0 : Int64) (t1 : Int64) (s : ms) : Option (Unit × ms) :=
  if (lg_cmp x3 20) ≤ 0 then (bk_M_limits_118 x1 x2 x3 x3 ((Int64.toInt32 t0)) t1 s) else (bk_M_limits_118 x1 x2 x3 20 ((Int64.toInt32 t0)) t1 s)
def bd_M_limits_29 (k_29 : Int32 → Int32 → Int64 → Int32 → ms → Option (Unit × ms)) (x1 : Int32) (x2 : Int32) (x3 : Int64) (x5 : Int32) (s : ms) : Option (Unit × ms) :=
  if ((x1 + 1) < 0 ∨ 3601 ≤ Int32.toNatClampNeg ((x1 + 1))) then none else if ((s.1 14) (Int32.toNatClampNeg ((x1 + 1)))) ≤ x5 then (if (x1 < 0 ∨ 3600 ≤ Int32.toNatClampNeg x1) then none else (fn_M_most (((s.2 48) (Int32.toNatClampNeg x1))) s).bind (fun q_3 => if (lg_cmp q_3.1 40) ≤ 0 then (if (x1 < 0 ∨ 3600 ≤ Int32.toNatClampNeg x1) then none else bk_M_limits_102 x1 x2 x3 (((q_3.2.2 48) (Int32.toNatClampNeg x1))) 1 q_3.2) else (bk_M_limits_102 x1 x2 x3 40 1 q_3.2))) else (if (x5 < 0 ∨ 11000 ≤ Int32.toNatClampNeg x5) then none else if ((s.1 21) (Int32.toNatClampNeg x5)) = 0 then (if (x5 < 0 ∨ 11000 ≤ Int32.toNatClampNeg x5) then none else k_29 x1 x2 ((x3 + (Int32.toInt64 (((s.1 20) (Int32.toNatClampNeg x5)))))) ((x5 + 1)) s) else (k_29 x1 x2 x3 ((x5 + 1)) s))
def hd_M_limits_29 : Nat → Int32 → Int32 → Int64 → Int32 → ms → Option (Unit × ms)
  | 0, _, _, _, _, _ => none
  | n + 1, x1, x2, x3, x5, s => bd_M_limits_29 (hd_M_limits_29 n) x1 x2 x3 x5 s
def fn_M_limits (s : ms) : Option (Unit × ms) :=
  if (((s.1 12 0) - 1) < 0 ∨ 3600 ≤ Int32.toNatClampNeg (((s.1 12 0) - 1))) then none else if (((s.1 13) (Int32.toNatClampNeg (((s.1 12 0) - 1)))) < 0 ∨ 65540 ≤ Int32.toNatClampNeg (((s.1 13) (Int32.toNatClampNeg (((s.1 12 0) - 1)))))) then none else if (((s.1 12 0) - 1) < 0 ∨ 3601 ≤ Int32.toNatClampNeg (((s.1 12 0) - 1))) then none else hd_M_limits_29 dc_N (((s.1 12 0) - 1)) (((s.1 5) (Int32.toNatClampNeg (((s.1 13) (Int32.toNatClampNeg (((s.1 12 0) - 1)))))))) 0 (((s.1 14) (Int32.toNatClampNeg (((s.1 12 0) - 1))))) s
set_option maxHeartbeats 8000000 in
set_option maxRecDepth 100000 in
theorem ct_M_limits (l : Launch) (dC : Nat → ClassId) (dI : Nat → Nat → Nat) (cI cB cJ cZ cQ : ClassId) (sz : Nat) (h0 : Nat) (a : Nat → Nat) (s : ms) (y : (Unit × ms)) (hf : fn_M_limits s = some y) : Met l yn_M_limits (xw yn_M_limits bn_M_limits 9 none) ({ frames := 2, cells := 0, slots := 0, locals := 45 }) (xk_P (dC, dI) xcl (xt cI cB cJ cZ cQ) [.ref h0] sz (wM h0 a cI cB cJ cZ s)) (xk_Qv (dC, dI) xcl (xt cI cB cJ cZ cQ) (fun _ : Unit => True) (fun _ : Unit => (wM h0 a cI cB cJ cZ y.2)) (va_A (wM h0 a cI cB cJ cZ s) sz)) 0 0 (va_A (wM h0 a cI cB cJ cZ s) sz) := by
  refine xk_of (QA := xk_Qv (dC, dI) xcl (xt cI cB cJ cZ cQ) (fun _ : Unit => True) (fun _ : Unit => (wM h0 a cI cB cJ cZ y.2))) (by decide) (Nat.le_of_ble_eq_true rfl) ?_
  intro p e s0 m below meth c hx hb hml hown hg hr hlocks hin hP hK hN A hA hD hS ls hl
  have hown : s0.vm.findClass rn_M = some m.cls := hown
  obtain ⟨H, hH⟩ : ∃ z, z = s0.heap := ⟨_, rfl⟩
  rw [← hH] at hP
  have hS : va_S A s0.heap H [] := by rw [hH]; exact va_S.rf
  suffices kk : ∀ QQ : State → Prop, QQ = MQ below (xk_Qv (dC, dI) xcl (xt cI cB cJ cZ cQ) (fun _ : Unit => True) (fun _ : Unit => (wM h0 a cI cB cJ cZ y.2)) A) [.ref h0].toArray s0 0 0 A → dcC p l e ({ frames := 2, cells := 0, slots := 0, locals := 45 }) s0 m [.ref h0].toArray below meth c QQ (dC, dI) A (wM h0 a cI cB cJ cZ s) 0 9 [(0, .ref h0)] [] by
    have k9 := kk _ rfl H [] ls hP hD hS hl
    rw [hH] at k9; exact k9
  clear hP hD hS hl hH H ls
  intro QQ hQQ
  have bl_291 : ∀ (x2 : Int32) (t0 : Int32) (s : ms), bk_M_limits_291 x2 t0 s = some y → dcC p l e ({ frames := 2, cells := 0, slots := 0, locals := 45 }) s0 m [.ref h0].toArray below meth c QQ (dC, dI) A (wM h0 a cI cB cJ cZ s) 291 9 [(2, .int x2)] [.int t0, .ref h0] := by
    intro x2 t0 s hf H locs ls hP hD hS hl
    unfold bk_M_limits_291 at hf
    refine lv_bipush (v := 46) hx hb dn_M_limits_291 (by decide) ?_
    refine lv_iload_n hx hb dn_M_limits_293 rfl (lv_at hl 0 rfl) ?_
    obtain ⟨q_1, hc_2, hf⟩ := dc_b hf
    refine dc_callv (xk_runV (ar := 3) (As := [.int t0, .int 46, .int x2]) (rest := []) (ci := 0) (q0 := 0) ⟨hx, hb, hml, hown, hg⟩ hK hN (ct_M_bound l dC dI cI cB cJ cZ cQ H.size h0 a t0 46 x2 s q_1 hc_2) hP hD rfl rfl wn_10_159 wn_10_161 sn_M_bound wn_1_13 wn_10_162 rfl rfl (by decide +kernel) ⟨Nat.le_of_ble_eq_true rfl, Nat.le_of_ble_eq_true rfl⟩ rfl hl.1 rfl (Nat.le_of_ble_eq_true rfl) dn_M_limits_294 ⟨Nat.le_of_ble_eq_true rfl, Nat.le_of_ble_eq_true rfl⟩) hP hD hS hA (fun _ H locs hw hP hD hS => ?_)
    rw [hQQ, ← Option.some.inj hf]
    exact xk_vret (w1 := fun _ : Unit => (wM h0 a cI cB cJ cZ q_1.2)) () hx hb hr hlocks hK hS dn_M_limits_297 hP hD trivial (Nat.le_refl _) (Nat.le_refl _)
  have bl_286 : ∀ (x2 : Int32) (s : ms), bk_M_limits_286 x2 s = some y → dcC p l e ({ frames := 2, cells := 0, slots := 0, locals := 45 }) s0 m [.ref h0].toArray below meth c QQ (dC, dI) A (wM h0 a cI cB cJ cZ s) 286 9 [(2, .int x2)] [.ref h0] := by
    intro x2 s hf H locs ls hP hD hS hl
    unfold bk_M_limits_286 at hf
    refine lv_iconst (v := 1) hx hb dn_M_limits_286 (by decide) ?_
    refine lv_goto (tgt := 291) hx hb dn_M_limits_287 (by decide) ?_
    exact bl_291 x2 1 s hf H locs ls hP hD hS hl
  have bl_260 : ∀ (x2 : Int32) (x5 : Int64) (x7 : Int64) (t0 : Int32) (s : ms), bk_M_limits_260 x2 x5 x7 t0 s = some y → dcC p l e ({ frames := 2, cells := 0, slots := 0, locals := 45 }) s0 m [.ref h0].toArray below meth c QQ (dC, dI) A (wM h0 a cI cB cJ cZ s) 260 9 [(0, .ref h0), (2, .int x2), (5, .long x5), (7, .long x7)] [.int t0, .ref h0] := by
    intro x2 x5 x7 t0 s hf H locs ls hP hD hS hl
    unfold bk_M_limits_260 at hf
    refine lv_bipush (v := 44) hx hb dn_M_limits_260 (by decide) ?_
    refine lv_iload_n hx hb dn_M_limits_262 rfl (lv_at hl 1 rfl) ?_
    obtain ⟨q_1, hc_2, hf⟩ := dc_b hf
    refine dc_callv (xk_runV (ar := 3) (As := [.int t0, .int 44, .int x2]) (rest := []) (ci := 0) (q0 := 0) ⟨hx, hb, hml, hown, hg⟩ hK hN (ct_M_bound l dC dI cI cB cJ cZ cQ H.size h0 a t0 44 x2 s q_1 hc_2) hP hD rfl rfl wn_10_159 wn_10_161 sn_M_bound wn_1_13 wn_10_162 rfl rfl (by decide +kernel) ⟨Nat.le_of_ble_eq_true rfl, Nat.le_of_ble_eq_true rfl⟩ rfl hl.1 rfl (Nat.le_of_ble_eq_true rfl) dn_M_limits_263 ⟨Nat.le_of_ble_eq_true rfl, Nat.le_of_ble_eq_true rfl⟩) hP hD hS hA (fun _ H locs hw hP hD hS => ?_)
    refine lv_aload_n hx hb dn_M_limits_266 rfl (lv_at hl 0 rfl) ?_
    refine lv_aload_n hx hb dn_M_limits_267 rfl (lv_at hl 0 rfl) ?_
    refine va_get (D := (dC, dI)) (ci := 0) (v := .int ((q_1.2.1 9 0))) (C := rn_M) (T := fn_M) (N := 91) hx hb hg in_M hown hK hP 0 rfl rfl 9 (by decide) (hg _ wn_8_77) (fun _ h9 => h9) rfl dn_M_limits_268 ?_
    refine lv_if_ne (tgt := 286) hx hb dn_M_limits_271 (by decide) (fun h => ?_) (fun h => ?_)
    · have hf := (if_neg h).symm.trans hf
      exact bl_286 x2 q_1.2 hf H locs ls hP hD hS (lv_sub hl [1] rfl)
    · have hf := (if_pos h).symm.trans hf
      refine lv_lload hx hb dn_M_limits_274 (lv_at hl 2 rfl) ?_
      refine lv_lload hx hb dn_M_limits_276 (lv_at hl 3 rfl) ?_
      refine lv_lmul hx hb dn_M_limits_278 ?_
      refine lv_ldc2 hx hb hown (hg _ wn_10_167) dn_M_limits_279 ?_
      refine W.lcmp hx hb dn_M_limits_282 ?_
      refine lv_if_gt (tgt := 290) hx hb dn_M_limits_283 (by decide) (fun h => ?_) (fun h => ?_)
      · have hf := (if_pos h).symm.trans hf
        refine lv_iconst (v := 0) hx hb dn_M_limits_290 (by decide) ?_
        exact bl_291 x2 0 q_1.2 hf H locs ls hP hD hS (lv_sub hl [1] rfl)
      · have hf := (if_neg h).symm.trans hf
        exact bl_286 x2 q_1.2 hf H locs ls hP hD hS (lv_sub hl [1] rfl)
  have bl_235 : ∀ (x1 : Int32) (x2 : Int32) (x5 : Int64) (x7 : Int64) (t0 : Int32) (s : ms), bk_M_limits_235 x1 x2 x5 x7 t0 s = some y → dcC p l e ({ frames := 2, cells := 0, slots := 0, locals := 45 }) s0 m [.ref h0].toArray below meth c QQ (dC, dI) A (wM h0 a cI cB cJ cZ s) 235 9 [(0, .ref h0), (1, .int x1), (2, .int x2), (5, .long x5), (7, .long x7)] [.int t0, .ref h0] := by
    intro x1 x2 x5 x7 t0 s hf H locs ls hP hD hS hl
    unfold bk_M_limits_235 at hf
    refine lv_bipush (v := 43) hx hb dn_M_limits_235 (by decide) ?_
    refine lv_iload_n hx hb dn_M_limits_237 rfl (lv_at hl 2 rfl) ?_
    obtain ⟨q_1, hc_2, hf⟩ := dc_b hf
    refine dc_callv (xk_runV (ar := 3) (As := [.int t0, .int 43, .int x2]) (rest := []) (ci := 0) (q0 := 0) ⟨hx, hb, hml, hown, hg⟩ hK hN (ct_M_bound l dC dI cI cB cJ cZ cQ H.size h0 a t0 43 x2 s q_1 hc_2) hP hD rfl rfl wn_10_159 wn_10_161 sn_M_bound wn_1_13 wn_10_162 rfl rfl (by decide +kernel) ⟨Nat.le_of_ble_eq_true rfl, Nat.le_of_ble_eq_true rfl⟩ rfl hl.1 rfl (Nat.le_of_ble_eq_true rfl) dn_M_limits_238 ⟨Nat.le_of_ble_eq_true rfl, Nat.le_of_ble_eq_true rfl⟩) hP hD hS hA (fun _ H locs hw hP hD hS => ?_)
    refine lv_aload_n hx hb dn_M_limits_241 rfl (lv_at hl 0 rfl) ?_
    refine lv_aload_n hx hb dn_M_limits_242 rfl (lv_at hl 0 rfl) ?_
    refine va_get (D := (dC, dI)) (ci := 0) (v := .ref ((a 45))) (C := rn_M) (T := fn_M) (N := 91) hx hb hg in_M hown hK hP 0 rfl rfl 45 (by decide) (hg _ wn_8_113) (fun _ h9 => h9) rfl dn_M_limits_243 ?_
    refine lv_iload_n hx hb dn_M_limits_246 rfl (lv_at hl 1 rfl) ?_
    obtain ⟨hg_3, hf⟩ := dc_g hf
    refine va_lald hx hb hK hP 30 2 rfl rfl hg_3 dn_M_limits_247 ?_
    refine xk_tl (y := ((q_1.2.2 45) (Int32.toNatClampNeg x1))) rfl ?_
    refine lv_ldc2 hx hb hown (hg _ wn_10_166) dn_M_limits_248 ?_
    refine W.lcmp hx hb dn_M_limits_251 ?_
    refine lv_if_gt (tgt := 259) hx hb dn_M_limits_252 (by decide) (fun h => ?_) (fun h => ?_)
    · have hf := (if_pos h).symm.trans hf
      refine lv_iconst (v := 0) hx hb dn_M_limits_259 (by decide) ?_
      exact bl_260 x2 x5 x7 0 q_1.2 hf H locs ls hP hD hS (lv_sub hl [0, 2, 3, 4] rfl)
    · have hf := (if_neg h).symm.trans hf
      refine lv_iconst (v := 1) hx hb dn_M_limits_255 (by decide) ?_
      refine lv_goto (tgt := 260) hx hb dn_M_limits_256 (by decide) ?_
      exact bl_260 x2 x5 x7 1 q_1.2 hf H locs ls hP hD hS (lv_sub hl [0, 2, 3, 4] rfl)
  have bl_215 : ∀ (x1 : Int32) (x2 : Int32) (x3 : Int64) (x5 : Int64) (x7 : Int64) (t0 : Int32) (s : ms), bk_M_limits_215 x1 x2 x3 x5 x7 t0 s = some y → dcC p l e ({ frames := 2, cells := 0, slots := 0, locals := 45 }) s0 m [.ref h0].toArray below meth c QQ (dC, dI) A (wM h0 a cI cB cJ cZ s) 215 9 [(0, .ref h0), (1, .int x1), (2, .int x2), (3, .long x3), (5, .long x5), (7, .long x7)] [.int t0, .ref h0] := by
    intro x1 x2 x3 x5 x7 t0 s hf H locs ls hP hD hS hl
    unfold bk_M_limits_215 at hf
    refine lv_bipush (v := 42) hx hb dn_M_limits_215 (by decide) ?_
    refine lv_iload_n hx hb dn_M_limits_217 rfl (lv_at hl 2 rfl) ?_
    obtain ⟨q_1, hc_2, hf⟩ := dc_b hf
    refine dc_callv (xk_runV (ar := 3) (As := [.int t0, .int 42, .int x2]) (rest := []) (ci := 0) (q0 := 0) ⟨hx, hb, hml, hown, hg⟩ hK hN (ct_M_bound l dC dI cI cB cJ cZ cQ H.size h0 a t0 42 x2 s q_1 hc_2) hP hD rfl rfl wn_10_159 wn_10_161 sn_M_bound wn_1_13 wn_10_162 rfl rfl (by decide +kernel) ⟨Nat.le_of_ble_eq_true rfl, Nat.le_of_ble_eq_true rfl⟩ rfl hl.1 rfl (Nat.le_of_ble_eq_true rfl) dn_M_limits_218 ⟨Nat.le_of_ble_eq_true rfl, Nat.le_of_ble_eq_true rfl⟩) hP hD hS hA (fun _ H locs hw hP hD hS => ?_)
    refine lv_aload_n hx hb dn_M_limits_221 rfl (lv_at hl 0 rfl) ?_
    refine lv_lload_n hx hb dn_M_limits_222 rfl (lv_at hl 3 rfl) ?_
    refine lv_ldc2 hx hb hown (hg _ wn_10_165) dn_M_limits_223 ?_
    refine W.lcmp hx hb dn_M_limits_226 ?_
    refine lv_if_gt (tgt := 234) hx hb dn_M_limits_227 (by decide) (fun h => ?_) (fun h => ?_)
    · have hf := (if_pos h).symm.trans hf
      refine lv_iconst (v := 0) hx hb dn_M_limits_234 (by decide) ?_
      exact bl_235 x1 x2 x5 x7 0 q_1.2 hf H locs ls hP hD hS (lv_sub hl [0, 1, 2, 4, 5] rfl)
    · have hf := (if_neg h).symm.trans hf
      refine lv_iconst (v := 1) hx hb dn_M_limits_230 (by decide) ?_
      refine lv_goto (tgt := 235) hx hb dn_M_limits_231 (by decide) ?_
      exact bl_235 x1 x2 x5 x7 1 q_1.2 hf H locs ls hP hD hS (lv_sub hl [0, 1, 2, 4, 5] rfl)
  have bl_190 : ∀ (x1 : Int32) (x2 : Int32) (x3 : Int64) (x5 : Int64) (x7 : Int64) (t0 : Int32) (s : ms), bk_M_limits_190 x1 x2 x3 x5 x7 t0 s = some y → dcC p l e ({ frames := 2, cells := 0, slots := 0, locals := 45 }) s0 m [.ref h0].toArray below meth c QQ (dC, dI) A (wM h0 a cI cB cJ cZ s) 190 9 [(0, .ref h0), (1, .int x1), (2, .int x2), (3, .long x3), (5, .long x5), (7, .long x7)] [.int t0, .ref h0] := by
    intro x1 x2 x3 x5 x7 t0 s hf H locs ls hP hD hS hl
    unfold bk_M_limits_190 at hf
    refine lv_bipush (v := 41) hx hb dn_M_limits_190 (by decide) ?_
    refine lv_iload_n hx hb dn_M_limits_192 rfl (lv_at hl 2 rfl) ?_
    obtain ⟨q_1, hc_2, hf⟩ := dc_b hf
    refine dc_callv (xk_runV (ar := 3) (As := [.int t0, .int 41, .int x2]) (rest := []) (ci := 0) (q0 := 0) ⟨hx, hb, hml, hown, hg⟩ hK hN (ct_M_bound l dC dI cI cB cJ cZ cQ H.size h0 a t0 41 x2 s q_1 hc_2) hP hD rfl rfl wn_10_159 wn_10_161 sn_M_bound wn_1_13 wn_10_162 rfl rfl (by decide +kernel) ⟨Nat.le_of_ble_eq_true rfl, Nat.le_of_ble_eq_true rfl⟩ rfl hl.1 rfl (Nat.le_of_ble_eq_true rfl) dn_M_limits_193 ⟨Nat.le_of_ble_eq_true rfl, Nat.le_of_ble_eq_true rfl⟩) hP hD hS hA (fun _ H locs hw hP hD hS => ?_)
    refine lv_aload_n hx hb dn_M_limits_196 rfl (lv_at hl 0 rfl) ?_
    refine lv_aload_n hx hb dn_M_limits_197 rfl (lv_at hl 0 rfl) ?_
    refine va_get (D := (dC, dI)) (ci := 0) (v := .ref ((a 48))) (C := rn_M) (T := fn_M) (N := 91) hx hb hg in_M hown hK hP 0 rfl rfl 48 (by decide) (hg _ wn_8_116) (fun _ h9 => h9) rfl dn_M_limits_198 ?_
    refine lv_iload_n hx hb dn_M_limits_201 rfl (lv_at hl 1 rfl) ?_
    obtain ⟨hg_3, hf⟩ := dc_g hf
    refine va_lald hx hb hK hP 33 2 rfl rfl hg_3 dn_M_limits_202 ?_
    refine xk_tl (y := ((q_1.2.2 48) (Int32.toNatClampNeg x1))) rfl ?_
    refine lv_ldc2 hx hb hown (hg _ wn_10_164) dn_M_limits_203 ?_
    refine W.lcmp hx hb dn_M_limits_206 ?_
    refine lv_if_gt (tgt := 214) hx hb dn_M_limits_207 (by decide) (fun h => ?_) (fun h => ?_)
    · have hf := (if_pos h).symm.trans hf
      refine lv_iconst (v := 0) hx hb dn_M_limits_214 (by decide) ?_
      exact bl_215 x1 x2 x3 x5 x7 0 q_1.2 hf H locs ls hP hD hS hl
    · have hf := (if_neg h).symm.trans hf
      refine lv_iconst (v := 1) hx hb dn_M_limits_210 (by decide) ?_
      refine lv_goto (tgt := 215) hx hb dn_M_limits_211 (by decide) ?_
      exact bl_215 x1 x2 x3 x5 x7 1 q_1.2 hf H locs ls hP hD hS hl
  have bl_165 : ∀ (x1 : Int32) (x2 : Int32) (x3 : Int64) (x5 : Int64) (x7 : Int64) (t0 : Int32) (s : ms), bk_M_limits_165 x1 x2 x3 x5 x7 t0 s = some y → dcC p l e ({ frames := 2, cells := 0, slots := 0, locals := 45 }) s0 m [.ref h0].toArray below meth c QQ (dC, dI) A (wM h0 a cI cB cJ cZ s) 165 9 [(0, .ref h0), (1, .int x1), (2, .int x2), (3, .long x3), (5, .long x5), (7, .long x7)] [.int t0, .ref h0] := by
    intro x1 x2 x3 x5 x7 t0 s hf H locs ls hP hD hS hl
    unfold bk_M_limits_165 at hf
    refine lv_bipush (v := 40) hx hb dn_M_limits_165 (by decide) ?_
    refine lv_iload_n hx hb dn_M_limits_167 rfl (lv_at hl 2 rfl) ?_
    obtain ⟨q_1, hc_2, hf⟩ := dc_b hf
    refine dc_callv (xk_runV (ar := 3) (As := [.int t0, .int 40, .int x2]) (rest := []) (ci := 0) (q0 := 0) ⟨hx, hb, hml, hown, hg⟩ hK hN (ct_M_bound l dC dI cI cB cJ cZ cQ H.size h0 a t0 40 x2 s q_1 hc_2) hP hD rfl rfl wn_10_159 wn_10_161 sn_M_bound wn_1_13 wn_10_162 rfl rfl (by decide +kernel) ⟨Nat.le_of_ble_eq_true rfl, Nat.le_of_ble_eq_true rfl⟩ rfl hl.1 rfl (Nat.le_of_ble_eq_true rfl) dn_M_limits_168 ⟨Nat.le_of_ble_eq_true rfl, Nat.le_of_ble_eq_true rfl⟩) hP hD hS hA (fun _ H locs hw hP hD hS => ?_)
    refine lv_aload_n hx hb dn_M_limits_171 rfl (lv_at hl 0 rfl) ?_
    refine lv_aload_n hx hb dn_M_limits_172 rfl (lv_at hl 0 rfl) ?_
    refine va_get (D := (dC, dI)) (ci := 0) (v := .ref ((a 47))) (C := rn_M) (T := fn_M) (N := 91) hx hb hg in_M hown hK hP 0 rfl rfl 47 (by decide) (hg _ wn_8_115) (fun _ h9 => h9) rfl dn_M_limits_173 ?_
    refine lv_iload_n hx hb dn_M_limits_176 rfl (lv_at hl 1 rfl) ?_
    obtain ⟨hg_3, hf⟩ := dc_g hf
    refine va_lald hx hb hK hP 32 2 rfl rfl hg_3 dn_M_limits_177 ?_
    refine xk_tl (y := ((q_1.2.2 47) (Int32.toNatClampNeg x1))) rfl ?_
    refine lv_ldc2 hx hb hown (hg _ wn_10_163) dn_M_limits_178 ?_
    refine W.lcmp hx hb dn_M_limits_181 ?_
    refine lv_if_gt (tgt := 189) hx hb dn_M_limits_182 (by decide) (fun h => ?_) (fun h => ?_)
    · have hf := (if_pos h).symm.trans hf
      refine lv_iconst (v := 0) hx hb dn_M_limits_189 (by decide) ?_
      exact bl_190 x1 x2 x3 x5 x7 0 q_1.2 hf H locs ls hP hD hS hl
    · have hf := (if_neg h).symm.trans hf
      refine lv_iconst (v := 1) hx hb dn_M_limits_185 (by decide) ?_
      refine lv_goto (tgt := 190) hx hb dn_M_limits_186 (by decide) ?_
      exact bl_190 x1 x2 x3 x5 x7 1 q_1.2 hf H locs ls hP hD hS hl
  have bl_144 : ∀ (x1 : Int32) (x2 : Int32) (x3 : Int64) (x5 : Int64) (t0 : Int64) (s : ms), bk_M_limits_144 x1 x2 x3 x5 t0 s = some y → dcC p l e ({ frames := 2, cells := 0, slots := 0, locals := 45 }) s0 m [.ref h0].toArray below meth c QQ (dC, dI) A (wM h0 a cI cB cJ cZ s) 144 9 [(0, .ref h0), (1, .int x1), (2, .int x2), (3, .long x3), (5, .long x5)] [.long t0] := by
    intro x1 x2 x3 x5 t0 s hf H locs ls hP hD hS hl
    unfold bk_M_limits_144 at hf
    refine lv_lstore (lv' := [(7, .long t0), (0, .ref h0), (1, .int x1), (2, .int x2), (3, .long x3), (5, .long x5)]) hx hb dn_M_limits_144 hl (by decide) rfl (fun ls hl => ?_)
    refine lv_aload_n hx hb dn_M_limits_146 rfl (lv_at hl 1 rfl) ?_
    refine lv_aload_n hx hb dn_M_limits_147 rfl (lv_at hl 1 rfl) ?_
    refine va_get (D := (dC, dI)) (ci := 0) (v := .ref ((a 46))) (C := rn_M) (T := fn_M) (N := 91) hx hb hg in_M hown hK hP 0 rfl rfl 46 (by decide) (hg _ wn_8_114) (fun _ h9 => h9) rfl dn_M_limits_148 ?_
    refine lv_iload_n hx hb dn_M_limits_151 rfl (lv_at hl 2 rfl) ?_
    obtain ⟨hg_1, hf⟩ := dc_g hf
    refine va_lald hx hb hK hP 31 2 rfl rfl hg_1 dn_M_limits_152 ?_
    refine xk_tl (y := ((s.2 46) (Int32.toNatClampNeg x1))) rfl ?_
    refine lv_ldc2 hx hb hown (hg _ wn_10_158) dn_M_limits_153 ?_
    refine W.lcmp hx hb dn_M_limits_156 ?_
    refine lv_if_gt (tgt := 164) hx hb dn_M_limits_157 (by decide) (fun h => ?_) (fun h => ?_)
    · have hf := (if_pos h).symm.trans hf
      refine lv_iconst (v := 0) hx hb dn_M_limits_164 (by decide) ?_
      exact bl_165 x1 x2 x3 x5 t0 0 s hf H locs ls hP hD hS (lv_sub hl [1, 2, 3, 4, 5, 0] rfl)
    · have hf := (if_neg h).symm.trans hf
      refine lv_iconst (v := 1) hx hb dn_M_limits_160 (by decide) ?_
      refine lv_goto (tgt := 165) hx hb dn_M_limits_161 (by decide) ?_
      exact bl_165 x1 x2 x3 x5 t0 1 s hf H locs ls hP hD hS (lv_sub hl [1, 2, 3, 4, 5, 0] rfl)
  have bl_118 : ∀ (x1 : Int32) (x2 : Int32) (x3 : Int64) (t0 : Int64) (t1 : Int32) (t2 : Int64) (s : ms), bk_M_limits_118 x1 x2 x3 t0 t1 t2 s = some y → dcC p l e ({ frames := 2, cells := 0, slots := 0, locals := 45 }) s0 m [.ref h0].toArray below meth c QQ (dC, dI) A (wM h0 a cI cB cJ cZ s) 118 9 [(0, .ref h0), (1, .int x1), (2, .int x2), (3, .long x3)] [.long t0, .int t1, .long t2] := by
    intro x1 x2 x3 t0 t1 t2 s hf H locs ls hP hD hS hl
    unfold bk_M_limits_118 at hf
    refine lv_l2i (v := Int64.toInt32 t0) hx hb dn_M_limits_118 rfl ?_
    refine lv_iadd hx hb dn_M_limits_119 ?_
    refine lv_lshl (v := (t2 : Int64) <<< ((Int32.toInt64 ((t1 + (Int64.toInt32 t0)))) &&& 63)) hx hb dn_M_limits_120 rfl ?_
    refine lv_lstore (lv' := [(5, .long (((t2 : Int64) <<< ((Int32.toInt64 ((t1 + (Int64.toInt32 t0)))) &&& 63)))), (0, .ref h0), (1, .int x1), (2, .int x2), (3, .long x3)]) hx hb dn_M_limits_121 hl (by decide) rfl (fun ls hl => ?_)
    refine lv_aload_n hx hb dn_M_limits_123 rfl (lv_at hl 1 rfl) ?_
    refine va_get (D := (dC, dI)) (ci := 0) (v := .ref ((a 45))) (C := rn_M) (T := fn_M) (N := 91) hx hb hg in_M hown hK hP 0 rfl rfl 45 (by decide) (hg _ wn_8_113) (fun _ h9 => h9) rfl dn_M_limits_124 ?_
    refine lv_iload_n hx hb dn_M_limits_127 rfl (lv_at hl 2 rfl) ?_
    obtain ⟨hg_1, hf⟩ := dc_g hf
    refine va_lald hx hb hK hP 30 2 rfl rfl hg_1 dn_M_limits_128 ?_
    refine xk_tl (y := ((s.2 45) (Int32.toNatClampNeg x1))) rfl ?_
    refine lv_lconst (v := 1) hx hb dn_M_limits_129 (by decide) ?_
    refine W.lcmp hx hb dn_M_limits_130 ?_
    refine lv_if_le (tgt := 143) hx hb dn_M_limits_131 (by decide) (fun h => ?_) (fun h => ?_)
    · have hf := (if_pos h).symm.trans hf
      refine lv_lconst (v := 1) hx hb dn_M_limits_143 (by decide) ?_
      exact bl_144 x1 x2 x3 (((t2 : Int64) <<< ((Int32.toInt64 ((t1 + (Int64.toInt32 t0)))) &&& 63))) 1 s hf H locs ls hP hD hS (lv_sub hl [1, 2, 3, 4, 0] rfl)
    · have hf := (if_neg h).symm.trans hf
      refine lv_aload_n hx hb dn_M_limits_134 rfl (lv_at hl 1 rfl) ?_
      refine va_get (D := (dC, dI)) (ci := 0) (v := .ref ((a 45))) (C := rn_M) (T := fn_M) (N := 91) hx hb hg in_M hown hK hP 0 rfl rfl 45 (by decide) (hg _ wn_8_113) (fun _ h9 => h9) rfl dn_M_limits_135 ?_
      refine lv_iload_n hx hb dn_M_limits_138 rfl (lv_at hl 2 rfl) ?_
      obtain ⟨hg_2, hf⟩ := dc_g hf
      refine va_lald hx hb hK hP 30 2 rfl rfl hg_2 dn_M_limits_139 ?_
      refine xk_tl (y := ((s.2 45) (Int32.toNatClampNeg x1))) rfl ?_
      refine lv_goto (tgt := 144) hx hb dn_M_limits_140 (by decide) ?_
      exact bl_144 x1 x2 x3 (((t2 : Int64) <<< ((Int32.toInt64 ((t1 + (Int64.toInt32 t0)))) &&& 63))) (((s.2 45) (Int32.toNatClampNeg x1))) s hf H locs ls hP hD hS (lv_sub hl [1, 2, 3, 4, 0] rfl)
  have bl_102 : ∀ (x1 : Int32) (x2 : Int32) (x3 : Int64) (t0 : Int64) (t1 : Int64) (s : ms), bk_M_limits_102 x1 x2 x3 t0 t1 s = some y → dcC p l e ({ frames := 2, cells := 0, slots := 0, locals := 45 }) s0 m [.ref h0].toArray below meth c QQ (dC, dI) A (wM h0 a cI cB cJ cZ s) 102 9 [(0, .ref h0), (1, .int x1), (2, .int x2), (3, .long x3)] [.long t0, .long t1] := by
    intro x1 x2 x3 t0 t1 s hf H locs ls hP hD hS hl
    unfold bk_M_limits_102 at hf
    refine lv_l2i (v := Int64.toInt32 t0) hx hb dn_M_limits_102 rfl ?_
    refine lv_lload_n hx hb dn_M_limits_103 rfl (lv_at hl 3 rfl) ?_
    refine lv_ldc2 hx hb hown (hg _ wn_10_157) dn_M_limits_104 ?_
    refine W.lcmp hx hb dn_M_limits_107 ?_
    refine lv_if_le (tgt := 117) hx hb dn_M_limits_108 (by decide) (fun h => ?_) (fun h => ?_)
    · have hf := (if_pos h).symm.trans hf
      refine lv_lload_n hx hb dn_M_limits_117 rfl (lv_at hl 3 rfl) ?_
      exact bl_118 x1 x2 x3 x3 ((Int64.toInt32 t0)) t1 s hf H locs ls hP hD hS hl
    · have hf := (if_neg h).symm.trans hf
      refine lv_ldc2 hx hb hown (hg _ wn_10_157) dn_M_limits_111 ?_
      refine lv_goto (tgt := 118) hx hb dn_M_limits_114 (by decide) ?_
      exact bl_118 x1 x2 x3 20 ((Int64.toInt32 t0)) t1 s hf H locs ls hP hD hS hl
  have hd_29 : ∀ (n : Nat) (x1 : Int32) (x2 : Int32) (x3 : Int64) (x5 : Int32) (s : ms), hd_M_limits_29 n x1 x2 x3 x5 s = some y → dcC p l e ({ frames := 2, cells := 0, slots := 0, locals := 45 }) s0 m [.ref h0].toArray below meth c QQ (dC, dI) A (wM h0 a cI cB cJ cZ s) 29 9 [(0, .ref h0), (1, .int x1), (2, .int x2), (3, .long x3), (5, .int x5)] [] := by
    intro n
    induction n with
    | zero => intro x1 x2 x3 x5 s hf; cases hf
    | succ n ih =>
      intro x1 x2 x3 x5 s hf H locs ls hP hD hS hl
      have hf : bd_M_limits_29 (hd_M_limits_29 n) x1 x2 x3 x5 s = some y := hf
      have hk_29 := ih
      generalize hd_M_limits_29 n = k_29 at hf hk_29
      unfold bd_M_limits_29 at hf
      refine lv_iload hx hb dn_M_limits_29 (lv_at hl 4 rfl) ?_
      refine lv_aload_n hx hb dn_M_limits_31 rfl (lv_at hl 0 rfl) ?_
      refine va_get (D := (dC, dI)) (ci := 0) (v := .ref ((a 14))) (C := rn_M) (T := fn_M) (N := 91) hx hb hg in_M hown hK hP 0 rfl rfl 14 (by decide) (hg _ wn_8_82) (fun _ h9 => h9) rfl dn_M_limits_32 ?_
      refine lv_iload_n hx hb dn_M_limits_35 rfl (lv_at hl 1 rfl) ?_
      refine lv_iconst (v := 1) hx hb dn_M_limits_36 (by decide) ?_
      refine lv_iadd hx hb dn_M_limits_37 ?_
      obtain ⟨hg_1, hf⟩ := dc_g hf
      refine va_iald hx hb hK hP 6 0 rfl rfl hg_1 dn_M_limits_38 ?_
      refine xk_ti (y := ((s.1 14) (Int32.toNatClampNeg ((x1 + 1))))) rfl ?_
      refine lv_icmp_ge (tgt := 73) hx hb dn_M_limits_39 (by decide) (fun h => ?_) (fun h => ?_)
      · have hf := (if_pos h).symm.trans hf
        refine lv_lconst (v := 1) hx hb dn_M_limits_73 (by decide) ?_
        refine lv_aload_n hx hb dn_M_limits_74 rfl (lv_at hl 0 rfl) ?_
        refine va_get (D := (dC, dI)) (ci := 0) (v := .ref ((a 48))) (C := rn_M) (T := fn_M) (N := 91) hx hb hg in_M hown hK hP 0 rfl rfl 48 (by decide) (hg _ wn_8_116) (fun _ h9 => h9) rfl dn_M_limits_75 ?_
        refine lv_iload_n hx hb dn_M_limits_78 rfl (lv_at hl 1 rfl) ?_
        obtain ⟨hg_2, hf⟩ := dc_g hf
        refine va_lald hx hb hK hP 33 2 rfl rfl hg_2 dn_M_limits_79 ?_
        refine xk_tl (y := ((s.2 48) (Int32.toNatClampNeg x1))) rfl ?_
        obtain ⟨q_3, hc_4, hf⟩ := dc_b hf
        refine dc_calll (xk_runS (ar := 1) (As := [.long (((s.2 48) (Int32.toNatClampNeg x1)))]) (rest := [.long 1]) ⟨hx, hb, hml, hown, hg⟩ hK hN (ct_M_most l dC dI cI cB cJ cZ cQ H.size h0 a (((s.2 48) (Int32.toNatClampNeg x1))) s q_3 hc_4) hP hD wn_10_148 wn_10_149 wn_1_13 wn_10_150 rfl rfl (by decide +kernel) ⟨Nat.le_of_ble_eq_true rfl, Nat.le_of_ble_eq_true rfl⟩ rfl hl.1 rfl (Nat.le_of_ble_eq_true rfl) dn_M_limits_80 ⟨Nat.le_of_ble_eq_true rfl, Nat.le_of_ble_eq_true rfl⟩) hP hD hS hA (fun r_5 _ H locs hw hP hD hS => ?_)
        have hw : r_5 = q_3.1 := hw
        subst hw
        refine lv_ldc2 hx hb hown (hg _ wn_10_156) dn_M_limits_83 ?_
        refine W.lcmp hx hb dn_M_limits_86 ?_
        refine lv_if_le (tgt := 96) hx hb dn_M_limits_87 (by decide) (fun h => ?_) (fun h => ?_)
        · have hf := (if_pos h).symm.trans hf
          refine lv_aload_n hx hb dn_M_limits_96 rfl (lv_at hl 0 rfl) ?_
          refine va_get (D := (dC, dI)) (ci := 0) (v := .ref ((a 48))) (C := rn_M) (T := fn_M) (N := 91) hx hb hg in_M hown hK hP 0 rfl rfl 48 (by decide) (hg _ wn_8_116) (fun _ h9 => h9) rfl dn_M_limits_97 ?_
          refine lv_iload_n hx hb dn_M_limits_100 rfl (lv_at hl 1 rfl) ?_
          obtain ⟨hg_6, hf⟩ := dc_g hf
          refine va_lald hx hb hK hP 33 2 rfl rfl hg_6 dn_M_limits_101 ?_
          refine xk_tl (y := ((q_3.2.2 48) (Int32.toNatClampNeg x1))) rfl ?_
          exact bl_102 x1 x2 x3 (((q_3.2.2 48) (Int32.toNatClampNeg x1))) 1 q_3.2 hf H locs ls hP hD hS (lv_sub hl [0, 1, 2, 3] rfl)
        · have hf := (if_neg h).symm.trans hf
          refine lv_ldc2 hx hb hown (hg _ wn_10_156) dn_M_limits_90 ?_
          refine lv_goto (tgt := 102) hx hb dn_M_limits_93 (by decide) ?_
          exact bl_102 x1 x2 x3 40 1 q_3.2 hf H locs ls hP hD hS (lv_sub hl [0, 1, 2, 3] rfl)
      · have hf := (if_neg h).symm.trans hf
        refine lv_aload_n hx hb dn_M_limits_42 rfl (lv_at hl 0 rfl) ?_
        refine va_get (D := (dC, dI)) (ci := 0) (v := .ref ((a 21))) (C := rn_M) (T := fn_M) (N := 91) hx hb hg in_M hown hK hP 0 rfl rfl 21 (by decide) (hg _ wn_8_89) (fun _ h9 => h9) rfl dn_M_limits_43 ?_
        refine lv_iload hx hb dn_M_limits_46 (lv_at hl 4 rfl) ?_
        obtain ⟨hg_2, hf⟩ := dc_g hf
        refine va_iald hx hb hK hP 12 0 rfl rfl hg_2 dn_M_limits_48 ?_
        refine xk_ti (y := ((s.1 21) (Int32.toNatClampNeg x5))) rfl ?_
        refine lv_if_ne (tgt := 65) hx hb dn_M_limits_49 (by decide) (fun h => ?_) (fun h => ?_)
        · have hf := (if_neg h).symm.trans hf
          refine lv_lload_n hx hb dn_M_limits_65 rfl (lv_at hl 3 rfl) ?_
          refine lv_lstore_n (lv' := [(3, .long x3), (0, .ref h0), (1, .int x1), (2, .int x2), (5, .int x5)]) hx hb dn_M_limits_66 rfl hl (by decide) rfl (fun ls hl => ?_)
          refine lv_iinc (v := (x5 + 1)) (lv' := [(5, .int ((x5 + 1))), (3, .long x3), (0, .ref h0), (1, .int x1), (2, .int x2)]) hx hb dn_M_limits_67 hl (k := 4) rfl (dc_inc (by decide)) (by decide) rfl (fun ls hl => ?_)
          refine lv_goto (tgt := 29) hx hb dn_M_limits_70 (by decide) ?_
          exact hk_29 x1 x2 x3 ((x5 + 1)) s hf H locs ls hP hD hS (lv_sub hl [2, 3, 4, 1, 0] rfl)
        · have hf := (if_pos h).symm.trans hf
          refine lv_lload_n hx hb dn_M_limits_52 rfl (lv_at hl 3 rfl) ?_
          refine lv_aload_n hx hb dn_M_limits_53 rfl (lv_at hl 0 rfl) ?_
          refine va_get (D := (dC, dI)) (ci := 0) (v := .ref ((a 20))) (C := rn_M) (T := fn_M) (N := 91) hx hb hg in_M hown hK hP 0 rfl rfl 20 (by decide) (hg _ wn_8_88) (fun _ h9 => h9) rfl dn_M_limits_54 ?_
          refine lv_iload hx hb dn_M_limits_57 (lv_at hl 4 rfl) ?_
          obtain ⟨hg_3, hf⟩ := dc_g hf
          refine va_iald hx hb hK hP 11 0 rfl rfl hg_3 dn_M_limits_59 ?_
          refine xk_ti (y := ((s.1 20) (Int32.toNatClampNeg x5))) rfl ?_
          refine lv_i2l (v := Int32.toInt64 (((s.1 20) (Int32.toNatClampNeg x5)))) hx hb dn_M_limits_60 rfl ?_
          refine lv_ladd hx hb dn_M_limits_61 ?_
          refine lv_goto (tgt := 66) hx hb dn_M_limits_62 (by decide) ?_
          refine lv_lstore_n (lv' := [(3, .long ((x3 + (Int32.toInt64 (((s.1 20) (Int32.toNatClampNeg x5))))))), (0, .ref h0), (1, .int x1), (2, .int x2), (5, .int x5)]) hx hb dn_M_limits_66 rfl hl (by decide) rfl (fun ls hl => ?_)
          refine lv_iinc (v := (x5 + 1)) (lv' := [(5, .int ((x5 + 1))), (3, .long ((x3 + (Int32.toInt64 (((s.1 20) (Int32.toNatClampNeg x5))))))), (0, .ref h0), (1, .int x1), (2, .int x2)]) hx hb dn_M_limits_67 hl (k := 4) rfl (dc_inc (by decide)) (by decide) rfl (fun ls hl => ?_)
          refine lv_goto (tgt := 29) hx hb dn_M_limits_70 (by decide) ?_
          exact hk_29 x1 x2 ((x3 + (Int32.toInt64 (((s.1 20) (Int32.toNatClampNeg x5)))))) ((x5 + 1)) s hf H locs ls hP hD hS (lv_sub hl [2, 3, 4, 1, 0] rfl)
  intro H locs ls hP hD hS hl
  unfold fn_M_limits at hf
  refine lv_aload_n hx hb dn_M_limits_0 rfl (lv_at hl 0 rfl) ?_
  refine va_get (D := (dC, dI)) (ci := 0) (v := .int ((s.1 12 0))) (C := rn_M) (T := fn_M) (N := 91) hx hb hg in_M hown hK hP 0 rfl rfl 12 (by decide) (hg _ wn_8_80) (fun _ h9 => h9) rfl dn_M_limits_1 ?_
  refine lv_iconst (v := 1) hx hb dn_M_limits_4 (by decide) ?_
  refine lv_isub hx hb dn_M_limits_5 ?_
  refine lv_istore_n (lv' := [(1, .int (((s.1 12 0) - 1))), (0, .ref h0)]) hx hb dn_M_limits_6 rfl hl (by decide) rfl (fun ls hl => ?_)
  refine lv_aload_n hx hb dn_M_limits_7 rfl (lv_at hl 1 rfl) ?_
  refine va_get (D := (dC, dI)) (ci := 0) (v := .ref ((a 5))) (C := rn_M) (T := fn_M) (N := 91) hx hb hg in_M hown hK hP 0 rfl rfl 5 (by decide) (hg _ wn_8_73) (fun _ h9 => h9) rfl dn_M_limits_8 ?_
  refine lv_aload_n hx hb dn_M_limits_11 rfl (lv_at hl 1 rfl) ?_
  refine va_get (D := (dC, dI)) (ci := 0) (v := .ref ((a 13))) (C := rn_M) (T := fn_M) (N := 91) hx hb hg in_M hown hK hP 0 rfl rfl 13 (by decide) (hg _ wn_8_81) (fun _ h9 => h9) rfl dn_M_limits_12 ?_
  refine lv_iload_n hx hb dn_M_limits_15 rfl (lv_at hl 0 rfl) ?_
  obtain ⟨hg_1, hf⟩ := dc_g hf
  refine va_iald hx hb hK hP 5 0 rfl rfl hg_1 dn_M_limits_16 ?_
  refine xk_ti (y := ((s.1 13) (Int32.toNatClampNeg (((s.1 12 0) - 1))))) rfl ?_
  obtain ⟨hg_2, hf⟩ := dc_g hf
  refine va_iald hx hb hK hP 3 0 rfl rfl hg_2 dn_M_limits_17 ?_
  refine xk_ti (y := ((s.1 5) (Int32.toNatClampNeg (((s.1 13) (Int32.toNatClampNeg (((s.1 12 0) - 1)))))))) rfl ?_
  refine lv_istore_n (lv' := [(2, .int (((s.1 5) (Int32.toNatClampNeg (((s.1 13) (Int32.toNatClampNeg (((s.1 12 0) - 1))))))))), (1, .int (((s.1 12 0) - 1))), (0, .ref h0)]) hx hb dn_M_limits_18 rfl hl (by decide) rfl (fun ls hl => ?_)
  refine lv_lconst (v := 0) hx hb dn_M_limits_19 (by decide) ?_
  refine lv_lstore_n (lv' := [(3, .long 0), (2, .int (((s.1 5) (Int32.toNatClampNeg (((s.1 13) (Int32.toNatClampNeg (((s.1 12 0) - 1))))))))), (1, .int (((s.1 12 0) - 1))), (0, .ref h0)]) hx hb dn_M_limits_20 rfl hl (by decide) rfl (fun ls hl => ?_)
  refine lv_aload_n hx hb dn_M_limits_21 rfl (lv_at hl 3 rfl) ?_
  refine va_get (D := (dC, dI)) (ci := 0) (v := .ref ((a 14))) (C := rn_M) (T := fn_M) (N := 91) hx hb hg in_M hown hK hP 0 rfl rfl 14 (by decide) (hg _ wn_8_82) (fun _ h9 => h9) rfl dn_M_limits_22 ?_
  refine lv_iload_n hx hb dn_M_limits_25 rfl (lv_at hl 2 rfl) ?_
  obtain ⟨hg_3, hf⟩ := dc_g hf
  refine va_iald hx hb hK hP 6 0 rfl rfl hg_3 dn_M_limits_26 ?_
  refine xk_ti (y := ((s.1 14) (Int32.toNatClampNeg (((s.1 12 0) - 1))))) rfl ?_
  refine lv_istore (lv' := [(5, .int (((s.1 14) (Int32.toNatClampNeg (((s.1 12 0) - 1)))))), (3, .long 0), (2, .int (((s.1 5) (Int32.toNatClampNeg (((s.1 13) (Int32.toNatClampNeg (((s.1 12 0) - 1))))))))), (1, .int (((s.1 12 0) - 1))), (0, .ref h0)]) hx hb dn_M_limits_27 hl (by decide) rfl (fun ls hl => ?_)
  exact hd_29 dc_N (((s.1 12 0) - 1)) (((s.1 5) (Int32.toNatClampNeg (((s.1 13) (Int32.toNatClampNeg (((s.1 12 0) - 1)))))))) 0 (((s.1 14) (Int32.toNatClampNeg (((s.1 12 0) - 1))))) s hf H locs ls hP hD hS (lv_sub hl [4, 3, 2, 1, 0] rfl)
