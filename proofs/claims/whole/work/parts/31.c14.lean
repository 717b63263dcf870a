def fn_Circuit_isSignal_Cc (N : Nat) (v1 : Int32) (s : ms) : Option (Int32 × ms) :=
  if v1 < 0 then (some (0, s)) else (if (s.1 343 0) ≤ v1 then (some (0, s)) else (some (1, s)))
set_option maxHeartbeats 8000000 in
set_option maxRecDepth 100000 in
theorem ct_Circuit_isSignal_Cc (l : Launch) (dC : Nat → ClassId) (dI : Nat → Nat → Nat) (cI cB cJ cZ cQ : ClassId) (N sz : Nat) (a : Nat → Nat) (v : Nat → Value) (v1 : Int32) (s : ms) (y : (Int32 × ms)) (hf : fn_Circuit_isSignal_Cc N v1 s = some y) : Met l yn_Circuit_isSignal (xw yn_Circuit_isSignal bn_Circuit_isSignal 2 (some .boolean)) ({ frames := 0, cells := 0, slots := 0, locals := 0 }) (dc_P (dC, dI) xcl (xt cI cB cJ cZ cQ) [.ref ((a 112)), .int v1] sz (wC a v cI cB cJ cZ cQ s)) (xk_Qi (dC, dI) xcl (xt cI cB cJ cZ cQ) (fun (r : Int32) (_ : Unit) => r = y.1) (fun u : Unit => (wC a v cI cB cJ cZ cQ y.2)) (va_A (wC a v cI cB cJ cZ cQ s) sz)) 0 0 (va_A (wC a v cI cB cJ cZ cQ s) sz) := by
  refine dc_of (QA := xk_Qi (dC, dI) xcl (xt cI cB cJ cZ cQ) (fun (r : Int32) (_ : Unit) => r = y.1) (fun u : Unit => (wC a v cI cB cJ cZ cQ y.2))) (by decide) (Nat.le_of_ble_eq_true rfl) ?_
  intro p e s0 m below meth c hx hb hml hown hg hr hlocks hin hP hK hN A hA hD hT ls hl
  have hown : s0.vm.findClass rn_Circuit = some m.cls := hown
  obtain ⟨H, hH⟩ : ∃ z, z = s0.heap := ⟨_, rfl⟩
  rw [← hH] at hP
  have hS : va_S A s0.heap H [] := by rw [hH]; exact va_S.rf
  suffices kk : ∀ QQ : State → Prop, QQ = MQ below (xk_Qi (dC, dI) xcl (xt cI cB cJ cZ cQ) (fun (r : Int32) (_ : Unit) => r = y.1) (fun u : Unit => (wC a v cI cB cJ cZ cQ y.2)) A) [.ref ((a 112)), .int v1].toArray s0 0 0 A → dcC p l e ({ frames := 0, cells := 0, slots := 0, locals := 0 }) s0 m [.ref ((a 112)), .int v1].toArray below meth c QQ (dC, dI) A (wC a v cI cB cJ cZ cQ s) 0 2 [(0, .ref ((a 112))), (1, .int v1)] [] by
    have k9 := kk _ rfl H [] ls hP hD hS hl
    rw [hH] at k9; exact k9
  clear hP hD hS hl hH H ls
  intro QQ hQQ
  intro H locs ls hP hD hS hl
  unfold fn_Circuit_isSignal_Cc at hf
  refine lv_iload_n hx hb dn_Circuit_isSignal_0 rfl (lv_at hl 1 rfl) ?_
  refine lv_if_lt (tgt := 16) hx hb dn_Circuit_isSignal_1 (by decide) (fun h => ?_) (fun h => ?_)
  · have hf := (if_pos h).symm.trans hf
    refine lv_iconst (v := 0) hx hb dn_Circuit_isSignal_16 (by decide) ?_
    rw [hQQ, ← Option.some.inj hf]
    exact xk_zret (w1 := fun u : Unit => (wC a v cI cB cJ cZ cQ s)) () hx hb hr rfl hlocks hK hS dn_Circuit_isSignal_17 hP hD rfl (Nat.le_refl _) (Nat.le_refl _)
  · have hf := (if_neg h).symm.trans hf
    refine lv_iload_n hx hb dn_Circuit_isSignal_4 rfl (lv_at hl 1 rfl) ?_
    refine lv_aload_n hx hb dn_Circuit_isSignal_5 rfl (lv_at hl 0 rfl) ?_
    refine va_get (D := (dC, dI)) (ci := 9) (v := .int ((s.1 343 0))) (C := rn_Circuit) (T := fn_Circuit) (N := 14) hx hb hg in_Circuit hown hK hP 12 rfl rfl 2 (by decide) (hg _ wn_3_70) (fun _ h9 => h9) rfl dn_Circuit_isSignal_6 ?_
    refine lv_icmp_ge (tgt := 16) hx hb dn_Circuit_isSignal_9 (by decide) (fun h => ?_) (fun h => ?_)
    · have hf := (if_pos h).symm.trans hf
      refine lv_iconst (v := 0) hx hb dn_Circuit_isSignal_16 (by decide) ?_
      rw [hQQ, ← Option.some.inj hf]
      exact xk_zret (w1 := fun u : Unit => (wC a v cI cB cJ cZ cQ s)) () hx hb hr rfl hlocks hK hS dn_Circuit_isSignal_17 hP hD rfl (Nat.le_refl _) (Nat.le_refl _)
    · have hf := (if_neg h).symm.trans hf
      refine lv_iconst (v := 1) hx hb dn_Circuit_isSignal_12 (by decide) ?_
      refine lv_goto (tgt := 17) hx hb dn_Circuit_isSignal_13 (by decide) ?_
      rw [hQQ, ← Option.some.inj hf]
      exact xk_zret (w1 := fun u : Unit => (wC a v cI cB cJ cZ cQ s)) () hx hb hr rfl hlocks hK hS dn_Circuit_isSignal_17 hP hD rfl (Nat.le_refl _) (Nat.le_refl _)
def fn_Circuit_placeOf_Cc (N : Nat) (v1 : Int32) (s : ms) : Option (Int32 × ms) :=
  (fn_Circuit_isSignal_Cc N v1 s).bind (fun q_1 => if q_1.1 = 0 then (some ((-1), q_1.2)) else (if (v1 < 0 ∨ 1024 ≤ Int32.toNatClampNeg v1) then none else if (((q_1.2.1 348) (Int32.toNatClampNeg v1)) < 0 ∨ 10923 ≤ Int32.toNatClampNeg (((q_1.2.1 348) (Int32.toNatClampNeg v1)))) then none else some (((q_1.2.1 372) (Int32.toNatClampNeg (((q_1.2.1 348) (Int32.toNatClampNeg v1))))), q_1.2)))
set_option maxHeartbeats 8000000 in
set_option maxRecDepth 100000 in
theorem ct_Circuit_placeOf_Cc (l : Launch) (dC : Nat → ClassId) (dI : Nat → Nat → Nat) (cI cB cJ cZ cQ : ClassId) (N sz : Nat) (a : Nat → Nat) (v : Nat → Value) (v1 : Int32) (s : ms) (y : (Int32 × ms)) (hf : fn_Circuit_placeOf_Cc N v1 s = some y) : Met l yn_Circuit_placeOf (xw yn_Circuit_placeOf bn_Circuit_placeOf 2 (some .int)) ({ frames := 1, cells := 0, slots := 0, locals := 21 }) (dc_P (dC, dI) xcl (xt cI cB cJ cZ cQ) [.ref ((a 112)), .int v1] sz (wC a v cI cB cJ cZ cQ s)) (xk_Qi (dC, dI) xcl (xt cI cB cJ cZ cQ) (fun (r : Int32) (_ : Unit) => r = y.1) (fun u : Unit => (wC a v cI cB cJ cZ cQ y.2)) (va_A (wC a v cI cB cJ cZ cQ s) sz)) 0 0 (va_A (wC a v cI cB cJ cZ cQ s) sz) := by
  refine dc_of (QA := xk_Qi (dC, dI) xcl (xt cI cB cJ cZ cQ) (fun (r : Int32) (_ : Unit) => r = y.1) (fun u : Unit => (wC a v cI cB cJ cZ cQ y.2))) (by decide) (Nat.le_of_ble_eq_true rfl) ?_
  intro p e s0 m below meth c hx hb hml hown hg hr hlocks hin hP hK hN A hA hD hT ls hl
  have hown : s0.vm.findClass rn_Circuit = some m.cls := hown
  obtain ⟨H, hH⟩ : ∃ z, z = s0.heap := ⟨_, rfl⟩
  rw [← hH] at hP
  have hS : va_S A s0.heap H [] := by rw [hH]; exact va_S.rf
  suffices kk : ∀ QQ : State → Prop, QQ = MQ below (xk_Qi (dC, dI) xcl (xt cI cB cJ cZ cQ) (fun (r : Int32) (_ : Unit) => r = y.1) (fun u : Unit => (wC a v cI cB cJ cZ cQ y.2)) A) [.ref ((a 112)), .int v1].toArray s0 0 0 A → dcC p l e ({ frames := 1, cells := 0, slots := 0, locals := 21 }) s0 m [.ref ((a 112)), .int v1].toArray below meth c QQ (dC, dI) A (wC a v cI cB cJ cZ cQ s) 0 2 [(0, .ref ((a 112))), (1, .int v1)] [] by
    have k9 := kk _ rfl H [] ls hP hD hS hl
    rw [hH] at k9; exact k9
  clear hP hD hS hl hH H ls
  intro QQ hQQ
  intro H locs ls hP hD hS hl
  unfold fn_Circuit_placeOf_Cc at hf
  refine lv_aload_n hx hb dn_Circuit_placeOf_0 rfl (lv_at hl 0 rfl) ?_
  refine lv_iload_n hx hb dn_Circuit_placeOf_1 rfl (lv_at hl 1 rfl) ?_
  obtain ⟨q_1, hc_2, hf⟩ := dc_b hf
  refine dc_calli (dc_runV (ar := 1) (As := [.int v1]) (rest := []) (ci := 9) (q0 := 12) ⟨hx, hb, hml, hown, hg⟩ hK hN hT hS hA (ct_Circuit_isSignal_Cc l dC dI cI cB cJ cZ cQ N H.size a v v1 s q_1 hc_2) hP hD rfl rfl wn_6_239 wn_7_1 sn_Circuit_isSignal wn_1_9 wn_7_2 rfl rfl (by decide +kernel) ⟨Nat.le_of_ble_eq_true rfl, Nat.le_of_ble_eq_true rfl⟩ rfl hl.1 rfl (Nat.le_of_ble_eq_true rfl) dn_Circuit_placeOf_2 ⟨Nat.le_of_ble_eq_true rfl, Nat.le_of_ble_eq_true rfl⟩) hP hD hS hA (fun r_3 _ H locs hw hP hD hS => ?_)
  have hw : r_3 = q_1.1 := hw
  subst hw
  refine lv_if_eq (tgt := 28) hx hb dn_Circuit_placeOf_5 (by decide) (fun h => ?_) (fun h => ?_)
  · have hf := (if_pos h).symm.trans hf
    refine lv_iconst (v := (-1)) hx hb dn_Circuit_placeOf_28 (by decide) ?_
    rw [hQQ, ← Option.some.inj hf]
    exact xk_iret (w1 := fun u : Unit => (wC a v cI cB cJ cZ cQ q_1.2)) () hx hb hr hlocks hK hS dn_Circuit_placeOf_29 hP hD rfl (Nat.le_refl _) (Nat.le_refl _)
  · have hf := (if_neg h).symm.trans hf
    refine lv_aload_n hx hb dn_Circuit_placeOf_8 rfl (lv_at hl 0 rfl) ?_
    refine va_get (D := (dC, dI)) (ci := 9) (v := .ref ((a 113))) (C := rn_Circuit) (T := fn_Circuit) (N := 14) hx hb hg in_Circuit hown hK hP 12 rfl rfl 0 (by decide) (hg _ wn_3_61) (fun _ h9 => h9) rfl dn_Circuit_placeOf_9 ?_
    refine va_get (D := (dC, dI)) (ci := 10) (v := .ref ((a 114))) (C := rn_Design) (T := fn_Design) (N := 16) hx hb hg in_Design hown hK hP 13 rfl rfl 0 (by decide) (hg _ wn_2_237) (fun _ h9 => h9) rfl dn_Circuit_placeOf_12 ?_
    refine va_get (D := (dC, dI)) (ci := 11) (v := .ref ((a 372))) (C := rn_Parts) (T := fn_Parts) (N := 15) hx hb hg in_Parts hown hK hP 14 rfl rfl 1 (by decide) (hg _ wn_2_128) (fun _ h9 => h9) rfl dn_Circuit_placeOf_15 ?_
    refine lv_aload_n hx hb dn_Circuit_placeOf_18 rfl (lv_at hl 0 rfl) ?_
    refine va_get (D := (dC, dI)) (ci := 9) (v := .ref ((a 348))) (C := rn_Circuit) (T := fn_Circuit) (N := 14) hx hb hg in_Circuit hown hK hP 12 rfl rfl 7 (by decide) (hg _ wn_3_78) (fun _ h9 => h9) rfl dn_Circuit_placeOf_19 ?_
    refine lv_iload_n hx hb dn_Circuit_placeOf_22 rfl (lv_at hl 1 rfl) ?_
    obtain ⟨hg_4, hf⟩ := dc_g hf
    refine va_iald hx hb hK hP 80 0 rfl rfl hg_4 dn_Circuit_placeOf_23 ?_
    refine xk_ti (y := ((q_1.2.1 348) (Int32.toNatClampNeg v1))) rfl ?_
    obtain ⟨hg_5, hf⟩ := dc_g hf
    refine va_iald hx hb hK hP 95 0 rfl rfl hg_5 dn_Circuit_placeOf_24 ?_
    refine xk_ti (y := ((q_1.2.1 372) (Int32.toNatClampNeg (((q_1.2.1 348) (Int32.toNatClampNeg v1)))))) rfl ?_
    refine lv_goto (tgt := 29) hx hb dn_Circuit_placeOf_25 (by decide) ?_
    rw [hQQ, ← Option.some.inj hf]
    exact xk_iret (w1 := fun u : Unit => (wC a v cI cB cJ cZ cQ q_1.2)) () hx hb hr hlocks hK hS dn_Circuit_placeOf_29 hP hD rfl (Nat.le_refl _) (Nat.le_refl _)
def fn_Circuit_firstOf_Cs (N : Nat) (v1 : Int32) (s : ms) : Option (Int64 × ms) :=
  (fn_Circuit_isSignal_Cs N v1 s).bind (fun q_1 => if q_1.1 = 0 then (some (0, q_1.2)) else (if (v1 < 0 ∨ 1024 ≤ Int32.toNatClampNeg v1) then none else if (((q_1.2.1 298) (Int32.toNatClampNeg v1)) < 0 ∨ 10923 ≤ Int32.toNatClampNeg (((q_1.2.1 298) (Int32.toNatClampNeg v1)))) then none else some (((q_1.2.2 325) (Int32.toNatClampNeg (((q_1.2.1 298) (Int32.toNatClampNeg v1))))), q_1.2)))
set_option maxHeartbeats 8000000 in
set_option maxRecDepth 100000 in
theorem ct_Circuit_firstOf_Cs (l : Launch) (dC : Nat → ClassId) (dI : Nat → Nat → Nat) (cI cB cJ cZ cQ : ClassId) (N sz : Nat) (a : Nat → Nat) (v : Nat → Value) (v1 : Int32) (s : ms) (y : (Int64 × ms)) (hf : fn_Circuit_firstOf_Cs N v1 s = some y) : Met l yn_Circuit_firstOf (xw yn_Circuit_firstOf bn_Circuit_firstOf 2 (some .long)) ({ frames := 1, cells := 0, slots := 0, locals := 21 }) (dc_P (dC, dI) xcl (xt cI cB cJ cZ cQ) [.ref ((a 108)), .int v1] sz (wC a v cI cB cJ cZ cQ s)) (xk_Ql (dC, dI) xcl (xt cI cB cJ cZ cQ) (fun (r : Int64) (_ : Unit) => r = y.1) (fun u : Unit => (wC a v cI cB cJ cZ cQ y.2)) (va_A (wC a v cI cB cJ cZ cQ s) sz)) 0 0 (va_A (wC a v cI cB cJ cZ cQ s) sz) := by
  refine dc_of (QA := xk_Ql (dC, dI) xcl (xt cI cB cJ cZ cQ) (fun (r : Int64) (_ : Unit) => r = y.1) (fun u : Unit => (wC a v cI cB cJ cZ cQ y.2))) (by decide) (Nat.le_of_ble_eq_true rfl) ?_
  intro p e s0 m below meth c hx hb hml hown hg hr hlocks hin hP hK hN A hA hD hT ls hl
  have hown : s0.vm.findClass rn_Circuit = some m.cls := hown
  obtain ⟨H, hH⟩ : ∃ z, z = s0.heap := ⟨_, rfl⟩
  rw [← hH] at hP
  have hS : va_S A s0.heap H [] := by rw [hH]; exact va_S.rf
  suffices kk : ∀ QQ : State → Prop, QQ = MQ below (xk_Ql (dC, dI) xcl (xt cI cB cJ cZ cQ) (fun (r : Int64) (_ : Unit) => r = y.1) (fun u : Unit => (wC a v cI cB cJ cZ cQ y.2)) A) [.ref ((a 108)), .int v1].toArray s0 0 0 A → dcC p l e ({ frames := 1, cells := 0, slots := 0, locals := 21 }) s0 m [.ref ((a 108)), .int v1].toArray below meth c QQ (dC, dI) A (wC a v cI cB cJ cZ cQ s) 0 2 [(0, .ref ((a 108))), (1, .int v1)] [] by
    have k9 := kk _ rfl H [] ls hP hD hS hl
    rw [hH] at k9; exact k9
  clear hP hD hS hl hH H ls
  intro QQ hQQ
  intro H locs ls hP hD hS hl
  unfold fn_Circuit_firstOf_Cs at hf
  refine lv_aload_n hx hb dn_Circuit_firstOf_0 rfl (lv_at hl 0 rfl) ?_
  refine lv_iload_n hx hb dn_Circuit_firstOf_1 rfl (lv_at hl 1 rfl) ?_
  obtain ⟨q_1, hc_2, hf⟩ := dc_b hf
  refine dc_calli (dc_runV (ar := 1) (As := [.int v1]) (rest := []) (ci := 9) (q0 := 8) ⟨hx, hb, hml, hown, hg⟩ hK hN hT hS hA (ct_Circuit_isSignal_Cs l dC dI cI cB cJ cZ cQ N H.size a v v1 s q_1 hc_2) hP hD rfl rfl wn_6_239 wn_7_1 sn_Circuit_isSignal wn_1_9 wn_7_2 rfl rfl (by decide +kernel) ⟨Nat.le_of_ble_eq_true rfl, Nat.le_of_ble_eq_true rfl⟩ rfl hl.1 rfl (Nat.le_of_ble_eq_true rfl) dn_Circuit_firstOf_2 ⟨Nat.le_of_ble_eq_true rfl, Nat.le_of_ble_eq_true rfl⟩) hP hD hS hA (fun r_3 _ H locs hw hP hD hS => ?_)
  have hw : r_3 = q_1.1 := hw
  subst hw
  refine lv_if_eq (tgt := 28) hx hb dn_Circuit_firstOf_5 (by decide) (fun h => ?_) (fun h => ?_)
  · have hf := (if_pos h).symm.trans hf
    refine lv_lconst (v := 0) hx hb dn_Circuit_firstOf_28 (by decide) ?_
    rw [hQQ, ← Option.some.inj hf]
    exact xk_lret (w1 := fun u : Unit => (wC a v cI cB cJ cZ cQ q_1.2)) () hx hb hr hlocks hK hS dn_Circuit_firstOf_29 hP hD rfl (Nat.le_refl _) (Nat.le_refl _)
  · have hf := (if_neg h).symm.trans hf
    refine lv_aload_n hx hb dn_Circuit_firstOf_8 rfl (lv_at hl 0 rfl) ?_
    refine va_get (D := (dC, dI)) (ci := 9) (v := .ref ((a 109))) (C := rn_Circuit) (T := fn_Circuit) (N := 14) hx hb hg in_Circuit hown hK hP 8 rfl rfl 0 (by decide) (hg _ wn_3_61) (fun _ h9 => h9) rfl dn_Circuit_firstOf_9 ?_
    refine va_get (D := (dC, dI)) (ci := 10) (v := .ref ((a 110))) (C := rn_Design) (T := fn_Design) (N := 16) hx hb hg in_Design hown hK hP 9 rfl rfl 0 (by decide) (hg _ wn_2_237) (fun _ h9 => h9) rfl dn_Circuit_firstOf_12 ?_
    refine va_get (D := (dC, dI)) (ci := 11) (v := .ref ((a 325))) (C := rn_Parts) (T := fn_Parts) (N := 15) hx hb hg in_Parts hown hK hP 10 rfl rfl 4 (by decide) (hg _ wn_2_142) (fun _ h9 => h9) rfl dn_Circuit_firstOf_15 ?_
    refine lv_aload_n hx hb dn_Circuit_firstOf_18 rfl (lv_at hl 0 rfl) ?_
    refine va_get (D := (dC, dI)) (ci := 9) (v := .ref ((a 298))) (C := rn_Circuit) (T := fn_Circuit) (N := 14) hx hb hg in_Circuit hown hK hP 8 rfl rfl 7 (by decide) (hg _ wn_3_78) (fun _ h9 => h9) rfl dn_Circuit_firstOf_19 ?_
    refine lv_iload_n hx hb dn_Circuit_firstOf_22 rfl (lv_at hl 1 rfl) ?_
    obtain ⟨hg_4, hf⟩ := dc_g hf
    refine va_iald hx hb hK hP 46 0 rfl rfl hg_4 dn_Circuit_firstOf_23 ?_
    refine xk_ti (y := ((q_1.2.1 298) (Int32.toNatClampNeg v1))) rfl ?_
    obtain ⟨hg_5, hf⟩ := dc_g hf
    refine va_lald hx hb hK hP 64 2 rfl rfl hg_5 dn_Circuit_firstOf_24 ?_
    refine xk_tl (y := ((q_1.2.2 325) (Int32.toNatClampNeg (((q_1.2.1 298) (Int32.toNatClampNeg v1)))))) rfl ?_
    refine lv_goto (tgt := 29) hx hb dn_Circuit_firstOf_25 (by decide) ?_
    rw [hQQ, ← Option.some.inj hf]
    exact xk_lret (w1 := fun u : Unit => (wC a v cI cB cJ cZ cQ q_1.2)) () hx hb hr hlocks hK hS dn_Circuit_firstOf_29 hP hD rfl (Nat.le_refl _) (Nat.le_refl _)
def fn_Circuit_firstOf_Cc (N : Nat) (v1 : Int32) (s : ms) : Option (Int64 × ms) :=
  (fn_Circuit_isSignal_Cc N v1 s).bind (fun q_1 => if q_1.1 = 0 then (some (0, q_1.2)) else (if (v1 < 0 ∨ 1024 ≤ Int32.toNatClampNeg v1) then none else if (((q_1.2.1 348) (Int32.toNatClampNeg v1)) < 0 ∨ 10923 ≤ Int32.toNatClampNeg (((q_1.2.1 348) (Int32.toNatClampNeg v1)))) then none else some (((q_1.2.2 375) (Int32.toNatClampNeg (((q_1.2.1 348) (Int32.toNatClampNeg v1))))), q_1.2)))
set_option maxHeartbeats 8000000 in
set_option maxRecDepth 100000 in
theorem ct_Circuit_firstOf_Cc (l : Launch) (dC : Nat → ClassId) (dI : Nat → Nat → Nat) (cI cB cJ cZ cQ : ClassId) (N sz : Nat) (a : Nat → Nat) (v : Nat → Value) (v1 : Int32) (s : ms) (y : (Int64 × ms)) (hf : fn_Circuit_firstOf_Cc N v1 s = some y) : Met l yn_Circuit_firstOf (xw yn_Circuit_firstOf bn_Circuit_firstOf 2 (some .long)) ({ frames := 1, cells := 0, slots := 0, locals := 21 }) (dc_P (dC, dI) xcl (xt cI cB cJ cZ cQ) [.ref ((a 112)), .int v1] sz (wC a v cI cB cJ cZ cQ s)) (xk_Ql (dC, dI) xcl (xt cI cB cJ cZ cQ) (fun (r : Int64) (_ : Unit) => r = y.1) (fun u : Unit => (wC a v cI cB cJ cZ cQ y.2)) (va_A (wC a v cI cB cJ cZ cQ s) sz)) 0 0 (va_A (wC a v cI cB cJ cZ cQ s) sz) := by
  refine dc_of (QA := xk_Ql (dC, dI) xcl (xt cI cB cJ cZ cQ) (fun (r : Int64) (_ : Unit) => r = y.1) (fun u : Unit => (wC a v cI cB cJ cZ cQ y.2))) (by decide) (Nat.le_of_ble_eq_true rfl) ?_
  intro p e s0 m below meth c hx hb hml hown hg hr hlocks hin hP hK hN A hA hD hT ls hl
  have hown : s0.vm.findClass rn_Circuit = some m.cls := hown
  obtain ⟨H, hH⟩ : ∃ z, z = s0.heap := ⟨_, rfl⟩
  rw [← hH] at hP
  have hS : va_S A s0.heap H [] := by rw [hH]; exact va_S.rf
  suffices kk : ∀ QQ : State → Prop, QQ = MQ below (xk_Ql (dC, dI) xcl (xt cI cB cJ cZ cQ) (fun (r : Int64) (_ : Unit) => r = y.1) (fun u : Unit => (wC a v cI cB cJ cZ cQ y.2)) A) [.ref ((a 112)), .int v1].toArray s0 0 0 A → dcC p l e ({ frames := 1, cells := 0, slots := 0, locals := 21 }) s0 m [.ref ((a 112)), .int v1].toArray below meth c QQ (dC, dI) A (wC a v cI cB cJ cZ cQ s) 0 2 [(0, .ref ((a 112))), (1, .int v1)] [] by
    have k9 := kk _ rfl H [] ls hP hD hS hl
    rw [hH] at k9; exact k9
  clear hP hD hS hl hH H ls
  intro QQ hQQ
  intro H locs ls hP hD hS hl
  unfold fn_Circuit_firstOf_Cc at hf
  refine lv_aload_n hx hb dn_Circuit_firstOf_0 rfl (lv_at hl 0 rfl) ?_
  refine lv_iload_n hx hb dn_Circuit_firstOf_1 rfl (lv_at hl 1 rfl) ?_
  obtain ⟨q_1, hc_2, hf⟩ := dc_b hf
  refine dc_calli (dc_runV (ar := 1) (As := [.int v1]) (rest := []) (ci := 9) (q0 := 12) ⟨hx, hb, hml, hown, hg⟩ hK hN hT hS hA (ct_Circuit_isSignal_Cc l dC dI cI cB cJ cZ cQ N H.size a v v1 s q_1 hc_2) hP hD rfl rfl wn_6_239 wn_7_1 sn_Circuit_isSignal wn_1_9 wn_7_2 rfl rfl (by decide +kernel) ⟨Nat.le_of_ble_eq_true rfl, Nat.le_of_ble_eq_true rfl⟩ rfl hl.1 rfl (Nat.le_of_ble_eq_true rfl) dn_Circuit_firstOf_2 ⟨Nat.le_of_ble_eq_true rfl, Nat.le_of_ble_eq_true rfl⟩) hP hD hS hA (fun r_3 _ H locs hw hP hD hS => ?_)
  have hw : r_3 = q_1.1 := hw
  subst hw
  refine lv_if_eq (tgt := 28) hx hb dn_Circuit_firstOf_5 (by decide) (fun h => ?_) (fun h => ?_)
  · have hf := (if_pos h).symm.trans hf
    refine lv_lconst (v := 0) hx hb dn_Circuit_firstOf_28 (by decide) ?_
    rw [hQQ, ← Option.some.inj hf]
    exact xk_lret (w1 := fun u : Unit => (wC a v cI cB cJ cZ cQ q_1.2)) () hx hb hr hlocks hK hS dn_Circuit_firstOf_29 hP hD rfl (Nat.le_refl _) (Nat.le_refl _)
  · have hf := (if_neg h).symm.trans hf
    refine lv_aload_n hx hb dn_Circuit_firstOf_8 rfl (lv_at hl 0 rfl) ?_
    refine va_get (D := (dC, dI)) (ci := 9) (v := .ref ((a 113))) (C := rn_Circuit) (T := fn_Circuit) (N := 14) hx hb hg in_Circuit hown hK hP 12 rfl rfl 0 (by decide) (hg _ wn_3_61) (fun _ h9 => h9) rfl dn_Circuit_firstOf_9 ?_
    refine va_get (D := (dC, dI)) (ci := 10) (v := .ref ((a 114))) (C := rn_Design) (T := fn_Design) (N := 16) hx hb hg in_Design hown hK hP 13 rfl rfl 0 (by decide) (hg _ wn_2_237) (fun _ h9 => h9) rfl dn_Circuit_firstOf_12 ?_
    refine va_get (D := (dC, dI)) (ci := 11) (v := .ref ((a 375))) (C := rn_Parts) (T := fn_Parts) (N := 15) hx hb hg in_Parts hown hK hP 14 rfl rfl 4 (by decide) (hg _ wn_2_142) (fun _ h9 => h9) rfl dn_Circuit_firstOf_15 ?_
    refine lv_aload_n hx hb dn_Circuit_firstOf_18 rfl (lv_at hl 0 rfl) ?_
    refine va_get (D := (dC, dI)) (ci := 9) (v := .ref ((a 348))) (C := rn_Circuit) (T := fn_Circuit) (N := 14) hx hb hg in_Circuit hown hK hP 12 rfl rfl 7 (by decide) (hg _ wn_3_78) (fun _ h9 => h9) rfl dn_Circuit_firstOf_19 ?_
    refine lv_iload_n hx hb dn_Circuit_firstOf_22 rfl (lv_at hl 1 rfl) ?_
    obtain ⟨hg_4, hf⟩ := dc_g hf
    refine va_iald hx hb hK hP 80 0 rfl rfl hg_4 dn_Circuit_firstOf_23 ?_
    refine xk_ti (y := ((q_1.2.1 348) (Int32.toNatClampNeg v1))) rfl ?_
    obtain ⟨hg_5, hf⟩ := dc_g hf
    refine va_lald hx hb hK hP 98 2 rfl rfl hg_5 dn_Circuit_firstOf_24 ?_
    refine xk_tl (y := ((q_1.2.2 375) (Int32.toNatClampNeg (((q_1.2.1 348) (Int32.toNatClampNeg v1)))))) rfl ?_
    refine lv_goto (tgt := 29) hx hb dn_Circuit_firstOf_25 (by decide) ?_
    rw [hQQ, ← Option.some.inj hf]
    exact xk_lret (w1 := fun u : Unit => (wC a v cI cB cJ cZ cQ q_1.2)) () hx hb hr hlocks hK hS dn_Circuit_firstOf_29 hP hD rfl (Nat.le_refl _) (Nat.le_refl _)
def fn_C_fault_C (N : Nat) (s : ms) : Option (Int32 × ms) :=
  some ((s.1 201 0), s)
set_option maxHeartbeats 8000000 in
set_option maxRecDepth 100000 in
theorem ct_C_fault_C (l : Launch) (dC : Nat → ClassId) (dI : Nat → Nat → Nat) (cI cB cJ cZ cQ : ClassId) (N sz : Nat) (a : Nat → Nat) (v : Nat → Value) (s : ms) (y : (Int32 × ms)) (hf : fn_C_fault_C N s = some y) : Met l yn_C_fault (xw yn_C_fault bn_C_fault 1 (some .int)) ({ frames := 0, cells := 0, slots := 0, locals := 0 }) (dc_P (dC, dI) xcl (xt cI cB cJ cZ cQ) [.ref ((a 100))] sz (wC a v cI cB cJ cZ cQ s)) (xk_Qi (dC, dI) xcl (xt cI cB cJ cZ cQ) (fun (r : Int32) (_ : Unit) => r = y.1) (fun u : Unit => (wC a v cI cB cJ cZ cQ y.2)) (va_A (wC a v cI cB cJ cZ cQ s) sz)) 0 0 (va_A (wC a v cI cB cJ cZ cQ s) sz) := by
  refine dc_of (QA := xk_Qi (dC, dI) xcl (xt cI cB cJ cZ cQ) (fun (r : Int32) (_ : Unit) => r = y.1) (fun u : Unit => (wC a v cI cB cJ cZ cQ y.2))) (by decide) (Nat.le_of_ble_eq_true rfl) ?_
  intro p e s0 m below meth c hx hb hml hown hg hr hlocks hin hP hK hN A hA hD hT ls hl
  have hown : s0.vm.findClass rn_C = some m.cls := hown
  obtain ⟨H, hH⟩ : ∃ z, z = s0.heap := ⟨_, rfl⟩
  rw [← hH] at hP
  have hS : va_S A s0.heap H [] := by rw [hH]; exact va_S.rf
  suffices kk : ∀ QQ : State → Prop, QQ = MQ below (xk_Qi (dC, dI) xcl (xt cI cB cJ cZ cQ) (fun (r : Int32) (_ : Unit) => r = y.1) (fun u : Unit => (wC a v cI cB cJ cZ cQ y.2)) A) [.ref ((a 100))].toArray s0 0 0 A → dcC p l e ({ frames := 0, cells := 0, slots := 0, locals := 0 }) s0 m [.ref ((a 100))].toArray below meth c QQ (dC, dI) A (wC a v cI cB cJ cZ cQ s) 0 1 [(0, .ref ((a 100)))] [] by
    have k9 := kk _ rfl H [] ls hP hD hS hl
    rw [hH] at k9; exact k9
  clear hP hD hS hl hH H ls
  intro QQ hQQ
  intro H locs ls hP hD hS hl
  unfold fn_C_fault_C at hf
  refine lv_aload_n hx hb dn_C_fault_0 rfl (lv_at hl 0 rfl) ?_
  refine va_get (D := (dC, dI)) (ci := 1) (v := .int ((s.1 201 0))) (C := rn_C) (T := fn_C) (N := 11) hx hb hg in_C hown hK hP 0 rfl rfl 1 (by decide) (hg _ wn_3_126) (fun _ h9 => h9) rfl dn_C_fault_1 ?_
  rw [hQQ, ← Option.some.inj hf]
  exact xk_iret (w1 := fun u : Unit => (wC a v cI cB cJ cZ cQ s)) () hx hb hr hlocks hK hS dn_C_fault_4 hP hD rfl (Nat.le_refl _) (Nat.le_refl _)
def bd_C_append_C_14 (N : Nat) (k_14 : Int32 → Int32 → ms → Option (Unit × ms)) (x1 : Int32) (x3 : Int32) (s : ms) : Option (Unit × ms) :=
  if x3 < 0 then (some ((), s)) else (if 65536 ≤ (s.1 200 0) then (some ((), s)) else (if ((s.1 200 0) < 0 ∨ 65536 ≤ Int32.toNatClampNeg ((s.1 200 0))) then none else k_14 x1 ((x3 + (-8))) (upI (upI s 307 (upd (s.1 307) (Int32.toNatClampNeg ((s.1 200 0))) (vp_nar .byte (((Int32.toInt8 (((Int32.toUInt32 x1 >>> (Int32.toUInt32 x3 &&& Int32.toUInt32 31)).toInt32))).toInt32))))) 200 (fun _ => ((s.1 200 0) + 1)))))
def hd_C_append_C_14 (N : Nat) : Nat → Int32 → Int32 → ms → Option (Unit × ms)
  | 0, _, _, _ => none
  | n + 1, x1, x3, s => bd_C_append_C_14 N (hd_C_append_C_14 N n) x1 x3 s
def fn_C_append_C (N : Nat) (v1 : Int32) (s : ms) : Option (Unit × ms) :=
  hd_C_append_C_14 N N v1 24 s
set_option maxHeartbeats 8000000 in
set_option maxRecDepth 100000 in
theorem ct_C_append_C (l : Launch) (dC : Nat → ClassId) (dI : Nat → Nat → Nat) (cI cB cJ cZ cQ : ClassId) (N sz : Nat) (a : Nat → Nat) (v : Nat → Value) (v1 : Int32) (s : ms) (y : (Unit × ms)) (hf : fn_C_append_C N v1 s = some y) : Met l yn_C_append (xw yn_C_append bn_C_append 4 none) ({ frames := 0, cells := 0, slots := 0, locals := 0 }) (dc_P (dC, dI) xcl (xt cI cB cJ cZ cQ) [.ref ((a 100)), .int v1] sz (wC a v cI cB cJ cZ cQ s)) (xk_Qv (dC, dI) xcl (xt cI cB cJ cZ cQ) (fun _ : Unit => True) (fun u : Unit => (wC a v cI cB cJ cZ cQ y.2)) (va_A (wC a v cI cB cJ cZ cQ s) sz)) 0 0 (va_A (wC a v cI cB cJ cZ cQ s) sz) := by
  refine dc_of (QA := xk_Qv (dC, dI) xcl (xt cI cB cJ cZ cQ) (fun _ : Unit => True) (fun u : Unit => (wC a v cI cB cJ cZ cQ y.2))) (by decide) (Nat.le_of_ble_eq_true rfl) ?_
  intro p e s0 m below meth c hx hb hml hown hg hr hlocks hin hP hK hN A hA hD hT ls hl
  have hown : s0.vm.findClass rn_C = some m.cls := hown
  obtain ⟨H, hH⟩ : ∃ z, z = s0.heap := ⟨_, rfl⟩
  rw [← hH] at hP
  have hS : va_S A s0.heap H [] := by rw [hH]; exact va_S.rf
  suffices kk : ∀ QQ : State → Prop, QQ = MQ below (xk_Qv (dC, dI) xcl (xt cI cB cJ cZ cQ) (fun _ : Unit => True) (fun u : Unit => (wC a v cI cB cJ cZ cQ y.2)) A) [.ref ((a 100)), .int v1].toArray s0 0 0 A → dcC p l e ({ frames := 0, cells := 0, slots := 0, locals := 0 }) s0 m [.ref ((a 100)), .int v1].toArray below meth c QQ (dC, dI) A (wC a v cI cB cJ cZ cQ s) 0 4 [(0, .ref ((a 100))), (1, .int v1)] [] by
    have k9 := kk _ rfl H [] ls hP hD hS hl
    rw [hH] at k9; exact k9
  clear hP hD hS hl hH H ls
  intro QQ hQQ
  have hd_14 : ∀ (n : Nat) (x1 : Int32) (x3 : Int32) (s : ms), hd_C_append_C_14 N n x1 x3 s = some y → dcC p l e ({ frames := 0, cells := 0, slots := 0, locals := 0 }) s0 m [.ref ((a 100)), .int v1].toArray below meth c QQ (dC, dI) A (wC a v cI cB cJ cZ cQ s) 14 4 [(0, .ref ((a 100))), (1, .int x1), (2, .ref ((a 307))), (3, .int x3)] [] := by
    intro n
    induction n with
    | zero => intro x1 x3 s hf; cases hf
    | succ n ih =>
      intro x1 x3 s hf H locs ls hP hD hS hl
      have hf : bd_C_append_C_14 N (hd_C_append_C_14 N n) x1 x3 s = some y := hf
      have hk_14 := ih
      generalize hd_C_append_C_14 N n = k_14 at hf hk_14
      unfold bd_C_append_C_14 at hf
      refine lv_iload_n hx hb dn_C_append_14 rfl (lv_at hl 3 rfl) ?_
      refine lv_if_lt (tgt := 53) hx hb dn_C_append_15 (by decide) (fun h => ?_) (fun h => ?_)
      · have hf := (if_pos h).symm.trans hf
        rw [hQQ, ← Option.some.inj hf]
        exact xk_vret (w1 := fun u : Unit => (wC a v cI cB cJ cZ cQ s)) () hx hb hr hlocks hK hS dn_C_append_53 hP hD trivial (Nat.le_refl _) (Nat.le_refl _)
      · have hf := (if_neg h).symm.trans hf
        refine lv_aload_n hx hb dn_C_append_18 rfl (lv_at hl 0 rfl) ?_
        refine va_get (D := (dC, dI)) (ci := 1) (v := .int ((s.1 200 0))) (C := rn_C) (T := fn_C) (N := 11) hx hb hg in_C hown hK hP 0 rfl rfl 0 (by decide) (hg _ wn_3_125) (fun _ h9 => h9) rfl dn_C_append_19 ?_
        refine lv_aload_n hx hb dn_C_append_22 rfl (lv_at hl 2 rfl) ?_
        refine va_alen (v := 65536) hx hb hK hP 52 1 rfl rfl rfl dn_C_append_23 ?_
        refine lv_icmp_ge (tgt := 53) hx hb dn_C_append_24 (by decide) (fun h => ?_) (fun h => ?_)
        · have hf := (if_pos h).symm.trans hf
          rw [hQQ, ← Option.some.inj hf]
          exact xk_vret (w1 := fun u : Unit => (wC a v cI cB cJ cZ cQ s)) () hx hb hr hlocks hK hS dn_C_append_53 hP hD trivial (Nat.le_refl _) (Nat.le_refl _)
        · have hf := (if_neg h).symm.trans hf
          refine lv_aload_n hx hb dn_C_append_27 rfl (lv_at hl 2 rfl) ?_
          refine lv_aload_n hx hb dn_C_append_28 rfl (lv_at hl 0 rfl) ?_
          refine va_get (D := (dC, dI)) (ci := 1) (v := .int ((s.1 200 0))) (C := rn_C) (T := fn_C) (N := 11) hx hb hg in_C hown hK hP 0 rfl rfl 0 (by decide) (hg _ wn_3_125) (fun _ h9 => h9) rfl dn_C_append_29 ?_
          refine lv_iload_n hx hb dn_C_append_32 rfl (lv_at hl 1 rfl) ?_
          refine lv_iload_n hx hb dn_C_append_33 rfl (lv_at hl 3 rfl) ?_
          refine lv_iushr (v := (Int32.toUInt32 x1 >>> (Int32.toUInt32 x3 &&& Int32.toUInt32 31)).toInt32) hx hb dn_C_append_34 rfl ?_
          refine lv_i2b (v := (Int32.toInt8 (((Int32.toUInt32 x1 >>> (Int32.toUInt32 x3 &&& Int32.toUInt32 31)).toInt32))).toInt32) hx hb dn_C_append_35 rfl ?_
          obtain ⟨hg_1, hf⟩ := dc_g hf
          refine va_bast hx hb hK hP hD hS 52 1 rfl rfl hg_1 dn_C_append_36 (fun H locs hP hD hS => ?_)
          have hP : va_P (dC, dI) xcl ((wC a v cI cB cJ cZ cQ s).set 52 ((a 307), .inl (cB, 65536, .inl (upd (s.1 307) (Int32.toNatClampNeg ((s.1 200 0))) (vp_nar .byte (((Int32.toInt8 (((Int32.toUInt32 x1 >>> (Int32.toUInt32 x3 &&& Int32.toUInt32 31)).toInt32))).toInt32))))))) H := hP
          have hD : va_D A ((wC a v cI cB cJ cZ cQ s).set 52 ((a 307), .inl (cB, 65536, .inl (upd (s.1 307) (Int32.toNatClampNeg ((s.1 200 0))) (vp_nar .byte (((Int32.toInt8 (((Int32.toUInt32 x1 >>> (Int32.toUInt32 x3 &&& Int32.toUInt32 31)).toInt32))).toInt32))))))) := hD
          have hP := wC_P_307 hP
          have hD := wC_D_307 hD
          refine lv_aload_n hx hb dn_C_append_37 rfl (lv_at hl 0 rfl) ?_
          refine lv_dup hx hb dn_C_append_38 rfl ?_
          refine va_get (D := (dC, dI)) (ci := 1) (v := .int ((s.1 200 0))) (C := rn_C) (T := fn_C) (N := 11) hx hb hg in_C hown hK hP 0 rfl rfl 0 (by decide) (hg _ wn_3_125) (fun _ h9 => h9) rfl dn_C_append_39 ?_
          refine lv_iconst (v := 1) hx hb dn_C_append_42 (by decide) ?_
          refine lv_iadd hx hb dn_C_append_43 ?_
          refine va_put (D := (dC, dI)) (ci := 1) (v := .int (((s.1 200 0) + 1))) (ty := .int) (C := rn_C) (T := fn_C) (N := 11) hx hb hg in_C tn_C tk_C nn_C hown hK hP hD hS 0 rfl rfl 0 (by decide) (hg _ wn_3_125) (fun _ h9 => h9) rfl (tk_C 0 (by decide)) rfl rfl (Nat.le_of_ble_eq_true rfl) dn_C_append_44 (fun H locs hP hD hS => ?_)
          have hP := wC_P_200 hP
          have hD := wC_D_200 hD
          refine lv_iinc (v := (x3 + (-8))) (lv' := [(3, .int ((x3 + (-8)))), (0, .ref ((a 100))), (1, .int x1), (2, .ref ((a 307)))]) hx hb dn_C_append_47 hl (k := 3) rfl (dc_inc (by decide)) (by decide) rfl (fun ls hl => ?_)
          refine lv_goto (tgt := 14) hx hb dn_C_append_50 (by decide) ?_
          exact hk_14 x1 ((x3 + (-8))) (upI (upI s 307 (upd (s.1 307) (Int32.toNatClampNeg ((s.1 200 0))) (vp_nar .byte (((Int32.toInt8 (((Int32.toUInt32 x1 >>> (Int32.toUInt32 x3 &&& Int32.toUInt32 31)).toInt32))).toInt32))))) 200 (fun _ => ((s.1 200 0) + 1))) hf H locs ls hP hD hS (lv_sub hl [1, 2, 3, 0] rfl)
  intro H locs ls hP hD hS hl
  unfold fn_C_append_C at hf
  refine lv_aload_n hx hb dn_C_append_0 rfl (lv_at hl 0 rfl) ?_
  refine va_get (D := (dC, dI)) (ci := 1) (v := .ref ((a 108))) (C := rn_C) (T := fn_C) (N := 11) hx hb hg in_C hown hK hP 0 rfl rfl 10 (by decide) (hg _ wn_3_135) (fun _ h9 => h9) rfl dn_C_append_1 ?_
  refine va_get (D := (dC, dI)) (ci := 9) (v := .ref ((a 109))) (C := rn_Circuit) (T := fn_Circuit) (N := 14) hx hb hg in_Circuit hown hK hP 8 rfl rfl 0 (by decide) (hg _ wn_3_62) (fun _ h9 => h9) rfl dn_C_append_4 ?_
  refine va_get (D := (dC, dI)) (ci := 10) (v := .ref ((a 307))) (C := rn_Design) (T := fn_Design) (N := 16) hx hb hg in_Design hown hK hP 9 rfl rfl 2 (by decide) (hg _ wn_3_6) (fun _ h9 => h9) rfl dn_C_append_7 ?_
  refine lv_astore_n (lv' := [(2, .ref ((a 307))), (0, .ref ((a 100))), (1, .int v1)]) hx hb dn_C_append_10 rfl hl (by decide) rfl (fun ls hl => ?_)
  refine lv_bipush (v := 24) hx hb dn_C_append_11 (by decide) ?_
  refine lv_istore_n (lv' := [(3, .int 24), (2, .ref ((a 307))), (0, .ref ((a 100))), (1, .int v1)]) hx hb dn_C_append_13 rfl hl (by decide) rfl (fun ls hl => ?_)
  exact hd_14 N v1 24 s hf H locs ls hP hD hS (lv_sub hl [2, 3, 1, 0] rfl)
def bd_Design_isCalled_Dc_307_37 (N : Nat) (k_37 : Int32 → Int32 → Int32 → Int32 → ms → Option (Int32 × ms)) (x1 : Int32) (x3 : Int32) (x5 : Int32) (x6 : Int32) (s : ms) : Option (Int32 × ms) :=
  if x5 ≤ x6 then (if (s.1 358 0) ≤ (x1 + x5) then (some (1, s)) else (if ((x1 + x5) < 0 ∨ 65536 ≤ Int32.toNatClampNeg ((x1 + x5))) then none else (fn_C_continuesWord N (((s.1 357) (Int32.toNatClampNeg ((x1 + x5))))) s).bind (fun q_2 => if q_2.1 = 0 then (some (1, q_2.2)) else (some (0, q_2.2))))) else (if ((x3 + x6) < 0 ∨ 65536 ≤ Int32.toNatClampNeg ((x3 + x6))) then none else if ((x1 + x6) < 0 ∨ 65536 ≤ Int32.toNatClampNeg ((x1 + x6))) then none else if ((s.1 307) (Int32.toNatClampNeg ((x3 + x6)))) = ((s.1 357) (Int32.toNatClampNeg ((x1 + x6)))) then (if ((x3 + x6) < 0 ∨ 65536 ≤ Int32.toNatClampNeg ((x3 + x6))) then none else (fn_C_continuesWord N (((s.1 307) (Int32.toNatClampNeg ((x3 + x6))))) s).bind (fun q_4 => if q_4.1 = 0 then (some (0, q_4.2)) else (k_37 x1 x3 x5 ((x6 + 1)) q_4.2))) else (some (0, s)))
def hd_Design_isCalled_Dc_307_37 (N : Nat) : Nat → Int32 → Int32 → Int32 → Int32 → ms → Option (Int32 × ms)
  | 0, _, _, _, _, _ => none
  | n + 1, x1, x3, x5, x6, s => bd_Design_isCalled_Dc_307_37 N (hd_Design_isCalled_Dc_307_37 N n) x1 x3 x5 x6 s
def fn_Design_isCalled_Dc_307 (N : Nat) (v1 : Int32) (v3 : Int32) (v4 : Int32) (s : ms) : Option (Int32 × ms) :=
  if v1 < 0 then (some (0, s)) else (if v3 < 0 then (some (0, s)) else (if 65536 < v4 then (some (0, s)) else (if (v1 + (v4 - v3)) ≤ (s.1 358 0) then (hd_Design_isCalled_Dc_307_37 N N v1 v3 ((v4 - v3)) 0 s) else (some (0, s)))))
set_option maxHeartbeats 8000000 in
set_option maxRecDepth 100000 in
theorem ct_Design_isCalled_Dc_307 (l : Launch) (dC : Nat → ClassId) (dI : Nat → Nat → Nat) (cI cB cJ cZ cQ : ClassId) (N sz : Nat) (a : Nat → Nat) (v : Nat → Value) (v1 : Int32) (v3 : Int32) (v4 : Int32) (s : ms) (y : (Int32 × ms)) (hf : fn_Design_isCalled_Dc_307 N v1 v3 v4 s = some y) : Met l yn_Design_isCalled (xw yn_Design_isCalled bn_Design_isCalled 7 (some .boolean)) ({ frames := 2, cells := 0, slots := 0, locals := 40 }) (dc_P (dC, dI) xcl (xt cI cB cJ cZ cQ) [.ref ((a 113)), .int v1, .ref ((a 307)), .int v3, .int v4] sz (wC a v cI cB cJ cZ cQ s)) (xk_Qi (dC, dI) xcl (xt cI cB cJ cZ cQ) (fun (r : Int32) (_ : Unit) => r = y.1) (fun u : Unit => (wC a v cI cB cJ cZ cQ y.2)) (va_A (wC a v cI cB cJ cZ cQ s) sz)) 0 0 (va_A (wC a v cI cB cJ cZ cQ s) sz) := by
  refine dc_of (QA := xk_Qi (dC, dI) xcl (xt cI cB cJ cZ cQ) (fun (r : Int32) (_ : Unit) => r = y.1) (fun u : Unit => (wC a v cI cB cJ cZ cQ y.2))) (by decide) (Nat.le_of_ble_eq_true rfl) ?_
  intro p e s0 m below meth c hx hb hml hown hg hr hlocks hin hP hK hN A hA hD hT ls hl
  have hown : s0.vm.findClass rn_Design = some m.cls := hown
  obtain ⟨H, hH⟩ : ∃ z, z = s0.heap := ⟨_, rfl⟩
  rw [← hH] at hP
  have hS : va_S A s0.heap H [] := by rw [hH]; exact va_S.rf
  suffices kk : ∀ QQ : State → Prop, QQ = MQ below (xk_Qi (dC, dI) xcl (xt cI cB cJ cZ cQ) (fun (r : Int32) (_ : Unit) => r = y.1) (fun u : Unit => (wC a v cI cB cJ cZ cQ y.2)) A) [.ref ((a 113)), .int v1, .ref ((a 307)), .int v3, .int v4].toArray s0 0 0 A → dcC p l e ({ frames := 2, cells := 0, slots := 0, locals := 40 }) s0 m [.ref ((a 113)), .int v1, .ref ((a 307)), .int v3, .int v4].toArray below meth c QQ (dC, dI) A (wC a v cI cB cJ cZ cQ s) 0 7 [(0, .ref ((a 113))), (1, .int v1), (2, .ref ((a 307))), (3, .int v3), (4, .int v4)] [] by
    have k9 := kk _ rfl H [] ls hP hD hS hl
    rw [hH] at k9; exact k9
  clear hP hD hS hl hH H ls
  intro QQ hQQ
  have hd_37 : ∀ (n : Nat) (x1 : Int32) (x3 : Int32) (x5 : Int32) (x6 : Int32) (s : ms), hd_Design_isCalled_Dc_307_37 N n x1 x3 x5 x6 s = some y → dcC p l e ({ frames := 2, cells := 0, slots := 0, locals := 40 }) s0 m [.ref ((a 113)), .int v1, .ref ((a 307)), .int v3, .int v4].toArray below meth c QQ (dC, dI) A (wC a v cI cB cJ cZ cQ s) 37 7 [(0, .ref ((a 113))), (1, .int x1), (2, .ref ((a 307))), (3, .int x3), (5, .int x5), (6, .int x6)] [] := by
    intro n
    induction n with
    | zero => intro x1 x3 x5 x6 s hf; cases hf
    | succ n ih =>
      intro x1 x3 x5 x6 s hf H locs ls hP hD hS hl
      have hf : bd_Design_isCalled_Dc_307_37 N (hd_Design_isCalled_Dc_307_37 N n) x1 x3 x5 x6 s = some y := hf
      have hk_37 := ih
      generalize hd_Design_isCalled_Dc_307_37 N n = k_37 at hf hk_37
      unfold bd_Design_isCalled_Dc_307_37 at hf
      refine lv_iload hx hb dn_Design_isCalled_37 (lv_at hl 5 rfl) ?_
      refine lv_iload hx hb dn_Design_isCalled_39 (lv_at hl 4 rfl) ?_
      refine lv_icmp_ge (tgt := 82) hx hb dn_Design_isCalled_41 (by decide) (fun h => ?_) (fun h => ?_)
      · have hf := (if_pos h).symm.trans hf
        refine lv_iload_n hx hb dn_Design_isCalled_82 rfl (lv_at hl 1 rfl) ?_
        refine lv_iload hx hb dn_Design_isCalled_83 (lv_at hl 4 rfl) ?_
        refine lv_iadd hx hb dn_Design_isCalled_85 ?_
        refine lv_aload_n hx hb dn_Design_isCalled_86 rfl (lv_at hl 0 rfl) ?_
        refine va_get (D := (dC, dI)) (ci := 10) (v := .int ((s.1 358 0))) (C := rn_Design) (T := fn_Design) (N := 16) hx hb hg in_Design hown hK hP 13 rfl rfl 3 (by decide) (hg _ wn_3_7) (fun _ h9 => h9) rfl dn_Design_isCalled_87 ?_
        refine lv_icmp_ge (tgt := 108) hx hb dn_Design_isCalled_90 (by decide) (fun h => ?_) (fun h => ?_)
        · have hf := (if_pos h).symm.trans hf
          refine lv_iconst (v := 1) hx hb dn_Design_isCalled_108 (by decide) ?_
          refine lv_goto (tgt := 113) hx hb dn_Design_isCalled_109 (by decide) ?_
          rw [hQQ, ← Option.some.inj hf]
          exact xk_zret (w1 := fun u : Unit => (wC a v cI cB cJ cZ cQ s)) () hx hb hr rfl hlocks hK hS dn_Design_isCalled_113 hP hD rfl (Nat.le_refl _) (Nat.le_refl _)
        · have hf := (if_neg h).symm.trans hf
          refine lv_aload_n hx hb dn_Design_isCalled_93 rfl (lv_at hl 0 rfl) ?_
          refine va_get (D := (dC, dI)) (ci := 10) (v := .ref ((a 357))) (C := rn_Design) (T := fn_Design) (N := 16) hx hb hg in_Design hown hK hP 13 rfl rfl 2 (by decide) (hg _ wn_3_4) (fun _ h9 => h9) rfl dn_Design_isCalled_94 ?_
          refine lv_iload_n hx hb dn_Design_isCalled_97 rfl (lv_at hl 1 rfl) ?_
          refine lv_iload hx hb dn_Design_isCalled_98 (lv_at hl 4 rfl) ?_
          refine lv_iadd hx hb dn_Design_isCalled_100 ?_
          obtain ⟨hg_1, hf⟩ := dc_g hf
          refine va_bald hx hb hK hP 86 1 rfl rfl hg_1 dn_Design_isCalled_101 ?_
          refine xk_ti (y := ((s.1 357) (Int32.toNatClampNeg ((x1 + x5))))) rfl ?_
          obtain ⟨q_2, hc_3, hf⟩ := dc_b hf
          refine dc_calli (dc_runSN (ar := 1) (As := [.int (((s.1 357) (Int32.toNatClampNeg ((x1 + x5)))))]) (rest := []) (host := "CircuitCycles") ⟨hx, hb, hml, hown, hg⟩ hK hN hT hS hA (ct_C_continuesWord l dC dI cI cB cJ cZ cQ N H.size a v (((s.1 357) (Int32.toNatClampNeg ((x1 + x5))))) s q_2 hc_3) hP hD nl_Design_120 wn_3_210 wn_1_1 wn_3_211 rfl rfl (by decide +kernel) ⟨Nat.le_of_ble_eq_true rfl, Nat.le_of_ble_eq_true rfl⟩ rfl hl.1 rfl (Nat.le_of_ble_eq_true rfl) dn_Design_isCalled_102 ⟨Nat.le_of_ble_eq_true rfl, Nat.le_of_ble_eq_true rfl⟩) hP hD hS hA (fun r_4 _ H locs hw hP hD hS => ?_)
          have hw : r_4 = q_2.1 := hw
          subst hw
          refine lv_if_ne (tgt := 112) hx hb dn_Design_isCalled_105 (by decide) (fun h => ?_) (fun h => ?_)
          · have hf := (if_neg h).symm.trans hf
            refine lv_iconst (v := 0) hx hb dn_Design_isCalled_112 (by decide) ?_
            rw [hQQ, ← Option.some.inj hf]
            exact xk_zret (w1 := fun u : Unit => (wC a v cI cB cJ cZ cQ q_2.2)) () hx hb hr rfl hlocks hK hS dn_Design_isCalled_113 hP hD rfl (Nat.le_refl _) (Nat.le_refl _)
          · have hf := (if_pos h).symm.trans hf
            refine lv_iconst (v := 1) hx hb dn_Design_isCalled_108 (by decide) ?_
            refine lv_goto (tgt := 113) hx hb dn_Design_isCalled_109 (by decide) ?_
            rw [hQQ, ← Option.some.inj hf]
            exact xk_zret (w1 := fun u : Unit => (wC a v cI cB cJ cZ cQ q_2.2)) () hx hb hr rfl hlocks hK hS dn_Design_isCalled_113 hP hD rfl (Nat.le_refl _) (Nat.le_refl _)
      · have hf := (if_neg h).symm.trans hf
        refine lv_aload_n hx hb dn_Design_isCalled_44 rfl (lv_at hl 2 rfl) ?_
        refine lv_iload_n hx hb dn_Design_isCalled_45 rfl (lv_at hl 3 rfl) ?_
        refine lv_iload hx hb dn_Design_isCalled_46 (lv_at hl 5 rfl) ?_
        refine lv_iadd hx hb dn_Design_isCalled_48 ?_
        obtain ⟨hg_1, hf⟩ := dc_g hf
        refine va_bald hx hb hK hP 52 1 rfl rfl hg_1 dn_Design_isCalled_49 ?_
        refine xk_ti (y := ((s.1 307) (Int32.toNatClampNeg ((x3 + x6))))) rfl ?_
        refine lv_aload_n hx hb dn_Design_isCalled_50 rfl (lv_at hl 0 rfl) ?_
        refine va_get (D := (dC, dI)) (ci := 10) (v := .ref ((a 357))) (C := rn_Design) (T := fn_Design) (N := 16) hx hb hg in_Design hown hK hP 13 rfl rfl 2 (by decide) (hg _ wn_3_4) (fun _ h9 => h9) rfl dn_Design_isCalled_51 ?_
        refine lv_iload_n hx hb dn_Design_isCalled_54 rfl (lv_at hl 1 rfl) ?_
        refine lv_iload hx hb dn_Design_isCalled_55 (lv_at hl 5 rfl) ?_
        refine lv_iadd hx hb dn_Design_isCalled_57 ?_
        obtain ⟨hg_2, hf⟩ := dc_g hf
        refine va_bald hx hb hK hP 86 1 rfl rfl hg_2 dn_Design_isCalled_58 ?_
        refine xk_ti (y := ((s.1 357) (Int32.toNatClampNeg ((x1 + x6))))) rfl ?_
        refine lv_icmp_ne (tgt := 74) hx hb dn_Design_isCalled_59 (by decide) (fun h => ?_) (fun h => ?_)
        · have hf := (if_neg h).symm.trans hf
          refine lv_iconst (v := 0) hx hb dn_Design_isCalled_74 (by decide) ?_
          rw [hQQ, ← Option.some.inj hf]
          exact xk_zret (w1 := fun u : Unit => (wC a v cI cB cJ cZ cQ s)) () hx hb hr rfl hlocks hK hS dn_Design_isCalled_75 hP hD rfl (Nat.le_refl _) (Nat.le_refl _)
        · have hf := (if_pos h).symm.trans hf
          refine lv_aload_n hx hb dn_Design_isCalled_62 rfl (lv_at hl 2 rfl) ?_
          refine lv_iload_n hx hb dn_Design_isCalled_63 rfl (lv_at hl 3 rfl) ?_
          refine lv_iload hx hb dn_Design_isCalled_64 (lv_at hl 5 rfl) ?_
          refine lv_iadd hx hb dn_Design_isCalled_66 ?_
          obtain ⟨hg_3, hf⟩ := dc_g hf
          refine va_bald hx hb hK hP 52 1 rfl rfl hg_3 dn_Design_isCalled_67 ?_
          refine xk_ti (y := ((s.1 307) (Int32.toNatClampNeg ((x3 + x6))))) rfl ?_
          obtain ⟨q_4, hc_5, hf⟩ := dc_b hf
          refine dc_calli (dc_runSN (ar := 1) (As := [.int (((s.1 307) (Int32.toNatClampNeg ((x3 + x6)))))]) (rest := []) (host := "CircuitCycles") ⟨hx, hb, hml, hown, hg⟩ hK hN hT hS hA (ct_C_continuesWord l dC dI cI cB cJ cZ cQ N H.size a v (((s.1 307) (Int32.toNatClampNeg ((x3 + x6))))) s q_4 hc_5) hP hD nl_Design_120 wn_3_210 wn_1_1 wn_3_211 rfl rfl (by decide +kernel) ⟨Nat.le_of_ble_eq_true rfl, Nat.le_of_ble_eq_true rfl⟩ rfl hl.1 rfl (Nat.le_of_ble_eq_true rfl) dn_Design_isCalled_68 ⟨Nat.le_of_ble_eq_true rfl, Nat.le_of_ble_eq_true rfl⟩) hP hD hS hA (fun r_6 _ H locs hw hP hD hS => ?_)
          have hw : r_6 = q_4.1 := hw
          subst hw
          refine lv_if_ne (tgt := 76) hx hb dn_Design_isCalled_71 (by decide) (fun h => ?_) (fun h => ?_)
          · have hf := (if_neg h).symm.trans hf
            refine lv_iinc (v := (x6 + 1)) (lv' := [(6, .int ((x6 + 1))), (0, .ref ((a 113))), (1, .int x1), (2, .ref ((a 307))), (3, .int x3), (5, .int x5)]) hx hb dn_Design_isCalled_76 hl (k := 5) rfl (dc_inc (by decide)) (by decide) rfl (fun ls hl => ?_)
            refine lv_goto (tgt := 37) hx hb dn_Design_isCalled_79 (by decide) ?_
            exact hk_37 x1 x3 x5 ((x6 + 1)) q_4.2 hf H locs ls hP hD hS (lv_sub hl [1, 2, 3, 4, 5, 0] rfl)
          · have hf := (if_pos h).symm.trans hf
            refine lv_iconst (v := 0) hx hb dn_Design_isCalled_74 (by decide) ?_
            rw [hQQ, ← Option.some.inj hf]
            exact xk_zret (w1 := fun u : Unit => (wC a v cI cB cJ cZ cQ q_4.2)) () hx hb hr rfl hlocks hK hS dn_Design_isCalled_75 hP hD rfl (Nat.le_refl _) (Nat.le_refl _)
  intro H locs ls hP hD hS hl
  unfold fn_Design_isCalled_Dc_307 at hf
  refine lv_iload hx hb dn_Design_isCalled_0 (lv_at hl 4 rfl) ?_
  refine lv_iload_n hx hb dn_Design_isCalled_2 rfl (lv_at hl 3 rfl) ?_
  refine lv_isub hx hb dn_Design_isCalled_3 ?_
  refine lv_istore (lv' := [(5, .int ((v4 - v3))), (0, .ref ((a 113))), (1, .int v1), (2, .ref ((a 307))), (3, .int v3), (4, .int v4)]) hx hb dn_Design_isCalled_4 hl (by decide) rfl (fun ls hl => ?_)
  refine lv_iload_n hx hb dn_Design_isCalled_6 rfl (lv_at hl 2 rfl) ?_
  refine lv_if_lt (tgt := 32) hx hb dn_Design_isCalled_7 (by decide) (fun h => ?_) (fun h => ?_)
  · have hf := (if_pos h).symm.trans hf
    refine lv_iconst (v := 0) hx hb dn_Design_isCalled_32 (by decide) ?_
    rw [hQQ, ← Option.some.inj hf]
    exact xk_zret (w1 := fun u : Unit => (wC a v cI cB cJ cZ cQ s)) () hx hb hr rfl hlocks hK hS dn_Design_isCalled_33 hP hD rfl (Nat.le_refl _) (Nat.le_refl _)
  · have hf := (if_neg h).symm.trans hf
    refine lv_iload_n hx hb dn_Design_isCalled_10 rfl (lv_at hl 4 rfl) ?_
    refine lv_if_lt (tgt := 32) hx hb dn_Design_isCalled_11 (by decide) (fun h => ?_) (fun h => ?_)
    · have hf := (if_pos h).symm.trans hf
      refine lv_iconst (v := 0) hx hb dn_Design_isCalled_32 (by decide) ?_
      rw [hQQ, ← Option.some.inj hf]
      exact xk_zret (w1 := fun u : Unit => (wC a v cI cB cJ cZ cQ s)) () hx hb hr rfl hlocks hK hS dn_Design_isCalled_33 hP hD rfl (Nat.le_refl _) (Nat.le_refl _)
    · have hf := (if_neg h).symm.trans hf
      refine lv_iload hx hb dn_Design_isCalled_14 (lv_at hl 5 rfl) ?_
      refine lv_aload_n hx hb dn_Design_isCalled_16 rfl (lv_at hl 3 rfl) ?_
      refine va_alen (v := 65536) hx hb hK hP 52 1 rfl rfl rfl dn_Design_isCalled_17 ?_
      refine lv_icmp_gt (tgt := 32) hx hb dn_Design_isCalled_18 (by decide) (fun h => ?_) (fun h => ?_)
      · have hf := (if_pos h).symm.trans hf
        refine lv_iconst (v := 0) hx hb dn_Design_isCalled_32 (by decide) ?_
        rw [hQQ, ← Option.some.inj hf]
        exact xk_zret (w1 := fun u : Unit => (wC a v cI cB cJ cZ cQ s)) () hx hb hr rfl hlocks hK hS dn_Design_isCalled_33 hP hD rfl (Nat.le_refl _) (Nat.le_refl _)
      · have hf := (if_neg h).symm.trans hf
        refine lv_iload_n hx hb dn_Design_isCalled_21 rfl (lv_at hl 2 rfl) ?_
        refine lv_iload hx hb dn_Design_isCalled_22 (lv_at hl 0 rfl) ?_
        refine lv_iadd hx hb dn_Design_isCalled_24 ?_
        refine lv_aload_n hx hb dn_Design_isCalled_25 rfl (lv_at hl 1 rfl) ?_
        refine va_get (D := (dC, dI)) (ci := 10) (v := .int ((s.1 358 0))) (C := rn_Design) (T := fn_Design) (N := 16) hx hb hg in_Design hown hK hP 13 rfl rfl 3 (by decide) (hg _ wn_3_7) (fun _ h9 => h9) rfl dn_Design_isCalled_26 ?_
        refine lv_icmp_le (tgt := 34) hx hb dn_Design_isCalled_29 (by decide) (fun h => ?_) (fun h => ?_)
        · have hf := (if_pos h).symm.trans hf
          refine lv_iconst (v := 0) hx hb dn_Design_isCalled_34 (by decide) ?_
          refine lv_istore (lv' := [(6, .int 0), (5, .int ((v4 - v3))), (0, .ref ((a 113))), (1, .int v1), (2, .ref ((a 307))), (3, .int v3), (4, .int v4)]) hx hb dn_Design_isCalled_35 hl (by decide) rfl (fun ls hl => ?_)
          exact hd_37 N v1 v3 ((v4 - v3)) 0 s hf H locs ls hP hD hS (lv_sub hl [2, 3, 4, 5, 1, 0] rfl)
        · have hf := (if_neg h).symm.trans hf
          refine lv_iconst (v := 0) hx hb dn_Design_isCalled_32 (by decide) ?_
          rw [hQQ, ← Option.some.inj hf]
          exact xk_zret (w1 := fun u : Unit => (wC a v cI cB cJ cZ cQ s)) () hx hb hr rfl hlocks hK hS dn_Design_isCalled_33 hP hD rfl (Nat.le_refl _) (Nat.le_refl _)
def bd_Circuit_childCalled_Cc_307_5 (N : Nat) (k_5 : Int32 → Int32 → Int32 → Int32 → ms → Option (Int32 × ms)) (x1 : Int32) (x3 : Int32) (x4 : Int32) (x5 : Int32) (s : ms) : Option (Int32 × ms) :=
  if (s.1 342 0) ≤ x5 then (some ((-1), s)) else (if (x5 < 0 ∨ 257 ≤ Int32.toNatClampNeg x5) then none else if ((s.1 346) (Int32.toNatClampNeg x5)) = x1 then (if (x5 < 0 ∨ 257 ≤ Int32.toNatClampNeg x5) then none else if (((s.1 347) (Int32.toNatClampNeg x5)) < 0 ∨ 10923 ≤ Int32.toNatClampNeg (((s.1 347) (Int32.toNatClampNeg x5)))) then none else (fn_Design_isCalled_Dc_307 N (((s.1 380) (Int32.toNatClampNeg (((s.1 347) (Int32.toNatClampNeg x5)))))) x3 x4 s).bind (fun q_4 => if q_4.1 = 0 then (k_5 x1 x3 x4 ((x5 + 1)) q_4.2) else (some (x5, q_4.2)))) else (k_5 x1 x3 x4 ((x5 + 1)) s))
def hd_Circuit_childCalled_Cc_307_5 (N : Nat) : Nat → Int32 → Int32 → Int32 → Int32 → ms → Option (Int32 × ms)
  | 0, _, _, _, _, _ => none
  | n + 1, x1, x3, x4, x5, s => bd_Circuit_childCalled_Cc_307_5 N (hd_Circuit_childCalled_Cc_307_5 N n) x1 x3 x4 x5 s
def fn_Circuit_childCalled_Cc_307 (N : Nat) (v1 : Int32) (v3 : Int32) (v4 : Int32) (s : ms) : Option (Int32 × ms) :=
  hd_Circuit_childCalled_Cc_307_5 N N v1 v3 v4 ((v1 + 1)) s
set_option maxHeartbeats 8000000 in
set_option maxRecDepth 100000 in
theorem ct_Circuit_childCalled_Cc_307 (l : Launch) (dC : Nat → ClassId) (dI : Nat → Nat → Nat) (cI cB cJ cZ cQ : ClassId) (N sz : Nat) (a : Nat → Nat) (v : Nat → Value) (v1 : Int32) (v3 : Int32) (v4 : Int32) (s : ms) (y : (Int32 × ms)) (hf : fn_Circuit_childCalled_Cc_307 N v1 v3 v4 s = some y) : Met l yn_Circuit_childCalled (xw yn_Circuit_childCalled bn_Circuit_childCalled 6 (some .int)) ({ frames := 3, cells := 0, slots := 0, locals := 66 }) (dc_P (dC, dI) xcl (xt cI cB cJ cZ cQ) [.ref ((a 112)), .int v1, .ref ((a 307)), .int v3, .int v4] sz (wC a v cI cB cJ cZ cQ s)) (xk_Qi (dC, dI) xcl (xt cI cB cJ cZ cQ) (fun (r : Int32) (_ : Unit) => r = y.1) (fun u : Unit => (wC a v cI cB cJ cZ cQ y.2)) (va_A (wC a v cI cB cJ cZ cQ s) sz)) 0 0 (va_A (wC a v cI cB cJ cZ cQ s) sz) := by
  refine dc_of (QA := xk_Qi (dC, dI) xcl (xt cI cB cJ cZ cQ) (fun (r : Int32) (_ : Unit) => r = y.1) (fun u : Unit => (wC a v cI cB cJ cZ cQ y.2))) (by decide) (Nat.le_of_ble_eq_true rfl) ?_
  intro p e s0 m below meth c hx hb hml hown hg hr hlocks hin hP hK hN A hA hD hT ls hl
  have hown : s0.vm.findClass rn_Circuit = some m.cls := hown
  obtain ⟨H, hH⟩ : ∃ z, z = s0.heap := ⟨_, rfl⟩
  rw [← hH] at hP
  have hS : va_S A s0.heap H [] := by rw [hH]; exact va_S.rf
  suffices kk : ∀ QQ : State → Prop, QQ = MQ below (xk_Qi (dC, dI) xcl (xt cI cB cJ cZ cQ) (fun (r : Int32) (_ : Unit) => r = y.1) (fun u : Unit => (wC a v cI cB cJ cZ cQ y.2)) A) [.ref ((a 112)), .int v1, .ref ((a 307)), .int v3, .int v4].toArray s0 0 0 A → dcC p l e ({ frames := 3, cells := 0, slots := 0, locals := 66 }) s0 m [.ref ((a 112)), .int v1, .ref ((a 307)), .int v3, .int v4].toArray below meth c QQ (dC, dI) A (wC a v cI cB cJ cZ cQ s) 0 6 [(0, .ref ((a 112))), (1, .int v1), (2, .ref ((a 307))), (3, .int v3), (4, .int v4)] [] by
    have k9 := kk _ rfl H [] ls hP hD hS hl
    rw [hH] at k9; exact k9
  clear hP hD hS hl hH H ls
  intro QQ hQQ
  have hd_5 : ∀ (n : Nat) (x1 : Int32) (x3 : Int32) (x4 : Int32) (x5 : Int32) (s : ms), hd_Circuit_childCalled_Cc_307_5 N n x1 x3 x4 x5 s = some y → dcC p l e ({ frames := 3, cells := 0, slots := 0, locals := 66 }) s0 m [.ref ((a 112)), .int v1, .ref ((a 307)), .int v3, .int v4].toArray below meth c QQ (dC, dI) A (wC a v cI cB cJ cZ cQ s) 5 6 [(0, .ref ((a 112))), (1, .int x1), (2, .ref ((a 307))), (3, .int x3), (4, .int x4), (5, .int x5)] [] := by
    intro n
    induction n with
    | zero => intro x1 x3 x4 x5 s hf; cases hf
    | succ n ih =>
      intro x1 x3 x4 x5 s hf H locs ls hP hD hS hl
      have hf : bd_Circuit_childCalled_Cc_307_5 N (hd_Circuit_childCalled_Cc_307_5 N n) x1 x3 x4 x5 s = some y := hf
      have hk_5 := ih
      generalize hd_Circuit_childCalled_Cc_307_5 N n = k_5 at hf hk_5
      unfold bd_Circuit_childCalled_Cc_307_5 at hf
      refine lv_iload hx hb dn_Circuit_childCalled_5 (lv_at hl 5 rfl) ?_
      refine lv_aload_n hx hb dn_Circuit_childCalled_7 rfl (lv_at hl 0 rfl) ?_
      refine va_get (D := (dC, dI)) (ci := 9) (v := .int ((s.1 342 0))) (C := rn_Circuit) (T := fn_Circuit) (N := 14) hx hb hg in_Circuit hown hK hP 12 rfl rfl 1 (by decide) (hg _ wn_3_65) (fun _ h9 => h9) rfl dn_Circuit_childCalled_8 ?_
      refine lv_icmp_ge (tgt := 69) hx hb dn_Circuit_childCalled_11 (by decide) (fun h => ?_) (fun h => ?_)
      · have hf := (if_pos h).symm.trans hf
        refine lv_iconst (v := (-1)) hx hb dn_Circuit_childCalled_69 (by decide) ?_
        rw [hQQ, ← Option.some.inj hf]
        exact xk_iret (w1 := fun u : Unit => (wC a v cI cB cJ cZ cQ s)) () hx hb hr hlocks hK hS dn_Circuit_childCalled_70 hP hD rfl (Nat.le_refl _) (Nat.le_refl _)
      · have hf := (if_neg h).symm.trans hf
        refine lv_aload_n hx hb dn_Circuit_childCalled_14 rfl (lv_at hl 0 rfl) ?_
        refine va_get (D := (dC, dI)) (ci := 9) (v := .ref ((a 346))) (C := rn_Circuit) (T := fn_Circuit) (N := 14) hx hb hg in_Circuit hown hK hP 12 rfl rfl 5 (by decide) (hg _ wn_3_76) (fun _ h9 => h9) rfl dn_Circuit_childCalled_15 ?_
        refine lv_iload hx hb dn_Circuit_childCalled_18 (lv_at hl 5 rfl) ?_
        obtain ⟨hg_1, hf⟩ := dc_g hf
        refine va_iald hx hb hK hP 78 0 rfl rfl hg_1 dn_Circuit_childCalled_20 ?_
        refine xk_ti (y := ((s.1 346) (Int32.toNatClampNeg x5))) rfl ?_
        refine lv_iload_n hx hb dn_Circuit_childCalled_21 rfl (lv_at hl 1 rfl) ?_
        refine lv_icmp_eq (tgt := 28) hx hb dn_Circuit_childCalled_22 (by decide) (fun h => ?_) (fun h => ?_)
        · have hf := (if_pos h).symm.trans hf
          refine lv_aload_n hx hb dn_Circuit_childCalled_28 rfl (lv_at hl 0 rfl) ?_
          refine va_get (D := (dC, dI)) (ci := 9) (v := .ref ((a 113))) (C := rn_Circuit) (T := fn_Circuit) (N := 14) hx hb hg in_Circuit hown hK hP 12 rfl rfl 0 (by decide) (hg _ wn_3_61) (fun _ h9 => h9) rfl dn_Circuit_childCalled_29 ?_
          refine lv_aload_n hx hb dn_Circuit_childCalled_32 rfl (lv_at hl 0 rfl) ?_
          refine va_get (D := (dC, dI)) (ci := 9) (v := .ref ((a 113))) (C := rn_Circuit) (T := fn_Circuit) (N := 14) hx hb hg in_Circuit hown hK hP 12 rfl rfl 0 (by decide) (hg _ wn_3_61) (fun _ h9 => h9) rfl dn_Circuit_childCalled_33 ?_
          refine va_get (D := (dC, dI)) (ci := 10) (v := .ref ((a 114))) (C := rn_Design) (T := fn_Design) (N := 16) hx hb hg in_Design hown hK hP 13 rfl rfl 0 (by decide) (hg _ wn_2_237) (fun _ h9 => h9) rfl dn_Circuit_childCalled_36 ?_
          refine va_get (D := (dC, dI)) (ci := 11) (v := .ref ((a 380))) (C := rn_Parts) (T := fn_Parts) (N := 15) hx hb hg in_Parts hown hK hP 14 rfl rfl 9 (by decide) (hg _ wn_2_158) (fun _ h9 => h9) rfl dn_Circuit_childCalled_39 ?_
          refine lv_aload_n hx hb dn_Circuit_childCalled_42 rfl (lv_at hl 0 rfl) ?_
          refine va_get (D := (dC, dI)) (ci := 9) (v := .ref ((a 347))) (C := rn_Circuit) (T := fn_Circuit) (N := 14) hx hb hg in_Circuit hown hK hP 12 rfl rfl 6 (by decide) (hg _ wn_3_77) (fun _ h9 => h9) rfl dn_Circuit_childCalled_43 ?_
          refine lv_iload hx hb dn_Circuit_childCalled_46 (lv_at hl 5 rfl) ?_
          obtain ⟨hg_2, hf⟩ := dc_g hf
          refine va_iald hx hb hK hP 79 0 rfl rfl hg_2 dn_Circuit_childCalled_48 ?_
          refine xk_ti (y := ((s.1 347) (Int32.toNatClampNeg x5))) rfl ?_
          obtain ⟨hg_3, hf⟩ := dc_g hf
          refine va_iald hx hb hK hP 102 0 rfl rfl hg_3 dn_Circuit_childCalled_49 ?_
          refine xk_ti (y := ((s.1 380) (Int32.toNatClampNeg (((s.1 347) (Int32.toNatClampNeg x5)))))) rfl ?_
          refine lv_aload_n hx hb dn_Circuit_childCalled_50 rfl (lv_at hl 2 rfl) ?_
          refine lv_iload_n hx hb dn_Circuit_childCalled_51 rfl (lv_at hl 3 rfl) ?_
          refine lv_iload hx hb dn_Circuit_childCalled_52 (lv_at hl 4 rfl) ?_
          obtain ⟨q_4, hc_5, hf⟩ := dc_b hf
          refine dc_calli (dc_runV (ar := 4) (As := [.int (((s.1 380) (Int32.toNatClampNeg (((s.1 347) (Int32.toNatClampNeg x5)))))), .ref ((a 307)), .int x3, .int x4]) (rest := []) (ci := 10) (q0 := 13) ⟨hx, hb, hml, hown, hg⟩ hK hN hT hS hA (ct_Design_isCalled_Dc_307 l dC dI cI cB cJ cZ cQ N H.size a v (((s.1 380) (Int32.toNatClampNeg (((s.1 347) (Int32.toNatClampNeg x5)))))) x3 x4 s q_4 hc_5) hP hD rfl rfl wn_7_154 wn_7_155 wn_7_156 wn_1_10 wn_7_157 rfl rfl (by decide +kernel) ⟨Nat.le_of_ble_eq_true rfl, Nat.le_of_ble_eq_true rfl⟩ rfl hl.1 rfl (Nat.le_of_ble_eq_true rfl) dn_Circuit_childCalled_54 ⟨Nat.le_of_ble_eq_true rfl, Nat.le_of_ble_eq_true rfl⟩) hP hD hS hA (fun r_6 _ H locs hw hP hD hS => ?_)
          have hw : r_6 = q_4.1 := hw
          subst hw
          refine lv_if_eq (tgt := 63) hx hb dn_Circuit_childCalled_57 (by decide) (fun h => ?_) (fun h => ?_)
          · have hf := (if_pos h).symm.trans hf
            refine lv_iinc (v := (x5 + 1)) (lv' := [(5, .int ((x5 + 1))), (0, .ref ((a 112))), (1, .int x1), (2, .ref ((a 307))), (3, .int x3), (4, .int x4)]) hx hb dn_Circuit_childCalled_63 hl (k := 5) rfl (dc_inc (by decide)) (by decide) rfl (fun ls hl => ?_)
            refine lv_goto (tgt := 5) hx hb dn_Circuit_childCalled_66 (by decide) ?_
            exact hk_5 x1 x3 x4 ((x5 + 1)) q_4.2 hf H locs ls hP hD hS (lv_sub hl [1, 2, 3, 4, 5, 0] rfl)
          · have hf := (if_neg h).symm.trans hf
            refine lv_iload hx hb dn_Circuit_childCalled_60 (lv_at hl 5 rfl) ?_
            rw [hQQ, ← Option.some.inj hf]
            exact xk_iret (w1 := fun u : Unit => (wC a v cI cB cJ cZ cQ q_4.2)) () hx hb hr hlocks hK hS dn_Circuit_childCalled_62 hP hD rfl (Nat.le_refl _) (Nat.le_refl _)
        · have hf := (if_neg h).symm.trans hf
          refine lv_goto (tgt := 63) hx hb dn_Circuit_childCalled_25 (by decide) ?_
          refine lv_iinc (v := (x5 + 1)) (lv' := [(5, .int ((x5 + 1))), (0, .ref ((a 112))), (1, .int x1), (2, .ref ((a 307))), (3, .int x3), (4, .int x4)]) hx hb dn_Circuit_childCalled_63 hl (k := 5) rfl (dc_inc (by decide)) (by decide) rfl (fun ls hl => ?_)
          refine lv_goto (tgt := 5) hx hb dn_Circuit_childCalled_66 (by decide) ?_
          exact hk_5 x1 x3 x4 ((x5 + 1)) s hf H locs ls hP hD hS (lv_sub hl [1, 2, 3, 4, 5, 0] rfl)
  intro H locs ls hP hD hS hl
  unfold fn_Circuit_childCalled_Cc_307 at hf
  refine lv_iload_n hx hb dn_Circuit_childCalled_0 rfl (lv_at hl 1 rfl) ?_
  refine lv_iconst (v := 1) hx hb dn_Circuit_childCalled_1 (by decide) ?_
  refine lv_iadd hx hb dn_Circuit_childCalled_2 ?_
  refine lv_istore (lv' := [(5, .int ((v1 + 1))), (0, .ref ((a 112))), (1, .int v1), (2, .ref ((a 307))), (3, .int v3), (4, .int v4)]) hx hb dn_Circuit_childCalled_3 hl (by decide) rfl (fun ls hl => ?_)
  exact hd_5 N v1 v3 v4 ((v1 + 1)) s hf H locs ls hP hD hS (lv_sub hl [1, 2, 3, 4, 5, 0] rfl)
def bd_Circuit_signalCalled_Cc_307_27 (N : Nat) (k_27 : Int32 → Int32 → Int32 → Int32 → ms → Option (Int32 × ms)) (x3 : Int32) (x4 : Int32) (x5 : Int32) (x6 : Int32) (s : ms) : Option (Int32 × ms) :=
  if x5 ≤ x6 then (some ((-1), s)) else ((fn_Circuit_placeOf_Cc N x6 s).bind (fun q_1 => (fn_Design_isCalled_Dc_307 N q_1.1 x3 x4 q_1.2).bind (fun q_4 => if q_4.1 = 0 then (k_27 x3 x4 x5 ((x6 + 1)) q_4.2) else (some (x6, q_4.2)))))
def hd_Circuit_signalCalled_Cc_307_27 (N : Nat) : Nat → Int32 → Int32 → Int32 → Int32 → ms → Option (Int32 × ms)
  | 0, _, _, _, _, _ => none
  | n + 1, x3, x4, x5, x6, s => bd_Circuit_signalCalled_Cc_307_27 N (hd_Circuit_signalCalled_Cc_307_27 N n) x3 x4 x5 x6 s
def fn_Circuit_signalCalled_Cc_307 (N : Nat) (v1 : Int32) (v3 : Int32) (v4 : Int32) (s : ms) : Option (Int32 × ms) :=
  if (v1 < 0 ∨ 257 ≤ Int32.toNatClampNeg v1) then none else if (v1 < 0 ∨ 257 ≤ Int32.toNatClampNeg v1) then none else (fn_Circuit_ownSignals_Cc N (((s.1 345) (Int32.toNatClampNeg v1))) s).bind (fun q_3 => if (v1 < 0 ∨ 257 ≤ Int32.toNatClampNeg v1) then none else hd_Circuit_signalCalled_Cc_307_27 N N v3 v4 ((((s.1 344) (Int32.toNatClampNeg v1)) + q_3.1)) (((q_3.2.1 344) (Int32.toNatClampNeg v1))) q_3.2)
set_option maxHeartbeats 8000000 in
set_option maxRecDepth 100000 in
theorem ct_Circuit_signalCalled_Cc_307 (l : Launch) (dC : Nat → ClassId) (dI : Nat → Nat → Nat) (cI cB cJ cZ cQ : ClassId) (N sz : Nat) (a : Nat → Nat) (v : Nat → Value) (v1 : Int32) (v3 : Int32) (v4 : Int32) (s : ms) (y : (Int32 × ms)) (hf : fn_Circuit_signalCalled_Cc_307 N v1 v3 v4 s = some y) : Met l yn_Circuit_signalCalled (xw yn_Circuit_signalCalled bn_Circuit_signalCalled 7 (some .int)) ({ frames := 3, cells := 0, slots := 0, locals := 66 }) (dc_P (dC, dI) xcl (xt cI cB cJ cZ cQ) [.ref ((a 112)), .int v1, .ref ((a 307)), .int v3, .int v4] sz (wC a v cI cB cJ cZ cQ s)) (xk_Qi (dC, dI) xcl (xt cI cB cJ cZ cQ) (fun (r : Int32) (_ : Unit) => r = y.1) (fun u : Unit => (wC a v cI cB cJ cZ cQ y.2)) (va_A (wC a v cI cB cJ cZ cQ s) sz)) 0 0 (va_A (wC a v cI cB cJ cZ cQ s) sz) := by
  refine dc_of (QA := xk_Qi (dC, dI) xcl (xt cI cB cJ cZ cQ) (fun (r : Int32) (_ : Unit) => r = y.1) (fun u : Unit => (wC a v cI cB cJ cZ cQ y.2))) (by decide) (Nat.le_of_ble_eq_true rfl) ?_
  intro p e s0 m below meth c hx hb hml hown hg hr hlocks hin hP hK hN A hA hD hT ls hl
  have hown : s0.vm.findClass rn_Circuit = some m.cls := hown
  obtain ⟨H, hH⟩ : ∃ z, z = s0.heap := ⟨_, rfl⟩
  rw [← hH] at hP
  have hS : va_S A s0.heap H [] := by rw [hH]; exact va_S.rf
  suffices kk : ∀ QQ : State → Prop, QQ = MQ below (xk_Qi (dC, dI) xcl (xt cI cB cJ cZ cQ) (fun (r : Int32) (_ : Unit) => r = y.1) (fun u : Unit => (wC a v cI cB cJ cZ cQ y.2)) A) [.ref ((a 112)), .int v1, .ref ((a 307)), .int v3, .int v4].toArray s0 0 0 A → dcC p l e ({ frames := 3, cells := 0, slots := 0, locals := 66 }) s0 m [.ref ((a 112)), .int v1, .ref ((a 307)), .int v3, .int v4].toArray below meth c QQ (dC, dI) A (wC a v cI cB cJ cZ cQ s) 0 7 [(0, .ref ((a 112))), (1, .int v1), (2, .ref ((a 307))), (3, .int v3), (4, .int v4)] [] by
    have k9 := kk _ rfl H [] ls hP hD hS hl
    rw [hH] at k9; exact k9
  clear hP hD hS hl hH H ls
  intro QQ hQQ
  have hd_27 : ∀ (n : Nat) (x3 : Int32) (x4 : Int32) (x5 : Int32) (x6 : Int32) (s : ms), hd_Circuit_signalCalled_Cc_307_27 N n x3 x4 x5 x6 s = some y → dcC p l e ({ frames := 3, cells := 0, slots := 0, locals := 66 }) s0 m [.ref ((a 112)), .int v1, .ref ((a 307)), .int v3, .int v4].toArray below meth c QQ (dC, dI) A (wC a v cI cB cJ cZ cQ s) 27 7 [(0, .ref ((a 112))), (2, .ref ((a 307))), (3, .int x3), (4, .int x4), (5, .int x5), (6, .int x6)] [] := by
    intro n
    induction n with
    | zero => intro x3 x4 x5 x6 s hf; cases hf
    | succ n ih =>
      intro x3 x4 x5 x6 s hf H locs ls hP hD hS hl
      have hf : bd_Circuit_signalCalled_Cc_307_27 N (hd_Circuit_signalCalled_Cc_307_27 N n) x3 x4 x5 x6 s = some y := hf
      have hk_27 := ih
      generalize hd_Circuit_signalCalled_Cc_307_27 N n = k_27 at hf hk_27
      unfold bd_Circuit_signalCalled_Cc_307_27 at hf
      refine lv_iload hx hb dn_Circuit_signalCalled_27 (lv_at hl 5 rfl) ?_
      refine lv_iload hx hb dn_Circuit_signalCalled_29 (lv_at hl 4 rfl) ?_
      refine lv_icmp_ge (tgt := 63) hx hb dn_Circuit_signalCalled_31 (by decide) (fun h => ?_) (fun h => ?_)
      · have hf := (if_pos h).symm.trans hf
        refine lv_iconst (v := (-1)) hx hb dn_Circuit_signalCalled_63 (by decide) ?_
        rw [hQQ, ← Option.some.inj hf]
        exact xk_iret (w1 := fun u : Unit => (wC a v cI cB cJ cZ cQ s)) () hx hb hr hlocks hK hS dn_Circuit_signalCalled_64 hP hD rfl (Nat.le_refl _) (Nat.le_refl _)
      · have hf := (if_neg h).symm.trans hf
        refine lv_aload_n hx hb dn_Circuit_signalCalled_34 rfl (lv_at hl 0 rfl) ?_
        refine va_get (D := (dC, dI)) (ci := 9) (v := .ref ((a 113))) (C := rn_Circuit) (T := fn_Circuit) (N := 14) hx hb hg in_Circuit hown hK hP 12 rfl rfl 0 (by decide) (hg _ wn_3_61) (fun _ h9 => h9) rfl dn_Circuit_signalCalled_35 ?_
        refine lv_aload_n hx hb dn_Circuit_signalCalled_38 rfl (lv_at hl 0 rfl) ?_
        refine lv_iload hx hb dn_Circuit_signalCalled_39 (lv_at hl 5 rfl) ?_
        obtain ⟨q_1, hc_2, hf⟩ := dc_b hf
        refine dc_calli (dc_runV (ar := 1) (As := [.int x6]) (rest := [.ref ((a 113))]) (ci := 9) (q0 := 12) ⟨hx, hb, hml, hown, hg⟩ hK hN hT hS hA (ct_Circuit_placeOf_Cc l dC dI cI cB cJ cZ cQ N H.size a v x6 s q_1 hc_2) hP hD rfl rfl wn_7_163 wn_6_236 wn_6_237 wn_1_9 wn_6_238 rfl rfl (by decide +kernel) ⟨Nat.le_of_ble_eq_true rfl, Nat.le_of_ble_eq_true rfl⟩ rfl hl.1 rfl (Nat.le_of_ble_eq_true rfl) dn_Circuit_signalCalled_41 ⟨Nat.le_of_ble_eq_true rfl, Nat.le_of_ble_eq_true rfl⟩) hP hD hS hA (fun r_3 _ H locs hw hP hD hS => ?_)
        have hw : r_3 = q_1.1 := hw
        subst hw
        refine lv_aload_n hx hb dn_Circuit_signalCalled_44 rfl (lv_at hl 1 rfl) ?_
        refine lv_iload_n hx hb dn_Circuit_signalCalled_45 rfl (lv_at hl 2 rfl) ?_
        refine lv_iload hx hb dn_Circuit_signalCalled_46 (lv_at hl 3 rfl) ?_
        obtain ⟨q_4, hc_5, hf⟩ := dc_b hf
        refine dc_calli (dc_runV (ar := 4) (As := [.int q_1.1, .ref ((a 307)), .int x3, .int x4]) (rest := []) (ci := 10) (q0 := 13) ⟨hx, hb, hml, hown, hg⟩ hK hN hT hS hA (ct_Design_isCalled_Dc_307 l dC dI cI cB cJ cZ cQ N H.size a v q_1.1 x3 x4 q_1.2 q_4 hc_5) hP hD rfl rfl wn_7_154 wn_7_155 wn_7_156 wn_1_10 wn_7_157 rfl rfl (by decide +kernel) ⟨Nat.le_of_ble_eq_true rfl, Nat.le_of_ble_eq_true rfl⟩ rfl hl.1 rfl (Nat.le_of_ble_eq_true rfl) dn_Circuit_signalCalled_48 ⟨Nat.le_of_ble_eq_true rfl, Nat.le_of_ble_eq_true rfl⟩) hP hD hS hA (fun r_6 _ H locs hw hP hD hS => ?_)
        have hw : r_6 = q_4.1 := hw
        subst hw
        refine lv_if_eq (tgt := 57) hx hb dn_Circuit_signalCalled_51 (by decide) (fun h => ?_) (fun h => ?_)
        · have hf := (if_pos h).symm.trans hf
          refine lv_iinc (v := (x6 + 1)) (lv' := [(6, .int ((x6 + 1))), (0, .ref ((a 112))), (2, .ref ((a 307))), (3, .int x3), (4, .int x4), (5, .int x5)]) hx hb dn_Circuit_signalCalled_57 hl (k := 5) rfl (dc_inc (by decide)) (by decide) rfl (fun ls hl => ?_)
          refine lv_goto (tgt := 27) hx hb dn_Circuit_signalCalled_60 (by decide) ?_
          exact hk_27 x3 x4 x5 ((x6 + 1)) q_4.2 hf H locs ls hP hD hS (lv_sub hl [1, 2, 3, 4, 5, 0] rfl)
        · have hf := (if_neg h).symm.trans hf
          refine lv_iload hx hb dn_Circuit_signalCalled_54 (lv_at hl 5 rfl) ?_
          rw [hQQ, ← Option.some.inj hf]
          exact xk_iret (w1 := fun u : Unit => (wC a v cI cB cJ cZ cQ q_4.2)) () hx hb hr hlocks hK hS dn_Circuit_signalCalled_56 hP hD rfl (Nat.le_refl _) (Nat.le_refl _)
  intro H locs ls hP hD hS hl
  unfold fn_Circuit_signalCalled_Cc_307 at hf
  refine lv_aload_n hx hb dn_Circuit_signalCalled_0 rfl (lv_at hl 0 rfl) ?_
  refine va_get (D := (dC, dI)) (ci := 9) (v := .ref ((a 344))) (C := rn_Circuit) (T := fn_Circuit) (N := 14) hx hb hg in_Circuit hown hK hP 12 rfl rfl 3 (by decide) (hg _ wn_3_72) (fun _ h9 => h9) rfl dn_Circuit_signalCalled_1 ?_
  refine lv_iload_n hx hb dn_Circuit_signalCalled_4 rfl (lv_at hl 1 rfl) ?_
  obtain ⟨hg_1, hf⟩ := dc_g hf
  refine va_iald hx hb hK hP 76 0 rfl rfl hg_1 dn_Circuit_signalCalled_5 ?_
  refine xk_ti (y := ((s.1 344) (Int32.toNatClampNeg v1))) rfl ?_
  refine lv_aload_n hx hb dn_Circuit_signalCalled_6 rfl (lv_at hl 0 rfl) ?_
  refine lv_aload_n hx hb dn_Circuit_signalCalled_7 rfl (lv_at hl 0 rfl) ?_
  refine va_get (D := (dC, dI)) (ci := 9) (v := .ref ((a 345))) (C := rn_Circuit) (T := fn_Circuit) (N := 14) hx hb hg in_Circuit hown hK hP 12 rfl rfl 4 (by decide) (hg _ wn_3_74) (fun _ h9 => h9) rfl dn_Circuit_signalCalled_8 ?_
  refine lv_iload_n hx hb dn_Circuit_signalCalled_11 rfl (lv_at hl 1 rfl) ?_
  obtain ⟨hg_2, hf⟩ := dc_g hf
  refine va_iald hx hb hK hP 77 0 rfl rfl hg_2 dn_Circuit_signalCalled_12 ?_
  refine xk_ti (y := ((s.1 345) (Int32.toNatClampNeg v1))) rfl ?_
  obtain ⟨q_3, hc_4, hf⟩ := dc_b hf
  refine dc_calli (dc_runV (ar := 1) (As := [.int (((s.1 345) (Int32.toNatClampNeg v1)))]) (rest := [.int (((s.1 344) (Int32.toNatClampNeg v1)))]) (ci := 9) (q0 := 12) ⟨hx, hb, hml, hown, hg⟩ hK hN hT hS hA (ct_Circuit_ownSignals_Cc l dC dI cI cB cJ cZ cQ N H.size a v (((s.1 345) (Int32.toNatClampNeg v1))) s q_3 hc_4) hP hD rfl rfl wn_6_180 wn_6_182 sn_Circuit_ownSignals wn_1_9 wn_6_183 rfl rfl (by decide +kernel) ⟨Nat.le_of_ble_eq_true rfl, Nat.le_of_ble_eq_true rfl⟩ rfl hl.1 rfl (Nat.le_of_ble_eq_true rfl) dn_Circuit_signalCalled_13 ⟨Nat.le_of_ble_eq_true rfl, Nat.le_of_ble_eq_true rfl⟩) hP hD hS hA (fun r_5 _ H locs hw hP hD hS => ?_)
  have hw : r_5 = q_3.1 := hw
  subst hw
  refine lv_iadd hx hb dn_Circuit_signalCalled_16 ?_
  refine lv_istore (lv' := [(5, .int ((((s.1 344) (Int32.toNatClampNeg v1)) + q_3.1))), (0, .ref ((a 112))), (1, .int v1), (2, .ref ((a 307))), (3, .int v3), (4, .int v4)]) hx hb dn_Circuit_signalCalled_17 hl (by decide) rfl (fun ls hl => ?_)
  refine lv_aload_n hx hb dn_Circuit_signalCalled_19 rfl (lv_at hl 1 rfl) ?_
  refine va_get (D := (dC, dI)) (ci := 9) (v := .ref ((a 344))) (C := rn_Circuit) (T := fn_Circuit) (N := 14) hx hb hg in_Circuit hown hK hP 12 rfl rfl 3 (by decide) (hg _ wn_3_72) (fun _ h9 => h9) rfl dn_Circuit_signalCalled_20 ?_
  refine lv_iload_n hx hb dn_Circuit_signalCalled_23 rfl (lv_at hl 2 rfl) ?_
  obtain ⟨hg_6, hf⟩ := dc_g hf
  refine va_iald hx hb hK hP 76 0 rfl rfl hg_6 dn_Circuit_signalCalled_24 ?_
  refine xk_ti (y := ((q_3.2.1 344) (Int32.toNatClampNeg v1))) rfl ?_
  refine lv_istore (lv' := [(6, .int (((q_3.2.1 344) (Int32.toNatClampNeg v1)))), (5, .int ((((s.1 344) (Int32.toNatClampNeg v1)) + q_3.1))), (0, .ref ((a 112))), (1, .int v1), (2, .ref ((a 307))), (3, .int v3), (4, .int v4)]) hx hb dn_Circuit_signalCalled_25 hl (by decide) rfl (fun ls hl => ?_)
  exact hd_27 N v3 v4 ((((s.1 344) (Int32.toNatClampNeg v1)) + q_3.1)) (((q_3.2.1 344) (Int32.toNatClampNeg v1))) q_3.2 hf H locs ls hP hD hS (lv_sub hl [2, 4, 5, 6, 1, 0] rfl)
def bk_Circuit_seek_Cc_307_58 (N : Nat) (x2 : Int32) (x3 : Int32) (x4 : Int32) (s : ms) : Option (Int32 × ms) :=
  if x3 = (-1) then (some ((-1), s)) else ((fn_Circuit_signalCalled_Cc_307 N x3 x4 x2 s).bind (fun q_1 => some (q_1.1, q_1.2)))
def bd_Circuit_seek_Cc_307_8 (N : Nat) (k_8 : Int32 → Int32 → Int32 → Int32 → ms → Option (Int32 × ms)) (x2 : Int32) (x3 : Int32) (x4 : Int32) (x5 : Int32) (s : ms) : Option (Int32 × ms) :=
  if x2 ≤ x5 then (bk_Circuit_seek_Cc_307_58 N x2 x3 x4 s) else (if 65536 ≤ x5 then (bk_Circuit_seek_Cc_307_58 N x2 x3 x4 s) else (if x3 = (-1) then (bk_Circuit_seek_Cc_307_58 N x2 x3 x4 s) else (if (x5 < 0 ∨ 65536 ≤ Int32.toNatClampNeg x5) then none else if ((s.1 307) (Int32.toNatClampNeg x5)) = 46 then ((fn_Circuit_childCalled_Cc_307 N x3 x4 x5 s).bind (fun q_2 => k_8 x2 q_2.1 ((x5 + 1)) ((x5 + 1)) q_2.2)) else (k_8 x2 x3 x4 ((x5 + 1)) s))))
def hd_Circuit_seek_Cc_307_8 (N : Nat) : Nat → Int32 → Int32 → Int32 → Int32 → ms → Option (Int32 × ms)
  | 0, _, _, _, _, _ => none
  | n + 1, x2, x3, x4, x5, s => bd_Circuit_seek_Cc_307_8 N (hd_Circuit_seek_Cc_307_8 N n) x2 x3 x4 x5 s
def fn_Circuit_seek_Cc_307 (N : Nat) (v2 : Int32) (s : ms) : Option (Int32 × ms) :=
  hd_Circuit_seek_Cc_307_8 N N v2 0 0 0 s
set_option maxHeartbeats 8000000 in
set_option maxRecDepth 100000 in
theorem ct_Circuit_seek_Cc_307 (l : Launch) (dC : Nat → ClassId) (dI : Nat → Nat → Nat) (cI cB cJ cZ cQ : ClassId) (N sz : Nat) (a : Nat → Nat) (v : Nat → Value) (v2 : Int32) (s : ms) (y : (Int32 × ms)) (hf : fn_Circuit_seek_Cc_307 N v2 s = some y) : Met l yn_Circuit_seek (xw yn_Circuit_seek bn_Circuit_seek 6 (some .int)) ({ frames := 4, cells := 0, slots := 0, locals := 92 }) (dc_P (dC, dI) xcl (xt cI cB cJ cZ cQ) [.ref ((a 112)), .ref ((a 307)), .int v2] sz (wC a v cI cB cJ cZ cQ s)) (xk_Qi (dC, dI) xcl (xt cI cB cJ cZ cQ) (fun (r : Int32) (_ : Unit) => r = y.1) (fun u : Unit => (wC a v cI cB cJ cZ cQ y.2)) (va_A (wC a v cI cB cJ cZ cQ s) sz)) 0 0 (va_A (wC a v cI cB cJ cZ cQ s) sz) := by
  refine dc_of (QA := xk_Qi (dC, dI) xcl (xt cI cB cJ cZ cQ) (fun (r : Int32) (_ : Unit) => r = y.1) (fun u : Unit => (wC a v cI cB cJ cZ cQ y.2))) (by decide) (Nat.le_of_ble_eq_true rfl) ?_
  intro p e s0 m below meth c hx hb hml hown hg hr hlocks hin hP hK hN A hA hD hT ls hl
  have hown : s0.vm.findClass rn_Circuit = some m.cls := hown
  obtain ⟨H, hH⟩ : ∃ z, z = s0.heap := ⟨_, rfl⟩
  rw [← hH] at hP
  have hS : va_S A s0.heap H [] := by rw [hH]; exact va_S.rf
  suffices kk : ∀ QQ : State → Prop, QQ = MQ below (xk_Qi (dC, dI) xcl (xt cI cB cJ cZ cQ) (fun (r : Int32) (_ : Unit) => r = y.1) (fun u : Unit => (wC a v cI cB cJ cZ cQ y.2)) A) [.ref ((a 112)), .ref ((a 307)), .int v2].toArray s0 0 0 A → dcC p l e ({ frames := 4, cells := 0, slots := 0, locals := 92 }) s0 m [.ref ((a 112)), .ref ((a 307)), .int v2].toArray below meth c QQ (dC, dI) A (wC a v cI cB cJ cZ cQ s) 0 6 [(0, .ref ((a 112))), (1, .ref ((a 307))), (2, .int v2)] [] by
    have k9 := kk _ rfl H [] ls hP hD hS hl
    rw [hH] at k9; exact k9
  clear hP hD hS hl hH H ls
  intro QQ hQQ
  have bl_58 : ∀ (x2 : Int32) (x3 : Int32) (x4 : Int32) (s : ms), bk_Circuit_seek_Cc_307_58 N x2 x3 x4 s = some y → dcC p l e ({ frames := 4, cells := 0, slots := 0, locals := 92 }) s0 m [.ref ((a 112)), .ref ((a 307)), .int v2].toArray below meth c QQ (dC, dI) A (wC a v cI cB cJ cZ cQ s) 58 6 [(0, .ref ((a 112))), (1, .ref ((a 307))), (2, .int x2), (3, .int x3), (4, .int x4)] [] := by
    intro x2 x3 x4 s hf H locs ls hP hD hS hl
    unfold bk_Circuit_seek_Cc_307_58 at hf
    refine lv_iload_n hx hb dn_Circuit_seek_58 rfl (lv_at hl 3 rfl) ?_
    refine lv_iconst (v := (-1)) hx hb dn_Circuit_seek_59 (by decide) ?_
    refine lv_icmp_ne (tgt := 67) hx hb dn_Circuit_seek_60 (by decide) (fun h => ?_) (fun h => ?_)
    · have hf := (if_neg h).symm.trans hf
      refine lv_aload_n hx hb dn_Circuit_seek_67 rfl (lv_at hl 0 rfl) ?_
      refine lv_iload_n hx hb dn_Circuit_seek_68 rfl (lv_at hl 3 rfl) ?_
      refine lv_aload_n hx hb dn_Circuit_seek_69 rfl (lv_at hl 1 rfl) ?_
      refine lv_iload hx hb dn_Circuit_seek_70 (lv_at hl 4 rfl) ?_
      refine lv_iload_n hx hb dn_Circuit_seek_72 rfl (lv_at hl 2 rfl) ?_
      obtain ⟨q_1, hc_2, hf⟩ := dc_b hf
      refine dc_calli (dc_runV (ar := 4) (As := [.int x3, .ref ((a 307)), .int x4, .int x2]) (rest := []) (ci := 9) (q0 := 12) ⟨hx, hb, hml, hown, hg⟩ hK hN hT hS hA (ct_Circuit_signalCalled_Cc_307 l dC dI cI cB cJ cZ cQ N H.size a v x3 x4 x2 s q_1 hc_2) hP hD rfl rfl wn_7_159 wn_7_161 sn_Circuit_signalCalled wn_1_9 wn_7_162 rfl rfl (by decide +kernel) ⟨Nat.le_of_ble_eq_true rfl, Nat.le_of_ble_eq_true rfl⟩ rfl hl.1 rfl (Nat.le_of_ble_eq_true rfl) dn_Circuit_seek_73 ⟨Nat.le_of_ble_eq_true rfl, Nat.le_of_ble_eq_true rfl⟩) hP hD hS hA (fun r_3 _ H locs hw hP hD hS => ?_)
      have hw : r_3 = q_1.1 := hw
      subst hw
      rw [hQQ, ← Option.some.inj hf]
      exact xk_iret (w1 := fun u : Unit => (wC a v cI cB cJ cZ cQ q_1.2)) () hx hb hr hlocks hK hS dn_Circuit_seek_76 hP hD rfl (Nat.le_refl _) (Nat.le_refl _)
    · have hf := (if_pos h).symm.trans hf
      refine lv_iconst (v := (-1)) hx hb dn_Circuit_seek_63 (by decide) ?_
      refine lv_goto (tgt := 76) hx hb dn_Circuit_seek_64 (by decide) ?_
      rw [hQQ, ← Option.some.inj hf]
      exact xk_iret (w1 := fun u : Unit => (wC a v cI cB cJ cZ cQ s)) () hx hb hr hlocks hK hS dn_Circuit_seek_76 hP hD rfl (Nat.le_refl _) (Nat.le_refl _)
  have hd_8 : ∀ (n : Nat) (x2 : Int32) (x3 : Int32) (x4 : Int32) (x5 : Int32) (s : ms), hd_Circuit_seek_Cc_307_8 N n x2 x3 x4 x5 s = some y → dcC p l e ({ frames := 4, cells := 0, slots := 0, locals := 92 }) s0 m [.ref ((a 112)), .ref ((a 307)), .int v2].toArray below meth c QQ (dC, dI) A (wC a v cI cB cJ cZ cQ s) 8 6 [(0, .ref ((a 112))), (1, .ref ((a 307))), (2, .int x2), (3, .int x3), (4, .int x4), (5, .int x5)] [] := by
    intro n
    induction n with
    | zero => intro x2 x3 x4 x5 s hf; cases hf
    | succ n ih =>
      intro x2 x3 x4 x5 s hf H locs ls hP hD hS hl
      have hf : bd_Circuit_seek_Cc_307_8 N (hd_Circuit_seek_Cc_307_8 N n) x2 x3 x4 x5 s = some y := hf
      have hk_8 := ih
      generalize hd_Circuit_seek_Cc_307_8 N n = k_8 at hf hk_8
      unfold bd_Circuit_seek_Cc_307_8 at hf
      refine lv_iload hx hb dn_Circuit_seek_8 (lv_at hl 5 rfl) ?_
      refine lv_iload_n hx hb dn_Circuit_seek_10 rfl (lv_at hl 2 rfl) ?_
      refine lv_icmp_ge (tgt := 58) hx hb dn_Circuit_seek_11 (by decide) (fun h => ?_) (fun h => ?_)
      · have hf := (if_pos h).symm.trans hf
        exact bl_58 x2 x3 x4 s hf H locs ls hP hD hS (lv_sub hl [0, 1, 2, 3, 4] rfl)
      · have hf := (if_neg h).symm.trans hf
        refine lv_iload hx hb dn_Circuit_seek_14 (lv_at hl 5 rfl) ?_
        refine lv_aload_n hx hb dn_Circuit_seek_16 rfl (lv_at hl 1 rfl) ?_
        refine va_alen (v := 65536) hx hb hK hP 52 1 rfl rfl rfl dn_Circuit_seek_17 ?_
        refine lv_icmp_ge (tgt := 58) hx hb dn_Circuit_seek_18 (by decide) (fun h => ?_) (fun h => ?_)
        · have hf := (if_pos h).symm.trans hf
          exact bl_58 x2 x3 x4 s hf H locs ls hP hD hS (lv_sub hl [0, 1, 2, 3, 4] rfl)
        · have hf := (if_neg h).symm.trans hf
          refine lv_iload_n hx hb dn_Circuit_seek_21 rfl (lv_at hl 3 rfl) ?_
          refine lv_iconst (v := (-1)) hx hb dn_Circuit_seek_22 (by decide) ?_
          refine lv_icmp_eq (tgt := 58) hx hb dn_Circuit_seek_23 (by decide) (fun h => ?_) (fun h => ?_)
          · have hf := (if_pos h).symm.trans hf
            exact bl_58 x2 x3 x4 s hf H locs ls hP hD hS (lv_sub hl [0, 1, 2, 3, 4] rfl)
          · have hf := (if_neg h).symm.trans hf
            refine lv_aload_n hx hb dn_Circuit_seek_26 rfl (lv_at hl 1 rfl) ?_
            refine lv_iload hx hb dn_Circuit_seek_27 (lv_at hl 5 rfl) ?_
            obtain ⟨hg_1, hf⟩ := dc_g hf
            refine va_bald hx hb hK hP 52 1 rfl rfl hg_1 dn_Circuit_seek_29 ?_
            refine xk_ti (y := ((s.1 307) (Int32.toNatClampNeg x5))) rfl ?_
            refine lv_bipush (v := 46) hx hb dn_Circuit_seek_30 (by decide) ?_
            refine lv_icmp_ne (tgt := 52) hx hb dn_Circuit_seek_32 (by decide) (fun h => ?_) (fun h => ?_)
            · have hf := (if_neg h).symm.trans hf
              refine lv_iinc (v := (x5 + 1)) (lv' := [(5, .int ((x5 + 1))), (0, .ref ((a 112))), (1, .ref ((a 307))), (2, .int x2), (3, .int x3), (4, .int x4)]) hx hb dn_Circuit_seek_52 hl (k := 5) rfl (dc_inc (by decide)) (by decide) rfl (fun ls hl => ?_)
              refine lv_goto (tgt := 8) hx hb dn_Circuit_seek_55 (by decide) ?_
              exact hk_8 x2 x3 x4 ((x5 + 1)) s hf H locs ls hP hD hS (lv_sub hl [1, 2, 3, 4, 5, 0] rfl)
            · have hf := (if_pos h).symm.trans hf
              refine lv_aload_n hx hb dn_Circuit_seek_35 rfl (lv_at hl 0 rfl) ?_
              refine lv_iload_n hx hb dn_Circuit_seek_36 rfl (lv_at hl 3 rfl) ?_
              refine lv_aload_n hx hb dn_Circuit_seek_37 rfl (lv_at hl 1 rfl) ?_
              refine lv_iload hx hb dn_Circuit_seek_38 (lv_at hl 4 rfl) ?_
              refine lv_iload hx hb dn_Circuit_seek_40 (lv_at hl 5 rfl) ?_
              obtain ⟨q_2, hc_3, hf⟩ := dc_b hf
              refine dc_calli (dc_runV (ar := 4) (As := [.int x3, .ref ((a 307)), .int x4, .int x5]) (rest := []) (ci := 9) (q0 := 12) ⟨hx, hb, hml, hown, hg⟩ hK hN hT hS hA (ct_Circuit_childCalled_Cc_307 l dC dI cI cB cJ cZ cQ N H.size a v x3 x4 x5 s q_2 hc_3) hP hD rfl rfl wn_7_150 wn_7_152 sn_Circuit_childCalled wn_1_9 wn_7_153 rfl rfl (by decide +kernel) ⟨Nat.le_of_ble_eq_true rfl, Nat.le_of_ble_eq_true rfl⟩ rfl hl.1 rfl (Nat.le_of_ble_eq_true rfl) dn_Circuit_seek_42 ⟨Nat.le_of_ble_eq_true rfl, Nat.le_of_ble_eq_true rfl⟩) hP hD hS hA (fun r_4 _ H locs hw hP hD hS => ?_)
              have hw : r_4 = q_2.1 := hw
              subst hw
              refine lv_istore_n (lv' := [(3, .int q_2.1), (0, .ref ((a 112))), (1, .ref ((a 307))), (2, .int x2), (4, .int x4), (5, .int x5)]) hx hb dn_Circuit_seek_45 rfl hl (by decide) rfl (fun ls hl => ?_)
              refine lv_iload hx hb dn_Circuit_seek_46 (lv_at hl 5 rfl) ?_
              refine lv_iconst (v := 1) hx hb dn_Circuit_seek_48 (by decide) ?_
              refine lv_iadd hx hb dn_Circuit_seek_49 ?_
              refine lv_istore (lv' := [(4, .int ((x5 + 1))), (3, .int q_2.1), (0, .ref ((a 112))), (1, .ref ((a 307))), (2, .int x2), (5, .int x5)]) hx hb dn_Circuit_seek_50 hl (by decide) rfl (fun ls hl => ?_)
              refine lv_iinc (v := (x5 + 1)) (lv' := [(5, .int ((x5 + 1))), (4, .int ((x5 + 1))), (3, .int q_2.1), (0, .ref ((a 112))), (1, .ref ((a 307))), (2, .int x2)]) hx hb dn_Circuit_seek_52 hl (k := 5) rfl (dc_inc (by decide)) (by decide) rfl (fun ls hl => ?_)
              refine lv_goto (tgt := 8) hx hb dn_Circuit_seek_55 (by decide) ?_
              exact hk_8 x2 q_2.1 ((x5 + 1)) ((x5 + 1)) q_2.2 hf H locs ls hP hD hS (lv_sub hl [3, 4, 5, 2, 1, 0] rfl)
  intro H locs ls hP hD hS hl
  unfold fn_Circuit_seek_Cc_307 at hf
  refine lv_iconst (v := 0) hx hb dn_Circuit_seek_0 (by decide) ?_
  refine lv_istore_n (lv' := [(3, .int 0), (0, .ref ((a 112))), (1, .ref ((a 307))), (2, .int v2)]) hx hb dn_Circuit_seek_1 rfl hl (by decide) rfl (fun ls hl => ?_)
  refine lv_iconst (v := 0) hx hb dn_Circuit_seek_2 (by decide) ?_
  refine lv_istore (lv' := [(4, .int 0), (3, .int 0), (0, .ref ((a 112))), (1, .ref ((a 307))), (2, .int v2)]) hx hb dn_Circuit_seek_3 hl (by decide) rfl (fun ls hl => ?_)
  refine lv_iconst (v := 0) hx hb dn_Circuit_seek_5 (by decide) ?_
  refine lv_istore (lv' := [(5, .int 0), (4, .int 0), (3, .int 0), (0, .ref ((a 112))), (1, .ref ((a 307))), (2, .int v2)]) hx hb dn_Circuit_seek_6 hl (by decide) rfl (fun ls hl => ?_)
  exact hd_8 N v2 0 0 0 s hf H locs ls hP hD hS (lv_sub hl [3, 4, 5, 2, 1, 0] rfl)
def fn_Circuit_widthOf_Cc (N : Nat) (v1 : Int32) (s : ms) : Option (Int32 × ms) :=
  (fn_Circuit_isSignal_Cc N v1 s).bind (fun q_1 => if q_1.1 = 0 then (some (1, q_1.2)) else (if (v1 < 0 ∨ 1024 ≤ Int32.toNatClampNeg v1) then none else if (((q_1.2.1 348) (Int32.toNatClampNeg v1)) < 0 ∨ 10923 ≤ Int32.toNatClampNeg (((q_1.2.1 348) (Int32.toNatClampNeg v1)))) then none else some (((q_1.2.1 373) (Int32.toNatClampNeg (((q_1.2.1 348) (Int32.toNatClampNeg v1))))), q_1.2)))
set_option maxHeartbeats 8000000 in
set_option maxRecDepth 100000 in
theorem ct_Circuit_widthOf_Cc (l : Launch) (dC : Nat → ClassId) (dI : Nat → Nat → Nat) (cI cB cJ cZ cQ : ClassId) (N sz : Nat) (a : Nat → Nat) (v : Nat → Value) (v1 : Int32) (s : ms) (y : (Int32 × ms)) (hf : fn_Circuit_widthOf_Cc N v1 s = some y) : Met l yn_Circuit_widthOf (xw yn_Circuit_widthOf bn_Circuit_widthOf 2 (some .int)) ({ frames := 1, cells := 0, slots := 0, locals := 21 }) (dc_P (dC, dI) xcl (xt cI cB cJ cZ cQ) [.ref ((a 112)), .int v1] sz (wC a v cI cB cJ cZ cQ s)) (xk_Qi (dC, dI) xcl (xt cI cB cJ cZ cQ) (fun (r : Int32) (_ : Unit) => r = y.1) (fun u : Unit => (wC a v cI cB cJ cZ cQ y.2)) (va_A (wC a v cI cB cJ cZ cQ s) sz)) 0 0 (va_A (wC a v cI cB cJ cZ cQ s) sz) := by
  refine dc_of (QA := xk_Qi (dC, dI) xcl (xt cI cB cJ cZ cQ) (fun (r : Int32) (_ : Unit) => r = y.1) (fun u : Unit => (wC a v cI cB cJ cZ cQ y.2))) (by decide) (Nat.le_of_ble_eq_true rfl) ?_
  intro p e s0 m below meth c hx hb hml hown hg hr hlocks hin hP hK hN A hA hD hT ls hl
  have hown : s0.vm.findClass rn_Circuit = some m.cls := hown
  obtain ⟨H, hH⟩ : ∃ z, z = s0.heap := ⟨_, rfl⟩
  rw [← hH] at hP
  have hS : va_S A s0.heap H [] := by rw [hH]; exact va_S.rf
  suffices kk : ∀ QQ : State → Prop, QQ = MQ below (xk_Qi (dC, dI) xcl (xt cI cB cJ cZ cQ) (fun (r : Int32) (_ : Unit) => r = y.1) (fun u : Unit => (wC a v cI cB cJ cZ cQ y.2)) A) [.ref ((a 112)), .int v1].toArray s0 0 0 A → dcC p l e ({ frames := 1, cells := 0, slots := 0, locals := 21 }) s0 m [.ref ((a 112)), .int v1].toArray below meth c QQ (dC, dI) A (wC a v cI cB cJ cZ cQ s) 0 2 [(0, .ref ((a 112))), (1, .int v1)] [] by
    have k9 := kk _ rfl H [] ls hP hD hS hl
    rw [hH] at k9; exact k9
  clear hP hD hS hl hH H ls
  intro QQ hQQ
  intro H locs ls hP hD hS hl
  unfold fn_Circuit_widthOf_Cc at hf
  refine lv_aload_n hx hb dn_Circuit_widthOf_0 rfl (lv_at hl 0 rfl) ?_
  refine lv_iload_n hx hb dn_Circuit_widthOf_1 rfl (lv_at hl 1 rfl) ?_
  obtain ⟨q_1, hc_2, hf⟩ := dc_b hf
  refine dc_calli (dc_runV (ar := 1) (As := [.int v1]) (rest := []) (ci := 9) (q0 := 12) ⟨hx, hb, hml, hown, hg⟩ hK hN hT hS hA (ct_Circuit_isSignal_Cc l dC dI cI cB cJ cZ cQ N H.size a v v1 s q_1 hc_2) hP hD rfl rfl wn_6_239 wn_7_1 sn_Circuit_isSignal wn_1_9 wn_7_2 rfl rfl (by decide +kernel) ⟨Nat.le_of_ble_eq_true rfl, Nat.le_of_ble_eq_true rfl⟩ rfl hl.1 rfl (Nat.le_of_ble_eq_true rfl) dn_Circuit_widthOf_2 ⟨Nat.le_of_ble_eq_true rfl, Nat.le_of_ble_eq_true rfl⟩) hP hD hS hA (fun r_3 _ H locs hw hP hD hS => ?_)
  have hw : r_3 = q_1.1 := hw
  subst hw
  refine lv_if_eq (tgt := 28) hx hb dn_Circuit_widthOf_5 (by decide) (fun h => ?_) (fun h => ?_)
  · have hf := (if_pos h).symm.trans hf
    refine lv_iconst (v := 1) hx hb dn_Circuit_widthOf_28 (by decide) ?_
    rw [hQQ, ← Option.some.inj hf]
    exact xk_iret (w1 := fun u : Unit => (wC a v cI cB cJ cZ cQ q_1.2)) () hx hb hr hlocks hK hS dn_Circuit_widthOf_29 hP hD rfl (Nat.le_refl _) (Nat.le_refl _)
  · have hf := (if_neg h).symm.trans hf
    refine lv_aload_n hx hb dn_Circuit_widthOf_8 rfl (lv_at hl 0 rfl) ?_
    refine va_get (D := (dC, dI)) (ci := 9) (v := .ref ((a 113))) (C := rn_Circuit) (T := fn_Circuit) (N := 14) hx hb hg in_Circuit hown hK hP 12 rfl rfl 0 (by decide) (hg _ wn_3_61) (fun _ h9 => h9) rfl dn_Circuit_widthOf_9 ?_
    refine va_get (D := (dC, dI)) (ci := 10) (v := .ref ((a 114))) (C := rn_Design) (T := fn_Design) (N := 16) hx hb hg in_Design hown hK hP 13 rfl rfl 0 (by decide) (hg _ wn_2_237) (fun _ h9 => h9) rfl dn_Circuit_widthOf_12 ?_
    refine va_get (D := (dC, dI)) (ci := 11) (v := .ref ((a 373))) (C := rn_Parts) (T := fn_Parts) (N := 15) hx hb hg in_Parts hown hK hP 14 rfl rfl 2 (by decide) (hg _ wn_2_132) (fun _ h9 => h9) rfl dn_Circuit_widthOf_15 ?_
    refine lv_aload_n hx hb dn_Circuit_widthOf_18 rfl (lv_at hl 0 rfl) ?_
    refine va_get (D := (dC, dI)) (ci := 9) (v := .ref ((a 348))) (C := rn_Circuit) (T := fn_Circuit) (N := 14) hx hb hg in_Circuit hown hK hP 12 rfl rfl 7 (by decide) (hg _ wn_3_78) (fun _ h9 => h9) rfl dn_Circuit_widthOf_19 ?_
    refine lv_iload_n hx hb dn_Circuit_widthOf_22 rfl (lv_at hl 1 rfl) ?_
    obtain ⟨hg_4, hf⟩ := dc_g hf
    refine va_iald hx hb hK hP 80 0 rfl rfl hg_4 dn_Circuit_widthOf_23 ?_
    refine xk_ti (y := ((q_1.2.1 348) (Int32.toNatClampNeg v1))) rfl ?_
    obtain ⟨hg_5, hf⟩ := dc_g hf
    refine va_iald hx hb hK hP 96 0 rfl rfl hg_5 dn_Circuit_widthOf_24 ?_
    refine xk_ti (y := ((q_1.2.1 373) (Int32.toNatClampNeg (((q_1.2.1 348) (Int32.toNatClampNeg v1)))))) rfl ?_
    refine lv_goto (tgt := 29) hx hb dn_Circuit_widthOf_25 (by decide) ?_
    rw [hQQ, ← Option.some.inj hf]
    exact xk_iret (w1 := fun u : Unit => (wC a v cI cB cJ cZ cQ q_1.2)) () hx hb hr hlocks hK hS dn_Circuit_widthOf_29 hP hD rfl (Nat.le_refl _) (Nat.le_refl _)
def fn_Circuit_sortOf_Cc (N : Nat) (v1 : Int32) (s : ms) : Option (Int32 × ms) :=
  (fn_Circuit_isSignal_Cc N v1 s).bind (fun q_1 => if q_1.1 = 0 then (some ((-1), q_1.2)) else (if (v1 < 0 ∨ 1024 ≤ Int32.toNatClampNeg v1) then none else if (((q_1.2.1 348) (Int32.toNatClampNeg v1)) < 0 ∨ 10923 ≤ Int32.toNatClampNeg (((q_1.2.1 348) (Int32.toNatClampNeg v1)))) then none else if ((q_1.2.1 374) (Int32.toNatClampNeg (((q_1.2.1 348) (Int32.toNatClampNeg v1))))) = 0 then ((fn_Circuit_ownSignals_Cc N (((q_1.2.1 345) 0)) q_1.2).bind (fun q_6 => if v1 < q_6.1 then (some (((q_1.2.1 374) (Int32.toNatClampNeg (((q_1.2.1 348) (Int32.toNatClampNeg v1))))), q_6.2)) else (some (1, q_6.2)))) else (some (((q_1.2.1 374) (Int32.toNatClampNeg (((q_1.2.1 348) (Int32.toNatClampNeg v1))))), q_1.2))))
set_option maxHeartbeats 8000000 in
set_option maxRecDepth 100000 in
theorem ct_Circuit_sortOf_Cc (l : Launch) (dC : Nat → ClassId) (dI : Nat → Nat → Nat) (cI cB cJ cZ cQ : ClassId) (N sz : Nat) (a : Nat → Nat) (v : Nat → Value) (v1 : Int32) (s : ms) (y : (Int32 × ms)) (hf : fn_Circuit_sortOf_Cc N v1 s = some y) : Met l yn_Circuit_sortOf (xw yn_Circuit_sortOf bn_Circuit_sortOf 3 (some .int)) ({ frames := 3, cells := 0, slots := 0, locals := 63 }) (dc_P (dC, dI) xcl (xt cI cB cJ cZ cQ) [.ref ((a 112)), .int v1] sz (wC a v cI cB cJ cZ cQ s)) (xk_Qi (dC, dI) xcl (xt cI cB cJ cZ cQ) (fun (r : Int32) (_ : Unit) => r = y.1) (fun u : Unit => (wC a v cI cB cJ cZ cQ y.2)) (va_A (wC a v cI cB cJ cZ cQ s) sz)) 0 0 (va_A (wC a v cI cB cJ cZ cQ s) sz) := by
  refine dc_of (QA := xk_Qi (dC, dI) xcl (xt cI cB cJ cZ cQ) (fun (r : Int32) (_ : Unit) => r = y.1) (fun u : Unit => (wC a v cI cB cJ cZ cQ y.2))) (by decide) (Nat.le_of_ble_eq_true rfl) ?_
  intro p e s0 m below meth c hx hb hml hown hg hr hlocks hin hP hK hN A hA hD hT ls hl
  have hown : s0.vm.findClass rn_Circuit = some m.cls := hown
  obtain ⟨H, hH⟩ : ∃ z, z = s0.heap := ⟨_, rfl⟩
  rw [← hH] at hP
  have hS : va_S A s0.heap H [] := by rw [hH]; exact va_S.rf
  suffices kk : ∀ QQ : State → Prop, QQ = MQ below (xk_Qi (dC, dI) xcl (xt cI cB cJ cZ cQ) (fun (r : Int32) (_ : Unit) => r = y.1) (fun u : Unit => (wC a v cI cB cJ cZ cQ y.2)) A) [.ref ((a 112)), .int v1].toArray s0 0 0 A → dcC p l e ({ frames := 3, cells := 0, slots := 0, locals := 63 }) s0 m [.ref ((a 112)), .int v1].toArray below meth c QQ (dC, dI) A (wC a v cI cB cJ cZ cQ s) 0 3 [(0, .ref ((a 112))), (1, .int v1)] [] by
    have k9 := kk _ rfl H [] ls hP hD hS hl
    rw [hH] at k9; exact k9
  clear hP hD hS hl hH H ls
  intro QQ hQQ
  intro H locs ls hP hD hS hl
  unfold fn_Circuit_sortOf_Cc at hf
  refine lv_aload_n hx hb dn_Circuit_sortOf_0 rfl (lv_at hl 0 rfl) ?_
  refine lv_iload_n hx hb dn_Circuit_sortOf_1 rfl (lv_at hl 1 rfl) ?_
  obtain ⟨q_1, hc_2, hf⟩ := dc_b hf
  refine dc_calli (dc_runV (ar := 1) (As := [.int v1]) (rest := []) (ci := 9) (q0 := 12) ⟨hx, hb, hml, hown, hg⟩ hK hN hT hS hA (ct_Circuit_isSignal_Cc l dC dI cI cB cJ cZ cQ N H.size a v v1 s q_1 hc_2) hP hD rfl rfl wn_6_239 wn_7_1 sn_Circuit_isSignal wn_1_9 wn_7_2 rfl rfl (by decide +kernel) ⟨Nat.le_of_ble_eq_true rfl, Nat.le_of_ble_eq_true rfl⟩ rfl hl.1 rfl (Nat.le_of_ble_eq_true rfl) dn_Circuit_sortOf_2 ⟨Nat.le_of_ble_eq_true rfl, Nat.le_of_ble_eq_true rfl⟩) hP hD hS hA (fun r_3 _ H locs hw hP hD hS => ?_)
  have hw : r_3 = q_1.1 := hw
  subst hw
  refine lv_if_ne (tgt := 10) hx hb dn_Circuit_sortOf_5 (by decide) (fun h => ?_) (fun h => ?_)
  · have hf := (if_neg h).symm.trans hf
    refine lv_aload_n hx hb dn_Circuit_sortOf_10 rfl (lv_at hl 0 rfl) ?_
    refine va_get (D := (dC, dI)) (ci := 9) (v := .ref ((a 113))) (C := rn_Circuit) (T := fn_Circuit) (N := 14) hx hb hg in_Circuit hown hK hP 12 rfl rfl 0 (by decide) (hg _ wn_3_61) (fun _ h9 => h9) rfl dn_Circuit_sortOf_11 ?_
    refine va_get (D := (dC, dI)) (ci := 10) (v := .ref ((a 114))) (C := rn_Design) (T := fn_Design) (N := 16) hx hb hg in_Design hown hK hP 13 rfl rfl 0 (by decide) (hg _ wn_2_237) (fun _ h9 => h9) rfl dn_Circuit_sortOf_14 ?_
    refine va_get (D := (dC, dI)) (ci := 11) (v := .ref ((a 374))) (C := rn_Parts) (T := fn_Parts) (N := 15) hx hb hg in_Parts hown hK hP 14 rfl rfl 3 (by decide) (hg _ wn_2_136) (fun _ h9 => h9) rfl dn_Circuit_sortOf_17 ?_
    refine lv_aload_n hx hb dn_Circuit_sortOf_20 rfl (lv_at hl 0 rfl) ?_
    refine va_get (D := (dC, dI)) (ci := 9) (v := .ref ((a 348))) (C := rn_Circuit) (T := fn_Circuit) (N := 14) hx hb hg in_Circuit hown hK hP 12 rfl rfl 7 (by decide) (hg _ wn_3_78) (fun _ h9 => h9) rfl dn_Circuit_sortOf_21 ?_
    refine lv_iload_n hx hb dn_Circuit_sortOf_24 rfl (lv_at hl 1 rfl) ?_
    obtain ⟨hg_4, hf⟩ := dc_g hf
    refine va_iald hx hb hK hP 80 0 rfl rfl hg_4 dn_Circuit_sortOf_25 ?_
    refine xk_ti (y := ((q_1.2.1 348) (Int32.toNatClampNeg v1))) rfl ?_
    obtain ⟨hg_5, hf⟩ := dc_g hf
    refine va_iald hx hb hK hP 97 0 rfl rfl hg_5 dn_Circuit_sortOf_26 ?_
    refine xk_ti (y := ((q_1.2.1 374) (Int32.toNatClampNeg (((q_1.2.1 348) (Int32.toNatClampNeg v1)))))) rfl ?_
    refine lv_istore_n (lv' := [(2, .int (((q_1.2.1 374) (Int32.toNatClampNeg (((q_1.2.1 348) (Int32.toNatClampNeg v1))))))), (0, .ref ((a 112))), (1, .int v1)]) hx hb dn_Circuit_sortOf_27 rfl hl (by decide) rfl (fun ls hl => ?_)
    refine lv_iload_n hx hb dn_Circuit_sortOf_28 rfl (lv_at hl 0 rfl) ?_
    refine lv_if_ne (tgt := 50) hx hb dn_Circuit_sortOf_29 (by decide) (fun h => ?_) (fun h => ?_)
    · have hf := (if_neg h).symm.trans hf
      refine lv_iload_n hx hb dn_Circuit_sortOf_50 rfl (lv_at hl 0 rfl) ?_
      rw [hQQ, ← Option.some.inj hf]
      exact xk_iret (w1 := fun u : Unit => (wC a v cI cB cJ cZ cQ q_1.2)) () hx hb hr hlocks hK hS dn_Circuit_sortOf_51 hP hD rfl (Nat.le_refl _) (Nat.le_refl _)
    · have hf := (if_pos h).symm.trans hf
      refine lv_iload_n hx hb dn_Circuit_sortOf_32 rfl (lv_at hl 2 rfl) ?_
      refine lv_aload_n hx hb dn_Circuit_sortOf_33 rfl (lv_at hl 1 rfl) ?_
      refine lv_aload_n hx hb dn_Circuit_sortOf_34 rfl (lv_at hl 1 rfl) ?_
      refine va_get (D := (dC, dI)) (ci := 9) (v := .ref ((a 345))) (C := rn_Circuit) (T := fn_Circuit) (N := 14) hx hb hg in_Circuit hown hK hP 12 rfl rfl 4 (by decide) (hg _ wn_3_74) (fun _ h9 => h9) rfl dn_Circuit_sortOf_35 ?_
      refine lv_iconst (v := 0) hx hb dn_Circuit_sortOf_38 (by decide) ?_
      refine va_iald hx hb hK hP 77 0 rfl rfl (show ¬ (_ ∨ _) by decide) dn_Circuit_sortOf_39 ?_
      refine xk_ti (y := ((q_1.2.1 345) 0)) rfl ?_
      obtain ⟨q_6, hc_7, hf⟩ := dc_b hf
      refine dc_calli (dc_runV (ar := 1) (As := [.int (((q_1.2.1 345) 0))]) (rest := [.int v1]) (ci := 9) (q0 := 12) ⟨hx, hb, hml, hown, hg⟩ hK hN hT hS hA (ct_Circuit_ownSignals_Cc l dC dI cI cB cJ cZ cQ N H.size a v (((q_1.2.1 345) 0)) q_1.2 q_6 hc_7) hP hD rfl rfl wn_6_180 wn_6_182 sn_Circuit_ownSignals wn_1_9 wn_6_183 rfl rfl (by decide +kernel) ⟨Nat.le_of_ble_eq_true rfl, Nat.le_of_ble_eq_true rfl⟩ rfl hl.1 rfl (Nat.le_of_ble_eq_true rfl) dn_Circuit_sortOf_40 ⟨Nat.le_of_ble_eq_true rfl, Nat.le_of_ble_eq_true rfl⟩) hP hD hS hA (fun r_8 _ H locs hw hP hD hS => ?_)
      have hw : r_8 = q_6.1 := hw
      subst hw
      refine lv_icmp_lt (tgt := 50) hx hb dn_Circuit_sortOf_43 (by decide) (fun h => ?_) (fun h => ?_)
      · have hf := (if_pos h).symm.trans hf
        refine lv_iload_n hx hb dn_Circuit_sortOf_50 rfl (lv_at hl 0 rfl) ?_
        rw [hQQ, ← Option.some.inj hf]
        exact xk_iret (w1 := fun u : Unit => (wC a v cI cB cJ cZ cQ q_6.2)) () hx hb hr hlocks hK hS dn_Circuit_sortOf_51 hP hD rfl (Nat.le_refl _) (Nat.le_refl _)
      · have hf := (if_neg h).symm.trans hf
        refine lv_iconst (v := 1) hx hb dn_Circuit_sortOf_46 (by decide) ?_
        refine lv_goto (tgt := 51) hx hb dn_Circuit_sortOf_47 (by decide) ?_
        rw [hQQ, ← Option.some.inj hf]
        exact xk_iret (w1 := fun u : Unit => (wC a v cI cB cJ cZ cQ q_6.2)) () hx hb hr hlocks hK hS dn_Circuit_sortOf_51 hP hD rfl (Nat.le_refl _) (Nat.le_refl _)
  · have hf := (if_pos h).symm.trans hf
    refine lv_iconst (v := (-1)) hx hb dn_Circuit_sortOf_8 (by decide) ?_
    rw [hQQ, ← Option.some.inj hf]
    exact xk_iret (w1 := fun u : Unit => (wC a v cI cB cJ cZ cQ q_1.2)) () hx hb hr hlocks hK hS dn_Circuit_sortOf_9 hP hD rfl (Nat.le_refl _) (Nat.le_refl _)
def fn_Circuit_widthOf_Cs (N : Nat) (v1 : Int32) (s : ms) : Option (Int32 × ms) :=
  (fn_Circuit_isSignal_Cs N v1 s).bind (fun q_1 => if q_1.1 = 0 then (some (1, q_1.2)) else (if (v1 < 0 ∨ 1024 ≤ Int32.toNatClampNeg v1) then none else if (((q_1.2.1 298) (Int32.toNatClampNeg v1)) < 0 ∨ 10923 ≤ Int32.toNatClampNeg (((q_1.2.1 298) (Int32.toNatClampNeg v1)))) then none else some (((q_1.2.1 323) (Int32.toNatClampNeg (((q_1.2.1 298) (Int32.toNatClampNeg v1))))), q_1.2)))
set_option maxHeartbeats 8000000 in
set_option maxRecDepth 100000 in
theorem ct_Circuit_widthOf_Cs (l : Launch) (dC : Nat → ClassId) (dI : Nat → Nat → Nat) (cI cB cJ cZ cQ : ClassId) (N sz : Nat) (a : Nat → Nat) (v : Nat → Value) (v1 : Int32) (s : ms) (y : (Int32 × ms)) (hf : fn_Circuit_widthOf_Cs N v1 s = some y) : Met l yn_Circuit_widthOf (xw yn_Circuit_widthOf bn_Circuit_widthOf 2 (some .int)) ({ frames := 1, cells := 0, slots := 0, locals := 21 }) (dc_P (dC, dI) xcl (xt cI cB cJ cZ cQ) [.ref ((a 108)), .int v1] sz (wC a v cI cB cJ cZ cQ s)) (xk_Qi (dC, dI) xcl (xt cI cB cJ cZ cQ) (fun (r : Int32) (_ : Unit) => r = y.1) (fun u : Unit => (wC a v cI cB cJ cZ cQ y.2)) (va_A (wC a v cI cB cJ cZ cQ s) sz)) 0 0 (va_A (wC a v cI cB cJ cZ cQ s) sz) := by
  refine dc_of (QA := xk_Qi (dC, dI) xcl (xt cI cB cJ cZ cQ) (fun (r : Int32) (_ : Unit) => r = y.1) (fun u : Unit => (wC a v cI cB cJ cZ cQ y.2))) (by decide) (Nat.le_of_ble_eq_true rfl) ?_
  intro p e s0 m below meth c hx hb hml hown hg hr hlocks hin hP hK hN A hA hD hT ls hl
  have hown : s0.vm.findClass rn_Circuit = some m.cls := hown
  obtain ⟨H, hH⟩ : ∃ z, z = s0.heap := ⟨_, rfl⟩
  rw [← hH] at hP
  have hS : va_S A s0.heap H [] := by rw [hH]; exact va_S.rf
  suffices kk : ∀ QQ : State → Prop, QQ = MQ below (xk_Qi (dC, dI) xcl (xt cI cB cJ cZ cQ) (fun (r : Int32) (_ : Unit) => r = y.1) (fun u : Unit => (wC a v cI cB cJ cZ cQ y.2)) A) [.ref ((a 108)), .int v1].toArray s0 0 0 A → dcC p l e ({ frames := 1, cells := 0, slots := 0, locals := 21 }) s0 m [.ref ((a 108)), .int v1].toArray below meth c QQ (dC, dI) A (wC a v cI cB cJ cZ cQ s) 0 2 [(0, .ref ((a 108))), (1, .int v1)] [] by
    have k9 := kk _ rfl H [] ls hP hD hS hl
    rw [hH] at k9; exact k9
  clear hP hD hS hl hH H ls
  intro QQ hQQ
  intro H locs ls hP hD hS hl
  unfold fn_Circuit_widthOf_Cs at hf
  refine lv_aload_n hx hb dn_Circuit_widthOf_0 rfl (lv_at hl 0 rfl) ?_
  refine lv_iload_n hx hb dn_Circuit_widthOf_1 rfl (lv_at hl 1 rfl) ?_
  obtain ⟨q_1, hc_2, hf⟩ := dc_b hf
  refine dc_calli (dc_runV (ar := 1) (As := [.int v1]) (rest := []) (ci := 9) (q0 := 8) ⟨hx, hb, hml, hown, hg⟩ hK hN hT hS hA (ct_Circuit_isSignal_Cs l dC dI cI cB cJ cZ cQ N H.size a v v1 s q_1 hc_2) hP hD rfl rfl wn_6_239 wn_7_1 sn_Circuit_isSignal wn_1_9 wn_7_2 rfl rfl (by decide +kernel) ⟨Nat.le_of_ble_eq_true rfl, Nat.le_of_ble_eq_true rfl⟩ rfl hl.1 rfl (Nat.le_of_ble_eq_true rfl) dn_Circuit_widthOf_2 ⟨Nat.le_of_ble_eq_true rfl, Nat.le_of_ble_eq_true rfl⟩) hP hD hS hA (fun r_3 _ H locs hw hP hD hS => ?_)
  have hw : r_3 = q_1.1 := hw
  subst hw
  refine lv_if_eq (tgt := 28) hx hb dn_Circuit_widthOf_5 (by decide) (fun h => ?_) (fun h => ?_)
  · have hf := (if_pos h).symm.trans hf
    refine lv_iconst (v := 1) hx hb dn_Circuit_widthOf_28 (by decide) ?_
    rw [hQQ, ← Option.some.inj hf]
    exact xk_iret (w1 := fun u : Unit => (wC a v cI cB cJ cZ cQ q_1.2)) () hx hb hr hlocks hK hS dn_Circuit_widthOf_29 hP hD rfl (Nat.le_refl _) (Nat.le_refl _)
  · have hf := (if_neg h).symm.trans hf
    refine lv_aload_n hx hb dn_Circuit_widthOf_8 rfl (lv_at hl 0 rfl) ?_
    refine va_get (D := (dC, dI)) (ci := 9) (v := .ref ((a 109))) (C := rn_Circuit) (T := fn_Circuit) (N := 14) hx hb hg in_Circuit hown hK hP 8 rfl rfl 0 (by decide) (hg _ wn_3_61) (fun _ h9 => h9) rfl dn_Circuit_widthOf_9 ?_
    refine va_get (D := (dC, dI)) (ci := 10) (v := .ref ((a 110))) (C := rn_Design) (T := fn_Design) (N := 16) hx hb hg in_Design hown hK hP 9 rfl rfl 0 (by decide) (hg _ wn_2_237) (fun _ h9 => h9) rfl dn_Circuit_widthOf_12 ?_
    refine va_get (D := (dC, dI)) (ci := 11) (v := .ref ((a 323))) (C := rn_Parts) (T := fn_Parts) (N := 15) hx hb hg in_Parts hown hK hP 10 rfl rfl 2 (by decide) (hg _ wn_2_132) (fun _ h9 => h9) rfl dn_Circuit_widthOf_15 ?_
    refine lv_aload_n hx hb dn_Circuit_widthOf_18 rfl (lv_at hl 0 rfl) ?_
    refine va_get (D := (dC, dI)) (ci := 9) (v := .ref ((a 298))) (C := rn_Circuit) (T := fn_Circuit) (N := 14) hx hb hg in_Circuit hown hK hP 8 rfl rfl 7 (by decide) (hg _ wn_3_78) (fun _ h9 => h9) rfl dn_Circuit_widthOf_19 ?_
    refine lv_iload_n hx hb dn_Circuit_widthOf_22 rfl (lv_at hl 1 rfl) ?_
    obtain ⟨hg_4, hf⟩ := dc_g hf
    refine va_iald hx hb hK hP 46 0 rfl rfl hg_4 dn_Circuit_widthOf_23 ?_
    refine xk_ti (y := ((q_1.2.1 298) (Int32.toNatClampNeg v1))) rfl ?_
    obtain ⟨hg_5, hf⟩ := dc_g hf
    refine va_iald hx hb hK hP 62 0 rfl rfl hg_5 dn_Circuit_widthOf_24 ?_
    refine xk_ti (y := ((q_1.2.1 323) (Int32.toNatClampNeg (((q_1.2.1 298) (Int32.toNatClampNeg v1)))))) rfl ?_
    refine lv_goto (tgt := 29) hx hb dn_Circuit_widthOf_25 (by decide) ?_
    rw [hQQ, ← Option.some.inj hf]
    exact xk_iret (w1 := fun u : Unit => (wC a v cI cB cJ cZ cQ q_1.2)) () hx hb hr hlocks hK hS dn_Circuit_widthOf_29 hP hD rfl (Nat.le_refl _) (Nat.le_refl _)
def fn_Circuit_sortOf_Cs (N : Nat) (v1 : Int32) (s : ms) : Option (Int32 × ms) :=
  (fn_Circuit_isSignal_Cs N v1 s).bind (fun q_1 => if q_1.1 = 0 then (some ((-1), q_1.2)) else (if (v1 < 0 ∨ 1024 ≤ Int32.toNatClampNeg v1) then none else if (((q_1.2.1 298) (Int32.toNatClampNeg v1)) < 0 ∨ 10923 ≤ Int32.toNatClampNeg (((q_1.2.1 298) (Int32.toNatClampNeg v1)))) then none else if ((q_1.2.1 324) (Int32.toNatClampNeg (((q_1.2.1 298) (Int32.toNatClampNeg v1))))) = 0 then ((fn_Circuit_ownSignals_Cs N (((q_1.2.1 295) 0)) q_1.2).bind (fun q_6 => if v1 < q_6.1 then (some (((q_1.2.1 324) (Int32.toNatClampNeg (((q_1.2.1 298) (Int32.toNatClampNeg v1))))), q_6.2)) else (some (1, q_6.2)))) else (some (((q_1.2.1 324) (Int32.toNatClampNeg (((q_1.2.1 298) (Int32.toNatClampNeg v1))))), q_1.2))))
set_option maxHeartbeats 8000000 in
set_option maxRecDepth 100000 in
theorem ct_Circuit_sortOf_Cs (l : Launch) (dC : Nat → ClassId) (dI : Nat → Nat → Nat) (cI cB cJ cZ cQ : ClassId) (N sz : Nat) (a : Nat → Nat) (v : Nat → Value) (v1 : Int32) (s : ms) (y : (Int32 × ms)) (hf : fn_Circuit_sortOf_Cs N v1 s = some y) : Met l yn_Circuit_sortOf (xw yn_Circuit_sortOf bn_Circuit_sortOf 3 (some .int)) ({ frames := 3, cells := 0, slots := 0, locals := 63 }) (dc_P (dC, dI) xcl (xt cI cB cJ cZ cQ) [.ref ((a 108)), .int v1] sz (wC a v cI cB cJ cZ cQ s)) (xk_Qi (dC, dI) xcl (xt cI cB cJ cZ cQ) (fun (r : Int32) (_ : Unit) => r = y.1) (fun u : Unit => (wC a v cI cB cJ cZ cQ y.2)) (va_A (wC a v cI cB cJ cZ cQ s) sz)) 0 0 (va_A (wC a v cI cB cJ cZ cQ s) sz) := by
  refine dc_of (QA := xk_Qi (dC, dI) xcl (xt cI cB cJ cZ cQ) (fun (r : Int32) (_ : Unit) => r = y.1) (fun u : Unit => (wC a v cI cB cJ cZ cQ y.2))) (by decide) (Nat.le_of_ble_eq_true rfl) ?_
  intro p e s0 m below meth c hx hb hml hown hg hr hlocks hin hP hK hN A hA hD hT ls hl
  have hown : s0.vm.findClass rn_Circuit = some m.cls := hown
  obtain ⟨H, hH⟩ : ∃ z, z = s0.heap := ⟨_, rfl⟩
  rw [← hH] at hP
  have hS : va_S A s0.heap H [] := by rw [hH]; exact va_S.rf
  suffices kk : ∀ QQ : State → Prop, QQ = MQ below (xk_Qi (dC, dI) xcl (xt cI cB cJ cZ cQ) (fun (r : Int32) (_ : Unit) => r = y.1) (fun u : Unit => (wC a v cI cB cJ cZ cQ y.2)) A) [.ref ((a 108)), .int v1].toArray s0 0 0 A → dcC p l e ({ frames := 3, cells := 0, slots := 0, locals := 63 }) s0 m [.ref ((a 108)), .int v1].toArray below meth c QQ (dC, dI) A (wC a v cI cB cJ cZ cQ s) 0 3 [(0, .ref ((a 108))), (1, .int v1)] [] by
    have k9 := kk _ rfl H [] ls hP hD hS hl
    rw [hH] at k9; exact k9
  clear hP hD hS hl hH H ls
  intro QQ hQQ
  intro H locs ls hP hD hS hl
  unfold fn_Circuit_sortOf_Cs at hf
  refine lv_aload_n hx hb dn_Circuit_sortOf_0 rfl (lv_at hl 0 rfl) ?_
  refine lv_iload_n hx hb dn_Circuit_sortOf_1 rfl (lv_at hl 1 rfl) ?_
  obtain ⟨q_1, hc_2, hf⟩ := dc_b hf
  refine dc_calli (dc_runV (ar := 1) (As := [.int v1]) (rest := []) (ci := 9) (q0 := 8) ⟨hx, hb, hml, hown, hg⟩ hK hN hT hS hA (ct_Circuit_isSignal_Cs l dC dI cI cB cJ cZ cQ N H.size a v v1 s q_1 hc_2) hP hD rfl rfl wn_6_239 wn_7_1 sn_Circuit_isSignal wn_1_9 wn_7_2 rfl rfl (by decide +kernel) ⟨Nat.le_of_ble_eq_true rfl, Nat.le_of_ble_eq_true rfl⟩ rfl hl.1 rfl (Nat.le_of_ble_eq_true rfl) dn_Circuit_sortOf_2 ⟨Nat.le_of_ble_eq_true rfl, Nat.le_of_ble_eq_true rfl⟩) hP hD hS hA (fun r_3 _ H locs hw hP hD hS => ?_)
  have hw : r_3 = q_1.1 := hw
  subst hw
  refine lv_if_ne (tgt := 10) hx hb dn_Circuit_sortOf_5 (by decide) (fun h => ?_) (fun h => ?_)
  · have hf := (if_neg h).symm.trans hf
    refine lv_aload_n hx hb dn_Circuit_sortOf_10 rfl (lv_at hl 0 rfl) ?_
    refine va_get (D := (dC, dI)) (ci := 9) (v := .ref ((a 109))) (C := rn_Circuit) (T := fn_Circuit) (N := 14) hx hb hg in_Circuit hown hK hP 8 rfl rfl 0 (by decide) (hg _ wn_3_61) (fun _ h9 => h9) rfl dn_Circuit_sortOf_11 ?_
    refine va_get (D := (dC, dI)) (ci := 10) (v := .ref ((a 110))) (C := rn_Design) (T := fn_Design) (N := 16) hx hb hg in_Design hown hK hP 9 rfl rfl 0 (by decide) (hg _ wn_2_237) (fun _ h9 => h9) rfl dn_Circuit_sortOf_14 ?_
    refine va_get (D := (dC, dI)) (ci := 11) (v := .ref ((a 324))) (C := rn_Parts) (T := fn_Parts) (N := 15) hx hb hg in_Parts hown hK hP 10 rfl rfl 3 (by decide) (hg _ wn_2_136) (fun _ h9 => h9) rfl dn_Circuit_sortOf_17 ?_
    refine lv_aload_n hx hb dn_Circuit_sortOf_20 rfl (lv_at hl 0 rfl) ?_
    refine va_get (D := (dC, dI)) (ci := 9) (v := .ref ((a 298))) (C := rn_Circuit) (T := fn_Circuit) (N := 14) hx hb hg in_Circuit hown hK hP 8 rfl rfl 7 (by decide) (hg _ wn_3_78) (fun _ h9 => h9) rfl dn_Circuit_sortOf_21 ?_
    refine lv_iload_n hx hb dn_Circuit_sortOf_24 rfl (lv_at hl 1 rfl) ?_
    obtain ⟨hg_4, hf⟩ := dc_g hf
    refine va_iald hx hb hK hP 46 0 rfl rfl hg_4 dn_Circuit_sortOf_25 ?_
    refine xk_ti (y := ((q_1.2.1 298) (Int32.toNatClampNeg v1))) rfl ?_
    obtain ⟨hg_5, hf⟩ := dc_g hf
    refine va_iald hx hb hK hP 63 0 rfl rfl hg_5 dn_Circuit_sortOf_26 ?_
    refine xk_ti (y := ((q_1.2.1 324) (Int32.toNatClampNeg (((q_1.2.1 298) (Int32.toNatClampNeg v1)))))) rfl ?_
    refine lv_istore_n (lv' := [(2, .int (((q_1.2.1 324) (Int32.toNatClampNeg (((q_1.2.1 298) (Int32.toNatClampNeg v1))))))), (0, .ref ((a 108))), (1, .int v1)]) hx hb dn_Circuit_sortOf_27 rfl hl (by decide) rfl (fun ls hl => ?_)
    refine lv_iload_n hx hb dn_Circuit_sortOf_28 rfl (lv_at hl 0 rfl) ?_
    refine lv_if_ne (tgt := 50) hx hb dn_Circuit_sortOf_29 (by decide) (fun h => ?_) (fun h => ?_)
    · have hf := (if_neg h).symm.trans hf
      refine lv_iload_n hx hb dn_Circuit_sortOf_50 rfl (lv_at hl 0 rfl) ?_
      rw [hQQ, ← Option.some.inj hf]
      exact xk_iret (w1 := fun u : Unit => (wC a v cI cB cJ cZ cQ q_1.2)) () hx hb hr hlocks hK hS dn_Circuit_sortOf_51 hP hD rfl (Nat.le_refl _) (Nat.le_refl _)
    · have hf := (if_pos h).symm.trans hf
      refine lv_iload_n hx hb dn_Circuit_sortOf_32 rfl (lv_at hl 2 rfl) ?_
      refine lv_aload_n hx hb dn_Circuit_sortOf_33 rfl (lv_at hl 1 rfl) ?_
      refine lv_aload_n hx hb dn_Circuit_sortOf_34 rfl (lv_at hl 1 rfl) ?_
      refine va_get (D := (dC, dI)) (ci := 9) (v := .ref ((a 295))) (C := rn_Circuit) (T := fn_Circuit) (N := 14) hx hb hg in_Circuit hown hK hP 8 rfl rfl 4 (by decide) (hg _ wn_3_74) (fun _ h9 => h9) rfl dn_Circuit_sortOf_35 ?_
      refine lv_iconst (v := 0) hx hb dn_Circuit_sortOf_38 (by decide) ?_
      refine va_iald hx hb hK hP 43 0 rfl rfl (show ¬ (_ ∨ _) by decide) dn_Circuit_sortOf_39 ?_
      refine xk_ti (y := ((q_1.2.1 295) 0)) rfl ?_
      obtain ⟨q_6, hc_7, hf⟩ := dc_b hf
      refine dc_calli (dc_runV (ar := 1) (As := [.int (((q_1.2.1 295) 0))]) (rest := [.int v1]) (ci := 9) (q0 := 8) ⟨hx, hb, hml, hown, hg⟩ hK hN hT hS hA (ct_Circuit_ownSignals_Cs l dC dI cI cB cJ cZ cQ N H.size a v (((q_1.2.1 295) 0)) q_1.2 q_6 hc_7) hP hD rfl rfl wn_6_180 wn_6_182 sn_Circuit_ownSignals wn_1_9 wn_6_183 rfl rfl (by decide +kernel) ⟨Nat.le_of_ble_eq_true rfl, Nat.le_of_ble_eq_true rfl⟩ rfl hl.1 rfl (Nat.le_of_ble_eq_true rfl) dn_Circuit_sortOf_40 ⟨Nat.le_of_ble_eq_true rfl, Nat.le_of_ble_eq_true rfl⟩) hP hD hS hA (fun r_8 _ H locs hw hP hD hS => ?_)
      have hw : r_8 = q_6.1 := hw
      subst hw
      refine lv_icmp_lt (tgt := 50) hx hb dn_Circuit_sortOf_43 (by decide) (fun h => ?_) (fun h => ?_)
      · have hf := (if_pos h).symm.trans hf
        refine lv_iload_n hx hb dn_Circuit_sortOf_50 rfl (lv_at hl 0 rfl) ?_
        rw [hQQ, ← Option.some.inj hf]
        exact xk_iret (w1 := fun u : Unit => (wC a v cI cB cJ cZ cQ q_6.2)) () hx hb hr hlocks hK hS dn_Circuit_sortOf_51 hP hD rfl (Nat.le_refl _) (Nat.le_refl _)
      · have hf := (if_neg h).symm.trans hf
        refine lv_iconst (v := 1) hx hb dn_Circuit_sortOf_46 (by decide) ?_
        refine lv_goto (tgt := 51) hx hb dn_Circuit_sortOf_47 (by decide) ?_
        rw [hQQ, ← Option.some.inj hf]
        exact xk_iret (w1 := fun u : Unit => (wC a v cI cB cJ cZ cQ q_6.2)) () hx hb hr hlocks hK hS dn_Circuit_sortOf_51 hP hD rfl (Nat.le_refl _) (Nat.le_refl _)
  · have hf := (if_pos h).symm.trans hf
    refine lv_iconst (v := (-1)) hx hb dn_Circuit_sortOf_8 (by decide) ?_
    rw [hQQ, ← Option.some.inj hf]
    exact xk_iret (w1 := fun u : Unit => (wC a v cI cB cJ cZ cQ q_1.2)) () hx hb hr hlocks hK hS dn_Circuit_sortOf_9 hP hD rfl (Nat.le_refl _) (Nat.le_refl _)
def bd_Machine_restart_Ma_Cc_2 (N : Nat) (k_2 : Int32 → ms → Option (Unit × ms)) (x2 : Int32) (s : ms) : Option (Unit × ms) :=
  if (s.1 343 0) ≤ x2 then (some ((), upI (upI s 289 (fun _ => 0)) 290 (fun _ => 0))) else ((fn_Circuit_firstOf_Cc N x2 s).bind (fun q_1 => if (x2 < 0 ∨ 1024 ≤ Int32.toNatClampNeg x2) then none else k_2 ((x2 + 1)) (upJ q_1.2 286 (vp_updL (q_1.2.2 286) (Int32.toNatClampNeg x2) q_1.1))))
def hd_Machine_restart_Ma_Cc_2 (N : Nat) : Nat → Int32 → ms → Option (Unit × ms)
  | 0, _, _ => none
  | n + 1, x2, s => bd_Machine_restart_Ma_Cc_2 N (hd_Machine_restart_Ma_Cc_2 N n) x2 s
def fn_Machine_restart_Ma_Cc (N : Nat) (s : ms) : Option (Unit × ms) :=
  hd_Machine_restart_Ma_Cc_2 N N 0 s
set_option maxHeartbeats 8000000 in
set_option maxRecDepth 100000 in
theorem ct_Machine_restart_Ma_Cc (l : Launch) (dC : Nat → ClassId) (dI : Nat → Nat → Nat) (cI cB cJ cZ cQ : ClassId) (N sz : Nat) (a : Nat → Nat) (v : Nat → Value) (s : ms) (y : (Unit × ms)) (hf : fn_Machine_restart_Ma_Cc N s = some y) : Met l yn_Machine_restart (xw yn_Machine_restart bn_Machine_restart 3 none) ({ frames := 2, cells := 0, slots := 0, locals := 42 }) (dc_P (dC, dI) xcl (xt cI cB cJ cZ cQ) [.ref ((a 107)), .ref ((a 112))] sz (wC a v cI cB cJ cZ cQ s)) (xk_Qv (dC, dI) xcl (xt cI cB cJ cZ cQ) (fun _ : Unit => True) (fun u : Unit => (wC a v cI cB cJ cZ cQ y.2)) (va_A (wC a v cI cB cJ cZ cQ s) sz)) 0 0 (va_A (wC a v cI cB cJ cZ cQ s) sz) := by
  refine dc_of (QA := xk_Qv (dC, dI) xcl (xt cI cB cJ cZ cQ) (fun _ : Unit => True) (fun u : Unit => (wC a v cI cB cJ cZ cQ y.2))) (by decide) (Nat.le_of_ble_eq_true rfl) ?_
  intro p e s0 m below meth c hx hb hml hown hg hr hlocks hin hP hK hN A hA hD hT ls hl
  have hown : s0.vm.findClass rn_Machine = some m.cls := hown
  obtain ⟨H, hH⟩ : ∃ z, z = s0.heap := ⟨_, rfl⟩
  rw [← hH] at hP
  have hS : va_S A s0.heap H [] := by rw [hH]; exact va_S.rf
  suffices kk : ∀ QQ : State → Prop, QQ = MQ below (xk_Qv (dC, dI) xcl (xt cI cB cJ cZ cQ) (fun _ : Unit => True) (fun u : Unit => (wC a v cI cB cJ cZ cQ y.2)) A) [.ref ((a 107)), .ref ((a 112))].toArray s0 0 0 A → dcC p l e ({ frames := 2, cells := 0, slots := 0, locals := 42 }) s0 m [.ref ((a 107)), .ref ((a 112))].toArray below meth c QQ (dC, dI) A (wC a v cI cB cJ cZ cQ s) 0 3 [(0, .ref ((a 107))), (1, .ref ((a 112)))] [] by
    have k9 := kk _ rfl H [] ls hP hD hS hl
    rw [hH] at k9; exact k9
  clear hP hD hS hl hH H ls
  intro QQ hQQ
  have hd_2 : ∀ (n : Nat) (x2 : Int32) (s : ms), hd_Machine_restart_Ma_Cc_2 N n x2 s = some y → dcC p l e ({ frames := 2, cells := 0, slots := 0, locals := 42 }) s0 m [.ref ((a 107)), .ref ((a 112))].toArray below meth c QQ (dC, dI) A (wC a v cI cB cJ cZ cQ s) 2 3 [(0, .ref ((a 107))), (1, .ref ((a 112))), (2, .int x2)] [] := by
    intro n
    induction n with
    | zero => intro x2 s hf; cases hf
    | succ n ih =>
      intro x2 s hf H locs ls hP hD hS hl
      have hf : bd_Machine_restart_Ma_Cc_2 N (hd_Machine_restart_Ma_Cc_2 N n) x2 s = some y := hf
      have hk_2 := ih
      generalize hd_Machine_restart_Ma_Cc_2 N n = k_2 at hf hk_2
      unfold bd_Machine_restart_Ma_Cc_2 at hf
      refine lv_iload_n hx hb dn_Machine_restart_2 rfl (lv_at hl 2 rfl) ?_
      refine lv_aload_n hx hb dn_Machine_restart_3 rfl (lv_at hl 1 rfl) ?_
      refine va_get (D := (dC, dI)) (ci := 9) (v := .int ((s.1 343 0))) (C := rn_Circuit) (T := fn_Circuit) (N := 14) hx hb hg in_Circuit hown hK hP 12 rfl rfl 2 (by decide) (hg _ wn_3_68) (fun _ h9 => h9) rfl dn_Machine_restart_4 ?_
      refine lv_icmp_ge (tgt := 27) hx hb dn_Machine_restart_7 (by decide) (fun h => ?_) (fun h => ?_)
      · have hf := (if_pos h).symm.trans hf
        refine lv_aload_n hx hb dn_Machine_restart_27 rfl (lv_at hl 0 rfl) ?_
        refine lv_iconst (v := 0) hx hb dn_Machine_restart_28 (by decide) ?_
        refine va_put (D := (dC, dI)) (ci := 8) (v := .int 0) (ty := .int) (C := rn_Machine) (T := fn_Machine) (N := 5) hx hb hg in_Machine tn_Machine tk_Machine nn_Machine hown hK hP hD hS 7 rfl rfl 3 (by decide) (hg _ wn_2_92) (fun _ h9 => h9) rfl (tk_Machine 3 (by decide)) rfl rfl (Nat.le_of_ble_eq_true rfl) dn_Machine_restart_29 (fun H locs hP hD hS => ?_)
        have hP := wC_P_289 hP
        have hD := wC_D_289 hD
        refine lv_aload_n hx hb dn_Machine_restart_32 rfl (lv_at hl 0 rfl) ?_
        refine lv_iconst (v := 0) hx hb dn_Machine_restart_33 (by decide) ?_
        refine va_put (D := (dC, dI)) (ci := 8) (v := .int 0) (ty := .boolean) (C := rn_Machine) (T := fn_Machine) (N := 5) hx hb hg in_Machine tn_Machine tk_Machine nn_Machine hown hK hP hD hS 7 rfl rfl 4 (by decide) (hg _ wn_2_93) (fun _ h9 => h9) rfl (tk_Machine 4 (by decide)) rfl rfl (Nat.le_of_ble_eq_true rfl) dn_Machine_restart_34 (fun H locs hP hD hS => ?_)
        have hP := wC_P_290 hP
        have hD := wC_D_290 hD
        rw [hQQ, ← Option.some.inj hf]
        exact xk_vret (w1 := fun u : Unit => (wC a v cI cB cJ cZ cQ (upI (upI s 289 (fun _ => 0)) 290 (fun _ => 0)))) () hx hb hr hlocks hK hS dn_Machine_restart_37 hP hD trivial (Nat.le_refl _) (Nat.le_refl _)
      · have hf := (if_neg h).symm.trans hf
        refine lv_aload_n hx hb dn_Machine_restart_10 rfl (lv_at hl 0 rfl) ?_
        refine va_get (D := (dC, dI)) (ci := 8) (v := .ref ((a 286))) (C := rn_Machine) (T := fn_Machine) (N := 5) hx hb hg in_Machine hown hK hP 7 rfl rfl 0 (by decide) (hg _ wn_2_89) (fun _ h9 => h9) rfl dn_Machine_restart_11 ?_
        refine lv_iload_n hx hb dn_Machine_restart_14 rfl (lv_at hl 2 rfl) ?_
        refine lv_aload_n hx hb dn_Machine_restart_15 rfl (lv_at hl 1 rfl) ?_
        refine lv_iload_n hx hb dn_Machine_restart_16 rfl (lv_at hl 2 rfl) ?_
        obtain ⟨q_1, hc_2, hf⟩ := dc_b hf
        refine dc_calll (dc_runV (ar := 1) (As := [.int x2]) (rest := [.int x2, .ref ((a 286))]) (ci := 9) (q0 := 12) ⟨hx, hb, hml, hown, hg⟩ hK hN hT hS hA (ct_Circuit_firstOf_Cc l dC dI cI cB cJ cZ cQ N H.size a v x2 s q_1 hc_2) hP hD rfl rfl wn_7_7 wn_7_8 wn_7_9 wn_1_9 wn_7_10 rfl rfl (by decide +kernel) ⟨Nat.le_of_ble_eq_true rfl, Nat.le_of_ble_eq_true rfl⟩ rfl hl.1 rfl (Nat.le_of_ble_eq_true rfl) dn_Machine_restart_17 ⟨Nat.le_of_ble_eq_true rfl, Nat.le_of_ble_eq_true rfl⟩) hP hD hS hA (fun r_3 _ H locs hw hP hD hS => ?_)
        have hw : r_3 = q_1.1 := hw
        subst hw
        obtain ⟨hg_4, hf⟩ := dc_g hf
        refine va_last hx hb hK hP hD hS 39 2 rfl rfl hg_4 dn_Machine_restart_20 (fun H locs hP hD hS => ?_)
        have hP : va_P (dC, dI) xcl ((wC a v cI cB cJ cZ cQ q_1.2).set 39 ((a 286), .inl (cJ, 1024, .inr (.inl (vp_updL (q_1.2.2 286) (Int32.toNatClampNeg x2) q_1.1))))) H := hP
        have hD : va_D A ((wC a v cI cB cJ cZ cQ q_1.2).set 39 ((a 286), .inl (cJ, 1024, .inr (.inl (vp_updL (q_1.2.2 286) (Int32.toNatClampNeg x2) q_1.1))))) := hD
        have hP := wC_P_286 hP
        have hD := wC_D_286 hD
        refine lv_iinc (v := (x2 + 1)) (lv' := [(2, .int ((x2 + 1))), (0, .ref ((a 107))), (1, .ref ((a 112)))]) hx hb dn_Machine_restart_21 hl (k := 2) rfl (dc_inc (by decide)) (by decide) rfl (fun ls hl => ?_)
        refine lv_goto (tgt := 2) hx hb dn_Machine_restart_24 (by decide) ?_
        exact hk_2 ((x2 + 1)) (upJ q_1.2 286 (vp_updL (q_1.2.2 286) (Int32.toNatClampNeg x2) q_1.1)) hf H locs ls hP hD hS (lv_sub hl [1, 2, 0] rfl)
  intro H locs ls hP hD hS hl
  unfold fn_Machine_restart_Ma_Cc at hf
  refine lv_iconst (v := 0) hx hb dn_Machine_restart_0 (by decide) ?_
  refine lv_istore_n (lv' := [(2, .int 0), (0, .ref ((a 107))), (1, .ref ((a 112)))]) hx hb dn_Machine_restart_1 rfl hl (by decide) rfl (fun ls hl => ?_)
  exact hd_2 N 0 s hf H locs ls hP hD hS (lv_sub hl [1, 2, 0] rfl)
