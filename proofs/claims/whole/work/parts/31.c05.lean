def bk_Grammar_assignment_Gr_39 (N : Nat) (s : ms) : Option (Unit × ms) :=
  (fn_Tokens_take_Tk N s).bind (fun q_1 => (fn_Tokens_need_Tk N 61 (upI q_1.2 266 (fun _ => (q_1.2.1 215 0)))).bind (fun q_3 => (fn_Grammar_expFor_Gr N 134 q_3.2).bind (fun q_5 => some ((), q_5.2))))
def fn_Grammar_assignment_Gr (N : Nat) (s : ms) : Option (Unit × ms) :=
  (fn_Tokens_take_Tk N s).bind (fun q_1 => (fn_Tokens_due_Tk N 2 q_1.2).bind (fun q_3 => if q_3.1 = 0 then (bk_Grammar_assignment_Gr_39 N q_3.2) else ((fn_Meaning_assignTo_Me N ((q_3.2.1 216 0)) ((q_3.2.1 215 0)) q_3.2).bind (fun q_6 => bk_Grammar_assignment_Gr_39 N q_6.2))))
set_option maxHeartbeats 8000000 in
set_option maxRecDepth 100000 in
theorem ct_Grammar_assignment_Gr (l : Launch) (dC : Nat → ClassId) (dI : Nat → Nat → Nat) (cI cB cJ cZ cQ : ClassId) (N sz : Nat) (a : Nat → Nat) (v : Nat → Value) (hv_2 : v 2 = .ref (a 110)) (hv_3 : v 3 = .ref (a 111)) (hv_5 : v 5 = .ref (a 110)) (hv_6 : v 6 = .ref (a 111)) (s : ms) (y : (Unit × ms)) (hf : fn_Grammar_assignment_Gr N s = some y) : Met l yn_Grammar_assignment (xw yn_Grammar_assignment bn_Grammar_assignment 1 none) ({ frames := 3, cells := 0, slots := 0, locals := 62 }) (dc_P (dC, dI) xcl (xt cI cB cJ cZ cQ) [.ref ((a 105))] sz (wC a v cI cB cJ cZ cQ s)) (xk_Qv (dC, dI) xcl (xt cI cB cJ cZ cQ) (fun _ : Unit => True) (fun u : Unit => (wC a v cI cB cJ cZ cQ y.2)) (va_A (wC a v cI cB cJ cZ cQ s) sz)) 0 0 (va_A (wC a v cI cB cJ cZ cQ s) sz) := by
  refine dc_of (QA := xk_Qv (dC, dI) xcl (xt cI cB cJ cZ cQ) (fun _ : Unit => True) (fun u : Unit => (wC a v cI cB cJ cZ cQ y.2))) (by decide) (Nat.le_of_ble_eq_true rfl) ?_
  intro p e s0 m below meth c hx hb hml hown hg hr hlocks hin hP hK hN A hA hD hT ls hl
  have hown : s0.vm.findClass rn_Grammar = some m.cls := hown
  obtain ⟨H, hH⟩ : ∃ z, z = s0.heap := ⟨_, rfl⟩
  rw [← hH] at hP
  have hS : va_S A s0.heap H [] := by rw [hH]; exact va_S.rf
  suffices kk : ∀ QQ : State → Prop, QQ = MQ below (xk_Qv (dC, dI) xcl (xt cI cB cJ cZ cQ) (fun _ : Unit => True) (fun u : Unit => (wC a v cI cB cJ cZ cQ y.2)) A) [.ref ((a 105))].toArray s0 0 0 A → dcC p l e ({ frames := 3, cells := 0, slots := 0, locals := 62 }) s0 m [.ref ((a 105))].toArray below meth c QQ (dC, dI) A (wC a v cI cB cJ cZ cQ s) 0 1 [(0, .ref ((a 105)))] [] by
    have k9 := kk _ rfl H [] ls hP hD hS hl
    rw [hH] at k9; exact k9
  clear hP hD hS hl hH H ls
  intro QQ hQQ
  have bl_39 : ∀ (s : ms), bk_Grammar_assignment_Gr_39 N s = some y → dcC p l e ({ frames := 3, cells := 0, slots := 0, locals := 62 }) s0 m [.ref ((a 105))].toArray below meth c QQ (dC, dI) A (wC a v cI cB cJ cZ cQ s) 39 1 [(0, .ref ((a 105)))] [] := by
    intro s hf H locs ls hP hD hS hl
    unfold bk_Grammar_assignment_Gr_39 at hf
    refine lv_aload_n hx hb dn_Grammar_assignment_39 rfl (lv_at hl 0 rfl) ?_
    refine va_get (D := (dC, dI)) (ci := 6) (v := .ref ((a 101))) (C := rn_Grammar) (T := fn_Grammar) (N := 15) hx hb hg in_Grammar hown hK hP 5 rfl rfl 0 (by decide) (hg _ wn_2_0) (fun _ h9 => h9) rfl dn_Grammar_assignment_40 ?_
    obtain ⟨q_1, hc_2, hf⟩ := dc_b hf
    refine dc_callv (dc_runV (ar := 0) (As := []) (rest := []) (ci := 2) (q0 := 1) ⟨hx, hb, hml, hown, hg⟩ hK hN hT hS hA (ct_Tokens_take_Tk l dC dI cI cB cJ cZ cQ N H.size a v s q_1 hc_2) hP hD rfl rfl wn_4_213 wn_4_149 wn_4_150 wn_1_2 wn_4_151 rfl rfl (by decide +kernel) ⟨Nat.le_of_ble_eq_true rfl, Nat.le_of_ble_eq_true rfl⟩ rfl hl.1 rfl (Nat.le_of_ble_eq_true rfl) dn_Grammar_assignment_43 ⟨Nat.le_of_ble_eq_true rfl, Nat.le_of_ble_eq_true rfl⟩) hP hD hS hA (fun _ H locs hw hP hD hS => ?_)
    refine lv_aload_n hx hb dn_Grammar_assignment_46 rfl (lv_at hl 0 rfl) ?_
    refine lv_aload_n hx hb dn_Grammar_assignment_47 rfl (lv_at hl 0 rfl) ?_
    refine va_get (D := (dC, dI)) (ci := 6) (v := .ref ((a 101))) (C := rn_Grammar) (T := fn_Grammar) (N := 15) hx hb hg in_Grammar hown hK hP 5 rfl rfl 0 (by decide) (hg _ wn_2_0) (fun _ h9 => h9) rfl dn_Grammar_assignment_48 ?_
    refine va_get (D := (dC, dI)) (ci := 2) (v := .int ((q_1.2.1 215 0))) (C := rn_Tokens) (T := fn_Tokens) (N := 9) hx hb hg in_Tokens hown hK hP 1 rfl rfl 4 (by decide) (hg _ wn_1_52) (fun _ h9 => h9) rfl dn_Grammar_assignment_51 ?_
    refine va_put (D := (dC, dI)) (ci := 6) (v := .int ((q_1.2.1 215 0))) (ty := .int) (C := rn_Grammar) (T := fn_Grammar) (N := 15) hx hb hg in_Grammar tn_Grammar tk_Grammar nn_Grammar hown hK hP hD hS 5 rfl rfl 5 (by decide) (hg _ wn_2_5) (fun _ h9 => h9) rfl (tk_Grammar 5 (by decide)) rfl rfl (Nat.le_of_ble_eq_true rfl) dn_Grammar_assignment_54 (fun H locs hP hD hS => ?_)
    have hP := wC_P_266 hP
    have hD := wC_D_266 hD
    refine lv_aload_n hx hb dn_Grammar_assignment_57 rfl (lv_at hl 0 rfl) ?_
    refine va_get (D := (dC, dI)) (ci := 6) (v := .ref ((a 101))) (C := rn_Grammar) (T := fn_Grammar) (N := 15) hx hb hg in_Grammar hown hK hP 5 rfl rfl 0 (by decide) (hg _ wn_2_0) (fun _ h9 => h9) rfl dn_Grammar_assignment_58 ?_
    refine lv_bipush (v := 61) hx hb dn_Grammar_assignment_61 (by decide) ?_
    obtain ⟨q_3, hc_4, hf⟩ := dc_b hf
    refine dc_callv (dc_runV (ar := 1) (As := [.int 61]) (rest := []) (ci := 2) (q0 := 1) ⟨hx, hb, hml, hown, hg⟩ hK hN hT hS hA (ct_Tokens_need_Tk l dC dI cI cB cJ cZ cQ N H.size a v 61 (upI q_1.2 266 (fun _ => (q_1.2.1 215 0))) q_3 hc_4) hP hD rfl rfl wn_4_173 wn_4_174 wn_4_175 wn_1_2 wn_4_176 rfl rfl (by decide +kernel) ⟨Nat.le_of_ble_eq_true rfl, Nat.le_of_ble_eq_true rfl⟩ rfl hl.1 rfl (Nat.le_of_ble_eq_true rfl) dn_Grammar_assignment_63 ⟨Nat.le_of_ble_eq_true rfl, Nat.le_of_ble_eq_true rfl⟩) hP hD hS hA (fun _ H locs hw hP hD hS => ?_)
    refine lv_aload_n hx hb dn_Grammar_assignment_66 rfl (lv_at hl 0 rfl) ?_
    refine lv_sipush (v := 134) hx hb dn_Grammar_assignment_67 (by decide) ?_
    obtain ⟨q_5, hc_6, hf⟩ := dc_b hf
    refine dc_callv (dc_runV (ar := 1) (As := [.int 134]) (rest := []) (ci := 6) (q0 := 5) ⟨hx, hb, hml, hown, hg⟩ hK hN hT hS hA (ct_Grammar_expFor_Gr l dC dI cI cB cJ cZ cQ N H.size a v hv_3 134 q_3.2 q_5 hc_6) hP hD rfl rfl wn_5_46 wn_5_48 sn_Grammar_expFor wn_1_5 wn_5_49 rfl rfl (by decide +kernel) ⟨Nat.le_of_ble_eq_true rfl, Nat.le_of_ble_eq_true rfl⟩ rfl hl.1 rfl (Nat.le_of_ble_eq_true rfl) dn_Grammar_assignment_70 ⟨Nat.le_of_ble_eq_true rfl, Nat.le_of_ble_eq_true rfl⟩) hP hD hS hA (fun _ H locs hw hP hD hS => ?_)
    rw [hQQ, ← Option.some.inj hf]
    exact xk_vret (w1 := fun u : Unit => (wC a v cI cB cJ cZ cQ q_5.2)) () hx hb hr hlocks hK hS dn_Grammar_assignment_73 hP hD trivial (Nat.le_refl _) (Nat.le_refl _)
  intro H locs ls hP hD hS hl
  unfold fn_Grammar_assignment_Gr at hf
  refine lv_aload_n hx hb dn_Grammar_assignment_0 rfl (lv_at hl 0 rfl) ?_
  refine va_get (D := (dC, dI)) (ci := 6) (v := .ref ((a 101))) (C := rn_Grammar) (T := fn_Grammar) (N := 15) hx hb hg in_Grammar hown hK hP 5 rfl rfl 0 (by decide) (hg _ wn_2_0) (fun _ h9 => h9) rfl dn_Grammar_assignment_1 ?_
  obtain ⟨q_1, hc_2, hf⟩ := dc_b hf
  refine dc_callv (dc_runV (ar := 0) (As := []) (rest := []) (ci := 2) (q0 := 1) ⟨hx, hb, hml, hown, hg⟩ hK hN hT hS hA (ct_Tokens_take_Tk l dC dI cI cB cJ cZ cQ N H.size a v s q_1 hc_2) hP hD rfl rfl wn_4_213 wn_4_149 wn_4_150 wn_1_2 wn_4_151 rfl rfl (by decide +kernel) ⟨Nat.le_of_ble_eq_true rfl, Nat.le_of_ble_eq_true rfl⟩ rfl hl.1 rfl (Nat.le_of_ble_eq_true rfl) dn_Grammar_assignment_4 ⟨Nat.le_of_ble_eq_true rfl, Nat.le_of_ble_eq_true rfl⟩) hP hD hS hA (fun _ H locs hw hP hD hS => ?_)
  refine lv_aload_n hx hb dn_Grammar_assignment_7 rfl (lv_at hl 0 rfl) ?_
  refine va_get (D := (dC, dI)) (ci := 6) (v := .ref ((a 101))) (C := rn_Grammar) (T := fn_Grammar) (N := 15) hx hb hg in_Grammar hown hK hP 5 rfl rfl 0 (by decide) (hg _ wn_2_0) (fun _ h9 => h9) rfl dn_Grammar_assignment_8 ?_
  refine lv_iconst (v := 2) hx hb dn_Grammar_assignment_11 (by decide) ?_
  obtain ⟨q_3, hc_4, hf⟩ := dc_b hf
  refine dc_calli (dc_runV (ar := 1) (As := [.int 2]) (rest := []) (ci := 2) (q0 := 1) ⟨hx, hb, hml, hown, hg⟩ hK hN hT hS hA (ct_Tokens_due_Tk l dC dI cI cB cJ cZ cQ N H.size a v 2 q_1.2 q_3 hc_4) hP hD rfl rfl wn_4_185 wn_4_186 wn_4_187 wn_1_2 wn_4_188 rfl rfl (by decide +kernel) ⟨Nat.le_of_ble_eq_true rfl, Nat.le_of_ble_eq_true rfl⟩ rfl hl.1 rfl (Nat.le_of_ble_eq_true rfl) dn_Grammar_assignment_12 ⟨Nat.le_of_ble_eq_true rfl, Nat.le_of_ble_eq_true rfl⟩) hP hD hS hA (fun r_5 _ H locs hw hP hD hS => ?_)
  have hw : r_5 = q_3.1 := hw
  subst hw
  refine lv_if_eq (tgt := 39) hx hb dn_Grammar_assignment_15 (by decide) (fun h => ?_) (fun h => ?_)
  · have hf := (if_pos h).symm.trans hf
    exact bl_39 q_3.2 hf H locs ls hP hD hS hl
  · have hf := (if_neg h).symm.trans hf
    refine lv_aload_n hx hb dn_Grammar_assignment_18 rfl (lv_at hl 0 rfl) ?_
    refine va_get (D := (dC, dI)) (ci := 6) (v := .ref ((a 104))) (C := rn_Grammar) (T := fn_Grammar) (N := 15) hx hb hg in_Grammar hown hK hP 5 rfl rfl 2 (by decide) (hg _ wn_2_2) (fun _ h9 => h9) rfl dn_Grammar_assignment_19 ?_
    refine lv_aload_n hx hb dn_Grammar_assignment_22 rfl (lv_at hl 0 rfl) ?_
    refine va_get (D := (dC, dI)) (ci := 6) (v := .ref ((a 101))) (C := rn_Grammar) (T := fn_Grammar) (N := 15) hx hb hg in_Grammar hown hK hP 5 rfl rfl 0 (by decide) (hg _ wn_2_0) (fun _ h9 => h9) rfl dn_Grammar_assignment_23 ?_
    refine va_get (D := (dC, dI)) (ci := 2) (v := .int ((q_3.2.1 216 0))) (C := rn_Tokens) (T := fn_Tokens) (N := 9) hx hb hg in_Tokens hown hK hP 1 rfl rfl 5 (by decide) (hg _ wn_1_54) (fun _ h9 => h9) rfl dn_Grammar_assignment_26 ?_
    refine lv_aload_n hx hb dn_Grammar_assignment_29 rfl (lv_at hl 0 rfl) ?_
    refine va_get (D := (dC, dI)) (ci := 6) (v := .ref ((a 101))) (C := rn_Grammar) (T := fn_Grammar) (N := 15) hx hb hg in_Grammar hown hK hP 5 rfl rfl 0 (by decide) (hg _ wn_2_0) (fun _ h9 => h9) rfl dn_Grammar_assignment_30 ?_
    refine va_get (D := (dC, dI)) (ci := 2) (v := .int ((q_3.2.1 215 0))) (C := rn_Tokens) (T := fn_Tokens) (N := 9) hx hb hg in_Tokens hown hK hP 1 rfl rfl 4 (by decide) (hg _ wn_1_52) (fun _ h9 => h9) rfl dn_Grammar_assignment_33 ?_
    obtain ⟨q_6, hc_7, hf⟩ := dc_b hf
    refine dc_callv (dc_runV (ar := 2) (As := [.int ((q_3.2.1 216 0)), .int ((q_3.2.1 215 0))]) (rest := []) (ci := 5) (q0 := 4) ⟨hx, hb, hml, hown, hg⟩ hK hN hT hS hA (ct_Meaning_assignTo_Me l dC dI cI cB cJ cZ cQ N H.size a v hv_2 hv_5 hv_6 ((q_3.2.1 216 0)) ((q_3.2.1 215 0)) q_3.2 q_6 hc_7) hP hD rfl rfl wn_5_38 wn_5_39 wn_5_40 wn_1_6 wn_5_41 rfl rfl (by decide +kernel) ⟨Nat.le_of_ble_eq_true rfl, Nat.le_of_ble_eq_true rfl⟩ rfl hl.1 rfl (Nat.le_of_ble_eq_true rfl) dn_Grammar_assignment_36 ⟨Nat.le_of_ble_eq_true rfl, Nat.le_of_ble_eq_true rfl⟩) hP hD hS hA (fun _ H locs hw hP hD hS => ?_)
    exact bl_39 q_6.2 hf H locs ls hP hD hS hl
def fn_Meaning_always_Me (N : Nat) (s : ms) : Option (Unit × ms) :=
  (fn_Checker_isOff_Ch N s).bind (fun q_1 => if q_1.1 = 0 then (some ((), upI (upI (upI q_1.2 253 (fun _ => ((q_1.2.1 253 0) + 1))) 254 (fun _ => (q_1.2.1 337 0))) 255 (fun _ => 0))) else (some ((), q_1.2)))
set_option maxHeartbeats 8000000 in
set_option maxRecDepth 100000 in
theorem ct_Meaning_always_Me (l : Launch) (dC : Nat → ClassId) (dI : Nat → Nat → Nat) (cI cB cJ cZ cQ : ClassId) (N sz : Nat) (a : Nat → Nat) (v : Nat → Value) (hv_6 : v 6 = .ref (a 111)) (s : ms) (y : (Unit × ms)) (hf : fn_Meaning_always_Me N s = some y) : Met l yn_Meaning_always (xw yn_Meaning_always bn_Meaning_always 1 none) ({ frames := 1, cells := 0, slots := 0, locals := 20 }) (dc_P (dC, dI) xcl (xt cI cB cJ cZ cQ) [.ref ((a 104))] sz (wC a v cI cB cJ cZ cQ s)) (xk_Qv (dC, dI) xcl (xt cI cB cJ cZ cQ) (fun _ : Unit => True) (fun u : Unit => (wC a v cI cB cJ cZ cQ y.2)) (va_A (wC a v cI cB cJ cZ cQ s) sz)) 0 0 (va_A (wC a v cI cB cJ cZ cQ s) sz) := by
  refine dc_of (QA := xk_Qv (dC, dI) xcl (xt cI cB cJ cZ cQ) (fun _ : Unit => True) (fun u : Unit => (wC a v cI cB cJ cZ cQ y.2))) (by decide) (Nat.le_of_ble_eq_true rfl) ?_
  intro p e s0 m below meth c hx hb hml hown hg hr hlocks hin hP hK hN A hA hD hT ls hl
  have hown : s0.vm.findClass rn_Meaning = some m.cls := hown
  obtain ⟨H, hH⟩ : ∃ z, z = s0.heap := ⟨_, rfl⟩
  rw [← hH] at hP
  have hS : va_S A s0.heap H [] := by rw [hH]; exact va_S.rf
  suffices kk : ∀ QQ : State → Prop, QQ = MQ below (xk_Qv (dC, dI) xcl (xt cI cB cJ cZ cQ) (fun _ : Unit => True) (fun u : Unit => (wC a v cI cB cJ cZ cQ y.2)) A) [.ref ((a 104))].toArray s0 0 0 A → dcC p l e ({ frames := 1, cells := 0, slots := 0, locals := 20 }) s0 m [.ref ((a 104))].toArray below meth c QQ (dC, dI) A (wC a v cI cB cJ cZ cQ s) 0 1 [(0, .ref ((a 104)))] [] by
    have k9 := kk _ rfl H [] ls hP hD hS hl
    rw [hH] at k9; exact k9
  clear hP hD hS hl hH H ls
  intro QQ hQQ
  intro H locs ls hP hD hS hl
  unfold fn_Meaning_always_Me at hf
  refine lv_aload_n hx hb dn_Meaning_always_0 rfl (lv_at hl 0 rfl) ?_
  refine va_get (D := (dC, dI)) (ci := 5) (v := .ref ((a 103))) (C := rn_Meaning) (T := fn_Meaning) (N := 17) hx hb hg in_Meaning hown hK hP 4 rfl rfl 0 (by decide) (hg _ wn_1_184) (fun _ h9 => h9) rfl dn_Meaning_always_1 ?_
  obtain ⟨q_1, hc_2, hf⟩ := dc_b hf
  refine dc_calli (dc_runV (ar := 0) (As := []) (rest := []) (ci := 4) (q0 := 3) ⟨hx, hb, hml, hown, hg⟩ hK hN hT hS hA (ct_Checker_isOff_Ch l dC dI cI cB cJ cZ cQ N H.size a v s q_1 hc_2) hP hD rfl rfl wn_4_193 wn_4_194 wn_4_195 wn_1_4 wn_4_196 rfl rfl (by decide +kernel) ⟨Nat.le_of_ble_eq_true rfl, Nat.le_of_ble_eq_true rfl⟩ rfl hl.1 rfl (Nat.le_of_ble_eq_true rfl) dn_Meaning_always_4 ⟨Nat.le_of_ble_eq_true rfl, Nat.le_of_ble_eq_true rfl⟩) hP hD hS hA (fun r_3 _ H locs hw hP hD hS => ?_)
  have hw : r_3 = q_1.1 := hw
  subst hw
  refine lv_if_eq (tgt := 11) hx hb dn_Meaning_always_7 (by decide) (fun h => ?_) (fun h => ?_)
  · have hf := (if_pos h).symm.trans hf
    refine lv_aload_n hx hb dn_Meaning_always_11 rfl (lv_at hl 0 rfl) ?_
    refine lv_dup hx hb dn_Meaning_always_12 rfl ?_
    refine va_get (D := (dC, dI)) (ci := 5) (v := .int ((q_1.2.1 253 0))) (C := rn_Meaning) (T := fn_Meaning) (N := 17) hx hb hg in_Meaning hown hK hP 4 rfl rfl 9 (by decide) (hg _ wn_1_193) (fun _ h9 => h9) rfl dn_Meaning_always_13 ?_
    refine lv_iconst (v := 1) hx hb dn_Meaning_always_16 (by decide) ?_
    refine lv_iadd hx hb dn_Meaning_always_17 ?_
    refine va_put (D := (dC, dI)) (ci := 5) (v := .int (((q_1.2.1 253 0) + 1))) (ty := .int) (C := rn_Meaning) (T := fn_Meaning) (N := 17) hx hb hg in_Meaning tn_Meaning tk_Meaning nn_Meaning hown hK hP hD hS 4 rfl rfl 9 (by decide) (hg _ wn_1_193) (fun _ h9 => h9) rfl (tk_Meaning 9 (by decide)) rfl rfl (Nat.le_of_ble_eq_true rfl) dn_Meaning_always_18 (fun H locs hP hD hS => ?_)
    have hP := wC_P_253 hP
    have hD := wC_D_253 hD
    refine lv_aload_n hx hb dn_Meaning_always_21 rfl (lv_at hl 0 rfl) ?_
    refine lv_aload_n hx hb dn_Meaning_always_22 rfl (lv_at hl 0 rfl) ?_
    refine va_get (D := (dC, dI)) (ci := 5) (v := .ref ((a 111))) (C := rn_Meaning) (T := fn_Meaning) (N := 17) hx hb hg in_Meaning hown hK hP 4 rfl rfl 3 (by decide) (hg _ wn_1_187) (fun _ h9 => h9) (congrArg some hv_6) dn_Meaning_always_23 ?_
    refine va_get (D := (dC, dI)) (ci := 12) (v := .int ((q_1.2.1 337 0))) (C := rn_Code) (T := fn_Code) (N := 5) hx hb hg in_Code hown hK hP 11 rfl rfl 1 (by decide) (hg _ wn_2_214) (fun _ h9 => h9) rfl dn_Meaning_always_26 ?_
    refine va_put (D := (dC, dI)) (ci := 5) (v := .int ((q_1.2.1 337 0))) (ty := .int) (C := rn_Meaning) (T := fn_Meaning) (N := 17) hx hb hg in_Meaning tn_Meaning tk_Meaning nn_Meaning hown hK hP hD hS 4 rfl rfl 10 (by decide) (hg _ wn_1_194) (fun _ h9 => h9) rfl (tk_Meaning 10 (by decide)) rfl rfl (Nat.le_of_ble_eq_true rfl) dn_Meaning_always_29 (fun H locs hP hD hS => ?_)
    have hP := wC_P_254 hP
    have hD := wC_D_254 hD
    refine lv_aload_n hx hb dn_Meaning_always_32 rfl (lv_at hl 0 rfl) ?_
    refine lv_iconst (v := 0) hx hb dn_Meaning_always_33 (by decide) ?_
    refine va_put (D := (dC, dI)) (ci := 5) (v := .int 0) (ty := .boolean) (C := rn_Meaning) (T := fn_Meaning) (N := 17) hx hb hg in_Meaning tn_Meaning tk_Meaning nn_Meaning hown hK hP hD hS 4 rfl rfl 11 (by decide) (hg _ wn_1_195) (fun _ h9 => h9) rfl (tk_Meaning 11 (by decide)) rfl rfl (Nat.le_of_ble_eq_true rfl) dn_Meaning_always_34 (fun H locs hP hD hS => ?_)
    have hP := wC_P_255 hP
    have hD := wC_D_255 hD
    rw [hQQ, ← Option.some.inj hf]
    exact xk_vret (w1 := fun u : Unit => (wC a v cI cB cJ cZ cQ (upI (upI (upI q_1.2 253 (fun _ => ((q_1.2.1 253 0) + 1))) 254 (fun _ => (q_1.2.1 337 0))) 255 (fun _ => 0)))) () hx hb hr hlocks hK hS dn_Meaning_always_37 hP hD trivial (Nat.le_refl _) (Nat.le_refl _)
  · have hf := (if_neg h).symm.trans hf
    rw [hQQ, ← Option.some.inj hf]
    exact xk_vret (w1 := fun u : Unit => (wC a v cI cB cJ cZ cQ q_1.2)) () hx hb hr hlocks hK hS dn_Meaning_always_10 hP hD trivial (Nat.le_refl _) (Nat.le_refl _)
def fn_Grammar_always_Gr (N : Nat) (s : ms) : Option (Unit × ms) :=
  (fn_Tokens_take_Tk N s).bind (fun q_1 => (fn_Tokens_need_Tk N 64 q_1.2).bind (fun q_3 => (fn_Tokens_open_Tk N 40 q_3.2).bind (fun q_5 => (fn_Tokens_need_Tk N 136 q_5.2).bind (fun q_7 => (fn_Tokens_need_Tk N 137 q_7.2).bind (fun q_9 => (fn_Tokens_shut_Tk N 41 q_9.2).bind (fun q_11 => (fn_Meaning_always_Me N q_11.2).bind (fun q_13 => some ((), upI q_13.2 264 (fun _ => 4)))))))))
set_option maxHeartbeats 8000000 in
set_option maxRecDepth 100000 in
theorem ct_Grammar_always_Gr (l : Launch) (dC : Nat → ClassId) (dI : Nat → Nat → Nat) (cI cB cJ cZ cQ : ClassId) (N sz : Nat) (a : Nat → Nat) (v : Nat → Value) (hv_6 : v 6 = .ref (a 111)) (s : ms) (y : (Unit × ms)) (hf : fn_Grammar_always_Gr N s = some y) : Met l yn_Grammar_always (xw yn_Grammar_always bn_Grammar_always 1 none) ({ frames := 3, cells := 0, slots := 0, locals := 62 }) (dc_P (dC, dI) xcl (xt cI cB cJ cZ cQ) [.ref ((a 105))] sz (wC a v cI cB cJ cZ cQ s)) (xk_Qv (dC, dI) xcl (xt cI cB cJ cZ cQ) (fun _ : Unit => True) (fun u : Unit => (wC a v cI cB cJ cZ cQ y.2)) (va_A (wC a v cI cB cJ cZ cQ s) sz)) 0 0 (va_A (wC a v cI cB cJ cZ cQ s) sz) := by
  refine dc_of (QA := xk_Qv (dC, dI) xcl (xt cI cB cJ cZ cQ) (fun _ : Unit => True) (fun u : Unit => (wC a v cI cB cJ cZ cQ y.2))) (by decide) (Nat.le_of_ble_eq_true rfl) ?_
  intro p e s0 m below meth c hx hb hml hown hg hr hlocks hin hP hK hN A hA hD hT ls hl
  have hown : s0.vm.findClass rn_Grammar = some m.cls := hown
  obtain ⟨H, hH⟩ : ∃ z, z = s0.heap := ⟨_, rfl⟩
  rw [← hH] at hP
  have hS : va_S A s0.heap H [] := by rw [hH]; exact va_S.rf
  suffices kk : ∀ QQ : State → Prop, QQ = MQ below (xk_Qv (dC, dI) xcl (xt cI cB cJ cZ cQ) (fun _ : Unit => True) (fun u : Unit => (wC a v cI cB cJ cZ cQ y.2)) A) [.ref ((a 105))].toArray s0 0 0 A → dcC p l e ({ frames := 3, cells := 0, slots := 0, locals := 62 }) s0 m [.ref ((a 105))].toArray below meth c QQ (dC, dI) A (wC a v cI cB cJ cZ cQ s) 0 1 [(0, .ref ((a 105)))] [] by
    have k9 := kk _ rfl H [] ls hP hD hS hl
    rw [hH] at k9; exact k9
  clear hP hD hS hl hH H ls
  intro QQ hQQ
  intro H locs ls hP hD hS hl
  unfold fn_Grammar_always_Gr at hf
  refine lv_aload_n hx hb dn_Grammar_always_0 rfl (lv_at hl 0 rfl) ?_
  refine va_get (D := (dC, dI)) (ci := 6) (v := .ref ((a 101))) (C := rn_Grammar) (T := fn_Grammar) (N := 15) hx hb hg in_Grammar hown hK hP 5 rfl rfl 0 (by decide) (hg _ wn_2_0) (fun _ h9 => h9) rfl dn_Grammar_always_1 ?_
  obtain ⟨q_1, hc_2, hf⟩ := dc_b hf
  refine dc_callv (dc_runV (ar := 0) (As := []) (rest := []) (ci := 2) (q0 := 1) ⟨hx, hb, hml, hown, hg⟩ hK hN hT hS hA (ct_Tokens_take_Tk l dC dI cI cB cJ cZ cQ N H.size a v s q_1 hc_2) hP hD rfl rfl wn_4_213 wn_4_149 wn_4_150 wn_1_2 wn_4_151 rfl rfl (by decide +kernel) ⟨Nat.le_of_ble_eq_true rfl, Nat.le_of_ble_eq_true rfl⟩ rfl hl.1 rfl (Nat.le_of_ble_eq_true rfl) dn_Grammar_always_4 ⟨Nat.le_of_ble_eq_true rfl, Nat.le_of_ble_eq_true rfl⟩) hP hD hS hA (fun _ H locs hw hP hD hS => ?_)
  refine lv_aload_n hx hb dn_Grammar_always_7 rfl (lv_at hl 0 rfl) ?_
  refine va_get (D := (dC, dI)) (ci := 6) (v := .ref ((a 101))) (C := rn_Grammar) (T := fn_Grammar) (N := 15) hx hb hg in_Grammar hown hK hP 5 rfl rfl 0 (by decide) (hg _ wn_2_0) (fun _ h9 => h9) rfl dn_Grammar_always_8 ?_
  refine lv_bipush (v := 64) hx hb dn_Grammar_always_11 (by decide) ?_
  obtain ⟨q_3, hc_4, hf⟩ := dc_b hf
  refine dc_callv (dc_runV (ar := 1) (As := [.int 64]) (rest := []) (ci := 2) (q0 := 1) ⟨hx, hb, hml, hown, hg⟩ hK hN hT hS hA (ct_Tokens_need_Tk l dC dI cI cB cJ cZ cQ N H.size a v 64 q_1.2 q_3 hc_4) hP hD rfl rfl wn_4_173 wn_4_174 wn_4_175 wn_1_2 wn_4_176 rfl rfl (by decide +kernel) ⟨Nat.le_of_ble_eq_true rfl, Nat.le_of_ble_eq_true rfl⟩ rfl hl.1 rfl (Nat.le_of_ble_eq_true rfl) dn_Grammar_always_13 ⟨Nat.le_of_ble_eq_true rfl, Nat.le_of_ble_eq_true rfl⟩) hP hD hS hA (fun _ H locs hw hP hD hS => ?_)
  refine lv_aload_n hx hb dn_Grammar_always_16 rfl (lv_at hl 0 rfl) ?_
  refine va_get (D := (dC, dI)) (ci := 6) (v := .ref ((a 101))) (C := rn_Grammar) (T := fn_Grammar) (N := 15) hx hb hg in_Grammar hown hK hP 5 rfl rfl 0 (by decide) (hg _ wn_2_0) (fun _ h9 => h9) rfl dn_Grammar_always_17 ?_
  refine lv_bipush (v := 40) hx hb dn_Grammar_always_20 (by decide) ?_
  obtain ⟨q_5, hc_6, hf⟩ := dc_b hf
  refine dc_callv (dc_runV (ar := 1) (As := [.int 40]) (rest := []) (ci := 2) (q0 := 1) ⟨hx, hb, hml, hown, hg⟩ hK hN hT hS hA (ct_Tokens_open_Tk l dC dI cI cB cJ cZ cQ N H.size a v 40 q_3.2 q_5 hc_6) hP hD rfl rfl wn_4_214 wn_4_215 wn_4_216 wn_1_2 wn_4_217 rfl rfl (by decide +kernel) ⟨Nat.le_of_ble_eq_true rfl, Nat.le_of_ble_eq_true rfl⟩ rfl hl.1 rfl (Nat.le_of_ble_eq_true rfl) dn_Grammar_always_22 ⟨Nat.le_of_ble_eq_true rfl, Nat.le_of_ble_eq_true rfl⟩) hP hD hS hA (fun _ H locs hw hP hD hS => ?_)
  refine lv_aload_n hx hb dn_Grammar_always_25 rfl (lv_at hl 0 rfl) ?_
  refine va_get (D := (dC, dI)) (ci := 6) (v := .ref ((a 101))) (C := rn_Grammar) (T := fn_Grammar) (N := 15) hx hb hg in_Grammar hown hK hP 5 rfl rfl 0 (by decide) (hg _ wn_2_0) (fun _ h9 => h9) rfl dn_Grammar_always_26 ?_
  refine lv_sipush (v := 136) hx hb dn_Grammar_always_29 (by decide) ?_
  obtain ⟨q_7, hc_8, hf⟩ := dc_b hf
  refine dc_callv (dc_runV (ar := 1) (As := [.int 136]) (rest := []) (ci := 2) (q0 := 1) ⟨hx, hb, hml, hown, hg⟩ hK hN hT hS hA (ct_Tokens_need_Tk l dC dI cI cB cJ cZ cQ N H.size a v 136 q_5.2 q_7 hc_8) hP hD rfl rfl wn_4_173 wn_4_174 wn_4_175 wn_1_2 wn_4_176 rfl rfl (by decide +kernel) ⟨Nat.le_of_ble_eq_true rfl, Nat.le_of_ble_eq_true rfl⟩ rfl hl.1 rfl (Nat.le_of_ble_eq_true rfl) dn_Grammar_always_32 ⟨Nat.le_of_ble_eq_true rfl, Nat.le_of_ble_eq_true rfl⟩) hP hD hS hA (fun _ H locs hw hP hD hS => ?_)
  refine lv_aload_n hx hb dn_Grammar_always_35 rfl (lv_at hl 0 rfl) ?_
  refine va_get (D := (dC, dI)) (ci := 6) (v := .ref ((a 101))) (C := rn_Grammar) (T := fn_Grammar) (N := 15) hx hb hg in_Grammar hown hK hP 5 rfl rfl 0 (by decide) (hg _ wn_2_0) (fun _ h9 => h9) rfl dn_Grammar_always_36 ?_
  refine lv_sipush (v := 137) hx hb dn_Grammar_always_39 (by decide) ?_
  obtain ⟨q_9, hc_10, hf⟩ := dc_b hf
  refine dc_callv (dc_runV (ar := 1) (As := [.int 137]) (rest := []) (ci := 2) (q0 := 1) ⟨hx, hb, hml, hown, hg⟩ hK hN hT hS hA (ct_Tokens_need_Tk l dC dI cI cB cJ cZ cQ N H.size a v 137 q_7.2 q_9 hc_10) hP hD rfl rfl wn_4_173 wn_4_174 wn_4_175 wn_1_2 wn_4_176 rfl rfl (by decide +kernel) ⟨Nat.le_of_ble_eq_true rfl, Nat.le_of_ble_eq_true rfl⟩ rfl hl.1 rfl (Nat.le_of_ble_eq_true rfl) dn_Grammar_always_42 ⟨Nat.le_of_ble_eq_true rfl, Nat.le_of_ble_eq_true rfl⟩) hP hD hS hA (fun _ H locs hw hP hD hS => ?_)
  refine lv_aload_n hx hb dn_Grammar_always_45 rfl (lv_at hl 0 rfl) ?_
  refine va_get (D := (dC, dI)) (ci := 6) (v := .ref ((a 101))) (C := rn_Grammar) (T := fn_Grammar) (N := 15) hx hb hg in_Grammar hown hK hP 5 rfl rfl 0 (by decide) (hg _ wn_2_0) (fun _ h9 => h9) rfl dn_Grammar_always_46 ?_
  refine lv_bipush (v := 41) hx hb dn_Grammar_always_49 (by decide) ?_
  obtain ⟨q_11, hc_12, hf⟩ := dc_b hf
  refine dc_callv (dc_runV (ar := 1) (As := [.int 41]) (rest := []) (ci := 2) (q0 := 1) ⟨hx, hb, hml, hown, hg⟩ hK hN hT hS hA (ct_Tokens_shut_Tk l dC dI cI cB cJ cZ cQ N H.size a v 41 q_9.2 q_11 hc_12) hP hD rfl rfl wn_4_226 wn_4_227 wn_4_228 wn_1_2 wn_4_229 rfl rfl (by decide +kernel) ⟨Nat.le_of_ble_eq_true rfl, Nat.le_of_ble_eq_true rfl⟩ rfl hl.1 rfl (Nat.le_of_ble_eq_true rfl) dn_Grammar_always_51 ⟨Nat.le_of_ble_eq_true rfl, Nat.le_of_ble_eq_true rfl⟩) hP hD hS hA (fun _ H locs hw hP hD hS => ?_)
  refine lv_aload_n hx hb dn_Grammar_always_54 rfl (lv_at hl 0 rfl) ?_
  refine va_get (D := (dC, dI)) (ci := 6) (v := .ref ((a 104))) (C := rn_Grammar) (T := fn_Grammar) (N := 15) hx hb hg in_Grammar hown hK hP 5 rfl rfl 2 (by decide) (hg _ wn_2_2) (fun _ h9 => h9) rfl dn_Grammar_always_55 ?_
  obtain ⟨q_13, hc_14, hf⟩ := dc_b hf
  refine dc_callv (dc_runV (ar := 0) (As := []) (rest := []) (ci := 5) (q0 := 4) ⟨hx, hb, hml, hown, hg⟩ hK hN hT hS hA (ct_Meaning_always_Me l dC dI cI cB cJ cZ cQ N H.size a v hv_6 q_11.2 q_13 hc_14) hP hD rfl rfl wn_5_59 wn_5_60 wn_5_61 wn_1_6 wn_5_62 rfl rfl (by decide +kernel) ⟨Nat.le_of_ble_eq_true rfl, Nat.le_of_ble_eq_true rfl⟩ rfl hl.1 rfl (Nat.le_of_ble_eq_true rfl) dn_Grammar_always_58 ⟨Nat.le_of_ble_eq_true rfl, Nat.le_of_ble_eq_true rfl⟩) hP hD hS hA (fun _ H locs hw hP hD hS => ?_)
  refine lv_aload_n hx hb dn_Grammar_always_61 rfl (lv_at hl 0 rfl) ?_
  refine lv_iconst (v := 4) hx hb dn_Grammar_always_62 (by decide) ?_
  refine va_put (D := (dC, dI)) (ci := 6) (v := .int 4) (ty := .int) (C := rn_Grammar) (T := fn_Grammar) (N := 15) hx hb hg in_Grammar tn_Grammar tk_Grammar nn_Grammar hown hK hP hD hS 5 rfl rfl 3 (by decide) (hg _ wn_2_3) (fun _ h9 => h9) rfl (tk_Grammar 3 (by decide)) rfl rfl (Nat.le_of_ble_eq_true rfl) dn_Grammar_always_63 (fun H locs hP hD hS => ?_)
  have hP := wC_P_264 hP
  have hD := wC_D_264 hD
  rw [hQQ, ← Option.some.inj hf]
  exact xk_vret (w1 := fun u : Unit => (wC a v cI cB cJ cZ cQ (upI q_13.2 264 (fun _ => 4)))) () hx hb hr hlocks hK hS dn_Grammar_always_66 hP hD trivial (Nat.le_refl _) (Nat.le_refl _)
def fn_Parts_addChild_Pc (N : Nat) (v1 : Int32) (s : ms) : Option (Unit × ms) :=
  if (s.1 378 0) < 10923 then (if ((s.1 378 0) < 0 ∨ 10923 ≤ Int32.toNatClampNeg ((s.1 378 0))) then none else if ((s.1 378 0) < 0 ∨ 10923 ≤ Int32.toNatClampNeg ((s.1 378 0))) then none else if ((s.1 378 0) < 0 ∨ 10923 ≤ Int32.toNatClampNeg ((s.1 378 0))) then none else some ((), upI (upI (upI (upI s 379 (upd (s.1 379) (Int32.toNatClampNeg ((s.1 378 0))) v1)) 380 (upd (s.1 380) (Int32.toNatClampNeg ((s.1 378 0))) ((-1)))) 381 (upd (s.1 381) (Int32.toNatClampNeg ((s.1 378 0))) ((s.1 382 0)))) 378 (fun _ => ((s.1 378 0) + 1)))) else (some ((), s))
set_option maxHeartbeats 8000000 in
set_option maxRecDepth 100000 in
theorem ct_Parts_addChild_Pc (l : Launch) (dC : Nat → ClassId) (dI : Nat → Nat → Nat) (cI cB cJ cZ cQ : ClassId) (N sz : Nat) (a : Nat → Nat) (v : Nat → Value) (v1 : Int32) (s : ms) (y : (Unit × ms)) (hf : fn_Parts_addChild_Pc N v1 s = some y) : Met l yn_Parts_addChild (xw yn_Parts_addChild bn_Parts_addChild 2 none) ({ frames := 0, cells := 0, slots := 0, locals := 0 }) (dc_P (dC, dI) xcl (xt cI cB cJ cZ cQ) [.ref ((a 114)), .int v1] sz (wC a v cI cB cJ cZ cQ s)) (xk_Qv (dC, dI) xcl (xt cI cB cJ cZ cQ) (fun _ : Unit => True) (fun u : Unit => (wC a v cI cB cJ cZ cQ y.2)) (va_A (wC a v cI cB cJ cZ cQ s) sz)) 0 0 (va_A (wC a v cI cB cJ cZ cQ s) sz) := by
  refine dc_of (QA := xk_Qv (dC, dI) xcl (xt cI cB cJ cZ cQ) (fun _ : Unit => True) (fun u : Unit => (wC a v cI cB cJ cZ cQ y.2))) (by decide) (Nat.le_of_ble_eq_true rfl) ?_
  intro p e s0 m below meth c hx hb hml hown hg hr hlocks hin hP hK hN A hA hD hT ls hl
  have hown : s0.vm.findClass rn_Parts = some m.cls := hown
  obtain ⟨H, hH⟩ : ∃ z, z = s0.heap := ⟨_, rfl⟩
  rw [← hH] at hP
  have hS : va_S A s0.heap H [] := by rw [hH]; exact va_S.rf
  suffices kk : ∀ QQ : State → Prop, QQ = MQ below (xk_Qv (dC, dI) xcl (xt cI cB cJ cZ cQ) (fun _ : Unit => True) (fun u : Unit => (wC a v cI cB cJ cZ cQ y.2)) A) [.ref ((a 114)), .int v1].toArray s0 0 0 A → dcC p l e ({ frames := 0, cells := 0, slots := 0, locals := 0 }) s0 m [.ref ((a 114)), .int v1].toArray below meth c QQ (dC, dI) A (wC a v cI cB cJ cZ cQ s) 0 2 [(0, .ref ((a 114))), (1, .int v1)] [] by
    have k9 := kk _ rfl H [] ls hP hD hS hl
    rw [hH] at k9; exact k9
  clear hP hD hS hl hH H ls
  intro QQ hQQ
  intro H locs ls hP hD hS hl
  unfold fn_Parts_addChild_Pc at hf
  refine lv_aload_n hx hb dn_Parts_addChild_0 rfl (lv_at hl 0 rfl) ?_
  refine va_get (D := (dC, dI)) (ci := 11) (v := .int ((s.1 378 0))) (C := rn_Parts) (T := fn_Parts) (N := 15) hx hb hg in_Parts hown hK hP 14 rfl rfl 7 (by decide) (hg _ wn_2_149) (fun _ h9 => h9) rfl dn_Parts_addChild_1 ?_
  refine lv_sipush (v := 10923) hx hb dn_Parts_addChild_4 (by decide) ?_
  refine lv_icmp_lt (tgt := 11) hx hb dn_Parts_addChild_7 (by decide) (fun h => ?_) (fun h => ?_)
  · have hf := (if_pos h).symm.trans hf
    refine lv_aload_n hx hb dn_Parts_addChild_11 rfl (lv_at hl 0 rfl) ?_
    refine va_get (D := (dC, dI)) (ci := 11) (v := .ref ((a 379))) (C := rn_Parts) (T := fn_Parts) (N := 15) hx hb hg in_Parts hown hK hP 14 rfl rfl 8 (by decide) (hg _ wn_2_152) (fun _ h9 => h9) rfl dn_Parts_addChild_12 ?_
    refine lv_aload_n hx hb dn_Parts_addChild_15 rfl (lv_at hl 0 rfl) ?_
    refine va_get (D := (dC, dI)) (ci := 11) (v := .int ((s.1 378 0))) (C := rn_Parts) (T := fn_Parts) (N := 15) hx hb hg in_Parts hown hK hP 14 rfl rfl 7 (by decide) (hg _ wn_2_149) (fun _ h9 => h9) rfl dn_Parts_addChild_16 ?_
    refine lv_iload_n hx hb dn_Parts_addChild_19 rfl (lv_at hl 1 rfl) ?_
    obtain ⟨hg_1, hf⟩ := dc_g hf
    refine va_iast hx hb hK hP hD hS 101 0 rfl rfl hg_1 dn_Parts_addChild_20 (fun H locs hP hD hS => ?_)
    have hP : va_P (dC, dI) xcl ((wC a v cI cB cJ cZ cQ s).set 101 ((a 379), .inl (cI, 10923, .inl (upd (s.1 379) (Int32.toNatClampNeg ((s.1 378 0))) v1)))) H := hP
    have hD : va_D A ((wC a v cI cB cJ cZ cQ s).set 101 ((a 379), .inl (cI, 10923, .inl (upd (s.1 379) (Int32.toNatClampNeg ((s.1 378 0))) v1)))) := hD
    have hP := wC_P_379 hP
    have hD := wC_D_379 hD
    refine lv_aload_n hx hb dn_Parts_addChild_21 rfl (lv_at hl 0 rfl) ?_
    refine va_get (D := (dC, dI)) (ci := 11) (v := .ref ((a 380))) (C := rn_Parts) (T := fn_Parts) (N := 15) hx hb hg in_Parts hown hK hP 14 rfl rfl 9 (by decide) (hg _ wn_2_156) (fun _ h9 => h9) rfl dn_Parts_addChild_22 ?_
    refine lv_aload_n hx hb dn_Parts_addChild_25 rfl (lv_at hl 0 rfl) ?_
    refine va_get (D := (dC, dI)) (ci := 11) (v := .int ((s.1 378 0))) (C := rn_Parts) (T := fn_Parts) (N := 15) hx hb hg in_Parts hown hK hP 14 rfl rfl 7 (by decide) (hg _ wn_2_149) (fun _ h9 => h9) rfl dn_Parts_addChild_26 ?_
    refine lv_iconst (v := (-1)) hx hb dn_Parts_addChild_29 (by decide) ?_
    obtain ⟨hg_2, hf⟩ := dc_g hf
    refine va_iast hx hb hK hP hD hS 102 0 rfl rfl hg_2 dn_Parts_addChild_30 (fun H locs hP hD hS => ?_)
    have hP : va_P (dC, dI) xcl ((wC a v cI cB cJ cZ cQ (upI s 379 (upd (s.1 379) (Int32.toNatClampNeg ((s.1 378 0))) v1))).set 102 ((a 380), .inl (cI, 10923, .inl (upd (s.1 380) (Int32.toNatClampNeg ((s.1 378 0))) ((-1)))))) H := hP
    have hD : va_D A ((wC a v cI cB cJ cZ cQ (upI s 379 (upd (s.1 379) (Int32.toNatClampNeg ((s.1 378 0))) v1))).set 102 ((a 380), .inl (cI, 10923, .inl (upd (s.1 380) (Int32.toNatClampNeg ((s.1 378 0))) ((-1)))))) := hD
    have hP := wC_P_380 hP
    have hD := wC_D_380 hD
    refine lv_aload_n hx hb dn_Parts_addChild_31 rfl (lv_at hl 0 rfl) ?_
    refine va_get (D := (dC, dI)) (ci := 11) (v := .ref ((a 381))) (C := rn_Parts) (T := fn_Parts) (N := 15) hx hb hg in_Parts hown hK hP 14 rfl rfl 10 (by decide) (hg _ wn_2_159) (fun _ h9 => h9) rfl dn_Parts_addChild_32 ?_
    refine lv_aload_n hx hb dn_Parts_addChild_35 rfl (lv_at hl 0 rfl) ?_
    refine va_get (D := (dC, dI)) (ci := 11) (v := .int ((s.1 378 0))) (C := rn_Parts) (T := fn_Parts) (N := 15) hx hb hg in_Parts hown hK hP 14 rfl rfl 7 (by decide) (hg _ wn_2_149) (fun _ h9 => h9) rfl dn_Parts_addChild_36 ?_
    refine lv_aload_n hx hb dn_Parts_addChild_39 rfl (lv_at hl 0 rfl) ?_
    refine va_get (D := (dC, dI)) (ci := 11) (v := .int ((s.1 382 0))) (C := rn_Parts) (T := fn_Parts) (N := 15) hx hb hg in_Parts hown hK hP 14 rfl rfl 11 (by decide) (hg _ wn_2_162) (fun _ h9 => h9) rfl dn_Parts_addChild_40 ?_
    obtain ⟨hg_3, hf⟩ := dc_g hf
    refine va_iast hx hb hK hP hD hS 103 0 rfl rfl hg_3 dn_Parts_addChild_43 (fun H locs hP hD hS => ?_)
    have hP : va_P (dC, dI) xcl ((wC a v cI cB cJ cZ cQ (upI (upI s 379 (upd (s.1 379) (Int32.toNatClampNeg ((s.1 378 0))) v1)) 380 (upd (s.1 380) (Int32.toNatClampNeg ((s.1 378 0))) ((-1))))).set 103 ((a 381), .inl (cI, 10923, .inl (upd (s.1 381) (Int32.toNatClampNeg ((s.1 378 0))) ((s.1 382 0)))))) H := hP
    have hD : va_D A ((wC a v cI cB cJ cZ cQ (upI (upI s 379 (upd (s.1 379) (Int32.toNatClampNeg ((s.1 378 0))) v1)) 380 (upd (s.1 380) (Int32.toNatClampNeg ((s.1 378 0))) ((-1))))).set 103 ((a 381), .inl (cI, 10923, .inl (upd (s.1 381) (Int32.toNatClampNeg ((s.1 378 0))) ((s.1 382 0)))))) := hD
    have hP := wC_P_381 hP
    have hD := wC_D_381 hD
    refine lv_aload_n hx hb dn_Parts_addChild_44 rfl (lv_at hl 0 rfl) ?_
    refine lv_dup hx hb dn_Parts_addChild_45 rfl ?_
    refine va_get (D := (dC, dI)) (ci := 11) (v := .int ((s.1 378 0))) (C := rn_Parts) (T := fn_Parts) (N := 15) hx hb hg in_Parts hown hK hP 14 rfl rfl 7 (by decide) (hg _ wn_2_149) (fun _ h9 => h9) rfl dn_Parts_addChild_46 ?_
    refine lv_iconst (v := 1) hx hb dn_Parts_addChild_49 (by decide) ?_
    refine lv_iadd hx hb dn_Parts_addChild_50 ?_
    refine va_put (D := (dC, dI)) (ci := 11) (v := .int (((s.1 378 0) + 1))) (ty := .int) (C := rn_Parts) (T := fn_Parts) (N := 15) hx hb hg in_Parts tn_Parts tk_Parts nn_Parts hown hK hP hD hS 14 rfl rfl 7 (by decide) (hg _ wn_2_149) (fun _ h9 => h9) rfl (tk_Parts 7 (by decide)) rfl rfl (Nat.le_of_ble_eq_true rfl) dn_Parts_addChild_51 (fun H locs hP hD hS => ?_)
    have hP := wC_P_378 hP
    have hD := wC_D_378 hD
    rw [hQQ, ← Option.some.inj hf]
    exact xk_vret (w1 := fun u : Unit => (wC a v cI cB cJ cZ cQ (upI (upI (upI (upI s 379 (upd (s.1 379) (Int32.toNatClampNeg ((s.1 378 0))) v1)) 380 (upd (s.1 380) (Int32.toNatClampNeg ((s.1 378 0))) ((-1)))) 381 (upd (s.1 381) (Int32.toNatClampNeg ((s.1 378 0))) ((s.1 382 0)))) 378 (fun _ => ((s.1 378 0) + 1))))) () hx hb hr hlocks hK hS dn_Parts_addChild_54 hP hD trivial (Nat.le_refl _) (Nat.le_refl _)
  · have hf := (if_neg h).symm.trans hf
    rw [hQQ, ← Option.some.inj hf]
    exact xk_vret (w1 := fun u : Unit => (wC a v cI cB cJ cZ cQ s)) () hx hb hr hlocks hK hS dn_Parts_addChild_10 hP hD trivial (Nat.le_refl _) (Nat.le_refl _)
def fn_Design_isModule_Dc (N : Nat) (v1 : Int32) (s : ms) : Option (Int32 × ms) :=
  if v1 < 0 then (some (0, s)) else (if (s.1 359 0) ≤ v1 then (some (0, s)) else (some (1, s)))
set_option maxHeartbeats 8000000 in
set_option maxRecDepth 100000 in
theorem ct_Design_isModule_Dc (l : Launch) (dC : Nat → ClassId) (dI : Nat → Nat → Nat) (cI cB cJ cZ cQ : ClassId) (N sz : Nat) (a : Nat → Nat) (v : Nat → Value) (v1 : Int32) (s : ms) (y : (Int32 × ms)) (hf : fn_Design_isModule_Dc N v1 s = some y) : Met l yn_Design_isModule (xw yn_Design_isModule bn_Design_isModule 2 (some .boolean)) ({ frames := 0, cells := 0, slots := 0, locals := 0 }) (dc_P (dC, dI) xcl (xt cI cB cJ cZ cQ) [.ref ((a 113)), .int v1] sz (wC a v cI cB cJ cZ cQ s)) (xk_Qi (dC, dI) xcl (xt cI cB cJ cZ cQ) (fun (r : Int32) (_ : Unit) => r = y.1) (fun u : Unit => (wC a v cI cB cJ cZ cQ y.2)) (va_A (wC a v cI cB cJ cZ cQ s) sz)) 0 0 (va_A (wC a v cI cB cJ cZ cQ s) sz) := by
  refine dc_of (QA := xk_Qi (dC, dI) xcl (xt cI cB cJ cZ cQ) (fun (r : Int32) (_ : Unit) => r = y.1) (fun u : Unit => (wC a v cI cB cJ cZ cQ y.2))) (by decide) (Nat.le_of_ble_eq_true rfl) ?_
  intro p e s0 m below meth c hx hb hml hown hg hr hlocks hin hP hK hN A hA hD hT ls hl
  have hown : s0.vm.findClass rn_Design = some m.cls := hown
  obtain ⟨H, hH⟩ : ∃ z, z = s0.heap := ⟨_, rfl⟩
  rw [← hH] at hP
  have hS : va_S A s0.heap H [] := by rw [hH]; exact va_S.rf
  suffices kk : ∀ QQ : State → Prop, QQ = MQ below (xk_Qi (dC, dI) xcl (xt cI cB cJ cZ cQ) (fun (r : Int32) (_ : Unit) => r = y.1) (fun u : Unit => (wC a v cI cB cJ cZ cQ y.2)) A) [.ref ((a 113)), .int v1].toArray s0 0 0 A → dcC p l e ({ frames := 0, cells := 0, slots := 0, locals := 0 }) s0 m [.ref ((a 113)), .int v1].toArray below meth c QQ (dC, dI) A (wC a v cI cB cJ cZ cQ s) 0 2 [(0, .ref ((a 113))), (1, .int v1)] [] by
    have k9 := kk _ rfl H [] ls hP hD hS hl
    rw [hH] at k9; exact k9
  clear hP hD hS hl hH H ls
  intro QQ hQQ
  intro H locs ls hP hD hS hl
  unfold fn_Design_isModule_Dc at hf
  refine lv_iload_n hx hb dn_Design_isModule_0 rfl (lv_at hl 1 rfl) ?_
  refine lv_if_lt (tgt := 16) hx hb dn_Design_isModule_1 (by decide) (fun h => ?_) (fun h => ?_)
  · have hf := (if_pos h).symm.trans hf
    refine lv_iconst (v := 0) hx hb dn_Design_isModule_16 (by decide) ?_
    rw [hQQ, ← Option.some.inj hf]
    exact xk_zret (w1 := fun u : Unit => (wC a v cI cB cJ cZ cQ s)) () hx hb hr rfl hlocks hK hS dn_Design_isModule_17 hP hD rfl (Nat.le_refl _) (Nat.le_refl _)
  · have hf := (if_neg h).symm.trans hf
    refine lv_iload_n hx hb dn_Design_isModule_4 rfl (lv_at hl 1 rfl) ?_
    refine lv_aload_n hx hb dn_Design_isModule_5 rfl (lv_at hl 0 rfl) ?_
    refine va_get (D := (dC, dI)) (ci := 10) (v := .int ((s.1 359 0))) (C := rn_Design) (T := fn_Design) (N := 16) hx hb hg in_Design hown hK hP 13 rfl rfl 4 (by decide) (hg _ wn_3_10) (fun _ h9 => h9) rfl dn_Design_isModule_6 ?_
    refine lv_icmp_ge (tgt := 16) hx hb dn_Design_isModule_9 (by decide) (fun h => ?_) (fun h => ?_)
    · have hf := (if_pos h).symm.trans hf
      refine lv_iconst (v := 0) hx hb dn_Design_isModule_16 (by decide) ?_
      rw [hQQ, ← Option.some.inj hf]
      exact xk_zret (w1 := fun u : Unit => (wC a v cI cB cJ cZ cQ s)) () hx hb hr rfl hlocks hK hS dn_Design_isModule_17 hP hD rfl (Nat.le_refl _) (Nat.le_refl _)
    · have hf := (if_neg h).symm.trans hf
      refine lv_iconst (v := 1) hx hb dn_Design_isModule_12 (by decide) ?_
      refine lv_goto (tgt := 17) hx hb dn_Design_isModule_13 (by decide) ?_
      rw [hQQ, ← Option.some.inj hf]
      exact xk_zret (w1 := fun u : Unit => (wC a v cI cB cJ cZ cQ s)) () hx hb hr rfl hlocks hK hS dn_Design_isModule_17 hP hD rfl (Nat.le_refl _) (Nat.le_refl _)
def fn_Design_portCount_Dc (N : Nat) (v1 : Int32) (s : ms) : Option (Int32 × ms) :=
  (fn_Design_isModule_Dc N v1 s).bind (fun q_1 => if q_1.1 = 0 then (some (0, q_1.2)) else (if (v1 < 0 ∨ 3277 ≤ Int32.toNatClampNeg v1) then none else some (((q_1.2.1 363) (Int32.toNatClampNeg v1)), q_1.2)))
set_option maxHeartbeats 8000000 in
set_option maxRecDepth 100000 in
theorem ct_Design_portCount_Dc (l : Launch) (dC : Nat → ClassId) (dI : Nat → Nat → Nat) (cI cB cJ cZ cQ : ClassId) (N sz : Nat) (a : Nat → Nat) (v : Nat → Value) (v1 : Int32) (s : ms) (y : (Int32 × ms)) (hf : fn_Design_portCount_Dc N v1 s = some y) : Met l yn_Design_portCount (xw yn_Design_portCount bn_Design_portCount 2 (some .int)) ({ frames := 1, cells := 0, slots := 0, locals := 21 }) (dc_P (dC, dI) xcl (xt cI cB cJ cZ cQ) [.ref ((a 113)), .int v1] sz (wC a v cI cB cJ cZ cQ s)) (xk_Qi (dC, dI) xcl (xt cI cB cJ cZ cQ) (fun (r : Int32) (_ : Unit) => r = y.1) (fun u : Unit => (wC a v cI cB cJ cZ cQ y.2)) (va_A (wC a v cI cB cJ cZ cQ s) sz)) 0 0 (va_A (wC a v cI cB cJ cZ cQ s) sz) := by
  refine dc_of (QA := xk_Qi (dC, dI) xcl (xt cI cB cJ cZ cQ) (fun (r : Int32) (_ : Unit) => r = y.1) (fun u : Unit => (wC a v cI cB cJ cZ cQ y.2))) (by decide) (Nat.le_of_ble_eq_true rfl) ?_
  intro p e s0 m below meth c hx hb hml hown hg hr hlocks hin hP hK hN A hA hD hT ls hl
  have hown : s0.vm.findClass rn_Design = some m.cls := hown
  obtain ⟨H, hH⟩ : ∃ z, z = s0.heap := ⟨_, rfl⟩
  rw [← hH] at hP
  have hS : va_S A s0.heap H [] := by rw [hH]; exact va_S.rf
  suffices kk : ∀ QQ : State → Prop, QQ = MQ below (xk_Qi (dC, dI) xcl (xt cI cB cJ cZ cQ) (fun (r : Int32) (_ : Unit) => r = y.1) (fun u : Unit => (wC a v cI cB cJ cZ cQ y.2)) A) [.ref ((a 113)), .int v1].toArray s0 0 0 A → dcC p l e ({ frames := 1, cells := 0, slots := 0, locals := 21 }) s0 m [.ref ((a 113)), .int v1].toArray below meth c QQ (dC, dI) A (wC a v cI cB cJ cZ cQ s) 0 2 [(0, .ref ((a 113))), (1, .int v1)] [] by
    have k9 := kk _ rfl H [] ls hP hD hS hl
    rw [hH] at k9; exact k9
  clear hP hD hS hl hH H ls
  intro QQ hQQ
  intro H locs ls hP hD hS hl
  unfold fn_Design_portCount_Dc at hf
  refine lv_aload_n hx hb dn_Design_portCount_0 rfl (lv_at hl 0 rfl) ?_
  refine lv_iload_n hx hb dn_Design_portCount_1 rfl (lv_at hl 1 rfl) ?_
  obtain ⟨q_1, hc_2, hf⟩ := dc_b hf
  refine dc_calli (dc_runV (ar := 1) (As := [.int v1]) (rest := []) (ci := 10) (q0 := 13) ⟨hx, hb, hml, hown, hg⟩ hK hN hT hS hA (ct_Design_isModule_Dc l dC dI cI cB cJ cZ cQ N H.size a v v1 s q_1 hc_2) hP hD rfl rfl wn_5_91 wn_5_93 sn_Design_isModule wn_1_10 wn_5_94 rfl rfl (by decide +kernel) ⟨Nat.le_of_ble_eq_true rfl, Nat.le_of_ble_eq_true rfl⟩ rfl hl.1 rfl (Nat.le_of_ble_eq_true rfl) dn_Design_portCount_2 ⟨Nat.le_of_ble_eq_true rfl, Nat.le_of_ble_eq_true rfl⟩) hP hD hS hA (fun r_3 _ H locs hw hP hD hS => ?_)
  have hw : r_3 = q_1.1 := hw
  subst hw
  refine lv_if_eq (tgt := 17) hx hb dn_Design_portCount_5 (by decide) (fun h => ?_) (fun h => ?_)
  · have hf := (if_pos h).symm.trans hf
    refine lv_iconst (v := 0) hx hb dn_Design_portCount_17 (by decide) ?_
    rw [hQQ, ← Option.some.inj hf]
    exact xk_iret (w1 := fun u : Unit => (wC a v cI cB cJ cZ cQ q_1.2)) () hx hb hr hlocks hK hS dn_Design_portCount_18 hP hD rfl (Nat.le_refl _) (Nat.le_refl _)
  · have hf := (if_neg h).symm.trans hf
    refine lv_aload_n hx hb dn_Design_portCount_8 rfl (lv_at hl 0 rfl) ?_
    refine va_get (D := (dC, dI)) (ci := 10) (v := .ref ((a 363))) (C := rn_Design) (T := fn_Design) (N := 16) hx hb hg in_Design hown hK hP 13 rfl rfl 8 (by decide) (hg _ wn_3_17) (fun _ h9 => h9) rfl dn_Design_portCount_9 ?_
    refine lv_iload_n hx hb dn_Design_portCount_12 rfl (lv_at hl 1 rfl) ?_
    obtain ⟨hg_4, hf⟩ := dc_g hf
    refine va_iald hx hb hK hP 89 0 rfl rfl hg_4 dn_Design_portCount_13 ?_
    refine xk_ti (y := ((q_1.2.1 363) (Int32.toNatClampNeg v1))) rfl ?_
    refine lv_goto (tgt := 18) hx hb dn_Design_portCount_14 (by decide) ?_
    rw [hQQ, ← Option.some.inj hf]
    exact xk_iret (w1 := fun u : Unit => (wC a v cI cB cJ cZ cQ q_1.2)) () hx hb hr hlocks hK hS dn_Design_portCount_18 hP hD rfl (Nat.le_refl _) (Nat.le_refl _)
def fn_Design_firstDecl_Dc (N : Nat) (v1 : Int32) (s : ms) : Option (Int32 × ms) :=
  (fn_Design_isModule_Dc N v1 s).bind (fun q_1 => if q_1.1 = 0 then (some ((q_1.2.1 371 0), q_1.2)) else (if (v1 < 0 ∨ 3277 ≤ Int32.toNatClampNeg v1) then none else some (((q_1.2.1 362) (Int32.toNatClampNeg v1)), q_1.2)))
set_option maxHeartbeats 8000000 in
set_option maxRecDepth 100000 in
theorem ct_Design_firstDecl_Dc (l : Launch) (dC : Nat → ClassId) (dI : Nat → Nat → Nat) (cI cB cJ cZ cQ : ClassId) (N sz : Nat) (a : Nat → Nat) (v : Nat → Value) (v1 : Int32) (s : ms) (y : (Int32 × ms)) (hf : fn_Design_firstDecl_Dc N v1 s = some y) : Met l yn_Design_firstDecl (xw yn_Design_firstDecl bn_Design_firstDecl 2 (some .int)) ({ frames := 1, cells := 0, slots := 0, locals := 21 }) (dc_P (dC, dI) xcl (xt cI cB cJ cZ cQ) [.ref ((a 113)), .int v1] sz (wC a v cI cB cJ cZ cQ s)) (xk_Qi (dC, dI) xcl (xt cI cB cJ cZ cQ) (fun (r : Int32) (_ : Unit) => r = y.1) (fun u : Unit => (wC a v cI cB cJ cZ cQ y.2)) (va_A (wC a v cI cB cJ cZ cQ s) sz)) 0 0 (va_A (wC a v cI cB cJ cZ cQ s) sz) := by
  refine dc_of (QA := xk_Qi (dC, dI) xcl (xt cI cB cJ cZ cQ) (fun (r : Int32) (_ : Unit) => r = y.1) (fun u : Unit => (wC a v cI cB cJ cZ cQ y.2))) (by decide) (Nat.le_of_ble_eq_true rfl) ?_
  intro p e s0 m below meth c hx hb hml hown hg hr hlocks hin hP hK hN A hA hD hT ls hl
  have hown : s0.vm.findClass rn_Design = some m.cls := hown
  obtain ⟨H, hH⟩ : ∃ z, z = s0.heap := ⟨_, rfl⟩
  rw [← hH] at hP
  have hS : va_S A s0.heap H [] := by rw [hH]; exact va_S.rf
  suffices kk : ∀ QQ : State → Prop, QQ = MQ below (xk_Qi (dC, dI) xcl (xt cI cB cJ cZ cQ) (fun (r : Int32) (_ : Unit) => r = y.1) (fun u : Unit => (wC a v cI cB cJ cZ cQ y.2)) A) [.ref ((a 113)), .int v1].toArray s0 0 0 A → dcC p l e ({ frames := 1, cells := 0, slots := 0, locals := 21 }) s0 m [.ref ((a 113)), .int v1].toArray below meth c QQ (dC, dI) A (wC a v cI cB cJ cZ cQ s) 0 2 [(0, .ref ((a 113))), (1, .int v1)] [] by
    have k9 := kk _ rfl H [] ls hP hD hS hl
    rw [hH] at k9; exact k9
  clear hP hD hS hl hH H ls
  intro QQ hQQ
  intro H locs ls hP hD hS hl
  unfold fn_Design_firstDecl_Dc at hf
  refine lv_aload_n hx hb dn_Design_firstDecl_0 rfl (lv_at hl 0 rfl) ?_
  refine lv_iload_n hx hb dn_Design_firstDecl_1 rfl (lv_at hl 1 rfl) ?_
  obtain ⟨q_1, hc_2, hf⟩ := dc_b hf
  refine dc_calli (dc_runV (ar := 1) (As := [.int v1]) (rest := []) (ci := 10) (q0 := 13) ⟨hx, hb, hml, hown, hg⟩ hK hN hT hS hA (ct_Design_isModule_Dc l dC dI cI cB cJ cZ cQ N H.size a v v1 s q_1 hc_2) hP hD rfl rfl wn_5_91 wn_5_93 sn_Design_isModule wn_1_10 wn_5_94 rfl rfl (by decide +kernel) ⟨Nat.le_of_ble_eq_true rfl, Nat.le_of_ble_eq_true rfl⟩ rfl hl.1 rfl (Nat.le_of_ble_eq_true rfl) dn_Design_firstDecl_2 ⟨Nat.le_of_ble_eq_true rfl, Nat.le_of_ble_eq_true rfl⟩) hP hD hS hA (fun r_3 _ H locs hw hP hD hS => ?_)
  have hw : r_3 = q_1.1 := hw
  subst hw
  refine lv_if_eq (tgt := 17) hx hb dn_Design_firstDecl_5 (by decide) (fun h => ?_) (fun h => ?_)
  · have hf := (if_pos h).symm.trans hf
    refine lv_aload_n hx hb dn_Design_firstDecl_17 rfl (lv_at hl 0 rfl) ?_
    refine va_get (D := (dC, dI)) (ci := 10) (v := .ref ((a 114))) (C := rn_Design) (T := fn_Design) (N := 16) hx hb hg in_Design hown hK hP 13 rfl rfl 0 (by decide) (hg _ wn_2_234) (fun _ h9 => h9) rfl dn_Design_firstDecl_18 ?_
    refine va_get (D := (dC, dI)) (ci := 11) (v := .int ((q_1.2.1 371 0))) (C := rn_Parts) (T := fn_Parts) (N := 15) hx hb hg in_Parts hown hK hP 14 rfl rfl 0 (by decide) (hg _ wn_2_124) (fun _ h9 => h9) rfl dn_Design_firstDecl_21 ?_
    rw [hQQ, ← Option.some.inj hf]
    exact xk_iret (w1 := fun u : Unit => (wC a v cI cB cJ cZ cQ q_1.2)) () hx hb hr hlocks hK hS dn_Design_firstDecl_24 hP hD rfl (Nat.le_refl _) (Nat.le_refl _)
  · have hf := (if_neg h).symm.trans hf
    refine lv_aload_n hx hb dn_Design_firstDecl_8 rfl (lv_at hl 0 rfl) ?_
    refine va_get (D := (dC, dI)) (ci := 10) (v := .ref ((a 362))) (C := rn_Design) (T := fn_Design) (N := 16) hx hb hg in_Design hown hK hP 13 rfl rfl 7 (by decide) (hg _ wn_3_16) (fun _ h9 => h9) rfl dn_Design_firstDecl_9 ?_
    refine lv_iload_n hx hb dn_Design_firstDecl_12 rfl (lv_at hl 1 rfl) ?_
    obtain ⟨hg_4, hf⟩ := dc_g hf
    refine va_iald hx hb hK hP 88 0 rfl rfl hg_4 dn_Design_firstDecl_13 ?_
    refine xk_ti (y := ((q_1.2.1 362) (Int32.toNatClampNeg v1))) rfl ?_
    refine lv_goto (tgt := 24) hx hb dn_Design_firstDecl_14 (by decide) ?_
    rw [hQQ, ← Option.some.inj hf]
    exact xk_iret (w1 := fun u : Unit => (wC a v cI cB cJ cZ cQ q_1.2)) () hx hb hr hlocks hK hS dn_Design_firstDecl_24 hP hD rfl (Nat.le_refl _) (Nat.le_refl _)
def fn_Tokens_refuse_Tk (N : Nat) (s : ms) : Option (Unit × ms) :=
  (fn_Tokens_misfit_Tk N s).bind (fun q_1 => (fn_Tokens_stop_Tk N q_1.1 q_1.2).bind (fun q_4 => some ((), q_4.2)))
set_option maxHeartbeats 8000000 in
set_option maxRecDepth 100000 in
theorem ct_Tokens_refuse_Tk (l : Launch) (dC : Nat → ClassId) (dI : Nat → Nat → Nat) (cI cB cJ cZ cQ : ClassId) (N sz : Nat) (a : Nat → Nat) (v : Nat → Value) (s : ms) (y : (Unit × ms)) (hf : fn_Tokens_refuse_Tk N s = some y) : Met l yn_Tokens_refuse (xw yn_Tokens_refuse bn_Tokens_refuse 1 none) ({ frames := 1, cells := 0, slots := 0, locals := 21 }) (dc_P (dC, dI) xcl (xt cI cB cJ cZ cQ) [.ref ((a 101))] sz (wC a v cI cB cJ cZ cQ s)) (xk_Qv (dC, dI) xcl (xt cI cB cJ cZ cQ) (fun _ : Unit => True) (fun u : Unit => (wC a v cI cB cJ cZ cQ y.2)) (va_A (wC a v cI cB cJ cZ cQ s) sz)) 0 0 (va_A (wC a v cI cB cJ cZ cQ s) sz) := by
  refine dc_of (QA := xk_Qv (dC, dI) xcl (xt cI cB cJ cZ cQ) (fun _ : Unit => True) (fun u : Unit => (wC a v cI cB cJ cZ cQ y.2))) (by decide) (Nat.le_of_ble_eq_true rfl) ?_
  intro p e s0 m below meth c hx hb hml hown hg hr hlocks hin hP hK hN A hA hD hT ls hl
  have hown : s0.vm.findClass rn_Tokens = some m.cls := hown
  obtain ⟨H, hH⟩ : ∃ z, z = s0.heap := ⟨_, rfl⟩
  rw [← hH] at hP
  have hS : va_S A s0.heap H [] := by rw [hH]; exact va_S.rf
  suffices kk : ∀ QQ : State → Prop, QQ = MQ below (xk_Qv (dC, dI) xcl (xt cI cB cJ cZ cQ) (fun _ : Unit => True) (fun u : Unit => (wC a v cI cB cJ cZ cQ y.2)) A) [.ref ((a 101))].toArray s0 0 0 A → dcC p l e ({ frames := 1, cells := 0, slots := 0, locals := 21 }) s0 m [.ref ((a 101))].toArray below meth c QQ (dC, dI) A (wC a v cI cB cJ cZ cQ s) 0 1 [(0, .ref ((a 101)))] [] by
    have k9 := kk _ rfl H [] ls hP hD hS hl
    rw [hH] at k9; exact k9
  clear hP hD hS hl hH H ls
  intro QQ hQQ
  intro H locs ls hP hD hS hl
  unfold fn_Tokens_refuse_Tk at hf
  refine lv_aload_n hx hb dn_Tokens_refuse_0 rfl (lv_at hl 0 rfl) ?_
  refine lv_aload_n hx hb dn_Tokens_refuse_1 rfl (lv_at hl 0 rfl) ?_
  obtain ⟨q_1, hc_2, hf⟩ := dc_b hf
  refine dc_calli (dc_runV (ar := 0) (As := []) (rest := [.ref ((a 101))]) (ci := 2) (q0 := 1) ⟨hx, hb, hml, hown, hg⟩ hK hN hT hS hA (ct_Tokens_misfit_Tk l dC dI cI cB cJ cZ cQ N H.size a v s q_1 hc_2) hP hD rfl rfl wn_4_177 wn_4_179 sn_Tokens_misfit wn_1_2 wn_4_180 rfl rfl (by decide +kernel) ⟨Nat.le_of_ble_eq_true rfl, Nat.le_of_ble_eq_true rfl⟩ rfl hl.1 rfl (Nat.le_of_ble_eq_true rfl) dn_Tokens_refuse_2 ⟨Nat.le_of_ble_eq_true rfl, Nat.le_of_ble_eq_true rfl⟩) hP hD hS hA (fun r_3 _ H locs hw hP hD hS => ?_)
  have hw : r_3 = q_1.1 := hw
  subst hw
  obtain ⟨q_4, hc_5, hf⟩ := dc_b hf
  refine dc_callv (dc_runV (ar := 1) (As := [.int q_1.1]) (rest := []) (ci := 2) (q0 := 1) ⟨hx, hb, hml, hown, hg⟩ hK hN hT hS hA (ct_Tokens_stop_Tk l dC dI cI cB cJ cZ cQ N H.size a v q_1.1 q_1.2 q_4 hc_5) hP hD rfl rfl wn_4_181 wn_4_183 sn_Tokens_stop wn_1_2 wn_4_184 rfl rfl (by decide +kernel) ⟨Nat.le_of_ble_eq_true rfl, Nat.le_of_ble_eq_true rfl⟩ rfl hl.1 rfl (Nat.le_of_ble_eq_true rfl) dn_Tokens_refuse_5 ⟨Nat.le_of_ble_eq_true rfl, Nat.le_of_ble_eq_true rfl⟩) hP hD hS hA (fun _ H locs hw hP hD hS => ?_)
  rw [hQQ, ← Option.some.inj hf]
  exact xk_vret (w1 := fun u : Unit => (wC a v cI cB cJ cZ cQ q_4.2)) () hx hb hr hlocks hK hS dn_Tokens_refuse_8 hP hD trivial (Nat.le_refl _) (Nat.le_refl _)
def bd_Checker_declCalled_Ch_7 (N : Nat) (k_7 : Int32 → Int32 → Int32 → ms → Option (Int32 × ms)) (x1 : Int32) (x3 : Int32) (x4 : Int32) (s : ms) : Option (Int32 × ms) :=
  if x3 ≤ x4 then (some ((-1), s)) else (if 10923 ≤ x4 then (some ((-1), s)) else (if (x4 < 0 ∨ 10923 ≤ Int32.toNatClampNeg x4) then none else if ((s.1 237) (Int32.toNatClampNeg x4)) = x1 then (some (x4, s)) else (k_7 x1 x3 ((x4 + 1)) s)))
def hd_Checker_declCalled_Ch_7 (N : Nat) : Nat → Int32 → Int32 → Int32 → ms → Option (Int32 × ms)
  | 0, _, _, _, _ => none
  | n + 1, x1, x3, x4, s => bd_Checker_declCalled_Ch_7 N (hd_Checker_declCalled_Ch_7 N n) x1 x3 x4 s
def fn_Checker_declCalled_Ch (N : Nat) (v1 : Int32) (v2 : Int32) (v3 : Int32) (s : ms) : Option (Int32 × ms) :=
  hd_Checker_declCalled_Ch_7 N N v1 v3 ((if v2 < 0 then 0 else v2)) s
set_option maxHeartbeats 8000000 in
set_option maxRecDepth 100000 in
theorem ct_Checker_declCalled_Ch (l : Launch) (dC : Nat → ClassId) (dI : Nat → Nat → Nat) (cI cB cJ cZ cQ : ClassId) (N sz : Nat) (a : Nat → Nat) (v : Nat → Value) (v1 : Int32) (v2 : Int32) (v3 : Int32) (s : ms) (y : (Int32 × ms)) (hf : fn_Checker_declCalled_Ch N v1 v2 v3 s = some y) : Met l yn_Checker_declCalled (xw yn_Checker_declCalled bn_Checker_declCalled 5 (some .int)) ({ frames := 1, cells := 0, slots := 0, locals := 40 }) (dc_P (dC, dI) xcl (xt cI cB cJ cZ cQ) [.ref ((a 103)), .int v1, .int v2, .int v3] sz (wC a v cI cB cJ cZ cQ s)) (xk_Qi (dC, dI) xcl (xt cI cB cJ cZ cQ) (fun (r : Int32) (_ : Unit) => r = y.1) (fun u : Unit => (wC a v cI cB cJ cZ cQ y.2)) (va_A (wC a v cI cB cJ cZ cQ s) sz)) 0 0 (va_A (wC a v cI cB cJ cZ cQ s) sz) := by
  refine dc_of (QA := xk_Qi (dC, dI) xcl (xt cI cB cJ cZ cQ) (fun (r : Int32) (_ : Unit) => r = y.1) (fun u : Unit => (wC a v cI cB cJ cZ cQ y.2))) (by decide) (Nat.le_of_ble_eq_true rfl) ?_
  intro p e s0 m below meth c hx hb hml hown hg hr hlocks hin hP hK hN A hA hD hT ls hl
  have hown : s0.vm.findClass rn_Checker = some m.cls := hown
  obtain ⟨H, hH⟩ : ∃ z, z = s0.heap := ⟨_, rfl⟩
  rw [← hH] at hP
  have hS : va_S A s0.heap H [] := by rw [hH]; exact va_S.rf
  suffices kk : ∀ QQ : State → Prop, QQ = MQ below (xk_Qi (dC, dI) xcl (xt cI cB cJ cZ cQ) (fun (r : Int32) (_ : Unit) => r = y.1) (fun u : Unit => (wC a v cI cB cJ cZ cQ y.2)) A) [.ref ((a 103)), .int v1, .int v2, .int v3].toArray s0 0 0 A → dcC p l e ({ frames := 1, cells := 0, slots := 0, locals := 40 }) s0 m [.ref ((a 103)), .int v1, .int v2, .int v3].toArray below meth c QQ (dC, dI) A (wC a v cI cB cJ cZ cQ s) 0 5 [(0, .ref ((a 103))), (1, .int v1), (2, .int v2), (3, .int v3)] [] by
    have k9 := kk _ rfl H [] ls hP hD hS hl
    rw [hH] at k9; exact k9
  clear hP hD hS hl hH H ls
  intro QQ hQQ
  have hd_7 : ∀ (n : Nat) (x1 : Int32) (x3 : Int32) (x4 : Int32) (s : ms), hd_Checker_declCalled_Ch_7 N n x1 x3 x4 s = some y → dcC p l e ({ frames := 1, cells := 0, slots := 0, locals := 40 }) s0 m [.ref ((a 103)), .int v1, .int v2, .int v3].toArray below meth c QQ (dC, dI) A (wC a v cI cB cJ cZ cQ s) 7 5 [(0, .ref ((a 103))), (1, .int x1), (3, .int x3), (4, .int x4)] [] := by
    intro n
    induction n with
    | zero => intro x1 x3 x4 s hf; cases hf
    | succ n ih =>
      intro x1 x3 x4 s hf H locs ls hP hD hS hl
      have hf : bd_Checker_declCalled_Ch_7 N (hd_Checker_declCalled_Ch_7 N n) x1 x3 x4 s = some y := hf
      have hk_7 := ih
      generalize hd_Checker_declCalled_Ch_7 N n = k_7 at hf hk_7
      unfold bd_Checker_declCalled_Ch_7 at hf
      refine lv_iload hx hb dn_Checker_declCalled_7 (lv_at hl 3 rfl) ?_
      refine lv_iload_n hx hb dn_Checker_declCalled_9 rfl (lv_at hl 2 rfl) ?_
      refine lv_icmp_ge (tgt := 43) hx hb dn_Checker_declCalled_10 (by decide) (fun h => ?_) (fun h => ?_)
      · have hf := (if_pos h).symm.trans hf
        refine lv_iconst (v := (-1)) hx hb dn_Checker_declCalled_43 (by decide) ?_
        rw [hQQ, ← Option.some.inj hf]
        exact xk_iret (w1 := fun u : Unit => (wC a v cI cB cJ cZ cQ s)) () hx hb hr hlocks hK hS dn_Checker_declCalled_44 hP hD rfl (Nat.le_refl _) (Nat.le_refl _)
      · have hf := (if_neg h).symm.trans hf
        refine lv_iload hx hb dn_Checker_declCalled_13 (lv_at hl 3 rfl) ?_
        refine lv_aload_n hx hb dn_Checker_declCalled_15 rfl (lv_at hl 0 rfl) ?_
        refine va_get (D := (dC, dI)) (ci := 4) (v := .ref ((a 237))) (C := rn_Checker) (T := fn_Checker) (N := 15) hx hb hg in_Checker hown hK hP 3 rfl rfl 8 (by decide) (hg _ wn_1_134) (fun _ h9 => h9) rfl dn_Checker_declCalled_16 ?_
        refine va_alen (v := 10923) hx hb hK hP 24 0 rfl rfl rfl dn_Checker_declCalled_19 ?_
        refine lv_icmp_ge (tgt := 43) hx hb dn_Checker_declCalled_20 (by decide) (fun h => ?_) (fun h => ?_)
        · have hf := (if_pos h).symm.trans hf
          refine lv_iconst (v := (-1)) hx hb dn_Checker_declCalled_43 (by decide) ?_
          rw [hQQ, ← Option.some.inj hf]
          exact xk_iret (w1 := fun u : Unit => (wC a v cI cB cJ cZ cQ s)) () hx hb hr hlocks hK hS dn_Checker_declCalled_44 hP hD rfl (Nat.le_refl _) (Nat.le_refl _)
        · have hf := (if_neg h).symm.trans hf
          refine lv_aload_n hx hb dn_Checker_declCalled_23 rfl (lv_at hl 0 rfl) ?_
          refine va_get (D := (dC, dI)) (ci := 4) (v := .ref ((a 237))) (C := rn_Checker) (T := fn_Checker) (N := 15) hx hb hg in_Checker hown hK hP 3 rfl rfl 8 (by decide) (hg _ wn_1_134) (fun _ h9 => h9) rfl dn_Checker_declCalled_24 ?_
          refine lv_iload hx hb dn_Checker_declCalled_27 (lv_at hl 3 rfl) ?_
          obtain ⟨hg_1, hf⟩ := dc_g hf
          refine va_iald hx hb hK hP 24 0 rfl rfl hg_1 dn_Checker_declCalled_29 ?_
          refine xk_ti (y := ((s.1 237) (Int32.toNatClampNeg x4))) rfl ?_
          refine lv_iload_n hx hb dn_Checker_declCalled_30 rfl (lv_at hl 1 rfl) ?_
          refine lv_icmp_ne (tgt := 37) hx hb dn_Checker_declCalled_31 (by decide) (fun h => ?_) (fun h => ?_)
          · have hf := (if_neg h).symm.trans hf
            refine lv_iinc (v := (x4 + 1)) (lv' := [(4, .int ((x4 + 1))), (0, .ref ((a 103))), (1, .int x1), (3, .int x3)]) hx hb dn_Checker_declCalled_37 hl (k := 3) rfl (dc_inc (by decide)) (by decide) rfl (fun ls hl => ?_)
            refine lv_goto (tgt := 7) hx hb dn_Checker_declCalled_40 (by decide) ?_
            exact hk_7 x1 x3 ((x4 + 1)) s hf H locs ls hP hD hS (lv_sub hl [1, 2, 3, 0] rfl)
          · have hf := (if_pos h).symm.trans hf
            refine lv_iload hx hb dn_Checker_declCalled_34 (lv_at hl 3 rfl) ?_
            rw [hQQ, ← Option.some.inj hf]
            exact xk_iret (w1 := fun u : Unit => (wC a v cI cB cJ cZ cQ s)) () hx hb hr hlocks hK hS dn_Checker_declCalled_36 hP hD rfl (Nat.le_refl _) (Nat.le_refl _)
  intro H locs ls hP hD hS hl
  unfold fn_Checker_declCalled_Ch at hf
  refine lv_iload_n hx hb dn_Checker_declCalled_0 rfl (lv_at hl 2 rfl) ?_
  refine lv_iconst (v := 0) hx hb dn_Checker_declCalled_1 (by decide) ?_
  refine va_mmax (x := v2) (y := 0) (rest := []) hx hb (by rw [hml]; exact hl.1.symm) hown (hg _ wn_5_128) (hg _ wn_4_99) (hg _ wn_1_19) (hg _ wn_4_100) (Nat.le_of_ble_eq_true rfl) (Nat.le_of_ble_eq_true rfl) (Nat.zero_le _) (Nat.zero_le _) dn_Checker_declCalled_2 ?_
  refine lv_istore (lv' := [(4, .int ((if v2 < 0 then 0 else v2))), (0, .ref ((a 103))), (1, .int v1), (2, .int v2), (3, .int v3)]) hx hb dn_Checker_declCalled_5 hl (by decide) rfl (fun ls hl => ?_)
  exact hd_7 N v1 v3 ((if v2 < 0 then 0 else v2)) s hf H locs ls hP hD hS (lv_sub hl [1, 2, 4, 0] rfl)
def bd_Parts_isLinked_Ps_7 (N : Nat) (k_7 : Int32 → Int32 → ms → Option (Int32 × ms)) (x2 : Int32) (x3 : Int32) (s : ms) : Option (Int32 × ms) :=
  if (s.1 332 0) ≤ x3 then (some (0, s)) else (if (x3 < 0 ∨ 10923 ≤ Int32.toNatClampNeg x3) then none else if ((s.1 333) (Int32.toNatClampNeg x3)) = x2 then (some (1, s)) else (k_7 x2 ((x3 + 1)) s))
def hd_Parts_isLinked_Ps_7 (N : Nat) : Nat → Int32 → Int32 → ms → Option (Int32 × ms)
  | 0, _, _, _ => none
  | n + 1, x2, x3, s => bd_Parts_isLinked_Ps_7 N (hd_Parts_isLinked_Ps_7 N n) x2 x3 s
def fn_Parts_isLinked_Ps (N : Nat) (v1 : Int32) (v2 : Int32) (s : ms) : Option (Int32 × ms) :=
  if (v1 < 0 ∨ 10923 ≤ Int32.toNatClampNeg v1) then none else hd_Parts_isLinked_Ps_7 N N v2 (((s.1 331) (Int32.toNatClampNeg v1))) s
set_option maxHeartbeats 8000000 in
set_option maxRecDepth 100000 in
theorem ct_Parts_isLinked_Ps (l : Launch) (dC : Nat → ClassId) (dI : Nat → Nat → Nat) (cI cB cJ cZ cQ : ClassId) (N sz : Nat) (a : Nat → Nat) (v : Nat → Value) (v1 : Int32) (v2 : Int32) (s : ms) (y : (Int32 × ms)) (hf : fn_Parts_isLinked_Ps N v1 v2 s = some y) : Met l yn_Parts_isLinked (xw yn_Parts_isLinked bn_Parts_isLinked 4 (some .boolean)) ({ frames := 0, cells := 0, slots := 0, locals := 0 }) (dc_P (dC, dI) xcl (xt cI cB cJ cZ cQ) [.ref ((a 110)), .int v1, .int v2] sz (wC a v cI cB cJ cZ cQ s)) (xk_Qi (dC, dI) xcl (xt cI cB cJ cZ cQ) (fun (r : Int32) (_ : Unit) => r = y.1) (fun u : Unit => (wC a v cI cB cJ cZ cQ y.2)) (va_A (wC a v cI cB cJ cZ cQ s) sz)) 0 0 (va_A (wC a v cI cB cJ cZ cQ s) sz) := by
  refine dc_of (QA := xk_Qi (dC, dI) xcl (xt cI cB cJ cZ cQ) (fun (r : Int32) (_ : Unit) => r = y.1) (fun u : Unit => (wC a v cI cB cJ cZ cQ y.2))) (by decide) (Nat.le_of_ble_eq_true rfl) ?_
  intro p e s0 m below meth c hx hb hml hown hg hr hlocks hin hP hK hN A hA hD hT ls hl
  have hown : s0.vm.findClass rn_Parts = some m.cls := hown
  obtain ⟨H, hH⟩ : ∃ z, z = s0.heap := ⟨_, rfl⟩
  rw [← hH] at hP
  have hS : va_S A s0.heap H [] := by rw [hH]; exact va_S.rf
  suffices kk : ∀ QQ : State → Prop, QQ = MQ below (xk_Qi (dC, dI) xcl (xt cI cB cJ cZ cQ) (fun (r : Int32) (_ : Unit) => r = y.1) (fun u : Unit => (wC a v cI cB cJ cZ cQ y.2)) A) [.ref ((a 110)), .int v1, .int v2].toArray s0 0 0 A → dcC p l e ({ frames := 0, cells := 0, slots := 0, locals := 0 }) s0 m [.ref ((a 110)), .int v1, .int v2].toArray below meth c QQ (dC, dI) A (wC a v cI cB cJ cZ cQ s) 0 4 [(0, .ref ((a 110))), (1, .int v1), (2, .int v2)] [] by
    have k9 := kk _ rfl H [] ls hP hD hS hl
    rw [hH] at k9; exact k9
  clear hP hD hS hl hH H ls
  intro QQ hQQ
  have hd_7 : ∀ (n : Nat) (x2 : Int32) (x3 : Int32) (s : ms), hd_Parts_isLinked_Ps_7 N n x2 x3 s = some y → dcC p l e ({ frames := 0, cells := 0, slots := 0, locals := 0 }) s0 m [.ref ((a 110)), .int v1, .int v2].toArray below meth c QQ (dC, dI) A (wC a v cI cB cJ cZ cQ s) 7 4 [(0, .ref ((a 110))), (2, .int x2), (3, .int x3)] [] := by
    intro n
    induction n with
    | zero => intro x2 x3 s hf; cases hf
    | succ n ih =>
      intro x2 x3 s hf H locs ls hP hD hS hl
      have hf : bd_Parts_isLinked_Ps_7 N (hd_Parts_isLinked_Ps_7 N n) x2 x3 s = some y := hf
      have hk_7 := ih
      generalize hd_Parts_isLinked_Ps_7 N n = k_7 at hf hk_7
      unfold bd_Parts_isLinked_Ps_7 at hf
      refine lv_iload_n hx hb dn_Parts_isLinked_7 rfl (lv_at hl 2 rfl) ?_
      refine lv_aload_n hx hb dn_Parts_isLinked_8 rfl (lv_at hl 0 rfl) ?_
      refine va_get (D := (dC, dI)) (ci := 11) (v := .int ((s.1 332 0))) (C := rn_Parts) (T := fn_Parts) (N := 15) hx hb hg in_Parts hown hK hP 10 rfl rfl 11 (by decide) (hg _ wn_2_162) (fun _ h9 => h9) rfl dn_Parts_isLinked_9 ?_
      refine lv_icmp_ge (tgt := 33) hx hb dn_Parts_isLinked_12 (by decide) (fun h => ?_) (fun h => ?_)
      · have hf := (if_pos h).symm.trans hf
        refine lv_iconst (v := 0) hx hb dn_Parts_isLinked_33 (by decide) ?_
        rw [hQQ, ← Option.some.inj hf]
        exact xk_zret (w1 := fun u : Unit => (wC a v cI cB cJ cZ cQ s)) () hx hb hr rfl hlocks hK hS dn_Parts_isLinked_34 hP hD rfl (Nat.le_refl _) (Nat.le_refl _)
      · have hf := (if_neg h).symm.trans hf
        refine lv_aload_n hx hb dn_Parts_isLinked_15 rfl (lv_at hl 0 rfl) ?_
        refine va_get (D := (dC, dI)) (ci := 11) (v := .ref ((a 333))) (C := rn_Parts) (T := fn_Parts) (N := 15) hx hb hg in_Parts hown hK hP 10 rfl rfl 12 (by decide) (hg _ wn_2_164) (fun _ h9 => h9) rfl dn_Parts_isLinked_16 ?_
        refine lv_iload_n hx hb dn_Parts_isLinked_19 rfl (lv_at hl 2 rfl) ?_
        obtain ⟨hg_1, hf⟩ := dc_g hf
        refine va_iald hx hb hK hP 70 0 rfl rfl hg_1 dn_Parts_isLinked_20 ?_
        refine xk_ti (y := ((s.1 333) (Int32.toNatClampNeg x3))) rfl ?_
        refine lv_iload_n hx hb dn_Parts_isLinked_21 rfl (lv_at hl 1 rfl) ?_
        refine lv_icmp_ne (tgt := 27) hx hb dn_Parts_isLinked_22 (by decide) (fun h => ?_) (fun h => ?_)
        · have hf := (if_neg h).symm.trans hf
          refine lv_iinc (v := (x3 + 1)) (lv' := [(3, .int ((x3 + 1))), (0, .ref ((a 110))), (2, .int x2)]) hx hb dn_Parts_isLinked_27 hl (k := 2) rfl (dc_inc (by decide)) (by decide) rfl (fun ls hl => ?_)
          refine lv_goto (tgt := 7) hx hb dn_Parts_isLinked_30 (by decide) ?_
          exact hk_7 x2 ((x3 + 1)) s hf H locs ls hP hD hS (lv_sub hl [1, 2, 0] rfl)
        · have hf := (if_pos h).symm.trans hf
          refine lv_iconst (v := 1) hx hb dn_Parts_isLinked_25 (by decide) ?_
          rw [hQQ, ← Option.some.inj hf]
          exact xk_zret (w1 := fun u : Unit => (wC a v cI cB cJ cZ cQ s)) () hx hb hr rfl hlocks hK hS dn_Parts_isLinked_26 hP hD rfl (Nat.le_refl _) (Nat.le_refl _)
  intro H locs ls hP hD hS hl
  unfold fn_Parts_isLinked_Ps at hf
  refine lv_aload_n hx hb dn_Parts_isLinked_0 rfl (lv_at hl 0 rfl) ?_
  refine va_get (D := (dC, dI)) (ci := 11) (v := .ref ((a 331))) (C := rn_Parts) (T := fn_Parts) (N := 15) hx hb hg in_Parts hown hK hP 10 rfl rfl 10 (by decide) (hg _ wn_2_159) (fun _ h9 => h9) rfl dn_Parts_isLinked_1 ?_
  refine lv_iload_n hx hb dn_Parts_isLinked_4 rfl (lv_at hl 1 rfl) ?_
  obtain ⟨hg_1, hf⟩ := dc_g hf
  refine va_iald hx hb hK hP 69 0 rfl rfl hg_1 dn_Parts_isLinked_5 ?_
  refine xk_ti (y := ((s.1 331) (Int32.toNatClampNeg v1))) rfl ?_
  refine lv_istore_n (lv' := [(3, .int (((s.1 331) (Int32.toNatClampNeg v1)))), (0, .ref ((a 110))), (1, .int v1), (2, .int v2)]) hx hb dn_Parts_isLinked_6 rfl hl (by decide) rfl (fun ls hl => ?_)
  exact hd_7 N v2 (((s.1 331) (Int32.toNatClampNeg v1))) s hf H locs ls hP hD hS (lv_sub hl [1, 3, 0] rfl)
def fn_Parts_addLink_Ps (N : Nat) (v1 : Int32) (s : ms) : Option (Unit × ms) :=
  if (s.1 332 0) < 10923 then (if ((s.1 332 0) < 0 ∨ 10923 ≤ Int32.toNatClampNeg ((s.1 332 0))) then none else if ((s.1 332 0) < 0 ∨ 10923 ≤ Int32.toNatClampNeg ((s.1 332 0))) then none else if ((s.1 332 0) < 0 ∨ 10923 ≤ Int32.toNatClampNeg ((s.1 332 0))) then none else some ((), upI (upI (upI (upI s 333 (upd (s.1 333) (Int32.toNatClampNeg ((s.1 332 0))) v1)) 334 (upd (s.1 334) (Int32.toNatClampNeg ((s.1 332 0))) ((-1)))) 335 (upd (s.1 335) (Int32.toNatClampNeg ((s.1 332 0))) ((-1)))) 332 (fun _ => ((s.1 332 0) + 1)))) else (some ((), s))
set_option maxHeartbeats 8000000 in
set_option maxRecDepth 100000 in
theorem ct_Parts_addLink_Ps (l : Launch) (dC : Nat → ClassId) (dI : Nat → Nat → Nat) (cI cB cJ cZ cQ : ClassId) (N sz : Nat) (a : Nat → Nat) (v : Nat → Value) (v1 : Int32) (s : ms) (y : (Unit × ms)) (hf : fn_Parts_addLink_Ps N v1 s = some y) : Met l yn_Parts_addLink (xw yn_Parts_addLink bn_Parts_addLink 2 none) ({ frames := 0, cells := 0, slots := 0, locals := 0 }) (dc_P (dC, dI) xcl (xt cI cB cJ cZ cQ) [.ref ((a 110)), .int v1] sz (wC a v cI cB cJ cZ cQ s)) (xk_Qv (dC, dI) xcl (xt cI cB cJ cZ cQ) (fun _ : Unit => True) (fun u : Unit => (wC a v cI cB cJ cZ cQ y.2)) (va_A (wC a v cI cB cJ cZ cQ s) sz)) 0 0 (va_A (wC a v cI cB cJ cZ cQ s) sz) := by
  refine dc_of (QA := xk_Qv (dC, dI) xcl (xt cI cB cJ cZ cQ) (fun _ : Unit => True) (fun u : Unit => (wC a v cI cB cJ cZ cQ y.2))) (by decide) (Nat.le_of_ble_eq_true rfl) ?_
  intro p e s0 m below meth c hx hb hml hown hg hr hlocks hin hP hK hN A hA hD hT ls hl
  have hown : s0.vm.findClass rn_Parts = some m.cls := hown
  obtain ⟨H, hH⟩ : ∃ z, z = s0.heap := ⟨_, rfl⟩
  rw [← hH] at hP
  have hS : va_S A s0.heap H [] := by rw [hH]; exact va_S.rf
  suffices kk : ∀ QQ : State → Prop, QQ = MQ below (xk_Qv (dC, dI) xcl (xt cI cB cJ cZ cQ) (fun _ : Unit => True) (fun u : Unit => (wC a v cI cB cJ cZ cQ y.2)) A) [.ref ((a 110)), .int v1].toArray s0 0 0 A → dcC p l e ({ frames := 0, cells := 0, slots := 0, locals := 0 }) s0 m [.ref ((a 110)), .int v1].toArray below meth c QQ (dC, dI) A (wC a v cI cB cJ cZ cQ s) 0 2 [(0, .ref ((a 110))), (1, .int v1)] [] by
    have k9 := kk _ rfl H [] ls hP hD hS hl
    rw [hH] at k9; exact k9
  clear hP hD hS hl hH H ls
  intro QQ hQQ
  intro H locs ls hP hD hS hl
  unfold fn_Parts_addLink_Ps at hf
  refine lv_aload_n hx hb dn_Parts_addLink_0 rfl (lv_at hl 0 rfl) ?_
  refine va_get (D := (dC, dI)) (ci := 11) (v := .int ((s.1 332 0))) (C := rn_Parts) (T := fn_Parts) (N := 15) hx hb hg in_Parts hown hK hP 10 rfl rfl 11 (by decide) (hg _ wn_2_162) (fun _ h9 => h9) rfl dn_Parts_addLink_1 ?_
  refine lv_sipush (v := 10923) hx hb dn_Parts_addLink_4 (by decide) ?_
  refine lv_icmp_lt (tgt := 11) hx hb dn_Parts_addLink_7 (by decide) (fun h => ?_) (fun h => ?_)
  · have hf := (if_pos h).symm.trans hf
    refine lv_aload_n hx hb dn_Parts_addLink_11 rfl (lv_at hl 0 rfl) ?_
    refine va_get (D := (dC, dI)) (ci := 11) (v := .ref ((a 333))) (C := rn_Parts) (T := fn_Parts) (N := 15) hx hb hg in_Parts hown hK hP 10 rfl rfl 12 (by decide) (hg _ wn_2_164) (fun _ h9 => h9) rfl dn_Parts_addLink_12 ?_
    refine lv_aload_n hx hb dn_Parts_addLink_15 rfl (lv_at hl 0 rfl) ?_
    refine va_get (D := (dC, dI)) (ci := 11) (v := .int ((s.1 332 0))) (C := rn_Parts) (T := fn_Parts) (N := 15) hx hb hg in_Parts hown hK hP 10 rfl rfl 11 (by decide) (hg _ wn_2_162) (fun _ h9 => h9) rfl dn_Parts_addLink_16 ?_
    refine lv_iload_n hx hb dn_Parts_addLink_19 rfl (lv_at hl 1 rfl) ?_
    obtain ⟨hg_1, hf⟩ := dc_g hf
    refine va_iast hx hb hK hP hD hS 70 0 rfl rfl hg_1 dn_Parts_addLink_20 (fun H locs hP hD hS => ?_)
    have hP : va_P (dC, dI) xcl ((wC a v cI cB cJ cZ cQ s).set 70 ((a 333), .inl (cI, 10923, .inl (upd (s.1 333) (Int32.toNatClampNeg ((s.1 332 0))) v1)))) H := hP
    have hD : va_D A ((wC a v cI cB cJ cZ cQ s).set 70 ((a 333), .inl (cI, 10923, .inl (upd (s.1 333) (Int32.toNatClampNeg ((s.1 332 0))) v1)))) := hD
    have hP := wC_P_333 hP
    have hD := wC_D_333 hD
    refine lv_aload_n hx hb dn_Parts_addLink_21 rfl (lv_at hl 0 rfl) ?_
    refine va_get (D := (dC, dI)) (ci := 11) (v := .ref ((a 334))) (C := rn_Parts) (T := fn_Parts) (N := 15) hx hb hg in_Parts hown hK hP 10 rfl rfl 13 (by decide) (hg _ wn_2_166) (fun _ h9 => h9) rfl dn_Parts_addLink_22 ?_
    refine lv_aload_n hx hb dn_Parts_addLink_25 rfl (lv_at hl 0 rfl) ?_
    refine va_get (D := (dC, dI)) (ci := 11) (v := .int ((s.1 332 0))) (C := rn_Parts) (T := fn_Parts) (N := 15) hx hb hg in_Parts hown hK hP 10 rfl rfl 11 (by decide) (hg _ wn_2_162) (fun _ h9 => h9) rfl dn_Parts_addLink_26 ?_
    refine lv_iconst (v := (-1)) hx hb dn_Parts_addLink_29 (by decide) ?_
    obtain ⟨hg_2, hf⟩ := dc_g hf
    refine va_iast hx hb hK hP hD hS 71 0 rfl rfl hg_2 dn_Parts_addLink_30 (fun H locs hP hD hS => ?_)
    have hP : va_P (dC, dI) xcl ((wC a v cI cB cJ cZ cQ (upI s 333 (upd (s.1 333) (Int32.toNatClampNeg ((s.1 332 0))) v1))).set 71 ((a 334), .inl (cI, 10923, .inl (upd (s.1 334) (Int32.toNatClampNeg ((s.1 332 0))) ((-1)))))) H := hP
    have hD : va_D A ((wC a v cI cB cJ cZ cQ (upI s 333 (upd (s.1 333) (Int32.toNatClampNeg ((s.1 332 0))) v1))).set 71 ((a 334), .inl (cI, 10923, .inl (upd (s.1 334) (Int32.toNatClampNeg ((s.1 332 0))) ((-1)))))) := hD
    have hP := wC_P_334 hP
    have hD := wC_D_334 hD
    refine lv_aload_n hx hb dn_Parts_addLink_31 rfl (lv_at hl 0 rfl) ?_
    refine va_get (D := (dC, dI)) (ci := 11) (v := .ref ((a 335))) (C := rn_Parts) (T := fn_Parts) (N := 15) hx hb hg in_Parts hown hK hP 10 rfl rfl 14 (by decide) (hg _ wn_2_169) (fun _ h9 => h9) rfl dn_Parts_addLink_32 ?_
    refine lv_aload_n hx hb dn_Parts_addLink_35 rfl (lv_at hl 0 rfl) ?_
    refine va_get (D := (dC, dI)) (ci := 11) (v := .int ((s.1 332 0))) (C := rn_Parts) (T := fn_Parts) (N := 15) hx hb hg in_Parts hown hK hP 10 rfl rfl 11 (by decide) (hg _ wn_2_162) (fun _ h9 => h9) rfl dn_Parts_addLink_36 ?_
    refine lv_iconst (v := (-1)) hx hb dn_Parts_addLink_39 (by decide) ?_
    obtain ⟨hg_3, hf⟩ := dc_g hf
    refine va_iast hx hb hK hP hD hS 72 0 rfl rfl hg_3 dn_Parts_addLink_40 (fun H locs hP hD hS => ?_)
    have hP : va_P (dC, dI) xcl ((wC a v cI cB cJ cZ cQ (upI (upI s 333 (upd (s.1 333) (Int32.toNatClampNeg ((s.1 332 0))) v1)) 334 (upd (s.1 334) (Int32.toNatClampNeg ((s.1 332 0))) ((-1))))).set 72 ((a 335), .inl (cI, 10923, .inl (upd (s.1 335) (Int32.toNatClampNeg ((s.1 332 0))) ((-1)))))) H := hP
    have hD : va_D A ((wC a v cI cB cJ cZ cQ (upI (upI s 333 (upd (s.1 333) (Int32.toNatClampNeg ((s.1 332 0))) v1)) 334 (upd (s.1 334) (Int32.toNatClampNeg ((s.1 332 0))) ((-1))))).set 72 ((a 335), .inl (cI, 10923, .inl (upd (s.1 335) (Int32.toNatClampNeg ((s.1 332 0))) ((-1)))))) := hD
    have hP := wC_P_335 hP
    have hD := wC_D_335 hD
    refine lv_aload_n hx hb dn_Parts_addLink_41 rfl (lv_at hl 0 rfl) ?_
    refine lv_dup hx hb dn_Parts_addLink_42 rfl ?_
    refine va_get (D := (dC, dI)) (ci := 11) (v := .int ((s.1 332 0))) (C := rn_Parts) (T := fn_Parts) (N := 15) hx hb hg in_Parts hown hK hP 10 rfl rfl 11 (by decide) (hg _ wn_2_162) (fun _ h9 => h9) rfl dn_Parts_addLink_43 ?_
    refine lv_iconst (v := 1) hx hb dn_Parts_addLink_46 (by decide) ?_
    refine lv_iadd hx hb dn_Parts_addLink_47 ?_
    refine va_put (D := (dC, dI)) (ci := 11) (v := .int (((s.1 332 0) + 1))) (ty := .int) (C := rn_Parts) (T := fn_Parts) (N := 15) hx hb hg in_Parts tn_Parts tk_Parts nn_Parts hown hK hP hD hS 10 rfl rfl 11 (by decide) (hg _ wn_2_162) (fun _ h9 => h9) rfl (tk_Parts 11 (by decide)) rfl rfl (Nat.le_of_ble_eq_true rfl) dn_Parts_addLink_48 (fun H locs hP hD hS => ?_)
    have hP := wC_P_332 hP
    have hD := wC_D_332 hD
    rw [hQQ, ← Option.some.inj hf]
    exact xk_vret (w1 := fun u : Unit => (wC a v cI cB cJ cZ cQ (upI (upI (upI (upI s 333 (upd (s.1 333) (Int32.toNatClampNeg ((s.1 332 0))) v1)) 334 (upd (s.1 334) (Int32.toNatClampNeg ((s.1 332 0))) ((-1)))) 335 (upd (s.1 335) (Int32.toNatClampNeg ((s.1 332 0))) ((-1)))) 332 (fun _ => ((s.1 332 0) + 1))))) () hx hb hr hlocks hK hS dn_Parts_addLink_51 hP hD trivial (Nat.le_refl _) (Nat.le_refl _)
  · have hf := (if_neg h).symm.trans hf
    rw [hQQ, ← Option.some.inj hf]
    exact xk_vret (w1 := fun u : Unit => (wC a v cI cB cJ cZ cQ s)) () hx hb hr hlocks hK hS dn_Parts_addLink_10 hP hD trivial (Nat.le_refl _) (Nat.le_refl _)
def bk_Meaning_linkTo_Me_100 (N : Nat) (x2 : Int32) (s : ms) : Option (Unit × ms) :=
  (fn_Checker_refuse_Ch N 23 x2 s).bind (fun q_1 => some ((), q_1.2))
def fn_Meaning_linkTo_Me (N : Nat) (v1 : Int32) (v2 : Int32) (s : ms) : Option (Unit × ms) :=
  (fn_Checker_isOff_Ch N s).bind (fun q_1 => if q_1.1 = 0 then (if 0 ≤ ((q_1.2.1 328 0) - 1) then (if (((q_1.2.1 328 0) - 1) < 0 ∨ 10923 ≤ Int32.toNatClampNeg (((q_1.2.1 328 0) - 1))) then none else (fn_Design_firstDecl_Ds N (((q_1.2.1 329) (Int32.toNatClampNeg (((q_1.2.1 328 0) - 1))))) q_1.2).bind (fun q_5 => (fn_Design_portCount_Ds N (((q_1.2.1 329) (Int32.toNatClampNeg (((q_1.2.1 328 0) - 1))))) q_5.2).bind (fun q_8 => (fn_Checker_declCalled_Ch N v1 q_5.1 ((q_5.1 + q_8.1)) q_8.2).bind (fun q_11 => if q_11.1 = (-1) then (bk_Meaning_linkTo_Me_100 N v2 (upI q_11.2 252 (fun _ => q_11.1))) else ((fn_Parts_isLinked_Ps N (((q_1.2.1 328 0) - 1)) ((q_11.1 - q_5.1)) (upI q_11.2 252 (fun _ => q_11.1))).bind (fun q_14 => if q_14.1 = 0 then ((fn_Parts_addLink_Ps N (((q_14.2.1 252 0) - q_5.1)) q_14.2).bind (fun q_17 => some ((), q_17.2))) else (bk_Meaning_linkTo_Me_100 N v2 q_14.2))))))) else (some ((), q_1.2))) else (some ((), q_1.2)))
set_option maxHeartbeats 8000000 in
set_option maxRecDepth 100000 in
theorem ct_Meaning_linkTo_Me (l : Launch) (dC : Nat → ClassId) (dI : Nat → Nat → Nat) (cI cB cJ cZ cQ : ClassId) (N sz : Nat) (a : Nat → Nat) (v : Nat → Value) (hv_4 : v 4 = .ref (a 109)) (hv_5 : v 5 = .ref (a 110)) (v1 : Int32) (v2 : Int32) (s : ms) (y : (Unit × ms)) (hf : fn_Meaning_linkTo_Me N v1 v2 s = some y) : Met l yn_Meaning_linkTo (xw yn_Meaning_linkTo bn_Meaning_linkTo 6 none) ({ frames := 2, cells := 0, slots := 0, locals := 64 }) (dc_P (dC, dI) xcl (xt cI cB cJ cZ cQ) [.ref ((a 104)), .int v1, .int v2] sz (wC a v cI cB cJ cZ cQ s)) (xk_Qv (dC, dI) xcl (xt cI cB cJ cZ cQ) (fun _ : Unit => True) (fun u : Unit => (wC a v cI cB cJ cZ cQ y.2)) (va_A (wC a v cI cB cJ cZ cQ s) sz)) 0 0 (va_A (wC a v cI cB cJ cZ cQ s) sz) := by
  refine dc_of (QA := xk_Qv (dC, dI) xcl (xt cI cB cJ cZ cQ) (fun _ : Unit => True) (fun u : Unit => (wC a v cI cB cJ cZ cQ y.2))) (by decide) (Nat.le_of_ble_eq_true rfl) ?_
  intro p e s0 m below meth c hx hb hml hown hg hr hlocks hin hP hK hN A hA hD hT ls hl
  have hown : s0.vm.findClass rn_Meaning = some m.cls := hown
  obtain ⟨H, hH⟩ : ∃ z, z = s0.heap := ⟨_, rfl⟩
  rw [← hH] at hP
  have hS : va_S A s0.heap H [] := by rw [hH]; exact va_S.rf
  suffices kk : ∀ QQ : State → Prop, QQ = MQ below (xk_Qv (dC, dI) xcl (xt cI cB cJ cZ cQ) (fun _ : Unit => True) (fun u : Unit => (wC a v cI cB cJ cZ cQ y.2)) A) [.ref ((a 104)), .int v1, .int v2].toArray s0 0 0 A → dcC p l e ({ frames := 2, cells := 0, slots := 0, locals := 64 }) s0 m [.ref ((a 104)), .int v1, .int v2].toArray below meth c QQ (dC, dI) A (wC a v cI cB cJ cZ cQ s) 0 6 [(0, .ref ((a 104))), (1, .int v1), (2, .int v2)] [] by
    have k9 := kk _ rfl H [] ls hP hD hS hl
    rw [hH] at k9; exact k9
  clear hP hD hS hl hH H ls
  intro QQ hQQ
  have bl_100 : ∀ (x2 : Int32) (s : ms), bk_Meaning_linkTo_Me_100 N x2 s = some y → dcC p l e ({ frames := 2, cells := 0, slots := 0, locals := 64 }) s0 m [.ref ((a 104)), .int v1, .int v2].toArray below meth c QQ (dC, dI) A (wC a v cI cB cJ cZ cQ s) 100 6 [(0, .ref ((a 104))), (2, .int x2)] [] := by
    intro x2 s hf H locs ls hP hD hS hl
    unfold bk_Meaning_linkTo_Me_100 at hf
    refine lv_aload_n hx hb dn_Meaning_linkTo_100 rfl (lv_at hl 0 rfl) ?_
    refine va_get (D := (dC, dI)) (ci := 5) (v := .ref ((a 103))) (C := rn_Meaning) (T := fn_Meaning) (N := 17) hx hb hg in_Meaning hown hK hP 4 rfl rfl 0 (by decide) (hg _ wn_1_184) (fun _ h9 => h9) rfl dn_Meaning_linkTo_101 ?_
    refine lv_bipush (v := 23) hx hb dn_Meaning_linkTo_104 (by decide) ?_
    refine lv_iload_n hx hb dn_Meaning_linkTo_106 rfl (lv_at hl 1 rfl) ?_
    obtain ⟨q_1, hc_2, hf⟩ := dc_b hf
    refine dc_callv (dc_runV (ar := 2) (As := [.int 23, .int x2]) (rest := []) (ci := 4) (q0 := 3) ⟨hx, hb, hml, hown, hg⟩ hK hN hT hS hA (ct_Checker_refuse_Ch l dC dI cI cB cJ cZ cQ N H.size a v 23 x2 s q_1 hc_2) hP hD rfl rfl wn_4_201 wn_4_202 wn_4_203 wn_1_4 wn_4_204 rfl rfl (by decide +kernel) ⟨Nat.le_of_ble_eq_true rfl, Nat.le_of_ble_eq_true rfl⟩ rfl hl.1 rfl (Nat.le_of_ble_eq_true rfl) dn_Meaning_linkTo_107 ⟨Nat.le_of_ble_eq_true rfl, Nat.le_of_ble_eq_true rfl⟩) hP hD hS hA (fun _ H locs hw hP hD hS => ?_)
    refine lv_goto (tgt := 127) hx hb dn_Meaning_linkTo_110 (by decide) ?_
    rw [hQQ, ← Option.some.inj hf]
    exact xk_vret (w1 := fun u : Unit => (wC a v cI cB cJ cZ cQ q_1.2)) () hx hb hr hlocks hK hS dn_Meaning_linkTo_127 hP hD trivial (Nat.le_refl _) (Nat.le_refl _)
  intro H locs ls hP hD hS hl
  unfold fn_Meaning_linkTo_Me at hf
  refine lv_aload_n hx hb dn_Meaning_linkTo_0 rfl (lv_at hl 0 rfl) ?_
  refine va_get (D := (dC, dI)) (ci := 5) (v := .ref ((a 103))) (C := rn_Meaning) (T := fn_Meaning) (N := 17) hx hb hg in_Meaning hown hK hP 4 rfl rfl 0 (by decide) (hg _ wn_1_184) (fun _ h9 => h9) rfl dn_Meaning_linkTo_1 ?_
  obtain ⟨q_1, hc_2, hf⟩ := dc_b hf
  refine dc_calli (dc_runV (ar := 0) (As := []) (rest := []) (ci := 4) (q0 := 3) ⟨hx, hb, hml, hown, hg⟩ hK hN hT hS hA (ct_Checker_isOff_Ch l dC dI cI cB cJ cZ cQ N H.size a v s q_1 hc_2) hP hD rfl rfl wn_4_193 wn_4_194 wn_4_195 wn_1_4 wn_4_196 rfl rfl (by decide +kernel) ⟨Nat.le_of_ble_eq_true rfl, Nat.le_of_ble_eq_true rfl⟩ rfl hl.1 rfl (Nat.le_of_ble_eq_true rfl) dn_Meaning_linkTo_4 ⟨Nat.le_of_ble_eq_true rfl, Nat.le_of_ble_eq_true rfl⟩) hP hD hS hA (fun r_3 _ H locs hw hP hD hS => ?_)
  have hw : r_3 = q_1.1 := hw
  subst hw
  refine lv_if_eq (tgt := 11) hx hb dn_Meaning_linkTo_7 (by decide) (fun h => ?_) (fun h => ?_)
  · have hf := (if_pos h).symm.trans hf
    refine lv_aload_n hx hb dn_Meaning_linkTo_11 rfl (lv_at hl 0 rfl) ?_
    refine va_get (D := (dC, dI)) (ci := 5) (v := .ref ((a 110))) (C := rn_Meaning) (T := fn_Meaning) (N := 17) hx hb hg in_Meaning hown hK hP 4 rfl rfl 2 (by decide) (hg _ wn_1_186) (fun _ h9 => h9) (congrArg some hv_5) dn_Meaning_linkTo_12 ?_
    refine va_get (D := (dC, dI)) (ci := 11) (v := .int ((q_1.2.1 328 0))) (C := rn_Parts) (T := fn_Parts) (N := 15) hx hb hg in_Parts hown hK hP 10 rfl rfl 7 (by decide) (hg _ wn_2_151) (fun _ h9 => h9) rfl dn_Meaning_linkTo_15 ?_
    refine lv_iconst (v := 1) hx hb dn_Meaning_linkTo_18 (by decide) ?_
    refine lv_isub hx hb dn_Meaning_linkTo_19 ?_
    refine lv_istore_n (lv' := [(3, .int (((q_1.2.1 328 0) - 1))), (0, .ref ((a 104))), (1, .int v1), (2, .int v2)]) hx hb dn_Meaning_linkTo_20 rfl hl (by decide) rfl (fun ls hl => ?_)
    refine lv_iload_n hx hb dn_Meaning_linkTo_21 rfl (lv_at hl 0 rfl) ?_
    refine lv_if_ge (tgt := 26) hx hb dn_Meaning_linkTo_22 (by decide) (fun h => ?_) (fun h => ?_)
    · have hf := (if_pos h).symm.trans hf
      refine lv_aload_n hx hb dn_Meaning_linkTo_26 rfl (lv_at hl 1 rfl) ?_
      refine va_get (D := (dC, dI)) (ci := 5) (v := .ref ((a 110))) (C := rn_Meaning) (T := fn_Meaning) (N := 17) hx hb hg in_Meaning hown hK hP 4 rfl rfl 2 (by decide) (hg _ wn_1_186) (fun _ h9 => h9) (congrArg some hv_5) dn_Meaning_linkTo_27 ?_
      refine va_get (D := (dC, dI)) (ci := 11) (v := .ref ((a 329))) (C := rn_Parts) (T := fn_Parts) (N := 15) hx hb hg in_Parts hown hK hP 10 rfl rfl 8 (by decide) (hg _ wn_2_154) (fun _ h9 => h9) rfl dn_Meaning_linkTo_30 ?_
      refine lv_iload_n hx hb dn_Meaning_linkTo_33 rfl (lv_at hl 0 rfl) ?_
      obtain ⟨hg_4, hf⟩ := dc_g hf
      refine va_iald hx hb hK hP 67 0 rfl rfl hg_4 dn_Meaning_linkTo_34 ?_
      refine xk_ti (y := ((q_1.2.1 329) (Int32.toNatClampNeg (((q_1.2.1 328 0) - 1))))) rfl ?_
      refine lv_istore (lv' := [(4, .int (((q_1.2.1 329) (Int32.toNatClampNeg (((q_1.2.1 328 0) - 1)))))), (3, .int (((q_1.2.1 328 0) - 1))), (0, .ref ((a 104))), (1, .int v1), (2, .int v2)]) hx hb dn_Meaning_linkTo_35 hl (by decide) rfl (fun ls hl => ?_)
      refine lv_aload_n hx hb dn_Meaning_linkTo_37 rfl (lv_at hl 2 rfl) ?_
      refine va_get (D := (dC, dI)) (ci := 5) (v := .ref ((a 109))) (C := rn_Meaning) (T := fn_Meaning) (N := 17) hx hb hg in_Meaning hown hK hP 4 rfl rfl 1 (by decide) (hg _ wn_1_185) (fun _ h9 => h9) (congrArg some hv_4) dn_Meaning_linkTo_38 ?_
      refine lv_iload hx hb dn_Meaning_linkTo_41 (lv_at hl 0 rfl) ?_
      obtain ⟨q_5, hc_6, hf⟩ := dc_b hf
      refine dc_calli (dc_runV (ar := 1) (As := [.int (((q_1.2.1 329) (Int32.toNatClampNeg (((q_1.2.1 328 0) - 1)))))]) (rest := []) (ci := 10) (q0 := 9) ⟨hx, hb, hml, hown, hg⟩ hK hN hT hS hA (ct_Design_firstDecl_Ds l dC dI cI cB cJ cZ cQ N H.size a v (((q_1.2.1 329) (Int32.toNatClampNeg (((q_1.2.1 328 0) - 1))))) q_1.2 q_5 hc_6) hP hD rfl rfl wn_5_99 wn_5_100 wn_5_101 wn_1_10 wn_5_102 rfl rfl (by decide +kernel) ⟨Nat.le_of_ble_eq_true rfl, Nat.le_of_ble_eq_true rfl⟩ rfl hl.1 rfl (Nat.le_of_ble_eq_true rfl) dn_Meaning_linkTo_43 ⟨Nat.le_of_ble_eq_true rfl, Nat.le_of_ble_eq_true rfl⟩) hP hD hS hA (fun r_7 _ H locs hw hP hD hS => ?_)
      have hw : r_7 = q_5.1 := hw
      subst hw
      refine lv_istore (lv' := [(5, .int q_5.1), (4, .int (((q_1.2.1 329) (Int32.toNatClampNeg (((q_1.2.1 328 0) - 1)))))), (3, .int (((q_1.2.1 328 0) - 1))), (0, .ref ((a 104))), (1, .int v1), (2, .int v2)]) hx hb dn_Meaning_linkTo_46 hl (by decide) rfl (fun ls hl => ?_)
      refine lv_aload_n hx hb dn_Meaning_linkTo_48 rfl (lv_at hl 3 rfl) ?_
      refine lv_aload_n hx hb dn_Meaning_linkTo_49 rfl (lv_at hl 3 rfl) ?_
      refine va_get (D := (dC, dI)) (ci := 5) (v := .ref ((a 103))) (C := rn_Meaning) (T := fn_Meaning) (N := 17) hx hb hg in_Meaning hown hK hP 4 rfl rfl 0 (by decide) (hg _ wn_1_184) (fun _ h9 => h9) rfl dn_Meaning_linkTo_50 ?_
      refine lv_iload_n hx hb dn_Meaning_linkTo_53 rfl (lv_at hl 4 rfl) ?_
      refine lv_iload hx hb dn_Meaning_linkTo_54 (lv_at hl 0 rfl) ?_
      refine lv_iload hx hb dn_Meaning_linkTo_56 (lv_at hl 0 rfl) ?_
      refine lv_aload_n hx hb dn_Meaning_linkTo_58 rfl (lv_at hl 3 rfl) ?_
      refine va_get (D := (dC, dI)) (ci := 5) (v := .ref ((a 109))) (C := rn_Meaning) (T := fn_Meaning) (N := 17) hx hb hg in_Meaning hown hK hP 4 rfl rfl 1 (by decide) (hg _ wn_1_185) (fun _ h9 => h9) (congrArg some hv_4) dn_Meaning_linkTo_59 ?_
      refine lv_iload hx hb dn_Meaning_linkTo_62 (lv_at hl 1 rfl) ?_
      obtain ⟨q_8, hc_9, hf⟩ := dc_b hf
      refine dc_calli (dc_runV (ar := 1) (As := [.int (((q_1.2.1 329) (Int32.toNatClampNeg (((q_1.2.1 328 0) - 1)))))]) (rest := [.int q_5.1, .int q_5.1, .int v1, .ref ((a 103)), .ref ((a 104))]) (ci := 10) (q0 := 9) ⟨hx, hb, hml, hown, hg⟩ hK hN hT hS hA (ct_Design_portCount_Ds l dC dI cI cB cJ cZ cQ N H.size a v (((q_1.2.1 329) (Int32.toNatClampNeg (((q_1.2.1 328 0) - 1))))) q_5.2 q_8 hc_9) hP hD rfl rfl wn_5_87 wn_5_88 wn_5_89 wn_1_10 wn_5_90 rfl rfl (by decide +kernel) ⟨Nat.le_of_ble_eq_true rfl, Nat.le_of_ble_eq_true rfl⟩ rfl hl.1 rfl (Nat.le_of_ble_eq_true rfl) dn_Meaning_linkTo_64 ⟨Nat.le_of_ble_eq_true rfl, Nat.le_of_ble_eq_true rfl⟩) hP hD hS hA (fun r_10 _ H locs hw hP hD hS => ?_)
      have hw : r_10 = q_8.1 := hw
      subst hw
      refine lv_iadd hx hb dn_Meaning_linkTo_67 ?_
      obtain ⟨q_11, hc_12, hf⟩ := dc_b hf
      refine dc_calli (dc_runV (ar := 3) (As := [.int v1, .int q_5.1, .int ((q_5.1 + q_8.1))]) (rest := [.ref ((a 104))]) (ci := 4) (q0 := 3) ⟨hx, hb, hml, hown, hg⟩ hK hN hT hS hA (ct_Checker_declCalled_Ch l dC dI cI cB cJ cZ cQ N H.size a v v1 q_5.1 ((q_5.1 + q_8.1)) q_8.2 q_11 hc_12) hP hD rfl rfl wn_5_124 wn_5_125 wn_5_126 wn_1_4 wn_5_127 rfl rfl (by decide +kernel) ⟨Nat.le_of_ble_eq_true rfl, Nat.le_of_ble_eq_true rfl⟩ rfl hl.1 rfl (Nat.le_of_ble_eq_true rfl) dn_Meaning_linkTo_68 ⟨Nat.le_of_ble_eq_true rfl, Nat.le_of_ble_eq_true rfl⟩) hP hD hS hA (fun r_13 _ H locs hw hP hD hS => ?_)
      have hw : r_13 = q_11.1 := hw
      subst hw
      refine va_put (D := (dC, dI)) (ci := 5) (v := .int q_11.1) (ty := .int) (C := rn_Meaning) (T := fn_Meaning) (N := 17) hx hb hg in_Meaning tn_Meaning tk_Meaning nn_Meaning hown hK hP hD hS 4 rfl rfl 8 (by decide) (hg _ wn_1_192) (fun _ h9 => h9) rfl (tk_Meaning 8 (by decide)) rfl rfl (Nat.le_of_ble_eq_true rfl) dn_Meaning_linkTo_71 (fun H locs hP hD hS => ?_)
      have hP := wC_P_252 hP
      have hD := wC_D_252 hD
      refine lv_aload_n hx hb dn_Meaning_linkTo_74 rfl (lv_at hl 3 rfl) ?_
      refine va_get (D := (dC, dI)) (ci := 5) (v := .int q_11.1) (C := rn_Meaning) (T := fn_Meaning) (N := 17) hx hb hg in_Meaning hown hK hP 4 rfl rfl 8 (by decide) (hg _ wn_1_192) (fun _ h9 => h9) rfl dn_Meaning_linkTo_75 ?_
      refine lv_iconst (v := (-1)) hx hb dn_Meaning_linkTo_78 (by decide) ?_
      refine lv_icmp_eq (tgt := 100) hx hb dn_Meaning_linkTo_79 (by decide) (fun h => ?_) (fun h => ?_)
      · have hf := (if_pos h).symm.trans hf
        exact bl_100 v2 (upI q_11.2 252 (fun _ => q_11.1)) hf H locs ls hP hD hS (lv_sub hl [3, 5] rfl)
      · have hf := (if_neg h).symm.trans hf
        refine lv_aload_n hx hb dn_Meaning_linkTo_82 rfl (lv_at hl 3 rfl) ?_
        refine va_get (D := (dC, dI)) (ci := 5) (v := .ref ((a 110))) (C := rn_Meaning) (T := fn_Meaning) (N := 17) hx hb hg in_Meaning hown hK hP 4 rfl rfl 2 (by decide) (hg _ wn_1_186) (fun _ h9 => h9) (congrArg some hv_5) dn_Meaning_linkTo_83 ?_
        refine lv_iload_n hx hb dn_Meaning_linkTo_86 rfl (lv_at hl 2 rfl) ?_
        refine lv_aload_n hx hb dn_Meaning_linkTo_87 rfl (lv_at hl 3 rfl) ?_
        refine va_get (D := (dC, dI)) (ci := 5) (v := .int q_11.1) (C := rn_Meaning) (T := fn_Meaning) (N := 17) hx hb hg in_Meaning hown hK hP 4 rfl rfl 8 (by decide) (hg _ wn_1_192) (fun _ h9 => h9) rfl dn_Meaning_linkTo_88 ?_
        refine lv_iload hx hb dn_Meaning_linkTo_91 (lv_at hl 0 rfl) ?_
        refine lv_isub hx hb dn_Meaning_linkTo_93 ?_
        obtain ⟨q_14, hc_15, hf⟩ := dc_b hf
        refine dc_calli (dc_runV (ar := 2) (As := [.int (((q_1.2.1 328 0) - 1)), .int ((q_11.1 - q_5.1))]) (rest := []) (ci := 11) (q0 := 10) ⟨hx, hb, hml, hown, hg⟩ hK hN hT hS hA (ct_Parts_isLinked_Ps l dC dI cI cB cJ cZ cQ N H.size a v (((q_1.2.1 328 0) - 1)) ((q_11.1 - q_5.1)) (upI q_11.2 252 (fun _ => q_11.1)) q_14 hc_15) hP hD rfl rfl wn_5_129 wn_5_130 wn_5_131 wn_1_11 wn_5_132 rfl rfl (by decide +kernel) ⟨Nat.le_of_ble_eq_true rfl, Nat.le_of_ble_eq_true rfl⟩ rfl hl.1 rfl (Nat.le_of_ble_eq_true rfl) dn_Meaning_linkTo_94 ⟨Nat.le_of_ble_eq_true rfl, Nat.le_of_ble_eq_true rfl⟩) hP hD hS hA (fun r_16 _ H locs hw hP hD hS => ?_)
        have hw : r_16 = q_14.1 := hw
        subst hw
        refine lv_if_eq (tgt := 113) hx hb dn_Meaning_linkTo_97 (by decide) (fun h => ?_) (fun h => ?_)
        · have hf := (if_pos h).symm.trans hf
          refine lv_aload_n hx hb dn_Meaning_linkTo_113 rfl (lv_at hl 3 rfl) ?_
          refine va_get (D := (dC, dI)) (ci := 5) (v := .ref ((a 110))) (C := rn_Meaning) (T := fn_Meaning) (N := 17) hx hb hg in_Meaning hown hK hP 4 rfl rfl 2 (by decide) (hg _ wn_1_186) (fun _ h9 => h9) (congrArg some hv_5) dn_Meaning_linkTo_114 ?_
          refine lv_aload_n hx hb dn_Meaning_linkTo_117 rfl (lv_at hl 3 rfl) ?_
          refine va_get (D := (dC, dI)) (ci := 5) (v := .int ((q_14.2.1 252 0))) (C := rn_Meaning) (T := fn_Meaning) (N := 17) hx hb hg in_Meaning hown hK hP 4 rfl rfl 8 (by decide) (hg _ wn_1_192) (fun _ h9 => h9) rfl dn_Meaning_linkTo_118 ?_
          refine lv_iload hx hb dn_Meaning_linkTo_121 (lv_at hl 0 rfl) ?_
          refine lv_isub hx hb dn_Meaning_linkTo_123 ?_
          obtain ⟨q_17, hc_18, hf⟩ := dc_b hf
          refine dc_callv (dc_runV (ar := 1) (As := [.int (((q_14.2.1 252 0) - q_5.1))]) (rest := []) (ci := 11) (q0 := 10) ⟨hx, hb, hml, hown, hg⟩ hK hN hT hS hA (ct_Parts_addLink_Ps l dC dI cI cB cJ cZ cQ N H.size a v (((q_14.2.1 252 0) - q_5.1)) q_14.2 q_17 hc_18) hP hD rfl rfl wn_5_133 wn_5_134 wn_5_135 wn_1_11 wn_5_136 rfl rfl (by decide +kernel) ⟨Nat.le_of_ble_eq_true rfl, Nat.le_of_ble_eq_true rfl⟩ rfl hl.1 rfl (Nat.le_of_ble_eq_true rfl) dn_Meaning_linkTo_124 ⟨Nat.le_of_ble_eq_true rfl, Nat.le_of_ble_eq_true rfl⟩) hP hD hS hA (fun _ H locs hw hP hD hS => ?_)
          rw [hQQ, ← Option.some.inj hf]
          exact xk_vret (w1 := fun u : Unit => (wC a v cI cB cJ cZ cQ q_17.2)) () hx hb hr hlocks hK hS dn_Meaning_linkTo_127 hP hD trivial (Nat.le_refl _) (Nat.le_refl _)
        · have hf := (if_neg h).symm.trans hf
          exact bl_100 v2 q_14.2 hf H locs ls hP hD hS (lv_sub hl [3, 5] rfl)
    · have hf := (if_neg h).symm.trans hf
      rw [hQQ, ← Option.some.inj hf]
      exact xk_vret (w1 := fun u : Unit => (wC a v cI cB cJ cZ cQ q_1.2)) () hx hb hr hlocks hK hS dn_Meaning_linkTo_25 hP hD trivial (Nat.le_refl _) (Nat.le_refl _)
  · have hf := (if_neg h).symm.trans hf
    rw [hQQ, ← Option.some.inj hf]
    exact xk_vret (w1 := fun u : Unit => (wC a v cI cB cJ cZ cQ q_1.2)) () hx hb hr hlocks hK hS dn_Meaning_linkTo_10 hP hD trivial (Nat.le_refl _) (Nat.le_refl _)
def bk_Grammar_link_Gr_52 (N : Nat) (s : ms) : Option (Unit × ms) :=
  (fn_Tokens_take_Tk N s).bind (fun q_1 => (fn_Tokens_open_Tk N 40 q_1.2).bind (fun q_3 => (fn_Grammar_expFor_Gr N 200 q_3.2).bind (fun q_5 => some ((), q_5.2))))
def fn_Grammar_link_Gr (N : Nat) (s : ms) : Option (Unit × ms) :=
  (fn_Tokens_need_Tk N 46 (upI s 267 (fun _ => (s.1 215 0)))).bind (fun q_1 => (fn_Tokens_due_Tk N 2 q_1.2).bind (fun q_3 => if q_3.1 = 0 then (bk_Grammar_link_Gr_52 N q_3.2) else ((fn_Meaning_linkTo_Me N ((q_3.2.1 216 0)) ((q_3.2.1 215 0)) q_3.2).bind (fun q_6 => bk_Grammar_link_Gr_52 N q_6.2))))
set_option maxHeartbeats 8000000 in
set_option maxRecDepth 100000 in
theorem ct_Grammar_link_Gr (l : Launch) (dC : Nat → ClassId) (dI : Nat → Nat → Nat) (cI cB cJ cZ cQ : ClassId) (N sz : Nat) (a : Nat → Nat) (v : Nat → Value) (hv_3 : v 3 = .ref (a 111)) (hv_4 : v 4 = .ref (a 109)) (hv_5 : v 5 = .ref (a 110)) (s : ms) (y : (Unit × ms)) (hf : fn_Grammar_link_Gr N s = some y) : Met l yn_Grammar_link (xw yn_Grammar_link bn_Grammar_link 1 none) ({ frames := 3, cells := 0, slots := 0, locals := 89 }) (dc_P (dC, dI) xcl (xt cI cB cJ cZ cQ) [.ref ((a 105))] sz (wC a v cI cB cJ cZ cQ s)) (xk_Qv (dC, dI) xcl (xt cI cB cJ cZ cQ) (fun _ : Unit => True) (fun u : Unit => (wC a v cI cB cJ cZ cQ y.2)) (va_A (wC a v cI cB cJ cZ cQ s) sz)) 0 0 (va_A (wC a v cI cB cJ cZ cQ s) sz) := by
  refine dc_of (QA := xk_Qv (dC, dI) xcl (xt cI cB cJ cZ cQ) (fun _ : Unit => True) (fun u : Unit => (wC a v cI cB cJ cZ cQ y.2))) (by decide) (Nat.le_of_ble_eq_true rfl) ?_
  intro p e s0 m below meth c hx hb hml hown hg hr hlocks hin hP hK hN A hA hD hT ls hl
  have hown : s0.vm.findClass rn_Grammar = some m.cls := hown
  obtain ⟨H, hH⟩ : ∃ z, z = s0.heap := ⟨_, rfl⟩
  rw [← hH] at hP
  have hS : va_S A s0.heap H [] := by rw [hH]; exact va_S.rf
  suffices kk : ∀ QQ : State → Prop, QQ = MQ below (xk_Qv (dC, dI) xcl (xt cI cB cJ cZ cQ) (fun _ : Unit => True) (fun u : Unit => (wC a v cI cB cJ cZ cQ y.2)) A) [.ref ((a 105))].toArray s0 0 0 A → dcC p l e ({ frames := 3, cells := 0, slots := 0, locals := 89 }) s0 m [.ref ((a 105))].toArray below meth c QQ (dC, dI) A (wC a v cI cB cJ cZ cQ s) 0 1 [(0, .ref ((a 105)))] [] by
    have k9 := kk _ rfl H [] ls hP hD hS hl
    rw [hH] at k9; exact k9
  clear hP hD hS hl hH H ls
  intro QQ hQQ
  have bl_52 : ∀ (s : ms), bk_Grammar_link_Gr_52 N s = some y → dcC p l e ({ frames := 3, cells := 0, slots := 0, locals := 89 }) s0 m [.ref ((a 105))].toArray below meth c QQ (dC, dI) A (wC a v cI cB cJ cZ cQ s) 52 1 [(0, .ref ((a 105)))] [] := by
    intro s hf H locs ls hP hD hS hl
    unfold bk_Grammar_link_Gr_52 at hf
    refine lv_aload_n hx hb dn_Grammar_link_52 rfl (lv_at hl 0 rfl) ?_
    refine va_get (D := (dC, dI)) (ci := 6) (v := .ref ((a 101))) (C := rn_Grammar) (T := fn_Grammar) (N := 15) hx hb hg in_Grammar hown hK hP 5 rfl rfl 0 (by decide) (hg _ wn_2_0) (fun _ h9 => h9) rfl dn_Grammar_link_53 ?_
    obtain ⟨q_1, hc_2, hf⟩ := dc_b hf
    refine dc_callv (dc_runV (ar := 0) (As := []) (rest := []) (ci := 2) (q0 := 1) ⟨hx, hb, hml, hown, hg⟩ hK hN hT hS hA (ct_Tokens_take_Tk l dC dI cI cB cJ cZ cQ N H.size a v s q_1 hc_2) hP hD rfl rfl wn_4_213 wn_4_149 wn_4_150 wn_1_2 wn_4_151 rfl rfl (by decide +kernel) ⟨Nat.le_of_ble_eq_true rfl, Nat.le_of_ble_eq_true rfl⟩ rfl hl.1 rfl (Nat.le_of_ble_eq_true rfl) dn_Grammar_link_56 ⟨Nat.le_of_ble_eq_true rfl, Nat.le_of_ble_eq_true rfl⟩) hP hD hS hA (fun _ H locs hw hP hD hS => ?_)
    refine lv_aload_n hx hb dn_Grammar_link_59 rfl (lv_at hl 0 rfl) ?_
    refine va_get (D := (dC, dI)) (ci := 6) (v := .ref ((a 101))) (C := rn_Grammar) (T := fn_Grammar) (N := 15) hx hb hg in_Grammar hown hK hP 5 rfl rfl 0 (by decide) (hg _ wn_2_0) (fun _ h9 => h9) rfl dn_Grammar_link_60 ?_
    refine lv_bipush (v := 40) hx hb dn_Grammar_link_63 (by decide) ?_
    obtain ⟨q_3, hc_4, hf⟩ := dc_b hf
    refine dc_callv (dc_runV (ar := 1) (As := [.int 40]) (rest := []) (ci := 2) (q0 := 1) ⟨hx, hb, hml, hown, hg⟩ hK hN hT hS hA (ct_Tokens_open_Tk l dC dI cI cB cJ cZ cQ N H.size a v 40 q_1.2 q_3 hc_4) hP hD rfl rfl wn_4_214 wn_4_215 wn_4_216 wn_1_2 wn_4_217 rfl rfl (by decide +kernel) ⟨Nat.le_of_ble_eq_true rfl, Nat.le_of_ble_eq_true rfl⟩ rfl hl.1 rfl (Nat.le_of_ble_eq_true rfl) dn_Grammar_link_65 ⟨Nat.le_of_ble_eq_true rfl, Nat.le_of_ble_eq_true rfl⟩) hP hD hS hA (fun _ H locs hw hP hD hS => ?_)
    refine lv_aload_n hx hb dn_Grammar_link_68 rfl (lv_at hl 0 rfl) ?_
    refine lv_sipush (v := 200) hx hb dn_Grammar_link_69 (by decide) ?_
    obtain ⟨q_5, hc_6, hf⟩ := dc_b hf
    refine dc_callv (dc_runV (ar := 1) (As := [.int 200]) (rest := []) (ci := 6) (q0 := 5) ⟨hx, hb, hml, hown, hg⟩ hK hN hT hS hA (ct_Grammar_expFor_Gr l dC dI cI cB cJ cZ cQ N H.size a v hv_3 200 q_3.2 q_5 hc_6) hP hD rfl rfl wn_5_46 wn_5_48 sn_Grammar_expFor wn_1_5 wn_5_49 rfl rfl (by decide +kernel) ⟨Nat.le_of_ble_eq_true rfl, Nat.le_of_ble_eq_true rfl⟩ rfl hl.1 rfl (Nat.le_of_ble_eq_true rfl) dn_Grammar_link_72 ⟨Nat.le_of_ble_eq_true rfl, Nat.le_of_ble_eq_true rfl⟩) hP hD hS hA (fun _ H locs hw hP hD hS => ?_)
    rw [hQQ, ← Option.some.inj hf]
    exact xk_vret (w1 := fun u : Unit => (wC a v cI cB cJ cZ cQ q_5.2)) () hx hb hr hlocks hK hS dn_Grammar_link_75 hP hD trivial (Nat.le_refl _) (Nat.le_refl _)
  intro H locs ls hP hD hS hl
  unfold fn_Grammar_link_Gr at hf
  refine lv_aload_n hx hb dn_Grammar_link_0 rfl (lv_at hl 0 rfl) ?_
  refine lv_aload_n hx hb dn_Grammar_link_1 rfl (lv_at hl 0 rfl) ?_
  refine va_get (D := (dC, dI)) (ci := 6) (v := .ref ((a 101))) (C := rn_Grammar) (T := fn_Grammar) (N := 15) hx hb hg in_Grammar hown hK hP 5 rfl rfl 0 (by decide) (hg _ wn_2_0) (fun _ h9 => h9) rfl dn_Grammar_link_2 ?_
  refine va_get (D := (dC, dI)) (ci := 2) (v := .int ((s.1 215 0))) (C := rn_Tokens) (T := fn_Tokens) (N := 9) hx hb hg in_Tokens hown hK hP 1 rfl rfl 4 (by decide) (hg _ wn_1_52) (fun _ h9 => h9) rfl dn_Grammar_link_5 ?_
  refine va_put (D := (dC, dI)) (ci := 6) (v := .int ((s.1 215 0))) (ty := .int) (C := rn_Grammar) (T := fn_Grammar) (N := 15) hx hb hg in_Grammar tn_Grammar tk_Grammar nn_Grammar hown hK hP hD hS 5 rfl rfl 6 (by decide) (hg _ wn_2_6) (fun _ h9 => h9) rfl (tk_Grammar 6 (by decide)) rfl rfl (Nat.le_of_ble_eq_true rfl) dn_Grammar_link_8 (fun H locs hP hD hS => ?_)
  have hP := wC_P_267 hP
  have hD := wC_D_267 hD
  refine lv_aload_n hx hb dn_Grammar_link_11 rfl (lv_at hl 0 rfl) ?_
  refine va_get (D := (dC, dI)) (ci := 6) (v := .ref ((a 101))) (C := rn_Grammar) (T := fn_Grammar) (N := 15) hx hb hg in_Grammar hown hK hP 5 rfl rfl 0 (by decide) (hg _ wn_2_0) (fun _ h9 => h9) rfl dn_Grammar_link_12 ?_
  refine lv_bipush (v := 46) hx hb dn_Grammar_link_15 (by decide) ?_
  obtain ⟨q_1, hc_2, hf⟩ := dc_b hf
  refine dc_callv (dc_runV (ar := 1) (As := [.int 46]) (rest := []) (ci := 2) (q0 := 1) ⟨hx, hb, hml, hown, hg⟩ hK hN hT hS hA (ct_Tokens_need_Tk l dC dI cI cB cJ cZ cQ N H.size a v 46 (upI s 267 (fun _ => (s.1 215 0))) q_1 hc_2) hP hD rfl rfl wn_4_173 wn_4_174 wn_4_175 wn_1_2 wn_4_176 rfl rfl (by decide +kernel) ⟨Nat.le_of_ble_eq_true rfl, Nat.le_of_ble_eq_true rfl⟩ rfl hl.1 rfl (Nat.le_of_ble_eq_true rfl) dn_Grammar_link_17 ⟨Nat.le_of_ble_eq_true rfl, Nat.le_of_ble_eq_true rfl⟩) hP hD hS hA (fun _ H locs hw hP hD hS => ?_)
  refine lv_aload_n hx hb dn_Grammar_link_20 rfl (lv_at hl 0 rfl) ?_
  refine va_get (D := (dC, dI)) (ci := 6) (v := .ref ((a 101))) (C := rn_Grammar) (T := fn_Grammar) (N := 15) hx hb hg in_Grammar hown hK hP 5 rfl rfl 0 (by decide) (hg _ wn_2_0) (fun _ h9 => h9) rfl dn_Grammar_link_21 ?_
  refine lv_iconst (v := 2) hx hb dn_Grammar_link_24 (by decide) ?_
  obtain ⟨q_3, hc_4, hf⟩ := dc_b hf
  refine dc_calli (dc_runV (ar := 1) (As := [.int 2]) (rest := []) (ci := 2) (q0 := 1) ⟨hx, hb, hml, hown, hg⟩ hK hN hT hS hA (ct_Tokens_due_Tk l dC dI cI cB cJ cZ cQ N H.size a v 2 q_1.2 q_3 hc_4) hP hD rfl rfl wn_4_185 wn_4_186 wn_4_187 wn_1_2 wn_4_188 rfl rfl (by decide +kernel) ⟨Nat.le_of_ble_eq_true rfl, Nat.le_of_ble_eq_true rfl⟩ rfl hl.1 rfl (Nat.le_of_ble_eq_true rfl) dn_Grammar_link_25 ⟨Nat.le_of_ble_eq_true rfl, Nat.le_of_ble_eq_true rfl⟩) hP hD hS hA (fun r_5 _ H locs hw hP hD hS => ?_)
  have hw : r_5 = q_3.1 := hw
  subst hw
  refine lv_if_eq (tgt := 52) hx hb dn_Grammar_link_28 (by decide) (fun h => ?_) (fun h => ?_)
  · have hf := (if_pos h).symm.trans hf
    exact bl_52 q_3.2 hf H locs ls hP hD hS hl
  · have hf := (if_neg h).symm.trans hf
    refine lv_aload_n hx hb dn_Grammar_link_31 rfl (lv_at hl 0 rfl) ?_
    refine va_get (D := (dC, dI)) (ci := 6) (v := .ref ((a 104))) (C := rn_Grammar) (T := fn_Grammar) (N := 15) hx hb hg in_Grammar hown hK hP 5 rfl rfl 2 (by decide) (hg _ wn_2_2) (fun _ h9 => h9) rfl dn_Grammar_link_32 ?_
    refine lv_aload_n hx hb dn_Grammar_link_35 rfl (lv_at hl 0 rfl) ?_
    refine va_get (D := (dC, dI)) (ci := 6) (v := .ref ((a 101))) (C := rn_Grammar) (T := fn_Grammar) (N := 15) hx hb hg in_Grammar hown hK hP 5 rfl rfl 0 (by decide) (hg _ wn_2_0) (fun _ h9 => h9) rfl dn_Grammar_link_36 ?_
    refine va_get (D := (dC, dI)) (ci := 2) (v := .int ((q_3.2.1 216 0))) (C := rn_Tokens) (T := fn_Tokens) (N := 9) hx hb hg in_Tokens hown hK hP 1 rfl rfl 5 (by decide) (hg _ wn_1_54) (fun _ h9 => h9) rfl dn_Grammar_link_39 ?_
    refine lv_aload_n hx hb dn_Grammar_link_42 rfl (lv_at hl 0 rfl) ?_
    refine va_get (D := (dC, dI)) (ci := 6) (v := .ref ((a 101))) (C := rn_Grammar) (T := fn_Grammar) (N := 15) hx hb hg in_Grammar hown hK hP 5 rfl rfl 0 (by decide) (hg _ wn_2_0) (fun _ h9 => h9) rfl dn_Grammar_link_43 ?_
    refine va_get (D := (dC, dI)) (ci := 2) (v := .int ((q_3.2.1 215 0))) (C := rn_Tokens) (T := fn_Tokens) (N := 9) hx hb hg in_Tokens hown hK hP 1 rfl rfl 4 (by decide) (hg _ wn_1_52) (fun _ h9 => h9) rfl dn_Grammar_link_46 ?_
    obtain ⟨q_6, hc_7, hf⟩ := dc_b hf
    refine dc_callv (dc_runV (ar := 2) (As := [.int ((q_3.2.1 216 0)), .int ((q_3.2.1 215 0))]) (rest := []) (ci := 5) (q0 := 4) ⟨hx, hb, hml, hown, hg⟩ hK hN hT hS hA (ct_Meaning_linkTo_Me l dC dI cI cB cJ cZ cQ N H.size a v hv_4 hv_5 ((q_3.2.1 216 0)) ((q_3.2.1 215 0)) q_3.2 q_6 hc_7) hP hD rfl rfl wn_5_120 wn_5_121 wn_5_122 wn_1_6 wn_5_123 rfl rfl (by decide +kernel) ⟨Nat.le_of_ble_eq_true rfl, Nat.le_of_ble_eq_true rfl⟩ rfl hl.1 rfl (Nat.le_of_ble_eq_true rfl) dn_Grammar_link_49 ⟨Nat.le_of_ble_eq_true rfl, Nat.le_of_ble_eq_true rfl⟩) hP hD hS hA (fun _ H locs hw hP hD hS => ?_)
    exact bl_52 q_6.2 hf H locs ls hP hD hS hl
def bd_Parts_isLinked_Pc_7 (N : Nat) (k_7 : Int32 → Int32 → ms → Option (Int32 × ms)) (x2 : Int32) (x3 : Int32) (s : ms) : Option (Int32 × ms) :=
  if (s.1 382 0) ≤ x3 then (some (0, s)) else (if (x3 < 0 ∨ 10923 ≤ Int32.toNatClampNeg x3) then none else if ((s.1 383) (Int32.toNatClampNeg x3)) = x2 then (some (1, s)) else (k_7 x2 ((x3 + 1)) s))
def hd_Parts_isLinked_Pc_7 (N : Nat) : Nat → Int32 → Int32 → ms → Option (Int32 × ms)
  | 0, _, _, _ => none
  | n + 1, x2, x3, s => bd_Parts_isLinked_Pc_7 N (hd_Parts_isLinked_Pc_7 N n) x2 x3 s
def fn_Parts_isLinked_Pc (N : Nat) (v1 : Int32) (v2 : Int32) (s : ms) : Option (Int32 × ms) :=
  if (v1 < 0 ∨ 10923 ≤ Int32.toNatClampNeg v1) then none else hd_Parts_isLinked_Pc_7 N N v2 (((s.1 381) (Int32.toNatClampNeg v1))) s
set_option maxHeartbeats 8000000 in
set_option maxRecDepth 100000 in
theorem ct_Parts_isLinked_Pc (l : Launch) (dC : Nat → ClassId) (dI : Nat → Nat → Nat) (cI cB cJ cZ cQ : ClassId) (N sz : Nat) (a : Nat → Nat) (v : Nat → Value) (v1 : Int32) (v2 : Int32) (s : ms) (y : (Int32 × ms)) (hf : fn_Parts_isLinked_Pc N v1 v2 s = some y) : Met l yn_Parts_isLinked (xw yn_Parts_isLinked bn_Parts_isLinked 4 (some .boolean)) ({ frames := 0, cells := 0, slots := 0, locals := 0 }) (dc_P (dC, dI) xcl (xt cI cB cJ cZ cQ) [.ref ((a 114)), .int v1, .int v2] sz (wC a v cI cB cJ cZ cQ s)) (xk_Qi (dC, dI) xcl (xt cI cB cJ cZ cQ) (fun (r : Int32) (_ : Unit) => r = y.1) (fun u : Unit => (wC a v cI cB cJ cZ cQ y.2)) (va_A (wC a v cI cB cJ cZ cQ s) sz)) 0 0 (va_A (wC a v cI cB cJ cZ cQ s) sz) := by
  refine dc_of (QA := xk_Qi (dC, dI) xcl (xt cI cB cJ cZ cQ) (fun (r : Int32) (_ : Unit) => r = y.1) (fun u : Unit => (wC a v cI cB cJ cZ cQ y.2))) (by decide) (Nat.le_of_ble_eq_true rfl) ?_
  intro p e s0 m below meth c hx hb hml hown hg hr hlocks hin hP hK hN A hA hD hT ls hl
  have hown : s0.vm.findClass rn_Parts = some m.cls := hown
  obtain ⟨H, hH⟩ : ∃ z, z = s0.heap := ⟨_, rfl⟩
  rw [← hH] at hP
  have hS : va_S A s0.heap H [] := by rw [hH]; exact va_S.rf
  suffices kk : ∀ QQ : State → Prop, QQ = MQ below (xk_Qi (dC, dI) xcl (xt cI cB cJ cZ cQ) (fun (r : Int32) (_ : Unit) => r = y.1) (fun u : Unit => (wC a v cI cB cJ cZ cQ y.2)) A) [.ref ((a 114)), .int v1, .int v2].toArray s0 0 0 A → dcC p l e ({ frames := 0, cells := 0, slots := 0, locals := 0 }) s0 m [.ref ((a 114)), .int v1, .int v2].toArray below meth c QQ (dC, dI) A (wC a v cI cB cJ cZ cQ s) 0 4 [(0, .ref ((a 114))), (1, .int v1), (2, .int v2)] [] by
    have k9 := kk _ rfl H [] ls hP hD hS hl
    rw [hH] at k9; exact k9
  clear hP hD hS hl hH H ls
  intro QQ hQQ
  have hd_7 : ∀ (n : Nat) (x2 : Int32) (x3 : Int32) (s : ms), hd_Parts_isLinked_Pc_7 N n x2 x3 s = some y → dcC p l e ({ frames := 0, cells := 0, slots := 0, locals := 0 }) s0 m [.ref ((a 114)), .int v1, .int v2].toArray below meth c QQ (dC, dI) A (wC a v cI cB cJ cZ cQ s) 7 4 [(0, .ref ((a 114))), (2, .int x2), (3, .int x3)] [] := by
    intro n
    induction n with
    | zero => intro x2 x3 s hf; cases hf
    | succ n ih =>
      intro x2 x3 s hf H locs ls hP hD hS hl
      have hf : bd_Parts_isLinked_Pc_7 N (hd_Parts_isLinked_Pc_7 N n) x2 x3 s = some y := hf
      have hk_7 := ih
      generalize hd_Parts_isLinked_Pc_7 N n = k_7 at hf hk_7
      unfold bd_Parts_isLinked_Pc_7 at hf
      refine lv_iload_n hx hb dn_Parts_isLinked_7 rfl (lv_at hl 2 rfl) ?_
      refine lv_aload_n hx hb dn_Parts_isLinked_8 rfl (lv_at hl 0 rfl) ?_
      refine va_get (D := (dC, dI)) (ci := 11) (v := .int ((s.1 382 0))) (C := rn_Parts) (T := fn_Parts) (N := 15) hx hb hg in_Parts hown hK hP 14 rfl rfl 11 (by decide) (hg _ wn_2_162) (fun _ h9 => h9) rfl dn_Parts_isLinked_9 ?_
      refine lv_icmp_ge (tgt := 33) hx hb dn_Parts_isLinked_12 (by decide) (fun h => ?_) (fun h => ?_)
      · have hf := (if_pos h).symm.trans hf
        refine lv_iconst (v := 0) hx hb dn_Parts_isLinked_33 (by decide) ?_
        rw [hQQ, ← Option.some.inj hf]
        exact xk_zret (w1 := fun u : Unit => (wC a v cI cB cJ cZ cQ s)) () hx hb hr rfl hlocks hK hS dn_Parts_isLinked_34 hP hD rfl (Nat.le_refl _) (Nat.le_refl _)
      · have hf := (if_neg h).symm.trans hf
        refine lv_aload_n hx hb dn_Parts_isLinked_15 rfl (lv_at hl 0 rfl) ?_
        refine va_get (D := (dC, dI)) (ci := 11) (v := .ref ((a 383))) (C := rn_Parts) (T := fn_Parts) (N := 15) hx hb hg in_Parts hown hK hP 14 rfl rfl 12 (by decide) (hg _ wn_2_164) (fun _ h9 => h9) rfl dn_Parts_isLinked_16 ?_
        refine lv_iload_n hx hb dn_Parts_isLinked_19 rfl (lv_at hl 2 rfl) ?_
        obtain ⟨hg_1, hf⟩ := dc_g hf
        refine va_iald hx hb hK hP 104 0 rfl rfl hg_1 dn_Parts_isLinked_20 ?_
        refine xk_ti (y := ((s.1 383) (Int32.toNatClampNeg x3))) rfl ?_
        refine lv_iload_n hx hb dn_Parts_isLinked_21 rfl (lv_at hl 1 rfl) ?_
        refine lv_icmp_ne (tgt := 27) hx hb dn_Parts_isLinked_22 (by decide) (fun h => ?_) (fun h => ?_)
        · have hf := (if_neg h).symm.trans hf
          refine lv_iinc (v := (x3 + 1)) (lv' := [(3, .int ((x3 + 1))), (0, .ref ((a 114))), (2, .int x2)]) hx hb dn_Parts_isLinked_27 hl (k := 2) rfl (dc_inc (by decide)) (by decide) rfl (fun ls hl => ?_)
          refine lv_goto (tgt := 7) hx hb dn_Parts_isLinked_30 (by decide) ?_
          exact hk_7 x2 ((x3 + 1)) s hf H locs ls hP hD hS (lv_sub hl [1, 2, 0] rfl)
        · have hf := (if_pos h).symm.trans hf
          refine lv_iconst (v := 1) hx hb dn_Parts_isLinked_25 (by decide) ?_
          rw [hQQ, ← Option.some.inj hf]
          exact xk_zret (w1 := fun u : Unit => (wC a v cI cB cJ cZ cQ s)) () hx hb hr rfl hlocks hK hS dn_Parts_isLinked_26 hP hD rfl (Nat.le_refl _) (Nat.le_refl _)
  intro H locs ls hP hD hS hl
  unfold fn_Parts_isLinked_Pc at hf
  refine lv_aload_n hx hb dn_Parts_isLinked_0 rfl (lv_at hl 0 rfl) ?_
  refine va_get (D := (dC, dI)) (ci := 11) (v := .ref ((a 381))) (C := rn_Parts) (T := fn_Parts) (N := 15) hx hb hg in_Parts hown hK hP 14 rfl rfl 10 (by decide) (hg _ wn_2_159) (fun _ h9 => h9) rfl dn_Parts_isLinked_1 ?_
  refine lv_iload_n hx hb dn_Parts_isLinked_4 rfl (lv_at hl 1 rfl) ?_
  obtain ⟨hg_1, hf⟩ := dc_g hf
  refine va_iald hx hb hK hP 103 0 rfl rfl hg_1 dn_Parts_isLinked_5 ?_
  refine xk_ti (y := ((s.1 381) (Int32.toNatClampNeg v1))) rfl ?_
  refine lv_istore_n (lv' := [(3, .int (((s.1 381) (Int32.toNatClampNeg v1)))), (0, .ref ((a 114))), (1, .int v1), (2, .int v2)]) hx hb dn_Parts_isLinked_6 rfl hl (by decide) rfl (fun ls hl => ?_)
  exact hd_7 N v2 (((s.1 381) (Int32.toNatClampNeg v1))) s hf H locs ls hP hD hS (lv_sub hl [1, 3, 0] rfl)
def fn_Parts_addLink_Pc (N : Nat) (v1 : Int32) (s : ms) : Option (Unit × ms) :=
  if (s.1 382 0) < 10923 then (if ((s.1 382 0) < 0 ∨ 10923 ≤ Int32.toNatClampNeg ((s.1 382 0))) then none else if ((s.1 382 0) < 0 ∨ 10923 ≤ Int32.toNatClampNeg ((s.1 382 0))) then none else if ((s.1 382 0) < 0 ∨ 10923 ≤ Int32.toNatClampNeg ((s.1 382 0))) then none else some ((), upI (upI (upI (upI s 383 (upd (s.1 383) (Int32.toNatClampNeg ((s.1 382 0))) v1)) 384 (upd (s.1 384) (Int32.toNatClampNeg ((s.1 382 0))) ((-1)))) 385 (upd (s.1 385) (Int32.toNatClampNeg ((s.1 382 0))) ((-1)))) 382 (fun _ => ((s.1 382 0) + 1)))) else (some ((), s))
set_option maxHeartbeats 8000000 in
set_option maxRecDepth 100000 in
theorem ct_Parts_addLink_Pc (l : Launch) (dC : Nat → ClassId) (dI : Nat → Nat → Nat) (cI cB cJ cZ cQ : ClassId) (N sz : Nat) (a : Nat → Nat) (v : Nat → Value) (v1 : Int32) (s : ms) (y : (Unit × ms)) (hf : fn_Parts_addLink_Pc N v1 s = some y) : Met l yn_Parts_addLink (xw yn_Parts_addLink bn_Parts_addLink 2 none) ({ frames := 0, cells := 0, slots := 0, locals := 0 }) (dc_P (dC, dI) xcl (xt cI cB cJ cZ cQ) [.ref ((a 114)), .int v1] sz (wC a v cI cB cJ cZ cQ s)) (xk_Qv (dC, dI) xcl (xt cI cB cJ cZ cQ) (fun _ : Unit => True) (fun u : Unit => (wC a v cI cB cJ cZ cQ y.2)) (va_A (wC a v cI cB cJ cZ cQ s) sz)) 0 0 (va_A (wC a v cI cB cJ cZ cQ s) sz) := by
  refine dc_of (QA := xk_Qv (dC, dI) xcl (xt cI cB cJ cZ cQ) (fun _ : Unit => True) (fun u : Unit => (wC a v cI cB cJ cZ cQ y.2))) (by decide) (Nat.le_of_ble_eq_true rfl) ?_
  intro p e s0 m below meth c hx hb hml hown hg hr hlocks hin hP hK hN A hA hD hT ls hl
  have hown : s0.vm.findClass rn_Parts = some m.cls := hown
  obtain ⟨H, hH⟩ : ∃ z, z = s0.heap := ⟨_, rfl⟩
  rw [← hH] at hP
  have hS : va_S A s0.heap H [] := by rw [hH]; exact va_S.rf
  suffices kk : ∀ QQ : State → Prop, QQ = MQ below (xk_Qv (dC, dI) xcl (xt cI cB cJ cZ cQ) (fun _ : Unit => True) (fun u : Unit => (wC a v cI cB cJ cZ cQ y.2)) A) [.ref ((a 114)), .int v1].toArray s0 0 0 A → dcC p l e ({ frames := 0, cells := 0, slots := 0, locals := 0 }) s0 m [.ref ((a 114)), .int v1].toArray below meth c QQ (dC, dI) A (wC a v cI cB cJ cZ cQ s) 0 2 [(0, .ref ((a 114))), (1, .int v1)] [] by
    have k9 := kk _ rfl H [] ls hP hD hS hl
    rw [hH] at k9; exact k9
  clear hP hD hS hl hH H ls
  intro QQ hQQ
  intro H locs ls hP hD hS hl
  unfold fn_Parts_addLink_Pc at hf
  refine lv_aload_n hx hb dn_Parts_addLink_0 rfl (lv_at hl 0 rfl) ?_
  refine va_get (D := (dC, dI)) (ci := 11) (v := .int ((s.1 382 0))) (C := rn_Parts) (T := fn_Parts) (N := 15) hx hb hg in_Parts hown hK hP 14 rfl rfl 11 (by decide) (hg _ wn_2_162) (fun _ h9 => h9) rfl dn_Parts_addLink_1 ?_
  refine lv_sipush (v := 10923) hx hb dn_Parts_addLink_4 (by decide) ?_
  refine lv_icmp_lt (tgt := 11) hx hb dn_Parts_addLink_7 (by decide) (fun h => ?_) (fun h => ?_)
  · have hf := (if_pos h).symm.trans hf
    refine lv_aload_n hx hb dn_Parts_addLink_11 rfl (lv_at hl 0 rfl) ?_
    refine va_get (D := (dC, dI)) (ci := 11) (v := .ref ((a 383))) (C := rn_Parts) (T := fn_Parts) (N := 15) hx hb hg in_Parts hown hK hP 14 rfl rfl 12 (by decide) (hg _ wn_2_164) (fun _ h9 => h9) rfl dn_Parts_addLink_12 ?_
    refine lv_aload_n hx hb dn_Parts_addLink_15 rfl (lv_at hl 0 rfl) ?_
    refine va_get (D := (dC, dI)) (ci := 11) (v := .int ((s.1 382 0))) (C := rn_Parts) (T := fn_Parts) (N := 15) hx hb hg in_Parts hown hK hP 14 rfl rfl 11 (by decide) (hg _ wn_2_162) (fun _ h9 => h9) rfl dn_Parts_addLink_16 ?_
    refine lv_iload_n hx hb dn_Parts_addLink_19 rfl (lv_at hl 1 rfl) ?_
    obtain ⟨hg_1, hf⟩ := dc_g hf
    refine va_iast hx hb hK hP hD hS 104 0 rfl rfl hg_1 dn_Parts_addLink_20 (fun H locs hP hD hS => ?_)
    have hP : va_P (dC, dI) xcl ((wC a v cI cB cJ cZ cQ s).set 104 ((a 383), .inl (cI, 10923, .inl (upd (s.1 383) (Int32.toNatClampNeg ((s.1 382 0))) v1)))) H := hP
    have hD : va_D A ((wC a v cI cB cJ cZ cQ s).set 104 ((a 383), .inl (cI, 10923, .inl (upd (s.1 383) (Int32.toNatClampNeg ((s.1 382 0))) v1)))) := hD
    have hP := wC_P_383 hP
    have hD := wC_D_383 hD
    refine lv_aload_n hx hb dn_Parts_addLink_21 rfl (lv_at hl 0 rfl) ?_
    refine va_get (D := (dC, dI)) (ci := 11) (v := .ref ((a 384))) (C := rn_Parts) (T := fn_Parts) (N := 15) hx hb hg in_Parts hown hK hP 14 rfl rfl 13 (by decide) (hg _ wn_2_166) (fun _ h9 => h9) rfl dn_Parts_addLink_22 ?_
    refine lv_aload_n hx hb dn_Parts_addLink_25 rfl (lv_at hl 0 rfl) ?_
    refine va_get (D := (dC, dI)) (ci := 11) (v := .int ((s.1 382 0))) (C := rn_Parts) (T := fn_Parts) (N := 15) hx hb hg in_Parts hown hK hP 14 rfl rfl 11 (by decide) (hg _ wn_2_162) (fun _ h9 => h9) rfl dn_Parts_addLink_26 ?_
    refine lv_iconst (v := (-1)) hx hb dn_Parts_addLink_29 (by decide) ?_
    obtain ⟨hg_2, hf⟩ := dc_g hf
    refine va_iast hx hb hK hP hD hS 105 0 rfl rfl hg_2 dn_Parts_addLink_30 (fun H locs hP hD hS => ?_)
    have hP : va_P (dC, dI) xcl ((wC a v cI cB cJ cZ cQ (upI s 383 (upd (s.1 383) (Int32.toNatClampNeg ((s.1 382 0))) v1))).set 105 ((a 384), .inl (cI, 10923, .inl (upd (s.1 384) (Int32.toNatClampNeg ((s.1 382 0))) ((-1)))))) H := hP
    have hD : va_D A ((wC a v cI cB cJ cZ cQ (upI s 383 (upd (s.1 383) (Int32.toNatClampNeg ((s.1 382 0))) v1))).set 105 ((a 384), .inl (cI, 10923, .inl (upd (s.1 384) (Int32.toNatClampNeg ((s.1 382 0))) ((-1)))))) := hD
    have hP := wC_P_384 hP
    have hD := wC_D_384 hD
    refine lv_aload_n hx hb dn_Parts_addLink_31 rfl (lv_at hl 0 rfl) ?_
    refine va_get (D := (dC, dI)) (ci := 11) (v := .ref ((a 385))) (C := rn_Parts) (T := fn_Parts) (N := 15) hx hb hg in_Parts hown hK hP 14 rfl rfl 14 (by decide) (hg _ wn_2_169) (fun _ h9 => h9) rfl dn_Parts_addLink_32 ?_
    refine lv_aload_n hx hb dn_Parts_addLink_35 rfl (lv_at hl 0 rfl) ?_
    refine va_get (D := (dC, dI)) (ci := 11) (v := .int ((s.1 382 0))) (C := rn_Parts) (T := fn_Parts) (N := 15) hx hb hg in_Parts hown hK hP 14 rfl rfl 11 (by decide) (hg _ wn_2_162) (fun _ h9 => h9) rfl dn_Parts_addLink_36 ?_
    refine lv_iconst (v := (-1)) hx hb dn_Parts_addLink_39 (by decide) ?_
    obtain ⟨hg_3, hf⟩ := dc_g hf
    refine va_iast hx hb hK hP hD hS 106 0 rfl rfl hg_3 dn_Parts_addLink_40 (fun H locs hP hD hS => ?_)
    have hP : va_P (dC, dI) xcl ((wC a v cI cB cJ cZ cQ (upI (upI s 383 (upd (s.1 383) (Int32.toNatClampNeg ((s.1 382 0))) v1)) 384 (upd (s.1 384) (Int32.toNatClampNeg ((s.1 382 0))) ((-1))))).set 106 ((a 385), .inl (cI, 10923, .inl (upd (s.1 385) (Int32.toNatClampNeg ((s.1 382 0))) ((-1)))))) H := hP
    have hD : va_D A ((wC a v cI cB cJ cZ cQ (upI (upI s 383 (upd (s.1 383) (Int32.toNatClampNeg ((s.1 382 0))) v1)) 384 (upd (s.1 384) (Int32.toNatClampNeg ((s.1 382 0))) ((-1))))).set 106 ((a 385), .inl (cI, 10923, .inl (upd (s.1 385) (Int32.toNatClampNeg ((s.1 382 0))) ((-1)))))) := hD
    have hP := wC_P_385 hP
    have hD := wC_D_385 hD
    refine lv_aload_n hx hb dn_Parts_addLink_41 rfl (lv_at hl 0 rfl) ?_
    refine lv_dup hx hb dn_Parts_addLink_42 rfl ?_
    refine va_get (D := (dC, dI)) (ci := 11) (v := .int ((s.1 382 0))) (C := rn_Parts) (T := fn_Parts) (N := 15) hx hb hg in_Parts hown hK hP 14 rfl rfl 11 (by decide) (hg _ wn_2_162) (fun _ h9 => h9) rfl dn_Parts_addLink_43 ?_
    refine lv_iconst (v := 1) hx hb dn_Parts_addLink_46 (by decide) ?_
    refine lv_iadd hx hb dn_Parts_addLink_47 ?_
    refine va_put (D := (dC, dI)) (ci := 11) (v := .int (((s.1 382 0) + 1))) (ty := .int) (C := rn_Parts) (T := fn_Parts) (N := 15) hx hb hg in_Parts tn_Parts tk_Parts nn_Parts hown hK hP hD hS 14 rfl rfl 11 (by decide) (hg _ wn_2_162) (fun _ h9 => h9) rfl (tk_Parts 11 (by decide)) rfl rfl (Nat.le_of_ble_eq_true rfl) dn_Parts_addLink_48 (fun H locs hP hD hS => ?_)
    have hP := wC_P_382 hP
    have hD := wC_D_382 hD
    rw [hQQ, ← Option.some.inj hf]
    exact xk_vret (w1 := fun u : Unit => (wC a v cI cB cJ cZ cQ (upI (upI (upI (upI s 383 (upd (s.1 383) (Int32.toNatClampNeg ((s.1 382 0))) v1)) 384 (upd (s.1 384) (Int32.toNatClampNeg ((s.1 382 0))) ((-1)))) 385 (upd (s.1 385) (Int32.toNatClampNeg ((s.1 382 0))) ((-1)))) 382 (fun _ => ((s.1 382 0) + 1))))) () hx hb hr hlocks hK hS dn_Parts_addLink_51 hP hD trivial (Nat.le_refl _) (Nat.le_refl _)
  · have hf := (if_neg h).symm.trans hf
    rw [hQQ, ← Option.some.inj hf]
    exact xk_vret (w1 := fun u : Unit => (wC a v cI cB cJ cZ cQ s)) () hx hb hr hlocks hK hS dn_Parts_addLink_10 hP hD trivial (Nat.le_refl _) (Nat.le_refl _)
