set_option maxHeartbeats 8000000 in
set_option maxRecDepth 100000 in
theorem ct_Tokens_due_Tk (l : Launch) (dC : Nat → ClassId) (dI : Nat → Nat → Nat) (cI cB cJ cZ cQ : ClassId) (N sz : Nat) (a : Nat → Nat) (v : Nat → Value) (v1 : Int32) (s : ms) (y : (Int32 × ms)) (hf : fn_Tokens_due_Tk N v1 s = some y) : Met l yn_Tokens_due (xw yn_Tokens_due bn_Tokens_due 2 (some .boolean)) ({ frames := 1, cells := 0, slots := 0, locals := 21 }) (dc_P (dC, dI) xcl (xt cI cB cJ cZ cQ) [.ref ((a 101)), .int v1] sz (wC a v cI cB cJ cZ cQ s)) (xk_Qi (dC, dI) xcl (xt cI cB cJ cZ cQ) (fun (r : Int32) (_ : Unit) => r = y.1) (fun u : Unit => (wC a v cI cB cJ cZ cQ y.2)) (va_A (wC a v cI cB cJ cZ cQ s) sz)) 0 0 (va_A (wC a v cI cB cJ cZ cQ s) sz) := by
  refine dc_of (QA := xk_Qi (dC, dI) xcl (xt cI cB cJ cZ cQ) (fun (r : Int32) (_ : Unit) => r = y.1) (fun u : Unit => (wC a v cI cB cJ cZ cQ y.2))) (by decide) (Nat.le_of_ble_eq_true rfl) ?_
  intro p e s0 m below meth c hx hb hml hown hg hr hlocks hin hP hK hN A hA hD hT ls hl
  have hown : s0.vm.findClass rn_Tokens = some m.cls := hown
  obtain ⟨H, hH⟩ : ∃ z, z = s0.heap := ⟨_, rfl⟩
  rw [← hH] at hP
  have hS : va_S A s0.heap H [] := by rw [hH]; exact va_S.rf
  suffices kk : ∀ QQ : State → Prop, QQ = MQ below (xk_Qi (dC, dI) xcl (xt cI cB cJ cZ cQ) (fun (r : Int32) (_ : Unit) => r = y.1) (fun u : Unit => (wC a v cI cB cJ cZ cQ y.2)) A) [.ref ((a 101)), .int v1].toArray s0 0 0 A → dcC p l e ({ frames := 1, cells := 0, slots := 0, locals := 21 }) s0 m [.ref ((a 101)), .int v1].toArray below meth c QQ (dC, dI) A (wC a v cI cB cJ cZ cQ s) 0 2 [(0, .ref ((a 101))), (1, .int v1)] [] by
    have k9 := kk _ rfl H [] ls hP hD hS hl
    rw [hH] at k9; exact k9
  clear hP hD hS hl hH H ls
  intro QQ hQQ
  intro H locs ls hP hD hS hl
  unfold fn_Tokens_due_Tk at hf
  refine lv_aload_n hx hb dn_Tokens_due_0 rfl (lv_at hl 0 rfl) ?_
  refine va_get (D := (dC, dI)) (ci := 2) (v := .int ((s.1 214 0))) (C := rn_Tokens) (T := fn_Tokens) (N := 9) hx hb hg in_Tokens hown hK hP 1 rfl rfl 3 (by decide) (hg _ wn_1_51) (fun _ h9 => h9) rfl dn_Tokens_due_1 ?_
  refine lv_iload_n hx hb dn_Tokens_due_4 rfl (lv_at hl 1 rfl) ?_
  refine lv_icmp_ne (tgt := 10) hx hb dn_Tokens_due_5 (by decide) (fun h => ?_) (fun h => ?_)
  · have hf := (if_neg h).symm.trans hf
    refine lv_aload_n hx hb dn_Tokens_due_10 rfl (lv_at hl 0 rfl) ?_
    refine lv_aload_n hx hb dn_Tokens_due_11 rfl (lv_at hl 0 rfl) ?_
    obtain ⟨q_1, hc_2, hf⟩ := dc_b hf
    refine dc_calli (dc_runV (ar := 0) (As := []) (rest := [.ref ((a 101))]) (ci := 2) (q0 := 1) ⟨hx, hb, hml, hown, hg⟩ hK hN hT hS hA (ct_Tokens_misfit_Tk l dC dI cI cB cJ cZ cQ N H.size a v s q_1 hc_2) hP hD rfl rfl wn_4_177 wn_4_179 sn_Tokens_misfit wn_1_2 wn_4_180 rfl rfl (by decide +kernel) ⟨Nat.le_of_ble_eq_true rfl, Nat.le_of_ble_eq_true rfl⟩ rfl hl.1 rfl (Nat.le_of_ble_eq_true rfl) dn_Tokens_due_12 ⟨Nat.le_of_ble_eq_true rfl, Nat.le_of_ble_eq_true rfl⟩) hP hD hS hA (fun r_3 _ H locs hw hP hD hS => ?_)
    have hw : r_3 = q_1.1 := hw
    subst hw
    obtain ⟨q_4, hc_5, hf⟩ := dc_b hf
    refine dc_callv (dc_runV (ar := 1) (As := [.int q_1.1]) (rest := []) (ci := 2) (q0 := 1) ⟨hx, hb, hml, hown, hg⟩ hK hN hT hS hA (ct_Tokens_stop_Tk l dC dI cI cB cJ cZ cQ N H.size a v q_1.1 q_1.2 q_4 hc_5) hP hD rfl rfl wn_4_181 wn_4_183 sn_Tokens_stop wn_1_2 wn_4_184 rfl rfl (by decide +kernel) ⟨Nat.le_of_ble_eq_true rfl, Nat.le_of_ble_eq_true rfl⟩ rfl hl.1 rfl (Nat.le_of_ble_eq_true rfl) dn_Tokens_due_15 ⟨Nat.le_of_ble_eq_true rfl, Nat.le_of_ble_eq_true rfl⟩) hP hD hS hA (fun _ H locs hw hP hD hS => ?_)
    refine lv_iconst (v := 0) hx hb dn_Tokens_due_18 (by decide) ?_
    rw [hQQ, ← Option.some.inj hf]
    exact xk_zret (w1 := fun u : Unit => (wC a v cI cB cJ cZ cQ q_4.2)) () hx hb hr rfl hlocks hK hS dn_Tokens_due_19 hP hD rfl (Nat.le_refl _) (Nat.le_refl _)
  · have hf := (if_pos h).symm.trans hf
    refine lv_iconst (v := 1) hx hb dn_Tokens_due_8 (by decide) ?_
    rw [hQQ, ← Option.some.inj hf]
    exact xk_zret (w1 := fun u : Unit => (wC a v cI cB cJ cZ cQ s)) () hx hb hr rfl hlocks hK hS dn_Tokens_due_9 hP hD rfl (Nat.le_refl _) (Nat.le_refl _)
set_option maxHeartbeats 8000000 in
set_option maxRecDepth 100000 in
theorem ct_Checker_isOff_Ch (l : Launch) (dC : Nat → ClassId) (dI : Nat → Nat → Nat) (cI cB cJ cZ cQ : ClassId) (N sz : Nat) (a : Nat → Nat) (v : Nat → Value) (s : ms) (y : (Int32 × ms)) (hf : fn_Checker_isOff_Ch N s = some y) : Met l yn_Checker_isOff (xw yn_Checker_isOff bn_Checker_isOff 1 (some .boolean)) ({ frames := 0, cells := 0, slots := 0, locals := 0 }) (dc_P (dC, dI) xcl (xt cI cB cJ cZ cQ) [.ref ((a 103))] sz (wC a v cI cB cJ cZ cQ s)) (xk_Qi (dC, dI) xcl (xt cI cB cJ cZ cQ) (fun (r : Int32) (_ : Unit) => r = y.1) (fun u : Unit => (wC a v cI cB cJ cZ cQ y.2)) (va_A (wC a v cI cB cJ cZ cQ s) sz)) 0 0 (va_A (wC a v cI cB cJ cZ cQ s) sz) := by
  refine dc_of (QA := xk_Qi (dC, dI) xcl (xt cI cB cJ cZ cQ) (fun (r : Int32) (_ : Unit) => r = y.1) (fun u : Unit => (wC a v cI cB cJ cZ cQ y.2))) (by decide) (Nat.le_of_ble_eq_true rfl) ?_
  intro p e s0 m below meth c hx hb hml hown hg hr hlocks hin hP hK hN A hA hD hT ls hl
  have hown : s0.vm.findClass rn_Checker = some m.cls := hown
  obtain ⟨H, hH⟩ : ∃ z, z = s0.heap := ⟨_, rfl⟩
  rw [← hH] at hP
  have hS : va_S A s0.heap H [] := by rw [hH]; exact va_S.rf
  suffices kk : ∀ QQ : State → Prop, QQ = MQ below (xk_Qi (dC, dI) xcl (xt cI cB cJ cZ cQ) (fun (r : Int32) (_ : Unit) => r = y.1) (fun u : Unit => (wC a v cI cB cJ cZ cQ y.2)) A) [.ref ((a 103))].toArray s0 0 0 A → dcC p l e ({ frames := 0, cells := 0, slots := 0, locals := 0 }) s0 m [.ref ((a 103))].toArray below meth c QQ (dC, dI) A (wC a v cI cB cJ cZ cQ s) 0 1 [(0, .ref ((a 103)))] [] by
    have k9 := kk _ rfl H [] ls hP hD hS hl
    rw [hH] at k9; exact k9
  clear hP hD hS hl hH H ls
  intro QQ hQQ
  intro H locs ls hP hD hS hl
  unfold fn_Checker_isOff_Ch at hf
  refine lv_aload_n hx hb dn_Checker_isOff_0 rfl (lv_at hl 0 rfl) ?_
  refine va_get (D := (dC, dI)) (ci := 4) (v := .int ((s.1 242 0))) (C := rn_Checker) (T := fn_Checker) (N := 15) hx hb hg in_Checker hown hK hP 3 rfl rfl 13 (by decide) (hg _ wn_1_141) (fun _ h9 => h9) rfl dn_Checker_isOff_1 ?_
  refine lv_if_ne (tgt := 17) hx hb dn_Checker_isOff_4 (by decide) (fun h => ?_) (fun h => ?_)
  · have hf := (if_neg h).symm.trans hf
    refine lv_iconst (v := 1) hx hb dn_Checker_isOff_17 (by decide) ?_
    refine lv_goto (tgt := 22) hx hb dn_Checker_isOff_18 (by decide) ?_
    rw [hQQ, ← Option.some.inj hf]
    exact xk_zret (w1 := fun u : Unit => (wC a v cI cB cJ cZ cQ s)) () hx hb hr rfl hlocks hK hS dn_Checker_isOff_22 hP hD rfl (Nat.le_refl _) (Nat.le_refl _)
  · have hf := (if_pos h).symm.trans hf
    refine lv_aload_n hx hb dn_Checker_isOff_7 rfl (lv_at hl 0 rfl) ?_
    refine va_get (D := (dC, dI)) (ci := 4) (v := .ref ((a 101))) (C := rn_Checker) (T := fn_Checker) (N := 15) hx hb hg in_Checker hown hK hP 3 rfl rfl 0 (by decide) (hg _ wn_1_126) (fun _ h9 => h9) rfl dn_Checker_isOff_8 ?_
    refine va_get (D := (dC, dI)) (ci := 2) (v := .int ((s.1 217 0))) (C := rn_Tokens) (T := fn_Tokens) (N := 9) hx hb hg in_Tokens hown hK hP 1 rfl rfl 6 (by decide) (hg _ wn_1_57) (fun _ h9 => h9) rfl dn_Checker_isOff_11 ?_
    refine lv_if_eq (tgt := 21) hx hb dn_Checker_isOff_14 (by decide) (fun h => ?_) (fun h => ?_)
    · have hf := (if_pos h).symm.trans hf
      refine lv_iconst (v := 0) hx hb dn_Checker_isOff_21 (by decide) ?_
      rw [hQQ, ← Option.some.inj hf]
      exact xk_zret (w1 := fun u : Unit => (wC a v cI cB cJ cZ cQ s)) () hx hb hr rfl hlocks hK hS dn_Checker_isOff_22 hP hD rfl (Nat.le_refl _) (Nat.le_refl _)
    · have hf := (if_neg h).symm.trans hf
      refine lv_iconst (v := 1) hx hb dn_Checker_isOff_17 (by decide) ?_
      refine lv_goto (tgt := 22) hx hb dn_Checker_isOff_18 (by decide) ?_
      rw [hQQ, ← Option.some.inj hf]
      exact xk_zret (w1 := fun u : Unit => (wC a v cI cB cJ cZ cQ s)) () hx hb hr rfl hlocks hK hS dn_Checker_isOff_22 hP hD rfl (Nat.le_refl _) (Nat.le_refl _)
set_option maxHeartbeats 8000000 in
set_option maxRecDepth 100000 in
theorem ct_Checker_moduleOf_Ch (l : Launch) (dC : Nat → ClassId) (dI : Nat → Nat → Nat) (cI cB cJ cZ cQ : ClassId) (N sz : Nat) (a : Nat → Nat) (v : Nat → Value) (v1 : Int32) (s : ms) (y : (Int32 × ms)) (hf : fn_Checker_moduleOf_Ch N v1 s = some y) : Met l yn_Checker_moduleOf (xw yn_Checker_moduleOf bn_Checker_moduleOf 2 (some .int)) ({ frames := 0, cells := 0, slots := 0, locals := 0 }) (dc_P (dC, dI) xcl (xt cI cB cJ cZ cQ) [.ref ((a 103)), .int v1] sz (wC a v cI cB cJ cZ cQ s)) (xk_Qi (dC, dI) xcl (xt cI cB cJ cZ cQ) (fun (r : Int32) (_ : Unit) => r = y.1) (fun u : Unit => (wC a v cI cB cJ cZ cQ y.2)) (va_A (wC a v cI cB cJ cZ cQ s) sz)) 0 0 (va_A (wC a v cI cB cJ cZ cQ s) sz) := by
  refine dc_of (QA := xk_Qi (dC, dI) xcl (xt cI cB cJ cZ cQ) (fun (r : Int32) (_ : Unit) => r = y.1) (fun u : Unit => (wC a v cI cB cJ cZ cQ y.2))) (by decide) (Nat.le_of_ble_eq_true rfl) ?_
  intro p e s0 m below meth c hx hb hml hown hg hr hlocks hin hP hK hN A hA hD hT ls hl
  have hown : s0.vm.findClass rn_Checker = some m.cls := hown
  obtain ⟨H, hH⟩ : ∃ z, z = s0.heap := ⟨_, rfl⟩
  rw [← hH] at hP
  have hS : va_S A s0.heap H [] := by rw [hH]; exact va_S.rf
  suffices kk : ∀ QQ : State → Prop, QQ = MQ below (xk_Qi (dC, dI) xcl (xt cI cB cJ cZ cQ) (fun (r : Int32) (_ : Unit) => r = y.1) (fun u : Unit => (wC a v cI cB cJ cZ cQ y.2)) A) [.ref ((a 103)), .int v1].toArray s0 0 0 A → dcC p l e ({ frames := 0, cells := 0, slots := 0, locals := 0 }) s0 m [.ref ((a 103)), .int v1].toArray below meth c QQ (dC, dI) A (wC a v cI cB cJ cZ cQ s) 0 2 [(0, .ref ((a 103))), (1, .int v1)] [] by
    have k9 := kk _ rfl H [] ls hP hD hS hl
    rw [hH] at k9; exact k9
  clear hP hD hS hl hH H ls
  intro QQ hQQ
  intro H locs ls hP hD hS hl
  unfold fn_Checker_moduleOf_Ch at hf
  refine lv_iload_n hx hb dn_Checker_moduleOf_0 rfl (lv_at hl 1 rfl) ?_
  refine lv_if_lt (tgt := 22) hx hb dn_Checker_moduleOf_1 (by decide) (fun h => ?_) (fun h => ?_)
  · have hf := (if_pos h).symm.trans hf
    refine lv_iconst (v := (-1)) hx hb dn_Checker_moduleOf_22 (by decide) ?_
    rw [hQQ, ← Option.some.inj hf]
    exact xk_iret (w1 := fun u : Unit => (wC a v cI cB cJ cZ cQ s)) () hx hb hr hlocks hK hS dn_Checker_moduleOf_23 hP hD rfl (Nat.le_refl _) (Nat.le_refl _)
  · have hf := (if_neg h).symm.trans hf
    refine lv_iload_n hx hb dn_Checker_moduleOf_4 rfl (lv_at hl 1 rfl) ?_
    refine lv_aload_n hx hb dn_Checker_moduleOf_5 rfl (lv_at hl 0 rfl) ?_
    refine va_get (D := (dC, dI)) (ci := 4) (v := .ref ((a 234))) (C := rn_Checker) (T := fn_Checker) (N := 15) hx hb hg in_Checker hown hK hP 3 rfl rfl 5 (by decide) (hg _ wn_1_131) (fun _ h9 => h9) rfl dn_Checker_moduleOf_6 ?_
    refine va_alen (v := 19830) hx hb hK hP 21 0 rfl rfl rfl dn_Checker_moduleOf_9 ?_
    refine lv_icmp_ge (tgt := 22) hx hb dn_Checker_moduleOf_10 (by decide) (fun h => ?_) (fun h => ?_)
    · have hf := (if_pos h).symm.trans hf
      refine lv_iconst (v := (-1)) hx hb dn_Checker_moduleOf_22 (by decide) ?_
      rw [hQQ, ← Option.some.inj hf]
      exact xk_iret (w1 := fun u : Unit => (wC a v cI cB cJ cZ cQ s)) () hx hb hr hlocks hK hS dn_Checker_moduleOf_23 hP hD rfl (Nat.le_refl _) (Nat.le_refl _)
    · have hf := (if_neg h).symm.trans hf
      refine lv_aload_n hx hb dn_Checker_moduleOf_13 rfl (lv_at hl 0 rfl) ?_
      refine va_get (D := (dC, dI)) (ci := 4) (v := .ref ((a 234))) (C := rn_Checker) (T := fn_Checker) (N := 15) hx hb hg in_Checker hown hK hP 3 rfl rfl 5 (by decide) (hg _ wn_1_131) (fun _ h9 => h9) rfl dn_Checker_moduleOf_14 ?_
      refine lv_iload_n hx hb dn_Checker_moduleOf_17 rfl (lv_at hl 1 rfl) ?_
      obtain ⟨hg_1, hf⟩ := dc_g hf
      refine va_iald hx hb hK hP 21 0 rfl rfl hg_1 dn_Checker_moduleOf_18 ?_
      refine xk_ti (y := ((s.1 234) (Int32.toNatClampNeg v1))) rfl ?_
      refine lv_goto (tgt := 23) hx hb dn_Checker_moduleOf_19 (by decide) ?_
      rw [hQQ, ← Option.some.inj hf]
      exact xk_iret (w1 := fun u : Unit => (wC a v cI cB cJ cZ cQ s)) () hx hb hr hlocks hK hS dn_Checker_moduleOf_23 hP hD rfl (Nat.le_refl _) (Nat.le_refl _)
set_option maxHeartbeats 8000000 in
set_option maxRecDepth 100000 in
theorem ct_Checker_moduleBegins_Ch (l : Launch) (dC : Nat → ClassId) (dI : Nat → Nat → Nat) (cI cB cJ cZ cQ : ClassId) (N sz : Nat) (a : Nat → Nat) (v : Nat → Value) (hv_2 : v 2 = .ref (a 110)) (v1 : Int32) (s : ms) (y : (Unit × ms)) (hf : fn_Checker_moduleBegins_Ch N v1 s = some y) : Met l yn_Checker_moduleBegins (xw yn_Checker_moduleBegins bn_Checker_moduleBegins 2 none) ({ frames := 0, cells := 0, slots := 0, locals := 0 }) (dc_P (dC, dI) xcl (xt cI cB cJ cZ cQ) [.ref ((a 103)), .int v1] sz (wC a v cI cB cJ cZ cQ s)) (xk_Qv (dC, dI) xcl (xt cI cB cJ cZ cQ) (fun _ : Unit => True) (fun u : Unit => (wC a v cI cB cJ cZ cQ y.2)) (va_A (wC a v cI cB cJ cZ cQ s) sz)) 0 0 (va_A (wC a v cI cB cJ cZ cQ s) sz) := by
  refine dc_of (QA := xk_Qv (dC, dI) xcl (xt cI cB cJ cZ cQ) (fun _ : Unit => True) (fun u : Unit => (wC a v cI cB cJ cZ cQ y.2))) (by decide) (Nat.le_of_ble_eq_true rfl) ?_
  intro p e s0 m below meth c hx hb hml hown hg hr hlocks hin hP hK hN A hA hD hT ls hl
  have hown : s0.vm.findClass rn_Checker = some m.cls := hown
  obtain ⟨H, hH⟩ : ∃ z, z = s0.heap := ⟨_, rfl⟩
  rw [← hH] at hP
  have hS : va_S A s0.heap H [] := by rw [hH]; exact va_S.rf
  suffices kk : ∀ QQ : State → Prop, QQ = MQ below (xk_Qv (dC, dI) xcl (xt cI cB cJ cZ cQ) (fun _ : Unit => True) (fun u : Unit => (wC a v cI cB cJ cZ cQ y.2)) A) [.ref ((a 103)), .int v1].toArray s0 0 0 A → dcC p l e ({ frames := 0, cells := 0, slots := 0, locals := 0 }) s0 m [.ref ((a 103)), .int v1].toArray below meth c QQ (dC, dI) A (wC a v cI cB cJ cZ cQ s) 0 2 [(0, .ref ((a 103))), (1, .int v1)] [] by
    have k9 := kk _ rfl H [] ls hP hD hS hl
    rw [hH] at k9; exact k9
  clear hP hD hS hl hH H ls
  intro QQ hQQ
  have bl_33 : ∀ (s : ms), bk_Checker_moduleBegins_Ch_33 N s = some y → dcC p l e ({ frames := 0, cells := 0, slots := 0, locals := 0 }) s0 m [.ref ((a 103)), .int v1].toArray below meth c QQ (dC, dI) A (wC a v cI cB cJ cZ cQ s) 33 2 [(0, .ref ((a 103)))] [] := by
    intro s hf H locs ls hP hD hS hl
    unfold bk_Checker_moduleBegins_Ch_33 at hf
    refine lv_aload_n hx hb dn_Checker_moduleBegins_33 rfl (lv_at hl 0 rfl) ?_
    refine lv_aload_n hx hb dn_Checker_moduleBegins_34 rfl (lv_at hl 0 rfl) ?_
    refine va_get (D := (dC, dI)) (ci := 4) (v := .ref ((a 110))) (C := rn_Checker) (T := fn_Checker) (N := 15) hx hb hg in_Checker hown hK hP 3 rfl rfl 1 (by decide) (hg _ wn_1_127) (fun _ h9 => h9) (congrArg some hv_2) dn_Checker_moduleBegins_35 ?_
    refine va_get (D := (dC, dI)) (ci := 11) (v := .int ((s.1 321 0))) (C := rn_Parts) (T := fn_Parts) (N := 15) hx hb hg in_Parts hown hK hP 10 rfl rfl 0 (by decide) (hg _ wn_2_125) (fun _ h9 => h9) rfl dn_Checker_moduleBegins_38 ?_
    refine va_put (D := (dC, dI)) (ci := 4) (v := .int ((s.1 321 0))) (ty := .int) (C := rn_Checker) (T := fn_Checker) (N := 15) hx hb hg in_Checker tn_Checker tk_Checker nn_Checker hown hK hP hD hS 3 rfl rfl 4 (by decide) (hg _ wn_1_130) (fun _ h9 => h9) rfl (tk_Checker 4 (by decide)) rfl rfl (Nat.le_of_ble_eq_true rfl) dn_Checker_moduleBegins_41 (fun H locs hP hD hS => ?_)
    have hP := wC_P_233 hP
    have hD := wC_D_233 hD
    refine lv_aload_n hx hb dn_Checker_moduleBegins_44 rfl (lv_at hl 0 rfl) ?_
    refine lv_iconst (v := 0) hx hb dn_Checker_moduleBegins_45 (by decide) ?_
    refine va_put (D := (dC, dI)) (ci := 4) (v := .int 0) (ty := .int) (C := rn_Checker) (T := fn_Checker) (N := 15) hx hb hg in_Checker tn_Checker tk_Checker nn_Checker hown hK hP hD hS 3 rfl rfl 12 (by decide) (hg _ wn_1_139) (fun _ h9 => h9) rfl (tk_Checker 12 (by decide)) rfl rfl (Nat.le_of_ble_eq_true rfl) dn_Checker_moduleBegins_46 (fun H locs hP hD hS => ?_)
    have hP := wC_P_241 hP
    have hD := wC_D_241 hD
    rw [hQQ, ← Option.some.inj hf]
    exact xk_vret (w1 := fun u : Unit => (wC a v cI cB cJ cZ cQ (upI (upI s 233 (fun _ => (s.1 321 0))) 241 (fun _ => 0)))) () hx hb hr hlocks hK hS dn_Checker_moduleBegins_49 hP hD trivial (Nat.le_refl _) (Nat.le_refl _)
  intro H locs ls hP hD hS hl
  unfold fn_Checker_moduleBegins_Ch at hf
  refine lv_aload_n hx hb dn_Checker_moduleBegins_0 rfl (lv_at hl 0 rfl) ?_
  refine lv_dup hx hb dn_Checker_moduleBegins_1 rfl ?_
  refine va_get (D := (dC, dI)) (ci := 4) (v := .int ((s.1 232 0))) (C := rn_Checker) (T := fn_Checker) (N := 15) hx hb hg in_Checker hown hK hP 3 rfl rfl 3 (by decide) (hg _ wn_1_129) (fun _ h9 => h9) rfl dn_Checker_moduleBegins_2 ?_
  refine lv_iconst (v := 1) hx hb dn_Checker_moduleBegins_5 (by decide) ?_
  refine lv_iadd hx hb dn_Checker_moduleBegins_6 ?_
  refine va_put (D := (dC, dI)) (ci := 4) (v := .int (((s.1 232 0) + 1))) (ty := .int) (C := rn_Checker) (T := fn_Checker) (N := 15) hx hb hg in_Checker tn_Checker tk_Checker nn_Checker hown hK hP hD hS 3 rfl rfl 3 (by decide) (hg _ wn_1_129) (fun _ h9 => h9) rfl (tk_Checker 3 (by decide)) rfl rfl (Nat.le_of_ble_eq_true rfl) dn_Checker_moduleBegins_7 (fun H locs hP hD hS => ?_)
  have hP := wC_P_232 hP
  have hD := wC_D_232 hD
  refine lv_iload_n hx hb dn_Checker_moduleBegins_10 rfl (lv_at hl 1 rfl) ?_
  refine lv_if_lt (tgt := 33) hx hb dn_Checker_moduleBegins_11 (by decide) (fun h => ?_) (fun h => ?_)
  · have hf := (if_pos h).symm.trans hf
    exact bl_33 (upI s 232 (fun _ => ((s.1 232 0) + 1))) hf H locs ls hP hD hS (lv_sub hl [0] rfl)
  · have hf := (if_neg h).symm.trans hf
    refine lv_iload_n hx hb dn_Checker_moduleBegins_14 rfl (lv_at hl 1 rfl) ?_
    refine lv_aload_n hx hb dn_Checker_moduleBegins_15 rfl (lv_at hl 0 rfl) ?_
    refine va_get (D := (dC, dI)) (ci := 4) (v := .ref ((a 234))) (C := rn_Checker) (T := fn_Checker) (N := 15) hx hb hg in_Checker hown hK hP 3 rfl rfl 5 (by decide) (hg _ wn_1_131) (fun _ h9 => h9) rfl dn_Checker_moduleBegins_16 ?_
    refine va_alen (v := 19830) hx hb hK hP 21 0 rfl rfl rfl dn_Checker_moduleBegins_19 ?_
    refine lv_icmp_ge (tgt := 33) hx hb dn_Checker_moduleBegins_20 (by decide) (fun h => ?_) (fun h => ?_)
    · have hf := (if_pos h).symm.trans hf
      exact bl_33 (upI s 232 (fun _ => ((s.1 232 0) + 1))) hf H locs ls hP hD hS (lv_sub hl [0] rfl)
    · have hf := (if_neg h).symm.trans hf
      refine lv_aload_n hx hb dn_Checker_moduleBegins_23 rfl (lv_at hl 0 rfl) ?_
      refine va_get (D := (dC, dI)) (ci := 4) (v := .ref ((a 234))) (C := rn_Checker) (T := fn_Checker) (N := 15) hx hb hg in_Checker hown hK hP 3 rfl rfl 5 (by decide) (hg _ wn_1_131) (fun _ h9 => h9) rfl dn_Checker_moduleBegins_24 ?_
      refine lv_iload_n hx hb dn_Checker_moduleBegins_27 rfl (lv_at hl 1 rfl) ?_
      refine lv_aload_n hx hb dn_Checker_moduleBegins_28 rfl (lv_at hl 0 rfl) ?_
      refine va_get (D := (dC, dI)) (ci := 4) (v := .int (((s.1 232 0) + 1))) (C := rn_Checker) (T := fn_Checker) (N := 15) hx hb hg in_Checker hown hK hP 3 rfl rfl 3 (by decide) (hg _ wn_1_129) (fun _ h9 => h9) rfl dn_Checker_moduleBegins_29 ?_
      obtain ⟨hg_1, hf⟩ := dc_g hf
      refine va_iast hx hb hK hP hD hS 21 0 rfl rfl hg_1 dn_Checker_moduleBegins_32 (fun H locs hP hD hS => ?_)
      have hP : va_P (dC, dI) xcl ((wC a v cI cB cJ cZ cQ (upI s 232 (fun _ => ((s.1 232 0) + 1)))).set 21 ((a 234), .inl (cI, 19830, .inl (upd (s.1 234) (Int32.toNatClampNeg v1) (((s.1 232 0) + 1)))))) H := hP
      have hD : va_D A ((wC a v cI cB cJ cZ cQ (upI s 232 (fun _ => ((s.1 232 0) + 1)))).set 21 ((a 234), .inl (cI, 19830, .inl (upd (s.1 234) (Int32.toNatClampNeg v1) (((s.1 232 0) + 1)))))) := hD
      have hP := wC_P_234 hP
      have hD := wC_D_234 hD
      exact bl_33 (upI (upI s 232 (fun _ => ((s.1 232 0) + 1))) 234 (upd (s.1 234) (Int32.toNatClampNeg v1) (((s.1 232 0) + 1)))) hf H locs ls hP hD hS (lv_sub hl [0] rfl)
set_option maxHeartbeats 8000000 in
set_option maxRecDepth 100000 in
theorem ct_Design_addModule_Ds (l : Launch) (dC : Nat → ClassId) (dI : Nat → Nat → Nat) (cI cB cJ cZ cQ : ClassId) (N sz : Nat) (a : Nat → Nat) (v : Nat → Value) (v1 : Int32) (s : ms) (y : (Unit × ms)) (hf : fn_Design_addModule_Ds N v1 s = some y) : Met l yn_Design_addModule (xw yn_Design_addModule bn_Design_addModule 2 none) ({ frames := 0, cells := 0, slots := 0, locals := 0 }) (dc_P (dC, dI) xcl (xt cI cB cJ cZ cQ) [.ref ((a 109)), .int v1] sz (wC a v cI cB cJ cZ cQ s)) (xk_Qv (dC, dI) xcl (xt cI cB cJ cZ cQ) (fun _ : Unit => True) (fun u : Unit => (wC a v cI cB cJ cZ cQ y.2)) (va_A (wC a v cI cB cJ cZ cQ s) sz)) 0 0 (va_A (wC a v cI cB cJ cZ cQ s) sz) := by
  refine dc_of (QA := xk_Qv (dC, dI) xcl (xt cI cB cJ cZ cQ) (fun _ : Unit => True) (fun u : Unit => (wC a v cI cB cJ cZ cQ y.2))) (by decide) (Nat.le_of_ble_eq_true rfl) ?_
  intro p e s0 m below meth c hx hb hml hown hg hr hlocks hin hP hK hN A hA hD hT ls hl
  have hown : s0.vm.findClass rn_Design = some m.cls := hown
  obtain ⟨H, hH⟩ : ∃ z, z = s0.heap := ⟨_, rfl⟩
  rw [← hH] at hP
  have hS : va_S A s0.heap H [] := by rw [hH]; exact va_S.rf
  suffices kk : ∀ QQ : State → Prop, QQ = MQ below (xk_Qv (dC, dI) xcl (xt cI cB cJ cZ cQ) (fun _ : Unit => True) (fun u : Unit => (wC a v cI cB cJ cZ cQ y.2)) A) [.ref ((a 109)), .int v1].toArray s0 0 0 A → dcC p l e ({ frames := 0, cells := 0, slots := 0, locals := 0 }) s0 m [.ref ((a 109)), .int v1].toArray below meth c QQ (dC, dI) A (wC a v cI cB cJ cZ cQ s) 0 2 [(0, .ref ((a 109))), (1, .int v1)] [] by
    have k9 := kk _ rfl H [] ls hP hD hS hl
    rw [hH] at k9; exact k9
  clear hP hD hS hl hH H ls
  intro QQ hQQ
  intro H locs ls hP hD hS hl
  unfold fn_Design_addModule_Ds at hf
  refine lv_aload_n hx hb dn_Design_addModule_0 rfl (lv_at hl 0 rfl) ?_
  refine va_get (D := (dC, dI)) (ci := 10) (v := .int ((s.1 309 0))) (C := rn_Design) (T := fn_Design) (N := 16) hx hb hg in_Design hown hK hP 9 rfl rfl 4 (by decide) (hg _ wn_3_10) (fun _ h9 => h9) rfl dn_Design_addModule_1 ?_
  refine lv_sipush (v := 3277) hx hb dn_Design_addModule_4 (by decide) ?_
  refine lv_icmp_lt (tgt := 11) hx hb dn_Design_addModule_7 (by decide) (fun h => ?_) (fun h => ?_)
  · have hf := (if_pos h).symm.trans hf
    refine lv_aload_n hx hb dn_Design_addModule_11 rfl (lv_at hl 0 rfl) ?_
    refine va_get (D := (dC, dI)) (ci := 10) (v := .ref ((a 311))) (C := rn_Design) (T := fn_Design) (N := 16) hx hb hg in_Design hown hK hP 9 rfl rfl 6 (by decide) (hg _ wn_3_15) (fun _ h9 => h9) rfl dn_Design_addModule_12 ?_
    refine lv_aload_n hx hb dn_Design_addModule_15 rfl (lv_at hl 0 rfl) ?_
    refine va_get (D := (dC, dI)) (ci := 10) (v := .int ((s.1 309 0))) (C := rn_Design) (T := fn_Design) (N := 16) hx hb hg in_Design hown hK hP 9 rfl rfl 4 (by decide) (hg _ wn_3_10) (fun _ h9 => h9) rfl dn_Design_addModule_16 ?_
    refine lv_iload_n hx hb dn_Design_addModule_19 rfl (lv_at hl 1 rfl) ?_
    obtain ⟨hg_1, hf⟩ := dc_g hf
    refine va_iast hx hb hK hP hD hS 53 0 rfl rfl hg_1 dn_Design_addModule_20 (fun H locs hP hD hS => ?_)
    have hP : va_P (dC, dI) xcl ((wC a v cI cB cJ cZ cQ s).set 53 ((a 311), .inl (cI, 3277, .inl (upd (s.1 311) (Int32.toNatClampNeg ((s.1 309 0))) v1)))) H := hP
    have hD : va_D A ((wC a v cI cB cJ cZ cQ s).set 53 ((a 311), .inl (cI, 3277, .inl (upd (s.1 311) (Int32.toNatClampNeg ((s.1 309 0))) v1)))) := hD
    have hP := wC_P_311 hP
    have hD := wC_D_311 hD
    refine lv_aload_n hx hb dn_Design_addModule_21 rfl (lv_at hl 0 rfl) ?_
    refine va_get (D := (dC, dI)) (ci := 10) (v := .ref ((a 312))) (C := rn_Design) (T := fn_Design) (N := 16) hx hb hg in_Design hown hK hP 9 rfl rfl 7 (by decide) (hg _ wn_3_16) (fun _ h9 => h9) rfl dn_Design_addModule_22 ?_
    refine lv_aload_n hx hb dn_Design_addModule_25 rfl (lv_at hl 0 rfl) ?_
    refine va_get (D := (dC, dI)) (ci := 10) (v := .int ((s.1 309 0))) (C := rn_Design) (T := fn_Design) (N := 16) hx hb hg in_Design hown hK hP 9 rfl rfl 4 (by decide) (hg _ wn_3_10) (fun _ h9 => h9) rfl dn_Design_addModule_26 ?_
    refine lv_aload_n hx hb dn_Design_addModule_29 rfl (lv_at hl 0 rfl) ?_
    refine va_get (D := (dC, dI)) (ci := 10) (v := .ref ((a 110))) (C := rn_Design) (T := fn_Design) (N := 16) hx hb hg in_Design hown hK hP 9 rfl rfl 0 (by decide) (hg _ wn_2_234) (fun _ h9 => h9) rfl dn_Design_addModule_30 ?_
    refine va_get (D := (dC, dI)) (ci := 11) (v := .int ((s.1 321 0))) (C := rn_Parts) (T := fn_Parts) (N := 15) hx hb hg in_Parts hown hK hP 10 rfl rfl 0 (by decide) (hg _ wn_2_124) (fun _ h9 => h9) rfl dn_Design_addModule_33 ?_
    obtain ⟨hg_2, hf⟩ := dc_g hf
    refine va_iast hx hb hK hP hD hS 54 0 rfl rfl hg_2 dn_Design_addModule_36 (fun H locs hP hD hS => ?_)
    have hP : va_P (dC, dI) xcl ((wC a v cI cB cJ cZ cQ (upI s 311 (upd (s.1 311) (Int32.toNatClampNeg ((s.1 309 0))) v1))).set 54 ((a 312), .inl (cI, 3277, .inl (upd (s.1 312) (Int32.toNatClampNeg ((s.1 309 0))) ((s.1 321 0)))))) H := hP
    have hD : va_D A ((wC a v cI cB cJ cZ cQ (upI s 311 (upd (s.1 311) (Int32.toNatClampNeg ((s.1 309 0))) v1))).set 54 ((a 312), .inl (cI, 3277, .inl (upd (s.1 312) (Int32.toNatClampNeg ((s.1 309 0))) ((s.1 321 0)))))) := hD
    have hP := wC_P_312 hP
    have hD := wC_D_312 hD
    refine lv_aload_n hx hb dn_Design_addModule_37 rfl (lv_at hl 0 rfl) ?_
    refine va_get (D := (dC, dI)) (ci := 10) (v := .ref ((a 313))) (C := rn_Design) (T := fn_Design) (N := 16) hx hb hg in_Design hown hK hP 9 rfl rfl 8 (by decide) (hg _ wn_3_17) (fun _ h9 => h9) rfl dn_Design_addModule_38 ?_
    refine lv_aload_n hx hb dn_Design_addModule_41 rfl (lv_at hl 0 rfl) ?_
    refine va_get (D := (dC, dI)) (ci := 10) (v := .int ((s.1 309 0))) (C := rn_Design) (T := fn_Design) (N := 16) hx hb hg in_Design hown hK hP 9 rfl rfl 4 (by decide) (hg _ wn_3_10) (fun _ h9 => h9) rfl dn_Design_addModule_42 ?_
    refine lv_iconst (v := 0) hx hb dn_Design_addModule_45 (by decide) ?_
    obtain ⟨hg_3, hf⟩ := dc_g hf
    refine va_iast hx hb hK hP hD hS 55 0 rfl rfl hg_3 dn_Design_addModule_46 (fun H locs hP hD hS => ?_)
    have hP : va_P (dC, dI) xcl ((wC a v cI cB cJ cZ cQ (upI (upI s 311 (upd (s.1 311) (Int32.toNatClampNeg ((s.1 309 0))) v1)) 312 (upd (s.1 312) (Int32.toNatClampNeg ((s.1 309 0))) ((s.1 321 0))))).set 55 ((a 313), .inl (cI, 3277, .inl (upd (s.1 313) (Int32.toNatClampNeg ((s.1 309 0))) 0)))) H := hP
    have hD : va_D A ((wC a v cI cB cJ cZ cQ (upI (upI s 311 (upd (s.1 311) (Int32.toNatClampNeg ((s.1 309 0))) v1)) 312 (upd (s.1 312) (Int32.toNatClampNeg ((s.1 309 0))) ((s.1 321 0))))).set 55 ((a 313), .inl (cI, 3277, .inl (upd (s.1 313) (Int32.toNatClampNeg ((s.1 309 0))) 0)))) := hD
    have hP := wC_P_313 hP
    have hD := wC_D_313 hD
    refine lv_aload_n hx hb dn_Design_addModule_47 rfl (lv_at hl 0 rfl) ?_
    refine va_get (D := (dC, dI)) (ci := 10) (v := .ref ((a 314))) (C := rn_Design) (T := fn_Design) (N := 16) hx hb hg in_Design hown hK hP 9 rfl rfl 9 (by decide) (hg _ wn_3_18) (fun _ h9 => h9) rfl dn_Design_addModule_48 ?_
    refine lv_aload_n hx hb dn_Design_addModule_51 rfl (lv_at hl 0 rfl) ?_
    refine va_get (D := (dC, dI)) (ci := 10) (v := .int ((s.1 309 0))) (C := rn_Design) (T := fn_Design) (N := 16) hx hb hg in_Design hown hK hP 9 rfl rfl 4 (by decide) (hg _ wn_3_10) (fun _ h9 => h9) rfl dn_Design_addModule_52 ?_
    refine lv_aload_n hx hb dn_Design_addModule_55 rfl (lv_at hl 0 rfl) ?_
    refine va_get (D := (dC, dI)) (ci := 10) (v := .ref ((a 110))) (C := rn_Design) (T := fn_Design) (N := 16) hx hb hg in_Design hown hK hP 9 rfl rfl 0 (by decide) (hg _ wn_2_234) (fun _ h9 => h9) rfl dn_Design_addModule_56 ?_
    refine va_get (D := (dC, dI)) (ci := 11) (v := .int ((s.1 328 0))) (C := rn_Parts) (T := fn_Parts) (N := 15) hx hb hg in_Parts hown hK hP 10 rfl rfl 7 (by decide) (hg _ wn_2_150) (fun _ h9 => h9) rfl dn_Design_addModule_59 ?_
    obtain ⟨hg_4, hf⟩ := dc_g hf
    refine va_iast hx hb hK hP hD hS 56 0 rfl rfl hg_4 dn_Design_addModule_62 (fun H locs hP hD hS => ?_)
    have hP : va_P (dC, dI) xcl ((wC a v cI cB cJ cZ cQ (upI (upI (upI s 311 (upd (s.1 311) (Int32.toNatClampNeg ((s.1 309 0))) v1)) 312 (upd (s.1 312) (Int32.toNatClampNeg ((s.1 309 0))) ((s.1 321 0)))) 313 (upd (s.1 313) (Int32.toNatClampNeg ((s.1 309 0))) 0))).set 56 ((a 314), .inl (cI, 3277, .inl (upd (s.1 314) (Int32.toNatClampNeg ((s.1 309 0))) ((s.1 328 0)))))) H := hP
    have hD : va_D A ((wC a v cI cB cJ cZ cQ (upI (upI (upI s 311 (upd (s.1 311) (Int32.toNatClampNeg ((s.1 309 0))) v1)) 312 (upd (s.1 312) (Int32.toNatClampNeg ((s.1 309 0))) ((s.1 321 0)))) 313 (upd (s.1 313) (Int32.toNatClampNeg ((s.1 309 0))) 0))).set 56 ((a 314), .inl (cI, 3277, .inl (upd (s.1 314) (Int32.toNatClampNeg ((s.1 309 0))) ((s.1 328 0)))))) := hD
    have hP := wC_P_314 hP
    have hD := wC_D_314 hD
    refine lv_aload_n hx hb dn_Design_addModule_63 rfl (lv_at hl 0 rfl) ?_
    refine va_get (D := (dC, dI)) (ci := 10) (v := .ref ((a 315))) (C := rn_Design) (T := fn_Design) (N := 16) hx hb hg in_Design hown hK hP 9 rfl rfl 10 (by decide) (hg _ wn_3_19) (fun _ h9 => h9) rfl dn_Design_addModule_64 ?_
    refine lv_aload_n hx hb dn_Design_addModule_67 rfl (lv_at hl 0 rfl) ?_
    refine va_get (D := (dC, dI)) (ci := 10) (v := .int ((s.1 309 0))) (C := rn_Design) (T := fn_Design) (N := 16) hx hb hg in_Design hown hK hP 9 rfl rfl 4 (by decide) (hg _ wn_3_10) (fun _ h9 => h9) rfl dn_Design_addModule_68 ?_
    refine lv_aload_n hx hb dn_Design_addModule_71 rfl (lv_at hl 0 rfl) ?_
    refine va_get (D := (dC, dI)) (ci := 10) (v := .int ((s.1 317 0))) (C := rn_Design) (T := fn_Design) (N := 16) hx hb hg in_Design hown hK hP 9 rfl rfl 12 (by decide) (hg _ wn_3_21) (fun _ h9 => h9) rfl dn_Design_addModule_72 ?_
    obtain ⟨hg_5, hf⟩ := dc_g hf
    refine va_iast hx hb hK hP hD hS 57 0 rfl rfl hg_5 dn_Design_addModule_75 (fun H locs hP hD hS => ?_)
    have hP : va_P (dC, dI) xcl ((wC a v cI cB cJ cZ cQ (upI (upI (upI (upI s 311 (upd (s.1 311) (Int32.toNatClampNeg ((s.1 309 0))) v1)) 312 (upd (s.1 312) (Int32.toNatClampNeg ((s.1 309 0))) ((s.1 321 0)))) 313 (upd (s.1 313) (Int32.toNatClampNeg ((s.1 309 0))) 0)) 314 (upd (s.1 314) (Int32.toNatClampNeg ((s.1 309 0))) ((s.1 328 0))))).set 57 ((a 315), .inl (cI, 3277, .inl (upd (s.1 315) (Int32.toNatClampNeg ((s.1 309 0))) ((s.1 317 0)))))) H := hP
    have hD : va_D A ((wC a v cI cB cJ cZ cQ (upI (upI (upI (upI s 311 (upd (s.1 311) (Int32.toNatClampNeg ((s.1 309 0))) v1)) 312 (upd (s.1 312) (Int32.toNatClampNeg ((s.1 309 0))) ((s.1 321 0)))) 313 (upd (s.1 313) (Int32.toNatClampNeg ((s.1 309 0))) 0)) 314 (upd (s.1 314) (Int32.toNatClampNeg ((s.1 309 0))) ((s.1 328 0))))).set 57 ((a 315), .inl (cI, 3277, .inl (upd (s.1 315) (Int32.toNatClampNeg ((s.1 309 0))) ((s.1 317 0)))))) := hD
    have hP := wC_P_315 hP
    have hD := wC_D_315 hD
    refine lv_aload_n hx hb dn_Design_addModule_76 rfl (lv_at hl 0 rfl) ?_
    refine lv_dup hx hb dn_Design_addModule_77 rfl ?_
    refine va_get (D := (dC, dI)) (ci := 10) (v := .int ((s.1 309 0))) (C := rn_Design) (T := fn_Design) (N := 16) hx hb hg in_Design hown hK hP 9 rfl rfl 4 (by decide) (hg _ wn_3_10) (fun _ h9 => h9) rfl dn_Design_addModule_78 ?_
    refine lv_iconst (v := 1) hx hb dn_Design_addModule_81 (by decide) ?_
    refine lv_iadd hx hb dn_Design_addModule_82 ?_
    refine va_put (D := (dC, dI)) (ci := 10) (v := .int (((s.1 309 0) + 1))) (ty := .int) (C := rn_Design) (T := fn_Design) (N := 16) hx hb hg in_Design tn_Design tk_Design nn_Design hown hK hP hD hS 9 rfl rfl 4 (by decide) (hg _ wn_3_10) (fun _ h9 => h9) rfl (tk_Design 4 (by decide)) rfl rfl (Nat.le_of_ble_eq_true rfl) dn_Design_addModule_83 (fun H locs hP hD hS => ?_)
    have hP := wC_P_309 hP
    have hD := wC_D_309 hD
    rw [hQQ, ← Option.some.inj hf]
    exact xk_vret (w1 := fun u : Unit => (wC a v cI cB cJ cZ cQ (upI (upI (upI (upI (upI (upI s 311 (upd (s.1 311) (Int32.toNatClampNeg ((s.1 309 0))) v1)) 312 (upd (s.1 312) (Int32.toNatClampNeg ((s.1 309 0))) ((s.1 321 0)))) 313 (upd (s.1 313) (Int32.toNatClampNeg ((s.1 309 0))) 0)) 314 (upd (s.1 314) (Int32.toNatClampNeg ((s.1 309 0))) ((s.1 328 0)))) 315 (upd (s.1 315) (Int32.toNatClampNeg ((s.1 309 0))) ((s.1 317 0)))) 309 (fun _ => ((s.1 309 0) + 1))))) () hx hb hr hlocks hK hS dn_Design_addModule_86 hP hD trivial (Nat.le_refl _) (Nat.le_refl _)
  · have hf := (if_neg h).symm.trans hf
    rw [hQQ, ← Option.some.inj hf]
    exact xk_vret (w1 := fun u : Unit => (wC a v cI cB cJ cZ cQ s)) () hx hb hr hlocks hK hS dn_Design_addModule_10 hP hD trivial (Nat.le_refl _) (Nat.le_refl _)
set_option maxHeartbeats 8000000 in
set_option maxRecDepth 100000 in
theorem ct_Checker_refuse_Ch (l : Launch) (dC : Nat → ClassId) (dI : Nat → Nat → Nat) (cI cB cJ cZ cQ : ClassId) (N sz : Nat) (a : Nat → Nat) (v : Nat → Value) (v1 : Int32) (v2 : Int32) (s : ms) (y : (Unit × ms)) (hf : fn_Checker_refuse_Ch N v1 v2 s = some y) : Met l yn_Checker_refuse (xw yn_Checker_refuse bn_Checker_refuse 3 none) ({ frames := 0, cells := 0, slots := 0, locals := 0 }) (dc_P (dC, dI) xcl (xt cI cB cJ cZ cQ) [.ref ((a 103)), .int v1, .int v2] sz (wC a v cI cB cJ cZ cQ s)) (xk_Qv (dC, dI) xcl (xt cI cB cJ cZ cQ) (fun _ : Unit => True) (fun u : Unit => (wC a v cI cB cJ cZ cQ y.2)) (va_A (wC a v cI cB cJ cZ cQ s) sz)) 0 0 (va_A (wC a v cI cB cJ cZ cQ s) sz) := by
  refine dc_of (QA := xk_Qv (dC, dI) xcl (xt cI cB cJ cZ cQ) (fun _ : Unit => True) (fun u : Unit => (wC a v cI cB cJ cZ cQ y.2))) (by decide) (Nat.le_of_ble_eq_true rfl) ?_
  intro p e s0 m below meth c hx hb hml hown hg hr hlocks hin hP hK hN A hA hD hT ls hl
  have hown : s0.vm.findClass rn_Checker = some m.cls := hown
  obtain ⟨H, hH⟩ : ∃ z, z = s0.heap := ⟨_, rfl⟩
  rw [← hH] at hP
  have hS : va_S A s0.heap H [] := by rw [hH]; exact va_S.rf
  suffices kk : ∀ QQ : State → Prop, QQ = MQ below (xk_Qv (dC, dI) xcl (xt cI cB cJ cZ cQ) (fun _ : Unit => True) (fun u : Unit => (wC a v cI cB cJ cZ cQ y.2)) A) [.ref ((a 103)), .int v1, .int v2].toArray s0 0 0 A → dcC p l e ({ frames := 0, cells := 0, slots := 0, locals := 0 }) s0 m [.ref ((a 103)), .int v1, .int v2].toArray below meth c QQ (dC, dI) A (wC a v cI cB cJ cZ cQ s) 0 3 [(0, .ref ((a 103))), (1, .int v1), (2, .int v2)] [] by
    have k9 := kk _ rfl H [] ls hP hD hS hl
    rw [hH] at k9; exact k9
  clear hP hD hS hl hH H ls
  intro QQ hQQ
  intro H locs ls hP hD hS hl
  unfold fn_Checker_refuse_Ch at hf
  refine lv_aload_n hx hb dn_Checker_refuse_0 rfl (lv_at hl 0 rfl) ?_
  refine va_get (D := (dC, dI)) (ci := 4) (v := .int ((s.1 242 0))) (C := rn_Checker) (T := fn_Checker) (N := 15) hx hb hg in_Checker hown hK hP 3 rfl rfl 13 (by decide) (hg _ wn_1_141) (fun _ h9 => h9) rfl dn_Checker_refuse_1 ?_
  refine lv_if_eq (tgt := 8) hx hb dn_Checker_refuse_4 (by decide) (fun h => ?_) (fun h => ?_)
  · have hf := (if_pos h).symm.trans hf
    refine lv_aload_n hx hb dn_Checker_refuse_8 rfl (lv_at hl 0 rfl) ?_
    refine lv_iload_n hx hb dn_Checker_refuse_9 rfl (lv_at hl 1 rfl) ?_
    refine va_put (D := (dC, dI)) (ci := 4) (v := .int v1) (ty := .int) (C := rn_Checker) (T := fn_Checker) (N := 15) hx hb hg in_Checker tn_Checker tk_Checker nn_Checker hown hK hP hD hS 3 rfl rfl 13 (by decide) (hg _ wn_1_141) (fun _ h9 => h9) rfl (tk_Checker 13 (by decide)) rfl rfl (Nat.le_of_ble_eq_true rfl) dn_Checker_refuse_10 (fun H locs hP hD hS => ?_)
    have hP := wC_P_242 hP
    have hD := wC_D_242 hD
    refine lv_aload_n hx hb dn_Checker_refuse_13 rfl (lv_at hl 0 rfl) ?_
    refine lv_iload_n hx hb dn_Checker_refuse_14 rfl (lv_at hl 2 rfl) ?_
    refine va_put (D := (dC, dI)) (ci := 4) (v := .int v2) (ty := .int) (C := rn_Checker) (T := fn_Checker) (N := 15) hx hb hg in_Checker tn_Checker tk_Checker nn_Checker hown hK hP hD hS 3 rfl rfl 14 (by decide) (hg _ wn_1_143) (fun _ h9 => h9) rfl (tk_Checker 14 (by decide)) rfl rfl (Nat.le_of_ble_eq_true rfl) dn_Checker_refuse_15 (fun H locs hP hD hS => ?_)
    have hP := wC_P_243 hP
    have hD := wC_D_243 hD
    rw [hQQ, ← Option.some.inj hf]
    exact xk_vret (w1 := fun u : Unit => (wC a v cI cB cJ cZ cQ (upI (upI s 242 (fun _ => v1)) 243 (fun _ => v2)))) () hx hb hr hlocks hK hS dn_Checker_refuse_18 hP hD trivial (Nat.le_refl _) (Nat.le_refl _)
  · have hf := (if_neg h).symm.trans hf
    rw [hQQ, ← Option.some.inj hf]
    exact xk_vret (w1 := fun u : Unit => (wC a v cI cB cJ cZ cQ s)) () hx hb hr hlocks hK hS dn_Checker_refuse_7 hP hD trivial (Nat.le_refl _) (Nat.le_refl _)
set_option maxHeartbeats 8000000 in
set_option maxRecDepth 100000 in
theorem ct_Meaning_module_Me (l : Launch) (dC : Nat → ClassId) (dI : Nat → Nat → Nat) (cI cB cJ cZ cQ : ClassId) (N sz : Nat) (a : Nat → Nat) (v : Nat → Value) (hv_2 : v 2 = .ref (a 110)) (hv_4 : v 4 = .ref (a 109)) (v1 : Int32) (v2 : Int32) (s : ms) (y : (Unit × ms)) (hf : fn_Meaning_module_Me N v1 v2 s = some y) : Met l yn_Meaning_module (xw yn_Meaning_module bn_Meaning_module 3 none) ({ frames := 1, cells := 0, slots := 0, locals := 22 }) (dc_P (dC, dI) xcl (xt cI cB cJ cZ cQ) [.ref ((a 104)), .int v1, .int v2] sz (wC a v cI cB cJ cZ cQ s)) (xk_Qv (dC, dI) xcl (xt cI cB cJ cZ cQ) (fun _ : Unit => True) (fun u : Unit => (wC a v cI cB cJ cZ cQ y.2)) (va_A (wC a v cI cB cJ cZ cQ s) sz)) 0 0 (va_A (wC a v cI cB cJ cZ cQ s) sz) := by
  refine dc_of (QA := xk_Qv (dC, dI) xcl (xt cI cB cJ cZ cQ) (fun _ : Unit => True) (fun u : Unit => (wC a v cI cB cJ cZ cQ y.2))) (by decide) (Nat.le_of_ble_eq_true rfl) ?_
  intro p e s0 m below meth c hx hb hml hown hg hr hlocks hin hP hK hN A hA hD hT ls hl
  have hown : s0.vm.findClass rn_Meaning = some m.cls := hown
  obtain ⟨H, hH⟩ : ∃ z, z = s0.heap := ⟨_, rfl⟩
  rw [← hH] at hP
  have hS : va_S A s0.heap H [] := by rw [hH]; exact va_S.rf
  suffices kk : ∀ QQ : State → Prop, QQ = MQ below (xk_Qv (dC, dI) xcl (xt cI cB cJ cZ cQ) (fun _ : Unit => True) (fun u : Unit => (wC a v cI cB cJ cZ cQ y.2)) A) [.ref ((a 104)), .int v1, .int v2].toArray s0 0 0 A → dcC p l e ({ frames := 1, cells := 0, slots := 0, locals := 22 }) s0 m [.ref ((a 104)), .int v1, .int v2].toArray below meth c QQ (dC, dI) A (wC a v cI cB cJ cZ cQ s) 0 3 [(0, .ref ((a 104))), (1, .int v1), (2, .int v2)] [] by
    have k9 := kk _ rfl H [] ls hP hD hS hl
    rw [hH] at k9; exact k9
  clear hP hD hS hl hH H ls
  intro QQ hQQ
  intro H locs ls hP hD hS hl
  unfold fn_Meaning_module_Me at hf
  refine lv_aload_n hx hb dn_Meaning_module_0 rfl (lv_at hl 0 rfl) ?_
  refine va_get (D := (dC, dI)) (ci := 5) (v := .ref ((a 103))) (C := rn_Meaning) (T := fn_Meaning) (N := 17) hx hb hg in_Meaning hown hK hP 4 rfl rfl 0 (by decide) (hg _ wn_1_184) (fun _ h9 => h9) rfl dn_Meaning_module_1 ?_
  obtain ⟨q_1, hc_2, hf⟩ := dc_b hf
  refine dc_calli (dc_runV (ar := 0) (As := []) (rest := []) (ci := 4) (q0 := 3) ⟨hx, hb, hml, hown, hg⟩ hK hN hT hS hA (ct_Checker_isOff_Ch l dC dI cI cB cJ cZ cQ N H.size a v s q_1 hc_2) hP hD rfl rfl wn_4_193 wn_4_194 wn_4_195 wn_1_4 wn_4_196 rfl rfl (by decide +kernel) ⟨Nat.le_of_ble_eq_true rfl, Nat.le_of_ble_eq_true rfl⟩ rfl hl.1 rfl (Nat.le_of_ble_eq_true rfl) dn_Meaning_module_4 ⟨Nat.le_of_ble_eq_true rfl, Nat.le_of_ble_eq_true rfl⟩) hP hD hS hA (fun r_3 _ H locs hw hP hD hS => ?_)
  have hw : r_3 = q_1.1 := hw
  subst hw
  refine lv_if_eq (tgt := 11) hx hb dn_Meaning_module_7 (by decide) (fun h => ?_) (fun h => ?_)
  · have hf := (if_pos h).symm.trans hf
    refine lv_aload_n hx hb dn_Meaning_module_11 rfl (lv_at hl 0 rfl) ?_
    refine va_get (D := (dC, dI)) (ci := 5) (v := .ref ((a 103))) (C := rn_Meaning) (T := fn_Meaning) (N := 17) hx hb hg in_Meaning hown hK hP 4 rfl rfl 0 (by decide) (hg _ wn_1_184) (fun _ h9 => h9) rfl dn_Meaning_module_12 ?_
    refine lv_iload_n hx hb dn_Meaning_module_15 rfl (lv_at hl 1 rfl) ?_
    obtain ⟨q_4, hc_5, hf⟩ := dc_b hf
    refine dc_calli (dc_runV (ar := 1) (As := [.int v1]) (rest := []) (ci := 4) (q0 := 3) ⟨hx, hb, hml, hown, hg⟩ hK hN hT hS hA (ct_Checker_moduleOf_Ch l dC dI cI cB cJ cZ cQ N H.size a v v1 q_1.2 q_4 hc_5) hP hD rfl rfl wn_4_197 wn_4_198 wn_4_199 wn_1_4 wn_4_200 rfl rfl (by decide +kernel) ⟨Nat.le_of_ble_eq_true rfl, Nat.le_of_ble_eq_true rfl⟩ rfl hl.1 rfl (Nat.le_of_ble_eq_true rfl) dn_Meaning_module_16 ⟨Nat.le_of_ble_eq_true rfl, Nat.le_of_ble_eq_true rfl⟩) hP hD hS hA (fun r_6 _ H locs hw hP hD hS => ?_)
    have hw : r_6 = q_4.1 := hw
    subst hw
    refine lv_iconst (v := (-1)) hx hb dn_Meaning_module_19 (by decide) ?_
    refine lv_icmp_eq (tgt := 34) hx hb dn_Meaning_module_20 (by decide) (fun h => ?_) (fun h => ?_)
    · have hf := (if_pos h).symm.trans hf
      refine lv_aload_n hx hb dn_Meaning_module_34 rfl (lv_at hl 0 rfl) ?_
      refine va_get (D := (dC, dI)) (ci := 5) (v := .ref ((a 103))) (C := rn_Meaning) (T := fn_Meaning) (N := 17) hx hb hg in_Meaning hown hK hP 4 rfl rfl 0 (by decide) (hg _ wn_1_184) (fun _ h9 => h9) rfl dn_Meaning_module_35 ?_
      refine lv_iload_n hx hb dn_Meaning_module_38 rfl (lv_at hl 1 rfl) ?_
      obtain ⟨q_7, hc_8, hf⟩ := dc_b hf
      refine dc_callv (dc_runV (ar := 1) (As := [.int v1]) (rest := []) (ci := 4) (q0 := 3) ⟨hx, hb, hml, hown, hg⟩ hK hN hT hS hA (ct_Checker_moduleBegins_Ch l dC dI cI cB cJ cZ cQ N H.size a v hv_2 v1 q_4.2 q_7 hc_8) hP hD rfl rfl wn_4_205 wn_4_206 wn_4_207 wn_1_4 wn_4_208 rfl rfl (by decide +kernel) ⟨Nat.le_of_ble_eq_true rfl, Nat.le_of_ble_eq_true rfl⟩ rfl hl.1 rfl (Nat.le_of_ble_eq_true rfl) dn_Meaning_module_39 ⟨Nat.le_of_ble_eq_true rfl, Nat.le_of_ble_eq_true rfl⟩) hP hD hS hA (fun _ H locs hw hP hD hS => ?_)
      refine lv_aload_n hx hb dn_Meaning_module_42 rfl (lv_at hl 0 rfl) ?_
      refine va_get (D := (dC, dI)) (ci := 5) (v := .ref ((a 109))) (C := rn_Meaning) (T := fn_Meaning) (N := 17) hx hb hg in_Meaning hown hK hP 4 rfl rfl 1 (by decide) (hg _ wn_1_185) (fun _ h9 => h9) (congrArg some hv_4) dn_Meaning_module_43 ?_
      refine lv_iload_n hx hb dn_Meaning_module_46 rfl (lv_at hl 2 rfl) ?_
      obtain ⟨q_9, hc_10, hf⟩ := dc_b hf
      refine dc_callv (dc_runV (ar := 1) (As := [.int v2]) (rest := []) (ci := 10) (q0 := 9) ⟨hx, hb, hml, hown, hg⟩ hK hN hT hS hA (ct_Design_addModule_Ds l dC dI cI cB cJ cZ cQ N H.size a v v2 q_7.2 q_9 hc_10) hP hD rfl rfl wn_4_209 wn_4_210 wn_4_211 wn_1_10 wn_4_212 rfl rfl (by decide +kernel) ⟨Nat.le_of_ble_eq_true rfl, Nat.le_of_ble_eq_true rfl⟩ rfl hl.1 rfl (Nat.le_of_ble_eq_true rfl) dn_Meaning_module_47 ⟨Nat.le_of_ble_eq_true rfl, Nat.le_of_ble_eq_true rfl⟩) hP hD hS hA (fun _ H locs hw hP hD hS => ?_)
      rw [hQQ, ← Option.some.inj hf]
      exact xk_vret (w1 := fun u : Unit => (wC a v cI cB cJ cZ cQ q_9.2)) () hx hb hr hlocks hK hS dn_Meaning_module_50 hP hD trivial (Nat.le_refl _) (Nat.le_refl _)
    · have hf := (if_neg h).symm.trans hf
      refine lv_aload_n hx hb dn_Meaning_module_23 rfl (lv_at hl 0 rfl) ?_
      refine va_get (D := (dC, dI)) (ci := 5) (v := .ref ((a 103))) (C := rn_Meaning) (T := fn_Meaning) (N := 17) hx hb hg in_Meaning hown hK hP 4 rfl rfl 0 (by decide) (hg _ wn_1_184) (fun _ h9 => h9) rfl dn_Meaning_module_24 ?_
      refine lv_bipush (v := 20) hx hb dn_Meaning_module_27 (by decide) ?_
      refine lv_iload_n hx hb dn_Meaning_module_29 rfl (lv_at hl 2 rfl) ?_
      obtain ⟨q_7, hc_8, hf⟩ := dc_b hf
      refine dc_callv (dc_runV (ar := 2) (As := [.int 20, .int v2]) (rest := []) (ci := 4) (q0 := 3) ⟨hx, hb, hml, hown, hg⟩ hK hN hT hS hA (ct_Checker_refuse_Ch l dC dI cI cB cJ cZ cQ N H.size a v 20 v2 q_4.2 q_7 hc_8) hP hD rfl rfl wn_4_201 wn_4_202 wn_4_203 wn_1_4 wn_4_204 rfl rfl (by decide +kernel) ⟨Nat.le_of_ble_eq_true rfl, Nat.le_of_ble_eq_true rfl⟩ rfl hl.1 rfl (Nat.le_of_ble_eq_true rfl) dn_Meaning_module_30 ⟨Nat.le_of_ble_eq_true rfl, Nat.le_of_ble_eq_true rfl⟩) hP hD hS hA (fun _ H locs hw hP hD hS => ?_)
      rw [hQQ, ← Option.some.inj hf]
      exact xk_vret (w1 := fun u : Unit => (wC a v cI cB cJ cZ cQ q_7.2)) () hx hb hr hlocks hK hS dn_Meaning_module_33 hP hD trivial (Nat.le_refl _) (Nat.le_refl _)
  · have hf := (if_neg h).symm.trans hf
    rw [hQQ, ← Option.some.inj hf]
    exact xk_vret (w1 := fun u : Unit => (wC a v cI cB cJ cZ cQ q_1.2)) () hx hb hr hlocks hK hS dn_Meaning_module_10 hP hD trivial (Nat.le_refl _) (Nat.le_refl _)
set_option maxHeartbeats 8000000 in
set_option maxRecDepth 100000 in
theorem ct_Tokens_open_Tk (l : Launch) (dC : Nat → ClassId) (dI : Nat → Nat → Nat) (cI cB cJ cZ cQ : ClassId) (N sz : Nat) (a : Nat → Nat) (v : Nat → Value) (v1 : Int32) (s : ms) (y : (Unit × ms)) (hf : fn_Tokens_open_Tk N v1 s = some y) : Met l yn_Tokens_open (xw yn_Tokens_open bn_Tokens_open 2 none) ({ frames := 2, cells := 0, slots := 0, locals := 41 }) (dc_P (dC, dI) xcl (xt cI cB cJ cZ cQ) [.ref ((a 101)), .int v1] sz (wC a v cI cB cJ cZ cQ s)) (xk_Qv (dC, dI) xcl (xt cI cB cJ cZ cQ) (fun _ : Unit => True) (fun u : Unit => (wC a v cI cB cJ cZ cQ y.2)) (va_A (wC a v cI cB cJ cZ cQ s) sz)) 0 0 (va_A (wC a v cI cB cJ cZ cQ s) sz) := by
  refine dc_of (QA := xk_Qv (dC, dI) xcl (xt cI cB cJ cZ cQ) (fun _ : Unit => True) (fun u : Unit => (wC a v cI cB cJ cZ cQ y.2))) (by decide) (Nat.le_of_ble_eq_true rfl) ?_
  intro p e s0 m below meth c hx hb hml hown hg hr hlocks hin hP hK hN A hA hD hT ls hl
  have hown : s0.vm.findClass rn_Tokens = some m.cls := hown
  obtain ⟨H, hH⟩ : ∃ z, z = s0.heap := ⟨_, rfl⟩
  rw [← hH] at hP
  have hS : va_S A s0.heap H [] := by rw [hH]; exact va_S.rf
  suffices kk : ∀ QQ : State → Prop, QQ = MQ below (xk_Qv (dC, dI) xcl (xt cI cB cJ cZ cQ) (fun _ : Unit => True) (fun u : Unit => (wC a v cI cB cJ cZ cQ y.2)) A) [.ref ((a 101)), .int v1].toArray s0 0 0 A → dcC p l e ({ frames := 2, cells := 0, slots := 0, locals := 41 }) s0 m [.ref ((a 101)), .int v1].toArray below meth c QQ (dC, dI) A (wC a v cI cB cJ cZ cQ s) 0 2 [(0, .ref ((a 101))), (1, .int v1)] [] by
    have k9 := kk _ rfl H [] ls hP hD hS hl
    rw [hH] at k9; exact k9
  clear hP hD hS hl hH H ls
  intro QQ hQQ
  intro H locs ls hP hD hS hl
  unfold fn_Tokens_open_Tk at hf
  refine lv_aload_n hx hb dn_Tokens_open_0 rfl (lv_at hl 0 rfl) ?_
  refine va_get (D := (dC, dI)) (ci := 2) (v := .int ((s.1 214 0))) (C := rn_Tokens) (T := fn_Tokens) (N := 9) hx hb hg in_Tokens hown hK hP 1 rfl rfl 3 (by decide) (hg _ wn_1_51) (fun _ h9 => h9) rfl dn_Tokens_open_1 ?_
  refine lv_iload_n hx hb dn_Tokens_open_4 rfl (lv_at hl 1 rfl) ?_
  refine lv_icmp_eq (tgt := 19) hx hb dn_Tokens_open_5 (by decide) (fun h => ?_) (fun h => ?_)
  · have hf := (if_pos h).symm.trans hf
    refine lv_aload_n hx hb dn_Tokens_open_19 rfl (lv_at hl 0 rfl) ?_
    refine va_get (D := (dC, dI)) (ci := 2) (v := .int ((s.1 219 0))) (C := rn_Tokens) (T := fn_Tokens) (N := 9) hx hb hg in_Tokens hown hK hP 1 rfl rfl 8 (by decide) (hg _ wn_1_62) (fun _ h9 => h9) rfl dn_Tokens_open_20 ?_
    refine lv_bipush (v := 60) hx hb dn_Tokens_open_23 (by decide) ?_
    refine lv_icmp_lt (tgt := 36) hx hb dn_Tokens_open_25 (by decide) (fun h => ?_) (fun h => ?_)
    · have hf := (if_pos h).symm.trans hf
      refine lv_aload_n hx hb dn_Tokens_open_36 rfl (lv_at hl 0 rfl) ?_
      refine lv_dup hx hb dn_Tokens_open_37 rfl ?_
      refine va_get (D := (dC, dI)) (ci := 2) (v := .int ((s.1 219 0))) (C := rn_Tokens) (T := fn_Tokens) (N := 9) hx hb hg in_Tokens hown hK hP 1 rfl rfl 8 (by decide) (hg _ wn_1_62) (fun _ h9 => h9) rfl dn_Tokens_open_38 ?_
      refine lv_iconst (v := 1) hx hb dn_Tokens_open_41 (by decide) ?_
      refine lv_iadd hx hb dn_Tokens_open_42 ?_
      refine va_put (D := (dC, dI)) (ci := 2) (v := .int (((s.1 219 0) + 1))) (ty := .int) (C := rn_Tokens) (T := fn_Tokens) (N := 9) hx hb hg in_Tokens tn_Tokens tk_Tokens nn_Tokens hown hK hP hD hS 1 rfl rfl 8 (by decide) (hg _ wn_1_62) (fun _ h9 => h9) rfl (tk_Tokens 8 (by decide)) rfl rfl (Nat.le_of_ble_eq_true rfl) dn_Tokens_open_43 (fun H locs hP hD hS => ?_)
      have hP := wC_P_219 hP
      have hD := wC_D_219 hD
      refine lv_aload_n hx hb dn_Tokens_open_46 rfl (lv_at hl 0 rfl) ?_
      obtain ⟨q_1, hc_2, hf⟩ := dc_b hf
      refine dc_callv (dc_runV (ar := 0) (As := []) (rest := []) (ci := 2) (q0 := 1) ⟨hx, hb, hml, hown, hg⟩ hK hN hT hS hA (ct_Tokens_take_Tk l dC dI cI cB cJ cZ cQ N H.size a v (upI s 219 (fun _ => ((s.1 219 0) + 1))) q_1 hc_2) hP hD rfl rfl wn_4_148 wn_4_149 wn_4_150 wn_1_2 wn_4_151 rfl rfl (by decide +kernel) ⟨Nat.le_of_ble_eq_true rfl, Nat.le_of_ble_eq_true rfl⟩ rfl hl.1 rfl (Nat.le_of_ble_eq_true rfl) dn_Tokens_open_47 ⟨Nat.le_of_ble_eq_true rfl, Nat.le_of_ble_eq_true rfl⟩) hP hD hS hA (fun _ H locs hw hP hD hS => ?_)
      rw [hQQ, ← Option.some.inj hf]
      exact xk_vret (w1 := fun u : Unit => (wC a v cI cB cJ cZ cQ q_1.2)) () hx hb hr hlocks hK hS dn_Tokens_open_50 hP hD trivial (Nat.le_refl _) (Nat.le_refl _)
    · have hf := (if_neg h).symm.trans hf
      refine lv_aload_n hx hb dn_Tokens_open_28 rfl (lv_at hl 0 rfl) ?_
      refine lv_iconst (v := 3) hx hb dn_Tokens_open_29 (by decide) ?_
      obtain ⟨q_1, hc_2, hf⟩ := dc_b hf
      refine dc_callv (dc_runV (ar := 1) (As := [.int 3]) (rest := []) (ci := 2) (q0 := 1) ⟨hx, hb, hml, hown, hg⟩ hK hN hT hS hA (ct_Tokens_stop_Tk l dC dI cI cB cJ cZ cQ N H.size a v 3 s q_1 hc_2) hP hD rfl rfl wn_4_181 wn_4_183 sn_Tokens_stop wn_1_2 wn_4_184 rfl rfl (by decide +kernel) ⟨Nat.le_of_ble_eq_true rfl, Nat.le_of_ble_eq_true rfl⟩ rfl hl.1 rfl (Nat.le_of_ble_eq_true rfl) dn_Tokens_open_30 ⟨Nat.le_of_ble_eq_true rfl, Nat.le_of_ble_eq_true rfl⟩) hP hD hS hA (fun _ H locs hw hP hD hS => ?_)
      refine lv_goto (tgt := 50) hx hb dn_Tokens_open_33 (by decide) ?_
      rw [hQQ, ← Option.some.inj hf]
      exact xk_vret (w1 := fun u : Unit => (wC a v cI cB cJ cZ cQ q_1.2)) () hx hb hr hlocks hK hS dn_Tokens_open_50 hP hD trivial (Nat.le_refl _) (Nat.le_refl _)
  · have hf := (if_neg h).symm.trans hf
    refine lv_aload_n hx hb dn_Tokens_open_8 rfl (lv_at hl 0 rfl) ?_
    refine lv_aload_n hx hb dn_Tokens_open_9 rfl (lv_at hl 0 rfl) ?_
    obtain ⟨q_1, hc_2, hf⟩ := dc_b hf
    refine dc_calli (dc_runV (ar := 0) (As := []) (rest := [.ref ((a 101))]) (ci := 2) (q0 := 1) ⟨hx, hb, hml, hown, hg⟩ hK hN hT hS hA (ct_Tokens_misfit_Tk l dC dI cI cB cJ cZ cQ N H.size a v s q_1 hc_2) hP hD rfl rfl wn_4_177 wn_4_179 sn_Tokens_misfit wn_1_2 wn_4_180 rfl rfl (by decide +kernel) ⟨Nat.le_of_ble_eq_true rfl, Nat.le_of_ble_eq_true rfl⟩ rfl hl.1 rfl (Nat.le_of_ble_eq_true rfl) dn_Tokens_open_10 ⟨Nat.le_of_ble_eq_true rfl, Nat.le_of_ble_eq_true rfl⟩) hP hD hS hA (fun r_3 _ H locs hw hP hD hS => ?_)
    have hw : r_3 = q_1.1 := hw
    subst hw
    obtain ⟨q_4, hc_5, hf⟩ := dc_b hf
    refine dc_callv (dc_runV (ar := 1) (As := [.int q_1.1]) (rest := []) (ci := 2) (q0 := 1) ⟨hx, hb, hml, hown, hg⟩ hK hN hT hS hA (ct_Tokens_stop_Tk l dC dI cI cB cJ cZ cQ N H.size a v q_1.1 q_1.2 q_4 hc_5) hP hD rfl rfl wn_4_181 wn_4_183 sn_Tokens_stop wn_1_2 wn_4_184 rfl rfl (by decide +kernel) ⟨Nat.le_of_ble_eq_true rfl, Nat.le_of_ble_eq_true rfl⟩ rfl hl.1 rfl (Nat.le_of_ble_eq_true rfl) dn_Tokens_open_13 ⟨Nat.le_of_ble_eq_true rfl, Nat.le_of_ble_eq_true rfl⟩) hP hD hS hA (fun _ H locs hw hP hD hS => ?_)
    refine lv_goto (tgt := 50) hx hb dn_Tokens_open_16 (by decide) ?_
    rw [hQQ, ← Option.some.inj hf]
    exact xk_vret (w1 := fun u : Unit => (wC a v cI cB cJ cZ cQ q_4.2)) () hx hb hr hlocks hK hS dn_Tokens_open_50 hP hD trivial (Nat.le_refl _) (Nat.le_refl _)
set_option maxHeartbeats 8000000 in
set_option maxRecDepth 100000 in
theorem ct_Tokens_shut_Tk (l : Launch) (dC : Nat → ClassId) (dI : Nat → Nat → Nat) (cI cB cJ cZ cQ : ClassId) (N sz : Nat) (a : Nat → Nat) (v : Nat → Value) (v1 : Int32) (s : ms) (y : (Unit × ms)) (hf : fn_Tokens_shut_Tk N v1 s = some y) : Met l yn_Tokens_shut (xw yn_Tokens_shut bn_Tokens_shut 2 none) ({ frames := 2, cells := 0, slots := 0, locals := 41 }) (dc_P (dC, dI) xcl (xt cI cB cJ cZ cQ) [.ref ((a 101)), .int v1] sz (wC a v cI cB cJ cZ cQ s)) (xk_Qv (dC, dI) xcl (xt cI cB cJ cZ cQ) (fun _ : Unit => True) (fun u : Unit => (wC a v cI cB cJ cZ cQ y.2)) (va_A (wC a v cI cB cJ cZ cQ s) sz)) 0 0 (va_A (wC a v cI cB cJ cZ cQ s) sz) := by
  refine dc_of (QA := xk_Qv (dC, dI) xcl (xt cI cB cJ cZ cQ) (fun _ : Unit => True) (fun u : Unit => (wC a v cI cB cJ cZ cQ y.2))) (by decide) (Nat.le_of_ble_eq_true rfl) ?_
  intro p e s0 m below meth c hx hb hml hown hg hr hlocks hin hP hK hN A hA hD hT ls hl
  have hown : s0.vm.findClass rn_Tokens = some m.cls := hown
  obtain ⟨H, hH⟩ : ∃ z, z = s0.heap := ⟨_, rfl⟩
  rw [← hH] at hP
  have hS : va_S A s0.heap H [] := by rw [hH]; exact va_S.rf
  suffices kk : ∀ QQ : State → Prop, QQ = MQ below (xk_Qv (dC, dI) xcl (xt cI cB cJ cZ cQ) (fun _ : Unit => True) (fun u : Unit => (wC a v cI cB cJ cZ cQ y.2)) A) [.ref ((a 101)), .int v1].toArray s0 0 0 A → dcC p l e ({ frames := 2, cells := 0, slots := 0, locals := 41 }) s0 m [.ref ((a 101)), .int v1].toArray below meth c QQ (dC, dI) A (wC a v cI cB cJ cZ cQ s) 0 2 [(0, .ref ((a 101))), (1, .int v1)] [] by
    have k9 := kk _ rfl H [] ls hP hD hS hl
    rw [hH] at k9; exact k9
  clear hP hD hS hl hH H ls
  intro QQ hQQ
  have bl_23 : ∀ (s : ms), bk_Tokens_shut_Tk_23 N s = some y → dcC p l e ({ frames := 2, cells := 0, slots := 0, locals := 41 }) s0 m [.ref ((a 101)), .int v1].toArray below meth c QQ (dC, dI) A (wC a v cI cB cJ cZ cQ s) 23 2 [(0, .ref ((a 101)))] [] := by
    intro s hf H locs ls hP hD hS hl
    unfold bk_Tokens_shut_Tk_23 at hf
    refine lv_aload_n hx hb dn_Tokens_shut_23 rfl (lv_at hl 0 rfl) ?_
    refine lv_dup hx hb dn_Tokens_shut_24 rfl ?_
    refine va_get (D := (dC, dI)) (ci := 2) (v := .int ((s.1 219 0))) (C := rn_Tokens) (T := fn_Tokens) (N := 9) hx hb hg in_Tokens hown hK hP 1 rfl rfl 8 (by decide) (hg _ wn_1_62) (fun _ h9 => h9) rfl dn_Tokens_shut_25 ?_
    refine lv_iconst (v := 1) hx hb dn_Tokens_shut_28 (by decide) ?_
    refine lv_isub hx hb dn_Tokens_shut_29 ?_
    refine va_put (D := (dC, dI)) (ci := 2) (v := .int (((s.1 219 0) - 1))) (ty := .int) (C := rn_Tokens) (T := fn_Tokens) (N := 9) hx hb hg in_Tokens tn_Tokens tk_Tokens nn_Tokens hown hK hP hD hS 1 rfl rfl 8 (by decide) (hg _ wn_1_62) (fun _ h9 => h9) rfl (tk_Tokens 8 (by decide)) rfl rfl (Nat.le_of_ble_eq_true rfl) dn_Tokens_shut_30 (fun H locs hP hD hS => ?_)
    have hP := wC_P_219 hP
    have hD := wC_D_219 hD
    rw [hQQ, ← Option.some.inj hf]
    exact xk_vret (w1 := fun u : Unit => (wC a v cI cB cJ cZ cQ (upI s 219 (fun _ => ((s.1 219 0) - 1))))) () hx hb hr hlocks hK hS dn_Tokens_shut_33 hP hD trivial (Nat.le_refl _) (Nat.le_refl _)
  intro H locs ls hP hD hS hl
  unfold fn_Tokens_shut_Tk at hf
  refine lv_aload_n hx hb dn_Tokens_shut_0 rfl (lv_at hl 0 rfl) ?_
  refine va_get (D := (dC, dI)) (ci := 2) (v := .int ((s.1 214 0))) (C := rn_Tokens) (T := fn_Tokens) (N := 9) hx hb hg in_Tokens hown hK hP 1 rfl rfl 3 (by decide) (hg _ wn_1_51) (fun _ h9 => h9) rfl dn_Tokens_shut_1 ?_
  refine lv_iload_n hx hb dn_Tokens_shut_4 rfl (lv_at hl 1 rfl) ?_
  refine lv_icmp_ne (tgt := 15) hx hb dn_Tokens_shut_5 (by decide) (fun h => ?_) (fun h => ?_)
  · have hf := (if_neg h).symm.trans hf
    refine lv_aload_n hx hb dn_Tokens_shut_15 rfl (lv_at hl 0 rfl) ?_
    refine lv_aload_n hx hb dn_Tokens_shut_16 rfl (lv_at hl 0 rfl) ?_
    obtain ⟨q_1, hc_2, hf⟩ := dc_b hf
    refine dc_calli (dc_runV (ar := 0) (As := []) (rest := [.ref ((a 101))]) (ci := 2) (q0 := 1) ⟨hx, hb, hml, hown, hg⟩ hK hN hT hS hA (ct_Tokens_misfit_Tk l dC dI cI cB cJ cZ cQ N H.size a v s q_1 hc_2) hP hD rfl rfl wn_4_177 wn_4_179 sn_Tokens_misfit wn_1_2 wn_4_180 rfl rfl (by decide +kernel) ⟨Nat.le_of_ble_eq_true rfl, Nat.le_of_ble_eq_true rfl⟩ rfl hl.1 rfl (Nat.le_of_ble_eq_true rfl) dn_Tokens_shut_17 ⟨Nat.le_of_ble_eq_true rfl, Nat.le_of_ble_eq_true rfl⟩) hP hD hS hA (fun r_3 _ H locs hw hP hD hS => ?_)
    have hw : r_3 = q_1.1 := hw
    subst hw
    obtain ⟨q_4, hc_5, hf⟩ := dc_b hf
    refine dc_callv (dc_runV (ar := 1) (As := [.int q_1.1]) (rest := []) (ci := 2) (q0 := 1) ⟨hx, hb, hml, hown, hg⟩ hK hN hT hS hA (ct_Tokens_stop_Tk l dC dI cI cB cJ cZ cQ N H.size a v q_1.1 q_1.2 q_4 hc_5) hP hD rfl rfl wn_4_181 wn_4_183 sn_Tokens_stop wn_1_2 wn_4_184 rfl rfl (by decide +kernel) ⟨Nat.le_of_ble_eq_true rfl, Nat.le_of_ble_eq_true rfl⟩ rfl hl.1 rfl (Nat.le_of_ble_eq_true rfl) dn_Tokens_shut_20 ⟨Nat.le_of_ble_eq_true rfl, Nat.le_of_ble_eq_true rfl⟩) hP hD hS hA (fun _ H locs hw hP hD hS => ?_)
    exact bl_23 q_4.2 hf H locs ls hP hD hS (lv_sub hl [0] rfl)
  · have hf := (if_pos h).symm.trans hf
    refine lv_aload_n hx hb dn_Tokens_shut_8 rfl (lv_at hl 0 rfl) ?_
    obtain ⟨q_1, hc_2, hf⟩ := dc_b hf
    refine dc_callv (dc_runV (ar := 0) (As := []) (rest := []) (ci := 2) (q0 := 1) ⟨hx, hb, hml, hown, hg⟩ hK hN hT hS hA (ct_Tokens_take_Tk l dC dI cI cB cJ cZ cQ N H.size a v s q_1 hc_2) hP hD rfl rfl wn_4_148 wn_4_149 wn_4_150 wn_1_2 wn_4_151 rfl rfl (by decide +kernel) ⟨Nat.le_of_ble_eq_true rfl, Nat.le_of_ble_eq_true rfl⟩ rfl hl.1 rfl (Nat.le_of_ble_eq_true rfl) dn_Tokens_shut_9 ⟨Nat.le_of_ble_eq_true rfl, Nat.le_of_ble_eq_true rfl⟩) hP hD hS hA (fun _ H locs hw hP hD hS => ?_)
    refine lv_goto (tgt := 23) hx hb dn_Tokens_shut_12 (by decide) ?_
    exact bl_23 q_1.2 hf H locs ls hP hD hS (lv_sub hl [0] rfl)
set_option maxHeartbeats 8000000 in
set_option maxRecDepth 100000 in
theorem ct_Meaning_range_Me (l : Launch) (dC : Nat → ClassId) (dI : Nat → Nat → Nat) (cI cB cJ cZ cQ : ClassId) (N sz : Nat) (a : Nat → Nat) (v : Nat → Value) (v1 : Int32) (v2 : Int32) (v3 : Int32) (s : ms) (y : (Unit × ms)) (hf : fn_Meaning_range_Me N v1 v2 v3 s = some y) : Met l yn_Meaning_range (xw yn_Meaning_range bn_Meaning_range 4 none) ({ frames := 1, cells := 0, slots := 0, locals := 22 }) (dc_P (dC, dI) xcl (xt cI cB cJ cZ cQ) [.ref ((a 104)), .int v1, .int v2, .int v3] sz (wC a v cI cB cJ cZ cQ s)) (xk_Qv (dC, dI) xcl (xt cI cB cJ cZ cQ) (fun _ : Unit => True) (fun u : Unit => (wC a v cI cB cJ cZ cQ y.2)) (va_A (wC a v cI cB cJ cZ cQ s) sz)) 0 0 (va_A (wC a v cI cB cJ cZ cQ s) sz) := by
  refine dc_of (QA := xk_Qv (dC, dI) xcl (xt cI cB cJ cZ cQ) (fun _ : Unit => True) (fun u : Unit => (wC a v cI cB cJ cZ cQ y.2))) (by decide) (Nat.le_of_ble_eq_true rfl) ?_
  intro p e s0 m below meth c hx hb hml hown hg hr hlocks hin hP hK hN A hA hD hT ls hl
  have hown : s0.vm.findClass rn_Meaning = some m.cls := hown
  obtain ⟨H, hH⟩ : ∃ z, z = s0.heap := ⟨_, rfl⟩
  rw [← hH] at hP
  have hS : va_S A s0.heap H [] := by rw [hH]; exact va_S.rf
  suffices kk : ∀ QQ : State → Prop, QQ = MQ below (xk_Qv (dC, dI) xcl (xt cI cB cJ cZ cQ) (fun _ : Unit => True) (fun u : Unit => (wC a v cI cB cJ cZ cQ y.2)) A) [.ref ((a 104)), .int v1, .int v2, .int v3].toArray s0 0 0 A → dcC p l e ({ frames := 1, cells := 0, slots := 0, locals := 22 }) s0 m [.ref ((a 104)), .int v1, .int v2, .int v3].toArray below meth c QQ (dC, dI) A (wC a v cI cB cJ cZ cQ s) 0 4 [(0, .ref ((a 104))), (1, .int v1), (2, .int v2), (3, .int v3)] [] by
    have k9 := kk _ rfl H [] ls hP hD hS hl
    rw [hH] at k9; exact k9
  clear hP hD hS hl hH H ls
  intro QQ hQQ
  have bl_35 : ∀ (x2 : Int32) (s : ms), bk_Meaning_range_Me_35 N x2 s = some y → dcC p l e ({ frames := 1, cells := 0, slots := 0, locals := 22 }) s0 m [.ref ((a 104)), .int v1, .int v2, .int v3].toArray below meth c QQ (dC, dI) A (wC a v cI cB cJ cZ cQ s) 35 4 [(0, .ref ((a 104))), (2, .int x2)] [] := by
    intro x2 s hf H locs ls hP hD hS hl
    unfold bk_Meaning_range_Me_35 at hf
    refine lv_aload_n hx hb dn_Meaning_range_35 rfl (lv_at hl 0 rfl) ?_
    refine lv_iload_n hx hb dn_Meaning_range_36 rfl (lv_at hl 1 rfl) ?_
    refine lv_iconst (v := 1) hx hb dn_Meaning_range_37 (by decide) ?_
    refine lv_iadd hx hb dn_Meaning_range_38 ?_
    refine va_put (D := (dC, dI)) (ci := 5) (v := .int ((x2 + 1))) (ty := .int) (C := rn_Meaning) (T := fn_Meaning) (N := 17) hx hb hg in_Meaning tn_Meaning tk_Meaning nn_Meaning hown hK hP hD hS 4 rfl rfl 4 (by decide) (hg _ wn_1_188) (fun _ h9 => h9) rfl (tk_Meaning 4 (by decide)) rfl rfl (Nat.le_of_ble_eq_true rfl) dn_Meaning_range_39 (fun H locs hP hD hS => ?_)
    have hP := wC_P_248 hP
    have hD := wC_D_248 hD
    rw [hQQ, ← Option.some.inj hf]
    exact xk_vret (w1 := fun u : Unit => (wC a v cI cB cJ cZ cQ (upI s 248 (fun _ => (x2 + 1))))) () hx hb hr hlocks hK hS dn_Meaning_range_42 hP hD trivial (Nat.le_refl _) (Nat.le_refl _)
  have bl_25 : ∀ (x1 : Int32) (x2 : Int32) (s : ms), bk_Meaning_range_Me_25 N x1 x2 s = some y → dcC p l e ({ frames := 1, cells := 0, slots := 0, locals := 22 }) s0 m [.ref ((a 104)), .int v1, .int v2, .int v3].toArray below meth c QQ (dC, dI) A (wC a v cI cB cJ cZ cQ s) 25 4 [(0, .ref ((a 104))), (1, .int x1), (2, .int x2)] [] := by
    intro x1 x2 s hf H locs ls hP hD hS hl
    unfold bk_Meaning_range_Me_25 at hf
    refine lv_aload_n hx hb dn_Meaning_range_25 rfl (lv_at hl 0 rfl) ?_
    refine va_get (D := (dC, dI)) (ci := 5) (v := .ref ((a 103))) (C := rn_Meaning) (T := fn_Meaning) (N := 17) hx hb hg in_Meaning hown hK hP 4 rfl rfl 0 (by decide) (hg _ wn_1_184) (fun _ h9 => h9) rfl dn_Meaning_range_26 ?_
    refine lv_bipush (v := 30) hx hb dn_Meaning_range_29 (by decide) ?_
    refine lv_iload_n hx hb dn_Meaning_range_31 rfl (lv_at hl 1 rfl) ?_
    obtain ⟨q_1, hc_2, hf⟩ := dc_b hf
    refine dc_callv (dc_runV (ar := 2) (As := [.int 30, .int x1]) (rest := []) (ci := 4) (q0 := 3) ⟨hx, hb, hml, hown, hg⟩ hK hN hT hS hA (ct_Checker_refuse_Ch l dC dI cI cB cJ cZ cQ N H.size a v 30 x1 s q_1 hc_2) hP hD rfl rfl wn_4_201 wn_4_202 wn_4_203 wn_1_4 wn_4_204 rfl rfl (by decide +kernel) ⟨Nat.le_of_ble_eq_true rfl, Nat.le_of_ble_eq_true rfl⟩ rfl hl.1 rfl (Nat.le_of_ble_eq_true rfl) dn_Meaning_range_32 ⟨Nat.le_of_ble_eq_true rfl, Nat.le_of_ble_eq_true rfl⟩) hP hD hS hA (fun _ H locs hw hP hD hS => ?_)
    exact bl_35 x2 q_1.2 hf H locs ls hP hD hS (lv_sub hl [0, 2] rfl)
  intro H locs ls hP hD hS hl
  unfold fn_Meaning_range_Me at hf
  refine lv_aload_n hx hb dn_Meaning_range_0 rfl (lv_at hl 0 rfl) ?_
  refine va_get (D := (dC, dI)) (ci := 5) (v := .ref ((a 103))) (C := rn_Meaning) (T := fn_Meaning) (N := 17) hx hb hg in_Meaning hown hK hP 4 rfl rfl 0 (by decide) (hg _ wn_1_184) (fun _ h9 => h9) rfl dn_Meaning_range_1 ?_
  obtain ⟨q_1, hc_2, hf⟩ := dc_b hf
  refine dc_calli (dc_runV (ar := 0) (As := []) (rest := []) (ci := 4) (q0 := 3) ⟨hx, hb, hml, hown, hg⟩ hK hN hT hS hA (ct_Checker_isOff_Ch l dC dI cI cB cJ cZ cQ N H.size a v s q_1 hc_2) hP hD rfl rfl wn_4_193 wn_4_194 wn_4_195 wn_1_4 wn_4_196 rfl rfl (by decide +kernel) ⟨Nat.le_of_ble_eq_true rfl, Nat.le_of_ble_eq_true rfl⟩ rfl hl.1 rfl (Nat.le_of_ble_eq_true rfl) dn_Meaning_range_4 ⟨Nat.le_of_ble_eq_true rfl, Nat.le_of_ble_eq_true rfl⟩) hP hD hS hA (fun r_3 _ H locs hw hP hD hS => ?_)
  have hw : r_3 = q_1.1 := hw
  subst hw
  refine lv_if_eq (tgt := 11) hx hb dn_Meaning_range_7 (by decide) (fun h => ?_) (fun h => ?_)
  · have hf := (if_pos h).symm.trans hf
    refine lv_iload_n hx hb dn_Meaning_range_11 rfl (lv_at hl 3 rfl) ?_
    refine lv_if_ne (tgt := 25) hx hb dn_Meaning_range_12 (by decide) (fun h => ?_) (fun h => ?_)
    · have hf := (if_neg h).symm.trans hf
      exact bl_25 v1 v2 q_1.2 hf H locs ls hP hD hS (lv_sub hl [0, 1, 2] rfl)
    · have hf := (if_pos h).symm.trans hf
      refine lv_iload_n hx hb dn_Meaning_range_15 rfl (lv_at hl 2 rfl) ?_
      refine lv_if_lt (tgt := 25) hx hb dn_Meaning_range_16 (by decide) (fun h => ?_) (fun h => ?_)
      · have hf := (if_pos h).symm.trans hf
        exact bl_25 v1 v2 q_1.2 hf H locs ls hP hD hS (lv_sub hl [0, 1, 2] rfl)
      · have hf := (if_neg h).symm.trans hf
        refine lv_iload_n hx hb dn_Meaning_range_19 rfl (lv_at hl 2 rfl) ?_
        refine lv_bipush (v := 64) hx hb dn_Meaning_range_20 (by decide) ?_
        refine lv_icmp_lt (tgt := 35) hx hb dn_Meaning_range_22 (by decide) (fun h => ?_) (fun h => ?_)
        · have hf := (if_pos h).symm.trans hf
          exact bl_35 v2 q_1.2 hf H locs ls hP hD hS (lv_sub hl [0, 2] rfl)
        · have hf := (if_neg h).symm.trans hf
          exact bl_25 v1 v2 q_1.2 hf H locs ls hP hD hS (lv_sub hl [0, 1, 2] rfl)
  · have hf := (if_neg h).symm.trans hf
    rw [hQQ, ← Option.some.inj hf]
    exact xk_vret (w1 := fun u : Unit => (wC a v cI cB cJ cZ cQ q_1.2)) () hx hb hr hlocks hK hS dn_Meaning_range_10 hP hD trivial (Nat.le_refl _) (Nat.le_refl _)
set_option maxHeartbeats 8000000 in
set_option maxRecDepth 100000 in
theorem ct_Checker_meantBy_Ch (l : Launch) (dC : Nat → ClassId) (dI : Nat → Nat → Nat) (cI cB cJ cZ cQ : ClassId) (N sz : Nat) (a : Nat → Nat) (v : Nat → Value) (v1 : Int32) (s : ms) (y : (Int32 × ms)) (hf : fn_Checker_meantBy_Ch N v1 s = some y) : Met l yn_Checker_meantBy (xw yn_Checker_meantBy bn_Checker_meantBy 2 (some .int)) ({ frames := 0, cells := 0, slots := 0, locals := 0 }) (dc_P (dC, dI) xcl (xt cI cB cJ cZ cQ) [.ref ((a 103)), .int v1] sz (wC a v cI cB cJ cZ cQ s)) (xk_Qi (dC, dI) xcl (xt cI cB cJ cZ cQ) (fun (r : Int32) (_ : Unit) => r = y.1) (fun u : Unit => (wC a v cI cB cJ cZ cQ y.2)) (va_A (wC a v cI cB cJ cZ cQ s) sz)) 0 0 (va_A (wC a v cI cB cJ cZ cQ s) sz) := by
  refine dc_of (QA := xk_Qi (dC, dI) xcl (xt cI cB cJ cZ cQ) (fun (r : Int32) (_ : Unit) => r = y.1) (fun u : Unit => (wC a v cI cB cJ cZ cQ y.2))) (by decide) (Nat.le_of_ble_eq_true rfl) ?_
  intro p e s0 m below meth c hx hb hml hown hg hr hlocks hin hP hK hN A hA hD hT ls hl
  have hown : s0.vm.findClass rn_Checker = some m.cls := hown
  obtain ⟨H, hH⟩ : ∃ z, z = s0.heap := ⟨_, rfl⟩
  rw [← hH] at hP
  have hS : va_S A s0.heap H [] := by rw [hH]; exact va_S.rf
  suffices kk : ∀ QQ : State → Prop, QQ = MQ below (xk_Qi (dC, dI) xcl (xt cI cB cJ cZ cQ) (fun (r : Int32) (_ : Unit) => r = y.1) (fun u : Unit => (wC a v cI cB cJ cZ cQ y.2)) A) [.ref ((a 103)), .int v1].toArray s0 0 0 A → dcC p l e ({ frames := 0, cells := 0, slots := 0, locals := 0 }) s0 m [.ref ((a 103)), .int v1].toArray below meth c QQ (dC, dI) A (wC a v cI cB cJ cZ cQ s) 0 2 [(0, .ref ((a 103))), (1, .int v1)] [] by
    have k9 := kk _ rfl H [] ls hP hD hS hl
    rw [hH] at k9; exact k9
  clear hP hD hS hl hH H ls
  intro QQ hQQ
  intro H locs ls hP hD hS hl
  unfold fn_Checker_meantBy_Ch at hf
  refine lv_iload_n hx hb dn_Checker_meantBy_0 rfl (lv_at hl 1 rfl) ?_
  refine lv_if_lt (tgt := 11) hx hb dn_Checker_meantBy_1 (by decide) (fun h => ?_) (fun h => ?_)
  · have hf := (if_pos h).symm.trans hf
    refine lv_iconst (v := (-1)) hx hb dn_Checker_meantBy_11 (by decide) ?_
    rw [hQQ, ← Option.some.inj hf]
    exact xk_iret (w1 := fun u : Unit => (wC a v cI cB cJ cZ cQ s)) () hx hb hr hlocks hK hS dn_Checker_meantBy_12 hP hD rfl (Nat.le_refl _) (Nat.le_refl _)
  · have hf := (if_neg h).symm.trans hf
    refine lv_iload_n hx hb dn_Checker_meantBy_4 rfl (lv_at hl 1 rfl) ?_
    refine lv_sipush (v := 19830) hx hb dn_Checker_meantBy_5 (by decide) ?_
    refine lv_icmp_lt (tgt := 13) hx hb dn_Checker_meantBy_8 (by decide) (fun h => ?_) (fun h => ?_)
    · have hf := (if_pos h).symm.trans hf
      refine lv_aload_n hx hb dn_Checker_meantBy_13 rfl (lv_at hl 0 rfl) ?_
      refine va_get (D := (dC, dI)) (ci := 4) (v := .ref ((a 236))) (C := rn_Checker) (T := fn_Checker) (N := 15) hx hb hg in_Checker hown hK hP 3 rfl rfl 7 (by decide) (hg _ wn_1_133) (fun _ h9 => h9) rfl dn_Checker_meantBy_14 ?_
      refine lv_iload_n hx hb dn_Checker_meantBy_17 rfl (lv_at hl 1 rfl) ?_
      obtain ⟨hg_1, hf⟩ := dc_g hf
      refine va_iald hx hb hK hP 23 0 rfl rfl hg_1 dn_Checker_meantBy_18 ?_
      refine xk_ti (y := ((s.1 236) (Int32.toNatClampNeg v1))) rfl ?_
      refine lv_aload_n hx hb dn_Checker_meantBy_19 rfl (lv_at hl 0 rfl) ?_
      refine va_get (D := (dC, dI)) (ci := 4) (v := .int ((s.1 232 0))) (C := rn_Checker) (T := fn_Checker) (N := 15) hx hb hg in_Checker hown hK hP 3 rfl rfl 3 (by decide) (hg _ wn_1_129) (fun _ h9 => h9) rfl dn_Checker_meantBy_20 ?_
      refine lv_icmp_ne (tgt := 35) hx hb dn_Checker_meantBy_23 (by decide) (fun h => ?_) (fun h => ?_)
      · have hf := (if_neg h).symm.trans hf
        refine lv_iconst (v := (-1)) hx hb dn_Checker_meantBy_35 (by decide) ?_
        rw [hQQ, ← Option.some.inj hf]
        exact xk_iret (w1 := fun u : Unit => (wC a v cI cB cJ cZ cQ s)) () hx hb hr hlocks hK hS dn_Checker_meantBy_36 hP hD rfl (Nat.le_refl _) (Nat.le_refl _)
      · have hf := (if_pos h).symm.trans hf
        refine lv_aload_n hx hb dn_Checker_meantBy_26 rfl (lv_at hl 0 rfl) ?_
        refine va_get (D := (dC, dI)) (ci := 4) (v := .ref ((a 235))) (C := rn_Checker) (T := fn_Checker) (N := 15) hx hb hg in_Checker hown hK hP 3 rfl rfl 6 (by decide) (hg _ wn_1_132) (fun _ h9 => h9) rfl dn_Checker_meantBy_27 ?_
        refine lv_iload_n hx hb dn_Checker_meantBy_30 rfl (lv_at hl 1 rfl) ?_
        obtain ⟨hg_2, hf⟩ := dc_g hf
        refine va_iald hx hb hK hP 22 0 rfl rfl hg_2 dn_Checker_meantBy_31 ?_
        refine xk_ti (y := ((s.1 235) (Int32.toNatClampNeg v1))) rfl ?_
        refine lv_goto (tgt := 36) hx hb dn_Checker_meantBy_32 (by decide) ?_
        rw [hQQ, ← Option.some.inj hf]
        exact xk_iret (w1 := fun u : Unit => (wC a v cI cB cJ cZ cQ s)) () hx hb hr hlocks hK hS dn_Checker_meantBy_36 hP hD rfl (Nat.le_refl _) (Nat.le_refl _)
    · have hf := (if_neg h).symm.trans hf
      refine lv_iconst (v := (-1)) hx hb dn_Checker_meantBy_11 (by decide) ?_
      rw [hQQ, ← Option.some.inj hf]
      exact xk_iret (w1 := fun u : Unit => (wC a v cI cB cJ cZ cQ s)) () hx hb hr hlocks hK hS dn_Checker_meantBy_12 hP hD rfl (Nat.le_refl _) (Nat.le_refl _)
set_option maxHeartbeats 8000000 in
set_option maxRecDepth 100000 in
theorem ct_Checker_mean_Ch (l : Launch) (dC : Nat → ClassId) (dI : Nat → Nat → Nat) (cI cB cJ cZ cQ : ClassId) (N sz : Nat) (a : Nat → Nat) (v : Nat → Value) (v1 : Int32) (v2 : Int32) (s : ms) (y : (Unit × ms)) (hf : fn_Checker_mean_Ch N v1 v2 s = some y) : Met l yn_Checker_mean (xw yn_Checker_mean bn_Checker_mean 3 none) ({ frames := 0, cells := 0, slots := 0, locals := 0 }) (dc_P (dC, dI) xcl (xt cI cB cJ cZ cQ) [.ref ((a 103)), .int v1, .int v2] sz (wC a v cI cB cJ cZ cQ s)) (xk_Qv (dC, dI) xcl (xt cI cB cJ cZ cQ) (fun _ : Unit => True) (fun u : Unit => (wC a v cI cB cJ cZ cQ y.2)) (va_A (wC a v cI cB cJ cZ cQ s) sz)) 0 0 (va_A (wC a v cI cB cJ cZ cQ s) sz) := by
  refine dc_of (QA := xk_Qv (dC, dI) xcl (xt cI cB cJ cZ cQ) (fun _ : Unit => True) (fun u : Unit => (wC a v cI cB cJ cZ cQ y.2))) (by decide) (Nat.le_of_ble_eq_true rfl) ?_
  intro p e s0 m below meth c hx hb hml hown hg hr hlocks hin hP hK hN A hA hD hT ls hl
  have hown : s0.vm.findClass rn_Checker = some m.cls := hown
  obtain ⟨H, hH⟩ : ∃ z, z = s0.heap := ⟨_, rfl⟩
  rw [← hH] at hP
  have hS : va_S A s0.heap H [] := by rw [hH]; exact va_S.rf
  suffices kk : ∀ QQ : State → Prop, QQ = MQ below (xk_Qv (dC, dI) xcl (xt cI cB cJ cZ cQ) (fun _ : Unit => True) (fun u : Unit => (wC a v cI cB cJ cZ cQ y.2)) A) [.ref ((a 103)), .int v1, .int v2].toArray s0 0 0 A → dcC p l e ({ frames := 0, cells := 0, slots := 0, locals := 0 }) s0 m [.ref ((a 103)), .int v1, .int v2].toArray below meth c QQ (dC, dI) A (wC a v cI cB cJ cZ cQ s) 0 3 [(0, .ref ((a 103))), (1, .int v1), (2, .int v2)] [] by
    have k9 := kk _ rfl H [] ls hP hD hS hl
    rw [hH] at k9; exact k9
  clear hP hD hS hl hH H ls
  intro QQ hQQ
  intro H locs ls hP hD hS hl
  unfold fn_Checker_mean_Ch at hf
  refine lv_iload_n hx hb dn_Checker_mean_0 rfl (lv_at hl 1 rfl) ?_
  refine lv_if_lt (tgt := 11) hx hb dn_Checker_mean_1 (by decide) (fun h => ?_) (fun h => ?_)
  · have hf := (if_pos h).symm.trans hf
    rw [hQQ, ← Option.some.inj hf]
    exact xk_vret (w1 := fun u : Unit => (wC a v cI cB cJ cZ cQ s)) () hx hb hr hlocks hK hS dn_Checker_mean_11 hP hD trivial (Nat.le_refl _) (Nat.le_refl _)
  · have hf := (if_neg h).symm.trans hf
    refine lv_iload_n hx hb dn_Checker_mean_4 rfl (lv_at hl 1 rfl) ?_
    refine lv_sipush (v := 19830) hx hb dn_Checker_mean_5 (by decide) ?_
    refine lv_icmp_lt (tgt := 12) hx hb dn_Checker_mean_8 (by decide) (fun h => ?_) (fun h => ?_)
    · have hf := (if_pos h).symm.trans hf
      refine lv_aload_n hx hb dn_Checker_mean_12 rfl (lv_at hl 0 rfl) ?_
      refine va_get (D := (dC, dI)) (ci := 4) (v := .ref ((a 236))) (C := rn_Checker) (T := fn_Checker) (N := 15) hx hb hg in_Checker hown hK hP 3 rfl rfl 7 (by decide) (hg _ wn_1_133) (fun _ h9 => h9) rfl dn_Checker_mean_13 ?_
      refine lv_iload_n hx hb dn_Checker_mean_16 rfl (lv_at hl 1 rfl) ?_
      refine lv_aload_n hx hb dn_Checker_mean_17 rfl (lv_at hl 0 rfl) ?_
      refine va_get (D := (dC, dI)) (ci := 4) (v := .int ((s.1 232 0))) (C := rn_Checker) (T := fn_Checker) (N := 15) hx hb hg in_Checker hown hK hP 3 rfl rfl 3 (by decide) (hg _ wn_1_129) (fun _ h9 => h9) rfl dn_Checker_mean_18 ?_
      obtain ⟨hg_1, hf⟩ := dc_g hf
      refine va_iast hx hb hK hP hD hS 23 0 rfl rfl hg_1 dn_Checker_mean_21 (fun H locs hP hD hS => ?_)
      have hP : va_P (dC, dI) xcl ((wC a v cI cB cJ cZ cQ s).set 23 ((a 236), .inl (cI, 19830, .inl (upd (s.1 236) (Int32.toNatClampNeg v1) ((s.1 232 0)))))) H := hP
      have hD : va_D A ((wC a v cI cB cJ cZ cQ s).set 23 ((a 236), .inl (cI, 19830, .inl (upd (s.1 236) (Int32.toNatClampNeg v1) ((s.1 232 0)))))) := hD
      have hP := wC_P_236 hP
      have hD := wC_D_236 hD
      refine lv_aload_n hx hb dn_Checker_mean_22 rfl (lv_at hl 0 rfl) ?_
      refine va_get (D := (dC, dI)) (ci := 4) (v := .ref ((a 235))) (C := rn_Checker) (T := fn_Checker) (N := 15) hx hb hg in_Checker hown hK hP 3 rfl rfl 6 (by decide) (hg _ wn_1_132) (fun _ h9 => h9) rfl dn_Checker_mean_23 ?_
      refine lv_iload_n hx hb dn_Checker_mean_26 rfl (lv_at hl 1 rfl) ?_
      refine lv_iload_n hx hb dn_Checker_mean_27 rfl (lv_at hl 2 rfl) ?_
      obtain ⟨hg_2, hf⟩ := dc_g hf
      refine va_iast hx hb hK hP hD hS 22 0 rfl rfl hg_2 dn_Checker_mean_28 (fun H locs hP hD hS => ?_)
      have hP : va_P (dC, dI) xcl ((wC a v cI cB cJ cZ cQ (upI s 236 (upd (s.1 236) (Int32.toNatClampNeg v1) ((s.1 232 0))))).set 22 ((a 235), .inl (cI, 19830, .inl (upd (s.1 235) (Int32.toNatClampNeg v1) v2)))) H := hP
      have hD : va_D A ((wC a v cI cB cJ cZ cQ (upI s 236 (upd (s.1 236) (Int32.toNatClampNeg v1) ((s.1 232 0))))).set 22 ((a 235), .inl (cI, 19830, .inl (upd (s.1 235) (Int32.toNatClampNeg v1) v2)))) := hD
      have hP := wC_P_235 hP
      have hD := wC_D_235 hD
      refine lv_iload_n hx hb dn_Checker_mean_29 rfl (lv_at hl 2 rfl) ?_
      refine lv_if_lt (tgt := 49) hx hb dn_Checker_mean_30 (by decide) (fun h => ?_) (fun h => ?_)
      · have hf := (if_pos h).symm.trans hf
        rw [hQQ, ← Option.some.inj hf]
        exact xk_vret (w1 := fun u : Unit => (wC a v cI cB cJ cZ cQ (upI (upI s 236 (upd (s.1 236) (Int32.toNatClampNeg v1) ((s.1 232 0)))) 235 (upd (s.1 235) (Int32.toNatClampNeg v1) v2)))) () hx hb hr hlocks hK hS dn_Checker_mean_49 hP hD trivial (Nat.le_refl _) (Nat.le_refl _)
      · have hf := (if_neg h).symm.trans hf
        refine lv_iload_n hx hb dn_Checker_mean_33 rfl (lv_at hl 2 rfl) ?_
        refine lv_aload_n hx hb dn_Checker_mean_34 rfl (lv_at hl 0 rfl) ?_
        refine va_get (D := (dC, dI)) (ci := 4) (v := .ref ((a 237))) (C := rn_Checker) (T := fn_Checker) (N := 15) hx hb hg in_Checker hown hK hP 3 rfl rfl 8 (by decide) (hg _ wn_1_134) (fun _ h9 => h9) rfl dn_Checker_mean_35 ?_
        refine va_alen (v := 10923) hx hb hK hP 24 0 rfl rfl rfl dn_Checker_mean_38 ?_
        refine lv_icmp_ge (tgt := 49) hx hb dn_Checker_mean_39 (by decide) (fun h => ?_) (fun h => ?_)
        · have hf := (if_pos h).symm.trans hf
          rw [hQQ, ← Option.some.inj hf]
          exact xk_vret (w1 := fun u : Unit => (wC a v cI cB cJ cZ cQ (upI (upI s 236 (upd (s.1 236) (Int32.toNatClampNeg v1) ((s.1 232 0)))) 235 (upd (s.1 235) (Int32.toNatClampNeg v1) v2)))) () hx hb hr hlocks hK hS dn_Checker_mean_49 hP hD trivial (Nat.le_refl _) (Nat.le_refl _)
        · have hf := (if_neg h).symm.trans hf
          refine lv_aload_n hx hb dn_Checker_mean_42 rfl (lv_at hl 0 rfl) ?_
          refine va_get (D := (dC, dI)) (ci := 4) (v := .ref ((a 237))) (C := rn_Checker) (T := fn_Checker) (N := 15) hx hb hg in_Checker hown hK hP 3 rfl rfl 8 (by decide) (hg _ wn_1_134) (fun _ h9 => h9) rfl dn_Checker_mean_43 ?_
          refine lv_iload_n hx hb dn_Checker_mean_46 rfl (lv_at hl 2 rfl) ?_
          refine lv_iload_n hx hb dn_Checker_mean_47 rfl (lv_at hl 1 rfl) ?_
          obtain ⟨hg_3, hf⟩ := dc_g hf
          refine va_iast hx hb hK hP hD hS 24 0 rfl rfl hg_3 dn_Checker_mean_48 (fun H locs hP hD hS => ?_)
          have hP : va_P (dC, dI) xcl ((wC a v cI cB cJ cZ cQ (upI (upI s 236 (upd (s.1 236) (Int32.toNatClampNeg v1) ((s.1 232 0)))) 235 (upd (s.1 235) (Int32.toNatClampNeg v1) v2))).set 24 ((a 237), .inl (cI, 10923, .inl (upd (s.1 237) (Int32.toNatClampNeg v2) v1)))) H := hP
          have hD : va_D A ((wC a v cI cB cJ cZ cQ (upI (upI s 236 (upd (s.1 236) (Int32.toNatClampNeg v1) ((s.1 232 0)))) 235 (upd (s.1 235) (Int32.toNatClampNeg v1) v2))).set 24 ((a 237), .inl (cI, 10923, .inl (upd (s.1 237) (Int32.toNatClampNeg v2) v1)))) := hD
          have hP := wC_P_237 hP
          have hD := wC_D_237 hD
          rw [hQQ, ← Option.some.inj hf]
          exact xk_vret (w1 := fun u : Unit => (wC a v cI cB cJ cZ cQ (upI (upI (upI s 236 (upd (s.1 236) (Int32.toNatClampNeg v1) ((s.1 232 0)))) 235 (upd (s.1 235) (Int32.toNatClampNeg v1) v2)) 237 (upd (s.1 237) (Int32.toNatClampNeg v2) v1)))) () hx hb hr hlocks hK hS dn_Checker_mean_49 hP hD trivial (Nat.le_refl _) (Nat.le_refl _)
    · have hf := (if_neg h).symm.trans hf
      rw [hQQ, ← Option.some.inj hf]
      exact xk_vret (w1 := fun u : Unit => (wC a v cI cB cJ cZ cQ s)) () hx hb hr hlocks hK hS dn_Checker_mean_11 hP hD trivial (Nat.le_refl _) (Nat.le_refl _)
set_option maxHeartbeats 8000000 in
set_option maxRecDepth 100000 in
theorem ct_Parts_addDecl_Ps (l : Launch) (dC : Nat → ClassId) (dI : Nat → Nat → Nat) (cI cB cJ cZ cQ : ClassId) (N sz : Nat) (a : Nat → Nat) (v : Nat → Value) (v1 : Int32) (v2 : Int32) (v3 : Int32) (s : ms) (y : (Unit × ms)) (hf : fn_Parts_addDecl_Ps N v1 v2 v3 s = some y) : Met l yn_Parts_addDecl (xw yn_Parts_addDecl bn_Parts_addDecl 4 none) ({ frames := 0, cells := 0, slots := 0, locals := 0 }) (dc_P (dC, dI) xcl (xt cI cB cJ cZ cQ) [.ref ((a 110)), .int v1, .int v2, .int v3] sz (wC a v cI cB cJ cZ cQ s)) (xk_Qv (dC, dI) xcl (xt cI cB cJ cZ cQ) (fun _ : Unit => True) (fun u : Unit => (wC a v cI cB cJ cZ cQ y.2)) (va_A (wC a v cI cB cJ cZ cQ s) sz)) 0 0 (va_A (wC a v cI cB cJ cZ cQ s) sz) := by
  refine dc_of (QA := xk_Qv (dC, dI) xcl (xt cI cB cJ cZ cQ) (fun _ : Unit => True) (fun u : Unit => (wC a v cI cB cJ cZ cQ y.2))) (by decide) (Nat.le_of_ble_eq_true rfl) ?_
  intro p e s0 m below meth c hx hb hml hown hg hr hlocks hin hP hK hN A hA hD hT ls hl
  have hown : s0.vm.findClass rn_Parts = some m.cls := hown
  obtain ⟨H, hH⟩ : ∃ z, z = s0.heap := ⟨_, rfl⟩
  rw [← hH] at hP
  have hS : va_S A s0.heap H [] := by rw [hH]; exact va_S.rf
  suffices kk : ∀ QQ : State → Prop, QQ = MQ below (xk_Qv (dC, dI) xcl (xt cI cB cJ cZ cQ) (fun _ : Unit => True) (fun u : Unit => (wC a v cI cB cJ cZ cQ y.2)) A) [.ref ((a 110)), .int v1, .int v2, .int v3].toArray s0 0 0 A → dcC p l e ({ frames := 0, cells := 0, slots := 0, locals := 0 }) s0 m [.ref ((a 110)), .int v1, .int v2, .int v3].toArray below meth c QQ (dC, dI) A (wC a v cI cB cJ cZ cQ s) 0 4 [(0, .ref ((a 110))), (1, .int v1), (2, .int v2), (3, .int v3)] [] by
    have k9 := kk _ rfl H [] ls hP hD hS hl
    rw [hH] at k9; exact k9
  clear hP hD hS hl hH H ls
  intro QQ hQQ
  intro H locs ls hP hD hS hl
  unfold fn_Parts_addDecl_Ps at hf
  refine lv_aload_n hx hb dn_Parts_addDecl_0 rfl (lv_at hl 0 rfl) ?_
  refine va_get (D := (dC, dI)) (ci := 11) (v := .int ((s.1 321 0))) (C := rn_Parts) (T := fn_Parts) (N := 15) hx hb hg in_Parts hown hK hP 10 rfl rfl 0 (by decide) (hg _ wn_2_123) (fun _ h9 => h9) rfl dn_Parts_addDecl_1 ?_
  refine lv_sipush (v := 10923) hx hb dn_Parts_addDecl_4 (by decide) ?_
  refine lv_icmp_lt (tgt := 11) hx hb dn_Parts_addDecl_7 (by decide) (fun h => ?_) (fun h => ?_)
  · have hf := (if_pos h).symm.trans hf
    refine lv_aload_n hx hb dn_Parts_addDecl_11 rfl (lv_at hl 0 rfl) ?_
    refine va_get (D := (dC, dI)) (ci := 11) (v := .ref ((a 324))) (C := rn_Parts) (T := fn_Parts) (N := 15) hx hb hg in_Parts hown hK hP 10 rfl rfl 3 (by decide) (hg _ wn_2_135) (fun _ h9 => h9) rfl dn_Parts_addDecl_12 ?_
    refine lv_aload_n hx hb dn_Parts_addDecl_15 rfl (lv_at hl 0 rfl) ?_
    refine va_get (D := (dC, dI)) (ci := 11) (v := .int ((s.1 321 0))) (C := rn_Parts) (T := fn_Parts) (N := 15) hx hb hg in_Parts hown hK hP 10 rfl rfl 0 (by decide) (hg _ wn_2_123) (fun _ h9 => h9) rfl dn_Parts_addDecl_16 ?_
    refine lv_iload_n hx hb dn_Parts_addDecl_19 rfl (lv_at hl 1 rfl) ?_
    obtain ⟨hg_1, hf⟩ := dc_g hf
    refine va_iast hx hb hK hP hD hS 63 0 rfl rfl hg_1 dn_Parts_addDecl_20 (fun H locs hP hD hS => ?_)
    have hP : va_P (dC, dI) xcl ((wC a v cI cB cJ cZ cQ s).set 63 ((a 324), .inl (cI, 10923, .inl (upd (s.1 324) (Int32.toNatClampNeg ((s.1 321 0))) v1)))) H := hP
    have hD : va_D A ((wC a v cI cB cJ cZ cQ s).set 63 ((a 324), .inl (cI, 10923, .inl (upd (s.1 324) (Int32.toNatClampNeg ((s.1 321 0))) v1)))) := hD
    have hP := wC_P_324 hP
    have hD := wC_D_324 hD
    refine lv_aload_n hx hb dn_Parts_addDecl_21 rfl (lv_at hl 0 rfl) ?_
    refine va_get (D := (dC, dI)) (ci := 11) (v := .ref ((a 322))) (C := rn_Parts) (T := fn_Parts) (N := 15) hx hb hg in_Parts hown hK hP 10 rfl rfl 1 (by decide) (hg _ wn_2_127) (fun _ h9 => h9) rfl dn_Parts_addDecl_22 ?_
    refine lv_aload_n hx hb dn_Parts_addDecl_25 rfl (lv_at hl 0 rfl) ?_
    refine va_get (D := (dC, dI)) (ci := 11) (v := .int ((s.1 321 0))) (C := rn_Parts) (T := fn_Parts) (N := 15) hx hb hg in_Parts hown hK hP 10 rfl rfl 0 (by decide) (hg _ wn_2_123) (fun _ h9 => h9) rfl dn_Parts_addDecl_26 ?_
    refine lv_iload_n hx hb dn_Parts_addDecl_29 rfl (lv_at hl 2 rfl) ?_
    obtain ⟨hg_2, hf⟩ := dc_g hf
    refine va_iast hx hb hK hP hD hS 61 0 rfl rfl hg_2 dn_Parts_addDecl_30 (fun H locs hP hD hS => ?_)
    have hP : va_P (dC, dI) xcl ((wC a v cI cB cJ cZ cQ (upI s 324 (upd (s.1 324) (Int32.toNatClampNeg ((s.1 321 0))) v1))).set 61 ((a 322), .inl (cI, 10923, .inl (upd (s.1 322) (Int32.toNatClampNeg ((s.1 321 0))) v2)))) H := hP
    have hD : va_D A ((wC a v cI cB cJ cZ cQ (upI s 324 (upd (s.1 324) (Int32.toNatClampNeg ((s.1 321 0))) v1))).set 61 ((a 322), .inl (cI, 10923, .inl (upd (s.1 322) (Int32.toNatClampNeg ((s.1 321 0))) v2)))) := hD
    have hP := wC_P_322 hP
    have hD := wC_D_322 hD
    refine lv_aload_n hx hb dn_Parts_addDecl_31 rfl (lv_at hl 0 rfl) ?_
    refine va_get (D := (dC, dI)) (ci := 11) (v := .ref ((a 323))) (C := rn_Parts) (T := fn_Parts) (N := 15) hx hb hg in_Parts hown hK hP 10 rfl rfl 2 (by decide) (hg _ wn_2_130) (fun _ h9 => h9) rfl dn_Parts_addDecl_32 ?_
    refine lv_aload_n hx hb dn_Parts_addDecl_35 rfl (lv_at hl 0 rfl) ?_
    refine va_get (D := (dC, dI)) (ci := 11) (v := .int ((s.1 321 0))) (C := rn_Parts) (T := fn_Parts) (N := 15) hx hb hg in_Parts hown hK hP 10 rfl rfl 0 (by decide) (hg _ wn_2_123) (fun _ h9 => h9) rfl dn_Parts_addDecl_36 ?_
    refine lv_iload_n hx hb dn_Parts_addDecl_39 rfl (lv_at hl 3 rfl) ?_
    obtain ⟨hg_3, hf⟩ := dc_g hf
    refine va_iast hx hb hK hP hD hS 62 0 rfl rfl hg_3 dn_Parts_addDecl_40 (fun H locs hP hD hS => ?_)
    have hP : va_P (dC, dI) xcl ((wC a v cI cB cJ cZ cQ (upI (upI s 324 (upd (s.1 324) (Int32.toNatClampNeg ((s.1 321 0))) v1)) 322 (upd (s.1 322) (Int32.toNatClampNeg ((s.1 321 0))) v2))).set 62 ((a 323), .inl (cI, 10923, .inl (upd (s.1 323) (Int32.toNatClampNeg ((s.1 321 0))) v3)))) H := hP
    have hD : va_D A ((wC a v cI cB cJ cZ cQ (upI (upI s 324 (upd (s.1 324) (Int32.toNatClampNeg ((s.1 321 0))) v1)) 322 (upd (s.1 322) (Int32.toNatClampNeg ((s.1 321 0))) v2))).set 62 ((a 323), .inl (cI, 10923, .inl (upd (s.1 323) (Int32.toNatClampNeg ((s.1 321 0))) v3)))) := hD
    have hP := wC_P_323 hP
    have hD := wC_D_323 hD
    refine lv_aload_n hx hb dn_Parts_addDecl_41 rfl (lv_at hl 0 rfl) ?_
    refine va_get (D := (dC, dI)) (ci := 11) (v := .ref ((a 325))) (C := rn_Parts) (T := fn_Parts) (N := 15) hx hb hg in_Parts hown hK hP 10 rfl rfl 4 (by decide) (hg _ wn_2_140) (fun _ h9 => h9) rfl dn_Parts_addDecl_42 ?_
    refine lv_aload_n hx hb dn_Parts_addDecl_45 rfl (lv_at hl 0 rfl) ?_
    refine va_get (D := (dC, dI)) (ci := 11) (v := .int ((s.1 321 0))) (C := rn_Parts) (T := fn_Parts) (N := 15) hx hb hg in_Parts hown hK hP 10 rfl rfl 0 (by decide) (hg _ wn_2_123) (fun _ h9 => h9) rfl dn_Parts_addDecl_46 ?_
    refine lv_lconst (v := 0) hx hb dn_Parts_addDecl_49 (by decide) ?_
    obtain ⟨hg_4, hf⟩ := dc_g hf
    refine va_last hx hb hK hP hD hS 64 2 rfl rfl hg_4 dn_Parts_addDecl_50 (fun H locs hP hD hS => ?_)
    have hP : va_P (dC, dI) xcl ((wC a v cI cB cJ cZ cQ (upI (upI (upI s 324 (upd (s.1 324) (Int32.toNatClampNeg ((s.1 321 0))) v1)) 322 (upd (s.1 322) (Int32.toNatClampNeg ((s.1 321 0))) v2)) 323 (upd (s.1 323) (Int32.toNatClampNeg ((s.1 321 0))) v3))).set 64 ((a 325), .inl (cJ, 10923, .inr (.inl (vp_updL (s.2 325) (Int32.toNatClampNeg ((s.1 321 0))) 0))))) H := hP
    have hD : va_D A ((wC a v cI cB cJ cZ cQ (upI (upI (upI s 324 (upd (s.1 324) (Int32.toNatClampNeg ((s.1 321 0))) v1)) 322 (upd (s.1 322) (Int32.toNatClampNeg ((s.1 321 0))) v2)) 323 (upd (s.1 323) (Int32.toNatClampNeg ((s.1 321 0))) v3))).set 64 ((a 325), .inl (cJ, 10923, .inr (.inl (vp_updL (s.2 325) (Int32.toNatClampNeg ((s.1 321 0))) 0))))) := hD
    have hP := wC_P_325 hP
    have hD := wC_D_325 hD
    refine lv_aload_n hx hb dn_Parts_addDecl_51 rfl (lv_at hl 0 rfl) ?_
    refine va_get (D := (dC, dI)) (ci := 11) (v := .ref ((a 326))) (C := rn_Parts) (T := fn_Parts) (N := 15) hx hb hg in_Parts hown hK hP 10 rfl rfl 5 (by decide) (hg _ wn_2_143) (fun _ h9 => h9) rfl dn_Parts_addDecl_52 ?_
    refine lv_aload_n hx hb dn_Parts_addDecl_55 rfl (lv_at hl 0 rfl) ?_
    refine va_get (D := (dC, dI)) (ci := 11) (v := .int ((s.1 321 0))) (C := rn_Parts) (T := fn_Parts) (N := 15) hx hb hg in_Parts hown hK hP 10 rfl rfl 0 (by decide) (hg _ wn_2_123) (fun _ h9 => h9) rfl dn_Parts_addDecl_56 ?_
    refine lv_iconst (v := (-1)) hx hb dn_Parts_addDecl_59 (by decide) ?_
    obtain ⟨hg_5, hf⟩ := dc_g hf
    refine va_iast hx hb hK hP hD hS 65 0 rfl rfl hg_5 dn_Parts_addDecl_60 (fun H locs hP hD hS => ?_)
    have hP : va_P (dC, dI) xcl ((wC a v cI cB cJ cZ cQ (upJ (upI (upI (upI s 324 (upd (s.1 324) (Int32.toNatClampNeg ((s.1 321 0))) v1)) 322 (upd (s.1 322) (Int32.toNatClampNeg ((s.1 321 0))) v2)) 323 (upd (s.1 323) (Int32.toNatClampNeg ((s.1 321 0))) v3)) 325 (vp_updL (s.2 325) (Int32.toNatClampNeg ((s.1 321 0))) 0))).set 65 ((a 326), .inl (cI, 10923, .inl (upd (s.1 326) (Int32.toNatClampNeg ((s.1 321 0))) ((-1)))))) H := hP
    have hD : va_D A ((wC a v cI cB cJ cZ cQ (upJ (upI (upI (upI s 324 (upd (s.1 324) (Int32.toNatClampNeg ((s.1 321 0))) v1)) 322 (upd (s.1 322) (Int32.toNatClampNeg ((s.1 321 0))) v2)) 323 (upd (s.1 323) (Int32.toNatClampNeg ((s.1 321 0))) v3)) 325 (vp_updL (s.2 325) (Int32.toNatClampNeg ((s.1 321 0))) 0))).set 65 ((a 326), .inl (cI, 10923, .inl (upd (s.1 326) (Int32.toNatClampNeg ((s.1 321 0))) ((-1)))))) := hD
    have hP := wC_P_326 hP
    have hD := wC_D_326 hD
    refine lv_aload_n hx hb dn_Parts_addDecl_61 rfl (lv_at hl 0 rfl) ?_
    refine va_get (D := (dC, dI)) (ci := 11) (v := .ref ((a 327))) (C := rn_Parts) (T := fn_Parts) (N := 15) hx hb hg in_Parts hown hK hP 10 rfl rfl 6 (by decide) (hg _ wn_2_146) (fun _ h9 => h9) rfl dn_Parts_addDecl_62 ?_
    refine lv_aload_n hx hb dn_Parts_addDecl_65 rfl (lv_at hl 0 rfl) ?_
    refine va_get (D := (dC, dI)) (ci := 11) (v := .int ((s.1 321 0))) (C := rn_Parts) (T := fn_Parts) (N := 15) hx hb hg in_Parts hown hK hP 10 rfl rfl 0 (by decide) (hg _ wn_2_123) (fun _ h9 => h9) rfl dn_Parts_addDecl_66 ?_
    refine lv_iconst (v := (-1)) hx hb dn_Parts_addDecl_69 (by decide) ?_
    obtain ⟨hg_6, hf⟩ := dc_g hf
    refine va_iast hx hb hK hP hD hS 66 0 rfl rfl hg_6 dn_Parts_addDecl_70 (fun H locs hP hD hS => ?_)
    have hP : va_P (dC, dI) xcl ((wC a v cI cB cJ cZ cQ (upI (upJ (upI (upI (upI s 324 (upd (s.1 324) (Int32.toNatClampNeg ((s.1 321 0))) v1)) 322 (upd (s.1 322) (Int32.toNatClampNeg ((s.1 321 0))) v2)) 323 (upd (s.1 323) (Int32.toNatClampNeg ((s.1 321 0))) v3)) 325 (vp_updL (s.2 325) (Int32.toNatClampNeg ((s.1 321 0))) 0)) 326 (upd (s.1 326) (Int32.toNatClampNeg ((s.1 321 0))) ((-1))))).set 66 ((a 327), .inl (cI, 10923, .inl (upd (s.1 327) (Int32.toNatClampNeg ((s.1 321 0))) ((-1)))))) H := hP
    have hD : va_D A ((wC a v cI cB cJ cZ cQ (upI (upJ (upI (upI (upI s 324 (upd (s.1 324) (Int32.toNatClampNeg ((s.1 321 0))) v1)) 322 (upd (s.1 322) (Int32.toNatClampNeg ((s.1 321 0))) v2)) 323 (upd (s.1 323) (Int32.toNatClampNeg ((s.1 321 0))) v3)) 325 (vp_updL (s.2 325) (Int32.toNatClampNeg ((s.1 321 0))) 0)) 326 (upd (s.1 326) (Int32.toNatClampNeg ((s.1 321 0))) ((-1))))).set 66 ((a 327), .inl (cI, 10923, .inl (upd (s.1 327) (Int32.toNatClampNeg ((s.1 321 0))) ((-1)))))) := hD
    have hP := wC_P_327 hP
    have hD := wC_D_327 hD
    refine lv_aload_n hx hb dn_Parts_addDecl_71 rfl (lv_at hl 0 rfl) ?_
    refine lv_dup hx hb dn_Parts_addDecl_72 rfl ?_
    refine va_get (D := (dC, dI)) (ci := 11) (v := .int ((s.1 321 0))) (C := rn_Parts) (T := fn_Parts) (N := 15) hx hb hg in_Parts hown hK hP 10 rfl rfl 0 (by decide) (hg _ wn_2_123) (fun _ h9 => h9) rfl dn_Parts_addDecl_73 ?_
    refine lv_iconst (v := 1) hx hb dn_Parts_addDecl_76 (by decide) ?_
    refine lv_iadd hx hb dn_Parts_addDecl_77 ?_
    refine va_put (D := (dC, dI)) (ci := 11) (v := .int (((s.1 321 0) + 1))) (ty := .int) (C := rn_Parts) (T := fn_Parts) (N := 15) hx hb hg in_Parts tn_Parts tk_Parts nn_Parts hown hK hP hD hS 10 rfl rfl 0 (by decide) (hg _ wn_2_123) (fun _ h9 => h9) rfl (tk_Parts 0 (by decide)) rfl rfl (Nat.le_of_ble_eq_true rfl) dn_Parts_addDecl_78 (fun H locs hP hD hS => ?_)
    have hP := wC_P_321 hP
    have hD := wC_D_321 hD
    rw [hQQ, ← Option.some.inj hf]
    exact xk_vret (w1 := fun u : Unit => (wC a v cI cB cJ cZ cQ (upI (upI (upI (upJ (upI (upI (upI s 324 (upd (s.1 324) (Int32.toNatClampNeg ((s.1 321 0))) v1)) 322 (upd (s.1 322) (Int32.toNatClampNeg ((s.1 321 0))) v2)) 323 (upd (s.1 323) (Int32.toNatClampNeg ((s.1 321 0))) v3)) 325 (vp_updL (s.2 325) (Int32.toNatClampNeg ((s.1 321 0))) 0)) 326 (upd (s.1 326) (Int32.toNatClampNeg ((s.1 321 0))) ((-1)))) 327 (upd (s.1 327) (Int32.toNatClampNeg ((s.1 321 0))) ((-1)))) 321 (fun _ => ((s.1 321 0) + 1))))) () hx hb hr hlocks hK hS dn_Parts_addDecl_81 hP hD trivial (Nat.le_refl _) (Nat.le_refl _)
  · have hf := (if_neg h).symm.trans hf
    rw [hQQ, ← Option.some.inj hf]
    exact xk_vret (w1 := fun u : Unit => (wC a v cI cB cJ cZ cQ s)) () hx hb hr hlocks hK hS dn_Parts_addDecl_10 hP hD trivial (Nat.le_refl _) (Nat.le_refl _)
set_option maxHeartbeats 8000000 in
set_option maxRecDepth 100000 in
theorem ct_Meaning_declare_Me (l : Launch) (dC : Nat → ClassId) (dI : Nat → Nat → Nat) (cI cB cJ cZ cQ : ClassId) (N sz : Nat) (a : Nat → Nat) (v : Nat → Value) (hv_5 : v 5 = .ref (a 110)) (v1 : Int32) (v2 : Int32) (v3 : Int32) (s : ms) (y : (Unit × ms)) (hf : fn_Meaning_declare_Me N v1 v2 v3 s = some y) : Met l yn_Meaning_declare (xw yn_Meaning_declare bn_Meaning_declare 4 none) ({ frames := 1, cells := 0, slots := 0, locals := 23 }) (dc_P (dC, dI) xcl (xt cI cB cJ cZ cQ) [.ref ((a 104)), .int v1, .int v2, .int v3] sz (wC a v cI cB cJ cZ cQ s)) (xk_Qv (dC, dI) xcl (xt cI cB cJ cZ cQ) (fun _ : Unit => True) (fun u : Unit => (wC a v cI cB cJ cZ cQ y.2)) (va_A (wC a v cI cB cJ cZ cQ s) sz)) 0 0 (va_A (wC a v cI cB cJ cZ cQ s) sz) := by
  refine dc_of (QA := xk_Qv (dC, dI) xcl (xt cI cB cJ cZ cQ) (fun _ : Unit => True) (fun u : Unit => (wC a v cI cB cJ cZ cQ y.2))) (by decide) (Nat.le_of_ble_eq_true rfl) ?_
  intro p e s0 m below meth c hx hb hml hown hg hr hlocks hin hP hK hN A hA hD hT ls hl
  have hown : s0.vm.findClass rn_Meaning = some m.cls := hown
  obtain ⟨H, hH⟩ : ∃ z, z = s0.heap := ⟨_, rfl⟩
  rw [← hH] at hP
  have hS : va_S A s0.heap H [] := by rw [hH]; exact va_S.rf
  suffices kk : ∀ QQ : State → Prop, QQ = MQ below (xk_Qv (dC, dI) xcl (xt cI cB cJ cZ cQ) (fun _ : Unit => True) (fun u : Unit => (wC a v cI cB cJ cZ cQ y.2)) A) [.ref ((a 104)), .int v1, .int v2, .int v3].toArray s0 0 0 A → dcC p l e ({ frames := 1, cells := 0, slots := 0, locals := 23 }) s0 m [.ref ((a 104)), .int v1, .int v2, .int v3].toArray below meth c QQ (dC, dI) A (wC a v cI cB cJ cZ cQ s) 0 4 [(0, .ref ((a 104))), (1, .int v1), (2, .int v2), (3, .int v3)] [] by
    have k9 := kk _ rfl H [] ls hP hD hS hl
    rw [hH] at k9; exact k9
  clear hP hD hS hl hH H ls
  intro QQ hQQ
  intro H locs ls hP hD hS hl
  unfold fn_Meaning_declare_Me at hf
  refine lv_aload_n hx hb dn_Meaning_declare_0 rfl (lv_at hl 0 rfl) ?_
  refine va_get (D := (dC, dI)) (ci := 5) (v := .ref ((a 103))) (C := rn_Meaning) (T := fn_Meaning) (N := 17) hx hb hg in_Meaning hown hK hP 4 rfl rfl 0 (by decide) (hg _ wn_1_184) (fun _ h9 => h9) rfl dn_Meaning_declare_1 ?_
  obtain ⟨q_1, hc_2, hf⟩ := dc_b hf
  refine dc_calli (dc_runV (ar := 0) (As := []) (rest := []) (ci := 4) (q0 := 3) ⟨hx, hb, hml, hown, hg⟩ hK hN hT hS hA (ct_Checker_isOff_Ch l dC dI cI cB cJ cZ cQ N H.size a v s q_1 hc_2) hP hD rfl rfl wn_4_193 wn_4_194 wn_4_195 wn_1_4 wn_4_196 rfl rfl (by decide +kernel) ⟨Nat.le_of_ble_eq_true rfl, Nat.le_of_ble_eq_true rfl⟩ rfl hl.1 rfl (Nat.le_of_ble_eq_true rfl) dn_Meaning_declare_4 ⟨Nat.le_of_ble_eq_true rfl, Nat.le_of_ble_eq_true rfl⟩) hP hD hS hA (fun r_3 _ H locs hw hP hD hS => ?_)
  have hw : r_3 = q_1.1 := hw
  subst hw
  refine lv_if_eq (tgt := 11) hx hb dn_Meaning_declare_7 (by decide) (fun h => ?_) (fun h => ?_)
  · have hf := (if_pos h).symm.trans hf
    refine lv_aload_n hx hb dn_Meaning_declare_11 rfl (lv_at hl 0 rfl) ?_
    refine va_get (D := (dC, dI)) (ci := 5) (v := .ref ((a 103))) (C := rn_Meaning) (T := fn_Meaning) (N := 17) hx hb hg in_Meaning hown hK hP 4 rfl rfl 0 (by decide) (hg _ wn_1_184) (fun _ h9 => h9) rfl dn_Meaning_declare_12 ?_
    refine lv_iload_n hx hb dn_Meaning_declare_15 rfl (lv_at hl 2 rfl) ?_
    obtain ⟨q_4, hc_5, hf⟩ := dc_b hf
    refine dc_calli (dc_runV (ar := 1) (As := [.int v2]) (rest := []) (ci := 4) (q0 := 3) ⟨hx, hb, hml, hown, hg⟩ hK hN hT hS hA (ct_Checker_meantBy_Ch l dC dI cI cB cJ cZ cQ N H.size a v v2 q_1.2 q_4 hc_5) hP hD rfl rfl wn_4_238 wn_4_239 wn_5_0 wn_1_4 wn_5_1 rfl rfl (by decide +kernel) ⟨Nat.le_of_ble_eq_true rfl, Nat.le_of_ble_eq_true rfl⟩ rfl hl.1 rfl (Nat.le_of_ble_eq_true rfl) dn_Meaning_declare_16 ⟨Nat.le_of_ble_eq_true rfl, Nat.le_of_ble_eq_true rfl⟩) hP hD hS hA (fun r_6 _ H locs hw hP hD hS => ?_)
    have hw : r_6 = q_4.1 := hw
    subst hw
    refine lv_iconst (v := (-1)) hx hb dn_Meaning_declare_19 (by decide) ?_
    refine lv_icmp_eq (tgt := 34) hx hb dn_Meaning_declare_20 (by decide) (fun h => ?_) (fun h => ?_)
    · have hf := (if_pos h).symm.trans hf
      refine lv_aload_n hx hb dn_Meaning_declare_34 rfl (lv_at hl 0 rfl) ?_
      refine va_get (D := (dC, dI)) (ci := 5) (v := .ref ((a 103))) (C := rn_Meaning) (T := fn_Meaning) (N := 17) hx hb hg in_Meaning hown hK hP 4 rfl rfl 0 (by decide) (hg _ wn_1_184) (fun _ h9 => h9) rfl dn_Meaning_declare_35 ?_
      refine lv_iload_n hx hb dn_Meaning_declare_38 rfl (lv_at hl 2 rfl) ?_
      refine lv_aload_n hx hb dn_Meaning_declare_39 rfl (lv_at hl 0 rfl) ?_
      refine va_get (D := (dC, dI)) (ci := 5) (v := .ref ((a 110))) (C := rn_Meaning) (T := fn_Meaning) (N := 17) hx hb hg in_Meaning hown hK hP 4 rfl rfl 2 (by decide) (hg _ wn_1_186) (fun _ h9 => h9) (congrArg some hv_5) dn_Meaning_declare_40 ?_
      refine va_get (D := (dC, dI)) (ci := 11) (v := .int ((q_4.2.1 321 0))) (C := rn_Parts) (T := fn_Parts) (N := 15) hx hb hg in_Parts hown hK hP 10 rfl rfl 0 (by decide) (hg _ wn_2_126) (fun _ h9 => h9) rfl dn_Meaning_declare_43 ?_
      obtain ⟨q_7, hc_8, hf⟩ := dc_b hf
      refine dc_callv (dc_runV (ar := 2) (As := [.int v2, .int ((q_4.2.1 321 0))]) (rest := []) (ci := 4) (q0 := 3) ⟨hx, hb, hml, hown, hg⟩ hK hN hT hS hA (ct_Checker_mean_Ch l dC dI cI cB cJ cZ cQ N H.size a v v2 ((q_4.2.1 321 0)) q_4.2 q_7 hc_8) hP hD rfl rfl wn_5_2 wn_5_3 wn_5_4 wn_1_4 wn_5_5 rfl rfl (by decide +kernel) ⟨Nat.le_of_ble_eq_true rfl, Nat.le_of_ble_eq_true rfl⟩ rfl hl.1 rfl (Nat.le_of_ble_eq_true rfl) dn_Meaning_declare_46 ⟨Nat.le_of_ble_eq_true rfl, Nat.le_of_ble_eq_true rfl⟩) hP hD hS hA (fun _ H locs hw hP hD hS => ?_)
      refine lv_aload_n hx hb dn_Meaning_declare_49 rfl (lv_at hl 0 rfl) ?_
      refine va_get (D := (dC, dI)) (ci := 5) (v := .ref ((a 110))) (C := rn_Meaning) (T := fn_Meaning) (N := 17) hx hb hg in_Meaning hown hK hP 4 rfl rfl 2 (by decide) (hg _ wn_1_186) (fun _ h9 => h9) (congrArg some hv_5) dn_Meaning_declare_50 ?_
      refine lv_iload_n hx hb dn_Meaning_declare_53 rfl (lv_at hl 1 rfl) ?_
      refine lv_iload_n hx hb dn_Meaning_declare_54 rfl (lv_at hl 3 rfl) ?_
      refine lv_aload_n hx hb dn_Meaning_declare_55 rfl (lv_at hl 0 rfl) ?_
      refine va_get (D := (dC, dI)) (ci := 5) (v := .int ((q_7.2.1 248 0))) (C := rn_Meaning) (T := fn_Meaning) (N := 17) hx hb hg in_Meaning hown hK hP 4 rfl rfl 4 (by decide) (hg _ wn_1_188) (fun _ h9 => h9) rfl dn_Meaning_declare_56 ?_
      obtain ⟨q_9, hc_10, hf⟩ := dc_b hf
      refine dc_callv (dc_runV (ar := 3) (As := [.int v1, .int v3, .int ((q_7.2.1 248 0))]) (rest := []) (ci := 11) (q0 := 10) ⟨hx, hb, hml, hown, hg⟩ hK hN hT hS hA (ct_Parts_addDecl_Ps l dC dI cI cB cJ cZ cQ N H.size a v v1 v3 ((q_7.2.1 248 0)) q_7.2 q_9 hc_10) hP hD rfl rfl wn_5_6 wn_5_7 wn_5_8 wn_1_11 wn_5_9 rfl rfl (by decide +kernel) ⟨Nat.le_of_ble_eq_true rfl, Nat.le_of_ble_eq_true rfl⟩ rfl hl.1 rfl (Nat.le_of_ble_eq_true rfl) dn_Meaning_declare_59 ⟨Nat.le_of_ble_eq_true rfl, Nat.le_of_ble_eq_true rfl⟩) hP hD hS hA (fun _ H locs hw hP hD hS => ?_)
      refine lv_aload_n hx hb dn_Meaning_declare_62 rfl (lv_at hl 0 rfl) ?_
      refine lv_iconst (v := 1) hx hb dn_Meaning_declare_63 (by decide) ?_
      refine va_put (D := (dC, dI)) (ci := 5) (v := .int 1) (ty := .int) (C := rn_Meaning) (T := fn_Meaning) (N := 17) hx hb hg in_Meaning tn_Meaning tk_Meaning nn_Meaning hown hK hP hD hS 4 rfl rfl 4 (by decide) (hg _ wn_1_188) (fun _ h9 => h9) rfl (tk_Meaning 4 (by decide)) rfl rfl (Nat.le_of_ble_eq_true rfl) dn_Meaning_declare_64 (fun H locs hP hD hS => ?_)
      have hP := wC_P_248 hP
      have hD := wC_D_248 hD
      rw [hQQ, ← Option.some.inj hf]
      exact xk_vret (w1 := fun u : Unit => (wC a v cI cB cJ cZ cQ (upI q_9.2 248 (fun _ => 1)))) () hx hb hr hlocks hK hS dn_Meaning_declare_67 hP hD trivial (Nat.le_refl _) (Nat.le_refl _)
    · have hf := (if_neg h).symm.trans hf
      refine lv_aload_n hx hb dn_Meaning_declare_23 rfl (lv_at hl 0 rfl) ?_
      refine va_get (D := (dC, dI)) (ci := 5) (v := .ref ((a 103))) (C := rn_Meaning) (T := fn_Meaning) (N := 17) hx hb hg in_Meaning hown hK hP 4 rfl rfl 0 (by decide) (hg _ wn_1_184) (fun _ h9 => h9) rfl dn_Meaning_declare_24 ?_
      refine lv_bipush (v := 21) hx hb dn_Meaning_declare_27 (by decide) ?_
      refine lv_iload_n hx hb dn_Meaning_declare_29 rfl (lv_at hl 3 rfl) ?_
      obtain ⟨q_7, hc_8, hf⟩ := dc_b hf
      refine dc_callv (dc_runV (ar := 2) (As := [.int 21, .int v3]) (rest := []) (ci := 4) (q0 := 3) ⟨hx, hb, hml, hown, hg⟩ hK hN hT hS hA (ct_Checker_refuse_Ch l dC dI cI cB cJ cZ cQ N H.size a v 21 v3 q_4.2 q_7 hc_8) hP hD rfl rfl wn_4_201 wn_4_202 wn_4_203 wn_1_4 wn_4_204 rfl rfl (by decide +kernel) ⟨Nat.le_of_ble_eq_true rfl, Nat.le_of_ble_eq_true rfl⟩ rfl hl.1 rfl (Nat.le_of_ble_eq_true rfl) dn_Meaning_declare_30 ⟨Nat.le_of_ble_eq_true rfl, Nat.le_of_ble_eq_true rfl⟩) hP hD hS hA (fun _ H locs hw hP hD hS => ?_)
      rw [hQQ, ← Option.some.inj hf]
      exact xk_vret (w1 := fun u : Unit => (wC a v cI cB cJ cZ cQ q_7.2)) () hx hb hr hlocks hK hS dn_Meaning_declare_33 hP hD trivial (Nat.le_refl _) (Nat.le_refl _)
  · have hf := (if_neg h).symm.trans hf
    rw [hQQ, ← Option.some.inj hf]
    exact xk_vret (w1 := fun u : Unit => (wC a v cI cB cJ cZ cQ q_1.2)) () hx hb hr hlocks hK hS dn_Meaning_declare_10 hP hD trivial (Nat.le_refl _) (Nat.le_refl _)
set_option maxHeartbeats 8000000 in
set_option maxRecDepth 100000 in
theorem ct_Code_widthOf_Ks (l : Launch) (dC : Nat → ClassId) (dI : Nat → Nat → Nat) (cI cB cJ cZ cQ : ClassId) (N sz : Nat) (a : Nat → Nat) (v : Nat → Value) (v1 : Int32) (s : ms) (y : (Int32 × ms)) (hf : fn_Code_widthOf_Ks N v1 s = some y) : Met l yn_Code_widthOf (xw yn_Code_widthOf bn_Code_widthOf 2 (some .int)) ({ frames := 0, cells := 0, slots := 0, locals := 0 }) (dc_P (dC, dI) xcl (xt cI cB cJ cZ cQ) [.ref ((a 111)), .int v1] sz (wC a v cI cB cJ cZ cQ s)) (xk_Qi (dC, dI) xcl (xt cI cB cJ cZ cQ) (fun (r : Int32) (_ : Unit) => r = y.1) (fun u : Unit => (wC a v cI cB cJ cZ cQ y.2)) (va_A (wC a v cI cB cJ cZ cQ s) sz)) 0 0 (va_A (wC a v cI cB cJ cZ cQ s) sz) := by
  refine dc_of (QA := xk_Qi (dC, dI) xcl (xt cI cB cJ cZ cQ) (fun (r : Int32) (_ : Unit) => r = y.1) (fun u : Unit => (wC a v cI cB cJ cZ cQ y.2))) (by decide) (Nat.le_of_ble_eq_true rfl) ?_
  intro p e s0 m below meth c hx hb hml hown hg hr hlocks hin hP hK hN A hA hD hT ls hl
  have hown : s0.vm.findClass rn_Code = some m.cls := hown
  obtain ⟨H, hH⟩ : ∃ z, z = s0.heap := ⟨_, rfl⟩
  rw [← hH] at hP
  have hS : va_S A s0.heap H [] := by rw [hH]; exact va_S.rf
  suffices kk : ∀ QQ : State → Prop, QQ = MQ below (xk_Qi (dC, dI) xcl (xt cI cB cJ cZ cQ) (fun (r : Int32) (_ : Unit) => r = y.1) (fun u : Unit => (wC a v cI cB cJ cZ cQ y.2)) A) [.ref ((a 111)), .int v1].toArray s0 0 0 A → dcC p l e ({ frames := 0, cells := 0, slots := 0, locals := 0 }) s0 m [.ref ((a 111)), .int v1].toArray below meth c QQ (dC, dI) A (wC a v cI cB cJ cZ cQ s) 0 2 [(0, .ref ((a 111))), (1, .int v1)] [] by
    have k9 := kk _ rfl H [] ls hP hD hS hl
    rw [hH] at k9; exact k9
  clear hP hD hS hl hH H ls
  intro QQ hQQ
  intro H locs ls hP hD hS hl
  unfold fn_Code_widthOf_Ks at hf
  refine lv_iload_n hx hb dn_Code_widthOf_0 rfl (lv_at hl 1 rfl) ?_
  refine lv_if_lt (tgt := 21) hx hb dn_Code_widthOf_1 (by decide) (fun h => ?_) (fun h => ?_)
  · have hf := (if_pos h).symm.trans hf
    refine lv_iconst (v := 1) hx hb dn_Code_widthOf_21 (by decide) ?_
    rw [hQQ, ← Option.some.inj hf]
    exact xk_iret (w1 := fun u : Unit => (wC a v cI cB cJ cZ cQ s)) () hx hb hr hlocks hK hS dn_Code_widthOf_22 hP hD rfl (Nat.le_refl _) (Nat.le_refl _)
  · have hf := (if_neg h).symm.trans hf
    refine lv_iload_n hx hb dn_Code_widthOf_4 rfl (lv_at hl 1 rfl) ?_
    refine lv_aload_n hx hb dn_Code_widthOf_5 rfl (lv_at hl 0 rfl) ?_
    refine va_get (D := (dC, dI)) (ci := 12) (v := .int ((s.1 340 0))) (C := rn_Code) (T := fn_Code) (N := 5) hx hb hg in_Code hown hK hP 11 rfl rfl 4 (by decide) (hg _ wn_2_219) (fun _ h9 => h9) rfl dn_Code_widthOf_6 ?_
    refine lv_icmp_ge (tgt := 21) hx hb dn_Code_widthOf_9 (by decide) (fun h => ?_) (fun h => ?_)
    · have hf := (if_pos h).symm.trans hf
      refine lv_iconst (v := 1) hx hb dn_Code_widthOf_21 (by decide) ?_
      rw [hQQ, ← Option.some.inj hf]
      exact xk_iret (w1 := fun u : Unit => (wC a v cI cB cJ cZ cQ s)) () hx hb hr hlocks hK hS dn_Code_widthOf_22 hP hD rfl (Nat.le_refl _) (Nat.le_refl _)
    · have hf := (if_neg h).symm.trans hf
      refine lv_aload_n hx hb dn_Code_widthOf_12 rfl (lv_at hl 0 rfl) ?_
      refine va_get (D := (dC, dI)) (ci := 12) (v := .ref ((a 338))) (C := rn_Code) (T := fn_Code) (N := 5) hx hb hg in_Code hown hK hP 11 rfl rfl 2 (by decide) (hg _ wn_2_217) (fun _ h9 => h9) rfl dn_Code_widthOf_13 ?_
      refine lv_iload_n hx hb dn_Code_widthOf_16 rfl (lv_at hl 1 rfl) ?_
      obtain ⟨hg_1, hf⟩ := dc_g hf
      refine va_iald hx hb hK hP 74 0 rfl rfl hg_1 dn_Code_widthOf_17 ?_
      refine xk_ti (y := ((s.1 338) (Int32.toNatClampNeg v1))) rfl ?_
      refine lv_goto (tgt := 22) hx hb dn_Code_widthOf_18 (by decide) ?_
      rw [hQQ, ← Option.some.inj hf]
      exact xk_iret (w1 := fun u : Unit => (wC a v cI cB cJ cZ cQ s)) () hx hb hr hlocks hK hS dn_Code_widthOf_22 hP hD rfl (Nat.le_refl _) (Nat.le_refl _)
