set_option maxHeartbeats 8000000 in
set_option maxRecDepth 100000 in
theorem ct_Parts_clear_Ps (l : Launch) (dC : Nat → ClassId) (dI : Nat → Nat → Nat) (cI cB cJ cZ cQ : ClassId) (N sz : Nat) (a : Nat → Nat) (v : Nat → Value) (s : ms) (y : (Unit × ms)) (hf : fn_Parts_clear_Ps N s = some y) : Met l yn_Parts_clear (xw yn_Parts_clear bn_Parts_clear 1 none) ({ frames := 0, cells := 0, slots := 0, locals := 0 }) (dc_P (dC, dI) xcl (xt cI cB cJ cZ cQ) [.ref ((a 110))] sz (wC a v cI cB cJ cZ cQ s)) (xk_Qv (dC, dI) xcl (xt cI cB cJ cZ cQ) (fun _ : Unit => True) (fun u : Unit => (wC a v cI cB cJ cZ cQ y.2)) (va_A (wC a v cI cB cJ cZ cQ s) sz)) 0 0 (va_A (wC a v cI cB cJ cZ cQ s) sz) := by
  refine dc_of (QA := xk_Qv (dC, dI) xcl (xt cI cB cJ cZ cQ) (fun _ : Unit => True) (fun u : Unit => (wC a v cI cB cJ cZ cQ y.2))) (by decide) (Nat.le_of_ble_eq_true rfl) ?_
  intro p e s0 m below meth c hx hb hml hown hg hr hlocks hin hP hK hN A hA hD hT ls hl
  have hown : s0.vm.findClass rn_Parts = some m.cls := hown
  obtain ⟨H, hH⟩ : ∃ z, z = s0.heap := ⟨_, rfl⟩
  rw [← hH] at hP
  have hS : va_S A s0.heap H [] := by rw [hH]; exact va_S.rf
  suffices kk : ∀ QQ : State → Prop, QQ = MQ below (xk_Qv (dC, dI) xcl (xt cI cB cJ cZ cQ) (fun _ : Unit => True) (fun u : Unit => (wC a v cI cB cJ cZ cQ y.2)) A) [.ref ((a 110))].toArray s0 0 0 A → dcC p l e ({ frames := 0, cells := 0, slots := 0, locals := 0 }) s0 m [.ref ((a 110))].toArray below meth c QQ (dC, dI) A (wC a v cI cB cJ cZ cQ s) 0 1 [(0, .ref ((a 110)))] [] by
    have k9 := kk _ rfl H [] ls hP hD hS hl
    rw [hH] at k9; exact k9
  clear hP hD hS hl hH H ls
  intro QQ hQQ
  intro H locs ls hP hD hS hl
  unfold fn_Parts_clear_Ps at hf
  refine lv_aload_n hx hb dn_Parts_clear_0 rfl (lv_at hl 0 rfl) ?_
  refine lv_iconst (v := 0) hx hb dn_Parts_clear_1 (by decide) ?_
  refine va_put (D := (dC, dI)) (ci := 11) (v := .int 0) (ty := .int) (C := rn_Parts) (T := fn_Parts) (N := 15) hx hb hg in_Parts tn_Parts tk_Parts nn_Parts hown hK hP hD hS 10 rfl rfl 0 (by decide) (hg _ wn_2_123) (fun _ h9 => h9) rfl (tk_Parts 0 (by decide)) rfl rfl (Nat.le_of_ble_eq_true rfl) dn_Parts_clear_2 (fun H locs hP hD hS => ?_)
  have hP := wC_P_321 hP
  have hD := wC_D_321 hD
  refine lv_aload_n hx hb dn_Parts_clear_5 rfl (lv_at hl 0 rfl) ?_
  refine lv_iconst (v := 0) hx hb dn_Parts_clear_6 (by decide) ?_
  refine va_put (D := (dC, dI)) (ci := 11) (v := .int 0) (ty := .int) (C := rn_Parts) (T := fn_Parts) (N := 15) hx hb hg in_Parts tn_Parts tk_Parts nn_Parts hown hK hP hD hS 10 rfl rfl 7 (by decide) (hg _ wn_2_149) (fun _ h9 => h9) rfl (tk_Parts 7 (by decide)) rfl rfl (Nat.le_of_ble_eq_true rfl) dn_Parts_clear_7 (fun H locs hP hD hS => ?_)
  have hP := wC_P_328 hP
  have hD := wC_D_328 hD
  refine lv_aload_n hx hb dn_Parts_clear_10 rfl (lv_at hl 0 rfl) ?_
  refine lv_iconst (v := 0) hx hb dn_Parts_clear_11 (by decide) ?_
  refine va_put (D := (dC, dI)) (ci := 11) (v := .int 0) (ty := .int) (C := rn_Parts) (T := fn_Parts) (N := 15) hx hb hg in_Parts tn_Parts tk_Parts nn_Parts hown hK hP hD hS 10 rfl rfl 11 (by decide) (hg _ wn_2_162) (fun _ h9 => h9) rfl (tk_Parts 11 (by decide)) rfl rfl (Nat.le_of_ble_eq_true rfl) dn_Parts_clear_12 (fun H locs hP hD hS => ?_)
  have hP := wC_P_332 hP
  have hD := wC_D_332 hD
  rw [hQQ, ← Option.some.inj hf]
  exact xk_vret (w1 := fun u : Unit => (wC a v cI cB cJ cZ cQ (upI (upI (upI s 321 (fun _ => 0)) 328 (fun _ => 0)) 332 (fun _ => 0)))) () hx hb hr hlocks hK hS dn_Parts_clear_15 hP hD trivial (Nat.le_refl _) (Nat.le_refl _)
set_option maxHeartbeats 8000000 in
set_option maxRecDepth 100000 in
theorem ct_Code_clear_Ks (l : Launch) (dC : Nat → ClassId) (dI : Nat → Nat → Nat) (cI cB cJ cZ cQ : ClassId) (N sz : Nat) (a : Nat → Nat) (v : Nat → Value) (s : ms) (y : (Unit × ms)) (hf : fn_Code_clear_Ks N s = some y) : Met l yn_Code_clear (xw yn_Code_clear bn_Code_clear 1 none) ({ frames := 0, cells := 0, slots := 0, locals := 0 }) (dc_P (dC, dI) xcl (xt cI cB cJ cZ cQ) [.ref ((a 111))] sz (wC a v cI cB cJ cZ cQ s)) (xk_Qv (dC, dI) xcl (xt cI cB cJ cZ cQ) (fun _ : Unit => True) (fun u : Unit => (wC a v cI cB cJ cZ cQ y.2)) (va_A (wC a v cI cB cJ cZ cQ s) sz)) 0 0 (va_A (wC a v cI cB cJ cZ cQ s) sz) := by
  refine dc_of (QA := xk_Qv (dC, dI) xcl (xt cI cB cJ cZ cQ) (fun _ : Unit => True) (fun u : Unit => (wC a v cI cB cJ cZ cQ y.2))) (by decide) (Nat.le_of_ble_eq_true rfl) ?_
  intro p e s0 m below meth c hx hb hml hown hg hr hlocks hin hP hK hN A hA hD hT ls hl
  have hown : s0.vm.findClass rn_Code = some m.cls := hown
  obtain ⟨H, hH⟩ : ∃ z, z = s0.heap := ⟨_, rfl⟩
  rw [← hH] at hP
  have hS : va_S A s0.heap H [] := by rw [hH]; exact va_S.rf
  suffices kk : ∀ QQ : State → Prop, QQ = MQ below (xk_Qv (dC, dI) xcl (xt cI cB cJ cZ cQ) (fun _ : Unit => True) (fun u : Unit => (wC a v cI cB cJ cZ cQ y.2)) A) [.ref ((a 111))].toArray s0 0 0 A → dcC p l e ({ frames := 0, cells := 0, slots := 0, locals := 0 }) s0 m [.ref ((a 111))].toArray below meth c QQ (dC, dI) A (wC a v cI cB cJ cZ cQ s) 0 1 [(0, .ref ((a 111)))] [] by
    have k9 := kk _ rfl H [] ls hP hD hS hl
    rw [hH] at k9; exact k9
  clear hP hD hS hl hH H ls
  intro QQ hQQ
  intro H locs ls hP hD hS hl
  unfold fn_Code_clear_Ks at hf
  refine lv_aload_n hx hb dn_Code_clear_0 rfl (lv_at hl 0 rfl) ?_
  refine lv_iconst (v := 0) hx hb dn_Code_clear_1 (by decide) ?_
  refine va_put (D := (dC, dI)) (ci := 12) (v := .int 0) (ty := .int) (C := rn_Code) (T := fn_Code) (N := 5) hx hb hg in_Code tn_Code tk_Code nn_Code hown hK hP hD hS 11 rfl rfl 1 (by decide) (hg _ wn_2_211) (fun _ h9 => h9) rfl (tk_Code 1 (by decide)) rfl rfl (Nat.le_of_ble_eq_true rfl) dn_Code_clear_2 (fun H locs hP hD hS => ?_)
  have hP := wC_P_337 hP
  have hD := wC_D_337 hD
  refine lv_aload_n hx hb dn_Code_clear_5 rfl (lv_at hl 0 rfl) ?_
  refine lv_iconst (v := 0) hx hb dn_Code_clear_6 (by decide) ?_
  refine va_put (D := (dC, dI)) (ci := 12) (v := .int 0) (ty := .int) (C := rn_Code) (T := fn_Code) (N := 5) hx hb hg in_Code tn_Code tk_Code nn_Code hown hK hP hD hS 11 rfl rfl 4 (by decide) (hg _ wn_2_219) (fun _ h9 => h9) rfl (tk_Code 4 (by decide)) rfl rfl (Nat.le_of_ble_eq_true rfl) dn_Code_clear_7 (fun H locs hP hD hS => ?_)
  have hP := wC_P_340 hP
  have hD := wC_D_340 hD
  rw [hQQ, ← Option.some.inj hf]
  exact xk_vret (w1 := fun u : Unit => (wC a v cI cB cJ cZ cQ (upI (upI s 337 (fun _ => 0)) 340 (fun _ => 0)))) () hx hb hr hlocks hK hS dn_Code_clear_10 hP hD trivial (Nat.le_refl _) (Nat.le_refl _)
set_option maxHeartbeats 8000000 in
set_option maxRecDepth 100000 in
theorem ct_Design_clear_Ds (l : Launch) (dC : Nat → ClassId) (dI : Nat → Nat → Nat) (cI cB cJ cZ cQ : ClassId) (N sz : Nat) (a : Nat → Nat) (v : Nat → Value) (v1 : Int32) (s : ms) (y : (Unit × ms)) (hf : fn_Design_clear_Ds N v1 s = some y) : Met l yn_Design_clear (xw yn_Design_clear bn_Design_clear 2 none) ({ frames := 1, cells := 0, slots := 0, locals := 40 }) (dc_P (dC, dI) xcl (xt cI cB cJ cZ cQ) [.ref ((a 109)), .int v1] sz (wC a v cI cB cJ cZ cQ s)) (xk_Qv (dC, dI) xcl (xt cI cB cJ cZ cQ) (fun _ : Unit => True) (fun u : Unit => (wC a v cI cB cJ cZ cQ y.2)) (va_A (wC a v cI cB cJ cZ cQ s) sz)) 0 0 (va_A (wC a v cI cB cJ cZ cQ s) sz) := by
  refine dc_of (QA := xk_Qv (dC, dI) xcl (xt cI cB cJ cZ cQ) (fun _ : Unit => True) (fun u : Unit => (wC a v cI cB cJ cZ cQ y.2))) (by decide) (Nat.le_of_ble_eq_true rfl) ?_
  intro p e s0 m below meth c hx hb hml hown hg hr hlocks hin hP hK hN A hA hD hT ls hl
  have hown : s0.vm.findClass rn_Design = some m.cls := hown
  obtain ⟨H, hH⟩ : ∃ z, z = s0.heap := ⟨_, rfl⟩
  rw [← hH] at hP
  have hS : va_S A s0.heap H [] := by rw [hH]; exact va_S.rf
  suffices kk : ∀ QQ : State → Prop, QQ = MQ below (xk_Qv (dC, dI) xcl (xt cI cB cJ cZ cQ) (fun _ : Unit => True) (fun u : Unit => (wC a v cI cB cJ cZ cQ y.2)) A) [.ref ((a 109)), .int v1].toArray s0 0 0 A → dcC p l e ({ frames := 1, cells := 0, slots := 0, locals := 40 }) s0 m [.ref ((a 109)), .int v1].toArray below meth c QQ (dC, dI) A (wC a v cI cB cJ cZ cQ s) 0 2 [(0, .ref ((a 109))), (1, .int v1)] [] by
    have k9 := kk _ rfl H [] ls hP hD hS hl
    rw [hH] at k9; exact k9
  clear hP hD hS hl hH H ls
  intro QQ hQQ
  intro H locs ls hP hD hS hl
  unfold fn_Design_clear_Ds at hf
  refine lv_aload_n hx hb dn_Design_clear_0 rfl (lv_at hl 0 rfl) ?_
  refine lv_iload_n hx hb dn_Design_clear_1 rfl (lv_at hl 1 rfl) ?_
  refine lv_aload_n hx hb dn_Design_clear_2 rfl (lv_at hl 0 rfl) ?_
  refine va_get (D := (dC, dI)) (ci := 10) (v := .ref ((a 307))) (C := rn_Design) (T := fn_Design) (N := 16) hx hb hg in_Design hown hK hP 9 rfl rfl 2 (by decide) (hg _ wn_3_4) (fun _ h9 => h9) rfl dn_Design_clear_3 ?_
  refine va_alen (v := 65536) hx hb hK hP 52 1 rfl rfl rfl dn_Design_clear_6 ?_
  refine va_mmin (x := v1) (y := 65536) (rest := [.ref ((a 109))]) hx hb (by rw [hml]; exact hl.1.symm) hown (hg _ wn_3_167) (hg _ wn_3_168) (hg _ wn_1_19) (hg _ wn_3_169) (Nat.le_of_ble_eq_true rfl) (Nat.le_of_ble_eq_true rfl) (Nat.zero_le _) (Nat.zero_le _) dn_Design_clear_7 ?_
  refine va_put (D := (dC, dI)) (ci := 10) (v := .int ((if 65536 < v1 then 65536 else v1))) (ty := .int) (C := rn_Design) (T := fn_Design) (N := 16) hx hb hg in_Design tn_Design tk_Design nn_Design hown hK hP hD hS 9 rfl rfl 3 (by decide) (hg _ wn_3_7) (fun _ h9 => h9) rfl (tk_Design 3 (by decide)) rfl rfl (Nat.le_of_ble_eq_true rfl) dn_Design_clear_10 (fun H locs hP hD hS => ?_)
  have hP := wC_P_308 hP
  have hD := wC_D_308 hD
  refine lv_aload_n hx hb dn_Design_clear_13 rfl (lv_at hl 0 rfl) ?_
  refine lv_iconst (v := 0) hx hb dn_Design_clear_14 (by decide) ?_
  refine va_put (D := (dC, dI)) (ci := 10) (v := .int 0) (ty := .int) (C := rn_Design) (T := fn_Design) (N := 16) hx hb hg in_Design tn_Design tk_Design nn_Design hown hK hP hD hS 9 rfl rfl 4 (by decide) (hg _ wn_3_10) (fun _ h9 => h9) rfl (tk_Design 4 (by decide)) rfl rfl (Nat.le_of_ble_eq_true rfl) dn_Design_clear_15 (fun H locs hP hD hS => ?_)
  have hP := wC_P_309 hP
  have hD := wC_D_309 hD
  refine lv_aload_n hx hb dn_Design_clear_18 rfl (lv_at hl 0 rfl) ?_
  refine lv_iconst (v := 0) hx hb dn_Design_clear_19 (by decide) ?_
  refine va_put (D := (dC, dI)) (ci := 10) (v := .int 0) (ty := .int) (C := rn_Design) (T := fn_Design) (N := 16) hx hb hg in_Design tn_Design tk_Design nn_Design hown hK hP hD hS 9 rfl rfl 12 (by decide) (hg _ wn_3_21) (fun _ h9 => h9) rfl (tk_Design 12 (by decide)) rfl rfl (Nat.le_of_ble_eq_true rfl) dn_Design_clear_20 (fun H locs hP hD hS => ?_)
  have hP := wC_P_317 hP
  have hD := wC_D_317 hD
  refine lv_aload_n hx hb dn_Design_clear_23 rfl (lv_at hl 0 rfl) ?_
  refine lv_iconst (v := 0) hx hb dn_Design_clear_24 (by decide) ?_
  refine va_put (D := (dC, dI)) (ci := 10) (v := .int 0) (ty := .int) (C := rn_Design) (T := fn_Design) (N := 16) hx hb hg in_Design tn_Design tk_Design nn_Design hown hK hP hD hS 9 rfl rfl 5 (by decide) (hg _ wn_3_13) (fun _ h9 => h9) rfl (tk_Design 5 (by decide)) rfl rfl (Nat.le_of_ble_eq_true rfl) dn_Design_clear_25 (fun H locs hP hD hS => ?_)
  have hP := wC_P_310 hP
  have hD := wC_D_310 hD
  refine lv_aload_n hx hb dn_Design_clear_28 rfl (lv_at hl 0 rfl) ?_
  refine va_get (D := (dC, dI)) (ci := 10) (v := .ref ((a 110))) (C := rn_Design) (T := fn_Design) (N := 16) hx hb hg in_Design hown hK hP 9 rfl rfl 0 (by decide) (hg _ wn_2_234) (fun _ h9 => h9) rfl dn_Design_clear_29 ?_
  obtain ⟨q_1, hc_2, hf⟩ := dc_b hf
  refine dc_callv (dc_runV (ar := 0) (As := []) (rest := []) (ci := 11) (q0 := 10) ⟨hx, hb, hml, hown, hg⟩ hK hN hT hS hA (ct_Parts_clear_Ps l dC dI cI cB cJ cZ cQ N H.size a v (upI (upI (upI (upI s 308 (fun _ => (if 65536 < v1 then 65536 else v1))) 309 (fun _ => 0)) 317 (fun _ => 0)) 310 (fun _ => 0)) q_1 hc_2) hP hD rfl rfl wn_3_170 wn_3_171 wn_3_172 wn_1_11 wn_3_173 rfl rfl (by decide +kernel) ⟨Nat.le_of_ble_eq_true rfl, Nat.le_of_ble_eq_true rfl⟩ rfl hl.1 rfl (Nat.le_of_ble_eq_true rfl) dn_Design_clear_32 ⟨Nat.le_of_ble_eq_true rfl, Nat.le_of_ble_eq_true rfl⟩) hP hD hS hA (fun _ H locs hw hP hD hS => ?_)
  refine lv_aload_n hx hb dn_Design_clear_35 rfl (lv_at hl 0 rfl) ?_
  refine va_get (D := (dC, dI)) (ci := 10) (v := .ref ((a 111))) (C := rn_Design) (T := fn_Design) (N := 16) hx hb hg in_Design hown hK hP 9 rfl rfl 1 (by decide) (hg _ wn_2_238) (fun _ h9 => h9) rfl dn_Design_clear_36 ?_
  obtain ⟨q_3, hc_4, hf⟩ := dc_b hf
  refine dc_callv (dc_runV (ar := 0) (As := []) (rest := []) (ci := 12) (q0 := 11) ⟨hx, hb, hml, hown, hg⟩ hK hN hT hS hA (ct_Code_clear_Ks l dC dI cI cB cJ cZ cQ N H.size a v q_1.2 q_3 hc_4) hP hD rfl rfl wn_3_174 wn_3_175 wn_3_176 wn_1_12 wn_3_177 rfl rfl (by decide +kernel) ⟨Nat.le_of_ble_eq_true rfl, Nat.le_of_ble_eq_true rfl⟩ rfl hl.1 rfl (Nat.le_of_ble_eq_true rfl) dn_Design_clear_39 ⟨Nat.le_of_ble_eq_true rfl, Nat.le_of_ble_eq_true rfl⟩) hP hD hS hA (fun _ H locs hw hP hD hS => ?_)
  rw [hQQ, ← Option.some.inj hf]
  exact xk_vret (w1 := fun u : Unit => (wC a v cI cB cJ cZ cQ q_3.2)) () hx hb hr hlocks hK hS dn_Design_clear_42 hP hD trivial (Nat.le_refl _) (Nat.le_refl _)
set_option maxHeartbeats 8000000 in
set_option maxRecDepth 100000 in
theorem ct_Tokens_clear_Tk (l : Launch) (dC : Nat → ClassId) (dI : Nat → Nat → Nat) (cI cB cJ cZ cQ : ClassId) (N sz : Nat) (a : Nat → Nat) (v : Nat → Value) (s : ms) (y : (Unit × ms)) (hf : fn_Tokens_clear_Tk N s = some y) : Met l yn_Tokens_clear (xw yn_Tokens_clear bn_Tokens_clear 1 none) ({ frames := 0, cells := 0, slots := 0, locals := 0 }) (dc_P (dC, dI) xcl (xt cI cB cJ cZ cQ) [.ref ((a 101))] sz (wC a v cI cB cJ cZ cQ s)) (xk_Qv (dC, dI) xcl (xt cI cB cJ cZ cQ) (fun _ : Unit => True) (fun u : Unit => (wC a v cI cB cJ cZ cQ y.2)) (va_A (wC a v cI cB cJ cZ cQ s) sz)) 0 0 (va_A (wC a v cI cB cJ cZ cQ s) sz) := by
  refine dc_of (QA := xk_Qv (dC, dI) xcl (xt cI cB cJ cZ cQ) (fun _ : Unit => True) (fun u : Unit => (wC a v cI cB cJ cZ cQ y.2))) (by decide) (Nat.le_of_ble_eq_true rfl) ?_
  intro p e s0 m below meth c hx hb hml hown hg hr hlocks hin hP hK hN A hA hD hT ls hl
  have hown : s0.vm.findClass rn_Tokens = some m.cls := hown
  obtain ⟨H, hH⟩ : ∃ z, z = s0.heap := ⟨_, rfl⟩
  rw [← hH] at hP
  have hS : va_S A s0.heap H [] := by rw [hH]; exact va_S.rf
  suffices kk : ∀ QQ : State → Prop, QQ = MQ below (xk_Qv (dC, dI) xcl (xt cI cB cJ cZ cQ) (fun _ : Unit => True) (fun u : Unit => (wC a v cI cB cJ cZ cQ y.2)) A) [.ref ((a 101))].toArray s0 0 0 A → dcC p l e ({ frames := 0, cells := 0, slots := 0, locals := 0 }) s0 m [.ref ((a 101))].toArray below meth c QQ (dC, dI) A (wC a v cI cB cJ cZ cQ s) 0 1 [(0, .ref ((a 101)))] [] by
    have k9 := kk _ rfl H [] ls hP hD hS hl
    rw [hH] at k9; exact k9
  clear hP hD hS hl hH H ls
  intro QQ hQQ
  intro H locs ls hP hD hS hl
  unfold fn_Tokens_clear_Tk at hf
  refine lv_aload_n hx hb dn_Tokens_clear_0 rfl (lv_at hl 0 rfl) ?_
  refine lv_iconst (v := 0) hx hb dn_Tokens_clear_1 (by decide) ?_
  refine va_put (D := (dC, dI)) (ci := 2) (v := .int 0) (ty := .int) (C := rn_Tokens) (T := fn_Tokens) (N := 9) hx hb hg in_Tokens tn_Tokens tk_Tokens nn_Tokens hown hK hP hD hS 1 rfl rfl 1 (by decide) (hg _ wn_1_46) (fun _ h9 => h9) rfl (tk_Tokens 1 (by decide)) rfl rfl (Nat.le_of_ble_eq_true rfl) dn_Tokens_clear_2 (fun H locs hP hD hS => ?_)
  have hP := wC_P_212 hP
  have hD := wC_D_212 hD
  rw [hQQ, ← Option.some.inj hf]
  exact xk_vret (w1 := fun u : Unit => (wC a v cI cB cJ cZ cQ (upI s 212 (fun _ => 0)))) () hx hb hr hlocks hK hS dn_Tokens_clear_5 hP hD trivial (Nat.le_refl _) (Nat.le_refl _)
set_option maxHeartbeats 8000000 in
set_option maxRecDepth 100000 in
theorem ct_Parts_clear_Pc (l : Launch) (dC : Nat → ClassId) (dI : Nat → Nat → Nat) (cI cB cJ cZ cQ : ClassId) (N sz : Nat) (a : Nat → Nat) (v : Nat → Value) (s : ms) (y : (Unit × ms)) (hf : fn_Parts_clear_Pc N s = some y) : Met l yn_Parts_clear (xw yn_Parts_clear bn_Parts_clear 1 none) ({ frames := 0, cells := 0, slots := 0, locals := 0 }) (dc_P (dC, dI) xcl (xt cI cB cJ cZ cQ) [.ref ((a 114))] sz (wC a v cI cB cJ cZ cQ s)) (xk_Qv (dC, dI) xcl (xt cI cB cJ cZ cQ) (fun _ : Unit => True) (fun u : Unit => (wC a v cI cB cJ cZ cQ y.2)) (va_A (wC a v cI cB cJ cZ cQ s) sz)) 0 0 (va_A (wC a v cI cB cJ cZ cQ s) sz) := by
  refine dc_of (QA := xk_Qv (dC, dI) xcl (xt cI cB cJ cZ cQ) (fun _ : Unit => True) (fun u : Unit => (wC a v cI cB cJ cZ cQ y.2))) (by decide) (Nat.le_of_ble_eq_true rfl) ?_
  intro p e s0 m below meth c hx hb hml hown hg hr hlocks hin hP hK hN A hA hD hT ls hl
  have hown : s0.vm.findClass rn_Parts = some m.cls := hown
  obtain ⟨H, hH⟩ : ∃ z, z = s0.heap := ⟨_, rfl⟩
  rw [← hH] at hP
  have hS : va_S A s0.heap H [] := by rw [hH]; exact va_S.rf
  suffices kk : ∀ QQ : State → Prop, QQ = MQ below (xk_Qv (dC, dI) xcl (xt cI cB cJ cZ cQ) (fun _ : Unit => True) (fun u : Unit => (wC a v cI cB cJ cZ cQ y.2)) A) [.ref ((a 114))].toArray s0 0 0 A → dcC p l e ({ frames := 0, cells := 0, slots := 0, locals := 0 }) s0 m [.ref ((a 114))].toArray below meth c QQ (dC, dI) A (wC a v cI cB cJ cZ cQ s) 0 1 [(0, .ref ((a 114)))] [] by
    have k9 := kk _ rfl H [] ls hP hD hS hl
    rw [hH] at k9; exact k9
  clear hP hD hS hl hH H ls
  intro QQ hQQ
  intro H locs ls hP hD hS hl
  unfold fn_Parts_clear_Pc at hf
  refine lv_aload_n hx hb dn_Parts_clear_0 rfl (lv_at hl 0 rfl) ?_
  refine lv_iconst (v := 0) hx hb dn_Parts_clear_1 (by decide) ?_
  refine va_put (D := (dC, dI)) (ci := 11) (v := .int 0) (ty := .int) (C := rn_Parts) (T := fn_Parts) (N := 15) hx hb hg in_Parts tn_Parts tk_Parts nn_Parts hown hK hP hD hS 14 rfl rfl 0 (by decide) (hg _ wn_2_123) (fun _ h9 => h9) rfl (tk_Parts 0 (by decide)) rfl rfl (Nat.le_of_ble_eq_true rfl) dn_Parts_clear_2 (fun H locs hP hD hS => ?_)
  have hP := wC_P_371 hP
  have hD := wC_D_371 hD
  refine lv_aload_n hx hb dn_Parts_clear_5 rfl (lv_at hl 0 rfl) ?_
  refine lv_iconst (v := 0) hx hb dn_Parts_clear_6 (by decide) ?_
  refine va_put (D := (dC, dI)) (ci := 11) (v := .int 0) (ty := .int) (C := rn_Parts) (T := fn_Parts) (N := 15) hx hb hg in_Parts tn_Parts tk_Parts nn_Parts hown hK hP hD hS 14 rfl rfl 7 (by decide) (hg _ wn_2_149) (fun _ h9 => h9) rfl (tk_Parts 7 (by decide)) rfl rfl (Nat.le_of_ble_eq_true rfl) dn_Parts_clear_7 (fun H locs hP hD hS => ?_)
  have hP := wC_P_378 hP
  have hD := wC_D_378 hD
  refine lv_aload_n hx hb dn_Parts_clear_10 rfl (lv_at hl 0 rfl) ?_
  refine lv_iconst (v := 0) hx hb dn_Parts_clear_11 (by decide) ?_
  refine va_put (D := (dC, dI)) (ci := 11) (v := .int 0) (ty := .int) (C := rn_Parts) (T := fn_Parts) (N := 15) hx hb hg in_Parts tn_Parts tk_Parts nn_Parts hown hK hP hD hS 14 rfl rfl 11 (by decide) (hg _ wn_2_162) (fun _ h9 => h9) rfl (tk_Parts 11 (by decide)) rfl rfl (Nat.le_of_ble_eq_true rfl) dn_Parts_clear_12 (fun H locs hP hD hS => ?_)
  have hP := wC_P_382 hP
  have hD := wC_D_382 hD
  rw [hQQ, ← Option.some.inj hf]
  exact xk_vret (w1 := fun u : Unit => (wC a v cI cB cJ cZ cQ (upI (upI (upI s 371 (fun _ => 0)) 378 (fun _ => 0)) 382 (fun _ => 0)))) () hx hb hr hlocks hK hS dn_Parts_clear_15 hP hD trivial (Nat.le_refl _) (Nat.le_refl _)
set_option maxHeartbeats 8000000 in
set_option maxRecDepth 100000 in
theorem ct_Code_clear_Kc (l : Launch) (dC : Nat → ClassId) (dI : Nat → Nat → Nat) (cI cB cJ cZ cQ : ClassId) (N sz : Nat) (a : Nat → Nat) (v : Nat → Value) (s : ms) (y : (Unit × ms)) (hf : fn_Code_clear_Kc N s = some y) : Met l yn_Code_clear (xw yn_Code_clear bn_Code_clear 1 none) ({ frames := 0, cells := 0, slots := 0, locals := 0 }) (dc_P (dC, dI) xcl (xt cI cB cJ cZ cQ) [.ref ((a 115))] sz (wC a v cI cB cJ cZ cQ s)) (xk_Qv (dC, dI) xcl (xt cI cB cJ cZ cQ) (fun _ : Unit => True) (fun u : Unit => (wC a v cI cB cJ cZ cQ y.2)) (va_A (wC a v cI cB cJ cZ cQ s) sz)) 0 0 (va_A (wC a v cI cB cJ cZ cQ s) sz) := by
  refine dc_of (QA := xk_Qv (dC, dI) xcl (xt cI cB cJ cZ cQ) (fun _ : Unit => True) (fun u : Unit => (wC a v cI cB cJ cZ cQ y.2))) (by decide) (Nat.le_of_ble_eq_true rfl) ?_
  intro p e s0 m below meth c hx hb hml hown hg hr hlocks hin hP hK hN A hA hD hT ls hl
  have hown : s0.vm.findClass rn_Code = some m.cls := hown
  obtain ⟨H, hH⟩ : ∃ z, z = s0.heap := ⟨_, rfl⟩
  rw [← hH] at hP
  have hS : va_S A s0.heap H [] := by rw [hH]; exact va_S.rf
  suffices kk : ∀ QQ : State → Prop, QQ = MQ below (xk_Qv (dC, dI) xcl (xt cI cB cJ cZ cQ) (fun _ : Unit => True) (fun u : Unit => (wC a v cI cB cJ cZ cQ y.2)) A) [.ref ((a 115))].toArray s0 0 0 A → dcC p l e ({ frames := 0, cells := 0, slots := 0, locals := 0 }) s0 m [.ref ((a 115))].toArray below meth c QQ (dC, dI) A (wC a v cI cB cJ cZ cQ s) 0 1 [(0, .ref ((a 115)))] [] by
    have k9 := kk _ rfl H [] ls hP hD hS hl
    rw [hH] at k9; exact k9
  clear hP hD hS hl hH H ls
  intro QQ hQQ
  intro H locs ls hP hD hS hl
  unfold fn_Code_clear_Kc at hf
  refine lv_aload_n hx hb dn_Code_clear_0 rfl (lv_at hl 0 rfl) ?_
  refine lv_iconst (v := 0) hx hb dn_Code_clear_1 (by decide) ?_
  refine va_put (D := (dC, dI)) (ci := 12) (v := .int 0) (ty := .int) (C := rn_Code) (T := fn_Code) (N := 5) hx hb hg in_Code tn_Code tk_Code nn_Code hown hK hP hD hS 15 rfl rfl 1 (by decide) (hg _ wn_2_211) (fun _ h9 => h9) rfl (tk_Code 1 (by decide)) rfl rfl (Nat.le_of_ble_eq_true rfl) dn_Code_clear_2 (fun H locs hP hD hS => ?_)
  have hP := wC_P_387 hP
  have hD := wC_D_387 hD
  refine lv_aload_n hx hb dn_Code_clear_5 rfl (lv_at hl 0 rfl) ?_
  refine lv_iconst (v := 0) hx hb dn_Code_clear_6 (by decide) ?_
  refine va_put (D := (dC, dI)) (ci := 12) (v := .int 0) (ty := .int) (C := rn_Code) (T := fn_Code) (N := 5) hx hb hg in_Code tn_Code tk_Code nn_Code hown hK hP hD hS 15 rfl rfl 4 (by decide) (hg _ wn_2_219) (fun _ h9 => h9) rfl (tk_Code 4 (by decide)) rfl rfl (Nat.le_of_ble_eq_true rfl) dn_Code_clear_7 (fun H locs hP hD hS => ?_)
  have hP := wC_P_390 hP
  have hD := wC_D_390 hD
  rw [hQQ, ← Option.some.inj hf]
  exact xk_vret (w1 := fun u : Unit => (wC a v cI cB cJ cZ cQ (upI (upI s 387 (fun _ => 0)) 390 (fun _ => 0)))) () hx hb hr hlocks hK hS dn_Code_clear_10 hP hD trivial (Nat.le_refl _) (Nat.le_refl _)
set_option maxHeartbeats 8000000 in
set_option maxRecDepth 100000 in
theorem ct_Design_clear_Dc (l : Launch) (dC : Nat → ClassId) (dI : Nat → Nat → Nat) (cI cB cJ cZ cQ : ClassId) (N sz : Nat) (a : Nat → Nat) (v : Nat → Value) (v1 : Int32) (s : ms) (y : (Unit × ms)) (hf : fn_Design_clear_Dc N v1 s = some y) : Met l yn_Design_clear (xw yn_Design_clear bn_Design_clear 2 none) ({ frames := 1, cells := 0, slots := 0, locals := 40 }) (dc_P (dC, dI) xcl (xt cI cB cJ cZ cQ) [.ref ((a 113)), .int v1] sz (wC a v cI cB cJ cZ cQ s)) (xk_Qv (dC, dI) xcl (xt cI cB cJ cZ cQ) (fun _ : Unit => True) (fun u : Unit => (wC a v cI cB cJ cZ cQ y.2)) (va_A (wC a v cI cB cJ cZ cQ s) sz)) 0 0 (va_A (wC a v cI cB cJ cZ cQ s) sz) := by
  refine dc_of (QA := xk_Qv (dC, dI) xcl (xt cI cB cJ cZ cQ) (fun _ : Unit => True) (fun u : Unit => (wC a v cI cB cJ cZ cQ y.2))) (by decide) (Nat.le_of_ble_eq_true rfl) ?_
  intro p e s0 m below meth c hx hb hml hown hg hr hlocks hin hP hK hN A hA hD hT ls hl
  have hown : s0.vm.findClass rn_Design = some m.cls := hown
  obtain ⟨H, hH⟩ : ∃ z, z = s0.heap := ⟨_, rfl⟩
  rw [← hH] at hP
  have hS : va_S A s0.heap H [] := by rw [hH]; exact va_S.rf
  suffices kk : ∀ QQ : State → Prop, QQ = MQ below (xk_Qv (dC, dI) xcl (xt cI cB cJ cZ cQ) (fun _ : Unit => True) (fun u : Unit => (wC a v cI cB cJ cZ cQ y.2)) A) [.ref ((a 113)), .int v1].toArray s0 0 0 A → dcC p l e ({ frames := 1, cells := 0, slots := 0, locals := 40 }) s0 m [.ref ((a 113)), .int v1].toArray below meth c QQ (dC, dI) A (wC a v cI cB cJ cZ cQ s) 0 2 [(0, .ref ((a 113))), (1, .int v1)] [] by
    have k9 := kk _ rfl H [] ls hP hD hS hl
    rw [hH] at k9; exact k9
  clear hP hD hS hl hH H ls
  intro QQ hQQ
  intro H locs ls hP hD hS hl
  unfold fn_Design_clear_Dc at hf
  refine lv_aload_n hx hb dn_Design_clear_0 rfl (lv_at hl 0 rfl) ?_
  refine lv_iload_n hx hb dn_Design_clear_1 rfl (lv_at hl 1 rfl) ?_
  refine lv_aload_n hx hb dn_Design_clear_2 rfl (lv_at hl 0 rfl) ?_
  refine va_get (D := (dC, dI)) (ci := 10) (v := .ref ((a 357))) (C := rn_Design) (T := fn_Design) (N := 16) hx hb hg in_Design hown hK hP 13 rfl rfl 2 (by decide) (hg _ wn_3_4) (fun _ h9 => h9) rfl dn_Design_clear_3 ?_
  refine va_alen (v := 65536) hx hb hK hP 86 1 rfl rfl rfl dn_Design_clear_6 ?_
  refine va_mmin (x := v1) (y := 65536) (rest := [.ref ((a 113))]) hx hb (by rw [hml]; exact hl.1.symm) hown (hg _ wn_3_167) (hg _ wn_3_168) (hg _ wn_1_19) (hg _ wn_3_169) (Nat.le_of_ble_eq_true rfl) (Nat.le_of_ble_eq_true rfl) (Nat.zero_le _) (Nat.zero_le _) dn_Design_clear_7 ?_
  refine va_put (D := (dC, dI)) (ci := 10) (v := .int ((if 65536 < v1 then 65536 else v1))) (ty := .int) (C := rn_Design) (T := fn_Design) (N := 16) hx hb hg in_Design tn_Design tk_Design nn_Design hown hK hP hD hS 13 rfl rfl 3 (by decide) (hg _ wn_3_7) (fun _ h9 => h9) rfl (tk_Design 3 (by decide)) rfl rfl (Nat.le_of_ble_eq_true rfl) dn_Design_clear_10 (fun H locs hP hD hS => ?_)
  have hP := wC_P_358 hP
  have hD := wC_D_358 hD
  refine lv_aload_n hx hb dn_Design_clear_13 rfl (lv_at hl 0 rfl) ?_
  refine lv_iconst (v := 0) hx hb dn_Design_clear_14 (by decide) ?_
  refine va_put (D := (dC, dI)) (ci := 10) (v := .int 0) (ty := .int) (C := rn_Design) (T := fn_Design) (N := 16) hx hb hg in_Design tn_Design tk_Design nn_Design hown hK hP hD hS 13 rfl rfl 4 (by decide) (hg _ wn_3_10) (fun _ h9 => h9) rfl (tk_Design 4 (by decide)) rfl rfl (Nat.le_of_ble_eq_true rfl) dn_Design_clear_15 (fun H locs hP hD hS => ?_)
  have hP := wC_P_359 hP
  have hD := wC_D_359 hD
  refine lv_aload_n hx hb dn_Design_clear_18 rfl (lv_at hl 0 rfl) ?_
  refine lv_iconst (v := 0) hx hb dn_Design_clear_19 (by decide) ?_
  refine va_put (D := (dC, dI)) (ci := 10) (v := .int 0) (ty := .int) (C := rn_Design) (T := fn_Design) (N := 16) hx hb hg in_Design tn_Design tk_Design nn_Design hown hK hP hD hS 13 rfl rfl 12 (by decide) (hg _ wn_3_21) (fun _ h9 => h9) rfl (tk_Design 12 (by decide)) rfl rfl (Nat.le_of_ble_eq_true rfl) dn_Design_clear_20 (fun H locs hP hD hS => ?_)
  have hP := wC_P_367 hP
  have hD := wC_D_367 hD
  refine lv_aload_n hx hb dn_Design_clear_23 rfl (lv_at hl 0 rfl) ?_
  refine lv_iconst (v := 0) hx hb dn_Design_clear_24 (by decide) ?_
  refine va_put (D := (dC, dI)) (ci := 10) (v := .int 0) (ty := .int) (C := rn_Design) (T := fn_Design) (N := 16) hx hb hg in_Design tn_Design tk_Design nn_Design hown hK hP hD hS 13 rfl rfl 5 (by decide) (hg _ wn_3_13) (fun _ h9 => h9) rfl (tk_Design 5 (by decide)) rfl rfl (Nat.le_of_ble_eq_true rfl) dn_Design_clear_25 (fun H locs hP hD hS => ?_)
  have hP := wC_P_360 hP
  have hD := wC_D_360 hD
  refine lv_aload_n hx hb dn_Design_clear_28 rfl (lv_at hl 0 rfl) ?_
  refine va_get (D := (dC, dI)) (ci := 10) (v := .ref ((a 114))) (C := rn_Design) (T := fn_Design) (N := 16) hx hb hg in_Design hown hK hP 13 rfl rfl 0 (by decide) (hg _ wn_2_234) (fun _ h9 => h9) rfl dn_Design_clear_29 ?_
  obtain ⟨q_1, hc_2, hf⟩ := dc_b hf
  refine dc_callv (dc_runV (ar := 0) (As := []) (rest := []) (ci := 11) (q0 := 14) ⟨hx, hb, hml, hown, hg⟩ hK hN hT hS hA (ct_Parts_clear_Pc l dC dI cI cB cJ cZ cQ N H.size a v (upI (upI (upI (upI s 358 (fun _ => (if 65536 < v1 then 65536 else v1))) 359 (fun _ => 0)) 367 (fun _ => 0)) 360 (fun _ => 0)) q_1 hc_2) hP hD rfl rfl wn_3_170 wn_3_171 wn_3_172 wn_1_11 wn_3_173 rfl rfl (by decide +kernel) ⟨Nat.le_of_ble_eq_true rfl, Nat.le_of_ble_eq_true rfl⟩ rfl hl.1 rfl (Nat.le_of_ble_eq_true rfl) dn_Design_clear_32 ⟨Nat.le_of_ble_eq_true rfl, Nat.le_of_ble_eq_true rfl⟩) hP hD hS hA (fun _ H locs hw hP hD hS => ?_)
  refine lv_aload_n hx hb dn_Design_clear_35 rfl (lv_at hl 0 rfl) ?_
  refine va_get (D := (dC, dI)) (ci := 10) (v := .ref ((a 115))) (C := rn_Design) (T := fn_Design) (N := 16) hx hb hg in_Design hown hK hP 13 rfl rfl 1 (by decide) (hg _ wn_2_238) (fun _ h9 => h9) rfl dn_Design_clear_36 ?_
  obtain ⟨q_3, hc_4, hf⟩ := dc_b hf
  refine dc_callv (dc_runV (ar := 0) (As := []) (rest := []) (ci := 12) (q0 := 15) ⟨hx, hb, hml, hown, hg⟩ hK hN hT hS hA (ct_Code_clear_Kc l dC dI cI cB cJ cZ cQ N H.size a v q_1.2 q_3 hc_4) hP hD rfl rfl wn_3_174 wn_3_175 wn_3_176 wn_1_12 wn_3_177 rfl rfl (by decide +kernel) ⟨Nat.le_of_ble_eq_true rfl, Nat.le_of_ble_eq_true rfl⟩ rfl hl.1 rfl (Nat.le_of_ble_eq_true rfl) dn_Design_clear_39 ⟨Nat.le_of_ble_eq_true rfl, Nat.le_of_ble_eq_true rfl⟩) hP hD hS hA (fun _ H locs hw hP hD hS => ?_)
  rw [hQQ, ← Option.some.inj hf]
  exact xk_vret (w1 := fun u : Unit => (wC a v cI cB cJ cZ cQ q_3.2)) () hx hb hr hlocks hK hS dn_Design_clear_42 hP hD trivial (Nat.le_refl _) (Nat.le_refl _)
set_option maxHeartbeats 8000000 in
set_option maxRecDepth 100000 in
theorem ct_Scanner_byteAt_Sc (l : Launch) (dC : Nat → ClassId) (dI : Nat → Nat → Nat) (cI cB cJ cZ cQ : ClassId) (N sz : Nat) (a : Nat → Nat) (v : Nat → Value) (hv_0 : v 0 = .ref (a 307)) (v1 : Int32) (s : ms) (y : (Int32 × ms)) (hf : fn_Scanner_byteAt_Sc N v1 s = some y) : Met l yn_Scanner_byteAt (xw yn_Scanner_byteAt bn_Scanner_byteAt 2 (some .int)) ({ frames := 0, cells := 0, slots := 0, locals := 0 }) (dc_P (dC, dI) xcl (xt cI cB cJ cZ cQ) [.ref ((a 102)), .int v1] sz (wC a v cI cB cJ cZ cQ s)) (xk_Qi (dC, dI) xcl (xt cI cB cJ cZ cQ) (fun (r : Int32) (_ : Unit) => r = y.1) (fun u : Unit => (wC a v cI cB cJ cZ cQ y.2)) (va_A (wC a v cI cB cJ cZ cQ s) sz)) 0 0 (va_A (wC a v cI cB cJ cZ cQ s) sz) := by
  refine dc_of (QA := xk_Qi (dC, dI) xcl (xt cI cB cJ cZ cQ) (fun (r : Int32) (_ : Unit) => r = y.1) (fun u : Unit => (wC a v cI cB cJ cZ cQ y.2))) (by decide) (Nat.le_of_ble_eq_true rfl) ?_
  intro p e s0 m below meth c hx hb hml hown hg hr hlocks hin hP hK hN A hA hD hT ls hl
  have hown : s0.vm.findClass rn_Scanner = some m.cls := hown
  obtain ⟨H, hH⟩ : ∃ z, z = s0.heap := ⟨_, rfl⟩
  rw [← hH] at hP
  have hS : va_S A s0.heap H [] := by rw [hH]; exact va_S.rf
  suffices kk : ∀ QQ : State → Prop, QQ = MQ below (xk_Qi (dC, dI) xcl (xt cI cB cJ cZ cQ) (fun (r : Int32) (_ : Unit) => r = y.1) (fun u : Unit => (wC a v cI cB cJ cZ cQ y.2)) A) [.ref ((a 102)), .int v1].toArray s0 0 0 A → dcC p l e ({ frames := 0, cells := 0, slots := 0, locals := 0 }) s0 m [.ref ((a 102)), .int v1].toArray below meth c QQ (dC, dI) A (wC a v cI cB cJ cZ cQ s) 0 2 [(0, .ref ((a 102))), (1, .int v1)] [] by
    have k9 := kk _ rfl H [] ls hP hD hS hl
    rw [hH] at k9; exact k9
  clear hP hD hS hl hH H ls
  intro QQ hQQ
  intro H locs ls hP hD hS hl
  unfold fn_Scanner_byteAt_Sc at hf
  refine lv_iload_n hx hb dn_Scanner_byteAt_0 rfl (lv_at hl 1 rfl) ?_
  refine lv_if_lt (tgt := 21) hx hb dn_Scanner_byteAt_1 (by decide) (fun h => ?_) (fun h => ?_)
  · have hf := (if_pos h).symm.trans hf
    refine lv_iconst (v := (-1)) hx hb dn_Scanner_byteAt_21 (by decide) ?_
    rw [hQQ, ← Option.some.inj hf]
    exact xk_iret (w1 := fun u : Unit => (wC a v cI cB cJ cZ cQ s)) () hx hb hr hlocks hK hS dn_Scanner_byteAt_22 hP hD rfl (Nat.le_refl _) (Nat.le_refl _)
  · have hf := (if_neg h).symm.trans hf
    refine lv_iload_n hx hb dn_Scanner_byteAt_4 rfl (lv_at hl 1 rfl) ?_
    refine lv_aload_n hx hb dn_Scanner_byteAt_5 rfl (lv_at hl 0 rfl) ?_
    refine va_get (D := (dC, dI)) (ci := 3) (v := .int ((s.1 222 0))) (C := rn_Scanner) (T := fn_Scanner) (N := 9) hx hb hg in_Scanner hown hK hP 2 rfl rfl 2 (by decide) (hg _ wn_1_91) (fun _ h9 => h9) rfl dn_Scanner_byteAt_6 ?_
    refine lv_icmp_ge (tgt := 21) hx hb dn_Scanner_byteAt_9 (by decide) (fun h => ?_) (fun h => ?_)
    · have hf := (if_pos h).symm.trans hf
      refine lv_iconst (v := (-1)) hx hb dn_Scanner_byteAt_21 (by decide) ?_
      rw [hQQ, ← Option.some.inj hf]
      exact xk_iret (w1 := fun u : Unit => (wC a v cI cB cJ cZ cQ s)) () hx hb hr hlocks hK hS dn_Scanner_byteAt_22 hP hD rfl (Nat.le_refl _) (Nat.le_refl _)
    · have hf := (if_neg h).symm.trans hf
      refine lv_aload_n hx hb dn_Scanner_byteAt_12 rfl (lv_at hl 0 rfl) ?_
      refine va_get (D := (dC, dI)) (ci := 3) (v := .ref ((a 307))) (C := rn_Scanner) (T := fn_Scanner) (N := 9) hx hb hg in_Scanner hown hK hP 2 rfl rfl 1 (by decide) (hg _ wn_1_90) (fun _ h9 => h9) (congrArg some hv_0) dn_Scanner_byteAt_13 ?_
      refine lv_iload_n hx hb dn_Scanner_byteAt_16 rfl (lv_at hl 1 rfl) ?_
      obtain ⟨hg_1, hf⟩ := dc_g hf
      refine va_bald hx hb hK hP 52 1 rfl rfl hg_1 dn_Scanner_byteAt_17 ?_
      refine xk_ti (y := ((s.1 307) (Int32.toNatClampNeg v1))) rfl ?_
      refine lv_goto (tgt := 22) hx hb dn_Scanner_byteAt_18 (by decide) ?_
      rw [hQQ, ← Option.some.inj hf]
      exact xk_iret (w1 := fun u : Unit => (wC a v cI cB cJ cZ cQ s)) () hx hb hr hlocks hK hS dn_Scanner_byteAt_22 hP hD rfl (Nat.le_refl _) (Nat.le_refl _)
set_option maxHeartbeats 8000000 in
set_option maxRecDepth 100000 in
theorem ct_Scanner_skipped_Sc (l : Launch) (dC : Nat → ClassId) (dI : Nat → Nat → Nat) (cI cB cJ cZ cQ : ClassId) (N sz : Nat) (a : Nat → Nat) (v : Nat → Value) (hv_0 : v 0 = .ref (a 307)) (v1 : Int32) (s : ms) (y : (Int32 × ms)) (hf : fn_Scanner_skipped_Sc N v1 s = some y) : Met l yn_Scanner_skipped (xw yn_Scanner_skipped bn_Scanner_skipped 4 (some .int)) ({ frames := 1, cells := 0, slots := 0, locals := 21 }) (dc_P (dC, dI) xcl (xt cI cB cJ cZ cQ) [.ref ((a 102)), .int v1] sz (wC a v cI cB cJ cZ cQ s)) (xk_Qi (dC, dI) xcl (xt cI cB cJ cZ cQ) (fun (r : Int32) (_ : Unit) => r = y.1) (fun u : Unit => (wC a v cI cB cJ cZ cQ y.2)) (va_A (wC a v cI cB cJ cZ cQ s) sz)) 0 0 (va_A (wC a v cI cB cJ cZ cQ s) sz) := by
  refine dc_of (QA := xk_Qi (dC, dI) xcl (xt cI cB cJ cZ cQ) (fun (r : Int32) (_ : Unit) => r = y.1) (fun u : Unit => (wC a v cI cB cJ cZ cQ y.2))) (by decide) (Nat.le_of_ble_eq_true rfl) ?_
  intro p e s0 m below meth c hx hb hml hown hg hr hlocks hin hP hK hN A hA hD hT ls hl
  have hown : s0.vm.findClass rn_Scanner = some m.cls := hown
  obtain ⟨H, hH⟩ : ∃ z, z = s0.heap := ⟨_, rfl⟩
  rw [← hH] at hP
  have hS : va_S A s0.heap H [] := by rw [hH]; exact va_S.rf
  suffices kk : ∀ QQ : State → Prop, QQ = MQ below (xk_Qi (dC, dI) xcl (xt cI cB cJ cZ cQ) (fun (r : Int32) (_ : Unit) => r = y.1) (fun u : Unit => (wC a v cI cB cJ cZ cQ y.2)) A) [.ref ((a 102)), .int v1].toArray s0 0 0 A → dcC p l e ({ frames := 1, cells := 0, slots := 0, locals := 21 }) s0 m [.ref ((a 102)), .int v1].toArray below meth c QQ (dC, dI) A (wC a v cI cB cJ cZ cQ s) 0 4 [(0, .ref ((a 102))), (1, .int v1)] [] by
    have k9 := kk _ rfl H [] ls hP hD hS hl
    rw [hH] at k9; exact k9
  clear hP hD hS hl hH H ls
  intro QQ hQQ
  have hd_103 : ∀ (n : Nat) (x3 : Int32) (s : ms), hd_Scanner_skipped_Sc_103 N n x3 s = some y → dcC p l e ({ frames := 1, cells := 0, slots := 0, locals := 21 }) s0 m [.ref ((a 102)), .int v1].toArray below meth c QQ (dC, dI) A (wC a v cI cB cJ cZ cQ s) 103 4 [(0, .ref ((a 102))), (3, .int x3)] [] := by
    intro n
    induction n with
    | zero => intro x3 s hf; cases hf
    | succ n ih =>
      intro x3 s hf H locs ls hP hD hS hl
      have hf : bd_Scanner_skipped_Sc_103 N (hd_Scanner_skipped_Sc_103 N n) x3 s = some y := hf
      have hk_103 := ih
      generalize hd_Scanner_skipped_Sc_103 N n = k_103 at hf hk_103
      unfold bd_Scanner_skipped_Sc_103 at hf
      refine lv_iload_n hx hb dn_Scanner_skipped_103 rfl (lv_at hl 1 rfl) ?_
      refine lv_iconst (v := 1) hx hb dn_Scanner_skipped_104 (by decide) ?_
      refine lv_iadd hx hb dn_Scanner_skipped_105 ?_
      refine lv_aload_n hx hb dn_Scanner_skipped_106 rfl (lv_at hl 0 rfl) ?_
      refine va_get (D := (dC, dI)) (ci := 3) (v := .int ((s.1 222 0))) (C := rn_Scanner) (T := fn_Scanner) (N := 9) hx hb hg in_Scanner hown hK hP 2 rfl rfl 2 (by decide) (hg _ wn_1_91) (fun _ h9 => h9) rfl dn_Scanner_skipped_107 ?_
      refine lv_icmp_ge (tgt := 147) hx hb dn_Scanner_skipped_110 (by decide) (fun h => ?_) (fun h => ?_)
      · have hf := (if_pos h).symm.trans hf
        refine lv_iconst (v := (-1)) hx hb dn_Scanner_skipped_147 (by decide) ?_
        rw [hQQ, ← Option.some.inj hf]
        exact xk_iret (w1 := fun u : Unit => (wC a v cI cB cJ cZ cQ s)) () hx hb hr hlocks hK hS dn_Scanner_skipped_148 hP hD rfl (Nat.le_refl _) (Nat.le_refl _)
      · have hf := (if_neg h).symm.trans hf
        refine lv_aload_n hx hb dn_Scanner_skipped_113 rfl (lv_at hl 0 rfl) ?_
        refine va_get (D := (dC, dI)) (ci := 3) (v := .ref ((a 307))) (C := rn_Scanner) (T := fn_Scanner) (N := 9) hx hb hg in_Scanner hown hK hP 2 rfl rfl 1 (by decide) (hg _ wn_1_90) (fun _ h9 => h9) (congrArg some hv_0) dn_Scanner_skipped_114 ?_
        refine lv_iload_n hx hb dn_Scanner_skipped_117 rfl (lv_at hl 1 rfl) ?_
        obtain ⟨hg_1, hf⟩ := dc_g hf
        refine va_bald hx hb hK hP 52 1 rfl rfl hg_1 dn_Scanner_skipped_118 ?_
        refine xk_ti (y := ((s.1 307) (Int32.toNatClampNeg x3))) rfl ?_
        refine lv_bipush (v := 42) hx hb dn_Scanner_skipped_119 (by decide) ?_
        refine lv_icmp_ne (tgt := 141) hx hb dn_Scanner_skipped_121 (by decide) (fun h => ?_) (fun h => ?_)
        · have hf := (if_neg h).symm.trans hf
          refine lv_iinc (v := (x3 + 1)) (lv' := [(3, .int ((x3 + 1))), (0, .ref ((a 102)))]) hx hb dn_Scanner_skipped_141 hl (k := 1) rfl (dc_inc (by decide)) (by decide) rfl (fun ls hl => ?_)
          refine lv_goto (tgt := 103) hx hb dn_Scanner_skipped_144 (by decide) ?_
          exact hk_103 ((x3 + 1)) s hf H locs ls hP hD hS (lv_sub hl [1, 0] rfl)
        · have hf := (if_pos h).symm.trans hf
          refine lv_aload_n hx hb dn_Scanner_skipped_124 rfl (lv_at hl 0 rfl) ?_
          refine va_get (D := (dC, dI)) (ci := 3) (v := .ref ((a 307))) (C := rn_Scanner) (T := fn_Scanner) (N := 9) hx hb hg in_Scanner hown hK hP 2 rfl rfl 1 (by decide) (hg _ wn_1_90) (fun _ h9 => h9) (congrArg some hv_0) dn_Scanner_skipped_125 ?_
          refine lv_iload_n hx hb dn_Scanner_skipped_128 rfl (lv_at hl 1 rfl) ?_
          refine lv_iconst (v := 1) hx hb dn_Scanner_skipped_129 (by decide) ?_
          refine lv_iadd hx hb dn_Scanner_skipped_130 ?_
          obtain ⟨hg_2, hf⟩ := dc_g hf
          refine va_bald hx hb hK hP 52 1 rfl rfl hg_2 dn_Scanner_skipped_131 ?_
          refine xk_ti (y := ((s.1 307) (Int32.toNatClampNeg ((x3 + 1))))) rfl ?_
          refine lv_bipush (v := 47) hx hb dn_Scanner_skipped_132 (by decide) ?_
          refine lv_icmp_ne (tgt := 141) hx hb dn_Scanner_skipped_134 (by decide) (fun h => ?_) (fun h => ?_)
          · have hf := (if_neg h).symm.trans hf
            refine lv_iinc (v := (x3 + 1)) (lv' := [(3, .int ((x3 + 1))), (0, .ref ((a 102)))]) hx hb dn_Scanner_skipped_141 hl (k := 1) rfl (dc_inc (by decide)) (by decide) rfl (fun ls hl => ?_)
            refine lv_goto (tgt := 103) hx hb dn_Scanner_skipped_144 (by decide) ?_
            exact hk_103 ((x3 + 1)) s hf H locs ls hP hD hS (lv_sub hl [1, 0] rfl)
          · have hf := (if_pos h).symm.trans hf
            refine lv_iload_n hx hb dn_Scanner_skipped_137 rfl (lv_at hl 1 rfl) ?_
            refine lv_iconst (v := 2) hx hb dn_Scanner_skipped_138 (by decide) ?_
            refine lv_iadd hx hb dn_Scanner_skipped_139 ?_
            rw [hQQ, ← Option.some.inj hf]
            exact xk_iret (w1 := fun u : Unit => (wC a v cI cB cJ cZ cQ s)) () hx hb hr hlocks hK hS dn_Scanner_skipped_140 hP hD rfl (Nat.le_refl _) (Nat.le_refl _)
  have hd_58 : ∀ (n : Nat) (x3 : Int32) (s : ms), hd_Scanner_skipped_Sc_58 N n x3 s = some y → dcC p l e ({ frames := 1, cells := 0, slots := 0, locals := 21 }) s0 m [.ref ((a 102)), .int v1].toArray below meth c QQ (dC, dI) A (wC a v cI cB cJ cZ cQ s) 58 4 [(0, .ref ((a 102))), (3, .int x3)] [] := by
    intro n
    induction n with
    | zero => intro x3 s hf; cases hf
    | succ n ih =>
      intro x3 s hf H locs ls hP hD hS hl
      have hf : bd_Scanner_skipped_Sc_58 N (hd_Scanner_skipped_Sc_58 N n) x3 s = some y := hf
      have hk_58 := ih
      generalize hd_Scanner_skipped_Sc_58 N n = k_58 at hf hk_58
      unfold bd_Scanner_skipped_Sc_58 at hf
      refine lv_iload_n hx hb dn_Scanner_skipped_58 rfl (lv_at hl 1 rfl) ?_
      refine lv_aload_n hx hb dn_Scanner_skipped_59 rfl (lv_at hl 0 rfl) ?_
      refine va_get (D := (dC, dI)) (ci := 3) (v := .int ((s.1 222 0))) (C := rn_Scanner) (T := fn_Scanner) (N := 9) hx hb hg in_Scanner hown hK hP 2 rfl rfl 2 (by decide) (hg _ wn_1_91) (fun _ h9 => h9) rfl dn_Scanner_skipped_60 ?_
      refine lv_icmp_ge (tgt := 83) hx hb dn_Scanner_skipped_63 (by decide) (fun h => ?_) (fun h => ?_)
      · have hf := (if_pos h).symm.trans hf
        refine lv_iload_n hx hb dn_Scanner_skipped_83 rfl (lv_at hl 1 rfl) ?_
        rw [hQQ, ← Option.some.inj hf]
        exact xk_iret (w1 := fun u : Unit => (wC a v cI cB cJ cZ cQ s)) () hx hb hr hlocks hK hS dn_Scanner_skipped_84 hP hD rfl (Nat.le_refl _) (Nat.le_refl _)
      · have hf := (if_neg h).symm.trans hf
        refine lv_aload_n hx hb dn_Scanner_skipped_66 rfl (lv_at hl 0 rfl) ?_
        refine va_get (D := (dC, dI)) (ci := 3) (v := .ref ((a 307))) (C := rn_Scanner) (T := fn_Scanner) (N := 9) hx hb hg in_Scanner hown hK hP 2 rfl rfl 1 (by decide) (hg _ wn_1_90) (fun _ h9 => h9) (congrArg some hv_0) dn_Scanner_skipped_67 ?_
        refine lv_iload_n hx hb dn_Scanner_skipped_70 rfl (lv_at hl 1 rfl) ?_
        obtain ⟨hg_1, hf⟩ := dc_g hf
        refine va_bald hx hb hK hP 52 1 rfl rfl hg_1 dn_Scanner_skipped_71 ?_
        refine xk_ti (y := ((s.1 307) (Int32.toNatClampNeg x3))) rfl ?_
        refine lv_bipush (v := 10) hx hb dn_Scanner_skipped_72 (by decide) ?_
        refine lv_icmp_eq (tgt := 83) hx hb dn_Scanner_skipped_74 (by decide) (fun h => ?_) (fun h => ?_)
        · have hf := (if_pos h).symm.trans hf
          refine lv_iload_n hx hb dn_Scanner_skipped_83 rfl (lv_at hl 1 rfl) ?_
          rw [hQQ, ← Option.some.inj hf]
          exact xk_iret (w1 := fun u : Unit => (wC a v cI cB cJ cZ cQ s)) () hx hb hr hlocks hK hS dn_Scanner_skipped_84 hP hD rfl (Nat.le_refl _) (Nat.le_refl _)
        · have hf := (if_neg h).symm.trans hf
          refine lv_iinc (v := (x3 + 1)) (lv' := [(3, .int ((x3 + 1))), (0, .ref ((a 102)))]) hx hb dn_Scanner_skipped_77 hl (k := 1) rfl (dc_inc (by decide)) (by decide) rfl (fun ls hl => ?_)
          refine lv_goto (tgt := 58) hx hb dn_Scanner_skipped_80 (by decide) ?_
          exact hk_58 ((x3 + 1)) s hf H locs ls hP hD hS (lv_sub hl [1, 0] rfl)
  intro H locs ls hP hD hS hl
  unfold fn_Scanner_skipped_Sc at hf
  refine lv_aload_n hx hb dn_Scanner_skipped_0 rfl (lv_at hl 0 rfl) ?_
  refine lv_iload_n hx hb dn_Scanner_skipped_1 rfl (lv_at hl 1 rfl) ?_
  obtain ⟨q_1, hc_2, hf⟩ := dc_b hf
  refine dc_calli (dc_runV (ar := 1) (As := [.int v1]) (rest := []) (ci := 3) (q0 := 2) ⟨hx, hb, hml, hown, hg⟩ hK hN hT hS hA (ct_Scanner_byteAt_Sc l dC dI cI cB cJ cZ cQ N H.size a v hv_0 v1 s q_1 hc_2) hP hD rfl rfl wn_3_194 wn_3_196 sn_Scanner_byteAt wn_1_3 wn_3_197 rfl rfl (by decide +kernel) ⟨Nat.le_of_ble_eq_true rfl, Nat.le_of_ble_eq_true rfl⟩ rfl hl.1 rfl (Nat.le_of_ble_eq_true rfl) dn_Scanner_skipped_2 ⟨Nat.le_of_ble_eq_true rfl, Nat.le_of_ble_eq_true rfl⟩) hP hD hS hA (fun r_3 _ H locs hw hP hD hS => ?_)
  have hw : r_3 = q_1.1 := hw
  subst hw
  refine lv_istore_n (lv' := [(2, .int q_1.1), (0, .ref ((a 102))), (1, .int v1)]) hx hb dn_Scanner_skipped_5 rfl hl (by decide) rfl (fun ls hl => ?_)
  refine lv_iload_n hx hb dn_Scanner_skipped_6 rfl (lv_at hl 0 rfl) ?_
  refine lv_bipush (v := 9) hx hb dn_Scanner_skipped_7 (by decide) ?_
  refine lv_icmp_eq (tgt := 30) hx hb dn_Scanner_skipped_9 (by decide) (fun h => ?_) (fun h => ?_)
  · have hf := (if_pos h).symm.trans hf
    refine lv_iload_n hx hb dn_Scanner_skipped_30 rfl (lv_at hl 2 rfl) ?_
    refine lv_iconst (v := 1) hx hb dn_Scanner_skipped_31 (by decide) ?_
    refine lv_iadd hx hb dn_Scanner_skipped_32 ?_
    rw [hQQ, ← Option.some.inj hf]
    exact xk_iret (w1 := fun u : Unit => (wC a v cI cB cJ cZ cQ q_1.2)) () hx hb hr hlocks hK hS dn_Scanner_skipped_33 hP hD rfl (Nat.le_refl _) (Nat.le_refl _)
  · have hf := (if_neg h).symm.trans hf
    refine lv_iload_n hx hb dn_Scanner_skipped_12 rfl (lv_at hl 0 rfl) ?_
    refine lv_bipush (v := 10) hx hb dn_Scanner_skipped_13 (by decide) ?_
    refine lv_icmp_eq (tgt := 30) hx hb dn_Scanner_skipped_15 (by decide) (fun h => ?_) (fun h => ?_)
    · have hf := (if_pos h).symm.trans hf
      refine lv_iload_n hx hb dn_Scanner_skipped_30 rfl (lv_at hl 2 rfl) ?_
      refine lv_iconst (v := 1) hx hb dn_Scanner_skipped_31 (by decide) ?_
      refine lv_iadd hx hb dn_Scanner_skipped_32 ?_
      rw [hQQ, ← Option.some.inj hf]
      exact xk_iret (w1 := fun u : Unit => (wC a v cI cB cJ cZ cQ q_1.2)) () hx hb hr hlocks hK hS dn_Scanner_skipped_33 hP hD rfl (Nat.le_refl _) (Nat.le_refl _)
    · have hf := (if_neg h).symm.trans hf
      refine lv_iload_n hx hb dn_Scanner_skipped_18 rfl (lv_at hl 0 rfl) ?_
      refine lv_bipush (v := 13) hx hb dn_Scanner_skipped_19 (by decide) ?_
      refine lv_icmp_eq (tgt := 30) hx hb dn_Scanner_skipped_21 (by decide) (fun h => ?_) (fun h => ?_)
      · have hf := (if_pos h).symm.trans hf
        refine lv_iload_n hx hb dn_Scanner_skipped_30 rfl (lv_at hl 2 rfl) ?_
        refine lv_iconst (v := 1) hx hb dn_Scanner_skipped_31 (by decide) ?_
        refine lv_iadd hx hb dn_Scanner_skipped_32 ?_
        rw [hQQ, ← Option.some.inj hf]
        exact xk_iret (w1 := fun u : Unit => (wC a v cI cB cJ cZ cQ q_1.2)) () hx hb hr hlocks hK hS dn_Scanner_skipped_33 hP hD rfl (Nat.le_refl _) (Nat.le_refl _)
      · have hf := (if_neg h).symm.trans hf
        refine lv_iload_n hx hb dn_Scanner_skipped_24 rfl (lv_at hl 0 rfl) ?_
        refine lv_bipush (v := 32) hx hb dn_Scanner_skipped_25 (by decide) ?_
        refine lv_icmp_ne (tgt := 34) hx hb dn_Scanner_skipped_27 (by decide) (fun h => ?_) (fun h => ?_)
        · have hf := (if_neg h).symm.trans hf
          refine lv_iload_n hx hb dn_Scanner_skipped_34 rfl (lv_at hl 0 rfl) ?_
          refine lv_bipush (v := 47) hx hb dn_Scanner_skipped_35 (by decide) ?_
          refine lv_icmp_eq (tgt := 42) hx hb dn_Scanner_skipped_37 (by decide) (fun h => ?_) (fun h => ?_)
          · have hf := (if_pos h).symm.trans hf
            refine lv_aload_n hx hb dn_Scanner_skipped_42 rfl (lv_at hl 1 rfl) ?_
            refine lv_iload_n hx hb dn_Scanner_skipped_43 rfl (lv_at hl 2 rfl) ?_
            refine lv_iconst (v := 1) hx hb dn_Scanner_skipped_44 (by decide) ?_
            refine lv_iadd hx hb dn_Scanner_skipped_45 ?_
            obtain ⟨q_4, hc_5, hf⟩ := dc_b hf
            refine dc_calli (dc_runV (ar := 1) (As := [.int ((v1 + 1))]) (rest := []) (ci := 3) (q0 := 2) ⟨hx, hb, hml, hown, hg⟩ hK hN hT hS hA (ct_Scanner_byteAt_Sc l dC dI cI cB cJ cZ cQ N H.size a v hv_0 ((v1 + 1)) q_1.2 q_4 hc_5) hP hD rfl rfl wn_3_194 wn_3_196 sn_Scanner_byteAt wn_1_3 wn_3_197 rfl rfl (by decide +kernel) ⟨Nat.le_of_ble_eq_true rfl, Nat.le_of_ble_eq_true rfl⟩ rfl hl.1 rfl (Nat.le_of_ble_eq_true rfl) dn_Scanner_skipped_46 ⟨Nat.le_of_ble_eq_true rfl, Nat.le_of_ble_eq_true rfl⟩) hP hD hS hA (fun r_6 _ H locs hw hP hD hS => ?_)
            have hw : r_6 = q_4.1 := hw
            subst hw
            refine lv_bipush (v := 47) hx hb dn_Scanner_skipped_49 (by decide) ?_
            refine lv_icmp_ne (tgt := 85) hx hb dn_Scanner_skipped_51 (by decide) (fun h => ?_) (fun h => ?_)
            · have hf := (if_neg h).symm.trans hf
              refine lv_aload_n hx hb dn_Scanner_skipped_85 rfl (lv_at hl 1 rfl) ?_
              refine lv_iload_n hx hb dn_Scanner_skipped_86 rfl (lv_at hl 2 rfl) ?_
              refine lv_iconst (v := 1) hx hb dn_Scanner_skipped_87 (by decide) ?_
              refine lv_iadd hx hb dn_Scanner_skipped_88 ?_
              obtain ⟨q_7, hc_8, hf⟩ := dc_b hf
              refine dc_calli (dc_runV (ar := 1) (As := [.int ((v1 + 1))]) (rest := []) (ci := 3) (q0 := 2) ⟨hx, hb, hml, hown, hg⟩ hK hN hT hS hA (ct_Scanner_byteAt_Sc l dC dI cI cB cJ cZ cQ N H.size a v hv_0 ((v1 + 1)) q_4.2 q_7 hc_8) hP hD rfl rfl wn_3_194 wn_3_196 sn_Scanner_byteAt wn_1_3 wn_3_197 rfl rfl (by decide +kernel) ⟨Nat.le_of_ble_eq_true rfl, Nat.le_of_ble_eq_true rfl⟩ rfl hl.1 rfl (Nat.le_of_ble_eq_true rfl) dn_Scanner_skipped_89 ⟨Nat.le_of_ble_eq_true rfl, Nat.le_of_ble_eq_true rfl⟩) hP hD hS hA (fun r_9 _ H locs hw hP hD hS => ?_)
              have hw : r_9 = q_7.1 := hw
              subst hw
              refine lv_bipush (v := 42) hx hb dn_Scanner_skipped_92 (by decide) ?_
              refine lv_icmp_eq (tgt := 99) hx hb dn_Scanner_skipped_94 (by decide) (fun h => ?_) (fun h => ?_)
              · have hf := (if_pos h).symm.trans hf
                refine lv_iload_n hx hb dn_Scanner_skipped_99 rfl (lv_at hl 2 rfl) ?_
                refine lv_iconst (v := 2) hx hb dn_Scanner_skipped_100 (by decide) ?_
                refine lv_iadd hx hb dn_Scanner_skipped_101 ?_
                refine lv_istore_n (lv' := [(3, .int ((v1 + 2))), (2, .int q_1.1), (0, .ref ((a 102))), (1, .int v1)]) hx hb dn_Scanner_skipped_102 rfl hl (by decide) rfl (fun ls hl => ?_)
                exact hd_103 N ((v1 + 2)) q_7.2 hf H locs ls hP hD hS (lv_sub hl [2, 0] rfl)
              · have hf := (if_neg h).symm.trans hf
                refine lv_iload_n hx hb dn_Scanner_skipped_97 rfl (lv_at hl 2 rfl) ?_
                rw [hQQ, ← Option.some.inj hf]
                exact xk_iret (w1 := fun u : Unit => (wC a v cI cB cJ cZ cQ q_7.2)) () hx hb hr hlocks hK hS dn_Scanner_skipped_98 hP hD rfl (Nat.le_refl _) (Nat.le_refl _)
            · have hf := (if_pos h).symm.trans hf
              refine lv_iload_n hx hb dn_Scanner_skipped_54 rfl (lv_at hl 2 rfl) ?_
              refine lv_iconst (v := 2) hx hb dn_Scanner_skipped_55 (by decide) ?_
              refine lv_iadd hx hb dn_Scanner_skipped_56 ?_
              refine lv_istore_n (lv' := [(3, .int ((v1 + 2))), (2, .int q_1.1), (0, .ref ((a 102))), (1, .int v1)]) hx hb dn_Scanner_skipped_57 rfl hl (by decide) rfl (fun ls hl => ?_)
              exact hd_58 N ((v1 + 2)) q_4.2 hf H locs ls hP hD hS (lv_sub hl [2, 0] rfl)
          · have hf := (if_neg h).symm.trans hf
            refine lv_iload_n hx hb dn_Scanner_skipped_40 rfl (lv_at hl 2 rfl) ?_
            rw [hQQ, ← Option.some.inj hf]
            exact xk_iret (w1 := fun u : Unit => (wC a v cI cB cJ cZ cQ q_1.2)) () hx hb hr hlocks hK hS dn_Scanner_skipped_41 hP hD rfl (Nat.le_refl _) (Nat.le_refl _)
        · have hf := (if_pos h).symm.trans hf
          refine lv_iload_n hx hb dn_Scanner_skipped_30 rfl (lv_at hl 2 rfl) ?_
          refine lv_iconst (v := 1) hx hb dn_Scanner_skipped_31 (by decide) ?_
          refine lv_iadd hx hb dn_Scanner_skipped_32 ?_
          rw [hQQ, ← Option.some.inj hf]
          exact xk_iret (w1 := fun u : Unit => (wC a v cI cB cJ cZ cQ q_1.2)) () hx hb hr hlocks hK hS dn_Scanner_skipped_33 hP hD rfl (Nat.le_refl _) (Nat.le_refl _)
set_option maxHeartbeats 8000000 in
set_option maxRecDepth 100000 in
theorem ct_C_beginsWord (l : Launch) (dC : Nat → ClassId) (dI : Nat → Nat → Nat) (cI cB cJ cZ cQ : ClassId) (N sz : Nat) (a : Nat → Nat) (v : Nat → Value) (v0 : Int32) (s : ms) (y : (Int32 × ms)) (hf : fn_C_beginsWord N v0 s = some y) : Met l yn_C_beginsWord (xw yn_C_beginsWord bn_C_beginsWord 1 (some .boolean)) ({ frames := 0, cells := 0, slots := 0, locals := 0 }) (dc_P (dC, dI) xcl (xt cI cB cJ cZ cQ) [.int v0] sz (wC a v cI cB cJ cZ cQ s)) (xk_Qi (dC, dI) xcl (xt cI cB cJ cZ cQ) (fun (r : Int32) (_ : Unit) => r = y.1) (fun u : Unit => (wC a v cI cB cJ cZ cQ y.2)) (va_A (wC a v cI cB cJ cZ cQ s) sz)) 0 0 (va_A (wC a v cI cB cJ cZ cQ s) sz) := by
  refine dc_of (QA := xk_Qi (dC, dI) xcl (xt cI cB cJ cZ cQ) (fun (r : Int32) (_ : Unit) => r = y.1) (fun u : Unit => (wC a v cI cB cJ cZ cQ y.2))) (by decide) (Nat.le_of_ble_eq_true rfl) ?_
  intro p e s0 m below meth c hx hb hml hown hg hr hlocks hin hP hK hN A hA hD hT ls hl
  have hown : s0.vm.findClass rn_C = some m.cls := hown
  obtain ⟨H, hH⟩ : ∃ z, z = s0.heap := ⟨_, rfl⟩
  rw [← hH] at hP
  have hS : va_S A s0.heap H [] := by rw [hH]; exact va_S.rf
  suffices kk : ∀ QQ : State → Prop, QQ = MQ below (xk_Qi (dC, dI) xcl (xt cI cB cJ cZ cQ) (fun (r : Int32) (_ : Unit) => r = y.1) (fun u : Unit => (wC a v cI cB cJ cZ cQ y.2)) A) [.int v0].toArray s0 0 0 A → dcC p l e ({ frames := 0, cells := 0, slots := 0, locals := 0 }) s0 m [.int v0].toArray below meth c QQ (dC, dI) A (wC a v cI cB cJ cZ cQ s) 0 1 [(0, .int v0)] [] by
    have k9 := kk _ rfl H [] ls hP hD hS hl
    rw [hH] at k9; exact k9
  clear hP hD hS hl hH H ls
  intro QQ hQQ
  have bl_24 : ∀ (x0 : Int32) (s : ms), bk_C_beginsWord_24 N x0 s = some y → dcC p l e ({ frames := 0, cells := 0, slots := 0, locals := 0 }) s0 m [.int v0].toArray below meth c QQ (dC, dI) A (wC a v cI cB cJ cZ cQ s) 24 1 [(0, .int x0)] [] := by
    intro x0 s hf H locs ls hP hD hS hl
    unfold bk_C_beginsWord_24 at hf
    refine lv_iload_n hx hb dn_C_beginsWord_24 rfl (lv_at hl 0 rfl) ?_
    refine lv_bipush (v := 95) hx hb dn_C_beginsWord_25 (by decide) ?_
    refine lv_icmp_ne (tgt := 34) hx hb dn_C_beginsWord_27 (by decide) (fun h => ?_) (fun h => ?_)
    · have hf := (if_neg h).symm.trans hf
      refine lv_iconst (v := 0) hx hb dn_C_beginsWord_34 (by decide) ?_
      rw [hQQ, ← Option.some.inj hf]
      exact xk_zret (w1 := fun u : Unit => (wC a v cI cB cJ cZ cQ s)) () hx hb hr rfl hlocks hK hS dn_C_beginsWord_35 hP hD rfl (Nat.le_refl _) (Nat.le_refl _)
    · have hf := (if_pos h).symm.trans hf
      refine lv_iconst (v := 1) hx hb dn_C_beginsWord_30 (by decide) ?_
      refine lv_goto (tgt := 35) hx hb dn_C_beginsWord_31 (by decide) ?_
      rw [hQQ, ← Option.some.inj hf]
      exact xk_zret (w1 := fun u : Unit => (wC a v cI cB cJ cZ cQ s)) () hx hb hr rfl hlocks hK hS dn_C_beginsWord_35 hP hD rfl (Nat.le_refl _) (Nat.le_refl _)
  have bl_12 : ∀ (x0 : Int32) (s : ms), bk_C_beginsWord_12 N x0 s = some y → dcC p l e ({ frames := 0, cells := 0, slots := 0, locals := 0 }) s0 m [.int v0].toArray below meth c QQ (dC, dI) A (wC a v cI cB cJ cZ cQ s) 12 1 [(0, .int x0)] [] := by
    intro x0 s hf H locs ls hP hD hS hl
    unfold bk_C_beginsWord_12 at hf
    refine lv_iload_n hx hb dn_C_beginsWord_12 rfl (lv_at hl 0 rfl) ?_
    refine lv_bipush (v := 65) hx hb dn_C_beginsWord_13 (by decide) ?_
    refine lv_icmp_lt (tgt := 24) hx hb dn_C_beginsWord_15 (by decide) (fun h => ?_) (fun h => ?_)
    · have hf := (if_pos h).symm.trans hf
      exact bl_24 x0 s hf H locs ls hP hD hS hl
    · have hf := (if_neg h).symm.trans hf
      refine lv_iload_n hx hb dn_C_beginsWord_18 rfl (lv_at hl 0 rfl) ?_
      refine lv_bipush (v := 90) hx hb dn_C_beginsWord_19 (by decide) ?_
      refine lv_icmp_le (tgt := 30) hx hb dn_C_beginsWord_21 (by decide) (fun h => ?_) (fun h => ?_)
      · have hf := (if_pos h).symm.trans hf
        refine lv_iconst (v := 1) hx hb dn_C_beginsWord_30 (by decide) ?_
        refine lv_goto (tgt := 35) hx hb dn_C_beginsWord_31 (by decide) ?_
        rw [hQQ, ← Option.some.inj hf]
        exact xk_zret (w1 := fun u : Unit => (wC a v cI cB cJ cZ cQ s)) () hx hb hr rfl hlocks hK hS dn_C_beginsWord_35 hP hD rfl (Nat.le_refl _) (Nat.le_refl _)
      · have hf := (if_neg h).symm.trans hf
        exact bl_24 x0 s hf H locs ls hP hD hS hl
  intro H locs ls hP hD hS hl
  unfold fn_C_beginsWord at hf
  refine lv_iload_n hx hb dn_C_beginsWord_0 rfl (lv_at hl 0 rfl) ?_
  refine lv_bipush (v := 97) hx hb dn_C_beginsWord_1 (by decide) ?_
  refine lv_icmp_lt (tgt := 12) hx hb dn_C_beginsWord_3 (by decide) (fun h => ?_) (fun h => ?_)
  · have hf := (if_pos h).symm.trans hf
    exact bl_12 v0 s hf H locs ls hP hD hS hl
  · have hf := (if_neg h).symm.trans hf
    refine lv_iload_n hx hb dn_C_beginsWord_6 rfl (lv_at hl 0 rfl) ?_
    refine lv_bipush (v := 122) hx hb dn_C_beginsWord_7 (by decide) ?_
    refine lv_icmp_le (tgt := 30) hx hb dn_C_beginsWord_9 (by decide) (fun h => ?_) (fun h => ?_)
    · have hf := (if_pos h).symm.trans hf
      refine lv_iconst (v := 1) hx hb dn_C_beginsWord_30 (by decide) ?_
      refine lv_goto (tgt := 35) hx hb dn_C_beginsWord_31 (by decide) ?_
      rw [hQQ, ← Option.some.inj hf]
      exact xk_zret (w1 := fun u : Unit => (wC a v cI cB cJ cZ cQ s)) () hx hb hr rfl hlocks hK hS dn_C_beginsWord_35 hP hD rfl (Nat.le_refl _) (Nat.le_refl _)
    · have hf := (if_neg h).symm.trans hf
      exact bl_12 v0 s hf H locs ls hP hD hS hl
set_option maxHeartbeats 8000000 in
set_option maxRecDepth 100000 in
theorem ct_C_isDigit (l : Launch) (dC : Nat → ClassId) (dI : Nat → Nat → Nat) (cI cB cJ cZ cQ : ClassId) (N sz : Nat) (a : Nat → Nat) (v : Nat → Value) (v0 : Int32) (s : ms) (y : (Int32 × ms)) (hf : fn_C_isDigit N v0 s = some y) : Met l yn_C_isDigit (xw yn_C_isDigit bn_C_isDigit 1 (some .boolean)) ({ frames := 0, cells := 0, slots := 0, locals := 0 }) (dc_P (dC, dI) xcl (xt cI cB cJ cZ cQ) [.int v0] sz (wC a v cI cB cJ cZ cQ s)) (xk_Qi (dC, dI) xcl (xt cI cB cJ cZ cQ) (fun (r : Int32) (_ : Unit) => r = y.1) (fun u : Unit => (wC a v cI cB cJ cZ cQ y.2)) (va_A (wC a v cI cB cJ cZ cQ s) sz)) 0 0 (va_A (wC a v cI cB cJ cZ cQ s) sz) := by
  refine dc_of (QA := xk_Qi (dC, dI) xcl (xt cI cB cJ cZ cQ) (fun (r : Int32) (_ : Unit) => r = y.1) (fun u : Unit => (wC a v cI cB cJ cZ cQ y.2))) (by decide) (Nat.le_of_ble_eq_true rfl) ?_
  intro p e s0 m below meth c hx hb hml hown hg hr hlocks hin hP hK hN A hA hD hT ls hl
  have hown : s0.vm.findClass rn_C = some m.cls := hown
  obtain ⟨H, hH⟩ : ∃ z, z = s0.heap := ⟨_, rfl⟩
  rw [← hH] at hP
  have hS : va_S A s0.heap H [] := by rw [hH]; exact va_S.rf
  suffices kk : ∀ QQ : State → Prop, QQ = MQ below (xk_Qi (dC, dI) xcl (xt cI cB cJ cZ cQ) (fun (r : Int32) (_ : Unit) => r = y.1) (fun u : Unit => (wC a v cI cB cJ cZ cQ y.2)) A) [.int v0].toArray s0 0 0 A → dcC p l e ({ frames := 0, cells := 0, slots := 0, locals := 0 }) s0 m [.int v0].toArray below meth c QQ (dC, dI) A (wC a v cI cB cJ cZ cQ s) 0 1 [(0, .int v0)] [] by
    have k9 := kk _ rfl H [] ls hP hD hS hl
    rw [hH] at k9; exact k9
  clear hP hD hS hl hH H ls
  intro QQ hQQ
  intro H locs ls hP hD hS hl
  unfold fn_C_isDigit at hf
  refine lv_iload_n hx hb dn_C_isDigit_0 rfl (lv_at hl 0 rfl) ?_
  refine lv_bipush (v := 48) hx hb dn_C_isDigit_1 (by decide) ?_
  refine lv_icmp_lt (tgt := 16) hx hb dn_C_isDigit_3 (by decide) (fun h => ?_) (fun h => ?_)
  · have hf := (if_pos h).symm.trans hf
    refine lv_iconst (v := 0) hx hb dn_C_isDigit_16 (by decide) ?_
    rw [hQQ, ← Option.some.inj hf]
    exact xk_zret (w1 := fun u : Unit => (wC a v cI cB cJ cZ cQ s)) () hx hb hr rfl hlocks hK hS dn_C_isDigit_17 hP hD rfl (Nat.le_refl _) (Nat.le_refl _)
  · have hf := (if_neg h).symm.trans hf
    refine lv_iload_n hx hb dn_C_isDigit_6 rfl (lv_at hl 0 rfl) ?_
    refine lv_bipush (v := 57) hx hb dn_C_isDigit_7 (by decide) ?_
    refine lv_icmp_gt (tgt := 16) hx hb dn_C_isDigit_9 (by decide) (fun h => ?_) (fun h => ?_)
    · have hf := (if_pos h).symm.trans hf
      refine lv_iconst (v := 0) hx hb dn_C_isDigit_16 (by decide) ?_
      rw [hQQ, ← Option.some.inj hf]
      exact xk_zret (w1 := fun u : Unit => (wC a v cI cB cJ cZ cQ s)) () hx hb hr rfl hlocks hK hS dn_C_isDigit_17 hP hD rfl (Nat.le_refl _) (Nat.le_refl _)
    · have hf := (if_neg h).symm.trans hf
      refine lv_iconst (v := 1) hx hb dn_C_isDigit_12 (by decide) ?_
      refine lv_goto (tgt := 17) hx hb dn_C_isDigit_13 (by decide) ?_
      rw [hQQ, ← Option.some.inj hf]
      exact xk_zret (w1 := fun u : Unit => (wC a v cI cB cJ cZ cQ s)) () hx hb hr rfl hlocks hK hS dn_C_isDigit_17 hP hD rfl (Nat.le_refl _) (Nat.le_refl _)
set_option maxHeartbeats 8000000 in
set_option maxRecDepth 100000 in
theorem ct_Scanner_pair (l : Launch) (dC : Nat → ClassId) (dI : Nat → Nat → Nat) (cI cB cJ cZ cQ : ClassId) (N sz : Nat) (a : Nat → Nat) (v : Nat → Value) (v0 : Int32) (v1 : Int32) (s : ms) (y : (Int32 × ms)) (hf : fn_Scanner_pair N v0 v1 s = some y) : Met l yn_Scanner_pair (xw yn_Scanner_pair bn_Scanner_pair 2 (some .int)) ({ frames := 0, cells := 0, slots := 0, locals := 0 }) (dc_P (dC, dI) xcl (xt cI cB cJ cZ cQ) [.int v0, .int v1] sz (wC a v cI cB cJ cZ cQ s)) (xk_Qi (dC, dI) xcl (xt cI cB cJ cZ cQ) (fun (r : Int32) (_ : Unit) => r = y.1) (fun u : Unit => (wC a v cI cB cJ cZ cQ y.2)) (va_A (wC a v cI cB cJ cZ cQ s) sz)) 0 0 (va_A (wC a v cI cB cJ cZ cQ s) sz) := by
  refine dc_of (QA := xk_Qi (dC, dI) xcl (xt cI cB cJ cZ cQ) (fun (r : Int32) (_ : Unit) => r = y.1) (fun u : Unit => (wC a v cI cB cJ cZ cQ y.2))) (by decide) (Nat.le_of_ble_eq_true rfl) ?_
  intro p e s0 m below meth c hx hb hml hown hg hr hlocks hin hP hK hN A hA hD hT ls hl
  have hown : s0.vm.findClass rn_Scanner = some m.cls := hown
  obtain ⟨H, hH⟩ : ∃ z, z = s0.heap := ⟨_, rfl⟩
  rw [← hH] at hP
  have hS : va_S A s0.heap H [] := by rw [hH]; exact va_S.rf
  suffices kk : ∀ QQ : State → Prop, QQ = MQ below (xk_Qi (dC, dI) xcl (xt cI cB cJ cZ cQ) (fun (r : Int32) (_ : Unit) => r = y.1) (fun u : Unit => (wC a v cI cB cJ cZ cQ y.2)) A) [.int v0, .int v1].toArray s0 0 0 A → dcC p l e ({ frames := 0, cells := 0, slots := 0, locals := 0 }) s0 m [.int v0, .int v1].toArray below meth c QQ (dC, dI) A (wC a v cI cB cJ cZ cQ s) 0 2 [(0, .int v0), (1, .int v1)] [] by
    have k9 := kk _ rfl H [] ls hP hD hS hl
    rw [hH] at k9; exact k9
  clear hP hD hS hl hH H ls
  intro QQ hQQ
  intro H locs ls hP hD hS hl
  unfold fn_Scanner_pair at hf
  refine lv_iload_n hx hb dn_Scanner_pair_0 rfl (lv_at hl 1 rfl) ?_
  refine lv_bipush (v := 61) hx hb dn_Scanner_pair_1 (by decide) ?_
  refine lv_icmp_ne (tgt := 62) hx hb dn_Scanner_pair_3 (by decide) (fun h => ?_) (fun h => ?_)
  · have hf := (if_neg h).symm.trans hf
    refine lv_iload_n hx hb dn_Scanner_pair_62 rfl (lv_at hl 0 rfl) ?_
    refine lv_iload_n hx hb dn_Scanner_pair_63 rfl (lv_at hl 1 rfl) ?_
    refine lv_icmp_eq (tgt := 69) hx hb dn_Scanner_pair_64 (by decide) (fun h => ?_) (fun h => ?_)
    · have hf := (if_pos h).symm.trans hf
      refine lv_iload_n hx hb dn_Scanner_pair_69 rfl (lv_at hl 0 rfl) ?_
      by_cases h_0 : v0 = 38
      · have hf := (if_pos h_0).symm.trans hf
        refine xk_ti (y := 38) h_0 ?_
        refine lv_lookup (off := 42) (tgt := 112) hx hb dn_Scanner_pair_70 (by decide) (by decide) (by decide) ?_
        refine lv_iconst (v := 5) hx hb dn_Scanner_pair_112 (by decide) ?_
        rw [hQQ, ← Option.some.inj hf]
        exact xk_iret (w1 := fun u : Unit => (wC a v cI cB cJ cZ cQ s)) () hx hb hr hlocks hK hS dn_Scanner_pair_113 hP hD rfl (Nat.le_refl _) (Nat.le_refl _)
      have hf := (if_neg h_0).symm.trans hf
      by_cases h_1 : v0 = 60
      · have hf := (if_pos h_1).symm.trans hf
        refine xk_ti (y := 60) h_1 ?_
        refine lv_lookup (off := 47) (tgt := 117) hx hb dn_Scanner_pair_70 (by decide) (by decide) (by decide) ?_
        refine lv_bipush (v := 11) hx hb dn_Scanner_pair_117 (by decide) ?_
        rw [hQQ, ← Option.some.inj hf]
        exact xk_iret (w1 := fun u : Unit => (wC a v cI cB cJ cZ cQ s)) () hx hb hr hlocks hK hS dn_Scanner_pair_119 hP hD rfl (Nat.le_refl _) (Nat.le_refl _)
      have hf := (if_neg h_1).symm.trans hf
      by_cases h_2 : v0 = 62
      · have hf := (if_pos h_2).symm.trans hf
        refine xk_ti (y := 62) h_2 ?_
        refine lv_lookup (off := 50) (tgt := 120) hx hb dn_Scanner_pair_70 (by decide) (by decide) (by decide) ?_
        refine lv_bipush (v := 12) hx hb dn_Scanner_pair_120 (by decide) ?_
        rw [hQQ, ← Option.some.inj hf]
        exact xk_iret (w1 := fun u : Unit => (wC a v cI cB cJ cZ cQ s)) () hx hb hr hlocks hK hS dn_Scanner_pair_122 hP hD rfl (Nat.le_refl _) (Nat.le_refl _)
      have hf := (if_neg h_2).symm.trans hf
      by_cases h_3 : v0 = 124
      · have hf := (if_pos h_3).symm.trans hf
        refine xk_ti (y := 124) h_3 ?_
        refine lv_lookup (off := 44) (tgt := 114) hx hb dn_Scanner_pair_70 (by decide) (by decide) (by decide) ?_
        refine lv_bipush (v := 6) hx hb dn_Scanner_pair_114 (by decide) ?_
        rw [hQQ, ← Option.some.inj hf]
        exact xk_iret (w1 := fun u : Unit => (wC a v cI cB cJ cZ cQ s)) () hx hb hr hlocks hK hS dn_Scanner_pair_116 hP hD rfl (Nat.le_refl _) (Nat.le_refl _)
      have hf := (if_neg h_3).symm.trans hf
      refine lv_lookup (off := 53) (tgt := 123) hx hb dn_Scanner_pair_70 (by decide) (by rw [lv_osw h_0 (by decide)]; rw [lv_osw h_1 (by decide)]; rw [lv_osw h_2 (by decide)]; rw [lv_osw h_3 (by decide)]; rfl) (by decide) ?_
      refine lv_iconst (v := (-1)) hx hb dn_Scanner_pair_123 (by decide) ?_
      rw [hQQ, ← Option.some.inj hf]
      exact xk_iret (w1 := fun u : Unit => (wC a v cI cB cJ cZ cQ s)) () hx hb hr hlocks hK hS dn_Scanner_pair_124 hP hD rfl (Nat.le_refl _) (Nat.le_refl _)
    · have hf := (if_neg h).symm.trans hf
      refine lv_iconst (v := (-1)) hx hb dn_Scanner_pair_67 (by decide) ?_
      rw [hQQ, ← Option.some.inj hf]
      exact xk_iret (w1 := fun u : Unit => (wC a v cI cB cJ cZ cQ s)) () hx hb hr hlocks hK hS dn_Scanner_pair_68 hP hD rfl (Nat.le_refl _) (Nat.le_refl _)
  · have hf := (if_pos h).symm.trans hf
    refine lv_iload_n hx hb dn_Scanner_pair_6 rfl (lv_at hl 0 rfl) ?_
    by_cases h_0 : v0 = 33
    · have hf := (if_pos h_0).symm.trans hf
      refine xk_ti (y := 33) h_0 ?_
      refine lv_lookup (off := 44) (tgt := 51) hx hb dn_Scanner_pair_7 (by decide) (by decide) (by decide) ?_
      refine lv_bipush (v := 8) hx hb dn_Scanner_pair_51 (by decide) ?_
      rw [hQQ, ← Option.some.inj hf]
      exact xk_iret (w1 := fun u : Unit => (wC a v cI cB cJ cZ cQ s)) () hx hb hr hlocks hK hS dn_Scanner_pair_53 hP hD rfl (Nat.le_refl _) (Nat.le_refl _)
    have hf := (if_neg h_0).symm.trans hf
    by_cases h_1 : v0 = 60
    · have hf := (if_pos h_1).symm.trans hf
      refine xk_ti (y := 60) h_1 ?_
      refine lv_lookup (off := 47) (tgt := 54) hx hb dn_Scanner_pair_7 (by decide) (by decide) (by decide) ?_
      refine lv_bipush (v := 9) hx hb dn_Scanner_pair_54 (by decide) ?_
      rw [hQQ, ← Option.some.inj hf]
      exact xk_iret (w1 := fun u : Unit => (wC a v cI cB cJ cZ cQ s)) () hx hb hr hlocks hK hS dn_Scanner_pair_56 hP hD rfl (Nat.le_refl _) (Nat.le_refl _)
    have hf := (if_neg h_1).symm.trans hf
    by_cases h_2 : v0 = 61
    · have hf := (if_pos h_2).symm.trans hf
      refine xk_ti (y := 61) h_2 ?_
      refine lv_lookup (off := 41) (tgt := 48) hx hb dn_Scanner_pair_7 (by decide) (by decide) (by decide) ?_
      refine lv_bipush (v := 7) hx hb dn_Scanner_pair_48 (by decide) ?_
      rw [hQQ, ← Option.some.inj hf]
      exact xk_iret (w1 := fun u : Unit => (wC a v cI cB cJ cZ cQ s)) () hx hb hr hlocks hK hS dn_Scanner_pair_50 hP hD rfl (Nat.le_refl _) (Nat.le_refl _)
    have hf := (if_neg h_2).symm.trans hf
    by_cases h_3 : v0 = 62
    · have hf := (if_pos h_3).symm.trans hf
      refine xk_ti (y := 62) h_3 ?_
      refine lv_lookup (off := 50) (tgt := 57) hx hb dn_Scanner_pair_7 (by decide) (by decide) (by decide) ?_
      refine lv_bipush (v := 10) hx hb dn_Scanner_pair_57 (by decide) ?_
      rw [hQQ, ← Option.some.inj hf]
      exact xk_iret (w1 := fun u : Unit => (wC a v cI cB cJ cZ cQ s)) () hx hb hr hlocks hK hS dn_Scanner_pair_59 hP hD rfl (Nat.le_refl _) (Nat.le_refl _)
    have hf := (if_neg h_3).symm.trans hf
    refine lv_lookup (off := 53) (tgt := 60) hx hb dn_Scanner_pair_7 (by decide) (by rw [lv_osw h_0 (by decide)]; rw [lv_osw h_1 (by decide)]; rw [lv_osw h_2 (by decide)]; rw [lv_osw h_3 (by decide)]; rfl) (by decide) ?_
    refine lv_iconst (v := (-1)) hx hb dn_Scanner_pair_60 (by decide) ?_
    rw [hQQ, ← Option.some.inj hf]
    exact xk_iret (w1 := fun u : Unit => (wC a v cI cB cJ cZ cQ s)) () hx hb hr hlocks hK hS dn_Scanner_pair_61 hP hD rfl (Nat.le_refl _) (Nat.le_refl _)
set_option maxHeartbeats 8000000 in
set_option maxRecDepth 100000 in
theorem ct_C_continuesWord (l : Launch) (dC : Nat → ClassId) (dI : Nat → Nat → Nat) (cI cB cJ cZ cQ : ClassId) (N sz : Nat) (a : Nat → Nat) (v : Nat → Value) (v0 : Int32) (s : ms) (y : (Int32 × ms)) (hf : fn_C_continuesWord N v0 s = some y) : Met l yn_C_continuesWord (xw yn_C_continuesWord bn_C_continuesWord 1 (some .boolean)) ({ frames := 1, cells := 0, slots := 0, locals := 20 }) (dc_P (dC, dI) xcl (xt cI cB cJ cZ cQ) [.int v0] sz (wC a v cI cB cJ cZ cQ s)) (xk_Qi (dC, dI) xcl (xt cI cB cJ cZ cQ) (fun (r : Int32) (_ : Unit) => r = y.1) (fun u : Unit => (wC a v cI cB cJ cZ cQ y.2)) (va_A (wC a v cI cB cJ cZ cQ s) sz)) 0 0 (va_A (wC a v cI cB cJ cZ cQ s) sz) := by
  refine dc_of (QA := xk_Qi (dC, dI) xcl (xt cI cB cJ cZ cQ) (fun (r : Int32) (_ : Unit) => r = y.1) (fun u : Unit => (wC a v cI cB cJ cZ cQ y.2))) (by decide) (Nat.le_of_ble_eq_true rfl) ?_
  intro p e s0 m below meth c hx hb hml hown hg hr hlocks hin hP hK hN A hA hD hT ls hl
  have hown : s0.vm.findClass rn_C = some m.cls := hown
  obtain ⟨H, hH⟩ : ∃ z, z = s0.heap := ⟨_, rfl⟩
  rw [← hH] at hP
  have hS : va_S A s0.heap H [] := by rw [hH]; exact va_S.rf
  suffices kk : ∀ QQ : State → Prop, QQ = MQ below (xk_Qi (dC, dI) xcl (xt cI cB cJ cZ cQ) (fun (r : Int32) (_ : Unit) => r = y.1) (fun u : Unit => (wC a v cI cB cJ cZ cQ y.2)) A) [.int v0].toArray s0 0 0 A → dcC p l e ({ frames := 1, cells := 0, slots := 0, locals := 20 }) s0 m [.int v0].toArray below meth c QQ (dC, dI) A (wC a v cI cB cJ cZ cQ s) 0 1 [(0, .int v0)] [] by
    have k9 := kk _ rfl H [] ls hP hD hS hl
    rw [hH] at k9; exact k9
  clear hP hD hS hl hH H ls
  intro QQ hQQ
  intro H locs ls hP hD hS hl
  unfold fn_C_continuesWord at hf
  refine lv_iload_n hx hb dn_C_continuesWord_0 rfl (lv_at hl 0 rfl) ?_
  obtain ⟨q_1, hc_2, hf⟩ := dc_b hf
  refine dc_calli (dc_runS (ar := 1) (As := [.int v0]) (rest := []) ⟨hx, hb, hml, hown, hg⟩ hK hN hT hS hA (ct_C_beginsWord l dC dI cI cB cJ cZ cQ N H.size a v v0 s q_1 hc_2) hP hD wn_3_212 wn_3_203 wn_1_1 wn_3_204 rfl rfl (by decide +kernel) ⟨Nat.le_of_ble_eq_true rfl, Nat.le_of_ble_eq_true rfl⟩ rfl hl.1 rfl (Nat.le_of_ble_eq_true rfl) dn_C_continuesWord_1 ⟨Nat.le_of_ble_eq_true rfl, Nat.le_of_ble_eq_true rfl⟩) hP hD hS hA (fun r_3 _ H locs hw hP hD hS => ?_)
  have hw : r_3 = q_1.1 := hw
  subst hw
  refine lv_if_ne (tgt := 20) hx hb dn_C_continuesWord_4 (by decide) (fun h => ?_) (fun h => ?_)
  · have hf := (if_neg h).symm.trans hf
    refine lv_iconst (v := 1) hx hb dn_C_continuesWord_20 (by decide) ?_
    refine lv_goto (tgt := 25) hx hb dn_C_continuesWord_21 (by decide) ?_
    rw [hQQ, ← Option.some.inj hf]
    exact xk_zret (w1 := fun u : Unit => (wC a v cI cB cJ cZ cQ q_1.2)) () hx hb hr rfl hlocks hK hS dn_C_continuesWord_25 hP hD rfl (Nat.le_refl _) (Nat.le_refl _)
  · have hf := (if_pos h).symm.trans hf
    refine lv_iload_n hx hb dn_C_continuesWord_7 rfl (lv_at hl 0 rfl) ?_
    obtain ⟨q_4, hc_5, hf⟩ := dc_b hf
    refine dc_calli (dc_runS (ar := 1) (As := [.int v0]) (rest := []) ⟨hx, hb, hml, hown, hg⟩ hK hN hT hS hA (ct_C_isDigit l dC dI cI cB cJ cZ cQ N H.size a v v0 q_1.2 q_4 hc_5) hP hD wn_3_213 wn_3_214 wn_1_1 wn_3_215 rfl rfl (by decide +kernel) ⟨Nat.le_of_ble_eq_true rfl, Nat.le_of_ble_eq_true rfl⟩ rfl hl.1 rfl (Nat.le_of_ble_eq_true rfl) dn_C_continuesWord_8 ⟨Nat.le_of_ble_eq_true rfl, Nat.le_of_ble_eq_true rfl⟩) hP hD hS hA (fun r_6 _ H locs hw hP hD hS => ?_)
    have hw : r_6 = q_4.1 := hw
    subst hw
    refine lv_if_ne (tgt := 20) hx hb dn_C_continuesWord_11 (by decide) (fun h => ?_) (fun h => ?_)
    · have hf := (if_neg h).symm.trans hf
      refine lv_iconst (v := 1) hx hb dn_C_continuesWord_20 (by decide) ?_
      refine lv_goto (tgt := 25) hx hb dn_C_continuesWord_21 (by decide) ?_
      rw [hQQ, ← Option.some.inj hf]
      exact xk_zret (w1 := fun u : Unit => (wC a v cI cB cJ cZ cQ q_4.2)) () hx hb hr rfl hlocks hK hS dn_C_continuesWord_25 hP hD rfl (Nat.le_refl _) (Nat.le_refl _)
    · have hf := (if_pos h).symm.trans hf
      refine lv_iload_n hx hb dn_C_continuesWord_14 rfl (lv_at hl 0 rfl) ?_
      refine lv_bipush (v := 36) hx hb dn_C_continuesWord_15 (by decide) ?_
      refine lv_icmp_ne (tgt := 24) hx hb dn_C_continuesWord_17 (by decide) (fun h => ?_) (fun h => ?_)
      · have hf := (if_neg h).symm.trans hf
        refine lv_iconst (v := 0) hx hb dn_C_continuesWord_24 (by decide) ?_
        rw [hQQ, ← Option.some.inj hf]
        exact xk_zret (w1 := fun u : Unit => (wC a v cI cB cJ cZ cQ q_4.2)) () hx hb hr rfl hlocks hK hS dn_C_continuesWord_25 hP hD rfl (Nat.le_refl _) (Nat.le_refl _)
      · have hf := (if_pos h).symm.trans hf
        refine lv_iconst (v := 1) hx hb dn_C_continuesWord_20 (by decide) ?_
        refine lv_goto (tgt := 25) hx hb dn_C_continuesWord_21 (by decide) ?_
        rw [hQQ, ← Option.some.inj hf]
        exact xk_zret (w1 := fun u : Unit => (wC a v cI cB cJ cZ cQ q_4.2)) () hx hb hr rfl hlocks hK hS dn_C_continuesWord_25 hP hD rfl (Nat.le_refl _) (Nat.le_refl _)
set_option maxHeartbeats 8000000 in
set_option maxRecDepth 100000 in
theorem ct_Scanner_repeats_Sc (l : Launch) (dC : Nat → ClassId) (dI : Nat → Nat → Nat) (cI cB cJ cZ cQ : ClassId) (N sz : Nat) (a : Nat → Nat) (v : Nat → Value) (hv_0 : v 0 = .ref (a 307)) (v1 : Int32) (v2 : Int32) (v3 : Int32) (s : ms) (y : (Int32 × ms)) (hf : fn_Scanner_repeats_Sc N v1 v2 v3 s = some y) : Met l yn_Scanner_repeats (xw yn_Scanner_repeats bn_Scanner_repeats 5 (some .boolean)) ({ frames := 2, cells := 0, slots := 0, locals := 40 }) (dc_P (dC, dI) xcl (xt cI cB cJ cZ cQ) [.ref ((a 102)), .int v1, .int v2, .int v3] sz (wC a v cI cB cJ cZ cQ s)) (xk_Qi (dC, dI) xcl (xt cI cB cJ cZ cQ) (fun (r : Int32) (_ : Unit) => r = y.1) (fun u : Unit => (wC a v cI cB cJ cZ cQ y.2)) (va_A (wC a v cI cB cJ cZ cQ s) sz)) 0 0 (va_A (wC a v cI cB cJ cZ cQ s) sz) := by
  refine dc_of (QA := xk_Qi (dC, dI) xcl (xt cI cB cJ cZ cQ) (fun (r : Int32) (_ : Unit) => r = y.1) (fun u : Unit => (wC a v cI cB cJ cZ cQ y.2))) (by decide) (Nat.le_of_ble_eq_true rfl) ?_
  intro p e s0 m below meth c hx hb hml hown hg hr hlocks hin hP hK hN A hA hD hT ls hl
  have hown : s0.vm.findClass rn_Scanner = some m.cls := hown
  obtain ⟨H, hH⟩ : ∃ z, z = s0.heap := ⟨_, rfl⟩
  rw [← hH] at hP
  have hS : va_S A s0.heap H [] := by rw [hH]; exact va_S.rf
  suffices kk : ∀ QQ : State → Prop, QQ = MQ below (xk_Qi (dC, dI) xcl (xt cI cB cJ cZ cQ) (fun (r : Int32) (_ : Unit) => r = y.1) (fun u : Unit => (wC a v cI cB cJ cZ cQ y.2)) A) [.ref ((a 102)), .int v1, .int v2, .int v3].toArray s0 0 0 A → dcC p l e ({ frames := 2, cells := 0, slots := 0, locals := 40 }) s0 m [.ref ((a 102)), .int v1, .int v2, .int v3].toArray below meth c QQ (dC, dI) A (wC a v cI cB cJ cZ cQ s) 0 5 [(0, .ref ((a 102))), (1, .int v1), (2, .int v2), (3, .int v3)] [] by
    have k9 := kk _ rfl H [] ls hP hD hS hl
    rw [hH] at k9; exact k9
  clear hP hD hS hl hH H ls
  intro QQ hQQ
  have hd_3 : ∀ (n : Nat) (x1 : Int32) (x2 : Int32) (x3 : Int32) (x4 : Int32) (s : ms), hd_Scanner_repeats_Sc_3 N n x1 x2 x3 x4 s = some y → dcC p l e ({ frames := 2, cells := 0, slots := 0, locals := 40 }) s0 m [.ref ((a 102)), .int v1, .int v2, .int v3].toArray below meth c QQ (dC, dI) A (wC a v cI cB cJ cZ cQ s) 3 5 [(0, .ref ((a 102))), (1, .int x1), (2, .int x2), (3, .int x3), (4, .int x4)] [] := by
    intro n
    induction n with
    | zero => intro x1 x2 x3 x4 s hf; cases hf
    | succ n ih =>
      intro x1 x2 x3 x4 s hf H locs ls hP hD hS hl
      have hf : bd_Scanner_repeats_Sc_3 N (hd_Scanner_repeats_Sc_3 N n) x1 x2 x3 x4 s = some y := hf
      have hk_3 := ih
      generalize hd_Scanner_repeats_Sc_3 N n = k_3 at hf hk_3
      unfold bd_Scanner_repeats_Sc_3 at hf
      refine lv_iload hx hb dn_Scanner_repeats_3 (lv_at hl 4 rfl) ?_
      refine lv_iload_n hx hb dn_Scanner_repeats_5 rfl (lv_at hl 3 rfl) ?_
      refine lv_icmp_ge (tgt := 36) hx hb dn_Scanner_repeats_6 (by decide) (fun h => ?_) (fun h => ?_)
      · have hf := (if_pos h).symm.trans hf
        refine lv_aload_n hx hb dn_Scanner_repeats_36 rfl (lv_at hl 0 rfl) ?_
        refine lv_iload_n hx hb dn_Scanner_repeats_37 rfl (lv_at hl 1 rfl) ?_
        refine lv_iload_n hx hb dn_Scanner_repeats_38 rfl (lv_at hl 3 rfl) ?_
        refine lv_iadd hx hb dn_Scanner_repeats_39 ?_
        refine lv_iload_n hx hb dn_Scanner_repeats_40 rfl (lv_at hl 2 rfl) ?_
        refine lv_isub hx hb dn_Scanner_repeats_41 ?_
        obtain ⟨q_1, hc_2, hf⟩ := dc_b hf
        refine dc_calli (dc_runV (ar := 1) (As := [.int (((x1 + x3) - x2))]) (rest := []) (ci := 3) (q0 := 2) ⟨hx, hb, hml, hown, hg⟩ hK hN hT hS hA (ct_Scanner_byteAt_Sc l dC dI cI cB cJ cZ cQ N H.size a v hv_0 (((x1 + x3) - x2)) s q_1 hc_2) hP hD rfl rfl wn_3_194 wn_3_196 sn_Scanner_byteAt wn_1_3 wn_3_197 rfl rfl (by decide +kernel) ⟨Nat.le_of_ble_eq_true rfl, Nat.le_of_ble_eq_true rfl⟩ rfl hl.1 rfl (Nat.le_of_ble_eq_true rfl) dn_Scanner_repeats_42 ⟨Nat.le_of_ble_eq_true rfl, Nat.le_of_ble_eq_true rfl⟩) hP hD hS hA (fun r_3 _ H locs hw hP hD hS => ?_)
        have hw : r_3 = q_1.1 := hw
        subst hw
        obtain ⟨q_4, hc_5, hf⟩ := dc_b hf
        refine dc_calli (dc_runSN (ar := 1) (As := [.int q_1.1]) (rest := []) (host := "CircuitCycles") ⟨hx, hb, hml, hown, hg⟩ hK hN hT hS hA (ct_C_continuesWord l dC dI cI cB cJ cZ cQ N H.size a v q_1.1 q_1.2 q_4 hc_5) hP hD nl_Scanner_102 wn_3_210 wn_1_1 wn_3_211 rfl rfl (by decide +kernel) ⟨Nat.le_of_ble_eq_true rfl, Nat.le_of_ble_eq_true rfl⟩ rfl hl.1 rfl (Nat.le_of_ble_eq_true rfl) dn_Scanner_repeats_45 ⟨Nat.le_of_ble_eq_true rfl, Nat.le_of_ble_eq_true rfl⟩) hP hD hS hA (fun r_6 _ H locs hw hP hD hS => ?_)
        have hw : r_6 = q_4.1 := hw
        subst hw
        refine lv_if_ne (tgt := 55) hx hb dn_Scanner_repeats_48 (by decide) (fun h => ?_) (fun h => ?_)
        · have hf := (if_neg h).symm.trans hf
          refine lv_iconst (v := 0) hx hb dn_Scanner_repeats_55 (by decide) ?_
          rw [hQQ, ← Option.some.inj hf]
          exact xk_zret (w1 := fun u : Unit => (wC a v cI cB cJ cZ cQ q_4.2)) () hx hb hr rfl hlocks hK hS dn_Scanner_repeats_56 hP hD rfl (Nat.le_refl _) (Nat.le_refl _)
        · have hf := (if_pos h).symm.trans hf
          refine lv_iconst (v := 1) hx hb dn_Scanner_repeats_51 (by decide) ?_
          refine lv_goto (tgt := 56) hx hb dn_Scanner_repeats_52 (by decide) ?_
          rw [hQQ, ← Option.some.inj hf]
          exact xk_zret (w1 := fun u : Unit => (wC a v cI cB cJ cZ cQ q_4.2)) () hx hb hr rfl hlocks hK hS dn_Scanner_repeats_56 hP hD rfl (Nat.le_refl _) (Nat.le_refl _)
      · have hf := (if_neg h).symm.trans hf
        refine lv_aload_n hx hb dn_Scanner_repeats_9 rfl (lv_at hl 0 rfl) ?_
        refine lv_iload_n hx hb dn_Scanner_repeats_10 rfl (lv_at hl 1 rfl) ?_
        refine lv_iload hx hb dn_Scanner_repeats_11 (lv_at hl 4 rfl) ?_
        refine lv_iadd hx hb dn_Scanner_repeats_13 ?_
        refine lv_iload_n hx hb dn_Scanner_repeats_14 rfl (lv_at hl 2 rfl) ?_
        refine lv_isub hx hb dn_Scanner_repeats_15 ?_
        obtain ⟨q_1, hc_2, hf⟩ := dc_b hf
        refine dc_calli (dc_runV (ar := 1) (As := [.int (((x1 + x4) - x2))]) (rest := []) (ci := 3) (q0 := 2) ⟨hx, hb, hml, hown, hg⟩ hK hN hT hS hA (ct_Scanner_byteAt_Sc l dC dI cI cB cJ cZ cQ N H.size a v hv_0 (((x1 + x4) - x2)) s q_1 hc_2) hP hD rfl rfl wn_3_194 wn_3_196 sn_Scanner_byteAt wn_1_3 wn_3_197 rfl rfl (by decide +kernel) ⟨Nat.le_of_ble_eq_true rfl, Nat.le_of_ble_eq_true rfl⟩ rfl hl.1 rfl (Nat.le_of_ble_eq_true rfl) dn_Scanner_repeats_16 ⟨Nat.le_of_ble_eq_true rfl, Nat.le_of_ble_eq_true rfl⟩) hP hD hS hA (fun r_3 _ H locs hw hP hD hS => ?_)
        have hw : r_3 = q_1.1 := hw
        subst hw
        refine lv_aload_n hx hb dn_Scanner_repeats_19 rfl (lv_at hl 0 rfl) ?_
        refine lv_iload hx hb dn_Scanner_repeats_20 (lv_at hl 4 rfl) ?_
        obtain ⟨q_4, hc_5, hf⟩ := dc_b hf
        refine dc_calli (dc_runV (ar := 1) (As := [.int x4]) (rest := [.int q_1.1]) (ci := 3) (q0 := 2) ⟨hx, hb, hml, hown, hg⟩ hK hN hT hS hA (ct_Scanner_byteAt_Sc l dC dI cI cB cJ cZ cQ N H.size a v hv_0 x4 q_1.2 q_4 hc_5) hP hD rfl rfl wn_3_194 wn_3_196 sn_Scanner_byteAt wn_1_3 wn_3_197 rfl rfl (by decide +kernel) ⟨Nat.le_of_ble_eq_true rfl, Nat.le_of_ble_eq_true rfl⟩ rfl hl.1 rfl (Nat.le_of_ble_eq_true rfl) dn_Scanner_repeats_22 ⟨Nat.le_of_ble_eq_true rfl, Nat.le_of_ble_eq_true rfl⟩) hP hD hS hA (fun r_6 _ H locs hw hP hD hS => ?_)
        have hw : r_6 = q_4.1 := hw
        subst hw
        refine lv_icmp_eq (tgt := 30) hx hb dn_Scanner_repeats_25 (by decide) (fun h => ?_) (fun h => ?_)
        · have hf := (if_pos h).symm.trans hf
          refine lv_iinc (v := (x4 + 1)) (lv' := [(4, .int ((x4 + 1))), (0, .ref ((a 102))), (1, .int x1), (2, .int x2), (3, .int x3)]) hx hb dn_Scanner_repeats_30 hl (k := 4) rfl (dc_inc (by decide)) (by decide) rfl (fun ls hl => ?_)
          refine lv_goto (tgt := 3) hx hb dn_Scanner_repeats_33 (by decide) ?_
          exact hk_3 x1 x2 x3 ((x4 + 1)) q_4.2 hf H locs ls hP hD hS (lv_sub hl [1, 2, 3, 4, 0] rfl)
        · have hf := (if_neg h).symm.trans hf
          refine lv_iconst (v := 0) hx hb dn_Scanner_repeats_28 (by decide) ?_
          rw [hQQ, ← Option.some.inj hf]
          exact xk_zret (w1 := fun u : Unit => (wC a v cI cB cJ cZ cQ q_4.2)) () hx hb hr rfl hlocks hK hS dn_Scanner_repeats_29 hP hD rfl (Nat.le_refl _) (Nat.le_refl _)
  intro H locs ls hP hD hS hl
  unfold fn_Scanner_repeats_Sc at hf
  refine lv_iload_n hx hb dn_Scanner_repeats_0 rfl (lv_at hl 2 rfl) ?_
  refine lv_istore (lv' := [(4, .int v2), (0, .ref ((a 102))), (1, .int v1), (2, .int v2), (3, .int v3)]) hx hb dn_Scanner_repeats_1 hl (by decide) rfl (fun ls hl => ?_)
  exact hd_3 N v1 v2 v3 v2 s hf H locs ls hP hD hS (lv_sub hl [1, 2, 3, 4, 0] rfl)
set_option maxHeartbeats 8000000 in
set_option maxRecDepth 100000 in
theorem ct_Scanner_known_Sc (l : Launch) (dC : Nat → ClassId) (dI : Nat → Nat → Nat) (cI cB cJ cZ cQ : ClassId) (N sz : Nat) (a : Nat → Nat) (v : Nat → Value) (hv_0 : v 0 = .ref (a 307)) (v1 : Int32) (v2 : Int32) (v3 : Int32) (s : ms) (y : (Int32 × ms)) (hf : fn_Scanner_known_Sc N v1 v2 v3 s = some y) : Met l yn_Scanner_known (xw yn_Scanner_known bn_Scanner_known 6 (some .int)) ({ frames := 3, cells := 0, slots := 0, locals := 64 }) (dc_P (dC, dI) xcl (xt cI cB cJ cZ cQ) [.ref ((a 102)), .int v1, .int v2, .int v3] sz (wC a v cI cB cJ cZ cQ s)) (xk_Qi (dC, dI) xcl (xt cI cB cJ cZ cQ) (fun (r : Int32) (_ : Unit) => r = y.1) (fun u : Unit => (wC a v cI cB cJ cZ cQ y.2)) (va_A (wC a v cI cB cJ cZ cQ s) sz)) 0 0 (va_A (wC a v cI cB cJ cZ cQ s) sz) := by
  refine dc_of (QA := xk_Qi (dC, dI) xcl (xt cI cB cJ cZ cQ) (fun (r : Int32) (_ : Unit) => r = y.1) (fun u : Unit => (wC a v cI cB cJ cZ cQ y.2))) (by decide) (Nat.le_of_ble_eq_true rfl) ?_
  intro p e s0 m below meth c hx hb hml hown hg hr hlocks hin hP hK hN A hA hD hT ls hl
  have hown : s0.vm.findClass rn_Scanner = some m.cls := hown
  obtain ⟨H, hH⟩ : ∃ z, z = s0.heap := ⟨_, rfl⟩
  rw [← hH] at hP
  have hS : va_S A s0.heap H [] := by rw [hH]; exact va_S.rf
  suffices kk : ∀ QQ : State → Prop, QQ = MQ below (xk_Qi (dC, dI) xcl (xt cI cB cJ cZ cQ) (fun (r : Int32) (_ : Unit) => r = y.1) (fun u : Unit => (wC a v cI cB cJ cZ cQ y.2)) A) [.ref ((a 102)), .int v1, .int v2, .int v3].toArray s0 0 0 A → dcC p l e ({ frames := 3, cells := 0, slots := 0, locals := 64 }) s0 m [.ref ((a 102)), .int v1, .int v2, .int v3].toArray below meth c QQ (dC, dI) A (wC a v cI cB cJ cZ cQ s) 0 6 [(0, .ref ((a 102))), (1, .int v1), (2, .int v2), (3, .int v3)] [] by
    have k9 := kk _ rfl H [] ls hP hD hS hl
    rw [hH] at k9; exact k9
  clear hP hD hS hl hH H ls
  intro QQ hQQ
  have hd_11 : ∀ (n : Nat) (x2 : Int32) (x3 : Int32) (x4 : Int32) (x5 : Int32) (s : ms), hd_Scanner_known_Sc_11 N n x2 x3 x4 x5 s = some y → dcC p l e ({ frames := 3, cells := 0, slots := 0, locals := 64 }) s0 m [.ref ((a 102)), .int v1, .int v2, .int v3].toArray below meth c QQ (dC, dI) A (wC a v cI cB cJ cZ cQ s) 11 6 [(0, .ref ((a 102))), (2, .int x2), (3, .int x3), (4, .int x4), (5, .int x5)] [] := by
    intro n
    induction n with
    | zero => intro x2 x3 x4 x5 s hf; cases hf
    | succ n ih =>
      intro x2 x3 x4 x5 s hf H locs ls hP hD hS hl
      have hf : bd_Scanner_known_Sc_11 N (hd_Scanner_known_Sc_11 N n) x2 x3 x4 x5 s = some y := hf
      have hk_11 := ih
      generalize hd_Scanner_known_Sc_11 N n = k_11 at hf hk_11
      unfold bd_Scanner_known_Sc_11 at hf
      refine lv_iload hx hb dn_Scanner_known_11 (lv_at hl 4 rfl) ?_
      refine lv_aload_n hx hb dn_Scanner_known_13 rfl (lv_at hl 0 rfl) ?_
      refine va_get (D := (dC, dI)) (ci := 3) (v := .int ((s.1 228 0))) (C := rn_Scanner) (T := fn_Scanner) (N := 9) hx hb hg in_Scanner hown hK hP 2 rfl rfl 8 (by decide) (hg _ wn_1_97) (fun _ h9 => h9) rfl dn_Scanner_known_14 ?_
      refine lv_icmp_ge (tgt := 68) hx hb dn_Scanner_known_17 (by decide) (fun h => ?_) (fun h => ?_)
      · have hf := (if_pos h).symm.trans hf
        refine lv_iconst (v := (-1)) hx hb dn_Scanner_known_68 (by decide) ?_
        rw [hQQ, ← Option.some.inj hf]
        exact xk_iret (w1 := fun u : Unit => (wC a v cI cB cJ cZ cQ s)) () hx hb hr hlocks hK hS dn_Scanner_known_69 hP hD rfl (Nat.le_refl _) (Nat.le_refl _)
      · have hf := (if_neg h).symm.trans hf
        refine lv_iload hx hb dn_Scanner_known_20 (lv_at hl 3 rfl) ?_
        refine lv_if_lt (tgt := 68) hx hb dn_Scanner_known_22 (by decide) (fun h => ?_) (fun h => ?_)
        · have hf := (if_pos h).symm.trans hf
          refine lv_iconst (v := (-1)) hx hb dn_Scanner_known_68 (by decide) ?_
          rw [hQQ, ← Option.some.inj hf]
          exact xk_iret (w1 := fun u : Unit => (wC a v cI cB cJ cZ cQ s)) () hx hb hr hlocks hK hS dn_Scanner_known_69 hP hD rfl (Nat.le_refl _) (Nat.le_refl _)
        · have hf := (if_neg h).symm.trans hf
          refine lv_iload hx hb dn_Scanner_known_25 (lv_at hl 3 rfl) ?_
          refine lv_aload_n hx hb dn_Scanner_known_27 rfl (lv_at hl 0 rfl) ?_
          refine va_get (D := (dC, dI)) (ci := 3) (v := .int ((s.1 228 0))) (C := rn_Scanner) (T := fn_Scanner) (N := 9) hx hb hg in_Scanner hown hK hP 2 rfl rfl 8 (by decide) (hg _ wn_1_97) (fun _ h9 => h9) rfl dn_Scanner_known_28 ?_
          refine lv_icmp_ge (tgt := 68) hx hb dn_Scanner_known_31 (by decide) (fun h => ?_) (fun h => ?_)
          · have hf := (if_pos h).symm.trans hf
            refine lv_iconst (v := (-1)) hx hb dn_Scanner_known_68 (by decide) ?_
            rw [hQQ, ← Option.some.inj hf]
            exact xk_iret (w1 := fun u : Unit => (wC a v cI cB cJ cZ cQ s)) () hx hb hr hlocks hK hS dn_Scanner_known_69 hP hD rfl (Nat.le_refl _) (Nat.le_refl _)
          · have hf := (if_neg h).symm.trans hf
            refine lv_aload_n hx hb dn_Scanner_known_34 rfl (lv_at hl 0 rfl) ?_
            refine lv_aload_n hx hb dn_Scanner_known_35 rfl (lv_at hl 0 rfl) ?_
            refine va_get (D := (dC, dI)) (ci := 3) (v := .ref ((a 226))) (C := rn_Scanner) (T := fn_Scanner) (N := 9) hx hb hg in_Scanner hown hK hP 2 rfl rfl 6 (by decide) (hg _ wn_1_95) (fun _ h9 => h9) rfl dn_Scanner_known_36 ?_
            refine lv_iload hx hb dn_Scanner_known_39 (lv_at hl 3 rfl) ?_
            obtain ⟨hg_1, hf⟩ := dc_g hf
            refine va_iald hx hb hK hP 19 0 rfl rfl hg_1 dn_Scanner_known_41 ?_
            refine xk_ti (y := ((s.1 226) (Int32.toNatClampNeg x4))) rfl ?_
            refine lv_iload_n hx hb dn_Scanner_known_42 rfl (lv_at hl 1 rfl) ?_
            refine lv_iload_n hx hb dn_Scanner_known_43 rfl (lv_at hl 2 rfl) ?_
            obtain ⟨q_2, hc_3, hf⟩ := dc_b hf
            refine dc_calli (dc_runV (ar := 3) (As := [.int (((s.1 226) (Int32.toNatClampNeg x4))), .int x2, .int x3]) (rest := []) (ci := 3) (q0 := 2) ⟨hx, hb, hml, hown, hg⟩ hK hN hT hS hA (ct_Scanner_repeats_Sc l dC dI cI cB cJ cZ cQ N H.size a v hv_0 (((s.1 226) (Int32.toNatClampNeg x4))) x2 x3 s q_2 hc_3) hP hD rfl rfl wn_3_220 wn_3_222 sn_Scanner_repeats wn_1_3 wn_3_223 rfl rfl (by decide +kernel) ⟨Nat.le_of_ble_eq_true rfl, Nat.le_of_ble_eq_true rfl⟩ rfl hl.1 rfl (Nat.le_of_ble_eq_true rfl) dn_Scanner_known_44 ⟨Nat.le_of_ble_eq_true rfl, Nat.le_of_ble_eq_true rfl⟩) hP hD hS hA (fun r_4 _ H locs hw hP hD hS => ?_)
            have hw : r_4 = q_2.1 := hw
            subst hw
            refine lv_if_eq (tgt := 53) hx hb dn_Scanner_known_47 (by decide) (fun h => ?_) (fun h => ?_)
            · have hf := (if_pos h).symm.trans hf
              refine lv_aload_n hx hb dn_Scanner_known_53 rfl (lv_at hl 0 rfl) ?_
              refine va_get (D := (dC, dI)) (ci := 3) (v := .ref ((a 225))) (C := rn_Scanner) (T := fn_Scanner) (N := 9) hx hb hg in_Scanner hown hK hP 2 rfl rfl 5 (by decide) (hg _ wn_1_94) (fun _ h9 => h9) rfl dn_Scanner_known_54 ?_
              refine lv_iload hx hb dn_Scanner_known_57 (lv_at hl 3 rfl) ?_
              obtain ⟨hg_5, hf⟩ := dc_g hf
              refine va_iald hx hb hK hP 18 0 rfl rfl hg_5 dn_Scanner_known_59 ?_
              refine xk_ti (y := ((q_2.2.1 225) (Int32.toNatClampNeg x4))) rfl ?_
              refine lv_istore (lv' := [(4, .int (((q_2.2.1 225) (Int32.toNatClampNeg x4)))), (0, .ref ((a 102))), (2, .int x2), (3, .int x3), (5, .int x5)]) hx hb dn_Scanner_known_60 hl (by decide) rfl (fun ls hl => ?_)
              refine lv_iinc (v := (x5 + 1)) (lv' := [(5, .int ((x5 + 1))), (4, .int (((q_2.2.1 225) (Int32.toNatClampNeg x4)))), (0, .ref ((a 102))), (2, .int x2), (3, .int x3)]) hx hb dn_Scanner_known_62 hl (k := 4) rfl (dc_inc (by decide)) (by decide) rfl (fun ls hl => ?_)
              refine lv_goto (tgt := 11) hx hb dn_Scanner_known_65 (by decide) ?_
              exact hk_11 x2 x3 (((q_2.2.1 225) (Int32.toNatClampNeg x4))) ((x5 + 1)) q_2.2 hf H locs ls hP hD hS (lv_sub hl [2, 3, 4, 1, 0] rfl)
            · have hf := (if_neg h).symm.trans hf
              refine lv_iload hx hb dn_Scanner_known_50 (lv_at hl 3 rfl) ?_
              rw [hQQ, ← Option.some.inj hf]
              exact xk_iret (w1 := fun u : Unit => (wC a v cI cB cJ cZ cQ q_2.2)) () hx hb hr hlocks hK hS dn_Scanner_known_52 hP hD rfl (Nat.le_refl _) (Nat.le_refl _)
  intro H locs ls hP hD hS hl
  unfold fn_Scanner_known_Sc at hf
  refine lv_aload_n hx hb dn_Scanner_known_0 rfl (lv_at hl 0 rfl) ?_
  refine va_get (D := (dC, dI)) (ci := 3) (v := .ref ((a 224))) (C := rn_Scanner) (T := fn_Scanner) (N := 9) hx hb hg in_Scanner hown hK hP 2 rfl rfl 4 (by decide) (hg _ wn_1_93) (fun _ h9 => h9) rfl dn_Scanner_known_1 ?_
  refine lv_iload_n hx hb dn_Scanner_known_4 rfl (lv_at hl 1 rfl) ?_
  obtain ⟨hg_1, hf⟩ := dc_g hf
  refine va_iald hx hb hK hP 17 0 rfl rfl hg_1 dn_Scanner_known_5 ?_
  refine xk_ti (y := ((s.1 224) (Int32.toNatClampNeg v1))) rfl ?_
  refine lv_istore (lv' := [(4, .int (((s.1 224) (Int32.toNatClampNeg v1)))), (0, .ref ((a 102))), (1, .int v1), (2, .int v2), (3, .int v3)]) hx hb dn_Scanner_known_6 hl (by decide) rfl (fun ls hl => ?_)
  refine lv_iconst (v := 0) hx hb dn_Scanner_known_8 (by decide) ?_
  refine lv_istore (lv' := [(5, .int 0), (4, .int (((s.1 224) (Int32.toNatClampNeg v1)))), (0, .ref ((a 102))), (1, .int v1), (2, .int v2), (3, .int v3)]) hx hb dn_Scanner_known_9 hl (by decide) rfl (fun ls hl => ?_)
  exact hd_11 N v2 v3 (((s.1 224) (Int32.toNatClampNeg v1))) 0 s hf H locs ls hP hD hS (lv_sub hl [2, 4, 5, 1, 0] rfl)
set_option maxHeartbeats 8000000 in
set_option maxRecDepth 100000 in
theorem ct_Tokens_add_Tk (l : Launch) (dC : Nat → ClassId) (dI : Nat → Nat → Nat) (cI cB cJ cZ cQ : ClassId) (N sz : Nat) (a : Nat → Nat) (v : Nat → Value) (v1 : Int32) (v2 : Int32) (v3 : Int32) (s : ms) (y : (Unit × ms)) (hf : fn_Tokens_add_Tk N v1 v2 v3 s = some y) : Met l yn_Tokens_add (xw yn_Tokens_add bn_Tokens_add 4 none) ({ frames := 0, cells := 0, slots := 0, locals := 0 }) (dc_P (dC, dI) xcl (xt cI cB cJ cZ cQ) [.ref ((a 101)), .int v1, .int v2, .int v3] sz (wC a v cI cB cJ cZ cQ s)) (xk_Qv (dC, dI) xcl (xt cI cB cJ cZ cQ) (fun _ : Unit => True) (fun u : Unit => (wC a v cI cB cJ cZ cQ y.2)) (va_A (wC a v cI cB cJ cZ cQ s) sz)) 0 0 (va_A (wC a v cI cB cJ cZ cQ s) sz) := by
  refine dc_of (QA := xk_Qv (dC, dI) xcl (xt cI cB cJ cZ cQ) (fun _ : Unit => True) (fun u : Unit => (wC a v cI cB cJ cZ cQ y.2))) (by decide) (Nat.le_of_ble_eq_true rfl) ?_
  intro p e s0 m below meth c hx hb hml hown hg hr hlocks hin hP hK hN A hA hD hT ls hl
  have hown : s0.vm.findClass rn_Tokens = some m.cls := hown
  obtain ⟨H, hH⟩ : ∃ z, z = s0.heap := ⟨_, rfl⟩
  rw [← hH] at hP
  have hS : va_S A s0.heap H [] := by rw [hH]; exact va_S.rf
  suffices kk : ∀ QQ : State → Prop, QQ = MQ below (xk_Qv (dC, dI) xcl (xt cI cB cJ cZ cQ) (fun _ : Unit => True) (fun u : Unit => (wC a v cI cB cJ cZ cQ y.2)) A) [.ref ((a 101)), .int v1, .int v2, .int v3].toArray s0 0 0 A → dcC p l e ({ frames := 0, cells := 0, slots := 0, locals := 0 }) s0 m [.ref ((a 101)), .int v1, .int v2, .int v3].toArray below meth c QQ (dC, dI) A (wC a v cI cB cJ cZ cQ s) 0 4 [(0, .ref ((a 101))), (1, .int v1), (2, .int v2), (3, .int v3)] [] by
    have k9 := kk _ rfl H [] ls hP hD hS hl
    rw [hH] at k9; exact k9
  clear hP hD hS hl hH H ls
  intro QQ hQQ
  intro H locs ls hP hD hS hl
  unfold fn_Tokens_add_Tk at hf
  refine lv_aload_n hx hb dn_Tokens_add_0 rfl (lv_at hl 0 rfl) ?_
  refine va_get (D := (dC, dI)) (ci := 2) (v := .int ((s.1 212 0))) (C := rn_Tokens) (T := fn_Tokens) (N := 9) hx hb hg in_Tokens hown hK hP 1 rfl rfl 1 (by decide) (hg _ wn_1_46) (fun _ h9 => h9) rfl dn_Tokens_add_1 ?_
  refine lv_aload_n hx hb dn_Tokens_add_4 rfl (lv_at hl 0 rfl) ?_
  refine va_get (D := (dC, dI)) (ci := 2) (v := .ref ((a 211))) (C := rn_Tokens) (T := fn_Tokens) (N := 9) hx hb hg in_Tokens hown hK hP 1 rfl rfl 0 (by decide) (hg _ wn_1_45) (fun _ h9 => h9) rfl dn_Tokens_add_5 ?_
  refine va_alen (v := 65537) hx hb hK hP 16 2 rfl rfl rfl dn_Tokens_add_8 ?_
  refine lv_icmp_lt (tgt := 13) hx hb dn_Tokens_add_9 (by decide) (fun h => ?_) (fun h => ?_)
  · have hf := (if_pos h).symm.trans hf
    refine lv_aload_n hx hb dn_Tokens_add_13 rfl (lv_at hl 0 rfl) ?_
    refine va_get (D := (dC, dI)) (ci := 2) (v := .ref ((a 211))) (C := rn_Tokens) (T := fn_Tokens) (N := 9) hx hb hg in_Tokens hown hK hP 1 rfl rfl 0 (by decide) (hg _ wn_1_45) (fun _ h9 => h9) rfl dn_Tokens_add_14 ?_
    refine lv_aload_n hx hb dn_Tokens_add_17 rfl (lv_at hl 0 rfl) ?_
    refine va_get (D := (dC, dI)) (ci := 2) (v := .int ((s.1 212 0))) (C := rn_Tokens) (T := fn_Tokens) (N := 9) hx hb hg in_Tokens hown hK hP 1 rfl rfl 1 (by decide) (hg _ wn_1_46) (fun _ h9 => h9) rfl dn_Tokens_add_18 ?_
    refine lv_iload_n hx hb dn_Tokens_add_21 rfl (lv_at hl 1 rfl) ?_
    refine lv_i2l (v := Int32.toInt64 v1) hx hb dn_Tokens_add_22 rfl ?_
    refine lv_bipush (v := 40) hx hb dn_Tokens_add_23 (by decide) ?_
    refine lv_lshl (v := ((Int32.toInt64 v1) : Int64) <<< ((Int32.toInt64 40) &&& 63)) hx hb dn_Tokens_add_25 rfl ?_
    refine lv_iload_n hx hb dn_Tokens_add_26 rfl (lv_at hl 2 rfl) ?_
    refine lv_i2l (v := Int32.toInt64 v2) hx hb dn_Tokens_add_27 rfl ?_
    refine lv_bipush (v := 20) hx hb dn_Tokens_add_28 (by decide) ?_
    refine lv_lshl (v := ((Int32.toInt64 v2) : Int64) <<< ((Int32.toInt64 20) &&& 63)) hx hb dn_Tokens_add_30 rfl ?_
    refine lv_lor hx hb dn_Tokens_add_31 ?_
    refine lv_iload_n hx hb dn_Tokens_add_32 rfl (lv_at hl 3 rfl) ?_
    refine lv_iconst (v := 1) hx hb dn_Tokens_add_33 (by decide) ?_
    refine lv_iadd hx hb dn_Tokens_add_34 ?_
    refine lv_i2l (v := Int32.toInt64 ((v3 + 1))) hx hb dn_Tokens_add_35 rfl ?_
    refine lv_lor hx hb dn_Tokens_add_36 ?_
    obtain ⟨hg_1, hf⟩ := dc_g hf
    refine va_last hx hb hK hP hD hS 16 2 rfl rfl hg_1 dn_Tokens_add_37 (fun H locs hP hD hS => ?_)
    have hP : va_P (dC, dI) xcl ((wC a v cI cB cJ cZ cQ s).set 16 ((a 211), .inl (cJ, 65537, .inr (.inl (vp_updL (s.2 211) (Int32.toNatClampNeg ((s.1 212 0))) ((((((Int32.toInt64 v1) : Int64) <<< ((Int32.toInt64 40) &&& 63)) ||| (((Int32.toInt64 v2) : Int64) <<< ((Int32.toInt64 20) &&& 63))) ||| (Int32.toInt64 ((v3 + 1)))))))))) H := hP
    have hD : va_D A ((wC a v cI cB cJ cZ cQ s).set 16 ((a 211), .inl (cJ, 65537, .inr (.inl (vp_updL (s.2 211) (Int32.toNatClampNeg ((s.1 212 0))) ((((((Int32.toInt64 v1) : Int64) <<< ((Int32.toInt64 40) &&& 63)) ||| (((Int32.toInt64 v2) : Int64) <<< ((Int32.toInt64 20) &&& 63))) ||| (Int32.toInt64 ((v3 + 1)))))))))) := hD
    have hP := wC_P_211 hP
    have hD := wC_D_211 hD
    refine lv_aload_n hx hb dn_Tokens_add_38 rfl (lv_at hl 0 rfl) ?_
    refine lv_dup hx hb dn_Tokens_add_39 rfl ?_
    refine va_get (D := (dC, dI)) (ci := 2) (v := .int ((s.1 212 0))) (C := rn_Tokens) (T := fn_Tokens) (N := 9) hx hb hg in_Tokens hown hK hP 1 rfl rfl 1 (by decide) (hg _ wn_1_46) (fun _ h9 => h9) rfl dn_Tokens_add_40 ?_
    refine lv_iconst (v := 1) hx hb dn_Tokens_add_43 (by decide) ?_
    refine lv_iadd hx hb dn_Tokens_add_44 ?_
    refine va_put (D := (dC, dI)) (ci := 2) (v := .int (((s.1 212 0) + 1))) (ty := .int) (C := rn_Tokens) (T := fn_Tokens) (N := 9) hx hb hg in_Tokens tn_Tokens tk_Tokens nn_Tokens hown hK hP hD hS 1 rfl rfl 1 (by decide) (hg _ wn_1_46) (fun _ h9 => h9) rfl (tk_Tokens 1 (by decide)) rfl rfl (Nat.le_of_ble_eq_true rfl) dn_Tokens_add_45 (fun H locs hP hD hS => ?_)
    have hP := wC_P_212 hP
    have hD := wC_D_212 hD
    rw [hQQ, ← Option.some.inj hf]
    exact xk_vret (w1 := fun u : Unit => (wC a v cI cB cJ cZ cQ (upI (upJ s 211 (vp_updL (s.2 211) (Int32.toNatClampNeg ((s.1 212 0))) ((((((Int32.toInt64 v1) : Int64) <<< ((Int32.toInt64 40) &&& 63)) ||| (((Int32.toInt64 v2) : Int64) <<< ((Int32.toInt64 20) &&& 63))) ||| (Int32.toInt64 ((v3 + 1))))))) 212 (fun _ => ((s.1 212 0) + 1))))) () hx hb hr hlocks hK hS dn_Tokens_add_48 hP hD trivial (Nat.le_refl _) (Nat.le_refl _)
  · have hf := (if_neg h).symm.trans hf
    rw [hQQ, ← Option.some.inj hf]
    exact xk_vret (w1 := fun u : Unit => (wC a v cI cB cJ cZ cQ s)) () hx hb hr hlocks hK hS dn_Tokens_add_12 hP hD trivial (Nat.le_refl _) (Nat.le_refl _)
set_option maxHeartbeats 8000000 in
set_option maxRecDepth 100000 in
theorem ct_Scanner_digitOf (l : Launch) (dC : Nat → ClassId) (dI : Nat → Nat → Nat) (cI cB cJ cZ cQ : ClassId) (N sz : Nat) (a : Nat → Nat) (v : Nat → Value) (v0 : Int32) (s : ms) (y : (Int32 × ms)) (hf : fn_Scanner_digitOf N v0 s = some y) : Met l yn_Scanner_digitOf (xw yn_Scanner_digitOf bn_Scanner_digitOf 1 (some .int)) ({ frames := 1, cells := 0, slots := 0, locals := 20 }) (dc_P (dC, dI) xcl (xt cI cB cJ cZ cQ) [.int v0] sz (wC a v cI cB cJ cZ cQ s)) (xk_Qi (dC, dI) xcl (xt cI cB cJ cZ cQ) (fun (r : Int32) (_ : Unit) => r = y.1) (fun u : Unit => (wC a v cI cB cJ cZ cQ y.2)) (va_A (wC a v cI cB cJ cZ cQ s) sz)) 0 0 (va_A (wC a v cI cB cJ cZ cQ s) sz) := by
  refine dc_of (QA := xk_Qi (dC, dI) xcl (xt cI cB cJ cZ cQ) (fun (r : Int32) (_ : Unit) => r = y.1) (fun u : Unit => (wC a v cI cB cJ cZ cQ y.2))) (by decide) (Nat.le_of_ble_eq_true rfl) ?_
  intro p e s0 m below meth c hx hb hml hown hg hr hlocks hin hP hK hN A hA hD hT ls hl
  have hown : s0.vm.findClass rn_Scanner = some m.cls := hown
  obtain ⟨H, hH⟩ : ∃ z, z = s0.heap := ⟨_, rfl⟩
  rw [← hH] at hP
  have hS : va_S A s0.heap H [] := by rw [hH]; exact va_S.rf
  suffices kk : ∀ QQ : State → Prop, QQ = MQ below (xk_Qi (dC, dI) xcl (xt cI cB cJ cZ cQ) (fun (r : Int32) (_ : Unit) => r = y.1) (fun u : Unit => (wC a v cI cB cJ cZ cQ y.2)) A) [.int v0].toArray s0 0 0 A → dcC p l e ({ frames := 1, cells := 0, slots := 0, locals := 20 }) s0 m [.int v0].toArray below meth c QQ (dC, dI) A (wC a v cI cB cJ cZ cQ s) 0 1 [(0, .int v0)] [] by
    have k9 := kk _ rfl H [] ls hP hD hS hl
    rw [hH] at k9; exact k9
  clear hP hD hS hl hH H ls
  intro QQ hQQ
  have bl_32 : ∀ (x0 : Int32) (s : ms), bk_Scanner_digitOf_32 N x0 s = some y → dcC p l e ({ frames := 1, cells := 0, slots := 0, locals := 20 }) s0 m [.int v0].toArray below meth c QQ (dC, dI) A (wC a v cI cB cJ cZ cQ s) 32 1 [(0, .int x0)] [] := by
    intro x0 s hf H locs ls hP hD hS hl
    unfold bk_Scanner_digitOf_32 at hf
    refine lv_iload_n hx hb dn_Scanner_digitOf_32 rfl (lv_at hl 0 rfl) ?_
    refine lv_bipush (v := 65) hx hb dn_Scanner_digitOf_33 (by decide) ?_
    refine lv_icmp_lt (tgt := 52) hx hb dn_Scanner_digitOf_35 (by decide) (fun h => ?_) (fun h => ?_)
    · have hf := (if_pos h).symm.trans hf
      refine lv_bipush (v := 99) hx hb dn_Scanner_digitOf_52 (by decide) ?_
      rw [hQQ, ← Option.some.inj hf]
      exact xk_iret (w1 := fun u : Unit => (wC a v cI cB cJ cZ cQ s)) () hx hb hr hlocks hK hS dn_Scanner_digitOf_54 hP hD rfl (Nat.le_refl _) (Nat.le_refl _)
    · have hf := (if_neg h).symm.trans hf
      refine lv_iload_n hx hb dn_Scanner_digitOf_38 rfl (lv_at hl 0 rfl) ?_
      refine lv_bipush (v := 70) hx hb dn_Scanner_digitOf_39 (by decide) ?_
      refine lv_icmp_gt (tgt := 52) hx hb dn_Scanner_digitOf_41 (by decide) (fun h => ?_) (fun h => ?_)
      · have hf := (if_pos h).symm.trans hf
        refine lv_bipush (v := 99) hx hb dn_Scanner_digitOf_52 (by decide) ?_
        rw [hQQ, ← Option.some.inj hf]
        exact xk_iret (w1 := fun u : Unit => (wC a v cI cB cJ cZ cQ s)) () hx hb hr hlocks hK hS dn_Scanner_digitOf_54 hP hD rfl (Nat.le_refl _) (Nat.le_refl _)
      · have hf := (if_neg h).symm.trans hf
        refine lv_iload_n hx hb dn_Scanner_digitOf_44 rfl (lv_at hl 0 rfl) ?_
        refine lv_bipush (v := 65) hx hb dn_Scanner_digitOf_45 (by decide) ?_
        refine lv_isub hx hb dn_Scanner_digitOf_47 ?_
        refine lv_bipush (v := 10) hx hb dn_Scanner_digitOf_48 (by decide) ?_
        refine lv_iadd hx hb dn_Scanner_digitOf_50 ?_
        rw [hQQ, ← Option.some.inj hf]
        exact xk_iret (w1 := fun u : Unit => (wC a v cI cB cJ cZ cQ s)) () hx hb hr hlocks hK hS dn_Scanner_digitOf_51 hP hD rfl (Nat.le_refl _) (Nat.le_refl _)
  intro H locs ls hP hD hS hl
  unfold fn_Scanner_digitOf at hf
  refine lv_iload_n hx hb dn_Scanner_digitOf_0 rfl (lv_at hl 0 rfl) ?_
  obtain ⟨q_1, hc_2, hf⟩ := dc_b hf
  refine dc_calli (dc_runSN (ar := 1) (As := [.int v0]) (rest := []) (host := "CircuitCycles") ⟨hx, hb, hml, hown, hg⟩ hK hN hT hS hA (ct_C_isDigit l dC dI cI cB cJ cZ cQ N H.size a v v0 s q_1 hc_2) hP hD nl_Scanner_86 wn_3_214 wn_1_1 wn_3_215 rfl rfl (by decide +kernel) ⟨Nat.le_of_ble_eq_true rfl, Nat.le_of_ble_eq_true rfl⟩ rfl hl.1 rfl (Nat.le_of_ble_eq_true rfl) dn_Scanner_digitOf_1 ⟨Nat.le_of_ble_eq_true rfl, Nat.le_of_ble_eq_true rfl⟩) hP hD hS hA (fun r_3 _ H locs hw hP hD hS => ?_)
  have hw : r_3 = q_1.1 := hw
  subst hw
  refine lv_if_eq (tgt := 12) hx hb dn_Scanner_digitOf_4 (by decide) (fun h => ?_) (fun h => ?_)
  · have hf := (if_pos h).symm.trans hf
    refine lv_iload_n hx hb dn_Scanner_digitOf_12 rfl (lv_at hl 0 rfl) ?_
    refine lv_bipush (v := 97) hx hb dn_Scanner_digitOf_13 (by decide) ?_
    refine lv_icmp_lt (tgt := 32) hx hb dn_Scanner_digitOf_15 (by decide) (fun h => ?_) (fun h => ?_)
    · have hf := (if_pos h).symm.trans hf
      exact bl_32 v0 q_1.2 hf H locs ls hP hD hS hl
    · have hf := (if_neg h).symm.trans hf
      refine lv_iload_n hx hb dn_Scanner_digitOf_18 rfl (lv_at hl 0 rfl) ?_
      refine lv_bipush (v := 102) hx hb dn_Scanner_digitOf_19 (by decide) ?_
      refine lv_icmp_gt (tgt := 32) hx hb dn_Scanner_digitOf_21 (by decide) (fun h => ?_) (fun h => ?_)
      · have hf := (if_pos h).symm.trans hf
        exact bl_32 v0 q_1.2 hf H locs ls hP hD hS hl
      · have hf := (if_neg h).symm.trans hf
        refine lv_iload_n hx hb dn_Scanner_digitOf_24 rfl (lv_at hl 0 rfl) ?_
        refine lv_bipush (v := 97) hx hb dn_Scanner_digitOf_25 (by decide) ?_
        refine lv_isub hx hb dn_Scanner_digitOf_27 ?_
        refine lv_bipush (v := 10) hx hb dn_Scanner_digitOf_28 (by decide) ?_
        refine lv_iadd hx hb dn_Scanner_digitOf_30 ?_
        rw [hQQ, ← Option.some.inj hf]
        exact xk_iret (w1 := fun u : Unit => (wC a v cI cB cJ cZ cQ q_1.2)) () hx hb hr hlocks hK hS dn_Scanner_digitOf_31 hP hD rfl (Nat.le_refl _) (Nat.le_refl _)
  · have hf := (if_neg h).symm.trans hf
    refine lv_iload_n hx hb dn_Scanner_digitOf_7 rfl (lv_at hl 0 rfl) ?_
    refine lv_bipush (v := 48) hx hb dn_Scanner_digitOf_8 (by decide) ?_
    refine lv_isub hx hb dn_Scanner_digitOf_10 ?_
    rw [hQQ, ← Option.some.inj hf]
    exact xk_iret (w1 := fun u : Unit => (wC a v cI cB cJ cZ cQ q_1.2)) () hx hb hr hlocks hK hS dn_Scanner_digitOf_11 hP hD rfl (Nat.le_refl _) (Nat.le_refl _)
