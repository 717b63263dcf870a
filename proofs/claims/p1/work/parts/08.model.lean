set_option maxHeartbeats 4000000 in
set_option maxRecDepth 100000 in
theorem ct_M_thrown_0 (l : Launch) (dC : Nat → ClassId) (dI : Nat → Nat → Nat) (cI cB cJ cZ cQ : ClassId) (sz : Nat) (h0 : Nat) (f0 : Nat → Value) (hf0_0 : f0 0 = .int 0) : Met l yn_M_thrown (xw yn_M_thrown bn_M_thrown 1 (some .int)) ({ frames := 0, cells := 0, slots := 0, locals := 0 }) (xk_P (dC, dI) xcl (xt cI cB cJ cZ cQ) [.ref h0] sz [(h0, .inr (0, xo_M f0))]) (xk_Qi (dC, dI) xcl (xt cI cB cJ cZ cQ) (fun (r : Int32) (u : Unit) => r = 0) (fun u : Unit => [(h0, .inr (0, xo_M f0))]) (va_A [(h0, .inr (0, xo_M f0))] sz)) 0 0 (va_A [(h0, .inr (0, xo_M f0))] sz) := by
  refine xk_of (QA := xk_Qi (dC, dI) xcl (xt cI cB cJ cZ cQ) (fun (r : Int32) (u : Unit) => r = 0) (fun u : Unit => [(h0, .inr (0, xo_M f0))])) (by decide) (Nat.le_of_ble_eq_true rfl) ?_
  intro p e s m below meth c hx hb hml hown hg hr hlocks hin hP hK hN A hA hD hS ls hl
  have hown : s.vm.findClass rn_M = some m.cls := hown
  have hl : lv_has ls 1 [(0, .ref h0)] := hl
  obtain ⟨H, hH⟩ : ∃ z, z = s.heap := ⟨_, rfl⟩
  rw [← hH] at hP
  have hS : va_S A s.heap H [] := by rw [hH]; exact va_S.rf
  suffices kk : W p l e ({ frames := 0, cells := 0, slots := 0, locals := 0 }) s m [.ref h0].toArray below meth c H [] 0 0 (MQ below (xk_Qi (dC, dI) xcl (xt cI cB cJ cZ cQ) (fun (r : Int32) (u : Unit) => r = 0) (fun u : Unit => [(h0, .inr (0, xo_M f0))]) A) [.ref h0].toArray s 0 0 A) (F0 m 0 ls []) by rw [hH] at kk; exact kk
  refine lv_aload_n hx hb dn_M_thrown_0 rfl (lv_at hl 0 rfl) ?_
  refine va_get (D := (dC, dI)) (ci := 0) (v := .int 0) (C := rn_M) (T := fn_M) (N := 91) hx hb hg in_M hown hK hP 0 rfl rfl 0 (by decide) (hg _ wn_8_68) (fun _ h9 => h9) (congrArg some hf0_0) dn_M_thrown_1 ?_
  have hP9 := hP.sub (ws' := [(h0, .inr (0, xo_M f0))]) [0] rfl
  have hD9 := hD.sub (ws' := [(h0, .inr (0, xo_M f0))]) [0] (by decide) rfl
  exact xk_iret (w1 := fun u : Unit => [(h0, .inr (0, xo_M f0))]) () hx hb hr hlocks hK hS dn_M_thrown_4 hP9 hD9 rfl (Nat.le_refl _) (Nat.le_refl _)
set_option maxHeartbeats 4000000 in
set_option maxRecDepth 100000 in
theorem ct_M_fault_0 (l : Launch) (dC : Nat → ClassId) (dI : Nat → Nat → Nat) (cI cB cJ cZ cQ : ClassId) (sz : Nat) (h0 : Nat) (f0 : Nat → Value) (hf0_3 : f0 3 = .int 0) : Met l yn_M_fault (xw yn_M_fault bn_M_fault 1 (some .int)) ({ frames := 0, cells := 0, slots := 0, locals := 0 }) (xk_P (dC, dI) xcl (xt cI cB cJ cZ cQ) [.ref h0] sz [(h0, .inr (0, xo_M f0))]) (xk_Qi (dC, dI) xcl (xt cI cB cJ cZ cQ) (fun (r : Int32) (u : Unit) => r = 0) (fun u : Unit => [(h0, .inr (0, xo_M (va_up f0 0 (.int 0))))]) (va_A [(h0, .inr (0, xo_M f0))] sz)) 0 0 (va_A [(h0, .inr (0, xo_M f0))] sz) := by
  refine xk_of (QA := xk_Qi (dC, dI) xcl (xt cI cB cJ cZ cQ) (fun (r : Int32) (u : Unit) => r = 0) (fun u : Unit => [(h0, .inr (0, xo_M (va_up f0 0 (.int 0))))])) (by decide) (Nat.le_of_ble_eq_true rfl) ?_
  intro p e s m below meth c hx hb hml hown hg hr hlocks hin hP hK hN A hA hD hS ls hl
  have hown : s.vm.findClass rn_M = some m.cls := hown
  have hl : lv_has ls 1 [(0, .ref h0)] := hl
  obtain ⟨H, hH⟩ : ∃ z, z = s.heap := ⟨_, rfl⟩
  rw [← hH] at hP
  have hS : va_S A s.heap H [] := by rw [hH]; exact va_S.rf
  suffices kk : W p l e ({ frames := 0, cells := 0, slots := 0, locals := 0 }) s m [.ref h0].toArray below meth c H [] 0 0 (MQ below (xk_Qi (dC, dI) xcl (xt cI cB cJ cZ cQ) (fun (r : Int32) (u : Unit) => r = 0) (fun u : Unit => [(h0, .inr (0, xo_M (va_up f0 0 (.int 0))))]) A) [.ref h0].toArray s 0 0 A) (F0 m 0 ls []) by rw [hH] at kk; exact kk
  refine lv_aload_n hx hb dn_M_fault_0 rfl (lv_at hl 0 rfl) ?_
  refine lv_iconst (v := 0) hx hb dn_M_fault_1 (by decide) ?_
  refine va_put (D := (dC, dI)) (ci := 0) (v := .int 0) (ty := .int) (C := rn_M) (T := fn_M) (N := 91) hx hb hg in_M tn_M tk_M nn_M hown hK hP hD hS 0 rfl rfl 0 (by decide) (hg _ wn_8_68) (fun _ h9 => h9) rfl (tk_M 0 (by decide)) rfl rfl (Nat.le_of_ble_eq_true rfl) dn_M_fault_2 (fun H locs hP hD hS => ?_)
  have hP : va_P (dC, dI) xcl [(h0, .inr (0, xo_M (va_up f0 0 (.int 0))))] H := hP
  have hD : va_D A [(h0, .inr (0, xo_M (va_up f0 0 (.int 0))))] := hD
  refine lv_aload_n hx hb dn_M_fault_5 rfl (lv_at hl 0 rfl) ?_
  refine va_get (D := (dC, dI)) (ci := 0) (v := .int 0) (C := rn_M) (T := fn_M) (N := 91) hx hb hg in_M hown hK hP 0 rfl rfl 3 (by decide) (hg _ wn_8_71) (fun _ h9 => h9) (congrArg some hf0_3) dn_M_fault_6 ?_
  have hP9 := hP.sub (ws' := [(h0, .inr (0, xo_M (va_up f0 0 (.int 0))))]) [0] rfl
  have hD9 := hD.sub (ws' := [(h0, .inr (0, xo_M (va_up f0 0 (.int 0))))]) [0] (by decide) rfl
  exact xk_iret (w1 := fun u : Unit => [(h0, .inr (0, xo_M (va_up f0 0 (.int 0))))]) () hx hb hr hlocks hK hS dn_M_fault_9 hP9 hD9 rfl (Nat.le_refl _) (Nat.le_refl _)
set_option maxHeartbeats 4000000 in
set_option maxRecDepth 100000 in
theorem ct_M_count_0 (l : Launch) (dC : Nat → ClassId) (dI : Nat → Nat → Nat) (cI cB cJ cZ cQ : ClassId) (sz : Nat) (h0 : Nat) (x0 : Int32) (f0 : Nat → Value) (hf0_54 : f0 54 = .int 0) : Met l yn_M_count (xw yn_M_count bn_M_count 2 (some .int)) ({ frames := 0, cells := 0, slots := 0, locals := 0 }) (xk_P (dC, dI) xcl (xt cI cB cJ cZ cQ) [.ref h0, .int x0] sz [(h0, .inr (0, xo_M f0))]) (xk_Qi (dC, dI) xcl (xt cI cB cJ cZ cQ) (fun (r : Int32) (u : Unit) => r = 0) (fun u : Unit => [(h0, .inr (0, xo_M (va_up f0 0 (.int 1))))]) (va_A [(h0, .inr (0, xo_M f0))] sz)) 0 0 (va_A [(h0, .inr (0, xo_M f0))] sz) := by
  refine xk_of (QA := xk_Qi (dC, dI) xcl (xt cI cB cJ cZ cQ) (fun (r : Int32) (u : Unit) => r = 0) (fun u : Unit => [(h0, .inr (0, xo_M (va_up f0 0 (.int 1))))])) (by decide) (Nat.le_of_ble_eq_true rfl) ?_
  intro p e s m below meth c hx hb hml hown hg hr hlocks hin hP hK hN A hA hD hS ls hl
  have hown : s.vm.findClass rn_M = some m.cls := hown
  have hl : lv_has ls 2 [(0, .ref h0), (1, .int x0)] := hl
  obtain ⟨H, hH⟩ : ∃ z, z = s.heap := ⟨_, rfl⟩
  rw [← hH] at hP
  have hS : va_S A s.heap H [] := by rw [hH]; exact va_S.rf
  suffices kk : W p l e ({ frames := 0, cells := 0, slots := 0, locals := 0 }) s m [.ref h0, .int x0].toArray below meth c H [] 0 0 (MQ below (xk_Qi (dC, dI) xcl (xt cI cB cJ cZ cQ) (fun (r : Int32) (u : Unit) => r = 0) (fun u : Unit => [(h0, .inr (0, xo_M (va_up f0 0 (.int 1))))]) A) [.ref h0, .int x0].toArray s 0 0 A) (F0 m 0 ls []) by rw [hH] at kk; exact kk
  refine lv_aload_n hx hb dn_M_count_0 rfl (lv_at hl 0 rfl) ?_
  refine lv_aload_n hx hb dn_M_count_1 rfl (lv_at hl 0 rfl) ?_
  refine va_get (D := (dC, dI)) (ci := 0) (v := .int 0) (C := rn_M) (T := fn_M) (N := 91) hx hb hg in_M hown hK hP 0 rfl rfl 54 (by decide) (hg _ wn_8_122) (fun _ h9 => h9) (congrArg some hf0_54) dn_M_count_2 ?_
  refine lv_if_ne (tgt := 12) hx hb dn_M_count_5 (by decide) (fun h9 => absurd h9 (by decide)) (fun _ => ?_)
  refine lv_iconst (v := 1) hx hb dn_M_count_8 (by decide) ?_
  refine lv_goto (tgt := 27) hx hb dn_M_count_9 (by decide) ?_
  refine va_put (D := (dC, dI)) (ci := 0) (v := .int 1) (ty := .int) (C := rn_M) (T := fn_M) (N := 91) hx hb hg in_M tn_M tk_M nn_M hown hK hP hD hS 0 rfl rfl 0 (by decide) (hg _ wn_8_68) (fun _ h9 => h9) rfl (tk_M 0 (by decide)) rfl rfl (Nat.le_of_ble_eq_true rfl) dn_M_count_27 (fun H locs hP hD hS => ?_)
  have hP : va_P (dC, dI) xcl [(h0, .inr (0, xo_M (va_up f0 0 (.int 1))))] H := hP
  have hD : va_D A [(h0, .inr (0, xo_M (va_up f0 0 (.int 1))))] := hD
  refine lv_aload_n hx hb dn_M_count_30 rfl (lv_at hl 0 rfl) ?_
  refine va_get (D := (dC, dI)) (ci := 0) (v := .int 1) (C := rn_M) (T := fn_M) (N := 91) hx hb hg in_M hown hK hP 0 rfl rfl 0 (by decide) (hg _ wn_8_68) (fun _ h9 => h9) rfl dn_M_count_31 ?_
  refine lv_if_le (tgt := 39) hx hb dn_M_count_34 (by decide) (fun h9 => absurd h9 (by decide)) (fun _ => ?_)
  refine lv_iconst (v := 0) hx hb dn_M_count_37 (by decide) ?_
  have hP9 := hP.sub (ws' := [(h0, .inr (0, xo_M (va_up f0 0 (.int 1))))]) [0] rfl
  have hD9 := hD.sub (ws' := [(h0, .inr (0, xo_M (va_up f0 0 (.int 1))))]) [0] (by decide) rfl
  exact xk_iret (w1 := fun u : Unit => [(h0, .inr (0, xo_M (va_up f0 0 (.int 1))))]) () hx hb hr hlocks hK hS dn_M_count_38 hP9 hD9 rfl (Nat.le_refl _) (Nat.le_refl _)
set_option maxHeartbeats 4000000 in
set_option maxRecDepth 100000 in
theorem ct_M_find_0 (l : Launch) (dC : Nat → ClassId) (dI : Nat → Nat → Nat) (cI cB cJ cZ cQ : ClassId) (sz : Nat) (h0 : Nat) (f0 : Nat → Value) (hf0_54 : f0 54 = .int 0) : Met l yn_M_find (xw yn_M_find bn_M_find 3 (some .int)) ({ frames := 0, cells := 0, slots := 0, locals := 0 }) (xk_P (dC, dI) xcl (xt cI cB cJ cZ cQ) [.ref h0] sz [(h0, .inr (0, xo_M f0))]) (xk_Qi (dC, dI) xcl (xt cI cB cJ cZ cQ) (fun (r : Int32) (u : Unit) => r = 0) (fun u : Unit => [(h0, .inr (0, xo_M (va_up f0 0 (.int 1))))]) (va_A [(h0, .inr (0, xo_M f0))] sz)) 0 0 (va_A [(h0, .inr (0, xo_M f0))] sz) := by
  refine xk_of (QA := xk_Qi (dC, dI) xcl (xt cI cB cJ cZ cQ) (fun (r : Int32) (u : Unit) => r = 0) (fun u : Unit => [(h0, .inr (0, xo_M (va_up f0 0 (.int 1))))])) (by decide) (Nat.le_of_ble_eq_true rfl) ?_
  intro p e s m below meth c hx hb hml hown hg hr hlocks hin hP hK hN A hA hD hS ls hl
  have hown : s.vm.findClass rn_M = some m.cls := hown
  have hl : lv_has ls 3 [(0, .ref h0)] := hl
  obtain ⟨H, hH⟩ : ∃ z, z = s.heap := ⟨_, rfl⟩
  rw [← hH] at hP
  have hS : va_S A s.heap H [] := by rw [hH]; exact va_S.rf
  suffices kk : W p l e ({ frames := 0, cells := 0, slots := 0, locals := 0 }) s m [.ref h0].toArray below meth c H [] 0 0 (MQ below (xk_Qi (dC, dI) xcl (xt cI cB cJ cZ cQ) (fun (r : Int32) (u : Unit) => r = 0) (fun u : Unit => [(h0, .inr (0, xo_M (va_up f0 0 (.int 1))))]) A) [.ref h0].toArray s 0 0 A) (F0 m 0 ls []) by rw [hH] at kk; exact kk
  refine lv_aload_n hx hb dn_M_find_0 rfl (lv_at hl 0 rfl) ?_
  refine lv_aload_n hx hb dn_M_find_1 rfl (lv_at hl 0 rfl) ?_
  refine va_get (D := (dC, dI)) (ci := 0) (v := .int 0) (C := rn_M) (T := fn_M) (N := 91) hx hb hg in_M hown hK hP 0 rfl rfl 54 (by decide) (hg _ wn_8_122) (fun _ h9 => h9) (congrArg some hf0_54) dn_M_find_2 ?_
  refine lv_if_eq (tgt := 12) hx hb dn_M_find_5 (by decide) (fun _ => ?_) (fun h9 => absurd h9 (by decide))
  refine lv_iconst (v := 1) hx hb dn_M_find_12 (by decide) ?_
  refine va_put (D := (dC, dI)) (ci := 0) (v := .int 1) (ty := .int) (C := rn_M) (T := fn_M) (N := 91) hx hb hg in_M tn_M tk_M nn_M hown hK hP hD hS 0 rfl rfl 0 (by decide) (hg _ wn_8_68) (fun _ h9 => h9) rfl (tk_M 0 (by decide)) rfl rfl (Nat.le_of_ble_eq_true rfl) dn_M_find_13 (fun H locs hP hD hS => ?_)
  have hP : va_P (dC, dI) xcl [(h0, .inr (0, xo_M (va_up f0 0 (.int 1))))] H := hP
  have hD : va_D A [(h0, .inr (0, xo_M (va_up f0 0 (.int 1))))] := hD
  refine lv_aload_n hx hb dn_M_find_16 rfl (lv_at hl 0 rfl) ?_
  refine va_get (D := (dC, dI)) (ci := 0) (v := .int 1) (C := rn_M) (T := fn_M) (N := 91) hx hb hg in_M hown hK hP 0 rfl rfl 0 (by decide) (hg _ wn_8_68) (fun _ h9 => h9) rfl dn_M_find_17 ?_
  refine lv_if_le (tgt := 25) hx hb dn_M_find_20 (by decide) (fun h9 => absurd h9 (by decide)) (fun _ => ?_)
  refine lv_iconst (v := 0) hx hb dn_M_find_23 (by decide) ?_
  have hP9 := hP.sub (ws' := [(h0, .inr (0, xo_M (va_up f0 0 (.int 1))))]) [0] rfl
  have hD9 := hD.sub (ws' := [(h0, .inr (0, xo_M (va_up f0 0 (.int 1))))]) [0] (by decide) rfl
  exact xk_iret (w1 := fun u : Unit => [(h0, .inr (0, xo_M (va_up f0 0 (.int 1))))]) () hx hb hr hlocks hK hS dn_M_find_24 hP9 hD9 rfl (Nat.le_refl _) (Nat.le_refl _)
set_option maxHeartbeats 4000000 in
set_option maxRecDepth 100000 in
theorem ct_M_signal_0 (l : Launch) (dC : Nat → ClassId) (dI : Nat → Nat → Nat) (cI cB cJ cZ cQ : ClassId) (sz : Nat) (h0 : Nat) (x0 : Int32) (x1 : Int32) (f0 : Nat → Value) (hf0_54 : f0 54 = .int 0) : Met l yn_M_signal (xw yn_M_signal bn_M_signal 3 (some .int)) ({ frames := 0, cells := 0, slots := 0, locals := 0 }) (xk_P (dC, dI) xcl (xt cI cB cJ cZ cQ) [.ref h0, .int x0, .int x1] sz [(h0, .inr (0, xo_M f0))]) (xk_Qi (dC, dI) xcl (xt cI cB cJ cZ cQ) (fun (r : Int32) (u : Unit) => r = 0) (fun u : Unit => [(h0, .inr (0, xo_M (va_up f0 0 (.int 1))))]) (va_A [(h0, .inr (0, xo_M f0))] sz)) 0 0 (va_A [(h0, .inr (0, xo_M f0))] sz) := by
  refine xk_of (QA := xk_Qi (dC, dI) xcl (xt cI cB cJ cZ cQ) (fun (r : Int32) (u : Unit) => r = 0) (fun u : Unit => [(h0, .inr (0, xo_M (va_up f0 0 (.int 1))))])) (by decide) (Nat.le_of_ble_eq_true rfl) ?_
  intro p e s m below meth c hx hb hml hown hg hr hlocks hin hP hK hN A hA hD hS ls hl
  have hown : s.vm.findClass rn_M = some m.cls := hown
  have hl : lv_has ls 3 [(0, .ref h0), (1, .int x0), (2, .int x1)] := hl
  obtain ⟨H, hH⟩ : ∃ z, z = s.heap := ⟨_, rfl⟩
  rw [← hH] at hP
  have hS : va_S A s.heap H [] := by rw [hH]; exact va_S.rf
  suffices kk : W p l e ({ frames := 0, cells := 0, slots := 0, locals := 0 }) s m [.ref h0, .int x0, .int x1].toArray below meth c H [] 0 0 (MQ below (xk_Qi (dC, dI) xcl (xt cI cB cJ cZ cQ) (fun (r : Int32) (u : Unit) => r = 0) (fun u : Unit => [(h0, .inr (0, xo_M (va_up f0 0 (.int 1))))]) A) [.ref h0, .int x0, .int x1].toArray s 0 0 A) (F0 m 0 ls []) by rw [hH] at kk; exact kk
  refine lv_aload_n hx hb dn_M_signal_0 rfl (lv_at hl 0 rfl) ?_
  refine lv_aload_n hx hb dn_M_signal_1 rfl (lv_at hl 0 rfl) ?_
  refine va_get (D := (dC, dI)) (ci := 0) (v := .int 0) (C := rn_M) (T := fn_M) (N := 91) hx hb hg in_M hown hK hP 0 rfl rfl 54 (by decide) (hg _ wn_8_122) (fun _ h9 => h9) (congrArg some hf0_54) dn_M_signal_2 ?_
  refine lv_if_ne (tgt := 12) hx hb dn_M_signal_5 (by decide) (fun h9 => absurd h9 (by decide)) (fun _ => ?_)
  refine lv_iconst (v := 1) hx hb dn_M_signal_8 (by decide) ?_
  refine lv_goto (tgt := 38) hx hb dn_M_signal_9 (by decide) ?_
  refine va_put (D := (dC, dI)) (ci := 0) (v := .int 1) (ty := .int) (C := rn_M) (T := fn_M) (N := 91) hx hb hg in_M tn_M tk_M nn_M hown hK hP hD hS 0 rfl rfl 0 (by decide) (hg _ wn_8_68) (fun _ h9 => h9) rfl (tk_M 0 (by decide)) rfl rfl (Nat.le_of_ble_eq_true rfl) dn_M_signal_38 (fun H locs hP hD hS => ?_)
  have hP : va_P (dC, dI) xcl [(h0, .inr (0, xo_M (va_up f0 0 (.int 1))))] H := hP
  have hD : va_D A [(h0, .inr (0, xo_M (va_up f0 0 (.int 1))))] := hD
  refine lv_aload_n hx hb dn_M_signal_41 rfl (lv_at hl 0 rfl) ?_
  refine va_get (D := (dC, dI)) (ci := 0) (v := .int 1) (C := rn_M) (T := fn_M) (N := 91) hx hb hg in_M hown hK hP 0 rfl rfl 0 (by decide) (hg _ wn_8_68) (fun _ h9 => h9) rfl dn_M_signal_42 ?_
  refine lv_if_le (tgt := 50) hx hb dn_M_signal_45 (by decide) (fun h9 => absurd h9 (by decide)) (fun _ => ?_)
  refine lv_iconst (v := 0) hx hb dn_M_signal_48 (by decide) ?_
  have hP9 := hP.sub (ws' := [(h0, .inr (0, xo_M (va_up f0 0 (.int 1))))]) [0] rfl
  have hD9 := hD.sub (ws' := [(h0, .inr (0, xo_M (va_up f0 0 (.int 1))))]) [0] (by decide) rfl
  exact xk_iret (w1 := fun u : Unit => [(h0, .inr (0, xo_M (va_up f0 0 (.int 1))))]) () hx hb hr hlocks hK hS dn_M_signal_49 hP9 hD9 rfl (Nat.le_refl _) (Nat.le_refl _)
set_option maxHeartbeats 4000000 in
set_option maxRecDepth 100000 in
theorem ct_M_reset_0 (l : Launch) (dC : Nat → ClassId) (dI : Nat → Nat → Nat) (cI cB cJ cZ cQ : ClassId) (sz : Nat) (h0 : Nat) (f0 : Nat → Value) (hf0_54 : f0 54 = .int 0) : Met l yn_M_reset (xw yn_M_reset bn_M_reset 1 none) ({ frames := 0, cells := 0, slots := 0, locals := 0 }) (xk_P (dC, dI) xcl (xt cI cB cJ cZ cQ) [.ref h0] sz [(h0, .inr (0, xo_M f0))]) (xk_Qv (dC, dI) xcl (xt cI cB cJ cZ cQ) (fun u : Unit => True) (fun u : Unit => [(h0, .inr (0, xo_M (va_up f0 0 (.int 1))))]) (va_A [(h0, .inr (0, xo_M f0))] sz)) 0 0 (va_A [(h0, .inr (0, xo_M f0))] sz) := by
  refine xk_of (QA := xk_Qv (dC, dI) xcl (xt cI cB cJ cZ cQ) (fun u : Unit => True) (fun u : Unit => [(h0, .inr (0, xo_M (va_up f0 0 (.int 1))))])) (by decide) (Nat.le_of_ble_eq_true rfl) ?_
  intro p e s m below meth c hx hb hml hown hg hr hlocks hin hP hK hN A hA hD hS ls hl
  have hown : s.vm.findClass rn_M = some m.cls := hown
  have hl : lv_has ls 1 [(0, .ref h0)] := hl
  obtain ⟨H, hH⟩ : ∃ z, z = s.heap := ⟨_, rfl⟩
  rw [← hH] at hP
  have hS : va_S A s.heap H [] := by rw [hH]; exact va_S.rf
  suffices kk : W p l e ({ frames := 0, cells := 0, slots := 0, locals := 0 }) s m [.ref h0].toArray below meth c H [] 0 0 (MQ below (xk_Qv (dC, dI) xcl (xt cI cB cJ cZ cQ) (fun u : Unit => True) (fun u : Unit => [(h0, .inr (0, xo_M (va_up f0 0 (.int 1))))]) A) [.ref h0].toArray s 0 0 A) (F0 m 0 ls []) by rw [hH] at kk; exact kk
  refine lv_aload_n hx hb dn_M_reset_0 rfl (lv_at hl 0 rfl) ?_
  refine lv_aload_n hx hb dn_M_reset_1 rfl (lv_at hl 0 rfl) ?_
  refine va_get (D := (dC, dI)) (ci := 0) (v := .int 0) (C := rn_M) (T := fn_M) (N := 91) hx hb hg in_M hown hK hP 0 rfl rfl 54 (by decide) (hg _ wn_8_122) (fun _ h9 => h9) (congrArg some hf0_54) dn_M_reset_2 ?_
  refine lv_if_eq (tgt := 12) hx hb dn_M_reset_5 (by decide) (fun _ => ?_) (fun h9 => absurd h9 (by decide))
  refine lv_iconst (v := 1) hx hb dn_M_reset_12 (by decide) ?_
  refine va_put (D := (dC, dI)) (ci := 0) (v := .int 1) (ty := .int) (C := rn_M) (T := fn_M) (N := 91) hx hb hg in_M tn_M tk_M nn_M hown hK hP hD hS 0 rfl rfl 0 (by decide) (hg _ wn_8_68) (fun _ h9 => h9) rfl (tk_M 0 (by decide)) rfl rfl (Nat.le_of_ble_eq_true rfl) dn_M_reset_13 (fun H locs hP hD hS => ?_)
  have hP : va_P (dC, dI) xcl [(h0, .inr (0, xo_M (va_up f0 0 (.int 1))))] H := hP
  have hD : va_D A [(h0, .inr (0, xo_M (va_up f0 0 (.int 1))))] := hD
  refine lv_aload_n hx hb dn_M_reset_16 rfl (lv_at hl 0 rfl) ?_
  refine va_get (D := (dC, dI)) (ci := 0) (v := .int 0) (C := rn_M) (T := fn_M) (N := 91) hx hb hg in_M hown hK hP 0 rfl rfl 54 (by decide) (hg _ wn_8_122) (fun _ h9 => h9) (congrArg some hf0_54) dn_M_reset_17 ?_
  refine lv_if_eq (tgt := 27) hx hb dn_M_reset_20 (by decide) (fun _ => ?_) (fun h9 => absurd h9 (by decide))
  have hP9 := hP.sub (ws' := [(h0, .inr (0, xo_M (va_up f0 0 (.int 1))))]) [0] rfl
  have hD9 := hD.sub (ws' := [(h0, .inr (0, xo_M (va_up f0 0 (.int 1))))]) [0] (by decide) rfl
  exact xk_vret (w1 := fun u : Unit => [(h0, .inr (0, xo_M (va_up f0 0 (.int 1))))]) () hx hb hr hlocks hK hS dn_M_reset_27 hP9 hD9 trivial (Nat.le_refl _) (Nat.le_refl _)
set_option maxHeartbeats 4000000 in
set_option maxRecDepth 100000 in
theorem ct_M_set_0 (l : Launch) (dC : Nat → ClassId) (dI : Nat → Nat → Nat) (cI cB cJ cZ cQ : ClassId) (sz : Nat) (h0 : Nat) (x0 : Int32) (x1 : Int32) (f0 : Nat → Value) (hf0_54 : f0 54 = .int 0) : Met l yn_M_set (xw yn_M_set bn_M_set 3 none) ({ frames := 0, cells := 0, slots := 0, locals := 0 }) (xk_P (dC, dI) xcl (xt cI cB cJ cZ cQ) [.ref h0, .int x0, .int x1] sz [(h0, .inr (0, xo_M f0))]) (xk_Qv (dC, dI) xcl (xt cI cB cJ cZ cQ) (fun u : Unit => True) (fun u : Unit => [(h0, .inr (0, xo_M (va_up f0 0 (.int 1))))]) (va_A [(h0, .inr (0, xo_M f0))] sz)) 0 0 (va_A [(h0, .inr (0, xo_M f0))] sz) := by
  refine xk_of (QA := xk_Qv (dC, dI) xcl (xt cI cB cJ cZ cQ) (fun u : Unit => True) (fun u : Unit => [(h0, .inr (0, xo_M (va_up f0 0 (.int 1))))])) (by decide) (Nat.le_of_ble_eq_true rfl) ?_
  intro p e s m below meth c hx hb hml hown hg hr hlocks hin hP hK hN A hA hD hS ls hl
  have hown : s.vm.findClass rn_M = some m.cls := hown
  have hl : lv_has ls 3 [(0, .ref h0), (1, .int x0), (2, .int x1)] := hl
  obtain ⟨H, hH⟩ : ∃ z, z = s.heap := ⟨_, rfl⟩
  rw [← hH] at hP
  have hS : va_S A s.heap H [] := by rw [hH]; exact va_S.rf
  suffices kk : W p l e ({ frames := 0, cells := 0, slots := 0, locals := 0 }) s m [.ref h0, .int x0, .int x1].toArray below meth c H [] 0 0 (MQ below (xk_Qv (dC, dI) xcl (xt cI cB cJ cZ cQ) (fun u : Unit => True) (fun u : Unit => [(h0, .inr (0, xo_M (va_up f0 0 (.int 1))))]) A) [.ref h0, .int x0, .int x1].toArray s 0 0 A) (F0 m 0 ls []) by rw [hH] at kk; exact kk
  refine lv_aload_n hx hb dn_M_set_0 rfl (lv_at hl 0 rfl) ?_
  refine lv_aload_n hx hb dn_M_set_1 rfl (lv_at hl 0 rfl) ?_
  refine va_get (D := (dC, dI)) (ci := 0) (v := .int 0) (C := rn_M) (T := fn_M) (N := 91) hx hb hg in_M hown hK hP 0 rfl rfl 54 (by decide) (hg _ wn_8_122) (fun _ h9 => h9) (congrArg some hf0_54) dn_M_set_2 ?_
  refine lv_if_ne (tgt := 12) hx hb dn_M_set_5 (by decide) (fun h9 => absurd h9 (by decide)) (fun _ => ?_)
  refine lv_iconst (v := 1) hx hb dn_M_set_8 (by decide) ?_
  refine lv_goto (tgt := 57) hx hb dn_M_set_9 (by decide) ?_
  refine va_put (D := (dC, dI)) (ci := 0) (v := .int 1) (ty := .int) (C := rn_M) (T := fn_M) (N := 91) hx hb hg in_M tn_M tk_M nn_M hown hK hP hD hS 0 rfl rfl 0 (by decide) (hg _ wn_8_68) (fun _ h9 => h9) rfl (tk_M 0 (by decide)) rfl rfl (Nat.le_of_ble_eq_true rfl) dn_M_set_57 (fun H locs hP hD hS => ?_)
  have hP : va_P (dC, dI) xcl [(h0, .inr (0, xo_M (va_up f0 0 (.int 1))))] H := hP
  have hD : va_D A [(h0, .inr (0, xo_M (va_up f0 0 (.int 1))))] := hD
  refine lv_aload_n hx hb dn_M_set_60 rfl (lv_at hl 0 rfl) ?_
  refine va_get (D := (dC, dI)) (ci := 0) (v := .int 1) (C := rn_M) (T := fn_M) (N := 91) hx hb hg in_M hown hK hP 0 rfl rfl 0 (by decide) (hg _ wn_8_68) (fun _ h9 => h9) rfl dn_M_set_61 ?_
  refine lv_if_ne (tgt := 87) hx hb dn_M_set_64 (by decide) (fun _ => ?_) (fun h9 => absurd h9 (by decide))
  have hP9 := hP.sub (ws' := [(h0, .inr (0, xo_M (va_up f0 0 (.int 1))))]) [0] rfl
  have hD9 := hD.sub (ws' := [(h0, .inr (0, xo_M (va_up f0 0 (.int 1))))]) [0] (by decide) rfl
  exact xk_vret (w1 := fun u : Unit => [(h0, .inr (0, xo_M (va_up f0 0 (.int 1))))]) () hx hb hr hlocks hK hS dn_M_set_87 hP9 hD9 trivial (Nat.le_refl _) (Nat.le_refl _)
set_option maxHeartbeats 4000000 in
set_option maxRecDepth 100000 in
theorem ct_M_step_0 (l : Launch) (dC : Nat → ClassId) (dI : Nat → Nat → Nat) (cI cB cJ cZ cQ : ClassId) (sz : Nat) (h0 : Nat) (f0 : Nat → Value) (hf0_54 : f0 54 = .int 0) : Met l yn_M_step (xw yn_M_step bn_M_step 2 (some .int)) ({ frames := 0, cells := 0, slots := 0, locals := 0 }) (xk_P (dC, dI) xcl (xt cI cB cJ cZ cQ) [.ref h0] sz [(h0, .inr (0, xo_M f0))]) (xk_Qi (dC, dI) xcl (xt cI cB cJ cZ cQ) (fun (r : Int32) (u : Unit) => r = 0) (fun u : Unit => [(h0, .inr (0, xo_M (va_up f0 0 (.int 1))))]) (va_A [(h0, .inr (0, xo_M f0))] sz)) 0 0 (va_A [(h0, .inr (0, xo_M f0))] sz) := by
  refine xk_of (QA := xk_Qi (dC, dI) xcl (xt cI cB cJ cZ cQ) (fun (r : Int32) (u : Unit) => r = 0) (fun u : Unit => [(h0, .inr (0, xo_M (va_up f0 0 (.int 1))))])) (by decide) (Nat.le_of_ble_eq_true rfl) ?_
  intro p e s m below meth c hx hb hml hown hg hr hlocks hin hP hK hN A hA hD hS ls hl
  have hown : s.vm.findClass rn_M = some m.cls := hown
  have hl : lv_has ls 2 [(0, .ref h0)] := hl
  obtain ⟨H, hH⟩ : ∃ z, z = s.heap := ⟨_, rfl⟩
  rw [← hH] at hP
  have hS : va_S A s.heap H [] := by rw [hH]; exact va_S.rf
  suffices kk : W p l e ({ frames := 0, cells := 0, slots := 0, locals := 0 }) s m [.ref h0].toArray below meth c H [] 0 0 (MQ below (xk_Qi (dC, dI) xcl (xt cI cB cJ cZ cQ) (fun (r : Int32) (u : Unit) => r = 0) (fun u : Unit => [(h0, .inr (0, xo_M (va_up f0 0 (.int 1))))]) A) [.ref h0].toArray s 0 0 A) (F0 m 0 ls []) by rw [hH] at kk; exact kk
  refine lv_aload_n hx hb dn_M_step_0 rfl (lv_at hl 0 rfl) ?_
  refine lv_aload_n hx hb dn_M_step_1 rfl (lv_at hl 0 rfl) ?_
  refine va_get (D := (dC, dI)) (ci := 0) (v := .int 0) (C := rn_M) (T := fn_M) (N := 91) hx hb hg in_M hown hK hP 0 rfl rfl 54 (by decide) (hg _ wn_8_122) (fun _ h9 => h9) (congrArg some hf0_54) dn_M_step_2 ?_
  refine lv_if_eq (tgt := 12) hx hb dn_M_step_5 (by decide) (fun _ => ?_) (fun h9 => absurd h9 (by decide))
  refine lv_iconst (v := 1) hx hb dn_M_step_12 (by decide) ?_
  refine va_put (D := (dC, dI)) (ci := 0) (v := .int 1) (ty := .int) (C := rn_M) (T := fn_M) (N := 91) hx hb hg in_M tn_M tk_M nn_M hown hK hP hD hS 0 rfl rfl 0 (by decide) (hg _ wn_8_68) (fun _ h9 => h9) rfl (tk_M 0 (by decide)) rfl rfl (Nat.le_of_ble_eq_true rfl) dn_M_step_13 (fun H locs hP hD hS => ?_)
  have hP : va_P (dC, dI) xcl [(h0, .inr (0, xo_M (va_up f0 0 (.int 1))))] H := hP
  have hD : va_D A [(h0, .inr (0, xo_M (va_up f0 0 (.int 1))))] := hD
  refine lv_aload_n hx hb dn_M_step_16 rfl (lv_at hl 0 rfl) ?_
  refine va_get (D := (dC, dI)) (ci := 0) (v := .int 1) (C := rn_M) (T := fn_M) (N := 91) hx hb hg in_M hown hK hP 0 rfl rfl 0 (by decide) (hg _ wn_8_68) (fun _ h9 => h9) rfl dn_M_step_17 ?_
  refine lv_if_le (tgt := 25) hx hb dn_M_step_20 (by decide) (fun h9 => absurd h9 (by decide)) (fun _ => ?_)
  refine lv_iconst (v := 0) hx hb dn_M_step_23 (by decide) ?_
  have hP9 := hP.sub (ws' := [(h0, .inr (0, xo_M (va_up f0 0 (.int 1))))]) [0] rfl
  have hD9 := hD.sub (ws' := [(h0, .inr (0, xo_M (va_up f0 0 (.int 1))))]) [0] (by decide) rfl
  exact xk_iret (w1 := fun u : Unit => [(h0, .inr (0, xo_M (va_up f0 0 (.int 1))))]) () hx hb hr hlocks hK hS dn_M_step_24 hP9 hD9 rfl (Nat.le_refl _) (Nat.le_refl _)
set_option maxHeartbeats 4000000 in
set_option maxRecDepth 100000 in
theorem ct_M_value_0 (l : Launch) (dC : Nat → ClassId) (dI : Nat → Nat → Nat) (cI cB cJ cZ cQ : ClassId) (sz : Nat) (h0 : Nat) (x0 : Int32) (f0 : Nat → Value) (hf0_54 : f0 54 = .int 0) : Met l yn_M_value (xw yn_M_value bn_M_value 2 (some .long)) ({ frames := 0, cells := 0, slots := 0, locals := 0 }) (xk_P (dC, dI) xcl (xt cI cB cJ cZ cQ) [.ref h0, .int x0] sz [(h0, .inr (0, xo_M f0))]) (xk_Ql (dC, dI) xcl (xt cI cB cJ cZ cQ) (fun (r : Int64) (u : Unit) => r = 0) (fun u : Unit => [(h0, .inr (0, xo_M (va_up f0 0 (.int 1))))]) (va_A [(h0, .inr (0, xo_M f0))] sz)) 0 0 (va_A [(h0, .inr (0, xo_M f0))] sz) := by
  refine xk_of (QA := xk_Ql (dC, dI) xcl (xt cI cB cJ cZ cQ) (fun (r : Int64) (u : Unit) => r = 0) (fun u : Unit => [(h0, .inr (0, xo_M (va_up f0 0 (.int 1))))])) (by decide) (Nat.le_of_ble_eq_true rfl) ?_
  intro p e s m below meth c hx hb hml hown hg hr hlocks hin hP hK hN A hA hD hS ls hl
  have hown : s.vm.findClass rn_M = some m.cls := hown
  have hl : lv_has ls 2 [(0, .ref h0), (1, .int x0)] := hl
  obtain ⟨H, hH⟩ : ∃ z, z = s.heap := ⟨_, rfl⟩
  rw [← hH] at hP
  have hS : va_S A s.heap H [] := by rw [hH]; exact va_S.rf
  suffices kk : W p l e ({ frames := 0, cells := 0, slots := 0, locals := 0 }) s m [.ref h0, .int x0].toArray below meth c H [] 0 0 (MQ below (xk_Ql (dC, dI) xcl (xt cI cB cJ cZ cQ) (fun (r : Int64) (u : Unit) => r = 0) (fun u : Unit => [(h0, .inr (0, xo_M (va_up f0 0 (.int 1))))]) A) [.ref h0, .int x0].toArray s 0 0 A) (F0 m 0 ls []) by rw [hH] at kk; exact kk
  refine lv_aload_n hx hb dn_M_value_0 rfl (lv_at hl 0 rfl) ?_
  refine lv_aload_n hx hb dn_M_value_1 rfl (lv_at hl 0 rfl) ?_
  refine va_get (D := (dC, dI)) (ci := 0) (v := .int 0) (C := rn_M) (T := fn_M) (N := 91) hx hb hg in_M hown hK hP 0 rfl rfl 54 (by decide) (hg _ wn_8_122) (fun _ h9 => h9) (congrArg some hf0_54) dn_M_value_2 ?_
  refine lv_if_ne (tgt := 12) hx hb dn_M_value_5 (by decide) (fun h9 => absurd h9 (by decide)) (fun _ => ?_)
  refine lv_iconst (v := 1) hx hb dn_M_value_8 (by decide) ?_
  refine lv_goto (tgt := 25) hx hb dn_M_value_9 (by decide) ?_
  refine va_put (D := (dC, dI)) (ci := 0) (v := .int 1) (ty := .int) (C := rn_M) (T := fn_M) (N := 91) hx hb hg in_M tn_M tk_M nn_M hown hK hP hD hS 0 rfl rfl 0 (by decide) (hg _ wn_8_68) (fun _ h9 => h9) rfl (tk_M 0 (by decide)) rfl rfl (Nat.le_of_ble_eq_true rfl) dn_M_value_25 (fun H locs hP hD hS => ?_)
  have hP : va_P (dC, dI) xcl [(h0, .inr (0, xo_M (va_up f0 0 (.int 1))))] H := hP
  have hD : va_D A [(h0, .inr (0, xo_M (va_up f0 0 (.int 1))))] := hD
  refine lv_aload_n hx hb dn_M_value_28 rfl (lv_at hl 0 rfl) ?_
  refine va_get (D := (dC, dI)) (ci := 0) (v := .int 1) (C := rn_M) (T := fn_M) (N := 91) hx hb hg in_M hown hK hP 0 rfl rfl 0 (by decide) (hg _ wn_8_68) (fun _ h9 => h9) rfl dn_M_value_29 ?_
  refine lv_if_le (tgt := 39) hx hb dn_M_value_32 (by decide) (fun h9 => absurd h9 (by decide)) (fun _ => ?_)
  refine lv_lconst (v := 0) hx hb dn_M_value_35 (by decide) ?_
  refine lv_goto (tgt := 45) hx hb dn_M_value_36 (by decide) ?_
  have hP9 := hP.sub (ws' := [(h0, .inr (0, xo_M (va_up f0 0 (.int 1))))]) [0] rfl
  have hD9 := hD.sub (ws' := [(h0, .inr (0, xo_M (va_up f0 0 (.int 1))))]) [0] (by decide) rfl
  exact xk_lret (w1 := fun u : Unit => [(h0, .inr (0, xo_M (va_up f0 0 (.int 1))))]) () hx hb hr hlocks hK hS dn_M_value_45 hP9 hD9 rfl (Nat.le_refl _) (Nat.le_refl _)
set_option maxHeartbeats 4000000 in
set_option maxRecDepth 100000 in
theorem ct_M_failing_0 (l : Launch) (dC : Nat → ClassId) (dI : Nat → Nat → Nat) (cI cB cJ cZ cQ : ClassId) (sz : Nat) (h0 : Nat) (f0 : Nat → Value) (hf0_54 : f0 54 = .int 0) : Met l yn_M_failing (xw yn_M_failing bn_M_failing 1 (some .int)) ({ frames := 0, cells := 0, slots := 0, locals := 0 }) (xk_P (dC, dI) xcl (xt cI cB cJ cZ cQ) [.ref h0] sz [(h0, .inr (0, xo_M f0))]) (xk_Qi (dC, dI) xcl (xt cI cB cJ cZ cQ) (fun (r : Int32) (u : Unit) => r = 0) (fun u : Unit => [(h0, .inr (0, xo_M (va_up f0 0 (.int 1))))]) (va_A [(h0, .inr (0, xo_M f0))] sz)) 0 0 (va_A [(h0, .inr (0, xo_M f0))] sz) := by
  refine xk_of (QA := xk_Qi (dC, dI) xcl (xt cI cB cJ cZ cQ) (fun (r : Int32) (u : Unit) => r = 0) (fun u : Unit => [(h0, .inr (0, xo_M (va_up f0 0 (.int 1))))])) (by decide) (Nat.le_of_ble_eq_true rfl) ?_
  intro p e s m below meth c hx hb hml hown hg hr hlocks hin hP hK hN A hA hD hS ls hl
  have hown : s.vm.findClass rn_M = some m.cls := hown
  have hl : lv_has ls 1 [(0, .ref h0)] := hl
  obtain ⟨H, hH⟩ : ∃ z, z = s.heap := ⟨_, rfl⟩
  rw [← hH] at hP
  have hS : va_S A s.heap H [] := by rw [hH]; exact va_S.rf
  suffices kk : W p l e ({ frames := 0, cells := 0, slots := 0, locals := 0 }) s m [.ref h0].toArray below meth c H [] 0 0 (MQ below (xk_Qi (dC, dI) xcl (xt cI cB cJ cZ cQ) (fun (r : Int32) (u : Unit) => r = 0) (fun u : Unit => [(h0, .inr (0, xo_M (va_up f0 0 (.int 1))))]) A) [.ref h0].toArray s 0 0 A) (F0 m 0 ls []) by rw [hH] at kk; exact kk
  refine lv_aload_n hx hb dn_M_failing_0 rfl (lv_at hl 0 rfl) ?_
  refine lv_aload_n hx hb dn_M_failing_1 rfl (lv_at hl 0 rfl) ?_
  refine va_get (D := (dC, dI)) (ci := 0) (v := .int 0) (C := rn_M) (T := fn_M) (N := 91) hx hb hg in_M hown hK hP 0 rfl rfl 54 (by decide) (hg _ wn_8_122) (fun _ h9 => h9) (congrArg some hf0_54) dn_M_failing_2 ?_
  refine lv_if_eq (tgt := 12) hx hb dn_M_failing_5 (by decide) (fun _ => ?_) (fun h9 => absurd h9 (by decide))
  refine lv_iconst (v := 1) hx hb dn_M_failing_12 (by decide) ?_
  refine va_put (D := (dC, dI)) (ci := 0) (v := .int 1) (ty := .int) (C := rn_M) (T := fn_M) (N := 91) hx hb hg in_M tn_M tk_M nn_M hown hK hP hD hS 0 rfl rfl 0 (by decide) (hg _ wn_8_68) (fun _ h9 => h9) rfl (tk_M 0 (by decide)) rfl rfl (Nat.le_of_ble_eq_true rfl) dn_M_failing_13 (fun H locs hP hD hS => ?_)
  have hP : va_P (dC, dI) xcl [(h0, .inr (0, xo_M (va_up f0 0 (.int 1))))] H := hP
  have hD : va_D A [(h0, .inr (0, xo_M (va_up f0 0 (.int 1))))] := hD
  refine lv_aload_n hx hb dn_M_failing_16 rfl (lv_at hl 0 rfl) ?_
  refine va_get (D := (dC, dI)) (ci := 0) (v := .int 1) (C := rn_M) (T := fn_M) (N := 91) hx hb hg in_M hown hK hP 0 rfl rfl 0 (by decide) (hg _ wn_8_68) (fun _ h9 => h9) rfl dn_M_failing_17 ?_
  refine lv_if_le (tgt := 27) hx hb dn_M_failing_20 (by decide) (fun h9 => absurd h9 (by decide)) (fun _ => ?_)
  refine lv_iconst (v := 0) hx hb dn_M_failing_23 (by decide) ?_
  refine lv_goto (tgt := 31) hx hb dn_M_failing_24 (by decide) ?_
  have hP9 := hP.sub (ws' := [(h0, .inr (0, xo_M (va_up f0 0 (.int 1))))]) [0] rfl
  have hD9 := hD.sub (ws' := [(h0, .inr (0, xo_M (va_up f0 0 (.int 1))))]) [0] (by decide) rfl
  exact xk_iret (w1 := fun u : Unit => [(h0, .inr (0, xo_M (va_up f0 0 (.int 1))))]) () hx hb hr hlocks hK hS dn_M_failing_31 hP9 hD9 rfl (Nat.le_refl _) (Nat.le_refl _)
set_option maxHeartbeats 4000000 in
set_option maxRecDepth 100000 in
theorem ct_M_end_0 (l : Launch) (dC : Nat → ClassId) (dI : Nat → Nat → Nat) (cI cB cJ cZ cQ : ClassId) (sz : Nat) (h0 : Nat) (f0 : Nat → Value) (hf0_88 : f0 88 = .int 0) : Met l yn_M_end (xw yn_M_end bn_M_end 2 none) ({ frames := 0, cells := 0, slots := 0, locals := 0 }) (xk_P (dC, dI) xcl (xt cI cB cJ cZ cQ) [.ref h0, .int 0] sz [(h0, .inr (0, xo_M f0))]) (xk_Qv (dC, dI) xcl (xt cI cB cJ cZ cQ) (fun u : Unit => True) (fun u : Unit => [(h0, .inr (0, xo_M (va_up (va_up f0 0 (.int 0)) 88 (.int 0))))]) (va_A [(h0, .inr (0, xo_M f0))] sz)) 0 0 (va_A [(h0, .inr (0, xo_M f0))] sz) := by
  refine xk_of (QA := xk_Qv (dC, dI) xcl (xt cI cB cJ cZ cQ) (fun u : Unit => True) (fun u : Unit => [(h0, .inr (0, xo_M (va_up (va_up f0 0 (.int 0)) 88 (.int 0))))])) (by decide) (Nat.le_of_ble_eq_true rfl) ?_
  intro p e s m below meth c hx hb hml hown hg hr hlocks hin hP hK hN A hA hD hS ls hl
  have hown : s.vm.findClass rn_M = some m.cls := hown
  have hl : lv_has ls 2 [(0, .ref h0), (1, .int 0)] := hl
  obtain ⟨H, hH⟩ : ∃ z, z = s.heap := ⟨_, rfl⟩
  rw [← hH] at hP
  have hS : va_S A s.heap H [] := by rw [hH]; exact va_S.rf
  suffices kk : W p l e ({ frames := 0, cells := 0, slots := 0, locals := 0 }) s m [.ref h0, .int 0].toArray below meth c H [] 0 0 (MQ below (xk_Qv (dC, dI) xcl (xt cI cB cJ cZ cQ) (fun u : Unit => True) (fun u : Unit => [(h0, .inr (0, xo_M (va_up (va_up f0 0 (.int 0)) 88 (.int 0))))]) A) [.ref h0, .int 0].toArray s 0 0 A) (F0 m 0 ls []) by rw [hH] at kk; exact kk
  refine lv_aload_n hx hb dn_M_end_0 rfl (lv_at hl 0 rfl) ?_
  refine lv_iload_n hx hb dn_M_end_1 rfl (lv_at hl 1 rfl) ?_
  refine lv_if_lt (tgt := 13) hx hb dn_M_end_2 (by decide) (fun h9 => absurd h9 (by decide)) (fun _ => ?_)
  refine lv_iload_n hx hb dn_M_end_5 rfl (lv_at hl 1 rfl) ?_
  refine lv_aload_n hx hb dn_M_end_6 rfl (lv_at hl 0 rfl) ?_
  refine va_get (D := (dC, dI)) (ci := 0) (v := .int 0) (C := rn_M) (T := fn_M) (N := 91) hx hb hg in_M hown hK hP 0 rfl rfl 88 (by decide) (hg _ wn_8_156) (fun _ h9 => h9) (congrArg some hf0_88) dn_M_end_7 ?_
  refine lv_icmp_le (tgt := 17) hx hb dn_M_end_10 (by decide) (fun _ => ?_) (fun h9 => absurd h9 (by decide))
  refine lv_iconst (v := 0) hx hb dn_M_end_17 (by decide) ?_
  refine va_put (D := (dC, dI)) (ci := 0) (v := .int 0) (ty := .int) (C := rn_M) (T := fn_M) (N := 91) hx hb hg in_M tn_M tk_M nn_M hown hK hP hD hS 0 rfl rfl 0 (by decide) (hg _ wn_8_68) (fun _ h9 => h9) rfl (tk_M 0 (by decide)) rfl rfl (Nat.le_of_ble_eq_true rfl) dn_M_end_18 (fun H locs hP hD hS => ?_)
  have hP : va_P (dC, dI) xcl [(h0, .inr (0, xo_M (va_up f0 0 (.int 0))))] H := hP
  have hD : va_D A [(h0, .inr (0, xo_M (va_up f0 0 (.int 0))))] := hD
  refine lv_aload_n hx hb dn_M_end_21 rfl (lv_at hl 0 rfl) ?_
  refine lv_aload_n hx hb dn_M_end_22 rfl (lv_at hl 0 rfl) ?_
  refine va_get (D := (dC, dI)) (ci := 0) (v := .int 0) (C := rn_M) (T := fn_M) (N := 91) hx hb hg in_M hown hK hP 0 rfl rfl 0 (by decide) (hg _ wn_8_68) (fun _ h9 => h9) rfl dn_M_end_23 ?_
  refine lv_if_le (tgt := 36) hx hb dn_M_end_26 (by decide) (fun _ => ?_) (fun h9 => absurd h9 (by decide))
  refine lv_iload_n hx hb dn_M_end_36 rfl (lv_at hl 1 rfl) ?_
  refine va_put (D := (dC, dI)) (ci := 0) (v := .int 0) (ty := .int) (C := rn_M) (T := fn_M) (N := 91) hx hb hg in_M tn_M tk_M nn_M hown hK hP hD hS 0 rfl rfl 88 (by decide) (hg _ wn_8_156) (fun _ h9 => h9) rfl (tk_M 88 (by decide)) rfl rfl (Nat.le_of_ble_eq_true rfl) dn_M_end_37 (fun H locs hP hD hS => ?_)
  have hP : va_P (dC, dI) xcl [(h0, .inr (0, xo_M (va_up (va_up f0 0 (.int 0)) 88 (.int 0))))] H := hP
  have hD : va_D A [(h0, .inr (0, xo_M (va_up (va_up f0 0 (.int 0)) 88 (.int 0))))] := hD
  have hP9 := hP.sub (ws' := [(h0, .inr (0, xo_M (va_up (va_up f0 0 (.int 0)) 88 (.int 0))))]) [0] rfl
  have hD9 := hD.sub (ws' := [(h0, .inr (0, xo_M (va_up (va_up f0 0 (.int 0)) 88 (.int 0))))]) [0] (by decide) rfl
  exact xk_vret (w1 := fun u : Unit => [(h0, .inr (0, xo_M (va_up (va_up f0 0 (.int 0)) 88 (.int 0))))]) () hx hb hr hlocks hK hS dn_M_end_40 hP9 hD9 trivial (Nat.le_refl _) (Nat.le_refl _)
set_option maxHeartbeats 4000000 in
set_option maxRecDepth 100000 in
theorem ct_M_end_1 (l : Launch) (dC : Nat → ClassId) (dI : Nat → Nat → Nat) (cI cB cJ cZ cQ : ClassId) (sz : Nat) (h0 : Nat) (x0 : Int32) (f0 : Nat → Value) (hf0_88 : f0 88 = .int 0) (hn : x0 < 0) : Met l yn_M_end (xw yn_M_end bn_M_end 2 none) ({ frames := 0, cells := 0, slots := 0, locals := 0 }) (xk_P (dC, dI) xcl (xt cI cB cJ cZ cQ) [.ref h0, .int x0] sz [(h0, .inr (0, xo_M f0))]) (xk_Qv (dC, dI) xcl (xt cI cB cJ cZ cQ) (fun u : Unit => True) (fun u : Unit => [(h0, .inr (0, xo_M (va_up (va_up f0 0 (.int 1)) 88 (.int 0))))]) (va_A [(h0, .inr (0, xo_M f0))] sz)) 0 0 (va_A [(h0, .inr (0, xo_M f0))] sz) := by
  refine xk_of (QA := xk_Qv (dC, dI) xcl (xt cI cB cJ cZ cQ) (fun u : Unit => True) (fun u : Unit => [(h0, .inr (0, xo_M (va_up (va_up f0 0 (.int 1)) 88 (.int 0))))])) (by decide) (Nat.le_of_ble_eq_true rfl) ?_
  intro p e s m below meth c hx hb hml hown hg hr hlocks hin hP hK hN A hA hD hS ls hl
  have hown : s.vm.findClass rn_M = some m.cls := hown
  have hl : lv_has ls 2 [(0, .ref h0), (1, .int x0)] := hl
  obtain ⟨H, hH⟩ : ∃ z, z = s.heap := ⟨_, rfl⟩
  rw [← hH] at hP
  have hS : va_S A s.heap H [] := by rw [hH]; exact va_S.rf
  suffices kk : W p l e ({ frames := 0, cells := 0, slots := 0, locals := 0 }) s m [.ref h0, .int x0].toArray below meth c H [] 0 0 (MQ below (xk_Qv (dC, dI) xcl (xt cI cB cJ cZ cQ) (fun u : Unit => True) (fun u : Unit => [(h0, .inr (0, xo_M (va_up (va_up f0 0 (.int 1)) 88 (.int 0))))]) A) [.ref h0, .int x0].toArray s 0 0 A) (F0 m 0 ls []) by rw [hH] at kk; exact kk
  refine lv_aload_n hx hb dn_M_end_0 rfl (lv_at hl 0 rfl) ?_
  refine lv_iload_n hx hb dn_M_end_1 rfl (lv_at hl 1 rfl) ?_
  refine lv_if_lt (tgt := 13) hx hb dn_M_end_2 (by decide) (fun _ => ?_) (fun h9 => absurd hn h9)
  refine lv_iconst (v := 1) hx hb dn_M_end_13 (by decide) ?_
  refine lv_goto (tgt := 18) hx hb dn_M_end_14 (by decide) ?_
  refine va_put (D := (dC, dI)) (ci := 0) (v := .int 1) (ty := .int) (C := rn_M) (T := fn_M) (N := 91) hx hb hg in_M tn_M tk_M nn_M hown hK hP hD hS 0 rfl rfl 0 (by decide) (hg _ wn_8_68) (fun _ h9 => h9) rfl (tk_M 0 (by decide)) rfl rfl (Nat.le_of_ble_eq_true rfl) dn_M_end_18 (fun H locs hP hD hS => ?_)
  have hP : va_P (dC, dI) xcl [(h0, .inr (0, xo_M (va_up f0 0 (.int 1))))] H := hP
  have hD : va_D A [(h0, .inr (0, xo_M (va_up f0 0 (.int 1))))] := hD
  refine lv_aload_n hx hb dn_M_end_21 rfl (lv_at hl 0 rfl) ?_
  refine lv_aload_n hx hb dn_M_end_22 rfl (lv_at hl 0 rfl) ?_
  refine va_get (D := (dC, dI)) (ci := 0) (v := .int 1) (C := rn_M) (T := fn_M) (N := 91) hx hb hg in_M hown hK hP 0 rfl rfl 0 (by decide) (hg _ wn_8_68) (fun _ h9 => h9) rfl dn_M_end_23 ?_
  refine lv_if_le (tgt := 36) hx hb dn_M_end_26 (by decide) (fun h9 => absurd h9 (by decide)) (fun _ => ?_)
  refine lv_aload_n hx hb dn_M_end_29 rfl (lv_at hl 0 rfl) ?_
  refine va_get (D := (dC, dI)) (ci := 0) (v := .int 0) (C := rn_M) (T := fn_M) (N := 91) hx hb hg in_M hown hK hP 0 rfl rfl 88 (by decide) (hg _ wn_8_156) (fun _ h9 => h9) (congrArg some hf0_88) dn_M_end_30 ?_
  refine lv_goto (tgt := 37) hx hb dn_M_end_33 (by decide) ?_
  refine va_put (D := (dC, dI)) (ci := 0) (v := .int 0) (ty := .int) (C := rn_M) (T := fn_M) (N := 91) hx hb hg in_M tn_M tk_M nn_M hown hK hP hD hS 0 rfl rfl 88 (by decide) (hg _ wn_8_156) (fun _ h9 => h9) rfl (tk_M 88 (by decide)) rfl rfl (Nat.le_of_ble_eq_true rfl) dn_M_end_37 (fun H locs hP hD hS => ?_)
  have hP : va_P (dC, dI) xcl [(h0, .inr (0, xo_M (va_up (va_up f0 0 (.int 1)) 88 (.int 0))))] H := hP
  have hD : va_D A [(h0, .inr (0, xo_M (va_up (va_up f0 0 (.int 1)) 88 (.int 0))))] := hD
  have hP9 := hP.sub (ws' := [(h0, .inr (0, xo_M (va_up (va_up f0 0 (.int 1)) 88 (.int 0))))]) [0] rfl
  have hD9 := hD.sub (ws' := [(h0, .inr (0, xo_M (va_up (va_up f0 0 (.int 1)) 88 (.int 0))))]) [0] (by decide) rfl
  exact xk_vret (w1 := fun u : Unit => [(h0, .inr (0, xo_M (va_up (va_up f0 0 (.int 1)) 88 (.int 0))))]) () hx hb hr hlocks hK hS dn_M_end_40 hP9 hD9 trivial (Nat.le_refl _) (Nat.le_refl _)
set_option maxHeartbeats 4000000 in
set_option maxRecDepth 100000 in
theorem ct_M_end_2 (l : Launch) (dC : Nat → ClassId) (dI : Nat → Nat → Nat) (cI cB cJ cZ cQ : ClassId) (sz : Nat) (h0 : Nat) (x0 : Int32) (f0 : Nat → Value) (hf0_88 : f0 88 = .int 0) (hn : ¬ x0 < 0) (hn2 : ¬ x0 ≤ 0) : Met l yn_M_end (xw yn_M_end bn_M_end 2 none) ({ frames := 0, cells := 0, slots := 0, locals := 0 }) (xk_P (dC, dI) xcl (xt cI cB cJ cZ cQ) [.ref h0, .int x0] sz [(h0, .inr (0, xo_M f0))]) (xk_Qv (dC, dI) xcl (xt cI cB cJ cZ cQ) (fun u : Unit => True) (fun u : Unit => [(h0, .inr (0, xo_M (va_up (va_up f0 0 (.int 1)) 88 (.int 0))))]) (va_A [(h0, .inr (0, xo_M f0))] sz)) 0 0 (va_A [(h0, .inr (0, xo_M f0))] sz) := by
  refine xk_of (QA := xk_Qv (dC, dI) xcl (xt cI cB cJ cZ cQ) (fun u : Unit => True) (fun u : Unit => [(h0, .inr (0, xo_M (va_up (va_up f0 0 (.int 1)) 88 (.int 0))))])) (by decide) (Nat.le_of_ble_eq_true rfl) ?_
  intro p e s m below meth c hx hb hml hown hg hr hlocks hin hP hK hN A hA hD hS ls hl
  have hown : s.vm.findClass rn_M = some m.cls := hown
  have hl : lv_has ls 2 [(0, .ref h0), (1, .int x0)] := hl
  obtain ⟨H, hH⟩ : ∃ z, z = s.heap := ⟨_, rfl⟩
  rw [← hH] at hP
  have hS : va_S A s.heap H [] := by rw [hH]; exact va_S.rf
  suffices kk : W p l e ({ frames := 0, cells := 0, slots := 0, locals := 0 }) s m [.ref h0, .int x0].toArray below meth c H [] 0 0 (MQ below (xk_Qv (dC, dI) xcl (xt cI cB cJ cZ cQ) (fun u : Unit => True) (fun u : Unit => [(h0, .inr (0, xo_M (va_up (va_up f0 0 (.int 1)) 88 (.int 0))))]) A) [.ref h0, .int x0].toArray s 0 0 A) (F0 m 0 ls []) by rw [hH] at kk; exact kk
  refine lv_aload_n hx hb dn_M_end_0 rfl (lv_at hl 0 rfl) ?_
  refine lv_iload_n hx hb dn_M_end_1 rfl (lv_at hl 1 rfl) ?_
  refine lv_if_lt (tgt := 13) hx hb dn_M_end_2 (by decide) (fun h9 => absurd h9 hn) (fun _ => ?_)
  refine lv_iload_n hx hb dn_M_end_5 rfl (lv_at hl 1 rfl) ?_
  refine lv_aload_n hx hb dn_M_end_6 rfl (lv_at hl 0 rfl) ?_
  refine va_get (D := (dC, dI)) (ci := 0) (v := .int 0) (C := rn_M) (T := fn_M) (N := 91) hx hb hg in_M hown hK hP 0 rfl rfl 88 (by decide) (hg _ wn_8_156) (fun _ h9 => h9) (congrArg some hf0_88) dn_M_end_7 ?_
  refine lv_icmp_le (tgt := 17) hx hb dn_M_end_10 (by decide) (fun h9 => absurd h9 hn2) (fun _ => ?_)
  refine lv_iconst (v := 1) hx hb dn_M_end_13 (by decide) ?_
  refine lv_goto (tgt := 18) hx hb dn_M_end_14 (by decide) ?_
  refine va_put (D := (dC, dI)) (ci := 0) (v := .int 1) (ty := .int) (C := rn_M) (T := fn_M) (N := 91) hx hb hg in_M tn_M tk_M nn_M hown hK hP hD hS 0 rfl rfl 0 (by decide) (hg _ wn_8_68) (fun _ h9 => h9) rfl (tk_M 0 (by decide)) rfl rfl (Nat.le_of_ble_eq_true rfl) dn_M_end_18 (fun H locs hP hD hS => ?_)
  have hP : va_P (dC, dI) xcl [(h0, .inr (0, xo_M (va_up f0 0 (.int 1))))] H := hP
  have hD : va_D A [(h0, .inr (0, xo_M (va_up f0 0 (.int 1))))] := hD
  refine lv_aload_n hx hb dn_M_end_21 rfl (lv_at hl 0 rfl) ?_
  refine lv_aload_n hx hb dn_M_end_22 rfl (lv_at hl 0 rfl) ?_
  refine va_get (D := (dC, dI)) (ci := 0) (v := .int 1) (C := rn_M) (T := fn_M) (N := 91) hx hb hg in_M hown hK hP 0 rfl rfl 0 (by decide) (hg _ wn_8_68) (fun _ h9 => h9) rfl dn_M_end_23 ?_
  refine lv_if_le (tgt := 36) hx hb dn_M_end_26 (by decide) (fun h9 => absurd h9 (by decide)) (fun _ => ?_)
  refine lv_aload_n hx hb dn_M_end_29 rfl (lv_at hl 0 rfl) ?_
  refine va_get (D := (dC, dI)) (ci := 0) (v := .int 0) (C := rn_M) (T := fn_M) (N := 91) hx hb hg in_M hown hK hP 0 rfl rfl 88 (by decide) (hg _ wn_8_156) (fun _ h9 => h9) (congrArg some hf0_88) dn_M_end_30 ?_
  refine lv_goto (tgt := 37) hx hb dn_M_end_33 (by decide) ?_
  refine va_put (D := (dC, dI)) (ci := 0) (v := .int 0) (ty := .int) (C := rn_M) (T := fn_M) (N := 91) hx hb hg in_M tn_M tk_M nn_M hown hK hP hD hS 0 rfl rfl 88 (by decide) (hg _ wn_8_156) (fun _ h9 => h9) rfl (tk_M 88 (by decide)) rfl rfl (Nat.le_of_ble_eq_true rfl) dn_M_end_37 (fun H locs hP hD hS => ?_)
  have hP : va_P (dC, dI) xcl [(h0, .inr (0, xo_M (va_up (va_up f0 0 (.int 1)) 88 (.int 0))))] H := hP
  have hD : va_D A [(h0, .inr (0, xo_M (va_up (va_up f0 0 (.int 1)) 88 (.int 0))))] := hD
  have hP9 := hP.sub (ws' := [(h0, .inr (0, xo_M (va_up (va_up f0 0 (.int 1)) 88 (.int 0))))]) [0] rfl
  have hD9 := hD.sub (ws' := [(h0, .inr (0, xo_M (va_up (va_up f0 0 (.int 1)) 88 (.int 0))))]) [0] (by decide) rfl
  exact xk_vret (w1 := fun u : Unit => [(h0, .inr (0, xo_M (va_up (va_up f0 0 (.int 1)) 88 (.int 0))))]) () hx hb hr hlocks hK hS dn_M_end_40 hP9 hD9 trivial (Nat.le_refl _) (Nat.le_refl _)
set_option maxHeartbeats 4000000 in
set_option maxRecDepth 100000 in
theorem ct_M_feed_0 (l : Launch) (dC : Nat → ClassId) (dI : Nat → Nat → Nat) (cI cB cJ cZ cQ : ClassId) (sz : Nat) (h0 : Nat) (h1 : Nat) (x0 : Int32) (x1 : Int32) (x2 : Int32) (x3 : Int32) (x4 : Int32) (f0 : Nat → Value) (hf0_1 : f0 1 = .ref h1) (hf0_88 : f0 88 = .int 0) : Met l yn_M_feed (xw yn_M_feed bn_M_feed 8 (some .int)) ({ frames := 0, cells := 0, slots := 0, locals := 0 }) (xk_P (dC, dI) xcl (xt cI cB cJ cZ cQ) [.ref h0, .int x0, .int x1, .int x2, .int x3, .int x4] sz [(h0, .inr (0, xo_M f0)), (h1, .inl (cB, 65536, .inl (fun _ => 0)))]) (xk_Qi (dC, dI) xcl (xt cI cB cJ cZ cQ) (fun (r : Int32) (u : (Nat → Int32)) => r = 20) (fun u : (Nat → Int32) => [(h0, .inr (0, xo_M (va_up (va_up f0 0 (.int 0)) 88 (.int 20)))), (h1, .inl (cB, 65536, .inl u))]) (va_A [(h0, .inr (0, xo_M f0)), (h1, .inl (cB, 65536, .inl (fun _ => 0)))] sz)) 0 0 (va_A [(h0, .inr (0, xo_M f0)), (h1, .inl (cB, 65536, .inl (fun _ => 0)))] sz) := by
  refine xk_of (QA := xk_Qi (dC, dI) xcl (xt cI cB cJ cZ cQ) (fun (r : Int32) (u : (Nat → Int32)) => r = 20) (fun u : (Nat → Int32) => [(h0, .inr (0, xo_M (va_up (va_up f0 0 (.int 0)) 88 (.int 20)))), (h1, .inl (cB, 65536, .inl u))])) (by decide) (Nat.le_of_ble_eq_true rfl) ?_
  intro p e s m below meth c hx hb hml hown hg hr hlocks hin hP hK hN A hA hD hS ls hl
  have hown : s.vm.findClass rn_M = some m.cls := hown
  have hl : lv_has ls 8 [(0, .ref h0), (1, .int x0), (2, .int x1), (3, .int x2), (4, .int x3), (5, .int x4)] := hl
  obtain ⟨H, hH⟩ : ∃ z, z = s.heap := ⟨_, rfl⟩
  rw [← hH] at hP
  have hS : va_S A s.heap H [] := by rw [hH]; exact va_S.rf
  suffices kk : W p l e ({ frames := 0, cells := 0, slots := 0, locals := 0 }) s m [.ref h0, .int x0, .int x1, .int x2, .int x3, .int x4].toArray below meth c H [] 0 0 (MQ below (xk_Qi (dC, dI) xcl (xt cI cB cJ cZ cQ) (fun (r : Int32) (u : (Nat → Int32)) => r = 20) (fun u : (Nat → Int32) => [(h0, .inr (0, xo_M (va_up (va_up f0 0 (.int 0)) 88 (.int 20)))), (h1, .inl (cB, 65536, .inl u))]) A) [.ref h0, .int x0, .int x1, .int x2, .int x3, .int x4].toArray s 0 0 A) (F0 m 0 ls []) by rw [hH] at kk; exact kk
  refine lv_aload_n hx hb dn_M_feed_0 rfl (lv_at hl 0 rfl) ?_
  refine lv_aload_n hx hb dn_M_feed_1 rfl (lv_at hl 0 rfl) ?_
  refine va_get (D := (dC, dI)) (ci := 0) (v := .int 0) (C := rn_M) (T := fn_M) (N := 91) hx hb hg in_M hown hK hP 0 rfl rfl 88 (by decide) (hg _ wn_8_156) (fun _ h9 => h9) (congrArg some hf0_88) dn_M_feed_2 ?_
  refine lv_bipush (v := 20) hx hb dn_M_feed_5 (by decide) ?_
  refine lv_iadd hx hb dn_M_feed_7 ?_
  refine xk_ti (y := 20) (by decide) ?_
  refine lv_aload_n hx hb dn_M_feed_8 rfl (lv_at hl 0 rfl) ?_
  refine va_get (D := (dC, dI)) (ci := 0) (v := .ref h1) (C := rn_M) (T := fn_M) (N := 91) hx hb hg in_M hown hK hP 0 rfl rfl 1 (by decide) (hg _ wn_8_69) (fun _ h9 => h9) (congrArg some hf0_1) dn_M_feed_9 ?_
  refine va_alen (v := 65536) hx hb hK hP 1 1 rfl rfl rfl dn_M_feed_12 ?_
  refine lv_icmp_le (tgt := 20) hx hb dn_M_feed_13 (by decide) (fun _ => ?_) (fun h9 => absurd h9 (by decide))
  refine lv_iconst (v := 0) hx hb dn_M_feed_20 (by decide) ?_
  refine va_put (D := (dC, dI)) (ci := 0) (v := .int 0) (ty := .int) (C := rn_M) (T := fn_M) (N := 91) hx hb hg in_M tn_M tk_M nn_M hown hK hP hD hS 0 rfl rfl 0 (by decide) (hg _ wn_8_68) (fun _ h9 => h9) rfl (tk_M 0 (by decide)) rfl rfl (Nat.le_of_ble_eq_true rfl) dn_M_feed_21 (fun H locs hP hD hS => ?_)
  have hP : va_P (dC, dI) xcl [(h0, .inr (0, xo_M (va_up f0 0 (.int 0)))), (h1, .inl (cB, 65536, .inl (fun _ => 0)))] H := hP
  have hD : va_D A [(h0, .inr (0, xo_M (va_up f0 0 (.int 0)))), (h1, .inl (cB, 65536, .inl (fun _ => 0)))] := hD
  refine lv_aload_n hx hb dn_M_feed_24 rfl (lv_at hl 0 rfl) ?_
  refine va_get (D := (dC, dI)) (ci := 0) (v := .int 0) (C := rn_M) (T := fn_M) (N := 91) hx hb hg in_M hown hK hP 0 rfl rfl 0 (by decide) (hg _ wn_8_68) (fun _ h9 => h9) rfl dn_M_feed_25 ?_
  refine lv_if_le (tgt := 33) hx hb dn_M_feed_28 (by decide) (fun _ => ?_) (fun h9 => absurd h9 (by decide))
  refine lv_iconst (v := 0) hx hb dn_M_feed_33 (by decide) ?_
  refine lv_istore (lv' := [(6, .int 0), (0, .ref h0), (1, .int x0), (2, .int x1), (3, .int x2), (4, .int x3), (5, .int x4)]) hx hb dn_M_feed_34 hl (by decide) rfl (fun ls hl => ?_)
  refine lv_iload hx hb dn_M_feed_36 (lv_at hl 0 rfl) ?_
  refine lv_bipush (v := 20) hx hb dn_M_feed_38 (by decide) ?_
  refine lv_icmp_ge (tgt := 123) hx hb dn_M_feed_40 (by decide) (fun h9 => absurd h9 (by decide)) (fun _ => ?_)
  refine lv_iload hx hb dn_M_feed_43 (lv_at hl 0 rfl) ?_
  refine lv_iconst (v := 4) hx hb dn_M_feed_45 (by decide) ?_
  refine lv_icmp_ge (tgt := 53) hx hb dn_M_feed_46 (by decide) (fun h9 => absurd h9 (by decide)) (fun _ => ?_)
  refine lv_iload_n hx hb dn_M_feed_49 rfl (lv_at hl 2 rfl) ?_
  refine lv_goto (tgt := 89) hx hb dn_M_feed_50 (by decide) ?_
  refine lv_istore (lv' := [(7, .int x0), (6, .int 0), (0, .ref h0), (1, .int x0), (2, .int x1), (3, .int x2), (4, .int x3), (5, .int x4)]) hx hb dn_M_feed_89 hl (by decide) rfl (fun ls hl => ?_)
  refine lv_aload_n hx hb dn_M_feed_91 rfl (lv_at hl 2 rfl) ?_
  refine va_get (D := (dC, dI)) (ci := 0) (v := .ref h1) (C := rn_M) (T := fn_M) (N := 91) hx hb hg in_M hown hK hP 0 rfl rfl 1 (by decide) (hg _ wn_8_69) (fun _ h9 => h9) (congrArg some hf0_1) dn_M_feed_92 ?_
  refine lv_aload_n hx hb dn_M_feed_95 rfl (lv_at hl 2 rfl) ?_
  refine va_get (D := (dC, dI)) (ci := 0) (v := .int 0) (C := rn_M) (T := fn_M) (N := 91) hx hb hg in_M hown hK hP 0 rfl rfl 88 (by decide) (hg _ wn_8_156) (fun _ h9 => h9) (congrArg some hf0_88) dn_M_feed_96 ?_
  refine lv_iload hx hb dn_M_feed_99 (lv_at hl 1 rfl) ?_
  refine lv_iadd hx hb dn_M_feed_101 ?_
  refine xk_ti (y := 0) (by decide) ?_
  refine lv_iload hx hb dn_M_feed_102 (lv_at hl 0 rfl) ?_
  refine lv_bipush (v := 24) hx hb dn_M_feed_104 (by decide) ?_
  refine lv_bipush (v := 8) hx hb dn_M_feed_106 (by decide) ?_
  refine lv_iload hx hb dn_M_feed_108 (lv_at hl 1 rfl) ?_
  refine lv_iconst (v := 4) hx hb dn_M_feed_110 (by decide) ?_
  refine lv_irem hx hb dn_M_feed_111 (by decide) ?_
  refine xk_ti (y := 0) (by decide) ?_
  refine lv_imul hx hb dn_M_feed_112 ?_
  refine xk_ti (y := 0) (by decide) ?_
  refine lv_isub hx hb dn_M_feed_113 ?_
  refine xk_ti (y := 24) (by decide) ?_
  refine lv_ishr hx hb dn_M_feed_114 ?_
  refine lv_topi (fun z_1 _ => ?_)
  refine lv_i2b hx hb dn_M_feed_115 rfl ?_
  refine lv_topi (fun z_2 ez_2 => ?_)
  refine va_bast hx hb hK hP hD hS 1 1 rfl rfl (show ¬ (_ ∨ _) by decide) dn_M_feed_116 (fun H locs hP hD hS => ?_)
  obtain ⟨g_3, eg_3⟩ : ∃ z : Nat → Int32, z = upd (fun _ => 0) (0 : Int32).toNatClampNeg (vp_nar .byte z_2) := ⟨_, rfl⟩
  have hP : va_P (dC, dI) xcl [(h0, .inr (0, xo_M (va_up f0 0 (.int 0)))), (h1, .inl (cB, 65536, .inl g_3))] H := by rw [eg_3]; exact hP
  have hD : va_D A [(h0, .inr (0, xo_M (va_up f0 0 (.int 0)))), (h1, .inl (cB, 65536, .inl g_3))] := by rw [eg_3]; exact hD
  refine lv_iinc (v := 1) (lv' := [(6, .int 1), (7, .int x0), (0, .ref h0), (1, .int x0), (2, .int x1), (3, .int x2), (4, .int x3), (5, .int x4)]) hx hb dn_M_feed_117 hl (k := 1) rfl (by decide) (by decide) rfl (fun ls hl => ?_)
  refine lv_goto (tgt := 36) hx hb dn_M_feed_120 (by decide) ?_
  refine lv_iload hx hb dn_M_feed_36 (lv_at hl 0 rfl) ?_
  refine lv_bipush (v := 20) hx hb dn_M_feed_38 (by decide) ?_
  refine lv_icmp_ge (tgt := 123) hx hb dn_M_feed_40 (by decide) (fun h9 => absurd h9 (by decide)) (fun _ => ?_)
  refine lv_iload hx hb dn_M_feed_43 (lv_at hl 0 rfl) ?_
  refine lv_iconst (v := 4) hx hb dn_M_feed_45 (by decide) ?_
  refine lv_icmp_ge (tgt := 53) hx hb dn_M_feed_46 (by decide) (fun h9 => absurd h9 (by decide)) (fun _ => ?_)
  refine lv_iload_n hx hb dn_M_feed_49 rfl (lv_at hl 3 rfl) ?_
  refine lv_goto (tgt := 89) hx hb dn_M_feed_50 (by decide) ?_
  refine lv_istore (lv' := [(7, .int x0), (6, .int 1), (0, .ref h0), (1, .int x0), (2, .int x1), (3, .int x2), (4, .int x3), (5, .int x4)]) hx hb dn_M_feed_89 hl (by decide) rfl (fun ls hl => ?_)
  refine lv_aload_n hx hb dn_M_feed_91 rfl (lv_at hl 2 rfl) ?_
  refine va_get (D := (dC, dI)) (ci := 0) (v := .ref h1) (C := rn_M) (T := fn_M) (N := 91) hx hb hg in_M hown hK hP 0 rfl rfl 1 (by decide) (hg _ wn_8_69) (fun _ h9 => h9) (congrArg some hf0_1) dn_M_feed_92 ?_
  refine lv_aload_n hx hb dn_M_feed_95 rfl (lv_at hl 2 rfl) ?_
  refine va_get (D := (dC, dI)) (ci := 0) (v := .int 0) (C := rn_M) (T := fn_M) (N := 91) hx hb hg in_M hown hK hP 0 rfl rfl 88 (by decide) (hg _ wn_8_156) (fun _ h9 => h9) (congrArg some hf0_88) dn_M_feed_96 ?_
  refine lv_iload hx hb dn_M_feed_99 (lv_at hl 1 rfl) ?_
  refine lv_iadd hx hb dn_M_feed_101 ?_
  refine xk_ti (y := 1) (by decide) ?_
  refine lv_iload hx hb dn_M_feed_102 (lv_at hl 0 rfl) ?_
  refine lv_bipush (v := 24) hx hb dn_M_feed_104 (by decide) ?_
  refine lv_bipush (v := 8) hx hb dn_M_feed_106 (by decide) ?_
  refine lv_iload hx hb dn_M_feed_108 (lv_at hl 1 rfl) ?_
  refine lv_iconst (v := 4) hx hb dn_M_feed_110 (by decide) ?_
  refine lv_irem hx hb dn_M_feed_111 (by decide) ?_
  refine xk_ti (y := 1) (by decide) ?_
  refine lv_imul hx hb dn_M_feed_112 ?_
  refine xk_ti (y := 8) (by decide) ?_
  refine lv_isub hx hb dn_M_feed_113 ?_
  refine xk_ti (y := 16) (by decide) ?_
  refine lv_ishr hx hb dn_M_feed_114 ?_
  refine lv_topi (fun z_4 _ => ?_)
  refine lv_i2b hx hb dn_M_feed_115 rfl ?_
  refine lv_topi (fun z_5 ez_5 => ?_)
  refine va_bast hx hb hK hP hD hS 1 1 rfl rfl (show ¬ (_ ∨ _) by decide) dn_M_feed_116 (fun H locs hP hD hS => ?_)
  obtain ⟨g_6, eg_6⟩ : ∃ z : Nat → Int32, z = upd g_3 (1 : Int32).toNatClampNeg (vp_nar .byte z_5) := ⟨_, rfl⟩
  have hP : va_P (dC, dI) xcl [(h0, .inr (0, xo_M (va_up f0 0 (.int 0)))), (h1, .inl (cB, 65536, .inl g_6))] H := by rw [eg_6]; exact hP
  have hD : va_D A [(h0, .inr (0, xo_M (va_up f0 0 (.int 0)))), (h1, .inl (cB, 65536, .inl g_6))] := by rw [eg_6]; exact hD
  refine lv_iinc (v := 2) (lv' := [(6, .int 2), (7, .int x0), (0, .ref h0), (1, .int x0), (2, .int x1), (3, .int x2), (4, .int x3), (5, .int x4)]) hx hb dn_M_feed_117 hl (k := 1) rfl (by decide) (by decide) rfl (fun ls hl => ?_)
  refine lv_goto (tgt := 36) hx hb dn_M_feed_120 (by decide) ?_
  refine lv_iload hx hb dn_M_feed_36 (lv_at hl 0 rfl) ?_
  refine lv_bipush (v := 20) hx hb dn_M_feed_38 (by decide) ?_
  refine lv_icmp_ge (tgt := 123) hx hb dn_M_feed_40 (by decide) (fun h9 => absurd h9 (by decide)) (fun _ => ?_)
  refine lv_iload hx hb dn_M_feed_43 (lv_at hl 0 rfl) ?_
  refine lv_iconst (v := 4) hx hb dn_M_feed_45 (by decide) ?_
  refine lv_icmp_ge (tgt := 53) hx hb dn_M_feed_46 (by decide) (fun h9 => absurd h9 (by decide)) (fun _ => ?_)
  refine lv_iload_n hx hb dn_M_feed_49 rfl (lv_at hl 3 rfl) ?_
  refine lv_goto (tgt := 89) hx hb dn_M_feed_50 (by decide) ?_
  refine lv_istore (lv' := [(7, .int x0), (6, .int 2), (0, .ref h0), (1, .int x0), (2, .int x1), (3, .int x2), (4, .int x3), (5, .int x4)]) hx hb dn_M_feed_89 hl (by decide) rfl (fun ls hl => ?_)
  refine lv_aload_n hx hb dn_M_feed_91 rfl (lv_at hl 2 rfl) ?_
  refine va_get (D := (dC, dI)) (ci := 0) (v := .ref h1) (C := rn_M) (T := fn_M) (N := 91) hx hb hg in_M hown hK hP 0 rfl rfl 1 (by decide) (hg _ wn_8_69) (fun _ h9 => h9) (congrArg some hf0_1) dn_M_feed_92 ?_
  refine lv_aload_n hx hb dn_M_feed_95 rfl (lv_at hl 2 rfl) ?_
  refine va_get (D := (dC, dI)) (ci := 0) (v := .int 0) (C := rn_M) (T := fn_M) (N := 91) hx hb hg in_M hown hK hP 0 rfl rfl 88 (by decide) (hg _ wn_8_156) (fun _ h9 => h9) (congrArg some hf0_88) dn_M_feed_96 ?_
  refine lv_iload hx hb dn_M_feed_99 (lv_at hl 1 rfl) ?_
  refine lv_iadd hx hb dn_M_feed_101 ?_
  refine xk_ti (y := 2) (by decide) ?_
  refine lv_iload hx hb dn_M_feed_102 (lv_at hl 0 rfl) ?_
  refine lv_bipush (v := 24) hx hb dn_M_feed_104 (by decide) ?_
  refine lv_bipush (v := 8) hx hb dn_M_feed_106 (by decide) ?_
  refine lv_iload hx hb dn_M_feed_108 (lv_at hl 1 rfl) ?_
  refine lv_iconst (v := 4) hx hb dn_M_feed_110 (by decide) ?_
  refine lv_irem hx hb dn_M_feed_111 (by decide) ?_
  refine xk_ti (y := 2) (by decide) ?_
  refine lv_imul hx hb dn_M_feed_112 ?_
  refine xk_ti (y := 16) (by decide) ?_
  refine lv_isub hx hb dn_M_feed_113 ?_
  refine xk_ti (y := 8) (by decide) ?_
  refine lv_ishr hx hb dn_M_feed_114 ?_
  refine lv_topi (fun z_7 _ => ?_)
  refine lv_i2b hx hb dn_M_feed_115 rfl ?_
  refine lv_topi (fun z_8 ez_8 => ?_)
  refine va_bast hx hb hK hP hD hS 1 1 rfl rfl (show ¬ (_ ∨ _) by decide) dn_M_feed_116 (fun H locs hP hD hS => ?_)
  obtain ⟨g_9, eg_9⟩ : ∃ z : Nat → Int32, z = upd g_6 (2 : Int32).toNatClampNeg (vp_nar .byte z_8) := ⟨_, rfl⟩
  have hP : va_P (dC, dI) xcl [(h0, .inr (0, xo_M (va_up f0 0 (.int 0)))), (h1, .inl (cB, 65536, .inl g_9))] H := by rw [eg_9]; exact hP
  have hD : va_D A [(h0, .inr (0, xo_M (va_up f0 0 (.int 0)))), (h1, .inl (cB, 65536, .inl g_9))] := by rw [eg_9]; exact hD
  refine lv_iinc (v := 3) (lv' := [(6, .int 3), (7, .int x0), (0, .ref h0), (1, .int x0), (2, .int x1), (3, .int x2), (4, .int x3), (5, .int x4)]) hx hb dn_M_feed_117 hl (k := 1) rfl (by decide) (by decide) rfl (fun ls hl => ?_)
  refine lv_goto (tgt := 36) hx hb dn_M_feed_120 (by decide) ?_
  refine lv_iload hx hb dn_M_feed_36 (lv_at hl 0 rfl) ?_
  refine lv_bipush (v := 20) hx hb dn_M_feed_38 (by decide) ?_
  refine lv_icmp_ge (tgt := 123) hx hb dn_M_feed_40 (by decide) (fun h9 => absurd h9 (by decide)) (fun _ => ?_)
  refine lv_iload hx hb dn_M_feed_43 (lv_at hl 0 rfl) ?_
  refine lv_iconst (v := 4) hx hb dn_M_feed_45 (by decide) ?_
  refine lv_icmp_ge (tgt := 53) hx hb dn_M_feed_46 (by decide) (fun h9 => absurd h9 (by decide)) (fun _ => ?_)
  refine lv_iload_n hx hb dn_M_feed_49 rfl (lv_at hl 3 rfl) ?_
  refine lv_goto (tgt := 89) hx hb dn_M_feed_50 (by decide) ?_
  refine lv_istore (lv' := [(7, .int x0), (6, .int 3), (0, .ref h0), (1, .int x0), (2, .int x1), (3, .int x2), (4, .int x3), (5, .int x4)]) hx hb dn_M_feed_89 hl (by decide) rfl (fun ls hl => ?_)
  refine lv_aload_n hx hb dn_M_feed_91 rfl (lv_at hl 2 rfl) ?_
  refine va_get (D := (dC, dI)) (ci := 0) (v := .ref h1) (C := rn_M) (T := fn_M) (N := 91) hx hb hg in_M hown hK hP 0 rfl rfl 1 (by decide) (hg _ wn_8_69) (fun _ h9 => h9) (congrArg some hf0_1) dn_M_feed_92 ?_
  refine lv_aload_n hx hb dn_M_feed_95 rfl (lv_at hl 2 rfl) ?_
  refine va_get (D := (dC, dI)) (ci := 0) (v := .int 0) (C := rn_M) (T := fn_M) (N := 91) hx hb hg in_M hown hK hP 0 rfl rfl 88 (by decide) (hg _ wn_8_156) (fun _ h9 => h9) (congrArg some hf0_88) dn_M_feed_96 ?_
  refine lv_iload hx hb dn_M_feed_99 (lv_at hl 1 rfl) ?_
  refine lv_iadd hx hb dn_M_feed_101 ?_
  refine xk_ti (y := 3) (by decide) ?_
  refine lv_iload hx hb dn_M_feed_102 (lv_at hl 0 rfl) ?_
  refine lv_bipush (v := 24) hx hb dn_M_feed_104 (by decide) ?_
  refine lv_bipush (v := 8) hx hb dn_M_feed_106 (by decide) ?_
  refine lv_iload hx hb dn_M_feed_108 (lv_at hl 1 rfl) ?_
  refine lv_iconst (v := 4) hx hb dn_M_feed_110 (by decide) ?_
  refine lv_irem hx hb dn_M_feed_111 (by decide) ?_
  refine xk_ti (y := 3) (by decide) ?_
  refine lv_imul hx hb dn_M_feed_112 ?_
  refine xk_ti (y := 24) (by decide) ?_
  refine lv_isub hx hb dn_M_feed_113 ?_
  refine xk_ti (y := 0) (by decide) ?_
  refine lv_ishr hx hb dn_M_feed_114 ?_
  refine lv_topi (fun z_10 _ => ?_)
  refine lv_i2b hx hb dn_M_feed_115 rfl ?_
  refine lv_topi (fun z_11 ez_11 => ?_)
  refine va_bast hx hb hK hP hD hS 1 1 rfl rfl (show ¬ (_ ∨ _) by decide) dn_M_feed_116 (fun H locs hP hD hS => ?_)
  obtain ⟨g_12, eg_12⟩ : ∃ z : Nat → Int32, z = upd g_9 (3 : Int32).toNatClampNeg (vp_nar .byte z_11) := ⟨_, rfl⟩
  have hP : va_P (dC, dI) xcl [(h0, .inr (0, xo_M (va_up f0 0 (.int 0)))), (h1, .inl (cB, 65536, .inl g_12))] H := by rw [eg_12]; exact hP
  have hD : va_D A [(h0, .inr (0, xo_M (va_up f0 0 (.int 0)))), (h1, .inl (cB, 65536, .inl g_12))] := by rw [eg_12]; exact hD
  refine lv_iinc (v := 4) (lv' := [(6, .int 4), (7, .int x0), (0, .ref h0), (1, .int x0), (2, .int x1), (3, .int x2), (4, .int x3), (5, .int x4)]) hx hb dn_M_feed_117 hl (k := 1) rfl (by decide) (by decide) rfl (fun ls hl => ?_)
  refine lv_goto (tgt := 36) hx hb dn_M_feed_120 (by decide) ?_
  refine lv_iload hx hb dn_M_feed_36 (lv_at hl 0 rfl) ?_
  refine lv_bipush (v := 20) hx hb dn_M_feed_38 (by decide) ?_
  refine lv_icmp_ge (tgt := 123) hx hb dn_M_feed_40 (by decide) (fun h9 => absurd h9 (by decide)) (fun _ => ?_)
  refine lv_iload hx hb dn_M_feed_43 (lv_at hl 0 rfl) ?_
  refine lv_iconst (v := 4) hx hb dn_M_feed_45 (by decide) ?_
  refine lv_icmp_ge (tgt := 53) hx hb dn_M_feed_46 (by decide) (fun _ => ?_) (fun h9 => absurd h9 (by decide))
  refine lv_iload hx hb dn_M_feed_53 (lv_at hl 0 rfl) ?_
  refine lv_bipush (v := 8) hx hb dn_M_feed_55 (by decide) ?_
  refine lv_icmp_ge (tgt := 64) hx hb dn_M_feed_57 (by decide) (fun h9 => absurd h9 (by decide)) (fun _ => ?_)
  refine lv_iload_n hx hb dn_M_feed_60 rfl (lv_at hl 4 rfl) ?_
  refine lv_goto (tgt := 89) hx hb dn_M_feed_61 (by decide) ?_
  refine lv_istore (lv' := [(7, .int x1), (6, .int 4), (0, .ref h0), (1, .int x0), (2, .int x1), (3, .int x2), (4, .int x3), (5, .int x4)]) hx hb dn_M_feed_89 hl (by decide) rfl (fun ls hl => ?_)
  refine lv_aload_n hx hb dn_M_feed_91 rfl (lv_at hl 2 rfl) ?_
  refine va_get (D := (dC, dI)) (ci := 0) (v := .ref h1) (C := rn_M) (T := fn_M) (N := 91) hx hb hg in_M hown hK hP 0 rfl rfl 1 (by decide) (hg _ wn_8_69) (fun _ h9 => h9) (congrArg some hf0_1) dn_M_feed_92 ?_
  refine lv_aload_n hx hb dn_M_feed_95 rfl (lv_at hl 2 rfl) ?_
  refine va_get (D := (dC, dI)) (ci := 0) (v := .int 0) (C := rn_M) (T := fn_M) (N := 91) hx hb hg in_M hown hK hP 0 rfl rfl 88 (by decide) (hg _ wn_8_156) (fun _ h9 => h9) (congrArg some hf0_88) dn_M_feed_96 ?_
  refine lv_iload hx hb dn_M_feed_99 (lv_at hl 1 rfl) ?_
  refine lv_iadd hx hb dn_M_feed_101 ?_
  refine xk_ti (y := 4) (by decide) ?_
  refine lv_iload hx hb dn_M_feed_102 (lv_at hl 0 rfl) ?_
  refine lv_bipush (v := 24) hx hb dn_M_feed_104 (by decide) ?_
  refine lv_bipush (v := 8) hx hb dn_M_feed_106 (by decide) ?_
  refine lv_iload hx hb dn_M_feed_108 (lv_at hl 1 rfl) ?_
  refine lv_iconst (v := 4) hx hb dn_M_feed_110 (by decide) ?_
  refine lv_irem hx hb dn_M_feed_111 (by decide) ?_
  refine xk_ti (y := 0) (by decide) ?_
  refine lv_imul hx hb dn_M_feed_112 ?_
  refine xk_ti (y := 0) (by decide) ?_
  refine lv_isub hx hb dn_M_feed_113 ?_
  refine xk_ti (y := 24) (by decide) ?_
  refine lv_ishr hx hb dn_M_feed_114 ?_
  refine lv_topi (fun z_13 _ => ?_)
  refine lv_i2b hx hb dn_M_feed_115 rfl ?_
  refine lv_topi (fun z_14 ez_14 => ?_)
  refine va_bast hx hb hK hP hD hS 1 1 rfl rfl (show ¬ (_ ∨ _) by decide) dn_M_feed_116 (fun H locs hP hD hS => ?_)
  obtain ⟨g_15, eg_15⟩ : ∃ z : Nat → Int32, z = upd g_12 (4 : Int32).toNatClampNeg (vp_nar .byte z_14) := ⟨_, rfl⟩
  have hP : va_P (dC, dI) xcl [(h0, .inr (0, xo_M (va_up f0 0 (.int 0)))), (h1, .inl (cB, 65536, .inl g_15))] H := by rw [eg_15]; exact hP
  have hD : va_D A [(h0, .inr (0, xo_M (va_up f0 0 (.int 0)))), (h1, .inl (cB, 65536, .inl g_15))] := by rw [eg_15]; exact hD
  refine lv_iinc (v := 5) (lv' := [(6, .int 5), (7, .int x1), (0, .ref h0), (1, .int x0), (2, .int x1), (3, .int x2), (4, .int x3), (5, .int x4)]) hx hb dn_M_feed_117 hl (k := 1) rfl (by decide) (by decide) rfl (fun ls hl => ?_)
  refine lv_goto (tgt := 36) hx hb dn_M_feed_120 (by decide) ?_
  refine lv_iload hx hb dn_M_feed_36 (lv_at hl 0 rfl) ?_
  refine lv_bipush (v := 20) hx hb dn_M_feed_38 (by decide) ?_
  refine lv_icmp_ge (tgt := 123) hx hb dn_M_feed_40 (by decide) (fun h9 => absurd h9 (by decide)) (fun _ => ?_)
  refine lv_iload hx hb dn_M_feed_43 (lv_at hl 0 rfl) ?_
  refine lv_iconst (v := 4) hx hb dn_M_feed_45 (by decide) ?_
  refine lv_icmp_ge (tgt := 53) hx hb dn_M_feed_46 (by decide) (fun _ => ?_) (fun h9 => absurd h9 (by decide))
  refine lv_iload hx hb dn_M_feed_53 (lv_at hl 0 rfl) ?_
  refine lv_bipush (v := 8) hx hb dn_M_feed_55 (by decide) ?_
  refine lv_icmp_ge (tgt := 64) hx hb dn_M_feed_57 (by decide) (fun h9 => absurd h9 (by decide)) (fun _ => ?_)
  refine lv_iload_n hx hb dn_M_feed_60 rfl (lv_at hl 4 rfl) ?_
  refine lv_goto (tgt := 89) hx hb dn_M_feed_61 (by decide) ?_
  refine lv_istore (lv' := [(7, .int x1), (6, .int 5), (0, .ref h0), (1, .int x0), (2, .int x1), (3, .int x2), (4, .int x3), (5, .int x4)]) hx hb dn_M_feed_89 hl (by decide) rfl (fun ls hl => ?_)
  refine lv_aload_n hx hb dn_M_feed_91 rfl (lv_at hl 2 rfl) ?_
  refine va_get (D := (dC, dI)) (ci := 0) (v := .ref h1) (C := rn_M) (T := fn_M) (N := 91) hx hb hg in_M hown hK hP 0 rfl rfl 1 (by decide) (hg _ wn_8_69) (fun _ h9 => h9) (congrArg some hf0_1) dn_M_feed_92 ?_
  refine lv_aload_n hx hb dn_M_feed_95 rfl (lv_at hl 2 rfl) ?_
  refine va_get (D := (dC, dI)) (ci := 0) (v := .int 0) (C := rn_M) (T := fn_M) (N := 91) hx hb hg in_M hown hK hP 0 rfl rfl 88 (by decide) (hg _ wn_8_156) (fun _ h9 => h9) (congrArg some hf0_88) dn_M_feed_96 ?_
  refine lv_iload hx hb dn_M_feed_99 (lv_at hl 1 rfl) ?_
  refine lv_iadd hx hb dn_M_feed_101 ?_
  refine xk_ti (y := 5) (by decide) ?_
  refine lv_iload hx hb dn_M_feed_102 (lv_at hl 0 rfl) ?_
  refine lv_bipush (v := 24) hx hb dn_M_feed_104 (by decide) ?_
  refine lv_bipush (v := 8) hx hb dn_M_feed_106 (by decide) ?_
  refine lv_iload hx hb dn_M_feed_108 (lv_at hl 1 rfl) ?_
  refine lv_iconst (v := 4) hx hb dn_M_feed_110 (by decide) ?_
  refine lv_irem hx hb dn_M_feed_111 (by decide) ?_
  refine xk_ti (y := 1) (by decide) ?_
  refine lv_imul hx hb dn_M_feed_112 ?_
  refine xk_ti (y := 8) (by decide) ?_
  refine lv_isub hx hb dn_M_feed_113 ?_
  refine xk_ti (y := 16) (by decide) ?_
  refine lv_ishr hx hb dn_M_feed_114 ?_
  refine lv_topi (fun z_16 _ => ?_)
  refine lv_i2b hx hb dn_M_feed_115 rfl ?_
  refine lv_topi (fun z_17 ez_17 => ?_)
  refine va_bast hx hb hK hP hD hS 1 1 rfl rfl (show ¬ (_ ∨ _) by decide) dn_M_feed_116 (fun H locs hP hD hS => ?_)
  obtain ⟨g_18, eg_18⟩ : ∃ z : Nat → Int32, z = upd g_15 (5 : Int32).toNatClampNeg (vp_nar .byte z_17) := ⟨_, rfl⟩
  have hP : va_P (dC, dI) xcl [(h0, .inr (0, xo_M (va_up f0 0 (.int 0)))), (h1, .inl (cB, 65536, .inl g_18))] H := by rw [eg_18]; exact hP
  have hD : va_D A [(h0, .inr (0, xo_M (va_up f0 0 (.int 0)))), (h1, .inl (cB, 65536, .inl g_18))] := by rw [eg_18]; exact hD
  refine lv_iinc (v := 6) (lv' := [(6, .int 6), (7, .int x1), (0, .ref h0), (1, .int x0), (2, .int x1), (3, .int x2), (4, .int x3), (5, .int x4)]) hx hb dn_M_feed_117 hl (k := 1) rfl (by decide) (by decide) rfl (fun ls hl => ?_)
  refine lv_goto (tgt := 36) hx hb dn_M_feed_120 (by decide) ?_
  refine lv_iload hx hb dn_M_feed_36 (lv_at hl 0 rfl) ?_
  refine lv_bipush (v := 20) hx hb dn_M_feed_38 (by decide) ?_
  refine lv_icmp_ge (tgt := 123) hx hb dn_M_feed_40 (by decide) (fun h9 => absurd h9 (by decide)) (fun _ => ?_)
  refine lv_iload hx hb dn_M_feed_43 (lv_at hl 0 rfl) ?_
  refine lv_iconst (v := 4) hx hb dn_M_feed_45 (by decide) ?_
  refine lv_icmp_ge (tgt := 53) hx hb dn_M_feed_46 (by decide) (fun _ => ?_) (fun h9 => absurd h9 (by decide))
  refine lv_iload hx hb dn_M_feed_53 (lv_at hl 0 rfl) ?_
  refine lv_bipush (v := 8) hx hb dn_M_feed_55 (by decide) ?_
  refine lv_icmp_ge (tgt := 64) hx hb dn_M_feed_57 (by decide) (fun h9 => absurd h9 (by decide)) (fun _ => ?_)
  refine lv_iload_n hx hb dn_M_feed_60 rfl (lv_at hl 4 rfl) ?_
  refine lv_goto (tgt := 89) hx hb dn_M_feed_61 (by decide) ?_
  refine lv_istore (lv' := [(7, .int x1), (6, .int 6), (0, .ref h0), (1, .int x0), (2, .int x1), (3, .int x2), (4, .int x3), (5, .int x4)]) hx hb dn_M_feed_89 hl (by decide) rfl (fun ls hl => ?_)
  refine lv_aload_n hx hb dn_M_feed_91 rfl (lv_at hl 2 rfl) ?_
  refine va_get (D := (dC, dI)) (ci := 0) (v := .ref h1) (C := rn_M) (T := fn_M) (N := 91) hx hb hg in_M hown hK hP 0 rfl rfl 1 (by decide) (hg _ wn_8_69) (fun _ h9 => h9) (congrArg some hf0_1) dn_M_feed_92 ?_
  refine lv_aload_n hx hb dn_M_feed_95 rfl (lv_at hl 2 rfl) ?_
  refine va_get (D := (dC, dI)) (ci := 0) (v := .int 0) (C := rn_M) (T := fn_M) (N := 91) hx hb hg in_M hown hK hP 0 rfl rfl 88 (by decide) (hg _ wn_8_156) (fun _ h9 => h9) (congrArg some hf0_88) dn_M_feed_96 ?_
  refine lv_iload hx hb dn_M_feed_99 (lv_at hl 1 rfl) ?_
  refine lv_iadd hx hb dn_M_feed_101 ?_
  refine xk_ti (y := 6) (by decide) ?_
  refine lv_iload hx hb dn_M_feed_102 (lv_at hl 0 rfl) ?_
  refine lv_bipush (v := 24) hx hb dn_M_feed_104 (by decide) ?_
  refine lv_bipush (v := 8) hx hb dn_M_feed_106 (by decide) ?_
  refine lv_iload hx hb dn_M_feed_108 (lv_at hl 1 rfl) ?_
  refine lv_iconst (v := 4) hx hb dn_M_feed_110 (by decide) ?_
  refine lv_irem hx hb dn_M_feed_111 (by decide) ?_
  refine xk_ti (y := 2) (by decide) ?_
  refine lv_imul hx hb dn_M_feed_112 ?_
  refine xk_ti (y := 16) (by decide) ?_
  refine lv_isub hx hb dn_M_feed_113 ?_
  refine xk_ti (y := 8) (by decide) ?_
  refine lv_ishr hx hb dn_M_feed_114 ?_
  refine lv_topi (fun z_19 _ => ?_)
  refine lv_i2b hx hb dn_M_feed_115 rfl ?_
  refine lv_topi (fun z_20 ez_20 => ?_)
  refine va_bast hx hb hK hP hD hS 1 1 rfl rfl (show ¬ (_ ∨ _) by decide) dn_M_feed_116 (fun H locs hP hD hS => ?_)
  obtain ⟨g_21, eg_21⟩ : ∃ z : Nat → Int32, z = upd g_18 (6 : Int32).toNatClampNeg (vp_nar .byte z_20) := ⟨_, rfl⟩
  have hP : va_P (dC, dI) xcl [(h0, .inr (0, xo_M (va_up f0 0 (.int 0)))), (h1, .inl (cB, 65536, .inl g_21))] H := by rw [eg_21]; exact hP
  have hD : va_D A [(h0, .inr (0, xo_M (va_up f0 0 (.int 0)))), (h1, .inl (cB, 65536, .inl g_21))] := by rw [eg_21]; exact hD
  refine lv_iinc (v := 7) (lv' := [(6, .int 7), (7, .int x1), (0, .ref h0), (1, .int x0), (2, .int x1), (3, .int x2), (4, .int x3), (5, .int x4)]) hx hb dn_M_feed_117 hl (k := 1) rfl (by decide) (by decide) rfl (fun ls hl => ?_)
  refine lv_goto (tgt := 36) hx hb dn_M_feed_120 (by decide) ?_
  refine lv_iload hx hb dn_M_feed_36 (lv_at hl 0 rfl) ?_
  refine lv_bipush (v := 20) hx hb dn_M_feed_38 (by decide) ?_
  refine lv_icmp_ge (tgt := 123) hx hb dn_M_feed_40 (by decide) (fun h9 => absurd h9 (by decide)) (fun _ => ?_)
  refine lv_iload hx hb dn_M_feed_43 (lv_at hl 0 rfl) ?_
  refine lv_iconst (v := 4) hx hb dn_M_feed_45 (by decide) ?_
  refine lv_icmp_ge (tgt := 53) hx hb dn_M_feed_46 (by decide) (fun _ => ?_) (fun h9 => absurd h9 (by decide))
  refine lv_iload hx hb dn_M_feed_53 (lv_at hl 0 rfl) ?_
  refine lv_bipush (v := 8) hx hb dn_M_feed_55 (by decide) ?_
  refine lv_icmp_ge (tgt := 64) hx hb dn_M_feed_57 (by decide) (fun h9 => absurd h9 (by decide)) (fun _ => ?_)
  refine lv_iload_n hx hb dn_M_feed_60 rfl (lv_at hl 4 rfl) ?_
  refine lv_goto (tgt := 89) hx hb dn_M_feed_61 (by decide) ?_
  refine lv_istore (lv' := [(7, .int x1), (6, .int 7), (0, .ref h0), (1, .int x0), (2, .int x1), (3, .int x2), (4, .int x3), (5, .int x4)]) hx hb dn_M_feed_89 hl (by decide) rfl (fun ls hl => ?_)
  refine lv_aload_n hx hb dn_M_feed_91 rfl (lv_at hl 2 rfl) ?_
  refine va_get (D := (dC, dI)) (ci := 0) (v := .ref h1) (C := rn_M) (T := fn_M) (N := 91) hx hb hg in_M hown hK hP 0 rfl rfl 1 (by decide) (hg _ wn_8_69) (fun _ h9 => h9) (congrArg some hf0_1) dn_M_feed_92 ?_
  refine lv_aload_n hx hb dn_M_feed_95 rfl (lv_at hl 2 rfl) ?_
  refine va_get (D := (dC, dI)) (ci := 0) (v := .int 0) (C := rn_M) (T := fn_M) (N := 91) hx hb hg in_M hown hK hP 0 rfl rfl 88 (by decide) (hg _ wn_8_156) (fun _ h9 => h9) (congrArg some hf0_88) dn_M_feed_96 ?_
  refine lv_iload hx hb dn_M_feed_99 (lv_at hl 1 rfl) ?_
  refine lv_iadd hx hb dn_M_feed_101 ?_
  refine xk_ti (y := 7) (by decide) ?_
  refine lv_iload hx hb dn_M_feed_102 (lv_at hl 0 rfl) ?_
  refine lv_bipush (v := 24) hx hb dn_M_feed_104 (by decide) ?_
  refine lv_bipush (v := 8) hx hb dn_M_feed_106 (by decide) ?_
  refine lv_iload hx hb dn_M_feed_108 (lv_at hl 1 rfl) ?_
  refine lv_iconst (v := 4) hx hb dn_M_feed_110 (by decide) ?_
  refine lv_irem hx hb dn_M_feed_111 (by decide) ?_
  refine xk_ti (y := 3) (by decide) ?_
  refine lv_imul hx hb dn_M_feed_112 ?_
  refine xk_ti (y := 24) (by decide) ?_
  refine lv_isub hx hb dn_M_feed_113 ?_
  refine xk_ti (y := 0) (by decide) ?_
  refine lv_ishr hx hb dn_M_feed_114 ?_
  refine lv_topi (fun z_22 _ => ?_)
  refine lv_i2b hx hb dn_M_feed_115 rfl ?_
  refine lv_topi (fun z_23 ez_23 => ?_)
  refine va_bast hx hb hK hP hD hS 1 1 rfl rfl (show ¬ (_ ∨ _) by decide) dn_M_feed_116 (fun H locs hP hD hS => ?_)
  obtain ⟨g_24, eg_24⟩ : ∃ z : Nat → Int32, z = upd g_21 (7 : Int32).toNatClampNeg (vp_nar .byte z_23) := ⟨_, rfl⟩
  have hP : va_P (dC, dI) xcl [(h0, .inr (0, xo_M (va_up f0 0 (.int 0)))), (h1, .inl (cB, 65536, .inl g_24))] H := by rw [eg_24]; exact hP
  have hD : va_D A [(h0, .inr (0, xo_M (va_up f0 0 (.int 0)))), (h1, .inl (cB, 65536, .inl g_24))] := by rw [eg_24]; exact hD
  refine lv_iinc (v := 8) (lv' := [(6, .int 8), (7, .int x1), (0, .ref h0), (1, .int x0), (2, .int x1), (3, .int x2), (4, .int x3), (5, .int x4)]) hx hb dn_M_feed_117 hl (k := 1) rfl (by decide) (by decide) rfl (fun ls hl => ?_)
  refine lv_goto (tgt := 36) hx hb dn_M_feed_120 (by decide) ?_
  refine lv_iload hx hb dn_M_feed_36 (lv_at hl 0 rfl) ?_
  refine lv_bipush (v := 20) hx hb dn_M_feed_38 (by decide) ?_
  refine lv_icmp_ge (tgt := 123) hx hb dn_M_feed_40 (by decide) (fun h9 => absurd h9 (by decide)) (fun _ => ?_)
  refine lv_iload hx hb dn_M_feed_43 (lv_at hl 0 rfl) ?_
  refine lv_iconst (v := 4) hx hb dn_M_feed_45 (by decide) ?_
  refine lv_icmp_ge (tgt := 53) hx hb dn_M_feed_46 (by decide) (fun _ => ?_) (fun h9 => absurd h9 (by decide))
  refine lv_iload hx hb dn_M_feed_53 (lv_at hl 0 rfl) ?_
  refine lv_bipush (v := 8) hx hb dn_M_feed_55 (by decide) ?_
  refine lv_icmp_ge (tgt := 64) hx hb dn_M_feed_57 (by decide) (fun _ => ?_) (fun h9 => absurd h9 (by decide))
  refine lv_iload hx hb dn_M_feed_64 (lv_at hl 0 rfl) ?_
  refine lv_bipush (v := 12) hx hb dn_M_feed_66 (by decide) ?_
  refine lv_icmp_ge (tgt := 75) hx hb dn_M_feed_68 (by decide) (fun h9 => absurd h9 (by decide)) (fun _ => ?_)
  refine lv_iload_n hx hb dn_M_feed_71 rfl (lv_at hl 5 rfl) ?_
  refine lv_goto (tgt := 89) hx hb dn_M_feed_72 (by decide) ?_
  refine lv_istore (lv' := [(7, .int x2), (6, .int 8), (0, .ref h0), (1, .int x0), (2, .int x1), (3, .int x2), (4, .int x3), (5, .int x4)]) hx hb dn_M_feed_89 hl (by decide) rfl (fun ls hl => ?_)
  refine lv_aload_n hx hb dn_M_feed_91 rfl (lv_at hl 2 rfl) ?_
  refine va_get (D := (dC, dI)) (ci := 0) (v := .ref h1) (C := rn_M) (T := fn_M) (N := 91) hx hb hg in_M hown hK hP 0 rfl rfl 1 (by decide) (hg _ wn_8_69) (fun _ h9 => h9) (congrArg some hf0_1) dn_M_feed_92 ?_
  refine lv_aload_n hx hb dn_M_feed_95 rfl (lv_at hl 2 rfl) ?_
  refine va_get (D := (dC, dI)) (ci := 0) (v := .int 0) (C := rn_M) (T := fn_M) (N := 91) hx hb hg in_M hown hK hP 0 rfl rfl 88 (by decide) (hg _ wn_8_156) (fun _ h9 => h9) (congrArg some hf0_88) dn_M_feed_96 ?_
  refine lv_iload hx hb dn_M_feed_99 (lv_at hl 1 rfl) ?_
  refine lv_iadd hx hb dn_M_feed_101 ?_
  refine xk_ti (y := 8) (by decide) ?_
  refine lv_iload hx hb dn_M_feed_102 (lv_at hl 0 rfl) ?_
  refine lv_bipush (v := 24) hx hb dn_M_feed_104 (by decide) ?_
  refine lv_bipush (v := 8) hx hb dn_M_feed_106 (by decide) ?_
  refine lv_iload hx hb dn_M_feed_108 (lv_at hl 1 rfl) ?_
  refine lv_iconst (v := 4) hx hb dn_M_feed_110 (by decide) ?_
  refine lv_irem hx hb dn_M_feed_111 (by decide) ?_
  refine xk_ti (y := 0) (by decide) ?_
  refine lv_imul hx hb dn_M_feed_112 ?_
  refine xk_ti (y := 0) (by decide) ?_
  refine lv_isub hx hb dn_M_feed_113 ?_
  refine xk_ti (y := 24) (by decide) ?_
  refine lv_ishr hx hb dn_M_feed_114 ?_
  refine lv_topi (fun z_25 _ => ?_)
  refine lv_i2b hx hb dn_M_feed_115 rfl ?_
  refine lv_topi (fun z_26 ez_26 => ?_)
  refine va_bast hx hb hK hP hD hS 1 1 rfl rfl (show ¬ (_ ∨ _) by decide) dn_M_feed_116 (fun H locs hP hD hS => ?_)
  obtain ⟨g_27, eg_27⟩ : ∃ z : Nat → Int32, z = upd g_24 (8 : Int32).toNatClampNeg (vp_nar .byte z_26) := ⟨_, rfl⟩
  have hP : va_P (dC, dI) xcl [(h0, .inr (0, xo_M (va_up f0 0 (.int 0)))), (h1, .inl (cB, 65536, .inl g_27))] H := by rw [eg_27]; exact hP
  have hD : va_D A [(h0, .inr (0, xo_M (va_up f0 0 (.int 0)))), (h1, .inl (cB, 65536, .inl g_27))] := by rw [eg_27]; exact hD
  refine lv_iinc (v := 9) (lv' := [(6, .int 9), (7, .int x2), (0, .ref h0), (1, .int x0), (2, .int x1), (3, .int x2), (4, .int x3), (5, .int x4)]) hx hb dn_M_feed_117 hl (k := 1) rfl (by decide) (by decide) rfl (fun ls hl => ?_)
  refine lv_goto (tgt := 36) hx hb dn_M_feed_120 (by decide) ?_
  refine lv_iload hx hb dn_M_feed_36 (lv_at hl 0 rfl) ?_
  refine lv_bipush (v := 20) hx hb dn_M_feed_38 (by decide) ?_
  refine lv_icmp_ge (tgt := 123) hx hb dn_M_feed_40 (by decide) (fun h9 => absurd h9 (by decide)) (fun _ => ?_)
  refine lv_iload hx hb dn_M_feed_43 (lv_at hl 0 rfl) ?_
  refine lv_iconst (v := 4) hx hb dn_M_feed_45 (by decide) ?_
  refine lv_icmp_ge (tgt := 53) hx hb dn_M_feed_46 (by decide) (fun _ => ?_) (fun h9 => absurd h9 (by decide))
  refine lv_iload hx hb dn_M_feed_53 (lv_at hl 0 rfl) ?_
  refine lv_bipush (v := 8) hx hb dn_M_feed_55 (by decide) ?_
  refine lv_icmp_ge (tgt := 64) hx hb dn_M_feed_57 (by decide) (fun _ => ?_) (fun h9 => absurd h9 (by decide))
  refine lv_iload hx hb dn_M_feed_64 (lv_at hl 0 rfl) ?_
  refine lv_bipush (v := 12) hx hb dn_M_feed_66 (by decide) ?_
  refine lv_icmp_ge (tgt := 75) hx hb dn_M_feed_68 (by decide) (fun h9 => absurd h9 (by decide)) (fun _ => ?_)
  refine lv_iload_n hx hb dn_M_feed_71 rfl (lv_at hl 5 rfl) ?_
  refine lv_goto (tgt := 89) hx hb dn_M_feed_72 (by decide) ?_
  refine lv_istore (lv' := [(7, .int x2), (6, .int 9), (0, .ref h0), (1, .int x0), (2, .int x1), (3, .int x2), (4, .int x3), (5, .int x4)]) hx hb dn_M_feed_89 hl (by decide) rfl (fun ls hl => ?_)
  refine lv_aload_n hx hb dn_M_feed_91 rfl (lv_at hl 2 rfl) ?_
  refine va_get (D := (dC, dI)) (ci := 0) (v := .ref h1) (C := rn_M) (T := fn_M) (N := 91) hx hb hg in_M hown hK hP 0 rfl rfl 1 (by decide) (hg _ wn_8_69) (fun _ h9 => h9) (congrArg some hf0_1) dn_M_feed_92 ?_
  refine lv_aload_n hx hb dn_M_feed_95 rfl (lv_at hl 2 rfl) ?_
  refine va_get (D := (dC, dI)) (ci := 0) (v := .int 0) (C := rn_M) (T := fn_M) (N := 91) hx hb hg in_M hown hK hP 0 rfl rfl 88 (by decide) (hg _ wn_8_156) (fun _ h9 => h9) (congrArg some hf0_88) dn_M_feed_96 ?_
  refine lv_iload hx hb dn_M_feed_99 (lv_at hl 1 rfl) ?_
  refine lv_iadd hx hb dn_M_feed_101 ?_
  refine xk_ti (y := 9) (by decide) ?_
  refine lv_iload hx hb dn_M_feed_102 (lv_at hl 0 rfl) ?_
  refine lv_bipush (v := 24) hx hb dn_M_feed_104 (by decide) ?_
  refine lv_bipush (v := 8) hx hb dn_M_feed_106 (by decide) ?_
  refine lv_iload hx hb dn_M_feed_108 (lv_at hl 1 rfl) ?_
  refine lv_iconst (v := 4) hx hb dn_M_feed_110 (by decide) ?_
  refine lv_irem hx hb dn_M_feed_111 (by decide) ?_
  refine xk_ti (y := 1) (by decide) ?_
  refine lv_imul hx hb dn_M_feed_112 ?_
  refine xk_ti (y := 8) (by decide) ?_
  refine lv_isub hx hb dn_M_feed_113 ?_
  refine xk_ti (y := 16) (by decide) ?_
  refine lv_ishr hx hb dn_M_feed_114 ?_
  refine lv_topi (fun z_28 _ => ?_)
  refine lv_i2b hx hb dn_M_feed_115 rfl ?_
  refine lv_topi (fun z_29 ez_29 => ?_)
  refine va_bast hx hb hK hP hD hS 1 1 rfl rfl (show ¬ (_ ∨ _) by decide) dn_M_feed_116 (fun H locs hP hD hS => ?_)
  obtain ⟨g_30, eg_30⟩ : ∃ z : Nat → Int32, z = upd g_27 (9 : Int32).toNatClampNeg (vp_nar .byte z_29) := ⟨_, rfl⟩
  have hP : va_P (dC, dI) xcl [(h0, .inr (0, xo_M (va_up f0 0 (.int 0)))), (h1, .inl (cB, 65536, .inl g_30))] H := by rw [eg_30]; exact hP
  have hD : va_D A [(h0, .inr (0, xo_M (va_up f0 0 (.int 0)))), (h1, .inl (cB, 65536, .inl g_30))] := by rw [eg_30]; exact hD
  refine lv_iinc (v := 10) (lv' := [(6, .int 10), (7, .int x2), (0, .ref h0), (1, .int x0), (2, .int x1), (3, .int x2), (4, .int x3), (5, .int x4)]) hx hb dn_M_feed_117 hl (k := 1) rfl (by decide) (by decide) rfl (fun ls hl => ?_)
  refine lv_goto (tgt := 36) hx hb dn_M_feed_120 (by decide) ?_
  refine lv_iload hx hb dn_M_feed_36 (lv_at hl 0 rfl) ?_
  refine lv_bipush (v := 20) hx hb dn_M_feed_38 (by decide) ?_
  refine lv_icmp_ge (tgt := 123) hx hb dn_M_feed_40 (by decide) (fun h9 => absurd h9 (by decide)) (fun _ => ?_)
  refine lv_iload hx hb dn_M_feed_43 (lv_at hl 0 rfl) ?_
  refine lv_iconst (v := 4) hx hb dn_M_feed_45 (by decide) ?_
  refine lv_icmp_ge (tgt := 53) hx hb dn_M_feed_46 (by decide) (fun _ => ?_) (fun h9 => absurd h9 (by decide))
  refine lv_iload hx hb dn_M_feed_53 (lv_at hl 0 rfl) ?_
  refine lv_bipush (v := 8) hx hb dn_M_feed_55 (by decide) ?_
  refine lv_icmp_ge (tgt := 64) hx hb dn_M_feed_57 (by decide) (fun _ => ?_) (fun h9 => absurd h9 (by decide))
  refine lv_iload hx hb dn_M_feed_64 (lv_at hl 0 rfl) ?_
  refine lv_bipush (v := 12) hx hb dn_M_feed_66 (by decide) ?_
  refine lv_icmp_ge (tgt := 75) hx hb dn_M_feed_68 (by decide) (fun h9 => absurd h9 (by decide)) (fun _ => ?_)
  refine lv_iload_n hx hb dn_M_feed_71 rfl (lv_at hl 5 rfl) ?_
  refine lv_goto (tgt := 89) hx hb dn_M_feed_72 (by decide) ?_
  refine lv_istore (lv' := [(7, .int x2), (6, .int 10), (0, .ref h0), (1, .int x0), (2, .int x1), (3, .int x2), (4, .int x3), (5, .int x4)]) hx hb dn_M_feed_89 hl (by decide) rfl (fun ls hl => ?_)
  refine lv_aload_n hx hb dn_M_feed_91 rfl (lv_at hl 2 rfl) ?_
  refine va_get (D := (dC, dI)) (ci := 0) (v := .ref h1) (C := rn_M) (T := fn_M) (N := 91) hx hb hg in_M hown hK hP 0 rfl rfl 1 (by decide) (hg _ wn_8_69) (fun _ h9 => h9) (congrArg some hf0_1) dn_M_feed_92 ?_
  refine lv_aload_n hx hb dn_M_feed_95 rfl (lv_at hl 2 rfl) ?_
  refine va_get (D := (dC, dI)) (ci := 0) (v := .int 0) (C := rn_M) (T := fn_M) (N := 91) hx hb hg in_M hown hK hP 0 rfl rfl 88 (by decide) (hg _ wn_8_156) (fun _ h9 => h9) (congrArg some hf0_88) dn_M_feed_96 ?_
  refine lv_iload hx hb dn_M_feed_99 (lv_at hl 1 rfl) ?_
  refine lv_iadd hx hb dn_M_feed_101 ?_
  refine xk_ti (y := 10) (by decide) ?_
  refine lv_iload hx hb dn_M_feed_102 (lv_at hl 0 rfl) ?_
  refine lv_bipush (v := 24) hx hb dn_M_feed_104 (by decide) ?_
  refine lv_bipush (v := 8) hx hb dn_M_feed_106 (by decide) ?_
  refine lv_iload hx hb dn_M_feed_108 (lv_at hl 1 rfl) ?_
  refine lv_iconst (v := 4) hx hb dn_M_feed_110 (by decide) ?_
  refine lv_irem hx hb dn_M_feed_111 (by decide) ?_
  refine xk_ti (y := 2) (by decide) ?_
  refine lv_imul hx hb dn_M_feed_112 ?_
  refine xk_ti (y := 16) (by decide) ?_
  refine lv_isub hx hb dn_M_feed_113 ?_
  refine xk_ti (y := 8) (by decide) ?_
  refine lv_ishr hx hb dn_M_feed_114 ?_
  refine lv_topi (fun z_31 _ => ?_)
  refine lv_i2b hx hb dn_M_feed_115 rfl ?_
  refine lv_topi (fun z_32 ez_32 => ?_)
  refine va_bast hx hb hK hP hD hS 1 1 rfl rfl (show ¬ (_ ∨ _) by decide) dn_M_feed_116 (fun H locs hP hD hS => ?_)
  obtain ⟨g_33, eg_33⟩ : ∃ z : Nat → Int32, z = upd g_30 (10 : Int32).toNatClampNeg (vp_nar .byte z_32) := ⟨_, rfl⟩
  have hP : va_P (dC, dI) xcl [(h0, .inr (0, xo_M (va_up f0 0 (.int 0)))), (h1, .inl (cB, 65536, .inl g_33))] H := by rw [eg_33]; exact hP
  have hD : va_D A [(h0, .inr (0, xo_M (va_up f0 0 (.int 0)))), (h1, .inl (cB, 65536, .inl g_33))] := by rw [eg_33]; exact hD
  refine lv_iinc (v := 11) (lv' := [(6, .int 11), (7, .int x2), (0, .ref h0), (1, .int x0), (2, .int x1), (3, .int x2), (4, .int x3), (5, .int x4)]) hx hb dn_M_feed_117 hl (k := 1) rfl (by decide) (by decide) rfl (fun ls hl => ?_)
  refine lv_goto (tgt := 36) hx hb dn_M_feed_120 (by decide) ?_
  refine lv_iload hx hb dn_M_feed_36 (lv_at hl 0 rfl) ?_
  refine lv_bipush (v := 20) hx hb dn_M_feed_38 (by decide) ?_
  refine lv_icmp_ge (tgt := 123) hx hb dn_M_feed_40 (by decide) (fun h9 => absurd h9 (by decide)) (fun _ => ?_)
  refine lv_iload hx hb dn_M_feed_43 (lv_at hl 0 rfl) ?_
  refine lv_iconst (v := 4) hx hb dn_M_feed_45 (by decide) ?_
  refine lv_icmp_ge (tgt := 53) hx hb dn_M_feed_46 (by decide) (fun _ => ?_) (fun h9 => absurd h9 (by decide))
  refine lv_iload hx hb dn_M_feed_53 (lv_at hl 0 rfl) ?_
  refine lv_bipush (v := 8) hx hb dn_M_feed_55 (by decide) ?_
  refine lv_icmp_ge (tgt := 64) hx hb dn_M_feed_57 (by decide) (fun _ => ?_) (fun h9 => absurd h9 (by decide))
  refine lv_iload hx hb dn_M_feed_64 (lv_at hl 0 rfl) ?_
  refine lv_bipush (v := 12) hx hb dn_M_feed_66 (by decide) ?_
  refine lv_icmp_ge (tgt := 75) hx hb dn_M_feed_68 (by decide) (fun h9 => absurd h9 (by decide)) (fun _ => ?_)
  refine lv_iload_n hx hb dn_M_feed_71 rfl (lv_at hl 5 rfl) ?_
  refine lv_goto (tgt := 89) hx hb dn_M_feed_72 (by decide) ?_
  refine lv_istore (lv' := [(7, .int x2), (6, .int 11), (0, .ref h0), (1, .int x0), (2, .int x1), (3, .int x2), (4, .int x3), (5, .int x4)]) hx hb dn_M_feed_89 hl (by decide) rfl (fun ls hl => ?_)
  refine lv_aload_n hx hb dn_M_feed_91 rfl (lv_at hl 2 rfl) ?_
  refine va_get (D := (dC, dI)) (ci := 0) (v := .ref h1) (C := rn_M) (T := fn_M) (N := 91) hx hb hg in_M hown hK hP 0 rfl rfl 1 (by decide) (hg _ wn_8_69) (fun _ h9 => h9) (congrArg some hf0_1) dn_M_feed_92 ?_
  refine lv_aload_n hx hb dn_M_feed_95 rfl (lv_at hl 2 rfl) ?_
  refine va_get (D := (dC, dI)) (ci := 0) (v := .int 0) (C := rn_M) (T := fn_M) (N := 91) hx hb hg in_M hown hK hP 0 rfl rfl 88 (by decide) (hg _ wn_8_156) (fun _ h9 => h9) (congrArg some hf0_88) dn_M_feed_96 ?_
  refine lv_iload hx hb dn_M_feed_99 (lv_at hl 1 rfl) ?_
  refine lv_iadd hx hb dn_M_feed_101 ?_
  refine xk_ti (y := 11) (by decide) ?_
  refine lv_iload hx hb dn_M_feed_102 (lv_at hl 0 rfl) ?_
  refine lv_bipush (v := 24) hx hb dn_M_feed_104 (by decide) ?_
  refine lv_bipush (v := 8) hx hb dn_M_feed_106 (by decide) ?_
  refine lv_iload hx hb dn_M_feed_108 (lv_at hl 1 rfl) ?_
  refine lv_iconst (v := 4) hx hb dn_M_feed_110 (by decide) ?_
  refine lv_irem hx hb dn_M_feed_111 (by decide) ?_
  refine xk_ti (y := 3) (by decide) ?_
  refine lv_imul hx hb dn_M_feed_112 ?_
  refine xk_ti (y := 24) (by decide) ?_
  refine lv_isub hx hb dn_M_feed_113 ?_
  refine xk_ti (y := 0) (by decide) ?_
  refine lv_ishr hx hb dn_M_feed_114 ?_
  refine lv_topi (fun z_34 _ => ?_)
  refine lv_i2b hx hb dn_M_feed_115 rfl ?_
  refine lv_topi (fun z_35 ez_35 => ?_)
  refine va_bast hx hb hK hP hD hS 1 1 rfl rfl (show ¬ (_ ∨ _) by decide) dn_M_feed_116 (fun H locs hP hD hS => ?_)
  obtain ⟨g_36, eg_36⟩ : ∃ z : Nat → Int32, z = upd g_33 (11 : Int32).toNatClampNeg (vp_nar .byte z_35) := ⟨_, rfl⟩
  have hP : va_P (dC, dI) xcl [(h0, .inr (0, xo_M (va_up f0 0 (.int 0)))), (h1, .inl (cB, 65536, .inl g_36))] H := by rw [eg_36]; exact hP
  have hD : va_D A [(h0, .inr (0, xo_M (va_up f0 0 (.int 0)))), (h1, .inl (cB, 65536, .inl g_36))] := by rw [eg_36]; exact hD
  refine lv_iinc (v := 12) (lv' := [(6, .int 12), (7, .int x2), (0, .ref h0), (1, .int x0), (2, .int x1), (3, .int x2), (4, .int x3), (5, .int x4)]) hx hb dn_M_feed_117 hl (k := 1) rfl (by decide) (by decide) rfl (fun ls hl => ?_)
  refine lv_goto (tgt := 36) hx hb dn_M_feed_120 (by decide) ?_
  refine lv_iload hx hb dn_M_feed_36 (lv_at hl 0 rfl) ?_
  refine lv_bipush (v := 20) hx hb dn_M_feed_38 (by decide) ?_
  refine lv_icmp_ge (tgt := 123) hx hb dn_M_feed_40 (by decide) (fun h9 => absurd h9 (by decide)) (fun _ => ?_)
  refine lv_iload hx hb dn_M_feed_43 (lv_at hl 0 rfl) ?_
  refine lv_iconst (v := 4) hx hb dn_M_feed_45 (by decide) ?_
  refine lv_icmp_ge (tgt := 53) hx hb dn_M_feed_46 (by decide) (fun _ => ?_) (fun h9 => absurd h9 (by decide))
  refine lv_iload hx hb dn_M_feed_53 (lv_at hl 0 rfl) ?_
  refine lv_bipush (v := 8) hx hb dn_M_feed_55 (by decide) ?_
  refine lv_icmp_ge (tgt := 64) hx hb dn_M_feed_57 (by decide) (fun _ => ?_) (fun h9 => absurd h9 (by decide))
  refine lv_iload hx hb dn_M_feed_64 (lv_at hl 0 rfl) ?_
  refine lv_bipush (v := 12) hx hb dn_M_feed_66 (by decide) ?_
  refine lv_icmp_ge (tgt := 75) hx hb dn_M_feed_68 (by decide) (fun _ => ?_) (fun h9 => absurd h9 (by decide))
  refine lv_iload hx hb dn_M_feed_75 (lv_at hl 0 rfl) ?_
  refine lv_bipush (v := 16) hx hb dn_M_feed_77 (by decide) ?_
  refine lv_icmp_ge (tgt := 87) hx hb dn_M_feed_79 (by decide) (fun h9 => absurd h9 (by decide)) (fun _ => ?_)
  refine lv_iload hx hb dn_M_feed_82 (lv_at hl 6 rfl) ?_
  refine lv_goto (tgt := 89) hx hb dn_M_feed_84 (by decide) ?_
  refine lv_istore (lv' := [(7, .int x3), (6, .int 12), (0, .ref h0), (1, .int x0), (2, .int x1), (3, .int x2), (4, .int x3), (5, .int x4)]) hx hb dn_M_feed_89 hl (by decide) rfl (fun ls hl => ?_)
  refine lv_aload_n hx hb dn_M_feed_91 rfl (lv_at hl 2 rfl) ?_
  refine va_get (D := (dC, dI)) (ci := 0) (v := .ref h1) (C := rn_M) (T := fn_M) (N := 91) hx hb hg in_M hown hK hP 0 rfl rfl 1 (by decide) (hg _ wn_8_69) (fun _ h9 => h9) (congrArg some hf0_1) dn_M_feed_92 ?_
  refine lv_aload_n hx hb dn_M_feed_95 rfl (lv_at hl 2 rfl) ?_
  refine va_get (D := (dC, dI)) (ci := 0) (v := .int 0) (C := rn_M) (T := fn_M) (N := 91) hx hb hg in_M hown hK hP 0 rfl rfl 88 (by decide) (hg _ wn_8_156) (fun _ h9 => h9) (congrArg some hf0_88) dn_M_feed_96 ?_
  refine lv_iload hx hb dn_M_feed_99 (lv_at hl 1 rfl) ?_
  refine lv_iadd hx hb dn_M_feed_101 ?_
  refine xk_ti (y := 12) (by decide) ?_
  refine lv_iload hx hb dn_M_feed_102 (lv_at hl 0 rfl) ?_
  refine lv_bipush (v := 24) hx hb dn_M_feed_104 (by decide) ?_
  refine lv_bipush (v := 8) hx hb dn_M_feed_106 (by decide) ?_
  refine lv_iload hx hb dn_M_feed_108 (lv_at hl 1 rfl) ?_
  refine lv_iconst (v := 4) hx hb dn_M_feed_110 (by decide) ?_
  refine lv_irem hx hb dn_M_feed_111 (by decide) ?_
  refine xk_ti (y := 0) (by decide) ?_
  refine lv_imul hx hb dn_M_feed_112 ?_
  refine xk_ti (y := 0) (by decide) ?_
  refine lv_isub hx hb dn_M_feed_113 ?_
  refine xk_ti (y := 24) (by decide) ?_
  refine lv_ishr hx hb dn_M_feed_114 ?_
  refine lv_topi (fun z_37 _ => ?_)
  refine lv_i2b hx hb dn_M_feed_115 rfl ?_
  refine lv_topi (fun z_38 ez_38 => ?_)
  refine va_bast hx hb hK hP hD hS 1 1 rfl rfl (show ¬ (_ ∨ _) by decide) dn_M_feed_116 (fun H locs hP hD hS => ?_)
  obtain ⟨g_39, eg_39⟩ : ∃ z : Nat → Int32, z = upd g_36 (12 : Int32).toNatClampNeg (vp_nar .byte z_38) := ⟨_, rfl⟩
  have hP : va_P (dC, dI) xcl [(h0, .inr (0, xo_M (va_up f0 0 (.int 0)))), (h1, .inl (cB, 65536, .inl g_39))] H := by rw [eg_39]; exact hP
  have hD : va_D A [(h0, .inr (0, xo_M (va_up f0 0 (.int 0)))), (h1, .inl (cB, 65536, .inl g_39))] := by rw [eg_39]; exact hD
  refine lv_iinc (v := 13) (lv' := [(6, .int 13), (7, .int x3), (0, .ref h0), (1, .int x0), (2, .int x1), (3, .int x2), (4, .int x3), (5, .int x4)]) hx hb dn_M_feed_117 hl (k := 1) rfl (by decide) (by decide) rfl (fun ls hl => ?_)
  refine lv_goto (tgt := 36) hx hb dn_M_feed_120 (by decide) ?_
  refine lv_iload hx hb dn_M_feed_36 (lv_at hl 0 rfl) ?_
  refine lv_bipush (v := 20) hx hb dn_M_feed_38 (by decide) ?_
  refine lv_icmp_ge (tgt := 123) hx hb dn_M_feed_40 (by decide) (fun h9 => absurd h9 (by decide)) (fun _ => ?_)
  refine lv_iload hx hb dn_M_feed_43 (lv_at hl 0 rfl) ?_
  refine lv_iconst (v := 4) hx hb dn_M_feed_45 (by decide) ?_
  refine lv_icmp_ge (tgt := 53) hx hb dn_M_feed_46 (by decide) (fun _ => ?_) (fun h9 => absurd h9 (by decide))
  refine lv_iload hx hb dn_M_feed_53 (lv_at hl 0 rfl) ?_
  refine lv_bipush (v := 8) hx hb dn_M_feed_55 (by decide) ?_
  refine lv_icmp_ge (tgt := 64) hx hb dn_M_feed_57 (by decide) (fun _ => ?_) (fun h9 => absurd h9 (by decide))
  refine lv_iload hx hb dn_M_feed_64 (lv_at hl 0 rfl) ?_
  refine lv_bipush (v := 12) hx hb dn_M_feed_66 (by decide) ?_
  refine lv_icmp_ge (tgt := 75) hx hb dn_M_feed_68 (by decide) (fun _ => ?_) (fun h9 => absurd h9 (by decide))
  refine lv_iload hx hb dn_M_feed_75 (lv_at hl 0 rfl) ?_
  refine lv_bipush (v := 16) hx hb dn_M_feed_77 (by decide) ?_
  refine lv_icmp_ge (tgt := 87) hx hb dn_M_feed_79 (by decide) (fun h9 => absurd h9 (by decide)) (fun _ => ?_)
  refine lv_iload hx hb dn_M_feed_82 (lv_at hl 6 rfl) ?_
  refine lv_goto (tgt := 89) hx hb dn_M_feed_84 (by decide) ?_
  refine lv_istore (lv' := [(7, .int x3), (6, .int 13), (0, .ref h0), (1, .int x0), (2, .int x1), (3, .int x2), (4, .int x3), (5, .int x4)]) hx hb dn_M_feed_89 hl (by decide) rfl (fun ls hl => ?_)
  refine lv_aload_n hx hb dn_M_feed_91 rfl (lv_at hl 2 rfl) ?_
  refine va_get (D := (dC, dI)) (ci := 0) (v := .ref h1) (C := rn_M) (T := fn_M) (N := 91) hx hb hg in_M hown hK hP 0 rfl rfl 1 (by decide) (hg _ wn_8_69) (fun _ h9 => h9) (congrArg some hf0_1) dn_M_feed_92 ?_
  refine lv_aload_n hx hb dn_M_feed_95 rfl (lv_at hl 2 rfl) ?_
  refine va_get (D := (dC, dI)) (ci := 0) (v := .int 0) (C := rn_M) (T := fn_M) (N := 91) hx hb hg in_M hown hK hP 0 rfl rfl 88 (by decide) (hg _ wn_8_156) (fun _ h9 => h9) (congrArg some hf0_88) dn_M_feed_96 ?_
  refine lv_iload hx hb dn_M_feed_99 (lv_at hl 1 rfl) ?_
  refine lv_iadd hx hb dn_M_feed_101 ?_
  refine xk_ti (y := 13) (by decide) ?_
  refine lv_iload hx hb dn_M_feed_102 (lv_at hl 0 rfl) ?_
  refine lv_bipush (v := 24) hx hb dn_M_feed_104 (by decide) ?_
  refine lv_bipush (v := 8) hx hb dn_M_feed_106 (by decide) ?_
  refine lv_iload hx hb dn_M_feed_108 (lv_at hl 1 rfl) ?_
  refine lv_iconst (v := 4) hx hb dn_M_feed_110 (by decide) ?_
  refine lv_irem hx hb dn_M_feed_111 (by decide) ?_
  refine xk_ti (y := 1) (by decide) ?_
  refine lv_imul hx hb dn_M_feed_112 ?_
  refine xk_ti (y := 8) (by decide) ?_
  refine lv_isub hx hb dn_M_feed_113 ?_
  refine xk_ti (y := 16) (by decide) ?_
  refine lv_ishr hx hb dn_M_feed_114 ?_
  refine lv_topi (fun z_40 _ => ?_)
  refine lv_i2b hx hb dn_M_feed_115 rfl ?_
  refine lv_topi (fun z_41 ez_41 => ?_)
  refine va_bast hx hb hK hP hD hS 1 1 rfl rfl (show ¬ (_ ∨ _) by decide) dn_M_feed_116 (fun H locs hP hD hS => ?_)
  obtain ⟨g_42, eg_42⟩ : ∃ z : Nat → Int32, z = upd g_39 (13 : Int32).toNatClampNeg (vp_nar .byte z_41) := ⟨_, rfl⟩
  have hP : va_P (dC, dI) xcl [(h0, .inr (0, xo_M (va_up f0 0 (.int 0)))), (h1, .inl (cB, 65536, .inl g_42))] H := by rw [eg_42]; exact hP
  have hD : va_D A [(h0, .inr (0, xo_M (va_up f0 0 (.int 0)))), (h1, .inl (cB, 65536, .inl g_42))] := by rw [eg_42]; exact hD
  refine lv_iinc (v := 14) (lv' := [(6, .int 14), (7, .int x3), (0, .ref h0), (1, .int x0), (2, .int x1), (3, .int x2), (4, .int x3), (5, .int x4)]) hx hb dn_M_feed_117 hl (k := 1) rfl (by decide) (by decide) rfl (fun ls hl => ?_)
  refine lv_goto (tgt := 36) hx hb dn_M_feed_120 (by decide) ?_
  refine lv_iload hx hb dn_M_feed_36 (lv_at hl 0 rfl) ?_
  refine lv_bipush (v := 20) hx hb dn_M_feed_38 (by decide) ?_
  refine lv_icmp_ge (tgt := 123) hx hb dn_M_feed_40 (by decide) (fun h9 => absurd h9 (by decide)) (fun _ => ?_)
  refine lv_iload hx hb dn_M_feed_43 (lv_at hl 0 rfl) ?_
  refine lv_iconst (v := 4) hx hb dn_M_feed_45 (by decide) ?_
  refine lv_icmp_ge (tgt := 53) hx hb dn_M_feed_46 (by decide) (fun _ => ?_) (fun h9 => absurd h9 (by decide))
  refine lv_iload hx hb dn_M_feed_53 (lv_at hl 0 rfl) ?_
  refine lv_bipush (v := 8) hx hb dn_M_feed_55 (by decide) ?_
  refine lv_icmp_ge (tgt := 64) hx hb dn_M_feed_57 (by decide) (fun _ => ?_) (fun h9 => absurd h9 (by decide))
  refine lv_iload hx hb dn_M_feed_64 (lv_at hl 0 rfl) ?_
  refine lv_bipush (v := 12) hx hb dn_M_feed_66 (by decide) ?_
  refine lv_icmp_ge (tgt := 75) hx hb dn_M_feed_68 (by decide) (fun _ => ?_) (fun h9 => absurd h9 (by decide))
  refine lv_iload hx hb dn_M_feed_75 (lv_at hl 0 rfl) ?_
  refine lv_bipush (v := 16) hx hb dn_M_feed_77 (by decide) ?_
  refine lv_icmp_ge (tgt := 87) hx hb dn_M_feed_79 (by decide) (fun h9 => absurd h9 (by decide)) (fun _ => ?_)
  refine lv_iload hx hb dn_M_feed_82 (lv_at hl 6 rfl) ?_
  refine lv_goto (tgt := 89) hx hb dn_M_feed_84 (by decide) ?_
  refine lv_istore (lv' := [(7, .int x3), (6, .int 14), (0, .ref h0), (1, .int x0), (2, .int x1), (3, .int x2), (4, .int x3), (5, .int x4)]) hx hb dn_M_feed_89 hl (by decide) rfl (fun ls hl => ?_)
  refine lv_aload_n hx hb dn_M_feed_91 rfl (lv_at hl 2 rfl) ?_
  refine va_get (D := (dC, dI)) (ci := 0) (v := .ref h1) (C := rn_M) (T := fn_M) (N := 91) hx hb hg in_M hown hK hP 0 rfl rfl 1 (by decide) (hg _ wn_8_69) (fun _ h9 => h9) (congrArg some hf0_1) dn_M_feed_92 ?_
  refine lv_aload_n hx hb dn_M_feed_95 rfl (lv_at hl 2 rfl) ?_
  refine va_get (D := (dC, dI)) (ci := 0) (v := .int 0) (C := rn_M) (T := fn_M) (N := 91) hx hb hg in_M hown hK hP 0 rfl rfl 88 (by decide) (hg _ wn_8_156) (fun _ h9 => h9) (congrArg some hf0_88) dn_M_feed_96 ?_
  refine lv_iload hx hb dn_M_feed_99 (lv_at hl 1 rfl) ?_
  refine lv_iadd hx hb dn_M_feed_101 ?_
  refine xk_ti (y := 14) (by decide) ?_
  refine lv_iload hx hb dn_M_feed_102 (lv_at hl 0 rfl) ?_
  refine lv_bipush (v := 24) hx hb dn_M_feed_104 (by decide) ?_
  refine lv_bipush (v := 8) hx hb dn_M_feed_106 (by decide) ?_
  refine lv_iload hx hb dn_M_feed_108 (lv_at hl 1 rfl) ?_
  refine lv_iconst (v := 4) hx hb dn_M_feed_110 (by decide) ?_
  refine lv_irem hx hb dn_M_feed_111 (by decide) ?_
  refine xk_ti (y := 2) (by decide) ?_
  refine lv_imul hx hb dn_M_feed_112 ?_
  refine xk_ti (y := 16) (by decide) ?_
  refine lv_isub hx hb dn_M_feed_113 ?_
  refine xk_ti (y := 8) (by decide) ?_
  refine lv_ishr hx hb dn_M_feed_114 ?_
  refine lv_topi (fun z_43 _ => ?_)
  refine lv_i2b hx hb dn_M_feed_115 rfl ?_
  refine lv_topi (fun z_44 ez_44 => ?_)
  refine va_bast hx hb hK hP hD hS 1 1 rfl rfl (show ¬ (_ ∨ _) by decide) dn_M_feed_116 (fun H locs hP hD hS => ?_)
  obtain ⟨g_45, eg_45⟩ : ∃ z : Nat → Int32, z = upd g_42 (14 : Int32).toNatClampNeg (vp_nar .byte z_44) := ⟨_, rfl⟩
  have hP : va_P (dC, dI) xcl [(h0, .inr (0, xo_M (va_up f0 0 (.int 0)))), (h1, .inl (cB, 65536, .inl g_45))] H := by rw [eg_45]; exact hP
  have hD : va_D A [(h0, .inr (0, xo_M (va_up f0 0 (.int 0)))), (h1, .inl (cB, 65536, .inl g_45))] := by rw [eg_45]; exact hD
  refine lv_iinc (v := 15) (lv' := [(6, .int 15), (7, .int x3), (0, .ref h0), (1, .int x0), (2, .int x1), (3, .int x2), (4, .int x3), (5, .int x4)]) hx hb dn_M_feed_117 hl (k := 1) rfl (by decide) (by decide) rfl (fun ls hl => ?_)
  refine lv_goto (tgt := 36) hx hb dn_M_feed_120 (by decide) ?_
  refine lv_iload hx hb dn_M_feed_36 (lv_at hl 0 rfl) ?_
  refine lv_bipush (v := 20) hx hb dn_M_feed_38 (by decide) ?_
  refine lv_icmp_ge (tgt := 123) hx hb dn_M_feed_40 (by decide) (fun h9 => absurd h9 (by decide)) (fun _ => ?_)
  refine lv_iload hx hb dn_M_feed_43 (lv_at hl 0 rfl) ?_
  refine lv_iconst (v := 4) hx hb dn_M_feed_45 (by decide) ?_
  refine lv_icmp_ge (tgt := 53) hx hb dn_M_feed_46 (by decide) (fun _ => ?_) (fun h9 => absurd h9 (by decide))
  refine lv_iload hx hb dn_M_feed_53 (lv_at hl 0 rfl) ?_
  refine lv_bipush (v := 8) hx hb dn_M_feed_55 (by decide) ?_
  refine lv_icmp_ge (tgt := 64) hx hb dn_M_feed_57 (by decide) (fun _ => ?_) (fun h9 => absurd h9 (by decide))
  refine lv_iload hx hb dn_M_feed_64 (lv_at hl 0 rfl) ?_
  refine lv_bipush (v := 12) hx hb dn_M_feed_66 (by decide) ?_
  refine lv_icmp_ge (tgt := 75) hx hb dn_M_feed_68 (by decide) (fun _ => ?_) (fun h9 => absurd h9 (by decide))
  refine lv_iload hx hb dn_M_feed_75 (lv_at hl 0 rfl) ?_
  refine lv_bipush (v := 16) hx hb dn_M_feed_77 (by decide) ?_
  refine lv_icmp_ge (tgt := 87) hx hb dn_M_feed_79 (by decide) (fun h9 => absurd h9 (by decide)) (fun _ => ?_)
  refine lv_iload hx hb dn_M_feed_82 (lv_at hl 6 rfl) ?_
  refine lv_goto (tgt := 89) hx hb dn_M_feed_84 (by decide) ?_
  refine lv_istore (lv' := [(7, .int x3), (6, .int 15), (0, .ref h0), (1, .int x0), (2, .int x1), (3, .int x2), (4, .int x3), (5, .int x4)]) hx hb dn_M_feed_89 hl (by decide) rfl (fun ls hl => ?_)
  refine lv_aload_n hx hb dn_M_feed_91 rfl (lv_at hl 2 rfl) ?_
  refine va_get (D := (dC, dI)) (ci := 0) (v := .ref h1) (C := rn_M) (T := fn_M) (N := 91) hx hb hg in_M hown hK hP 0 rfl rfl 1 (by decide) (hg _ wn_8_69) (fun _ h9 => h9) (congrArg some hf0_1) dn_M_feed_92 ?_
  refine lv_aload_n hx hb dn_M_feed_95 rfl (lv_at hl 2 rfl) ?_
  refine va_get (D := (dC, dI)) (ci := 0) (v := .int 0) (C := rn_M) (T := fn_M) (N := 91) hx hb hg in_M hown hK hP 0 rfl rfl 88 (by decide) (hg _ wn_8_156) (fun _ h9 => h9) (congrArg some hf0_88) dn_M_feed_96 ?_
  refine lv_iload hx hb dn_M_feed_99 (lv_at hl 1 rfl) ?_
  refine lv_iadd hx hb dn_M_feed_101 ?_
  refine xk_ti (y := 15) (by decide) ?_
  refine lv_iload hx hb dn_M_feed_102 (lv_at hl 0 rfl) ?_
  refine lv_bipush (v := 24) hx hb dn_M_feed_104 (by decide) ?_
  refine lv_bipush (v := 8) hx hb dn_M_feed_106 (by decide) ?_
  refine lv_iload hx hb dn_M_feed_108 (lv_at hl 1 rfl) ?_
  refine lv_iconst (v := 4) hx hb dn_M_feed_110 (by decide) ?_
  refine lv_irem hx hb dn_M_feed_111 (by decide) ?_
  refine xk_ti (y := 3) (by decide) ?_
  refine lv_imul hx hb dn_M_feed_112 ?_
  refine xk_ti (y := 24) (by decide) ?_
  refine lv_isub hx hb dn_M_feed_113 ?_
  refine xk_ti (y := 0) (by decide) ?_
  refine lv_ishr hx hb dn_M_feed_114 ?_
  refine lv_topi (fun z_46 _ => ?_)
  refine lv_i2b hx hb dn_M_feed_115 rfl ?_
  refine lv_topi (fun z_47 ez_47 => ?_)
  refine va_bast hx hb hK hP hD hS 1 1 rfl rfl (show ¬ (_ ∨ _) by decide) dn_M_feed_116 (fun H locs hP hD hS => ?_)
  obtain ⟨g_48, eg_48⟩ : ∃ z : Nat → Int32, z = upd g_45 (15 : Int32).toNatClampNeg (vp_nar .byte z_47) := ⟨_, rfl⟩
  have hP : va_P (dC, dI) xcl [(h0, .inr (0, xo_M (va_up f0 0 (.int 0)))), (h1, .inl (cB, 65536, .inl g_48))] H := by rw [eg_48]; exact hP
  have hD : va_D A [(h0, .inr (0, xo_M (va_up f0 0 (.int 0)))), (h1, .inl (cB, 65536, .inl g_48))] := by rw [eg_48]; exact hD
  refine lv_iinc (v := 16) (lv' := [(6, .int 16), (7, .int x3), (0, .ref h0), (1, .int x0), (2, .int x1), (3, .int x2), (4, .int x3), (5, .int x4)]) hx hb dn_M_feed_117 hl (k := 1) rfl (by decide) (by decide) rfl (fun ls hl => ?_)
  refine lv_goto (tgt := 36) hx hb dn_M_feed_120 (by decide) ?_
  refine lv_iload hx hb dn_M_feed_36 (lv_at hl 0 rfl) ?_
  refine lv_bipush (v := 20) hx hb dn_M_feed_38 (by decide) ?_
  refine lv_icmp_ge (tgt := 123) hx hb dn_M_feed_40 (by decide) (fun h9 => absurd h9 (by decide)) (fun _ => ?_)
  refine lv_iload hx hb dn_M_feed_43 (lv_at hl 0 rfl) ?_
  refine lv_iconst (v := 4) hx hb dn_M_feed_45 (by decide) ?_
  refine lv_icmp_ge (tgt := 53) hx hb dn_M_feed_46 (by decide) (fun _ => ?_) (fun h9 => absurd h9 (by decide))
  refine lv_iload hx hb dn_M_feed_53 (lv_at hl 0 rfl) ?_
  refine lv_bipush (v := 8) hx hb dn_M_feed_55 (by decide) ?_
  refine lv_icmp_ge (tgt := 64) hx hb dn_M_feed_57 (by decide) (fun _ => ?_) (fun h9 => absurd h9 (by decide))
  refine lv_iload hx hb dn_M_feed_64 (lv_at hl 0 rfl) ?_
  refine lv_bipush (v := 12) hx hb dn_M_feed_66 (by decide) ?_
  refine lv_icmp_ge (tgt := 75) hx hb dn_M_feed_68 (by decide) (fun _ => ?_) (fun h9 => absurd h9 (by decide))
  refine lv_iload hx hb dn_M_feed_75 (lv_at hl 0 rfl) ?_
  refine lv_bipush (v := 16) hx hb dn_M_feed_77 (by decide) ?_
  refine lv_icmp_ge (tgt := 87) hx hb dn_M_feed_79 (by decide) (fun _ => ?_) (fun h9 => absurd h9 (by decide))
  refine lv_iload hx hb dn_M_feed_87 (lv_at hl 7 rfl) ?_
  refine lv_istore (lv' := [(7, .int x4), (6, .int 16), (0, .ref h0), (1, .int x0), (2, .int x1), (3, .int x2), (4, .int x3), (5, .int x4)]) hx hb dn_M_feed_89 hl (by decide) rfl (fun ls hl => ?_)
  refine lv_aload_n hx hb dn_M_feed_91 rfl (lv_at hl 2 rfl) ?_
  refine va_get (D := (dC, dI)) (ci := 0) (v := .ref h1) (C := rn_M) (T := fn_M) (N := 91) hx hb hg in_M hown hK hP 0 rfl rfl 1 (by decide) (hg _ wn_8_69) (fun _ h9 => h9) (congrArg some hf0_1) dn_M_feed_92 ?_
  refine lv_aload_n hx hb dn_M_feed_95 rfl (lv_at hl 2 rfl) ?_
  refine va_get (D := (dC, dI)) (ci := 0) (v := .int 0) (C := rn_M) (T := fn_M) (N := 91) hx hb hg in_M hown hK hP 0 rfl rfl 88 (by decide) (hg _ wn_8_156) (fun _ h9 => h9) (congrArg some hf0_88) dn_M_feed_96 ?_
  refine lv_iload hx hb dn_M_feed_99 (lv_at hl 1 rfl) ?_
  refine lv_iadd hx hb dn_M_feed_101 ?_
  refine xk_ti (y := 16) (by decide) ?_
  refine lv_iload hx hb dn_M_feed_102 (lv_at hl 0 rfl) ?_
  refine lv_bipush (v := 24) hx hb dn_M_feed_104 (by decide) ?_
  refine lv_bipush (v := 8) hx hb dn_M_feed_106 (by decide) ?_
  refine lv_iload hx hb dn_M_feed_108 (lv_at hl 1 rfl) ?_
  refine lv_iconst (v := 4) hx hb dn_M_feed_110 (by decide) ?_
  refine lv_irem hx hb dn_M_feed_111 (by decide) ?_
  refine xk_ti (y := 0) (by decide) ?_
  refine lv_imul hx hb dn_M_feed_112 ?_
  refine xk_ti (y := 0) (by decide) ?_
  refine lv_isub hx hb dn_M_feed_113 ?_
  refine xk_ti (y := 24) (by decide) ?_
  refine lv_ishr hx hb dn_M_feed_114 ?_
  refine lv_topi (fun z_49 _ => ?_)
  refine lv_i2b hx hb dn_M_feed_115 rfl ?_
  refine lv_topi (fun z_50 ez_50 => ?_)
  refine va_bast hx hb hK hP hD hS 1 1 rfl rfl (show ¬ (_ ∨ _) by decide) dn_M_feed_116 (fun H locs hP hD hS => ?_)
  obtain ⟨g_51, eg_51⟩ : ∃ z : Nat → Int32, z = upd g_48 (16 : Int32).toNatClampNeg (vp_nar .byte z_50) := ⟨_, rfl⟩
  have hP : va_P (dC, dI) xcl [(h0, .inr (0, xo_M (va_up f0 0 (.int 0)))), (h1, .inl (cB, 65536, .inl g_51))] H := by rw [eg_51]; exact hP
  have hD : va_D A [(h0, .inr (0, xo_M (va_up f0 0 (.int 0)))), (h1, .inl (cB, 65536, .inl g_51))] := by rw [eg_51]; exact hD
  refine lv_iinc (v := 17) (lv' := [(6, .int 17), (7, .int x4), (0, .ref h0), (1, .int x0), (2, .int x1), (3, .int x2), (4, .int x3), (5, .int x4)]) hx hb dn_M_feed_117 hl (k := 1) rfl (by decide) (by decide) rfl (fun ls hl => ?_)
  refine lv_goto (tgt := 36) hx hb dn_M_feed_120 (by decide) ?_
  refine lv_iload hx hb dn_M_feed_36 (lv_at hl 0 rfl) ?_
  refine lv_bipush (v := 20) hx hb dn_M_feed_38 (by decide) ?_
  refine lv_icmp_ge (tgt := 123) hx hb dn_M_feed_40 (by decide) (fun h9 => absurd h9 (by decide)) (fun _ => ?_)
  refine lv_iload hx hb dn_M_feed_43 (lv_at hl 0 rfl) ?_
  refine lv_iconst (v := 4) hx hb dn_M_feed_45 (by decide) ?_
  refine lv_icmp_ge (tgt := 53) hx hb dn_M_feed_46 (by decide) (fun _ => ?_) (fun h9 => absurd h9 (by decide))
  refine lv_iload hx hb dn_M_feed_53 (lv_at hl 0 rfl) ?_
  refine lv_bipush (v := 8) hx hb dn_M_feed_55 (by decide) ?_
  refine lv_icmp_ge (tgt := 64) hx hb dn_M_feed_57 (by decide) (fun _ => ?_) (fun h9 => absurd h9 (by decide))
  refine lv_iload hx hb dn_M_feed_64 (lv_at hl 0 rfl) ?_
  refine lv_bipush (v := 12) hx hb dn_M_feed_66 (by decide) ?_
  refine lv_icmp_ge (tgt := 75) hx hb dn_M_feed_68 (by decide) (fun _ => ?_) (fun h9 => absurd h9 (by decide))
  refine lv_iload hx hb dn_M_feed_75 (lv_at hl 0 rfl) ?_
  refine lv_bipush (v := 16) hx hb dn_M_feed_77 (by decide) ?_
  refine lv_icmp_ge (tgt := 87) hx hb dn_M_feed_79 (by decide) (fun _ => ?_) (fun h9 => absurd h9 (by decide))
  refine lv_iload hx hb dn_M_feed_87 (lv_at hl 7 rfl) ?_
  refine lv_istore (lv' := [(7, .int x4), (6, .int 17), (0, .ref h0), (1, .int x0), (2, .int x1), (3, .int x2), (4, .int x3), (5, .int x4)]) hx hb dn_M_feed_89 hl (by decide) rfl (fun ls hl => ?_)
  refine lv_aload_n hx hb dn_M_feed_91 rfl (lv_at hl 2 rfl) ?_
  refine va_get (D := (dC, dI)) (ci := 0) (v := .ref h1) (C := rn_M) (T := fn_M) (N := 91) hx hb hg in_M hown hK hP 0 rfl rfl 1 (by decide) (hg _ wn_8_69) (fun _ h9 => h9) (congrArg some hf0_1) dn_M_feed_92 ?_
  refine lv_aload_n hx hb dn_M_feed_95 rfl (lv_at hl 2 rfl) ?_
  refine va_get (D := (dC, dI)) (ci := 0) (v := .int 0) (C := rn_M) (T := fn_M) (N := 91) hx hb hg in_M hown hK hP 0 rfl rfl 88 (by decide) (hg _ wn_8_156) (fun _ h9 => h9) (congrArg some hf0_88) dn_M_feed_96 ?_
  refine lv_iload hx hb dn_M_feed_99 (lv_at hl 1 rfl) ?_
  refine lv_iadd hx hb dn_M_feed_101 ?_
  refine xk_ti (y := 17) (by decide) ?_
  refine lv_iload hx hb dn_M_feed_102 (lv_at hl 0 rfl) ?_
  refine lv_bipush (v := 24) hx hb dn_M_feed_104 (by decide) ?_
  refine lv_bipush (v := 8) hx hb dn_M_feed_106 (by decide) ?_
  refine lv_iload hx hb dn_M_feed_108 (lv_at hl 1 rfl) ?_
  refine lv_iconst (v := 4) hx hb dn_M_feed_110 (by decide) ?_
  refine lv_irem hx hb dn_M_feed_111 (by decide) ?_
  refine xk_ti (y := 1) (by decide) ?_
  refine lv_imul hx hb dn_M_feed_112 ?_
  refine xk_ti (y := 8) (by decide) ?_
  refine lv_isub hx hb dn_M_feed_113 ?_
  refine xk_ti (y := 16) (by decide) ?_
  refine lv_ishr hx hb dn_M_feed_114 ?_
  refine lv_topi (fun z_52 _ => ?_)
  refine lv_i2b hx hb dn_M_feed_115 rfl ?_
  refine lv_topi (fun z_53 ez_53 => ?_)
  refine va_bast hx hb hK hP hD hS 1 1 rfl rfl (show ¬ (_ ∨ _) by decide) dn_M_feed_116 (fun H locs hP hD hS => ?_)
  obtain ⟨g_54, eg_54⟩ : ∃ z : Nat → Int32, z = upd g_51 (17 : Int32).toNatClampNeg (vp_nar .byte z_53) := ⟨_, rfl⟩
  have hP : va_P (dC, dI) xcl [(h0, .inr (0, xo_M (va_up f0 0 (.int 0)))), (h1, .inl (cB, 65536, .inl g_54))] H := by rw [eg_54]; exact hP
  have hD : va_D A [(h0, .inr (0, xo_M (va_up f0 0 (.int 0)))), (h1, .inl (cB, 65536, .inl g_54))] := by rw [eg_54]; exact hD
  refine lv_iinc (v := 18) (lv' := [(6, .int 18), (7, .int x4), (0, .ref h0), (1, .int x0), (2, .int x1), (3, .int x2), (4, .int x3), (5, .int x4)]) hx hb dn_M_feed_117 hl (k := 1) rfl (by decide) (by decide) rfl (fun ls hl => ?_)
  refine lv_goto (tgt := 36) hx hb dn_M_feed_120 (by decide) ?_
  refine lv_iload hx hb dn_M_feed_36 (lv_at hl 0 rfl) ?_
  refine lv_bipush (v := 20) hx hb dn_M_feed_38 (by decide) ?_
  refine lv_icmp_ge (tgt := 123) hx hb dn_M_feed_40 (by decide) (fun h9 => absurd h9 (by decide)) (fun _ => ?_)
  refine lv_iload hx hb dn_M_feed_43 (lv_at hl 0 rfl) ?_
  refine lv_iconst (v := 4) hx hb dn_M_feed_45 (by decide) ?_
  refine lv_icmp_ge (tgt := 53) hx hb dn_M_feed_46 (by decide) (fun _ => ?_) (fun h9 => absurd h9 (by decide))
  refine lv_iload hx hb dn_M_feed_53 (lv_at hl 0 rfl) ?_
  refine lv_bipush (v := 8) hx hb dn_M_feed_55 (by decide) ?_
  refine lv_icmp_ge (tgt := 64) hx hb dn_M_feed_57 (by decide) (fun _ => ?_) (fun h9 => absurd h9 (by decide))
  refine lv_iload hx hb dn_M_feed_64 (lv_at hl 0 rfl) ?_
  refine lv_bipush (v := 12) hx hb dn_M_feed_66 (by decide) ?_
  refine lv_icmp_ge (tgt := 75) hx hb dn_M_feed_68 (by decide) (fun _ => ?_) (fun h9 => absurd h9 (by decide))
  refine lv_iload hx hb dn_M_feed_75 (lv_at hl 0 rfl) ?_
  refine lv_bipush (v := 16) hx hb dn_M_feed_77 (by decide) ?_
  refine lv_icmp_ge (tgt := 87) hx hb dn_M_feed_79 (by decide) (fun _ => ?_) (fun h9 => absurd h9 (by decide))
  refine lv_iload hx hb dn_M_feed_87 (lv_at hl 7 rfl) ?_
  refine lv_istore (lv' := [(7, .int x4), (6, .int 18), (0, .ref h0), (1, .int x0), (2, .int x1), (3, .int x2), (4, .int x3), (5, .int x4)]) hx hb dn_M_feed_89 hl (by decide) rfl (fun ls hl => ?_)
  refine lv_aload_n hx hb dn_M_feed_91 rfl (lv_at hl 2 rfl) ?_
  refine va_get (D := (dC, dI)) (ci := 0) (v := .ref h1) (C := rn_M) (T := fn_M) (N := 91) hx hb hg in_M hown hK hP 0 rfl rfl 1 (by decide) (hg _ wn_8_69) (fun _ h9 => h9) (congrArg some hf0_1) dn_M_feed_92 ?_
  refine lv_aload_n hx hb dn_M_feed_95 rfl (lv_at hl 2 rfl) ?_
  refine va_get (D := (dC, dI)) (ci := 0) (v := .int 0) (C := rn_M) (T := fn_M) (N := 91) hx hb hg in_M hown hK hP 0 rfl rfl 88 (by decide) (hg _ wn_8_156) (fun _ h9 => h9) (congrArg some hf0_88) dn_M_feed_96 ?_
  refine lv_iload hx hb dn_M_feed_99 (lv_at hl 1 rfl) ?_
  refine lv_iadd hx hb dn_M_feed_101 ?_
  refine xk_ti (y := 18) (by decide) ?_
  refine lv_iload hx hb dn_M_feed_102 (lv_at hl 0 rfl) ?_
  refine lv_bipush (v := 24) hx hb dn_M_feed_104 (by decide) ?_
  refine lv_bipush (v := 8) hx hb dn_M_feed_106 (by decide) ?_
  refine lv_iload hx hb dn_M_feed_108 (lv_at hl 1 rfl) ?_
  refine lv_iconst (v := 4) hx hb dn_M_feed_110 (by decide) ?_
  refine lv_irem hx hb dn_M_feed_111 (by decide) ?_
  refine xk_ti (y := 2) (by decide) ?_
  refine lv_imul hx hb dn_M_feed_112 ?_
  refine xk_ti (y := 16) (by decide) ?_
  refine lv_isub hx hb dn_M_feed_113 ?_
  refine xk_ti (y := 8) (by decide) ?_
  refine lv_ishr hx hb dn_M_feed_114 ?_
  refine lv_topi (fun z_55 _ => ?_)
  refine lv_i2b hx hb dn_M_feed_115 rfl ?_
  refine lv_topi (fun z_56 ez_56 => ?_)
  refine va_bast hx hb hK hP hD hS 1 1 rfl rfl (show ¬ (_ ∨ _) by decide) dn_M_feed_116 (fun H locs hP hD hS => ?_)
  obtain ⟨g_57, eg_57⟩ : ∃ z : Nat → Int32, z = upd g_54 (18 : Int32).toNatClampNeg (vp_nar .byte z_56) := ⟨_, rfl⟩
  have hP : va_P (dC, dI) xcl [(h0, .inr (0, xo_M (va_up f0 0 (.int 0)))), (h1, .inl (cB, 65536, .inl g_57))] H := by rw [eg_57]; exact hP
  have hD : va_D A [(h0, .inr (0, xo_M (va_up f0 0 (.int 0)))), (h1, .inl (cB, 65536, .inl g_57))] := by rw [eg_57]; exact hD
  refine lv_iinc (v := 19) (lv' := [(6, .int 19), (7, .int x4), (0, .ref h0), (1, .int x0), (2, .int x1), (3, .int x2), (4, .int x3), (5, .int x4)]) hx hb dn_M_feed_117 hl (k := 1) rfl (by decide) (by decide) rfl (fun ls hl => ?_)
  refine lv_goto (tgt := 36) hx hb dn_M_feed_120 (by decide) ?_
  refine lv_iload hx hb dn_M_feed_36 (lv_at hl 0 rfl) ?_
  refine lv_bipush (v := 20) hx hb dn_M_feed_38 (by decide) ?_
  refine lv_icmp_ge (tgt := 123) hx hb dn_M_feed_40 (by decide) (fun h9 => absurd h9 (by decide)) (fun _ => ?_)
  refine lv_iload hx hb dn_M_feed_43 (lv_at hl 0 rfl) ?_
  refine lv_iconst (v := 4) hx hb dn_M_feed_45 (by decide) ?_
  refine lv_icmp_ge (tgt := 53) hx hb dn_M_feed_46 (by decide) (fun _ => ?_) (fun h9 => absurd h9 (by decide))
  refine lv_iload hx hb dn_M_feed_53 (lv_at hl 0 rfl) ?_
  refine lv_bipush (v := 8) hx hb dn_M_feed_55 (by decide) ?_
  refine lv_icmp_ge (tgt := 64) hx hb dn_M_feed_57 (by decide) (fun _ => ?_) (fun h9 => absurd h9 (by decide))
  refine lv_iload hx hb dn_M_feed_64 (lv_at hl 0 rfl) ?_
  refine lv_bipush (v := 12) hx hb dn_M_feed_66 (by decide) ?_
  refine lv_icmp_ge (tgt := 75) hx hb dn_M_feed_68 (by decide) (fun _ => ?_) (fun h9 => absurd h9 (by decide))
  refine lv_iload hx hb dn_M_feed_75 (lv_at hl 0 rfl) ?_
  refine lv_bipush (v := 16) hx hb dn_M_feed_77 (by decide) ?_
  refine lv_icmp_ge (tgt := 87) hx hb dn_M_feed_79 (by decide) (fun _ => ?_) (fun h9 => absurd h9 (by decide))
  refine lv_iload hx hb dn_M_feed_87 (lv_at hl 7 rfl) ?_
  refine lv_istore (lv' := [(7, .int x4), (6, .int 19), (0, .ref h0), (1, .int x0), (2, .int x1), (3, .int x2), (4, .int x3), (5, .int x4)]) hx hb dn_M_feed_89 hl (by decide) rfl (fun ls hl => ?_)
  refine lv_aload_n hx hb dn_M_feed_91 rfl (lv_at hl 2 rfl) ?_
  refine va_get (D := (dC, dI)) (ci := 0) (v := .ref h1) (C := rn_M) (T := fn_M) (N := 91) hx hb hg in_M hown hK hP 0 rfl rfl 1 (by decide) (hg _ wn_8_69) (fun _ h9 => h9) (congrArg some hf0_1) dn_M_feed_92 ?_
  refine lv_aload_n hx hb dn_M_feed_95 rfl (lv_at hl 2 rfl) ?_
  refine va_get (D := (dC, dI)) (ci := 0) (v := .int 0) (C := rn_M) (T := fn_M) (N := 91) hx hb hg in_M hown hK hP 0 rfl rfl 88 (by decide) (hg _ wn_8_156) (fun _ h9 => h9) (congrArg some hf0_88) dn_M_feed_96 ?_
  refine lv_iload hx hb dn_M_feed_99 (lv_at hl 1 rfl) ?_
  refine lv_iadd hx hb dn_M_feed_101 ?_
  refine xk_ti (y := 19) (by decide) ?_
  refine lv_iload hx hb dn_M_feed_102 (lv_at hl 0 rfl) ?_
  refine lv_bipush (v := 24) hx hb dn_M_feed_104 (by decide) ?_
  refine lv_bipush (v := 8) hx hb dn_M_feed_106 (by decide) ?_
  refine lv_iload hx hb dn_M_feed_108 (lv_at hl 1 rfl) ?_
  refine lv_iconst (v := 4) hx hb dn_M_feed_110 (by decide) ?_
  refine lv_irem hx hb dn_M_feed_111 (by decide) ?_
  refine xk_ti (y := 3) (by decide) ?_
  refine lv_imul hx hb dn_M_feed_112 ?_
  refine xk_ti (y := 24) (by decide) ?_
  refine lv_isub hx hb dn_M_feed_113 ?_
  refine xk_ti (y := 0) (by decide) ?_
  refine lv_ishr hx hb dn_M_feed_114 ?_
  refine lv_topi (fun z_58 _ => ?_)
  refine lv_i2b hx hb dn_M_feed_115 rfl ?_
  refine lv_topi (fun z_59 ez_59 => ?_)
  refine va_bast hx hb hK hP hD hS 1 1 rfl rfl (show ¬ (_ ∨ _) by decide) dn_M_feed_116 (fun H locs hP hD hS => ?_)
  obtain ⟨g_60, eg_60⟩ : ∃ z : Nat → Int32, z = upd g_57 (19 : Int32).toNatClampNeg (vp_nar .byte z_59) := ⟨_, rfl⟩
  have hP : va_P (dC, dI) xcl [(h0, .inr (0, xo_M (va_up f0 0 (.int 0)))), (h1, .inl (cB, 65536, .inl g_60))] H := by rw [eg_60]; exact hP
  have hD : va_D A [(h0, .inr (0, xo_M (va_up f0 0 (.int 0)))), (h1, .inl (cB, 65536, .inl g_60))] := by rw [eg_60]; exact hD
  refine lv_iinc (v := 20) (lv' := [(6, .int 20), (7, .int x4), (0, .ref h0), (1, .int x0), (2, .int x1), (3, .int x2), (4, .int x3), (5, .int x4)]) hx hb dn_M_feed_117 hl (k := 1) rfl (by decide) (by decide) rfl (fun ls hl => ?_)
  refine lv_goto (tgt := 36) hx hb dn_M_feed_120 (by decide) ?_
  refine lv_iload hx hb dn_M_feed_36 (lv_at hl 0 rfl) ?_
  refine lv_bipush (v := 20) hx hb dn_M_feed_38 (by decide) ?_
  refine lv_icmp_ge (tgt := 123) hx hb dn_M_feed_40 (by decide) (fun _ => ?_) (fun h9 => absurd h9 (by decide))
  refine lv_aload_n hx hb dn_M_feed_123 rfl (lv_at hl 2 rfl) ?_
  refine lv_aload_n hx hb dn_M_feed_124 rfl (lv_at hl 2 rfl) ?_
  refine va_get (D := (dC, dI)) (ci := 0) (v := .int 0) (C := rn_M) (T := fn_M) (N := 91) hx hb hg in_M hown hK hP 0 rfl rfl 88 (by decide) (hg _ wn_8_156) (fun _ h9 => h9) (congrArg some hf0_88) dn_M_feed_125 ?_
  refine lv_bipush (v := 20) hx hb dn_M_feed_128 (by decide) ?_
  refine lv_iadd hx hb dn_M_feed_130 ?_
  refine xk_ti (y := 20) (by decide) ?_
  refine va_put (D := (dC, dI)) (ci := 0) (v := .int 20) (ty := .int) (C := rn_M) (T := fn_M) (N := 91) hx hb hg in_M tn_M tk_M nn_M hown hK hP hD hS 0 rfl rfl 88 (by decide) (hg _ wn_8_156) (fun _ h9 => h9) rfl (tk_M 88 (by decide)) rfl rfl (Nat.le_of_ble_eq_true rfl) dn_M_feed_131 (fun H locs hP hD hS => ?_)
  have hP : va_P (dC, dI) xcl [(h0, .inr (0, xo_M (va_up (va_up f0 0 (.int 0)) 88 (.int 20)))), (h1, .inl (cB, 65536, .inl g_60))] H := hP
  have hD : va_D A [(h0, .inr (0, xo_M (va_up (va_up f0 0 (.int 0)) 88 (.int 20)))), (h1, .inl (cB, 65536, .inl g_60))] := hD
  refine lv_aload_n hx hb dn_M_feed_134 rfl (lv_at hl 2 rfl) ?_
  refine va_get (D := (dC, dI)) (ci := 0) (v := .int 20) (C := rn_M) (T := fn_M) (N := 91) hx hb hg in_M hown hK hP 0 rfl rfl 88 (by decide) (hg _ wn_8_156) (fun _ h9 => h9) rfl dn_M_feed_135 ?_
  have hP9 := hP.sub (ws' := [(h0, .inr (0, xo_M (va_up (va_up f0 0 (.int 0)) 88 (.int 20)))), (h1, .inl (cB, 65536, .inl g_60))]) [0, 1] rfl
  have hD9 := hD.sub (ws' := [(h0, .inr (0, xo_M (va_up (va_up f0 0 (.int 0)) 88 (.int 20)))), (h1, .inl (cB, 65536, .inl g_60))]) [0, 1] (by decide) rfl
  exact xk_iret (w1 := fun u : (Nat → Int32) => [(h0, .inr (0, xo_M (va_up (va_up f0 0 (.int 0)) 88 (.int 20)))), (h1, .inl (cB, 65536, .inl u))]) (g_60) hx hb hr hlocks hK hS dn_M_feed_138 hP9 hD9 rfl (Nat.le_refl _) (Nat.le_refl _)
set_option maxHeartbeats 4000000 in
set_option maxRecDepth 100000 in
theorem ct_M_at_0 (l : Launch) (dC : Nat → ClassId) (dI : Nat → Nat → Nat) (cI cB cJ cZ cQ : ClassId) (sz : Nat) (h0 : Nat) (f0 : Nat → Value) (hf0_2 : f0 2 = .int 0) : Met l yn_M_at (xw yn_M_at bn_M_at 2 (some .int)) ({ frames := 0, cells := 0, slots := 0, locals := 0 }) (xk_P (dC, dI) xcl (xt cI cB cJ cZ cQ) [.ref h0, .int 0] sz [(h0, .inr (0, xo_M f0))]) (xk_Qi (dC, dI) xcl (xt cI cB cJ cZ cQ) (fun (r : Int32) (u : Unit) => r = (-1)) (fun u : Unit => [(h0, .inr (0, xo_M f0))]) (va_A [(h0, .inr (0, xo_M f0))] sz)) 0 0 (va_A [(h0, .inr (0, xo_M f0))] sz) := by
  refine xk_of (QA := xk_Qi (dC, dI) xcl (xt cI cB cJ cZ cQ) (fun (r : Int32) (u : Unit) => r = (-1)) (fun u : Unit => [(h0, .inr (0, xo_M f0))])) (by decide) (Nat.le_of_ble_eq_true rfl) ?_
  intro p e s m below meth c hx hb hml hown hg hr hlocks hin hP hK hN A hA hD hS ls hl
  have hown : s.vm.findClass rn_M = some m.cls := hown
  have hl : lv_has ls 2 [(0, .ref h0), (1, .int 0)] := hl
  obtain ⟨H, hH⟩ : ∃ z, z = s.heap := ⟨_, rfl⟩
  rw [← hH] at hP
  have hS : va_S A s.heap H [] := by rw [hH]; exact va_S.rf
  suffices kk : W p l e ({ frames := 0, cells := 0, slots := 0, locals := 0 }) s m [.ref h0, .int 0].toArray below meth c H [] 0 0 (MQ below (xk_Qi (dC, dI) xcl (xt cI cB cJ cZ cQ) (fun (r : Int32) (u : Unit) => r = (-1)) (fun u : Unit => [(h0, .inr (0, xo_M f0))]) A) [.ref h0, .int 0].toArray s 0 0 A) (F0 m 0 ls []) by rw [hH] at kk; exact kk
  refine lv_iload_n hx hb dn_M_at_0 rfl (lv_at hl 1 rfl) ?_
  refine lv_aload_n hx hb dn_M_at_1 rfl (lv_at hl 0 rfl) ?_
  refine va_get (D := (dC, dI)) (ci := 0) (v := .int 0) (C := rn_M) (T := fn_M) (N := 91) hx hb hg in_M hown hK hP 0 rfl rfl 2 (by decide) (hg _ wn_8_70) (fun _ h9 => h9) (congrArg some hf0_2) dn_M_at_2 ?_
  refine lv_icmp_ge (tgt := 21) hx hb dn_M_at_5 (by decide) (fun _ => ?_) (fun h9 => absurd h9 (by decide))
  refine lv_iconst (v := (-1)) hx hb dn_M_at_21 (by decide) ?_
  have hP9 := hP.sub (ws' := [(h0, .inr (0, xo_M f0))]) [0] rfl
  have hD9 := hD.sub (ws' := [(h0, .inr (0, xo_M f0))]) [0] (by decide) rfl
  exact xk_iret (w1 := fun u : Unit => [(h0, .inr (0, xo_M f0))]) () hx hb hr hlocks hK hS dn_M_at_22 hP9 hD9 rfl (Nat.le_refl _) (Nat.le_refl _)
set_option maxHeartbeats 4000000 in
set_option maxRecDepth 100000 in
theorem ct_M_skip_0 (l : Launch) (dC : Nat → ClassId) (dI : Nat → Nat → Nat) (cI cB cJ cZ cQ : ClassId) (sz : Nat) (h0 : Nat) (f0 : Nat → Value) (hf0_2 : f0 2 = .int 0) : Met l yn_M_skip (xw yn_M_skip bn_M_skip 5 (some .int)) ({ frames := 1, cells := 0, slots := 0, locals := 21 }) (xk_P (dC, dI) xcl (xt cI cB cJ cZ cQ) [.ref h0, .int 0] sz [(h0, .inr (0, xo_M f0))]) (xk_Qi (dC, dI) xcl (xt cI cB cJ cZ cQ) (fun (r : Int32) (u : Unit) => r = 0) (fun u : Unit => [(h0, .inr (0, xo_M f0))]) (va_A [(h0, .inr (0, xo_M f0))] sz)) 0 0 (va_A [(h0, .inr (0, xo_M f0))] sz) := by
  refine xk_of (QA := xk_Qi (dC, dI) xcl (xt cI cB cJ cZ cQ) (fun (r : Int32) (u : Unit) => r = 0) (fun u : Unit => [(h0, .inr (0, xo_M f0))])) (by decide) (Nat.le_of_ble_eq_true rfl) ?_
  intro p e s m below meth c hx hb hml hown hg hr hlocks hin hP hK hN A hA hD hS ls hl
  have hown : s.vm.findClass rn_M = some m.cls := hown
  have hl : lv_has ls 5 [(0, .ref h0), (1, .int 0)] := hl
  obtain ⟨H, hH⟩ : ∃ z, z = s.heap := ⟨_, rfl⟩
  rw [← hH] at hP
  have hS : va_S A s.heap H [] := by rw [hH]; exact va_S.rf
  suffices kk : W p l e ({ frames := 1, cells := 0, slots := 0, locals := 21 }) s m [.ref h0, .int 0].toArray below meth c H [] 0 0 (MQ below (xk_Qi (dC, dI) xcl (xt cI cB cJ cZ cQ) (fun (r : Int32) (u : Unit) => r = 0) (fun u : Unit => [(h0, .inr (0, xo_M f0))]) A) [.ref h0, .int 0].toArray s 0 0 A) (F0 m 0 ls []) by rw [hH] at kk; exact kk
  refine lv_iload_n hx hb dn_M_skip_0 rfl (lv_at hl 1 rfl) ?_
  refine lv_istore_n (lv' := [(2, .int 0), (0, .ref h0), (1, .int 0)]) hx hb dn_M_skip_1 rfl hl (by decide) rfl (fun ls hl => ?_)
  refine lv_aload_n hx hb dn_M_skip_2 rfl (lv_at hl 1 rfl) ?_
  refine lv_iload_n hx hb dn_M_skip_3 rfl (lv_at hl 0 rfl) ?_
  have hPc := hP.sub (ws' := [(h0, .inr (0, xo_M f0))]) [0] rfl
  have hDc := hD.sub (ws' := [(h0, .inr (0, xo_M f0))]) [0] (by decide) rfl
  refine xk_calli (wr := []) (xk_runV (ar := 1) (As := [.int 0]) (rest := []) (ci := 0) (q0 := 0) ⟨hx, hb, hml, hown, hg⟩ hK hN (ct_M_at_0 l dC dI cI cB cJ cZ cQ H.size h0 f0 hf0_2) hPc hDc rfl rfl wn_9_123 wn_9_125 sn_M_at wn_1_13 wn_9_126 rfl rfl (by decide +kernel) ⟨Nat.le_of_ble_eq_true rfl, Nat.le_of_ble_eq_true rfl⟩ rfl hl.1 rfl (Nat.le_of_ble_eq_true rfl) dn_M_skip_4 ⟨Nat.le_of_ble_eq_true rfl, Nat.le_of_ble_eq_true rfl⟩) hP hD hS hA [0] [] rfl rfl (by decide) (by decide) (fun r_1 _ H locs hw hP hD hS => ?_)
  have hP : va_P (dC, dI) xcl [(h0, .inr (0, xo_M f0))] H := hP
  have hD : va_D A [(h0, .inr (0, xo_M f0))] := hD
  have hw : r_1 = (-1) := hw
  subst hw
  refine lv_istore_n (lv' := [(3, .int (-1)), (2, .int 0), (0, .ref h0), (1, .int 0)]) hx hb dn_M_skip_7 rfl hl (by decide) rfl (fun ls hl => ?_)
  refine lv_iload_n hx hb dn_M_skip_8 rfl (lv_at hl 0 rfl) ?_
  refine lv_bipush (v := 9) hx hb dn_M_skip_9 (by decide) ?_
  refine lv_icmp_eq (tgt := 32) hx hb dn_M_skip_11 (by decide) (fun h9 => absurd h9 (by decide)) (fun _ => ?_)
  refine lv_iload_n hx hb dn_M_skip_14 rfl (lv_at hl 0 rfl) ?_
  refine lv_bipush (v := 10) hx hb dn_M_skip_15 (by decide) ?_
  refine lv_icmp_eq (tgt := 32) hx hb dn_M_skip_17 (by decide) (fun h9 => absurd h9 (by decide)) (fun _ => ?_)
  refine lv_iload_n hx hb dn_M_skip_20 rfl (lv_at hl 0 rfl) ?_
  refine lv_bipush (v := 13) hx hb dn_M_skip_21 (by decide) ?_
  refine lv_icmp_eq (tgt := 32) hx hb dn_M_skip_23 (by decide) (fun h9 => absurd h9 (by decide)) (fun _ => ?_)
  refine lv_iload_n hx hb dn_M_skip_26 rfl (lv_at hl 0 rfl) ?_
  refine lv_bipush (v := 32) hx hb dn_M_skip_27 (by decide) ?_
  refine lv_icmp_ne (tgt := 38) hx hb dn_M_skip_29 (by decide) (fun _ => ?_) (fun h9 => absurd h9 (by decide))
  refine lv_iload_n hx hb dn_M_skip_38 rfl (lv_at hl 0 rfl) ?_
  refine lv_bipush (v := 47) hx hb dn_M_skip_39 (by decide) ?_
  refine lv_icmp_ne (tgt := 80) hx hb dn_M_skip_41 (by decide) (fun _ => ?_) (fun h9 => absurd h9 (by decide))
  refine lv_iload_n hx hb dn_M_skip_80 rfl (lv_at hl 0 rfl) ?_
  refine lv_bipush (v := 47) hx hb dn_M_skip_81 (by decide) ?_
  refine lv_icmp_ne (tgt := 163) hx hb dn_M_skip_83 (by decide) (fun _ => ?_) (fun h9 => absurd h9 (by decide))
  refine lv_iload_n hx hb dn_M_skip_163 rfl (lv_at hl 1 rfl) ?_
  have hP9 := hP.sub (ws' := [(h0, .inr (0, xo_M f0))]) [0] rfl
  have hD9 := hD.sub (ws' := [(h0, .inr (0, xo_M f0))]) [0] (by decide) rfl
  exact xk_iret (w1 := fun u : Unit => [(h0, .inr (0, xo_M f0))]) () hx hb hr hlocks hK hS dn_M_skip_164 hP9 hD9 rfl (Nat.le_refl _) (Nat.le_refl _)
set_option maxHeartbeats 4000000 in
set_option maxRecDepth 100000 in
theorem ct_M_token_0 (l : Launch) (dC : Nat → ClassId) (dI : Nat → Nat → Nat) (cI cB cJ cZ cQ : ClassId) (sz : Nat) (h0 : Nat) (h1 : Nat) (h2 : Nat) (h3 : Nat) (f0 : Nat → Value) (hf0_4 : f0 4 = .ref h0) (hf0_5 : f0 5 = .ref h1) (hf0_6 : f0 6 = .ref h2) (hf0_7 : f0 7 = .int 0) : Met l yn_M_token (xw yn_M_token bn_M_token 4 none) ({ frames := 0, cells := 0, slots := 0, locals := 0 }) (xk_P (dC, dI) xcl (xt cI cB cJ cZ cQ) [.ref h3, .int 403, .int 0, .int 0] sz [(h0, .inl (cI, 65540, .inl (fun _ => 0))), (h1, .inl (cI, 65540, .inl (fun _ => 0))), (h2, .inl (cI, 65540, .inl (fun _ => 0))), (h3, .inr (0, xo_M f0))]) (xk_Qv (dC, dI) xcl (xt cI cB cJ cZ cQ) (fun u : Unit => True) (fun u : Unit => [(h0, .inl (cI, 65540, .inl (upd (fun _ => 0) 0 403))), (h1, .inl (cI, 65540, .inl (upd (fun _ => 0) 0 0))), (h2, .inl (cI, 65540, .inl (upd (fun _ => 0) 0 0))), (h3, .inr (0, xo_M (va_up f0 7 (.int 1))))]) (va_A [(h0, .inl (cI, 65540, .inl (fun _ => 0))), (h1, .inl (cI, 65540, .inl (fun _ => 0))), (h2, .inl (cI, 65540, .inl (fun _ => 0))), (h3, .inr (0, xo_M f0))] sz)) 0 0 (va_A [(h0, .inl (cI, 65540, .inl (fun _ => 0))), (h1, .inl (cI, 65540, .inl (fun _ => 0))), (h2, .inl (cI, 65540, .inl (fun _ => 0))), (h3, .inr (0, xo_M f0))] sz) := by
  refine xk_of (QA := xk_Qv (dC, dI) xcl (xt cI cB cJ cZ cQ) (fun u : Unit => True) (fun u : Unit => [(h0, .inl (cI, 65540, .inl (upd (fun _ => 0) 0 403))), (h1, .inl (cI, 65540, .inl (upd (fun _ => 0) 0 0))), (h2, .inl (cI, 65540, .inl (upd (fun _ => 0) 0 0))), (h3, .inr (0, xo_M (va_up f0 7 (.int 1))))])) (by decide) (Nat.le_of_ble_eq_true rfl) ?_
  intro p e s m below meth c hx hb hml hown hg hr hlocks hin hP hK hN A hA hD hS ls hl
  have hown : s.vm.findClass rn_M = some m.cls := hown
  have hl : lv_has ls 4 [(0, .ref h3), (1, .int 403), (2, .int 0), (3, .int 0)] := hl
  obtain ⟨H, hH⟩ : ∃ z, z = s.heap := ⟨_, rfl⟩
  rw [← hH] at hP
  have hS : va_S A s.heap H [] := by rw [hH]; exact va_S.rf
  suffices kk : W p l e ({ frames := 0, cells := 0, slots := 0, locals := 0 }) s m [.ref h3, .int 403, .int 0, .int 0].toArray below meth c H [] 0 0 (MQ below (xk_Qv (dC, dI) xcl (xt cI cB cJ cZ cQ) (fun u : Unit => True) (fun u : Unit => [(h0, .inl (cI, 65540, .inl (upd (fun _ => 0) 0 403))), (h1, .inl (cI, 65540, .inl (upd (fun _ => 0) 0 0))), (h2, .inl (cI, 65540, .inl (upd (fun _ => 0) 0 0))), (h3, .inr (0, xo_M (va_up f0 7 (.int 1))))]) A) [.ref h3, .int 403, .int 0, .int 0].toArray s 0 0 A) (F0 m 0 ls []) by rw [hH] at kk; exact kk
  refine lv_aload_n hx hb dn_M_token_0 rfl (lv_at hl 0 rfl) ?_
  refine va_get (D := (dC, dI)) (ci := 0) (v := .ref h0) (C := rn_M) (T := fn_M) (N := 91) hx hb hg in_M hown hK hP 3 rfl rfl 4 (by decide) (hg _ wn_8_72) (fun _ h9 => h9) (congrArg some hf0_4) dn_M_token_1 ?_
  refine lv_aload_n hx hb dn_M_token_4 rfl (lv_at hl 0 rfl) ?_
  refine va_get (D := (dC, dI)) (ci := 0) (v := .int 0) (C := rn_M) (T := fn_M) (N := 91) hx hb hg in_M hown hK hP 3 rfl rfl 7 (by decide) (hg _ wn_8_75) (fun _ h9 => h9) (congrArg some hf0_7) dn_M_token_5 ?_
  refine lv_iload_n hx hb dn_M_token_8 rfl (lv_at hl 1 rfl) ?_
  refine va_iast hx hb hK hP hD hS 0 0 rfl rfl (show ¬ (_ ∨ _) by decide) dn_M_token_9 (fun H locs hP hD hS => ?_)
  have hP : va_P (dC, dI) xcl [(h0, .inl (cI, 65540, .inl (upd (fun _ => 0) 0 403))), (h1, .inl (cI, 65540, .inl (fun _ => 0))), (h2, .inl (cI, 65540, .inl (fun _ => 0))), (h3, .inr (0, xo_M f0))] H := hP
  have hD : va_D A [(h0, .inl (cI, 65540, .inl (upd (fun _ => 0) 0 403))), (h1, .inl (cI, 65540, .inl (fun _ => 0))), (h2, .inl (cI, 65540, .inl (fun _ => 0))), (h3, .inr (0, xo_M f0))] := hD
  refine lv_aload_n hx hb dn_M_token_10 rfl (lv_at hl 0 rfl) ?_
  refine va_get (D := (dC, dI)) (ci := 0) (v := .ref h1) (C := rn_M) (T := fn_M) (N := 91) hx hb hg in_M hown hK hP 3 rfl rfl 5 (by decide) (hg _ wn_8_73) (fun _ h9 => h9) (congrArg some hf0_5) dn_M_token_11 ?_
  refine lv_aload_n hx hb dn_M_token_14 rfl (lv_at hl 0 rfl) ?_
  refine va_get (D := (dC, dI)) (ci := 0) (v := .int 0) (C := rn_M) (T := fn_M) (N := 91) hx hb hg in_M hown hK hP 3 rfl rfl 7 (by decide) (hg _ wn_8_75) (fun _ h9 => h9) (congrArg some hf0_7) dn_M_token_15 ?_
  refine lv_iload_n hx hb dn_M_token_18 rfl (lv_at hl 2 rfl) ?_
  refine va_iast hx hb hK hP hD hS 1 0 rfl rfl (show ¬ (_ ∨ _) by decide) dn_M_token_19 (fun H locs hP hD hS => ?_)
  have hP : va_P (dC, dI) xcl [(h0, .inl (cI, 65540, .inl (upd (fun _ => 0) 0 403))), (h1, .inl (cI, 65540, .inl (upd (fun _ => 0) 0 0))), (h2, .inl (cI, 65540, .inl (fun _ => 0))), (h3, .inr (0, xo_M f0))] H := hP
  have hD : va_D A [(h0, .inl (cI, 65540, .inl (upd (fun _ => 0) 0 403))), (h1, .inl (cI, 65540, .inl (upd (fun _ => 0) 0 0))), (h2, .inl (cI, 65540, .inl (fun _ => 0))), (h3, .inr (0, xo_M f0))] := hD
  refine lv_aload_n hx hb dn_M_token_20 rfl (lv_at hl 0 rfl) ?_
  refine va_get (D := (dC, dI)) (ci := 0) (v := .ref h2) (C := rn_M) (T := fn_M) (N := 91) hx hb hg in_M hown hK hP 3 rfl rfl 6 (by decide) (hg _ wn_8_74) (fun _ h9 => h9) (congrArg some hf0_6) dn_M_token_21 ?_
  refine lv_aload_n hx hb dn_M_token_24 rfl (lv_at hl 0 rfl) ?_
  refine va_get (D := (dC, dI)) (ci := 0) (v := .int 0) (C := rn_M) (T := fn_M) (N := 91) hx hb hg in_M hown hK hP 3 rfl rfl 7 (by decide) (hg _ wn_8_75) (fun _ h9 => h9) (congrArg some hf0_7) dn_M_token_25 ?_
  refine lv_iload_n hx hb dn_M_token_28 rfl (lv_at hl 3 rfl) ?_
  refine va_iast hx hb hK hP hD hS 2 0 rfl rfl (show ¬ (_ ∨ _) by decide) dn_M_token_29 (fun H locs hP hD hS => ?_)
  have hP : va_P (dC, dI) xcl [(h0, .inl (cI, 65540, .inl (upd (fun _ => 0) 0 403))), (h1, .inl (cI, 65540, .inl (upd (fun _ => 0) 0 0))), (h2, .inl (cI, 65540, .inl (upd (fun _ => 0) 0 0))), (h3, .inr (0, xo_M f0))] H := hP
  have hD : va_D A [(h0, .inl (cI, 65540, .inl (upd (fun _ => 0) 0 403))), (h1, .inl (cI, 65540, .inl (upd (fun _ => 0) 0 0))), (h2, .inl (cI, 65540, .inl (upd (fun _ => 0) 0 0))), (h3, .inr (0, xo_M f0))] := hD
  refine lv_aload_n hx hb dn_M_token_30 rfl (lv_at hl 0 rfl) ?_
  refine lv_dup hx hb dn_M_token_31 rfl ?_
  refine va_get (D := (dC, dI)) (ci := 0) (v := .int 0) (C := rn_M) (T := fn_M) (N := 91) hx hb hg in_M hown hK hP 3 rfl rfl 7 (by decide) (hg _ wn_8_75) (fun _ h9 => h9) (congrArg some hf0_7) dn_M_token_32 ?_
  refine lv_iconst (v := 1) hx hb dn_M_token_35 (by decide) ?_
  refine lv_iadd hx hb dn_M_token_36 ?_
  refine xk_ti (y := 1) (by decide) ?_
  refine va_put (D := (dC, dI)) (ci := 0) (v := .int 1) (ty := .int) (C := rn_M) (T := fn_M) (N := 91) hx hb hg in_M tn_M tk_M nn_M hown hK hP hD hS 3 rfl rfl 7 (by decide) (hg _ wn_8_75) (fun _ h9 => h9) rfl (tk_M 7 (by decide)) rfl rfl (Nat.le_of_ble_eq_true rfl) dn_M_token_37 (fun H locs hP hD hS => ?_)
  have hP : va_P (dC, dI) xcl [(h0, .inl (cI, 65540, .inl (upd (fun _ => 0) 0 403))), (h1, .inl (cI, 65540, .inl (upd (fun _ => 0) 0 0))), (h2, .inl (cI, 65540, .inl (upd (fun _ => 0) 0 0))), (h3, .inr (0, xo_M (va_up f0 7 (.int 1))))] H := hP
  have hD : va_D A [(h0, .inl (cI, 65540, .inl (upd (fun _ => 0) 0 403))), (h1, .inl (cI, 65540, .inl (upd (fun _ => 0) 0 0))), (h2, .inl (cI, 65540, .inl (upd (fun _ => 0) 0 0))), (h3, .inr (0, xo_M (va_up f0 7 (.int 1))))] := hD
  have hP9 := hP.sub (ws' := [(h0, .inl (cI, 65540, .inl (upd (fun _ => 0) 0 403))), (h1, .inl (cI, 65540, .inl (upd (fun _ => 0) 0 0))), (h2, .inl (cI, 65540, .inl (upd (fun _ => 0) 0 0))), (h3, .inr (0, xo_M (va_up f0 7 (.int 1))))]) [0, 1, 2, 3] rfl
  have hD9 := hD.sub (ws' := [(h0, .inl (cI, 65540, .inl (upd (fun _ => 0) 0 403))), (h1, .inl (cI, 65540, .inl (upd (fun _ => 0) 0 0))), (h2, .inl (cI, 65540, .inl (upd (fun _ => 0) 0 0))), (h3, .inr (0, xo_M (va_up f0 7 (.int 1))))]) [0, 1, 2, 3] (by decide) rfl
  exact xk_vret (w1 := fun u : Unit => [(h0, .inl (cI, 65540, .inl (upd (fun _ => 0) 0 403))), (h1, .inl (cI, 65540, .inl (upd (fun _ => 0) 0 0))), (h2, .inl (cI, 65540, .inl (upd (fun _ => 0) 0 0))), (h3, .inr (0, xo_M (va_up f0 7 (.int 1))))]) () hx hb hr hlocks hK hS dn_M_token_40 hP9 hD9 trivial (Nat.le_refl _) (Nat.le_refl _)
set_option maxHeartbeats 4000000 in
set_option maxRecDepth 100000 in
theorem ct_M_cutTokens_0 (l : Launch) (dC : Nat → ClassId) (dI : Nat → Nat → Nat) (cI cB cJ cZ cQ : ClassId) (sz : Nat) (h0 : Nat) (h1 : Nat) (h2 : Nat) (h3 : Nat) (f0 : Nat → Value) (hf0_2 : f0 2 = .int 0) (hf0_4 : f0 4 = .ref h1) (hf0_5 : f0 5 = .ref h2) (hf0_6 : f0 6 = .ref h3) : Met l yn_M_cutTokens (xw yn_M_cutTokens bn_M_cutTokens 4 none) ({ frames := 2, cells := 0, slots := 0, locals := 45 }) (xk_P (dC, dI) xcl (xt cI cB cJ cZ cQ) [.ref h0] sz [(h0, .inr (0, xo_M f0)), (h1, .inl (cI, 65540, .inl (fun _ => 0))), (h2, .inl (cI, 65540, .inl (fun _ => 0))), (h3, .inl (cI, 65540, .inl (fun _ => 0)))]) (xk_Qv (dC, dI) xcl (xt cI cB cJ cZ cQ) (fun u : Unit => True) (fun u : Unit => [(h1, .inl (cI, 65540, .inl (upd (fun _ => 0) 0 403))), (h2, .inl (cI, 65540, .inl (upd (fun _ => 0) 0 0))), (h3, .inl (cI, 65540, .inl (upd (fun _ => 0) 0 0))), (h0, .inr (0, xo_M (va_up ((va_up f0 7 (.int 0))) 7 (.int 1))))]) (va_A [(h0, .inr (0, xo_M f0)), (h1, .inl (cI, 65540, .inl (fun _ => 0))), (h2, .inl (cI, 65540, .inl (fun _ => 0))), (h3, .inl (cI, 65540, .inl (fun _ => 0)))] sz)) 0 0 (va_A [(h0, .inr (0, xo_M f0)), (h1, .inl (cI, 65540, .inl (fun _ => 0))), (h2, .inl (cI, 65540, .inl (fun _ => 0))), (h3, .inl (cI, 65540, .inl (fun _ => 0)))] sz) := by
  refine xk_of (QA := xk_Qv (dC, dI) xcl (xt cI cB cJ cZ cQ) (fun u : Unit => True) (fun u : Unit => [(h1, .inl (cI, 65540, .inl (upd (fun _ => 0) 0 403))), (h2, .inl (cI, 65540, .inl (upd (fun _ => 0) 0 0))), (h3, .inl (cI, 65540, .inl (upd (fun _ => 0) 0 0))), (h0, .inr (0, xo_M (va_up ((va_up f0 7 (.int 0))) 7 (.int 1))))])) (by decide) (Nat.le_of_ble_eq_true rfl) ?_
  intro p e s m below meth c hx hb hml hown hg hr hlocks hin hP hK hN A hA hD hS ls hl
  have hown : s.vm.findClass rn_M = some m.cls := hown
  have hl : lv_has ls 4 [(0, .ref h0)] := hl
  obtain ⟨H, hH⟩ : ∃ z, z = s.heap := ⟨_, rfl⟩
  rw [← hH] at hP
  have hS : va_S A s.heap H [] := by rw [hH]; exact va_S.rf
  suffices kk : W p l e ({ frames := 2, cells := 0, slots := 0, locals := 45 }) s m [.ref h0].toArray below meth c H [] 0 0 (MQ below (xk_Qv (dC, dI) xcl (xt cI cB cJ cZ cQ) (fun u : Unit => True) (fun u : Unit => [(h1, .inl (cI, 65540, .inl (upd (fun _ => 0) 0 403))), (h2, .inl (cI, 65540, .inl (upd (fun _ => 0) 0 0))), (h3, .inl (cI, 65540, .inl (upd (fun _ => 0) 0 0))), (h0, .inr (0, xo_M (va_up ((va_up f0 7 (.int 0))) 7 (.int 1))))]) A) [.ref h0].toArray s 0 0 A) (F0 m 0 ls []) by rw [hH] at kk; exact kk
  refine lv_aload_n hx hb dn_M_cutTokens_0 rfl (lv_at hl 0 rfl) ?_
  refine lv_iconst (v := 0) hx hb dn_M_cutTokens_1 (by decide) ?_
  refine va_put (D := (dC, dI)) (ci := 0) (v := .int 0) (ty := .int) (C := rn_M) (T := fn_M) (N := 91) hx hb hg in_M tn_M tk_M nn_M hown hK hP hD hS 0 rfl rfl 7 (by decide) (hg _ wn_8_75) (fun _ h9 => h9) rfl (tk_M 7 (by decide)) rfl rfl (Nat.le_of_ble_eq_true rfl) dn_M_cutTokens_2 (fun H locs hP hD hS => ?_)
  have hP : va_P (dC, dI) xcl [(h0, .inr (0, xo_M (va_up f0 7 (.int 0)))), (h1, .inl (cI, 65540, .inl (fun _ => 0))), (h2, .inl (cI, 65540, .inl (fun _ => 0))), (h3, .inl (cI, 65540, .inl (fun _ => 0)))] H := hP
  have hD : va_D A [(h0, .inr (0, xo_M (va_up f0 7 (.int 0)))), (h1, .inl (cI, 65540, .inl (fun _ => 0))), (h2, .inl (cI, 65540, .inl (fun _ => 0))), (h3, .inl (cI, 65540, .inl (fun _ => 0)))] := hD
  refine lv_iconst (v := 0) hx hb dn_M_cutTokens_5 (by decide) ?_
  refine lv_istore_n (lv' := [(1, .int 0), (0, .ref h0)]) hx hb dn_M_cutTokens_6 rfl hl (by decide) rfl (fun ls hl => ?_)
  refine lv_aload_n hx hb dn_M_cutTokens_7 rfl (lv_at hl 1 rfl) ?_
  refine lv_iload_n hx hb dn_M_cutTokens_8 rfl (lv_at hl 0 rfl) ?_
  have hPc := hP.sub (ws' := [(h0, .inr (0, xo_M (va_up f0 7 (.int 0))))]) [0] rfl
  have hDc := hD.sub (ws' := [(h0, .inr (0, xo_M (va_up f0 7 (.int 0))))]) [0] (by decide) rfl
  refine xk_calli (wr := [(h1, .inl (cI, 65540, .inl (fun _ => 0))), (h2, .inl (cI, 65540, .inl (fun _ => 0))), (h3, .inl (cI, 65540, .inl (fun _ => 0)))]) (xk_runV (ar := 1) (As := [.int 0]) (rest := []) (ci := 0) (q0 := 0) ⟨hx, hb, hml, hown, hg⟩ hK hN (ct_M_skip_0 l dC dI cI cB cJ cZ cQ H.size h0 (va_up f0 7 (.int 0)) hf0_2) hPc hDc rfl rfl wn_9_119 wn_9_121 sn_M_skip wn_1_13 wn_9_122 rfl rfl (by decide +kernel) ⟨Nat.le_of_ble_eq_true rfl, Nat.le_of_ble_eq_true rfl⟩ rfl hl.1 rfl (Nat.le_of_ble_eq_true rfl) dn_M_cutTokens_9 ⟨Nat.le_of_ble_eq_true rfl, Nat.le_of_ble_eq_true rfl⟩) hP hD hS hA [0] [1, 2, 3] rfl rfl (by decide) (by decide) (fun r_1 _ H locs hw hP hD hS => ?_)
  have hP : va_P (dC, dI) xcl [(h1, .inl (cI, 65540, .inl (fun _ => 0))), (h2, .inl (cI, 65540, .inl (fun _ => 0))), (h3, .inl (cI, 65540, .inl (fun _ => 0))), (h0, .inr (0, xo_M ((va_up f0 7 (.int 0)))))] H := hP
  have hD : va_D A [(h1, .inl (cI, 65540, .inl (fun _ => 0))), (h2, .inl (cI, 65540, .inl (fun _ => 0))), (h3, .inl (cI, 65540, .inl (fun _ => 0))), (h0, .inr (0, xo_M ((va_up f0 7 (.int 0)))))] := hD
  have hw : r_1 = 0 := hw
  subst hw
  refine lv_istore_n (lv' := [(2, .int 0), (1, .int 0), (0, .ref h0)]) hx hb dn_M_cutTokens_12 rfl hl (by decide) rfl (fun ls hl => ?_)
  refine lv_iload_n hx hb dn_M_cutTokens_13 rfl (lv_at hl 0 rfl) ?_
  refine lv_if_ge (tgt := 32) hx hb dn_M_cutTokens_14 (by decide) (fun _ => ?_) (fun h9 => absurd h9 (by decide))
  refine lv_iload_n hx hb dn_M_cutTokens_32 rfl (lv_at hl 0 rfl) ?_
  refine lv_aload_n hx hb dn_M_cutTokens_33 rfl (lv_at hl 2 rfl) ?_
  refine va_get (D := (dC, dI)) (ci := 0) (v := .int 0) (C := rn_M) (T := fn_M) (N := 91) hx hb hg in_M hown hK hP 3 rfl rfl 2 (by decide) (hg _ wn_8_70) (fun _ h9 => h9) (congrArg some hf0_2) dn_M_cutTokens_34 ?_
  refine lv_icmp_lt (tgt := 56) hx hb dn_M_cutTokens_37 (by decide) (fun h9 => absurd h9 (by decide)) (fun _ => ?_)
  refine lv_aload_n hx hb dn_M_cutTokens_40 rfl (lv_at hl 2 rfl) ?_
  refine lv_sipush (v := 403) hx hb dn_M_cutTokens_41 (by decide) ?_
  refine lv_aload_n hx hb dn_M_cutTokens_44 rfl (lv_at hl 2 rfl) ?_
  refine va_get (D := (dC, dI)) (ci := 0) (v := .int 0) (C := rn_M) (T := fn_M) (N := 91) hx hb hg in_M hown hK hP 3 rfl rfl 2 (by decide) (hg _ wn_8_70) (fun _ h9 => h9) (congrArg some hf0_2) dn_M_cutTokens_45 ?_
  refine lv_aload_n hx hb dn_M_cutTokens_48 rfl (lv_at hl 2 rfl) ?_
  refine va_get (D := (dC, dI)) (ci := 0) (v := .int 0) (C := rn_M) (T := fn_M) (N := 91) hx hb hg in_M hown hK hP 3 rfl rfl 2 (by decide) (hg _ wn_8_70) (fun _ h9 => h9) (congrArg some hf0_2) dn_M_cutTokens_49 ?_
  have hPc := hP.sub (ws' := [(h1, .inl (cI, 65540, .inl (fun _ => 0))), (h2, .inl (cI, 65540, .inl (fun _ => 0))), (h3, .inl (cI, 65540, .inl (fun _ => 0))), (h0, .inr (0, xo_M ((va_up f0 7 (.int 0)))))]) [0, 1, 2, 3] rfl
  have hDc := hD.sub (ws' := [(h1, .inl (cI, 65540, .inl (fun _ => 0))), (h2, .inl (cI, 65540, .inl (fun _ => 0))), (h3, .inl (cI, 65540, .inl (fun _ => 0))), (h0, .inr (0, xo_M ((va_up f0 7 (.int 0)))))]) [0, 1, 2, 3] (by decide) rfl
  refine xk_callv (wr := []) (xk_runV (ar := 3) (As := [.int 403, .int 0, .int 0]) (rest := []) (ci := 0) (q0 := 3) ⟨hx, hb, hml, hown, hg⟩ hK hN (ct_M_token_0 l dC dI cI cB cJ cZ cQ H.size h1 h2 h3 h0 ((va_up f0 7 (.int 0))) hf0_4 hf0_5 hf0_6 (show ((va_up f0 7 (.int 0))) 7 = .int 0 from rfl)) hPc hDc rfl rfl wn_9_127 wn_9_129 sn_M_token wn_1_13 wn_9_130 rfl rfl (by decide +kernel) ⟨Nat.le_of_ble_eq_true rfl, Nat.le_of_ble_eq_true rfl⟩ rfl hl.1 rfl (Nat.le_of_ble_eq_true rfl) dn_M_cutTokens_52 ⟨Nat.le_of_ble_eq_true rfl, Nat.le_of_ble_eq_true rfl⟩) hP hD hS hA [0, 1, 2, 3] [] rfl rfl (by decide) (by decide) (fun _ H locs hw hP hD hS => ?_)
  have hP : va_P (dC, dI) xcl [(h1, .inl (cI, 65540, .inl (upd (fun _ => 0) 0 403))), (h2, .inl (cI, 65540, .inl (upd (fun _ => 0) 0 0))), (h3, .inl (cI, 65540, .inl (upd (fun _ => 0) 0 0))), (h0, .inr (0, xo_M (va_up ((va_up f0 7 (.int 0))) 7 (.int 1))))] H := hP
  have hD : va_D A [(h1, .inl (cI, 65540, .inl (upd (fun _ => 0) 0 403))), (h2, .inl (cI, 65540, .inl (upd (fun _ => 0) 0 0))), (h3, .inl (cI, 65540, .inl (upd (fun _ => 0) 0 0))), (h0, .inr (0, xo_M (va_up ((va_up f0 7 (.int 0))) 7 (.int 1))))] := hD
  have hP9 := hP.sub (ws' := [(h1, .inl (cI, 65540, .inl (upd (fun _ => 0) 0 403))), (h2, .inl (cI, 65540, .inl (upd (fun _ => 0) 0 0))), (h3, .inl (cI, 65540, .inl (upd (fun _ => 0) 0 0))), (h0, .inr (0, xo_M (va_up ((va_up f0 7 (.int 0))) 7 (.int 1))))]) [0, 1, 2, 3] rfl
  have hD9 := hD.sub (ws' := [(h1, .inl (cI, 65540, .inl (upd (fun _ => 0) 0 403))), (h2, .inl (cI, 65540, .inl (upd (fun _ => 0) 0 0))), (h3, .inl (cI, 65540, .inl (upd (fun _ => 0) 0 0))), (h0, .inr (0, xo_M (va_up ((va_up f0 7 (.int 0))) 7 (.int 1))))]) [0, 1, 2, 3] (by decide) rfl
  exact xk_vret (w1 := fun u : Unit => [(h1, .inl (cI, 65540, .inl (upd (fun _ => 0) 0 403))), (h2, .inl (cI, 65540, .inl (upd (fun _ => 0) 0 0))), (h3, .inl (cI, 65540, .inl (upd (fun _ => 0) 0 0))), (h0, .inr (0, xo_M (va_up ((va_up f0 7 (.int 0))) 7 (.int 1))))]) () hx hb hr hlocks hK hS dn_M_cutTokens_55 hP9 hD9 trivial (Nat.le_refl _) (Nat.le_refl _)
set_option maxHeartbeats 4000000 in
set_option maxRecDepth 100000 in
theorem ct_M_fail_0 (l : Launch) (dC : Nat → ClassId) (dI : Nat → Nat → Nat) (cI cB cJ cZ cQ : ClassId) (sz : Nat) (h0 : Nat) (f0 : Nat → Value) (hf0_9 : f0 9 = .int 0) : Met l yn_M_fail (xw yn_M_fail bn_M_fail 3 none) ({ frames := 0, cells := 0, slots := 0, locals := 0 }) (xk_P (dC, dI) xcl (xt cI cB cJ cZ cQ) [.ref h0, .int 2, .int 0] sz [(h0, .inr (0, xo_M f0))]) (xk_Qv (dC, dI) xcl (xt cI cB cJ cZ cQ) (fun u : Unit => True) (fun u : Unit => [(h0, .inr (0, xo_M (va_up (va_up f0 9 (.int 2)) 10 (.int 0))))]) (va_A [(h0, .inr (0, xo_M f0))] sz)) 0 0 (va_A [(h0, .inr (0, xo_M f0))] sz) := by
  refine xk_of (QA := xk_Qv (dC, dI) xcl (xt cI cB cJ cZ cQ) (fun u : Unit => True) (fun u : Unit => [(h0, .inr (0, xo_M (va_up (va_up f0 9 (.int 2)) 10 (.int 0))))])) (by decide) (Nat.le_of_ble_eq_true rfl) ?_
  intro p e s m below meth c hx hb hml hown hg hr hlocks hin hP hK hN A hA hD hS ls hl
  have hown : s.vm.findClass rn_M = some m.cls := hown
  have hl : lv_has ls 3 [(0, .ref h0), (1, .int 2), (2, .int 0)] := hl
  obtain ⟨H, hH⟩ : ∃ z, z = s.heap := ⟨_, rfl⟩
  rw [← hH] at hP
  have hS : va_S A s.heap H [] := by rw [hH]; exact va_S.rf
  suffices kk : W p l e ({ frames := 0, cells := 0, slots := 0, locals := 0 }) s m [.ref h0, .int 2, .int 0].toArray below meth c H [] 0 0 (MQ below (xk_Qv (dC, dI) xcl (xt cI cB cJ cZ cQ) (fun u : Unit => True) (fun u : Unit => [(h0, .inr (0, xo_M (va_up (va_up f0 9 (.int 2)) 10 (.int 0))))]) A) [.ref h0, .int 2, .int 0].toArray s 0 0 A) (F0 m 0 ls []) by rw [hH] at kk; exact kk
  refine lv_aload_n hx hb dn_M_fail_0 rfl (lv_at hl 0 rfl) ?_
  refine va_get (D := (dC, dI)) (ci := 0) (v := .int 0) (C := rn_M) (T := fn_M) (N := 91) hx hb hg in_M hown hK hP 0 rfl rfl 9 (by decide) (hg _ wn_8_77) (fun _ h9 => h9) (congrArg some hf0_9) dn_M_fail_1 ?_
  refine lv_if_ne (tgt := 17) hx hb dn_M_fail_4 (by decide) (fun h9 => absurd h9 (by decide)) (fun _ => ?_)
  refine lv_aload_n hx hb dn_M_fail_7 rfl (lv_at hl 0 rfl) ?_
  refine lv_iload_n hx hb dn_M_fail_8 rfl (lv_at hl 1 rfl) ?_
  refine va_put (D := (dC, dI)) (ci := 0) (v := .int 2) (ty := .int) (C := rn_M) (T := fn_M) (N := 91) hx hb hg in_M tn_M tk_M nn_M hown hK hP hD hS 0 rfl rfl 9 (by decide) (hg _ wn_8_77) (fun _ h9 => h9) rfl (tk_M 9 (by decide)) rfl rfl (Nat.le_of_ble_eq_true rfl) dn_M_fail_9 (fun H locs hP hD hS => ?_)
  have hP : va_P (dC, dI) xcl [(h0, .inr (0, xo_M (va_up f0 9 (.int 2))))] H := hP
  have hD : va_D A [(h0, .inr (0, xo_M (va_up f0 9 (.int 2))))] := hD
  refine lv_aload_n hx hb dn_M_fail_12 rfl (lv_at hl 0 rfl) ?_
  refine lv_iload_n hx hb dn_M_fail_13 rfl (lv_at hl 2 rfl) ?_
  refine va_put (D := (dC, dI)) (ci := 0) (v := .int 0) (ty := .int) (C := rn_M) (T := fn_M) (N := 91) hx hb hg in_M tn_M tk_M nn_M hown hK hP hD hS 0 rfl rfl 10 (by decide) (hg _ wn_8_78) (fun _ h9 => h9) rfl (tk_M 10 (by decide)) rfl rfl (Nat.le_of_ble_eq_true rfl) dn_M_fail_14 (fun H locs hP hD hS => ?_)
  have hP : va_P (dC, dI) xcl [(h0, .inr (0, xo_M (va_up (va_up f0 9 (.int 2)) 10 (.int 0))))] H := hP
  have hD : va_D A [(h0, .inr (0, xo_M (va_up (va_up f0 9 (.int 2)) 10 (.int 0))))] := hD
  have hP9 := hP.sub (ws' := [(h0, .inr (0, xo_M (va_up (va_up f0 9 (.int 2)) 10 (.int 0))))]) [0] rfl
  have hD9 := hD.sub (ws' := [(h0, .inr (0, xo_M (va_up (va_up f0 9 (.int 2)) 10 (.int 0))))]) [0] (by decide) rfl
  exact xk_vret (w1 := fun u : Unit => [(h0, .inr (0, xo_M (va_up (va_up f0 9 (.int 2)) 10 (.int 0))))]) () hx hb hr hlocks hK hS dn_M_fail_17 hP9 hD9 trivial (Nat.le_refl _) (Nat.le_refl _)
set_option maxHeartbeats 4000000 in
set_option maxRecDepth 100000 in
theorem ct_M_no_0 (l : Launch) (dC : Nat → ClassId) (dI : Nat → Nat → Nat) (cI cB cJ cZ cQ : ClassId) (sz : Nat) (h0 : Nat) (h1 : Nat) (h2 : Nat) (g0 : Nat → Int32) (g1 : Nat → Int32) (f0 : Nat → Value) (he0_0 : g0 0 = 403) (he1_0 : g1 0 = 0) (hf0_4 : f0 4 = .ref h0) (hf0_5 : f0 5 = .ref h1) (hf0_8 : f0 8 = .int 0) (hf0_9 : f0 9 = .int 0) : Met l yn_M_no (xw yn_M_no bn_M_no 1 none) ({ frames := 1, cells := 0, slots := 0, locals := 22 }) (xk_P (dC, dI) xcl (xt cI cB cJ cZ cQ) [.ref h2] sz [(h0, .inl (cI, 65540, .inl g0)), (h1, .inl (cI, 65540, .inl g1)), (h2, .inr (0, xo_M f0))]) (xk_Qv (dC, dI) xcl (xt cI cB cJ cZ cQ) (fun u : Unit => True) (fun u : Unit => [(h0, .inl (cI, 65540, .inl g0)), (h1, .inl (cI, 65540, .inl g1)), (h2, .inr (0, xo_M (va_up (va_up f0 9 (.int 2)) 10 (.int 0))))]) (va_A [(h0, .inl (cI, 65540, .inl g0)), (h1, .inl (cI, 65540, .inl g1)), (h2, .inr (0, xo_M f0))] sz)) 0 0 (va_A [(h0, .inl (cI, 65540, .inl g0)), (h1, .inl (cI, 65540, .inl g1)), (h2, .inr (0, xo_M f0))] sz) := by
  refine xk_of (QA := xk_Qv (dC, dI) xcl (xt cI cB cJ cZ cQ) (fun u : Unit => True) (fun u : Unit => [(h0, .inl (cI, 65540, .inl g0)), (h1, .inl (cI, 65540, .inl g1)), (h2, .inr (0, xo_M (va_up (va_up f0 9 (.int 2)) 10 (.int 0))))])) (by decide) (Nat.le_of_ble_eq_true rfl) ?_
  intro p e s m below meth c hx hb hml hown hg hr hlocks hin hP hK hN A hA hD hS ls hl
  have hown : s.vm.findClass rn_M = some m.cls := hown
  have hl : lv_has ls 1 [(0, .ref h2)] := hl
  obtain ⟨H, hH⟩ : ∃ z, z = s.heap := ⟨_, rfl⟩
  rw [← hH] at hP
  have hS : va_S A s.heap H [] := by rw [hH]; exact va_S.rf
  suffices kk : W p l e ({ frames := 1, cells := 0, slots := 0, locals := 22 }) s m [.ref h2].toArray below meth c H [] 0 0 (MQ below (xk_Qv (dC, dI) xcl (xt cI cB cJ cZ cQ) (fun u : Unit => True) (fun u : Unit => [(h0, .inl (cI, 65540, .inl g0)), (h1, .inl (cI, 65540, .inl g1)), (h2, .inr (0, xo_M (va_up (va_up f0 9 (.int 2)) 10 (.int 0))))]) A) [.ref h2].toArray s 0 0 A) (F0 m 0 ls []) by rw [hH] at kk; exact kk
  refine lv_aload_n hx hb dn_M_no_0 rfl (lv_at hl 0 rfl) ?_
  refine lv_aload_n hx hb dn_M_no_1 rfl (lv_at hl 0 rfl) ?_
  refine va_get (D := (dC, dI)) (ci := 0) (v := .ref h0) (C := rn_M) (T := fn_M) (N := 91) hx hb hg in_M hown hK hP 2 rfl rfl 4 (by decide) (hg _ wn_8_72) (fun _ h9 => h9) (congrArg some hf0_4) dn_M_no_2 ?_
  refine lv_aload_n hx hb dn_M_no_5 rfl (lv_at hl 0 rfl) ?_
  refine va_get (D := (dC, dI)) (ci := 0) (v := .int 0) (C := rn_M) (T := fn_M) (N := 91) hx hb hg in_M hown hK hP 2 rfl rfl 8 (by decide) (hg _ wn_8_76) (fun _ h9 => h9) (congrArg some hf0_8) dn_M_no_6 ?_
  refine va_iald hx hb hK hP 0 0 rfl rfl (show ¬ (_ ∨ _) by decide) dn_M_no_9 ?_
  refine xk_ti (y := 403) he0_0 ?_
  refine lv_sipush (v := 404) hx hb dn_M_no_10 (by decide) ?_
  refine lv_icmp_ne (tgt := 20) hx hb dn_M_no_13 (by decide) (fun _ => ?_) (fun h9 => absurd h9 (by decide))
  refine lv_iconst (v := 2) hx hb dn_M_no_20 (by decide) ?_
  refine lv_aload_n hx hb dn_M_no_21 rfl (lv_at hl 0 rfl) ?_
  refine va_get (D := (dC, dI)) (ci := 0) (v := .ref h1) (C := rn_M) (T := fn_M) (N := 91) hx hb hg in_M hown hK hP 2 rfl rfl 5 (by decide) (hg _ wn_8_73) (fun _ h9 => h9) (congrArg some hf0_5) dn_M_no_22 ?_
  refine lv_aload_n hx hb dn_M_no_25 rfl (lv_at hl 0 rfl) ?_
  refine va_get (D := (dC, dI)) (ci := 0) (v := .int 0) (C := rn_M) (T := fn_M) (N := 91) hx hb hg in_M hown hK hP 2 rfl rfl 8 (by decide) (hg _ wn_8_76) (fun _ h9 => h9) (congrArg some hf0_8) dn_M_no_26 ?_
  refine va_iald hx hb hK hP 1 0 rfl rfl (show ¬ (_ ∨ _) by decide) dn_M_no_29 ?_
  refine xk_ti (y := 0) he1_0 ?_
  have hPc := hP.sub (ws' := [(h2, .inr (0, xo_M f0))]) [2] rfl
  have hDc := hD.sub (ws' := [(h2, .inr (0, xo_M f0))]) [2] (by decide) rfl
  refine xk_callv (wr := [(h0, .inl (cI, 65540, .inl g0)), (h1, .inl (cI, 65540, .inl g1))]) (xk_runV (ar := 2) (As := [.int 2, .int 0]) (rest := []) (ci := 0) (q0 := 0) ⟨hx, hb, hml, hown, hg⟩ hK hN (ct_M_fail_0 l dC dI cI cB cJ cZ cQ H.size h2 f0 hf0_9) hPc hDc rfl rfl wn_9_181 wn_9_183 sn_M_fail wn_1_13 wn_9_184 rfl rfl (by decide +kernel) ⟨Nat.le_of_ble_eq_true rfl, Nat.le_of_ble_eq_true rfl⟩ rfl hl.1 rfl (Nat.le_of_ble_eq_true rfl) dn_M_no_30 ⟨Nat.le_of_ble_eq_true rfl, Nat.le_of_ble_eq_true rfl⟩) hP hD hS hA [2] [0, 1] rfl rfl (by decide) (by decide) (fun _ H locs hw hP hD hS => ?_)
  have hP : va_P (dC, dI) xcl [(h0, .inl (cI, 65540, .inl g0)), (h1, .inl (cI, 65540, .inl g1)), (h2, .inr (0, xo_M (va_up (va_up f0 9 (.int 2)) 10 (.int 0))))] H := hP
  have hD : va_D A [(h0, .inl (cI, 65540, .inl g0)), (h1, .inl (cI, 65540, .inl g1)), (h2, .inr (0, xo_M (va_up (va_up f0 9 (.int 2)) 10 (.int 0))))] := hD
  have hP9 := hP.sub (ws' := [(h0, .inl (cI, 65540, .inl g0)), (h1, .inl (cI, 65540, .inl g1)), (h2, .inr (0, xo_M (va_up (va_up f0 9 (.int 2)) 10 (.int 0))))]) [0, 1, 2] rfl
  have hD9 := hD.sub (ws' := [(h0, .inl (cI, 65540, .inl g0)), (h1, .inl (cI, 65540, .inl g1)), (h2, .inr (0, xo_M (va_up (va_up f0 9 (.int 2)) 10 (.int 0))))]) [0, 1, 2] (by decide) rfl
  exact xk_vret (w1 := fun u : Unit => [(h0, .inl (cI, 65540, .inl g0)), (h1, .inl (cI, 65540, .inl g1)), (h2, .inr (0, xo_M (va_up (va_up f0 9 (.int 2)) 10 (.int 0))))]) () hx hb hr hlocks hK hS dn_M_no_33 hP9 hD9 trivial (Nat.le_refl _) (Nat.le_refl _)
set_option maxHeartbeats 4000000 in
set_option maxRecDepth 100000 in
theorem ct_M_take_0 (l : Launch) (dC : Nat → ClassId) (dI : Nat → Nat → Nat) (cI cB cJ cZ cQ : ClassId) (sz : Nat) (h0 : Nat) (h1 : Nat) (h2 : Nat) (g0 : Nat → Int32) (g1 : Nat → Int32) (f0 : Nat → Value) (he0_0 : g0 0 = 403) (he1_0 : g1 0 = 0) (hf0_4 : f0 4 = .ref h0) (hf0_5 : f0 5 = .ref h1) (hf0_8 : f0 8 = .int 0) (hf0_9 : f0 9 = .int 0) : Met l yn_M_take (xw yn_M_take bn_M_take 2 none) ({ frames := 2, cells := 0, slots := 0, locals := 42 }) (xk_P (dC, dI) xcl (xt cI cB cJ cZ cQ) [.ref h2, .int 300] sz [(h0, .inl (cI, 65540, .inl g0)), (h1, .inl (cI, 65540, .inl g1)), (h2, .inr (0, xo_M f0))]) (xk_Qv (dC, dI) xcl (xt cI cB cJ cZ cQ) (fun u : Unit => True) (fun u : Unit => [(h0, .inl (cI, 65540, .inl g0)), (h1, .inl (cI, 65540, .inl g1)), (h2, .inr (0, xo_M (va_up (va_up f0 9 (.int 2)) 10 (.int 0))))]) (va_A [(h0, .inl (cI, 65540, .inl g0)), (h1, .inl (cI, 65540, .inl g1)), (h2, .inr (0, xo_M f0))] sz)) 0 0 (va_A [(h0, .inl (cI, 65540, .inl g0)), (h1, .inl (cI, 65540, .inl g1)), (h2, .inr (0, xo_M f0))] sz) := by
  refine xk_of (QA := xk_Qv (dC, dI) xcl (xt cI cB cJ cZ cQ) (fun u : Unit => True) (fun u : Unit => [(h0, .inl (cI, 65540, .inl g0)), (h1, .inl (cI, 65540, .inl g1)), (h2, .inr (0, xo_M (va_up (va_up f0 9 (.int 2)) 10 (.int 0))))])) (by decide) (Nat.le_of_ble_eq_true rfl) ?_
  intro p e s m below meth c hx hb hml hown hg hr hlocks hin hP hK hN A hA hD hS ls hl
  have hown : s.vm.findClass rn_M = some m.cls := hown
  have hl : lv_has ls 2 [(0, .ref h2), (1, .int 300)] := hl
  obtain ⟨H, hH⟩ : ∃ z, z = s.heap := ⟨_, rfl⟩
  rw [← hH] at hP
  have hS : va_S A s.heap H [] := by rw [hH]; exact va_S.rf
  suffices kk : W p l e ({ frames := 2, cells := 0, slots := 0, locals := 42 }) s m [.ref h2, .int 300].toArray below meth c H [] 0 0 (MQ below (xk_Qv (dC, dI) xcl (xt cI cB cJ cZ cQ) (fun u : Unit => True) (fun u : Unit => [(h0, .inl (cI, 65540, .inl g0)), (h1, .inl (cI, 65540, .inl g1)), (h2, .inr (0, xo_M (va_up (va_up f0 9 (.int 2)) 10 (.int 0))))]) A) [.ref h2, .int 300].toArray s 0 0 A) (F0 m 0 ls []) by rw [hH] at kk; exact kk
  refine lv_aload_n hx hb dn_M_take_0 rfl (lv_at hl 0 rfl) ?_
  refine va_get (D := (dC, dI)) (ci := 0) (v := .int 0) (C := rn_M) (T := fn_M) (N := 91) hx hb hg in_M hown hK hP 2 rfl rfl 9 (by decide) (hg _ wn_8_77) (fun _ h9 => h9) (congrArg some hf0_9) dn_M_take_1 ?_
  refine lv_if_ne (tgt := 33) hx hb dn_M_take_4 (by decide) (fun h9 => absurd h9 (by decide)) (fun _ => ?_)
  refine lv_aload_n hx hb dn_M_take_7 rfl (lv_at hl 0 rfl) ?_
  refine va_get (D := (dC, dI)) (ci := 0) (v := .ref h0) (C := rn_M) (T := fn_M) (N := 91) hx hb hg in_M hown hK hP 2 rfl rfl 4 (by decide) (hg _ wn_8_72) (fun _ h9 => h9) (congrArg some hf0_4) dn_M_take_8 ?_
  refine lv_aload_n hx hb dn_M_take_11 rfl (lv_at hl 0 rfl) ?_
  refine va_get (D := (dC, dI)) (ci := 0) (v := .int 0) (C := rn_M) (T := fn_M) (N := 91) hx hb hg in_M hown hK hP 2 rfl rfl 8 (by decide) (hg _ wn_8_76) (fun _ h9 => h9) (congrArg some hf0_8) dn_M_take_12 ?_
  refine va_iald hx hb hK hP 0 0 rfl rfl (show ¬ (_ ∨ _) by decide) dn_M_take_15 ?_
  refine xk_ti (y := 403) he0_0 ?_
  refine lv_iload_n hx hb dn_M_take_16 rfl (lv_at hl 1 rfl) ?_
  refine lv_icmp_ne (tgt := 33) hx hb dn_M_take_17 (by decide) (fun _ => ?_) (fun h9 => absurd h9 (by decide))
  refine lv_aload_n hx hb dn_M_take_33 rfl (lv_at hl 0 rfl) ?_
  have hPc := hP.sub (ws' := [(h0, .inl (cI, 65540, .inl g0)), (h1, .inl (cI, 65540, .inl g1)), (h2, .inr (0, xo_M f0))]) [0, 1, 2] rfl
  have hDc := hD.sub (ws' := [(h0, .inl (cI, 65540, .inl g0)), (h1, .inl (cI, 65540, .inl g1)), (h2, .inr (0, xo_M f0))]) [0, 1, 2] (by decide) rfl
  refine xk_callv (wr := []) (xk_runV (ar := 0) (As := []) (rest := []) (ci := 0) (q0 := 2) ⟨hx, hb, hml, hown, hg⟩ hK hN (ct_M_no_0 l dC dI cI cB cJ cZ cQ H.size h0 h1 h2 g0 g1 f0 he0_0 he1_0 hf0_4 hf0_5 hf0_8 hf0_9) hPc hDc rfl rfl wn_9_177 wn_9_179 sn_M_no wn_1_13 wn_9_180 rfl rfl (by decide +kernel) ⟨Nat.le_of_ble_eq_true rfl, Nat.le_of_ble_eq_true rfl⟩ rfl hl.1 rfl (Nat.le_of_ble_eq_true rfl) dn_M_take_34 ⟨Nat.le_of_ble_eq_true rfl, Nat.le_of_ble_eq_true rfl⟩) hP hD hS hA [0, 1, 2] [] rfl rfl (by decide) (by decide) (fun _ H locs hw hP hD hS => ?_)
  have hP : va_P (dC, dI) xcl [(h0, .inl (cI, 65540, .inl g0)), (h1, .inl (cI, 65540, .inl g1)), (h2, .inr (0, xo_M (va_up (va_up f0 9 (.int 2)) 10 (.int 0))))] H := hP
  have hD : va_D A [(h0, .inl (cI, 65540, .inl g0)), (h1, .inl (cI, 65540, .inl g1)), (h2, .inr (0, xo_M (va_up (va_up f0 9 (.int 2)) 10 (.int 0))))] := hD
  have hP9 := hP.sub (ws' := [(h0, .inl (cI, 65540, .inl g0)), (h1, .inl (cI, 65540, .inl g1)), (h2, .inr (0, xo_M (va_up (va_up f0 9 (.int 2)) 10 (.int 0))))]) [0, 1, 2] rfl
  have hD9 := hD.sub (ws' := [(h0, .inl (cI, 65540, .inl g0)), (h1, .inl (cI, 65540, .inl g1)), (h2, .inr (0, xo_M (va_up (va_up f0 9 (.int 2)) 10 (.int 0))))]) [0, 1, 2] (by decide) rfl
  exact xk_vret (w1 := fun u : Unit => [(h0, .inl (cI, 65540, .inl g0)), (h1, .inl (cI, 65540, .inl g1)), (h2, .inr (0, xo_M (va_up (va_up f0 9 (.int 2)) 10 (.int 0))))]) () hx hb hr hlocks hK hS dn_M_take_37 hP9 hD9 trivial (Nat.le_refl _) (Nat.le_refl _)
set_option maxHeartbeats 4000000 in
set_option maxRecDepth 100000 in
theorem ct_M_fail_1 (l : Launch) (dC : Nat → ClassId) (dI : Nat → Nat → Nat) (cI cB cJ cZ cQ : ClassId) (sz : Nat) (h0 : Nat) (f0 : Nat → Value) (hf0_9 : f0 9 = .int 2) : Met l yn_M_fail (xw yn_M_fail bn_M_fail 3 none) ({ frames := 0, cells := 0, slots := 0, locals := 0 }) (xk_P (dC, dI) xcl (xt cI cB cJ cZ cQ) [.ref h0, .int 2, .int 0] sz [(h0, .inr (0, xo_M f0))]) (xk_Qv (dC, dI) xcl (xt cI cB cJ cZ cQ) (fun u : Unit => True) (fun u : Unit => [(h0, .inr (0, xo_M f0))]) (va_A [(h0, .inr (0, xo_M f0))] sz)) 0 0 (va_A [(h0, .inr (0, xo_M f0))] sz) := by
  refine xk_of (QA := xk_Qv (dC, dI) xcl (xt cI cB cJ cZ cQ) (fun u : Unit => True) (fun u : Unit => [(h0, .inr (0, xo_M f0))])) (by decide) (Nat.le_of_ble_eq_true rfl) ?_
  intro p e s m below meth c hx hb hml hown hg hr hlocks hin hP hK hN A hA hD hS ls hl
  have hown : s.vm.findClass rn_M = some m.cls := hown
  have hl : lv_has ls 3 [(0, .ref h0), (1, .int 2), (2, .int 0)] := hl
  obtain ⟨H, hH⟩ : ∃ z, z = s.heap := ⟨_, rfl⟩
  rw [← hH] at hP
  have hS : va_S A s.heap H [] := by rw [hH]; exact va_S.rf
  suffices kk : W p l e ({ frames := 0, cells := 0, slots := 0, locals := 0 }) s m [.ref h0, .int 2, .int 0].toArray below meth c H [] 0 0 (MQ below (xk_Qv (dC, dI) xcl (xt cI cB cJ cZ cQ) (fun u : Unit => True) (fun u : Unit => [(h0, .inr (0, xo_M f0))]) A) [.ref h0, .int 2, .int 0].toArray s 0 0 A) (F0 m 0 ls []) by rw [hH] at kk; exact kk
  refine lv_aload_n hx hb dn_M_fail_0 rfl (lv_at hl 0 rfl) ?_
  refine va_get (D := (dC, dI)) (ci := 0) (v := .int 2) (C := rn_M) (T := fn_M) (N := 91) hx hb hg in_M hown hK hP 0 rfl rfl 9 (by decide) (hg _ wn_8_77) (fun _ h9 => h9) (congrArg some hf0_9) dn_M_fail_1 ?_
  refine lv_if_ne (tgt := 17) hx hb dn_M_fail_4 (by decide) (fun _ => ?_) (fun h9 => absurd h9 (by decide))
  have hP9 := hP.sub (ws' := [(h0, .inr (0, xo_M f0))]) [0] rfl
  have hD9 := hD.sub (ws' := [(h0, .inr (0, xo_M f0))]) [0] (by decide) rfl
  exact xk_vret (w1 := fun u : Unit => [(h0, .inr (0, xo_M f0))]) () hx hb hr hlocks hK hS dn_M_fail_17 hP9 hD9 trivial (Nat.le_refl _) (Nat.le_refl _)
set_option maxHeartbeats 4000000 in
set_option maxRecDepth 100000 in
theorem ct_M_no_1 (l : Launch) (dC : Nat → ClassId) (dI : Nat → Nat → Nat) (cI cB cJ cZ cQ : ClassId) (sz : Nat) (h0 : Nat) (h1 : Nat) (h2 : Nat) (g0 : Nat → Int32) (g1 : Nat → Int32) (f0 : Nat → Value) (he0_0 : g0 0 = 403) (he1_0 : g1 0 = 0) (hf0_4 : f0 4 = .ref h0) (hf0_5 : f0 5 = .ref h1) (hf0_8 : f0 8 = .int 0) (hf0_9 : f0 9 = .int 2) : Met l yn_M_no (xw yn_M_no bn_M_no 1 none) ({ frames := 1, cells := 0, slots := 0, locals := 22 }) (xk_P (dC, dI) xcl (xt cI cB cJ cZ cQ) [.ref h2] sz [(h0, .inl (cI, 65540, .inl g0)), (h1, .inl (cI, 65540, .inl g1)), (h2, .inr (0, xo_M f0))]) (xk_Qv (dC, dI) xcl (xt cI cB cJ cZ cQ) (fun u : Unit => True) (fun u : Unit => [(h0, .inl (cI, 65540, .inl g0)), (h1, .inl (cI, 65540, .inl g1)), (h2, .inr (0, xo_M f0))]) (va_A [(h0, .inl (cI, 65540, .inl g0)), (h1, .inl (cI, 65540, .inl g1)), (h2, .inr (0, xo_M f0))] sz)) 0 0 (va_A [(h0, .inl (cI, 65540, .inl g0)), (h1, .inl (cI, 65540, .inl g1)), (h2, .inr (0, xo_M f0))] sz) := by
  refine xk_of (QA := xk_Qv (dC, dI) xcl (xt cI cB cJ cZ cQ) (fun u : Unit => True) (fun u : Unit => [(h0, .inl (cI, 65540, .inl g0)), (h1, .inl (cI, 65540, .inl g1)), (h2, .inr (0, xo_M f0))])) (by decide) (Nat.le_of_ble_eq_true rfl) ?_
  intro p e s m below meth c hx hb hml hown hg hr hlocks hin hP hK hN A hA hD hS ls hl
  have hown : s.vm.findClass rn_M = some m.cls := hown
  have hl : lv_has ls 1 [(0, .ref h2)] := hl
  obtain ⟨H, hH⟩ : ∃ z, z = s.heap := ⟨_, rfl⟩
  rw [← hH] at hP
  have hS : va_S A s.heap H [] := by rw [hH]; exact va_S.rf
  suffices kk : W p l e ({ frames := 1, cells := 0, slots := 0, locals := 22 }) s m [.ref h2].toArray below meth c H [] 0 0 (MQ below (xk_Qv (dC, dI) xcl (xt cI cB cJ cZ cQ) (fun u : Unit => True) (fun u : Unit => [(h0, .inl (cI, 65540, .inl g0)), (h1, .inl (cI, 65540, .inl g1)), (h2, .inr (0, xo_M f0))]) A) [.ref h2].toArray s 0 0 A) (F0 m 0 ls []) by rw [hH] at kk; exact kk
  refine lv_aload_n hx hb dn_M_no_0 rfl (lv_at hl 0 rfl) ?_
  refine lv_aload_n hx hb dn_M_no_1 rfl (lv_at hl 0 rfl) ?_
  refine va_get (D := (dC, dI)) (ci := 0) (v := .ref h0) (C := rn_M) (T := fn_M) (N := 91) hx hb hg in_M hown hK hP 2 rfl rfl 4 (by decide) (hg _ wn_8_72) (fun _ h9 => h9) (congrArg some hf0_4) dn_M_no_2 ?_
  refine lv_aload_n hx hb dn_M_no_5 rfl (lv_at hl 0 rfl) ?_
  refine va_get (D := (dC, dI)) (ci := 0) (v := .int 0) (C := rn_M) (T := fn_M) (N := 91) hx hb hg in_M hown hK hP 2 rfl rfl 8 (by decide) (hg _ wn_8_76) (fun _ h9 => h9) (congrArg some hf0_8) dn_M_no_6 ?_
  refine va_iald hx hb hK hP 0 0 rfl rfl (show ¬ (_ ∨ _) by decide) dn_M_no_9 ?_
  refine xk_ti (y := 403) he0_0 ?_
  refine lv_sipush (v := 404) hx hb dn_M_no_10 (by decide) ?_
  refine lv_icmp_ne (tgt := 20) hx hb dn_M_no_13 (by decide) (fun _ => ?_) (fun h9 => absurd h9 (by decide))
  refine lv_iconst (v := 2) hx hb dn_M_no_20 (by decide) ?_
  refine lv_aload_n hx hb dn_M_no_21 rfl (lv_at hl 0 rfl) ?_
  refine va_get (D := (dC, dI)) (ci := 0) (v := .ref h1) (C := rn_M) (T := fn_M) (N := 91) hx hb hg in_M hown hK hP 2 rfl rfl 5 (by decide) (hg _ wn_8_73) (fun _ h9 => h9) (congrArg some hf0_5) dn_M_no_22 ?_
  refine lv_aload_n hx hb dn_M_no_25 rfl (lv_at hl 0 rfl) ?_
  refine va_get (D := (dC, dI)) (ci := 0) (v := .int 0) (C := rn_M) (T := fn_M) (N := 91) hx hb hg in_M hown hK hP 2 rfl rfl 8 (by decide) (hg _ wn_8_76) (fun _ h9 => h9) (congrArg some hf0_8) dn_M_no_26 ?_
  refine va_iald hx hb hK hP 1 0 rfl rfl (show ¬ (_ ∨ _) by decide) dn_M_no_29 ?_
  refine xk_ti (y := 0) he1_0 ?_
  have hPc := hP.sub (ws' := [(h2, .inr (0, xo_M f0))]) [2] rfl
  have hDc := hD.sub (ws' := [(h2, .inr (0, xo_M f0))]) [2] (by decide) rfl
  refine xk_callv (wr := [(h0, .inl (cI, 65540, .inl g0)), (h1, .inl (cI, 65540, .inl g1))]) (xk_runV (ar := 2) (As := [.int 2, .int 0]) (rest := []) (ci := 0) (q0 := 0) ⟨hx, hb, hml, hown, hg⟩ hK hN (ct_M_fail_1 l dC dI cI cB cJ cZ cQ H.size h2 f0 hf0_9) hPc hDc rfl rfl wn_9_181 wn_9_183 sn_M_fail wn_1_13 wn_9_184 rfl rfl (by decide +kernel) ⟨Nat.le_of_ble_eq_true rfl, Nat.le_of_ble_eq_true rfl⟩ rfl hl.1 rfl (Nat.le_of_ble_eq_true rfl) dn_M_no_30 ⟨Nat.le_of_ble_eq_true rfl, Nat.le_of_ble_eq_true rfl⟩) hP hD hS hA [2] [0, 1] rfl rfl (by decide) (by decide) (fun _ H locs hw hP hD hS => ?_)
  have hP : va_P (dC, dI) xcl [(h0, .inl (cI, 65540, .inl g0)), (h1, .inl (cI, 65540, .inl g1)), (h2, .inr (0, xo_M f0))] H := hP
  have hD : va_D A [(h0, .inl (cI, 65540, .inl g0)), (h1, .inl (cI, 65540, .inl g1)), (h2, .inr (0, xo_M f0))] := hD
  have hP9 := hP.sub (ws' := [(h0, .inl (cI, 65540, .inl g0)), (h1, .inl (cI, 65540, .inl g1)), (h2, .inr (0, xo_M f0))]) [0, 1, 2] rfl
  have hD9 := hD.sub (ws' := [(h0, .inl (cI, 65540, .inl g0)), (h1, .inl (cI, 65540, .inl g1)), (h2, .inr (0, xo_M f0))]) [0, 1, 2] (by decide) rfl
  exact xk_vret (w1 := fun u : Unit => [(h0, .inl (cI, 65540, .inl g0)), (h1, .inl (cI, 65540, .inl g1)), (h2, .inr (0, xo_M f0))]) () hx hb hr hlocks hK hS dn_M_no_33 hP9 hD9 trivial (Nat.le_refl _) (Nat.le_refl _)
set_option maxHeartbeats 4000000 in
set_option maxRecDepth 100000 in
theorem ct_M_take_1 (l : Launch) (dC : Nat → ClassId) (dI : Nat → Nat → Nat) (cI cB cJ cZ cQ : ClassId) (sz : Nat) (h0 : Nat) (h1 : Nat) (h2 : Nat) (g0 : Nat → Int32) (g1 : Nat → Int32) (f0 : Nat → Value) (he0_0 : g0 0 = 403) (he1_0 : g1 0 = 0) (hf0_4 : f0 4 = .ref h0) (hf0_5 : f0 5 = .ref h1) (hf0_8 : f0 8 = .int 0) (hf0_9 : f0 9 = .int 2) : Met l yn_M_take (xw yn_M_take bn_M_take 2 none) ({ frames := 2, cells := 0, slots := 0, locals := 42 }) (xk_P (dC, dI) xcl (xt cI cB cJ cZ cQ) [.ref h2, .int 400] sz [(h0, .inl (cI, 65540, .inl g0)), (h1, .inl (cI, 65540, .inl g1)), (h2, .inr (0, xo_M f0))]) (xk_Qv (dC, dI) xcl (xt cI cB cJ cZ cQ) (fun u : Unit => True) (fun u : Unit => [(h0, .inl (cI, 65540, .inl g0)), (h1, .inl (cI, 65540, .inl g1)), (h2, .inr (0, xo_M f0))]) (va_A [(h0, .inl (cI, 65540, .inl g0)), (h1, .inl (cI, 65540, .inl g1)), (h2, .inr (0, xo_M f0))] sz)) 0 0 (va_A [(h0, .inl (cI, 65540, .inl g0)), (h1, .inl (cI, 65540, .inl g1)), (h2, .inr (0, xo_M f0))] sz) := by
  refine xk_of (QA := xk_Qv (dC, dI) xcl (xt cI cB cJ cZ cQ) (fun u : Unit => True) (fun u : Unit => [(h0, .inl (cI, 65540, .inl g0)), (h1, .inl (cI, 65540, .inl g1)), (h2, .inr (0, xo_M f0))])) (by decide) (Nat.le_of_ble_eq_true rfl) ?_
  intro p e s m below meth c hx hb hml hown hg hr hlocks hin hP hK hN A hA hD hS ls hl
  have hown : s.vm.findClass rn_M = some m.cls := hown
  have hl : lv_has ls 2 [(0, .ref h2), (1, .int 400)] := hl
  obtain ⟨H, hH⟩ : ∃ z, z = s.heap := ⟨_, rfl⟩
  rw [← hH] at hP
  have hS : va_S A s.heap H [] := by rw [hH]; exact va_S.rf
  suffices kk : W p l e ({ frames := 2, cells := 0, slots := 0, locals := 42 }) s m [.ref h2, .int 400].toArray below meth c H [] 0 0 (MQ below (xk_Qv (dC, dI) xcl (xt cI cB cJ cZ cQ) (fun u : Unit => True) (fun u : Unit => [(h0, .inl (cI, 65540, .inl g0)), (h1, .inl (cI, 65540, .inl g1)), (h2, .inr (0, xo_M f0))]) A) [.ref h2, .int 400].toArray s 0 0 A) (F0 m 0 ls []) by rw [hH] at kk; exact kk
  refine lv_aload_n hx hb dn_M_take_0 rfl (lv_at hl 0 rfl) ?_
  refine va_get (D := (dC, dI)) (ci := 0) (v := .int 2) (C := rn_M) (T := fn_M) (N := 91) hx hb hg in_M hown hK hP 2 rfl rfl 9 (by decide) (hg _ wn_8_77) (fun _ h9 => h9) (congrArg some hf0_9) dn_M_take_1 ?_
  refine lv_if_ne (tgt := 33) hx hb dn_M_take_4 (by decide) (fun _ => ?_) (fun h9 => absurd h9 (by decide))
  refine lv_aload_n hx hb dn_M_take_33 rfl (lv_at hl 0 rfl) ?_
  have hPc := hP.sub (ws' := [(h0, .inl (cI, 65540, .inl g0)), (h1, .inl (cI, 65540, .inl g1)), (h2, .inr (0, xo_M f0))]) [0, 1, 2] rfl
  have hDc := hD.sub (ws' := [(h0, .inl (cI, 65540, .inl g0)), (h1, .inl (cI, 65540, .inl g1)), (h2, .inr (0, xo_M f0))]) [0, 1, 2] (by decide) rfl
  refine xk_callv (wr := []) (xk_runV (ar := 0) (As := []) (rest := []) (ci := 0) (q0 := 2) ⟨hx, hb, hml, hown, hg⟩ hK hN (ct_M_no_1 l dC dI cI cB cJ cZ cQ H.size h0 h1 h2 g0 g1 f0 he0_0 he1_0 hf0_4 hf0_5 hf0_8 hf0_9) hPc hDc rfl rfl wn_9_177 wn_9_179 sn_M_no wn_1_13 wn_9_180 rfl rfl (by decide +kernel) ⟨Nat.le_of_ble_eq_true rfl, Nat.le_of_ble_eq_true rfl⟩ rfl hl.1 rfl (Nat.le_of_ble_eq_true rfl) dn_M_take_34 ⟨Nat.le_of_ble_eq_true rfl, Nat.le_of_ble_eq_true rfl⟩) hP hD hS hA [0, 1, 2] [] rfl rfl (by decide) (by decide) (fun _ H locs hw hP hD hS => ?_)
  have hP : va_P (dC, dI) xcl [(h0, .inl (cI, 65540, .inl g0)), (h1, .inl (cI, 65540, .inl g1)), (h2, .inr (0, xo_M f0))] H := hP
  have hD : va_D A [(h0, .inl (cI, 65540, .inl g0)), (h1, .inl (cI, 65540, .inl g1)), (h2, .inr (0, xo_M f0))] := hD
  have hP9 := hP.sub (ws' := [(h0, .inl (cI, 65540, .inl g0)), (h1, .inl (cI, 65540, .inl g1)), (h2, .inr (0, xo_M f0))]) [0, 1, 2] rfl
  have hD9 := hD.sub (ws' := [(h0, .inl (cI, 65540, .inl g0)), (h1, .inl (cI, 65540, .inl g1)), (h2, .inr (0, xo_M f0))]) [0, 1, 2] (by decide) rfl
  exact xk_vret (w1 := fun u : Unit => [(h0, .inl (cI, 65540, .inl g0)), (h1, .inl (cI, 65540, .inl g1)), (h2, .inr (0, xo_M f0))]) () hx hb hr hlocks hK hS dn_M_take_37 hP9 hD9 trivial (Nat.le_refl _) (Nat.le_refl _)
set_option maxHeartbeats 4000000 in
set_option maxRecDepth 100000 in
theorem ct_M_is_0 (l : Launch) (dC : Nat → ClassId) (dI : Nat → Nat → Nat) (cI cB cJ cZ cQ : ClassId) (sz : Nat) (h0 : Nat) (f0 : Nat → Value) (hf0_9 : f0 9 = .int 2) : Met l yn_M_is (xw yn_M_is bn_M_is 2 (some .boolean)) ({ frames := 0, cells := 0, slots := 0, locals := 0 }) (xk_P (dC, dI) xcl (xt cI cB cJ cZ cQ) [.ref h0, .int 40] sz [(h0, .inr (0, xo_M f0))]) (xk_Qi (dC, dI) xcl (xt cI cB cJ cZ cQ) (fun (r : Int32) (u : Unit) => r = 0) (fun u : Unit => [(h0, .inr (0, xo_M f0))]) (va_A [(h0, .inr (0, xo_M f0))] sz)) 0 0 (va_A [(h0, .inr (0, xo_M f0))] sz) := by
  refine xk_of (QA := xk_Qi (dC, dI) xcl (xt cI cB cJ cZ cQ) (fun (r : Int32) (u : Unit) => r = 0) (fun u : Unit => [(h0, .inr (0, xo_M f0))])) (by decide) (Nat.le_of_ble_eq_true rfl) ?_
  intro p e s m below meth c hx hb hml hown hg hr hlocks hin hP hK hN A hA hD hS ls hl
  have hown : s.vm.findClass rn_M = some m.cls := hown
  have hl : lv_has ls 2 [(0, .ref h0), (1, .int 40)] := hl
  obtain ⟨H, hH⟩ : ∃ z, z = s.heap := ⟨_, rfl⟩
  rw [← hH] at hP
  have hS : va_S A s.heap H [] := by rw [hH]; exact va_S.rf
  suffices kk : W p l e ({ frames := 0, cells := 0, slots := 0, locals := 0 }) s m [.ref h0, .int 40].toArray below meth c H [] 0 0 (MQ below (xk_Qi (dC, dI) xcl (xt cI cB cJ cZ cQ) (fun (r : Int32) (u : Unit) => r = 0) (fun u : Unit => [(h0, .inr (0, xo_M f0))]) A) [.ref h0, .int 40].toArray s 0 0 A) (F0 m 0 ls []) by rw [hH] at kk; exact kk
  refine lv_aload_n hx hb dn_M_is_0 rfl (lv_at hl 0 rfl) ?_
  refine va_get (D := (dC, dI)) (ci := 0) (v := .int 2) (C := rn_M) (T := fn_M) (N := 91) hx hb hg in_M hown hK hP 0 rfl rfl 9 (by decide) (hg _ wn_8_77) (fun _ h9 => h9) (congrArg some hf0_9) dn_M_is_1 ?_
  refine lv_if_ne (tgt := 24) hx hb dn_M_is_4 (by decide) (fun _ => ?_) (fun h9 => absurd h9 (by decide))
  refine lv_iconst (v := 0) hx hb dn_M_is_24 (by decide) ?_
  have hP9 := hP.sub (ws' := [(h0, .inr (0, xo_M f0))]) [0] rfl
  have hD9 := hD.sub (ws' := [(h0, .inr (0, xo_M f0))]) [0] (by decide) rfl
  exact xk_zret (w1 := fun u : Unit => [(h0, .inr (0, xo_M f0))]) () hx hb hr rfl hlocks hK hS dn_M_is_25 hP9 hD9 rfl (Nat.le_refl _) (Nat.le_refl _)
set_option maxHeartbeats 4000000 in
set_option maxRecDepth 100000 in
theorem ct_M_take_2 (l : Launch) (dC : Nat → ClassId) (dI : Nat → Nat → Nat) (cI cB cJ cZ cQ : ClassId) (sz : Nat) (h0 : Nat) (h1 : Nat) (h2 : Nat) (g0 : Nat → Int32) (g1 : Nat → Int32) (f0 : Nat → Value) (he0_0 : g0 0 = 403) (he1_0 : g1 0 = 0) (hf0_4 : f0 4 = .ref h0) (hf0_5 : f0 5 = .ref h1) (hf0_8 : f0 8 = .int 0) (hf0_9 : f0 9 = .int 2) : Met l yn_M_take (xw yn_M_take bn_M_take 2 none) ({ frames := 2, cells := 0, slots := 0, locals := 42 }) (xk_P (dC, dI) xcl (xt cI cB cJ cZ cQ) [.ref h2, .int 40] sz [(h0, .inl (cI, 65540, .inl g0)), (h1, .inl (cI, 65540, .inl g1)), (h2, .inr (0, xo_M f0))]) (xk_Qv (dC, dI) xcl (xt cI cB cJ cZ cQ) (fun u : Unit => True) (fun u : Unit => [(h0, .inl (cI, 65540, .inl g0)), (h1, .inl (cI, 65540, .inl g1)), (h2, .inr (0, xo_M f0))]) (va_A [(h0, .inl (cI, 65540, .inl g0)), (h1, .inl (cI, 65540, .inl g1)), (h2, .inr (0, xo_M f0))] sz)) 0 0 (va_A [(h0, .inl (cI, 65540, .inl g0)), (h1, .inl (cI, 65540, .inl g1)), (h2, .inr (0, xo_M f0))] sz) := by
  refine xk_of (QA := xk_Qv (dC, dI) xcl (xt cI cB cJ cZ cQ) (fun u : Unit => True) (fun u : Unit => [(h0, .inl (cI, 65540, .inl g0)), (h1, .inl (cI, 65540, .inl g1)), (h2, .inr (0, xo_M f0))])) (by decide) (Nat.le_of_ble_eq_true rfl) ?_
  intro p e s m below meth c hx hb hml hown hg hr hlocks hin hP hK hN A hA hD hS ls hl
  have hown : s.vm.findClass rn_M = some m.cls := hown
  have hl : lv_has ls 2 [(0, .ref h2), (1, .int 40)] := hl
  obtain ⟨H, hH⟩ : ∃ z, z = s.heap := ⟨_, rfl⟩
  rw [← hH] at hP
  have hS : va_S A s.heap H [] := by rw [hH]; exact va_S.rf
  suffices kk : W p l e ({ frames := 2, cells := 0, slots := 0, locals := 42 }) s m [.ref h2, .int 40].toArray below meth c H [] 0 0 (MQ below (xk_Qv (dC, dI) xcl (xt cI cB cJ cZ cQ) (fun u : Unit => True) (fun u : Unit => [(h0, .inl (cI, 65540, .inl g0)), (h1, .inl (cI, 65540, .inl g1)), (h2, .inr (0, xo_M f0))]) A) [.ref h2, .int 40].toArray s 0 0 A) (F0 m 0 ls []) by rw [hH] at kk; exact kk
  refine lv_aload_n hx hb dn_M_take_0 rfl (lv_at hl 0 rfl) ?_
  refine va_get (D := (dC, dI)) (ci := 0) (v := .int 2) (C := rn_M) (T := fn_M) (N := 91) hx hb hg in_M hown hK hP 2 rfl rfl 9 (by decide) (hg _ wn_8_77) (fun _ h9 => h9) (congrArg some hf0_9) dn_M_take_1 ?_
  refine lv_if_ne (tgt := 33) hx hb dn_M_take_4 (by decide) (fun _ => ?_) (fun h9 => absurd h9 (by decide))
  refine lv_aload_n hx hb dn_M_take_33 rfl (lv_at hl 0 rfl) ?_
  have hPc := hP.sub (ws' := [(h0, .inl (cI, 65540, .inl g0)), (h1, .inl (cI, 65540, .inl g1)), (h2, .inr (0, xo_M f0))]) [0, 1, 2] rfl
  have hDc := hD.sub (ws' := [(h0, .inl (cI, 65540, .inl g0)), (h1, .inl (cI, 65540, .inl g1)), (h2, .inr (0, xo_M f0))]) [0, 1, 2] (by decide) rfl
  refine xk_callv (wr := []) (xk_runV (ar := 0) (As := []) (rest := []) (ci := 0) (q0 := 2) ⟨hx, hb, hml, hown, hg⟩ hK hN (ct_M_no_1 l dC dI cI cB cJ cZ cQ H.size h0 h1 h2 g0 g1 f0 he0_0 he1_0 hf0_4 hf0_5 hf0_8 hf0_9) hPc hDc rfl rfl wn_9_177 wn_9_179 sn_M_no wn_1_13 wn_9_180 rfl rfl (by decide +kernel) ⟨Nat.le_of_ble_eq_true rfl, Nat.le_of_ble_eq_true rfl⟩ rfl hl.1 rfl (Nat.le_of_ble_eq_true rfl) dn_M_take_34 ⟨Nat.le_of_ble_eq_true rfl, Nat.le_of_ble_eq_true rfl⟩) hP hD hS hA [0, 1, 2] [] rfl rfl (by decide) (by decide) (fun _ H locs hw hP hD hS => ?_)
  have hP : va_P (dC, dI) xcl [(h0, .inl (cI, 65540, .inl g0)), (h1, .inl (cI, 65540, .inl g1)), (h2, .inr (0, xo_M f0))] H := hP
  have hD : va_D A [(h0, .inl (cI, 65540, .inl g0)), (h1, .inl (cI, 65540, .inl g1)), (h2, .inr (0, xo_M f0))] := hD
  have hP9 := hP.sub (ws' := [(h0, .inl (cI, 65540, .inl g0)), (h1, .inl (cI, 65540, .inl g1)), (h2, .inr (0, xo_M f0))]) [0, 1, 2] rfl
  have hD9 := hD.sub (ws' := [(h0, .inl (cI, 65540, .inl g0)), (h1, .inl (cI, 65540, .inl g1)), (h2, .inr (0, xo_M f0))]) [0, 1, 2] (by decide) rfl
  exact xk_vret (w1 := fun u : Unit => [(h0, .inl (cI, 65540, .inl g0)), (h1, .inl (cI, 65540, .inl g1)), (h2, .inr (0, xo_M f0))]) () hx hb hr hlocks hK hS dn_M_take_37 hP9 hD9 trivial (Nat.le_refl _) (Nat.le_refl _)
set_option maxHeartbeats 4000000 in
set_option maxRecDepth 100000 in
theorem ct_M_open_0 (l : Launch) (dC : Nat → ClassId) (dI : Nat → Nat → Nat) (cI cB cJ cZ cQ : ClassId) (sz : Nat) (h0 : Nat) (h1 : Nat) (h2 : Nat) (g0 : Nat → Int32) (g1 : Nat → Int32) (f0 : Nat → Value) (he0_0 : g0 0 = 403) (he1_0 : g1 0 = 0) (hf0_4 : f0 4 = .ref h0) (hf0_5 : f0 5 = .ref h1) (hf0_8 : f0 8 = .int 0) (hf0_9 : f0 9 = .int 2) : Met l yn_M_open (xw yn_M_open bn_M_open 2 none) ({ frames := 3, cells := 0, slots := 0, locals := 63 }) (xk_P (dC, dI) xcl (xt cI cB cJ cZ cQ) [.ref h2, .int 40] sz [(h0, .inl (cI, 65540, .inl g0)), (h1, .inl (cI, 65540, .inl g1)), (h2, .inr (0, xo_M f0))]) (xk_Qv (dC, dI) xcl (xt cI cB cJ cZ cQ) (fun u : Unit => True) (fun u : Unit => [(h0, .inl (cI, 65540, .inl g0)), (h1, .inl (cI, 65540, .inl g1)), (h2, .inr (0, xo_M f0))]) (va_A [(h0, .inl (cI, 65540, .inl g0)), (h1, .inl (cI, 65540, .inl g1)), (h2, .inr (0, xo_M f0))] sz)) 0 0 (va_A [(h0, .inl (cI, 65540, .inl g0)), (h1, .inl (cI, 65540, .inl g1)), (h2, .inr (0, xo_M f0))] sz) := by
  refine xk_of (QA := xk_Qv (dC, dI) xcl (xt cI cB cJ cZ cQ) (fun u : Unit => True) (fun u : Unit => [(h0, .inl (cI, 65540, .inl g0)), (h1, .inl (cI, 65540, .inl g1)), (h2, .inr (0, xo_M f0))])) (by decide) (Nat.le_of_ble_eq_true rfl) ?_
  intro p e s m below meth c hx hb hml hown hg hr hlocks hin hP hK hN A hA hD hS ls hl
  have hown : s.vm.findClass rn_M = some m.cls := hown
  have hl : lv_has ls 2 [(0, .ref h2), (1, .int 40)] := hl
  obtain ⟨H, hH⟩ : ∃ z, z = s.heap := ⟨_, rfl⟩
  rw [← hH] at hP
  have hS : va_S A s.heap H [] := by rw [hH]; exact va_S.rf
  suffices kk : W p l e ({ frames := 3, cells := 0, slots := 0, locals := 63 }) s m [.ref h2, .int 40].toArray below meth c H [] 0 0 (MQ below (xk_Qv (dC, dI) xcl (xt cI cB cJ cZ cQ) (fun u : Unit => True) (fun u : Unit => [(h0, .inl (cI, 65540, .inl g0)), (h1, .inl (cI, 65540, .inl g1)), (h2, .inr (0, xo_M f0))]) A) [.ref h2, .int 40].toArray s 0 0 A) (F0 m 0 ls []) by rw [hH] at kk; exact kk
  refine lv_aload_n hx hb dn_M_open_0 rfl (lv_at hl 0 rfl) ?_
  refine lv_iload_n hx hb dn_M_open_1 rfl (lv_at hl 1 rfl) ?_
  have hPc := hP.sub (ws' := [(h2, .inr (0, xo_M f0))]) [2] rfl
  have hDc := hD.sub (ws' := [(h2, .inr (0, xo_M f0))]) [2] (by decide) rfl
  refine xk_calli (wr := [(h0, .inl (cI, 65540, .inl g0)), (h1, .inl (cI, 65540, .inl g1))]) (xk_runV (ar := 1) (As := [.int 40]) (rest := []) (ci := 0) (q0 := 0) ⟨hx, hb, hml, hown, hg⟩ hK hN (ct_M_is_0 l dC dI cI cB cJ cZ cQ H.size h2 f0 hf0_9) hPc hDc rfl rfl wn_9_189 wn_9_191 sn_M_is wn_1_13 wn_9_192 rfl rfl (by decide +kernel) ⟨Nat.le_of_ble_eq_true rfl, Nat.le_of_ble_eq_true rfl⟩ rfl hl.1 rfl (Nat.le_of_ble_eq_true rfl) dn_M_open_2 ⟨Nat.le_of_ble_eq_true rfl, Nat.le_of_ble_eq_true rfl⟩) hP hD hS hA [2] [0, 1] rfl rfl (by decide) (by decide) (fun r_1 _ H locs hw hP hD hS => ?_)
  have hP : va_P (dC, dI) xcl [(h0, .inl (cI, 65540, .inl g0)), (h1, .inl (cI, 65540, .inl g1)), (h2, .inr (0, xo_M f0))] H := hP
  have hD : va_D A [(h0, .inl (cI, 65540, .inl g0)), (h1, .inl (cI, 65540, .inl g1)), (h2, .inr (0, xo_M f0))] := hD
  have hw : r_1 = 0 := hw
  subst hw
  refine lv_if_eq (tgt := 41) hx hb dn_M_open_5 (by decide) (fun _ => ?_) (fun h9 => absurd h9 (by decide))
  refine lv_aload_n hx hb dn_M_open_41 rfl (lv_at hl 0 rfl) ?_
  refine lv_iload_n hx hb dn_M_open_42 rfl (lv_at hl 1 rfl) ?_
  have hPc := hP.sub (ws' := [(h0, .inl (cI, 65540, .inl g0)), (h1, .inl (cI, 65540, .inl g1)), (h2, .inr (0, xo_M f0))]) [0, 1, 2] rfl
  have hDc := hD.sub (ws' := [(h0, .inl (cI, 65540, .inl g0)), (h1, .inl (cI, 65540, .inl g1)), (h2, .inr (0, xo_M f0))]) [0, 1, 2] (by decide) rfl
  refine xk_callv (wr := []) (xk_runV (ar := 1) (As := [.int 40]) (rest := []) (ci := 0) (q0 := 2) ⟨hx, hb, hml, hown, hg⟩ hK hN (ct_M_take_2 l dC dI cI cB cJ cZ cQ H.size h0 h1 h2 g0 g1 f0 he0_0 he1_0 hf0_4 hf0_5 hf0_8 hf0_9) hPc hDc rfl rfl wn_9_173 wn_9_175 sn_M_take wn_1_13 wn_9_176 rfl rfl (by decide +kernel) ⟨Nat.le_of_ble_eq_true rfl, Nat.le_of_ble_eq_true rfl⟩ rfl hl.1 rfl (Nat.le_of_ble_eq_true rfl) dn_M_open_43 ⟨Nat.le_of_ble_eq_true rfl, Nat.le_of_ble_eq_true rfl⟩) hP hD hS hA [0, 1, 2] [] rfl rfl (by decide) (by decide) (fun _ H locs hw hP hD hS => ?_)
  have hP : va_P (dC, dI) xcl [(h0, .inl (cI, 65540, .inl g0)), (h1, .inl (cI, 65540, .inl g1)), (h2, .inr (0, xo_M f0))] H := hP
  have hD : va_D A [(h0, .inl (cI, 65540, .inl g0)), (h1, .inl (cI, 65540, .inl g1)), (h2, .inr (0, xo_M f0))] := hD
  have hP9 := hP.sub (ws' := [(h0, .inl (cI, 65540, .inl g0)), (h1, .inl (cI, 65540, .inl g1)), (h2, .inr (0, xo_M f0))]) [0, 1, 2] rfl
  have hD9 := hD.sub (ws' := [(h0, .inl (cI, 65540, .inl g0)), (h1, .inl (cI, 65540, .inl g1)), (h2, .inr (0, xo_M f0))]) [0, 1, 2] (by decide) rfl
  exact xk_vret (w1 := fun u : Unit => [(h0, .inl (cI, 65540, .inl g0)), (h1, .inl (cI, 65540, .inl g1)), (h2, .inr (0, xo_M f0))]) () hx hb hr hlocks hK hS dn_M_open_46 hP9 hD9 trivial (Nat.le_refl _) (Nat.le_refl _)
set_option maxHeartbeats 4000000 in
set_option maxRecDepth 100000 in
theorem ct_M_is_1 (l : Launch) (dC : Nat → ClassId) (dI : Nat → Nat → Nat) (cI cB cJ cZ cQ : ClassId) (sz : Nat) (h0 : Nat) (f0 : Nat → Value) (hf0_9 : f0 9 = .int 2) : Met l yn_M_is (xw yn_M_is bn_M_is 2 (some .boolean)) ({ frames := 0, cells := 0, slots := 0, locals := 0 }) (xk_P (dC, dI) xcl (xt cI cB cJ cZ cQ) [.ref h0, .int 302] sz [(h0, .inr (0, xo_M f0))]) (xk_Qi (dC, dI) xcl (xt cI cB cJ cZ cQ) (fun (r : Int32) (u : Unit) => r = 0) (fun u : Unit => [(h0, .inr (0, xo_M f0))]) (va_A [(h0, .inr (0, xo_M f0))] sz)) 0 0 (va_A [(h0, .inr (0, xo_M f0))] sz) := by
  refine xk_of (QA := xk_Qi (dC, dI) xcl (xt cI cB cJ cZ cQ) (fun (r : Int32) (u : Unit) => r = 0) (fun u : Unit => [(h0, .inr (0, xo_M f0))])) (by decide) (Nat.le_of_ble_eq_true rfl) ?_
  intro p e s m below meth c hx hb hml hown hg hr hlocks hin hP hK hN A hA hD hS ls hl
  have hown : s.vm.findClass rn_M = some m.cls := hown
  have hl : lv_has ls 2 [(0, .ref h0), (1, .int 302)] := hl
  obtain ⟨H, hH⟩ : ∃ z, z = s.heap := ⟨_, rfl⟩
  rw [← hH] at hP
  have hS : va_S A s.heap H [] := by rw [hH]; exact va_S.rf
  suffices kk : W p l e ({ frames := 0, cells := 0, slots := 0, locals := 0 }) s m [.ref h0, .int 302].toArray below meth c H [] 0 0 (MQ below (xk_Qi (dC, dI) xcl (xt cI cB cJ cZ cQ) (fun (r : Int32) (u : Unit) => r = 0) (fun u : Unit => [(h0, .inr (0, xo_M f0))]) A) [.ref h0, .int 302].toArray s 0 0 A) (F0 m 0 ls []) by rw [hH] at kk; exact kk
  refine lv_aload_n hx hb dn_M_is_0 rfl (lv_at hl 0 rfl) ?_
  refine va_get (D := (dC, dI)) (ci := 0) (v := .int 2) (C := rn_M) (T := fn_M) (N := 91) hx hb hg in_M hown hK hP 0 rfl rfl 9 (by decide) (hg _ wn_8_77) (fun _ h9 => h9) (congrArg some hf0_9) dn_M_is_1 ?_
  refine lv_if_ne (tgt := 24) hx hb dn_M_is_4 (by decide) (fun _ => ?_) (fun h9 => absurd h9 (by decide))
  refine lv_iconst (v := 0) hx hb dn_M_is_24 (by decide) ?_
  have hP9 := hP.sub (ws' := [(h0, .inr (0, xo_M f0))]) [0] rfl
  have hD9 := hD.sub (ws' := [(h0, .inr (0, xo_M f0))]) [0] (by decide) rfl
  exact xk_zret (w1 := fun u : Unit => [(h0, .inr (0, xo_M f0))]) () hx hb hr rfl hlocks hK hS dn_M_is_25 hP9 hD9 rfl (Nat.le_refl _) (Nat.le_refl _)
set_option maxHeartbeats 4000000 in
set_option maxRecDepth 100000 in
theorem ct_M_is_2 (l : Launch) (dC : Nat → ClassId) (dI : Nat → Nat → Nat) (cI cB cJ cZ cQ : ClassId) (sz : Nat) (h0 : Nat) (f0 : Nat → Value) (hf0_9 : f0 9 = .int 2) : Met l yn_M_is (xw yn_M_is bn_M_is 2 (some .boolean)) ({ frames := 0, cells := 0, slots := 0, locals := 0 }) (xk_P (dC, dI) xcl (xt cI cB cJ cZ cQ) [.ref h0, .int 303] sz [(h0, .inr (0, xo_M f0))]) (xk_Qi (dC, dI) xcl (xt cI cB cJ cZ cQ) (fun (r : Int32) (u : Unit) => r = 0) (fun u : Unit => [(h0, .inr (0, xo_M f0))]) (va_A [(h0, .inr (0, xo_M f0))] sz)) 0 0 (va_A [(h0, .inr (0, xo_M f0))] sz) := by
  refine xk_of (QA := xk_Qi (dC, dI) xcl (xt cI cB cJ cZ cQ) (fun (r : Int32) (u : Unit) => r = 0) (fun u : Unit => [(h0, .inr (0, xo_M f0))])) (by decide) (Nat.le_of_ble_eq_true rfl) ?_
  intro p e s m below meth c hx hb hml hown hg hr hlocks hin hP hK hN A hA hD hS ls hl
  have hown : s.vm.findClass rn_M = some m.cls := hown
  have hl : lv_has ls 2 [(0, .ref h0), (1, .int 303)] := hl
  obtain ⟨H, hH⟩ : ∃ z, z = s.heap := ⟨_, rfl⟩
  rw [← hH] at hP
  have hS : va_S A s.heap H [] := by rw [hH]; exact va_S.rf
  suffices kk : W p l e ({ frames := 0, cells := 0, slots := 0, locals := 0 }) s m [.ref h0, .int 303].toArray below meth c H [] 0 0 (MQ below (xk_Qi (dC, dI) xcl (xt cI cB cJ cZ cQ) (fun (r : Int32) (u : Unit) => r = 0) (fun u : Unit => [(h0, .inr (0, xo_M f0))]) A) [.ref h0, .int 303].toArray s 0 0 A) (F0 m 0 ls []) by rw [hH] at kk; exact kk
  refine lv_aload_n hx hb dn_M_is_0 rfl (lv_at hl 0 rfl) ?_
  refine va_get (D := (dC, dI)) (ci := 0) (v := .int 2) (C := rn_M) (T := fn_M) (N := 91) hx hb hg in_M hown hK hP 0 rfl rfl 9 (by decide) (hg _ wn_8_77) (fun _ h9 => h9) (congrArg some hf0_9) dn_M_is_1 ?_
  refine lv_if_ne (tgt := 24) hx hb dn_M_is_4 (by decide) (fun _ => ?_) (fun h9 => absurd h9 (by decide))
  refine lv_iconst (v := 0) hx hb dn_M_is_24 (by decide) ?_
  have hP9 := hP.sub (ws' := [(h0, .inr (0, xo_M f0))]) [0] rfl
  have hD9 := hD.sub (ws' := [(h0, .inr (0, xo_M f0))]) [0] (by decide) rfl
  exact xk_zret (w1 := fun u : Unit => [(h0, .inr (0, xo_M f0))]) () hx hb hr rfl hlocks hK hS dn_M_is_25 hP9 hD9 rfl (Nat.le_refl _) (Nat.le_refl _)
set_option maxHeartbeats 4000000 in
set_option maxRecDepth 100000 in
theorem ct_M_take_3 (l : Launch) (dC : Nat → ClassId) (dI : Nat → Nat → Nat) (cI cB cJ cZ cQ : ClassId) (sz : Nat) (h0 : Nat) (h1 : Nat) (h2 : Nat) (g0 : Nat → Int32) (g1 : Nat → Int32) (f0 : Nat → Value) (he0_0 : g0 0 = 403) (he1_0 : g1 0 = 0) (hf0_4 : f0 4 = .ref h0) (hf0_5 : f0 5 = .ref h1) (hf0_8 : f0 8 = .int 0) (hf0_9 : f0 9 = .int 2) : Met l yn_M_take (xw yn_M_take bn_M_take 2 none) ({ frames := 2, cells := 0, slots := 0, locals := 42 }) (xk_P (dC, dI) xcl (xt cI cB cJ cZ cQ) [.ref h2, .int 41] sz [(h0, .inl (cI, 65540, .inl g0)), (h1, .inl (cI, 65540, .inl g1)), (h2, .inr (0, xo_M f0))]) (xk_Qv (dC, dI) xcl (xt cI cB cJ cZ cQ) (fun u : Unit => True) (fun u : Unit => [(h0, .inl (cI, 65540, .inl g0)), (h1, .inl (cI, 65540, .inl g1)), (h2, .inr (0, xo_M f0))]) (va_A [(h0, .inl (cI, 65540, .inl g0)), (h1, .inl (cI, 65540, .inl g1)), (h2, .inr (0, xo_M f0))] sz)) 0 0 (va_A [(h0, .inl (cI, 65540, .inl g0)), (h1, .inl (cI, 65540, .inl g1)), (h2, .inr (0, xo_M f0))] sz) := by
  refine xk_of (QA := xk_Qv (dC, dI) xcl (xt cI cB cJ cZ cQ) (fun u : Unit => True) (fun u : Unit => [(h0, .inl (cI, 65540, .inl g0)), (h1, .inl (cI, 65540, .inl g1)), (h2, .inr (0, xo_M f0))])) (by decide) (Nat.le_of_ble_eq_true rfl) ?_
  intro p e s m below meth c hx hb hml hown hg hr hlocks hin hP hK hN A hA hD hS ls hl
  have hown : s.vm.findClass rn_M = some m.cls := hown
  have hl : lv_has ls 2 [(0, .ref h2), (1, .int 41)] := hl
  obtain ⟨H, hH⟩ : ∃ z, z = s.heap := ⟨_, rfl⟩
  rw [← hH] at hP
  have hS : va_S A s.heap H [] := by rw [hH]; exact va_S.rf
  suffices kk : W p l e ({ frames := 2, cells := 0, slots := 0, locals := 42 }) s m [.ref h2, .int 41].toArray below meth c H [] 0 0 (MQ below (xk_Qv (dC, dI) xcl (xt cI cB cJ cZ cQ) (fun u : Unit => True) (fun u : Unit => [(h0, .inl (cI, 65540, .inl g0)), (h1, .inl (cI, 65540, .inl g1)), (h2, .inr (0, xo_M f0))]) A) [.ref h2, .int 41].toArray s 0 0 A) (F0 m 0 ls []) by rw [hH] at kk; exact kk
  refine lv_aload_n hx hb dn_M_take_0 rfl (lv_at hl 0 rfl) ?_
  refine va_get (D := (dC, dI)) (ci := 0) (v := .int 2) (C := rn_M) (T := fn_M) (N := 91) hx hb hg in_M hown hK hP 2 rfl rfl 9 (by decide) (hg _ wn_8_77) (fun _ h9 => h9) (congrArg some hf0_9) dn_M_take_1 ?_
  refine lv_if_ne (tgt := 33) hx hb dn_M_take_4 (by decide) (fun _ => ?_) (fun h9 => absurd h9 (by decide))
  refine lv_aload_n hx hb dn_M_take_33 rfl (lv_at hl 0 rfl) ?_
  have hPc := hP.sub (ws' := [(h0, .inl (cI, 65540, .inl g0)), (h1, .inl (cI, 65540, .inl g1)), (h2, .inr (0, xo_M f0))]) [0, 1, 2] rfl
  have hDc := hD.sub (ws' := [(h0, .inl (cI, 65540, .inl g0)), (h1, .inl (cI, 65540, .inl g1)), (h2, .inr (0, xo_M f0))]) [0, 1, 2] (by decide) rfl
  refine xk_callv (wr := []) (xk_runV (ar := 0) (As := []) (rest := []) (ci := 0) (q0 := 2) ⟨hx, hb, hml, hown, hg⟩ hK hN (ct_M_no_1 l dC dI cI cB cJ cZ cQ H.size h0 h1 h2 g0 g1 f0 he0_0 he1_0 hf0_4 hf0_5 hf0_8 hf0_9) hPc hDc rfl rfl wn_9_177 wn_9_179 sn_M_no wn_1_13 wn_9_180 rfl rfl (by decide +kernel) ⟨Nat.le_of_ble_eq_true rfl, Nat.le_of_ble_eq_true rfl⟩ rfl hl.1 rfl (Nat.le_of_ble_eq_true rfl) dn_M_take_34 ⟨Nat.le_of_ble_eq_true rfl, Nat.le_of_ble_eq_true rfl⟩) hP hD hS hA [0, 1, 2] [] rfl rfl (by decide) (by decide) (fun _ H locs hw hP hD hS => ?_)
  have hP : va_P (dC, dI) xcl [(h0, .inl (cI, 65540, .inl g0)), (h1, .inl (cI, 65540, .inl g1)), (h2, .inr (0, xo_M f0))] H := hP
  have hD : va_D A [(h0, .inl (cI, 65540, .inl g0)), (h1, .inl (cI, 65540, .inl g1)), (h2, .inr (0, xo_M f0))] := hD
  have hP9 := hP.sub (ws' := [(h0, .inl (cI, 65540, .inl g0)), (h1, .inl (cI, 65540, .inl g1)), (h2, .inr (0, xo_M f0))]) [0, 1, 2] rfl
  have hD9 := hD.sub (ws' := [(h0, .inl (cI, 65540, .inl g0)), (h1, .inl (cI, 65540, .inl g1)), (h2, .inr (0, xo_M f0))]) [0, 1, 2] (by decide) rfl
  exact xk_vret (w1 := fun u : Unit => [(h0, .inl (cI, 65540, .inl g0)), (h1, .inl (cI, 65540, .inl g1)), (h2, .inr (0, xo_M f0))]) () hx hb hr hlocks hK hS dn_M_take_37 hP9 hD9 trivial (Nat.le_refl _) (Nat.le_refl _)
set_option maxHeartbeats 4000000 in
set_option maxRecDepth 100000 in
theorem ct_M_shut_0 (l : Launch) (dC : Nat → ClassId) (dI : Nat → Nat → Nat) (cI cB cJ cZ cQ : ClassId) (sz : Nat) (h0 : Nat) (h1 : Nat) (h2 : Nat) (g0 : Nat → Int32) (g1 : Nat → Int32) (f0 : Nat → Value) (he0_0 : g0 0 = 403) (he1_0 : g1 0 = 0) (hf0_4 : f0 4 = .ref h0) (hf0_5 : f0 5 = .ref h1) (hf0_8 : f0 8 = .int 0) (hf0_9 : f0 9 = .int 2) (hf0_11 : f0 11 = .int 0) : Met l yn_M_shut (xw yn_M_shut bn_M_shut 2 none) ({ frames := 3, cells := 0, slots := 0, locals := 63 }) (xk_P (dC, dI) xcl (xt cI cB cJ cZ cQ) [.ref h2, .int 41] sz [(h0, .inl (cI, 65540, .inl g0)), (h1, .inl (cI, 65540, .inl g1)), (h2, .inr (0, xo_M f0))]) (xk_Qv (dC, dI) xcl (xt cI cB cJ cZ cQ) (fun u : Unit => True) (fun u : Unit => [(h0, .inl (cI, 65540, .inl g0)), (h1, .inl (cI, 65540, .inl g1)), (h2, .inr (0, xo_M (va_up f0 11 (.int (-1)))))]) (va_A [(h0, .inl (cI, 65540, .inl g0)), (h1, .inl (cI, 65540, .inl g1)), (h2, .inr (0, xo_M f0))] sz)) 0 0 (va_A [(h0, .inl (cI, 65540, .inl g0)), (h1, .inl (cI, 65540, .inl g1)), (h2, .inr (0, xo_M f0))] sz) := by
  refine xk_of (QA := xk_Qv (dC, dI) xcl (xt cI cB cJ cZ cQ) (fun u : Unit => True) (fun u : Unit => [(h0, .inl (cI, 65540, .inl g0)), (h1, .inl (cI, 65540, .inl g1)), (h2, .inr (0, xo_M (va_up f0 11 (.int (-1)))))])) (by decide) (Nat.le_of_ble_eq_true rfl) ?_
  intro p e s m below meth c hx hb hml hown hg hr hlocks hin hP hK hN A hA hD hS ls hl
  have hown : s.vm.findClass rn_M = some m.cls := hown
  have hl : lv_has ls 2 [(0, .ref h2), (1, .int 41)] := hl
  obtain ⟨H, hH⟩ : ∃ z, z = s.heap := ⟨_, rfl⟩
  rw [← hH] at hP
  have hS : va_S A s.heap H [] := by rw [hH]; exact va_S.rf
  suffices kk : W p l e ({ frames := 3, cells := 0, slots := 0, locals := 63 }) s m [.ref h2, .int 41].toArray below meth c H [] 0 0 (MQ below (xk_Qv (dC, dI) xcl (xt cI cB cJ cZ cQ) (fun u : Unit => True) (fun u : Unit => [(h0, .inl (cI, 65540, .inl g0)), (h1, .inl (cI, 65540, .inl g1)), (h2, .inr (0, xo_M (va_up f0 11 (.int (-1)))))]) A) [.ref h2, .int 41].toArray s 0 0 A) (F0 m 0 ls []) by rw [hH] at kk; exact kk
  refine lv_aload_n hx hb dn_M_shut_0 rfl (lv_at hl 0 rfl) ?_
  refine lv_iload_n hx hb dn_M_shut_1 rfl (lv_at hl 1 rfl) ?_
  have hPc := hP.sub (ws' := [(h0, .inl (cI, 65540, .inl g0)), (h1, .inl (cI, 65540, .inl g1)), (h2, .inr (0, xo_M f0))]) [0, 1, 2] rfl
  have hDc := hD.sub (ws' := [(h0, .inl (cI, 65540, .inl g0)), (h1, .inl (cI, 65540, .inl g1)), (h2, .inr (0, xo_M f0))]) [0, 1, 2] (by decide) rfl
  refine xk_callv (wr := []) (xk_runV (ar := 1) (As := [.int 41]) (rest := []) (ci := 0) (q0 := 2) ⟨hx, hb, hml, hown, hg⟩ hK hN (ct_M_take_3 l dC dI cI cB cJ cZ cQ H.size h0 h1 h2 g0 g1 f0 he0_0 he1_0 hf0_4 hf0_5 hf0_8 hf0_9) hPc hDc rfl rfl wn_9_173 wn_9_175 sn_M_take wn_1_13 wn_9_176 rfl rfl (by decide +kernel) ⟨Nat.le_of_ble_eq_true rfl, Nat.le_of_ble_eq_true rfl⟩ rfl hl.1 rfl (Nat.le_of_ble_eq_true rfl) dn_M_shut_2 ⟨Nat.le_of_ble_eq_true rfl, Nat.le_of_ble_eq_true rfl⟩) hP hD hS hA [0, 1, 2] [] rfl rfl (by decide) (by decide) (fun _ H locs hw hP hD hS => ?_)
  have hP : va_P (dC, dI) xcl [(h0, .inl (cI, 65540, .inl g0)), (h1, .inl (cI, 65540, .inl g1)), (h2, .inr (0, xo_M f0))] H := hP
  have hD : va_D A [(h0, .inl (cI, 65540, .inl g0)), (h1, .inl (cI, 65540, .inl g1)), (h2, .inr (0, xo_M f0))] := hD
  refine lv_aload_n hx hb dn_M_shut_5 rfl (lv_at hl 0 rfl) ?_
  refine lv_dup hx hb dn_M_shut_6 rfl ?_
  refine va_get (D := (dC, dI)) (ci := 0) (v := .int 0) (C := rn_M) (T := fn_M) (N := 91) hx hb hg in_M hown hK hP 2 rfl rfl 11 (by decide) (hg _ wn_8_79) (fun _ h9 => h9) (congrArg some hf0_11) dn_M_shut_7 ?_
  refine lv_iconst (v := 1) hx hb dn_M_shut_10 (by decide) ?_
  refine lv_isub hx hb dn_M_shut_11 ?_
  refine xk_ti (y := (-1)) (by decide) ?_
  refine va_put (D := (dC, dI)) (ci := 0) (v := .int (-1)) (ty := .int) (C := rn_M) (T := fn_M) (N := 91) hx hb hg in_M tn_M tk_M nn_M hown hK hP hD hS 2 rfl rfl 11 (by decide) (hg _ wn_8_79) (fun _ h9 => h9) rfl (tk_M 11 (by decide)) rfl rfl (Nat.le_of_ble_eq_true rfl) dn_M_shut_12 (fun H locs hP hD hS => ?_)
  have hP : va_P (dC, dI) xcl [(h0, .inl (cI, 65540, .inl g0)), (h1, .inl (cI, 65540, .inl g1)), (h2, .inr (0, xo_M (va_up f0 11 (.int (-1)))))] H := hP
  have hD : va_D A [(h0, .inl (cI, 65540, .inl g0)), (h1, .inl (cI, 65540, .inl g1)), (h2, .inr (0, xo_M (va_up f0 11 (.int (-1)))))] := hD
  have hP9 := hP.sub (ws' := [(h0, .inl (cI, 65540, .inl g0)), (h1, .inl (cI, 65540, .inl g1)), (h2, .inr (0, xo_M (va_up f0 11 (.int (-1)))))]) [0, 1, 2] rfl
  have hD9 := hD.sub (ws' := [(h0, .inl (cI, 65540, .inl g0)), (h1, .inl (cI, 65540, .inl g1)), (h2, .inr (0, xo_M (va_up f0 11 (.int (-1)))))]) [0, 1, 2] (by decide) rfl
  exact xk_vret (w1 := fun u : Unit => [(h0, .inl (cI, 65540, .inl g0)), (h1, .inl (cI, 65540, .inl g1)), (h2, .inr (0, xo_M (va_up f0 11 (.int (-1)))))]) () hx hb hr hlocks hK hS dn_M_shut_15 hP9 hD9 trivial (Nat.le_refl _) (Nat.le_refl _)
set_option maxHeartbeats 4000000 in
set_option maxRecDepth 100000 in
theorem ct_M_take_4 (l : Launch) (dC : Nat → ClassId) (dI : Nat → Nat → Nat) (cI cB cJ cZ cQ : ClassId) (sz : Nat) (h0 : Nat) (h1 : Nat) (h2 : Nat) (g0 : Nat → Int32) (g1 : Nat → Int32) (f0 : Nat → Value) (he0_0 : g0 0 = 403) (he1_0 : g1 0 = 0) (hf0_4 : f0 4 = .ref h0) (hf0_5 : f0 5 = .ref h1) (hf0_8 : f0 8 = .int 0) (hf0_9 : f0 9 = .int 2) : Met l yn_M_take (xw yn_M_take bn_M_take 2 none) ({ frames := 2, cells := 0, slots := 0, locals := 42 }) (xk_P (dC, dI) xcl (xt cI cB cJ cZ cQ) [.ref h2, .int 59] sz [(h0, .inl (cI, 65540, .inl g0)), (h1, .inl (cI, 65540, .inl g1)), (h2, .inr (0, xo_M f0))]) (xk_Qv (dC, dI) xcl (xt cI cB cJ cZ cQ) (fun u : Unit => True) (fun u : Unit => [(h0, .inl (cI, 65540, .inl g0)), (h1, .inl (cI, 65540, .inl g1)), (h2, .inr (0, xo_M f0))]) (va_A [(h0, .inl (cI, 65540, .inl g0)), (h1, .inl (cI, 65540, .inl g1)), (h2, .inr (0, xo_M f0))] sz)) 0 0 (va_A [(h0, .inl (cI, 65540, .inl g0)), (h1, .inl (cI, 65540, .inl g1)), (h2, .inr (0, xo_M f0))] sz) := by
  refine xk_of (QA := xk_Qv (dC, dI) xcl (xt cI cB cJ cZ cQ) (fun u : Unit => True) (fun u : Unit => [(h0, .inl (cI, 65540, .inl g0)), (h1, .inl (cI, 65540, .inl g1)), (h2, .inr (0, xo_M f0))])) (by decide) (Nat.le_of_ble_eq_true rfl) ?_
  intro p e s m below meth c hx hb hml hown hg hr hlocks hin hP hK hN A hA hD hS ls hl
  have hown : s.vm.findClass rn_M = some m.cls := hown
  have hl : lv_has ls 2 [(0, .ref h2), (1, .int 59)] := hl
  obtain ⟨H, hH⟩ : ∃ z, z = s.heap := ⟨_, rfl⟩
  rw [← hH] at hP
  have hS : va_S A s.heap H [] := by rw [hH]; exact va_S.rf
  suffices kk : W p l e ({ frames := 2, cells := 0, slots := 0, locals := 42 }) s m [.ref h2, .int 59].toArray below meth c H [] 0 0 (MQ below (xk_Qv (dC, dI) xcl (xt cI cB cJ cZ cQ) (fun u : Unit => True) (fun u : Unit => [(h0, .inl (cI, 65540, .inl g0)), (h1, .inl (cI, 65540, .inl g1)), (h2, .inr (0, xo_M f0))]) A) [.ref h2, .int 59].toArray s 0 0 A) (F0 m 0 ls []) by rw [hH] at kk; exact kk
  refine lv_aload_n hx hb dn_M_take_0 rfl (lv_at hl 0 rfl) ?_
  refine va_get (D := (dC, dI)) (ci := 0) (v := .int 2) (C := rn_M) (T := fn_M) (N := 91) hx hb hg in_M hown hK hP 2 rfl rfl 9 (by decide) (hg _ wn_8_77) (fun _ h9 => h9) (congrArg some hf0_9) dn_M_take_1 ?_
  refine lv_if_ne (tgt := 33) hx hb dn_M_take_4 (by decide) (fun _ => ?_) (fun h9 => absurd h9 (by decide))
  refine lv_aload_n hx hb dn_M_take_33 rfl (lv_at hl 0 rfl) ?_
  have hPc := hP.sub (ws' := [(h0, .inl (cI, 65540, .inl g0)), (h1, .inl (cI, 65540, .inl g1)), (h2, .inr (0, xo_M f0))]) [0, 1, 2] rfl
  have hDc := hD.sub (ws' := [(h0, .inl (cI, 65540, .inl g0)), (h1, .inl (cI, 65540, .inl g1)), (h2, .inr (0, xo_M f0))]) [0, 1, 2] (by decide) rfl
  refine xk_callv (wr := []) (xk_runV (ar := 0) (As := []) (rest := []) (ci := 0) (q0 := 2) ⟨hx, hb, hml, hown, hg⟩ hK hN (ct_M_no_1 l dC dI cI cB cJ cZ cQ H.size h0 h1 h2 g0 g1 f0 he0_0 he1_0 hf0_4 hf0_5 hf0_8 hf0_9) hPc hDc rfl rfl wn_9_177 wn_9_179 sn_M_no wn_1_13 wn_9_180 rfl rfl (by decide +kernel) ⟨Nat.le_of_ble_eq_true rfl, Nat.le_of_ble_eq_true rfl⟩ rfl hl.1 rfl (Nat.le_of_ble_eq_true rfl) dn_M_take_34 ⟨Nat.le_of_ble_eq_true rfl, Nat.le_of_ble_eq_true rfl⟩) hP hD hS hA [0, 1, 2] [] rfl rfl (by decide) (by decide) (fun _ H locs hw hP hD hS => ?_)
  have hP : va_P (dC, dI) xcl [(h0, .inl (cI, 65540, .inl g0)), (h1, .inl (cI, 65540, .inl g1)), (h2, .inr (0, xo_M f0))] H := hP
  have hD : va_D A [(h0, .inl (cI, 65540, .inl g0)), (h1, .inl (cI, 65540, .inl g1)), (h2, .inr (0, xo_M f0))] := hD
  have hP9 := hP.sub (ws' := [(h0, .inl (cI, 65540, .inl g0)), (h1, .inl (cI, 65540, .inl g1)), (h2, .inr (0, xo_M f0))]) [0, 1, 2] rfl
  have hD9 := hD.sub (ws' := [(h0, .inl (cI, 65540, .inl g0)), (h1, .inl (cI, 65540, .inl g1)), (h2, .inr (0, xo_M f0))]) [0, 1, 2] (by decide) rfl
  exact xk_vret (w1 := fun u : Unit => [(h0, .inl (cI, 65540, .inl g0)), (h1, .inl (cI, 65540, .inl g1)), (h2, .inr (0, xo_M f0))]) () hx hb hr hlocks hK hS dn_M_take_37 hP9 hD9 trivial (Nat.le_refl _) (Nat.le_refl _)
set_option maxHeartbeats 4000000 in
set_option maxRecDepth 100000 in
theorem ct_M_take_5 (l : Launch) (dC : Nat → ClassId) (dI : Nat → Nat → Nat) (cI cB cJ cZ cQ : ClassId) (sz : Nat) (h0 : Nat) (h1 : Nat) (h2 : Nat) (g0 : Nat → Int32) (g1 : Nat → Int32) (f0 : Nat → Value) (he0_0 : g0 0 = 403) (he1_0 : g1 0 = 0) (hf0_4 : f0 4 = .ref h0) (hf0_5 : f0 5 = .ref h1) (hf0_8 : f0 8 = .int 0) (hf0_9 : f0 9 = .int 2) : Met l yn_M_take (xw yn_M_take bn_M_take 2 none) ({ frames := 2, cells := 0, slots := 0, locals := 42 }) (xk_P (dC, dI) xcl (xt cI cB cJ cZ cQ) [.ref h2, .int 301] sz [(h0, .inl (cI, 65540, .inl g0)), (h1, .inl (cI, 65540, .inl g1)), (h2, .inr (0, xo_M f0))]) (xk_Qv (dC, dI) xcl (xt cI cB cJ cZ cQ) (fun u : Unit => True) (fun u : Unit => [(h0, .inl (cI, 65540, .inl g0)), (h1, .inl (cI, 65540, .inl g1)), (h2, .inr (0, xo_M f0))]) (va_A [(h0, .inl (cI, 65540, .inl g0)), (h1, .inl (cI, 65540, .inl g1)), (h2, .inr (0, xo_M f0))] sz)) 0 0 (va_A [(h0, .inl (cI, 65540, .inl g0)), (h1, .inl (cI, 65540, .inl g1)), (h2, .inr (0, xo_M f0))] sz) := by
  refine xk_of (QA := xk_Qv (dC, dI) xcl (xt cI cB cJ cZ cQ) (fun u : Unit => True) (fun u : Unit => [(h0, .inl (cI, 65540, .inl g0)), (h1, .inl (cI, 65540, .inl g1)), (h2, .inr (0, xo_M f0))])) (by decide) (Nat.le_of_ble_eq_true rfl) ?_
  intro p e s m below meth c hx hb hml hown hg hr hlocks hin hP hK hN A hA hD hS ls hl
  have hown : s.vm.findClass rn_M = some m.cls := hown
  have hl : lv_has ls 2 [(0, .ref h2), (1, .int 301)] := hl
  obtain ⟨H, hH⟩ : ∃ z, z = s.heap := ⟨_, rfl⟩
  rw [← hH] at hP
  have hS : va_S A s.heap H [] := by rw [hH]; exact va_S.rf
  suffices kk : W p l e ({ frames := 2, cells := 0, slots := 0, locals := 42 }) s m [.ref h2, .int 301].toArray below meth c H [] 0 0 (MQ below (xk_Qv (dC, dI) xcl (xt cI cB cJ cZ cQ) (fun u : Unit => True) (fun u : Unit => [(h0, .inl (cI, 65540, .inl g0)), (h1, .inl (cI, 65540, .inl g1)), (h2, .inr (0, xo_M f0))]) A) [.ref h2, .int 301].toArray s 0 0 A) (F0 m 0 ls []) by rw [hH] at kk; exact kk
  refine lv_aload_n hx hb dn_M_take_0 rfl (lv_at hl 0 rfl) ?_
  refine va_get (D := (dC, dI)) (ci := 0) (v := .int 2) (C := rn_M) (T := fn_M) (N := 91) hx hb hg in_M hown hK hP 2 rfl rfl 9 (by decide) (hg _ wn_8_77) (fun _ h9 => h9) (congrArg some hf0_9) dn_M_take_1 ?_
  refine lv_if_ne (tgt := 33) hx hb dn_M_take_4 (by decide) (fun _ => ?_) (fun h9 => absurd h9 (by decide))
  refine lv_aload_n hx hb dn_M_take_33 rfl (lv_at hl 0 rfl) ?_
  have hPc := hP.sub (ws' := [(h0, .inl (cI, 65540, .inl g0)), (h1, .inl (cI, 65540, .inl g1)), (h2, .inr (0, xo_M f0))]) [0, 1, 2] rfl
  have hDc := hD.sub (ws' := [(h0, .inl (cI, 65540, .inl g0)), (h1, .inl (cI, 65540, .inl g1)), (h2, .inr (0, xo_M f0))]) [0, 1, 2] (by decide) rfl
  refine xk_callv (wr := []) (xk_runV (ar := 0) (As := []) (rest := []) (ci := 0) (q0 := 2) ⟨hx, hb, hml, hown, hg⟩ hK hN (ct_M_no_1 l dC dI cI cB cJ cZ cQ H.size h0 h1 h2 g0 g1 f0 he0_0 he1_0 hf0_4 hf0_5 hf0_8 hf0_9) hPc hDc rfl rfl wn_9_177 wn_9_179 sn_M_no wn_1_13 wn_9_180 rfl rfl (by decide +kernel) ⟨Nat.le_of_ble_eq_true rfl, Nat.le_of_ble_eq_true rfl⟩ rfl hl.1 rfl (Nat.le_of_ble_eq_true rfl) dn_M_take_34 ⟨Nat.le_of_ble_eq_true rfl, Nat.le_of_ble_eq_true rfl⟩) hP hD hS hA [0, 1, 2] [] rfl rfl (by decide) (by decide) (fun _ H locs hw hP hD hS => ?_)
  have hP : va_P (dC, dI) xcl [(h0, .inl (cI, 65540, .inl g0)), (h1, .inl (cI, 65540, .inl g1)), (h2, .inr (0, xo_M f0))] H := hP
  have hD : va_D A [(h0, .inl (cI, 65540, .inl g0)), (h1, .inl (cI, 65540, .inl g1)), (h2, .inr (0, xo_M f0))] := hD
  have hP9 := hP.sub (ws' := [(h0, .inl (cI, 65540, .inl g0)), (h1, .inl (cI, 65540, .inl g1)), (h2, .inr (0, xo_M f0))]) [0, 1, 2] rfl
  have hD9 := hD.sub (ws' := [(h0, .inl (cI, 65540, .inl g0)), (h1, .inl (cI, 65540, .inl g1)), (h2, .inr (0, xo_M f0))]) [0, 1, 2] (by decide) rfl
  exact xk_vret (w1 := fun u : Unit => [(h0, .inl (cI, 65540, .inl g0)), (h1, .inl (cI, 65540, .inl g1)), (h2, .inr (0, xo_M f0))]) () hx hb hr hlocks hK hS dn_M_take_37 hP9 hD9 trivial (Nat.le_refl _) (Nat.le_refl _)
set_option maxHeartbeats 4000000 in
set_option maxRecDepth 100000 in
theorem ct_M_designGrammar_0 (l : Launch) (dC : Nat → ClassId) (dI : Nat → Nat → Nat) (cI cB cJ cZ cQ : ClassId) (sz : Nat) (h0 : Nat) (h1 : Nat) (h2 : Nat) (g0 : Nat → Int32) (g1 : Nat → Int32) (f0 : Nat → Value) (he0_0 : g0 0 = 403) (he1_0 : g1 0 = 0) (hf0_4 : f0 4 = .ref h0) (hf0_5 : f0 5 = .ref h1) (hf0_9 : f0 9 = .int 0) : Met l yn_M_designGrammar (xw yn_M_designGrammar bn_M_designGrammar 2 none) ({ frames := 4, cells := 0, slots := 0, locals := 84 }) (xk_P (dC, dI) xcl (xt cI cB cJ cZ cQ) [.ref h2] sz [(h0, .inl (cI, 65540, .inl g0)), (h1, .inl (cI, 65540, .inl g1)), (h2, .inr (0, xo_M f0))]) (xk_Qv (dC, dI) xcl (xt cI cB cJ cZ cQ) (fun u : Unit => True) (fun u : Unit => [(h0, .inl (cI, 65540, .inl g0)), (h1, .inl (cI, 65540, .inl g1)), (h2, .inr (0, xo_M (((va_up (((((va_up (va_up (va_up (va_up f0 8 (.int 0)) 11 (.int 0)) 9 (.int 2)) 10 (.int 0)))))) 11 (.int (-1)))))))]) (va_A [(h0, .inl (cI, 65540, .inl g0)), (h1, .inl (cI, 65540, .inl g1)), (h2, .inr (0, xo_M f0))] sz)) 0 0 (va_A [(h0, .inl (cI, 65540, .inl g0)), (h1, .inl (cI, 65540, .inl g1)), (h2, .inr (0, xo_M f0))] sz) := by
  refine xk_of (QA := xk_Qv (dC, dI) xcl (xt cI cB cJ cZ cQ) (fun u : Unit => True) (fun u : Unit => [(h0, .inl (cI, 65540, .inl g0)), (h1, .inl (cI, 65540, .inl g1)), (h2, .inr (0, xo_M (((va_up (((((va_up (va_up (va_up (va_up f0 8 (.int 0)) 11 (.int 0)) 9 (.int 2)) 10 (.int 0)))))) 11 (.int (-1)))))))])) (by decide) (Nat.le_of_ble_eq_true rfl) ?_
  intro p e s m below meth c hx hb hml hown hg hr hlocks hin hP hK hN A hA hD hS ls hl
  have hown : s.vm.findClass rn_M = some m.cls := hown
  have hl : lv_has ls 2 [(0, .ref h2)] := hl
  obtain ⟨H, hH⟩ : ∃ z, z = s.heap := ⟨_, rfl⟩
  rw [← hH] at hP
  have hS : va_S A s.heap H [] := by rw [hH]; exact va_S.rf
  suffices kk : W p l e ({ frames := 4, cells := 0, slots := 0, locals := 84 }) s m [.ref h2].toArray below meth c H [] 0 0 (MQ below (xk_Qv (dC, dI) xcl (xt cI cB cJ cZ cQ) (fun u : Unit => True) (fun u : Unit => [(h0, .inl (cI, 65540, .inl g0)), (h1, .inl (cI, 65540, .inl g1)), (h2, .inr (0, xo_M (((va_up (((((va_up (va_up (va_up (va_up f0 8 (.int 0)) 11 (.int 0)) 9 (.int 2)) 10 (.int 0)))))) 11 (.int (-1)))))))]) A) [.ref h2].toArray s 0 0 A) (F0 m 0 ls []) by rw [hH] at kk; exact kk
  refine lv_aload_n hx hb dn_M_designGrammar_0 rfl (lv_at hl 0 rfl) ?_
  refine lv_iconst (v := 0) hx hb dn_M_designGrammar_1 (by decide) ?_
  refine va_put (D := (dC, dI)) (ci := 0) (v := .int 0) (ty := .int) (C := rn_M) (T := fn_M) (N := 91) hx hb hg in_M tn_M tk_M nn_M hown hK hP hD hS 2 rfl rfl 8 (by decide) (hg _ wn_8_76) (fun _ h9 => h9) rfl (tk_M 8 (by decide)) rfl rfl (Nat.le_of_ble_eq_true rfl) dn_M_designGrammar_2 (fun H locs hP hD hS => ?_)
  have hP : va_P (dC, dI) xcl [(h0, .inl (cI, 65540, .inl g0)), (h1, .inl (cI, 65540, .inl g1)), (h2, .inr (0, xo_M (va_up f0 8 (.int 0))))] H := hP
  have hD : va_D A [(h0, .inl (cI, 65540, .inl g0)), (h1, .inl (cI, 65540, .inl g1)), (h2, .inr (0, xo_M (va_up f0 8 (.int 0))))] := hD
  refine lv_aload_n hx hb dn_M_designGrammar_5 rfl (lv_at hl 0 rfl) ?_
  refine lv_iconst (v := 0) hx hb dn_M_designGrammar_6 (by decide) ?_
  refine va_put (D := (dC, dI)) (ci := 0) (v := .int 0) (ty := .int) (C := rn_M) (T := fn_M) (N := 91) hx hb hg in_M tn_M tk_M nn_M hown hK hP hD hS 2 rfl rfl 11 (by decide) (hg _ wn_8_79) (fun _ h9 => h9) rfl (tk_M 11 (by decide)) rfl rfl (Nat.le_of_ble_eq_true rfl) dn_M_designGrammar_7 (fun H locs hP hD hS => ?_)
  have hP : va_P (dC, dI) xcl [(h0, .inl (cI, 65540, .inl g0)), (h1, .inl (cI, 65540, .inl g1)), (h2, .inr (0, xo_M (va_up (va_up f0 8 (.int 0)) 11 (.int 0))))] H := hP
  have hD : va_D A [(h0, .inl (cI, 65540, .inl g0)), (h1, .inl (cI, 65540, .inl g1)), (h2, .inr (0, xo_M (va_up (va_up f0 8 (.int 0)) 11 (.int 0))))] := hD
  refine lv_iconst (v := 1) hx hb dn_M_designGrammar_10 (by decide) ?_
  refine lv_istore_n (lv' := [(1, .int 1), (0, .ref h2)]) hx hb dn_M_designGrammar_11 rfl hl (by decide) rfl (fun ls hl => ?_)
  refine lv_iload_n hx hb dn_M_designGrammar_12 rfl (lv_at hl 0 rfl) ?_
  refine lv_if_eq (tgt := 162) hx hb dn_M_designGrammar_13 (by decide) (fun h9 => absurd h9 (by decide)) (fun _ => ?_)
  refine lv_aload_n hx hb dn_M_designGrammar_16 rfl (lv_at hl 1 rfl) ?_
  refine va_get (D := (dC, dI)) (ci := 0) (v := .int 0) (C := rn_M) (T := fn_M) (N := 91) hx hb hg in_M hown hK hP 2 rfl rfl 9 (by decide) (hg _ wn_8_77) (fun _ h9 => h9) (congrArg some hf0_9) dn_M_designGrammar_17 ?_
  refine lv_if_ne (tgt := 162) hx hb dn_M_designGrammar_20 (by decide) (fun h9 => absurd h9 (by decide)) (fun _ => ?_)
  refine lv_aload_n hx hb dn_M_designGrammar_23 rfl (lv_at hl 1 rfl) ?_
  refine lv_sipush (v := 300) hx hb dn_M_designGrammar_24 (by decide) ?_
  have hPc := hP.sub (ws' := [(h0, .inl (cI, 65540, .inl g0)), (h1, .inl (cI, 65540, .inl g1)), (h2, .inr (0, xo_M (va_up (va_up f0 8 (.int 0)) 11 (.int 0))))]) [0, 1, 2] rfl
  have hDc := hD.sub (ws' := [(h0, .inl (cI, 65540, .inl g0)), (h1, .inl (cI, 65540, .inl g1)), (h2, .inr (0, xo_M (va_up (va_up f0 8 (.int 0)) 11 (.int 0))))]) [0, 1, 2] (by decide) rfl
  refine xk_callv (wr := []) (xk_runV (ar := 1) (As := [.int 300]) (rest := []) (ci := 0) (q0 := 2) ⟨hx, hb, hml, hown, hg⟩ hK hN (ct_M_take_0 l dC dI cI cB cJ cZ cQ H.size h0 h1 h2 g0 g1 (va_up (va_up f0 8 (.int 0)) 11 (.int 0)) he0_0 he1_0 hf0_4 hf0_5 (show (va_up (va_up f0 8 (.int 0)) 11 (.int 0)) 8 = .int 0 from rfl) hf0_9) hPc hDc rfl rfl wn_9_173 wn_9_175 sn_M_take wn_1_13 wn_9_176 rfl rfl (by decide +kernel) ⟨Nat.le_of_ble_eq_true rfl, Nat.le_of_ble_eq_true rfl⟩ rfl hl.1 rfl (Nat.le_of_ble_eq_true rfl) dn_M_designGrammar_27 ⟨Nat.le_of_ble_eq_true rfl, Nat.le_of_ble_eq_true rfl⟩) hP hD hS hA [0, 1, 2] [] rfl rfl (by decide) (by decide) (fun _ H locs hw hP hD hS => ?_)
  have hP : va_P (dC, dI) xcl [(h0, .inl (cI, 65540, .inl g0)), (h1, .inl (cI, 65540, .inl g1)), (h2, .inr (0, xo_M (va_up (va_up (va_up (va_up f0 8 (.int 0)) 11 (.int 0)) 9 (.int 2)) 10 (.int 0))))] H := hP
  have hD : va_D A [(h0, .inl (cI, 65540, .inl g0)), (h1, .inl (cI, 65540, .inl g1)), (h2, .inr (0, xo_M (va_up (va_up (va_up (va_up f0 8 (.int 0)) 11 (.int 0)) 9 (.int 2)) 10 (.int 0))))] := hD
  refine lv_aload_n hx hb dn_M_designGrammar_30 rfl (lv_at hl 1 rfl) ?_
  refine lv_sipush (v := 400) hx hb dn_M_designGrammar_31 (by decide) ?_
  have hPc := hP.sub (ws' := [(h0, .inl (cI, 65540, .inl g0)), (h1, .inl (cI, 65540, .inl g1)), (h2, .inr (0, xo_M (va_up (va_up (va_up (va_up f0 8 (.int 0)) 11 (.int 0)) 9 (.int 2)) 10 (.int 0))))]) [0, 1, 2] rfl
  have hDc := hD.sub (ws' := [(h0, .inl (cI, 65540, .inl g0)), (h1, .inl (cI, 65540, .inl g1)), (h2, .inr (0, xo_M (va_up (va_up (va_up (va_up f0 8 (.int 0)) 11 (.int 0)) 9 (.int 2)) 10 (.int 0))))]) [0, 1, 2] (by decide) rfl
  refine xk_callv (wr := []) (xk_runV (ar := 1) (As := [.int 400]) (rest := []) (ci := 0) (q0 := 2) ⟨hx, hb, hml, hown, hg⟩ hK hN (ct_M_take_1 l dC dI cI cB cJ cZ cQ H.size h0 h1 h2 g0 g1 (va_up (va_up (va_up (va_up f0 8 (.int 0)) 11 (.int 0)) 9 (.int 2)) 10 (.int 0)) he0_0 he1_0 hf0_4 hf0_5 (show (va_up (va_up (va_up (va_up f0 8 (.int 0)) 11 (.int 0)) 9 (.int 2)) 10 (.int 0)) 8 = .int 0 from rfl) (show (va_up (va_up (va_up (va_up f0 8 (.int 0)) 11 (.int 0)) 9 (.int 2)) 10 (.int 0)) 9 = .int 2 from rfl)) hPc hDc rfl rfl wn_9_173 wn_9_175 sn_M_take wn_1_13 wn_9_176 rfl rfl (by decide +kernel) ⟨Nat.le_of_ble_eq_true rfl, Nat.le_of_ble_eq_true rfl⟩ rfl hl.1 rfl (Nat.le_of_ble_eq_true rfl) dn_M_designGrammar_34 ⟨Nat.le_of_ble_eq_true rfl, Nat.le_of_ble_eq_true rfl⟩) hP hD hS hA [0, 1, 2] [] rfl rfl (by decide) (by decide) (fun _ H locs hw hP hD hS => ?_)
  have hP : va_P (dC, dI) xcl [(h0, .inl (cI, 65540, .inl g0)), (h1, .inl (cI, 65540, .inl g1)), (h2, .inr (0, xo_M ((va_up (va_up (va_up (va_up f0 8 (.int 0)) 11 (.int 0)) 9 (.int 2)) 10 (.int 0)))))] H := hP
  have hD : va_D A [(h0, .inl (cI, 65540, .inl g0)), (h1, .inl (cI, 65540, .inl g1)), (h2, .inr (0, xo_M ((va_up (va_up (va_up (va_up f0 8 (.int 0)) 11 (.int 0)) 9 (.int 2)) 10 (.int 0)))))] := hD
  refine lv_aload_n hx hb dn_M_designGrammar_37 rfl (lv_at hl 1 rfl) ?_
  refine lv_bipush (v := 40) hx hb dn_M_designGrammar_38 (by decide) ?_
  have hPc := hP.sub (ws' := [(h0, .inl (cI, 65540, .inl g0)), (h1, .inl (cI, 65540, .inl g1)), (h2, .inr (0, xo_M ((va_up (va_up (va_up (va_up f0 8 (.int 0)) 11 (.int 0)) 9 (.int 2)) 10 (.int 0)))))]) [0, 1, 2] rfl
  have hDc := hD.sub (ws' := [(h0, .inl (cI, 65540, .inl g0)), (h1, .inl (cI, 65540, .inl g1)), (h2, .inr (0, xo_M ((va_up (va_up (va_up (va_up f0 8 (.int 0)) 11 (.int 0)) 9 (.int 2)) 10 (.int 0)))))]) [0, 1, 2] (by decide) rfl
  refine xk_callv (wr := []) (xk_runV (ar := 1) (As := [.int 40]) (rest := []) (ci := 0) (q0 := 2) ⟨hx, hb, hml, hown, hg⟩ hK hN (ct_M_open_0 l dC dI cI cB cJ cZ cQ H.size h0 h1 h2 g0 g1 ((va_up (va_up (va_up (va_up f0 8 (.int 0)) 11 (.int 0)) 9 (.int 2)) 10 (.int 0))) he0_0 he1_0 hf0_4 hf0_5 (show ((va_up (va_up (va_up (va_up f0 8 (.int 0)) 11 (.int 0)) 9 (.int 2)) 10 (.int 0))) 8 = .int 0 from rfl) (show ((va_up (va_up (va_up (va_up f0 8 (.int 0)) 11 (.int 0)) 9 (.int 2)) 10 (.int 0))) 9 = .int 2 from rfl)) hPc hDc rfl rfl wn_9_185 wn_9_187 sn_M_open wn_1_13 wn_9_188 rfl rfl (by decide +kernel) ⟨Nat.le_of_ble_eq_true rfl, Nat.le_of_ble_eq_true rfl⟩ rfl hl.1 rfl (Nat.le_of_ble_eq_true rfl) dn_M_designGrammar_40 ⟨Nat.le_of_ble_eq_true rfl, Nat.le_of_ble_eq_true rfl⟩) hP hD hS hA [0, 1, 2] [] rfl rfl (by decide) (by decide) (fun _ H locs hw hP hD hS => ?_)
  have hP : va_P (dC, dI) xcl [(h0, .inl (cI, 65540, .inl g0)), (h1, .inl (cI, 65540, .inl g1)), (h2, .inr (0, xo_M (((va_up (va_up (va_up (va_up f0 8 (.int 0)) 11 (.int 0)) 9 (.int 2)) 10 (.int 0))))))] H := hP
  have hD : va_D A [(h0, .inl (cI, 65540, .inl g0)), (h1, .inl (cI, 65540, .inl g1)), (h2, .inr (0, xo_M (((va_up (va_up (va_up (va_up f0 8 (.int 0)) 11 (.int 0)) 9 (.int 2)) 10 (.int 0))))))] := hD
  refine lv_aload_n hx hb dn_M_designGrammar_43 rfl (lv_at hl 1 rfl) ?_
  refine lv_sipush (v := 302) hx hb dn_M_designGrammar_44 (by decide) ?_
  have hPc := hP.sub (ws' := [(h2, .inr (0, xo_M (((va_up (va_up (va_up (va_up f0 8 (.int 0)) 11 (.int 0)) 9 (.int 2)) 10 (.int 0))))))]) [2] rfl
  have hDc := hD.sub (ws' := [(h2, .inr (0, xo_M (((va_up (va_up (va_up (va_up f0 8 (.int 0)) 11 (.int 0)) 9 (.int 2)) 10 (.int 0))))))]) [2] (by decide) rfl
  refine xk_calli (wr := [(h0, .inl (cI, 65540, .inl g0)), (h1, .inl (cI, 65540, .inl g1))]) (xk_runV (ar := 1) (As := [.int 302]) (rest := []) (ci := 0) (q0 := 0) ⟨hx, hb, hml, hown, hg⟩ hK hN (ct_M_is_1 l dC dI cI cB cJ cZ cQ H.size h2 (((va_up (va_up (va_up (va_up f0 8 (.int 0)) 11 (.int 0)) 9 (.int 2)) 10 (.int 0)))) (show (((va_up (va_up (va_up (va_up f0 8 (.int 0)) 11 (.int 0)) 9 (.int 2)) 10 (.int 0)))) 9 = .int 2 from rfl)) hPc hDc rfl rfl wn_9_189 wn_9_191 sn_M_is wn_1_13 wn_9_192 rfl rfl (by decide +kernel) ⟨Nat.le_of_ble_eq_true rfl, Nat.le_of_ble_eq_true rfl⟩ rfl hl.1 rfl (Nat.le_of_ble_eq_true rfl) dn_M_designGrammar_47 ⟨Nat.le_of_ble_eq_true rfl, Nat.le_of_ble_eq_true rfl⟩) hP hD hS hA [2] [0, 1] rfl rfl (by decide) (by decide) (fun r_1 _ H locs hw hP hD hS => ?_)
  have hP : va_P (dC, dI) xcl [(h0, .inl (cI, 65540, .inl g0)), (h1, .inl (cI, 65540, .inl g1)), (h2, .inr (0, xo_M ((((va_up (va_up (va_up (va_up f0 8 (.int 0)) 11 (.int 0)) 9 (.int 2)) 10 (.int 0)))))))] H := hP
  have hD : va_D A [(h0, .inl (cI, 65540, .inl g0)), (h1, .inl (cI, 65540, .inl g1)), (h2, .inr (0, xo_M ((((va_up (va_up (va_up (va_up f0 8 (.int 0)) 11 (.int 0)) 9 (.int 2)) 10 (.int 0)))))))] := hD
  have hw : r_1 = 0 := hw
  subst hw
  refine lv_if_ne (tgt := 63) hx hb dn_M_designGrammar_50 (by decide) (fun h9 => absurd h9 (by decide)) (fun _ => ?_)
  refine lv_aload_n hx hb dn_M_designGrammar_53 rfl (lv_at hl 1 rfl) ?_
  refine lv_sipush (v := 303) hx hb dn_M_designGrammar_54 (by decide) ?_
  have hPc := hP.sub (ws' := [(h2, .inr (0, xo_M ((((va_up (va_up (va_up (va_up f0 8 (.int 0)) 11 (.int 0)) 9 (.int 2)) 10 (.int 0)))))))]) [2] rfl
  have hDc := hD.sub (ws' := [(h2, .inr (0, xo_M ((((va_up (va_up (va_up (va_up f0 8 (.int 0)) 11 (.int 0)) 9 (.int 2)) 10 (.int 0)))))))]) [2] (by decide) rfl
  refine xk_calli (wr := [(h0, .inl (cI, 65540, .inl g0)), (h1, .inl (cI, 65540, .inl g1))]) (xk_runV (ar := 1) (As := [.int 303]) (rest := []) (ci := 0) (q0 := 0) ⟨hx, hb, hml, hown, hg⟩ hK hN (ct_M_is_2 l dC dI cI cB cJ cZ cQ H.size h2 ((((va_up (va_up (va_up (va_up f0 8 (.int 0)) 11 (.int 0)) 9 (.int 2)) 10 (.int 0))))) (show ((((va_up (va_up (va_up (va_up f0 8 (.int 0)) 11 (.int 0)) 9 (.int 2)) 10 (.int 0))))) 9 = .int 2 from rfl)) hPc hDc rfl rfl wn_9_189 wn_9_191 sn_M_is wn_1_13 wn_9_192 rfl rfl (by decide +kernel) ⟨Nat.le_of_ble_eq_true rfl, Nat.le_of_ble_eq_true rfl⟩ rfl hl.1 rfl (Nat.le_of_ble_eq_true rfl) dn_M_designGrammar_57 ⟨Nat.le_of_ble_eq_true rfl, Nat.le_of_ble_eq_true rfl⟩) hP hD hS hA [2] [0, 1] rfl rfl (by decide) (by decide) (fun r_2 _ H locs hw hP hD hS => ?_)
  have hP : va_P (dC, dI) xcl [(h0, .inl (cI, 65540, .inl g0)), (h1, .inl (cI, 65540, .inl g1)), (h2, .inr (0, xo_M (((((va_up (va_up (va_up (va_up f0 8 (.int 0)) 11 (.int 0)) 9 (.int 2)) 10 (.int 0))))))))] H := hP
  have hD : va_D A [(h0, .inl (cI, 65540, .inl g0)), (h1, .inl (cI, 65540, .inl g1)), (h2, .inr (0, xo_M (((((va_up (va_up (va_up (va_up f0 8 (.int 0)) 11 (.int 0)) 9 (.int 2)) 10 (.int 0))))))))] := hD
  have hw : r_2 = 0 := hw
  subst hw
  refine lv_if_eq (tgt := 93) hx hb dn_M_designGrammar_60 (by decide) (fun _ => ?_) (fun h9 => absurd h9 (by decide))
  refine lv_aload_n hx hb dn_M_designGrammar_93 rfl (lv_at hl 1 rfl) ?_
  refine lv_bipush (v := 41) hx hb dn_M_designGrammar_94 (by decide) ?_
  have hPc := hP.sub (ws' := [(h0, .inl (cI, 65540, .inl g0)), (h1, .inl (cI, 65540, .inl g1)), (h2, .inr (0, xo_M (((((va_up (va_up (va_up (va_up f0 8 (.int 0)) 11 (.int 0)) 9 (.int 2)) 10 (.int 0))))))))]) [0, 1, 2] rfl
  have hDc := hD.sub (ws' := [(h0, .inl (cI, 65540, .inl g0)), (h1, .inl (cI, 65540, .inl g1)), (h2, .inr (0, xo_M (((((va_up (va_up (va_up (va_up f0 8 (.int 0)) 11 (.int 0)) 9 (.int 2)) 10 (.int 0))))))))]) [0, 1, 2] (by decide) rfl
  refine xk_callv (wr := []) (xk_runV (ar := 1) (As := [.int 41]) (rest := []) (ci := 0) (q0 := 2) ⟨hx, hb, hml, hown, hg⟩ hK hN (ct_M_shut_0 l dC dI cI cB cJ cZ cQ H.size h0 h1 h2 g0 g1 (((((va_up (va_up (va_up (va_up f0 8 (.int 0)) 11 (.int 0)) 9 (.int 2)) 10 (.int 0)))))) he0_0 he1_0 hf0_4 hf0_5 (show (((((va_up (va_up (va_up (va_up f0 8 (.int 0)) 11 (.int 0)) 9 (.int 2)) 10 (.int 0)))))) 8 = .int 0 from rfl) (show (((((va_up (va_up (va_up (va_up f0 8 (.int 0)) 11 (.int 0)) 9 (.int 2)) 10 (.int 0)))))) 9 = .int 2 from rfl) (show (((((va_up (va_up (va_up (va_up f0 8 (.int 0)) 11 (.int 0)) 9 (.int 2)) 10 (.int 0)))))) 11 = .int 0 from rfl)) hPc hDc rfl rfl wn_9_201 wn_9_203 sn_M_shut wn_1_13 wn_9_204 rfl rfl (by decide +kernel) ⟨Nat.le_of_ble_eq_true rfl, Nat.le_of_ble_eq_true rfl⟩ rfl hl.1 rfl (Nat.le_of_ble_eq_true rfl) dn_M_designGrammar_96 ⟨Nat.le_of_ble_eq_true rfl, Nat.le_of_ble_eq_true rfl⟩) hP hD hS hA [0, 1, 2] [] rfl rfl (by decide) (by decide) (fun _ H locs hw hP hD hS => ?_)
  have hP : va_P (dC, dI) xcl [(h0, .inl (cI, 65540, .inl g0)), (h1, .inl (cI, 65540, .inl g1)), (h2, .inr (0, xo_M (va_up (((((va_up (va_up (va_up (va_up f0 8 (.int 0)) 11 (.int 0)) 9 (.int 2)) 10 (.int 0)))))) 11 (.int (-1)))))] H := hP
  have hD : va_D A [(h0, .inl (cI, 65540, .inl g0)), (h1, .inl (cI, 65540, .inl g1)), (h2, .inr (0, xo_M (va_up (((((va_up (va_up (va_up (va_up f0 8 (.int 0)) 11 (.int 0)) 9 (.int 2)) 10 (.int 0)))))) 11 (.int (-1)))))] := hD
  refine lv_aload_n hx hb dn_M_designGrammar_99 rfl (lv_at hl 1 rfl) ?_
  refine lv_bipush (v := 59) hx hb dn_M_designGrammar_100 (by decide) ?_
  have hPc := hP.sub (ws' := [(h0, .inl (cI, 65540, .inl g0)), (h1, .inl (cI, 65540, .inl g1)), (h2, .inr (0, xo_M (va_up (((((va_up (va_up (va_up (va_up f0 8 (.int 0)) 11 (.int 0)) 9 (.int 2)) 10 (.int 0)))))) 11 (.int (-1)))))]) [0, 1, 2] rfl
  have hDc := hD.sub (ws' := [(h0, .inl (cI, 65540, .inl g0)), (h1, .inl (cI, 65540, .inl g1)), (h2, .inr (0, xo_M (va_up (((((va_up (va_up (va_up (va_up f0 8 (.int 0)) 11 (.int 0)) 9 (.int 2)) 10 (.int 0)))))) 11 (.int (-1)))))]) [0, 1, 2] (by decide) rfl
  refine xk_callv (wr := []) (xk_runV (ar := 1) (As := [.int 59]) (rest := []) (ci := 0) (q0 := 2) ⟨hx, hb, hml, hown, hg⟩ hK hN (ct_M_take_4 l dC dI cI cB cJ cZ cQ H.size h0 h1 h2 g0 g1 (va_up (((((va_up (va_up (va_up (va_up f0 8 (.int 0)) 11 (.int 0)) 9 (.int 2)) 10 (.int 0)))))) 11 (.int (-1))) he0_0 he1_0 hf0_4 hf0_5 (show (va_up (((((va_up (va_up (va_up (va_up f0 8 (.int 0)) 11 (.int 0)) 9 (.int 2)) 10 (.int 0)))))) 11 (.int (-1))) 8 = .int 0 from rfl) (show (va_up (((((va_up (va_up (va_up (va_up f0 8 (.int 0)) 11 (.int 0)) 9 (.int 2)) 10 (.int 0)))))) 11 (.int (-1))) 9 = .int 2 from rfl)) hPc hDc rfl rfl wn_9_173 wn_9_175 sn_M_take wn_1_13 wn_9_176 rfl rfl (by decide +kernel) ⟨Nat.le_of_ble_eq_true rfl, Nat.le_of_ble_eq_true rfl⟩ rfl hl.1 rfl (Nat.le_of_ble_eq_true rfl) dn_M_designGrammar_102 ⟨Nat.le_of_ble_eq_true rfl, Nat.le_of_ble_eq_true rfl⟩) hP hD hS hA [0, 1, 2] [] rfl rfl (by decide) (by decide) (fun _ H locs hw hP hD hS => ?_)
  have hP : va_P (dC, dI) xcl [(h0, .inl (cI, 65540, .inl g0)), (h1, .inl (cI, 65540, .inl g1)), (h2, .inr (0, xo_M ((va_up (((((va_up (va_up (va_up (va_up f0 8 (.int 0)) 11 (.int 0)) 9 (.int 2)) 10 (.int 0)))))) 11 (.int (-1))))))] H := hP
  have hD : va_D A [(h0, .inl (cI, 65540, .inl g0)), (h1, .inl (cI, 65540, .inl g1)), (h2, .inr (0, xo_M ((va_up (((((va_up (va_up (va_up (va_up f0 8 (.int 0)) 11 (.int 0)) 9 (.int 2)) 10 (.int 0)))))) 11 (.int (-1))))))] := hD
  refine lv_aload_n hx hb dn_M_designGrammar_105 rfl (lv_at hl 1 rfl) ?_
  refine va_get (D := (dC, dI)) (ci := 0) (v := .int 2) (C := rn_M) (T := fn_M) (N := 91) hx hb hg in_M hown hK hP 2 rfl rfl 9 (by decide) (hg _ wn_8_77) (fun _ h9 => h9) rfl dn_M_designGrammar_106 ?_
  refine lv_if_ne (tgt := 129) hx hb dn_M_designGrammar_109 (by decide) (fun _ => ?_) (fun h9 => absurd h9 (by decide))
  refine lv_aload_n hx hb dn_M_designGrammar_129 rfl (lv_at hl 1 rfl) ?_
  refine lv_sipush (v := 301) hx hb dn_M_designGrammar_130 (by decide) ?_
  have hPc := hP.sub (ws' := [(h0, .inl (cI, 65540, .inl g0)), (h1, .inl (cI, 65540, .inl g1)), (h2, .inr (0, xo_M ((va_up (((((va_up (va_up (va_up (va_up f0 8 (.int 0)) 11 (.int 0)) 9 (.int 2)) 10 (.int 0)))))) 11 (.int (-1))))))]) [0, 1, 2] rfl
  have hDc := hD.sub (ws' := [(h0, .inl (cI, 65540, .inl g0)), (h1, .inl (cI, 65540, .inl g1)), (h2, .inr (0, xo_M ((va_up (((((va_up (va_up (va_up (va_up f0 8 (.int 0)) 11 (.int 0)) 9 (.int 2)) 10 (.int 0)))))) 11 (.int (-1))))))]) [0, 1, 2] (by decide) rfl
  refine xk_callv (wr := []) (xk_runV (ar := 1) (As := [.int 301]) (rest := []) (ci := 0) (q0 := 2) ⟨hx, hb, hml, hown, hg⟩ hK hN (ct_M_take_5 l dC dI cI cB cJ cZ cQ H.size h0 h1 h2 g0 g1 ((va_up (((((va_up (va_up (va_up (va_up f0 8 (.int 0)) 11 (.int 0)) 9 (.int 2)) 10 (.int 0)))))) 11 (.int (-1)))) he0_0 he1_0 hf0_4 hf0_5 (show ((va_up (((((va_up (va_up (va_up (va_up f0 8 (.int 0)) 11 (.int 0)) 9 (.int 2)) 10 (.int 0)))))) 11 (.int (-1)))) 8 = .int 0 from rfl) (show ((va_up (((((va_up (va_up (va_up (va_up f0 8 (.int 0)) 11 (.int 0)) 9 (.int 2)) 10 (.int 0)))))) 11 (.int (-1)))) 9 = .int 2 from rfl)) hPc hDc rfl rfl wn_9_173 wn_9_175 sn_M_take wn_1_13 wn_9_176 rfl rfl (by decide +kernel) ⟨Nat.le_of_ble_eq_true rfl, Nat.le_of_ble_eq_true rfl⟩ rfl hl.1 rfl (Nat.le_of_ble_eq_true rfl) dn_M_designGrammar_133 ⟨Nat.le_of_ble_eq_true rfl, Nat.le_of_ble_eq_true rfl⟩) hP hD hS hA [0, 1, 2] [] rfl rfl (by decide) (by decide) (fun _ H locs hw hP hD hS => ?_)
  have hP : va_P (dC, dI) xcl [(h0, .inl (cI, 65540, .inl g0)), (h1, .inl (cI, 65540, .inl g1)), (h2, .inr (0, xo_M (((va_up (((((va_up (va_up (va_up (va_up f0 8 (.int 0)) 11 (.int 0)) 9 (.int 2)) 10 (.int 0)))))) 11 (.int (-1)))))))] H := hP
  have hD : va_D A [(h0, .inl (cI, 65540, .inl g0)), (h1, .inl (cI, 65540, .inl g1)), (h2, .inr (0, xo_M (((va_up (((((va_up (va_up (va_up (va_up f0 8 (.int 0)) 11 (.int 0)) 9 (.int 2)) 10 (.int 0)))))) 11 (.int (-1)))))))] := hD
  refine lv_aload_n hx hb dn_M_designGrammar_136 rfl (lv_at hl 1 rfl) ?_
  refine va_get (D := (dC, dI)) (ci := 0) (v := .int 2) (C := rn_M) (T := fn_M) (N := 91) hx hb hg in_M hown hK hP 2 rfl rfl 9 (by decide) (hg _ wn_8_77) (fun _ h9 => h9) rfl dn_M_designGrammar_137 ?_
  refine lv_if_ne (tgt := 157) hx hb dn_M_designGrammar_140 (by decide) (fun _ => ?_) (fun h9 => absurd h9 (by decide))
  refine lv_iconst (v := 0) hx hb dn_M_designGrammar_157 (by decide) ?_
  refine lv_istore_n (lv' := [(1, .int 0), (0, .ref h2)]) hx hb dn_M_designGrammar_158 rfl hl (by decide) rfl (fun ls hl => ?_)
  refine lv_goto (tgt := 12) hx hb dn_M_designGrammar_159 (by decide) ?_
  refine lv_iload_n hx hb dn_M_designGrammar_12 rfl (lv_at hl 0 rfl) ?_
  refine lv_if_eq (tgt := 162) hx hb dn_M_designGrammar_13 (by decide) (fun _ => ?_) (fun h9 => absurd h9 (by decide))
  have hP9 := hP.sub (ws' := [(h0, .inl (cI, 65540, .inl g0)), (h1, .inl (cI, 65540, .inl g1)), (h2, .inr (0, xo_M (((va_up (((((va_up (va_up (va_up (va_up f0 8 (.int 0)) 11 (.int 0)) 9 (.int 2)) 10 (.int 0)))))) 11 (.int (-1)))))))]) [0, 1, 2] rfl
  have hD9 := hD.sub (ws' := [(h0, .inl (cI, 65540, .inl g0)), (h1, .inl (cI, 65540, .inl g1)), (h2, .inr (0, xo_M (((va_up (((((va_up (va_up (va_up (va_up f0 8 (.int 0)) 11 (.int 0)) 9 (.int 2)) 10 (.int 0)))))) 11 (.int (-1)))))))]) [0, 1, 2] (by decide) rfl
  exact xk_vret (w1 := fun u : Unit => [(h0, .inl (cI, 65540, .inl g0)), (h1, .inl (cI, 65540, .inl g1)), (h2, .inr (0, xo_M (((va_up (((((va_up (va_up (va_up (va_up f0 8 (.int 0)) 11 (.int 0)) 9 (.int 2)) 10 (.int 0)))))) 11 (.int (-1)))))))]) () hx hb hr hlocks hK hS dn_M_designGrammar_162 hP9 hD9 trivial (Nat.le_refl _) (Nat.le_refl _)
set_option maxHeartbeats 4000000 in
set_option maxRecDepth 100000 in
theorem ct_M_readSource_0 (l : Launch) (dC : Nat → ClassId) (dI : Nat → Nat → Nat) (cI cB cJ cZ cQ : ClassId) (sz : Nat) (h0 : Nat) (h1 : Nat) (h2 : Nat) (h3 : Nat) (f0 : Nat → Value) (hf0_2 : f0 2 = .int 0) (hf0_4 : f0 4 = .ref h1) (hf0_5 : f0 5 = .ref h2) (hf0_6 : f0 6 = .ref h3) : Met l yn_M_readSource (xw yn_M_readSource bn_M_readSource 1 none) ({ frames := 5, cells := 0, slots := 0, locals := 105 }) (xk_P (dC, dI) xcl (xt cI cB cJ cZ cQ) [.ref h0] sz [(h0, .inr (0, xo_M f0)), (h1, .inl (cI, 65540, .inl (fun _ => 0))), (h2, .inl (cI, 65540, .inl (fun _ => 0))), (h3, .inl (cI, 65540, .inl (fun _ => 0)))]) (xk_Qv (dC, dI) xcl (xt cI cB cJ cZ cQ) (fun u : Unit => True) (fun u : Unit => [(h3, .inl (cI, 65540, .inl (upd (fun _ => 0) 0 0))), (h1, .inl (cI, 65540, .inl ((upd (fun _ => 0) 0 403)))), (h2, .inl (cI, 65540, .inl ((upd (fun _ => 0) 0 0)))), (h0, .inr (0, xo_M (((va_up (((((va_up (va_up (va_up (va_up (va_up ((va_up (va_up (va_up f0 9 (.int 0)) 10 (.int (-1))) 7 (.int 0))) 7 (.int 1)) 8 (.int 0)) 11 (.int 0)) 9 (.int 2)) 10 (.int 0)))))) 11 (.int (-1)))))))]) (va_A [(h0, .inr (0, xo_M f0)), (h1, .inl (cI, 65540, .inl (fun _ => 0))), (h2, .inl (cI, 65540, .inl (fun _ => 0))), (h3, .inl (cI, 65540, .inl (fun _ => 0)))] sz)) 0 0 (va_A [(h0, .inr (0, xo_M f0)), (h1, .inl (cI, 65540, .inl (fun _ => 0))), (h2, .inl (cI, 65540, .inl (fun _ => 0))), (h3, .inl (cI, 65540, .inl (fun _ => 0)))] sz) := by
  refine xk_of (QA := xk_Qv (dC, dI) xcl (xt cI cB cJ cZ cQ) (fun u : Unit => True) (fun u : Unit => [(h3, .inl (cI, 65540, .inl (upd (fun _ => 0) 0 0))), (h1, .inl (cI, 65540, .inl ((upd (fun _ => 0) 0 403)))), (h2, .inl (cI, 65540, .inl ((upd (fun _ => 0) 0 0)))), (h0, .inr (0, xo_M (((va_up (((((va_up (va_up (va_up (va_up (va_up ((va_up (va_up (va_up f0 9 (.int 0)) 10 (.int (-1))) 7 (.int 0))) 7 (.int 1)) 8 (.int 0)) 11 (.int 0)) 9 (.int 2)) 10 (.int 0)))))) 11 (.int (-1)))))))])) (by decide) (Nat.le_of_ble_eq_true rfl) ?_
  intro p e s m below meth c hx hb hml hown hg hr hlocks hin hP hK hN A hA hD hS ls hl
  have hown : s.vm.findClass rn_M = some m.cls := hown
  have hl : lv_has ls 1 [(0, .ref h0)] := hl
  obtain ⟨H, hH⟩ : ∃ z, z = s.heap := ⟨_, rfl⟩
  rw [← hH] at hP
  have hS : va_S A s.heap H [] := by rw [hH]; exact va_S.rf
  suffices kk : W p l e ({ frames := 5, cells := 0, slots := 0, locals := 105 }) s m [.ref h0].toArray below meth c H [] 0 0 (MQ below (xk_Qv (dC, dI) xcl (xt cI cB cJ cZ cQ) (fun u : Unit => True) (fun u : Unit => [(h3, .inl (cI, 65540, .inl (upd (fun _ => 0) 0 0))), (h1, .inl (cI, 65540, .inl ((upd (fun _ => 0) 0 403)))), (h2, .inl (cI, 65540, .inl ((upd (fun _ => 0) 0 0)))), (h0, .inr (0, xo_M (((va_up (((((va_up (va_up (va_up (va_up (va_up ((va_up (va_up (va_up f0 9 (.int 0)) 10 (.int (-1))) 7 (.int 0))) 7 (.int 1)) 8 (.int 0)) 11 (.int 0)) 9 (.int 2)) 10 (.int 0)))))) 11 (.int (-1)))))))]) A) [.ref h0].toArray s 0 0 A) (F0 m 0 ls []) by rw [hH] at kk; exact kk
  refine lv_aload_n hx hb dn_M_readSource_0 rfl (lv_at hl 0 rfl) ?_
  refine lv_iconst (v := 0) hx hb dn_M_readSource_1 (by decide) ?_
  refine va_put (D := (dC, dI)) (ci := 0) (v := .int 0) (ty := .int) (C := rn_M) (T := fn_M) (N := 91) hx hb hg in_M tn_M tk_M nn_M hown hK hP hD hS 0 rfl rfl 9 (by decide) (hg _ wn_8_77) (fun _ h9 => h9) rfl (tk_M 9 (by decide)) rfl rfl (Nat.le_of_ble_eq_true rfl) dn_M_readSource_2 (fun H locs hP hD hS => ?_)
  have hP : va_P (dC, dI) xcl [(h0, .inr (0, xo_M (va_up f0 9 (.int 0)))), (h1, .inl (cI, 65540, .inl (fun _ => 0))), (h2, .inl (cI, 65540, .inl (fun _ => 0))), (h3, .inl (cI, 65540, .inl (fun _ => 0)))] H := hP
  have hD : va_D A [(h0, .inr (0, xo_M (va_up f0 9 (.int 0)))), (h1, .inl (cI, 65540, .inl (fun _ => 0))), (h2, .inl (cI, 65540, .inl (fun _ => 0))), (h3, .inl (cI, 65540, .inl (fun _ => 0)))] := hD
  refine lv_aload_n hx hb dn_M_readSource_5 rfl (lv_at hl 0 rfl) ?_
  refine lv_iconst (v := (-1)) hx hb dn_M_readSource_6 (by decide) ?_
  refine va_put (D := (dC, dI)) (ci := 0) (v := .int (-1)) (ty := .int) (C := rn_M) (T := fn_M) (N := 91) hx hb hg in_M tn_M tk_M nn_M hown hK hP hD hS 0 rfl rfl 10 (by decide) (hg _ wn_8_78) (fun _ h9 => h9) rfl (tk_M 10 (by decide)) rfl rfl (Nat.le_of_ble_eq_true rfl) dn_M_readSource_7 (fun H locs hP hD hS => ?_)
  have hP : va_P (dC, dI) xcl [(h0, .inr (0, xo_M (va_up (va_up f0 9 (.int 0)) 10 (.int (-1))))), (h1, .inl (cI, 65540, .inl (fun _ => 0))), (h2, .inl (cI, 65540, .inl (fun _ => 0))), (h3, .inl (cI, 65540, .inl (fun _ => 0)))] H := hP
  have hD : va_D A [(h0, .inr (0, xo_M (va_up (va_up f0 9 (.int 0)) 10 (.int (-1))))), (h1, .inl (cI, 65540, .inl (fun _ => 0))), (h2, .inl (cI, 65540, .inl (fun _ => 0))), (h3, .inl (cI, 65540, .inl (fun _ => 0)))] := hD
  refine lv_aload_n hx hb dn_M_readSource_10 rfl (lv_at hl 0 rfl) ?_
  have hPc := hP.sub (ws' := [(h0, .inr (0, xo_M (va_up (va_up f0 9 (.int 0)) 10 (.int (-1))))), (h1, .inl (cI, 65540, .inl (fun _ => 0))), (h2, .inl (cI, 65540, .inl (fun _ => 0))), (h3, .inl (cI, 65540, .inl (fun _ => 0)))]) [0, 1, 2, 3] rfl
  have hDc := hD.sub (ws' := [(h0, .inr (0, xo_M (va_up (va_up f0 9 (.int 0)) 10 (.int (-1))))), (h1, .inl (cI, 65540, .inl (fun _ => 0))), (h2, .inl (cI, 65540, .inl (fun _ => 0))), (h3, .inl (cI, 65540, .inl (fun _ => 0)))]) [0, 1, 2, 3] (by decide) rfl
  refine xk_callv (wr := []) (xk_runV (ar := 0) (As := []) (rest := []) (ci := 0) (q0 := 0) ⟨hx, hb, hml, hown, hg⟩ hK hN (ct_M_cutTokens_0 l dC dI cI cB cJ cZ cQ H.size h0 h1 h2 h3 (va_up (va_up f0 9 (.int 0)) 10 (.int (-1))) hf0_2 hf0_4 hf0_5 hf0_6) hPc hDc rfl rfl wn_9_115 wn_9_117 sn_M_cutTokens wn_1_13 wn_9_118 rfl rfl (by decide +kernel) ⟨Nat.le_of_ble_eq_true rfl, Nat.le_of_ble_eq_true rfl⟩ rfl hl.1 rfl (Nat.le_of_ble_eq_true rfl) dn_M_readSource_11 ⟨Nat.le_of_ble_eq_true rfl, Nat.le_of_ble_eq_true rfl⟩) hP hD hS hA [0, 1, 2, 3] [] rfl rfl (by decide) (by decide) (fun _ H locs hw hP hD hS => ?_)
  have hP : va_P (dC, dI) xcl [(h1, .inl (cI, 65540, .inl (upd (fun _ => 0) 0 403))), (h2, .inl (cI, 65540, .inl (upd (fun _ => 0) 0 0))), (h3, .inl (cI, 65540, .inl (upd (fun _ => 0) 0 0))), (h0, .inr (0, xo_M (va_up ((va_up (va_up (va_up f0 9 (.int 0)) 10 (.int (-1))) 7 (.int 0))) 7 (.int 1))))] H := hP
  have hD : va_D A [(h1, .inl (cI, 65540, .inl (upd (fun _ => 0) 0 403))), (h2, .inl (cI, 65540, .inl (upd (fun _ => 0) 0 0))), (h3, .inl (cI, 65540, .inl (upd (fun _ => 0) 0 0))), (h0, .inr (0, xo_M (va_up ((va_up (va_up (va_up f0 9 (.int 0)) 10 (.int (-1))) 7 (.int 0))) 7 (.int 1))))] := hD
  refine lv_aload_n hx hb dn_M_readSource_14 rfl (lv_at hl 0 rfl) ?_
  have hPc := hP.sub (ws' := [(h1, .inl (cI, 65540, .inl (upd (fun _ => 0) 0 403))), (h2, .inl (cI, 65540, .inl (upd (fun _ => 0) 0 0))), (h0, .inr (0, xo_M (va_up ((va_up (va_up (va_up f0 9 (.int 0)) 10 (.int (-1))) 7 (.int 0))) 7 (.int 1))))]) [0, 1, 3] rfl
  have hDc := hD.sub (ws' := [(h1, .inl (cI, 65540, .inl (upd (fun _ => 0) 0 403))), (h2, .inl (cI, 65540, .inl (upd (fun _ => 0) 0 0))), (h0, .inr (0, xo_M (va_up ((va_up (va_up (va_up f0 9 (.int 0)) 10 (.int (-1))) 7 (.int 0))) 7 (.int 1))))]) [0, 1, 3] (by decide) rfl
  refine xk_callv (wr := [(h3, .inl (cI, 65540, .inl (upd (fun _ => 0) 0 0)))]) (xk_runV (ar := 0) (As := []) (rest := []) (ci := 0) (q0 := 2) ⟨hx, hb, hml, hown, hg⟩ hK hN (ct_M_designGrammar_0 l dC dI cI cB cJ cZ cQ H.size h1 h2 h0 (upd (fun _ => 0) 0 403) (upd (fun _ => 0) 0 0) (va_up ((va_up (va_up (va_up f0 9 (.int 0)) 10 (.int (-1))) 7 (.int 0))) 7 (.int 1)) (show (upd (fun _ => 0) 0 403) 0 = 403 from rfl) (show (upd (fun _ => 0) 0 0) 0 = 0 from rfl) hf0_4 hf0_5 (show (va_up ((va_up (va_up (va_up f0 9 (.int 0)) 10 (.int (-1))) 7 (.int 0))) 7 (.int 1)) 9 = .int 0 from rfl)) hPc hDc rfl rfl wn_9_169 wn_9_171 sn_M_designGrammar wn_1_13 wn_9_172 rfl rfl (by decide +kernel) ⟨Nat.le_of_ble_eq_true rfl, Nat.le_of_ble_eq_true rfl⟩ rfl hl.1 rfl (Nat.le_of_ble_eq_true rfl) dn_M_readSource_15 ⟨Nat.le_of_ble_eq_true rfl, Nat.le_of_ble_eq_true rfl⟩) hP hD hS hA [0, 1, 3] [2] rfl rfl (by decide) (by decide) (fun _ H locs hw hP hD hS => ?_)
  have hP : va_P (dC, dI) xcl [(h3, .inl (cI, 65540, .inl (upd (fun _ => 0) 0 0))), (h1, .inl (cI, 65540, .inl ((upd (fun _ => 0) 0 403)))), (h2, .inl (cI, 65540, .inl ((upd (fun _ => 0) 0 0)))), (h0, .inr (0, xo_M (((va_up (((((va_up (va_up (va_up (va_up (va_up ((va_up (va_up (va_up f0 9 (.int 0)) 10 (.int (-1))) 7 (.int 0))) 7 (.int 1)) 8 (.int 0)) 11 (.int 0)) 9 (.int 2)) 10 (.int 0)))))) 11 (.int (-1)))))))] H := hP
  have hD : va_D A [(h3, .inl (cI, 65540, .inl (upd (fun _ => 0) 0 0))), (h1, .inl (cI, 65540, .inl ((upd (fun _ => 0) 0 403)))), (h2, .inl (cI, 65540, .inl ((upd (fun _ => 0) 0 0)))), (h0, .inr (0, xo_M (((va_up (((((va_up (va_up (va_up (va_up (va_up ((va_up (va_up (va_up f0 9 (.int 0)) 10 (.int (-1))) 7 (.int 0))) 7 (.int 1)) 8 (.int 0)) 11 (.int 0)) 9 (.int 2)) 10 (.int 0)))))) 11 (.int (-1)))))))] := hD
  refine lv_aload_n hx hb dn_M_readSource_18 rfl (lv_at hl 0 rfl) ?_
  refine va_get (D := (dC, dI)) (ci := 0) (v := .int 2) (C := rn_M) (T := fn_M) (N := 91) hx hb hg in_M hown hK hP 3 rfl rfl 9 (by decide) (hg _ wn_8_77) (fun _ h9 => h9) rfl dn_M_readSource_19 ?_
  refine lv_if_ne (tgt := 29) hx hb dn_M_readSource_22 (by decide) (fun _ => ?_) (fun h9 => absurd h9 (by decide))
  refine lv_aload_n hx hb dn_M_readSource_29 rfl (lv_at hl 0 rfl) ?_
  refine va_get (D := (dC, dI)) (ci := 0) (v := .int 2) (C := rn_M) (T := fn_M) (N := 91) hx hb hg in_M hown hK hP 3 rfl rfl 9 (by decide) (hg _ wn_8_77) (fun _ h9 => h9) rfl dn_M_readSource_30 ?_
  refine lv_if_ne (tgt := 40) hx hb dn_M_readSource_33 (by decide) (fun _ => ?_) (fun h9 => absurd h9 (by decide))
  refine lv_aload_n hx hb dn_M_readSource_40 rfl (lv_at hl 0 rfl) ?_
  refine va_get (D := (dC, dI)) (ci := 0) (v := .int 2) (C := rn_M) (T := fn_M) (N := 91) hx hb hg in_M hown hK hP 3 rfl rfl 9 (by decide) (hg _ wn_8_77) (fun _ h9 => h9) rfl dn_M_readSource_41 ?_
  refine lv_if_ne (tgt := 55) hx hb dn_M_readSource_44 (by decide) (fun _ => ?_) (fun h9 => absurd h9 (by decide))
  have hP9 := hP.sub (ws' := [(h3, .inl (cI, 65540, .inl (upd (fun _ => 0) 0 0))), (h1, .inl (cI, 65540, .inl ((upd (fun _ => 0) 0 403)))), (h2, .inl (cI, 65540, .inl ((upd (fun _ => 0) 0 0)))), (h0, .inr (0, xo_M (((va_up (((((va_up (va_up (va_up (va_up (va_up ((va_up (va_up (va_up f0 9 (.int 0)) 10 (.int (-1))) 7 (.int 0))) 7 (.int 1)) 8 (.int 0)) 11 (.int 0)) 9 (.int 2)) 10 (.int 0)))))) 11 (.int (-1)))))))]) [0, 1, 2, 3] rfl
  have hD9 := hD.sub (ws' := [(h3, .inl (cI, 65540, .inl (upd (fun _ => 0) 0 0))), (h1, .inl (cI, 65540, .inl ((upd (fun _ => 0) 0 403)))), (h2, .inl (cI, 65540, .inl ((upd (fun _ => 0) 0 0)))), (h0, .inr (0, xo_M (((va_up (((((va_up (va_up (va_up (va_up (va_up ((va_up (va_up (va_up f0 9 (.int 0)) 10 (.int (-1))) 7 (.int 0))) 7 (.int 1)) 8 (.int 0)) 11 (.int 0)) 9 (.int 2)) 10 (.int 0)))))) 11 (.int (-1)))))))]) [0, 1, 2, 3] (by decide) rfl
  exact xk_vret (w1 := fun u : Unit => [(h3, .inl (cI, 65540, .inl (upd (fun _ => 0) 0 0))), (h1, .inl (cI, 65540, .inl ((upd (fun _ => 0) 0 403)))), (h2, .inl (cI, 65540, .inl ((upd (fun _ => 0) 0 0)))), (h0, .inr (0, xo_M (((va_up (((((va_up (va_up (va_up (va_up (va_up ((va_up (va_up (va_up f0 9 (.int 0)) 10 (.int (-1))) 7 (.int 0))) 7 (.int 1)) 8 (.int 0)) 11 (.int 0)) 9 (.int 2)) 10 (.int 0)))))) 11 (.int (-1)))))))]) () hx hb hr hlocks hK hS dn_M_readSource_55 hP9 hD9 trivial (Nat.le_refl _) (Nat.le_refl _)
set_option maxHeartbeats 4000000 in
set_option maxRecDepth 100000 in
theorem ct_M_read_I_0 (l : Launch) (dC : Nat → ClassId) (dI : Nat → Nat → Nat) (cI cB cJ cZ cQ : ClassId) (sz : Nat) (h0 : Nat) (h1 : Nat) (h2 : Nat) (h3 : Nat) (f0 : Nat → Value) (hf0_4 : f0 4 = .ref h1) (hf0_5 : f0 5 = .ref h2) (hf0_6 : f0 6 = .ref h3) (hf0_54 : f0 54 = .int 0) (hf0_88 : f0 88 = .int 0) : Met l yn_M_read_I (xw yn_M_read_I bn_M_read_I 3 (some .int)) ({ frames := 6, cells := 0, slots := 0, locals := 125 }) (xk_P (dC, dI) xcl (xt cI cB cJ cZ cQ) [.ref h0] sz [(h0, .inr (0, xo_M f0)), (h1, .inl (cI, 65540, .inl (fun _ => 0))), (h2, .inl (cI, 65540, .inl (fun _ => 0))), (h3, .inl (cI, 65540, .inl (fun _ => 0)))]) (xk_Qi (dC, dI) xcl (xt cI cB cJ cZ cQ) (fun (r : Int32) (u : Unit) => r = 0) (fun u : Unit => [(h3, .inl (cI, 65540, .inl (upd (fun _ => 0) 0 0))), (h1, .inl (cI, 65540, .inl ((upd (fun _ => 0) 0 403)))), (h2, .inl (cI, 65540, .inl ((upd (fun _ => 0) 0 0)))), (h0, .inr (0, xo_M (va_up (((va_up (((((va_up (va_up (va_up (va_up (va_up ((va_up (va_up (va_up (va_up (va_up (va_up f0 0 (.int 0)) 2 (.int 0)) 88 (.int 0)) 9 (.int 0)) 10 (.int (-1))) 7 (.int 0))) 7 (.int 1)) 8 (.int 0)) 11 (.int 0)) 9 (.int 2)) 10 (.int 0)))))) 11 (.int (-1))))) 3 (.int 2))))]) (va_A [(h0, .inr (0, xo_M f0)), (h1, .inl (cI, 65540, .inl (fun _ => 0))), (h2, .inl (cI, 65540, .inl (fun _ => 0))), (h3, .inl (cI, 65540, .inl (fun _ => 0)))] sz)) 0 0 (va_A [(h0, .inr (0, xo_M f0)), (h1, .inl (cI, 65540, .inl (fun _ => 0))), (h2, .inl (cI, 65540, .inl (fun _ => 0))), (h3, .inl (cI, 65540, .inl (fun _ => 0)))] sz) := by
  refine xk_of (QA := xk_Qi (dC, dI) xcl (xt cI cB cJ cZ cQ) (fun (r : Int32) (u : Unit) => r = 0) (fun u : Unit => [(h3, .inl (cI, 65540, .inl (upd (fun _ => 0) 0 0))), (h1, .inl (cI, 65540, .inl ((upd (fun _ => 0) 0 403)))), (h2, .inl (cI, 65540, .inl ((upd (fun _ => 0) 0 0)))), (h0, .inr (0, xo_M (va_up (((va_up (((((va_up (va_up (va_up (va_up (va_up ((va_up (va_up (va_up (va_up (va_up (va_up f0 0 (.int 0)) 2 (.int 0)) 88 (.int 0)) 9 (.int 0)) 10 (.int (-1))) 7 (.int 0))) 7 (.int 1)) 8 (.int 0)) 11 (.int 0)) 9 (.int 2)) 10 (.int 0)))))) 11 (.int (-1))))) 3 (.int 2))))])) (by decide) (Nat.le_of_ble_eq_true rfl) ?_
  intro p e s m below meth c hx hb hml hown hg hr hlocks hin hP hK hN A hA hD hS ls hl
  have hown : s.vm.findClass rn_M = some m.cls := hown
  have hl : lv_has ls 3 [(0, .ref h0)] := hl
  obtain ⟨H, hH⟩ : ∃ z, z = s.heap := ⟨_, rfl⟩
  rw [← hH] at hP
  have hS : va_S A s.heap H [] := by rw [hH]; exact va_S.rf
  suffices kk : W p l e ({ frames := 6, cells := 0, slots := 0, locals := 125 }) s m [.ref h0].toArray below meth c H [] 0 0 (MQ below (xk_Qi (dC, dI) xcl (xt cI cB cJ cZ cQ) (fun (r : Int32) (u : Unit) => r = 0) (fun u : Unit => [(h3, .inl (cI, 65540, .inl (upd (fun _ => 0) 0 0))), (h1, .inl (cI, 65540, .inl ((upd (fun _ => 0) 0 403)))), (h2, .inl (cI, 65540, .inl ((upd (fun _ => 0) 0 0)))), (h0, .inr (0, xo_M (va_up (((va_up (((((va_up (va_up (va_up (va_up (va_up ((va_up (va_up (va_up (va_up (va_up (va_up f0 0 (.int 0)) 2 (.int 0)) 88 (.int 0)) 9 (.int 0)) 10 (.int (-1))) 7 (.int 0))) 7 (.int 1)) 8 (.int 0)) 11 (.int 0)) 9 (.int 2)) 10 (.int 0)))))) 11 (.int (-1))))) 3 (.int 2))))]) A) [.ref h0].toArray s 0 0 A) (F0 m 0 ls []) by rw [hH] at kk; exact kk
  refine lv_aload_n hx hb dn_M_read_I_0 rfl (lv_at hl 0 rfl) ?_
  refine lv_iconst (v := 0) hx hb dn_M_read_I_1 (by decide) ?_
  refine va_put (D := (dC, dI)) (ci := 0) (v := .int 0) (ty := .int) (C := rn_M) (T := fn_M) (N := 91) hx hb hg in_M tn_M tk_M nn_M hown hK hP hD hS 0 rfl rfl 0 (by decide) (hg _ wn_8_68) (fun _ h9 => h9) rfl (tk_M 0 (by decide)) rfl rfl (Nat.le_of_ble_eq_true rfl) dn_M_read_I_2 (fun H locs hP hD hS => ?_)
  have hP : va_P (dC, dI) xcl [(h0, .inr (0, xo_M (va_up f0 0 (.int 0)))), (h1, .inl (cI, 65540, .inl (fun _ => 0))), (h2, .inl (cI, 65540, .inl (fun _ => 0))), (h3, .inl (cI, 65540, .inl (fun _ => 0)))] H := hP
  have hD : va_D A [(h0, .inr (0, xo_M (va_up f0 0 (.int 0)))), (h1, .inl (cI, 65540, .inl (fun _ => 0))), (h2, .inl (cI, 65540, .inl (fun _ => 0))), (h3, .inl (cI, 65540, .inl (fun _ => 0)))] := hD
  refine lv_iconst (v := 0) hx hb dn_M_read_I_5 (by decide) ?_
  refine lv_istore_n (lv' := [(1, .int 0), (0, .ref h0)]) hx hb dn_M_read_I_6 rfl hl (by decide) rfl (fun ls hl => ?_)
  refine lv_iload_n hx hb dn_M_read_I_7 rfl (lv_at hl 0 rfl) ?_
  refine lv_aload_n hx hb dn_M_read_I_8 rfl (lv_at hl 1 rfl) ?_
  refine va_get (D := (dC, dI)) (ci := 0) (v := .int 0) (C := rn_M) (T := fn_M) (N := 91) hx hb hg in_M hown hK hP 0 rfl rfl 88 (by decide) (hg _ wn_8_156) (fun _ h9 => h9) (congrArg some hf0_88) dn_M_read_I_9 ?_
  refine lv_icmp_ge (tgt := 33) hx hb dn_M_read_I_12 (by decide) (fun _ => ?_) (fun h9 => absurd h9 (by decide))
  refine lv_aload_n hx hb dn_M_read_I_33 rfl (lv_at hl 1 rfl) ?_
  refine lv_aload_n hx hb dn_M_read_I_34 rfl (lv_at hl 1 rfl) ?_
  refine va_get (D := (dC, dI)) (ci := 0) (v := .int 0) (C := rn_M) (T := fn_M) (N := 91) hx hb hg in_M hown hK hP 0 rfl rfl 88 (by decide) (hg _ wn_8_156) (fun _ h9 => h9) (congrArg some hf0_88) dn_M_read_I_35 ?_
  refine va_put (D := (dC, dI)) (ci := 0) (v := .int 0) (ty := .int) (C := rn_M) (T := fn_M) (N := 91) hx hb hg in_M tn_M tk_M nn_M hown hK hP hD hS 0 rfl rfl 2 (by decide) (hg _ wn_8_70) (fun _ h9 => h9) rfl (tk_M 2 (by decide)) rfl rfl (Nat.le_of_ble_eq_true rfl) dn_M_read_I_38 (fun H locs hP hD hS => ?_)
  have hP : va_P (dC, dI) xcl [(h0, .inr (0, xo_M (va_up (va_up f0 0 (.int 0)) 2 (.int 0)))), (h1, .inl (cI, 65540, .inl (fun _ => 0))), (h2, .inl (cI, 65540, .inl (fun _ => 0))), (h3, .inl (cI, 65540, .inl (fun _ => 0)))] H := hP
  have hD : va_D A [(h0, .inr (0, xo_M (va_up (va_up f0 0 (.int 0)) 2 (.int 0)))), (h1, .inl (cI, 65540, .inl (fun _ => 0))), (h2, .inl (cI, 65540, .inl (fun _ => 0))), (h3, .inl (cI, 65540, .inl (fun _ => 0)))] := hD
  refine lv_aload_n hx hb dn_M_read_I_41 rfl (lv_at hl 1 rfl) ?_
  refine lv_iconst (v := 0) hx hb dn_M_read_I_42 (by decide) ?_
  refine va_put (D := (dC, dI)) (ci := 0) (v := .int 0) (ty := .int) (C := rn_M) (T := fn_M) (N := 91) hx hb hg in_M tn_M tk_M nn_M hown hK hP hD hS 0 rfl rfl 88 (by decide) (hg _ wn_8_156) (fun _ h9 => h9) rfl (tk_M 88 (by decide)) rfl rfl (Nat.le_of_ble_eq_true rfl) dn_M_read_I_43 (fun H locs hP hD hS => ?_)
  have hP : va_P (dC, dI) xcl [(h0, .inr (0, xo_M (va_up (va_up (va_up f0 0 (.int 0)) 2 (.int 0)) 88 (.int 0)))), (h1, .inl (cI, 65540, .inl (fun _ => 0))), (h2, .inl (cI, 65540, .inl (fun _ => 0))), (h3, .inl (cI, 65540, .inl (fun _ => 0)))] H := hP
  have hD : va_D A [(h0, .inr (0, xo_M (va_up (va_up (va_up f0 0 (.int 0)) 2 (.int 0)) 88 (.int 0)))), (h1, .inl (cI, 65540, .inl (fun _ => 0))), (h2, .inl (cI, 65540, .inl (fun _ => 0))), (h3, .inl (cI, 65540, .inl (fun _ => 0)))] := hD
  refine lv_aload_n hx hb dn_M_read_I_46 rfl (lv_at hl 1 rfl) ?_
  have hPc := hP.sub (ws' := [(h0, .inr (0, xo_M (va_up (va_up (va_up f0 0 (.int 0)) 2 (.int 0)) 88 (.int 0)))), (h1, .inl (cI, 65540, .inl (fun _ => 0))), (h2, .inl (cI, 65540, .inl (fun _ => 0))), (h3, .inl (cI, 65540, .inl (fun _ => 0)))]) [0, 1, 2, 3] rfl
  have hDc := hD.sub (ws' := [(h0, .inr (0, xo_M (va_up (va_up (va_up f0 0 (.int 0)) 2 (.int 0)) 88 (.int 0)))), (h1, .inl (cI, 65540, .inl (fun _ => 0))), (h2, .inl (cI, 65540, .inl (fun _ => 0))), (h3, .inl (cI, 65540, .inl (fun _ => 0)))]) [0, 1, 2, 3] (by decide) rfl
  refine xk_callv (wr := []) (xk_runV (ar := 0) (As := []) (rest := []) (ci := 0) (q0 := 0) ⟨hx, hb, hml, hown, hg⟩ hK hN (ct_M_readSource_0 l dC dI cI cB cJ cZ cQ H.size h0 h1 h2 h3 (va_up (va_up (va_up f0 0 (.int 0)) 2 (.int 0)) 88 (.int 0)) (show (va_up (va_up (va_up f0 0 (.int 0)) 2 (.int 0)) 88 (.int 0)) 2 = .int 0 from rfl) hf0_4 hf0_5 hf0_6) hPc hDc rfl rfl wn_9_111 wn_9_113 sn_M_readSource wn_1_13 wn_9_114 rfl rfl (by decide +kernel) ⟨Nat.le_of_ble_eq_true rfl, Nat.le_of_ble_eq_true rfl⟩ rfl hl.1 rfl (Nat.le_of_ble_eq_true rfl) dn_M_read_I_47 ⟨Nat.le_of_ble_eq_true rfl, Nat.le_of_ble_eq_true rfl⟩) hP hD hS hA [0, 1, 2, 3] [] rfl rfl (by decide) (by decide) (fun _ H locs hw hP hD hS => ?_)
  have hP : va_P (dC, dI) xcl [(h3, .inl (cI, 65540, .inl (upd (fun _ => 0) 0 0))), (h1, .inl (cI, 65540, .inl ((upd (fun _ => 0) 0 403)))), (h2, .inl (cI, 65540, .inl ((upd (fun _ => 0) 0 0)))), (h0, .inr (0, xo_M (((va_up (((((va_up (va_up (va_up (va_up (va_up ((va_up (va_up (va_up (va_up (va_up (va_up f0 0 (.int 0)) 2 (.int 0)) 88 (.int 0)) 9 (.int 0)) 10 (.int (-1))) 7 (.int 0))) 7 (.int 1)) 8 (.int 0)) 11 (.int 0)) 9 (.int 2)) 10 (.int 0)))))) 11 (.int (-1)))))))] H := hP
  have hD : va_D A [(h3, .inl (cI, 65540, .inl (upd (fun _ => 0) 0 0))), (h1, .inl (cI, 65540, .inl ((upd (fun _ => 0) 0 403)))), (h2, .inl (cI, 65540, .inl ((upd (fun _ => 0) 0 0)))), (h0, .inr (0, xo_M (((va_up (((((va_up (va_up (va_up (va_up (va_up ((va_up (va_up (va_up (va_up (va_up (va_up f0 0 (.int 0)) 2 (.int 0)) 88 (.int 0)) 9 (.int 0)) 10 (.int (-1))) 7 (.int 0))) 7 (.int 1)) 8 (.int 0)) 11 (.int 0)) 9 (.int 2)) 10 (.int 0)))))) 11 (.int (-1)))))))] := hD
  refine lv_aload_n hx hb dn_M_read_I_50 rfl (lv_at hl 1 rfl) ?_
  refine lv_aload_n hx hb dn_M_read_I_51 rfl (lv_at hl 1 rfl) ?_
  refine va_get (D := (dC, dI)) (ci := 0) (v := .int 2) (C := rn_M) (T := fn_M) (N := 91) hx hb hg in_M hown hK hP 3 rfl rfl 9 (by decide) (hg _ wn_8_77) (fun _ h9 => h9) rfl dn_M_read_I_52 ?_
  refine va_put (D := (dC, dI)) (ci := 0) (v := .int 2) (ty := .int) (C := rn_M) (T := fn_M) (N := 91) hx hb hg in_M tn_M tk_M nn_M hown hK hP hD hS 3 rfl rfl 3 (by decide) (hg _ wn_8_71) (fun _ h9 => h9) rfl (tk_M 3 (by decide)) rfl rfl (Nat.le_of_ble_eq_true rfl) dn_M_read_I_55 (fun H locs hP hD hS => ?_)
  have hP : va_P (dC, dI) xcl [(h3, .inl (cI, 65540, .inl (upd (fun _ => 0) 0 0))), (h1, .inl (cI, 65540, .inl ((upd (fun _ => 0) 0 403)))), (h2, .inl (cI, 65540, .inl ((upd (fun _ => 0) 0 0)))), (h0, .inr (0, xo_M (va_up (((va_up (((((va_up (va_up (va_up (va_up (va_up ((va_up (va_up (va_up (va_up (va_up (va_up f0 0 (.int 0)) 2 (.int 0)) 88 (.int 0)) 9 (.int 0)) 10 (.int (-1))) 7 (.int 0))) 7 (.int 1)) 8 (.int 0)) 11 (.int 0)) 9 (.int 2)) 10 (.int 0)))))) 11 (.int (-1))))) 3 (.int 2))))] H := hP
  have hD : va_D A [(h3, .inl (cI, 65540, .inl (upd (fun _ => 0) 0 0))), (h1, .inl (cI, 65540, .inl ((upd (fun _ => 0) 0 403)))), (h2, .inl (cI, 65540, .inl ((upd (fun _ => 0) 0 0)))), (h0, .inr (0, xo_M (va_up (((va_up (((((va_up (va_up (va_up (va_up (va_up ((va_up (va_up (va_up (va_up (va_up (va_up f0 0 (.int 0)) 2 (.int 0)) 88 (.int 0)) 9 (.int 0)) 10 (.int (-1))) 7 (.int 0))) 7 (.int 1)) 8 (.int 0)) 11 (.int 0)) 9 (.int 2)) 10 (.int 0)))))) 11 (.int (-1))))) 3 (.int 2))))] := hD
  refine lv_aload_n hx hb dn_M_read_I_58 rfl (lv_at hl 1 rfl) ?_
  refine va_get (D := (dC, dI)) (ci := 0) (v := .int 0) (C := rn_M) (T := fn_M) (N := 91) hx hb hg in_M hown hK hP 3 rfl rfl 10 (by decide) (hg _ wn_8_78) (fun _ h9 => h9) rfl dn_M_read_I_59 ?_
  refine lv_istore_n (lv' := [(1, .int 0), (0, .ref h0)]) hx hb dn_M_read_I_62 rfl hl (by decide) rfl (fun ls hl => ?_)
  refine lv_aload_n hx hb dn_M_read_I_63 rfl (lv_at hl 1 rfl) ?_
  refine va_get (D := (dC, dI)) (ci := 0) (v := .int 2) (C := rn_M) (T := fn_M) (N := 91) hx hb hg in_M hown hK hP 3 rfl rfl 9 (by decide) (hg _ wn_8_77) (fun _ h9 => h9) rfl dn_M_read_I_64 ?_
  refine lv_if_eq (tgt := 119) hx hb dn_M_read_I_67 (by decide) (fun h9 => absurd h9 (by decide)) (fun _ => ?_)
  refine lv_aload_n hx hb dn_M_read_I_70 rfl (lv_at hl 1 rfl) ?_
  refine va_get (D := (dC, dI)) (ci := 0) (v := .int 0) (C := rn_M) (T := fn_M) (N := 91) hx hb hg in_M hown hK hP 3 rfl rfl 54 (by decide) (hg _ wn_8_122) (fun _ h9 => h9) (congrArg some hf0_54) dn_M_read_I_71 ?_
  refine lv_if_eq (tgt := 117) hx hb dn_M_read_I_74 (by decide) (fun _ => ?_) (fun h9 => absurd h9 (by decide))
  refine lv_iload_n hx hb dn_M_read_I_117 rfl (lv_at hl 0 rfl) ?_
  have hP9 := hP.sub (ws' := [(h3, .inl (cI, 65540, .inl (upd (fun _ => 0) 0 0))), (h1, .inl (cI, 65540, .inl ((upd (fun _ => 0) 0 403)))), (h2, .inl (cI, 65540, .inl ((upd (fun _ => 0) 0 0)))), (h0, .inr (0, xo_M (va_up (((va_up (((((va_up (va_up (va_up (va_up (va_up ((va_up (va_up (va_up (va_up (va_up (va_up f0 0 (.int 0)) 2 (.int 0)) 88 (.int 0)) 9 (.int 0)) 10 (.int (-1))) 7 (.int 0))) 7 (.int 1)) 8 (.int 0)) 11 (.int 0)) 9 (.int 2)) 10 (.int 0)))))) 11 (.int (-1))))) 3 (.int 2))))]) [0, 1, 2, 3] rfl
  have hD9 := hD.sub (ws' := [(h3, .inl (cI, 65540, .inl (upd (fun _ => 0) 0 0))), (h1, .inl (cI, 65540, .inl ((upd (fun _ => 0) 0 403)))), (h2, .inl (cI, 65540, .inl ((upd (fun _ => 0) 0 0)))), (h0, .inr (0, xo_M (va_up (((va_up (((((va_up (va_up (va_up (va_up (va_up ((va_up (va_up (va_up (va_up (va_up (va_up f0 0 (.int 0)) 2 (.int 0)) 88 (.int 0)) 9 (.int 0)) 10 (.int (-1))) 7 (.int 0))) 7 (.int 1)) 8 (.int 0)) 11 (.int 0)) 9 (.int 2)) 10 (.int 0)))))) 11 (.int (-1))))) 3 (.int 2))))]) [0, 1, 2, 3] (by decide) rfl
  exact xk_iret (w1 := fun u : Unit => [(h3, .inl (cI, 65540, .inl (upd (fun _ => 0) 0 0))), (h1, .inl (cI, 65540, .inl ((upd (fun _ => 0) 0 403)))), (h2, .inl (cI, 65540, .inl ((upd (fun _ => 0) 0 0)))), (h0, .inr (0, xo_M (va_up (((va_up (((((va_up (va_up (va_up (va_up (va_up ((va_up (va_up (va_up (va_up (va_up (va_up f0 0 (.int 0)) 2 (.int 0)) 88 (.int 0)) 9 (.int 0)) 10 (.int (-1))) 7 (.int 0))) 7 (.int 1)) 8 (.int 0)) 11 (.int 0)) 9 (.int 2)) 10 (.int 0)))))) 11 (.int (-1))))) 3 (.int 2))))]) () hx hb hr hlocks hK hS dn_M_read_I_118 hP9 hD9 rfl (Nat.le_refl _) (Nat.le_refl _)
