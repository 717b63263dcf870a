theorem xa_C_84 : ∀ w ∈ Bundle.ownAtoms0 rn_C 84 "java/lang/IllegalArgumentException" ["java/lang/RuntimeException", "java/lang/Exception"], w ∈ xw_G ∨ w = .isRef xs_u ∨ w = .isRef xs_n ∨ w = .laysStatic "java/lang/Throwable" "UNASSIGNED_STACK" "[Ljava/lang/StackTraceElement;" ∨ w = .laysStatic "java/lang/Throwable" "SUPPRESSED_SENTINEL" "Ljava/util/List;" ∨ w ∈ xs_L := by
  have key : ∀ w ∈ Bundle.ownAtoms0 "CircuitCycles" 84 "java/lang/IllegalArgumentException" ["java/lang/RuntimeException", "java/lang/Exception"], (w ∈ tables_1 ∧ goodWord w = true) ∨ w = .isRef xs_u ∨ w = .isRef xs_n ∨ w = .laysStatic "java/lang/Throwable" "UNASSIGNED_STACK" "[Ljava/lang/StackTraceElement;" ∨ w = .laysStatic "java/lang/Throwable" "SUPPRESSED_SENTINEL" "Ljava/util/List;" ∨ w ∈ xs_L := by decide +kernel
  intro w hw
  rcases key w hw with ⟨h1, h2⟩ | h
  · exact Or.inl (xw_tab h1 h2)
  · exact Or.inr h
theorem xa_C_142 : ∀ w ∈ Bundle.ownAtoms0 rn_C 142 "java/lang/IllegalStateException" ["java/lang/RuntimeException", "java/lang/Exception"], w ∈ xw_G ∨ w = .isRef xs_u ∨ w = .isRef xs_n ∨ w = .laysStatic "java/lang/Throwable" "UNASSIGNED_STACK" "[Ljava/lang/StackTraceElement;" ∨ w = .laysStatic "java/lang/Throwable" "SUPPRESSED_SENTINEL" "Ljava/util/List;" ∨ w ∈ xs_L := by
  have key : ∀ w ∈ Bundle.ownAtoms0 "CircuitCycles" 142 "java/lang/IllegalStateException" ["java/lang/RuntimeException", "java/lang/Exception"], (w ∈ tables_1 ∧ goodWord w = true) ∨ w = .isRef xs_u ∨ w = .isRef xs_n ∨ w = .laysStatic "java/lang/Throwable" "UNASSIGNED_STACK" "[Ljava/lang/StackTraceElement;" ∨ w = .laysStatic "java/lang/Throwable" "SUPPRESSED_SENTINEL" "Ljava/util/List;" ∨ w ∈ xs_L := by decide +kernel
  intro w hw
  rcases key w hw with ⟨h1, h2⟩ | h
  · exact Or.inl (xw_tab h1 h2)
  · exact Or.inr h
set_option maxHeartbeats 4000000 in
set_option maxRecDepth 100000 in
theorem ct_C_count_t0 (l : Launch) (hlt : l.stackTraces = false) (dC : Nat → ClassId) (dI : Nat → Nat → Nat) (cI cB cJ cZ cQ : ClassId) (sz : Nat) (h0 : Nat) (x0 : Int32) (f0 : Nat → Value) (hf0_8 : f0 8 = .int 0) : xc_Met l yn_C_count (xw yn_C_count bn_C_count 3 (some .int)) ({ frames := 6, cells := 1, slots := 6, locals := 100 }) (xk_PX (dC, dI) xcl (xt cI cB cJ cZ cQ) [.ref h0, .int x0] sz [(h0, .inr (1, xo_C f0))]) (xk_X "java/lang/IllegalStateException") 1 6 (fun _ => False) := by
  refine xk_ofX (by decide) (Nat.le_of_ble_eq_true rfl) ?_
  intro p e s m below meth c hx hb hml hown hg hr hlocks hex hst hP hK hD ls hl
  have hown : s.vm.findClass rn_C = some m.cls := hown
  have hl : lv_has ls 3 [(0, .ref h0), (1, .int x0)] := hl
  refine lv_aload_n hx hb dn_C_count_0 rfl (lv_at hl 0 rfl) ?_
  refine va_get (D := (dC, dI)) (ci := 1) (v := .int 0) (C := rn_C) (T := fn_C) (N := 11) hx hb hg in_C hown hK hP 0 rfl rfl 8 (by decide) (hg _ wn_3_133) (fun _ h9 => h9) (congrArg some hf0_8) dn_C_count_1 ?_
  refine lv_if_ne (tgt := 15) hx hb dn_C_count_4 (by decide) (fun h9 => absurd h9 (by decide)) (fun _ => ?_)
  exact xk_throw (names := ["java/lang/RuntimeException", "java/lang/Exception"]) hx hb hlt hown hg hst (by rw [hml]; exact hl.1) hlocks hex (by decide +kernel) (by decide +kernel) wn_7_123 wn_1_26 xa_C_142 (Nat.le_of_ble_eq_true rfl) (Nat.le_of_ble_eq_true rfl) (Nat.le_of_ble_eq_true rfl) (Nat.le_of_ble_eq_true rfl) dn_C_count_7 dn_C_count_10 dn_C_count_11 dn_C_count_14
set_option maxHeartbeats 4000000 in
set_option maxRecDepth 100000 in
theorem ct_C_find_t0 (l : Launch) (hlt : l.stackTraces = false) (dC : Nat → ClassId) (dI : Nat → Nat → Nat) (cI cB cJ cZ cQ : ClassId) (sz : Nat) (h0 : Nat) (f0 : Nat → Value) (hf0_8 : f0 8 = .int 0) : xc_Met l yn_C_find (xw yn_C_find bn_C_find 2 (some .int)) ({ frames := 6, cells := 1, slots := 6, locals := 100 }) (xk_PX (dC, dI) xcl (xt cI cB cJ cZ cQ) [.ref h0] sz [(h0, .inr (1, xo_C f0))]) (xk_X "java/lang/IllegalStateException") 1 6 (fun _ => False) := by
  refine xk_ofX (by decide) (Nat.le_of_ble_eq_true rfl) ?_
  intro p e s m below meth c hx hb hml hown hg hr hlocks hex hst hP hK hD ls hl
  have hown : s.vm.findClass rn_C = some m.cls := hown
  have hl : lv_has ls 2 [(0, .ref h0)] := hl
  refine lv_aload_n hx hb dn_C_find_0 rfl (lv_at hl 0 rfl) ?_
  refine va_get (D := (dC, dI)) (ci := 1) (v := .int 0) (C := rn_C) (T := fn_C) (N := 11) hx hb hg in_C hown hK hP 0 rfl rfl 8 (by decide) (hg _ wn_3_133) (fun _ h9 => h9) (congrArg some hf0_8) dn_C_find_1 ?_
  refine lv_if_ne (tgt := 15) hx hb dn_C_find_4 (by decide) (fun h9 => absurd h9 (by decide)) (fun _ => ?_)
  exact xk_throw (names := ["java/lang/RuntimeException", "java/lang/Exception"]) hx hb hlt hown hg hst (by rw [hml]; exact hl.1) hlocks hex (by decide +kernel) (by decide +kernel) wn_7_123 wn_1_26 xa_C_142 (Nat.le_of_ble_eq_true rfl) (Nat.le_of_ble_eq_true rfl) (Nat.le_of_ble_eq_true rfl) (Nat.le_of_ble_eq_true rfl) dn_C_find_7 dn_C_find_10 dn_C_find_11 dn_C_find_14
set_option maxHeartbeats 4000000 in
set_option maxRecDepth 100000 in
theorem ct_C_signal_t0 (l : Launch) (hlt : l.stackTraces = false) (dC : Nat → ClassId) (dI : Nat → Nat → Nat) (cI cB cJ cZ cQ : ClassId) (sz : Nat) (h0 : Nat) (x0 : Int32) (x1 : Int32) (f0 : Nat → Value) (hf0_8 : f0 8 = .int 0) : xc_Met l yn_C_signal (xw yn_C_signal bn_C_signal 3 (some .int)) ({ frames := 6, cells := 1, slots := 6, locals := 100 }) (xk_PX (dC, dI) xcl (xt cI cB cJ cZ cQ) [.ref h0, .int x0, .int x1] sz [(h0, .inr (1, xo_C f0))]) (xk_X "java/lang/IllegalStateException") 1 6 (fun _ => False) := by
  refine xk_ofX (by decide) (Nat.le_of_ble_eq_true rfl) ?_
  intro p e s m below meth c hx hb hml hown hg hr hlocks hex hst hP hK hD ls hl
  have hown : s.vm.findClass rn_C = some m.cls := hown
  have hl : lv_has ls 3 [(0, .ref h0), (1, .int x0), (2, .int x1)] := hl
  refine lv_aload_n hx hb dn_C_signal_0 rfl (lv_at hl 0 rfl) ?_
  refine va_get (D := (dC, dI)) (ci := 1) (v := .int 0) (C := rn_C) (T := fn_C) (N := 11) hx hb hg in_C hown hK hP 0 rfl rfl 8 (by decide) (hg _ wn_3_133) (fun _ h9 => h9) (congrArg some hf0_8) dn_C_signal_1 ?_
  refine lv_if_ne (tgt := 15) hx hb dn_C_signal_4 (by decide) (fun h9 => absurd h9 (by decide)) (fun _ => ?_)
  exact xk_throw (names := ["java/lang/RuntimeException", "java/lang/Exception"]) hx hb hlt hown hg hst (by rw [hml]; exact hl.1) hlocks hex (by decide +kernel) (by decide +kernel) wn_7_123 wn_1_26 xa_C_142 (Nat.le_of_ble_eq_true rfl) (Nat.le_of_ble_eq_true rfl) (Nat.le_of_ble_eq_true rfl) (Nat.le_of_ble_eq_true rfl) dn_C_signal_7 dn_C_signal_10 dn_C_signal_11 dn_C_signal_14
set_option maxHeartbeats 4000000 in
set_option maxRecDepth 100000 in
theorem ct_C_reset_t0 (l : Launch) (hlt : l.stackTraces = false) (dC : Nat → ClassId) (dI : Nat → Nat → Nat) (cI cB cJ cZ cQ : ClassId) (sz : Nat) (h0 : Nat) (f0 : Nat → Value) (hf0_8 : f0 8 = .int 0) : xc_Met l yn_C_reset (xw yn_C_reset bn_C_reset 1 none) ({ frames := 6, cells := 1, slots := 6, locals := 100 }) (xk_PX (dC, dI) xcl (xt cI cB cJ cZ cQ) [.ref h0] sz [(h0, .inr (1, xo_C f0))]) (xk_X "java/lang/IllegalStateException") 1 6 (fun _ => False) := by
  refine xk_ofX (by decide) (Nat.le_of_ble_eq_true rfl) ?_
  intro p e s m below meth c hx hb hml hown hg hr hlocks hex hst hP hK hD ls hl
  have hown : s.vm.findClass rn_C = some m.cls := hown
  have hl : lv_has ls 1 [(0, .ref h0)] := hl
  refine lv_aload_n hx hb dn_C_reset_0 rfl (lv_at hl 0 rfl) ?_
  refine va_get (D := (dC, dI)) (ci := 1) (v := .int 0) (C := rn_C) (T := fn_C) (N := 11) hx hb hg in_C hown hK hP 0 rfl rfl 8 (by decide) (hg _ wn_3_133) (fun _ h9 => h9) (congrArg some hf0_8) dn_C_reset_1 ?_
  refine lv_if_ne (tgt := 15) hx hb dn_C_reset_4 (by decide) (fun h9 => absurd h9 (by decide)) (fun _ => ?_)
  exact xk_throw (names := ["java/lang/RuntimeException", "java/lang/Exception"]) hx hb hlt hown hg hst (by rw [hml]; exact hl.1) hlocks hex (by decide +kernel) (by decide +kernel) wn_7_123 wn_1_26 xa_C_142 (Nat.le_of_ble_eq_true rfl) (Nat.le_of_ble_eq_true rfl) (Nat.le_of_ble_eq_true rfl) (Nat.le_of_ble_eq_true rfl) dn_C_reset_7 dn_C_reset_10 dn_C_reset_11 dn_C_reset_14
set_option maxHeartbeats 4000000 in
set_option maxRecDepth 100000 in
theorem ct_C_set_t0 (l : Launch) (hlt : l.stackTraces = false) (dC : Nat → ClassId) (dI : Nat → Nat → Nat) (cI cB cJ cZ cQ : ClassId) (sz : Nat) (h0 : Nat) (x0 : Int32) (x1 : Int32) (f0 : Nat → Value) (hf0_8 : f0 8 = .int 0) : xc_Met l yn_C_set (xw yn_C_set bn_C_set 3 none) ({ frames := 6, cells := 1, slots := 6, locals := 100 }) (xk_PX (dC, dI) xcl (xt cI cB cJ cZ cQ) [.ref h0, .int x0, .int x1] sz [(h0, .inr (1, xo_C f0))]) (xk_X "java/lang/IllegalStateException") 1 6 (fun _ => False) := by
  refine xk_ofX (by decide) (Nat.le_of_ble_eq_true rfl) ?_
  intro p e s m below meth c hx hb hml hown hg hr hlocks hex hst hP hK hD ls hl
  have hown : s.vm.findClass rn_C = some m.cls := hown
  have hl : lv_has ls 3 [(0, .ref h0), (1, .int x0), (2, .int x1)] := hl
  refine lv_aload_n hx hb dn_C_set_0 rfl (lv_at hl 0 rfl) ?_
  refine va_get (D := (dC, dI)) (ci := 1) (v := .int 0) (C := rn_C) (T := fn_C) (N := 11) hx hb hg in_C hown hK hP 0 rfl rfl 8 (by decide) (hg _ wn_3_133) (fun _ h9 => h9) (congrArg some hf0_8) dn_C_set_1 ?_
  refine lv_if_ne (tgt := 15) hx hb dn_C_set_4 (by decide) (fun h9 => absurd h9 (by decide)) (fun _ => ?_)
  exact xk_throw (names := ["java/lang/RuntimeException", "java/lang/Exception"]) hx hb hlt hown hg hst (by rw [hml]; exact hl.1) hlocks hex (by decide +kernel) (by decide +kernel) wn_7_123 wn_1_26 xa_C_142 (Nat.le_of_ble_eq_true rfl) (Nat.le_of_ble_eq_true rfl) (Nat.le_of_ble_eq_true rfl) (Nat.le_of_ble_eq_true rfl) dn_C_set_7 dn_C_set_10 dn_C_set_11 dn_C_set_14
set_option maxHeartbeats 4000000 in
set_option maxRecDepth 100000 in
theorem ct_C_step_t0 (l : Launch) (hlt : l.stackTraces = false) (dC : Nat → ClassId) (dI : Nat → Nat → Nat) (cI cB cJ cZ cQ : ClassId) (sz : Nat) (h0 : Nat) (f0 : Nat → Value) (hf0_8 : f0 8 = .int 0) : xc_Met l yn_C_step (xw yn_C_step bn_C_step 1 (some .int)) ({ frames := 6, cells := 1, slots := 6, locals := 100 }) (xk_PX (dC, dI) xcl (xt cI cB cJ cZ cQ) [.ref h0] sz [(h0, .inr (1, xo_C f0))]) (xk_X "java/lang/IllegalStateException") 1 6 (fun _ => False) := by
  refine xk_ofX (by decide) (Nat.le_of_ble_eq_true rfl) ?_
  intro p e s m below meth c hx hb hml hown hg hr hlocks hex hst hP hK hD ls hl
  have hown : s.vm.findClass rn_C = some m.cls := hown
  have hl : lv_has ls 1 [(0, .ref h0)] := hl
  refine lv_aload_n hx hb dn_C_step_0 rfl (lv_at hl 0 rfl) ?_
  refine va_get (D := (dC, dI)) (ci := 1) (v := .int 0) (C := rn_C) (T := fn_C) (N := 11) hx hb hg in_C hown hK hP 0 rfl rfl 8 (by decide) (hg _ wn_3_133) (fun _ h9 => h9) (congrArg some hf0_8) dn_C_step_1 ?_
  refine lv_if_ne (tgt := 15) hx hb dn_C_step_4 (by decide) (fun h9 => absurd h9 (by decide)) (fun _ => ?_)
  exact xk_throw (names := ["java/lang/RuntimeException", "java/lang/Exception"]) hx hb hlt hown hg hst (by rw [hml]; exact hl.1) hlocks hex (by decide +kernel) (by decide +kernel) wn_7_123 wn_1_26 xa_C_142 (Nat.le_of_ble_eq_true rfl) (Nat.le_of_ble_eq_true rfl) (Nat.le_of_ble_eq_true rfl) (Nat.le_of_ble_eq_true rfl) dn_C_step_7 dn_C_step_10 dn_C_step_11 dn_C_step_14
set_option maxHeartbeats 4000000 in
set_option maxRecDepth 100000 in
theorem ct_C_value_t0 (l : Launch) (hlt : l.stackTraces = false) (dC : Nat → ClassId) (dI : Nat → Nat → Nat) (cI cB cJ cZ cQ : ClassId) (sz : Nat) (h0 : Nat) (x0 : Int32) (f0 : Nat → Value) (hf0_8 : f0 8 = .int 0) : xc_Met l yn_C_value (xw yn_C_value bn_C_value 2 (some .long)) ({ frames := 6, cells := 1, slots := 6, locals := 100 }) (xk_PX (dC, dI) xcl (xt cI cB cJ cZ cQ) [.ref h0, .int x0] sz [(h0, .inr (1, xo_C f0))]) (xk_X "java/lang/IllegalStateException") 1 6 (fun _ => False) := by
  refine xk_ofX (by decide) (Nat.le_of_ble_eq_true rfl) ?_
  intro p e s m below meth c hx hb hml hown hg hr hlocks hex hst hP hK hD ls hl
  have hown : s.vm.findClass rn_C = some m.cls := hown
  have hl : lv_has ls 2 [(0, .ref h0), (1, .int x0)] := hl
  refine lv_aload_n hx hb dn_C_value_0 rfl (lv_at hl 0 rfl) ?_
  refine va_get (D := (dC, dI)) (ci := 1) (v := .int 0) (C := rn_C) (T := fn_C) (N := 11) hx hb hg in_C hown hK hP 0 rfl rfl 8 (by decide) (hg _ wn_3_133) (fun _ h9 => h9) (congrArg some hf0_8) dn_C_value_1 ?_
  refine lv_if_ne (tgt := 15) hx hb dn_C_value_4 (by decide) (fun h9 => absurd h9 (by decide)) (fun _ => ?_)
  exact xk_throw (names := ["java/lang/RuntimeException", "java/lang/Exception"]) hx hb hlt hown hg hst (by rw [hml]; exact hl.1) hlocks hex (by decide +kernel) (by decide +kernel) wn_7_123 wn_1_26 xa_C_142 (Nat.le_of_ble_eq_true rfl) (Nat.le_of_ble_eq_true rfl) (Nat.le_of_ble_eq_true rfl) (Nat.le_of_ble_eq_true rfl) dn_C_value_7 dn_C_value_10 dn_C_value_11 dn_C_value_14
set_option maxHeartbeats 4000000 in
set_option maxRecDepth 100000 in
theorem ct_C_failing_t0 (l : Launch) (hlt : l.stackTraces = false) (dC : Nat → ClassId) (dI : Nat → Nat → Nat) (cI cB cJ cZ cQ : ClassId) (sz : Nat) (h0 : Nat) (f0 : Nat → Value) (hf0_8 : f0 8 = .int 0) : xc_Met l yn_C_failing (xw yn_C_failing bn_C_failing 1 (some .int)) ({ frames := 6, cells := 1, slots := 6, locals := 100 }) (xk_PX (dC, dI) xcl (xt cI cB cJ cZ cQ) [.ref h0] sz [(h0, .inr (1, xo_C f0))]) (xk_X "java/lang/IllegalStateException") 1 6 (fun _ => False) := by
  refine xk_ofX (by decide) (Nat.le_of_ble_eq_true rfl) ?_
  intro p e s m below meth c hx hb hml hown hg hr hlocks hex hst hP hK hD ls hl
  have hown : s.vm.findClass rn_C = some m.cls := hown
  have hl : lv_has ls 1 [(0, .ref h0)] := hl
  refine lv_aload_n hx hb dn_C_failing_0 rfl (lv_at hl 0 rfl) ?_
  refine va_get (D := (dC, dI)) (ci := 1) (v := .int 0) (C := rn_C) (T := fn_C) (N := 11) hx hb hg in_C hown hK hP 0 rfl rfl 8 (by decide) (hg _ wn_3_133) (fun _ h9 => h9) (congrArg some hf0_8) dn_C_failing_1 ?_
  refine lv_if_ne (tgt := 15) hx hb dn_C_failing_4 (by decide) (fun h9 => absurd h9 (by decide)) (fun _ => ?_)
  exact xk_throw (names := ["java/lang/RuntimeException", "java/lang/Exception"]) hx hb hlt hown hg hst (by rw [hml]; exact hl.1) hlocks hex (by decide +kernel) (by decide +kernel) wn_7_123 wn_1_26 xa_C_142 (Nat.le_of_ble_eq_true rfl) (Nat.le_of_ble_eq_true rfl) (Nat.le_of_ble_eq_true rfl) (Nat.le_of_ble_eq_true rfl) dn_C_failing_7 dn_C_failing_10 dn_C_failing_11 dn_C_failing_14
set_option maxHeartbeats 4000000 in
set_option maxRecDepth 100000 in
theorem ct_C_end_t0 (l : Launch) (hlt : l.stackTraces = false) (dC : Nat → ClassId) (dI : Nat → Nat → Nat) (cI cB cJ cZ cQ : ClassId) (sz : Nat) (h0 : Nat) (x0 : Int32) (f0 : Nat → Value) (hn : x0 < 0) : xc_Met l yn_C_end (xw yn_C_end bn_C_end 2 none) ({ frames := 6, cells := 1, slots := 6, locals := 100 }) (xk_PX (dC, dI) xcl (xt cI cB cJ cZ cQ) [.ref h0, .int x0] sz [(h0, .inr (1, xo_C f0))]) (xk_X "java/lang/IllegalArgumentException") 1 6 (fun _ => False) := by
  refine xk_ofX (by decide) (Nat.le_of_ble_eq_true rfl) ?_
  intro p e s m below meth c hx hb hml hown hg hr hlocks hex hst hP hK hD ls hl
  have hown : s.vm.findClass rn_C = some m.cls := hown
  have hl : lv_has ls 2 [(0, .ref h0), (1, .int x0)] := hl
  refine lv_iload_n hx hb dn_C_end_0 rfl (lv_at hl 1 rfl) ?_
  refine lv_if_lt (tgt := 12) hx hb dn_C_end_1 (by decide) (fun _ => ?_) (fun h9 => absurd hn h9)
  exact xk_throw (names := ["java/lang/RuntimeException", "java/lang/Exception"]) hx hb hlt hown hg hst (by rw [hml]; exact hl.1) hlocks hex (by decide +kernel) (by decide +kernel) wn_7_100 wn_1_18 xa_C_84 (Nat.le_of_ble_eq_true rfl) (Nat.le_of_ble_eq_true rfl) (Nat.le_of_ble_eq_true rfl) (Nat.le_of_ble_eq_true rfl) dn_C_end_12 dn_C_end_15 dn_C_end_16 dn_C_end_19
set_option maxHeartbeats 4000000 in
set_option maxRecDepth 100000 in
theorem ct_C_end_t1 (l : Launch) (hlt : l.stackTraces = false) (dC : Nat → ClassId) (dI : Nat → Nat → Nat) (cI cB cJ cZ cQ : ClassId) (sz : Nat) (h0 : Nat) (x0 : Int32) (f0 : Nat → Value) (hf0_0 : f0 0 = .int 0) (hn : ¬ x0 < 0) (hn2 : ¬ x0 ≤ 0) : xc_Met l yn_C_end (xw yn_C_end bn_C_end 2 none) ({ frames := 6, cells := 1, slots := 6, locals := 100 }) (xk_PX (dC, dI) xcl (xt cI cB cJ cZ cQ) [.ref h0, .int x0] sz [(h0, .inr (1, xo_C f0))]) (xk_X "java/lang/IllegalArgumentException") 1 6 (fun _ => False) := by
  refine xk_ofX (by decide) (Nat.le_of_ble_eq_true rfl) ?_
  intro p e s m below meth c hx hb hml hown hg hr hlocks hex hst hP hK hD ls hl
  have hown : s.vm.findClass rn_C = some m.cls := hown
  have hl : lv_has ls 2 [(0, .ref h0), (1, .int x0)] := hl
  refine lv_iload_n hx hb dn_C_end_0 rfl (lv_at hl 1 rfl) ?_
  refine lv_if_lt (tgt := 12) hx hb dn_C_end_1 (by decide) (fun h9 => absurd h9 hn) (fun _ => ?_)
  refine lv_iload_n hx hb dn_C_end_4 rfl (lv_at hl 1 rfl) ?_
  refine lv_aload_n hx hb dn_C_end_5 rfl (lv_at hl 0 rfl) ?_
  refine va_get (D := (dC, dI)) (ci := 1) (v := .int 0) (C := rn_C) (T := fn_C) (N := 11) hx hb hg in_C hown hK hP 0 rfl rfl 0 (by decide) (hg _ wn_3_125) (fun _ h9 => h9) (congrArg some hf0_0) dn_C_end_6 ?_
  refine lv_icmp_le (tgt := 20) hx hb dn_C_end_9 (by decide) (fun h9 => absurd h9 hn2) (fun _ => ?_)
  exact xk_throw (names := ["java/lang/RuntimeException", "java/lang/Exception"]) hx hb hlt hown hg hst (by rw [hml]; exact hl.1) hlocks hex (by decide +kernel) (by decide +kernel) wn_7_100 wn_1_18 xa_C_84 (Nat.le_of_ble_eq_true rfl) (Nat.le_of_ble_eq_true rfl) (Nat.le_of_ble_eq_true rfl) (Nat.le_of_ble_eq_true rfl) dn_C_end_12 dn_C_end_15 dn_C_end_16 dn_C_end_19
set_option maxHeartbeats 4000000 in
set_option maxRecDepth 100000 in
theorem ct_L_count_t (l : Launch) (hlt : l.stackTraces = false) (dC : Nat → ClassId) (dI : Nat → Nat → Nat) (cI cB cJ cZ cQ : ClassId) (sz : Nat) (hx0 : Nat) (fx : Nat → Value) (x0 : Int32) (ho : Nat) (hc8 : fx 8 = .int 0) : Met l yn_L_count (Cond.codeWith yn_L_count bn_L_count 4 (some .int) [(0, 9, 12, 25), (0, 9, 15, 19)] :: xw_G) ({ frames := 7, cells := 1, slots := 6, locals := 122 }) (xk_PX (dC, dI) xcl (xt cI cB cJ cZ cQ) [.ref hx0, .int x0, .ref ho] sz [(hx0, .inr (1, xo_C fx))]) (xk_Qi (dC, dI) xcl (xt cI cB cJ cZ cQ) (fun (r : Int32) (u : Unit) => r = 1) (fun u : Unit => [(hx0, .inr (1, xo_C fx))]) (va_A [(hx0, .inr (1, xo_C fx))] sz)) 1 6 (va_A [(hx0, .inr (1, xo_C fx))] sz) := by
  refine xk_ofH (QA := xk_Qi (dC, dI) xcl (xt cI cB cJ cZ cQ) (fun (r : Int32) (u : Unit) => r = 1) (fun u : Unit => [(hx0, .inr (1, xo_C fx))])) (by decide) (Nat.le_of_ble_eq_true rfl) ?_
  intro p e s m below meth c hx hb hml hown hg hr hlocks htab hst hP hK hN A hA hD hS ls hl
  have hown : s.vm.findClass rn_L = some m.cls := hown
  have hl : lv_has ls 4 [(0, .ref hx0), (1, .int x0), (2, .ref ho)] := hl
  obtain ⟨H, hH⟩ : ∃ z, z = s.heap := ⟨_, rfl⟩
  rw [← hH] at hP
  have hS : va_S A s.heap H [] := by rw [hH]; exact va_S.rf
  suffices kk : W p l e ({ frames := 7, cells := 1, slots := 6, locals := 122 }) s m [.ref hx0, .int x0, .ref ho].toArray below meth c H [] 0 0 (MQ below (xk_Qi (dC, dI) xcl (xt cI cB cJ cZ cQ) (fun (r : Int32) (u : Unit) => r = 1) (fun u : Unit => [(hx0, .inr (1, xo_C fx))]) A) [.ref hx0, .int x0, .ref ho].toArray s 1 6 A) (F0 m 0 ls []) by rw [hH] at kk; exact kk
  refine lv_aload_n hx hb dn_L_count_0 rfl (lv_at hl 2 rfl) ?_
  refine lv_iconst (v := 0) hx hb dn_L_count_1 (by decide) ?_
  refine lv_aload_n hx hb dn_L_count_2 rfl (lv_at hl 0 rfl) ?_
  refine lv_iload_n hx hb dn_L_count_3 rfl (lv_at hl 1 rfl) ?_
  have hPc := hP.sub (ws' := [(hx0, .inr (1, xo_C fx))]) [0] rfl
  have hDc := hD.sub (ws' := [(hx0, .inr (1, xo_C fx))]) [0] (by decide) rfl
  refine xk_callX (ar := 1) (As := [.int x0]) (rest := [.int 0, .ref ho]) (ci := 1) (q0 := 0) ⟨hx, hb, hml, hown, hg⟩ hK hN (ct_C_count_t0 l hlt dC dI cI cB cJ cZ cQ H.size hx0 x0 fx hc8) hP hS hPc hDc rfl rfl hst hH wn_7_119 wn_7_120 wn_7_121 wn_1_1 wn_7_122 rfl rfl (by decide +kernel) ⟨Nat.le_of_ble_eq_true rfl, Nat.le_of_ble_eq_true rfl⟩ rfl hl.1 rfl (Nat.le_of_ble_eq_true rfl) dn_L_count_4 ⟨Nat.le_of_ble_eq_true rfl, Nat.le_of_ble_eq_true rfl⟩ htab (by decide) (by decide) wn_7_118 (by decide +kernel) (fun qx H hP hS => ?_)
  refine lv_astore_n (lv' := [(3, .ref qx), (0, .ref hx0), (1, .int x0), (2, .ref ho)]) hx hb dn_L_count_12 rfl hl (by decide) rfl (fun ls hl => ?_)
  refine lv_iconst (v := 1) hx hb dn_L_count_13 (by decide) ?_
  exact xk_iret (w1 := fun u : Unit => [(hx0, .inr (1, xo_C fx))]) () hx hb hr hlocks hK hS dn_L_count_14 hP hD rfl (Nat.le_refl _) (Nat.le_refl _)
set_option maxHeartbeats 4000000 in
set_option maxRecDepth 100000 in
theorem ct_L_find_t (l : Launch) (hlt : l.stackTraces = false) (dC : Nat → ClassId) (dI : Nat → Nat → Nat) (cI cB cJ cZ cQ : ClassId) (sz : Nat) (hx0 : Nat) (fx : Nat → Value) (ho : Nat) (hc8 : fx 8 = .int 0) : Met l yn_L_find (Cond.codeWith yn_L_find bn_L_find 3 (some .int) [(0, 8, 11, 25)] :: xw_G) ({ frames := 7, cells := 1, slots := 6, locals := 121 }) (xk_PX (dC, dI) xcl (xt cI cB cJ cZ cQ) [.ref hx0, .ref ho] sz [(hx0, .inr (1, xo_C fx))]) (xk_Qi (dC, dI) xcl (xt cI cB cJ cZ cQ) (fun (r : Int32) (u : Unit) => r = 1) (fun u : Unit => [(hx0, .inr (1, xo_C fx))]) (va_A [(hx0, .inr (1, xo_C fx))] sz)) 1 6 (va_A [(hx0, .inr (1, xo_C fx))] sz) := by
  refine xk_ofH (QA := xk_Qi (dC, dI) xcl (xt cI cB cJ cZ cQ) (fun (r : Int32) (u : Unit) => r = 1) (fun u : Unit => [(hx0, .inr (1, xo_C fx))])) (by decide) (Nat.le_of_ble_eq_true rfl) ?_
  intro p e s m below meth c hx hb hml hown hg hr hlocks htab hst hP hK hN A hA hD hS ls hl
  have hown : s.vm.findClass rn_L = some m.cls := hown
  have hl : lv_has ls 3 [(0, .ref hx0), (1, .ref ho)] := hl
  obtain ⟨H, hH⟩ : ∃ z, z = s.heap := ⟨_, rfl⟩
  rw [← hH] at hP
  have hS : va_S A s.heap H [] := by rw [hH]; exact va_S.rf
  suffices kk : W p l e ({ frames := 7, cells := 1, slots := 6, locals := 121 }) s m [.ref hx0, .ref ho].toArray below meth c H [] 0 0 (MQ below (xk_Qi (dC, dI) xcl (xt cI cB cJ cZ cQ) (fun (r : Int32) (u : Unit) => r = 1) (fun u : Unit => [(hx0, .inr (1, xo_C fx))]) A) [.ref hx0, .ref ho].toArray s 1 6 A) (F0 m 0 ls []) by rw [hH] at kk; exact kk
  refine lv_aload_n hx hb dn_L_find_0 rfl (lv_at hl 1 rfl) ?_
  refine lv_iconst (v := 0) hx hb dn_L_find_1 (by decide) ?_
  refine lv_aload_n hx hb dn_L_find_2 rfl (lv_at hl 0 rfl) ?_
  have hPc := hP.sub (ws' := [(hx0, .inr (1, xo_C fx))]) [0] rfl
  have hDc := hD.sub (ws' := [(hx0, .inr (1, xo_C fx))]) [0] (by decide) rfl
  refine xk_callX (ar := 0) (As := []) (rest := [.int 0, .ref ho]) (ci := 1) (q0 := 0) ⟨hx, hb, hml, hown, hg⟩ hK hN (ct_C_find_t0 l hlt dC dI cI cB cJ cZ cQ H.size hx0 fx hc8) hP hS hPc hDc rfl rfl hst hH wn_7_142 wn_7_143 wn_7_144 wn_1_1 wn_7_145 rfl rfl (by decide +kernel) ⟨Nat.le_of_ble_eq_true rfl, Nat.le_of_ble_eq_true rfl⟩ rfl hl.1 rfl (Nat.le_of_ble_eq_true rfl) dn_L_find_3 ⟨Nat.le_of_ble_eq_true rfl, Nat.le_of_ble_eq_true rfl⟩ htab (by decide) (by decide) wn_7_118 (by decide +kernel) (fun qx H hP hS => ?_)
  refine lv_astore_n (lv' := [(2, .ref qx), (0, .ref hx0), (1, .ref ho)]) hx hb dn_L_find_11 rfl hl (by decide) rfl (fun ls hl => ?_)
  refine lv_iconst (v := 1) hx hb dn_L_find_12 (by decide) ?_
  exact xk_iret (w1 := fun u : Unit => [(hx0, .inr (1, xo_C fx))]) () hx hb hr hlocks hK hS dn_L_find_13 hP hD rfl (Nat.le_refl _) (Nat.le_refl _)
set_option maxHeartbeats 4000000 in
set_option maxRecDepth 100000 in
theorem ct_L_signal_t (l : Launch) (hlt : l.stackTraces = false) (dC : Nat → ClassId) (dI : Nat → Nat → Nat) (cI cB cJ cZ cQ : ClassId) (sz : Nat) (hx0 : Nat) (fx : Nat → Value) (x0 : Int32) (x1 : Int32) (ho : Nat) (hc8 : fx 8 = .int 0) : Met l yn_L_signal (Cond.codeWith yn_L_signal bn_L_signal 5 (some .int) [(0, 10, 13, 25), (0, 10, 17, 35), (0, 10, 21, 19)] :: xw_G) ({ frames := 7, cells := 1, slots := 6, locals := 122 }) (xk_PX (dC, dI) xcl (xt cI cB cJ cZ cQ) [.ref hx0, .int x0, .int x1, .ref ho] sz [(hx0, .inr (1, xo_C fx))]) (xk_Qi (dC, dI) xcl (xt cI cB cJ cZ cQ) (fun (r : Int32) (u : Unit) => r = 1) (fun u : Unit => [(hx0, .inr (1, xo_C fx))]) (va_A [(hx0, .inr (1, xo_C fx))] sz)) 1 6 (va_A [(hx0, .inr (1, xo_C fx))] sz) := by
  refine xk_ofH (QA := xk_Qi (dC, dI) xcl (xt cI cB cJ cZ cQ) (fun (r : Int32) (u : Unit) => r = 1) (fun u : Unit => [(hx0, .inr (1, xo_C fx))])) (by decide) (Nat.le_of_ble_eq_true rfl) ?_
  intro p e s m below meth c hx hb hml hown hg hr hlocks htab hst hP hK hN A hA hD hS ls hl
  have hown : s.vm.findClass rn_L = some m.cls := hown
  have hl : lv_has ls 5 [(0, .ref hx0), (1, .int x0), (2, .int x1), (3, .ref ho)] := hl
  obtain ⟨H, hH⟩ : ∃ z, z = s.heap := ⟨_, rfl⟩
  rw [← hH] at hP
  have hS : va_S A s.heap H [] := by rw [hH]; exact va_S.rf
  suffices kk : W p l e ({ frames := 7, cells := 1, slots := 6, locals := 122 }) s m [.ref hx0, .int x0, .int x1, .ref ho].toArray below meth c H [] 0 0 (MQ below (xk_Qi (dC, dI) xcl (xt cI cB cJ cZ cQ) (fun (r : Int32) (u : Unit) => r = 1) (fun u : Unit => [(hx0, .inr (1, xo_C fx))]) A) [.ref hx0, .int x0, .int x1, .ref ho].toArray s 1 6 A) (F0 m 0 ls []) by rw [hH] at kk; exact kk
  refine lv_aload_n hx hb dn_L_signal_0 rfl (lv_at hl 3 rfl) ?_
  refine lv_iconst (v := 0) hx hb dn_L_signal_1 (by decide) ?_
  refine lv_aload_n hx hb dn_L_signal_2 rfl (lv_at hl 0 rfl) ?_
  refine lv_iload_n hx hb dn_L_signal_3 rfl (lv_at hl 1 rfl) ?_
  refine lv_iload_n hx hb dn_L_signal_4 rfl (lv_at hl 2 rfl) ?_
  have hPc := hP.sub (ws' := [(hx0, .inr (1, xo_C fx))]) [0] rfl
  have hDc := hD.sub (ws' := [(hx0, .inr (1, xo_C fx))]) [0] (by decide) rfl
  refine xk_callX (ar := 2) (As := [.int x0, .int x1]) (rest := [.int 0, .ref ho]) (ci := 1) (q0 := 0) ⟨hx, hb, hml, hown, hg⟩ hK hN (ct_C_signal_t0 l hlt dC dI cI cB cJ cZ cQ H.size hx0 x0 x1 fx hc8) hP hS hPc hDc rfl rfl hst hH wn_7_168 wn_7_169 wn_7_170 wn_1_1 wn_7_171 rfl rfl (by decide +kernel) ⟨Nat.le_of_ble_eq_true rfl, Nat.le_of_ble_eq_true rfl⟩ rfl hl.1 rfl (Nat.le_of_ble_eq_true rfl) dn_L_signal_5 ⟨Nat.le_of_ble_eq_true rfl, Nat.le_of_ble_eq_true rfl⟩ htab (by decide) (by decide) wn_7_118 (by decide +kernel) (fun qx H hP hS => ?_)
  refine lv_astore (lv' := [(4, .ref qx), (0, .ref hx0), (1, .int x0), (2, .int x1), (3, .ref ho)]) hx hb dn_L_signal_13 hl (by decide) rfl (fun ls hl => ?_)
  refine lv_iconst (v := 1) hx hb dn_L_signal_15 (by decide) ?_
  exact xk_iret (w1 := fun u : Unit => [(hx0, .inr (1, xo_C fx))]) () hx hb hr hlocks hK hS dn_L_signal_16 hP hD rfl (Nat.le_refl _) (Nat.le_refl _)
set_option maxHeartbeats 4000000 in
set_option maxRecDepth 100000 in
theorem ct_L_reset_t (l : Launch) (hlt : l.stackTraces = false) (dC : Nat → ClassId) (dI : Nat → Nat → Nat) (cI cB cJ cZ cQ : ClassId) (sz : Nat) (hx0 : Nat) (fx : Nat → Value) (hc8 : fx 8 = .int 0) : Met l yn_L_reset (Cond.codeWith yn_L_reset bn_L_reset 2 (some .int) [(0, 4, 7, 25)] :: xw_G) ({ frames := 7, cells := 1, slots := 6, locals := 120 }) (xk_PX (dC, dI) xcl (xt cI cB cJ cZ cQ) [.ref hx0] sz [(hx0, .inr (1, xo_C fx))]) (xk_Qi (dC, dI) xcl (xt cI cB cJ cZ cQ) (fun (r : Int32) (u : Unit) => r = 1) (fun u : Unit => [(hx0, .inr (1, xo_C fx))]) (va_A [(hx0, .inr (1, xo_C fx))] sz)) 1 6 (va_A [(hx0, .inr (1, xo_C fx))] sz) := by
  refine xk_ofH (QA := xk_Qi (dC, dI) xcl (xt cI cB cJ cZ cQ) (fun (r : Int32) (u : Unit) => r = 1) (fun u : Unit => [(hx0, .inr (1, xo_C fx))])) (by decide) (Nat.le_of_ble_eq_true rfl) ?_
  intro p e s m below meth c hx hb hml hown hg hr hlocks htab hst hP hK hN A hA hD hS ls hl
  have hown : s.vm.findClass rn_L = some m.cls := hown
  have hl : lv_has ls 2 [(0, .ref hx0)] := hl
  obtain ⟨H, hH⟩ : ∃ z, z = s.heap := ⟨_, rfl⟩
  rw [← hH] at hP
  have hS : va_S A s.heap H [] := by rw [hH]; exact va_S.rf
  suffices kk : W p l e ({ frames := 7, cells := 1, slots := 6, locals := 120 }) s m [.ref hx0].toArray below meth c H [] 0 0 (MQ below (xk_Qi (dC, dI) xcl (xt cI cB cJ cZ cQ) (fun (r : Int32) (u : Unit) => r = 1) (fun u : Unit => [(hx0, .inr (1, xo_C fx))]) A) [.ref hx0].toArray s 1 6 A) (F0 m 0 ls []) by rw [hH] at kk; exact kk
  refine lv_aload_n hx hb dn_L_reset_0 rfl (lv_at hl 0 rfl) ?_
  have hPc := hP.sub (ws' := [(hx0, .inr (1, xo_C fx))]) [0] rfl
  have hDc := hD.sub (ws' := [(hx0, .inr (1, xo_C fx))]) [0] (by decide) rfl
  refine xk_callX (ar := 0) (As := []) (rest := []) (ci := 1) (q0 := 0) ⟨hx, hb, hml, hown, hg⟩ hK hN (ct_C_reset_t0 l hlt dC dI cI cB cJ cZ cQ H.size hx0 fx hc8) hP hS hPc hDc rfl rfl hst hH wn_7_198 wn_7_199 wn_7_200 wn_1_1 wn_7_201 rfl rfl (by decide +kernel) ⟨Nat.le_of_ble_eq_true rfl, Nat.le_of_ble_eq_true rfl⟩ rfl hl.1 rfl (Nat.le_of_ble_eq_true rfl) dn_L_reset_1 ⟨Nat.le_of_ble_eq_true rfl, Nat.le_of_ble_eq_true rfl⟩ htab (by decide) (by decide) wn_7_118 (by decide +kernel) (fun qx H hP hS => ?_)
  refine lv_astore_n (lv' := [(1, .ref qx), (0, .ref hx0)]) hx hb dn_L_reset_7 rfl hl (by decide) rfl (fun ls hl => ?_)
  refine lv_iconst (v := 1) hx hb dn_L_reset_8 (by decide) ?_
  exact xk_iret (w1 := fun u : Unit => [(hx0, .inr (1, xo_C fx))]) () hx hb hr hlocks hK hS dn_L_reset_9 hP hD rfl (Nat.le_refl _) (Nat.le_refl _)
set_option maxHeartbeats 4000000 in
set_option maxRecDepth 100000 in
theorem ct_L_set_t (l : Launch) (hlt : l.stackTraces = false) (dC : Nat → ClassId) (dI : Nat → Nat → Nat) (cI cB cJ cZ cQ : ClassId) (sz : Nat) (hx0 : Nat) (fx : Nat → Value) (x0 : Int32) (x1 : Int32) (hc8 : fx 8 = .int 0) : Met l yn_L_set (Cond.codeWith yn_L_set bn_L_set 4 (some .int) [(0, 6, 9, 25), (0, 6, 12, 35), (0, 6, 15, 19)] :: xw_G) ({ frames := 7, cells := 1, slots := 6, locals := 122 }) (xk_PX (dC, dI) xcl (xt cI cB cJ cZ cQ) [.ref hx0, .int x0, .int x1] sz [(hx0, .inr (1, xo_C fx))]) (xk_Qi (dC, dI) xcl (xt cI cB cJ cZ cQ) (fun (r : Int32) (u : Unit) => r = 1) (fun u : Unit => [(hx0, .inr (1, xo_C fx))]) (va_A [(hx0, .inr (1, xo_C fx))] sz)) 1 6 (va_A [(hx0, .inr (1, xo_C fx))] sz) := by
  refine xk_ofH (QA := xk_Qi (dC, dI) xcl (xt cI cB cJ cZ cQ) (fun (r : Int32) (u : Unit) => r = 1) (fun u : Unit => [(hx0, .inr (1, xo_C fx))])) (by decide) (Nat.le_of_ble_eq_true rfl) ?_
  intro p e s m below meth c hx hb hml hown hg hr hlocks htab hst hP hK hN A hA hD hS ls hl
  have hown : s.vm.findClass rn_L = some m.cls := hown
  have hl : lv_has ls 4 [(0, .ref hx0), (1, .int x0), (2, .int x1)] := hl
  obtain ⟨H, hH⟩ : ∃ z, z = s.heap := ⟨_, rfl⟩
  rw [← hH] at hP
  have hS : va_S A s.heap H [] := by rw [hH]; exact va_S.rf
  suffices kk : W p l e ({ frames := 7, cells := 1, slots := 6, locals := 122 }) s m [.ref hx0, .int x0, .int x1].toArray below meth c H [] 0 0 (MQ below (xk_Qi (dC, dI) xcl (xt cI cB cJ cZ cQ) (fun (r : Int32) (u : Unit) => r = 1) (fun u : Unit => [(hx0, .inr (1, xo_C fx))]) A) [.ref hx0, .int x0, .int x1].toArray s 1 6 A) (F0 m 0 ls []) by rw [hH] at kk; exact kk
  refine lv_aload_n hx hb dn_L_set_0 rfl (lv_at hl 0 rfl) ?_
  refine lv_iload_n hx hb dn_L_set_1 rfl (lv_at hl 1 rfl) ?_
  refine lv_iload_n hx hb dn_L_set_2 rfl (lv_at hl 2 rfl) ?_
  have hPc := hP.sub (ws' := [(hx0, .inr (1, xo_C fx))]) [0] rfl
  have hDc := hD.sub (ws' := [(hx0, .inr (1, xo_C fx))]) [0] (by decide) rfl
  refine xk_callX (ar := 2) (As := [.int x0, .int x1]) (rest := []) (ci := 1) (q0 := 0) ⟨hx, hb, hml, hown, hg⟩ hK hN (ct_C_set_t0 l hlt dC dI cI cB cJ cZ cQ H.size hx0 x0 x1 fx hc8) hP hS hPc hDc rfl rfl hst hH wn_7_205 wn_7_206 wn_7_207 wn_1_1 wn_7_208 rfl rfl (by decide +kernel) ⟨Nat.le_of_ble_eq_true rfl, Nat.le_of_ble_eq_true rfl⟩ rfl hl.1 rfl (Nat.le_of_ble_eq_true rfl) dn_L_set_3 ⟨Nat.le_of_ble_eq_true rfl, Nat.le_of_ble_eq_true rfl⟩ htab (by decide) (by decide) wn_7_118 (by decide +kernel) (fun qx H hP hS => ?_)
  refine lv_astore_n (lv' := [(3, .ref qx), (0, .ref hx0), (1, .int x0), (2, .int x1)]) hx hb dn_L_set_9 rfl hl (by decide) rfl (fun ls hl => ?_)
  refine lv_iconst (v := 1) hx hb dn_L_set_10 (by decide) ?_
  exact xk_iret (w1 := fun u : Unit => [(hx0, .inr (1, xo_C fx))]) () hx hb hr hlocks hK hS dn_L_set_11 hP hD rfl (Nat.le_refl _) (Nat.le_refl _)
set_option maxHeartbeats 4000000 in
set_option maxRecDepth 100000 in
theorem ct_L_step_t (l : Launch) (hlt : l.stackTraces = false) (dC : Nat → ClassId) (dI : Nat → Nat → Nat) (cI cB cJ cZ cQ : ClassId) (sz : Nat) (hx0 : Nat) (fx : Nat → Value) (ho : Nat) (hc8 : fx 8 = .int 0) : Met l yn_L_step (Cond.codeWith yn_L_step bn_L_step 3 (some .int) [(0, 8, 11, 25)] :: xw_G) ({ frames := 7, cells := 1, slots := 6, locals := 120 }) (xk_PX (dC, dI) xcl (xt cI cB cJ cZ cQ) [.ref hx0, .ref ho] sz [(hx0, .inr (1, xo_C fx))]) (xk_Qi (dC, dI) xcl (xt cI cB cJ cZ cQ) (fun (r : Int32) (u : Unit) => r = 1) (fun u : Unit => [(hx0, .inr (1, xo_C fx))]) (va_A [(hx0, .inr (1, xo_C fx))] sz)) 1 6 (va_A [(hx0, .inr (1, xo_C fx))] sz) := by
  refine xk_ofH (QA := xk_Qi (dC, dI) xcl (xt cI cB cJ cZ cQ) (fun (r : Int32) (u : Unit) => r = 1) (fun u : Unit => [(hx0, .inr (1, xo_C fx))])) (by decide) (Nat.le_of_ble_eq_true rfl) ?_
  intro p e s m below meth c hx hb hml hown hg hr hlocks htab hst hP hK hN A hA hD hS ls hl
  have hown : s.vm.findClass rn_L = some m.cls := hown
  have hl : lv_has ls 3 [(0, .ref hx0), (1, .ref ho)] := hl
  obtain ⟨H, hH⟩ : ∃ z, z = s.heap := ⟨_, rfl⟩
  rw [← hH] at hP
  have hS : va_S A s.heap H [] := by rw [hH]; exact va_S.rf
  suffices kk : W p l e ({ frames := 7, cells := 1, slots := 6, locals := 120 }) s m [.ref hx0, .ref ho].toArray below meth c H [] 0 0 (MQ below (xk_Qi (dC, dI) xcl (xt cI cB cJ cZ cQ) (fun (r : Int32) (u : Unit) => r = 1) (fun u : Unit => [(hx0, .inr (1, xo_C fx))]) A) [.ref hx0, .ref ho].toArray s 1 6 A) (F0 m 0 ls []) by rw [hH] at kk; exact kk
  refine lv_aload_n hx hb dn_L_step_0 rfl (lv_at hl 1 rfl) ?_
  refine lv_iconst (v := 0) hx hb dn_L_step_1 (by decide) ?_
  refine lv_aload_n hx hb dn_L_step_2 rfl (lv_at hl 0 rfl) ?_
  have hPc := hP.sub (ws' := [(hx0, .inr (1, xo_C fx))]) [0] rfl
  have hDc := hD.sub (ws' := [(hx0, .inr (1, xo_C fx))]) [0] (by decide) rfl
  refine xk_callX (ar := 0) (As := []) (rest := [.int 0, .ref ho]) (ci := 1) (q0 := 0) ⟨hx, hb, hml, hown, hg⟩ hK hN (ct_C_step_t0 l hlt dC dI cI cB cJ cZ cQ H.size hx0 fx hc8) hP hS hPc hDc rfl rfl hst hH wn_7_217 wn_7_218 wn_7_219 wn_1_1 wn_7_220 rfl rfl (by decide +kernel) ⟨Nat.le_of_ble_eq_true rfl, Nat.le_of_ble_eq_true rfl⟩ rfl hl.1 rfl (Nat.le_of_ble_eq_true rfl) dn_L_step_3 ⟨Nat.le_of_ble_eq_true rfl, Nat.le_of_ble_eq_true rfl⟩ htab (by decide) (by decide) wn_7_118 (by decide +kernel) (fun qx H hP hS => ?_)
  refine lv_astore_n (lv' := [(2, .ref qx), (0, .ref hx0), (1, .ref ho)]) hx hb dn_L_step_11 rfl hl (by decide) rfl (fun ls hl => ?_)
  refine lv_iconst (v := 1) hx hb dn_L_step_12 (by decide) ?_
  exact xk_iret (w1 := fun u : Unit => [(hx0, .inr (1, xo_C fx))]) () hx hb hr hlocks hK hS dn_L_step_13 hP hD rfl (Nat.le_refl _) (Nat.le_refl _)
set_option maxHeartbeats 4000000 in
set_option maxRecDepth 100000 in
theorem ct_L_value_t (l : Launch) (hlt : l.stackTraces = false) (dC : Nat → ClassId) (dI : Nat → Nat → Nat) (cI cB cJ cZ cQ : ClassId) (sz : Nat) (hx0 : Nat) (fx : Nat → Value) (x0 : Int32) (ho : Nat) (hc8 : fx 8 = .int 0) : Met l yn_L_value (Cond.codeWith yn_L_value bn_L_value 4 (some .int) [(0, 8, 11, 25), (0, 8, 14, 35)] :: xw_G) ({ frames := 7, cells := 1, slots := 6, locals := 121 }) (xk_PX (dC, dI) xcl (xt cI cB cJ cZ cQ) [.ref hx0, .int x0, .ref ho] sz [(hx0, .inr (1, xo_C fx))]) (xk_Qi (dC, dI) xcl (xt cI cB cJ cZ cQ) (fun (r : Int32) (u : Unit) => r = 1) (fun u : Unit => [(hx0, .inr (1, xo_C fx))]) (va_A [(hx0, .inr (1, xo_C fx))] sz)) 1 6 (va_A [(hx0, .inr (1, xo_C fx))] sz) := by
  refine xk_ofH (QA := xk_Qi (dC, dI) xcl (xt cI cB cJ cZ cQ) (fun (r : Int32) (u : Unit) => r = 1) (fun u : Unit => [(hx0, .inr (1, xo_C fx))])) (by decide) (Nat.le_of_ble_eq_true rfl) ?_
  intro p e s m below meth c hx hb hml hown hg hr hlocks htab hst hP hK hN A hA hD hS ls hl
  have hown : s.vm.findClass rn_L = some m.cls := hown
  have hl : lv_has ls 4 [(0, .ref hx0), (1, .int x0), (2, .ref ho)] := hl
  obtain ⟨H, hH⟩ : ∃ z, z = s.heap := ⟨_, rfl⟩
  rw [← hH] at hP
  have hS : va_S A s.heap H [] := by rw [hH]; exact va_S.rf
  suffices kk : W p l e ({ frames := 7, cells := 1, slots := 6, locals := 121 }) s m [.ref hx0, .int x0, .ref ho].toArray below meth c H [] 0 0 (MQ below (xk_Qi (dC, dI) xcl (xt cI cB cJ cZ cQ) (fun (r : Int32) (u : Unit) => r = 1) (fun u : Unit => [(hx0, .inr (1, xo_C fx))]) A) [.ref hx0, .int x0, .ref ho].toArray s 1 6 A) (F0 m 0 ls []) by rw [hH] at kk; exact kk
  refine lv_aload_n hx hb dn_L_value_0 rfl (lv_at hl 2 rfl) ?_
  refine lv_iconst (v := 0) hx hb dn_L_value_1 (by decide) ?_
  refine lv_aload_n hx hb dn_L_value_2 rfl (lv_at hl 0 rfl) ?_
  refine lv_iload_n hx hb dn_L_value_3 rfl (lv_at hl 1 rfl) ?_
  have hPc := hP.sub (ws' := [(hx0, .inr (1, xo_C fx))]) [0] rfl
  have hDc := hD.sub (ws' := [(hx0, .inr (1, xo_C fx))]) [0] (by decide) rfl
  refine xk_callX (ar := 1) (As := [.int x0]) (rest := [.int 0, .ref ho]) (ci := 1) (q0 := 0) ⟨hx, hb, hml, hown, hg⟩ hK hN (ct_C_value_t0 l hlt dC dI cI cB cJ cZ cQ H.size hx0 x0 fx hc8) hP hS hPc hDc rfl rfl hst hH wn_8_41 wn_8_42 wn_8_43 wn_1_1 wn_8_44 rfl rfl (by decide +kernel) ⟨Nat.le_of_ble_eq_true rfl, Nat.le_of_ble_eq_true rfl⟩ rfl hl.1 rfl (Nat.le_of_ble_eq_true rfl) dn_L_value_4 ⟨Nat.le_of_ble_eq_true rfl, Nat.le_of_ble_eq_true rfl⟩ htab (by decide) (by decide) wn_7_118 (by decide +kernel) (fun qx H hP hS => ?_)
  refine lv_astore_n (lv' := [(3, .ref qx), (0, .ref hx0), (1, .int x0), (2, .ref ho)]) hx hb dn_L_value_11 rfl hl (by decide) rfl (fun ls hl => ?_)
  refine lv_iconst (v := 1) hx hb dn_L_value_12 (by decide) ?_
  exact xk_iret (w1 := fun u : Unit => [(hx0, .inr (1, xo_C fx))]) () hx hb hr hlocks hK hS dn_L_value_13 hP hD rfl (Nat.le_refl _) (Nat.le_refl _)
set_option maxHeartbeats 4000000 in
set_option maxRecDepth 100000 in
theorem ct_L_failing_t (l : Launch) (hlt : l.stackTraces = false) (dC : Nat → ClassId) (dI : Nat → Nat → Nat) (cI cB cJ cZ cQ : ClassId) (sz : Nat) (hx0 : Nat) (fx : Nat → Value) (ho : Nat) (hc8 : fx 8 = .int 0) : Met l yn_L_failing (Cond.codeWith yn_L_failing bn_L_failing 3 (some .int) [(0, 8, 11, 25)] :: xw_G) ({ frames := 7, cells := 1, slots := 6, locals := 120 }) (xk_PX (dC, dI) xcl (xt cI cB cJ cZ cQ) [.ref hx0, .ref ho] sz [(hx0, .inr (1, xo_C fx))]) (xk_Qi (dC, dI) xcl (xt cI cB cJ cZ cQ) (fun (r : Int32) (u : Unit) => r = 1) (fun u : Unit => [(hx0, .inr (1, xo_C fx))]) (va_A [(hx0, .inr (1, xo_C fx))] sz)) 1 6 (va_A [(hx0, .inr (1, xo_C fx))] sz) := by
  refine xk_ofH (QA := xk_Qi (dC, dI) xcl (xt cI cB cJ cZ cQ) (fun (r : Int32) (u : Unit) => r = 1) (fun u : Unit => [(hx0, .inr (1, xo_C fx))])) (by decide) (Nat.le_of_ble_eq_true rfl) ?_
  intro p e s m below meth c hx hb hml hown hg hr hlocks htab hst hP hK hN A hA hD hS ls hl
  have hown : s.vm.findClass rn_L = some m.cls := hown
  have hl : lv_has ls 3 [(0, .ref hx0), (1, .ref ho)] := hl
  obtain ⟨H, hH⟩ : ∃ z, z = s.heap := ⟨_, rfl⟩
  rw [← hH] at hP
  have hS : va_S A s.heap H [] := by rw [hH]; exact va_S.rf
  suffices kk : W p l e ({ frames := 7, cells := 1, slots := 6, locals := 120 }) s m [.ref hx0, .ref ho].toArray below meth c H [] 0 0 (MQ below (xk_Qi (dC, dI) xcl (xt cI cB cJ cZ cQ) (fun (r : Int32) (u : Unit) => r = 1) (fun u : Unit => [(hx0, .inr (1, xo_C fx))]) A) [.ref hx0, .ref ho].toArray s 1 6 A) (F0 m 0 ls []) by rw [hH] at kk; exact kk
  refine lv_aload_n hx hb dn_L_failing_0 rfl (lv_at hl 1 rfl) ?_
  refine lv_iconst (v := 0) hx hb dn_L_failing_1 (by decide) ?_
  refine lv_aload_n hx hb dn_L_failing_2 rfl (lv_at hl 0 rfl) ?_
  have hPc := hP.sub (ws' := [(hx0, .inr (1, xo_C fx))]) [0] rfl
  have hDc := hD.sub (ws' := [(hx0, .inr (1, xo_C fx))]) [0] (by decide) rfl
  refine xk_callX (ar := 0) (As := []) (rest := [.int 0, .ref ho]) (ci := 1) (q0 := 0) ⟨hx, hb, hml, hown, hg⟩ hK hN (ct_C_failing_t0 l hlt dC dI cI cB cJ cZ cQ H.size hx0 fx hc8) hP hS hPc hDc rfl rfl hst hH wn_8_52 wn_8_53 wn_8_54 wn_1_1 wn_8_55 rfl rfl (by decide +kernel) ⟨Nat.le_of_ble_eq_true rfl, Nat.le_of_ble_eq_true rfl⟩ rfl hl.1 rfl (Nat.le_of_ble_eq_true rfl) dn_L_failing_3 ⟨Nat.le_of_ble_eq_true rfl, Nat.le_of_ble_eq_true rfl⟩ htab (by decide) (by decide) wn_7_118 (by decide +kernel) (fun qx H hP hS => ?_)
  refine lv_astore_n (lv' := [(2, .ref qx), (0, .ref hx0), (1, .ref ho)]) hx hb dn_L_failing_11 rfl hl (by decide) rfl (fun ls hl => ?_)
  refine lv_iconst (v := 1) hx hb dn_L_failing_12 (by decide) ?_
  exact xk_iret (w1 := fun u : Unit => [(hx0, .inr (1, xo_C fx))]) () hx hb hr hlocks hK hS dn_L_failing_13 hP hD rfl (Nat.le_refl _) (Nat.le_refl _)
