theorem ct_C_init (l : Launch) (dC : Nat → ClassId) (dI : Nat → Nat → Nat) (cI cB cJ cZ : ClassId) (sz : Nat) (hx0 : Nat) (fx : Nat → Value) (hd0 : fx 0 = .null) (hd1 : fx 1 = .int 0) (hd2 : fx 2 = .int 0) (hd3 : fx 3 = .null) (hd4 : fx 4 = .null) (hd5 : fx 5 = .null) (hd6 : fx 6 = .null) (hd7 : fx 7 = .null) (hd8 : fx 8 = .null) (hd9 : fx 9 = .null) (hd10 : fx 10 = .null) : Met l yn_C_init (xw yn_C_init bn_C_init 1 none) ({ frames := 20, cells := 200, slots := 30000, locals := 400 }) (xk_P (dC, dI) xcl (xt cI cB cJ cZ) [.ref hx0] sz [(hx0, .inr (1, xo_C fx))]) (xk_Qv (dC, dI) xcl (xt cI cB cJ cZ) (fun u : Nat × (Nat → Value) => u.2 0 = .ref u.1 ∧ u.2 1 = .int 0 ∧ u.2 2 = .int 0 ∧ u.2 9 = .null) (fun u : Nat × (Nat → Value) => [(hx0, .inr (1, xo_C u.2)), (u.1, .inl (cB, 512, .inl (fun _ => 0)))]) (va_A [(hx0, .inr (1, xo_C fx))] sz)) 200 30000 (va_A [(hx0, .inr (1, xo_C fx))] sz) := by
  sorry
set_option maxHeartbeats 4000000 in
set_option maxRecDepth 100000 in
theorem ct_C_append_0 (l : Launch) (dC : Nat → ClassId) (dI : Nat → Nat → Nat) (cI cB cJ cZ : ClassId) (sz : Nat) (h0 : Nat) (h1 : Nat) (x0 : Int32) (f0 : Nat → Value) (g0 : Nat → Int32) (hf0_0 : f0 0 = .ref h1) (hf0_1 : f0 1 = .int 0) : Met l yn_C_append (xw yn_C_append bn_C_append 3 none) ({ frames := 0, cells := 0, slots := 0, locals := 0 }) (xk_P (dC, dI) xcl (xt cI cB cJ cZ) [.ref h0, .int x0] sz [(h0, .inr (1, xo_C f0)), (h1, .inl (cB, 512, .inl g0))]) (xk_Qv (dC, dI) xcl (xt cI cB cJ cZ) (fun u : (Nat → Int32) => True) (fun u : (Nat → Int32) => [(h0, .inr (1, xo_C (va_up (va_up (va_up (va_up f0 1 (.int 1)) 1 (.int 2)) 1 (.int 3)) 1 (.int 4)))), (h1, .inl (cB, 512, .inl u))]) (va_A [(h0, .inr (1, xo_C f0)), (h1, .inl (cB, 512, .inl g0))] sz)) 0 0 (va_A [(h0, .inr (1, xo_C f0)), (h1, .inl (cB, 512, .inl g0))] sz) := by
  refine xk_of (QA := xk_Qv (dC, dI) xcl (xt cI cB cJ cZ) (fun u : (Nat → Int32) => True) (fun u : (Nat → Int32) => [(h0, .inr (1, xo_C (va_up (va_up (va_up (va_up f0 1 (.int 1)) 1 (.int 2)) 1 (.int 3)) 1 (.int 4)))), (h1, .inl (cB, 512, .inl u))])) (by decide) (Nat.le_of_ble_eq_true rfl) ?_
  intro p e s m below meth c hx hb hml hown hg hr hlocks hin hP hK hN A hA hD hS ls hl
  have hown : s.vm.findClass rn_C = some m.cls := hown
  have hl : lv_has ls 3 [(0, .ref h0), (1, .int x0)] := hl
  obtain ⟨H, hH⟩ : ∃ z, z = s.heap := ⟨_, rfl⟩
  rw [← hH] at hP
  have hS : va_S A s.heap H [] := by rw [hH]; exact va_S.rf
  suffices kk : W p l e ({ frames := 0, cells := 0, slots := 0, locals := 0 }) s m [.ref h0, .int x0].toArray below meth c H [] 0 0 (MQ below (xk_Qv (dC, dI) xcl (xt cI cB cJ cZ) (fun u : (Nat → Int32) => True) (fun u : (Nat → Int32) => [(h0, .inr (1, xo_C (va_up (va_up (va_up (va_up f0 1 (.int 1)) 1 (.int 2)) 1 (.int 3)) 1 (.int 4)))), (h1, .inl (cB, 512, .inl u))]) A) [.ref h0, .int x0].toArray s 0 0 A) (F0 m 0 ls []) by rw [hH] at kk; exact kk
  refine lv_bipush (v := 24) hx hb dn_C_append_0 (by decide) ?_
  refine lv_istore_n (lv' := [(2, .int 24), (0, .ref h0), (1, .int x0)]) hx hb dn_C_append_2 rfl hl (by decide) rfl (fun ls hl => ?_)
  refine lv_iload_n hx hb dn_C_append_3 rfl (lv_at hl 0 rfl) ?_
  refine lv_if_lt (tgt := 48) hx hb dn_C_append_4 (by decide) (fun h9 => absurd h9 (by decide)) (fun _ => ?_)
  refine lv_aload_n hx hb dn_C_append_7 rfl (lv_at hl 1 rfl) ?_
  refine va_get (D := (dC, dI)) (ci := 1) (v := .int 0) (C := rn_C) (T := fn_C) (N := 11) hx hb hg in_C hown hK hP 0 rfl rfl 1 (by decide) (hg _ wn_3_146) (fun _ h9 => h9) (congrArg some hf0_1) dn_C_append_8 ?_
  refine lv_aload_n hx hb dn_C_append_11 rfl (lv_at hl 1 rfl) ?_
  refine va_get (D := (dC, dI)) (ci := 1) (v := .ref h1) (C := rn_C) (T := fn_C) (N := 11) hx hb hg in_C hown hK hP 0 rfl rfl 0 (by decide) (hg _ wn_3_145) (fun _ h9 => h9) (congrArg some hf0_0) dn_C_append_12 ?_
  refine va_alen (v := 512) hx hb hK hP 1 1 rfl rfl rfl dn_C_append_15 ?_
  refine lv_icmp_ge (tgt := 48) hx hb dn_C_append_16 (by decide) (fun h9 => absurd h9 (by decide)) (fun _ => ?_)
  refine lv_aload_n hx hb dn_C_append_19 rfl (lv_at hl 1 rfl) ?_
  refine va_get (D := (dC, dI)) (ci := 1) (v := .ref h1) (C := rn_C) (T := fn_C) (N := 11) hx hb hg in_C hown hK hP 0 rfl rfl 0 (by decide) (hg _ wn_3_145) (fun _ h9 => h9) (congrArg some hf0_0) dn_C_append_20 ?_
  refine lv_aload_n hx hb dn_C_append_23 rfl (lv_at hl 1 rfl) ?_
  refine va_get (D := (dC, dI)) (ci := 1) (v := .int 0) (C := rn_C) (T := fn_C) (N := 11) hx hb hg in_C hown hK hP 0 rfl rfl 1 (by decide) (hg _ wn_3_146) (fun _ h9 => h9) (congrArg some hf0_1) dn_C_append_24 ?_
  refine lv_iload_n hx hb dn_C_append_27 rfl (lv_at hl 2 rfl) ?_
  refine lv_iload_n hx hb dn_C_append_28 rfl (lv_at hl 0 rfl) ?_
  refine lv_iushr hx hb dn_C_append_29 rfl ?_
  refine lv_topi (fun z_1 _ => ?_)
  refine lv_i2b hx hb dn_C_append_30 rfl ?_
  refine lv_topi (fun z_2 ez_2 => ?_)
  refine va_bast hx hb hK hP hD hS 1 1 rfl rfl (show ¬ (_ ∨ _) by decide) dn_C_append_31 (fun H locs hP hD hS => ?_)
  obtain ⟨g_3, eg_3⟩ : ∃ z : Nat → Int32, z = upd g0 (0 : Int32).toNatClampNeg (vp_nar .byte z_2) := ⟨_, rfl⟩
  have hP : va_P (dC, dI) xcl [(h0, .inr (1, xo_C f0)), (h1, .inl (cB, 512, .inl g_3))] H := by rw [eg_3]; exact hP
  have hD : va_D A [(h0, .inr (1, xo_C f0)), (h1, .inl (cB, 512, .inl g_3))] := by rw [eg_3]; exact hD
  refine lv_aload_n hx hb dn_C_append_32 rfl (lv_at hl 1 rfl) ?_
  refine lv_dup hx hb dn_C_append_33 rfl ?_
  refine va_get (D := (dC, dI)) (ci := 1) (v := .int 0) (C := rn_C) (T := fn_C) (N := 11) hx hb hg in_C hown hK hP 0 rfl rfl 1 (by decide) (hg _ wn_3_146) (fun _ h9 => h9) (congrArg some hf0_1) dn_C_append_34 ?_
  refine lv_iconst (v := 1) hx hb dn_C_append_37 (by decide) ?_
  refine lv_iadd hx hb dn_C_append_38 ?_
  refine xk_ti (y := 1) (by decide) ?_
  refine va_put (D := (dC, dI)) (ci := 1) (v := .int 1) (ty := .int) (C := rn_C) (T := fn_C) (N := 11) hx hb hg in_C tn_C tk_C nn_C hown hK hP hD hS 0 rfl rfl 1 (by decide) (hg _ wn_3_146) (fun _ h9 => h9) rfl (tk_C 1 (by decide)) rfl rfl (Nat.le_of_ble_eq_true rfl) dn_C_append_39 (fun H locs hP hD hS => ?_)
  have hP : va_P (dC, dI) xcl [(h0, .inr (1, xo_C (va_up f0 1 (.int 1)))), (h1, .inl (cB, 512, .inl g_3))] H := hP
  have hD : va_D A [(h0, .inr (1, xo_C (va_up f0 1 (.int 1)))), (h1, .inl (cB, 512, .inl g_3))] := hD
  refine lv_iinc (v := 16) (lv' := [(2, .int 16), (0, .ref h0), (1, .int x0)]) hx hb dn_C_append_42 hl (k := 0) rfl (by decide) (by decide) rfl (fun ls hl => ?_)
  refine lv_goto (tgt := 3) hx hb dn_C_append_45 (by decide) ?_
  refine lv_iload_n hx hb dn_C_append_3 rfl (lv_at hl 0 rfl) ?_
  refine lv_if_lt (tgt := 48) hx hb dn_C_append_4 (by decide) (fun h9 => absurd h9 (by decide)) (fun _ => ?_)
  refine lv_aload_n hx hb dn_C_append_7 rfl (lv_at hl 1 rfl) ?_
  refine va_get (D := (dC, dI)) (ci := 1) (v := .int 1) (C := rn_C) (T := fn_C) (N := 11) hx hb hg in_C hown hK hP 0 rfl rfl 1 (by decide) (hg _ wn_3_146) (fun _ h9 => h9) rfl dn_C_append_8 ?_
  refine lv_aload_n hx hb dn_C_append_11 rfl (lv_at hl 1 rfl) ?_
  refine va_get (D := (dC, dI)) (ci := 1) (v := .ref h1) (C := rn_C) (T := fn_C) (N := 11) hx hb hg in_C hown hK hP 0 rfl rfl 0 (by decide) (hg _ wn_3_145) (fun _ h9 => h9) (congrArg some hf0_0) dn_C_append_12 ?_
  refine va_alen (v := 512) hx hb hK hP 1 1 rfl rfl rfl dn_C_append_15 ?_
  refine lv_icmp_ge (tgt := 48) hx hb dn_C_append_16 (by decide) (fun h9 => absurd h9 (by decide)) (fun _ => ?_)
  refine lv_aload_n hx hb dn_C_append_19 rfl (lv_at hl 1 rfl) ?_
  refine va_get (D := (dC, dI)) (ci := 1) (v := .ref h1) (C := rn_C) (T := fn_C) (N := 11) hx hb hg in_C hown hK hP 0 rfl rfl 0 (by decide) (hg _ wn_3_145) (fun _ h9 => h9) (congrArg some hf0_0) dn_C_append_20 ?_
  refine lv_aload_n hx hb dn_C_append_23 rfl (lv_at hl 1 rfl) ?_
  refine va_get (D := (dC, dI)) (ci := 1) (v := .int 1) (C := rn_C) (T := fn_C) (N := 11) hx hb hg in_C hown hK hP 0 rfl rfl 1 (by decide) (hg _ wn_3_146) (fun _ h9 => h9) rfl dn_C_append_24 ?_
  refine lv_iload_n hx hb dn_C_append_27 rfl (lv_at hl 2 rfl) ?_
  refine lv_iload_n hx hb dn_C_append_28 rfl (lv_at hl 0 rfl) ?_
  refine lv_iushr hx hb dn_C_append_29 rfl ?_
  refine lv_topi (fun z_4 _ => ?_)
  refine lv_i2b hx hb dn_C_append_30 rfl ?_
  refine lv_topi (fun z_5 ez_5 => ?_)
  refine va_bast hx hb hK hP hD hS 1 1 rfl rfl (show ¬ (_ ∨ _) by decide) dn_C_append_31 (fun H locs hP hD hS => ?_)
  obtain ⟨g_6, eg_6⟩ : ∃ z : Nat → Int32, z = upd g_3 (1 : Int32).toNatClampNeg (vp_nar .byte z_5) := ⟨_, rfl⟩
  have hP : va_P (dC, dI) xcl [(h0, .inr (1, xo_C (va_up f0 1 (.int 1)))), (h1, .inl (cB, 512, .inl g_6))] H := by rw [eg_6]; exact hP
  have hD : va_D A [(h0, .inr (1, xo_C (va_up f0 1 (.int 1)))), (h1, .inl (cB, 512, .inl g_6))] := by rw [eg_6]; exact hD
  refine lv_aload_n hx hb dn_C_append_32 rfl (lv_at hl 1 rfl) ?_
  refine lv_dup hx hb dn_C_append_33 rfl ?_
  refine va_get (D := (dC, dI)) (ci := 1) (v := .int 1) (C := rn_C) (T := fn_C) (N := 11) hx hb hg in_C hown hK hP 0 rfl rfl 1 (by decide) (hg _ wn_3_146) (fun _ h9 => h9) rfl dn_C_append_34 ?_
  refine lv_iconst (v := 1) hx hb dn_C_append_37 (by decide) ?_
  refine lv_iadd hx hb dn_C_append_38 ?_
  refine xk_ti (y := 2) (by decide) ?_
  refine va_put (D := (dC, dI)) (ci := 1) (v := .int 2) (ty := .int) (C := rn_C) (T := fn_C) (N := 11) hx hb hg in_C tn_C tk_C nn_C hown hK hP hD hS 0 rfl rfl 1 (by decide) (hg _ wn_3_146) (fun _ h9 => h9) rfl (tk_C 1 (by decide)) rfl rfl (Nat.le_of_ble_eq_true rfl) dn_C_append_39 (fun H locs hP hD hS => ?_)
  have hP : va_P (dC, dI) xcl [(h0, .inr (1, xo_C (va_up (va_up f0 1 (.int 1)) 1 (.int 2)))), (h1, .inl (cB, 512, .inl g_6))] H := hP
  have hD : va_D A [(h0, .inr (1, xo_C (va_up (va_up f0 1 (.int 1)) 1 (.int 2)))), (h1, .inl (cB, 512, .inl g_6))] := hD
  refine lv_iinc (v := 8) (lv' := [(2, .int 8), (0, .ref h0), (1, .int x0)]) hx hb dn_C_append_42 hl (k := 0) rfl (by decide) (by decide) rfl (fun ls hl => ?_)
  refine lv_goto (tgt := 3) hx hb dn_C_append_45 (by decide) ?_
  refine lv_iload_n hx hb dn_C_append_3 rfl (lv_at hl 0 rfl) ?_
  refine lv_if_lt (tgt := 48) hx hb dn_C_append_4 (by decide) (fun h9 => absurd h9 (by decide)) (fun _ => ?_)
  refine lv_aload_n hx hb dn_C_append_7 rfl (lv_at hl 1 rfl) ?_
  refine va_get (D := (dC, dI)) (ci := 1) (v := .int 2) (C := rn_C) (T := fn_C) (N := 11) hx hb hg in_C hown hK hP 0 rfl rfl 1 (by decide) (hg _ wn_3_146) (fun _ h9 => h9) rfl dn_C_append_8 ?_
  refine lv_aload_n hx hb dn_C_append_11 rfl (lv_at hl 1 rfl) ?_
  refine va_get (D := (dC, dI)) (ci := 1) (v := .ref h1) (C := rn_C) (T := fn_C) (N := 11) hx hb hg in_C hown hK hP 0 rfl rfl 0 (by decide) (hg _ wn_3_145) (fun _ h9 => h9) (congrArg some hf0_0) dn_C_append_12 ?_
  refine va_alen (v := 512) hx hb hK hP 1 1 rfl rfl rfl dn_C_append_15 ?_
  refine lv_icmp_ge (tgt := 48) hx hb dn_C_append_16 (by decide) (fun h9 => absurd h9 (by decide)) (fun _ => ?_)
  refine lv_aload_n hx hb dn_C_append_19 rfl (lv_at hl 1 rfl) ?_
  refine va_get (D := (dC, dI)) (ci := 1) (v := .ref h1) (C := rn_C) (T := fn_C) (N := 11) hx hb hg in_C hown hK hP 0 rfl rfl 0 (by decide) (hg _ wn_3_145) (fun _ h9 => h9) (congrArg some hf0_0) dn_C_append_20 ?_
  refine lv_aload_n hx hb dn_C_append_23 rfl (lv_at hl 1 rfl) ?_
  refine va_get (D := (dC, dI)) (ci := 1) (v := .int 2) (C := rn_C) (T := fn_C) (N := 11) hx hb hg in_C hown hK hP 0 rfl rfl 1 (by decide) (hg _ wn_3_146) (fun _ h9 => h9) rfl dn_C_append_24 ?_
  refine lv_iload_n hx hb dn_C_append_27 rfl (lv_at hl 2 rfl) ?_
  refine lv_iload_n hx hb dn_C_append_28 rfl (lv_at hl 0 rfl) ?_
  refine lv_iushr hx hb dn_C_append_29 rfl ?_
  refine lv_topi (fun z_7 _ => ?_)
  refine lv_i2b hx hb dn_C_append_30 rfl ?_
  refine lv_topi (fun z_8 ez_8 => ?_)
  refine va_bast hx hb hK hP hD hS 1 1 rfl rfl (show ¬ (_ ∨ _) by decide) dn_C_append_31 (fun H locs hP hD hS => ?_)
  obtain ⟨g_9, eg_9⟩ : ∃ z : Nat → Int32, z = upd g_6 (2 : Int32).toNatClampNeg (vp_nar .byte z_8) := ⟨_, rfl⟩
  have hP : va_P (dC, dI) xcl [(h0, .inr (1, xo_C (va_up (va_up f0 1 (.int 1)) 1 (.int 2)))), (h1, .inl (cB, 512, .inl g_9))] H := by rw [eg_9]; exact hP
  have hD : va_D A [(h0, .inr (1, xo_C (va_up (va_up f0 1 (.int 1)) 1 (.int 2)))), (h1, .inl (cB, 512, .inl g_9))] := by rw [eg_9]; exact hD
  refine lv_aload_n hx hb dn_C_append_32 rfl (lv_at hl 1 rfl) ?_
  refine lv_dup hx hb dn_C_append_33 rfl ?_
  refine va_get (D := (dC, dI)) (ci := 1) (v := .int 2) (C := rn_C) (T := fn_C) (N := 11) hx hb hg in_C hown hK hP 0 rfl rfl 1 (by decide) (hg _ wn_3_146) (fun _ h9 => h9) rfl dn_C_append_34 ?_
  refine lv_iconst (v := 1) hx hb dn_C_append_37 (by decide) ?_
  refine lv_iadd hx hb dn_C_append_38 ?_
  refine xk_ti (y := 3) (by decide) ?_
  refine va_put (D := (dC, dI)) (ci := 1) (v := .int 3) (ty := .int) (C := rn_C) (T := fn_C) (N := 11) hx hb hg in_C tn_C tk_C nn_C hown hK hP hD hS 0 rfl rfl 1 (by decide) (hg _ wn_3_146) (fun _ h9 => h9) rfl (tk_C 1 (by decide)) rfl rfl (Nat.le_of_ble_eq_true rfl) dn_C_append_39 (fun H locs hP hD hS => ?_)
  have hP : va_P (dC, dI) xcl [(h0, .inr (1, xo_C (va_up (va_up (va_up f0 1 (.int 1)) 1 (.int 2)) 1 (.int 3)))), (h1, .inl (cB, 512, .inl g_9))] H := hP
  have hD : va_D A [(h0, .inr (1, xo_C (va_up (va_up (va_up f0 1 (.int 1)) 1 (.int 2)) 1 (.int 3)))), (h1, .inl (cB, 512, .inl g_9))] := hD
  refine lv_iinc (v := 0) (lv' := [(2, .int 0), (0, .ref h0), (1, .int x0)]) hx hb dn_C_append_42 hl (k := 0) rfl (by decide) (by decide) rfl (fun ls hl => ?_)
  refine lv_goto (tgt := 3) hx hb dn_C_append_45 (by decide) ?_
  refine lv_iload_n hx hb dn_C_append_3 rfl (lv_at hl 0 rfl) ?_
  refine lv_if_lt (tgt := 48) hx hb dn_C_append_4 (by decide) (fun h9 => absurd h9 (by decide)) (fun _ => ?_)
  refine lv_aload_n hx hb dn_C_append_7 rfl (lv_at hl 1 rfl) ?_
  refine va_get (D := (dC, dI)) (ci := 1) (v := .int 3) (C := rn_C) (T := fn_C) (N := 11) hx hb hg in_C hown hK hP 0 rfl rfl 1 (by decide) (hg _ wn_3_146) (fun _ h9 => h9) rfl dn_C_append_8 ?_
  refine lv_aload_n hx hb dn_C_append_11 rfl (lv_at hl 1 rfl) ?_
  refine va_get (D := (dC, dI)) (ci := 1) (v := .ref h1) (C := rn_C) (T := fn_C) (N := 11) hx hb hg in_C hown hK hP 0 rfl rfl 0 (by decide) (hg _ wn_3_145) (fun _ h9 => h9) (congrArg some hf0_0) dn_C_append_12 ?_
  refine va_alen (v := 512) hx hb hK hP 1 1 rfl rfl rfl dn_C_append_15 ?_
  refine lv_icmp_ge (tgt := 48) hx hb dn_C_append_16 (by decide) (fun h9 => absurd h9 (by decide)) (fun _ => ?_)
  refine lv_aload_n hx hb dn_C_append_19 rfl (lv_at hl 1 rfl) ?_
  refine va_get (D := (dC, dI)) (ci := 1) (v := .ref h1) (C := rn_C) (T := fn_C) (N := 11) hx hb hg in_C hown hK hP 0 rfl rfl 0 (by decide) (hg _ wn_3_145) (fun _ h9 => h9) (congrArg some hf0_0) dn_C_append_20 ?_
  refine lv_aload_n hx hb dn_C_append_23 rfl (lv_at hl 1 rfl) ?_
  refine va_get (D := (dC, dI)) (ci := 1) (v := .int 3) (C := rn_C) (T := fn_C) (N := 11) hx hb hg in_C hown hK hP 0 rfl rfl 1 (by decide) (hg _ wn_3_146) (fun _ h9 => h9) rfl dn_C_append_24 ?_
  refine lv_iload_n hx hb dn_C_append_27 rfl (lv_at hl 2 rfl) ?_
  refine lv_iload_n hx hb dn_C_append_28 rfl (lv_at hl 0 rfl) ?_
  refine lv_iushr hx hb dn_C_append_29 rfl ?_
  refine lv_topi (fun z_10 _ => ?_)
  refine lv_i2b hx hb dn_C_append_30 rfl ?_
  refine lv_topi (fun z_11 ez_11 => ?_)
  refine va_bast hx hb hK hP hD hS 1 1 rfl rfl (show ¬ (_ ∨ _) by decide) dn_C_append_31 (fun H locs hP hD hS => ?_)
  obtain ⟨g_12, eg_12⟩ : ∃ z : Nat → Int32, z = upd g_9 (3 : Int32).toNatClampNeg (vp_nar .byte z_11) := ⟨_, rfl⟩
  have hP : va_P (dC, dI) xcl [(h0, .inr (1, xo_C (va_up (va_up (va_up f0 1 (.int 1)) 1 (.int 2)) 1 (.int 3)))), (h1, .inl (cB, 512, .inl g_12))] H := by rw [eg_12]; exact hP
  have hD : va_D A [(h0, .inr (1, xo_C (va_up (va_up (va_up f0 1 (.int 1)) 1 (.int 2)) 1 (.int 3)))), (h1, .inl (cB, 512, .inl g_12))] := by rw [eg_12]; exact hD
  refine lv_aload_n hx hb dn_C_append_32 rfl (lv_at hl 1 rfl) ?_
  refine lv_dup hx hb dn_C_append_33 rfl ?_
  refine va_get (D := (dC, dI)) (ci := 1) (v := .int 3) (C := rn_C) (T := fn_C) (N := 11) hx hb hg in_C hown hK hP 0 rfl rfl 1 (by decide) (hg _ wn_3_146) (fun _ h9 => h9) rfl dn_C_append_34 ?_
  refine lv_iconst (v := 1) hx hb dn_C_append_37 (by decide) ?_
  refine lv_iadd hx hb dn_C_append_38 ?_
  refine xk_ti (y := 4) (by decide) ?_
  refine va_put (D := (dC, dI)) (ci := 1) (v := .int 4) (ty := .int) (C := rn_C) (T := fn_C) (N := 11) hx hb hg in_C tn_C tk_C nn_C hown hK hP hD hS 0 rfl rfl 1 (by decide) (hg _ wn_3_146) (fun _ h9 => h9) rfl (tk_C 1 (by decide)) rfl rfl (Nat.le_of_ble_eq_true rfl) dn_C_append_39 (fun H locs hP hD hS => ?_)
  have hP : va_P (dC, dI) xcl [(h0, .inr (1, xo_C (va_up (va_up (va_up (va_up f0 1 (.int 1)) 1 (.int 2)) 1 (.int 3)) 1 (.int 4)))), (h1, .inl (cB, 512, .inl g_12))] H := hP
  have hD : va_D A [(h0, .inr (1, xo_C (va_up (va_up (va_up (va_up f0 1 (.int 1)) 1 (.int 2)) 1 (.int 3)) 1 (.int 4)))), (h1, .inl (cB, 512, .inl g_12))] := hD
  refine lv_iinc (v := (-8)) (lv' := [(2, .int (-8)), (0, .ref h0), (1, .int x0)]) hx hb dn_C_append_42 hl (k := 0) rfl (by decide) (by decide) rfl (fun ls hl => ?_)
  refine lv_goto (tgt := 3) hx hb dn_C_append_45 (by decide) ?_
  refine lv_iload_n hx hb dn_C_append_3 rfl (lv_at hl 0 rfl) ?_
  refine lv_if_lt (tgt := 48) hx hb dn_C_append_4 (by decide) (fun _ => ?_) (fun h9 => absurd h9 (by decide))
  have hP9 := hP.sub (ws' := [(h0, .inr (1, xo_C (va_up (va_up (va_up (va_up f0 1 (.int 1)) 1 (.int 2)) 1 (.int 3)) 1 (.int 4)))), (h1, .inl (cB, 512, .inl g_12))]) [0, 1] rfl
  have hD9 := hD.sub (ws' := [(h0, .inr (1, xo_C (va_up (va_up (va_up (va_up f0 1 (.int 1)) 1 (.int 2)) 1 (.int 3)) 1 (.int 4)))), (h1, .inl (cB, 512, .inl g_12))]) [0, 1] (by decide) rfl
  exact xk_vret (w1 := fun u : (Nat → Int32) => [(h0, .inr (1, xo_C (va_up (va_up (va_up (va_up f0 1 (.int 1)) 1 (.int 2)) 1 (.int 3)) 1 (.int 4)))), (h1, .inl (cB, 512, .inl u))]) (g_12) hx hb hr hlocks hK hS dn_C_append_48 hP9 hD9 trivial (Nat.le_refl _) (Nat.le_refl _)
set_option maxHeartbeats 4000000 in
set_option maxRecDepth 100000 in
theorem ct_C_append_1 (l : Launch) (dC : Nat → ClassId) (dI : Nat → Nat → Nat) (cI cB cJ cZ : ClassId) (sz : Nat) (h0 : Nat) (h1 : Nat) (x0 : Int32) (f0 : Nat → Value) (g0 : Nat → Int32) (hf0_0 : f0 0 = .ref h1) (hf0_1 : f0 1 = .int 4) : Met l yn_C_append (xw yn_C_append bn_C_append 3 none) ({ frames := 0, cells := 0, slots := 0, locals := 0 }) (xk_P (dC, dI) xcl (xt cI cB cJ cZ) [.ref h0, .int x0] sz [(h0, .inr (1, xo_C f0)), (h1, .inl (cB, 512, .inl g0))]) (xk_Qv (dC, dI) xcl (xt cI cB cJ cZ) (fun u : (Nat → Int32) => True) (fun u : (Nat → Int32) => [(h0, .inr (1, xo_C (va_up (va_up (va_up (va_up f0 1 (.int 5)) 1 (.int 6)) 1 (.int 7)) 1 (.int 8)))), (h1, .inl (cB, 512, .inl u))]) (va_A [(h0, .inr (1, xo_C f0)), (h1, .inl (cB, 512, .inl g0))] sz)) 0 0 (va_A [(h0, .inr (1, xo_C f0)), (h1, .inl (cB, 512, .inl g0))] sz) := by
  refine xk_of (QA := xk_Qv (dC, dI) xcl (xt cI cB cJ cZ) (fun u : (Nat → Int32) => True) (fun u : (Nat → Int32) => [(h0, .inr (1, xo_C (va_up (va_up (va_up (va_up f0 1 (.int 5)) 1 (.int 6)) 1 (.int 7)) 1 (.int 8)))), (h1, .inl (cB, 512, .inl u))])) (by decide) (Nat.le_of_ble_eq_true rfl) ?_
  intro p e s m below meth c hx hb hml hown hg hr hlocks hin hP hK hN A hA hD hS ls hl
  have hown : s.vm.findClass rn_C = some m.cls := hown
  have hl : lv_has ls 3 [(0, .ref h0), (1, .int x0)] := hl
  obtain ⟨H, hH⟩ : ∃ z, z = s.heap := ⟨_, rfl⟩
  rw [← hH] at hP
  have hS : va_S A s.heap H [] := by rw [hH]; exact va_S.rf
  suffices kk : W p l e ({ frames := 0, cells := 0, slots := 0, locals := 0 }) s m [.ref h0, .int x0].toArray below meth c H [] 0 0 (MQ below (xk_Qv (dC, dI) xcl (xt cI cB cJ cZ) (fun u : (Nat → Int32) => True) (fun u : (Nat → Int32) => [(h0, .inr (1, xo_C (va_up (va_up (va_up (va_up f0 1 (.int 5)) 1 (.int 6)) 1 (.int 7)) 1 (.int 8)))), (h1, .inl (cB, 512, .inl u))]) A) [.ref h0, .int x0].toArray s 0 0 A) (F0 m 0 ls []) by rw [hH] at kk; exact kk
  refine lv_bipush (v := 24) hx hb dn_C_append_0 (by decide) ?_
  refine lv_istore_n (lv' := [(2, .int 24), (0, .ref h0), (1, .int x0)]) hx hb dn_C_append_2 rfl hl (by decide) rfl (fun ls hl => ?_)
  refine lv_iload_n hx hb dn_C_append_3 rfl (lv_at hl 0 rfl) ?_
  refine lv_if_lt (tgt := 48) hx hb dn_C_append_4 (by decide) (fun h9 => absurd h9 (by decide)) (fun _ => ?_)
  refine lv_aload_n hx hb dn_C_append_7 rfl (lv_at hl 1 rfl) ?_
  refine va_get (D := (dC, dI)) (ci := 1) (v := .int 4) (C := rn_C) (T := fn_C) (N := 11) hx hb hg in_C hown hK hP 0 rfl rfl 1 (by decide) (hg _ wn_3_146) (fun _ h9 => h9) (congrArg some hf0_1) dn_C_append_8 ?_
  refine lv_aload_n hx hb dn_C_append_11 rfl (lv_at hl 1 rfl) ?_
  refine va_get (D := (dC, dI)) (ci := 1) (v := .ref h1) (C := rn_C) (T := fn_C) (N := 11) hx hb hg in_C hown hK hP 0 rfl rfl 0 (by decide) (hg _ wn_3_145) (fun _ h9 => h9) (congrArg some hf0_0) dn_C_append_12 ?_
  refine va_alen (v := 512) hx hb hK hP 1 1 rfl rfl rfl dn_C_append_15 ?_
  refine lv_icmp_ge (tgt := 48) hx hb dn_C_append_16 (by decide) (fun h9 => absurd h9 (by decide)) (fun _ => ?_)
  refine lv_aload_n hx hb dn_C_append_19 rfl (lv_at hl 1 rfl) ?_
  refine va_get (D := (dC, dI)) (ci := 1) (v := .ref h1) (C := rn_C) (T := fn_C) (N := 11) hx hb hg in_C hown hK hP 0 rfl rfl 0 (by decide) (hg _ wn_3_145) (fun _ h9 => h9) (congrArg some hf0_0) dn_C_append_20 ?_
  refine lv_aload_n hx hb dn_C_append_23 rfl (lv_at hl 1 rfl) ?_
  refine va_get (D := (dC, dI)) (ci := 1) (v := .int 4) (C := rn_C) (T := fn_C) (N := 11) hx hb hg in_C hown hK hP 0 rfl rfl 1 (by decide) (hg _ wn_3_146) (fun _ h9 => h9) (congrArg some hf0_1) dn_C_append_24 ?_
  refine lv_iload_n hx hb dn_C_append_27 rfl (lv_at hl 2 rfl) ?_
  refine lv_iload_n hx hb dn_C_append_28 rfl (lv_at hl 0 rfl) ?_
  refine lv_iushr hx hb dn_C_append_29 rfl ?_
  refine lv_topi (fun z_1 _ => ?_)
  refine lv_i2b hx hb dn_C_append_30 rfl ?_
  refine lv_topi (fun z_2 ez_2 => ?_)
  refine va_bast hx hb hK hP hD hS 1 1 rfl rfl (show ¬ (_ ∨ _) by decide) dn_C_append_31 (fun H locs hP hD hS => ?_)
  obtain ⟨g_3, eg_3⟩ : ∃ z : Nat → Int32, z = upd g0 (4 : Int32).toNatClampNeg (vp_nar .byte z_2) := ⟨_, rfl⟩
  have hP : va_P (dC, dI) xcl [(h0, .inr (1, xo_C f0)), (h1, .inl (cB, 512, .inl g_3))] H := by rw [eg_3]; exact hP
  have hD : va_D A [(h0, .inr (1, xo_C f0)), (h1, .inl (cB, 512, .inl g_3))] := by rw [eg_3]; exact hD
  refine lv_aload_n hx hb dn_C_append_32 rfl (lv_at hl 1 rfl) ?_
  refine lv_dup hx hb dn_C_append_33 rfl ?_
  refine va_get (D := (dC, dI)) (ci := 1) (v := .int 4) (C := rn_C) (T := fn_C) (N := 11) hx hb hg in_C hown hK hP 0 rfl rfl 1 (by decide) (hg _ wn_3_146) (fun _ h9 => h9) (congrArg some hf0_1) dn_C_append_34 ?_
  refine lv_iconst (v := 1) hx hb dn_C_append_37 (by decide) ?_
  refine lv_iadd hx hb dn_C_append_38 ?_
  refine xk_ti (y := 5) (by decide) ?_
  refine va_put (D := (dC, dI)) (ci := 1) (v := .int 5) (ty := .int) (C := rn_C) (T := fn_C) (N := 11) hx hb hg in_C tn_C tk_C nn_C hown hK hP hD hS 0 rfl rfl 1 (by decide) (hg _ wn_3_146) (fun _ h9 => h9) rfl (tk_C 1 (by decide)) rfl rfl (Nat.le_of_ble_eq_true rfl) dn_C_append_39 (fun H locs hP hD hS => ?_)
  have hP : va_P (dC, dI) xcl [(h0, .inr (1, xo_C (va_up f0 1 (.int 5)))), (h1, .inl (cB, 512, .inl g_3))] H := hP
  have hD : va_D A [(h0, .inr (1, xo_C (va_up f0 1 (.int 5)))), (h1, .inl (cB, 512, .inl g_3))] := hD
  refine lv_iinc (v := 16) (lv' := [(2, .int 16), (0, .ref h0), (1, .int x0)]) hx hb dn_C_append_42 hl (k := 0) rfl (by decide) (by decide) rfl (fun ls hl => ?_)
  refine lv_goto (tgt := 3) hx hb dn_C_append_45 (by decide) ?_
  refine lv_iload_n hx hb dn_C_append_3 rfl (lv_at hl 0 rfl) ?_
  refine lv_if_lt (tgt := 48) hx hb dn_C_append_4 (by decide) (fun h9 => absurd h9 (by decide)) (fun _ => ?_)
  refine lv_aload_n hx hb dn_C_append_7 rfl (lv_at hl 1 rfl) ?_
  refine va_get (D := (dC, dI)) (ci := 1) (v := .int 5) (C := rn_C) (T := fn_C) (N := 11) hx hb hg in_C hown hK hP 0 rfl rfl 1 (by decide) (hg _ wn_3_146) (fun _ h9 => h9) rfl dn_C_append_8 ?_
  refine lv_aload_n hx hb dn_C_append_11 rfl (lv_at hl 1 rfl) ?_
  refine va_get (D := (dC, dI)) (ci := 1) (v := .ref h1) (C := rn_C) (T := fn_C) (N := 11) hx hb hg in_C hown hK hP 0 rfl rfl 0 (by decide) (hg _ wn_3_145) (fun _ h9 => h9) (congrArg some hf0_0) dn_C_append_12 ?_
  refine va_alen (v := 512) hx hb hK hP 1 1 rfl rfl rfl dn_C_append_15 ?_
  refine lv_icmp_ge (tgt := 48) hx hb dn_C_append_16 (by decide) (fun h9 => absurd h9 (by decide)) (fun _ => ?_)
  refine lv_aload_n hx hb dn_C_append_19 rfl (lv_at hl 1 rfl) ?_
  refine va_get (D := (dC, dI)) (ci := 1) (v := .ref h1) (C := rn_C) (T := fn_C) (N := 11) hx hb hg in_C hown hK hP 0 rfl rfl 0 (by decide) (hg _ wn_3_145) (fun _ h9 => h9) (congrArg some hf0_0) dn_C_append_20 ?_
  refine lv_aload_n hx hb dn_C_append_23 rfl (lv_at hl 1 rfl) ?_
  refine va_get (D := (dC, dI)) (ci := 1) (v := .int 5) (C := rn_C) (T := fn_C) (N := 11) hx hb hg in_C hown hK hP 0 rfl rfl 1 (by decide) (hg _ wn_3_146) (fun _ h9 => h9) rfl dn_C_append_24 ?_
  refine lv_iload_n hx hb dn_C_append_27 rfl (lv_at hl 2 rfl) ?_
  refine lv_iload_n hx hb dn_C_append_28 rfl (lv_at hl 0 rfl) ?_
  refine lv_iushr hx hb dn_C_append_29 rfl ?_
  refine lv_topi (fun z_4 _ => ?_)
  refine lv_i2b hx hb dn_C_append_30 rfl ?_
  refine lv_topi (fun z_5 ez_5 => ?_)
  refine va_bast hx hb hK hP hD hS 1 1 rfl rfl (show ¬ (_ ∨ _) by decide) dn_C_append_31 (fun H locs hP hD hS => ?_)
  obtain ⟨g_6, eg_6⟩ : ∃ z : Nat → Int32, z = upd g_3 (5 : Int32).toNatClampNeg (vp_nar .byte z_5) := ⟨_, rfl⟩
  have hP : va_P (dC, dI) xcl [(h0, .inr (1, xo_C (va_up f0 1 (.int 5)))), (h1, .inl (cB, 512, .inl g_6))] H := by rw [eg_6]; exact hP
  have hD : va_D A [(h0, .inr (1, xo_C (va_up f0 1 (.int 5)))), (h1, .inl (cB, 512, .inl g_6))] := by rw [eg_6]; exact hD
  refine lv_aload_n hx hb dn_C_append_32 rfl (lv_at hl 1 rfl) ?_
  refine lv_dup hx hb dn_C_append_33 rfl ?_
  refine va_get (D := (dC, dI)) (ci := 1) (v := .int 5) (C := rn_C) (T := fn_C) (N := 11) hx hb hg in_C hown hK hP 0 rfl rfl 1 (by decide) (hg _ wn_3_146) (fun _ h9 => h9) rfl dn_C_append_34 ?_
  refine lv_iconst (v := 1) hx hb dn_C_append_37 (by decide) ?_
  refine lv_iadd hx hb dn_C_append_38 ?_
  refine xk_ti (y := 6) (by decide) ?_
  refine va_put (D := (dC, dI)) (ci := 1) (v := .int 6) (ty := .int) (C := rn_C) (T := fn_C) (N := 11) hx hb hg in_C tn_C tk_C nn_C hown hK hP hD hS 0 rfl rfl 1 (by decide) (hg _ wn_3_146) (fun _ h9 => h9) rfl (tk_C 1 (by decide)) rfl rfl (Nat.le_of_ble_eq_true rfl) dn_C_append_39 (fun H locs hP hD hS => ?_)
  have hP : va_P (dC, dI) xcl [(h0, .inr (1, xo_C (va_up (va_up f0 1 (.int 5)) 1 (.int 6)))), (h1, .inl (cB, 512, .inl g_6))] H := hP
  have hD : va_D A [(h0, .inr (1, xo_C (va_up (va_up f0 1 (.int 5)) 1 (.int 6)))), (h1, .inl (cB, 512, .inl g_6))] := hD
  refine lv_iinc (v := 8) (lv' := [(2, .int 8), (0, .ref h0), (1, .int x0)]) hx hb dn_C_append_42 hl (k := 0) rfl (by decide) (by decide) rfl (fun ls hl => ?_)
  refine lv_goto (tgt := 3) hx hb dn_C_append_45 (by decide) ?_
  refine lv_iload_n hx hb dn_C_append_3 rfl (lv_at hl 0 rfl) ?_
  refine lv_if_lt (tgt := 48) hx hb dn_C_append_4 (by decide) (fun h9 => absurd h9 (by decide)) (fun _ => ?_)
  refine lv_aload_n hx hb dn_C_append_7 rfl (lv_at hl 1 rfl) ?_
  refine va_get (D := (dC, dI)) (ci := 1) (v := .int 6) (C := rn_C) (T := fn_C) (N := 11) hx hb hg in_C hown hK hP 0 rfl rfl 1 (by decide) (hg _ wn_3_146) (fun _ h9 => h9) rfl dn_C_append_8 ?_
  refine lv_aload_n hx hb dn_C_append_11 rfl (lv_at hl 1 rfl) ?_
  refine va_get (D := (dC, dI)) (ci := 1) (v := .ref h1) (C := rn_C) (T := fn_C) (N := 11) hx hb hg in_C hown hK hP 0 rfl rfl 0 (by decide) (hg _ wn_3_145) (fun _ h9 => h9) (congrArg some hf0_0) dn_C_append_12 ?_
  refine va_alen (v := 512) hx hb hK hP 1 1 rfl rfl rfl dn_C_append_15 ?_
  refine lv_icmp_ge (tgt := 48) hx hb dn_C_append_16 (by decide) (fun h9 => absurd h9 (by decide)) (fun _ => ?_)
  refine lv_aload_n hx hb dn_C_append_19 rfl (lv_at hl 1 rfl) ?_
  refine va_get (D := (dC, dI)) (ci := 1) (v := .ref h1) (C := rn_C) (T := fn_C) (N := 11) hx hb hg in_C hown hK hP 0 rfl rfl 0 (by decide) (hg _ wn_3_145) (fun _ h9 => h9) (congrArg some hf0_0) dn_C_append_20 ?_
  refine lv_aload_n hx hb dn_C_append_23 rfl (lv_at hl 1 rfl) ?_
  refine va_get (D := (dC, dI)) (ci := 1) (v := .int 6) (C := rn_C) (T := fn_C) (N := 11) hx hb hg in_C hown hK hP 0 rfl rfl 1 (by decide) (hg _ wn_3_146) (fun _ h9 => h9) rfl dn_C_append_24 ?_
  refine lv_iload_n hx hb dn_C_append_27 rfl (lv_at hl 2 rfl) ?_
  refine lv_iload_n hx hb dn_C_append_28 rfl (lv_at hl 0 rfl) ?_
  refine lv_iushr hx hb dn_C_append_29 rfl ?_
  refine lv_topi (fun z_7 _ => ?_)
  refine lv_i2b hx hb dn_C_append_30 rfl ?_
  refine lv_topi (fun z_8 ez_8 => ?_)
  refine va_bast hx hb hK hP hD hS 1 1 rfl rfl (show ¬ (_ ∨ _) by decide) dn_C_append_31 (fun H locs hP hD hS => ?_)
  obtain ⟨g_9, eg_9⟩ : ∃ z : Nat → Int32, z = upd g_6 (6 : Int32).toNatClampNeg (vp_nar .byte z_8) := ⟨_, rfl⟩
  have hP : va_P (dC, dI) xcl [(h0, .inr (1, xo_C (va_up (va_up f0 1 (.int 5)) 1 (.int 6)))), (h1, .inl (cB, 512, .inl g_9))] H := by rw [eg_9]; exact hP
  have hD : va_D A [(h0, .inr (1, xo_C (va_up (va_up f0 1 (.int 5)) 1 (.int 6)))), (h1, .inl (cB, 512, .inl g_9))] := by rw [eg_9]; exact hD
  refine lv_aload_n hx hb dn_C_append_32 rfl (lv_at hl 1 rfl) ?_
  refine lv_dup hx hb dn_C_append_33 rfl ?_
  refine va_get (D := (dC, dI)) (ci := 1) (v := .int 6) (C := rn_C) (T := fn_C) (N := 11) hx hb hg in_C hown hK hP 0 rfl rfl 1 (by decide) (hg _ wn_3_146) (fun _ h9 => h9) rfl dn_C_append_34 ?_
  refine lv_iconst (v := 1) hx hb dn_C_append_37 (by decide) ?_
  refine lv_iadd hx hb dn_C_append_38 ?_
  refine xk_ti (y := 7) (by decide) ?_
  refine va_put (D := (dC, dI)) (ci := 1) (v := .int 7) (ty := .int) (C := rn_C) (T := fn_C) (N := 11) hx hb hg in_C tn_C tk_C nn_C hown hK hP hD hS 0 rfl rfl 1 (by decide) (hg _ wn_3_146) (fun _ h9 => h9) rfl (tk_C 1 (by decide)) rfl rfl (Nat.le_of_ble_eq_true rfl) dn_C_append_39 (fun H locs hP hD hS => ?_)
  have hP : va_P (dC, dI) xcl [(h0, .inr (1, xo_C (va_up (va_up (va_up f0 1 (.int 5)) 1 (.int 6)) 1 (.int 7)))), (h1, .inl (cB, 512, .inl g_9))] H := hP
  have hD : va_D A [(h0, .inr (1, xo_C (va_up (va_up (va_up f0 1 (.int 5)) 1 (.int 6)) 1 (.int 7)))), (h1, .inl (cB, 512, .inl g_9))] := hD
  refine lv_iinc (v := 0) (lv' := [(2, .int 0), (0, .ref h0), (1, .int x0)]) hx hb dn_C_append_42 hl (k := 0) rfl (by decide) (by decide) rfl (fun ls hl => ?_)
  refine lv_goto (tgt := 3) hx hb dn_C_append_45 (by decide) ?_
  refine lv_iload_n hx hb dn_C_append_3 rfl (lv_at hl 0 rfl) ?_
  refine lv_if_lt (tgt := 48) hx hb dn_C_append_4 (by decide) (fun h9 => absurd h9 (by decide)) (fun _ => ?_)
  refine lv_aload_n hx hb dn_C_append_7 rfl (lv_at hl 1 rfl) ?_
  refine va_get (D := (dC, dI)) (ci := 1) (v := .int 7) (C := rn_C) (T := fn_C) (N := 11) hx hb hg in_C hown hK hP 0 rfl rfl 1 (by decide) (hg _ wn_3_146) (fun _ h9 => h9) rfl dn_C_append_8 ?_
  refine lv_aload_n hx hb dn_C_append_11 rfl (lv_at hl 1 rfl) ?_
  refine va_get (D := (dC, dI)) (ci := 1) (v := .ref h1) (C := rn_C) (T := fn_C) (N := 11) hx hb hg in_C hown hK hP 0 rfl rfl 0 (by decide) (hg _ wn_3_145) (fun _ h9 => h9) (congrArg some hf0_0) dn_C_append_12 ?_
  refine va_alen (v := 512) hx hb hK hP 1 1 rfl rfl rfl dn_C_append_15 ?_
  refine lv_icmp_ge (tgt := 48) hx hb dn_C_append_16 (by decide) (fun h9 => absurd h9 (by decide)) (fun _ => ?_)
  refine lv_aload_n hx hb dn_C_append_19 rfl (lv_at hl 1 rfl) ?_
  refine va_get (D := (dC, dI)) (ci := 1) (v := .ref h1) (C := rn_C) (T := fn_C) (N := 11) hx hb hg in_C hown hK hP 0 rfl rfl 0 (by decide) (hg _ wn_3_145) (fun _ h9 => h9) (congrArg some hf0_0) dn_C_append_20 ?_
  refine lv_aload_n hx hb dn_C_append_23 rfl (lv_at hl 1 rfl) ?_
  refine va_get (D := (dC, dI)) (ci := 1) (v := .int 7) (C := rn_C) (T := fn_C) (N := 11) hx hb hg in_C hown hK hP 0 rfl rfl 1 (by decide) (hg _ wn_3_146) (fun _ h9 => h9) rfl dn_C_append_24 ?_
  refine lv_iload_n hx hb dn_C_append_27 rfl (lv_at hl 2 rfl) ?_
  refine lv_iload_n hx hb dn_C_append_28 rfl (lv_at hl 0 rfl) ?_
  refine lv_iushr hx hb dn_C_append_29 rfl ?_
  refine lv_topi (fun z_10 _ => ?_)
  refine lv_i2b hx hb dn_C_append_30 rfl ?_
  refine lv_topi (fun z_11 ez_11 => ?_)
  refine va_bast hx hb hK hP hD hS 1 1 rfl rfl (show ¬ (_ ∨ _) by decide) dn_C_append_31 (fun H locs hP hD hS => ?_)
  obtain ⟨g_12, eg_12⟩ : ∃ z : Nat → Int32, z = upd g_9 (7 : Int32).toNatClampNeg (vp_nar .byte z_11) := ⟨_, rfl⟩
  have hP : va_P (dC, dI) xcl [(h0, .inr (1, xo_C (va_up (va_up (va_up f0 1 (.int 5)) 1 (.int 6)) 1 (.int 7)))), (h1, .inl (cB, 512, .inl g_12))] H := by rw [eg_12]; exact hP
  have hD : va_D A [(h0, .inr (1, xo_C (va_up (va_up (va_up f0 1 (.int 5)) 1 (.int 6)) 1 (.int 7)))), (h1, .inl (cB, 512, .inl g_12))] := by rw [eg_12]; exact hD
  refine lv_aload_n hx hb dn_C_append_32 rfl (lv_at hl 1 rfl) ?_
  refine lv_dup hx hb dn_C_append_33 rfl ?_
  refine va_get (D := (dC, dI)) (ci := 1) (v := .int 7) (C := rn_C) (T := fn_C) (N := 11) hx hb hg in_C hown hK hP 0 rfl rfl 1 (by decide) (hg _ wn_3_146) (fun _ h9 => h9) rfl dn_C_append_34 ?_
  refine lv_iconst (v := 1) hx hb dn_C_append_37 (by decide) ?_
  refine lv_iadd hx hb dn_C_append_38 ?_
  refine xk_ti (y := 8) (by decide) ?_
  refine va_put (D := (dC, dI)) (ci := 1) (v := .int 8) (ty := .int) (C := rn_C) (T := fn_C) (N := 11) hx hb hg in_C tn_C tk_C nn_C hown hK hP hD hS 0 rfl rfl 1 (by decide) (hg _ wn_3_146) (fun _ h9 => h9) rfl (tk_C 1 (by decide)) rfl rfl (Nat.le_of_ble_eq_true rfl) dn_C_append_39 (fun H locs hP hD hS => ?_)
  have hP : va_P (dC, dI) xcl [(h0, .inr (1, xo_C (va_up (va_up (va_up (va_up f0 1 (.int 5)) 1 (.int 6)) 1 (.int 7)) 1 (.int 8)))), (h1, .inl (cB, 512, .inl g_12))] H := hP
  have hD : va_D A [(h0, .inr (1, xo_C (va_up (va_up (va_up (va_up f0 1 (.int 5)) 1 (.int 6)) 1 (.int 7)) 1 (.int 8)))), (h1, .inl (cB, 512, .inl g_12))] := hD
  refine lv_iinc (v := (-8)) (lv' := [(2, .int (-8)), (0, .ref h0), (1, .int x0)]) hx hb dn_C_append_42 hl (k := 0) rfl (by decide) (by decide) rfl (fun ls hl => ?_)
  refine lv_goto (tgt := 3) hx hb dn_C_append_45 (by decide) ?_
  refine lv_iload_n hx hb dn_C_append_3 rfl (lv_at hl 0 rfl) ?_
  refine lv_if_lt (tgt := 48) hx hb dn_C_append_4 (by decide) (fun _ => ?_) (fun h9 => absurd h9 (by decide))
  have hP9 := hP.sub (ws' := [(h0, .inr (1, xo_C (va_up (va_up (va_up (va_up f0 1 (.int 5)) 1 (.int 6)) 1 (.int 7)) 1 (.int 8)))), (h1, .inl (cB, 512, .inl g_12))]) [0, 1] rfl
  have hD9 := hD.sub (ws' := [(h0, .inr (1, xo_C (va_up (va_up (va_up (va_up f0 1 (.int 5)) 1 (.int 6)) 1 (.int 7)) 1 (.int 8)))), (h1, .inl (cB, 512, .inl g_12))]) [0, 1] (by decide) rfl
  exact xk_vret (w1 := fun u : (Nat → Int32) => [(h0, .inr (1, xo_C (va_up (va_up (va_up (va_up f0 1 (.int 5)) 1 (.int 6)) 1 (.int 7)) 1 (.int 8)))), (h1, .inl (cB, 512, .inl u))]) (g_12) hx hb hr hlocks hK hS dn_C_append_48 hP9 hD9 trivial (Nat.le_refl _) (Nat.le_refl _)
set_option maxHeartbeats 4000000 in
set_option maxRecDepth 100000 in
theorem ct_C_append_2 (l : Launch) (dC : Nat → ClassId) (dI : Nat → Nat → Nat) (cI cB cJ cZ : ClassId) (sz : Nat) (h0 : Nat) (h1 : Nat) (x0 : Int32) (f0 : Nat → Value) (g0 : Nat → Int32) (hf0_0 : f0 0 = .ref h1) (hf0_1 : f0 1 = .int 8) : Met l yn_C_append (xw yn_C_append bn_C_append 3 none) ({ frames := 0, cells := 0, slots := 0, locals := 0 }) (xk_P (dC, dI) xcl (xt cI cB cJ cZ) [.ref h0, .int x0] sz [(h0, .inr (1, xo_C f0)), (h1, .inl (cB, 512, .inl g0))]) (xk_Qv (dC, dI) xcl (xt cI cB cJ cZ) (fun u : (Nat → Int32) => True) (fun u : (Nat → Int32) => [(h0, .inr (1, xo_C (va_up (va_up (va_up (va_up f0 1 (.int 9)) 1 (.int 10)) 1 (.int 11)) 1 (.int 12)))), (h1, .inl (cB, 512, .inl u))]) (va_A [(h0, .inr (1, xo_C f0)), (h1, .inl (cB, 512, .inl g0))] sz)) 0 0 (va_A [(h0, .inr (1, xo_C f0)), (h1, .inl (cB, 512, .inl g0))] sz) := by
  refine xk_of (QA := xk_Qv (dC, dI) xcl (xt cI cB cJ cZ) (fun u : (Nat → Int32) => True) (fun u : (Nat → Int32) => [(h0, .inr (1, xo_C (va_up (va_up (va_up (va_up f0 1 (.int 9)) 1 (.int 10)) 1 (.int 11)) 1 (.int 12)))), (h1, .inl (cB, 512, .inl u))])) (by decide) (Nat.le_of_ble_eq_true rfl) ?_
  intro p e s m below meth c hx hb hml hown hg hr hlocks hin hP hK hN A hA hD hS ls hl
  have hown : s.vm.findClass rn_C = some m.cls := hown
  have hl : lv_has ls 3 [(0, .ref h0), (1, .int x0)] := hl
  obtain ⟨H, hH⟩ : ∃ z, z = s.heap := ⟨_, rfl⟩
  rw [← hH] at hP
  have hS : va_S A s.heap H [] := by rw [hH]; exact va_S.rf
  suffices kk : W p l e ({ frames := 0, cells := 0, slots := 0, locals := 0 }) s m [.ref h0, .int x0].toArray below meth c H [] 0 0 (MQ below (xk_Qv (dC, dI) xcl (xt cI cB cJ cZ) (fun u : (Nat → Int32) => True) (fun u : (Nat → Int32) => [(h0, .inr (1, xo_C (va_up (va_up (va_up (va_up f0 1 (.int 9)) 1 (.int 10)) 1 (.int 11)) 1 (.int 12)))), (h1, .inl (cB, 512, .inl u))]) A) [.ref h0, .int x0].toArray s 0 0 A) (F0 m 0 ls []) by rw [hH] at kk; exact kk
  refine lv_bipush (v := 24) hx hb dn_C_append_0 (by decide) ?_
  refine lv_istore_n (lv' := [(2, .int 24), (0, .ref h0), (1, .int x0)]) hx hb dn_C_append_2 rfl hl (by decide) rfl (fun ls hl => ?_)
  refine lv_iload_n hx hb dn_C_append_3 rfl (lv_at hl 0 rfl) ?_
  refine lv_if_lt (tgt := 48) hx hb dn_C_append_4 (by decide) (fun h9 => absurd h9 (by decide)) (fun _ => ?_)
  refine lv_aload_n hx hb dn_C_append_7 rfl (lv_at hl 1 rfl) ?_
  refine va_get (D := (dC, dI)) (ci := 1) (v := .int 8) (C := rn_C) (T := fn_C) (N := 11) hx hb hg in_C hown hK hP 0 rfl rfl 1 (by decide) (hg _ wn_3_146) (fun _ h9 => h9) (congrArg some hf0_1) dn_C_append_8 ?_
  refine lv_aload_n hx hb dn_C_append_11 rfl (lv_at hl 1 rfl) ?_
  refine va_get (D := (dC, dI)) (ci := 1) (v := .ref h1) (C := rn_C) (T := fn_C) (N := 11) hx hb hg in_C hown hK hP 0 rfl rfl 0 (by decide) (hg _ wn_3_145) (fun _ h9 => h9) (congrArg some hf0_0) dn_C_append_12 ?_
  refine va_alen (v := 512) hx hb hK hP 1 1 rfl rfl rfl dn_C_append_15 ?_
  refine lv_icmp_ge (tgt := 48) hx hb dn_C_append_16 (by decide) (fun h9 => absurd h9 (by decide)) (fun _ => ?_)
  refine lv_aload_n hx hb dn_C_append_19 rfl (lv_at hl 1 rfl) ?_
  refine va_get (D := (dC, dI)) (ci := 1) (v := .ref h1) (C := rn_C) (T := fn_C) (N := 11) hx hb hg in_C hown hK hP 0 rfl rfl 0 (by decide) (hg _ wn_3_145) (fun _ h9 => h9) (congrArg some hf0_0) dn_C_append_20 ?_
  refine lv_aload_n hx hb dn_C_append_23 rfl (lv_at hl 1 rfl) ?_
  refine va_get (D := (dC, dI)) (ci := 1) (v := .int 8) (C := rn_C) (T := fn_C) (N := 11) hx hb hg in_C hown hK hP 0 rfl rfl 1 (by decide) (hg _ wn_3_146) (fun _ h9 => h9) (congrArg some hf0_1) dn_C_append_24 ?_
  refine lv_iload_n hx hb dn_C_append_27 rfl (lv_at hl 2 rfl) ?_
  refine lv_iload_n hx hb dn_C_append_28 rfl (lv_at hl 0 rfl) ?_
  refine lv_iushr hx hb dn_C_append_29 rfl ?_
  refine lv_topi (fun z_1 _ => ?_)
  refine lv_i2b hx hb dn_C_append_30 rfl ?_
  refine lv_topi (fun z_2 ez_2 => ?_)
  refine va_bast hx hb hK hP hD hS 1 1 rfl rfl (show ¬ (_ ∨ _) by decide) dn_C_append_31 (fun H locs hP hD hS => ?_)
  obtain ⟨g_3, eg_3⟩ : ∃ z : Nat → Int32, z = upd g0 (8 : Int32).toNatClampNeg (vp_nar .byte z_2) := ⟨_, rfl⟩
  have hP : va_P (dC, dI) xcl [(h0, .inr (1, xo_C f0)), (h1, .inl (cB, 512, .inl g_3))] H := by rw [eg_3]; exact hP
  have hD : va_D A [(h0, .inr (1, xo_C f0)), (h1, .inl (cB, 512, .inl g_3))] := by rw [eg_3]; exact hD
  refine lv_aload_n hx hb dn_C_append_32 rfl (lv_at hl 1 rfl) ?_
  refine lv_dup hx hb dn_C_append_33 rfl ?_
  refine va_get (D := (dC, dI)) (ci := 1) (v := .int 8) (C := rn_C) (T := fn_C) (N := 11) hx hb hg in_C hown hK hP 0 rfl rfl 1 (by decide) (hg _ wn_3_146) (fun _ h9 => h9) (congrArg some hf0_1) dn_C_append_34 ?_
  refine lv_iconst (v := 1) hx hb dn_C_append_37 (by decide) ?_
  refine lv_iadd hx hb dn_C_append_38 ?_
  refine xk_ti (y := 9) (by decide) ?_
  refine va_put (D := (dC, dI)) (ci := 1) (v := .int 9) (ty := .int) (C := rn_C) (T := fn_C) (N := 11) hx hb hg in_C tn_C tk_C nn_C hown hK hP hD hS 0 rfl rfl 1 (by decide) (hg _ wn_3_146) (fun _ h9 => h9) rfl (tk_C 1 (by decide)) rfl rfl (Nat.le_of_ble_eq_true rfl) dn_C_append_39 (fun H locs hP hD hS => ?_)
  have hP : va_P (dC, dI) xcl [(h0, .inr (1, xo_C (va_up f0 1 (.int 9)))), (h1, .inl (cB, 512, .inl g_3))] H := hP
  have hD : va_D A [(h0, .inr (1, xo_C (va_up f0 1 (.int 9)))), (h1, .inl (cB, 512, .inl g_3))] := hD
  refine lv_iinc (v := 16) (lv' := [(2, .int 16), (0, .ref h0), (1, .int x0)]) hx hb dn_C_append_42 hl (k := 0) rfl (by decide) (by decide) rfl (fun ls hl => ?_)
  refine lv_goto (tgt := 3) hx hb dn_C_append_45 (by decide) ?_
  refine lv_iload_n hx hb dn_C_append_3 rfl (lv_at hl 0 rfl) ?_
  refine lv_if_lt (tgt := 48) hx hb dn_C_append_4 (by decide) (fun h9 => absurd h9 (by decide)) (fun _ => ?_)
  refine lv_aload_n hx hb dn_C_append_7 rfl (lv_at hl 1 rfl) ?_
  refine va_get (D := (dC, dI)) (ci := 1) (v := .int 9) (C := rn_C) (T := fn_C) (N := 11) hx hb hg in_C hown hK hP 0 rfl rfl 1 (by decide) (hg _ wn_3_146) (fun _ h9 => h9) rfl dn_C_append_8 ?_
  refine lv_aload_n hx hb dn_C_append_11 rfl (lv_at hl 1 rfl) ?_
  refine va_get (D := (dC, dI)) (ci := 1) (v := .ref h1) (C := rn_C) (T := fn_C) (N := 11) hx hb hg in_C hown hK hP 0 rfl rfl 0 (by decide) (hg _ wn_3_145) (fun _ h9 => h9) (congrArg some hf0_0) dn_C_append_12 ?_
  refine va_alen (v := 512) hx hb hK hP 1 1 rfl rfl rfl dn_C_append_15 ?_
  refine lv_icmp_ge (tgt := 48) hx hb dn_C_append_16 (by decide) (fun h9 => absurd h9 (by decide)) (fun _ => ?_)
  refine lv_aload_n hx hb dn_C_append_19 rfl (lv_at hl 1 rfl) ?_
  refine va_get (D := (dC, dI)) (ci := 1) (v := .ref h1) (C := rn_C) (T := fn_C) (N := 11) hx hb hg in_C hown hK hP 0 rfl rfl 0 (by decide) (hg _ wn_3_145) (fun _ h9 => h9) (congrArg some hf0_0) dn_C_append_20 ?_
  refine lv_aload_n hx hb dn_C_append_23 rfl (lv_at hl 1 rfl) ?_
  refine va_get (D := (dC, dI)) (ci := 1) (v := .int 9) (C := rn_C) (T := fn_C) (N := 11) hx hb hg in_C hown hK hP 0 rfl rfl 1 (by decide) (hg _ wn_3_146) (fun _ h9 => h9) rfl dn_C_append_24 ?_
  refine lv_iload_n hx hb dn_C_append_27 rfl (lv_at hl 2 rfl) ?_
  refine lv_iload_n hx hb dn_C_append_28 rfl (lv_at hl 0 rfl) ?_
  refine lv_iushr hx hb dn_C_append_29 rfl ?_
  refine lv_topi (fun z_4 _ => ?_)
  refine lv_i2b hx hb dn_C_append_30 rfl ?_
  refine lv_topi (fun z_5 ez_5 => ?_)
  refine va_bast hx hb hK hP hD hS 1 1 rfl rfl (show ¬ (_ ∨ _) by decide) dn_C_append_31 (fun H locs hP hD hS => ?_)
  obtain ⟨g_6, eg_6⟩ : ∃ z : Nat → Int32, z = upd g_3 (9 : Int32).toNatClampNeg (vp_nar .byte z_5) := ⟨_, rfl⟩
  have hP : va_P (dC, dI) xcl [(h0, .inr (1, xo_C (va_up f0 1 (.int 9)))), (h1, .inl (cB, 512, .inl g_6))] H := by rw [eg_6]; exact hP
  have hD : va_D A [(h0, .inr (1, xo_C (va_up f0 1 (.int 9)))), (h1, .inl (cB, 512, .inl g_6))] := by rw [eg_6]; exact hD
  refine lv_aload_n hx hb dn_C_append_32 rfl (lv_at hl 1 rfl) ?_
  refine lv_dup hx hb dn_C_append_33 rfl ?_
  refine va_get (D := (dC, dI)) (ci := 1) (v := .int 9) (C := rn_C) (T := fn_C) (N := 11) hx hb hg in_C hown hK hP 0 rfl rfl 1 (by decide) (hg _ wn_3_146) (fun _ h9 => h9) rfl dn_C_append_34 ?_
  refine lv_iconst (v := 1) hx hb dn_C_append_37 (by decide) ?_
  refine lv_iadd hx hb dn_C_append_38 ?_
  refine xk_ti (y := 10) (by decide) ?_
  refine va_put (D := (dC, dI)) (ci := 1) (v := .int 10) (ty := .int) (C := rn_C) (T := fn_C) (N := 11) hx hb hg in_C tn_C tk_C nn_C hown hK hP hD hS 0 rfl rfl 1 (by decide) (hg _ wn_3_146) (fun _ h9 => h9) rfl (tk_C 1 (by decide)) rfl rfl (Nat.le_of_ble_eq_true rfl) dn_C_append_39 (fun H locs hP hD hS => ?_)
  have hP : va_P (dC, dI) xcl [(h0, .inr (1, xo_C (va_up (va_up f0 1 (.int 9)) 1 (.int 10)))), (h1, .inl (cB, 512, .inl g_6))] H := hP
  have hD : va_D A [(h0, .inr (1, xo_C (va_up (va_up f0 1 (.int 9)) 1 (.int 10)))), (h1, .inl (cB, 512, .inl g_6))] := hD
  refine lv_iinc (v := 8) (lv' := [(2, .int 8), (0, .ref h0), (1, .int x0)]) hx hb dn_C_append_42 hl (k := 0) rfl (by decide) (by decide) rfl (fun ls hl => ?_)
  refine lv_goto (tgt := 3) hx hb dn_C_append_45 (by decide) ?_
  refine lv_iload_n hx hb dn_C_append_3 rfl (lv_at hl 0 rfl) ?_
  refine lv_if_lt (tgt := 48) hx hb dn_C_append_4 (by decide) (fun h9 => absurd h9 (by decide)) (fun _ => ?_)
  refine lv_aload_n hx hb dn_C_append_7 rfl (lv_at hl 1 rfl) ?_
  refine va_get (D := (dC, dI)) (ci := 1) (v := .int 10) (C := rn_C) (T := fn_C) (N := 11) hx hb hg in_C hown hK hP 0 rfl rfl 1 (by decide) (hg _ wn_3_146) (fun _ h9 => h9) rfl dn_C_append_8 ?_
  refine lv_aload_n hx hb dn_C_append_11 rfl (lv_at hl 1 rfl) ?_
  refine va_get (D := (dC, dI)) (ci := 1) (v := .ref h1) (C := rn_C) (T := fn_C) (N := 11) hx hb hg in_C hown hK hP 0 rfl rfl 0 (by decide) (hg _ wn_3_145) (fun _ h9 => h9) (congrArg some hf0_0) dn_C_append_12 ?_
  refine va_alen (v := 512) hx hb hK hP 1 1 rfl rfl rfl dn_C_append_15 ?_
  refine lv_icmp_ge (tgt := 48) hx hb dn_C_append_16 (by decide) (fun h9 => absurd h9 (by decide)) (fun _ => ?_)
  refine lv_aload_n hx hb dn_C_append_19 rfl (lv_at hl 1 rfl) ?_
  refine va_get (D := (dC, dI)) (ci := 1) (v := .ref h1) (C := rn_C) (T := fn_C) (N := 11) hx hb hg in_C hown hK hP 0 rfl rfl 0 (by decide) (hg _ wn_3_145) (fun _ h9 => h9) (congrArg some hf0_0) dn_C_append_20 ?_
  refine lv_aload_n hx hb dn_C_append_23 rfl (lv_at hl 1 rfl) ?_
  refine va_get (D := (dC, dI)) (ci := 1) (v := .int 10) (C := rn_C) (T := fn_C) (N := 11) hx hb hg in_C hown hK hP 0 rfl rfl 1 (by decide) (hg _ wn_3_146) (fun _ h9 => h9) rfl dn_C_append_24 ?_
  refine lv_iload_n hx hb dn_C_append_27 rfl (lv_at hl 2 rfl) ?_
  refine lv_iload_n hx hb dn_C_append_28 rfl (lv_at hl 0 rfl) ?_
  refine lv_iushr hx hb dn_C_append_29 rfl ?_
  refine lv_topi (fun z_7 _ => ?_)
  refine lv_i2b hx hb dn_C_append_30 rfl ?_
  refine lv_topi (fun z_8 ez_8 => ?_)
  refine va_bast hx hb hK hP hD hS 1 1 rfl rfl (show ¬ (_ ∨ _) by decide) dn_C_append_31 (fun H locs hP hD hS => ?_)
  obtain ⟨g_9, eg_9⟩ : ∃ z : Nat → Int32, z = upd g_6 (10 : Int32).toNatClampNeg (vp_nar .byte z_8) := ⟨_, rfl⟩
  have hP : va_P (dC, dI) xcl [(h0, .inr (1, xo_C (va_up (va_up f0 1 (.int 9)) 1 (.int 10)))), (h1, .inl (cB, 512, .inl g_9))] H := by rw [eg_9]; exact hP
  have hD : va_D A [(h0, .inr (1, xo_C (va_up (va_up f0 1 (.int 9)) 1 (.int 10)))), (h1, .inl (cB, 512, .inl g_9))] := by rw [eg_9]; exact hD
  refine lv_aload_n hx hb dn_C_append_32 rfl (lv_at hl 1 rfl) ?_
  refine lv_dup hx hb dn_C_append_33 rfl ?_
  refine va_get (D := (dC, dI)) (ci := 1) (v := .int 10) (C := rn_C) (T := fn_C) (N := 11) hx hb hg in_C hown hK hP 0 rfl rfl 1 (by decide) (hg _ wn_3_146) (fun _ h9 => h9) rfl dn_C_append_34 ?_
  refine lv_iconst (v := 1) hx hb dn_C_append_37 (by decide) ?_
  refine lv_iadd hx hb dn_C_append_38 ?_
  refine xk_ti (y := 11) (by decide) ?_
  refine va_put (D := (dC, dI)) (ci := 1) (v := .int 11) (ty := .int) (C := rn_C) (T := fn_C) (N := 11) hx hb hg in_C tn_C tk_C nn_C hown hK hP hD hS 0 rfl rfl 1 (by decide) (hg _ wn_3_146) (fun _ h9 => h9) rfl (tk_C 1 (by decide)) rfl rfl (Nat.le_of_ble_eq_true rfl) dn_C_append_39 (fun H locs hP hD hS => ?_)
  have hP : va_P (dC, dI) xcl [(h0, .inr (1, xo_C (va_up (va_up (va_up f0 1 (.int 9)) 1 (.int 10)) 1 (.int 11)))), (h1, .inl (cB, 512, .inl g_9))] H := hP
  have hD : va_D A [(h0, .inr (1, xo_C (va_up (va_up (va_up f0 1 (.int 9)) 1 (.int 10)) 1 (.int 11)))), (h1, .inl (cB, 512, .inl g_9))] := hD
  refine lv_iinc (v := 0) (lv' := [(2, .int 0), (0, .ref h0), (1, .int x0)]) hx hb dn_C_append_42 hl (k := 0) rfl (by decide) (by decide) rfl (fun ls hl => ?_)
  refine lv_goto (tgt := 3) hx hb dn_C_append_45 (by decide) ?_
  refine lv_iload_n hx hb dn_C_append_3 rfl (lv_at hl 0 rfl) ?_
  refine lv_if_lt (tgt := 48) hx hb dn_C_append_4 (by decide) (fun h9 => absurd h9 (by decide)) (fun _ => ?_)
  refine lv_aload_n hx hb dn_C_append_7 rfl (lv_at hl 1 rfl) ?_
  refine va_get (D := (dC, dI)) (ci := 1) (v := .int 11) (C := rn_C) (T := fn_C) (N := 11) hx hb hg in_C hown hK hP 0 rfl rfl 1 (by decide) (hg _ wn_3_146) (fun _ h9 => h9) rfl dn_C_append_8 ?_
  refine lv_aload_n hx hb dn_C_append_11 rfl (lv_at hl 1 rfl) ?_
  refine va_get (D := (dC, dI)) (ci := 1) (v := .ref h1) (C := rn_C) (T := fn_C) (N := 11) hx hb hg in_C hown hK hP 0 rfl rfl 0 (by decide) (hg _ wn_3_145) (fun _ h9 => h9) (congrArg some hf0_0) dn_C_append_12 ?_
  refine va_alen (v := 512) hx hb hK hP 1 1 rfl rfl rfl dn_C_append_15 ?_
  refine lv_icmp_ge (tgt := 48) hx hb dn_C_append_16 (by decide) (fun h9 => absurd h9 (by decide)) (fun _ => ?_)
  refine lv_aload_n hx hb dn_C_append_19 rfl (lv_at hl 1 rfl) ?_
  refine va_get (D := (dC, dI)) (ci := 1) (v := .ref h1) (C := rn_C) (T := fn_C) (N := 11) hx hb hg in_C hown hK hP 0 rfl rfl 0 (by decide) (hg _ wn_3_145) (fun _ h9 => h9) (congrArg some hf0_0) dn_C_append_20 ?_
  refine lv_aload_n hx hb dn_C_append_23 rfl (lv_at hl 1 rfl) ?_
  refine va_get (D := (dC, dI)) (ci := 1) (v := .int 11) (C := rn_C) (T := fn_C) (N := 11) hx hb hg in_C hown hK hP 0 rfl rfl 1 (by decide) (hg _ wn_3_146) (fun _ h9 => h9) rfl dn_C_append_24 ?_
  refine lv_iload_n hx hb dn_C_append_27 rfl (lv_at hl 2 rfl) ?_
  refine lv_iload_n hx hb dn_C_append_28 rfl (lv_at hl 0 rfl) ?_
  refine lv_iushr hx hb dn_C_append_29 rfl ?_
  refine lv_topi (fun z_10 _ => ?_)
  refine lv_i2b hx hb dn_C_append_30 rfl ?_
  refine lv_topi (fun z_11 ez_11 => ?_)
  refine va_bast hx hb hK hP hD hS 1 1 rfl rfl (show ¬ (_ ∨ _) by decide) dn_C_append_31 (fun H locs hP hD hS => ?_)
  obtain ⟨g_12, eg_12⟩ : ∃ z : Nat → Int32, z = upd g_9 (11 : Int32).toNatClampNeg (vp_nar .byte z_11) := ⟨_, rfl⟩
  have hP : va_P (dC, dI) xcl [(h0, .inr (1, xo_C (va_up (va_up (va_up f0 1 (.int 9)) 1 (.int 10)) 1 (.int 11)))), (h1, .inl (cB, 512, .inl g_12))] H := by rw [eg_12]; exact hP
  have hD : va_D A [(h0, .inr (1, xo_C (va_up (va_up (va_up f0 1 (.int 9)) 1 (.int 10)) 1 (.int 11)))), (h1, .inl (cB, 512, .inl g_12))] := by rw [eg_12]; exact hD
  refine lv_aload_n hx hb dn_C_append_32 rfl (lv_at hl 1 rfl) ?_
  refine lv_dup hx hb dn_C_append_33 rfl ?_
  refine va_get (D := (dC, dI)) (ci := 1) (v := .int 11) (C := rn_C) (T := fn_C) (N := 11) hx hb hg in_C hown hK hP 0 rfl rfl 1 (by decide) (hg _ wn_3_146) (fun _ h9 => h9) rfl dn_C_append_34 ?_
  refine lv_iconst (v := 1) hx hb dn_C_append_37 (by decide) ?_
  refine lv_iadd hx hb dn_C_append_38 ?_
  refine xk_ti (y := 12) (by decide) ?_
  refine va_put (D := (dC, dI)) (ci := 1) (v := .int 12) (ty := .int) (C := rn_C) (T := fn_C) (N := 11) hx hb hg in_C tn_C tk_C nn_C hown hK hP hD hS 0 rfl rfl 1 (by decide) (hg _ wn_3_146) (fun _ h9 => h9) rfl (tk_C 1 (by decide)) rfl rfl (Nat.le_of_ble_eq_true rfl) dn_C_append_39 (fun H locs hP hD hS => ?_)
  have hP : va_P (dC, dI) xcl [(h0, .inr (1, xo_C (va_up (va_up (va_up (va_up f0 1 (.int 9)) 1 (.int 10)) 1 (.int 11)) 1 (.int 12)))), (h1, .inl (cB, 512, .inl g_12))] H := hP
  have hD : va_D A [(h0, .inr (1, xo_C (va_up (va_up (va_up (va_up f0 1 (.int 9)) 1 (.int 10)) 1 (.int 11)) 1 (.int 12)))), (h1, .inl (cB, 512, .inl g_12))] := hD
  refine lv_iinc (v := (-8)) (lv' := [(2, .int (-8)), (0, .ref h0), (1, .int x0)]) hx hb dn_C_append_42 hl (k := 0) rfl (by decide) (by decide) rfl (fun ls hl => ?_)
  refine lv_goto (tgt := 3) hx hb dn_C_append_45 (by decide) ?_
  refine lv_iload_n hx hb dn_C_append_3 rfl (lv_at hl 0 rfl) ?_
  refine lv_if_lt (tgt := 48) hx hb dn_C_append_4 (by decide) (fun _ => ?_) (fun h9 => absurd h9 (by decide))
  have hP9 := hP.sub (ws' := [(h0, .inr (1, xo_C (va_up (va_up (va_up (va_up f0 1 (.int 9)) 1 (.int 10)) 1 (.int 11)) 1 (.int 12)))), (h1, .inl (cB, 512, .inl g_12))]) [0, 1] rfl
  have hD9 := hD.sub (ws' := [(h0, .inr (1, xo_C (va_up (va_up (va_up (va_up f0 1 (.int 9)) 1 (.int 10)) 1 (.int 11)) 1 (.int 12)))), (h1, .inl (cB, 512, .inl g_12))]) [0, 1] (by decide) rfl
  exact xk_vret (w1 := fun u : (Nat → Int32) => [(h0, .inr (1, xo_C (va_up (va_up (va_up (va_up f0 1 (.int 9)) 1 (.int 10)) 1 (.int 11)) 1 (.int 12)))), (h1, .inl (cB, 512, .inl u))]) (g_12) hx hb hr hlocks hK hS dn_C_append_48 hP9 hD9 trivial (Nat.le_refl _) (Nat.le_refl _)
set_option maxHeartbeats 4000000 in
set_option maxRecDepth 100000 in
theorem ct_C_append_3 (l : Launch) (dC : Nat → ClassId) (dI : Nat → Nat → Nat) (cI cB cJ cZ : ClassId) (sz : Nat) (h0 : Nat) (h1 : Nat) (x0 : Int32) (f0 : Nat → Value) (g0 : Nat → Int32) (hf0_0 : f0 0 = .ref h1) (hf0_1 : f0 1 = .int 12) : Met l yn_C_append (xw yn_C_append bn_C_append 3 none) ({ frames := 0, cells := 0, slots := 0, locals := 0 }) (xk_P (dC, dI) xcl (xt cI cB cJ cZ) [.ref h0, .int x0] sz [(h0, .inr (1, xo_C f0)), (h1, .inl (cB, 512, .inl g0))]) (xk_Qv (dC, dI) xcl (xt cI cB cJ cZ) (fun u : (Nat → Int32) => True) (fun u : (Nat → Int32) => [(h0, .inr (1, xo_C (va_up (va_up (va_up (va_up f0 1 (.int 13)) 1 (.int 14)) 1 (.int 15)) 1 (.int 16)))), (h1, .inl (cB, 512, .inl u))]) (va_A [(h0, .inr (1, xo_C f0)), (h1, .inl (cB, 512, .inl g0))] sz)) 0 0 (va_A [(h0, .inr (1, xo_C f0)), (h1, .inl (cB, 512, .inl g0))] sz) := by
  refine xk_of (QA := xk_Qv (dC, dI) xcl (xt cI cB cJ cZ) (fun u : (Nat → Int32) => True) (fun u : (Nat → Int32) => [(h0, .inr (1, xo_C (va_up (va_up (va_up (va_up f0 1 (.int 13)) 1 (.int 14)) 1 (.int 15)) 1 (.int 16)))), (h1, .inl (cB, 512, .inl u))])) (by decide) (Nat.le_of_ble_eq_true rfl) ?_
  intro p e s m below meth c hx hb hml hown hg hr hlocks hin hP hK hN A hA hD hS ls hl
  have hown : s.vm.findClass rn_C = some m.cls := hown
  have hl : lv_has ls 3 [(0, .ref h0), (1, .int x0)] := hl
  obtain ⟨H, hH⟩ : ∃ z, z = s.heap := ⟨_, rfl⟩
  rw [← hH] at hP
  have hS : va_S A s.heap H [] := by rw [hH]; exact va_S.rf
  suffices kk : W p l e ({ frames := 0, cells := 0, slots := 0, locals := 0 }) s m [.ref h0, .int x0].toArray below meth c H [] 0 0 (MQ below (xk_Qv (dC, dI) xcl (xt cI cB cJ cZ) (fun u : (Nat → Int32) => True) (fun u : (Nat → Int32) => [(h0, .inr (1, xo_C (va_up (va_up (va_up (va_up f0 1 (.int 13)) 1 (.int 14)) 1 (.int 15)) 1 (.int 16)))), (h1, .inl (cB, 512, .inl u))]) A) [.ref h0, .int x0].toArray s 0 0 A) (F0 m 0 ls []) by rw [hH] at kk; exact kk
  refine lv_bipush (v := 24) hx hb dn_C_append_0 (by decide) ?_
  refine lv_istore_n (lv' := [(2, .int 24), (0, .ref h0), (1, .int x0)]) hx hb dn_C_append_2 rfl hl (by decide) rfl (fun ls hl => ?_)
  refine lv_iload_n hx hb dn_C_append_3 rfl (lv_at hl 0 rfl) ?_
  refine lv_if_lt (tgt := 48) hx hb dn_C_append_4 (by decide) (fun h9 => absurd h9 (by decide)) (fun _ => ?_)
  refine lv_aload_n hx hb dn_C_append_7 rfl (lv_at hl 1 rfl) ?_
  refine va_get (D := (dC, dI)) (ci := 1) (v := .int 12) (C := rn_C) (T := fn_C) (N := 11) hx hb hg in_C hown hK hP 0 rfl rfl 1 (by decide) (hg _ wn_3_146) (fun _ h9 => h9) (congrArg some hf0_1) dn_C_append_8 ?_
  refine lv_aload_n hx hb dn_C_append_11 rfl (lv_at hl 1 rfl) ?_
  refine va_get (D := (dC, dI)) (ci := 1) (v := .ref h1) (C := rn_C) (T := fn_C) (N := 11) hx hb hg in_C hown hK hP 0 rfl rfl 0 (by decide) (hg _ wn_3_145) (fun _ h9 => h9) (congrArg some hf0_0) dn_C_append_12 ?_
  refine va_alen (v := 512) hx hb hK hP 1 1 rfl rfl rfl dn_C_append_15 ?_
  refine lv_icmp_ge (tgt := 48) hx hb dn_C_append_16 (by decide) (fun h9 => absurd h9 (by decide)) (fun _ => ?_)
  refine lv_aload_n hx hb dn_C_append_19 rfl (lv_at hl 1 rfl) ?_
  refine va_get (D := (dC, dI)) (ci := 1) (v := .ref h1) (C := rn_C) (T := fn_C) (N := 11) hx hb hg in_C hown hK hP 0 rfl rfl 0 (by decide) (hg _ wn_3_145) (fun _ h9 => h9) (congrArg some hf0_0) dn_C_append_20 ?_
  refine lv_aload_n hx hb dn_C_append_23 rfl (lv_at hl 1 rfl) ?_
  refine va_get (D := (dC, dI)) (ci := 1) (v := .int 12) (C := rn_C) (T := fn_C) (N := 11) hx hb hg in_C hown hK hP 0 rfl rfl 1 (by decide) (hg _ wn_3_146) (fun _ h9 => h9) (congrArg some hf0_1) dn_C_append_24 ?_
  refine lv_iload_n hx hb dn_C_append_27 rfl (lv_at hl 2 rfl) ?_
  refine lv_iload_n hx hb dn_C_append_28 rfl (lv_at hl 0 rfl) ?_
  refine lv_iushr hx hb dn_C_append_29 rfl ?_
  refine lv_topi (fun z_1 _ => ?_)
  refine lv_i2b hx hb dn_C_append_30 rfl ?_
  refine lv_topi (fun z_2 ez_2 => ?_)
  refine va_bast hx hb hK hP hD hS 1 1 rfl rfl (show ¬ (_ ∨ _) by decide) dn_C_append_31 (fun H locs hP hD hS => ?_)
  obtain ⟨g_3, eg_3⟩ : ∃ z : Nat → Int32, z = upd g0 (12 : Int32).toNatClampNeg (vp_nar .byte z_2) := ⟨_, rfl⟩
  have hP : va_P (dC, dI) xcl [(h0, .inr (1, xo_C f0)), (h1, .inl (cB, 512, .inl g_3))] H := by rw [eg_3]; exact hP
  have hD : va_D A [(h0, .inr (1, xo_C f0)), (h1, .inl (cB, 512, .inl g_3))] := by rw [eg_3]; exact hD
  refine lv_aload_n hx hb dn_C_append_32 rfl (lv_at hl 1 rfl) ?_
  refine lv_dup hx hb dn_C_append_33 rfl ?_
  refine va_get (D := (dC, dI)) (ci := 1) (v := .int 12) (C := rn_C) (T := fn_C) (N := 11) hx hb hg in_C hown hK hP 0 rfl rfl 1 (by decide) (hg _ wn_3_146) (fun _ h9 => h9) (congrArg some hf0_1) dn_C_append_34 ?_
  refine lv_iconst (v := 1) hx hb dn_C_append_37 (by decide) ?_
  refine lv_iadd hx hb dn_C_append_38 ?_
  refine xk_ti (y := 13) (by decide) ?_
  refine va_put (D := (dC, dI)) (ci := 1) (v := .int 13) (ty := .int) (C := rn_C) (T := fn_C) (N := 11) hx hb hg in_C tn_C tk_C nn_C hown hK hP hD hS 0 rfl rfl 1 (by decide) (hg _ wn_3_146) (fun _ h9 => h9) rfl (tk_C 1 (by decide)) rfl rfl (Nat.le_of_ble_eq_true rfl) dn_C_append_39 (fun H locs hP hD hS => ?_)
  have hP : va_P (dC, dI) xcl [(h0, .inr (1, xo_C (va_up f0 1 (.int 13)))), (h1, .inl (cB, 512, .inl g_3))] H := hP
  have hD : va_D A [(h0, .inr (1, xo_C (va_up f0 1 (.int 13)))), (h1, .inl (cB, 512, .inl g_3))] := hD
  refine lv_iinc (v := 16) (lv' := [(2, .int 16), (0, .ref h0), (1, .int x0)]) hx hb dn_C_append_42 hl (k := 0) rfl (by decide) (by decide) rfl (fun ls hl => ?_)
  refine lv_goto (tgt := 3) hx hb dn_C_append_45 (by decide) ?_
  refine lv_iload_n hx hb dn_C_append_3 rfl (lv_at hl 0 rfl) ?_
  refine lv_if_lt (tgt := 48) hx hb dn_C_append_4 (by decide) (fun h9 => absurd h9 (by decide)) (fun _ => ?_)
  refine lv_aload_n hx hb dn_C_append_7 rfl (lv_at hl 1 rfl) ?_
  refine va_get (D := (dC, dI)) (ci := 1) (v := .int 13) (C := rn_C) (T := fn_C) (N := 11) hx hb hg in_C hown hK hP 0 rfl rfl 1 (by decide) (hg _ wn_3_146) (fun _ h9 => h9) rfl dn_C_append_8 ?_
  refine lv_aload_n hx hb dn_C_append_11 rfl (lv_at hl 1 rfl) ?_
  refine va_get (D := (dC, dI)) (ci := 1) (v := .ref h1) (C := rn_C) (T := fn_C) (N := 11) hx hb hg in_C hown hK hP 0 rfl rfl 0 (by decide) (hg _ wn_3_145) (fun _ h9 => h9) (congrArg some hf0_0) dn_C_append_12 ?_
  refine va_alen (v := 512) hx hb hK hP 1 1 rfl rfl rfl dn_C_append_15 ?_
  refine lv_icmp_ge (tgt := 48) hx hb dn_C_append_16 (by decide) (fun h9 => absurd h9 (by decide)) (fun _ => ?_)
  refine lv_aload_n hx hb dn_C_append_19 rfl (lv_at hl 1 rfl) ?_
  refine va_get (D := (dC, dI)) (ci := 1) (v := .ref h1) (C := rn_C) (T := fn_C) (N := 11) hx hb hg in_C hown hK hP 0 rfl rfl 0 (by decide) (hg _ wn_3_145) (fun _ h9 => h9) (congrArg some hf0_0) dn_C_append_20 ?_
  refine lv_aload_n hx hb dn_C_append_23 rfl (lv_at hl 1 rfl) ?_
  refine va_get (D := (dC, dI)) (ci := 1) (v := .int 13) (C := rn_C) (T := fn_C) (N := 11) hx hb hg in_C hown hK hP 0 rfl rfl 1 (by decide) (hg _ wn_3_146) (fun _ h9 => h9) rfl dn_C_append_24 ?_
  refine lv_iload_n hx hb dn_C_append_27 rfl (lv_at hl 2 rfl) ?_
  refine lv_iload_n hx hb dn_C_append_28 rfl (lv_at hl 0 rfl) ?_
  refine lv_iushr hx hb dn_C_append_29 rfl ?_
  refine lv_topi (fun z_4 _ => ?_)
  refine lv_i2b hx hb dn_C_append_30 rfl ?_
  refine lv_topi (fun z_5 ez_5 => ?_)
  refine va_bast hx hb hK hP hD hS 1 1 rfl rfl (show ¬ (_ ∨ _) by decide) dn_C_append_31 (fun H locs hP hD hS => ?_)
  obtain ⟨g_6, eg_6⟩ : ∃ z : Nat → Int32, z = upd g_3 (13 : Int32).toNatClampNeg (vp_nar .byte z_5) := ⟨_, rfl⟩
  have hP : va_P (dC, dI) xcl [(h0, .inr (1, xo_C (va_up f0 1 (.int 13)))), (h1, .inl (cB, 512, .inl g_6))] H := by rw [eg_6]; exact hP
  have hD : va_D A [(h0, .inr (1, xo_C (va_up f0 1 (.int 13)))), (h1, .inl (cB, 512, .inl g_6))] := by rw [eg_6]; exact hD
  refine lv_aload_n hx hb dn_C_append_32 rfl (lv_at hl 1 rfl) ?_
  refine lv_dup hx hb dn_C_append_33 rfl ?_
  refine va_get (D := (dC, dI)) (ci := 1) (v := .int 13) (C := rn_C) (T := fn_C) (N := 11) hx hb hg in_C hown hK hP 0 rfl rfl 1 (by decide) (hg _ wn_3_146) (fun _ h9 => h9) rfl dn_C_append_34 ?_
  refine lv_iconst (v := 1) hx hb dn_C_append_37 (by decide) ?_
  refine lv_iadd hx hb dn_C_append_38 ?_
  refine xk_ti (y := 14) (by decide) ?_
  refine va_put (D := (dC, dI)) (ci := 1) (v := .int 14) (ty := .int) (C := rn_C) (T := fn_C) (N := 11) hx hb hg in_C tn_C tk_C nn_C hown hK hP hD hS 0 rfl rfl 1 (by decide) (hg _ wn_3_146) (fun _ h9 => h9) rfl (tk_C 1 (by decide)) rfl rfl (Nat.le_of_ble_eq_true rfl) dn_C_append_39 (fun H locs hP hD hS => ?_)
  have hP : va_P (dC, dI) xcl [(h0, .inr (1, xo_C (va_up (va_up f0 1 (.int 13)) 1 (.int 14)))), (h1, .inl (cB, 512, .inl g_6))] H := hP
  have hD : va_D A [(h0, .inr (1, xo_C (va_up (va_up f0 1 (.int 13)) 1 (.int 14)))), (h1, .inl (cB, 512, .inl g_6))] := hD
  refine lv_iinc (v := 8) (lv' := [(2, .int 8), (0, .ref h0), (1, .int x0)]) hx hb dn_C_append_42 hl (k := 0) rfl (by decide) (by decide) rfl (fun ls hl => ?_)
  refine lv_goto (tgt := 3) hx hb dn_C_append_45 (by decide) ?_
  refine lv_iload_n hx hb dn_C_append_3 rfl (lv_at hl 0 rfl) ?_
  refine lv_if_lt (tgt := 48) hx hb dn_C_append_4 (by decide) (fun h9 => absurd h9 (by decide)) (fun _ => ?_)
  refine lv_aload_n hx hb dn_C_append_7 rfl (lv_at hl 1 rfl) ?_
  refine va_get (D := (dC, dI)) (ci := 1) (v := .int 14) (C := rn_C) (T := fn_C) (N := 11) hx hb hg in_C hown hK hP 0 rfl rfl 1 (by decide) (hg _ wn_3_146) (fun _ h9 => h9) rfl dn_C_append_8 ?_
  refine lv_aload_n hx hb dn_C_append_11 rfl (lv_at hl 1 rfl) ?_
  refine va_get (D := (dC, dI)) (ci := 1) (v := .ref h1) (C := rn_C) (T := fn_C) (N := 11) hx hb hg in_C hown hK hP 0 rfl rfl 0 (by decide) (hg _ wn_3_145) (fun _ h9 => h9) (congrArg some hf0_0) dn_C_append_12 ?_
  refine va_alen (v := 512) hx hb hK hP 1 1 rfl rfl rfl dn_C_append_15 ?_
  refine lv_icmp_ge (tgt := 48) hx hb dn_C_append_16 (by decide) (fun h9 => absurd h9 (by decide)) (fun _ => ?_)
  refine lv_aload_n hx hb dn_C_append_19 rfl (lv_at hl 1 rfl) ?_
  refine va_get (D := (dC, dI)) (ci := 1) (v := .ref h1) (C := rn_C) (T := fn_C) (N := 11) hx hb hg in_C hown hK hP 0 rfl rfl 0 (by decide) (hg _ wn_3_145) (fun _ h9 => h9) (congrArg some hf0_0) dn_C_append_20 ?_
  refine lv_aload_n hx hb dn_C_append_23 rfl (lv_at hl 1 rfl) ?_
  refine va_get (D := (dC, dI)) (ci := 1) (v := .int 14) (C := rn_C) (T := fn_C) (N := 11) hx hb hg in_C hown hK hP 0 rfl rfl 1 (by decide) (hg _ wn_3_146) (fun _ h9 => h9) rfl dn_C_append_24 ?_
  refine lv_iload_n hx hb dn_C_append_27 rfl (lv_at hl 2 rfl) ?_
  refine lv_iload_n hx hb dn_C_append_28 rfl (lv_at hl 0 rfl) ?_
  refine lv_iushr hx hb dn_C_append_29 rfl ?_
  refine lv_topi (fun z_7 _ => ?_)
  refine lv_i2b hx hb dn_C_append_30 rfl ?_
  refine lv_topi (fun z_8 ez_8 => ?_)
  refine va_bast hx hb hK hP hD hS 1 1 rfl rfl (show ¬ (_ ∨ _) by decide) dn_C_append_31 (fun H locs hP hD hS => ?_)
  obtain ⟨g_9, eg_9⟩ : ∃ z : Nat → Int32, z = upd g_6 (14 : Int32).toNatClampNeg (vp_nar .byte z_8) := ⟨_, rfl⟩
  have hP : va_P (dC, dI) xcl [(h0, .inr (1, xo_C (va_up (va_up f0 1 (.int 13)) 1 (.int 14)))), (h1, .inl (cB, 512, .inl g_9))] H := by rw [eg_9]; exact hP
  have hD : va_D A [(h0, .inr (1, xo_C (va_up (va_up f0 1 (.int 13)) 1 (.int 14)))), (h1, .inl (cB, 512, .inl g_9))] := by rw [eg_9]; exact hD
  refine lv_aload_n hx hb dn_C_append_32 rfl (lv_at hl 1 rfl) ?_
  refine lv_dup hx hb dn_C_append_33 rfl ?_
  refine va_get (D := (dC, dI)) (ci := 1) (v := .int 14) (C := rn_C) (T := fn_C) (N := 11) hx hb hg in_C hown hK hP 0 rfl rfl 1 (by decide) (hg _ wn_3_146) (fun _ h9 => h9) rfl dn_C_append_34 ?_
  refine lv_iconst (v := 1) hx hb dn_C_append_37 (by decide) ?_
  refine lv_iadd hx hb dn_C_append_38 ?_
  refine xk_ti (y := 15) (by decide) ?_
  refine va_put (D := (dC, dI)) (ci := 1) (v := .int 15) (ty := .int) (C := rn_C) (T := fn_C) (N := 11) hx hb hg in_C tn_C tk_C nn_C hown hK hP hD hS 0 rfl rfl 1 (by decide) (hg _ wn_3_146) (fun _ h9 => h9) rfl (tk_C 1 (by decide)) rfl rfl (Nat.le_of_ble_eq_true rfl) dn_C_append_39 (fun H locs hP hD hS => ?_)
  have hP : va_P (dC, dI) xcl [(h0, .inr (1, xo_C (va_up (va_up (va_up f0 1 (.int 13)) 1 (.int 14)) 1 (.int 15)))), (h1, .inl (cB, 512, .inl g_9))] H := hP
  have hD : va_D A [(h0, .inr (1, xo_C (va_up (va_up (va_up f0 1 (.int 13)) 1 (.int 14)) 1 (.int 15)))), (h1, .inl (cB, 512, .inl g_9))] := hD
  refine lv_iinc (v := 0) (lv' := [(2, .int 0), (0, .ref h0), (1, .int x0)]) hx hb dn_C_append_42 hl (k := 0) rfl (by decide) (by decide) rfl (fun ls hl => ?_)
  refine lv_goto (tgt := 3) hx hb dn_C_append_45 (by decide) ?_
  refine lv_iload_n hx hb dn_C_append_3 rfl (lv_at hl 0 rfl) ?_
  refine lv_if_lt (tgt := 48) hx hb dn_C_append_4 (by decide) (fun h9 => absurd h9 (by decide)) (fun _ => ?_)
  refine lv_aload_n hx hb dn_C_append_7 rfl (lv_at hl 1 rfl) ?_
  refine va_get (D := (dC, dI)) (ci := 1) (v := .int 15) (C := rn_C) (T := fn_C) (N := 11) hx hb hg in_C hown hK hP 0 rfl rfl 1 (by decide) (hg _ wn_3_146) (fun _ h9 => h9) rfl dn_C_append_8 ?_
  refine lv_aload_n hx hb dn_C_append_11 rfl (lv_at hl 1 rfl) ?_
  refine va_get (D := (dC, dI)) (ci := 1) (v := .ref h1) (C := rn_C) (T := fn_C) (N := 11) hx hb hg in_C hown hK hP 0 rfl rfl 0 (by decide) (hg _ wn_3_145) (fun _ h9 => h9) (congrArg some hf0_0) dn_C_append_12 ?_
  refine va_alen (v := 512) hx hb hK hP 1 1 rfl rfl rfl dn_C_append_15 ?_
  refine lv_icmp_ge (tgt := 48) hx hb dn_C_append_16 (by decide) (fun h9 => absurd h9 (by decide)) (fun _ => ?_)
  refine lv_aload_n hx hb dn_C_append_19 rfl (lv_at hl 1 rfl) ?_
  refine va_get (D := (dC, dI)) (ci := 1) (v := .ref h1) (C := rn_C) (T := fn_C) (N := 11) hx hb hg in_C hown hK hP 0 rfl rfl 0 (by decide) (hg _ wn_3_145) (fun _ h9 => h9) (congrArg some hf0_0) dn_C_append_20 ?_
  refine lv_aload_n hx hb dn_C_append_23 rfl (lv_at hl 1 rfl) ?_
  refine va_get (D := (dC, dI)) (ci := 1) (v := .int 15) (C := rn_C) (T := fn_C) (N := 11) hx hb hg in_C hown hK hP 0 rfl rfl 1 (by decide) (hg _ wn_3_146) (fun _ h9 => h9) rfl dn_C_append_24 ?_
  refine lv_iload_n hx hb dn_C_append_27 rfl (lv_at hl 2 rfl) ?_
  refine lv_iload_n hx hb dn_C_append_28 rfl (lv_at hl 0 rfl) ?_
  refine lv_iushr hx hb dn_C_append_29 rfl ?_
  refine lv_topi (fun z_10 _ => ?_)
  refine lv_i2b hx hb dn_C_append_30 rfl ?_
  refine lv_topi (fun z_11 ez_11 => ?_)
  refine va_bast hx hb hK hP hD hS 1 1 rfl rfl (show ¬ (_ ∨ _) by decide) dn_C_append_31 (fun H locs hP hD hS => ?_)
  obtain ⟨g_12, eg_12⟩ : ∃ z : Nat → Int32, z = upd g_9 (15 : Int32).toNatClampNeg (vp_nar .byte z_11) := ⟨_, rfl⟩
  have hP : va_P (dC, dI) xcl [(h0, .inr (1, xo_C (va_up (va_up (va_up f0 1 (.int 13)) 1 (.int 14)) 1 (.int 15)))), (h1, .inl (cB, 512, .inl g_12))] H := by rw [eg_12]; exact hP
  have hD : va_D A [(h0, .inr (1, xo_C (va_up (va_up (va_up f0 1 (.int 13)) 1 (.int 14)) 1 (.int 15)))), (h1, .inl (cB, 512, .inl g_12))] := by rw [eg_12]; exact hD
  refine lv_aload_n hx hb dn_C_append_32 rfl (lv_at hl 1 rfl) ?_
  refine lv_dup hx hb dn_C_append_33 rfl ?_
  refine va_get (D := (dC, dI)) (ci := 1) (v := .int 15) (C := rn_C) (T := fn_C) (N := 11) hx hb hg in_C hown hK hP 0 rfl rfl 1 (by decide) (hg _ wn_3_146) (fun _ h9 => h9) rfl dn_C_append_34 ?_
  refine lv_iconst (v := 1) hx hb dn_C_append_37 (by decide) ?_
  refine lv_iadd hx hb dn_C_append_38 ?_
  refine xk_ti (y := 16) (by decide) ?_
  refine va_put (D := (dC, dI)) (ci := 1) (v := .int 16) (ty := .int) (C := rn_C) (T := fn_C) (N := 11) hx hb hg in_C tn_C tk_C nn_C hown hK hP hD hS 0 rfl rfl 1 (by decide) (hg _ wn_3_146) (fun _ h9 => h9) rfl (tk_C 1 (by decide)) rfl rfl (Nat.le_of_ble_eq_true rfl) dn_C_append_39 (fun H locs hP hD hS => ?_)
  have hP : va_P (dC, dI) xcl [(h0, .inr (1, xo_C (va_up (va_up (va_up (va_up f0 1 (.int 13)) 1 (.int 14)) 1 (.int 15)) 1 (.int 16)))), (h1, .inl (cB, 512, .inl g_12))] H := hP
  have hD : va_D A [(h0, .inr (1, xo_C (va_up (va_up (va_up (va_up f0 1 (.int 13)) 1 (.int 14)) 1 (.int 15)) 1 (.int 16)))), (h1, .inl (cB, 512, .inl g_12))] := hD
  refine lv_iinc (v := (-8)) (lv' := [(2, .int (-8)), (0, .ref h0), (1, .int x0)]) hx hb dn_C_append_42 hl (k := 0) rfl (by decide) (by decide) rfl (fun ls hl => ?_)
  refine lv_goto (tgt := 3) hx hb dn_C_append_45 (by decide) ?_
  refine lv_iload_n hx hb dn_C_append_3 rfl (lv_at hl 0 rfl) ?_
  refine lv_if_lt (tgt := 48) hx hb dn_C_append_4 (by decide) (fun _ => ?_) (fun h9 => absurd h9 (by decide))
  have hP9 := hP.sub (ws' := [(h0, .inr (1, xo_C (va_up (va_up (va_up (va_up f0 1 (.int 13)) 1 (.int 14)) 1 (.int 15)) 1 (.int 16)))), (h1, .inl (cB, 512, .inl g_12))]) [0, 1] rfl
  have hD9 := hD.sub (ws' := [(h0, .inr (1, xo_C (va_up (va_up (va_up (va_up f0 1 (.int 13)) 1 (.int 14)) 1 (.int 15)) 1 (.int 16)))), (h1, .inl (cB, 512, .inl g_12))]) [0, 1] (by decide) rfl
  exact xk_vret (w1 := fun u : (Nat → Int32) => [(h0, .inr (1, xo_C (va_up (va_up (va_up (va_up f0 1 (.int 13)) 1 (.int 14)) 1 (.int 15)) 1 (.int 16)))), (h1, .inl (cB, 512, .inl u))]) (g_12) hx hb hr hlocks hK hS dn_C_append_48 hP9 hD9 trivial (Nat.le_refl _) (Nat.le_refl _)
set_option maxHeartbeats 4000000 in
set_option maxRecDepth 100000 in
theorem ct_C_append_4 (l : Launch) (dC : Nat → ClassId) (dI : Nat → Nat → Nat) (cI cB cJ cZ : ClassId) (sz : Nat) (h0 : Nat) (h1 : Nat) (x0 : Int32) (f0 : Nat → Value) (g0 : Nat → Int32) (hf0_0 : f0 0 = .ref h1) (hf0_1 : f0 1 = .int 16) : Met l yn_C_append (xw yn_C_append bn_C_append 3 none) ({ frames := 0, cells := 0, slots := 0, locals := 0 }) (xk_P (dC, dI) xcl (xt cI cB cJ cZ) [.ref h0, .int x0] sz [(h0, .inr (1, xo_C f0)), (h1, .inl (cB, 512, .inl g0))]) (xk_Qv (dC, dI) xcl (xt cI cB cJ cZ) (fun u : (Nat → Int32) => True) (fun u : (Nat → Int32) => [(h0, .inr (1, xo_C (va_up (va_up (va_up (va_up f0 1 (.int 17)) 1 (.int 18)) 1 (.int 19)) 1 (.int 20)))), (h1, .inl (cB, 512, .inl u))]) (va_A [(h0, .inr (1, xo_C f0)), (h1, .inl (cB, 512, .inl g0))] sz)) 0 0 (va_A [(h0, .inr (1, xo_C f0)), (h1, .inl (cB, 512, .inl g0))] sz) := by
  refine xk_of (QA := xk_Qv (dC, dI) xcl (xt cI cB cJ cZ) (fun u : (Nat → Int32) => True) (fun u : (Nat → Int32) => [(h0, .inr (1, xo_C (va_up (va_up (va_up (va_up f0 1 (.int 17)) 1 (.int 18)) 1 (.int 19)) 1 (.int 20)))), (h1, .inl (cB, 512, .inl u))])) (by decide) (Nat.le_of_ble_eq_true rfl) ?_
  intro p e s m below meth c hx hb hml hown hg hr hlocks hin hP hK hN A hA hD hS ls hl
  have hown : s.vm.findClass rn_C = some m.cls := hown
  have hl : lv_has ls 3 [(0, .ref h0), (1, .int x0)] := hl
  obtain ⟨H, hH⟩ : ∃ z, z = s.heap := ⟨_, rfl⟩
  rw [← hH] at hP
  have hS : va_S A s.heap H [] := by rw [hH]; exact va_S.rf
  suffices kk : W p l e ({ frames := 0, cells := 0, slots := 0, locals := 0 }) s m [.ref h0, .int x0].toArray below meth c H [] 0 0 (MQ below (xk_Qv (dC, dI) xcl (xt cI cB cJ cZ) (fun u : (Nat → Int32) => True) (fun u : (Nat → Int32) => [(h0, .inr (1, xo_C (va_up (va_up (va_up (va_up f0 1 (.int 17)) 1 (.int 18)) 1 (.int 19)) 1 (.int 20)))), (h1, .inl (cB, 512, .inl u))]) A) [.ref h0, .int x0].toArray s 0 0 A) (F0 m 0 ls []) by rw [hH] at kk; exact kk
  refine lv_bipush (v := 24) hx hb dn_C_append_0 (by decide) ?_
  refine lv_istore_n (lv' := [(2, .int 24), (0, .ref h0), (1, .int x0)]) hx hb dn_C_append_2 rfl hl (by decide) rfl (fun ls hl => ?_)
  refine lv_iload_n hx hb dn_C_append_3 rfl (lv_at hl 0 rfl) ?_
  refine lv_if_lt (tgt := 48) hx hb dn_C_append_4 (by decide) (fun h9 => absurd h9 (by decide)) (fun _ => ?_)
  refine lv_aload_n hx hb dn_C_append_7 rfl (lv_at hl 1 rfl) ?_
  refine va_get (D := (dC, dI)) (ci := 1) (v := .int 16) (C := rn_C) (T := fn_C) (N := 11) hx hb hg in_C hown hK hP 0 rfl rfl 1 (by decide) (hg _ wn_3_146) (fun _ h9 => h9) (congrArg some hf0_1) dn_C_append_8 ?_
  refine lv_aload_n hx hb dn_C_append_11 rfl (lv_at hl 1 rfl) ?_
  refine va_get (D := (dC, dI)) (ci := 1) (v := .ref h1) (C := rn_C) (T := fn_C) (N := 11) hx hb hg in_C hown hK hP 0 rfl rfl 0 (by decide) (hg _ wn_3_145) (fun _ h9 => h9) (congrArg some hf0_0) dn_C_append_12 ?_
  refine va_alen (v := 512) hx hb hK hP 1 1 rfl rfl rfl dn_C_append_15 ?_
  refine lv_icmp_ge (tgt := 48) hx hb dn_C_append_16 (by decide) (fun h9 => absurd h9 (by decide)) (fun _ => ?_)
  refine lv_aload_n hx hb dn_C_append_19 rfl (lv_at hl 1 rfl) ?_
  refine va_get (D := (dC, dI)) (ci := 1) (v := .ref h1) (C := rn_C) (T := fn_C) (N := 11) hx hb hg in_C hown hK hP 0 rfl rfl 0 (by decide) (hg _ wn_3_145) (fun _ h9 => h9) (congrArg some hf0_0) dn_C_append_20 ?_
  refine lv_aload_n hx hb dn_C_append_23 rfl (lv_at hl 1 rfl) ?_
  refine va_get (D := (dC, dI)) (ci := 1) (v := .int 16) (C := rn_C) (T := fn_C) (N := 11) hx hb hg in_C hown hK hP 0 rfl rfl 1 (by decide) (hg _ wn_3_146) (fun _ h9 => h9) (congrArg some hf0_1) dn_C_append_24 ?_
  refine lv_iload_n hx hb dn_C_append_27 rfl (lv_at hl 2 rfl) ?_
  refine lv_iload_n hx hb dn_C_append_28 rfl (lv_at hl 0 rfl) ?_
  refine lv_iushr hx hb dn_C_append_29 rfl ?_
  refine lv_topi (fun z_1 _ => ?_)
  refine lv_i2b hx hb dn_C_append_30 rfl ?_
  refine lv_topi (fun z_2 ez_2 => ?_)
  refine va_bast hx hb hK hP hD hS 1 1 rfl rfl (show ¬ (_ ∨ _) by decide) dn_C_append_31 (fun H locs hP hD hS => ?_)
  obtain ⟨g_3, eg_3⟩ : ∃ z : Nat → Int32, z = upd g0 (16 : Int32).toNatClampNeg (vp_nar .byte z_2) := ⟨_, rfl⟩
  have hP : va_P (dC, dI) xcl [(h0, .inr (1, xo_C f0)), (h1, .inl (cB, 512, .inl g_3))] H := by rw [eg_3]; exact hP
  have hD : va_D A [(h0, .inr (1, xo_C f0)), (h1, .inl (cB, 512, .inl g_3))] := by rw [eg_3]; exact hD
  refine lv_aload_n hx hb dn_C_append_32 rfl (lv_at hl 1 rfl) ?_
  refine lv_dup hx hb dn_C_append_33 rfl ?_
  refine va_get (D := (dC, dI)) (ci := 1) (v := .int 16) (C := rn_C) (T := fn_C) (N := 11) hx hb hg in_C hown hK hP 0 rfl rfl 1 (by decide) (hg _ wn_3_146) (fun _ h9 => h9) (congrArg some hf0_1) dn_C_append_34 ?_
  refine lv_iconst (v := 1) hx hb dn_C_append_37 (by decide) ?_
  refine lv_iadd hx hb dn_C_append_38 ?_
  refine xk_ti (y := 17) (by decide) ?_
  refine va_put (D := (dC, dI)) (ci := 1) (v := .int 17) (ty := .int) (C := rn_C) (T := fn_C) (N := 11) hx hb hg in_C tn_C tk_C nn_C hown hK hP hD hS 0 rfl rfl 1 (by decide) (hg _ wn_3_146) (fun _ h9 => h9) rfl (tk_C 1 (by decide)) rfl rfl (Nat.le_of_ble_eq_true rfl) dn_C_append_39 (fun H locs hP hD hS => ?_)
  have hP : va_P (dC, dI) xcl [(h0, .inr (1, xo_C (va_up f0 1 (.int 17)))), (h1, .inl (cB, 512, .inl g_3))] H := hP
  have hD : va_D A [(h0, .inr (1, xo_C (va_up f0 1 (.int 17)))), (h1, .inl (cB, 512, .inl g_3))] := hD
  refine lv_iinc (v := 16) (lv' := [(2, .int 16), (0, .ref h0), (1, .int x0)]) hx hb dn_C_append_42 hl (k := 0) rfl (by decide) (by decide) rfl (fun ls hl => ?_)
  refine lv_goto (tgt := 3) hx hb dn_C_append_45 (by decide) ?_
  refine lv_iload_n hx hb dn_C_append_3 rfl (lv_at hl 0 rfl) ?_
  refine lv_if_lt (tgt := 48) hx hb dn_C_append_4 (by decide) (fun h9 => absurd h9 (by decide)) (fun _ => ?_)
  refine lv_aload_n hx hb dn_C_append_7 rfl (lv_at hl 1 rfl) ?_
  refine va_get (D := (dC, dI)) (ci := 1) (v := .int 17) (C := rn_C) (T := fn_C) (N := 11) hx hb hg in_C hown hK hP 0 rfl rfl 1 (by decide) (hg _ wn_3_146) (fun _ h9 => h9) rfl dn_C_append_8 ?_
  refine lv_aload_n hx hb dn_C_append_11 rfl (lv_at hl 1 rfl) ?_
  refine va_get (D := (dC, dI)) (ci := 1) (v := .ref h1) (C := rn_C) (T := fn_C) (N := 11) hx hb hg in_C hown hK hP 0 rfl rfl 0 (by decide) (hg _ wn_3_145) (fun _ h9 => h9) (congrArg some hf0_0) dn_C_append_12 ?_
  refine va_alen (v := 512) hx hb hK hP 1 1 rfl rfl rfl dn_C_append_15 ?_
  refine lv_icmp_ge (tgt := 48) hx hb dn_C_append_16 (by decide) (fun h9 => absurd h9 (by decide)) (fun _ => ?_)
  refine lv_aload_n hx hb dn_C_append_19 rfl (lv_at hl 1 rfl) ?_
  refine va_get (D := (dC, dI)) (ci := 1) (v := .ref h1) (C := rn_C) (T := fn_C) (N := 11) hx hb hg in_C hown hK hP 0 rfl rfl 0 (by decide) (hg _ wn_3_145) (fun _ h9 => h9) (congrArg some hf0_0) dn_C_append_20 ?_
  refine lv_aload_n hx hb dn_C_append_23 rfl (lv_at hl 1 rfl) ?_
  refine va_get (D := (dC, dI)) (ci := 1) (v := .int 17) (C := rn_C) (T := fn_C) (N := 11) hx hb hg in_C hown hK hP 0 rfl rfl 1 (by decide) (hg _ wn_3_146) (fun _ h9 => h9) rfl dn_C_append_24 ?_
  refine lv_iload_n hx hb dn_C_append_27 rfl (lv_at hl 2 rfl) ?_
  refine lv_iload_n hx hb dn_C_append_28 rfl (lv_at hl 0 rfl) ?_
  refine lv_iushr hx hb dn_C_append_29 rfl ?_
  refine lv_topi (fun z_4 _ => ?_)
  refine lv_i2b hx hb dn_C_append_30 rfl ?_
  refine lv_topi (fun z_5 ez_5 => ?_)
  refine va_bast hx hb hK hP hD hS 1 1 rfl rfl (show ¬ (_ ∨ _) by decide) dn_C_append_31 (fun H locs hP hD hS => ?_)
  obtain ⟨g_6, eg_6⟩ : ∃ z : Nat → Int32, z = upd g_3 (17 : Int32).toNatClampNeg (vp_nar .byte z_5) := ⟨_, rfl⟩
  have hP : va_P (dC, dI) xcl [(h0, .inr (1, xo_C (va_up f0 1 (.int 17)))), (h1, .inl (cB, 512, .inl g_6))] H := by rw [eg_6]; exact hP
  have hD : va_D A [(h0, .inr (1, xo_C (va_up f0 1 (.int 17)))), (h1, .inl (cB, 512, .inl g_6))] := by rw [eg_6]; exact hD
  refine lv_aload_n hx hb dn_C_append_32 rfl (lv_at hl 1 rfl) ?_
  refine lv_dup hx hb dn_C_append_33 rfl ?_
  refine va_get (D := (dC, dI)) (ci := 1) (v := .int 17) (C := rn_C) (T := fn_C) (N := 11) hx hb hg in_C hown hK hP 0 rfl rfl 1 (by decide) (hg _ wn_3_146) (fun _ h9 => h9) rfl dn_C_append_34 ?_
  refine lv_iconst (v := 1) hx hb dn_C_append_37 (by decide) ?_
  refine lv_iadd hx hb dn_C_append_38 ?_
  refine xk_ti (y := 18) (by decide) ?_
  refine va_put (D := (dC, dI)) (ci := 1) (v := .int 18) (ty := .int) (C := rn_C) (T := fn_C) (N := 11) hx hb hg in_C tn_C tk_C nn_C hown hK hP hD hS 0 rfl rfl 1 (by decide) (hg _ wn_3_146) (fun _ h9 => h9) rfl (tk_C 1 (by decide)) rfl rfl (Nat.le_of_ble_eq_true rfl) dn_C_append_39 (fun H locs hP hD hS => ?_)
  have hP : va_P (dC, dI) xcl [(h0, .inr (1, xo_C (va_up (va_up f0 1 (.int 17)) 1 (.int 18)))), (h1, .inl (cB, 512, .inl g_6))] H := hP
  have hD : va_D A [(h0, .inr (1, xo_C (va_up (va_up f0 1 (.int 17)) 1 (.int 18)))), (h1, .inl (cB, 512, .inl g_6))] := hD
  refine lv_iinc (v := 8) (lv' := [(2, .int 8), (0, .ref h0), (1, .int x0)]) hx hb dn_C_append_42 hl (k := 0) rfl (by decide) (by decide) rfl (fun ls hl => ?_)
  refine lv_goto (tgt := 3) hx hb dn_C_append_45 (by decide) ?_
  refine lv_iload_n hx hb dn_C_append_3 rfl (lv_at hl 0 rfl) ?_
  refine lv_if_lt (tgt := 48) hx hb dn_C_append_4 (by decide) (fun h9 => absurd h9 (by decide)) (fun _ => ?_)
  refine lv_aload_n hx hb dn_C_append_7 rfl (lv_at hl 1 rfl) ?_
  refine va_get (D := (dC, dI)) (ci := 1) (v := .int 18) (C := rn_C) (T := fn_C) (N := 11) hx hb hg in_C hown hK hP 0 rfl rfl 1 (by decide) (hg _ wn_3_146) (fun _ h9 => h9) rfl dn_C_append_8 ?_
  refine lv_aload_n hx hb dn_C_append_11 rfl (lv_at hl 1 rfl) ?_
  refine va_get (D := (dC, dI)) (ci := 1) (v := .ref h1) (C := rn_C) (T := fn_C) (N := 11) hx hb hg in_C hown hK hP 0 rfl rfl 0 (by decide) (hg _ wn_3_145) (fun _ h9 => h9) (congrArg some hf0_0) dn_C_append_12 ?_
  refine va_alen (v := 512) hx hb hK hP 1 1 rfl rfl rfl dn_C_append_15 ?_
  refine lv_icmp_ge (tgt := 48) hx hb dn_C_append_16 (by decide) (fun h9 => absurd h9 (by decide)) (fun _ => ?_)
  refine lv_aload_n hx hb dn_C_append_19 rfl (lv_at hl 1 rfl) ?_
  refine va_get (D := (dC, dI)) (ci := 1) (v := .ref h1) (C := rn_C) (T := fn_C) (N := 11) hx hb hg in_C hown hK hP 0 rfl rfl 0 (by decide) (hg _ wn_3_145) (fun _ h9 => h9) (congrArg some hf0_0) dn_C_append_20 ?_
  refine lv_aload_n hx hb dn_C_append_23 rfl (lv_at hl 1 rfl) ?_
  refine va_get (D := (dC, dI)) (ci := 1) (v := .int 18) (C := rn_C) (T := fn_C) (N := 11) hx hb hg in_C hown hK hP 0 rfl rfl 1 (by decide) (hg _ wn_3_146) (fun _ h9 => h9) rfl dn_C_append_24 ?_
  refine lv_iload_n hx hb dn_C_append_27 rfl (lv_at hl 2 rfl) ?_
  refine lv_iload_n hx hb dn_C_append_28 rfl (lv_at hl 0 rfl) ?_
  refine lv_iushr hx hb dn_C_append_29 rfl ?_
  refine lv_topi (fun z_7 _ => ?_)
  refine lv_i2b hx hb dn_C_append_30 rfl ?_
  refine lv_topi (fun z_8 ez_8 => ?_)
  refine va_bast hx hb hK hP hD hS 1 1 rfl rfl (show ¬ (_ ∨ _) by decide) dn_C_append_31 (fun H locs hP hD hS => ?_)
  obtain ⟨g_9, eg_9⟩ : ∃ z : Nat → Int32, z = upd g_6 (18 : Int32).toNatClampNeg (vp_nar .byte z_8) := ⟨_, rfl⟩
  have hP : va_P (dC, dI) xcl [(h0, .inr (1, xo_C (va_up (va_up f0 1 (.int 17)) 1 (.int 18)))), (h1, .inl (cB, 512, .inl g_9))] H := by rw [eg_9]; exact hP
  have hD : va_D A [(h0, .inr (1, xo_C (va_up (va_up f0 1 (.int 17)) 1 (.int 18)))), (h1, .inl (cB, 512, .inl g_9))] := by rw [eg_9]; exact hD
  refine lv_aload_n hx hb dn_C_append_32 rfl (lv_at hl 1 rfl) ?_
  refine lv_dup hx hb dn_C_append_33 rfl ?_
  refine va_get (D := (dC, dI)) (ci := 1) (v := .int 18) (C := rn_C) (T := fn_C) (N := 11) hx hb hg in_C hown hK hP 0 rfl rfl 1 (by decide) (hg _ wn_3_146) (fun _ h9 => h9) rfl dn_C_append_34 ?_
  refine lv_iconst (v := 1) hx hb dn_C_append_37 (by decide) ?_
  refine lv_iadd hx hb dn_C_append_38 ?_
  refine xk_ti (y := 19) (by decide) ?_
  refine va_put (D := (dC, dI)) (ci := 1) (v := .int 19) (ty := .int) (C := rn_C) (T := fn_C) (N := 11) hx hb hg in_C tn_C tk_C nn_C hown hK hP hD hS 0 rfl rfl 1 (by decide) (hg _ wn_3_146) (fun _ h9 => h9) rfl (tk_C 1 (by decide)) rfl rfl (Nat.le_of_ble_eq_true rfl) dn_C_append_39 (fun H locs hP hD hS => ?_)
  have hP : va_P (dC, dI) xcl [(h0, .inr (1, xo_C (va_up (va_up (va_up f0 1 (.int 17)) 1 (.int 18)) 1 (.int 19)))), (h1, .inl (cB, 512, .inl g_9))] H := hP
  have hD : va_D A [(h0, .inr (1, xo_C (va_up (va_up (va_up f0 1 (.int 17)) 1 (.int 18)) 1 (.int 19)))), (h1, .inl (cB, 512, .inl g_9))] := hD
  refine lv_iinc (v := 0) (lv' := [(2, .int 0), (0, .ref h0), (1, .int x0)]) hx hb dn_C_append_42 hl (k := 0) rfl (by decide) (by decide) rfl (fun ls hl => ?_)
  refine lv_goto (tgt := 3) hx hb dn_C_append_45 (by decide) ?_
  refine lv_iload_n hx hb dn_C_append_3 rfl (lv_at hl 0 rfl) ?_
  refine lv_if_lt (tgt := 48) hx hb dn_C_append_4 (by decide) (fun h9 => absurd h9 (by decide)) (fun _ => ?_)
  refine lv_aload_n hx hb dn_C_append_7 rfl (lv_at hl 1 rfl) ?_
  refine va_get (D := (dC, dI)) (ci := 1) (v := .int 19) (C := rn_C) (T := fn_C) (N := 11) hx hb hg in_C hown hK hP 0 rfl rfl 1 (by decide) (hg _ wn_3_146) (fun _ h9 => h9) rfl dn_C_append_8 ?_
  refine lv_aload_n hx hb dn_C_append_11 rfl (lv_at hl 1 rfl) ?_
  refine va_get (D := (dC, dI)) (ci := 1) (v := .ref h1) (C := rn_C) (T := fn_C) (N := 11) hx hb hg in_C hown hK hP 0 rfl rfl 0 (by decide) (hg _ wn_3_145) (fun _ h9 => h9) (congrArg some hf0_0) dn_C_append_12 ?_
  refine va_alen (v := 512) hx hb hK hP 1 1 rfl rfl rfl dn_C_append_15 ?_
  refine lv_icmp_ge (tgt := 48) hx hb dn_C_append_16 (by decide) (fun h9 => absurd h9 (by decide)) (fun _ => ?_)
  refine lv_aload_n hx hb dn_C_append_19 rfl (lv_at hl 1 rfl) ?_
  refine va_get (D := (dC, dI)) (ci := 1) (v := .ref h1) (C := rn_C) (T := fn_C) (N := 11) hx hb hg in_C hown hK hP 0 rfl rfl 0 (by decide) (hg _ wn_3_145) (fun _ h9 => h9) (congrArg some hf0_0) dn_C_append_20 ?_
  refine lv_aload_n hx hb dn_C_append_23 rfl (lv_at hl 1 rfl) ?_
  refine va_get (D := (dC, dI)) (ci := 1) (v := .int 19) (C := rn_C) (T := fn_C) (N := 11) hx hb hg in_C hown hK hP 0 rfl rfl 1 (by decide) (hg _ wn_3_146) (fun _ h9 => h9) rfl dn_C_append_24 ?_
  refine lv_iload_n hx hb dn_C_append_27 rfl (lv_at hl 2 rfl) ?_
  refine lv_iload_n hx hb dn_C_append_28 rfl (lv_at hl 0 rfl) ?_
  refine lv_iushr hx hb dn_C_append_29 rfl ?_
  refine lv_topi (fun z_10 _ => ?_)
  refine lv_i2b hx hb dn_C_append_30 rfl ?_
  refine lv_topi (fun z_11 ez_11 => ?_)
  refine va_bast hx hb hK hP hD hS 1 1 rfl rfl (show ¬ (_ ∨ _) by decide) dn_C_append_31 (fun H locs hP hD hS => ?_)
  obtain ⟨g_12, eg_12⟩ : ∃ z : Nat → Int32, z = upd g_9 (19 : Int32).toNatClampNeg (vp_nar .byte z_11) := ⟨_, rfl⟩
  have hP : va_P (dC, dI) xcl [(h0, .inr (1, xo_C (va_up (va_up (va_up f0 1 (.int 17)) 1 (.int 18)) 1 (.int 19)))), (h1, .inl (cB, 512, .inl g_12))] H := by rw [eg_12]; exact hP
  have hD : va_D A [(h0, .inr (1, xo_C (va_up (va_up (va_up f0 1 (.int 17)) 1 (.int 18)) 1 (.int 19)))), (h1, .inl (cB, 512, .inl g_12))] := by rw [eg_12]; exact hD
  refine lv_aload_n hx hb dn_C_append_32 rfl (lv_at hl 1 rfl) ?_
  refine lv_dup hx hb dn_C_append_33 rfl ?_
  refine va_get (D := (dC, dI)) (ci := 1) (v := .int 19) (C := rn_C) (T := fn_C) (N := 11) hx hb hg in_C hown hK hP 0 rfl rfl 1 (by decide) (hg _ wn_3_146) (fun _ h9 => h9) rfl dn_C_append_34 ?_
  refine lv_iconst (v := 1) hx hb dn_C_append_37 (by decide) ?_
  refine lv_iadd hx hb dn_C_append_38 ?_
  refine xk_ti (y := 20) (by decide) ?_
  refine va_put (D := (dC, dI)) (ci := 1) (v := .int 20) (ty := .int) (C := rn_C) (T := fn_C) (N := 11) hx hb hg in_C tn_C tk_C nn_C hown hK hP hD hS 0 rfl rfl 1 (by decide) (hg _ wn_3_146) (fun _ h9 => h9) rfl (tk_C 1 (by decide)) rfl rfl (Nat.le_of_ble_eq_true rfl) dn_C_append_39 (fun H locs hP hD hS => ?_)
  have hP : va_P (dC, dI) xcl [(h0, .inr (1, xo_C (va_up (va_up (va_up (va_up f0 1 (.int 17)) 1 (.int 18)) 1 (.int 19)) 1 (.int 20)))), (h1, .inl (cB, 512, .inl g_12))] H := hP
  have hD : va_D A [(h0, .inr (1, xo_C (va_up (va_up (va_up (va_up f0 1 (.int 17)) 1 (.int 18)) 1 (.int 19)) 1 (.int 20)))), (h1, .inl (cB, 512, .inl g_12))] := hD
  refine lv_iinc (v := (-8)) (lv' := [(2, .int (-8)), (0, .ref h0), (1, .int x0)]) hx hb dn_C_append_42 hl (k := 0) rfl (by decide) (by decide) rfl (fun ls hl => ?_)
  refine lv_goto (tgt := 3) hx hb dn_C_append_45 (by decide) ?_
  refine lv_iload_n hx hb dn_C_append_3 rfl (lv_at hl 0 rfl) ?_
  refine lv_if_lt (tgt := 48) hx hb dn_C_append_4 (by decide) (fun _ => ?_) (fun h9 => absurd h9 (by decide))
  have hP9 := hP.sub (ws' := [(h0, .inr (1, xo_C (va_up (va_up (va_up (va_up f0 1 (.int 17)) 1 (.int 18)) 1 (.int 19)) 1 (.int 20)))), (h1, .inl (cB, 512, .inl g_12))]) [0, 1] rfl
  have hD9 := hD.sub (ws' := [(h0, .inr (1, xo_C (va_up (va_up (va_up (va_up f0 1 (.int 17)) 1 (.int 18)) 1 (.int 19)) 1 (.int 20)))), (h1, .inl (cB, 512, .inl g_12))]) [0, 1] (by decide) rfl
  exact xk_vret (w1 := fun u : (Nat → Int32) => [(h0, .inr (1, xo_C (va_up (va_up (va_up (va_up f0 1 (.int 17)) 1 (.int 18)) 1 (.int 19)) 1 (.int 20)))), (h1, .inl (cB, 512, .inl u))]) (g_12) hx hb hr hlocks hK hS dn_C_append_48 hP9 hD9 trivial (Nat.le_refl _) (Nat.le_refl _)
set_option maxHeartbeats 4000000 in
set_option maxRecDepth 100000 in
theorem ct_C_feed_0 (l : Launch) (dC : Nat → ClassId) (dI : Nat → Nat → Nat) (cI cB cJ cZ : ClassId) (sz : Nat) (h0 : Nat) (h1 : Nat) (x0 : Int32) (x1 : Int32) (x2 : Int32) (x3 : Int32) (x4 : Int32) (f0 : Nat → Value) (g0 : Nat → Int32) (hf0_0 : f0 0 = .ref h1) (hf0_1 : f0 1 = .int 0) : Met l yn_C_feed (xw yn_C_feed bn_C_feed 6 (some .int)) ({ frames := 1, cells := 0, slots := 0, locals := 22 }) (xk_P (dC, dI) xcl (xt cI cB cJ cZ) [.ref h0, .int x0, .int x1, .int x2, .int x3, .int x4] sz [(h0, .inr (1, xo_C f0)), (h1, .inl (cB, 512, .inl g0))]) (xk_Qi (dC, dI) xcl (xt cI cB cJ cZ) (fun (r : Int32) (u : (Nat → Int32)) => r = 20) (fun u : (Nat → Int32) => [(h0, .inr (1, xo_C (va_up (va_up (va_up (va_up (va_up (va_up (va_up (va_up (va_up (va_up (va_up (va_up (va_up (va_up (va_up (va_up (va_up (va_up (va_up (va_up f0 1 (.int 1)) 1 (.int 2)) 1 (.int 3)) 1 (.int 4)) 1 (.int 5)) 1 (.int 6)) 1 (.int 7)) 1 (.int 8)) 1 (.int 9)) 1 (.int 10)) 1 (.int 11)) 1 (.int 12)) 1 (.int 13)) 1 (.int 14)) 1 (.int 15)) 1 (.int 16)) 1 (.int 17)) 1 (.int 18)) 1 (.int 19)) 1 (.int 20)))), (h1, .inl (cB, 512, .inl u))]) (va_A [(h0, .inr (1, xo_C f0)), (h1, .inl (cB, 512, .inl g0))] sz)) 0 0 (va_A [(h0, .inr (1, xo_C f0)), (h1, .inl (cB, 512, .inl g0))] sz) := by
  refine xk_of (QA := xk_Qi (dC, dI) xcl (xt cI cB cJ cZ) (fun (r : Int32) (u : (Nat → Int32)) => r = 20) (fun u : (Nat → Int32) => [(h0, .inr (1, xo_C (va_up (va_up (va_up (va_up (va_up (va_up (va_up (va_up (va_up (va_up (va_up (va_up (va_up (va_up (va_up (va_up (va_up (va_up (va_up (va_up f0 1 (.int 1)) 1 (.int 2)) 1 (.int 3)) 1 (.int 4)) 1 (.int 5)) 1 (.int 6)) 1 (.int 7)) 1 (.int 8)) 1 (.int 9)) 1 (.int 10)) 1 (.int 11)) 1 (.int 12)) 1 (.int 13)) 1 (.int 14)) 1 (.int 15)) 1 (.int 16)) 1 (.int 17)) 1 (.int 18)) 1 (.int 19)) 1 (.int 20)))), (h1, .inl (cB, 512, .inl u))])) (by decide) (Nat.le_of_ble_eq_true rfl) ?_
  intro p e s m below meth c hx hb hml hown hg hr hlocks hin hP hK hN A hA hD hS ls hl
  have hown : s.vm.findClass rn_C = some m.cls := hown
  have hl : lv_has ls 6 [(0, .ref h0), (1, .int x0), (2, .int x1), (3, .int x2), (4, .int x3), (5, .int x4)] := hl
  obtain ⟨H, hH⟩ : ∃ z, z = s.heap := ⟨_, rfl⟩
  rw [← hH] at hP
  have hS : va_S A s.heap H [] := by rw [hH]; exact va_S.rf
  suffices kk : W p l e ({ frames := 1, cells := 0, slots := 0, locals := 22 }) s m [.ref h0, .int x0, .int x1, .int x2, .int x3, .int x4].toArray below meth c H [] 0 0 (MQ below (xk_Qi (dC, dI) xcl (xt cI cB cJ cZ) (fun (r : Int32) (u : (Nat → Int32)) => r = 20) (fun u : (Nat → Int32) => [(h0, .inr (1, xo_C (va_up (va_up (va_up (va_up (va_up (va_up (va_up (va_up (va_up (va_up (va_up (va_up (va_up (va_up (va_up (va_up (va_up (va_up (va_up (va_up f0 1 (.int 1)) 1 (.int 2)) 1 (.int 3)) 1 (.int 4)) 1 (.int 5)) 1 (.int 6)) 1 (.int 7)) 1 (.int 8)) 1 (.int 9)) 1 (.int 10)) 1 (.int 11)) 1 (.int 12)) 1 (.int 13)) 1 (.int 14)) 1 (.int 15)) 1 (.int 16)) 1 (.int 17)) 1 (.int 18)) 1 (.int 19)) 1 (.int 20)))), (h1, .inl (cB, 512, .inl u))]) A) [.ref h0, .int x0, .int x1, .int x2, .int x3, .int x4].toArray s 0 0 A) (F0 m 0 ls []) by rw [hH] at kk; exact kk
  refine lv_aload_n hx hb dn_C_feed_0 rfl (lv_at hl 0 rfl) ?_
  refine va_get (D := (dC, dI)) (ci := 1) (v := .int 0) (C := rn_C) (T := fn_C) (N := 11) hx hb hg in_C hown hK hP 0 rfl rfl 1 (by decide) (hg _ wn_3_146) (fun _ h9 => h9) (congrArg some hf0_1) dn_C_feed_1 ?_
  refine lv_bipush (v := 20) hx hb dn_C_feed_4 (by decide) ?_
  refine lv_iadd hx hb dn_C_feed_6 ?_
  refine xk_ti (y := 20) (by decide) ?_
  refine lv_ldc hx hb hown (hg _ wn_7_37) dn_C_feed_7 ?_
  refine lv_icmp_le (tgt := 20) hx hb dn_C_feed_9 (by decide) (fun _ => ?_) (fun h9 => absurd h9 (by decide))
  refine lv_aload_n hx hb dn_C_feed_20 rfl (lv_at hl 0 rfl) ?_
  refine va_get (D := (dC, dI)) (ci := 1) (v := .int 0) (C := rn_C) (T := fn_C) (N := 11) hx hb hg in_C hown hK hP 0 rfl rfl 1 (by decide) (hg _ wn_3_146) (fun _ h9 => h9) (congrArg some hf0_1) dn_C_feed_21 ?_
  refine lv_bipush (v := 20) hx hb dn_C_feed_24 (by decide) ?_
  refine lv_iadd hx hb dn_C_feed_26 ?_
  refine xk_ti (y := 20) (by decide) ?_
  refine lv_aload_n hx hb dn_C_feed_27 rfl (lv_at hl 0 rfl) ?_
  refine va_get (D := (dC, dI)) (ci := 1) (v := .ref h1) (C := rn_C) (T := fn_C) (N := 11) hx hb hg in_C hown hK hP 0 rfl rfl 0 (by decide) (hg _ wn_3_145) (fun _ h9 => h9) (congrArg some hf0_0) dn_C_feed_28 ?_
  refine va_alen (v := 512) hx hb hK hP 1 1 rfl rfl rfl dn_C_feed_31 ?_
  refine lv_icmp_le (tgt := 58) hx hb dn_C_feed_32 (by decide) (fun _ => ?_) (fun h9 => absurd h9 (by decide))
  refine lv_aload_n hx hb dn_C_feed_58 rfl (lv_at hl 0 rfl) ?_
  refine lv_iload_n hx hb dn_C_feed_59 rfl (lv_at hl 1 rfl) ?_
  have hPc := hP.sub (ws' := [(h0, .inr (1, xo_C f0)), (h1, .inl (cB, 512, .inl g0))]) [0, 1] rfl
  have hDc := hD.sub (ws' := [(h0, .inr (1, xo_C f0)), (h1, .inl (cB, 512, .inl g0))]) [0, 1] (by decide) rfl
  refine xk_callv (wr := []) (xk_runV (ar := 1) (As := [.int x0]) (rest := []) (ci := 1) (q0 := 0) ⟨hx, hb, hml, hown, hg⟩ hK hN (ct_C_append_0 l dC dI cI cB cJ cZ H.size h0 h1 x0 f0 g0 hf0_0 hf0_1) hPc hDc rfl rfl wn_7_114 wn_7_116 sn_C_append wn_1_1 wn_7_117 rfl rfl (by decide +kernel) ⟨Nat.le_of_ble_eq_true rfl, Nat.le_of_ble_eq_true rfl⟩ rfl hl.1 rfl (Nat.le_of_ble_eq_true rfl) dn_C_feed_60 ⟨Nat.le_of_ble_eq_true rfl, Nat.le_of_ble_eq_true rfl⟩) hP hD hS hA [0, 1] [] rfl rfl (by decide) (by decide) (fun g_1 H locs hw hP hD hS => ?_)
  have hP : va_P (dC, dI) xcl [(h0, .inr (1, xo_C (va_up (va_up (va_up (va_up f0 1 (.int 1)) 1 (.int 2)) 1 (.int 3)) 1 (.int 4)))), (h1, .inl (cB, 512, .inl g_1))] H := hP
  have hD : va_D A [(h0, .inr (1, xo_C (va_up (va_up (va_up (va_up f0 1 (.int 1)) 1 (.int 2)) 1 (.int 3)) 1 (.int 4)))), (h1, .inl (cB, 512, .inl g_1))] := hD
  refine lv_aload_n hx hb dn_C_feed_63 rfl (lv_at hl 0 rfl) ?_
  refine lv_iload_n hx hb dn_C_feed_64 rfl (lv_at hl 2 rfl) ?_
  have hPc := hP.sub (ws' := [(h0, .inr (1, xo_C (va_up (va_up (va_up (va_up f0 1 (.int 1)) 1 (.int 2)) 1 (.int 3)) 1 (.int 4)))), (h1, .inl (cB, 512, .inl g_1))]) [0, 1] rfl
  have hDc := hD.sub (ws' := [(h0, .inr (1, xo_C (va_up (va_up (va_up (va_up f0 1 (.int 1)) 1 (.int 2)) 1 (.int 3)) 1 (.int 4)))), (h1, .inl (cB, 512, .inl g_1))]) [0, 1] (by decide) rfl
  refine xk_callv (wr := []) (xk_runV (ar := 1) (As := [.int x1]) (rest := []) (ci := 1) (q0 := 0) ⟨hx, hb, hml, hown, hg⟩ hK hN (ct_C_append_1 l dC dI cI cB cJ cZ H.size h0 h1 x1 (va_up (va_up (va_up (va_up f0 1 (.int 1)) 1 (.int 2)) 1 (.int 3)) 1 (.int 4)) g_1 hf0_0 (show (va_up (va_up (va_up (va_up f0 1 (.int 1)) 1 (.int 2)) 1 (.int 3)) 1 (.int 4)) 1 = .int 4 from rfl)) hPc hDc rfl rfl wn_7_114 wn_7_116 sn_C_append wn_1_1 wn_7_117 rfl rfl (by decide +kernel) ⟨Nat.le_of_ble_eq_true rfl, Nat.le_of_ble_eq_true rfl⟩ rfl hl.1 rfl (Nat.le_of_ble_eq_true rfl) dn_C_feed_65 ⟨Nat.le_of_ble_eq_true rfl, Nat.le_of_ble_eq_true rfl⟩) hP hD hS hA [0, 1] [] rfl rfl (by decide) (by decide) (fun g_2 H locs hw hP hD hS => ?_)
  have hP : va_P (dC, dI) xcl [(h0, .inr (1, xo_C (va_up (va_up (va_up (va_up (va_up (va_up (va_up (va_up f0 1 (.int 1)) 1 (.int 2)) 1 (.int 3)) 1 (.int 4)) 1 (.int 5)) 1 (.int 6)) 1 (.int 7)) 1 (.int 8)))), (h1, .inl (cB, 512, .inl g_2))] H := hP
  have hD : va_D A [(h0, .inr (1, xo_C (va_up (va_up (va_up (va_up (va_up (va_up (va_up (va_up f0 1 (.int 1)) 1 (.int 2)) 1 (.int 3)) 1 (.int 4)) 1 (.int 5)) 1 (.int 6)) 1 (.int 7)) 1 (.int 8)))), (h1, .inl (cB, 512, .inl g_2))] := hD
  refine lv_aload_n hx hb dn_C_feed_68 rfl (lv_at hl 0 rfl) ?_
  refine lv_iload_n hx hb dn_C_feed_69 rfl (lv_at hl 3 rfl) ?_
  have hPc := hP.sub (ws' := [(h0, .inr (1, xo_C (va_up (va_up (va_up (va_up (va_up (va_up (va_up (va_up f0 1 (.int 1)) 1 (.int 2)) 1 (.int 3)) 1 (.int 4)) 1 (.int 5)) 1 (.int 6)) 1 (.int 7)) 1 (.int 8)))), (h1, .inl (cB, 512, .inl g_2))]) [0, 1] rfl
  have hDc := hD.sub (ws' := [(h0, .inr (1, xo_C (va_up (va_up (va_up (va_up (va_up (va_up (va_up (va_up f0 1 (.int 1)) 1 (.int 2)) 1 (.int 3)) 1 (.int 4)) 1 (.int 5)) 1 (.int 6)) 1 (.int 7)) 1 (.int 8)))), (h1, .inl (cB, 512, .inl g_2))]) [0, 1] (by decide) rfl
  refine xk_callv (wr := []) (xk_runV (ar := 1) (As := [.int x2]) (rest := []) (ci := 1) (q0 := 0) ⟨hx, hb, hml, hown, hg⟩ hK hN (ct_C_append_2 l dC dI cI cB cJ cZ H.size h0 h1 x2 (va_up (va_up (va_up (va_up (va_up (va_up (va_up (va_up f0 1 (.int 1)) 1 (.int 2)) 1 (.int 3)) 1 (.int 4)) 1 (.int 5)) 1 (.int 6)) 1 (.int 7)) 1 (.int 8)) g_2 hf0_0 (show (va_up (va_up (va_up (va_up (va_up (va_up (va_up (va_up f0 1 (.int 1)) 1 (.int 2)) 1 (.int 3)) 1 (.int 4)) 1 (.int 5)) 1 (.int 6)) 1 (.int 7)) 1 (.int 8)) 1 = .int 8 from rfl)) hPc hDc rfl rfl wn_7_114 wn_7_116 sn_C_append wn_1_1 wn_7_117 rfl rfl (by decide +kernel) ⟨Nat.le_of_ble_eq_true rfl, Nat.le_of_ble_eq_true rfl⟩ rfl hl.1 rfl (Nat.le_of_ble_eq_true rfl) dn_C_feed_70 ⟨Nat.le_of_ble_eq_true rfl, Nat.le_of_ble_eq_true rfl⟩) hP hD hS hA [0, 1] [] rfl rfl (by decide) (by decide) (fun g_3 H locs hw hP hD hS => ?_)
  have hP : va_P (dC, dI) xcl [(h0, .inr (1, xo_C (va_up (va_up (va_up (va_up (va_up (va_up (va_up (va_up (va_up (va_up (va_up (va_up f0 1 (.int 1)) 1 (.int 2)) 1 (.int 3)) 1 (.int 4)) 1 (.int 5)) 1 (.int 6)) 1 (.int 7)) 1 (.int 8)) 1 (.int 9)) 1 (.int 10)) 1 (.int 11)) 1 (.int 12)))), (h1, .inl (cB, 512, .inl g_3))] H := hP
  have hD : va_D A [(h0, .inr (1, xo_C (va_up (va_up (va_up (va_up (va_up (va_up (va_up (va_up (va_up (va_up (va_up (va_up f0 1 (.int 1)) 1 (.int 2)) 1 (.int 3)) 1 (.int 4)) 1 (.int 5)) 1 (.int 6)) 1 (.int 7)) 1 (.int 8)) 1 (.int 9)) 1 (.int 10)) 1 (.int 11)) 1 (.int 12)))), (h1, .inl (cB, 512, .inl g_3))] := hD
  refine lv_aload_n hx hb dn_C_feed_73 rfl (lv_at hl 0 rfl) ?_
  refine lv_iload hx hb dn_C_feed_74 (lv_at hl 4 rfl) ?_
  have hPc := hP.sub (ws' := [(h0, .inr (1, xo_C (va_up (va_up (va_up (va_up (va_up (va_up (va_up (va_up (va_up (va_up (va_up (va_up f0 1 (.int 1)) 1 (.int 2)) 1 (.int 3)) 1 (.int 4)) 1 (.int 5)) 1 (.int 6)) 1 (.int 7)) 1 (.int 8)) 1 (.int 9)) 1 (.int 10)) 1 (.int 11)) 1 (.int 12)))), (h1, .inl (cB, 512, .inl g_3))]) [0, 1] rfl
  have hDc := hD.sub (ws' := [(h0, .inr (1, xo_C (va_up (va_up (va_up (va_up (va_up (va_up (va_up (va_up (va_up (va_up (va_up (va_up f0 1 (.int 1)) 1 (.int 2)) 1 (.int 3)) 1 (.int 4)) 1 (.int 5)) 1 (.int 6)) 1 (.int 7)) 1 (.int 8)) 1 (.int 9)) 1 (.int 10)) 1 (.int 11)) 1 (.int 12)))), (h1, .inl (cB, 512, .inl g_3))]) [0, 1] (by decide) rfl
  refine xk_callv (wr := []) (xk_runV (ar := 1) (As := [.int x3]) (rest := []) (ci := 1) (q0 := 0) ⟨hx, hb, hml, hown, hg⟩ hK hN (ct_C_append_3 l dC dI cI cB cJ cZ H.size h0 h1 x3 (va_up (va_up (va_up (va_up (va_up (va_up (va_up (va_up (va_up (va_up (va_up (va_up f0 1 (.int 1)) 1 (.int 2)) 1 (.int 3)) 1 (.int 4)) 1 (.int 5)) 1 (.int 6)) 1 (.int 7)) 1 (.int 8)) 1 (.int 9)) 1 (.int 10)) 1 (.int 11)) 1 (.int 12)) g_3 hf0_0 (show (va_up (va_up (va_up (va_up (va_up (va_up (va_up (va_up (va_up (va_up (va_up (va_up f0 1 (.int 1)) 1 (.int 2)) 1 (.int 3)) 1 (.int 4)) 1 (.int 5)) 1 (.int 6)) 1 (.int 7)) 1 (.int 8)) 1 (.int 9)) 1 (.int 10)) 1 (.int 11)) 1 (.int 12)) 1 = .int 12 from rfl)) hPc hDc rfl rfl wn_7_114 wn_7_116 sn_C_append wn_1_1 wn_7_117 rfl rfl (by decide +kernel) ⟨Nat.le_of_ble_eq_true rfl, Nat.le_of_ble_eq_true rfl⟩ rfl hl.1 rfl (Nat.le_of_ble_eq_true rfl) dn_C_feed_76 ⟨Nat.le_of_ble_eq_true rfl, Nat.le_of_ble_eq_true rfl⟩) hP hD hS hA [0, 1] [] rfl rfl (by decide) (by decide) (fun g_4 H locs hw hP hD hS => ?_)
  have hP : va_P (dC, dI) xcl [(h0, .inr (1, xo_C (va_up (va_up (va_up (va_up (va_up (va_up (va_up (va_up (va_up (va_up (va_up (va_up (va_up (va_up (va_up (va_up f0 1 (.int 1)) 1 (.int 2)) 1 (.int 3)) 1 (.int 4)) 1 (.int 5)) 1 (.int 6)) 1 (.int 7)) 1 (.int 8)) 1 (.int 9)) 1 (.int 10)) 1 (.int 11)) 1 (.int 12)) 1 (.int 13)) 1 (.int 14)) 1 (.int 15)) 1 (.int 16)))), (h1, .inl (cB, 512, .inl g_4))] H := hP
  have hD : va_D A [(h0, .inr (1, xo_C (va_up (va_up (va_up (va_up (va_up (va_up (va_up (va_up (va_up (va_up (va_up (va_up (va_up (va_up (va_up (va_up f0 1 (.int 1)) 1 (.int 2)) 1 (.int 3)) 1 (.int 4)) 1 (.int 5)) 1 (.int 6)) 1 (.int 7)) 1 (.int 8)) 1 (.int 9)) 1 (.int 10)) 1 (.int 11)) 1 (.int 12)) 1 (.int 13)) 1 (.int 14)) 1 (.int 15)) 1 (.int 16)))), (h1, .inl (cB, 512, .inl g_4))] := hD
  refine lv_aload_n hx hb dn_C_feed_79 rfl (lv_at hl 0 rfl) ?_
  refine lv_iload hx hb dn_C_feed_80 (lv_at hl 5 rfl) ?_
  have hPc := hP.sub (ws' := [(h0, .inr (1, xo_C (va_up (va_up (va_up (va_up (va_up (va_up (va_up (va_up (va_up (va_up (va_up (va_up (va_up (va_up (va_up (va_up f0 1 (.int 1)) 1 (.int 2)) 1 (.int 3)) 1 (.int 4)) 1 (.int 5)) 1 (.int 6)) 1 (.int 7)) 1 (.int 8)) 1 (.int 9)) 1 (.int 10)) 1 (.int 11)) 1 (.int 12)) 1 (.int 13)) 1 (.int 14)) 1 (.int 15)) 1 (.int 16)))), (h1, .inl (cB, 512, .inl g_4))]) [0, 1] rfl
  have hDc := hD.sub (ws' := [(h0, .inr (1, xo_C (va_up (va_up (va_up (va_up (va_up (va_up (va_up (va_up (va_up (va_up (va_up (va_up (va_up (va_up (va_up (va_up f0 1 (.int 1)) 1 (.int 2)) 1 (.int 3)) 1 (.int 4)) 1 (.int 5)) 1 (.int 6)) 1 (.int 7)) 1 (.int 8)) 1 (.int 9)) 1 (.int 10)) 1 (.int 11)) 1 (.int 12)) 1 (.int 13)) 1 (.int 14)) 1 (.int 15)) 1 (.int 16)))), (h1, .inl (cB, 512, .inl g_4))]) [0, 1] (by decide) rfl
  refine xk_callv (wr := []) (xk_runV (ar := 1) (As := [.int x4]) (rest := []) (ci := 1) (q0 := 0) ⟨hx, hb, hml, hown, hg⟩ hK hN (ct_C_append_4 l dC dI cI cB cJ cZ H.size h0 h1 x4 (va_up (va_up (va_up (va_up (va_up (va_up (va_up (va_up (va_up (va_up (va_up (va_up (va_up (va_up (va_up (va_up f0 1 (.int 1)) 1 (.int 2)) 1 (.int 3)) 1 (.int 4)) 1 (.int 5)) 1 (.int 6)) 1 (.int 7)) 1 (.int 8)) 1 (.int 9)) 1 (.int 10)) 1 (.int 11)) 1 (.int 12)) 1 (.int 13)) 1 (.int 14)) 1 (.int 15)) 1 (.int 16)) g_4 hf0_0 (show (va_up (va_up (va_up (va_up (va_up (va_up (va_up (va_up (va_up (va_up (va_up (va_up (va_up (va_up (va_up (va_up f0 1 (.int 1)) 1 (.int 2)) 1 (.int 3)) 1 (.int 4)) 1 (.int 5)) 1 (.int 6)) 1 (.int 7)) 1 (.int 8)) 1 (.int 9)) 1 (.int 10)) 1 (.int 11)) 1 (.int 12)) 1 (.int 13)) 1 (.int 14)) 1 (.int 15)) 1 (.int 16)) 1 = .int 16 from rfl)) hPc hDc rfl rfl wn_7_114 wn_7_116 sn_C_append wn_1_1 wn_7_117 rfl rfl (by decide +kernel) ⟨Nat.le_of_ble_eq_true rfl, Nat.le_of_ble_eq_true rfl⟩ rfl hl.1 rfl (Nat.le_of_ble_eq_true rfl) dn_C_feed_82 ⟨Nat.le_of_ble_eq_true rfl, Nat.le_of_ble_eq_true rfl⟩) hP hD hS hA [0, 1] [] rfl rfl (by decide) (by decide) (fun g_5 H locs hw hP hD hS => ?_)
  have hP : va_P (dC, dI) xcl [(h0, .inr (1, xo_C (va_up (va_up (va_up (va_up (va_up (va_up (va_up (va_up (va_up (va_up (va_up (va_up (va_up (va_up (va_up (va_up (va_up (va_up (va_up (va_up f0 1 (.int 1)) 1 (.int 2)) 1 (.int 3)) 1 (.int 4)) 1 (.int 5)) 1 (.int 6)) 1 (.int 7)) 1 (.int 8)) 1 (.int 9)) 1 (.int 10)) 1 (.int 11)) 1 (.int 12)) 1 (.int 13)) 1 (.int 14)) 1 (.int 15)) 1 (.int 16)) 1 (.int 17)) 1 (.int 18)) 1 (.int 19)) 1 (.int 20)))), (h1, .inl (cB, 512, .inl g_5))] H := hP
  have hD : va_D A [(h0, .inr (1, xo_C (va_up (va_up (va_up (va_up (va_up (va_up (va_up (va_up (va_up (va_up (va_up (va_up (va_up (va_up (va_up (va_up (va_up (va_up (va_up (va_up f0 1 (.int 1)) 1 (.int 2)) 1 (.int 3)) 1 (.int 4)) 1 (.int 5)) 1 (.int 6)) 1 (.int 7)) 1 (.int 8)) 1 (.int 9)) 1 (.int 10)) 1 (.int 11)) 1 (.int 12)) 1 (.int 13)) 1 (.int 14)) 1 (.int 15)) 1 (.int 16)) 1 (.int 17)) 1 (.int 18)) 1 (.int 19)) 1 (.int 20)))), (h1, .inl (cB, 512, .inl g_5))] := hD
  refine lv_aload_n hx hb dn_C_feed_85 rfl (lv_at hl 0 rfl) ?_
  refine va_get (D := (dC, dI)) (ci := 1) (v := .int 20) (C := rn_C) (T := fn_C) (N := 11) hx hb hg in_C hown hK hP 0 rfl rfl 1 (by decide) (hg _ wn_3_146) (fun _ h9 => h9) rfl dn_C_feed_86 ?_
  have hP9 := hP.sub (ws' := [(h0, .inr (1, xo_C (va_up (va_up (va_up (va_up (va_up (va_up (va_up (va_up (va_up (va_up (va_up (va_up (va_up (va_up (va_up (va_up (va_up (va_up (va_up (va_up f0 1 (.int 1)) 1 (.int 2)) 1 (.int 3)) 1 (.int 4)) 1 (.int 5)) 1 (.int 6)) 1 (.int 7)) 1 (.int 8)) 1 (.int 9)) 1 (.int 10)) 1 (.int 11)) 1 (.int 12)) 1 (.int 13)) 1 (.int 14)) 1 (.int 15)) 1 (.int 16)) 1 (.int 17)) 1 (.int 18)) 1 (.int 19)) 1 (.int 20)))), (h1, .inl (cB, 512, .inl g_5))]) [0, 1] rfl
  have hD9 := hD.sub (ws' := [(h0, .inr (1, xo_C (va_up (va_up (va_up (va_up (va_up (va_up (va_up (va_up (va_up (va_up (va_up (va_up (va_up (va_up (va_up (va_up (va_up (va_up (va_up (va_up f0 1 (.int 1)) 1 (.int 2)) 1 (.int 3)) 1 (.int 4)) 1 (.int 5)) 1 (.int 6)) 1 (.int 7)) 1 (.int 8)) 1 (.int 9)) 1 (.int 10)) 1 (.int 11)) 1 (.int 12)) 1 (.int 13)) 1 (.int 14)) 1 (.int 15)) 1 (.int 16)) 1 (.int 17)) 1 (.int 18)) 1 (.int 19)) 1 (.int 20)))), (h1, .inl (cB, 512, .inl g_5))]) [0, 1] (by decide) rfl
  exact xk_iret (w1 := fun u : (Nat → Int32) => [(h0, .inr (1, xo_C (va_up (va_up (va_up (va_up (va_up (va_up (va_up (va_up (va_up (va_up (va_up (va_up (va_up (va_up (va_up (va_up (va_up (va_up (va_up (va_up f0 1 (.int 1)) 1 (.int 2)) 1 (.int 3)) 1 (.int 4)) 1 (.int 5)) 1 (.int 6)) 1 (.int 7)) 1 (.int 8)) 1 (.int 9)) 1 (.int 10)) 1 (.int 11)) 1 (.int 12)) 1 (.int 13)) 1 (.int 14)) 1 (.int 15)) 1 (.int 16)) 1 (.int 17)) 1 (.int 18)) 1 (.int 19)) 1 (.int 20)))), (h1, .inl (cB, 512, .inl u))]) (g_5) hx hb hr hlocks hK hS dn_C_feed_89 hP9 hD9 rfl (Nat.le_refl _) (Nat.le_refl _)
set_option maxHeartbeats 4000000 in
set_option maxRecDepth 100000 in
theorem ct_L_feed_0 (l : Launch) (hlt : l.stackTraces = false) (dC : Nat → ClassId) (dI : Nat → Nat → Nat) (cI cB cJ cZ : ClassId) (sz : Nat) (h0 : Nat) (h1 : Nat) (h2 : Nat) (x0 : Int32) (x1 : Int32) (x2 : Int32) (x3 : Int32) (x4 : Int32) (f0 : Nat → Value) (g0 : Nat → Int32) (g1 : Nat → Int64) (hf0_0 : f0 0 = .ref h1) (hf0_1 : f0 1 = .int 0) : Met l yn_L_feed (Cond.codeWith yn_L_feed bn_L_feed 8 (some .int) [(0, 16, 19, 13)] :: xw_G) ({ frames := 2, cells := 0, slots := 0, locals := 47 }) (xk_PX (dC, dI) xcl (xt cI cB cJ cZ) [.ref h0, .int x0, .int x1, .int x2, .int x3, .int x4, .ref h2] sz [(h0, .inr (1, xo_C f0)), (h1, .inl (cB, 512, .inl g0)), (h2, .inl (cJ, 1, .inr (.inl g1)))]) (xk_Qi (dC, dI) xcl (xt cI cB cJ cZ) (fun (r : Int32) (u : (Nat → Int32)) => r = 0) (fun u : (Nat → Int32) => [(h2, .inl (cJ, 1, .inr (.inl (vp_updL g1 0 20)))), (h0, .inr (1, xo_C (va_up (va_up (va_up (va_up (va_up (va_up (va_up (va_up (va_up (va_up (va_up (va_up (va_up (va_up (va_up (va_up (va_up (va_up (va_up (va_up f0 1 (.int 1)) 1 (.int 2)) 1 (.int 3)) 1 (.int 4)) 1 (.int 5)) 1 (.int 6)) 1 (.int 7)) 1 (.int 8)) 1 (.int 9)) 1 (.int 10)) 1 (.int 11)) 1 (.int 12)) 1 (.int 13)) 1 (.int 14)) 1 (.int 15)) 1 (.int 16)) 1 (.int 17)) 1 (.int 18)) 1 (.int 19)) 1 (.int 20)))), (h1, .inl (cB, 512, .inl u))]) (va_A [(h0, .inr (1, xo_C f0)), (h1, .inl (cB, 512, .inl g0)), (h2, .inl (cJ, 1, .inr (.inl g1)))] sz)) 0 0 (va_A [(h0, .inr (1, xo_C f0)), (h1, .inl (cB, 512, .inl g0)), (h2, .inl (cJ, 1, .inr (.inl g1)))] sz) := by
  refine xk_ofH (QA := xk_Qi (dC, dI) xcl (xt cI cB cJ cZ) (fun (r : Int32) (u : (Nat → Int32)) => r = 0) (fun u : (Nat → Int32) => [(h2, .inl (cJ, 1, .inr (.inl (vp_updL g1 0 20)))), (h0, .inr (1, xo_C (va_up (va_up (va_up (va_up (va_up (va_up (va_up (va_up (va_up (va_up (va_up (va_up (va_up (va_up (va_up (va_up (va_up (va_up (va_up (va_up f0 1 (.int 1)) 1 (.int 2)) 1 (.int 3)) 1 (.int 4)) 1 (.int 5)) 1 (.int 6)) 1 (.int 7)) 1 (.int 8)) 1 (.int 9)) 1 (.int 10)) 1 (.int 11)) 1 (.int 12)) 1 (.int 13)) 1 (.int 14)) 1 (.int 15)) 1 (.int 16)) 1 (.int 17)) 1 (.int 18)) 1 (.int 19)) 1 (.int 20)))), (h1, .inl (cB, 512, .inl u))])) (by decide) (Nat.le_of_ble_eq_true rfl) ?_
  intro p e s m below meth c hx hb hml hown hg hr hlocks htab hst hP hK hN A hA hD hS ls hl
  have hown : s.vm.findClass rn_L = some m.cls := hown
  have hl : lv_has ls 8 [(0, .ref h0), (1, .int x0), (2, .int x1), (3, .int x2), (4, .int x3), (5, .int x4), (6, .ref h2)] := hl
  obtain ⟨H, hH⟩ : ∃ z, z = s.heap := ⟨_, rfl⟩
  rw [← hH] at hP
  have hS : va_S A s.heap H [] := by rw [hH]; exact va_S.rf
  suffices kk : W p l e ({ frames := 2, cells := 0, slots := 0, locals := 47 }) s m [.ref h0, .int x0, .int x1, .int x2, .int x3, .int x4, .ref h2].toArray below meth c H [] 0 0 (MQ below (xk_Qi (dC, dI) xcl (xt cI cB cJ cZ) (fun (r : Int32) (u : (Nat → Int32)) => r = 0) (fun u : (Nat → Int32) => [(h2, .inl (cJ, 1, .inr (.inl (vp_updL g1 0 20)))), (h0, .inr (1, xo_C (va_up (va_up (va_up (va_up (va_up (va_up (va_up (va_up (va_up (va_up (va_up (va_up (va_up (va_up (va_up (va_up (va_up (va_up (va_up (va_up f0 1 (.int 1)) 1 (.int 2)) 1 (.int 3)) 1 (.int 4)) 1 (.int 5)) 1 (.int 6)) 1 (.int 7)) 1 (.int 8)) 1 (.int 9)) 1 (.int 10)) 1 (.int 11)) 1 (.int 12)) 1 (.int 13)) 1 (.int 14)) 1 (.int 15)) 1 (.int 16)) 1 (.int 17)) 1 (.int 18)) 1 (.int 19)) 1 (.int 20)))), (h1, .inl (cB, 512, .inl u))]) A) [.ref h0, .int x0, .int x1, .int x2, .int x3, .int x4, .ref h2].toArray s 0 0 A) (F0 m 0 ls []) by rw [hH] at kk; exact kk
  refine lv_aload hx hb dn_L_feed_0 (lv_at hl 6 rfl) ?_
  refine lv_iconst (v := 0) hx hb dn_L_feed_2 (by decide) ?_
  refine lv_aload_n hx hb dn_L_feed_3 rfl (lv_at hl 0 rfl) ?_
  refine lv_iload_n hx hb dn_L_feed_4 rfl (lv_at hl 1 rfl) ?_
  refine lv_iload_n hx hb dn_L_feed_5 rfl (lv_at hl 2 rfl) ?_
  refine lv_iload_n hx hb dn_L_feed_6 rfl (lv_at hl 3 rfl) ?_
  refine lv_iload hx hb dn_L_feed_7 (lv_at hl 4 rfl) ?_
  refine lv_iload hx hb dn_L_feed_9 (lv_at hl 5 rfl) ?_
  have hPc := hP.sub (ws' := [(h0, .inr (1, xo_C f0)), (h1, .inl (cB, 512, .inl g0))]) [0, 1] rfl
  have hDc := hD.sub (ws' := [(h0, .inr (1, xo_C f0)), (h1, .inl (cB, 512, .inl g0))]) [0, 1] (by decide) rfl
  refine xk_calli (wr := [(h2, .inl (cJ, 1, .inr (.inl g1)))]) (xk_runV (ar := 5) (As := [.int x0, .int x1, .int x2, .int x3, .int x4]) (rest := [.int 0, .ref h2]) (ci := 1) (q0 := 0) ⟨hx, hb, hml, hown, hg⟩ hK hN (ct_C_feed_0 l dC dI cI cB cJ cZ H.size h0 h1 x0 x1 x2 x3 x4 f0 g0 hf0_0 hf0_1) hPc hDc rfl rfl wn_7_33 wn_7_34 wn_7_35 wn_1_1 wn_7_36 rfl rfl (by decide +kernel) ⟨Nat.le_of_ble_eq_true rfl, Nat.le_of_ble_eq_true rfl⟩ rfl hl.1 rfl (Nat.le_of_ble_eq_true rfl) dn_L_feed_11 ⟨Nat.le_of_ble_eq_true rfl, Nat.le_of_ble_eq_true rfl⟩) hP hD hS hA [0, 1] [2] rfl rfl (by decide) (by decide) (fun r_2 g_1 H locs hw hP hD hS => ?_)
  have hP : va_P (dC, dI) xcl [(h2, .inl (cJ, 1, .inr (.inl g1))), (h0, .inr (1, xo_C (va_up (va_up (va_up (va_up (va_up (va_up (va_up (va_up (va_up (va_up (va_up (va_up (va_up (va_up (va_up (va_up (va_up (va_up (va_up (va_up f0 1 (.int 1)) 1 (.int 2)) 1 (.int 3)) 1 (.int 4)) 1 (.int 5)) 1 (.int 6)) 1 (.int 7)) 1 (.int 8)) 1 (.int 9)) 1 (.int 10)) 1 (.int 11)) 1 (.int 12)) 1 (.int 13)) 1 (.int 14)) 1 (.int 15)) 1 (.int 16)) 1 (.int 17)) 1 (.int 18)) 1 (.int 19)) 1 (.int 20)))), (h1, .inl (cB, 512, .inl g_1))] H := hP
  have hD : va_D A [(h2, .inl (cJ, 1, .inr (.inl g1))), (h0, .inr (1, xo_C (va_up (va_up (va_up (va_up (va_up (va_up (va_up (va_up (va_up (va_up (va_up (va_up (va_up (va_up (va_up (va_up (va_up (va_up (va_up (va_up f0 1 (.int 1)) 1 (.int 2)) 1 (.int 3)) 1 (.int 4)) 1 (.int 5)) 1 (.int 6)) 1 (.int 7)) 1 (.int 8)) 1 (.int 9)) 1 (.int 10)) 1 (.int 11)) 1 (.int 12)) 1 (.int 13)) 1 (.int 14)) 1 (.int 15)) 1 (.int 16)) 1 (.int 17)) 1 (.int 18)) 1 (.int 19)) 1 (.int 20)))), (h1, .inl (cB, 512, .inl g_1))] := hD
  have hw : r_2 = 20 := hw
  subst hw
  refine lv_i2l (v := 20) hx hb dn_L_feed_14 (by decide) ?_
  refine va_last hx hb hK hP hD hS 0 2 rfl rfl (show ¬ (_ ∨ _) by decide) dn_L_feed_15 (fun H locs hP hD hS => ?_)
  have hP : va_P (dC, dI) xcl [(h2, .inl (cJ, 1, .inr (.inl (vp_updL g1 0 20)))), (h0, .inr (1, xo_C (va_up (va_up (va_up (va_up (va_up (va_up (va_up (va_up (va_up (va_up (va_up (va_up (va_up (va_up (va_up (va_up (va_up (va_up (va_up (va_up f0 1 (.int 1)) 1 (.int 2)) 1 (.int 3)) 1 (.int 4)) 1 (.int 5)) 1 (.int 6)) 1 (.int 7)) 1 (.int 8)) 1 (.int 9)) 1 (.int 10)) 1 (.int 11)) 1 (.int 12)) 1 (.int 13)) 1 (.int 14)) 1 (.int 15)) 1 (.int 16)) 1 (.int 17)) 1 (.int 18)) 1 (.int 19)) 1 (.int 20)))), (h1, .inl (cB, 512, .inl g_1))] H := hP
  have hD : va_D A [(h2, .inl (cJ, 1, .inr (.inl (vp_updL g1 0 20)))), (h0, .inr (1, xo_C (va_up (va_up (va_up (va_up (va_up (va_up (va_up (va_up (va_up (va_up (va_up (va_up (va_up (va_up (va_up (va_up (va_up (va_up (va_up (va_up f0 1 (.int 1)) 1 (.int 2)) 1 (.int 3)) 1 (.int 4)) 1 (.int 5)) 1 (.int 6)) 1 (.int 7)) 1 (.int 8)) 1 (.int 9)) 1 (.int 10)) 1 (.int 11)) 1 (.int 12)) 1 (.int 13)) 1 (.int 14)) 1 (.int 15)) 1 (.int 16)) 1 (.int 17)) 1 (.int 18)) 1 (.int 19)) 1 (.int 20)))), (h1, .inl (cB, 512, .inl g_1))] := hD
  refine lv_goto (tgt := 23) hx hb dn_L_feed_16 (by decide) ?_
  refine lv_iconst (v := 0) hx hb dn_L_feed_23 (by decide) ?_
  have hP9 := hP.sub (ws' := [(h2, .inl (cJ, 1, .inr (.inl (vp_updL g1 0 20)))), (h0, .inr (1, xo_C (va_up (va_up (va_up (va_up (va_up (va_up (va_up (va_up (va_up (va_up (va_up (va_up (va_up (va_up (va_up (va_up (va_up (va_up (va_up (va_up f0 1 (.int 1)) 1 (.int 2)) 1 (.int 3)) 1 (.int 4)) 1 (.int 5)) 1 (.int 6)) 1 (.int 7)) 1 (.int 8)) 1 (.int 9)) 1 (.int 10)) 1 (.int 11)) 1 (.int 12)) 1 (.int 13)) 1 (.int 14)) 1 (.int 15)) 1 (.int 16)) 1 (.int 17)) 1 (.int 18)) 1 (.int 19)) 1 (.int 20)))), (h1, .inl (cB, 512, .inl g_1))]) [0, 1, 2] rfl
  have hD9 := hD.sub (ws' := [(h2, .inl (cJ, 1, .inr (.inl (vp_updL g1 0 20)))), (h0, .inr (1, xo_C (va_up (va_up (va_up (va_up (va_up (va_up (va_up (va_up (va_up (va_up (va_up (va_up (va_up (va_up (va_up (va_up (va_up (va_up (va_up (va_up f0 1 (.int 1)) 1 (.int 2)) 1 (.int 3)) 1 (.int 4)) 1 (.int 5)) 1 (.int 6)) 1 (.int 7)) 1 (.int 8)) 1 (.int 9)) 1 (.int 10)) 1 (.int 11)) 1 (.int 12)) 1 (.int 13)) 1 (.int 14)) 1 (.int 15)) 1 (.int 16)) 1 (.int 17)) 1 (.int 18)) 1 (.int 19)) 1 (.int 20)))), (h1, .inl (cB, 512, .inl g_1))]) [0, 1, 2] (by decide) rfl
  exact xk_iret (w1 := fun u : (Nat → Int32) => [(h2, .inl (cJ, 1, .inr (.inl (vp_updL g1 0 20)))), (h0, .inr (1, xo_C (va_up (va_up (va_up (va_up (va_up (va_up (va_up (va_up (va_up (va_up (va_up (va_up (va_up (va_up (va_up (va_up (va_up (va_up (va_up (va_up f0 1 (.int 1)) 1 (.int 2)) 1 (.int 3)) 1 (.int 4)) 1 (.int 5)) 1 (.int 6)) 1 (.int 7)) 1 (.int 8)) 1 (.int 9)) 1 (.int 10)) 1 (.int 11)) 1 (.int 12)) 1 (.int 13)) 1 (.int 14)) 1 (.int 15)) 1 (.int 16)) 1 (.int 17)) 1 (.int 18)) 1 (.int 19)) 1 (.int 20)))), (h1, .inl (cB, 512, .inl u))]) (g_1) hx hb hr hlocks hK hS dn_L_feed_24 hP9 hD9 rfl (Nat.le_refl _) (Nat.le_refl _)
set_option maxHeartbeats 4000000 in
set_option maxRecDepth 100000 in
theorem ct_C_end_0 (l : Launch) (dC : Nat → ClassId) (dI : Nat → Nat → Nat) (cI cB cJ cZ : ClassId) (sz : Nat) (h0 : Nat) (f0 : Nat → Value) (hf0_1 : f0 1 = .int 0) : Met l yn_C_end (xw yn_C_end bn_C_end 2 none) ({ frames := 0, cells := 0, slots := 0, locals := 0 }) (xk_P (dC, dI) xcl (xt cI cB cJ cZ) [.ref h0, .int 0] sz [(h0, .inr (1, xo_C f0))]) (xk_Qv (dC, dI) xcl (xt cI cB cJ cZ) (fun u : Unit => True) (fun u : Unit => [(h0, .inr (1, xo_C (va_up f0 1 (.int 0))))]) (va_A [(h0, .inr (1, xo_C f0))] sz)) 0 0 (va_A [(h0, .inr (1, xo_C f0))] sz) := by
  refine xk_of (QA := xk_Qv (dC, dI) xcl (xt cI cB cJ cZ) (fun u : Unit => True) (fun u : Unit => [(h0, .inr (1, xo_C (va_up f0 1 (.int 0))))])) (by decide) (Nat.le_of_ble_eq_true rfl) ?_
  intro p e s m below meth c hx hb hml hown hg hr hlocks hin hP hK hN A hA hD hS ls hl
  have hown : s.vm.findClass rn_C = some m.cls := hown
  have hl : lv_has ls 2 [(0, .ref h0), (1, .int 0)] := hl
  obtain ⟨H, hH⟩ : ∃ z, z = s.heap := ⟨_, rfl⟩
  rw [← hH] at hP
  have hS : va_S A s.heap H [] := by rw [hH]; exact va_S.rf
  suffices kk : W p l e ({ frames := 0, cells := 0, slots := 0, locals := 0 }) s m [.ref h0, .int 0].toArray below meth c H [] 0 0 (MQ below (xk_Qv (dC, dI) xcl (xt cI cB cJ cZ) (fun u : Unit => True) (fun u : Unit => [(h0, .inr (1, xo_C (va_up f0 1 (.int 0))))]) A) [.ref h0, .int 0].toArray s 0 0 A) (F0 m 0 ls []) by rw [hH] at kk; exact kk
  refine lv_iload_n hx hb dn_C_end_0 rfl (lv_at hl 1 rfl) ?_
  refine lv_if_lt (tgt := 12) hx hb dn_C_end_1 (by decide) (fun h9 => absurd h9 (by decide)) (fun _ => ?_)
  refine lv_iload_n hx hb dn_C_end_4 rfl (lv_at hl 1 rfl) ?_
  refine lv_aload_n hx hb dn_C_end_5 rfl (lv_at hl 0 rfl) ?_
  refine va_get (D := (dC, dI)) (ci := 1) (v := .int 0) (C := rn_C) (T := fn_C) (N := 11) hx hb hg in_C hown hK hP 0 rfl rfl 1 (by decide) (hg _ wn_3_146) (fun _ h9 => h9) (congrArg some hf0_1) dn_C_end_6 ?_
  refine lv_icmp_le (tgt := 20) hx hb dn_C_end_9 (by decide) (fun _ => ?_) (fun h9 => absurd h9 (by decide))
  refine lv_aload_n hx hb dn_C_end_20 rfl (lv_at hl 0 rfl) ?_
  refine lv_iload_n hx hb dn_C_end_21 rfl (lv_at hl 1 rfl) ?_
  refine va_put (D := (dC, dI)) (ci := 1) (v := .int 0) (ty := .int) (C := rn_C) (T := fn_C) (N := 11) hx hb hg in_C tn_C tk_C nn_C hown hK hP hD hS 0 rfl rfl 1 (by decide) (hg _ wn_3_146) (fun _ h9 => h9) rfl (tk_C 1 (by decide)) rfl rfl (Nat.le_of_ble_eq_true rfl) dn_C_end_22 (fun H locs hP hD hS => ?_)
  have hP : va_P (dC, dI) xcl [(h0, .inr (1, xo_C (va_up f0 1 (.int 0))))] H := hP
  have hD : va_D A [(h0, .inr (1, xo_C (va_up f0 1 (.int 0))))] := hD
  have hP9 := hP.sub (ws' := [(h0, .inr (1, xo_C (va_up f0 1 (.int 0))))]) [0] rfl
  have hD9 := hD.sub (ws' := [(h0, .inr (1, xo_C (va_up f0 1 (.int 0))))]) [0] (by decide) rfl
  exact xk_vret (w1 := fun u : Unit => [(h0, .inr (1, xo_C (va_up f0 1 (.int 0))))]) () hx hb hr hlocks hK hS dn_C_end_25 hP9 hD9 trivial (Nat.le_refl _) (Nat.le_refl _)
set_option maxHeartbeats 4000000 in
set_option maxRecDepth 100000 in
theorem ct_L_end_0 (l : Launch) (hlt : l.stackTraces = false) (dC : Nat → ClassId) (dI : Nat → Nat → Nat) (cI cB cJ cZ : ClassId) (sz : Nat) (h0 : Nat) (f0 : Nat → Value) (hf0_1 : f0 1 = .int 0) : Met l yn_L_end (Cond.codeWith yn_L_end bn_L_end 3 (some .int) [(0, 5, 8, 19)] :: xw_G) ({ frames := 1, cells := 0, slots := 0, locals := 21 }) (xk_PX (dC, dI) xcl (xt cI cB cJ cZ) [.ref h0, .int 0] sz [(h0, .inr (1, xo_C f0))]) (xk_Qi (dC, dI) xcl (xt cI cB cJ cZ) (fun (r : Int32) (u : Unit) => r = 0) (fun u : Unit => [(h0, .inr (1, xo_C (va_up f0 1 (.int 0))))]) (va_A [(h0, .inr (1, xo_C f0))] sz)) 0 0 (va_A [(h0, .inr (1, xo_C f0))] sz) := by
  refine xk_ofH (QA := xk_Qi (dC, dI) xcl (xt cI cB cJ cZ) (fun (r : Int32) (u : Unit) => r = 0) (fun u : Unit => [(h0, .inr (1, xo_C (va_up f0 1 (.int 0))))])) (by decide) (Nat.le_of_ble_eq_true rfl) ?_
  intro p e s m below meth c hx hb hml hown hg hr hlocks htab hst hP hK hN A hA hD hS ls hl
  have hown : s.vm.findClass rn_L = some m.cls := hown
  have hl : lv_has ls 3 [(0, .ref h0), (1, .int 0)] := hl
  obtain ⟨H, hH⟩ : ∃ z, z = s.heap := ⟨_, rfl⟩
  rw [← hH] at hP
  have hS : va_S A s.heap H [] := by rw [hH]; exact va_S.rf
  suffices kk : W p l e ({ frames := 1, cells := 0, slots := 0, locals := 21 }) s m [.ref h0, .int 0].toArray below meth c H [] 0 0 (MQ below (xk_Qi (dC, dI) xcl (xt cI cB cJ cZ) (fun (r : Int32) (u : Unit) => r = 0) (fun u : Unit => [(h0, .inr (1, xo_C (va_up f0 1 (.int 0))))]) A) [.ref h0, .int 0].toArray s 0 0 A) (F0 m 0 ls []) by rw [hH] at kk; exact kk
  refine lv_aload_n hx hb dn_L_end_0 rfl (lv_at hl 0 rfl) ?_
  refine lv_iload_n hx hb dn_L_end_1 rfl (lv_at hl 1 rfl) ?_
  have hPc := hP.sub (ws' := [(h0, .inr (1, xo_C f0))]) [0] rfl
  have hDc := hD.sub (ws' := [(h0, .inr (1, xo_C f0))]) [0] (by decide) rfl
  refine xk_callv (wr := []) (xk_runV (ar := 1) (As := [.int 0]) (rest := []) (ci := 1) (q0 := 0) ⟨hx, hb, hml, hown, hg⟩ hK hN (ct_C_end_0 l dC dI cI cB cJ cZ H.size h0 f0 hf0_1) hPc hDc rfl rfl wn_7_122 wn_7_123 wn_7_124 wn_1_1 wn_7_125 rfl rfl (by decide +kernel) ⟨Nat.le_of_ble_eq_true rfl, Nat.le_of_ble_eq_true rfl⟩ rfl hl.1 rfl (Nat.le_of_ble_eq_true rfl) dn_L_end_2 ⟨Nat.le_of_ble_eq_true rfl, Nat.le_of_ble_eq_true rfl⟩) hP hD hS hA [0] [] rfl rfl (by decide) (by decide) (fun _ H locs hw hP hD hS => ?_)
  have hP : va_P (dC, dI) xcl [(h0, .inr (1, xo_C (va_up f0 1 (.int 0))))] H := hP
  have hD : va_D A [(h0, .inr (1, xo_C (va_up f0 1 (.int 0))))] := hD
  refine lv_goto (tgt := 11) hx hb dn_L_end_5 (by decide) ?_
  refine lv_iconst (v := 0) hx hb dn_L_end_11 (by decide) ?_
  have hP9 := hP.sub (ws' := [(h0, .inr (1, xo_C (va_up f0 1 (.int 0))))]) [0] rfl
  have hD9 := hD.sub (ws' := [(h0, .inr (1, xo_C (va_up f0 1 (.int 0))))]) [0] (by decide) rfl
  exact xk_iret (w1 := fun u : Unit => [(h0, .inr (1, xo_C (va_up f0 1 (.int 0))))]) () hx hb hr hlocks hK hS dn_L_end_12 hP9 hD9 rfl (Nat.le_refl _) (Nat.le_refl _)
set_option maxHeartbeats 4000000 in
set_option maxRecDepth 100000 in
theorem ct_L_end_t1 (l : Launch) (hlt : l.stackTraces = false) (dC : Nat → ClassId) (dI : Nat → Nat → Nat) (cI cB cJ cZ : ClassId) (sz : Nat) (hx0 : Nat) (fx : Nat → Value) (x0 : Int32) (hn : x0 < 0) : Met l yn_L_end (Cond.codeWith yn_L_end bn_L_end 3 (some .int) [(0, 5, 8, 19)] :: xw_G) ({ frames := 7, cells := 1, slots := 6, locals := 121 }) (xk_PX (dC, dI) xcl (xt cI cB cJ cZ) [.ref hx0, .int x0] sz [(hx0, .inr (1, xo_C fx))]) (xk_Qi (dC, dI) xcl (xt cI cB cJ cZ) (fun (r : Int32) (u : Unit) => r = 1) (fun u : Unit => [(hx0, .inr (1, xo_C fx))]) (va_A [(hx0, .inr (1, xo_C fx))] sz)) 1 6 (va_A [(hx0, .inr (1, xo_C fx))] sz) := by
  refine xk_ofH (QA := xk_Qi (dC, dI) xcl (xt cI cB cJ cZ) (fun (r : Int32) (u : Unit) => r = 1) (fun u : Unit => [(hx0, .inr (1, xo_C fx))])) (by decide) (Nat.le_of_ble_eq_true rfl) ?_
  intro p e s m below meth c hx hb hml hown hg hr hlocks htab hst hP hK hN A hA hD hS ls hl
  have hown : s.vm.findClass rn_L = some m.cls := hown
  have hl : lv_has ls 3 [(0, .ref hx0), (1, .int x0)] := hl
  obtain ⟨H, hH⟩ : ∃ z, z = s.heap := ⟨_, rfl⟩
  rw [← hH] at hP
  have hS : va_S A s.heap H [] := by rw [hH]; exact va_S.rf
  suffices kk : W p l e ({ frames := 7, cells := 1, slots := 6, locals := 121 }) s m [.ref hx0, .int x0].toArray below meth c H [] 0 0 (MQ below (xk_Qi (dC, dI) xcl (xt cI cB cJ cZ) (fun (r : Int32) (u : Unit) => r = 1) (fun u : Unit => [(hx0, .inr (1, xo_C fx))]) A) [.ref hx0, .int x0].toArray s 1 6 A) (F0 m 0 ls []) by rw [hH] at kk; exact kk
  refine lv_aload_n hx hb dn_L_end_0 rfl (lv_at hl 0 rfl) ?_
  refine lv_iload_n hx hb dn_L_end_1 rfl (lv_at hl 1 rfl) ?_
  have hPc := hP.sub (ws' := [(hx0, .inr (1, xo_C fx))]) [0] rfl
  have hDc := hD.sub (ws' := [(hx0, .inr (1, xo_C fx))]) [0] (by decide) rfl
  refine xk_callX (ar := 1) (As := [.int x0]) (rest := []) (ci := 1) (q0 := 0) ⟨hx, hb, hml, hown, hg⟩ hK hN (ct_C_end_t0 l hlt dC dI cI cB cJ cZ H.size hx0 x0 fx hn) hP hS hPc hDc rfl rfl hst hH wn_7_122 wn_7_123 wn_7_124 wn_1_1 wn_7_125 rfl rfl (by decide +kernel) ⟨Nat.le_of_ble_eq_true rfl, Nat.le_of_ble_eq_true rfl⟩ rfl hl.1 rfl (Nat.le_of_ble_eq_true rfl) dn_L_end_2 ⟨Nat.le_of_ble_eq_true rfl, Nat.le_of_ble_eq_true rfl⟩ htab (by decide) (by decide) wn_7_121 (by decide +kernel) (fun qx H hP hS => ?_)
  refine lv_astore_n (lv' := [(2, .ref qx), (0, .ref hx0), (1, .int x0)]) hx hb dn_L_end_8 rfl hl (by decide) rfl (fun ls hl => ?_)
  refine lv_iconst (v := 1) hx hb dn_L_end_9 (by decide) ?_
  exact xk_iret (w1 := fun u : Unit => [(hx0, .inr (1, xo_C fx))]) () hx hb hr hlocks hK hS dn_L_end_10 hP hD rfl (Nat.le_refl _) (Nat.le_refl _)
set_option maxHeartbeats 4000000 in
set_option maxRecDepth 100000 in
theorem ct_L_end_t2 (l : Launch) (hlt : l.stackTraces = false) (dC : Nat → ClassId) (dI : Nat → Nat → Nat) (cI cB cJ cZ : ClassId) (sz : Nat) (hx0 : Nat) (fx : Nat → Value) (x0 : Int32) (hc1 : fx 1 = .int 0) (hn : ¬ x0 < 0) (hn2 : ¬ x0 ≤ 0) : Met l yn_L_end (Cond.codeWith yn_L_end bn_L_end 3 (some .int) [(0, 5, 8, 19)] :: xw_G) ({ frames := 7, cells := 1, slots := 6, locals := 121 }) (xk_PX (dC, dI) xcl (xt cI cB cJ cZ) [.ref hx0, .int x0] sz [(hx0, .inr (1, xo_C fx))]) (xk_Qi (dC, dI) xcl (xt cI cB cJ cZ) (fun (r : Int32) (u : Unit) => r = 1) (fun u : Unit => [(hx0, .inr (1, xo_C fx))]) (va_A [(hx0, .inr (1, xo_C fx))] sz)) 1 6 (va_A [(hx0, .inr (1, xo_C fx))] sz) := by
  refine xk_ofH (QA := xk_Qi (dC, dI) xcl (xt cI cB cJ cZ) (fun (r : Int32) (u : Unit) => r = 1) (fun u : Unit => [(hx0, .inr (1, xo_C fx))])) (by decide) (Nat.le_of_ble_eq_true rfl) ?_
  intro p e s m below meth c hx hb hml hown hg hr hlocks htab hst hP hK hN A hA hD hS ls hl
  have hown : s.vm.findClass rn_L = some m.cls := hown
  have hl : lv_has ls 3 [(0, .ref hx0), (1, .int x0)] := hl
  obtain ⟨H, hH⟩ : ∃ z, z = s.heap := ⟨_, rfl⟩
  rw [← hH] at hP
  have hS : va_S A s.heap H [] := by rw [hH]; exact va_S.rf
  suffices kk : W p l e ({ frames := 7, cells := 1, slots := 6, locals := 121 }) s m [.ref hx0, .int x0].toArray below meth c H [] 0 0 (MQ below (xk_Qi (dC, dI) xcl (xt cI cB cJ cZ) (fun (r : Int32) (u : Unit) => r = 1) (fun u : Unit => [(hx0, .inr (1, xo_C fx))]) A) [.ref hx0, .int x0].toArray s 1 6 A) (F0 m 0 ls []) by rw [hH] at kk; exact kk
  refine lv_aload_n hx hb dn_L_end_0 rfl (lv_at hl 0 rfl) ?_
  refine lv_iload_n hx hb dn_L_end_1 rfl (lv_at hl 1 rfl) ?_
  have hPc := hP.sub (ws' := [(hx0, .inr (1, xo_C fx))]) [0] rfl
  have hDc := hD.sub (ws' := [(hx0, .inr (1, xo_C fx))]) [0] (by decide) rfl
  refine xk_callX (ar := 1) (As := [.int x0]) (rest := []) (ci := 1) (q0 := 0) ⟨hx, hb, hml, hown, hg⟩ hK hN (ct_C_end_t1 l hlt dC dI cI cB cJ cZ H.size hx0 x0 fx hc1 hn hn2) hP hS hPc hDc rfl rfl hst hH wn_7_122 wn_7_123 wn_7_124 wn_1_1 wn_7_125 rfl rfl (by decide +kernel) ⟨Nat.le_of_ble_eq_true rfl, Nat.le_of_ble_eq_true rfl⟩ rfl hl.1 rfl (Nat.le_of_ble_eq_true rfl) dn_L_end_2 ⟨Nat.le_of_ble_eq_true rfl, Nat.le_of_ble_eq_true rfl⟩ htab (by decide) (by decide) wn_7_121 (by decide +kernel) (fun qx H hP hS => ?_)
  refine lv_astore_n (lv' := [(2, .ref qx), (0, .ref hx0), (1, .int x0)]) hx hb dn_L_end_8 rfl hl (by decide) rfl (fun ls hl => ?_)
  refine lv_iconst (v := 1) hx hb dn_L_end_9 (by decide) ?_
  exact xk_iret (w1 := fun u : Unit => [(hx0, .inr (1, xo_C fx))]) () hx hb hr hlocks hK hS dn_L_end_10 hP hD rfl (Nat.le_refl _) (Nat.le_refl _)
theorem ct_C_read_0 (l : Launch) (dC : Nat → ClassId) (dI : Nat → Nat → Nat) (cI cB cJ cZ : ClassId) (sz : Nat) (hx0 : Nat) (fx : Nat → Value) (hc1 : fx 1 = .int 0) (hc2 : fx 2 = .int 0) (hc9 : fx 9 = .null) : Met l yn_C_read (xw yn_C_read bn_C_read 4 (some .int)) ({ frames := 20, cells := 200, slots := 30000, locals := 400 }) (xk_P (dC, dI) xcl (xt cI cB cJ cZ) [.ref hx0] sz [(hx0, .inr (1, xo_C fx))]) (xk_Qi (dC, dI) xcl (xt cI cB cJ cZ) (fun (r : Int32) (u : Unit) => r = 0) (fun u : Unit => [(hx0, .inr (1, xo_C fx))]) (va_A [(hx0, .inr (1, xo_C fx))] sz)) 200 30000 (va_A [(hx0, .inr (1, xo_C fx))] sz) := by
  sorry
set_option maxHeartbeats 4000000 in
set_option maxRecDepth 100000 in
theorem ct_M_feed_1 (l : Launch) (dC : Nat → ClassId) (dI : Nat → Nat → Nat) (cI cB cJ cZ : ClassId) (sz : Nat) (h0 : Nat) (h1 : Nat) (x0 : Int32) (x1 : Int32) (x2 : Int32) (x3 : Int32) (x4 : Int32) (f0 : Nat → Value) (hf0_1 : f0 1 = .ref h1) (hf0_88 : f0 88 = .int 0) : Met l yn_M_feed (xw yn_M_feed bn_M_feed 8 (some .int)) ({ frames := 0, cells := 0, slots := 0, locals := 0 }) (xk_P (dC, dI) xcl (xt cI cB cJ cZ) [.ref h0, .int x0, .int x1, .int x2, .int x3, .int x4] sz [(h0, .inr (0, xo_M f0)), (h1, .inl (cB, 65536, .inl (fun _ => 0)))]) (xk_Qi (dC, dI) xcl (xt cI cB cJ cZ) (fun (r : Int32) (u : (Nat → Int32)) => r = 20) (fun u : (Nat → Int32) => [(h0, .inr (0, xo_M (va_up (va_up f0 0 (.int 0)) 88 (.int 20)))), (h1, .inl (cB, 65536, .inl u))]) (va_A [(h0, .inr (0, xo_M f0)), (h1, .inl (cB, 65536, .inl (fun _ => 0)))] sz)) 0 0 (va_A [(h0, .inr (0, xo_M f0)), (h1, .inl (cB, 65536, .inl (fun _ => 0)))] sz) := by
  refine xk_of (QA := xk_Qi (dC, dI) xcl (xt cI cB cJ cZ) (fun (r : Int32) (u : (Nat → Int32)) => r = 20) (fun u : (Nat → Int32) => [(h0, .inr (0, xo_M (va_up (va_up f0 0 (.int 0)) 88 (.int 20)))), (h1, .inl (cB, 65536, .inl u))])) (by decide) (Nat.le_of_ble_eq_true rfl) ?_
  intro p e s m below meth c hx hb hml hown hg hr hlocks hin hP hK hN A hA hD hS ls hl
  have hown : s.vm.findClass rn_M = some m.cls := hown
  have hl : lv_has ls 8 [(0, .ref h0), (1, .int x0), (2, .int x1), (3, .int x2), (4, .int x3), (5, .int x4)] := hl
  obtain ⟨H, hH⟩ : ∃ z, z = s.heap := ⟨_, rfl⟩
  rw [← hH] at hP
  have hS : va_S A s.heap H [] := by rw [hH]; exact va_S.rf
  suffices kk : W p l e ({ frames := 0, cells := 0, slots := 0, locals := 0 }) s m [.ref h0, .int x0, .int x1, .int x2, .int x3, .int x4].toArray below meth c H [] 0 0 (MQ below (xk_Qi (dC, dI) xcl (xt cI cB cJ cZ) (fun (r : Int32) (u : (Nat → Int32)) => r = 20) (fun u : (Nat → Int32) => [(h0, .inr (0, xo_M (va_up (va_up f0 0 (.int 0)) 88 (.int 20)))), (h1, .inl (cB, 65536, .inl u))]) A) [.ref h0, .int x0, .int x1, .int x2, .int x3, .int x4].toArray s 0 0 A) (F0 m 0 ls []) by rw [hH] at kk; exact kk
  refine lv_aload_n hx hb dn_M_feed_0 rfl (lv_at hl 0 rfl) ?_
  refine lv_aload_n hx hb dn_M_feed_1 rfl (lv_at hl 0 rfl) ?_
  refine va_get (D := (dC, dI)) (ci := 0) (v := .int 0) (C := rn_M) (T := fn_M) (N := 91) hx hb hg in_M hown hK hP 0 rfl rfl 88 (by decide) (hg _ wn_8_178) (fun _ h9 => h9) (congrArg some hf0_88) dn_M_feed_2 ?_
  refine lv_bipush (v := 20) hx hb dn_M_feed_5 (by decide) ?_
  refine lv_iadd hx hb dn_M_feed_7 ?_
  refine xk_ti (y := 20) (by decide) ?_
  refine lv_aload_n hx hb dn_M_feed_8 rfl (lv_at hl 0 rfl) ?_
  refine va_get (D := (dC, dI)) (ci := 0) (v := .ref h1) (C := rn_M) (T := fn_M) (N := 91) hx hb hg in_M hown hK hP 0 rfl rfl 1 (by decide) (hg _ wn_8_91) (fun _ h9 => h9) (congrArg some hf0_1) dn_M_feed_9 ?_
  refine va_alen (v := 65536) hx hb hK hP 1 1 rfl rfl rfl dn_M_feed_12 ?_
  refine lv_icmp_le (tgt := 20) hx hb dn_M_feed_13 (by decide) (fun _ => ?_) (fun h9 => absurd h9 (by decide))
  refine lv_iconst (v := 0) hx hb dn_M_feed_20 (by decide) ?_
  refine va_put (D := (dC, dI)) (ci := 0) (v := .int 0) (ty := .int) (C := rn_M) (T := fn_M) (N := 91) hx hb hg in_M tn_M tk_M nn_M hown hK hP hD hS 0 rfl rfl 0 (by decide) (hg _ wn_8_90) (fun _ h9 => h9) rfl (tk_M 0 (by decide)) rfl rfl (Nat.le_of_ble_eq_true rfl) dn_M_feed_21 (fun H locs hP hD hS => ?_)
  have hP : va_P (dC, dI) xcl [(h0, .inr (0, xo_M (va_up f0 0 (.int 0)))), (h1, .inl (cB, 65536, .inl (fun _ => 0)))] H := hP
  have hD : va_D A [(h0, .inr (0, xo_M (va_up f0 0 (.int 0)))), (h1, .inl (cB, 65536, .inl (fun _ => 0)))] := hD
  refine lv_aload_n hx hb dn_M_feed_24 rfl (lv_at hl 0 rfl) ?_
  refine va_get (D := (dC, dI)) (ci := 0) (v := .int 0) (C := rn_M) (T := fn_M) (N := 91) hx hb hg in_M hown hK hP 0 rfl rfl 0 (by decide) (hg _ wn_8_90) (fun _ h9 => h9) rfl dn_M_feed_25 ?_
  refine lv_if_le (tgt := 33) hx hb dn_M_feed_28 (by decide) (fun _ => ?_) (fun h9 => absurd h9 (by decide))
  refine lv_iconst (v := 0) hx hb dn_M_feed_33 (by decide) ?_
  refine lv_istore (lv' := [(6, .int 0), (0, .ref h0), (1, .int x0), (2, .int x1), (3, .int x2), (4, .int x3), (5, .int x4)]) hx hb dn_M_feed_34 hl (by decide) rfl (fun ls hl => ?_)
  refine lv_iload hx hb dn_M_feed_36 (lv_at hl 0 rfl) ?_
  refine lv_bipush (v := 20) hx hb dn_M_feed_38 (by decide) ?_
  refine lv_icmp_ge (tgt := 123) hx hb dn_M_feed_40 (by decide) (fun h9 => absurd h9 (by decide)) (fun _ => ?_)
  refine lv_iload hx hb dn_M_feed_43 (lv_at hl 0 rfl) ?_
  refine lv_iconst (v := 4) hx hb dn_M_feed_45 (by decide) ?_
  refine lv_icmp_ge (tgt := 53) hx hb dn_M_feed_46 (by decide) (fun h9 => absurd h9 (by decide)) (fun _ => ?_)
  refine lv_iload_n hx hb dn_M_feed_49 rfl (lv_at hl 2 rfl) ?_
  refine lv_goto (tgt := 89) hx hb dn_M_feed_50 (by decide) ?_
  refine lv_istore (lv' := [(7, .int x0), (6, .int 0), (0, .ref h0), (1, .int x0), (2, .int x1), (3, .int x2), (4, .int x3), (5, .int x4)]) hx hb dn_M_feed_89 hl (by decide) rfl (fun ls hl => ?_)
  refine lv_aload_n hx hb dn_M_feed_91 rfl (lv_at hl 2 rfl) ?_
  refine va_get (D := (dC, dI)) (ci := 0) (v := .ref h1) (C := rn_M) (T := fn_M) (N := 91) hx hb hg in_M hown hK hP 0 rfl rfl 1 (by decide) (hg _ wn_8_91) (fun _ h9 => h9) (congrArg some hf0_1) dn_M_feed_92 ?_
  refine lv_aload_n hx hb dn_M_feed_95 rfl (lv_at hl 2 rfl) ?_
  refine va_get (D := (dC, dI)) (ci := 0) (v := .int 0) (C := rn_M) (T := fn_M) (N := 91) hx hb hg in_M hown hK hP 0 rfl rfl 88 (by decide) (hg _ wn_8_178) (fun _ h9 => h9) (congrArg some hf0_88) dn_M_feed_96 ?_
  refine lv_iload hx hb dn_M_feed_99 (lv_at hl 1 rfl) ?_
  refine lv_iadd hx hb dn_M_feed_101 ?_
  refine xk_ti (y := 0) (by decide) ?_
  refine lv_iload hx hb dn_M_feed_102 (lv_at hl 0 rfl) ?_
  refine lv_bipush (v := 24) hx hb dn_M_feed_104 (by decide) ?_
  refine lv_bipush (v := 8) hx hb dn_M_feed_106 (by decide) ?_
  refine lv_iload hx hb dn_M_feed_108 (lv_at hl 1 rfl) ?_
  refine lv_iconst (v := 4) hx hb dn_M_feed_110 (by decide) ?_
  refine lv_irem hx hb dn_M_feed_111 (by decide) ?_
  refine xk_ti (y := 0) (by decide) ?_
  refine lv_imul hx hb dn_M_feed_112 ?_
  refine xk_ti (y := 0) (by decide) ?_
  refine lv_isub hx hb dn_M_feed_113 ?_
  refine xk_ti (y := 24) (by decide) ?_
  refine lv_ishr hx hb dn_M_feed_114 ?_
  refine lv_topi (fun z_1 _ => ?_)
  refine lv_i2b hx hb dn_M_feed_115 rfl ?_
  refine lv_topi (fun z_2 ez_2 => ?_)
  refine va_bast hx hb hK hP hD hS 1 1 rfl rfl (show ¬ (_ ∨ _) by decide) dn_M_feed_116 (fun H locs hP hD hS => ?_)
  obtain ⟨g_3, eg_3⟩ : ∃ z : Nat → Int32, z = upd (fun _ => 0) (0 : Int32).toNatClampNeg (vp_nar .byte z_2) := ⟨_, rfl⟩
  have hP : va_P (dC, dI) xcl [(h0, .inr (0, xo_M (va_up f0 0 (.int 0)))), (h1, .inl (cB, 65536, .inl g_3))] H := by rw [eg_3]; exact hP
  have hD : va_D A [(h0, .inr (0, xo_M (va_up f0 0 (.int 0)))), (h1, .inl (cB, 65536, .inl g_3))] := by rw [eg_3]; exact hD
  refine lv_iinc (v := 1) (lv' := [(6, .int 1), (7, .int x0), (0, .ref h0), (1, .int x0), (2, .int x1), (3, .int x2), (4, .int x3), (5, .int x4)]) hx hb dn_M_feed_117 hl (k := 1) rfl (by decide) (by decide) rfl (fun ls hl => ?_)
  refine lv_goto (tgt := 36) hx hb dn_M_feed_120 (by decide) ?_
  refine lv_iload hx hb dn_M_feed_36 (lv_at hl 0 rfl) ?_
  refine lv_bipush (v := 20) hx hb dn_M_feed_38 (by decide) ?_
  refine lv_icmp_ge (tgt := 123) hx hb dn_M_feed_40 (by decide) (fun h9 => absurd h9 (by decide)) (fun _ => ?_)
  refine lv_iload hx hb dn_M_feed_43 (lv_at hl 0 rfl) ?_
  refine lv_iconst (v := 4) hx hb dn_M_feed_45 (by decide) ?_
  refine lv_icmp_ge (tgt := 53) hx hb dn_M_feed_46 (by decide) (fun h9 => absurd h9 (by decide)) (fun _ => ?_)
  refine lv_iload_n hx hb dn_M_feed_49 rfl (lv_at hl 3 rfl) ?_
  refine lv_goto (tgt := 89) hx hb dn_M_feed_50 (by decide) ?_
  refine lv_istore (lv' := [(7, .int x0), (6, .int 1), (0, .ref h0), (1, .int x0), (2, .int x1), (3, .int x2), (4, .int x3), (5, .int x4)]) hx hb dn_M_feed_89 hl (by decide) rfl (fun ls hl => ?_)
  refine lv_aload_n hx hb dn_M_feed_91 rfl (lv_at hl 2 rfl) ?_
  refine va_get (D := (dC, dI)) (ci := 0) (v := .ref h1) (C := rn_M) (T := fn_M) (N := 91) hx hb hg in_M hown hK hP 0 rfl rfl 1 (by decide) (hg _ wn_8_91) (fun _ h9 => h9) (congrArg some hf0_1) dn_M_feed_92 ?_
  refine lv_aload_n hx hb dn_M_feed_95 rfl (lv_at hl 2 rfl) ?_
  refine va_get (D := (dC, dI)) (ci := 0) (v := .int 0) (C := rn_M) (T := fn_M) (N := 91) hx hb hg in_M hown hK hP 0 rfl rfl 88 (by decide) (hg _ wn_8_178) (fun _ h9 => h9) (congrArg some hf0_88) dn_M_feed_96 ?_
  refine lv_iload hx hb dn_M_feed_99 (lv_at hl 1 rfl) ?_
  refine lv_iadd hx hb dn_M_feed_101 ?_
  refine xk_ti (y := 1) (by decide) ?_
  refine lv_iload hx hb dn_M_feed_102 (lv_at hl 0 rfl) ?_
  refine lv_bipush (v := 24) hx hb dn_M_feed_104 (by decide) ?_
  refine lv_bipush (v := 8) hx hb dn_M_feed_106 (by decide) ?_
  refine lv_iload hx hb dn_M_feed_108 (lv_at hl 1 rfl) ?_
  refine lv_iconst (v := 4) hx hb dn_M_feed_110 (by decide) ?_
  refine lv_irem hx hb dn_M_feed_111 (by decide) ?_
  refine xk_ti (y := 1) (by decide) ?_
  refine lv_imul hx hb dn_M_feed_112 ?_
  refine xk_ti (y := 8) (by decide) ?_
  refine lv_isub hx hb dn_M_feed_113 ?_
  refine xk_ti (y := 16) (by decide) ?_
  refine lv_ishr hx hb dn_M_feed_114 ?_
  refine lv_topi (fun z_4 _ => ?_)
  refine lv_i2b hx hb dn_M_feed_115 rfl ?_
  refine lv_topi (fun z_5 ez_5 => ?_)
  refine va_bast hx hb hK hP hD hS 1 1 rfl rfl (show ¬ (_ ∨ _) by decide) dn_M_feed_116 (fun H locs hP hD hS => ?_)
  obtain ⟨g_6, eg_6⟩ : ∃ z : Nat → Int32, z = upd g_3 (1 : Int32).toNatClampNeg (vp_nar .byte z_5) := ⟨_, rfl⟩
  have hP : va_P (dC, dI) xcl [(h0, .inr (0, xo_M (va_up f0 0 (.int 0)))), (h1, .inl (cB, 65536, .inl g_6))] H := by rw [eg_6]; exact hP
  have hD : va_D A [(h0, .inr (0, xo_M (va_up f0 0 (.int 0)))), (h1, .inl (cB, 65536, .inl g_6))] := by rw [eg_6]; exact hD
  refine lv_iinc (v := 2) (lv' := [(6, .int 2), (7, .int x0), (0, .ref h0), (1, .int x0), (2, .int x1), (3, .int x2), (4, .int x3), (5, .int x4)]) hx hb dn_M_feed_117 hl (k := 1) rfl (by decide) (by decide) rfl (fun ls hl => ?_)
  refine lv_goto (tgt := 36) hx hb dn_M_feed_120 (by decide) ?_
  refine lv_iload hx hb dn_M_feed_36 (lv_at hl 0 rfl) ?_
  refine lv_bipush (v := 20) hx hb dn_M_feed_38 (by decide) ?_
  refine lv_icmp_ge (tgt := 123) hx hb dn_M_feed_40 (by decide) (fun h9 => absurd h9 (by decide)) (fun _ => ?_)
  refine lv_iload hx hb dn_M_feed_43 (lv_at hl 0 rfl) ?_
  refine lv_iconst (v := 4) hx hb dn_M_feed_45 (by decide) ?_
  refine lv_icmp_ge (tgt := 53) hx hb dn_M_feed_46 (by decide) (fun h9 => absurd h9 (by decide)) (fun _ => ?_)
  refine lv_iload_n hx hb dn_M_feed_49 rfl (lv_at hl 3 rfl) ?_
  refine lv_goto (tgt := 89) hx hb dn_M_feed_50 (by decide) ?_
  refine lv_istore (lv' := [(7, .int x0), (6, .int 2), (0, .ref h0), (1, .int x0), (2, .int x1), (3, .int x2), (4, .int x3), (5, .int x4)]) hx hb dn_M_feed_89 hl (by decide) rfl (fun ls hl => ?_)
  refine lv_aload_n hx hb dn_M_feed_91 rfl (lv_at hl 2 rfl) ?_
  refine va_get (D := (dC, dI)) (ci := 0) (v := .ref h1) (C := rn_M) (T := fn_M) (N := 91) hx hb hg in_M hown hK hP 0 rfl rfl 1 (by decide) (hg _ wn_8_91) (fun _ h9 => h9) (congrArg some hf0_1) dn_M_feed_92 ?_
  refine lv_aload_n hx hb dn_M_feed_95 rfl (lv_at hl 2 rfl) ?_
  refine va_get (D := (dC, dI)) (ci := 0) (v := .int 0) (C := rn_M) (T := fn_M) (N := 91) hx hb hg in_M hown hK hP 0 rfl rfl 88 (by decide) (hg _ wn_8_178) (fun _ h9 => h9) (congrArg some hf0_88) dn_M_feed_96 ?_
  refine lv_iload hx hb dn_M_feed_99 (lv_at hl 1 rfl) ?_
  refine lv_iadd hx hb dn_M_feed_101 ?_
  refine xk_ti (y := 2) (by decide) ?_
  refine lv_iload hx hb dn_M_feed_102 (lv_at hl 0 rfl) ?_
  refine lv_bipush (v := 24) hx hb dn_M_feed_104 (by decide) ?_
  refine lv_bipush (v := 8) hx hb dn_M_feed_106 (by decide) ?_
  refine lv_iload hx hb dn_M_feed_108 (lv_at hl 1 rfl) ?_
  refine lv_iconst (v := 4) hx hb dn_M_feed_110 (by decide) ?_
  refine lv_irem hx hb dn_M_feed_111 (by decide) ?_
  refine xk_ti (y := 2) (by decide) ?_
  refine lv_imul hx hb dn_M_feed_112 ?_
  refine xk_ti (y := 16) (by decide) ?_
  refine lv_isub hx hb dn_M_feed_113 ?_
  refine xk_ti (y := 8) (by decide) ?_
  refine lv_ishr hx hb dn_M_feed_114 ?_
  refine lv_topi (fun z_7 _ => ?_)
  refine lv_i2b hx hb dn_M_feed_115 rfl ?_
  refine lv_topi (fun z_8 ez_8 => ?_)
  refine va_bast hx hb hK hP hD hS 1 1 rfl rfl (show ¬ (_ ∨ _) by decide) dn_M_feed_116 (fun H locs hP hD hS => ?_)
  obtain ⟨g_9, eg_9⟩ : ∃ z : Nat → Int32, z = upd g_6 (2 : Int32).toNatClampNeg (vp_nar .byte z_8) := ⟨_, rfl⟩
  have hP : va_P (dC, dI) xcl [(h0, .inr (0, xo_M (va_up f0 0 (.int 0)))), (h1, .inl (cB, 65536, .inl g_9))] H := by rw [eg_9]; exact hP
  have hD : va_D A [(h0, .inr (0, xo_M (va_up f0 0 (.int 0)))), (h1, .inl (cB, 65536, .inl g_9))] := by rw [eg_9]; exact hD
  refine lv_iinc (v := 3) (lv' := [(6, .int 3), (7, .int x0), (0, .ref h0), (1, .int x0), (2, .int x1), (3, .int x2), (4, .int x3), (5, .int x4)]) hx hb dn_M_feed_117 hl (k := 1) rfl (by decide) (by decide) rfl (fun ls hl => ?_)
  refine lv_goto (tgt := 36) hx hb dn_M_feed_120 (by decide) ?_
  refine lv_iload hx hb dn_M_feed_36 (lv_at hl 0 rfl) ?_
  refine lv_bipush (v := 20) hx hb dn_M_feed_38 (by decide) ?_
  refine lv_icmp_ge (tgt := 123) hx hb dn_M_feed_40 (by decide) (fun h9 => absurd h9 (by decide)) (fun _ => ?_)
  refine lv_iload hx hb dn_M_feed_43 (lv_at hl 0 rfl) ?_
  refine lv_iconst (v := 4) hx hb dn_M_feed_45 (by decide) ?_
  refine lv_icmp_ge (tgt := 53) hx hb dn_M_feed_46 (by decide) (fun h9 => absurd h9 (by decide)) (fun _ => ?_)
  refine lv_iload_n hx hb dn_M_feed_49 rfl (lv_at hl 3 rfl) ?_
  refine lv_goto (tgt := 89) hx hb dn_M_feed_50 (by decide) ?_
  refine lv_istore (lv' := [(7, .int x0), (6, .int 3), (0, .ref h0), (1, .int x0), (2, .int x1), (3, .int x2), (4, .int x3), (5, .int x4)]) hx hb dn_M_feed_89 hl (by decide) rfl (fun ls hl => ?_)
  refine lv_aload_n hx hb dn_M_feed_91 rfl (lv_at hl 2 rfl) ?_
  refine va_get (D := (dC, dI)) (ci := 0) (v := .ref h1) (C := rn_M) (T := fn_M) (N := 91) hx hb hg in_M hown hK hP 0 rfl rfl 1 (by decide) (hg _ wn_8_91) (fun _ h9 => h9) (congrArg some hf0_1) dn_M_feed_92 ?_
  refine lv_aload_n hx hb dn_M_feed_95 rfl (lv_at hl 2 rfl) ?_
  refine va_get (D := (dC, dI)) (ci := 0) (v := .int 0) (C := rn_M) (T := fn_M) (N := 91) hx hb hg in_M hown hK hP 0 rfl rfl 88 (by decide) (hg _ wn_8_178) (fun _ h9 => h9) (congrArg some hf0_88) dn_M_feed_96 ?_
  refine lv_iload hx hb dn_M_feed_99 (lv_at hl 1 rfl) ?_
  refine lv_iadd hx hb dn_M_feed_101 ?_
  refine xk_ti (y := 3) (by decide) ?_
  refine lv_iload hx hb dn_M_feed_102 (lv_at hl 0 rfl) ?_
  refine lv_bipush (v := 24) hx hb dn_M_feed_104 (by decide) ?_
  refine lv_bipush (v := 8) hx hb dn_M_feed_106 (by decide) ?_
  refine lv_iload hx hb dn_M_feed_108 (lv_at hl 1 rfl) ?_
  refine lv_iconst (v := 4) hx hb dn_M_feed_110 (by decide) ?_
  refine lv_irem hx hb dn_M_feed_111 (by decide) ?_
  refine xk_ti (y := 3) (by decide) ?_
  refine lv_imul hx hb dn_M_feed_112 ?_
  refine xk_ti (y := 24) (by decide) ?_
  refine lv_isub hx hb dn_M_feed_113 ?_
  refine xk_ti (y := 0) (by decide) ?_
  refine lv_ishr hx hb dn_M_feed_114 ?_
  refine lv_topi (fun z_10 _ => ?_)
  refine lv_i2b hx hb dn_M_feed_115 rfl ?_
  refine lv_topi (fun z_11 ez_11 => ?_)
  refine va_bast hx hb hK hP hD hS 1 1 rfl rfl (show ¬ (_ ∨ _) by decide) dn_M_feed_116 (fun H locs hP hD hS => ?_)
  obtain ⟨g_12, eg_12⟩ : ∃ z : Nat → Int32, z = upd g_9 (3 : Int32).toNatClampNeg (vp_nar .byte z_11) := ⟨_, rfl⟩
  have hP : va_P (dC, dI) xcl [(h0, .inr (0, xo_M (va_up f0 0 (.int 0)))), (h1, .inl (cB, 65536, .inl g_12))] H := by rw [eg_12]; exact hP
  have hD : va_D A [(h0, .inr (0, xo_M (va_up f0 0 (.int 0)))), (h1, .inl (cB, 65536, .inl g_12))] := by rw [eg_12]; exact hD
  refine lv_iinc (v := 4) (lv' := [(6, .int 4), (7, .int x0), (0, .ref h0), (1, .int x0), (2, .int x1), (3, .int x2), (4, .int x3), (5, .int x4)]) hx hb dn_M_feed_117 hl (k := 1) rfl (by decide) (by decide) rfl (fun ls hl => ?_)
  refine lv_goto (tgt := 36) hx hb dn_M_feed_120 (by decide) ?_
  refine lv_iload hx hb dn_M_feed_36 (lv_at hl 0 rfl) ?_
  refine lv_bipush (v := 20) hx hb dn_M_feed_38 (by decide) ?_
  refine lv_icmp_ge (tgt := 123) hx hb dn_M_feed_40 (by decide) (fun h9 => absurd h9 (by decide)) (fun _ => ?_)
  refine lv_iload hx hb dn_M_feed_43 (lv_at hl 0 rfl) ?_
  refine lv_iconst (v := 4) hx hb dn_M_feed_45 (by decide) ?_
  refine lv_icmp_ge (tgt := 53) hx hb dn_M_feed_46 (by decide) (fun _ => ?_) (fun h9 => absurd h9 (by decide))
  refine lv_iload hx hb dn_M_feed_53 (lv_at hl 0 rfl) ?_
  refine lv_bipush (v := 8) hx hb dn_M_feed_55 (by decide) ?_
  refine lv_icmp_ge (tgt := 64) hx hb dn_M_feed_57 (by decide) (fun h9 => absurd h9 (by decide)) (fun _ => ?_)
  refine lv_iload_n hx hb dn_M_feed_60 rfl (lv_at hl 4 rfl) ?_
  refine lv_goto (tgt := 89) hx hb dn_M_feed_61 (by decide) ?_
  refine lv_istore (lv' := [(7, .int x1), (6, .int 4), (0, .ref h0), (1, .int x0), (2, .int x1), (3, .int x2), (4, .int x3), (5, .int x4)]) hx hb dn_M_feed_89 hl (by decide) rfl (fun ls hl => ?_)
  refine lv_aload_n hx hb dn_M_feed_91 rfl (lv_at hl 2 rfl) ?_
  refine va_get (D := (dC, dI)) (ci := 0) (v := .ref h1) (C := rn_M) (T := fn_M) (N := 91) hx hb hg in_M hown hK hP 0 rfl rfl 1 (by decide) (hg _ wn_8_91) (fun _ h9 => h9) (congrArg some hf0_1) dn_M_feed_92 ?_
  refine lv_aload_n hx hb dn_M_feed_95 rfl (lv_at hl 2 rfl) ?_
  refine va_get (D := (dC, dI)) (ci := 0) (v := .int 0) (C := rn_M) (T := fn_M) (N := 91) hx hb hg in_M hown hK hP 0 rfl rfl 88 (by decide) (hg _ wn_8_178) (fun _ h9 => h9) (congrArg some hf0_88) dn_M_feed_96 ?_
  refine lv_iload hx hb dn_M_feed_99 (lv_at hl 1 rfl) ?_
  refine lv_iadd hx hb dn_M_feed_101 ?_
  refine xk_ti (y := 4) (by decide) ?_
  refine lv_iload hx hb dn_M_feed_102 (lv_at hl 0 rfl) ?_
  refine lv_bipush (v := 24) hx hb dn_M_feed_104 (by decide) ?_
  refine lv_bipush (v := 8) hx hb dn_M_feed_106 (by decide) ?_
  refine lv_iload hx hb dn_M_feed_108 (lv_at hl 1 rfl) ?_
  refine lv_iconst (v := 4) hx hb dn_M_feed_110 (by decide) ?_
  refine lv_irem hx hb dn_M_feed_111 (by decide) ?_
  refine xk_ti (y := 0) (by decide) ?_
  refine lv_imul hx hb dn_M_feed_112 ?_
  refine xk_ti (y := 0) (by decide) ?_
  refine lv_isub hx hb dn_M_feed_113 ?_
  refine xk_ti (y := 24) (by decide) ?_
  refine lv_ishr hx hb dn_M_feed_114 ?_
  refine lv_topi (fun z_13 _ => ?_)
  refine lv_i2b hx hb dn_M_feed_115 rfl ?_
  refine lv_topi (fun z_14 ez_14 => ?_)
  refine va_bast hx hb hK hP hD hS 1 1 rfl rfl (show ¬ (_ ∨ _) by decide) dn_M_feed_116 (fun H locs hP hD hS => ?_)
  obtain ⟨g_15, eg_15⟩ : ∃ z : Nat → Int32, z = upd g_12 (4 : Int32).toNatClampNeg (vp_nar .byte z_14) := ⟨_, rfl⟩
  have hP : va_P (dC, dI) xcl [(h0, .inr (0, xo_M (va_up f0 0 (.int 0)))), (h1, .inl (cB, 65536, .inl g_15))] H := by rw [eg_15]; exact hP
  have hD : va_D A [(h0, .inr (0, xo_M (va_up f0 0 (.int 0)))), (h1, .inl (cB, 65536, .inl g_15))] := by rw [eg_15]; exact hD
  refine lv_iinc (v := 5) (lv' := [(6, .int 5), (7, .int x1), (0, .ref h0), (1, .int x0), (2, .int x1), (3, .int x2), (4, .int x3), (5, .int x4)]) hx hb dn_M_feed_117 hl (k := 1) rfl (by decide) (by decide) rfl (fun ls hl => ?_)
  refine lv_goto (tgt := 36) hx hb dn_M_feed_120 (by decide) ?_
  refine lv_iload hx hb dn_M_feed_36 (lv_at hl 0 rfl) ?_
  refine lv_bipush (v := 20) hx hb dn_M_feed_38 (by decide) ?_
  refine lv_icmp_ge (tgt := 123) hx hb dn_M_feed_40 (by decide) (fun h9 => absurd h9 (by decide)) (fun _ => ?_)
  refine lv_iload hx hb dn_M_feed_43 (lv_at hl 0 rfl) ?_
  refine lv_iconst (v := 4) hx hb dn_M_feed_45 (by decide) ?_
  refine lv_icmp_ge (tgt := 53) hx hb dn_M_feed_46 (by decide) (fun _ => ?_) (fun h9 => absurd h9 (by decide))
  refine lv_iload hx hb dn_M_feed_53 (lv_at hl 0 rfl) ?_
  refine lv_bipush (v := 8) hx hb dn_M_feed_55 (by decide) ?_
  refine lv_icmp_ge (tgt := 64) hx hb dn_M_feed_57 (by decide) (fun h9 => absurd h9 (by decide)) (fun _ => ?_)
  refine lv_iload_n hx hb dn_M_feed_60 rfl (lv_at hl 4 rfl) ?_
  refine lv_goto (tgt := 89) hx hb dn_M_feed_61 (by decide) ?_
  refine lv_istore (lv' := [(7, .int x1), (6, .int 5), (0, .ref h0), (1, .int x0), (2, .int x1), (3, .int x2), (4, .int x3), (5, .int x4)]) hx hb dn_M_feed_89 hl (by decide) rfl (fun ls hl => ?_)
  refine lv_aload_n hx hb dn_M_feed_91 rfl (lv_at hl 2 rfl) ?_
  refine va_get (D := (dC, dI)) (ci := 0) (v := .ref h1) (C := rn_M) (T := fn_M) (N := 91) hx hb hg in_M hown hK hP 0 rfl rfl 1 (by decide) (hg _ wn_8_91) (fun _ h9 => h9) (congrArg some hf0_1) dn_M_feed_92 ?_
  refine lv_aload_n hx hb dn_M_feed_95 rfl (lv_at hl 2 rfl) ?_
  refine va_get (D := (dC, dI)) (ci := 0) (v := .int 0) (C := rn_M) (T := fn_M) (N := 91) hx hb hg in_M hown hK hP 0 rfl rfl 88 (by decide) (hg _ wn_8_178) (fun _ h9 => h9) (congrArg some hf0_88) dn_M_feed_96 ?_
  refine lv_iload hx hb dn_M_feed_99 (lv_at hl 1 rfl) ?_
  refine lv_iadd hx hb dn_M_feed_101 ?_
  refine xk_ti (y := 5) (by decide) ?_
  refine lv_iload hx hb dn_M_feed_102 (lv_at hl 0 rfl) ?_
  refine lv_bipush (v := 24) hx hb dn_M_feed_104 (by decide) ?_
  refine lv_bipush (v := 8) hx hb dn_M_feed_106 (by decide) ?_
  refine lv_iload hx hb dn_M_feed_108 (lv_at hl 1 rfl) ?_
  refine lv_iconst (v := 4) hx hb dn_M_feed_110 (by decide) ?_
  refine lv_irem hx hb dn_M_feed_111 (by decide) ?_
  refine xk_ti (y := 1) (by decide) ?_
  refine lv_imul hx hb dn_M_feed_112 ?_
  refine xk_ti (y := 8) (by decide) ?_
  refine lv_isub hx hb dn_M_feed_113 ?_
  refine xk_ti (y := 16) (by decide) ?_
  refine lv_ishr hx hb dn_M_feed_114 ?_
  refine lv_topi (fun z_16 _ => ?_)
  refine lv_i2b hx hb dn_M_feed_115 rfl ?_
  refine lv_topi (fun z_17 ez_17 => ?_)
  refine va_bast hx hb hK hP hD hS 1 1 rfl rfl (show ¬ (_ ∨ _) by decide) dn_M_feed_116 (fun H locs hP hD hS => ?_)
  obtain ⟨g_18, eg_18⟩ : ∃ z : Nat → Int32, z = upd g_15 (5 : Int32).toNatClampNeg (vp_nar .byte z_17) := ⟨_, rfl⟩
  have hP : va_P (dC, dI) xcl [(h0, .inr (0, xo_M (va_up f0 0 (.int 0)))), (h1, .inl (cB, 65536, .inl g_18))] H := by rw [eg_18]; exact hP
  have hD : va_D A [(h0, .inr (0, xo_M (va_up f0 0 (.int 0)))), (h1, .inl (cB, 65536, .inl g_18))] := by rw [eg_18]; exact hD
  refine lv_iinc (v := 6) (lv' := [(6, .int 6), (7, .int x1), (0, .ref h0), (1, .int x0), (2, .int x1), (3, .int x2), (4, .int x3), (5, .int x4)]) hx hb dn_M_feed_117 hl (k := 1) rfl (by decide) (by decide) rfl (fun ls hl => ?_)
  refine lv_goto (tgt := 36) hx hb dn_M_feed_120 (by decide) ?_
  refine lv_iload hx hb dn_M_feed_36 (lv_at hl 0 rfl) ?_
  refine lv_bipush (v := 20) hx hb dn_M_feed_38 (by decide) ?_
  refine lv_icmp_ge (tgt := 123) hx hb dn_M_feed_40 (by decide) (fun h9 => absurd h9 (by decide)) (fun _ => ?_)
  refine lv_iload hx hb dn_M_feed_43 (lv_at hl 0 rfl) ?_
  refine lv_iconst (v := 4) hx hb dn_M_feed_45 (by decide) ?_
  refine lv_icmp_ge (tgt := 53) hx hb dn_M_feed_46 (by decide) (fun _ => ?_) (fun h9 => absurd h9 (by decide))
  refine lv_iload hx hb dn_M_feed_53 (lv_at hl 0 rfl) ?_
  refine lv_bipush (v := 8) hx hb dn_M_feed_55 (by decide) ?_
  refine lv_icmp_ge (tgt := 64) hx hb dn_M_feed_57 (by decide) (fun h9 => absurd h9 (by decide)) (fun _ => ?_)
  refine lv_iload_n hx hb dn_M_feed_60 rfl (lv_at hl 4 rfl) ?_
  refine lv_goto (tgt := 89) hx hb dn_M_feed_61 (by decide) ?_
  refine lv_istore (lv' := [(7, .int x1), (6, .int 6), (0, .ref h0), (1, .int x0), (2, .int x1), (3, .int x2), (4, .int x3), (5, .int x4)]) hx hb dn_M_feed_89 hl (by decide) rfl (fun ls hl => ?_)
  refine lv_aload_n hx hb dn_M_feed_91 rfl (lv_at hl 2 rfl) ?_
  refine va_get (D := (dC, dI)) (ci := 0) (v := .ref h1) (C := rn_M) (T := fn_M) (N := 91) hx hb hg in_M hown hK hP 0 rfl rfl 1 (by decide) (hg _ wn_8_91) (fun _ h9 => h9) (congrArg some hf0_1) dn_M_feed_92 ?_
  refine lv_aload_n hx hb dn_M_feed_95 rfl (lv_at hl 2 rfl) ?_
  refine va_get (D := (dC, dI)) (ci := 0) (v := .int 0) (C := rn_M) (T := fn_M) (N := 91) hx hb hg in_M hown hK hP 0 rfl rfl 88 (by decide) (hg _ wn_8_178) (fun _ h9 => h9) (congrArg some hf0_88) dn_M_feed_96 ?_
  refine lv_iload hx hb dn_M_feed_99 (lv_at hl 1 rfl) ?_
  refine lv_iadd hx hb dn_M_feed_101 ?_
  refine xk_ti (y := 6) (by decide) ?_
  refine lv_iload hx hb dn_M_feed_102 (lv_at hl 0 rfl) ?_
  refine lv_bipush (v := 24) hx hb dn_M_feed_104 (by decide) ?_
  refine lv_bipush (v := 8) hx hb dn_M_feed_106 (by decide) ?_
  refine lv_iload hx hb dn_M_feed_108 (lv_at hl 1 rfl) ?_
  refine lv_iconst (v := 4) hx hb dn_M_feed_110 (by decide) ?_
  refine lv_irem hx hb dn_M_feed_111 (by decide) ?_
  refine xk_ti (y := 2) (by decide) ?_
  refine lv_imul hx hb dn_M_feed_112 ?_
  refine xk_ti (y := 16) (by decide) ?_
  refine lv_isub hx hb dn_M_feed_113 ?_
  refine xk_ti (y := 8) (by decide) ?_
  refine lv_ishr hx hb dn_M_feed_114 ?_
  refine lv_topi (fun z_19 _ => ?_)
  refine lv_i2b hx hb dn_M_feed_115 rfl ?_
  refine lv_topi (fun z_20 ez_20 => ?_)
  refine va_bast hx hb hK hP hD hS 1 1 rfl rfl (show ¬ (_ ∨ _) by decide) dn_M_feed_116 (fun H locs hP hD hS => ?_)
  obtain ⟨g_21, eg_21⟩ : ∃ z : Nat → Int32, z = upd g_18 (6 : Int32).toNatClampNeg (vp_nar .byte z_20) := ⟨_, rfl⟩
  have hP : va_P (dC, dI) xcl [(h0, .inr (0, xo_M (va_up f0 0 (.int 0)))), (h1, .inl (cB, 65536, .inl g_21))] H := by rw [eg_21]; exact hP
  have hD : va_D A [(h0, .inr (0, xo_M (va_up f0 0 (.int 0)))), (h1, .inl (cB, 65536, .inl g_21))] := by rw [eg_21]; exact hD
  refine lv_iinc (v := 7) (lv' := [(6, .int 7), (7, .int x1), (0, .ref h0), (1, .int x0), (2, .int x1), (3, .int x2), (4, .int x3), (5, .int x4)]) hx hb dn_M_feed_117 hl (k := 1) rfl (by decide) (by decide) rfl (fun ls hl => ?_)
  refine lv_goto (tgt := 36) hx hb dn_M_feed_120 (by decide) ?_
  refine lv_iload hx hb dn_M_feed_36 (lv_at hl 0 rfl) ?_
  refine lv_bipush (v := 20) hx hb dn_M_feed_38 (by decide) ?_
  refine lv_icmp_ge (tgt := 123) hx hb dn_M_feed_40 (by decide) (fun h9 => absurd h9 (by decide)) (fun _ => ?_)
  refine lv_iload hx hb dn_M_feed_43 (lv_at hl 0 rfl) ?_
  refine lv_iconst (v := 4) hx hb dn_M_feed_45 (by decide) ?_
  refine lv_icmp_ge (tgt := 53) hx hb dn_M_feed_46 (by decide) (fun _ => ?_) (fun h9 => absurd h9 (by decide))
  refine lv_iload hx hb dn_M_feed_53 (lv_at hl 0 rfl) ?_
  refine lv_bipush (v := 8) hx hb dn_M_feed_55 (by decide) ?_
  refine lv_icmp_ge (tgt := 64) hx hb dn_M_feed_57 (by decide) (fun h9 => absurd h9 (by decide)) (fun _ => ?_)
  refine lv_iload_n hx hb dn_M_feed_60 rfl (lv_at hl 4 rfl) ?_
  refine lv_goto (tgt := 89) hx hb dn_M_feed_61 (by decide) ?_
  refine lv_istore (lv' := [(7, .int x1), (6, .int 7), (0, .ref h0), (1, .int x0), (2, .int x1), (3, .int x2), (4, .int x3), (5, .int x4)]) hx hb dn_M_feed_89 hl (by decide) rfl (fun ls hl => ?_)
  refine lv_aload_n hx hb dn_M_feed_91 rfl (lv_at hl 2 rfl) ?_
  refine va_get (D := (dC, dI)) (ci := 0) (v := .ref h1) (C := rn_M) (T := fn_M) (N := 91) hx hb hg in_M hown hK hP 0 rfl rfl 1 (by decide) (hg _ wn_8_91) (fun _ h9 => h9) (congrArg some hf0_1) dn_M_feed_92 ?_
  refine lv_aload_n hx hb dn_M_feed_95 rfl (lv_at hl 2 rfl) ?_
  refine va_get (D := (dC, dI)) (ci := 0) (v := .int 0) (C := rn_M) (T := fn_M) (N := 91) hx hb hg in_M hown hK hP 0 rfl rfl 88 (by decide) (hg _ wn_8_178) (fun _ h9 => h9) (congrArg some hf0_88) dn_M_feed_96 ?_
  refine lv_iload hx hb dn_M_feed_99 (lv_at hl 1 rfl) ?_
  refine lv_iadd hx hb dn_M_feed_101 ?_
  refine xk_ti (y := 7) (by decide) ?_
  refine lv_iload hx hb dn_M_feed_102 (lv_at hl 0 rfl) ?_
  refine lv_bipush (v := 24) hx hb dn_M_feed_104 (by decide) ?_
  refine lv_bipush (v := 8) hx hb dn_M_feed_106 (by decide) ?_
  refine lv_iload hx hb dn_M_feed_108 (lv_at hl 1 rfl) ?_
  refine lv_iconst (v := 4) hx hb dn_M_feed_110 (by decide) ?_
  refine lv_irem hx hb dn_M_feed_111 (by decide) ?_
  refine xk_ti (y := 3) (by decide) ?_
  refine lv_imul hx hb dn_M_feed_112 ?_
  refine xk_ti (y := 24) (by decide) ?_
  refine lv_isub hx hb dn_M_feed_113 ?_
  refine xk_ti (y := 0) (by decide) ?_
  refine lv_ishr hx hb dn_M_feed_114 ?_
  refine lv_topi (fun z_22 _ => ?_)
  refine lv_i2b hx hb dn_M_feed_115 rfl ?_
  refine lv_topi (fun z_23 ez_23 => ?_)
  refine va_bast hx hb hK hP hD hS 1 1 rfl rfl (show ¬ (_ ∨ _) by decide) dn_M_feed_116 (fun H locs hP hD hS => ?_)
  obtain ⟨g_24, eg_24⟩ : ∃ z : Nat → Int32, z = upd g_21 (7 : Int32).toNatClampNeg (vp_nar .byte z_23) := ⟨_, rfl⟩
  have hP : va_P (dC, dI) xcl [(h0, .inr (0, xo_M (va_up f0 0 (.int 0)))), (h1, .inl (cB, 65536, .inl g_24))] H := by rw [eg_24]; exact hP
  have hD : va_D A [(h0, .inr (0, xo_M (va_up f0 0 (.int 0)))), (h1, .inl (cB, 65536, .inl g_24))] := by rw [eg_24]; exact hD
  refine lv_iinc (v := 8) (lv' := [(6, .int 8), (7, .int x1), (0, .ref h0), (1, .int x0), (2, .int x1), (3, .int x2), (4, .int x3), (5, .int x4)]) hx hb dn_M_feed_117 hl (k := 1) rfl (by decide) (by decide) rfl (fun ls hl => ?_)
  refine lv_goto (tgt := 36) hx hb dn_M_feed_120 (by decide) ?_
  refine lv_iload hx hb dn_M_feed_36 (lv_at hl 0 rfl) ?_
  refine lv_bipush (v := 20) hx hb dn_M_feed_38 (by decide) ?_
  refine lv_icmp_ge (tgt := 123) hx hb dn_M_feed_40 (by decide) (fun h9 => absurd h9 (by decide)) (fun _ => ?_)
  refine lv_iload hx hb dn_M_feed_43 (lv_at hl 0 rfl) ?_
  refine lv_iconst (v := 4) hx hb dn_M_feed_45 (by decide) ?_
  refine lv_icmp_ge (tgt := 53) hx hb dn_M_feed_46 (by decide) (fun _ => ?_) (fun h9 => absurd h9 (by decide))
  refine lv_iload hx hb dn_M_feed_53 (lv_at hl 0 rfl) ?_
  refine lv_bipush (v := 8) hx hb dn_M_feed_55 (by decide) ?_
  refine lv_icmp_ge (tgt := 64) hx hb dn_M_feed_57 (by decide) (fun _ => ?_) (fun h9 => absurd h9 (by decide))
  refine lv_iload hx hb dn_M_feed_64 (lv_at hl 0 rfl) ?_
  refine lv_bipush (v := 12) hx hb dn_M_feed_66 (by decide) ?_
  refine lv_icmp_ge (tgt := 75) hx hb dn_M_feed_68 (by decide) (fun h9 => absurd h9 (by decide)) (fun _ => ?_)
  refine lv_iload_n hx hb dn_M_feed_71 rfl (lv_at hl 5 rfl) ?_
  refine lv_goto (tgt := 89) hx hb dn_M_feed_72 (by decide) ?_
  refine lv_istore (lv' := [(7, .int x2), (6, .int 8), (0, .ref h0), (1, .int x0), (2, .int x1), (3, .int x2), (4, .int x3), (5, .int x4)]) hx hb dn_M_feed_89 hl (by decide) rfl (fun ls hl => ?_)
  refine lv_aload_n hx hb dn_M_feed_91 rfl (lv_at hl 2 rfl) ?_
  refine va_get (D := (dC, dI)) (ci := 0) (v := .ref h1) (C := rn_M) (T := fn_M) (N := 91) hx hb hg in_M hown hK hP 0 rfl rfl 1 (by decide) (hg _ wn_8_91) (fun _ h9 => h9) (congrArg some hf0_1) dn_M_feed_92 ?_
  refine lv_aload_n hx hb dn_M_feed_95 rfl (lv_at hl 2 rfl) ?_
  refine va_get (D := (dC, dI)) (ci := 0) (v := .int 0) (C := rn_M) (T := fn_M) (N := 91) hx hb hg in_M hown hK hP 0 rfl rfl 88 (by decide) (hg _ wn_8_178) (fun _ h9 => h9) (congrArg some hf0_88) dn_M_feed_96 ?_
  refine lv_iload hx hb dn_M_feed_99 (lv_at hl 1 rfl) ?_
  refine lv_iadd hx hb dn_M_feed_101 ?_
  refine xk_ti (y := 8) (by decide) ?_
  refine lv_iload hx hb dn_M_feed_102 (lv_at hl 0 rfl) ?_
  refine lv_bipush (v := 24) hx hb dn_M_feed_104 (by decide) ?_
  refine lv_bipush (v := 8) hx hb dn_M_feed_106 (by decide) ?_
  refine lv_iload hx hb dn_M_feed_108 (lv_at hl 1 rfl) ?_
  refine lv_iconst (v := 4) hx hb dn_M_feed_110 (by decide) ?_
  refine lv_irem hx hb dn_M_feed_111 (by decide) ?_
  refine xk_ti (y := 0) (by decide) ?_
  refine lv_imul hx hb dn_M_feed_112 ?_
  refine xk_ti (y := 0) (by decide) ?_
  refine lv_isub hx hb dn_M_feed_113 ?_
  refine xk_ti (y := 24) (by decide) ?_
  refine lv_ishr hx hb dn_M_feed_114 ?_
  refine lv_topi (fun z_25 _ => ?_)
  refine lv_i2b hx hb dn_M_feed_115 rfl ?_
  refine lv_topi (fun z_26 ez_26 => ?_)
  refine va_bast hx hb hK hP hD hS 1 1 rfl rfl (show ¬ (_ ∨ _) by decide) dn_M_feed_116 (fun H locs hP hD hS => ?_)
  obtain ⟨g_27, eg_27⟩ : ∃ z : Nat → Int32, z = upd g_24 (8 : Int32).toNatClampNeg (vp_nar .byte z_26) := ⟨_, rfl⟩
  have hP : va_P (dC, dI) xcl [(h0, .inr (0, xo_M (va_up f0 0 (.int 0)))), (h1, .inl (cB, 65536, .inl g_27))] H := by rw [eg_27]; exact hP
  have hD : va_D A [(h0, .inr (0, xo_M (va_up f0 0 (.int 0)))), (h1, .inl (cB, 65536, .inl g_27))] := by rw [eg_27]; exact hD
  refine lv_iinc (v := 9) (lv' := [(6, .int 9), (7, .int x2), (0, .ref h0), (1, .int x0), (2, .int x1), (3, .int x2), (4, .int x3), (5, .int x4)]) hx hb dn_M_feed_117 hl (k := 1) rfl (by decide) (by decide) rfl (fun ls hl => ?_)
  refine lv_goto (tgt := 36) hx hb dn_M_feed_120 (by decide) ?_
  refine lv_iload hx hb dn_M_feed_36 (lv_at hl 0 rfl) ?_
  refine lv_bipush (v := 20) hx hb dn_M_feed_38 (by decide) ?_
  refine lv_icmp_ge (tgt := 123) hx hb dn_M_feed_40 (by decide) (fun h9 => absurd h9 (by decide)) (fun _ => ?_)
  refine lv_iload hx hb dn_M_feed_43 (lv_at hl 0 rfl) ?_
  refine lv_iconst (v := 4) hx hb dn_M_feed_45 (by decide) ?_
  refine lv_icmp_ge (tgt := 53) hx hb dn_M_feed_46 (by decide) (fun _ => ?_) (fun h9 => absurd h9 (by decide))
  refine lv_iload hx hb dn_M_feed_53 (lv_at hl 0 rfl) ?_
  refine lv_bipush (v := 8) hx hb dn_M_feed_55 (by decide) ?_
  refine lv_icmp_ge (tgt := 64) hx hb dn_M_feed_57 (by decide) (fun _ => ?_) (fun h9 => absurd h9 (by decide))
  refine lv_iload hx hb dn_M_feed_64 (lv_at hl 0 rfl) ?_
  refine lv_bipush (v := 12) hx hb dn_M_feed_66 (by decide) ?_
  refine lv_icmp_ge (tgt := 75) hx hb dn_M_feed_68 (by decide) (fun h9 => absurd h9 (by decide)) (fun _ => ?_)
  refine lv_iload_n hx hb dn_M_feed_71 rfl (lv_at hl 5 rfl) ?_
  refine lv_goto (tgt := 89) hx hb dn_M_feed_72 (by decide) ?_
  refine lv_istore (lv' := [(7, .int x2), (6, .int 9), (0, .ref h0), (1, .int x0), (2, .int x1), (3, .int x2), (4, .int x3), (5, .int x4)]) hx hb dn_M_feed_89 hl (by decide) rfl (fun ls hl => ?_)
  refine lv_aload_n hx hb dn_M_feed_91 rfl (lv_at hl 2 rfl) ?_
  refine va_get (D := (dC, dI)) (ci := 0) (v := .ref h1) (C := rn_M) (T := fn_M) (N := 91) hx hb hg in_M hown hK hP 0 rfl rfl 1 (by decide) (hg _ wn_8_91) (fun _ h9 => h9) (congrArg some hf0_1) dn_M_feed_92 ?_
  refine lv_aload_n hx hb dn_M_feed_95 rfl (lv_at hl 2 rfl) ?_
  refine va_get (D := (dC, dI)) (ci := 0) (v := .int 0) (C := rn_M) (T := fn_M) (N := 91) hx hb hg in_M hown hK hP 0 rfl rfl 88 (by decide) (hg _ wn_8_178) (fun _ h9 => h9) (congrArg some hf0_88) dn_M_feed_96 ?_
  refine lv_iload hx hb dn_M_feed_99 (lv_at hl 1 rfl) ?_
  refine lv_iadd hx hb dn_M_feed_101 ?_
  refine xk_ti (y := 9) (by decide) ?_
  refine lv_iload hx hb dn_M_feed_102 (lv_at hl 0 rfl) ?_
  refine lv_bipush (v := 24) hx hb dn_M_feed_104 (by decide) ?_
  refine lv_bipush (v := 8) hx hb dn_M_feed_106 (by decide) ?_
  refine lv_iload hx hb dn_M_feed_108 (lv_at hl 1 rfl) ?_
  refine lv_iconst (v := 4) hx hb dn_M_feed_110 (by decide) ?_
  refine lv_irem hx hb dn_M_feed_111 (by decide) ?_
  refine xk_ti (y := 1) (by decide) ?_
  refine lv_imul hx hb dn_M_feed_112 ?_
  refine xk_ti (y := 8) (by decide) ?_
  refine lv_isub hx hb dn_M_feed_113 ?_
  refine xk_ti (y := 16) (by decide) ?_
  refine lv_ishr hx hb dn_M_feed_114 ?_
  refine lv_topi (fun z_28 _ => ?_)
  refine lv_i2b hx hb dn_M_feed_115 rfl ?_
  refine lv_topi (fun z_29 ez_29 => ?_)
  refine va_bast hx hb hK hP hD hS 1 1 rfl rfl (show ¬ (_ ∨ _) by decide) dn_M_feed_116 (fun H locs hP hD hS => ?_)
  obtain ⟨g_30, eg_30⟩ : ∃ z : Nat → Int32, z = upd g_27 (9 : Int32).toNatClampNeg (vp_nar .byte z_29) := ⟨_, rfl⟩
  have hP : va_P (dC, dI) xcl [(h0, .inr (0, xo_M (va_up f0 0 (.int 0)))), (h1, .inl (cB, 65536, .inl g_30))] H := by rw [eg_30]; exact hP
  have hD : va_D A [(h0, .inr (0, xo_M (va_up f0 0 (.int 0)))), (h1, .inl (cB, 65536, .inl g_30))] := by rw [eg_30]; exact hD
  refine lv_iinc (v := 10) (lv' := [(6, .int 10), (7, .int x2), (0, .ref h0), (1, .int x0), (2, .int x1), (3, .int x2), (4, .int x3), (5, .int x4)]) hx hb dn_M_feed_117 hl (k := 1) rfl (by decide) (by decide) rfl (fun ls hl => ?_)
  refine lv_goto (tgt := 36) hx hb dn_M_feed_120 (by decide) ?_
  refine lv_iload hx hb dn_M_feed_36 (lv_at hl 0 rfl) ?_
  refine lv_bipush (v := 20) hx hb dn_M_feed_38 (by decide) ?_
  refine lv_icmp_ge (tgt := 123) hx hb dn_M_feed_40 (by decide) (fun h9 => absurd h9 (by decide)) (fun _ => ?_)
  refine lv_iload hx hb dn_M_feed_43 (lv_at hl 0 rfl) ?_
  refine lv_iconst (v := 4) hx hb dn_M_feed_45 (by decide) ?_
  refine lv_icmp_ge (tgt := 53) hx hb dn_M_feed_46 (by decide) (fun _ => ?_) (fun h9 => absurd h9 (by decide))
  refine lv_iload hx hb dn_M_feed_53 (lv_at hl 0 rfl) ?_
  refine lv_bipush (v := 8) hx hb dn_M_feed_55 (by decide) ?_
  refine lv_icmp_ge (tgt := 64) hx hb dn_M_feed_57 (by decide) (fun _ => ?_) (fun h9 => absurd h9 (by decide))
  refine lv_iload hx hb dn_M_feed_64 (lv_at hl 0 rfl) ?_
  refine lv_bipush (v := 12) hx hb dn_M_feed_66 (by decide) ?_
  refine lv_icmp_ge (tgt := 75) hx hb dn_M_feed_68 (by decide) (fun h9 => absurd h9 (by decide)) (fun _ => ?_)
  refine lv_iload_n hx hb dn_M_feed_71 rfl (lv_at hl 5 rfl) ?_
  refine lv_goto (tgt := 89) hx hb dn_M_feed_72 (by decide) ?_
  refine lv_istore (lv' := [(7, .int x2), (6, .int 10), (0, .ref h0), (1, .int x0), (2, .int x1), (3, .int x2), (4, .int x3), (5, .int x4)]) hx hb dn_M_feed_89 hl (by decide) rfl (fun ls hl => ?_)
  refine lv_aload_n hx hb dn_M_feed_91 rfl (lv_at hl 2 rfl) ?_
  refine va_get (D := (dC, dI)) (ci := 0) (v := .ref h1) (C := rn_M) (T := fn_M) (N := 91) hx hb hg in_M hown hK hP 0 rfl rfl 1 (by decide) (hg _ wn_8_91) (fun _ h9 => h9) (congrArg some hf0_1) dn_M_feed_92 ?_
  refine lv_aload_n hx hb dn_M_feed_95 rfl (lv_at hl 2 rfl) ?_
  refine va_get (D := (dC, dI)) (ci := 0) (v := .int 0) (C := rn_M) (T := fn_M) (N := 91) hx hb hg in_M hown hK hP 0 rfl rfl 88 (by decide) (hg _ wn_8_178) (fun _ h9 => h9) (congrArg some hf0_88) dn_M_feed_96 ?_
  refine lv_iload hx hb dn_M_feed_99 (lv_at hl 1 rfl) ?_
  refine lv_iadd hx hb dn_M_feed_101 ?_
  refine xk_ti (y := 10) (by decide) ?_
  refine lv_iload hx hb dn_M_feed_102 (lv_at hl 0 rfl) ?_
  refine lv_bipush (v := 24) hx hb dn_M_feed_104 (by decide) ?_
  refine lv_bipush (v := 8) hx hb dn_M_feed_106 (by decide) ?_
  refine lv_iload hx hb dn_M_feed_108 (lv_at hl 1 rfl) ?_
  refine lv_iconst (v := 4) hx hb dn_M_feed_110 (by decide) ?_
  refine lv_irem hx hb dn_M_feed_111 (by decide) ?_
  refine xk_ti (y := 2) (by decide) ?_
  refine lv_imul hx hb dn_M_feed_112 ?_
  refine xk_ti (y := 16) (by decide) ?_
  refine lv_isub hx hb dn_M_feed_113 ?_
  refine xk_ti (y := 8) (by decide) ?_
  refine lv_ishr hx hb dn_M_feed_114 ?_
  refine lv_topi (fun z_31 _ => ?_)
  refine lv_i2b hx hb dn_M_feed_115 rfl ?_
  refine lv_topi (fun z_32 ez_32 => ?_)
  refine va_bast hx hb hK hP hD hS 1 1 rfl rfl (show ¬ (_ ∨ _) by decide) dn_M_feed_116 (fun H locs hP hD hS => ?_)
  obtain ⟨g_33, eg_33⟩ : ∃ z : Nat → Int32, z = upd g_30 (10 : Int32).toNatClampNeg (vp_nar .byte z_32) := ⟨_, rfl⟩
  have hP : va_P (dC, dI) xcl [(h0, .inr (0, xo_M (va_up f0 0 (.int 0)))), (h1, .inl (cB, 65536, .inl g_33))] H := by rw [eg_33]; exact hP
  have hD : va_D A [(h0, .inr (0, xo_M (va_up f0 0 (.int 0)))), (h1, .inl (cB, 65536, .inl g_33))] := by rw [eg_33]; exact hD
  refine lv_iinc (v := 11) (lv' := [(6, .int 11), (7, .int x2), (0, .ref h0), (1, .int x0), (2, .int x1), (3, .int x2), (4, .int x3), (5, .int x4)]) hx hb dn_M_feed_117 hl (k := 1) rfl (by decide) (by decide) rfl (fun ls hl => ?_)
  refine lv_goto (tgt := 36) hx hb dn_M_feed_120 (by decide) ?_
  refine lv_iload hx hb dn_M_feed_36 (lv_at hl 0 rfl) ?_
  refine lv_bipush (v := 20) hx hb dn_M_feed_38 (by decide) ?_
  refine lv_icmp_ge (tgt := 123) hx hb dn_M_feed_40 (by decide) (fun h9 => absurd h9 (by decide)) (fun _ => ?_)
  refine lv_iload hx hb dn_M_feed_43 (lv_at hl 0 rfl) ?_
  refine lv_iconst (v := 4) hx hb dn_M_feed_45 (by decide) ?_
  refine lv_icmp_ge (tgt := 53) hx hb dn_M_feed_46 (by decide) (fun _ => ?_) (fun h9 => absurd h9 (by decide))
  refine lv_iload hx hb dn_M_feed_53 (lv_at hl 0 rfl) ?_
  refine lv_bipush (v := 8) hx hb dn_M_feed_55 (by decide) ?_
  refine lv_icmp_ge (tgt := 64) hx hb dn_M_feed_57 (by decide) (fun _ => ?_) (fun h9 => absurd h9 (by decide))
  refine lv_iload hx hb dn_M_feed_64 (lv_at hl 0 rfl) ?_
  refine lv_bipush (v := 12) hx hb dn_M_feed_66 (by decide) ?_
  refine lv_icmp_ge (tgt := 75) hx hb dn_M_feed_68 (by decide) (fun h9 => absurd h9 (by decide)) (fun _ => ?_)
  refine lv_iload_n hx hb dn_M_feed_71 rfl (lv_at hl 5 rfl) ?_
  refine lv_goto (tgt := 89) hx hb dn_M_feed_72 (by decide) ?_
  refine lv_istore (lv' := [(7, .int x2), (6, .int 11), (0, .ref h0), (1, .int x0), (2, .int x1), (3, .int x2), (4, .int x3), (5, .int x4)]) hx hb dn_M_feed_89 hl (by decide) rfl (fun ls hl => ?_)
  refine lv_aload_n hx hb dn_M_feed_91 rfl (lv_at hl 2 rfl) ?_
  refine va_get (D := (dC, dI)) (ci := 0) (v := .ref h1) (C := rn_M) (T := fn_M) (N := 91) hx hb hg in_M hown hK hP 0 rfl rfl 1 (by decide) (hg _ wn_8_91) (fun _ h9 => h9) (congrArg some hf0_1) dn_M_feed_92 ?_
  refine lv_aload_n hx hb dn_M_feed_95 rfl (lv_at hl 2 rfl) ?_
  refine va_get (D := (dC, dI)) (ci := 0) (v := .int 0) (C := rn_M) (T := fn_M) (N := 91) hx hb hg in_M hown hK hP 0 rfl rfl 88 (by decide) (hg _ wn_8_178) (fun _ h9 => h9) (congrArg some hf0_88) dn_M_feed_96 ?_
  refine lv_iload hx hb dn_M_feed_99 (lv_at hl 1 rfl) ?_
  refine lv_iadd hx hb dn_M_feed_101 ?_
  refine xk_ti (y := 11) (by decide) ?_
  refine lv_iload hx hb dn_M_feed_102 (lv_at hl 0 rfl) ?_
  refine lv_bipush (v := 24) hx hb dn_M_feed_104 (by decide) ?_
  refine lv_bipush (v := 8) hx hb dn_M_feed_106 (by decide) ?_
  refine lv_iload hx hb dn_M_feed_108 (lv_at hl 1 rfl) ?_
  refine lv_iconst (v := 4) hx hb dn_M_feed_110 (by decide) ?_
  refine lv_irem hx hb dn_M_feed_111 (by decide) ?_
  refine xk_ti (y := 3) (by decide) ?_
  refine lv_imul hx hb dn_M_feed_112 ?_
  refine xk_ti (y := 24) (by decide) ?_
  refine lv_isub hx hb dn_M_feed_113 ?_
  refine xk_ti (y := 0) (by decide) ?_
  refine lv_ishr hx hb dn_M_feed_114 ?_
  refine lv_topi (fun z_34 _ => ?_)
  refine lv_i2b hx hb dn_M_feed_115 rfl ?_
  refine lv_topi (fun z_35 ez_35 => ?_)
  refine va_bast hx hb hK hP hD hS 1 1 rfl rfl (show ¬ (_ ∨ _) by decide) dn_M_feed_116 (fun H locs hP hD hS => ?_)
  obtain ⟨g_36, eg_36⟩ : ∃ z : Nat → Int32, z = upd g_33 (11 : Int32).toNatClampNeg (vp_nar .byte z_35) := ⟨_, rfl⟩
  have hP : va_P (dC, dI) xcl [(h0, .inr (0, xo_M (va_up f0 0 (.int 0)))), (h1, .inl (cB, 65536, .inl g_36))] H := by rw [eg_36]; exact hP
  have hD : va_D A [(h0, .inr (0, xo_M (va_up f0 0 (.int 0)))), (h1, .inl (cB, 65536, .inl g_36))] := by rw [eg_36]; exact hD
  refine lv_iinc (v := 12) (lv' := [(6, .int 12), (7, .int x2), (0, .ref h0), (1, .int x0), (2, .int x1), (3, .int x2), (4, .int x3), (5, .int x4)]) hx hb dn_M_feed_117 hl (k := 1) rfl (by decide) (by decide) rfl (fun ls hl => ?_)
  refine lv_goto (tgt := 36) hx hb dn_M_feed_120 (by decide) ?_
  refine lv_iload hx hb dn_M_feed_36 (lv_at hl 0 rfl) ?_
  refine lv_bipush (v := 20) hx hb dn_M_feed_38 (by decide) ?_
  refine lv_icmp_ge (tgt := 123) hx hb dn_M_feed_40 (by decide) (fun h9 => absurd h9 (by decide)) (fun _ => ?_)
  refine lv_iload hx hb dn_M_feed_43 (lv_at hl 0 rfl) ?_
  refine lv_iconst (v := 4) hx hb dn_M_feed_45 (by decide) ?_
  refine lv_icmp_ge (tgt := 53) hx hb dn_M_feed_46 (by decide) (fun _ => ?_) (fun h9 => absurd h9 (by decide))
  refine lv_iload hx hb dn_M_feed_53 (lv_at hl 0 rfl) ?_
  refine lv_bipush (v := 8) hx hb dn_M_feed_55 (by decide) ?_
  refine lv_icmp_ge (tgt := 64) hx hb dn_M_feed_57 (by decide) (fun _ => ?_) (fun h9 => absurd h9 (by decide))
  refine lv_iload hx hb dn_M_feed_64 (lv_at hl 0 rfl) ?_
  refine lv_bipush (v := 12) hx hb dn_M_feed_66 (by decide) ?_
  refine lv_icmp_ge (tgt := 75) hx hb dn_M_feed_68 (by decide) (fun _ => ?_) (fun h9 => absurd h9 (by decide))
  refine lv_iload hx hb dn_M_feed_75 (lv_at hl 0 rfl) ?_
  refine lv_bipush (v := 16) hx hb dn_M_feed_77 (by decide) ?_
  refine lv_icmp_ge (tgt := 87) hx hb dn_M_feed_79 (by decide) (fun h9 => absurd h9 (by decide)) (fun _ => ?_)
  refine lv_iload hx hb dn_M_feed_82 (lv_at hl 6 rfl) ?_
  refine lv_goto (tgt := 89) hx hb dn_M_feed_84 (by decide) ?_
  refine lv_istore (lv' := [(7, .int x3), (6, .int 12), (0, .ref h0), (1, .int x0), (2, .int x1), (3, .int x2), (4, .int x3), (5, .int x4)]) hx hb dn_M_feed_89 hl (by decide) rfl (fun ls hl => ?_)
  refine lv_aload_n hx hb dn_M_feed_91 rfl (lv_at hl 2 rfl) ?_
  refine va_get (D := (dC, dI)) (ci := 0) (v := .ref h1) (C := rn_M) (T := fn_M) (N := 91) hx hb hg in_M hown hK hP 0 rfl rfl 1 (by decide) (hg _ wn_8_91) (fun _ h9 => h9) (congrArg some hf0_1) dn_M_feed_92 ?_
  refine lv_aload_n hx hb dn_M_feed_95 rfl (lv_at hl 2 rfl) ?_
  refine va_get (D := (dC, dI)) (ci := 0) (v := .int 0) (C := rn_M) (T := fn_M) (N := 91) hx hb hg in_M hown hK hP 0 rfl rfl 88 (by decide) (hg _ wn_8_178) (fun _ h9 => h9) (congrArg some hf0_88) dn_M_feed_96 ?_
  refine lv_iload hx hb dn_M_feed_99 (lv_at hl 1 rfl) ?_
  refine lv_iadd hx hb dn_M_feed_101 ?_
  refine xk_ti (y := 12) (by decide) ?_
  refine lv_iload hx hb dn_M_feed_102 (lv_at hl 0 rfl) ?_
  refine lv_bipush (v := 24) hx hb dn_M_feed_104 (by decide) ?_
  refine lv_bipush (v := 8) hx hb dn_M_feed_106 (by decide) ?_
  refine lv_iload hx hb dn_M_feed_108 (lv_at hl 1 rfl) ?_
  refine lv_iconst (v := 4) hx hb dn_M_feed_110 (by decide) ?_
  refine lv_irem hx hb dn_M_feed_111 (by decide) ?_
  refine xk_ti (y := 0) (by decide) ?_
  refine lv_imul hx hb dn_M_feed_112 ?_
  refine xk_ti (y := 0) (by decide) ?_
  refine lv_isub hx hb dn_M_feed_113 ?_
  refine xk_ti (y := 24) (by decide) ?_
  refine lv_ishr hx hb dn_M_feed_114 ?_
  refine lv_topi (fun z_37 _ => ?_)
  refine lv_i2b hx hb dn_M_feed_115 rfl ?_
  refine lv_topi (fun z_38 ez_38 => ?_)
  refine va_bast hx hb hK hP hD hS 1 1 rfl rfl (show ¬ (_ ∨ _) by decide) dn_M_feed_116 (fun H locs hP hD hS => ?_)
  obtain ⟨g_39, eg_39⟩ : ∃ z : Nat → Int32, z = upd g_36 (12 : Int32).toNatClampNeg (vp_nar .byte z_38) := ⟨_, rfl⟩
  have hP : va_P (dC, dI) xcl [(h0, .inr (0, xo_M (va_up f0 0 (.int 0)))), (h1, .inl (cB, 65536, .inl g_39))] H := by rw [eg_39]; exact hP
  have hD : va_D A [(h0, .inr (0, xo_M (va_up f0 0 (.int 0)))), (h1, .inl (cB, 65536, .inl g_39))] := by rw [eg_39]; exact hD
  refine lv_iinc (v := 13) (lv' := [(6, .int 13), (7, .int x3), (0, .ref h0), (1, .int x0), (2, .int x1), (3, .int x2), (4, .int x3), (5, .int x4)]) hx hb dn_M_feed_117 hl (k := 1) rfl (by decide) (by decide) rfl (fun ls hl => ?_)
  refine lv_goto (tgt := 36) hx hb dn_M_feed_120 (by decide) ?_
  refine lv_iload hx hb dn_M_feed_36 (lv_at hl 0 rfl) ?_
  refine lv_bipush (v := 20) hx hb dn_M_feed_38 (by decide) ?_
  refine lv_icmp_ge (tgt := 123) hx hb dn_M_feed_40 (by decide) (fun h9 => absurd h9 (by decide)) (fun _ => ?_)
  refine lv_iload hx hb dn_M_feed_43 (lv_at hl 0 rfl) ?_
  refine lv_iconst (v := 4) hx hb dn_M_feed_45 (by decide) ?_
  refine lv_icmp_ge (tgt := 53) hx hb dn_M_feed_46 (by decide) (fun _ => ?_) (fun h9 => absurd h9 (by decide))
  refine lv_iload hx hb dn_M_feed_53 (lv_at hl 0 rfl) ?_
  refine lv_bipush (v := 8) hx hb dn_M_feed_55 (by decide) ?_
  refine lv_icmp_ge (tgt := 64) hx hb dn_M_feed_57 (by decide) (fun _ => ?_) (fun h9 => absurd h9 (by decide))
  refine lv_iload hx hb dn_M_feed_64 (lv_at hl 0 rfl) ?_
  refine lv_bipush (v := 12) hx hb dn_M_feed_66 (by decide) ?_
  refine lv_icmp_ge (tgt := 75) hx hb dn_M_feed_68 (by decide) (fun _ => ?_) (fun h9 => absurd h9 (by decide))
  refine lv_iload hx hb dn_M_feed_75 (lv_at hl 0 rfl) ?_
  refine lv_bipush (v := 16) hx hb dn_M_feed_77 (by decide) ?_
  refine lv_icmp_ge (tgt := 87) hx hb dn_M_feed_79 (by decide) (fun h9 => absurd h9 (by decide)) (fun _ => ?_)
  refine lv_iload hx hb dn_M_feed_82 (lv_at hl 6 rfl) ?_
  refine lv_goto (tgt := 89) hx hb dn_M_feed_84 (by decide) ?_
  refine lv_istore (lv' := [(7, .int x3), (6, .int 13), (0, .ref h0), (1, .int x0), (2, .int x1), (3, .int x2), (4, .int x3), (5, .int x4)]) hx hb dn_M_feed_89 hl (by decide) rfl (fun ls hl => ?_)
  refine lv_aload_n hx hb dn_M_feed_91 rfl (lv_at hl 2 rfl) ?_
  refine va_get (D := (dC, dI)) (ci := 0) (v := .ref h1) (C := rn_M) (T := fn_M) (N := 91) hx hb hg in_M hown hK hP 0 rfl rfl 1 (by decide) (hg _ wn_8_91) (fun _ h9 => h9) (congrArg some hf0_1) dn_M_feed_92 ?_
  refine lv_aload_n hx hb dn_M_feed_95 rfl (lv_at hl 2 rfl) ?_
  refine va_get (D := (dC, dI)) (ci := 0) (v := .int 0) (C := rn_M) (T := fn_M) (N := 91) hx hb hg in_M hown hK hP 0 rfl rfl 88 (by decide) (hg _ wn_8_178) (fun _ h9 => h9) (congrArg some hf0_88) dn_M_feed_96 ?_
  refine lv_iload hx hb dn_M_feed_99 (lv_at hl 1 rfl) ?_
  refine lv_iadd hx hb dn_M_feed_101 ?_
  refine xk_ti (y := 13) (by decide) ?_
  refine lv_iload hx hb dn_M_feed_102 (lv_at hl 0 rfl) ?_
  refine lv_bipush (v := 24) hx hb dn_M_feed_104 (by decide) ?_
  refine lv_bipush (v := 8) hx hb dn_M_feed_106 (by decide) ?_
  refine lv_iload hx hb dn_M_feed_108 (lv_at hl 1 rfl) ?_
  refine lv_iconst (v := 4) hx hb dn_M_feed_110 (by decide) ?_
  refine lv_irem hx hb dn_M_feed_111 (by decide) ?_
  refine xk_ti (y := 1) (by decide) ?_
  refine lv_imul hx hb dn_M_feed_112 ?_
  refine xk_ti (y := 8) (by decide) ?_
  refine lv_isub hx hb dn_M_feed_113 ?_
  refine xk_ti (y := 16) (by decide) ?_
  refine lv_ishr hx hb dn_M_feed_114 ?_
  refine lv_topi (fun z_40 _ => ?_)
  refine lv_i2b hx hb dn_M_feed_115 rfl ?_
  refine lv_topi (fun z_41 ez_41 => ?_)
  refine va_bast hx hb hK hP hD hS 1 1 rfl rfl (show ¬ (_ ∨ _) by decide) dn_M_feed_116 (fun H locs hP hD hS => ?_)
  obtain ⟨g_42, eg_42⟩ : ∃ z : Nat → Int32, z = upd g_39 (13 : Int32).toNatClampNeg (vp_nar .byte z_41) := ⟨_, rfl⟩
  have hP : va_P (dC, dI) xcl [(h0, .inr (0, xo_M (va_up f0 0 (.int 0)))), (h1, .inl (cB, 65536, .inl g_42))] H := by rw [eg_42]; exact hP
  have hD : va_D A [(h0, .inr (0, xo_M (va_up f0 0 (.int 0)))), (h1, .inl (cB, 65536, .inl g_42))] := by rw [eg_42]; exact hD
  refine lv_iinc (v := 14) (lv' := [(6, .int 14), (7, .int x3), (0, .ref h0), (1, .int x0), (2, .int x1), (3, .int x2), (4, .int x3), (5, .int x4)]) hx hb dn_M_feed_117 hl (k := 1) rfl (by decide) (by decide) rfl (fun ls hl => ?_)
  refine lv_goto (tgt := 36) hx hb dn_M_feed_120 (by decide) ?_
  refine lv_iload hx hb dn_M_feed_36 (lv_at hl 0 rfl) ?_
  refine lv_bipush (v := 20) hx hb dn_M_feed_38 (by decide) ?_
  refine lv_icmp_ge (tgt := 123) hx hb dn_M_feed_40 (by decide) (fun h9 => absurd h9 (by decide)) (fun _ => ?_)
  refine lv_iload hx hb dn_M_feed_43 (lv_at hl 0 rfl) ?_
  refine lv_iconst (v := 4) hx hb dn_M_feed_45 (by decide) ?_
  refine lv_icmp_ge (tgt := 53) hx hb dn_M_feed_46 (by decide) (fun _ => ?_) (fun h9 => absurd h9 (by decide))
  refine lv_iload hx hb dn_M_feed_53 (lv_at hl 0 rfl) ?_
  refine lv_bipush (v := 8) hx hb dn_M_feed_55 (by decide) ?_
  refine lv_icmp_ge (tgt := 64) hx hb dn_M_feed_57 (by decide) (fun _ => ?_) (fun h9 => absurd h9 (by decide))
  refine lv_iload hx hb dn_M_feed_64 (lv_at hl 0 rfl) ?_
  refine lv_bipush (v := 12) hx hb dn_M_feed_66 (by decide) ?_
  refine lv_icmp_ge (tgt := 75) hx hb dn_M_feed_68 (by decide) (fun _ => ?_) (fun h9 => absurd h9 (by decide))
  refine lv_iload hx hb dn_M_feed_75 (lv_at hl 0 rfl) ?_
  refine lv_bipush (v := 16) hx hb dn_M_feed_77 (by decide) ?_
  refine lv_icmp_ge (tgt := 87) hx hb dn_M_feed_79 (by decide) (fun h9 => absurd h9 (by decide)) (fun _ => ?_)
  refine lv_iload hx hb dn_M_feed_82 (lv_at hl 6 rfl) ?_
  refine lv_goto (tgt := 89) hx hb dn_M_feed_84 (by decide) ?_
  refine lv_istore (lv' := [(7, .int x3), (6, .int 14), (0, .ref h0), (1, .int x0), (2, .int x1), (3, .int x2), (4, .int x3), (5, .int x4)]) hx hb dn_M_feed_89 hl (by decide) rfl (fun ls hl => ?_)
  refine lv_aload_n hx hb dn_M_feed_91 rfl (lv_at hl 2 rfl) ?_
  refine va_get (D := (dC, dI)) (ci := 0) (v := .ref h1) (C := rn_M) (T := fn_M) (N := 91) hx hb hg in_M hown hK hP 0 rfl rfl 1 (by decide) (hg _ wn_8_91) (fun _ h9 => h9) (congrArg some hf0_1) dn_M_feed_92 ?_
  refine lv_aload_n hx hb dn_M_feed_95 rfl (lv_at hl 2 rfl) ?_
  refine va_get (D := (dC, dI)) (ci := 0) (v := .int 0) (C := rn_M) (T := fn_M) (N := 91) hx hb hg in_M hown hK hP 0 rfl rfl 88 (by decide) (hg _ wn_8_178) (fun _ h9 => h9) (congrArg some hf0_88) dn_M_feed_96 ?_
  refine lv_iload hx hb dn_M_feed_99 (lv_at hl 1 rfl) ?_
  refine lv_iadd hx hb dn_M_feed_101 ?_
  refine xk_ti (y := 14) (by decide) ?_
  refine lv_iload hx hb dn_M_feed_102 (lv_at hl 0 rfl) ?_
  refine lv_bipush (v := 24) hx hb dn_M_feed_104 (by decide) ?_
  refine lv_bipush (v := 8) hx hb dn_M_feed_106 (by decide) ?_
  refine lv_iload hx hb dn_M_feed_108 (lv_at hl 1 rfl) ?_
  refine lv_iconst (v := 4) hx hb dn_M_feed_110 (by decide) ?_
  refine lv_irem hx hb dn_M_feed_111 (by decide) ?_
  refine xk_ti (y := 2) (by decide) ?_
  refine lv_imul hx hb dn_M_feed_112 ?_
  refine xk_ti (y := 16) (by decide) ?_
  refine lv_isub hx hb dn_M_feed_113 ?_
  refine xk_ti (y := 8) (by decide) ?_
  refine lv_ishr hx hb dn_M_feed_114 ?_
  refine lv_topi (fun z_43 _ => ?_)
  refine lv_i2b hx hb dn_M_feed_115 rfl ?_
  refine lv_topi (fun z_44 ez_44 => ?_)
  refine va_bast hx hb hK hP hD hS 1 1 rfl rfl (show ¬ (_ ∨ _) by decide) dn_M_feed_116 (fun H locs hP hD hS => ?_)
  obtain ⟨g_45, eg_45⟩ : ∃ z : Nat → Int32, z = upd g_42 (14 : Int32).toNatClampNeg (vp_nar .byte z_44) := ⟨_, rfl⟩
  have hP : va_P (dC, dI) xcl [(h0, .inr (0, xo_M (va_up f0 0 (.int 0)))), (h1, .inl (cB, 65536, .inl g_45))] H := by rw [eg_45]; exact hP
  have hD : va_D A [(h0, .inr (0, xo_M (va_up f0 0 (.int 0)))), (h1, .inl (cB, 65536, .inl g_45))] := by rw [eg_45]; exact hD
  refine lv_iinc (v := 15) (lv' := [(6, .int 15), (7, .int x3), (0, .ref h0), (1, .int x0), (2, .int x1), (3, .int x2), (4, .int x3), (5, .int x4)]) hx hb dn_M_feed_117 hl (k := 1) rfl (by decide) (by decide) rfl (fun ls hl => ?_)
  refine lv_goto (tgt := 36) hx hb dn_M_feed_120 (by decide) ?_
  refine lv_iload hx hb dn_M_feed_36 (lv_at hl 0 rfl) ?_
  refine lv_bipush (v := 20) hx hb dn_M_feed_38 (by decide) ?_
  refine lv_icmp_ge (tgt := 123) hx hb dn_M_feed_40 (by decide) (fun h9 => absurd h9 (by decide)) (fun _ => ?_)
  refine lv_iload hx hb dn_M_feed_43 (lv_at hl 0 rfl) ?_
  refine lv_iconst (v := 4) hx hb dn_M_feed_45 (by decide) ?_
  refine lv_icmp_ge (tgt := 53) hx hb dn_M_feed_46 (by decide) (fun _ => ?_) (fun h9 => absurd h9 (by decide))
  refine lv_iload hx hb dn_M_feed_53 (lv_at hl 0 rfl) ?_
  refine lv_bipush (v := 8) hx hb dn_M_feed_55 (by decide) ?_
  refine lv_icmp_ge (tgt := 64) hx hb dn_M_feed_57 (by decide) (fun _ => ?_) (fun h9 => absurd h9 (by decide))
  refine lv_iload hx hb dn_M_feed_64 (lv_at hl 0 rfl) ?_
  refine lv_bipush (v := 12) hx hb dn_M_feed_66 (by decide) ?_
  refine lv_icmp_ge (tgt := 75) hx hb dn_M_feed_68 (by decide) (fun _ => ?_) (fun h9 => absurd h9 (by decide))
  refine lv_iload hx hb dn_M_feed_75 (lv_at hl 0 rfl) ?_
  refine lv_bipush (v := 16) hx hb dn_M_feed_77 (by decide) ?_
  refine lv_icmp_ge (tgt := 87) hx hb dn_M_feed_79 (by decide) (fun h9 => absurd h9 (by decide)) (fun _ => ?_)
  refine lv_iload hx hb dn_M_feed_82 (lv_at hl 6 rfl) ?_
  refine lv_goto (tgt := 89) hx hb dn_M_feed_84 (by decide) ?_
  refine lv_istore (lv' := [(7, .int x3), (6, .int 15), (0, .ref h0), (1, .int x0), (2, .int x1), (3, .int x2), (4, .int x3), (5, .int x4)]) hx hb dn_M_feed_89 hl (by decide) rfl (fun ls hl => ?_)
  refine lv_aload_n hx hb dn_M_feed_91 rfl (lv_at hl 2 rfl) ?_
  refine va_get (D := (dC, dI)) (ci := 0) (v := .ref h1) (C := rn_M) (T := fn_M) (N := 91) hx hb hg in_M hown hK hP 0 rfl rfl 1 (by decide) (hg _ wn_8_91) (fun _ h9 => h9) (congrArg some hf0_1) dn_M_feed_92 ?_
  refine lv_aload_n hx hb dn_M_feed_95 rfl (lv_at hl 2 rfl) ?_
  refine va_get (D := (dC, dI)) (ci := 0) (v := .int 0) (C := rn_M) (T := fn_M) (N := 91) hx hb hg in_M hown hK hP 0 rfl rfl 88 (by decide) (hg _ wn_8_178) (fun _ h9 => h9) (congrArg some hf0_88) dn_M_feed_96 ?_
  refine lv_iload hx hb dn_M_feed_99 (lv_at hl 1 rfl) ?_
  refine lv_iadd hx hb dn_M_feed_101 ?_
  refine xk_ti (y := 15) (by decide) ?_
  refine lv_iload hx hb dn_M_feed_102 (lv_at hl 0 rfl) ?_
  refine lv_bipush (v := 24) hx hb dn_M_feed_104 (by decide) ?_
  refine lv_bipush (v := 8) hx hb dn_M_feed_106 (by decide) ?_
  refine lv_iload hx hb dn_M_feed_108 (lv_at hl 1 rfl) ?_
  refine lv_iconst (v := 4) hx hb dn_M_feed_110 (by decide) ?_
  refine lv_irem hx hb dn_M_feed_111 (by decide) ?_
  refine xk_ti (y := 3) (by decide) ?_
  refine lv_imul hx hb dn_M_feed_112 ?_
  refine xk_ti (y := 24) (by decide) ?_
  refine lv_isub hx hb dn_M_feed_113 ?_
  refine xk_ti (y := 0) (by decide) ?_
  refine lv_ishr hx hb dn_M_feed_114 ?_
  refine lv_topi (fun z_46 _ => ?_)
  refine lv_i2b hx hb dn_M_feed_115 rfl ?_
  refine lv_topi (fun z_47 ez_47 => ?_)
  refine va_bast hx hb hK hP hD hS 1 1 rfl rfl (show ¬ (_ ∨ _) by decide) dn_M_feed_116 (fun H locs hP hD hS => ?_)
  obtain ⟨g_48, eg_48⟩ : ∃ z : Nat → Int32, z = upd g_45 (15 : Int32).toNatClampNeg (vp_nar .byte z_47) := ⟨_, rfl⟩
  have hP : va_P (dC, dI) xcl [(h0, .inr (0, xo_M (va_up f0 0 (.int 0)))), (h1, .inl (cB, 65536, .inl g_48))] H := by rw [eg_48]; exact hP
  have hD : va_D A [(h0, .inr (0, xo_M (va_up f0 0 (.int 0)))), (h1, .inl (cB, 65536, .inl g_48))] := by rw [eg_48]; exact hD
  refine lv_iinc (v := 16) (lv' := [(6, .int 16), (7, .int x3), (0, .ref h0), (1, .int x0), (2, .int x1), (3, .int x2), (4, .int x3), (5, .int x4)]) hx hb dn_M_feed_117 hl (k := 1) rfl (by decide) (by decide) rfl (fun ls hl => ?_)
  refine lv_goto (tgt := 36) hx hb dn_M_feed_120 (by decide) ?_
  refine lv_iload hx hb dn_M_feed_36 (lv_at hl 0 rfl) ?_
  refine lv_bipush (v := 20) hx hb dn_M_feed_38 (by decide) ?_
  refine lv_icmp_ge (tgt := 123) hx hb dn_M_feed_40 (by decide) (fun h9 => absurd h9 (by decide)) (fun _ => ?_)
  refine lv_iload hx hb dn_M_feed_43 (lv_at hl 0 rfl) ?_
  refine lv_iconst (v := 4) hx hb dn_M_feed_45 (by decide) ?_
  refine lv_icmp_ge (tgt := 53) hx hb dn_M_feed_46 (by decide) (fun _ => ?_) (fun h9 => absurd h9 (by decide))
  refine lv_iload hx hb dn_M_feed_53 (lv_at hl 0 rfl) ?_
  refine lv_bipush (v := 8) hx hb dn_M_feed_55 (by decide) ?_
  refine lv_icmp_ge (tgt := 64) hx hb dn_M_feed_57 (by decide) (fun _ => ?_) (fun h9 => absurd h9 (by decide))
  refine lv_iload hx hb dn_M_feed_64 (lv_at hl 0 rfl) ?_
  refine lv_bipush (v := 12) hx hb dn_M_feed_66 (by decide) ?_
  refine lv_icmp_ge (tgt := 75) hx hb dn_M_feed_68 (by decide) (fun _ => ?_) (fun h9 => absurd h9 (by decide))
  refine lv_iload hx hb dn_M_feed_75 (lv_at hl 0 rfl) ?_
  refine lv_bipush (v := 16) hx hb dn_M_feed_77 (by decide) ?_
  refine lv_icmp_ge (tgt := 87) hx hb dn_M_feed_79 (by decide) (fun _ => ?_) (fun h9 => absurd h9 (by decide))
  refine lv_iload hx hb dn_M_feed_87 (lv_at hl 7 rfl) ?_
  refine lv_istore (lv' := [(7, .int x4), (6, .int 16), (0, .ref h0), (1, .int x0), (2, .int x1), (3, .int x2), (4, .int x3), (5, .int x4)]) hx hb dn_M_feed_89 hl (by decide) rfl (fun ls hl => ?_)
  refine lv_aload_n hx hb dn_M_feed_91 rfl (lv_at hl 2 rfl) ?_
  refine va_get (D := (dC, dI)) (ci := 0) (v := .ref h1) (C := rn_M) (T := fn_M) (N := 91) hx hb hg in_M hown hK hP 0 rfl rfl 1 (by decide) (hg _ wn_8_91) (fun _ h9 => h9) (congrArg some hf0_1) dn_M_feed_92 ?_
  refine lv_aload_n hx hb dn_M_feed_95 rfl (lv_at hl 2 rfl) ?_
  refine va_get (D := (dC, dI)) (ci := 0) (v := .int 0) (C := rn_M) (T := fn_M) (N := 91) hx hb hg in_M hown hK hP 0 rfl rfl 88 (by decide) (hg _ wn_8_178) (fun _ h9 => h9) (congrArg some hf0_88) dn_M_feed_96 ?_
  refine lv_iload hx hb dn_M_feed_99 (lv_at hl 1 rfl) ?_
  refine lv_iadd hx hb dn_M_feed_101 ?_
  refine xk_ti (y := 16) (by decide) ?_
  refine lv_iload hx hb dn_M_feed_102 (lv_at hl 0 rfl) ?_
  refine lv_bipush (v := 24) hx hb dn_M_feed_104 (by decide) ?_
  refine lv_bipush (v := 8) hx hb dn_M_feed_106 (by decide) ?_
  refine lv_iload hx hb dn_M_feed_108 (lv_at hl 1 rfl) ?_
  refine lv_iconst (v := 4) hx hb dn_M_feed_110 (by decide) ?_
  refine lv_irem hx hb dn_M_feed_111 (by decide) ?_
  refine xk_ti (y := 0) (by decide) ?_
  refine lv_imul hx hb dn_M_feed_112 ?_
  refine xk_ti (y := 0) (by decide) ?_
  refine lv_isub hx hb dn_M_feed_113 ?_
  refine xk_ti (y := 24) (by decide) ?_
  refine lv_ishr hx hb dn_M_feed_114 ?_
  refine lv_topi (fun z_49 _ => ?_)
  refine lv_i2b hx hb dn_M_feed_115 rfl ?_
  refine lv_topi (fun z_50 ez_50 => ?_)
  refine va_bast hx hb hK hP hD hS 1 1 rfl rfl (show ¬ (_ ∨ _) by decide) dn_M_feed_116 (fun H locs hP hD hS => ?_)
  obtain ⟨g_51, eg_51⟩ : ∃ z : Nat → Int32, z = upd g_48 (16 : Int32).toNatClampNeg (vp_nar .byte z_50) := ⟨_, rfl⟩
  have hP : va_P (dC, dI) xcl [(h0, .inr (0, xo_M (va_up f0 0 (.int 0)))), (h1, .inl (cB, 65536, .inl g_51))] H := by rw [eg_51]; exact hP
  have hD : va_D A [(h0, .inr (0, xo_M (va_up f0 0 (.int 0)))), (h1, .inl (cB, 65536, .inl g_51))] := by rw [eg_51]; exact hD
  refine lv_iinc (v := 17) (lv' := [(6, .int 17), (7, .int x4), (0, .ref h0), (1, .int x0), (2, .int x1), (3, .int x2), (4, .int x3), (5, .int x4)]) hx hb dn_M_feed_117 hl (k := 1) rfl (by decide) (by decide) rfl (fun ls hl => ?_)
  refine lv_goto (tgt := 36) hx hb dn_M_feed_120 (by decide) ?_
  refine lv_iload hx hb dn_M_feed_36 (lv_at hl 0 rfl) ?_
  refine lv_bipush (v := 20) hx hb dn_M_feed_38 (by decide) ?_
  refine lv_icmp_ge (tgt := 123) hx hb dn_M_feed_40 (by decide) (fun h9 => absurd h9 (by decide)) (fun _ => ?_)
  refine lv_iload hx hb dn_M_feed_43 (lv_at hl 0 rfl) ?_
  refine lv_iconst (v := 4) hx hb dn_M_feed_45 (by decide) ?_
  refine lv_icmp_ge (tgt := 53) hx hb dn_M_feed_46 (by decide) (fun _ => ?_) (fun h9 => absurd h9 (by decide))
  refine lv_iload hx hb dn_M_feed_53 (lv_at hl 0 rfl) ?_
  refine lv_bipush (v := 8) hx hb dn_M_feed_55 (by decide) ?_
  refine lv_icmp_ge (tgt := 64) hx hb dn_M_feed_57 (by decide) (fun _ => ?_) (fun h9 => absurd h9 (by decide))
  refine lv_iload hx hb dn_M_feed_64 (lv_at hl 0 rfl) ?_
  refine lv_bipush (v := 12) hx hb dn_M_feed_66 (by decide) ?_
  refine lv_icmp_ge (tgt := 75) hx hb dn_M_feed_68 (by decide) (fun _ => ?_) (fun h9 => absurd h9 (by decide))
  refine lv_iload hx hb dn_M_feed_75 (lv_at hl 0 rfl) ?_
  refine lv_bipush (v := 16) hx hb dn_M_feed_77 (by decide) ?_
  refine lv_icmp_ge (tgt := 87) hx hb dn_M_feed_79 (by decide) (fun _ => ?_) (fun h9 => absurd h9 (by decide))
  refine lv_iload hx hb dn_M_feed_87 (lv_at hl 7 rfl) ?_
  refine lv_istore (lv' := [(7, .int x4), (6, .int 17), (0, .ref h0), (1, .int x0), (2, .int x1), (3, .int x2), (4, .int x3), (5, .int x4)]) hx hb dn_M_feed_89 hl (by decide) rfl (fun ls hl => ?_)
  refine lv_aload_n hx hb dn_M_feed_91 rfl (lv_at hl 2 rfl) ?_
  refine va_get (D := (dC, dI)) (ci := 0) (v := .ref h1) (C := rn_M) (T := fn_M) (N := 91) hx hb hg in_M hown hK hP 0 rfl rfl 1 (by decide) (hg _ wn_8_91) (fun _ h9 => h9) (congrArg some hf0_1) dn_M_feed_92 ?_
  refine lv_aload_n hx hb dn_M_feed_95 rfl (lv_at hl 2 rfl) ?_
  refine va_get (D := (dC, dI)) (ci := 0) (v := .int 0) (C := rn_M) (T := fn_M) (N := 91) hx hb hg in_M hown hK hP 0 rfl rfl 88 (by decide) (hg _ wn_8_178) (fun _ h9 => h9) (congrArg some hf0_88) dn_M_feed_96 ?_
  refine lv_iload hx hb dn_M_feed_99 (lv_at hl 1 rfl) ?_
  refine lv_iadd hx hb dn_M_feed_101 ?_
  refine xk_ti (y := 17) (by decide) ?_
  refine lv_iload hx hb dn_M_feed_102 (lv_at hl 0 rfl) ?_
  refine lv_bipush (v := 24) hx hb dn_M_feed_104 (by decide) ?_
  refine lv_bipush (v := 8) hx hb dn_M_feed_106 (by decide) ?_
  refine lv_iload hx hb dn_M_feed_108 (lv_at hl 1 rfl) ?_
  refine lv_iconst (v := 4) hx hb dn_M_feed_110 (by decide) ?_
  refine lv_irem hx hb dn_M_feed_111 (by decide) ?_
  refine xk_ti (y := 1) (by decide) ?_
  refine lv_imul hx hb dn_M_feed_112 ?_
  refine xk_ti (y := 8) (by decide) ?_
  refine lv_isub hx hb dn_M_feed_113 ?_
  refine xk_ti (y := 16) (by decide) ?_
  refine lv_ishr hx hb dn_M_feed_114 ?_
  refine lv_topi (fun z_52 _ => ?_)
  refine lv_i2b hx hb dn_M_feed_115 rfl ?_
  refine lv_topi (fun z_53 ez_53 => ?_)
  refine va_bast hx hb hK hP hD hS 1 1 rfl rfl (show ¬ (_ ∨ _) by decide) dn_M_feed_116 (fun H locs hP hD hS => ?_)
  obtain ⟨g_54, eg_54⟩ : ∃ z : Nat → Int32, z = upd g_51 (17 : Int32).toNatClampNeg (vp_nar .byte z_53) := ⟨_, rfl⟩
  have hP : va_P (dC, dI) xcl [(h0, .inr (0, xo_M (va_up f0 0 (.int 0)))), (h1, .inl (cB, 65536, .inl g_54))] H := by rw [eg_54]; exact hP
  have hD : va_D A [(h0, .inr (0, xo_M (va_up f0 0 (.int 0)))), (h1, .inl (cB, 65536, .inl g_54))] := by rw [eg_54]; exact hD
  refine lv_iinc (v := 18) (lv' := [(6, .int 18), (7, .int x4), (0, .ref h0), (1, .int x0), (2, .int x1), (3, .int x2), (4, .int x3), (5, .int x4)]) hx hb dn_M_feed_117 hl (k := 1) rfl (by decide) (by decide) rfl (fun ls hl => ?_)
  refine lv_goto (tgt := 36) hx hb dn_M_feed_120 (by decide) ?_
  refine lv_iload hx hb dn_M_feed_36 (lv_at hl 0 rfl) ?_
  refine lv_bipush (v := 20) hx hb dn_M_feed_38 (by decide) ?_
  refine lv_icmp_ge (tgt := 123) hx hb dn_M_feed_40 (by decide) (fun h9 => absurd h9 (by decide)) (fun _ => ?_)
  refine lv_iload hx hb dn_M_feed_43 (lv_at hl 0 rfl) ?_
  refine lv_iconst (v := 4) hx hb dn_M_feed_45 (by decide) ?_
  refine lv_icmp_ge (tgt := 53) hx hb dn_M_feed_46 (by decide) (fun _ => ?_) (fun h9 => absurd h9 (by decide))
  refine lv_iload hx hb dn_M_feed_53 (lv_at hl 0 rfl) ?_
  refine lv_bipush (v := 8) hx hb dn_M_feed_55 (by decide) ?_
  refine lv_icmp_ge (tgt := 64) hx hb dn_M_feed_57 (by decide) (fun _ => ?_) (fun h9 => absurd h9 (by decide))
  refine lv_iload hx hb dn_M_feed_64 (lv_at hl 0 rfl) ?_
  refine lv_bipush (v := 12) hx hb dn_M_feed_66 (by decide) ?_
  refine lv_icmp_ge (tgt := 75) hx hb dn_M_feed_68 (by decide) (fun _ => ?_) (fun h9 => absurd h9 (by decide))
  refine lv_iload hx hb dn_M_feed_75 (lv_at hl 0 rfl) ?_
  refine lv_bipush (v := 16) hx hb dn_M_feed_77 (by decide) ?_
  refine lv_icmp_ge (tgt := 87) hx hb dn_M_feed_79 (by decide) (fun _ => ?_) (fun h9 => absurd h9 (by decide))
  refine lv_iload hx hb dn_M_feed_87 (lv_at hl 7 rfl) ?_
  refine lv_istore (lv' := [(7, .int x4), (6, .int 18), (0, .ref h0), (1, .int x0), (2, .int x1), (3, .int x2), (4, .int x3), (5, .int x4)]) hx hb dn_M_feed_89 hl (by decide) rfl (fun ls hl => ?_)
  refine lv_aload_n hx hb dn_M_feed_91 rfl (lv_at hl 2 rfl) ?_
  refine va_get (D := (dC, dI)) (ci := 0) (v := .ref h1) (C := rn_M) (T := fn_M) (N := 91) hx hb hg in_M hown hK hP 0 rfl rfl 1 (by decide) (hg _ wn_8_91) (fun _ h9 => h9) (congrArg some hf0_1) dn_M_feed_92 ?_
  refine lv_aload_n hx hb dn_M_feed_95 rfl (lv_at hl 2 rfl) ?_
  refine va_get (D := (dC, dI)) (ci := 0) (v := .int 0) (C := rn_M) (T := fn_M) (N := 91) hx hb hg in_M hown hK hP 0 rfl rfl 88 (by decide) (hg _ wn_8_178) (fun _ h9 => h9) (congrArg some hf0_88) dn_M_feed_96 ?_
  refine lv_iload hx hb dn_M_feed_99 (lv_at hl 1 rfl) ?_
  refine lv_iadd hx hb dn_M_feed_101 ?_
  refine xk_ti (y := 18) (by decide) ?_
  refine lv_iload hx hb dn_M_feed_102 (lv_at hl 0 rfl) ?_
  refine lv_bipush (v := 24) hx hb dn_M_feed_104 (by decide) ?_
  refine lv_bipush (v := 8) hx hb dn_M_feed_106 (by decide) ?_
  refine lv_iload hx hb dn_M_feed_108 (lv_at hl 1 rfl) ?_
  refine lv_iconst (v := 4) hx hb dn_M_feed_110 (by decide) ?_
  refine lv_irem hx hb dn_M_feed_111 (by decide) ?_
  refine xk_ti (y := 2) (by decide) ?_
  refine lv_imul hx hb dn_M_feed_112 ?_
  refine xk_ti (y := 16) (by decide) ?_
  refine lv_isub hx hb dn_M_feed_113 ?_
  refine xk_ti (y := 8) (by decide) ?_
  refine lv_ishr hx hb dn_M_feed_114 ?_
  refine lv_topi (fun z_55 _ => ?_)
  refine lv_i2b hx hb dn_M_feed_115 rfl ?_
  refine lv_topi (fun z_56 ez_56 => ?_)
  refine va_bast hx hb hK hP hD hS 1 1 rfl rfl (show ¬ (_ ∨ _) by decide) dn_M_feed_116 (fun H locs hP hD hS => ?_)
  obtain ⟨g_57, eg_57⟩ : ∃ z : Nat → Int32, z = upd g_54 (18 : Int32).toNatClampNeg (vp_nar .byte z_56) := ⟨_, rfl⟩
  have hP : va_P (dC, dI) xcl [(h0, .inr (0, xo_M (va_up f0 0 (.int 0)))), (h1, .inl (cB, 65536, .inl g_57))] H := by rw [eg_57]; exact hP
  have hD : va_D A [(h0, .inr (0, xo_M (va_up f0 0 (.int 0)))), (h1, .inl (cB, 65536, .inl g_57))] := by rw [eg_57]; exact hD
  refine lv_iinc (v := 19) (lv' := [(6, .int 19), (7, .int x4), (0, .ref h0), (1, .int x0), (2, .int x1), (3, .int x2), (4, .int x3), (5, .int x4)]) hx hb dn_M_feed_117 hl (k := 1) rfl (by decide) (by decide) rfl (fun ls hl => ?_)
  refine lv_goto (tgt := 36) hx hb dn_M_feed_120 (by decide) ?_
  refine lv_iload hx hb dn_M_feed_36 (lv_at hl 0 rfl) ?_
  refine lv_bipush (v := 20) hx hb dn_M_feed_38 (by decide) ?_
  refine lv_icmp_ge (tgt := 123) hx hb dn_M_feed_40 (by decide) (fun h9 => absurd h9 (by decide)) (fun _ => ?_)
  refine lv_iload hx hb dn_M_feed_43 (lv_at hl 0 rfl) ?_
  refine lv_iconst (v := 4) hx hb dn_M_feed_45 (by decide) ?_
  refine lv_icmp_ge (tgt := 53) hx hb dn_M_feed_46 (by decide) (fun _ => ?_) (fun h9 => absurd h9 (by decide))
  refine lv_iload hx hb dn_M_feed_53 (lv_at hl 0 rfl) ?_
  refine lv_bipush (v := 8) hx hb dn_M_feed_55 (by decide) ?_
  refine lv_icmp_ge (tgt := 64) hx hb dn_M_feed_57 (by decide) (fun _ => ?_) (fun h9 => absurd h9 (by decide))
  refine lv_iload hx hb dn_M_feed_64 (lv_at hl 0 rfl) ?_
  refine lv_bipush (v := 12) hx hb dn_M_feed_66 (by decide) ?_
  refine lv_icmp_ge (tgt := 75) hx hb dn_M_feed_68 (by decide) (fun _ => ?_) (fun h9 => absurd h9 (by decide))
  refine lv_iload hx hb dn_M_feed_75 (lv_at hl 0 rfl) ?_
  refine lv_bipush (v := 16) hx hb dn_M_feed_77 (by decide) ?_
  refine lv_icmp_ge (tgt := 87) hx hb dn_M_feed_79 (by decide) (fun _ => ?_) (fun h9 => absurd h9 (by decide))
  refine lv_iload hx hb dn_M_feed_87 (lv_at hl 7 rfl) ?_
  refine lv_istore (lv' := [(7, .int x4), (6, .int 19), (0, .ref h0), (1, .int x0), (2, .int x1), (3, .int x2), (4, .int x3), (5, .int x4)]) hx hb dn_M_feed_89 hl (by decide) rfl (fun ls hl => ?_)
  refine lv_aload_n hx hb dn_M_feed_91 rfl (lv_at hl 2 rfl) ?_
  refine va_get (D := (dC, dI)) (ci := 0) (v := .ref h1) (C := rn_M) (T := fn_M) (N := 91) hx hb hg in_M hown hK hP 0 rfl rfl 1 (by decide) (hg _ wn_8_91) (fun _ h9 => h9) (congrArg some hf0_1) dn_M_feed_92 ?_
  refine lv_aload_n hx hb dn_M_feed_95 rfl (lv_at hl 2 rfl) ?_
  refine va_get (D := (dC, dI)) (ci := 0) (v := .int 0) (C := rn_M) (T := fn_M) (N := 91) hx hb hg in_M hown hK hP 0 rfl rfl 88 (by decide) (hg _ wn_8_178) (fun _ h9 => h9) (congrArg some hf0_88) dn_M_feed_96 ?_
  refine lv_iload hx hb dn_M_feed_99 (lv_at hl 1 rfl) ?_
  refine lv_iadd hx hb dn_M_feed_101 ?_
  refine xk_ti (y := 19) (by decide) ?_
  refine lv_iload hx hb dn_M_feed_102 (lv_at hl 0 rfl) ?_
  refine lv_bipush (v := 24) hx hb dn_M_feed_104 (by decide) ?_
  refine lv_bipush (v := 8) hx hb dn_M_feed_106 (by decide) ?_
  refine lv_iload hx hb dn_M_feed_108 (lv_at hl 1 rfl) ?_
  refine lv_iconst (v := 4) hx hb dn_M_feed_110 (by decide) ?_
  refine lv_irem hx hb dn_M_feed_111 (by decide) ?_
  refine xk_ti (y := 3) (by decide) ?_
  refine lv_imul hx hb dn_M_feed_112 ?_
  refine xk_ti (y := 24) (by decide) ?_
  refine lv_isub hx hb dn_M_feed_113 ?_
  refine xk_ti (y := 0) (by decide) ?_
  refine lv_ishr hx hb dn_M_feed_114 ?_
  refine lv_topi (fun z_58 _ => ?_)
  refine lv_i2b hx hb dn_M_feed_115 rfl ?_
  refine lv_topi (fun z_59 ez_59 => ?_)
  refine va_bast hx hb hK hP hD hS 1 1 rfl rfl (show ¬ (_ ∨ _) by decide) dn_M_feed_116 (fun H locs hP hD hS => ?_)
  obtain ⟨g_60, eg_60⟩ : ∃ z : Nat → Int32, z = upd g_57 (19 : Int32).toNatClampNeg (vp_nar .byte z_59) := ⟨_, rfl⟩
  have hP : va_P (dC, dI) xcl [(h0, .inr (0, xo_M (va_up f0 0 (.int 0)))), (h1, .inl (cB, 65536, .inl g_60))] H := by rw [eg_60]; exact hP
  have hD : va_D A [(h0, .inr (0, xo_M (va_up f0 0 (.int 0)))), (h1, .inl (cB, 65536, .inl g_60))] := by rw [eg_60]; exact hD
  refine lv_iinc (v := 20) (lv' := [(6, .int 20), (7, .int x4), (0, .ref h0), (1, .int x0), (2, .int x1), (3, .int x2), (4, .int x3), (5, .int x4)]) hx hb dn_M_feed_117 hl (k := 1) rfl (by decide) (by decide) rfl (fun ls hl => ?_)
  refine lv_goto (tgt := 36) hx hb dn_M_feed_120 (by decide) ?_
  refine lv_iload hx hb dn_M_feed_36 (lv_at hl 0 rfl) ?_
  refine lv_bipush (v := 20) hx hb dn_M_feed_38 (by decide) ?_
  refine lv_icmp_ge (tgt := 123) hx hb dn_M_feed_40 (by decide) (fun _ => ?_) (fun h9 => absurd h9 (by decide))
  refine lv_aload_n hx hb dn_M_feed_123 rfl (lv_at hl 2 rfl) ?_
  refine lv_aload_n hx hb dn_M_feed_124 rfl (lv_at hl 2 rfl) ?_
  refine va_get (D := (dC, dI)) (ci := 0) (v := .int 0) (C := rn_M) (T := fn_M) (N := 91) hx hb hg in_M hown hK hP 0 rfl rfl 88 (by decide) (hg _ wn_8_178) (fun _ h9 => h9) (congrArg some hf0_88) dn_M_feed_125 ?_
  refine lv_bipush (v := 20) hx hb dn_M_feed_128 (by decide) ?_
  refine lv_iadd hx hb dn_M_feed_130 ?_
  refine xk_ti (y := 20) (by decide) ?_
  refine va_put (D := (dC, dI)) (ci := 0) (v := .int 20) (ty := .int) (C := rn_M) (T := fn_M) (N := 91) hx hb hg in_M tn_M tk_M nn_M hown hK hP hD hS 0 rfl rfl 88 (by decide) (hg _ wn_8_178) (fun _ h9 => h9) rfl (tk_M 88 (by decide)) rfl rfl (Nat.le_of_ble_eq_true rfl) dn_M_feed_131 (fun H locs hP hD hS => ?_)
  have hP : va_P (dC, dI) xcl [(h0, .inr (0, xo_M (va_up (va_up f0 0 (.int 0)) 88 (.int 20)))), (h1, .inl (cB, 65536, .inl g_60))] H := hP
  have hD : va_D A [(h0, .inr (0, xo_M (va_up (va_up f0 0 (.int 0)) 88 (.int 20)))), (h1, .inl (cB, 65536, .inl g_60))] := hD
  refine lv_aload_n hx hb dn_M_feed_134 rfl (lv_at hl 2 rfl) ?_
  refine va_get (D := (dC, dI)) (ci := 0) (v := .int 20) (C := rn_M) (T := fn_M) (N := 91) hx hb hg in_M hown hK hP 0 rfl rfl 88 (by decide) (hg _ wn_8_178) (fun _ h9 => h9) rfl dn_M_feed_135 ?_
  have hP9 := hP.sub (ws' := [(h0, .inr (0, xo_M (va_up (va_up f0 0 (.int 0)) 88 (.int 20)))), (h1, .inl (cB, 65536, .inl g_60))]) [0, 1] rfl
  have hD9 := hD.sub (ws' := [(h0, .inr (0, xo_M (va_up (va_up f0 0 (.int 0)) 88 (.int 20)))), (h1, .inl (cB, 65536, .inl g_60))]) [0, 1] (by decide) rfl
  exact xk_iret (w1 := fun u : (Nat → Int32) => [(h0, .inr (0, xo_M (va_up (va_up f0 0 (.int 0)) 88 (.int 20)))), (h1, .inl (cB, 65536, .inl u))]) (g_60) hx hb hr hlocks hK hS dn_M_feed_138 hP9 hD9 rfl (Nat.le_refl _) (Nat.le_refl _)
set_option maxHeartbeats 4000000 in
set_option maxRecDepth 100000 in
theorem ct_M_thrown_1 (l : Launch) (dC : Nat → ClassId) (dI : Nat → Nat → Nat) (cI cB cJ cZ : ClassId) (sz : Nat) (h0 : Nat) (f0 : Nat → Value) (hf0_0 : f0 0 = .int 1) : Met l yn_M_thrown (xw yn_M_thrown bn_M_thrown 1 (some .int)) ({ frames := 0, cells := 0, slots := 0, locals := 0 }) (xk_P (dC, dI) xcl (xt cI cB cJ cZ) [.ref h0] sz [(h0, .inr (0, xo_M f0))]) (xk_Qi (dC, dI) xcl (xt cI cB cJ cZ) (fun (r : Int32) (u : Unit) => r = 1) (fun u : Unit => [(h0, .inr (0, xo_M f0))]) (va_A [(h0, .inr (0, xo_M f0))] sz)) 0 0 (va_A [(h0, .inr (0, xo_M f0))] sz) := by
  refine xk_of (QA := xk_Qi (dC, dI) xcl (xt cI cB cJ cZ) (fun (r : Int32) (u : Unit) => r = 1) (fun u : Unit => [(h0, .inr (0, xo_M f0))])) (by decide) (Nat.le_of_ble_eq_true rfl) ?_
  intro p e s m below meth c hx hb hml hown hg hr hlocks hin hP hK hN A hA hD hS ls hl
  have hown : s.vm.findClass rn_M = some m.cls := hown
  have hl : lv_has ls 1 [(0, .ref h0)] := hl
  obtain ⟨H, hH⟩ : ∃ z, z = s.heap := ⟨_, rfl⟩
  rw [← hH] at hP
  have hS : va_S A s.heap H [] := by rw [hH]; exact va_S.rf
  suffices kk : W p l e ({ frames := 0, cells := 0, slots := 0, locals := 0 }) s m [.ref h0].toArray below meth c H [] 0 0 (MQ below (xk_Qi (dC, dI) xcl (xt cI cB cJ cZ) (fun (r : Int32) (u : Unit) => r = 1) (fun u : Unit => [(h0, .inr (0, xo_M f0))]) A) [.ref h0].toArray s 0 0 A) (F0 m 0 ls []) by rw [hH] at kk; exact kk
  refine lv_aload_n hx hb dn_M_thrown_0 rfl (lv_at hl 0 rfl) ?_
  refine va_get (D := (dC, dI)) (ci := 0) (v := .int 1) (C := rn_M) (T := fn_M) (N := 91) hx hb hg in_M hown hK hP 0 rfl rfl 0 (by decide) (hg _ wn_8_90) (fun _ h9 => h9) (congrArg some hf0_0) dn_M_thrown_1 ?_
  have hP9 := hP.sub (ws' := [(h0, .inr (0, xo_M f0))]) [0] rfl
  have hD9 := hD.sub (ws' := [(h0, .inr (0, xo_M f0))]) [0] (by decide) rfl
  exact xk_iret (w1 := fun u : Unit => [(h0, .inr (0, xo_M f0))]) () hx hb hr hlocks hK hS dn_M_thrown_4 hP9 hD9 rfl (Nat.le_refl _) (Nat.le_refl _)
set_option maxHeartbeats 4000000 in
set_option maxRecDepth 100000 in
theorem ct_M_thrown_2 (l : Launch) (dC : Nat → ClassId) (dI : Nat → Nat → Nat) (cI cB cJ cZ : ClassId) (sz : Nat) (h0 : Nat) (f0 : Nat → Value) (hf0_0 : f0 0 = .int 1) : Met l yn_M_thrown (xw yn_M_thrown bn_M_thrown 1 (some .int)) ({ frames := 0, cells := 0, slots := 0, locals := 0 }) (xk_P (dC, dI) xcl (xt cI cB cJ cZ) [.ref h0] sz [(h0, .inr (0, xo_M f0))]) (xk_Qi (dC, dI) xcl (xt cI cB cJ cZ) (fun (r : Int32) (u : Unit) => r = 1) (fun u : Unit => [(h0, .inr (0, xo_M f0))]) (va_A [(h0, .inr (0, xo_M f0))] sz)) 0 0 (va_A [(h0, .inr (0, xo_M f0))] sz) := by
  refine xk_of (QA := xk_Qi (dC, dI) xcl (xt cI cB cJ cZ) (fun (r : Int32) (u : Unit) => r = 1) (fun u : Unit => [(h0, .inr (0, xo_M f0))])) (by decide) (Nat.le_of_ble_eq_true rfl) ?_
  intro p e s m below meth c hx hb hml hown hg hr hlocks hin hP hK hN A hA hD hS ls hl
  have hown : s.vm.findClass rn_M = some m.cls := hown
  have hl : lv_has ls 1 [(0, .ref h0)] := hl
  obtain ⟨H, hH⟩ : ∃ z, z = s.heap := ⟨_, rfl⟩
  rw [← hH] at hP
  have hS : va_S A s.heap H [] := by rw [hH]; exact va_S.rf
  suffices kk : W p l e ({ frames := 0, cells := 0, slots := 0, locals := 0 }) s m [.ref h0].toArray below meth c H [] 0 0 (MQ below (xk_Qi (dC, dI) xcl (xt cI cB cJ cZ) (fun (r : Int32) (u : Unit) => r = 1) (fun u : Unit => [(h0, .inr (0, xo_M f0))]) A) [.ref h0].toArray s 0 0 A) (F0 m 0 ls []) by rw [hH] at kk; exact kk
  refine lv_aload_n hx hb dn_M_thrown_0 rfl (lv_at hl 0 rfl) ?_
  refine va_get (D := (dC, dI)) (ci := 0) (v := .int 1) (C := rn_M) (T := fn_M) (N := 91) hx hb hg in_M hown hK hP 0 rfl rfl 0 (by decide) (hg _ wn_8_90) (fun _ h9 => h9) (congrArg some hf0_0) dn_M_thrown_1 ?_
  have hP9 := hP.sub (ws' := [(h0, .inr (0, xo_M f0))]) [0] rfl
  have hD9 := hD.sub (ws' := [(h0, .inr (0, xo_M f0))]) [0] (by decide) rfl
  exact xk_iret (w1 := fun u : Unit => [(h0, .inr (0, xo_M f0))]) () hx hb hr hlocks hK hS dn_M_thrown_4 hP9 hD9 rfl (Nat.le_refl _) (Nat.le_refl _)
set_option maxHeartbeats 4000000 in
set_option maxRecDepth 100000 in
theorem ct_C_fault_0 (l : Launch) (dC : Nat → ClassId) (dI : Nat → Nat → Nat) (cI cB cJ cZ : ClassId) (sz : Nat) (h0 : Nat) (f0 : Nat → Value) (hf0_2 : f0 2 = .int 0) : Met l yn_C_fault (xw yn_C_fault bn_C_fault 1 (some .int)) ({ frames := 0, cells := 0, slots := 0, locals := 0 }) (xk_P (dC, dI) xcl (xt cI cB cJ cZ) [.ref h0] sz [(h0, .inr (1, xo_C f0))]) (xk_Qi (dC, dI) xcl (xt cI cB cJ cZ) (fun (r : Int32) (u : Unit) => r = 0) (fun u : Unit => [(h0, .inr (1, xo_C f0))]) (va_A [(h0, .inr (1, xo_C f0))] sz)) 0 0 (va_A [(h0, .inr (1, xo_C f0))] sz) := by
  refine xk_of (QA := xk_Qi (dC, dI) xcl (xt cI cB cJ cZ) (fun (r : Int32) (u : Unit) => r = 0) (fun u : Unit => [(h0, .inr (1, xo_C f0))])) (by decide) (Nat.le_of_ble_eq_true rfl) ?_
  intro p e s m below meth c hx hb hml hown hg hr hlocks hin hP hK hN A hA hD hS ls hl
  have hown : s.vm.findClass rn_C = some m.cls := hown
  have hl : lv_has ls 1 [(0, .ref h0)] := hl
  obtain ⟨H, hH⟩ : ∃ z, z = s.heap := ⟨_, rfl⟩
  rw [← hH] at hP
  have hS : va_S A s.heap H [] := by rw [hH]; exact va_S.rf
  suffices kk : W p l e ({ frames := 0, cells := 0, slots := 0, locals := 0 }) s m [.ref h0].toArray below meth c H [] 0 0 (MQ below (xk_Qi (dC, dI) xcl (xt cI cB cJ cZ) (fun (r : Int32) (u : Unit) => r = 0) (fun u : Unit => [(h0, .inr (1, xo_C f0))]) A) [.ref h0].toArray s 0 0 A) (F0 m 0 ls []) by rw [hH] at kk; exact kk
  refine lv_aload_n hx hb dn_C_fault_0 rfl (lv_at hl 0 rfl) ?_
  refine va_get (D := (dC, dI)) (ci := 1) (v := .int 0) (C := rn_C) (T := fn_C) (N := 11) hx hb hg in_C hown hK hP 0 rfl rfl 2 (by decide) (hg _ wn_3_147) (fun _ h9 => h9) (congrArg some hf0_2) dn_C_fault_1 ?_
  have hP9 := hP.sub (ws' := [(h0, .inr (1, xo_C f0))]) [0] rfl
  have hD9 := hD.sub (ws' := [(h0, .inr (1, xo_C f0))]) [0] (by decide) rfl
  exact xk_iret (w1 := fun u : Unit => [(h0, .inr (1, xo_C f0))]) () hx hb hr hlocks hK hS dn_C_fault_4 hP9 hD9 rfl (Nat.le_refl _) (Nat.le_refl _)
set_option maxHeartbeats 4000000 in
set_option maxRecDepth 100000 in
theorem ct_M_thrown_3 (l : Launch) (dC : Nat → ClassId) (dI : Nat → Nat → Nat) (cI cB cJ cZ : ClassId) (sz : Nat) (h0 : Nat) (f0 : Nat → Value) (hf0_0 : f0 0 = .int 1) : Met l yn_M_thrown (xw yn_M_thrown bn_M_thrown 1 (some .int)) ({ frames := 0, cells := 0, slots := 0, locals := 0 }) (xk_P (dC, dI) xcl (xt cI cB cJ cZ) [.ref h0] sz [(h0, .inr (0, xo_M f0))]) (xk_Qi (dC, dI) xcl (xt cI cB cJ cZ) (fun (r : Int32) (u : Unit) => r = 1) (fun u : Unit => [(h0, .inr (0, xo_M f0))]) (va_A [(h0, .inr (0, xo_M f0))] sz)) 0 0 (va_A [(h0, .inr (0, xo_M f0))] sz) := by
  refine xk_of (QA := xk_Qi (dC, dI) xcl (xt cI cB cJ cZ) (fun (r : Int32) (u : Unit) => r = 1) (fun u : Unit => [(h0, .inr (0, xo_M f0))])) (by decide) (Nat.le_of_ble_eq_true rfl) ?_
  intro p e s m below meth c hx hb hml hown hg hr hlocks hin hP hK hN A hA hD hS ls hl
  have hown : s.vm.findClass rn_M = some m.cls := hown
  have hl : lv_has ls 1 [(0, .ref h0)] := hl
  obtain ⟨H, hH⟩ : ∃ z, z = s.heap := ⟨_, rfl⟩
  rw [← hH] at hP
  have hS : va_S A s.heap H [] := by rw [hH]; exact va_S.rf
  suffices kk : W p l e ({ frames := 0, cells := 0, slots := 0, locals := 0 }) s m [.ref h0].toArray below meth c H [] 0 0 (MQ below (xk_Qi (dC, dI) xcl (xt cI cB cJ cZ) (fun (r : Int32) (u : Unit) => r = 1) (fun u : Unit => [(h0, .inr (0, xo_M f0))]) A) [.ref h0].toArray s 0 0 A) (F0 m 0 ls []) by rw [hH] at kk; exact kk
  refine lv_aload_n hx hb dn_M_thrown_0 rfl (lv_at hl 0 rfl) ?_
  refine va_get (D := (dC, dI)) (ci := 0) (v := .int 1) (C := rn_M) (T := fn_M) (N := 91) hx hb hg in_M hown hK hP 0 rfl rfl 0 (by decide) (hg _ wn_8_90) (fun _ h9 => h9) (congrArg some hf0_0) dn_M_thrown_1 ?_
  have hP9 := hP.sub (ws' := [(h0, .inr (0, xo_M f0))]) [0] rfl
  have hD9 := hD.sub (ws' := [(h0, .inr (0, xo_M f0))]) [0] (by decide) rfl
  exact xk_iret (w1 := fun u : Unit => [(h0, .inr (0, xo_M f0))]) () hx hb hr hlocks hK hS dn_M_thrown_4 hP9 hD9 rfl (Nat.le_refl _) (Nat.le_refl _)
