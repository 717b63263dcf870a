set_option maxHeartbeats 4000000 in
set_option maxRecDepth 100000 in
theorem ct_C_append_0 (l : Launch) (dC : Nat → ClassId) (dI : Nat → Nat → Nat) (cI cB cJ cZ cQ : ClassId) (sz : Nat) (h0 : Nat) (h1 : Nat) (h2 : Nat) (h3 : Nat) (x0 : Int32) (f0 : Nat → Value) (f1 : Nat → Value) (f2 : Nat → Value) (g0 : Nat → Int32) (hf0_0 : f0 0 = .int 0) (hf0_10 : f0 10 = .ref h1) (hf1_0 : f1 0 = .ref h2) (hf2_2 : f2 2 = .ref h3) : Met l yn_C_append (xw yn_C_append bn_C_append 4 none) ({ frames := 0, cells := 0, slots := 0, locals := 0 }) (xk_P (dC, dI) xcl (xt cI cB cJ cZ cQ) [.ref h0, .int x0] sz [(h0, .inr (1, xo_C f0)), (h1, .inr (9, xo_Circuit f1)), (h2, .inr (10, xo_Design f2)), (h3, .inl (cB, 65536, .inl g0))]) (xk_Qv (dC, dI) xcl (xt cI cB cJ cZ cQ) (fun u : (Nat → Int32) => True) (fun u : (Nat → Int32) => [(h0, .inr (1, xo_C (va_up (va_up (va_up (va_up f0 0 (.int 1)) 0 (.int 2)) 0 (.int 3)) 0 (.int 4)))), (h1, .inr (9, xo_Circuit f1)), (h2, .inr (10, xo_Design f2)), (h3, .inl (cB, 65536, .inl u))]) (va_A [(h0, .inr (1, xo_C f0)), (h1, .inr (9, xo_Circuit f1)), (h2, .inr (10, xo_Design f2)), (h3, .inl (cB, 65536, .inl g0))] sz)) 0 0 (va_A [(h0, .inr (1, xo_C f0)), (h1, .inr (9, xo_Circuit f1)), (h2, .inr (10, xo_Design f2)), (h3, .inl (cB, 65536, .inl g0))] sz) := by
  refine xk_of (QA := xk_Qv (dC, dI) xcl (xt cI cB cJ cZ cQ) (fun u : (Nat → Int32) => True) (fun u : (Nat → Int32) => [(h0, .inr (1, xo_C (va_up (va_up (va_up (va_up f0 0 (.int 1)) 0 (.int 2)) 0 (.int 3)) 0 (.int 4)))), (h1, .inr (9, xo_Circuit f1)), (h2, .inr (10, xo_Design f2)), (h3, .inl (cB, 65536, .inl u))])) (by decide) (Nat.le_of_ble_eq_true rfl) ?_
  intro p e s m below meth c hx hb hml hown hg hr hlocks hin hP hK hN A hA hD hS ls hl
  have hown : s.vm.findClass rn_C = some m.cls := hown
  have hl : lv_has ls 4 [(0, .ref h0), (1, .int x0)] := hl
  obtain ⟨H, hH⟩ : ∃ z, z = s.heap := ⟨_, rfl⟩
  rw [← hH] at hP
  have hS : va_S A s.heap H [] := by rw [hH]; exact va_S.rf
  suffices kk : W p l e ({ frames := 0, cells := 0, slots := 0, locals := 0 }) s m [.ref h0, .int x0].toArray below meth c H [] 0 0 (MQ below (xk_Qv (dC, dI) xcl (xt cI cB cJ cZ cQ) (fun u : (Nat → Int32) => True) (fun u : (Nat → Int32) => [(h0, .inr (1, xo_C (va_up (va_up (va_up (va_up f0 0 (.int 1)) 0 (.int 2)) 0 (.int 3)) 0 (.int 4)))), (h1, .inr (9, xo_Circuit f1)), (h2, .inr (10, xo_Design f2)), (h3, .inl (cB, 65536, .inl u))]) A) [.ref h0, .int x0].toArray s 0 0 A) (F0 m 0 ls []) by rw [hH] at kk; exact kk
  refine lv_aload_n hx hb dn_C_append_0 rfl (lv_at hl 0 rfl) ?_
  refine va_get (D := (dC, dI)) (ci := 1) (v := .ref h1) (C := rn_C) (T := fn_C) (N := 11) hx hb hg in_C hown hK hP 0 rfl rfl 10 (by decide) (hg _ wn_3_135) (fun _ h9 => h9) (congrArg some hf0_10) dn_C_append_1 ?_
  refine va_get (D := (dC, dI)) (ci := 9) (v := .ref h2) (C := rn_Circuit) (T := fn_Circuit) (N := 14) hx hb hg in_Circuit hown hK hP 1 rfl rfl 0 (by decide) (hg _ wn_3_62) (fun _ h9 => h9) (congrArg some hf1_0) dn_C_append_4 ?_
  refine va_get (D := (dC, dI)) (ci := 10) (v := .ref h3) (C := rn_Design) (T := fn_Design) (N := 16) hx hb hg in_Design hown hK hP 2 rfl rfl 2 (by decide) (hg _ wn_3_6) (fun _ h9 => h9) (congrArg some hf2_2) dn_C_append_7 ?_
  refine lv_astore_n (lv' := [(2, .ref h3), (0, .ref h0), (1, .int x0)]) hx hb dn_C_append_10 rfl hl (by decide) rfl (fun ls hl => ?_)
  refine lv_bipush (v := 24) hx hb dn_C_append_11 (by decide) ?_
  refine lv_istore_n (lv' := [(3, .int 24), (2, .ref h3), (0, .ref h0), (1, .int x0)]) hx hb dn_C_append_13 rfl hl (by decide) rfl (fun ls hl => ?_)
  refine lv_iload_n hx hb dn_C_append_14 rfl (lv_at hl 0 rfl) ?_
  refine lv_if_lt (tgt := 53) hx hb dn_C_append_15 (by decide) (fun h9 => absurd h9 (by decide)) (fun _ => ?_)
  refine lv_aload_n hx hb dn_C_append_18 rfl (lv_at hl 2 rfl) ?_
  refine va_get (D := (dC, dI)) (ci := 1) (v := .int 0) (C := rn_C) (T := fn_C) (N := 11) hx hb hg in_C hown hK hP 0 rfl rfl 0 (by decide) (hg _ wn_3_125) (fun _ h9 => h9) (congrArg some hf0_0) dn_C_append_19 ?_
  refine lv_aload_n hx hb dn_C_append_22 rfl (lv_at hl 1 rfl) ?_
  refine va_alen (v := 65536) hx hb hK hP 3 1 rfl rfl rfl dn_C_append_23 ?_
  refine lv_icmp_ge (tgt := 53) hx hb dn_C_append_24 (by decide) (fun h9 => absurd h9 (by decide)) (fun _ => ?_)
  refine lv_aload_n hx hb dn_C_append_27 rfl (lv_at hl 1 rfl) ?_
  refine lv_aload_n hx hb dn_C_append_28 rfl (lv_at hl 2 rfl) ?_
  refine va_get (D := (dC, dI)) (ci := 1) (v := .int 0) (C := rn_C) (T := fn_C) (N := 11) hx hb hg in_C hown hK hP 0 rfl rfl 0 (by decide) (hg _ wn_3_125) (fun _ h9 => h9) (congrArg some hf0_0) dn_C_append_29 ?_
  refine lv_iload_n hx hb dn_C_append_32 rfl (lv_at hl 3 rfl) ?_
  refine lv_iload_n hx hb dn_C_append_33 rfl (lv_at hl 0 rfl) ?_
  refine lv_iushr hx hb dn_C_append_34 rfl ?_
  refine lv_topi (fun z_1 _ => ?_)
  refine lv_i2b hx hb dn_C_append_35 rfl ?_
  refine lv_topi (fun z_2 ez_2 => ?_)
  refine va_bast hx hb hK hP hD hS 3 1 rfl rfl (show ¬ (_ ∨ _) by decide) dn_C_append_36 (fun H locs hP hD hS => ?_)
  obtain ⟨g_3, eg_3⟩ : ∃ z : Nat → Int32, z = upd g0 (0 : Int32).toNatClampNeg (vp_nar .byte z_2) := ⟨_, rfl⟩
  have hP : va_P (dC, dI) xcl [(h0, .inr (1, xo_C f0)), (h1, .inr (9, xo_Circuit f1)), (h2, .inr (10, xo_Design f2)), (h3, .inl (cB, 65536, .inl g_3))] H := by rw [eg_3]; exact hP
  have hD : va_D A [(h0, .inr (1, xo_C f0)), (h1, .inr (9, xo_Circuit f1)), (h2, .inr (10, xo_Design f2)), (h3, .inl (cB, 65536, .inl g_3))] := by rw [eg_3]; exact hD
  refine lv_aload_n hx hb dn_C_append_37 rfl (lv_at hl 2 rfl) ?_
  refine lv_dup hx hb dn_C_append_38 rfl ?_
  refine va_get (D := (dC, dI)) (ci := 1) (v := .int 0) (C := rn_C) (T := fn_C) (N := 11) hx hb hg in_C hown hK hP 0 rfl rfl 0 (by decide) (hg _ wn_3_125) (fun _ h9 => h9) (congrArg some hf0_0) dn_C_append_39 ?_
  refine lv_iconst (v := 1) hx hb dn_C_append_42 (by decide) ?_
  refine lv_iadd hx hb dn_C_append_43 ?_
  refine xk_ti (y := 1) (by decide) ?_
  refine va_put (D := (dC, dI)) (ci := 1) (v := .int 1) (ty := .int) (C := rn_C) (T := fn_C) (N := 11) hx hb hg in_C tn_C tk_C nn_C hown hK hP hD hS 0 rfl rfl 0 (by decide) (hg _ wn_3_125) (fun _ h9 => h9) rfl (tk_C 0 (by decide)) rfl rfl (Nat.le_of_ble_eq_true rfl) dn_C_append_44 (fun H locs hP hD hS => ?_)
  have hP : va_P (dC, dI) xcl [(h0, .inr (1, xo_C (va_up f0 0 (.int 1)))), (h1, .inr (9, xo_Circuit f1)), (h2, .inr (10, xo_Design f2)), (h3, .inl (cB, 65536, .inl g_3))] H := hP
  have hD : va_D A [(h0, .inr (1, xo_C (va_up f0 0 (.int 1)))), (h1, .inr (9, xo_Circuit f1)), (h2, .inr (10, xo_Design f2)), (h3, .inl (cB, 65536, .inl g_3))] := hD
  refine lv_iinc (v := 16) (lv' := [(3, .int 16), (2, .ref h3), (0, .ref h0), (1, .int x0)]) hx hb dn_C_append_47 hl (k := 0) rfl (by decide) (by decide) rfl (fun ls hl => ?_)
  refine lv_goto (tgt := 14) hx hb dn_C_append_50 (by decide) ?_
  refine lv_iload_n hx hb dn_C_append_14 rfl (lv_at hl 0 rfl) ?_
  refine lv_if_lt (tgt := 53) hx hb dn_C_append_15 (by decide) (fun h9 => absurd h9 (by decide)) (fun _ => ?_)
  refine lv_aload_n hx hb dn_C_append_18 rfl (lv_at hl 2 rfl) ?_
  refine va_get (D := (dC, dI)) (ci := 1) (v := .int 1) (C := rn_C) (T := fn_C) (N := 11) hx hb hg in_C hown hK hP 0 rfl rfl 0 (by decide) (hg _ wn_3_125) (fun _ h9 => h9) rfl dn_C_append_19 ?_
  refine lv_aload_n hx hb dn_C_append_22 rfl (lv_at hl 1 rfl) ?_
  refine va_alen (v := 65536) hx hb hK hP 3 1 rfl rfl rfl dn_C_append_23 ?_
  refine lv_icmp_ge (tgt := 53) hx hb dn_C_append_24 (by decide) (fun h9 => absurd h9 (by decide)) (fun _ => ?_)
  refine lv_aload_n hx hb dn_C_append_27 rfl (lv_at hl 1 rfl) ?_
  refine lv_aload_n hx hb dn_C_append_28 rfl (lv_at hl 2 rfl) ?_
  refine va_get (D := (dC, dI)) (ci := 1) (v := .int 1) (C := rn_C) (T := fn_C) (N := 11) hx hb hg in_C hown hK hP 0 rfl rfl 0 (by decide) (hg _ wn_3_125) (fun _ h9 => h9) rfl dn_C_append_29 ?_
  refine lv_iload_n hx hb dn_C_append_32 rfl (lv_at hl 3 rfl) ?_
  refine lv_iload_n hx hb dn_C_append_33 rfl (lv_at hl 0 rfl) ?_
  refine lv_iushr hx hb dn_C_append_34 rfl ?_
  refine lv_topi (fun z_4 _ => ?_)
  refine lv_i2b hx hb dn_C_append_35 rfl ?_
  refine lv_topi (fun z_5 ez_5 => ?_)
  refine va_bast hx hb hK hP hD hS 3 1 rfl rfl (show ¬ (_ ∨ _) by decide) dn_C_append_36 (fun H locs hP hD hS => ?_)
  obtain ⟨g_6, eg_6⟩ : ∃ z : Nat → Int32, z = upd g_3 (1 : Int32).toNatClampNeg (vp_nar .byte z_5) := ⟨_, rfl⟩
  have hP : va_P (dC, dI) xcl [(h0, .inr (1, xo_C (va_up f0 0 (.int 1)))), (h1, .inr (9, xo_Circuit f1)), (h2, .inr (10, xo_Design f2)), (h3, .inl (cB, 65536, .inl g_6))] H := by rw [eg_6]; exact hP
  have hD : va_D A [(h0, .inr (1, xo_C (va_up f0 0 (.int 1)))), (h1, .inr (9, xo_Circuit f1)), (h2, .inr (10, xo_Design f2)), (h3, .inl (cB, 65536, .inl g_6))] := by rw [eg_6]; exact hD
  refine lv_aload_n hx hb dn_C_append_37 rfl (lv_at hl 2 rfl) ?_
  refine lv_dup hx hb dn_C_append_38 rfl ?_
  refine va_get (D := (dC, dI)) (ci := 1) (v := .int 1) (C := rn_C) (T := fn_C) (N := 11) hx hb hg in_C hown hK hP 0 rfl rfl 0 (by decide) (hg _ wn_3_125) (fun _ h9 => h9) rfl dn_C_append_39 ?_
  refine lv_iconst (v := 1) hx hb dn_C_append_42 (by decide) ?_
  refine lv_iadd hx hb dn_C_append_43 ?_
  refine xk_ti (y := 2) (by decide) ?_
  refine va_put (D := (dC, dI)) (ci := 1) (v := .int 2) (ty := .int) (C := rn_C) (T := fn_C) (N := 11) hx hb hg in_C tn_C tk_C nn_C hown hK hP hD hS 0 rfl rfl 0 (by decide) (hg _ wn_3_125) (fun _ h9 => h9) rfl (tk_C 0 (by decide)) rfl rfl (Nat.le_of_ble_eq_true rfl) dn_C_append_44 (fun H locs hP hD hS => ?_)
  have hP : va_P (dC, dI) xcl [(h0, .inr (1, xo_C (va_up (va_up f0 0 (.int 1)) 0 (.int 2)))), (h1, .inr (9, xo_Circuit f1)), (h2, .inr (10, xo_Design f2)), (h3, .inl (cB, 65536, .inl g_6))] H := hP
  have hD : va_D A [(h0, .inr (1, xo_C (va_up (va_up f0 0 (.int 1)) 0 (.int 2)))), (h1, .inr (9, xo_Circuit f1)), (h2, .inr (10, xo_Design f2)), (h3, .inl (cB, 65536, .inl g_6))] := hD
  refine lv_iinc (v := 8) (lv' := [(3, .int 8), (2, .ref h3), (0, .ref h0), (1, .int x0)]) hx hb dn_C_append_47 hl (k := 0) rfl (by decide) (by decide) rfl (fun ls hl => ?_)
  refine lv_goto (tgt := 14) hx hb dn_C_append_50 (by decide) ?_
  refine lv_iload_n hx hb dn_C_append_14 rfl (lv_at hl 0 rfl) ?_
  refine lv_if_lt (tgt := 53) hx hb dn_C_append_15 (by decide) (fun h9 => absurd h9 (by decide)) (fun _ => ?_)
  refine lv_aload_n hx hb dn_C_append_18 rfl (lv_at hl 2 rfl) ?_
  refine va_get (D := (dC, dI)) (ci := 1) (v := .int 2) (C := rn_C) (T := fn_C) (N := 11) hx hb hg in_C hown hK hP 0 rfl rfl 0 (by decide) (hg _ wn_3_125) (fun _ h9 => h9) rfl dn_C_append_19 ?_
  refine lv_aload_n hx hb dn_C_append_22 rfl (lv_at hl 1 rfl) ?_
  refine va_alen (v := 65536) hx hb hK hP 3 1 rfl rfl rfl dn_C_append_23 ?_
  refine lv_icmp_ge (tgt := 53) hx hb dn_C_append_24 (by decide) (fun h9 => absurd h9 (by decide)) (fun _ => ?_)
  refine lv_aload_n hx hb dn_C_append_27 rfl (lv_at hl 1 rfl) ?_
  refine lv_aload_n hx hb dn_C_append_28 rfl (lv_at hl 2 rfl) ?_
  refine va_get (D := (dC, dI)) (ci := 1) (v := .int 2) (C := rn_C) (T := fn_C) (N := 11) hx hb hg in_C hown hK hP 0 rfl rfl 0 (by decide) (hg _ wn_3_125) (fun _ h9 => h9) rfl dn_C_append_29 ?_
  refine lv_iload_n hx hb dn_C_append_32 rfl (lv_at hl 3 rfl) ?_
  refine lv_iload_n hx hb dn_C_append_33 rfl (lv_at hl 0 rfl) ?_
  refine lv_iushr hx hb dn_C_append_34 rfl ?_
  refine lv_topi (fun z_7 _ => ?_)
  refine lv_i2b hx hb dn_C_append_35 rfl ?_
  refine lv_topi (fun z_8 ez_8 => ?_)
  refine va_bast hx hb hK hP hD hS 3 1 rfl rfl (show ¬ (_ ∨ _) by decide) dn_C_append_36 (fun H locs hP hD hS => ?_)
  obtain ⟨g_9, eg_9⟩ : ∃ z : Nat → Int32, z = upd g_6 (2 : Int32).toNatClampNeg (vp_nar .byte z_8) := ⟨_, rfl⟩
  have hP : va_P (dC, dI) xcl [(h0, .inr (1, xo_C (va_up (va_up f0 0 (.int 1)) 0 (.int 2)))), (h1, .inr (9, xo_Circuit f1)), (h2, .inr (10, xo_Design f2)), (h3, .inl (cB, 65536, .inl g_9))] H := by rw [eg_9]; exact hP
  have hD : va_D A [(h0, .inr (1, xo_C (va_up (va_up f0 0 (.int 1)) 0 (.int 2)))), (h1, .inr (9, xo_Circuit f1)), (h2, .inr (10, xo_Design f2)), (h3, .inl (cB, 65536, .inl g_9))] := by rw [eg_9]; exact hD
  refine lv_aload_n hx hb dn_C_append_37 rfl (lv_at hl 2 rfl) ?_
  refine lv_dup hx hb dn_C_append_38 rfl ?_
  refine va_get (D := (dC, dI)) (ci := 1) (v := .int 2) (C := rn_C) (T := fn_C) (N := 11) hx hb hg in_C hown hK hP 0 rfl rfl 0 (by decide) (hg _ wn_3_125) (fun _ h9 => h9) rfl dn_C_append_39 ?_
  refine lv_iconst (v := 1) hx hb dn_C_append_42 (by decide) ?_
  refine lv_iadd hx hb dn_C_append_43 ?_
  refine xk_ti (y := 3) (by decide) ?_
  refine va_put (D := (dC, dI)) (ci := 1) (v := .int 3) (ty := .int) (C := rn_C) (T := fn_C) (N := 11) hx hb hg in_C tn_C tk_C nn_C hown hK hP hD hS 0 rfl rfl 0 (by decide) (hg _ wn_3_125) (fun _ h9 => h9) rfl (tk_C 0 (by decide)) rfl rfl (Nat.le_of_ble_eq_true rfl) dn_C_append_44 (fun H locs hP hD hS => ?_)
  have hP : va_P (dC, dI) xcl [(h0, .inr (1, xo_C (va_up (va_up (va_up f0 0 (.int 1)) 0 (.int 2)) 0 (.int 3)))), (h1, .inr (9, xo_Circuit f1)), (h2, .inr (10, xo_Design f2)), (h3, .inl (cB, 65536, .inl g_9))] H := hP
  have hD : va_D A [(h0, .inr (1, xo_C (va_up (va_up (va_up f0 0 (.int 1)) 0 (.int 2)) 0 (.int 3)))), (h1, .inr (9, xo_Circuit f1)), (h2, .inr (10, xo_Design f2)), (h3, .inl (cB, 65536, .inl g_9))] := hD
  refine lv_iinc (v := 0) (lv' := [(3, .int 0), (2, .ref h3), (0, .ref h0), (1, .int x0)]) hx hb dn_C_append_47 hl (k := 0) rfl (by decide) (by decide) rfl (fun ls hl => ?_)
  refine lv_goto (tgt := 14) hx hb dn_C_append_50 (by decide) ?_
  refine lv_iload_n hx hb dn_C_append_14 rfl (lv_at hl 0 rfl) ?_
  refine lv_if_lt (tgt := 53) hx hb dn_C_append_15 (by decide) (fun h9 => absurd h9 (by decide)) (fun _ => ?_)
  refine lv_aload_n hx hb dn_C_append_18 rfl (lv_at hl 2 rfl) ?_
  refine va_get (D := (dC, dI)) (ci := 1) (v := .int 3) (C := rn_C) (T := fn_C) (N := 11) hx hb hg in_C hown hK hP 0 rfl rfl 0 (by decide) (hg _ wn_3_125) (fun _ h9 => h9) rfl dn_C_append_19 ?_
  refine lv_aload_n hx hb dn_C_append_22 rfl (lv_at hl 1 rfl) ?_
  refine va_alen (v := 65536) hx hb hK hP 3 1 rfl rfl rfl dn_C_append_23 ?_
  refine lv_icmp_ge (tgt := 53) hx hb dn_C_append_24 (by decide) (fun h9 => absurd h9 (by decide)) (fun _ => ?_)
  refine lv_aload_n hx hb dn_C_append_27 rfl (lv_at hl 1 rfl) ?_
  refine lv_aload_n hx hb dn_C_append_28 rfl (lv_at hl 2 rfl) ?_
  refine va_get (D := (dC, dI)) (ci := 1) (v := .int 3) (C := rn_C) (T := fn_C) (N := 11) hx hb hg in_C hown hK hP 0 rfl rfl 0 (by decide) (hg _ wn_3_125) (fun _ h9 => h9) rfl dn_C_append_29 ?_
  refine lv_iload_n hx hb dn_C_append_32 rfl (lv_at hl 3 rfl) ?_
  refine lv_iload_n hx hb dn_C_append_33 rfl (lv_at hl 0 rfl) ?_
  refine lv_iushr hx hb dn_C_append_34 rfl ?_
  refine lv_topi (fun z_10 _ => ?_)
  refine lv_i2b hx hb dn_C_append_35 rfl ?_
  refine lv_topi (fun z_11 ez_11 => ?_)
  refine va_bast hx hb hK hP hD hS 3 1 rfl rfl (show ¬ (_ ∨ _) by decide) dn_C_append_36 (fun H locs hP hD hS => ?_)
  obtain ⟨g_12, eg_12⟩ : ∃ z : Nat → Int32, z = upd g_9 (3 : Int32).toNatClampNeg (vp_nar .byte z_11) := ⟨_, rfl⟩
  have hP : va_P (dC, dI) xcl [(h0, .inr (1, xo_C (va_up (va_up (va_up f0 0 (.int 1)) 0 (.int 2)) 0 (.int 3)))), (h1, .inr (9, xo_Circuit f1)), (h2, .inr (10, xo_Design f2)), (h3, .inl (cB, 65536, .inl g_12))] H := by rw [eg_12]; exact hP
  have hD : va_D A [(h0, .inr (1, xo_C (va_up (va_up (va_up f0 0 (.int 1)) 0 (.int 2)) 0 (.int 3)))), (h1, .inr (9, xo_Circuit f1)), (h2, .inr (10, xo_Design f2)), (h3, .inl (cB, 65536, .inl g_12))] := by rw [eg_12]; exact hD
  refine lv_aload_n hx hb dn_C_append_37 rfl (lv_at hl 2 rfl) ?_
  refine lv_dup hx hb dn_C_append_38 rfl ?_
  refine va_get (D := (dC, dI)) (ci := 1) (v := .int 3) (C := rn_C) (T := fn_C) (N := 11) hx hb hg in_C hown hK hP 0 rfl rfl 0 (by decide) (hg _ wn_3_125) (fun _ h9 => h9) rfl dn_C_append_39 ?_
  refine lv_iconst (v := 1) hx hb dn_C_append_42 (by decide) ?_
  refine lv_iadd hx hb dn_C_append_43 ?_
  refine xk_ti (y := 4) (by decide) ?_
  refine va_put (D := (dC, dI)) (ci := 1) (v := .int 4) (ty := .int) (C := rn_C) (T := fn_C) (N := 11) hx hb hg in_C tn_C tk_C nn_C hown hK hP hD hS 0 rfl rfl 0 (by decide) (hg _ wn_3_125) (fun _ h9 => h9) rfl (tk_C 0 (by decide)) rfl rfl (Nat.le_of_ble_eq_true rfl) dn_C_append_44 (fun H locs hP hD hS => ?_)
  have hP : va_P (dC, dI) xcl [(h0, .inr (1, xo_C (va_up (va_up (va_up (va_up f0 0 (.int 1)) 0 (.int 2)) 0 (.int 3)) 0 (.int 4)))), (h1, .inr (9, xo_Circuit f1)), (h2, .inr (10, xo_Design f2)), (h3, .inl (cB, 65536, .inl g_12))] H := hP
  have hD : va_D A [(h0, .inr (1, xo_C (va_up (va_up (va_up (va_up f0 0 (.int 1)) 0 (.int 2)) 0 (.int 3)) 0 (.int 4)))), (h1, .inr (9, xo_Circuit f1)), (h2, .inr (10, xo_Design f2)), (h3, .inl (cB, 65536, .inl g_12))] := hD
  refine lv_iinc (v := (-8)) (lv' := [(3, .int (-8)), (2, .ref h3), (0, .ref h0), (1, .int x0)]) hx hb dn_C_append_47 hl (k := 0) rfl (by decide) (by decide) rfl (fun ls hl => ?_)
  refine lv_goto (tgt := 14) hx hb dn_C_append_50 (by decide) ?_
  refine lv_iload_n hx hb dn_C_append_14 rfl (lv_at hl 0 rfl) ?_
  refine lv_if_lt (tgt := 53) hx hb dn_C_append_15 (by decide) (fun _ => ?_) (fun h9 => absurd h9 (by decide))
  have hP9 := hP.sub (ws' := [(h0, .inr (1, xo_C (va_up (va_up (va_up (va_up f0 0 (.int 1)) 0 (.int 2)) 0 (.int 3)) 0 (.int 4)))), (h1, .inr (9, xo_Circuit f1)), (h2, .inr (10, xo_Design f2)), (h3, .inl (cB, 65536, .inl g_12))]) [0, 1, 2, 3] rfl
  have hD9 := hD.sub (ws' := [(h0, .inr (1, xo_C (va_up (va_up (va_up (va_up f0 0 (.int 1)) 0 (.int 2)) 0 (.int 3)) 0 (.int 4)))), (h1, .inr (9, xo_Circuit f1)), (h2, .inr (10, xo_Design f2)), (h3, .inl (cB, 65536, .inl g_12))]) [0, 1, 2, 3] (by decide) rfl
  exact xk_vret (w1 := fun u : (Nat → Int32) => [(h0, .inr (1, xo_C (va_up (va_up (va_up (va_up f0 0 (.int 1)) 0 (.int 2)) 0 (.int 3)) 0 (.int 4)))), (h1, .inr (9, xo_Circuit f1)), (h2, .inr (10, xo_Design f2)), (h3, .inl (cB, 65536, .inl u))]) (g_12) hx hb hr hlocks hK hS dn_C_append_53 hP9 hD9 trivial (Nat.le_refl _) (Nat.le_refl _)
set_option maxHeartbeats 4000000 in
set_option maxRecDepth 100000 in
theorem ct_C_append_1 (l : Launch) (dC : Nat → ClassId) (dI : Nat → Nat → Nat) (cI cB cJ cZ cQ : ClassId) (sz : Nat) (h0 : Nat) (h1 : Nat) (h2 : Nat) (h3 : Nat) (x0 : Int32) (f0 : Nat → Value) (f1 : Nat → Value) (f2 : Nat → Value) (g0 : Nat → Int32) (hf0_0 : f0 0 = .int 4) (hf0_10 : f0 10 = .ref h1) (hf1_0 : f1 0 = .ref h2) (hf2_2 : f2 2 = .ref h3) : Met l yn_C_append (xw yn_C_append bn_C_append 4 none) ({ frames := 0, cells := 0, slots := 0, locals := 0 }) (xk_P (dC, dI) xcl (xt cI cB cJ cZ cQ) [.ref h0, .int x0] sz [(h0, .inr (1, xo_C f0)), (h1, .inr (9, xo_Circuit f1)), (h2, .inr (10, xo_Design f2)), (h3, .inl (cB, 65536, .inl g0))]) (xk_Qv (dC, dI) xcl (xt cI cB cJ cZ cQ) (fun u : (Nat → Int32) => True) (fun u : (Nat → Int32) => [(h0, .inr (1, xo_C (va_up (va_up (va_up (va_up f0 0 (.int 5)) 0 (.int 6)) 0 (.int 7)) 0 (.int 8)))), (h1, .inr (9, xo_Circuit f1)), (h2, .inr (10, xo_Design f2)), (h3, .inl (cB, 65536, .inl u))]) (va_A [(h0, .inr (1, xo_C f0)), (h1, .inr (9, xo_Circuit f1)), (h2, .inr (10, xo_Design f2)), (h3, .inl (cB, 65536, .inl g0))] sz)) 0 0 (va_A [(h0, .inr (1, xo_C f0)), (h1, .inr (9, xo_Circuit f1)), (h2, .inr (10, xo_Design f2)), (h3, .inl (cB, 65536, .inl g0))] sz) := by
  refine xk_of (QA := xk_Qv (dC, dI) xcl (xt cI cB cJ cZ cQ) (fun u : (Nat → Int32) => True) (fun u : (Nat → Int32) => [(h0, .inr (1, xo_C (va_up (va_up (va_up (va_up f0 0 (.int 5)) 0 (.int 6)) 0 (.int 7)) 0 (.int 8)))), (h1, .inr (9, xo_Circuit f1)), (h2, .inr (10, xo_Design f2)), (h3, .inl (cB, 65536, .inl u))])) (by decide) (Nat.le_of_ble_eq_true rfl) ?_
  intro p e s m below meth c hx hb hml hown hg hr hlocks hin hP hK hN A hA hD hS ls hl
  have hown : s.vm.findClass rn_C = some m.cls := hown
  have hl : lv_has ls 4 [(0, .ref h0), (1, .int x0)] := hl
  obtain ⟨H, hH⟩ : ∃ z, z = s.heap := ⟨_, rfl⟩
  rw [← hH] at hP
  have hS : va_S A s.heap H [] := by rw [hH]; exact va_S.rf
  suffices kk : W p l e ({ frames := 0, cells := 0, slots := 0, locals := 0 }) s m [.ref h0, .int x0].toArray below meth c H [] 0 0 (MQ below (xk_Qv (dC, dI) xcl (xt cI cB cJ cZ cQ) (fun u : (Nat → Int32) => True) (fun u : (Nat → Int32) => [(h0, .inr (1, xo_C (va_up (va_up (va_up (va_up f0 0 (.int 5)) 0 (.int 6)) 0 (.int 7)) 0 (.int 8)))), (h1, .inr (9, xo_Circuit f1)), (h2, .inr (10, xo_Design f2)), (h3, .inl (cB, 65536, .inl u))]) A) [.ref h0, .int x0].toArray s 0 0 A) (F0 m 0 ls []) by rw [hH] at kk; exact kk
  refine lv_aload_n hx hb dn_C_append_0 rfl (lv_at hl 0 rfl) ?_
  refine va_get (D := (dC, dI)) (ci := 1) (v := .ref h1) (C := rn_C) (T := fn_C) (N := 11) hx hb hg in_C hown hK hP 0 rfl rfl 10 (by decide) (hg _ wn_3_135) (fun _ h9 => h9) (congrArg some hf0_10) dn_C_append_1 ?_
  refine va_get (D := (dC, dI)) (ci := 9) (v := .ref h2) (C := rn_Circuit) (T := fn_Circuit) (N := 14) hx hb hg in_Circuit hown hK hP 1 rfl rfl 0 (by decide) (hg _ wn_3_62) (fun _ h9 => h9) (congrArg some hf1_0) dn_C_append_4 ?_
  refine va_get (D := (dC, dI)) (ci := 10) (v := .ref h3) (C := rn_Design) (T := fn_Design) (N := 16) hx hb hg in_Design hown hK hP 2 rfl rfl 2 (by decide) (hg _ wn_3_6) (fun _ h9 => h9) (congrArg some hf2_2) dn_C_append_7 ?_
  refine lv_astore_n (lv' := [(2, .ref h3), (0, .ref h0), (1, .int x0)]) hx hb dn_C_append_10 rfl hl (by decide) rfl (fun ls hl => ?_)
  refine lv_bipush (v := 24) hx hb dn_C_append_11 (by decide) ?_
  refine lv_istore_n (lv' := [(3, .int 24), (2, .ref h3), (0, .ref h0), (1, .int x0)]) hx hb dn_C_append_13 rfl hl (by decide) rfl (fun ls hl => ?_)
  refine lv_iload_n hx hb dn_C_append_14 rfl (lv_at hl 0 rfl) ?_
  refine lv_if_lt (tgt := 53) hx hb dn_C_append_15 (by decide) (fun h9 => absurd h9 (by decide)) (fun _ => ?_)
  refine lv_aload_n hx hb dn_C_append_18 rfl (lv_at hl 2 rfl) ?_
  refine va_get (D := (dC, dI)) (ci := 1) (v := .int 4) (C := rn_C) (T := fn_C) (N := 11) hx hb hg in_C hown hK hP 0 rfl rfl 0 (by decide) (hg _ wn_3_125) (fun _ h9 => h9) (congrArg some hf0_0) dn_C_append_19 ?_
  refine lv_aload_n hx hb dn_C_append_22 rfl (lv_at hl 1 rfl) ?_
  refine va_alen (v := 65536) hx hb hK hP 3 1 rfl rfl rfl dn_C_append_23 ?_
  refine lv_icmp_ge (tgt := 53) hx hb dn_C_append_24 (by decide) (fun h9 => absurd h9 (by decide)) (fun _ => ?_)
  refine lv_aload_n hx hb dn_C_append_27 rfl (lv_at hl 1 rfl) ?_
  refine lv_aload_n hx hb dn_C_append_28 rfl (lv_at hl 2 rfl) ?_
  refine va_get (D := (dC, dI)) (ci := 1) (v := .int 4) (C := rn_C) (T := fn_C) (N := 11) hx hb hg in_C hown hK hP 0 rfl rfl 0 (by decide) (hg _ wn_3_125) (fun _ h9 => h9) (congrArg some hf0_0) dn_C_append_29 ?_
  refine lv_iload_n hx hb dn_C_append_32 rfl (lv_at hl 3 rfl) ?_
  refine lv_iload_n hx hb dn_C_append_33 rfl (lv_at hl 0 rfl) ?_
  refine lv_iushr hx hb dn_C_append_34 rfl ?_
  refine lv_topi (fun z_1 _ => ?_)
  refine lv_i2b hx hb dn_C_append_35 rfl ?_
  refine lv_topi (fun z_2 ez_2 => ?_)
  refine va_bast hx hb hK hP hD hS 3 1 rfl rfl (show ¬ (_ ∨ _) by decide) dn_C_append_36 (fun H locs hP hD hS => ?_)
  obtain ⟨g_3, eg_3⟩ : ∃ z : Nat → Int32, z = upd g0 (4 : Int32).toNatClampNeg (vp_nar .byte z_2) := ⟨_, rfl⟩
  have hP : va_P (dC, dI) xcl [(h0, .inr (1, xo_C f0)), (h1, .inr (9, xo_Circuit f1)), (h2, .inr (10, xo_Design f2)), (h3, .inl (cB, 65536, .inl g_3))] H := by rw [eg_3]; exact hP
  have hD : va_D A [(h0, .inr (1, xo_C f0)), (h1, .inr (9, xo_Circuit f1)), (h2, .inr (10, xo_Design f2)), (h3, .inl (cB, 65536, .inl g_3))] := by rw [eg_3]; exact hD
  refine lv_aload_n hx hb dn_C_append_37 rfl (lv_at hl 2 rfl) ?_
  refine lv_dup hx hb dn_C_append_38 rfl ?_
  refine va_get (D := (dC, dI)) (ci := 1) (v := .int 4) (C := rn_C) (T := fn_C) (N := 11) hx hb hg in_C hown hK hP 0 rfl rfl 0 (by decide) (hg _ wn_3_125) (fun _ h9 => h9) (congrArg some hf0_0) dn_C_append_39 ?_
  refine lv_iconst (v := 1) hx hb dn_C_append_42 (by decide) ?_
  refine lv_iadd hx hb dn_C_append_43 ?_
  refine xk_ti (y := 5) (by decide) ?_
  refine va_put (D := (dC, dI)) (ci := 1) (v := .int 5) (ty := .int) (C := rn_C) (T := fn_C) (N := 11) hx hb hg in_C tn_C tk_C nn_C hown hK hP hD hS 0 rfl rfl 0 (by decide) (hg _ wn_3_125) (fun _ h9 => h9) rfl (tk_C 0 (by decide)) rfl rfl (Nat.le_of_ble_eq_true rfl) dn_C_append_44 (fun H locs hP hD hS => ?_)
  have hP : va_P (dC, dI) xcl [(h0, .inr (1, xo_C (va_up f0 0 (.int 5)))), (h1, .inr (9, xo_Circuit f1)), (h2, .inr (10, xo_Design f2)), (h3, .inl (cB, 65536, .inl g_3))] H := hP
  have hD : va_D A [(h0, .inr (1, xo_C (va_up f0 0 (.int 5)))), (h1, .inr (9, xo_Circuit f1)), (h2, .inr (10, xo_Design f2)), (h3, .inl (cB, 65536, .inl g_3))] := hD
  refine lv_iinc (v := 16) (lv' := [(3, .int 16), (2, .ref h3), (0, .ref h0), (1, .int x0)]) hx hb dn_C_append_47 hl (k := 0) rfl (by decide) (by decide) rfl (fun ls hl => ?_)
  refine lv_goto (tgt := 14) hx hb dn_C_append_50 (by decide) ?_
  refine lv_iload_n hx hb dn_C_append_14 rfl (lv_at hl 0 rfl) ?_
  refine lv_if_lt (tgt := 53) hx hb dn_C_append_15 (by decide) (fun h9 => absurd h9 (by decide)) (fun _ => ?_)
  refine lv_aload_n hx hb dn_C_append_18 rfl (lv_at hl 2 rfl) ?_
  refine va_get (D := (dC, dI)) (ci := 1) (v := .int 5) (C := rn_C) (T := fn_C) (N := 11) hx hb hg in_C hown hK hP 0 rfl rfl 0 (by decide) (hg _ wn_3_125) (fun _ h9 => h9) rfl dn_C_append_19 ?_
  refine lv_aload_n hx hb dn_C_append_22 rfl (lv_at hl 1 rfl) ?_
  refine va_alen (v := 65536) hx hb hK hP 3 1 rfl rfl rfl dn_C_append_23 ?_
  refine lv_icmp_ge (tgt := 53) hx hb dn_C_append_24 (by decide) (fun h9 => absurd h9 (by decide)) (fun _ => ?_)
  refine lv_aload_n hx hb dn_C_append_27 rfl (lv_at hl 1 rfl) ?_
  refine lv_aload_n hx hb dn_C_append_28 rfl (lv_at hl 2 rfl) ?_
  refine va_get (D := (dC, dI)) (ci := 1) (v := .int 5) (C := rn_C) (T := fn_C) (N := 11) hx hb hg in_C hown hK hP 0 rfl rfl 0 (by decide) (hg _ wn_3_125) (fun _ h9 => h9) rfl dn_C_append_29 ?_
  refine lv_iload_n hx hb dn_C_append_32 rfl (lv_at hl 3 rfl) ?_
  refine lv_iload_n hx hb dn_C_append_33 rfl (lv_at hl 0 rfl) ?_
  refine lv_iushr hx hb dn_C_append_34 rfl ?_
  refine lv_topi (fun z_4 _ => ?_)
  refine lv_i2b hx hb dn_C_append_35 rfl ?_
  refine lv_topi (fun z_5 ez_5 => ?_)
  refine va_bast hx hb hK hP hD hS 3 1 rfl rfl (show ¬ (_ ∨ _) by decide) dn_C_append_36 (fun H locs hP hD hS => ?_)
  obtain ⟨g_6, eg_6⟩ : ∃ z : Nat → Int32, z = upd g_3 (5 : Int32).toNatClampNeg (vp_nar .byte z_5) := ⟨_, rfl⟩
  have hP : va_P (dC, dI) xcl [(h0, .inr (1, xo_C (va_up f0 0 (.int 5)))), (h1, .inr (9, xo_Circuit f1)), (h2, .inr (10, xo_Design f2)), (h3, .inl (cB, 65536, .inl g_6))] H := by rw [eg_6]; exact hP
  have hD : va_D A [(h0, .inr (1, xo_C (va_up f0 0 (.int 5)))), (h1, .inr (9, xo_Circuit f1)), (h2, .inr (10, xo_Design f2)), (h3, .inl (cB, 65536, .inl g_6))] := by rw [eg_6]; exact hD
  refine lv_aload_n hx hb dn_C_append_37 rfl (lv_at hl 2 rfl) ?_
  refine lv_dup hx hb dn_C_append_38 rfl ?_
  refine va_get (D := (dC, dI)) (ci := 1) (v := .int 5) (C := rn_C) (T := fn_C) (N := 11) hx hb hg in_C hown hK hP 0 rfl rfl 0 (by decide) (hg _ wn_3_125) (fun _ h9 => h9) rfl dn_C_append_39 ?_
  refine lv_iconst (v := 1) hx hb dn_C_append_42 (by decide) ?_
  refine lv_iadd hx hb dn_C_append_43 ?_
  refine xk_ti (y := 6) (by decide) ?_
  refine va_put (D := (dC, dI)) (ci := 1) (v := .int 6) (ty := .int) (C := rn_C) (T := fn_C) (N := 11) hx hb hg in_C tn_C tk_C nn_C hown hK hP hD hS 0 rfl rfl 0 (by decide) (hg _ wn_3_125) (fun _ h9 => h9) rfl (tk_C 0 (by decide)) rfl rfl (Nat.le_of_ble_eq_true rfl) dn_C_append_44 (fun H locs hP hD hS => ?_)
  have hP : va_P (dC, dI) xcl [(h0, .inr (1, xo_C (va_up (va_up f0 0 (.int 5)) 0 (.int 6)))), (h1, .inr (9, xo_Circuit f1)), (h2, .inr (10, xo_Design f2)), (h3, .inl (cB, 65536, .inl g_6))] H := hP
  have hD : va_D A [(h0, .inr (1, xo_C (va_up (va_up f0 0 (.int 5)) 0 (.int 6)))), (h1, .inr (9, xo_Circuit f1)), (h2, .inr (10, xo_Design f2)), (h3, .inl (cB, 65536, .inl g_6))] := hD
  refine lv_iinc (v := 8) (lv' := [(3, .int 8), (2, .ref h3), (0, .ref h0), (1, .int x0)]) hx hb dn_C_append_47 hl (k := 0) rfl (by decide) (by decide) rfl (fun ls hl => ?_)
  refine lv_goto (tgt := 14) hx hb dn_C_append_50 (by decide) ?_
  refine lv_iload_n hx hb dn_C_append_14 rfl (lv_at hl 0 rfl) ?_
  refine lv_if_lt (tgt := 53) hx hb dn_C_append_15 (by decide) (fun h9 => absurd h9 (by decide)) (fun _ => ?_)
  refine lv_aload_n hx hb dn_C_append_18 rfl (lv_at hl 2 rfl) ?_
  refine va_get (D := (dC, dI)) (ci := 1) (v := .int 6) (C := rn_C) (T := fn_C) (N := 11) hx hb hg in_C hown hK hP 0 rfl rfl 0 (by decide) (hg _ wn_3_125) (fun _ h9 => h9) rfl dn_C_append_19 ?_
  refine lv_aload_n hx hb dn_C_append_22 rfl (lv_at hl 1 rfl) ?_
  refine va_alen (v := 65536) hx hb hK hP 3 1 rfl rfl rfl dn_C_append_23 ?_
  refine lv_icmp_ge (tgt := 53) hx hb dn_C_append_24 (by decide) (fun h9 => absurd h9 (by decide)) (fun _ => ?_)
  refine lv_aload_n hx hb dn_C_append_27 rfl (lv_at hl 1 rfl) ?_
  refine lv_aload_n hx hb dn_C_append_28 rfl (lv_at hl 2 rfl) ?_
  refine va_get (D := (dC, dI)) (ci := 1) (v := .int 6) (C := rn_C) (T := fn_C) (N := 11) hx hb hg in_C hown hK hP 0 rfl rfl 0 (by decide) (hg _ wn_3_125) (fun _ h9 => h9) rfl dn_C_append_29 ?_
  refine lv_iload_n hx hb dn_C_append_32 rfl (lv_at hl 3 rfl) ?_
  refine lv_iload_n hx hb dn_C_append_33 rfl (lv_at hl 0 rfl) ?_
  refine lv_iushr hx hb dn_C_append_34 rfl ?_
  refine lv_topi (fun z_7 _ => ?_)
  refine lv_i2b hx hb dn_C_append_35 rfl ?_
  refine lv_topi (fun z_8 ez_8 => ?_)
  refine va_bast hx hb hK hP hD hS 3 1 rfl rfl (show ¬ (_ ∨ _) by decide) dn_C_append_36 (fun H locs hP hD hS => ?_)
  obtain ⟨g_9, eg_9⟩ : ∃ z : Nat → Int32, z = upd g_6 (6 : Int32).toNatClampNeg (vp_nar .byte z_8) := ⟨_, rfl⟩
  have hP : va_P (dC, dI) xcl [(h0, .inr (1, xo_C (va_up (va_up f0 0 (.int 5)) 0 (.int 6)))), (h1, .inr (9, xo_Circuit f1)), (h2, .inr (10, xo_Design f2)), (h3, .inl (cB, 65536, .inl g_9))] H := by rw [eg_9]; exact hP
  have hD : va_D A [(h0, .inr (1, xo_C (va_up (va_up f0 0 (.int 5)) 0 (.int 6)))), (h1, .inr (9, xo_Circuit f1)), (h2, .inr (10, xo_Design f2)), (h3, .inl (cB, 65536, .inl g_9))] := by rw [eg_9]; exact hD
  refine lv_aload_n hx hb dn_C_append_37 rfl (lv_at hl 2 rfl) ?_
  refine lv_dup hx hb dn_C_append_38 rfl ?_
  refine va_get (D := (dC, dI)) (ci := 1) (v := .int 6) (C := rn_C) (T := fn_C) (N := 11) hx hb hg in_C hown hK hP 0 rfl rfl 0 (by decide) (hg _ wn_3_125) (fun _ h9 => h9) rfl dn_C_append_39 ?_
  refine lv_iconst (v := 1) hx hb dn_C_append_42 (by decide) ?_
  refine lv_iadd hx hb dn_C_append_43 ?_
  refine xk_ti (y := 7) (by decide) ?_
  refine va_put (D := (dC, dI)) (ci := 1) (v := .int 7) (ty := .int) (C := rn_C) (T := fn_C) (N := 11) hx hb hg in_C tn_C tk_C nn_C hown hK hP hD hS 0 rfl rfl 0 (by decide) (hg _ wn_3_125) (fun _ h9 => h9) rfl (tk_C 0 (by decide)) rfl rfl (Nat.le_of_ble_eq_true rfl) dn_C_append_44 (fun H locs hP hD hS => ?_)
  have hP : va_P (dC, dI) xcl [(h0, .inr (1, xo_C (va_up (va_up (va_up f0 0 (.int 5)) 0 (.int 6)) 0 (.int 7)))), (h1, .inr (9, xo_Circuit f1)), (h2, .inr (10, xo_Design f2)), (h3, .inl (cB, 65536, .inl g_9))] H := hP
  have hD : va_D A [(h0, .inr (1, xo_C (va_up (va_up (va_up f0 0 (.int 5)) 0 (.int 6)) 0 (.int 7)))), (h1, .inr (9, xo_Circuit f1)), (h2, .inr (10, xo_Design f2)), (h3, .inl (cB, 65536, .inl g_9))] := hD
  refine lv_iinc (v := 0) (lv' := [(3, .int 0), (2, .ref h3), (0, .ref h0), (1, .int x0)]) hx hb dn_C_append_47 hl (k := 0) rfl (by decide) (by decide) rfl (fun ls hl => ?_)
  refine lv_goto (tgt := 14) hx hb dn_C_append_50 (by decide) ?_
  refine lv_iload_n hx hb dn_C_append_14 rfl (lv_at hl 0 rfl) ?_
  refine lv_if_lt (tgt := 53) hx hb dn_C_append_15 (by decide) (fun h9 => absurd h9 (by decide)) (fun _ => ?_)
  refine lv_aload_n hx hb dn_C_append_18 rfl (lv_at hl 2 rfl) ?_
  refine va_get (D := (dC, dI)) (ci := 1) (v := .int 7) (C := rn_C) (T := fn_C) (N := 11) hx hb hg in_C hown hK hP 0 rfl rfl 0 (by decide) (hg _ wn_3_125) (fun _ h9 => h9) rfl dn_C_append_19 ?_
  refine lv_aload_n hx hb dn_C_append_22 rfl (lv_at hl 1 rfl) ?_
  refine va_alen (v := 65536) hx hb hK hP 3 1 rfl rfl rfl dn_C_append_23 ?_
  refine lv_icmp_ge (tgt := 53) hx hb dn_C_append_24 (by decide) (fun h9 => absurd h9 (by decide)) (fun _ => ?_)
  refine lv_aload_n hx hb dn_C_append_27 rfl (lv_at hl 1 rfl) ?_
  refine lv_aload_n hx hb dn_C_append_28 rfl (lv_at hl 2 rfl) ?_
  refine va_get (D := (dC, dI)) (ci := 1) (v := .int 7) (C := rn_C) (T := fn_C) (N := 11) hx hb hg in_C hown hK hP 0 rfl rfl 0 (by decide) (hg _ wn_3_125) (fun _ h9 => h9) rfl dn_C_append_29 ?_
  refine lv_iload_n hx hb dn_C_append_32 rfl (lv_at hl 3 rfl) ?_
  refine lv_iload_n hx hb dn_C_append_33 rfl (lv_at hl 0 rfl) ?_
  refine lv_iushr hx hb dn_C_append_34 rfl ?_
  refine lv_topi (fun z_10 _ => ?_)
  refine lv_i2b hx hb dn_C_append_35 rfl ?_
  refine lv_topi (fun z_11 ez_11 => ?_)
  refine va_bast hx hb hK hP hD hS 3 1 rfl rfl (show ¬ (_ ∨ _) by decide) dn_C_append_36 (fun H locs hP hD hS => ?_)
  obtain ⟨g_12, eg_12⟩ : ∃ z : Nat → Int32, z = upd g_9 (7 : Int32).toNatClampNeg (vp_nar .byte z_11) := ⟨_, rfl⟩
  have hP : va_P (dC, dI) xcl [(h0, .inr (1, xo_C (va_up (va_up (va_up f0 0 (.int 5)) 0 (.int 6)) 0 (.int 7)))), (h1, .inr (9, xo_Circuit f1)), (h2, .inr (10, xo_Design f2)), (h3, .inl (cB, 65536, .inl g_12))] H := by rw [eg_12]; exact hP
  have hD : va_D A [(h0, .inr (1, xo_C (va_up (va_up (va_up f0 0 (.int 5)) 0 (.int 6)) 0 (.int 7)))), (h1, .inr (9, xo_Circuit f1)), (h2, .inr (10, xo_Design f2)), (h3, .inl (cB, 65536, .inl g_12))] := by rw [eg_12]; exact hD
  refine lv_aload_n hx hb dn_C_append_37 rfl (lv_at hl 2 rfl) ?_
  refine lv_dup hx hb dn_C_append_38 rfl ?_
  refine va_get (D := (dC, dI)) (ci := 1) (v := .int 7) (C := rn_C) (T := fn_C) (N := 11) hx hb hg in_C hown hK hP 0 rfl rfl 0 (by decide) (hg _ wn_3_125) (fun _ h9 => h9) rfl dn_C_append_39 ?_
  refine lv_iconst (v := 1) hx hb dn_C_append_42 (by decide) ?_
  refine lv_iadd hx hb dn_C_append_43 ?_
  refine xk_ti (y := 8) (by decide) ?_
  refine va_put (D := (dC, dI)) (ci := 1) (v := .int 8) (ty := .int) (C := rn_C) (T := fn_C) (N := 11) hx hb hg in_C tn_C tk_C nn_C hown hK hP hD hS 0 rfl rfl 0 (by decide) (hg _ wn_3_125) (fun _ h9 => h9) rfl (tk_C 0 (by decide)) rfl rfl (Nat.le_of_ble_eq_true rfl) dn_C_append_44 (fun H locs hP hD hS => ?_)
  have hP : va_P (dC, dI) xcl [(h0, .inr (1, xo_C (va_up (va_up (va_up (va_up f0 0 (.int 5)) 0 (.int 6)) 0 (.int 7)) 0 (.int 8)))), (h1, .inr (9, xo_Circuit f1)), (h2, .inr (10, xo_Design f2)), (h3, .inl (cB, 65536, .inl g_12))] H := hP
  have hD : va_D A [(h0, .inr (1, xo_C (va_up (va_up (va_up (va_up f0 0 (.int 5)) 0 (.int 6)) 0 (.int 7)) 0 (.int 8)))), (h1, .inr (9, xo_Circuit f1)), (h2, .inr (10, xo_Design f2)), (h3, .inl (cB, 65536, .inl g_12))] := hD
  refine lv_iinc (v := (-8)) (lv' := [(3, .int (-8)), (2, .ref h3), (0, .ref h0), (1, .int x0)]) hx hb dn_C_append_47 hl (k := 0) rfl (by decide) (by decide) rfl (fun ls hl => ?_)
  refine lv_goto (tgt := 14) hx hb dn_C_append_50 (by decide) ?_
  refine lv_iload_n hx hb dn_C_append_14 rfl (lv_at hl 0 rfl) ?_
  refine lv_if_lt (tgt := 53) hx hb dn_C_append_15 (by decide) (fun _ => ?_) (fun h9 => absurd h9 (by decide))
  have hP9 := hP.sub (ws' := [(h0, .inr (1, xo_C (va_up (va_up (va_up (va_up f0 0 (.int 5)) 0 (.int 6)) 0 (.int 7)) 0 (.int 8)))), (h1, .inr (9, xo_Circuit f1)), (h2, .inr (10, xo_Design f2)), (h3, .inl (cB, 65536, .inl g_12))]) [0, 1, 2, 3] rfl
  have hD9 := hD.sub (ws' := [(h0, .inr (1, xo_C (va_up (va_up (va_up (va_up f0 0 (.int 5)) 0 (.int 6)) 0 (.int 7)) 0 (.int 8)))), (h1, .inr (9, xo_Circuit f1)), (h2, .inr (10, xo_Design f2)), (h3, .inl (cB, 65536, .inl g_12))]) [0, 1, 2, 3] (by decide) rfl
  exact xk_vret (w1 := fun u : (Nat → Int32) => [(h0, .inr (1, xo_C (va_up (va_up (va_up (va_up f0 0 (.int 5)) 0 (.int 6)) 0 (.int 7)) 0 (.int 8)))), (h1, .inr (9, xo_Circuit f1)), (h2, .inr (10, xo_Design f2)), (h3, .inl (cB, 65536, .inl u))]) (g_12) hx hb hr hlocks hK hS dn_C_append_53 hP9 hD9 trivial (Nat.le_refl _) (Nat.le_refl _)
set_option maxHeartbeats 4000000 in
set_option maxRecDepth 100000 in
theorem ct_C_append_2 (l : Launch) (dC : Nat → ClassId) (dI : Nat → Nat → Nat) (cI cB cJ cZ cQ : ClassId) (sz : Nat) (h0 : Nat) (h1 : Nat) (h2 : Nat) (h3 : Nat) (x0 : Int32) (f0 : Nat → Value) (f1 : Nat → Value) (f2 : Nat → Value) (g0 : Nat → Int32) (hf0_0 : f0 0 = .int 8) (hf0_10 : f0 10 = .ref h1) (hf1_0 : f1 0 = .ref h2) (hf2_2 : f2 2 = .ref h3) : Met l yn_C_append (xw yn_C_append bn_C_append 4 none) ({ frames := 0, cells := 0, slots := 0, locals := 0 }) (xk_P (dC, dI) xcl (xt cI cB cJ cZ cQ) [.ref h0, .int x0] sz [(h0, .inr (1, xo_C f0)), (h1, .inr (9, xo_Circuit f1)), (h2, .inr (10, xo_Design f2)), (h3, .inl (cB, 65536, .inl g0))]) (xk_Qv (dC, dI) xcl (xt cI cB cJ cZ cQ) (fun u : (Nat → Int32) => True) (fun u : (Nat → Int32) => [(h0, .inr (1, xo_C (va_up (va_up (va_up (va_up f0 0 (.int 9)) 0 (.int 10)) 0 (.int 11)) 0 (.int 12)))), (h1, .inr (9, xo_Circuit f1)), (h2, .inr (10, xo_Design f2)), (h3, .inl (cB, 65536, .inl u))]) (va_A [(h0, .inr (1, xo_C f0)), (h1, .inr (9, xo_Circuit f1)), (h2, .inr (10, xo_Design f2)), (h3, .inl (cB, 65536, .inl g0))] sz)) 0 0 (va_A [(h0, .inr (1, xo_C f0)), (h1, .inr (9, xo_Circuit f1)), (h2, .inr (10, xo_Design f2)), (h3, .inl (cB, 65536, .inl g0))] sz) := by
  refine xk_of (QA := xk_Qv (dC, dI) xcl (xt cI cB cJ cZ cQ) (fun u : (Nat → Int32) => True) (fun u : (Nat → Int32) => [(h0, .inr (1, xo_C (va_up (va_up (va_up (va_up f0 0 (.int 9)) 0 (.int 10)) 0 (.int 11)) 0 (.int 12)))), (h1, .inr (9, xo_Circuit f1)), (h2, .inr (10, xo_Design f2)), (h3, .inl (cB, 65536, .inl u))])) (by decide) (Nat.le_of_ble_eq_true rfl) ?_
  intro p e s m below meth c hx hb hml hown hg hr hlocks hin hP hK hN A hA hD hS ls hl
  have hown : s.vm.findClass rn_C = some m.cls := hown
  have hl : lv_has ls 4 [(0, .ref h0), (1, .int x0)] := hl
  obtain ⟨H, hH⟩ : ∃ z, z = s.heap := ⟨_, rfl⟩
  rw [← hH] at hP
  have hS : va_S A s.heap H [] := by rw [hH]; exact va_S.rf
  suffices kk : W p l e ({ frames := 0, cells := 0, slots := 0, locals := 0 }) s m [.ref h0, .int x0].toArray below meth c H [] 0 0 (MQ below (xk_Qv (dC, dI) xcl (xt cI cB cJ cZ cQ) (fun u : (Nat → Int32) => True) (fun u : (Nat → Int32) => [(h0, .inr (1, xo_C (va_up (va_up (va_up (va_up f0 0 (.int 9)) 0 (.int 10)) 0 (.int 11)) 0 (.int 12)))), (h1, .inr (9, xo_Circuit f1)), (h2, .inr (10, xo_Design f2)), (h3, .inl (cB, 65536, .inl u))]) A) [.ref h0, .int x0].toArray s 0 0 A) (F0 m 0 ls []) by rw [hH] at kk; exact kk
  refine lv_aload_n hx hb dn_C_append_0 rfl (lv_at hl 0 rfl) ?_
  refine va_get (D := (dC, dI)) (ci := 1) (v := .ref h1) (C := rn_C) (T := fn_C) (N := 11) hx hb hg in_C hown hK hP 0 rfl rfl 10 (by decide) (hg _ wn_3_135) (fun _ h9 => h9) (congrArg some hf0_10) dn_C_append_1 ?_
  refine va_get (D := (dC, dI)) (ci := 9) (v := .ref h2) (C := rn_Circuit) (T := fn_Circuit) (N := 14) hx hb hg in_Circuit hown hK hP 1 rfl rfl 0 (by decide) (hg _ wn_3_62) (fun _ h9 => h9) (congrArg some hf1_0) dn_C_append_4 ?_
  refine va_get (D := (dC, dI)) (ci := 10) (v := .ref h3) (C := rn_Design) (T := fn_Design) (N := 16) hx hb hg in_Design hown hK hP 2 rfl rfl 2 (by decide) (hg _ wn_3_6) (fun _ h9 => h9) (congrArg some hf2_2) dn_C_append_7 ?_
  refine lv_astore_n (lv' := [(2, .ref h3), (0, .ref h0), (1, .int x0)]) hx hb dn_C_append_10 rfl hl (by decide) rfl (fun ls hl => ?_)
  refine lv_bipush (v := 24) hx hb dn_C_append_11 (by decide) ?_
  refine lv_istore_n (lv' := [(3, .int 24), (2, .ref h3), (0, .ref h0), (1, .int x0)]) hx hb dn_C_append_13 rfl hl (by decide) rfl (fun ls hl => ?_)
  refine lv_iload_n hx hb dn_C_append_14 rfl (lv_at hl 0 rfl) ?_
  refine lv_if_lt (tgt := 53) hx hb dn_C_append_15 (by decide) (fun h9 => absurd h9 (by decide)) (fun _ => ?_)
  refine lv_aload_n hx hb dn_C_append_18 rfl (lv_at hl 2 rfl) ?_
  refine va_get (D := (dC, dI)) (ci := 1) (v := .int 8) (C := rn_C) (T := fn_C) (N := 11) hx hb hg in_C hown hK hP 0 rfl rfl 0 (by decide) (hg _ wn_3_125) (fun _ h9 => h9) (congrArg some hf0_0) dn_C_append_19 ?_
  refine lv_aload_n hx hb dn_C_append_22 rfl (lv_at hl 1 rfl) ?_
  refine va_alen (v := 65536) hx hb hK hP 3 1 rfl rfl rfl dn_C_append_23 ?_
  refine lv_icmp_ge (tgt := 53) hx hb dn_C_append_24 (by decide) (fun h9 => absurd h9 (by decide)) (fun _ => ?_)
  refine lv_aload_n hx hb dn_C_append_27 rfl (lv_at hl 1 rfl) ?_
  refine lv_aload_n hx hb dn_C_append_28 rfl (lv_at hl 2 rfl) ?_
  refine va_get (D := (dC, dI)) (ci := 1) (v := .int 8) (C := rn_C) (T := fn_C) (N := 11) hx hb hg in_C hown hK hP 0 rfl rfl 0 (by decide) (hg _ wn_3_125) (fun _ h9 => h9) (congrArg some hf0_0) dn_C_append_29 ?_
  refine lv_iload_n hx hb dn_C_append_32 rfl (lv_at hl 3 rfl) ?_
  refine lv_iload_n hx hb dn_C_append_33 rfl (lv_at hl 0 rfl) ?_
  refine lv_iushr hx hb dn_C_append_34 rfl ?_
  refine lv_topi (fun z_1 _ => ?_)
  refine lv_i2b hx hb dn_C_append_35 rfl ?_
  refine lv_topi (fun z_2 ez_2 => ?_)
  refine va_bast hx hb hK hP hD hS 3 1 rfl rfl (show ¬ (_ ∨ _) by decide) dn_C_append_36 (fun H locs hP hD hS => ?_)
  obtain ⟨g_3, eg_3⟩ : ∃ z : Nat → Int32, z = upd g0 (8 : Int32).toNatClampNeg (vp_nar .byte z_2) := ⟨_, rfl⟩
  have hP : va_P (dC, dI) xcl [(h0, .inr (1, xo_C f0)), (h1, .inr (9, xo_Circuit f1)), (h2, .inr (10, xo_Design f2)), (h3, .inl (cB, 65536, .inl g_3))] H := by rw [eg_3]; exact hP
  have hD : va_D A [(h0, .inr (1, xo_C f0)), (h1, .inr (9, xo_Circuit f1)), (h2, .inr (10, xo_Design f2)), (h3, .inl (cB, 65536, .inl g_3))] := by rw [eg_3]; exact hD
  refine lv_aload_n hx hb dn_C_append_37 rfl (lv_at hl 2 rfl) ?_
  refine lv_dup hx hb dn_C_append_38 rfl ?_
  refine va_get (D := (dC, dI)) (ci := 1) (v := .int 8) (C := rn_C) (T := fn_C) (N := 11) hx hb hg in_C hown hK hP 0 rfl rfl 0 (by decide) (hg _ wn_3_125) (fun _ h9 => h9) (congrArg some hf0_0) dn_C_append_39 ?_
  refine lv_iconst (v := 1) hx hb dn_C_append_42 (by decide) ?_
  refine lv_iadd hx hb dn_C_append_43 ?_
  refine xk_ti (y := 9) (by decide) ?_
  refine va_put (D := (dC, dI)) (ci := 1) (v := .int 9) (ty := .int) (C := rn_C) (T := fn_C) (N := 11) hx hb hg in_C tn_C tk_C nn_C hown hK hP hD hS 0 rfl rfl 0 (by decide) (hg _ wn_3_125) (fun _ h9 => h9) rfl (tk_C 0 (by decide)) rfl rfl (Nat.le_of_ble_eq_true rfl) dn_C_append_44 (fun H locs hP hD hS => ?_)
  have hP : va_P (dC, dI) xcl [(h0, .inr (1, xo_C (va_up f0 0 (.int 9)))), (h1, .inr (9, xo_Circuit f1)), (h2, .inr (10, xo_Design f2)), (h3, .inl (cB, 65536, .inl g_3))] H := hP
  have hD : va_D A [(h0, .inr (1, xo_C (va_up f0 0 (.int 9)))), (h1, .inr (9, xo_Circuit f1)), (h2, .inr (10, xo_Design f2)), (h3, .inl (cB, 65536, .inl g_3))] := hD
  refine lv_iinc (v := 16) (lv' := [(3, .int 16), (2, .ref h3), (0, .ref h0), (1, .int x0)]) hx hb dn_C_append_47 hl (k := 0) rfl (by decide) (by decide) rfl (fun ls hl => ?_)
  refine lv_goto (tgt := 14) hx hb dn_C_append_50 (by decide) ?_
  refine lv_iload_n hx hb dn_C_append_14 rfl (lv_at hl 0 rfl) ?_
  refine lv_if_lt (tgt := 53) hx hb dn_C_append_15 (by decide) (fun h9 => absurd h9 (by decide)) (fun _ => ?_)
  refine lv_aload_n hx hb dn_C_append_18 rfl (lv_at hl 2 rfl) ?_
  refine va_get (D := (dC, dI)) (ci := 1) (v := .int 9) (C := rn_C) (T := fn_C) (N := 11) hx hb hg in_C hown hK hP 0 rfl rfl 0 (by decide) (hg _ wn_3_125) (fun _ h9 => h9) rfl dn_C_append_19 ?_
  refine lv_aload_n hx hb dn_C_append_22 rfl (lv_at hl 1 rfl) ?_
  refine va_alen (v := 65536) hx hb hK hP 3 1 rfl rfl rfl dn_C_append_23 ?_
  refine lv_icmp_ge (tgt := 53) hx hb dn_C_append_24 (by decide) (fun h9 => absurd h9 (by decide)) (fun _ => ?_)
  refine lv_aload_n hx hb dn_C_append_27 rfl (lv_at hl 1 rfl) ?_
  refine lv_aload_n hx hb dn_C_append_28 rfl (lv_at hl 2 rfl) ?_
  refine va_get (D := (dC, dI)) (ci := 1) (v := .int 9) (C := rn_C) (T := fn_C) (N := 11) hx hb hg in_C hown hK hP 0 rfl rfl 0 (by decide) (hg _ wn_3_125) (fun _ h9 => h9) rfl dn_C_append_29 ?_
  refine lv_iload_n hx hb dn_C_append_32 rfl (lv_at hl 3 rfl) ?_
  refine lv_iload_n hx hb dn_C_append_33 rfl (lv_at hl 0 rfl) ?_
  refine lv_iushr hx hb dn_C_append_34 rfl ?_
  refine lv_topi (fun z_4 _ => ?_)
  refine lv_i2b hx hb dn_C_append_35 rfl ?_
  refine lv_topi (fun z_5 ez_5 => ?_)
  refine va_bast hx hb hK hP hD hS 3 1 rfl rfl (show ¬ (_ ∨ _) by decide) dn_C_append_36 (fun H locs hP hD hS => ?_)
  obtain ⟨g_6, eg_6⟩ : ∃ z : Nat → Int32, z = upd g_3 (9 : Int32).toNatClampNeg (vp_nar .byte z_5) := ⟨_, rfl⟩
  have hP : va_P (dC, dI) xcl [(h0, .inr (1, xo_C (va_up f0 0 (.int 9)))), (h1, .inr (9, xo_Circuit f1)), (h2, .inr (10, xo_Design f2)), (h3, .inl (cB, 65536, .inl g_6))] H := by rw [eg_6]; exact hP
  have hD : va_D A [(h0, .inr (1, xo_C (va_up f0 0 (.int 9)))), (h1, .inr (9, xo_Circuit f1)), (h2, .inr (10, xo_Design f2)), (h3, .inl (cB, 65536, .inl g_6))] := by rw [eg_6]; exact hD
  refine lv_aload_n hx hb dn_C_append_37 rfl (lv_at hl 2 rfl) ?_
  refine lv_dup hx hb dn_C_append_38 rfl ?_
  refine va_get (D := (dC, dI)) (ci := 1) (v := .int 9) (C := rn_C) (T := fn_C) (N := 11) hx hb hg in_C hown hK hP 0 rfl rfl 0 (by decide) (hg _ wn_3_125) (fun _ h9 => h9) rfl dn_C_append_39 ?_
  refine lv_iconst (v := 1) hx hb dn_C_append_42 (by decide) ?_
  refine lv_iadd hx hb dn_C_append_43 ?_
  refine xk_ti (y := 10) (by decide) ?_
  refine va_put (D := (dC, dI)) (ci := 1) (v := .int 10) (ty := .int) (C := rn_C) (T := fn_C) (N := 11) hx hb hg in_C tn_C tk_C nn_C hown hK hP hD hS 0 rfl rfl 0 (by decide) (hg _ wn_3_125) (fun _ h9 => h9) rfl (tk_C 0 (by decide)) rfl rfl (Nat.le_of_ble_eq_true rfl) dn_C_append_44 (fun H locs hP hD hS => ?_)
  have hP : va_P (dC, dI) xcl [(h0, .inr (1, xo_C (va_up (va_up f0 0 (.int 9)) 0 (.int 10)))), (h1, .inr (9, xo_Circuit f1)), (h2, .inr (10, xo_Design f2)), (h3, .inl (cB, 65536, .inl g_6))] H := hP
  have hD : va_D A [(h0, .inr (1, xo_C (va_up (va_up f0 0 (.int 9)) 0 (.int 10)))), (h1, .inr (9, xo_Circuit f1)), (h2, .inr (10, xo_Design f2)), (h3, .inl (cB, 65536, .inl g_6))] := hD
  refine lv_iinc (v := 8) (lv' := [(3, .int 8), (2, .ref h3), (0, .ref h0), (1, .int x0)]) hx hb dn_C_append_47 hl (k := 0) rfl (by decide) (by decide) rfl (fun ls hl => ?_)
  refine lv_goto (tgt := 14) hx hb dn_C_append_50 (by decide) ?_
  refine lv_iload_n hx hb dn_C_append_14 rfl (lv_at hl 0 rfl) ?_
  refine lv_if_lt (tgt := 53) hx hb dn_C_append_15 (by decide) (fun h9 => absurd h9 (by decide)) (fun _ => ?_)
  refine lv_aload_n hx hb dn_C_append_18 rfl (lv_at hl 2 rfl) ?_
  refine va_get (D := (dC, dI)) (ci := 1) (v := .int 10) (C := rn_C) (T := fn_C) (N := 11) hx hb hg in_C hown hK hP 0 rfl rfl 0 (by decide) (hg _ wn_3_125) (fun _ h9 => h9) rfl dn_C_append_19 ?_
  refine lv_aload_n hx hb dn_C_append_22 rfl (lv_at hl 1 rfl) ?_
  refine va_alen (v := 65536) hx hb hK hP 3 1 rfl rfl rfl dn_C_append_23 ?_
  refine lv_icmp_ge (tgt := 53) hx hb dn_C_append_24 (by decide) (fun h9 => absurd h9 (by decide)) (fun _ => ?_)
  refine lv_aload_n hx hb dn_C_append_27 rfl (lv_at hl 1 rfl) ?_
  refine lv_aload_n hx hb dn_C_append_28 rfl (lv_at hl 2 rfl) ?_
  refine va_get (D := (dC, dI)) (ci := 1) (v := .int 10) (C := rn_C) (T := fn_C) (N := 11) hx hb hg in_C hown hK hP 0 rfl rfl 0 (by decide) (hg _ wn_3_125) (fun _ h9 => h9) rfl dn_C_append_29 ?_
  refine lv_iload_n hx hb dn_C_append_32 rfl (lv_at hl 3 rfl) ?_
  refine lv_iload_n hx hb dn_C_append_33 rfl (lv_at hl 0 rfl) ?_
  refine lv_iushr hx hb dn_C_append_34 rfl ?_
  refine lv_topi (fun z_7 _ => ?_)
  refine lv_i2b hx hb dn_C_append_35 rfl ?_
  refine lv_topi (fun z_8 ez_8 => ?_)
  refine va_bast hx hb hK hP hD hS 3 1 rfl rfl (show ¬ (_ ∨ _) by decide) dn_C_append_36 (fun H locs hP hD hS => ?_)
  obtain ⟨g_9, eg_9⟩ : ∃ z : Nat → Int32, z = upd g_6 (10 : Int32).toNatClampNeg (vp_nar .byte z_8) := ⟨_, rfl⟩
  have hP : va_P (dC, dI) xcl [(h0, .inr (1, xo_C (va_up (va_up f0 0 (.int 9)) 0 (.int 10)))), (h1, .inr (9, xo_Circuit f1)), (h2, .inr (10, xo_Design f2)), (h3, .inl (cB, 65536, .inl g_9))] H := by rw [eg_9]; exact hP
  have hD : va_D A [(h0, .inr (1, xo_C (va_up (va_up f0 0 (.int 9)) 0 (.int 10)))), (h1, .inr (9, xo_Circuit f1)), (h2, .inr (10, xo_Design f2)), (h3, .inl (cB, 65536, .inl g_9))] := by rw [eg_9]; exact hD
  refine lv_aload_n hx hb dn_C_append_37 rfl (lv_at hl 2 rfl) ?_
  refine lv_dup hx hb dn_C_append_38 rfl ?_
  refine va_get (D := (dC, dI)) (ci := 1) (v := .int 10) (C := rn_C) (T := fn_C) (N := 11) hx hb hg in_C hown hK hP 0 rfl rfl 0 (by decide) (hg _ wn_3_125) (fun _ h9 => h9) rfl dn_C_append_39 ?_
  refine lv_iconst (v := 1) hx hb dn_C_append_42 (by decide) ?_
  refine lv_iadd hx hb dn_C_append_43 ?_
  refine xk_ti (y := 11) (by decide) ?_
  refine va_put (D := (dC, dI)) (ci := 1) (v := .int 11) (ty := .int) (C := rn_C) (T := fn_C) (N := 11) hx hb hg in_C tn_C tk_C nn_C hown hK hP hD hS 0 rfl rfl 0 (by decide) (hg _ wn_3_125) (fun _ h9 => h9) rfl (tk_C 0 (by decide)) rfl rfl (Nat.le_of_ble_eq_true rfl) dn_C_append_44 (fun H locs hP hD hS => ?_)
  have hP : va_P (dC, dI) xcl [(h0, .inr (1, xo_C (va_up (va_up (va_up f0 0 (.int 9)) 0 (.int 10)) 0 (.int 11)))), (h1, .inr (9, xo_Circuit f1)), (h2, .inr (10, xo_Design f2)), (h3, .inl (cB, 65536, .inl g_9))] H := hP
  have hD : va_D A [(h0, .inr (1, xo_C (va_up (va_up (va_up f0 0 (.int 9)) 0 (.int 10)) 0 (.int 11)))), (h1, .inr (9, xo_Circuit f1)), (h2, .inr (10, xo_Design f2)), (h3, .inl (cB, 65536, .inl g_9))] := hD
  refine lv_iinc (v := 0) (lv' := [(3, .int 0), (2, .ref h3), (0, .ref h0), (1, .int x0)]) hx hb dn_C_append_47 hl (k := 0) rfl (by decide) (by decide) rfl (fun ls hl => ?_)
  refine lv_goto (tgt := 14) hx hb dn_C_append_50 (by decide) ?_
  refine lv_iload_n hx hb dn_C_append_14 rfl (lv_at hl 0 rfl) ?_
  refine lv_if_lt (tgt := 53) hx hb dn_C_append_15 (by decide) (fun h9 => absurd h9 (by decide)) (fun _ => ?_)
  refine lv_aload_n hx hb dn_C_append_18 rfl (lv_at hl 2 rfl) ?_
  refine va_get (D := (dC, dI)) (ci := 1) (v := .int 11) (C := rn_C) (T := fn_C) (N := 11) hx hb hg in_C hown hK hP 0 rfl rfl 0 (by decide) (hg _ wn_3_125) (fun _ h9 => h9) rfl dn_C_append_19 ?_
  refine lv_aload_n hx hb dn_C_append_22 rfl (lv_at hl 1 rfl) ?_
  refine va_alen (v := 65536) hx hb hK hP 3 1 rfl rfl rfl dn_C_append_23 ?_
  refine lv_icmp_ge (tgt := 53) hx hb dn_C_append_24 (by decide) (fun h9 => absurd h9 (by decide)) (fun _ => ?_)
  refine lv_aload_n hx hb dn_C_append_27 rfl (lv_at hl 1 rfl) ?_
  refine lv_aload_n hx hb dn_C_append_28 rfl (lv_at hl 2 rfl) ?_
  refine va_get (D := (dC, dI)) (ci := 1) (v := .int 11) (C := rn_C) (T := fn_C) (N := 11) hx hb hg in_C hown hK hP 0 rfl rfl 0 (by decide) (hg _ wn_3_125) (fun _ h9 => h9) rfl dn_C_append_29 ?_
  refine lv_iload_n hx hb dn_C_append_32 rfl (lv_at hl 3 rfl) ?_
  refine lv_iload_n hx hb dn_C_append_33 rfl (lv_at hl 0 rfl) ?_
  refine lv_iushr hx hb dn_C_append_34 rfl ?_
  refine lv_topi (fun z_10 _ => ?_)
  refine lv_i2b hx hb dn_C_append_35 rfl ?_
  refine lv_topi (fun z_11 ez_11 => ?_)
  refine va_bast hx hb hK hP hD hS 3 1 rfl rfl (show ¬ (_ ∨ _) by decide) dn_C_append_36 (fun H locs hP hD hS => ?_)
  obtain ⟨g_12, eg_12⟩ : ∃ z : Nat → Int32, z = upd g_9 (11 : Int32).toNatClampNeg (vp_nar .byte z_11) := ⟨_, rfl⟩
  have hP : va_P (dC, dI) xcl [(h0, .inr (1, xo_C (va_up (va_up (va_up f0 0 (.int 9)) 0 (.int 10)) 0 (.int 11)))), (h1, .inr (9, xo_Circuit f1)), (h2, .inr (10, xo_Design f2)), (h3, .inl (cB, 65536, .inl g_12))] H := by rw [eg_12]; exact hP
  have hD : va_D A [(h0, .inr (1, xo_C (va_up (va_up (va_up f0 0 (.int 9)) 0 (.int 10)) 0 (.int 11)))), (h1, .inr (9, xo_Circuit f1)), (h2, .inr (10, xo_Design f2)), (h3, .inl (cB, 65536, .inl g_12))] := by rw [eg_12]; exact hD
  refine lv_aload_n hx hb dn_C_append_37 rfl (lv_at hl 2 rfl) ?_
  refine lv_dup hx hb dn_C_append_38 rfl ?_
  refine va_get (D := (dC, dI)) (ci := 1) (v := .int 11) (C := rn_C) (T := fn_C) (N := 11) hx hb hg in_C hown hK hP 0 rfl rfl 0 (by decide) (hg _ wn_3_125) (fun _ h9 => h9) rfl dn_C_append_39 ?_
  refine lv_iconst (v := 1) hx hb dn_C_append_42 (by decide) ?_
  refine lv_iadd hx hb dn_C_append_43 ?_
  refine xk_ti (y := 12) (by decide) ?_
  refine va_put (D := (dC, dI)) (ci := 1) (v := .int 12) (ty := .int) (C := rn_C) (T := fn_C) (N := 11) hx hb hg in_C tn_C tk_C nn_C hown hK hP hD hS 0 rfl rfl 0 (by decide) (hg _ wn_3_125) (fun _ h9 => h9) rfl (tk_C 0 (by decide)) rfl rfl (Nat.le_of_ble_eq_true rfl) dn_C_append_44 (fun H locs hP hD hS => ?_)
  have hP : va_P (dC, dI) xcl [(h0, .inr (1, xo_C (va_up (va_up (va_up (va_up f0 0 (.int 9)) 0 (.int 10)) 0 (.int 11)) 0 (.int 12)))), (h1, .inr (9, xo_Circuit f1)), (h2, .inr (10, xo_Design f2)), (h3, .inl (cB, 65536, .inl g_12))] H := hP
  have hD : va_D A [(h0, .inr (1, xo_C (va_up (va_up (va_up (va_up f0 0 (.int 9)) 0 (.int 10)) 0 (.int 11)) 0 (.int 12)))), (h1, .inr (9, xo_Circuit f1)), (h2, .inr (10, xo_Design f2)), (h3, .inl (cB, 65536, .inl g_12))] := hD
  refine lv_iinc (v := (-8)) (lv' := [(3, .int (-8)), (2, .ref h3), (0, .ref h0), (1, .int x0)]) hx hb dn_C_append_47 hl (k := 0) rfl (by decide) (by decide) rfl (fun ls hl => ?_)
  refine lv_goto (tgt := 14) hx hb dn_C_append_50 (by decide) ?_
  refine lv_iload_n hx hb dn_C_append_14 rfl (lv_at hl 0 rfl) ?_
  refine lv_if_lt (tgt := 53) hx hb dn_C_append_15 (by decide) (fun _ => ?_) (fun h9 => absurd h9 (by decide))
  have hP9 := hP.sub (ws' := [(h0, .inr (1, xo_C (va_up (va_up (va_up (va_up f0 0 (.int 9)) 0 (.int 10)) 0 (.int 11)) 0 (.int 12)))), (h1, .inr (9, xo_Circuit f1)), (h2, .inr (10, xo_Design f2)), (h3, .inl (cB, 65536, .inl g_12))]) [0, 1, 2, 3] rfl
  have hD9 := hD.sub (ws' := [(h0, .inr (1, xo_C (va_up (va_up (va_up (va_up f0 0 (.int 9)) 0 (.int 10)) 0 (.int 11)) 0 (.int 12)))), (h1, .inr (9, xo_Circuit f1)), (h2, .inr (10, xo_Design f2)), (h3, .inl (cB, 65536, .inl g_12))]) [0, 1, 2, 3] (by decide) rfl
  exact xk_vret (w1 := fun u : (Nat → Int32) => [(h0, .inr (1, xo_C (va_up (va_up (va_up (va_up f0 0 (.int 9)) 0 (.int 10)) 0 (.int 11)) 0 (.int 12)))), (h1, .inr (9, xo_Circuit f1)), (h2, .inr (10, xo_Design f2)), (h3, .inl (cB, 65536, .inl u))]) (g_12) hx hb hr hlocks hK hS dn_C_append_53 hP9 hD9 trivial (Nat.le_refl _) (Nat.le_refl _)
set_option maxHeartbeats 4000000 in
set_option maxRecDepth 100000 in
theorem ct_C_append_3 (l : Launch) (dC : Nat → ClassId) (dI : Nat → Nat → Nat) (cI cB cJ cZ cQ : ClassId) (sz : Nat) (h0 : Nat) (h1 : Nat) (h2 : Nat) (h3 : Nat) (x0 : Int32) (f0 : Nat → Value) (f1 : Nat → Value) (f2 : Nat → Value) (g0 : Nat → Int32) (hf0_0 : f0 0 = .int 12) (hf0_10 : f0 10 = .ref h1) (hf1_0 : f1 0 = .ref h2) (hf2_2 : f2 2 = .ref h3) : Met l yn_C_append (xw yn_C_append bn_C_append 4 none) ({ frames := 0, cells := 0, slots := 0, locals := 0 }) (xk_P (dC, dI) xcl (xt cI cB cJ cZ cQ) [.ref h0, .int x0] sz [(h0, .inr (1, xo_C f0)), (h1, .inr (9, xo_Circuit f1)), (h2, .inr (10, xo_Design f2)), (h3, .inl (cB, 65536, .inl g0))]) (xk_Qv (dC, dI) xcl (xt cI cB cJ cZ cQ) (fun u : (Nat → Int32) => True) (fun u : (Nat → Int32) => [(h0, .inr (1, xo_C (va_up (va_up (va_up (va_up f0 0 (.int 13)) 0 (.int 14)) 0 (.int 15)) 0 (.int 16)))), (h1, .inr (9, xo_Circuit f1)), (h2, .inr (10, xo_Design f2)), (h3, .inl (cB, 65536, .inl u))]) (va_A [(h0, .inr (1, xo_C f0)), (h1, .inr (9, xo_Circuit f1)), (h2, .inr (10, xo_Design f2)), (h3, .inl (cB, 65536, .inl g0))] sz)) 0 0 (va_A [(h0, .inr (1, xo_C f0)), (h1, .inr (9, xo_Circuit f1)), (h2, .inr (10, xo_Design f2)), (h3, .inl (cB, 65536, .inl g0))] sz) := by
  refine xk_of (QA := xk_Qv (dC, dI) xcl (xt cI cB cJ cZ cQ) (fun u : (Nat → Int32) => True) (fun u : (Nat → Int32) => [(h0, .inr (1, xo_C (va_up (va_up (va_up (va_up f0 0 (.int 13)) 0 (.int 14)) 0 (.int 15)) 0 (.int 16)))), (h1, .inr (9, xo_Circuit f1)), (h2, .inr (10, xo_Design f2)), (h3, .inl (cB, 65536, .inl u))])) (by decide) (Nat.le_of_ble_eq_true rfl) ?_
  intro p e s m below meth c hx hb hml hown hg hr hlocks hin hP hK hN A hA hD hS ls hl
  have hown : s.vm.findClass rn_C = some m.cls := hown
  have hl : lv_has ls 4 [(0, .ref h0), (1, .int x0)] := hl
  obtain ⟨H, hH⟩ : ∃ z, z = s.heap := ⟨_, rfl⟩
  rw [← hH] at hP
  have hS : va_S A s.heap H [] := by rw [hH]; exact va_S.rf
  suffices kk : W p l e ({ frames := 0, cells := 0, slots := 0, locals := 0 }) s m [.ref h0, .int x0].toArray below meth c H [] 0 0 (MQ below (xk_Qv (dC, dI) xcl (xt cI cB cJ cZ cQ) (fun u : (Nat → Int32) => True) (fun u : (Nat → Int32) => [(h0, .inr (1, xo_C (va_up (va_up (va_up (va_up f0 0 (.int 13)) 0 (.int 14)) 0 (.int 15)) 0 (.int 16)))), (h1, .inr (9, xo_Circuit f1)), (h2, .inr (10, xo_Design f2)), (h3, .inl (cB, 65536, .inl u))]) A) [.ref h0, .int x0].toArray s 0 0 A) (F0 m 0 ls []) by rw [hH] at kk; exact kk
  refine lv_aload_n hx hb dn_C_append_0 rfl (lv_at hl 0 rfl) ?_
  refine va_get (D := (dC, dI)) (ci := 1) (v := .ref h1) (C := rn_C) (T := fn_C) (N := 11) hx hb hg in_C hown hK hP 0 rfl rfl 10 (by decide) (hg _ wn_3_135) (fun _ h9 => h9) (congrArg some hf0_10) dn_C_append_1 ?_
  refine va_get (D := (dC, dI)) (ci := 9) (v := .ref h2) (C := rn_Circuit) (T := fn_Circuit) (N := 14) hx hb hg in_Circuit hown hK hP 1 rfl rfl 0 (by decide) (hg _ wn_3_62) (fun _ h9 => h9) (congrArg some hf1_0) dn_C_append_4 ?_
  refine va_get (D := (dC, dI)) (ci := 10) (v := .ref h3) (C := rn_Design) (T := fn_Design) (N := 16) hx hb hg in_Design hown hK hP 2 rfl rfl 2 (by decide) (hg _ wn_3_6) (fun _ h9 => h9) (congrArg some hf2_2) dn_C_append_7 ?_
  refine lv_astore_n (lv' := [(2, .ref h3), (0, .ref h0), (1, .int x0)]) hx hb dn_C_append_10 rfl hl (by decide) rfl (fun ls hl => ?_)
  refine lv_bipush (v := 24) hx hb dn_C_append_11 (by decide) ?_
  refine lv_istore_n (lv' := [(3, .int 24), (2, .ref h3), (0, .ref h0), (1, .int x0)]) hx hb dn_C_append_13 rfl hl (by decide) rfl (fun ls hl => ?_)
  refine lv_iload_n hx hb dn_C_append_14 rfl (lv_at hl 0 rfl) ?_
  refine lv_if_lt (tgt := 53) hx hb dn_C_append_15 (by decide) (fun h9 => absurd h9 (by decide)) (fun _ => ?_)
  refine lv_aload_n hx hb dn_C_append_18 rfl (lv_at hl 2 rfl) ?_
  refine va_get (D := (dC, dI)) (ci := 1) (v := .int 12) (C := rn_C) (T := fn_C) (N := 11) hx hb hg in_C hown hK hP 0 rfl rfl 0 (by decide) (hg _ wn_3_125) (fun _ h9 => h9) (congrArg some hf0_0) dn_C_append_19 ?_
  refine lv_aload_n hx hb dn_C_append_22 rfl (lv_at hl 1 rfl) ?_
  refine va_alen (v := 65536) hx hb hK hP 3 1 rfl rfl rfl dn_C_append_23 ?_
  refine lv_icmp_ge (tgt := 53) hx hb dn_C_append_24 (by decide) (fun h9 => absurd h9 (by decide)) (fun _ => ?_)
  refine lv_aload_n hx hb dn_C_append_27 rfl (lv_at hl 1 rfl) ?_
  refine lv_aload_n hx hb dn_C_append_28 rfl (lv_at hl 2 rfl) ?_
  refine va_get (D := (dC, dI)) (ci := 1) (v := .int 12) (C := rn_C) (T := fn_C) (N := 11) hx hb hg in_C hown hK hP 0 rfl rfl 0 (by decide) (hg _ wn_3_125) (fun _ h9 => h9) (congrArg some hf0_0) dn_C_append_29 ?_
  refine lv_iload_n hx hb dn_C_append_32 rfl (lv_at hl 3 rfl) ?_
  refine lv_iload_n hx hb dn_C_append_33 rfl (lv_at hl 0 rfl) ?_
  refine lv_iushr hx hb dn_C_append_34 rfl ?_
  refine lv_topi (fun z_1 _ => ?_)
  refine lv_i2b hx hb dn_C_append_35 rfl ?_
  refine lv_topi (fun z_2 ez_2 => ?_)
  refine va_bast hx hb hK hP hD hS 3 1 rfl rfl (show ¬ (_ ∨ _) by decide) dn_C_append_36 (fun H locs hP hD hS => ?_)
  obtain ⟨g_3, eg_3⟩ : ∃ z : Nat → Int32, z = upd g0 (12 : Int32).toNatClampNeg (vp_nar .byte z_2) := ⟨_, rfl⟩
  have hP : va_P (dC, dI) xcl [(h0, .inr (1, xo_C f0)), (h1, .inr (9, xo_Circuit f1)), (h2, .inr (10, xo_Design f2)), (h3, .inl (cB, 65536, .inl g_3))] H := by rw [eg_3]; exact hP
  have hD : va_D A [(h0, .inr (1, xo_C f0)), (h1, .inr (9, xo_Circuit f1)), (h2, .inr (10, xo_Design f2)), (h3, .inl (cB, 65536, .inl g_3))] := by rw [eg_3]; exact hD
  refine lv_aload_n hx hb dn_C_append_37 rfl (lv_at hl 2 rfl) ?_
  refine lv_dup hx hb dn_C_append_38 rfl ?_
  refine va_get (D := (dC, dI)) (ci := 1) (v := .int 12) (C := rn_C) (T := fn_C) (N := 11) hx hb hg in_C hown hK hP 0 rfl rfl 0 (by decide) (hg _ wn_3_125) (fun _ h9 => h9) (congrArg some hf0_0) dn_C_append_39 ?_
  refine lv_iconst (v := 1) hx hb dn_C_append_42 (by decide) ?_
  refine lv_iadd hx hb dn_C_append_43 ?_
  refine xk_ti (y := 13) (by decide) ?_
  refine va_put (D := (dC, dI)) (ci := 1) (v := .int 13) (ty := .int) (C := rn_C) (T := fn_C) (N := 11) hx hb hg in_C tn_C tk_C nn_C hown hK hP hD hS 0 rfl rfl 0 (by decide) (hg _ wn_3_125) (fun _ h9 => h9) rfl (tk_C 0 (by decide)) rfl rfl (Nat.le_of_ble_eq_true rfl) dn_C_append_44 (fun H locs hP hD hS => ?_)
  have hP : va_P (dC, dI) xcl [(h0, .inr (1, xo_C (va_up f0 0 (.int 13)))), (h1, .inr (9, xo_Circuit f1)), (h2, .inr (10, xo_Design f2)), (h3, .inl (cB, 65536, .inl g_3))] H := hP
  have hD : va_D A [(h0, .inr (1, xo_C (va_up f0 0 (.int 13)))), (h1, .inr (9, xo_Circuit f1)), (h2, .inr (10, xo_Design f2)), (h3, .inl (cB, 65536, .inl g_3))] := hD
  refine lv_iinc (v := 16) (lv' := [(3, .int 16), (2, .ref h3), (0, .ref h0), (1, .int x0)]) hx hb dn_C_append_47 hl (k := 0) rfl (by decide) (by decide) rfl (fun ls hl => ?_)
  refine lv_goto (tgt := 14) hx hb dn_C_append_50 (by decide) ?_
  refine lv_iload_n hx hb dn_C_append_14 rfl (lv_at hl 0 rfl) ?_
  refine lv_if_lt (tgt := 53) hx hb dn_C_append_15 (by decide) (fun h9 => absurd h9 (by decide)) (fun _ => ?_)
  refine lv_aload_n hx hb dn_C_append_18 rfl (lv_at hl 2 rfl) ?_
  refine va_get (D := (dC, dI)) (ci := 1) (v := .int 13) (C := rn_C) (T := fn_C) (N := 11) hx hb hg in_C hown hK hP 0 rfl rfl 0 (by decide) (hg _ wn_3_125) (fun _ h9 => h9) rfl dn_C_append_19 ?_
  refine lv_aload_n hx hb dn_C_append_22 rfl (lv_at hl 1 rfl) ?_
  refine va_alen (v := 65536) hx hb hK hP 3 1 rfl rfl rfl dn_C_append_23 ?_
  refine lv_icmp_ge (tgt := 53) hx hb dn_C_append_24 (by decide) (fun h9 => absurd h9 (by decide)) (fun _ => ?_)
  refine lv_aload_n hx hb dn_C_append_27 rfl (lv_at hl 1 rfl) ?_
  refine lv_aload_n hx hb dn_C_append_28 rfl (lv_at hl 2 rfl) ?_
  refine va_get (D := (dC, dI)) (ci := 1) (v := .int 13) (C := rn_C) (T := fn_C) (N := 11) hx hb hg in_C hown hK hP 0 rfl rfl 0 (by decide) (hg _ wn_3_125) (fun _ h9 => h9) rfl dn_C_append_29 ?_
  refine lv_iload_n hx hb dn_C_append_32 rfl (lv_at hl 3 rfl) ?_
  refine lv_iload_n hx hb dn_C_append_33 rfl (lv_at hl 0 rfl) ?_
  refine lv_iushr hx hb dn_C_append_34 rfl ?_
  refine lv_topi (fun z_4 _ => ?_)
  refine lv_i2b hx hb dn_C_append_35 rfl ?_
  refine lv_topi (fun z_5 ez_5 => ?_)
  refine va_bast hx hb hK hP hD hS 3 1 rfl rfl (show ¬ (_ ∨ _) by decide) dn_C_append_36 (fun H locs hP hD hS => ?_)
  obtain ⟨g_6, eg_6⟩ : ∃ z : Nat → Int32, z = upd g_3 (13 : Int32).toNatClampNeg (vp_nar .byte z_5) := ⟨_, rfl⟩
  have hP : va_P (dC, dI) xcl [(h0, .inr (1, xo_C (va_up f0 0 (.int 13)))), (h1, .inr (9, xo_Circuit f1)), (h2, .inr (10, xo_Design f2)), (h3, .inl (cB, 65536, .inl g_6))] H := by rw [eg_6]; exact hP
  have hD : va_D A [(h0, .inr (1, xo_C (va_up f0 0 (.int 13)))), (h1, .inr (9, xo_Circuit f1)), (h2, .inr (10, xo_Design f2)), (h3, .inl (cB, 65536, .inl g_6))] := by rw [eg_6]; exact hD
  refine lv_aload_n hx hb dn_C_append_37 rfl (lv_at hl 2 rfl) ?_
  refine lv_dup hx hb dn_C_append_38 rfl ?_
  refine va_get (D := (dC, dI)) (ci := 1) (v := .int 13) (C := rn_C) (T := fn_C) (N := 11) hx hb hg in_C hown hK hP 0 rfl rfl 0 (by decide) (hg _ wn_3_125) (fun _ h9 => h9) rfl dn_C_append_39 ?_
  refine lv_iconst (v := 1) hx hb dn_C_append_42 (by decide) ?_
  refine lv_iadd hx hb dn_C_append_43 ?_
  refine xk_ti (y := 14) (by decide) ?_
  refine va_put (D := (dC, dI)) (ci := 1) (v := .int 14) (ty := .int) (C := rn_C) (T := fn_C) (N := 11) hx hb hg in_C tn_C tk_C nn_C hown hK hP hD hS 0 rfl rfl 0 (by decide) (hg _ wn_3_125) (fun _ h9 => h9) rfl (tk_C 0 (by decide)) rfl rfl (Nat.le_of_ble_eq_true rfl) dn_C_append_44 (fun H locs hP hD hS => ?_)
  have hP : va_P (dC, dI) xcl [(h0, .inr (1, xo_C (va_up (va_up f0 0 (.int 13)) 0 (.int 14)))), (h1, .inr (9, xo_Circuit f1)), (h2, .inr (10, xo_Design f2)), (h3, .inl (cB, 65536, .inl g_6))] H := hP
  have hD : va_D A [(h0, .inr (1, xo_C (va_up (va_up f0 0 (.int 13)) 0 (.int 14)))), (h1, .inr (9, xo_Circuit f1)), (h2, .inr (10, xo_Design f2)), (h3, .inl (cB, 65536, .inl g_6))] := hD
  refine lv_iinc (v := 8) (lv' := [(3, .int 8), (2, .ref h3), (0, .ref h0), (1, .int x0)]) hx hb dn_C_append_47 hl (k := 0) rfl (by decide) (by decide) rfl (fun ls hl => ?_)
  refine lv_goto (tgt := 14) hx hb dn_C_append_50 (by decide) ?_
  refine lv_iload_n hx hb dn_C_append_14 rfl (lv_at hl 0 rfl) ?_
  refine lv_if_lt (tgt := 53) hx hb dn_C_append_15 (by decide) (fun h9 => absurd h9 (by decide)) (fun _ => ?_)
  refine lv_aload_n hx hb dn_C_append_18 rfl (lv_at hl 2 rfl) ?_
  refine va_get (D := (dC, dI)) (ci := 1) (v := .int 14) (C := rn_C) (T := fn_C) (N := 11) hx hb hg in_C hown hK hP 0 rfl rfl 0 (by decide) (hg _ wn_3_125) (fun _ h9 => h9) rfl dn_C_append_19 ?_
  refine lv_aload_n hx hb dn_C_append_22 rfl (lv_at hl 1 rfl) ?_
  refine va_alen (v := 65536) hx hb hK hP 3 1 rfl rfl rfl dn_C_append_23 ?_
  refine lv_icmp_ge (tgt := 53) hx hb dn_C_append_24 (by decide) (fun h9 => absurd h9 (by decide)) (fun _ => ?_)
  refine lv_aload_n hx hb dn_C_append_27 rfl (lv_at hl 1 rfl) ?_
  refine lv_aload_n hx hb dn_C_append_28 rfl (lv_at hl 2 rfl) ?_
  refine va_get (D := (dC, dI)) (ci := 1) (v := .int 14) (C := rn_C) (T := fn_C) (N := 11) hx hb hg in_C hown hK hP 0 rfl rfl 0 (by decide) (hg _ wn_3_125) (fun _ h9 => h9) rfl dn_C_append_29 ?_
  refine lv_iload_n hx hb dn_C_append_32 rfl (lv_at hl 3 rfl) ?_
  refine lv_iload_n hx hb dn_C_append_33 rfl (lv_at hl 0 rfl) ?_
  refine lv_iushr hx hb dn_C_append_34 rfl ?_
  refine lv_topi (fun z_7 _ => ?_)
  refine lv_i2b hx hb dn_C_append_35 rfl ?_
  refine lv_topi (fun z_8 ez_8 => ?_)
  refine va_bast hx hb hK hP hD hS 3 1 rfl rfl (show ¬ (_ ∨ _) by decide) dn_C_append_36 (fun H locs hP hD hS => ?_)
  obtain ⟨g_9, eg_9⟩ : ∃ z : Nat → Int32, z = upd g_6 (14 : Int32).toNatClampNeg (vp_nar .byte z_8) := ⟨_, rfl⟩
  have hP : va_P (dC, dI) xcl [(h0, .inr (1, xo_C (va_up (va_up f0 0 (.int 13)) 0 (.int 14)))), (h1, .inr (9, xo_Circuit f1)), (h2, .inr (10, xo_Design f2)), (h3, .inl (cB, 65536, .inl g_9))] H := by rw [eg_9]; exact hP
  have hD : va_D A [(h0, .inr (1, xo_C (va_up (va_up f0 0 (.int 13)) 0 (.int 14)))), (h1, .inr (9, xo_Circuit f1)), (h2, .inr (10, xo_Design f2)), (h3, .inl (cB, 65536, .inl g_9))] := by rw [eg_9]; exact hD
  refine lv_aload_n hx hb dn_C_append_37 rfl (lv_at hl 2 rfl) ?_
  refine lv_dup hx hb dn_C_append_38 rfl ?_
  refine va_get (D := (dC, dI)) (ci := 1) (v := .int 14) (C := rn_C) (T := fn_C) (N := 11) hx hb hg in_C hown hK hP 0 rfl rfl 0 (by decide) (hg _ wn_3_125) (fun _ h9 => h9) rfl dn_C_append_39 ?_
  refine lv_iconst (v := 1) hx hb dn_C_append_42 (by decide) ?_
  refine lv_iadd hx hb dn_C_append_43 ?_
  refine xk_ti (y := 15) (by decide) ?_
  refine va_put (D := (dC, dI)) (ci := 1) (v := .int 15) (ty := .int) (C := rn_C) (T := fn_C) (N := 11) hx hb hg in_C tn_C tk_C nn_C hown hK hP hD hS 0 rfl rfl 0 (by decide) (hg _ wn_3_125) (fun _ h9 => h9) rfl (tk_C 0 (by decide)) rfl rfl (Nat.le_of_ble_eq_true rfl) dn_C_append_44 (fun H locs hP hD hS => ?_)
  have hP : va_P (dC, dI) xcl [(h0, .inr (1, xo_C (va_up (va_up (va_up f0 0 (.int 13)) 0 (.int 14)) 0 (.int 15)))), (h1, .inr (9, xo_Circuit f1)), (h2, .inr (10, xo_Design f2)), (h3, .inl (cB, 65536, .inl g_9))] H := hP
  have hD : va_D A [(h0, .inr (1, xo_C (va_up (va_up (va_up f0 0 (.int 13)) 0 (.int 14)) 0 (.int 15)))), (h1, .inr (9, xo_Circuit f1)), (h2, .inr (10, xo_Design f2)), (h3, .inl (cB, 65536, .inl g_9))] := hD
  refine lv_iinc (v := 0) (lv' := [(3, .int 0), (2, .ref h3), (0, .ref h0), (1, .int x0)]) hx hb dn_C_append_47 hl (k := 0) rfl (by decide) (by decide) rfl (fun ls hl => ?_)
  refine lv_goto (tgt := 14) hx hb dn_C_append_50 (by decide) ?_
  refine lv_iload_n hx hb dn_C_append_14 rfl (lv_at hl 0 rfl) ?_
  refine lv_if_lt (tgt := 53) hx hb dn_C_append_15 (by decide) (fun h9 => absurd h9 (by decide)) (fun _ => ?_)
  refine lv_aload_n hx hb dn_C_append_18 rfl (lv_at hl 2 rfl) ?_
  refine va_get (D := (dC, dI)) (ci := 1) (v := .int 15) (C := rn_C) (T := fn_C) (N := 11) hx hb hg in_C hown hK hP 0 rfl rfl 0 (by decide) (hg _ wn_3_125) (fun _ h9 => h9) rfl dn_C_append_19 ?_
  refine lv_aload_n hx hb dn_C_append_22 rfl (lv_at hl 1 rfl) ?_
  refine va_alen (v := 65536) hx hb hK hP 3 1 rfl rfl rfl dn_C_append_23 ?_
  refine lv_icmp_ge (tgt := 53) hx hb dn_C_append_24 (by decide) (fun h9 => absurd h9 (by decide)) (fun _ => ?_)
  refine lv_aload_n hx hb dn_C_append_27 rfl (lv_at hl 1 rfl) ?_
  refine lv_aload_n hx hb dn_C_append_28 rfl (lv_at hl 2 rfl) ?_
  refine va_get (D := (dC, dI)) (ci := 1) (v := .int 15) (C := rn_C) (T := fn_C) (N := 11) hx hb hg in_C hown hK hP 0 rfl rfl 0 (by decide) (hg _ wn_3_125) (fun _ h9 => h9) rfl dn_C_append_29 ?_
  refine lv_iload_n hx hb dn_C_append_32 rfl (lv_at hl 3 rfl) ?_
  refine lv_iload_n hx hb dn_C_append_33 rfl (lv_at hl 0 rfl) ?_
  refine lv_iushr hx hb dn_C_append_34 rfl ?_
  refine lv_topi (fun z_10 _ => ?_)
  refine lv_i2b hx hb dn_C_append_35 rfl ?_
  refine lv_topi (fun z_11 ez_11 => ?_)
  refine va_bast hx hb hK hP hD hS 3 1 rfl rfl (show ¬ (_ ∨ _) by decide) dn_C_append_36 (fun H locs hP hD hS => ?_)
  obtain ⟨g_12, eg_12⟩ : ∃ z : Nat → Int32, z = upd g_9 (15 : Int32).toNatClampNeg (vp_nar .byte z_11) := ⟨_, rfl⟩
  have hP : va_P (dC, dI) xcl [(h0, .inr (1, xo_C (va_up (va_up (va_up f0 0 (.int 13)) 0 (.int 14)) 0 (.int 15)))), (h1, .inr (9, xo_Circuit f1)), (h2, .inr (10, xo_Design f2)), (h3, .inl (cB, 65536, .inl g_12))] H := by rw [eg_12]; exact hP
  have hD : va_D A [(h0, .inr (1, xo_C (va_up (va_up (va_up f0 0 (.int 13)) 0 (.int 14)) 0 (.int 15)))), (h1, .inr (9, xo_Circuit f1)), (h2, .inr (10, xo_Design f2)), (h3, .inl (cB, 65536, .inl g_12))] := by rw [eg_12]; exact hD
  refine lv_aload_n hx hb dn_C_append_37 rfl (lv_at hl 2 rfl) ?_
  refine lv_dup hx hb dn_C_append_38 rfl ?_
  refine va_get (D := (dC, dI)) (ci := 1) (v := .int 15) (C := rn_C) (T := fn_C) (N := 11) hx hb hg in_C hown hK hP 0 rfl rfl 0 (by decide) (hg _ wn_3_125) (fun _ h9 => h9) rfl dn_C_append_39 ?_
  refine lv_iconst (v := 1) hx hb dn_C_append_42 (by decide) ?_
  refine lv_iadd hx hb dn_C_append_43 ?_
  refine xk_ti (y := 16) (by decide) ?_
  refine va_put (D := (dC, dI)) (ci := 1) (v := .int 16) (ty := .int) (C := rn_C) (T := fn_C) (N := 11) hx hb hg in_C tn_C tk_C nn_C hown hK hP hD hS 0 rfl rfl 0 (by decide) (hg _ wn_3_125) (fun _ h9 => h9) rfl (tk_C 0 (by decide)) rfl rfl (Nat.le_of_ble_eq_true rfl) dn_C_append_44 (fun H locs hP hD hS => ?_)
  have hP : va_P (dC, dI) xcl [(h0, .inr (1, xo_C (va_up (va_up (va_up (va_up f0 0 (.int 13)) 0 (.int 14)) 0 (.int 15)) 0 (.int 16)))), (h1, .inr (9, xo_Circuit f1)), (h2, .inr (10, xo_Design f2)), (h3, .inl (cB, 65536, .inl g_12))] H := hP
  have hD : va_D A [(h0, .inr (1, xo_C (va_up (va_up (va_up (va_up f0 0 (.int 13)) 0 (.int 14)) 0 (.int 15)) 0 (.int 16)))), (h1, .inr (9, xo_Circuit f1)), (h2, .inr (10, xo_Design f2)), (h3, .inl (cB, 65536, .inl g_12))] := hD
  refine lv_iinc (v := (-8)) (lv' := [(3, .int (-8)), (2, .ref h3), (0, .ref h0), (1, .int x0)]) hx hb dn_C_append_47 hl (k := 0) rfl (by decide) (by decide) rfl (fun ls hl => ?_)
  refine lv_goto (tgt := 14) hx hb dn_C_append_50 (by decide) ?_
  refine lv_iload_n hx hb dn_C_append_14 rfl (lv_at hl 0 rfl) ?_
  refine lv_if_lt (tgt := 53) hx hb dn_C_append_15 (by decide) (fun _ => ?_) (fun h9 => absurd h9 (by decide))
  have hP9 := hP.sub (ws' := [(h0, .inr (1, xo_C (va_up (va_up (va_up (va_up f0 0 (.int 13)) 0 (.int 14)) 0 (.int 15)) 0 (.int 16)))), (h1, .inr (9, xo_Circuit f1)), (h2, .inr (10, xo_Design f2)), (h3, .inl (cB, 65536, .inl g_12))]) [0, 1, 2, 3] rfl
  have hD9 := hD.sub (ws' := [(h0, .inr (1, xo_C (va_up (va_up (va_up (va_up f0 0 (.int 13)) 0 (.int 14)) 0 (.int 15)) 0 (.int 16)))), (h1, .inr (9, xo_Circuit f1)), (h2, .inr (10, xo_Design f2)), (h3, .inl (cB, 65536, .inl g_12))]) [0, 1, 2, 3] (by decide) rfl
  exact xk_vret (w1 := fun u : (Nat → Int32) => [(h0, .inr (1, xo_C (va_up (va_up (va_up (va_up f0 0 (.int 13)) 0 (.int 14)) 0 (.int 15)) 0 (.int 16)))), (h1, .inr (9, xo_Circuit f1)), (h2, .inr (10, xo_Design f2)), (h3, .inl (cB, 65536, .inl u))]) (g_12) hx hb hr hlocks hK hS dn_C_append_53 hP9 hD9 trivial (Nat.le_refl _) (Nat.le_refl _)
set_option maxHeartbeats 4000000 in
set_option maxRecDepth 100000 in
theorem ct_C_append_4 (l : Launch) (dC : Nat → ClassId) (dI : Nat → Nat → Nat) (cI cB cJ cZ cQ : ClassId) (sz : Nat) (h0 : Nat) (h1 : Nat) (h2 : Nat) (h3 : Nat) (x0 : Int32) (f0 : Nat → Value) (f1 : Nat → Value) (f2 : Nat → Value) (g0 : Nat → Int32) (hf0_0 : f0 0 = .int 16) (hf0_10 : f0 10 = .ref h1) (hf1_0 : f1 0 = .ref h2) (hf2_2 : f2 2 = .ref h3) : Met l yn_C_append (xw yn_C_append bn_C_append 4 none) ({ frames := 0, cells := 0, slots := 0, locals := 0 }) (xk_P (dC, dI) xcl (xt cI cB cJ cZ cQ) [.ref h0, .int x0] sz [(h0, .inr (1, xo_C f0)), (h1, .inr (9, xo_Circuit f1)), (h2, .inr (10, xo_Design f2)), (h3, .inl (cB, 65536, .inl g0))]) (xk_Qv (dC, dI) xcl (xt cI cB cJ cZ cQ) (fun u : (Nat → Int32) => True) (fun u : (Nat → Int32) => [(h0, .inr (1, xo_C (va_up (va_up (va_up (va_up f0 0 (.int 17)) 0 (.int 18)) 0 (.int 19)) 0 (.int 20)))), (h1, .inr (9, xo_Circuit f1)), (h2, .inr (10, xo_Design f2)), (h3, .inl (cB, 65536, .inl u))]) (va_A [(h0, .inr (1, xo_C f0)), (h1, .inr (9, xo_Circuit f1)), (h2, .inr (10, xo_Design f2)), (h3, .inl (cB, 65536, .inl g0))] sz)) 0 0 (va_A [(h0, .inr (1, xo_C f0)), (h1, .inr (9, xo_Circuit f1)), (h2, .inr (10, xo_Design f2)), (h3, .inl (cB, 65536, .inl g0))] sz) := by
  refine xk_of (QA := xk_Qv (dC, dI) xcl (xt cI cB cJ cZ cQ) (fun u : (Nat → Int32) => True) (fun u : (Nat → Int32) => [(h0, .inr (1, xo_C (va_up (va_up (va_up (va_up f0 0 (.int 17)) 0 (.int 18)) 0 (.int 19)) 0 (.int 20)))), (h1, .inr (9, xo_Circuit f1)), (h2, .inr (10, xo_Design f2)), (h3, .inl (cB, 65536, .inl u))])) (by decide) (Nat.le_of_ble_eq_true rfl) ?_
  intro p e s m below meth c hx hb hml hown hg hr hlocks hin hP hK hN A hA hD hS ls hl
  have hown : s.vm.findClass rn_C = some m.cls := hown
  have hl : lv_has ls 4 [(0, .ref h0), (1, .int x0)] := hl
  obtain ⟨H, hH⟩ : ∃ z, z = s.heap := ⟨_, rfl⟩
  rw [← hH] at hP
  have hS : va_S A s.heap H [] := by rw [hH]; exact va_S.rf
  suffices kk : W p l e ({ frames := 0, cells := 0, slots := 0, locals := 0 }) s m [.ref h0, .int x0].toArray below meth c H [] 0 0 (MQ below (xk_Qv (dC, dI) xcl (xt cI cB cJ cZ cQ) (fun u : (Nat → Int32) => True) (fun u : (Nat → Int32) => [(h0, .inr (1, xo_C (va_up (va_up (va_up (va_up f0 0 (.int 17)) 0 (.int 18)) 0 (.int 19)) 0 (.int 20)))), (h1, .inr (9, xo_Circuit f1)), (h2, .inr (10, xo_Design f2)), (h3, .inl (cB, 65536, .inl u))]) A) [.ref h0, .int x0].toArray s 0 0 A) (F0 m 0 ls []) by rw [hH] at kk; exact kk
  refine lv_aload_n hx hb dn_C_append_0 rfl (lv_at hl 0 rfl) ?_
  refine va_get (D := (dC, dI)) (ci := 1) (v := .ref h1) (C := rn_C) (T := fn_C) (N := 11) hx hb hg in_C hown hK hP 0 rfl rfl 10 (by decide) (hg _ wn_3_135) (fun _ h9 => h9) (congrArg some hf0_10) dn_C_append_1 ?_
  refine va_get (D := (dC, dI)) (ci := 9) (v := .ref h2) (C := rn_Circuit) (T := fn_Circuit) (N := 14) hx hb hg in_Circuit hown hK hP 1 rfl rfl 0 (by decide) (hg _ wn_3_62) (fun _ h9 => h9) (congrArg some hf1_0) dn_C_append_4 ?_
  refine va_get (D := (dC, dI)) (ci := 10) (v := .ref h3) (C := rn_Design) (T := fn_Design) (N := 16) hx hb hg in_Design hown hK hP 2 rfl rfl 2 (by decide) (hg _ wn_3_6) (fun _ h9 => h9) (congrArg some hf2_2) dn_C_append_7 ?_
  refine lv_astore_n (lv' := [(2, .ref h3), (0, .ref h0), (1, .int x0)]) hx hb dn_C_append_10 rfl hl (by decide) rfl (fun ls hl => ?_)
  refine lv_bipush (v := 24) hx hb dn_C_append_11 (by decide) ?_
  refine lv_istore_n (lv' := [(3, .int 24), (2, .ref h3), (0, .ref h0), (1, .int x0)]) hx hb dn_C_append_13 rfl hl (by decide) rfl (fun ls hl => ?_)
  refine lv_iload_n hx hb dn_C_append_14 rfl (lv_at hl 0 rfl) ?_
  refine lv_if_lt (tgt := 53) hx hb dn_C_append_15 (by decide) (fun h9 => absurd h9 (by decide)) (fun _ => ?_)
  refine lv_aload_n hx hb dn_C_append_18 rfl (lv_at hl 2 rfl) ?_
  refine va_get (D := (dC, dI)) (ci := 1) (v := .int 16) (C := rn_C) (T := fn_C) (N := 11) hx hb hg in_C hown hK hP 0 rfl rfl 0 (by decide) (hg _ wn_3_125) (fun _ h9 => h9) (congrArg some hf0_0) dn_C_append_19 ?_
  refine lv_aload_n hx hb dn_C_append_22 rfl (lv_at hl 1 rfl) ?_
  refine va_alen (v := 65536) hx hb hK hP 3 1 rfl rfl rfl dn_C_append_23 ?_
  refine lv_icmp_ge (tgt := 53) hx hb dn_C_append_24 (by decide) (fun h9 => absurd h9 (by decide)) (fun _ => ?_)
  refine lv_aload_n hx hb dn_C_append_27 rfl (lv_at hl 1 rfl) ?_
  refine lv_aload_n hx hb dn_C_append_28 rfl (lv_at hl 2 rfl) ?_
  refine va_get (D := (dC, dI)) (ci := 1) (v := .int 16) (C := rn_C) (T := fn_C) (N := 11) hx hb hg in_C hown hK hP 0 rfl rfl 0 (by decide) (hg _ wn_3_125) (fun _ h9 => h9) (congrArg some hf0_0) dn_C_append_29 ?_
  refine lv_iload_n hx hb dn_C_append_32 rfl (lv_at hl 3 rfl) ?_
  refine lv_iload_n hx hb dn_C_append_33 rfl (lv_at hl 0 rfl) ?_
  refine lv_iushr hx hb dn_C_append_34 rfl ?_
  refine lv_topi (fun z_1 _ => ?_)
  refine lv_i2b hx hb dn_C_append_35 rfl ?_
  refine lv_topi (fun z_2 ez_2 => ?_)
  refine va_bast hx hb hK hP hD hS 3 1 rfl rfl (show ¬ (_ ∨ _) by decide) dn_C_append_36 (fun H locs hP hD hS => ?_)
  obtain ⟨g_3, eg_3⟩ : ∃ z : Nat → Int32, z = upd g0 (16 : Int32).toNatClampNeg (vp_nar .byte z_2) := ⟨_, rfl⟩
  have hP : va_P (dC, dI) xcl [(h0, .inr (1, xo_C f0)), (h1, .inr (9, xo_Circuit f1)), (h2, .inr (10, xo_Design f2)), (h3, .inl (cB, 65536, .inl g_3))] H := by rw [eg_3]; exact hP
  have hD : va_D A [(h0, .inr (1, xo_C f0)), (h1, .inr (9, xo_Circuit f1)), (h2, .inr (10, xo_Design f2)), (h3, .inl (cB, 65536, .inl g_3))] := by rw [eg_3]; exact hD
  refine lv_aload_n hx hb dn_C_append_37 rfl (lv_at hl 2 rfl) ?_
  refine lv_dup hx hb dn_C_append_38 rfl ?_
  refine va_get (D := (dC, dI)) (ci := 1) (v := .int 16) (C := rn_C) (T := fn_C) (N := 11) hx hb hg in_C hown hK hP 0 rfl rfl 0 (by decide) (hg _ wn_3_125) (fun _ h9 => h9) (congrArg some hf0_0) dn_C_append_39 ?_
  refine lv_iconst (v := 1) hx hb dn_C_append_42 (by decide) ?_
  refine lv_iadd hx hb dn_C_append_43 ?_
  refine xk_ti (y := 17) (by decide) ?_
  refine va_put (D := (dC, dI)) (ci := 1) (v := .int 17) (ty := .int) (C := rn_C) (T := fn_C) (N := 11) hx hb hg in_C tn_C tk_C nn_C hown hK hP hD hS 0 rfl rfl 0 (by decide) (hg _ wn_3_125) (fun _ h9 => h9) rfl (tk_C 0 (by decide)) rfl rfl (Nat.le_of_ble_eq_true rfl) dn_C_append_44 (fun H locs hP hD hS => ?_)
  have hP : va_P (dC, dI) xcl [(h0, .inr (1, xo_C (va_up f0 0 (.int 17)))), (h1, .inr (9, xo_Circuit f1)), (h2, .inr (10, xo_Design f2)), (h3, .inl (cB, 65536, .inl g_3))] H := hP
  have hD : va_D A [(h0, .inr (1, xo_C (va_up f0 0 (.int 17)))), (h1, .inr (9, xo_Circuit f1)), (h2, .inr (10, xo_Design f2)), (h3, .inl (cB, 65536, .inl g_3))] := hD
  refine lv_iinc (v := 16) (lv' := [(3, .int 16), (2, .ref h3), (0, .ref h0), (1, .int x0)]) hx hb dn_C_append_47 hl (k := 0) rfl (by decide) (by decide) rfl (fun ls hl => ?_)
  refine lv_goto (tgt := 14) hx hb dn_C_append_50 (by decide) ?_
  refine lv_iload_n hx hb dn_C_append_14 rfl (lv_at hl 0 rfl) ?_
  refine lv_if_lt (tgt := 53) hx hb dn_C_append_15 (by decide) (fun h9 => absurd h9 (by decide)) (fun _ => ?_)
  refine lv_aload_n hx hb dn_C_append_18 rfl (lv_at hl 2 rfl) ?_
  refine va_get (D := (dC, dI)) (ci := 1) (v := .int 17) (C := rn_C) (T := fn_C) (N := 11) hx hb hg in_C hown hK hP 0 rfl rfl 0 (by decide) (hg _ wn_3_125) (fun _ h9 => h9) rfl dn_C_append_19 ?_
  refine lv_aload_n hx hb dn_C_append_22 rfl (lv_at hl 1 rfl) ?_
  refine va_alen (v := 65536) hx hb hK hP 3 1 rfl rfl rfl dn_C_append_23 ?_
  refine lv_icmp_ge (tgt := 53) hx hb dn_C_append_24 (by decide) (fun h9 => absurd h9 (by decide)) (fun _ => ?_)
  refine lv_aload_n hx hb dn_C_append_27 rfl (lv_at hl 1 rfl) ?_
  refine lv_aload_n hx hb dn_C_append_28 rfl (lv_at hl 2 rfl) ?_
  refine va_get (D := (dC, dI)) (ci := 1) (v := .int 17) (C := rn_C) (T := fn_C) (N := 11) hx hb hg in_C hown hK hP 0 rfl rfl 0 (by decide) (hg _ wn_3_125) (fun _ h9 => h9) rfl dn_C_append_29 ?_
  refine lv_iload_n hx hb dn_C_append_32 rfl (lv_at hl 3 rfl) ?_
  refine lv_iload_n hx hb dn_C_append_33 rfl (lv_at hl 0 rfl) ?_
  refine lv_iushr hx hb dn_C_append_34 rfl ?_
  refine lv_topi (fun z_4 _ => ?_)
  refine lv_i2b hx hb dn_C_append_35 rfl ?_
  refine lv_topi (fun z_5 ez_5 => ?_)
  refine va_bast hx hb hK hP hD hS 3 1 rfl rfl (show ¬ (_ ∨ _) by decide) dn_C_append_36 (fun H locs hP hD hS => ?_)
  obtain ⟨g_6, eg_6⟩ : ∃ z : Nat → Int32, z = upd g_3 (17 : Int32).toNatClampNeg (vp_nar .byte z_5) := ⟨_, rfl⟩
  have hP : va_P (dC, dI) xcl [(h0, .inr (1, xo_C (va_up f0 0 (.int 17)))), (h1, .inr (9, xo_Circuit f1)), (h2, .inr (10, xo_Design f2)), (h3, .inl (cB, 65536, .inl g_6))] H := by rw [eg_6]; exact hP
  have hD : va_D A [(h0, .inr (1, xo_C (va_up f0 0 (.int 17)))), (h1, .inr (9, xo_Circuit f1)), (h2, .inr (10, xo_Design f2)), (h3, .inl (cB, 65536, .inl g_6))] := by rw [eg_6]; exact hD
  refine lv_aload_n hx hb dn_C_append_37 rfl (lv_at hl 2 rfl) ?_
  refine lv_dup hx hb dn_C_append_38 rfl ?_
  refine va_get (D := (dC, dI)) (ci := 1) (v := .int 17) (C := rn_C) (T := fn_C) (N := 11) hx hb hg in_C hown hK hP 0 rfl rfl 0 (by decide) (hg _ wn_3_125) (fun _ h9 => h9) rfl dn_C_append_39 ?_
  refine lv_iconst (v := 1) hx hb dn_C_append_42 (by decide) ?_
  refine lv_iadd hx hb dn_C_append_43 ?_
  refine xk_ti (y := 18) (by decide) ?_
  refine va_put (D := (dC, dI)) (ci := 1) (v := .int 18) (ty := .int) (C := rn_C) (T := fn_C) (N := 11) hx hb hg in_C tn_C tk_C nn_C hown hK hP hD hS 0 rfl rfl 0 (by decide) (hg _ wn_3_125) (fun _ h9 => h9) rfl (tk_C 0 (by decide)) rfl rfl (Nat.le_of_ble_eq_true rfl) dn_C_append_44 (fun H locs hP hD hS => ?_)
  have hP : va_P (dC, dI) xcl [(h0, .inr (1, xo_C (va_up (va_up f0 0 (.int 17)) 0 (.int 18)))), (h1, .inr (9, xo_Circuit f1)), (h2, .inr (10, xo_Design f2)), (h3, .inl (cB, 65536, .inl g_6))] H := hP
  have hD : va_D A [(h0, .inr (1, xo_C (va_up (va_up f0 0 (.int 17)) 0 (.int 18)))), (h1, .inr (9, xo_Circuit f1)), (h2, .inr (10, xo_Design f2)), (h3, .inl (cB, 65536, .inl g_6))] := hD
  refine lv_iinc (v := 8) (lv' := [(3, .int 8), (2, .ref h3), (0, .ref h0), (1, .int x0)]) hx hb dn_C_append_47 hl (k := 0) rfl (by decide) (by decide) rfl (fun ls hl => ?_)
  refine lv_goto (tgt := 14) hx hb dn_C_append_50 (by decide) ?_
  refine lv_iload_n hx hb dn_C_append_14 rfl (lv_at hl 0 rfl) ?_
  refine lv_if_lt (tgt := 53) hx hb dn_C_append_15 (by decide) (fun h9 => absurd h9 (by decide)) (fun _ => ?_)
  refine lv_aload_n hx hb dn_C_append_18 rfl (lv_at hl 2 rfl) ?_
  refine va_get (D := (dC, dI)) (ci := 1) (v := .int 18) (C := rn_C) (T := fn_C) (N := 11) hx hb hg in_C hown hK hP 0 rfl rfl 0 (by decide) (hg _ wn_3_125) (fun _ h9 => h9) rfl dn_C_append_19 ?_
  refine lv_aload_n hx hb dn_C_append_22 rfl (lv_at hl 1 rfl) ?_
  refine va_alen (v := 65536) hx hb hK hP 3 1 rfl rfl rfl dn_C_append_23 ?_
  refine lv_icmp_ge (tgt := 53) hx hb dn_C_append_24 (by decide) (fun h9 => absurd h9 (by decide)) (fun _ => ?_)
  refine lv_aload_n hx hb dn_C_append_27 rfl (lv_at hl 1 rfl) ?_
  refine lv_aload_n hx hb dn_C_append_28 rfl (lv_at hl 2 rfl) ?_
  refine va_get (D := (dC, dI)) (ci := 1) (v := .int 18) (C := rn_C) (T := fn_C) (N := 11) hx hb hg in_C hown hK hP 0 rfl rfl 0 (by decide) (hg _ wn_3_125) (fun _ h9 => h9) rfl dn_C_append_29 ?_
  refine lv_iload_n hx hb dn_C_append_32 rfl (lv_at hl 3 rfl) ?_
  refine lv_iload_n hx hb dn_C_append_33 rfl (lv_at hl 0 rfl) ?_
  refine lv_iushr hx hb dn_C_append_34 rfl ?_
  refine lv_topi (fun z_7 _ => ?_)
  refine lv_i2b hx hb dn_C_append_35 rfl ?_
  refine lv_topi (fun z_8 ez_8 => ?_)
  refine va_bast hx hb hK hP hD hS 3 1 rfl rfl (show ¬ (_ ∨ _) by decide) dn_C_append_36 (fun H locs hP hD hS => ?_)
  obtain ⟨g_9, eg_9⟩ : ∃ z : Nat → Int32, z = upd g_6 (18 : Int32).toNatClampNeg (vp_nar .byte z_8) := ⟨_, rfl⟩
  have hP : va_P (dC, dI) xcl [(h0, .inr (1, xo_C (va_up (va_up f0 0 (.int 17)) 0 (.int 18)))), (h1, .inr (9, xo_Circuit f1)), (h2, .inr (10, xo_Design f2)), (h3, .inl (cB, 65536, .inl g_9))] H := by rw [eg_9]; exact hP
  have hD : va_D A [(h0, .inr (1, xo_C (va_up (va_up f0 0 (.int 17)) 0 (.int 18)))), (h1, .inr (9, xo_Circuit f1)), (h2, .inr (10, xo_Design f2)), (h3, .inl (cB, 65536, .inl g_9))] := by rw [eg_9]; exact hD
  refine lv_aload_n hx hb dn_C_append_37 rfl (lv_at hl 2 rfl) ?_
  refine lv_dup hx hb dn_C_append_38 rfl ?_
  refine va_get (D := (dC, dI)) (ci := 1) (v := .int 18) (C := rn_C) (T := fn_C) (N := 11) hx hb hg in_C hown hK hP 0 rfl rfl 0 (by decide) (hg _ wn_3_125) (fun _ h9 => h9) rfl dn_C_append_39 ?_
  refine lv_iconst (v := 1) hx hb dn_C_append_42 (by decide) ?_
  refine lv_iadd hx hb dn_C_append_43 ?_
  refine xk_ti (y := 19) (by decide) ?_
  refine va_put (D := (dC, dI)) (ci := 1) (v := .int 19) (ty := .int) (C := rn_C) (T := fn_C) (N := 11) hx hb hg in_C tn_C tk_C nn_C hown hK hP hD hS 0 rfl rfl 0 (by decide) (hg _ wn_3_125) (fun _ h9 => h9) rfl (tk_C 0 (by decide)) rfl rfl (Nat.le_of_ble_eq_true rfl) dn_C_append_44 (fun H locs hP hD hS => ?_)
  have hP : va_P (dC, dI) xcl [(h0, .inr (1, xo_C (va_up (va_up (va_up f0 0 (.int 17)) 0 (.int 18)) 0 (.int 19)))), (h1, .inr (9, xo_Circuit f1)), (h2, .inr (10, xo_Design f2)), (h3, .inl (cB, 65536, .inl g_9))] H := hP
  have hD : va_D A [(h0, .inr (1, xo_C (va_up (va_up (va_up f0 0 (.int 17)) 0 (.int 18)) 0 (.int 19)))), (h1, .inr (9, xo_Circuit f1)), (h2, .inr (10, xo_Design f2)), (h3, .inl (cB, 65536, .inl g_9))] := hD
  refine lv_iinc (v := 0) (lv' := [(3, .int 0), (2, .ref h3), (0, .ref h0), (1, .int x0)]) hx hb dn_C_append_47 hl (k := 0) rfl (by decide) (by decide) rfl (fun ls hl => ?_)
  refine lv_goto (tgt := 14) hx hb dn_C_append_50 (by decide) ?_
  refine lv_iload_n hx hb dn_C_append_14 rfl (lv_at hl 0 rfl) ?_
  refine lv_if_lt (tgt := 53) hx hb dn_C_append_15 (by decide) (fun h9 => absurd h9 (by decide)) (fun _ => ?_)
  refine lv_aload_n hx hb dn_C_append_18 rfl (lv_at hl 2 rfl) ?_
  refine va_get (D := (dC, dI)) (ci := 1) (v := .int 19) (C := rn_C) (T := fn_C) (N := 11) hx hb hg in_C hown hK hP 0 rfl rfl 0 (by decide) (hg _ wn_3_125) (fun _ h9 => h9) rfl dn_C_append_19 ?_
  refine lv_aload_n hx hb dn_C_append_22 rfl (lv_at hl 1 rfl) ?_
  refine va_alen (v := 65536) hx hb hK hP 3 1 rfl rfl rfl dn_C_append_23 ?_
  refine lv_icmp_ge (tgt := 53) hx hb dn_C_append_24 (by decide) (fun h9 => absurd h9 (by decide)) (fun _ => ?_)
  refine lv_aload_n hx hb dn_C_append_27 rfl (lv_at hl 1 rfl) ?_
  refine lv_aload_n hx hb dn_C_append_28 rfl (lv_at hl 2 rfl) ?_
  refine va_get (D := (dC, dI)) (ci := 1) (v := .int 19) (C := rn_C) (T := fn_C) (N := 11) hx hb hg in_C hown hK hP 0 rfl rfl 0 (by decide) (hg _ wn_3_125) (fun _ h9 => h9) rfl dn_C_append_29 ?_
  refine lv_iload_n hx hb dn_C_append_32 rfl (lv_at hl 3 rfl) ?_
  refine lv_iload_n hx hb dn_C_append_33 rfl (lv_at hl 0 rfl) ?_
  refine lv_iushr hx hb dn_C_append_34 rfl ?_
  refine lv_topi (fun z_10 _ => ?_)
  refine lv_i2b hx hb dn_C_append_35 rfl ?_
  refine lv_topi (fun z_11 ez_11 => ?_)
  refine va_bast hx hb hK hP hD hS 3 1 rfl rfl (show ¬ (_ ∨ _) by decide) dn_C_append_36 (fun H locs hP hD hS => ?_)
  obtain ⟨g_12, eg_12⟩ : ∃ z : Nat → Int32, z = upd g_9 (19 : Int32).toNatClampNeg (vp_nar .byte z_11) := ⟨_, rfl⟩
  have hP : va_P (dC, dI) xcl [(h0, .inr (1, xo_C (va_up (va_up (va_up f0 0 (.int 17)) 0 (.int 18)) 0 (.int 19)))), (h1, .inr (9, xo_Circuit f1)), (h2, .inr (10, xo_Design f2)), (h3, .inl (cB, 65536, .inl g_12))] H := by rw [eg_12]; exact hP
  have hD : va_D A [(h0, .inr (1, xo_C (va_up (va_up (va_up f0 0 (.int 17)) 0 (.int 18)) 0 (.int 19)))), (h1, .inr (9, xo_Circuit f1)), (h2, .inr (10, xo_Design f2)), (h3, .inl (cB, 65536, .inl g_12))] := by rw [eg_12]; exact hD
  refine lv_aload_n hx hb dn_C_append_37 rfl (lv_at hl 2 rfl) ?_
  refine lv_dup hx hb dn_C_append_38 rfl ?_
  refine va_get (D := (dC, dI)) (ci := 1) (v := .int 19) (C := rn_C) (T := fn_C) (N := 11) hx hb hg in_C hown hK hP 0 rfl rfl 0 (by decide) (hg _ wn_3_125) (fun _ h9 => h9) rfl dn_C_append_39 ?_
  refine lv_iconst (v := 1) hx hb dn_C_append_42 (by decide) ?_
  refine lv_iadd hx hb dn_C_append_43 ?_
  refine xk_ti (y := 20) (by decide) ?_
  refine va_put (D := (dC, dI)) (ci := 1) (v := .int 20) (ty := .int) (C := rn_C) (T := fn_C) (N := 11) hx hb hg in_C tn_C tk_C nn_C hown hK hP hD hS 0 rfl rfl 0 (by decide) (hg _ wn_3_125) (fun _ h9 => h9) rfl (tk_C 0 (by decide)) rfl rfl (Nat.le_of_ble_eq_true rfl) dn_C_append_44 (fun H locs hP hD hS => ?_)
  have hP : va_P (dC, dI) xcl [(h0, .inr (1, xo_C (va_up (va_up (va_up (va_up f0 0 (.int 17)) 0 (.int 18)) 0 (.int 19)) 0 (.int 20)))), (h1, .inr (9, xo_Circuit f1)), (h2, .inr (10, xo_Design f2)), (h3, .inl (cB, 65536, .inl g_12))] H := hP
  have hD : va_D A [(h0, .inr (1, xo_C (va_up (va_up (va_up (va_up f0 0 (.int 17)) 0 (.int 18)) 0 (.int 19)) 0 (.int 20)))), (h1, .inr (9, xo_Circuit f1)), (h2, .inr (10, xo_Design f2)), (h3, .inl (cB, 65536, .inl g_12))] := hD
  refine lv_iinc (v := (-8)) (lv' := [(3, .int (-8)), (2, .ref h3), (0, .ref h0), (1, .int x0)]) hx hb dn_C_append_47 hl (k := 0) rfl (by decide) (by decide) rfl (fun ls hl => ?_)
  refine lv_goto (tgt := 14) hx hb dn_C_append_50 (by decide) ?_
  refine lv_iload_n hx hb dn_C_append_14 rfl (lv_at hl 0 rfl) ?_
  refine lv_if_lt (tgt := 53) hx hb dn_C_append_15 (by decide) (fun _ => ?_) (fun h9 => absurd h9 (by decide))
  have hP9 := hP.sub (ws' := [(h0, .inr (1, xo_C (va_up (va_up (va_up (va_up f0 0 (.int 17)) 0 (.int 18)) 0 (.int 19)) 0 (.int 20)))), (h1, .inr (9, xo_Circuit f1)), (h2, .inr (10, xo_Design f2)), (h3, .inl (cB, 65536, .inl g_12))]) [0, 1, 2, 3] rfl
  have hD9 := hD.sub (ws' := [(h0, .inr (1, xo_C (va_up (va_up (va_up (va_up f0 0 (.int 17)) 0 (.int 18)) 0 (.int 19)) 0 (.int 20)))), (h1, .inr (9, xo_Circuit f1)), (h2, .inr (10, xo_Design f2)), (h3, .inl (cB, 65536, .inl g_12))]) [0, 1, 2, 3] (by decide) rfl
  exact xk_vret (w1 := fun u : (Nat → Int32) => [(h0, .inr (1, xo_C (va_up (va_up (va_up (va_up f0 0 (.int 17)) 0 (.int 18)) 0 (.int 19)) 0 (.int 20)))), (h1, .inr (9, xo_Circuit f1)), (h2, .inr (10, xo_Design f2)), (h3, .inl (cB, 65536, .inl u))]) (g_12) hx hb hr hlocks hK hS dn_C_append_53 hP9 hD9 trivial (Nat.le_refl _) (Nat.le_refl _)
set_option maxHeartbeats 4000000 in
set_option maxRecDepth 100000 in
theorem ct_C_feed_0 (l : Launch) (dC : Nat → ClassId) (dI : Nat → Nat → Nat) (cI cB cJ cZ cQ : ClassId) (sz : Nat) (h0 : Nat) (h1 : Nat) (h2 : Nat) (h3 : Nat) (x0 : Int32) (x1 : Int32) (x2 : Int32) (x3 : Int32) (x4 : Int32) (f0 : Nat → Value) (f1 : Nat → Value) (f2 : Nat → Value) (g0 : Nat → Int32) (hf0_0 : f0 0 = .int 0) (hf0_10 : f0 10 = .ref h1) (hf1_0 : f1 0 = .ref h2) (hf2_2 : f2 2 = .ref h3) : Met l yn_C_feed (xw yn_C_feed bn_C_feed 6 (some .int)) ({ frames := 1, cells := 0, slots := 0, locals := 23 }) (xk_P (dC, dI) xcl (xt cI cB cJ cZ cQ) [.ref h0, .int x0, .int x1, .int x2, .int x3, .int x4] sz [(h0, .inr (1, xo_C f0)), (h1, .inr (9, xo_Circuit f1)), (h2, .inr (10, xo_Design f2)), (h3, .inl (cB, 65536, .inl g0))]) (xk_Qi (dC, dI) xcl (xt cI cB cJ cZ cQ) (fun (r : Int32) (u : (Nat → Int32)) => r = 20) (fun u : (Nat → Int32) => [(h0, .inr (1, xo_C (va_up (va_up (va_up (va_up (va_up (va_up (va_up (va_up (va_up (va_up (va_up (va_up (va_up (va_up (va_up (va_up (va_up (va_up (va_up (va_up f0 0 (.int 1)) 0 (.int 2)) 0 (.int 3)) 0 (.int 4)) 0 (.int 5)) 0 (.int 6)) 0 (.int 7)) 0 (.int 8)) 0 (.int 9)) 0 (.int 10)) 0 (.int 11)) 0 (.int 12)) 0 (.int 13)) 0 (.int 14)) 0 (.int 15)) 0 (.int 16)) 0 (.int 17)) 0 (.int 18)) 0 (.int 19)) 0 (.int 20)))), (h1, .inr (9, xo_Circuit f1)), (h2, .inr (10, xo_Design f2)), (h3, .inl (cB, 65536, .inl u))]) (va_A [(h0, .inr (1, xo_C f0)), (h1, .inr (9, xo_Circuit f1)), (h2, .inr (10, xo_Design f2)), (h3, .inl (cB, 65536, .inl g0))] sz)) 0 0 (va_A [(h0, .inr (1, xo_C f0)), (h1, .inr (9, xo_Circuit f1)), (h2, .inr (10, xo_Design f2)), (h3, .inl (cB, 65536, .inl g0))] sz) := by
  refine xk_of (QA := xk_Qi (dC, dI) xcl (xt cI cB cJ cZ cQ) (fun (r : Int32) (u : (Nat → Int32)) => r = 20) (fun u : (Nat → Int32) => [(h0, .inr (1, xo_C (va_up (va_up (va_up (va_up (va_up (va_up (va_up (va_up (va_up (va_up (va_up (va_up (va_up (va_up (va_up (va_up (va_up (va_up (va_up (va_up f0 0 (.int 1)) 0 (.int 2)) 0 (.int 3)) 0 (.int 4)) 0 (.int 5)) 0 (.int 6)) 0 (.int 7)) 0 (.int 8)) 0 (.int 9)) 0 (.int 10)) 0 (.int 11)) 0 (.int 12)) 0 (.int 13)) 0 (.int 14)) 0 (.int 15)) 0 (.int 16)) 0 (.int 17)) 0 (.int 18)) 0 (.int 19)) 0 (.int 20)))), (h1, .inr (9, xo_Circuit f1)), (h2, .inr (10, xo_Design f2)), (h3, .inl (cB, 65536, .inl u))])) (by decide) (Nat.le_of_ble_eq_true rfl) ?_
  intro p e s m below meth c hx hb hml hown hg hr hlocks hin hP hK hN A hA hD hS ls hl
  have hown : s.vm.findClass rn_C = some m.cls := hown
  have hl : lv_has ls 6 [(0, .ref h0), (1, .int x0), (2, .int x1), (3, .int x2), (4, .int x3), (5, .int x4)] := hl
  obtain ⟨H, hH⟩ : ∃ z, z = s.heap := ⟨_, rfl⟩
  rw [← hH] at hP
  have hS : va_S A s.heap H [] := by rw [hH]; exact va_S.rf
  suffices kk : W p l e ({ frames := 1, cells := 0, slots := 0, locals := 23 }) s m [.ref h0, .int x0, .int x1, .int x2, .int x3, .int x4].toArray below meth c H [] 0 0 (MQ below (xk_Qi (dC, dI) xcl (xt cI cB cJ cZ cQ) (fun (r : Int32) (u : (Nat → Int32)) => r = 20) (fun u : (Nat → Int32) => [(h0, .inr (1, xo_C (va_up (va_up (va_up (va_up (va_up (va_up (va_up (va_up (va_up (va_up (va_up (va_up (va_up (va_up (va_up (va_up (va_up (va_up (va_up (va_up f0 0 (.int 1)) 0 (.int 2)) 0 (.int 3)) 0 (.int 4)) 0 (.int 5)) 0 (.int 6)) 0 (.int 7)) 0 (.int 8)) 0 (.int 9)) 0 (.int 10)) 0 (.int 11)) 0 (.int 12)) 0 (.int 13)) 0 (.int 14)) 0 (.int 15)) 0 (.int 16)) 0 (.int 17)) 0 (.int 18)) 0 (.int 19)) 0 (.int 20)))), (h1, .inr (9, xo_Circuit f1)), (h2, .inr (10, xo_Design f2)), (h3, .inl (cB, 65536, .inl u))]) A) [.ref h0, .int x0, .int x1, .int x2, .int x3, .int x4].toArray s 0 0 A) (F0 m 0 ls []) by rw [hH] at kk; exact kk
  refine lv_aload_n hx hb dn_C_feed_0 rfl (lv_at hl 0 rfl) ?_
  refine va_get (D := (dC, dI)) (ci := 1) (v := .int 0) (C := rn_C) (T := fn_C) (N := 11) hx hb hg in_C hown hK hP 0 rfl rfl 0 (by decide) (hg _ wn_3_125) (fun _ h9 => h9) (congrArg some hf0_0) dn_C_feed_1 ?_
  refine lv_bipush (v := 20) hx hb dn_C_feed_4 (by decide) ?_
  refine lv_iadd hx hb dn_C_feed_6 ?_
  refine xk_ti (y := 20) (by decide) ?_
  refine lv_ldc hx hb hown (hg _ wn_7_23) dn_C_feed_7 ?_
  refine lv_icmp_le (tgt := 20) hx hb dn_C_feed_9 (by decide) (fun _ => ?_) (fun h9 => absurd h9 (by decide))
  refine lv_aload_n hx hb dn_C_feed_20 rfl (lv_at hl 0 rfl) ?_
  refine lv_iload_n hx hb dn_C_feed_21 rfl (lv_at hl 1 rfl) ?_
  have hPc := hP.sub (ws' := [(h0, .inr (1, xo_C f0)), (h1, .inr (9, xo_Circuit f1)), (h2, .inr (10, xo_Design f2)), (h3, .inl (cB, 65536, .inl g0))]) [0, 1, 2, 3] rfl
  have hDc := hD.sub (ws' := [(h0, .inr (1, xo_C f0)), (h1, .inr (9, xo_Circuit f1)), (h2, .inr (10, xo_Design f2)), (h3, .inl (cB, 65536, .inl g0))]) [0, 1, 2, 3] (by decide) rfl
  refine xk_callv (wr := []) (xk_runV (ar := 1) (As := [.int x0]) (rest := []) (ci := 1) (q0 := 0) ⟨hx, hb, hml, hown, hg⟩ hK hN (ct_C_append_0 l dC dI cI cB cJ cZ cQ H.size h0 h1 h2 h3 x0 f0 f1 f2 g0 hf0_0 hf0_10 hf1_0 hf2_2) hPc hDc rfl rfl wn_7_88 wn_7_90 sn_C_append wn_1_1 wn_7_91 rfl rfl (by decide +kernel) ⟨Nat.le_of_ble_eq_true rfl, Nat.le_of_ble_eq_true rfl⟩ rfl hl.1 rfl (Nat.le_of_ble_eq_true rfl) dn_C_feed_22 ⟨Nat.le_of_ble_eq_true rfl, Nat.le_of_ble_eq_true rfl⟩) hP hD hS hA [0, 1, 2, 3] [] rfl rfl (by decide) (by decide) (fun g_1 H locs hw hP hD hS => ?_)
  have hP : va_P (dC, dI) xcl [(h0, .inr (1, xo_C (va_up (va_up (va_up (va_up f0 0 (.int 1)) 0 (.int 2)) 0 (.int 3)) 0 (.int 4)))), (h1, .inr (9, xo_Circuit f1)), (h2, .inr (10, xo_Design f2)), (h3, .inl (cB, 65536, .inl g_1))] H := hP
  have hD : va_D A [(h0, .inr (1, xo_C (va_up (va_up (va_up (va_up f0 0 (.int 1)) 0 (.int 2)) 0 (.int 3)) 0 (.int 4)))), (h1, .inr (9, xo_Circuit f1)), (h2, .inr (10, xo_Design f2)), (h3, .inl (cB, 65536, .inl g_1))] := hD
  refine lv_aload_n hx hb dn_C_feed_25 rfl (lv_at hl 0 rfl) ?_
  refine lv_iload_n hx hb dn_C_feed_26 rfl (lv_at hl 2 rfl) ?_
  have hPc := hP.sub (ws' := [(h0, .inr (1, xo_C (va_up (va_up (va_up (va_up f0 0 (.int 1)) 0 (.int 2)) 0 (.int 3)) 0 (.int 4)))), (h1, .inr (9, xo_Circuit f1)), (h2, .inr (10, xo_Design f2)), (h3, .inl (cB, 65536, .inl g_1))]) [0, 1, 2, 3] rfl
  have hDc := hD.sub (ws' := [(h0, .inr (1, xo_C (va_up (va_up (va_up (va_up f0 0 (.int 1)) 0 (.int 2)) 0 (.int 3)) 0 (.int 4)))), (h1, .inr (9, xo_Circuit f1)), (h2, .inr (10, xo_Design f2)), (h3, .inl (cB, 65536, .inl g_1))]) [0, 1, 2, 3] (by decide) rfl
  refine xk_callv (wr := []) (xk_runV (ar := 1) (As := [.int x1]) (rest := []) (ci := 1) (q0 := 0) ⟨hx, hb, hml, hown, hg⟩ hK hN (ct_C_append_1 l dC dI cI cB cJ cZ cQ H.size h0 h1 h2 h3 x1 (va_up (va_up (va_up (va_up f0 0 (.int 1)) 0 (.int 2)) 0 (.int 3)) 0 (.int 4)) f1 f2 g_1 (show (va_up (va_up (va_up (va_up f0 0 (.int 1)) 0 (.int 2)) 0 (.int 3)) 0 (.int 4)) 0 = .int 4 from rfl) hf0_10 hf1_0 hf2_2) hPc hDc rfl rfl wn_7_88 wn_7_90 sn_C_append wn_1_1 wn_7_91 rfl rfl (by decide +kernel) ⟨Nat.le_of_ble_eq_true rfl, Nat.le_of_ble_eq_true rfl⟩ rfl hl.1 rfl (Nat.le_of_ble_eq_true rfl) dn_C_feed_27 ⟨Nat.le_of_ble_eq_true rfl, Nat.le_of_ble_eq_true rfl⟩) hP hD hS hA [0, 1, 2, 3] [] rfl rfl (by decide) (by decide) (fun g_2 H locs hw hP hD hS => ?_)
  have hP : va_P (dC, dI) xcl [(h0, .inr (1, xo_C (va_up (va_up (va_up (va_up (va_up (va_up (va_up (va_up f0 0 (.int 1)) 0 (.int 2)) 0 (.int 3)) 0 (.int 4)) 0 (.int 5)) 0 (.int 6)) 0 (.int 7)) 0 (.int 8)))), (h1, .inr (9, xo_Circuit f1)), (h2, .inr (10, xo_Design f2)), (h3, .inl (cB, 65536, .inl g_2))] H := hP
  have hD : va_D A [(h0, .inr (1, xo_C (va_up (va_up (va_up (va_up (va_up (va_up (va_up (va_up f0 0 (.int 1)) 0 (.int 2)) 0 (.int 3)) 0 (.int 4)) 0 (.int 5)) 0 (.int 6)) 0 (.int 7)) 0 (.int 8)))), (h1, .inr (9, xo_Circuit f1)), (h2, .inr (10, xo_Design f2)), (h3, .inl (cB, 65536, .inl g_2))] := hD
  refine lv_aload_n hx hb dn_C_feed_30 rfl (lv_at hl 0 rfl) ?_
  refine lv_iload_n hx hb dn_C_feed_31 rfl (lv_at hl 3 rfl) ?_
  have hPc := hP.sub (ws' := [(h0, .inr (1, xo_C (va_up (va_up (va_up (va_up (va_up (va_up (va_up (va_up f0 0 (.int 1)) 0 (.int 2)) 0 (.int 3)) 0 (.int 4)) 0 (.int 5)) 0 (.int 6)) 0 (.int 7)) 0 (.int 8)))), (h1, .inr (9, xo_Circuit f1)), (h2, .inr (10, xo_Design f2)), (h3, .inl (cB, 65536, .inl g_2))]) [0, 1, 2, 3] rfl
  have hDc := hD.sub (ws' := [(h0, .inr (1, xo_C (va_up (va_up (va_up (va_up (va_up (va_up (va_up (va_up f0 0 (.int 1)) 0 (.int 2)) 0 (.int 3)) 0 (.int 4)) 0 (.int 5)) 0 (.int 6)) 0 (.int 7)) 0 (.int 8)))), (h1, .inr (9, xo_Circuit f1)), (h2, .inr (10, xo_Design f2)), (h3, .inl (cB, 65536, .inl g_2))]) [0, 1, 2, 3] (by decide) rfl
  refine xk_callv (wr := []) (xk_runV (ar := 1) (As := [.int x2]) (rest := []) (ci := 1) (q0 := 0) ⟨hx, hb, hml, hown, hg⟩ hK hN (ct_C_append_2 l dC dI cI cB cJ cZ cQ H.size h0 h1 h2 h3 x2 (va_up (va_up (va_up (va_up (va_up (va_up (va_up (va_up f0 0 (.int 1)) 0 (.int 2)) 0 (.int 3)) 0 (.int 4)) 0 (.int 5)) 0 (.int 6)) 0 (.int 7)) 0 (.int 8)) f1 f2 g_2 (show (va_up (va_up (va_up (va_up (va_up (va_up (va_up (va_up f0 0 (.int 1)) 0 (.int 2)) 0 (.int 3)) 0 (.int 4)) 0 (.int 5)) 0 (.int 6)) 0 (.int 7)) 0 (.int 8)) 0 = .int 8 from rfl) hf0_10 hf1_0 hf2_2) hPc hDc rfl rfl wn_7_88 wn_7_90 sn_C_append wn_1_1 wn_7_91 rfl rfl (by decide +kernel) ⟨Nat.le_of_ble_eq_true rfl, Nat.le_of_ble_eq_true rfl⟩ rfl hl.1 rfl (Nat.le_of_ble_eq_true rfl) dn_C_feed_32 ⟨Nat.le_of_ble_eq_true rfl, Nat.le_of_ble_eq_true rfl⟩) hP hD hS hA [0, 1, 2, 3] [] rfl rfl (by decide) (by decide) (fun g_3 H locs hw hP hD hS => ?_)
  have hP : va_P (dC, dI) xcl [(h0, .inr (1, xo_C (va_up (va_up (va_up (va_up (va_up (va_up (va_up (va_up (va_up (va_up (va_up (va_up f0 0 (.int 1)) 0 (.int 2)) 0 (.int 3)) 0 (.int 4)) 0 (.int 5)) 0 (.int 6)) 0 (.int 7)) 0 (.int 8)) 0 (.int 9)) 0 (.int 10)) 0 (.int 11)) 0 (.int 12)))), (h1, .inr (9, xo_Circuit f1)), (h2, .inr (10, xo_Design f2)), (h3, .inl (cB, 65536, .inl g_3))] H := hP
  have hD : va_D A [(h0, .inr (1, xo_C (va_up (va_up (va_up (va_up (va_up (va_up (va_up (va_up (va_up (va_up (va_up (va_up f0 0 (.int 1)) 0 (.int 2)) 0 (.int 3)) 0 (.int 4)) 0 (.int 5)) 0 (.int 6)) 0 (.int 7)) 0 (.int 8)) 0 (.int 9)) 0 (.int 10)) 0 (.int 11)) 0 (.int 12)))), (h1, .inr (9, xo_Circuit f1)), (h2, .inr (10, xo_Design f2)), (h3, .inl (cB, 65536, .inl g_3))] := hD
  refine lv_aload_n hx hb dn_C_feed_35 rfl (lv_at hl 0 rfl) ?_
  refine lv_iload hx hb dn_C_feed_36 (lv_at hl 4 rfl) ?_
  have hPc := hP.sub (ws' := [(h0, .inr (1, xo_C (va_up (va_up (va_up (va_up (va_up (va_up (va_up (va_up (va_up (va_up (va_up (va_up f0 0 (.int 1)) 0 (.int 2)) 0 (.int 3)) 0 (.int 4)) 0 (.int 5)) 0 (.int 6)) 0 (.int 7)) 0 (.int 8)) 0 (.int 9)) 0 (.int 10)) 0 (.int 11)) 0 (.int 12)))), (h1, .inr (9, xo_Circuit f1)), (h2, .inr (10, xo_Design f2)), (h3, .inl (cB, 65536, .inl g_3))]) [0, 1, 2, 3] rfl
  have hDc := hD.sub (ws' := [(h0, .inr (1, xo_C (va_up (va_up (va_up (va_up (va_up (va_up (va_up (va_up (va_up (va_up (va_up (va_up f0 0 (.int 1)) 0 (.int 2)) 0 (.int 3)) 0 (.int 4)) 0 (.int 5)) 0 (.int 6)) 0 (.int 7)) 0 (.int 8)) 0 (.int 9)) 0 (.int 10)) 0 (.int 11)) 0 (.int 12)))), (h1, .inr (9, xo_Circuit f1)), (h2, .inr (10, xo_Design f2)), (h3, .inl (cB, 65536, .inl g_3))]) [0, 1, 2, 3] (by decide) rfl
  refine xk_callv (wr := []) (xk_runV (ar := 1) (As := [.int x3]) (rest := []) (ci := 1) (q0 := 0) ⟨hx, hb, hml, hown, hg⟩ hK hN (ct_C_append_3 l dC dI cI cB cJ cZ cQ H.size h0 h1 h2 h3 x3 (va_up (va_up (va_up (va_up (va_up (va_up (va_up (va_up (va_up (va_up (va_up (va_up f0 0 (.int 1)) 0 (.int 2)) 0 (.int 3)) 0 (.int 4)) 0 (.int 5)) 0 (.int 6)) 0 (.int 7)) 0 (.int 8)) 0 (.int 9)) 0 (.int 10)) 0 (.int 11)) 0 (.int 12)) f1 f2 g_3 (show (va_up (va_up (va_up (va_up (va_up (va_up (va_up (va_up (va_up (va_up (va_up (va_up f0 0 (.int 1)) 0 (.int 2)) 0 (.int 3)) 0 (.int 4)) 0 (.int 5)) 0 (.int 6)) 0 (.int 7)) 0 (.int 8)) 0 (.int 9)) 0 (.int 10)) 0 (.int 11)) 0 (.int 12)) 0 = .int 12 from rfl) hf0_10 hf1_0 hf2_2) hPc hDc rfl rfl wn_7_88 wn_7_90 sn_C_append wn_1_1 wn_7_91 rfl rfl (by decide +kernel) ⟨Nat.le_of_ble_eq_true rfl, Nat.le_of_ble_eq_true rfl⟩ rfl hl.1 rfl (Nat.le_of_ble_eq_true rfl) dn_C_feed_38 ⟨Nat.le_of_ble_eq_true rfl, Nat.le_of_ble_eq_true rfl⟩) hP hD hS hA [0, 1, 2, 3] [] rfl rfl (by decide) (by decide) (fun g_4 H locs hw hP hD hS => ?_)
  have hP : va_P (dC, dI) xcl [(h0, .inr (1, xo_C (va_up (va_up (va_up (va_up (va_up (va_up (va_up (va_up (va_up (va_up (va_up (va_up (va_up (va_up (va_up (va_up f0 0 (.int 1)) 0 (.int 2)) 0 (.int 3)) 0 (.int 4)) 0 (.int 5)) 0 (.int 6)) 0 (.int 7)) 0 (.int 8)) 0 (.int 9)) 0 (.int 10)) 0 (.int 11)) 0 (.int 12)) 0 (.int 13)) 0 (.int 14)) 0 (.int 15)) 0 (.int 16)))), (h1, .inr (9, xo_Circuit f1)), (h2, .inr (10, xo_Design f2)), (h3, .inl (cB, 65536, .inl g_4))] H := hP
  have hD : va_D A [(h0, .inr (1, xo_C (va_up (va_up (va_up (va_up (va_up (va_up (va_up (va_up (va_up (va_up (va_up (va_up (va_up (va_up (va_up (va_up f0 0 (.int 1)) 0 (.int 2)) 0 (.int 3)) 0 (.int 4)) 0 (.int 5)) 0 (.int 6)) 0 (.int 7)) 0 (.int 8)) 0 (.int 9)) 0 (.int 10)) 0 (.int 11)) 0 (.int 12)) 0 (.int 13)) 0 (.int 14)) 0 (.int 15)) 0 (.int 16)))), (h1, .inr (9, xo_Circuit f1)), (h2, .inr (10, xo_Design f2)), (h3, .inl (cB, 65536, .inl g_4))] := hD
  refine lv_aload_n hx hb dn_C_feed_41 rfl (lv_at hl 0 rfl) ?_
  refine lv_iload hx hb dn_C_feed_42 (lv_at hl 5 rfl) ?_
  have hPc := hP.sub (ws' := [(h0, .inr (1, xo_C (va_up (va_up (va_up (va_up (va_up (va_up (va_up (va_up (va_up (va_up (va_up (va_up (va_up (va_up (va_up (va_up f0 0 (.int 1)) 0 (.int 2)) 0 (.int 3)) 0 (.int 4)) 0 (.int 5)) 0 (.int 6)) 0 (.int 7)) 0 (.int 8)) 0 (.int 9)) 0 (.int 10)) 0 (.int 11)) 0 (.int 12)) 0 (.int 13)) 0 (.int 14)) 0 (.int 15)) 0 (.int 16)))), (h1, .inr (9, xo_Circuit f1)), (h2, .inr (10, xo_Design f2)), (h3, .inl (cB, 65536, .inl g_4))]) [0, 1, 2, 3] rfl
  have hDc := hD.sub (ws' := [(h0, .inr (1, xo_C (va_up (va_up (va_up (va_up (va_up (va_up (va_up (va_up (va_up (va_up (va_up (va_up (va_up (va_up (va_up (va_up f0 0 (.int 1)) 0 (.int 2)) 0 (.int 3)) 0 (.int 4)) 0 (.int 5)) 0 (.int 6)) 0 (.int 7)) 0 (.int 8)) 0 (.int 9)) 0 (.int 10)) 0 (.int 11)) 0 (.int 12)) 0 (.int 13)) 0 (.int 14)) 0 (.int 15)) 0 (.int 16)))), (h1, .inr (9, xo_Circuit f1)), (h2, .inr (10, xo_Design f2)), (h3, .inl (cB, 65536, .inl g_4))]) [0, 1, 2, 3] (by decide) rfl
  refine xk_callv (wr := []) (xk_runV (ar := 1) (As := [.int x4]) (rest := []) (ci := 1) (q0 := 0) ⟨hx, hb, hml, hown, hg⟩ hK hN (ct_C_append_4 l dC dI cI cB cJ cZ cQ H.size h0 h1 h2 h3 x4 (va_up (va_up (va_up (va_up (va_up (va_up (va_up (va_up (va_up (va_up (va_up (va_up (va_up (va_up (va_up (va_up f0 0 (.int 1)) 0 (.int 2)) 0 (.int 3)) 0 (.int 4)) 0 (.int 5)) 0 (.int 6)) 0 (.int 7)) 0 (.int 8)) 0 (.int 9)) 0 (.int 10)) 0 (.int 11)) 0 (.int 12)) 0 (.int 13)) 0 (.int 14)) 0 (.int 15)) 0 (.int 16)) f1 f2 g_4 (show (va_up (va_up (va_up (va_up (va_up (va_up (va_up (va_up (va_up (va_up (va_up (va_up (va_up (va_up (va_up (va_up f0 0 (.int 1)) 0 (.int 2)) 0 (.int 3)) 0 (.int 4)) 0 (.int 5)) 0 (.int 6)) 0 (.int 7)) 0 (.int 8)) 0 (.int 9)) 0 (.int 10)) 0 (.int 11)) 0 (.int 12)) 0 (.int 13)) 0 (.int 14)) 0 (.int 15)) 0 (.int 16)) 0 = .int 16 from rfl) hf0_10 hf1_0 hf2_2) hPc hDc rfl rfl wn_7_88 wn_7_90 sn_C_append wn_1_1 wn_7_91 rfl rfl (by decide +kernel) ⟨Nat.le_of_ble_eq_true rfl, Nat.le_of_ble_eq_true rfl⟩ rfl hl.1 rfl (Nat.le_of_ble_eq_true rfl) dn_C_feed_44 ⟨Nat.le_of_ble_eq_true rfl, Nat.le_of_ble_eq_true rfl⟩) hP hD hS hA [0, 1, 2, 3] [] rfl rfl (by decide) (by decide) (fun g_5 H locs hw hP hD hS => ?_)
  have hP : va_P (dC, dI) xcl [(h0, .inr (1, xo_C (va_up (va_up (va_up (va_up (va_up (va_up (va_up (va_up (va_up (va_up (va_up (va_up (va_up (va_up (va_up (va_up (va_up (va_up (va_up (va_up f0 0 (.int 1)) 0 (.int 2)) 0 (.int 3)) 0 (.int 4)) 0 (.int 5)) 0 (.int 6)) 0 (.int 7)) 0 (.int 8)) 0 (.int 9)) 0 (.int 10)) 0 (.int 11)) 0 (.int 12)) 0 (.int 13)) 0 (.int 14)) 0 (.int 15)) 0 (.int 16)) 0 (.int 17)) 0 (.int 18)) 0 (.int 19)) 0 (.int 20)))), (h1, .inr (9, xo_Circuit f1)), (h2, .inr (10, xo_Design f2)), (h3, .inl (cB, 65536, .inl g_5))] H := hP
  have hD : va_D A [(h0, .inr (1, xo_C (va_up (va_up (va_up (va_up (va_up (va_up (va_up (va_up (va_up (va_up (va_up (va_up (va_up (va_up (va_up (va_up (va_up (va_up (va_up (va_up f0 0 (.int 1)) 0 (.int 2)) 0 (.int 3)) 0 (.int 4)) 0 (.int 5)) 0 (.int 6)) 0 (.int 7)) 0 (.int 8)) 0 (.int 9)) 0 (.int 10)) 0 (.int 11)) 0 (.int 12)) 0 (.int 13)) 0 (.int 14)) 0 (.int 15)) 0 (.int 16)) 0 (.int 17)) 0 (.int 18)) 0 (.int 19)) 0 (.int 20)))), (h1, .inr (9, xo_Circuit f1)), (h2, .inr (10, xo_Design f2)), (h3, .inl (cB, 65536, .inl g_5))] := hD
  refine lv_aload_n hx hb dn_C_feed_47 rfl (lv_at hl 0 rfl) ?_
  refine va_get (D := (dC, dI)) (ci := 1) (v := .int 20) (C := rn_C) (T := fn_C) (N := 11) hx hb hg in_C hown hK hP 0 rfl rfl 0 (by decide) (hg _ wn_3_125) (fun _ h9 => h9) rfl dn_C_feed_48 ?_
  have hP9 := hP.sub (ws' := [(h0, .inr (1, xo_C (va_up (va_up (va_up (va_up (va_up (va_up (va_up (va_up (va_up (va_up (va_up (va_up (va_up (va_up (va_up (va_up (va_up (va_up (va_up (va_up f0 0 (.int 1)) 0 (.int 2)) 0 (.int 3)) 0 (.int 4)) 0 (.int 5)) 0 (.int 6)) 0 (.int 7)) 0 (.int 8)) 0 (.int 9)) 0 (.int 10)) 0 (.int 11)) 0 (.int 12)) 0 (.int 13)) 0 (.int 14)) 0 (.int 15)) 0 (.int 16)) 0 (.int 17)) 0 (.int 18)) 0 (.int 19)) 0 (.int 20)))), (h1, .inr (9, xo_Circuit f1)), (h2, .inr (10, xo_Design f2)), (h3, .inl (cB, 65536, .inl g_5))]) [0, 1, 2, 3] rfl
  have hD9 := hD.sub (ws' := [(h0, .inr (1, xo_C (va_up (va_up (va_up (va_up (va_up (va_up (va_up (va_up (va_up (va_up (va_up (va_up (va_up (va_up (va_up (va_up (va_up (va_up (va_up (va_up f0 0 (.int 1)) 0 (.int 2)) 0 (.int 3)) 0 (.int 4)) 0 (.int 5)) 0 (.int 6)) 0 (.int 7)) 0 (.int 8)) 0 (.int 9)) 0 (.int 10)) 0 (.int 11)) 0 (.int 12)) 0 (.int 13)) 0 (.int 14)) 0 (.int 15)) 0 (.int 16)) 0 (.int 17)) 0 (.int 18)) 0 (.int 19)) 0 (.int 20)))), (h1, .inr (9, xo_Circuit f1)), (h2, .inr (10, xo_Design f2)), (h3, .inl (cB, 65536, .inl g_5))]) [0, 1, 2, 3] (by decide) rfl
  exact xk_iret (w1 := fun u : (Nat → Int32) => [(h0, .inr (1, xo_C (va_up (va_up (va_up (va_up (va_up (va_up (va_up (va_up (va_up (va_up (va_up (va_up (va_up (va_up (va_up (va_up (va_up (va_up (va_up (va_up f0 0 (.int 1)) 0 (.int 2)) 0 (.int 3)) 0 (.int 4)) 0 (.int 5)) 0 (.int 6)) 0 (.int 7)) 0 (.int 8)) 0 (.int 9)) 0 (.int 10)) 0 (.int 11)) 0 (.int 12)) 0 (.int 13)) 0 (.int 14)) 0 (.int 15)) 0 (.int 16)) 0 (.int 17)) 0 (.int 18)) 0 (.int 19)) 0 (.int 20)))), (h1, .inr (9, xo_Circuit f1)), (h2, .inr (10, xo_Design f2)), (h3, .inl (cB, 65536, .inl u))]) (g_5) hx hb hr hlocks hK hS dn_C_feed_51 hP9 hD9 rfl (Nat.le_refl _) (Nat.le_refl _)
set_option maxHeartbeats 4000000 in
set_option maxRecDepth 100000 in
theorem ct_L_feed_0 (l : Launch) (hlt : l.stackTraces = false) (dC : Nat → ClassId) (dI : Nat → Nat → Nat) (cI cB cJ cZ cQ : ClassId) (sz : Nat) (h0 : Nat) (h1 : Nat) (h2 : Nat) (h3 : Nat) (h4 : Nat) (x0 : Int32) (x1 : Int32) (x2 : Int32) (x3 : Int32) (x4 : Int32) (f0 : Nat → Value) (f1 : Nat → Value) (f2 : Nat → Value) (g0 : Nat → Int32) (g1 : Nat → Int64) (hf0_0 : f0 0 = .int 0) (hf0_10 : f0 10 = .ref h1) (hf1_0 : f1 0 = .ref h2) (hf2_2 : f2 2 = .ref h3) : Met l yn_L_feed (Cond.codeWith yn_L_feed bn_L_feed 8 (some .int) [(0, 16, 19, 13)] :: xw_G) ({ frames := 2, cells := 0, slots := 0, locals := 48 }) (xk_PX (dC, dI) xcl (xt cI cB cJ cZ cQ) [.ref h0, .int x0, .int x1, .int x2, .int x3, .int x4, .ref h4] sz [(h0, .inr (1, xo_C f0)), (h1, .inr (9, xo_Circuit f1)), (h2, .inr (10, xo_Design f2)), (h3, .inl (cB, 65536, .inl g0)), (h4, .inl (cJ, 1, .inr (.inl g1)))]) (xk_Qi (dC, dI) xcl (xt cI cB cJ cZ cQ) (fun (r : Int32) (u : (Nat → Int32)) => r = 0) (fun u : (Nat → Int32) => [(h4, .inl (cJ, 1, .inr (.inl (vp_updL g1 0 20)))), (h0, .inr (1, xo_C (va_up (va_up (va_up (va_up (va_up (va_up (va_up (va_up (va_up (va_up (va_up (va_up (va_up (va_up (va_up (va_up (va_up (va_up (va_up (va_up f0 0 (.int 1)) 0 (.int 2)) 0 (.int 3)) 0 (.int 4)) 0 (.int 5)) 0 (.int 6)) 0 (.int 7)) 0 (.int 8)) 0 (.int 9)) 0 (.int 10)) 0 (.int 11)) 0 (.int 12)) 0 (.int 13)) 0 (.int 14)) 0 (.int 15)) 0 (.int 16)) 0 (.int 17)) 0 (.int 18)) 0 (.int 19)) 0 (.int 20)))), (h1, .inr (9, xo_Circuit f1)), (h2, .inr (10, xo_Design f2)), (h3, .inl (cB, 65536, .inl u))]) (va_A [(h0, .inr (1, xo_C f0)), (h1, .inr (9, xo_Circuit f1)), (h2, .inr (10, xo_Design f2)), (h3, .inl (cB, 65536, .inl g0)), (h4, .inl (cJ, 1, .inr (.inl g1)))] sz)) 0 0 (va_A [(h0, .inr (1, xo_C f0)), (h1, .inr (9, xo_Circuit f1)), (h2, .inr (10, xo_Design f2)), (h3, .inl (cB, 65536, .inl g0)), (h4, .inl (cJ, 1, .inr (.inl g1)))] sz) := by
  refine xk_ofH (QA := xk_Qi (dC, dI) xcl (xt cI cB cJ cZ cQ) (fun (r : Int32) (u : (Nat → Int32)) => r = 0) (fun u : (Nat → Int32) => [(h4, .inl (cJ, 1, .inr (.inl (vp_updL g1 0 20)))), (h0, .inr (1, xo_C (va_up (va_up (va_up (va_up (va_up (va_up (va_up (va_up (va_up (va_up (va_up (va_up (va_up (va_up (va_up (va_up (va_up (va_up (va_up (va_up f0 0 (.int 1)) 0 (.int 2)) 0 (.int 3)) 0 (.int 4)) 0 (.int 5)) 0 (.int 6)) 0 (.int 7)) 0 (.int 8)) 0 (.int 9)) 0 (.int 10)) 0 (.int 11)) 0 (.int 12)) 0 (.int 13)) 0 (.int 14)) 0 (.int 15)) 0 (.int 16)) 0 (.int 17)) 0 (.int 18)) 0 (.int 19)) 0 (.int 20)))), (h1, .inr (9, xo_Circuit f1)), (h2, .inr (10, xo_Design f2)), (h3, .inl (cB, 65536, .inl u))])) (by decide) (Nat.le_of_ble_eq_true rfl) ?_
  intro p e s m below meth c hx hb hml hown hg hr hlocks htab hst hP hK hN A hA hD hS ls hl
  have hown : s.vm.findClass rn_L = some m.cls := hown
  have hl : lv_has ls 8 [(0, .ref h0), (1, .int x0), (2, .int x1), (3, .int x2), (4, .int x3), (5, .int x4), (6, .ref h4)] := hl
  obtain ⟨H, hH⟩ : ∃ z, z = s.heap := ⟨_, rfl⟩
  rw [← hH] at hP
  have hS : va_S A s.heap H [] := by rw [hH]; exact va_S.rf
  suffices kk : W p l e ({ frames := 2, cells := 0, slots := 0, locals := 48 }) s m [.ref h0, .int x0, .int x1, .int x2, .int x3, .int x4, .ref h4].toArray below meth c H [] 0 0 (MQ below (xk_Qi (dC, dI) xcl (xt cI cB cJ cZ cQ) (fun (r : Int32) (u : (Nat → Int32)) => r = 0) (fun u : (Nat → Int32) => [(h4, .inl (cJ, 1, .inr (.inl (vp_updL g1 0 20)))), (h0, .inr (1, xo_C (va_up (va_up (va_up (va_up (va_up (va_up (va_up (va_up (va_up (va_up (va_up (va_up (va_up (va_up (va_up (va_up (va_up (va_up (va_up (va_up f0 0 (.int 1)) 0 (.int 2)) 0 (.int 3)) 0 (.int 4)) 0 (.int 5)) 0 (.int 6)) 0 (.int 7)) 0 (.int 8)) 0 (.int 9)) 0 (.int 10)) 0 (.int 11)) 0 (.int 12)) 0 (.int 13)) 0 (.int 14)) 0 (.int 15)) 0 (.int 16)) 0 (.int 17)) 0 (.int 18)) 0 (.int 19)) 0 (.int 20)))), (h1, .inr (9, xo_Circuit f1)), (h2, .inr (10, xo_Design f2)), (h3, .inl (cB, 65536, .inl u))]) A) [.ref h0, .int x0, .int x1, .int x2, .int x3, .int x4, .ref h4].toArray s 0 0 A) (F0 m 0 ls []) by rw [hH] at kk; exact kk
  refine lv_aload hx hb dn_L_feed_0 (lv_at hl 6 rfl) ?_
  refine lv_iconst (v := 0) hx hb dn_L_feed_2 (by decide) ?_
  refine lv_aload_n hx hb dn_L_feed_3 rfl (lv_at hl 0 rfl) ?_
  refine lv_iload_n hx hb dn_L_feed_4 rfl (lv_at hl 1 rfl) ?_
  refine lv_iload_n hx hb dn_L_feed_5 rfl (lv_at hl 2 rfl) ?_
  refine lv_iload_n hx hb dn_L_feed_6 rfl (lv_at hl 3 rfl) ?_
  refine lv_iload hx hb dn_L_feed_7 (lv_at hl 4 rfl) ?_
  refine lv_iload hx hb dn_L_feed_9 (lv_at hl 5 rfl) ?_
  have hPc := hP.sub (ws' := [(h0, .inr (1, xo_C f0)), (h1, .inr (9, xo_Circuit f1)), (h2, .inr (10, xo_Design f2)), (h3, .inl (cB, 65536, .inl g0))]) [0, 1, 2, 3] rfl
  have hDc := hD.sub (ws' := [(h0, .inr (1, xo_C f0)), (h1, .inr (9, xo_Circuit f1)), (h2, .inr (10, xo_Design f2)), (h3, .inl (cB, 65536, .inl g0))]) [0, 1, 2, 3] (by decide) rfl
  refine xk_calli (wr := [(h4, .inl (cJ, 1, .inr (.inl g1)))]) (xk_runV (ar := 5) (As := [.int x0, .int x1, .int x2, .int x3, .int x4]) (rest := [.int 0, .ref h4]) (ci := 1) (q0 := 0) ⟨hx, hb, hml, hown, hg⟩ hK hN (ct_C_feed_0 l dC dI cI cB cJ cZ cQ H.size h0 h1 h2 h3 x0 x1 x2 x3 x4 f0 f1 f2 g0 hf0_0 hf0_10 hf1_0 hf2_2) hPc hDc rfl rfl wn_7_19 wn_7_20 wn_7_21 wn_1_1 wn_7_22 rfl rfl (by decide +kernel) ⟨Nat.le_of_ble_eq_true rfl, Nat.le_of_ble_eq_true rfl⟩ rfl hl.1 rfl (Nat.le_of_ble_eq_true rfl) dn_L_feed_11 ⟨Nat.le_of_ble_eq_true rfl, Nat.le_of_ble_eq_true rfl⟩) hP hD hS hA [0, 1, 2, 3] [4] rfl rfl (by decide) (by decide) (fun r_2 g_1 H locs hw hP hD hS => ?_)
  have hP : va_P (dC, dI) xcl [(h4, .inl (cJ, 1, .inr (.inl g1))), (h0, .inr (1, xo_C (va_up (va_up (va_up (va_up (va_up (va_up (va_up (va_up (va_up (va_up (va_up (va_up (va_up (va_up (va_up (va_up (va_up (va_up (va_up (va_up f0 0 (.int 1)) 0 (.int 2)) 0 (.int 3)) 0 (.int 4)) 0 (.int 5)) 0 (.int 6)) 0 (.int 7)) 0 (.int 8)) 0 (.int 9)) 0 (.int 10)) 0 (.int 11)) 0 (.int 12)) 0 (.int 13)) 0 (.int 14)) 0 (.int 15)) 0 (.int 16)) 0 (.int 17)) 0 (.int 18)) 0 (.int 19)) 0 (.int 20)))), (h1, .inr (9, xo_Circuit f1)), (h2, .inr (10, xo_Design f2)), (h3, .inl (cB, 65536, .inl g_1))] H := hP
  have hD : va_D A [(h4, .inl (cJ, 1, .inr (.inl g1))), (h0, .inr (1, xo_C (va_up (va_up (va_up (va_up (va_up (va_up (va_up (va_up (va_up (va_up (va_up (va_up (va_up (va_up (va_up (va_up (va_up (va_up (va_up (va_up f0 0 (.int 1)) 0 (.int 2)) 0 (.int 3)) 0 (.int 4)) 0 (.int 5)) 0 (.int 6)) 0 (.int 7)) 0 (.int 8)) 0 (.int 9)) 0 (.int 10)) 0 (.int 11)) 0 (.int 12)) 0 (.int 13)) 0 (.int 14)) 0 (.int 15)) 0 (.int 16)) 0 (.int 17)) 0 (.int 18)) 0 (.int 19)) 0 (.int 20)))), (h1, .inr (9, xo_Circuit f1)), (h2, .inr (10, xo_Design f2)), (h3, .inl (cB, 65536, .inl g_1))] := hD
  have hw : r_2 = 20 := hw
  subst hw
  refine lv_i2l (v := 20) hx hb dn_L_feed_14 (by decide) ?_
  refine va_last hx hb hK hP hD hS 0 2 rfl rfl (show ¬ (_ ∨ _) by decide) dn_L_feed_15 (fun H locs hP hD hS => ?_)
  have hP : va_P (dC, dI) xcl [(h4, .inl (cJ, 1, .inr (.inl (vp_updL g1 0 20)))), (h0, .inr (1, xo_C (va_up (va_up (va_up (va_up (va_up (va_up (va_up (va_up (va_up (va_up (va_up (va_up (va_up (va_up (va_up (va_up (va_up (va_up (va_up (va_up f0 0 (.int 1)) 0 (.int 2)) 0 (.int 3)) 0 (.int 4)) 0 (.int 5)) 0 (.int 6)) 0 (.int 7)) 0 (.int 8)) 0 (.int 9)) 0 (.int 10)) 0 (.int 11)) 0 (.int 12)) 0 (.int 13)) 0 (.int 14)) 0 (.int 15)) 0 (.int 16)) 0 (.int 17)) 0 (.int 18)) 0 (.int 19)) 0 (.int 20)))), (h1, .inr (9, xo_Circuit f1)), (h2, .inr (10, xo_Design f2)), (h3, .inl (cB, 65536, .inl g_1))] H := hP
  have hD : va_D A [(h4, .inl (cJ, 1, .inr (.inl (vp_updL g1 0 20)))), (h0, .inr (1, xo_C (va_up (va_up (va_up (va_up (va_up (va_up (va_up (va_up (va_up (va_up (va_up (va_up (va_up (va_up (va_up (va_up (va_up (va_up (va_up (va_up f0 0 (.int 1)) 0 (.int 2)) 0 (.int 3)) 0 (.int 4)) 0 (.int 5)) 0 (.int 6)) 0 (.int 7)) 0 (.int 8)) 0 (.int 9)) 0 (.int 10)) 0 (.int 11)) 0 (.int 12)) 0 (.int 13)) 0 (.int 14)) 0 (.int 15)) 0 (.int 16)) 0 (.int 17)) 0 (.int 18)) 0 (.int 19)) 0 (.int 20)))), (h1, .inr (9, xo_Circuit f1)), (h2, .inr (10, xo_Design f2)), (h3, .inl (cB, 65536, .inl g_1))] := hD
  refine lv_goto (tgt := 23) hx hb dn_L_feed_16 (by decide) ?_
  refine lv_iconst (v := 0) hx hb dn_L_feed_23 (by decide) ?_
  have hP9 := hP.sub (ws' := [(h4, .inl (cJ, 1, .inr (.inl (vp_updL g1 0 20)))), (h0, .inr (1, xo_C (va_up (va_up (va_up (va_up (va_up (va_up (va_up (va_up (va_up (va_up (va_up (va_up (va_up (va_up (va_up (va_up (va_up (va_up (va_up (va_up f0 0 (.int 1)) 0 (.int 2)) 0 (.int 3)) 0 (.int 4)) 0 (.int 5)) 0 (.int 6)) 0 (.int 7)) 0 (.int 8)) 0 (.int 9)) 0 (.int 10)) 0 (.int 11)) 0 (.int 12)) 0 (.int 13)) 0 (.int 14)) 0 (.int 15)) 0 (.int 16)) 0 (.int 17)) 0 (.int 18)) 0 (.int 19)) 0 (.int 20)))), (h1, .inr (9, xo_Circuit f1)), (h2, .inr (10, xo_Design f2)), (h3, .inl (cB, 65536, .inl g_1))]) [0, 1, 2, 3, 4] rfl
  have hD9 := hD.sub (ws' := [(h4, .inl (cJ, 1, .inr (.inl (vp_updL g1 0 20)))), (h0, .inr (1, xo_C (va_up (va_up (va_up (va_up (va_up (va_up (va_up (va_up (va_up (va_up (va_up (va_up (va_up (va_up (va_up (va_up (va_up (va_up (va_up (va_up f0 0 (.int 1)) 0 (.int 2)) 0 (.int 3)) 0 (.int 4)) 0 (.int 5)) 0 (.int 6)) 0 (.int 7)) 0 (.int 8)) 0 (.int 9)) 0 (.int 10)) 0 (.int 11)) 0 (.int 12)) 0 (.int 13)) 0 (.int 14)) 0 (.int 15)) 0 (.int 16)) 0 (.int 17)) 0 (.int 18)) 0 (.int 19)) 0 (.int 20)))), (h1, .inr (9, xo_Circuit f1)), (h2, .inr (10, xo_Design f2)), (h3, .inl (cB, 65536, .inl g_1))]) [0, 1, 2, 3, 4] (by decide) rfl
  exact xk_iret (w1 := fun u : (Nat → Int32) => [(h4, .inl (cJ, 1, .inr (.inl (vp_updL g1 0 20)))), (h0, .inr (1, xo_C (va_up (va_up (va_up (va_up (va_up (va_up (va_up (va_up (va_up (va_up (va_up (va_up (va_up (va_up (va_up (va_up (va_up (va_up (va_up (va_up f0 0 (.int 1)) 0 (.int 2)) 0 (.int 3)) 0 (.int 4)) 0 (.int 5)) 0 (.int 6)) 0 (.int 7)) 0 (.int 8)) 0 (.int 9)) 0 (.int 10)) 0 (.int 11)) 0 (.int 12)) 0 (.int 13)) 0 (.int 14)) 0 (.int 15)) 0 (.int 16)) 0 (.int 17)) 0 (.int 18)) 0 (.int 19)) 0 (.int 20)))), (h1, .inr (9, xo_Circuit f1)), (h2, .inr (10, xo_Design f2)), (h3, .inl (cB, 65536, .inl u))]) (g_1) hx hb hr hlocks hK hS dn_L_feed_24 hP9 hD9 rfl (Nat.le_refl _) (Nat.le_refl _)
set_option maxHeartbeats 4000000 in
set_option maxRecDepth 100000 in
theorem ct_C_end_0 (l : Launch) (dC : Nat → ClassId) (dI : Nat → Nat → Nat) (cI cB cJ cZ cQ : ClassId) (sz : Nat) (h0 : Nat) (f0 : Nat → Value) (hf0_0 : f0 0 = .int 0) : Met l yn_C_end (xw yn_C_end bn_C_end 2 none) ({ frames := 0, cells := 0, slots := 0, locals := 0 }) (xk_P (dC, dI) xcl (xt cI cB cJ cZ cQ) [.ref h0, .int 0] sz [(h0, .inr (1, xo_C f0))]) (xk_Qv (dC, dI) xcl (xt cI cB cJ cZ cQ) (fun u : Unit => True) (fun u : Unit => [(h0, .inr (1, xo_C (va_up f0 0 (.int 0))))]) (va_A [(h0, .inr (1, xo_C f0))] sz)) 0 0 (va_A [(h0, .inr (1, xo_C f0))] sz) := by
  refine xk_of (QA := xk_Qv (dC, dI) xcl (xt cI cB cJ cZ cQ) (fun u : Unit => True) (fun u : Unit => [(h0, .inr (1, xo_C (va_up f0 0 (.int 0))))])) (by decide) (Nat.le_of_ble_eq_true rfl) ?_
  intro p e s m below meth c hx hb hml hown hg hr hlocks hin hP hK hN A hA hD hS ls hl
  have hown : s.vm.findClass rn_C = some m.cls := hown
  have hl : lv_has ls 2 [(0, .ref h0), (1, .int 0)] := hl
  obtain ⟨H, hH⟩ : ∃ z, z = s.heap := ⟨_, rfl⟩
  rw [← hH] at hP
  have hS : va_S A s.heap H [] := by rw [hH]; exact va_S.rf
  suffices kk : W p l e ({ frames := 0, cells := 0, slots := 0, locals := 0 }) s m [.ref h0, .int 0].toArray below meth c H [] 0 0 (MQ below (xk_Qv (dC, dI) xcl (xt cI cB cJ cZ cQ) (fun u : Unit => True) (fun u : Unit => [(h0, .inr (1, xo_C (va_up f0 0 (.int 0))))]) A) [.ref h0, .int 0].toArray s 0 0 A) (F0 m 0 ls []) by rw [hH] at kk; exact kk
  refine lv_iload_n hx hb dn_C_end_0 rfl (lv_at hl 1 rfl) ?_
  refine lv_if_lt (tgt := 12) hx hb dn_C_end_1 (by decide) (fun h9 => absurd h9 (by decide)) (fun _ => ?_)
  refine lv_iload_n hx hb dn_C_end_4 rfl (lv_at hl 1 rfl) ?_
  refine lv_aload_n hx hb dn_C_end_5 rfl (lv_at hl 0 rfl) ?_
  refine va_get (D := (dC, dI)) (ci := 1) (v := .int 0) (C := rn_C) (T := fn_C) (N := 11) hx hb hg in_C hown hK hP 0 rfl rfl 0 (by decide) (hg _ wn_3_125) (fun _ h9 => h9) (congrArg some hf0_0) dn_C_end_6 ?_
  refine lv_icmp_le (tgt := 20) hx hb dn_C_end_9 (by decide) (fun _ => ?_) (fun h9 => absurd h9 (by decide))
  refine lv_aload_n hx hb dn_C_end_20 rfl (lv_at hl 0 rfl) ?_
  refine lv_iload_n hx hb dn_C_end_21 rfl (lv_at hl 1 rfl) ?_
  refine va_put (D := (dC, dI)) (ci := 1) (v := .int 0) (ty := .int) (C := rn_C) (T := fn_C) (N := 11) hx hb hg in_C tn_C tk_C nn_C hown hK hP hD hS 0 rfl rfl 0 (by decide) (hg _ wn_3_125) (fun _ h9 => h9) rfl (tk_C 0 (by decide)) rfl rfl (Nat.le_of_ble_eq_true rfl) dn_C_end_22 (fun H locs hP hD hS => ?_)
  have hP : va_P (dC, dI) xcl [(h0, .inr (1, xo_C (va_up f0 0 (.int 0))))] H := hP
  have hD : va_D A [(h0, .inr (1, xo_C (va_up f0 0 (.int 0))))] := hD
  have hP9 := hP.sub (ws' := [(h0, .inr (1, xo_C (va_up f0 0 (.int 0))))]) [0] rfl
  have hD9 := hD.sub (ws' := [(h0, .inr (1, xo_C (va_up f0 0 (.int 0))))]) [0] (by decide) rfl
  exact xk_vret (w1 := fun u : Unit => [(h0, .inr (1, xo_C (va_up f0 0 (.int 0))))]) () hx hb hr hlocks hK hS dn_C_end_25 hP9 hD9 trivial (Nat.le_refl _) (Nat.le_refl _)
set_option maxHeartbeats 4000000 in
set_option maxRecDepth 100000 in
theorem ct_L_end_0 (l : Launch) (hlt : l.stackTraces = false) (dC : Nat → ClassId) (dI : Nat → Nat → Nat) (cI cB cJ cZ cQ : ClassId) (sz : Nat) (h0 : Nat) (f0 : Nat → Value) (hf0_0 : f0 0 = .int 0) : Met l yn_L_end (Cond.codeWith yn_L_end bn_L_end 3 (some .int) [(0, 5, 8, 19)] :: xw_G) ({ frames := 1, cells := 0, slots := 0, locals := 21 }) (xk_PX (dC, dI) xcl (xt cI cB cJ cZ cQ) [.ref h0, .int 0] sz [(h0, .inr (1, xo_C f0))]) (xk_Qi (dC, dI) xcl (xt cI cB cJ cZ cQ) (fun (r : Int32) (u : Unit) => r = 0) (fun u : Unit => [(h0, .inr (1, xo_C (va_up f0 0 (.int 0))))]) (va_A [(h0, .inr (1, xo_C f0))] sz)) 0 0 (va_A [(h0, .inr (1, xo_C f0))] sz) := by
  refine xk_ofH (QA := xk_Qi (dC, dI) xcl (xt cI cB cJ cZ cQ) (fun (r : Int32) (u : Unit) => r = 0) (fun u : Unit => [(h0, .inr (1, xo_C (va_up f0 0 (.int 0))))])) (by decide) (Nat.le_of_ble_eq_true rfl) ?_
  intro p e s m below meth c hx hb hml hown hg hr hlocks htab hst hP hK hN A hA hD hS ls hl
  have hown : s.vm.findClass rn_L = some m.cls := hown
  have hl : lv_has ls 3 [(0, .ref h0), (1, .int 0)] := hl
  obtain ⟨H, hH⟩ : ∃ z, z = s.heap := ⟨_, rfl⟩
  rw [← hH] at hP
  have hS : va_S A s.heap H [] := by rw [hH]; exact va_S.rf
  suffices kk : W p l e ({ frames := 1, cells := 0, slots := 0, locals := 21 }) s m [.ref h0, .int 0].toArray below meth c H [] 0 0 (MQ below (xk_Qi (dC, dI) xcl (xt cI cB cJ cZ cQ) (fun (r : Int32) (u : Unit) => r = 0) (fun u : Unit => [(h0, .inr (1, xo_C (va_up f0 0 (.int 0))))]) A) [.ref h0, .int 0].toArray s 0 0 A) (F0 m 0 ls []) by rw [hH] at kk; exact kk
  refine lv_aload_n hx hb dn_L_end_0 rfl (lv_at hl 0 rfl) ?_
  refine lv_iload_n hx hb dn_L_end_1 rfl (lv_at hl 1 rfl) ?_
  have hPc := hP.sub (ws' := [(h0, .inr (1, xo_C f0))]) [0] rfl
  have hDc := hD.sub (ws' := [(h0, .inr (1, xo_C f0))]) [0] (by decide) rfl
  refine xk_callv (wr := []) (xk_runV (ar := 1) (As := [.int 0]) (rest := []) (ci := 1) (q0 := 0) ⟨hx, hb, hml, hown, hg⟩ hK hN (ct_C_end_0 l dC dI cI cB cJ cZ cQ H.size h0 f0 hf0_0) hPc hDc rfl rfl wn_7_96 wn_7_97 wn_7_98 wn_1_1 wn_7_99 rfl rfl (by decide +kernel) ⟨Nat.le_of_ble_eq_true rfl, Nat.le_of_ble_eq_true rfl⟩ rfl hl.1 rfl (Nat.le_of_ble_eq_true rfl) dn_L_end_2 ⟨Nat.le_of_ble_eq_true rfl, Nat.le_of_ble_eq_true rfl⟩) hP hD hS hA [0] [] rfl rfl (by decide) (by decide) (fun _ H locs hw hP hD hS => ?_)
  have hP : va_P (dC, dI) xcl [(h0, .inr (1, xo_C (va_up f0 0 (.int 0))))] H := hP
  have hD : va_D A [(h0, .inr (1, xo_C (va_up f0 0 (.int 0))))] := hD
  refine lv_goto (tgt := 11) hx hb dn_L_end_5 (by decide) ?_
  refine lv_iconst (v := 0) hx hb dn_L_end_11 (by decide) ?_
  have hP9 := hP.sub (ws' := [(h0, .inr (1, xo_C (va_up f0 0 (.int 0))))]) [0] rfl
  have hD9 := hD.sub (ws' := [(h0, .inr (1, xo_C (va_up f0 0 (.int 0))))]) [0] (by decide) rfl
  exact xk_iret (w1 := fun u : Unit => [(h0, .inr (1, xo_C (va_up f0 0 (.int 0))))]) () hx hb hr hlocks hK hS dn_L_end_12 hP9 hD9 rfl (Nat.le_refl _) (Nat.le_refl _)
set_option maxHeartbeats 4000000 in
set_option maxRecDepth 100000 in
theorem ct_L_end_t1 (l : Launch) (hlt : l.stackTraces = false) (dC : Nat → ClassId) (dI : Nat → Nat → Nat) (cI cB cJ cZ cQ : ClassId) (sz : Nat) (hx0 : Nat) (fx : Nat → Value) (x0 : Int32) (hn : x0 < 0) : Met l yn_L_end (Cond.codeWith yn_L_end bn_L_end 3 (some .int) [(0, 5, 8, 19)] :: xw_G) ({ frames := 7, cells := 1, slots := 6, locals := 121 }) (xk_PX (dC, dI) xcl (xt cI cB cJ cZ cQ) [.ref hx0, .int x0] sz [(hx0, .inr (1, xo_C fx))]) (xk_Qi (dC, dI) xcl (xt cI cB cJ cZ cQ) (fun (r : Int32) (u : Unit) => r = 1) (fun u : Unit => [(hx0, .inr (1, xo_C fx))]) (va_A [(hx0, .inr (1, xo_C fx))] sz)) 1 6 (va_A [(hx0, .inr (1, xo_C fx))] sz) := by
  refine xk_ofH (QA := xk_Qi (dC, dI) xcl (xt cI cB cJ cZ cQ) (fun (r : Int32) (u : Unit) => r = 1) (fun u : Unit => [(hx0, .inr (1, xo_C fx))])) (by decide) (Nat.le_of_ble_eq_true rfl) ?_
  intro p e s m below meth c hx hb hml hown hg hr hlocks htab hst hP hK hN A hA hD hS ls hl
  have hown : s.vm.findClass rn_L = some m.cls := hown
  have hl : lv_has ls 3 [(0, .ref hx0), (1, .int x0)] := hl
  obtain ⟨H, hH⟩ : ∃ z, z = s.heap := ⟨_, rfl⟩
  rw [← hH] at hP
  have hS : va_S A s.heap H [] := by rw [hH]; exact va_S.rf
  suffices kk : W p l e ({ frames := 7, cells := 1, slots := 6, locals := 121 }) s m [.ref hx0, .int x0].toArray below meth c H [] 0 0 (MQ below (xk_Qi (dC, dI) xcl (xt cI cB cJ cZ cQ) (fun (r : Int32) (u : Unit) => r = 1) (fun u : Unit => [(hx0, .inr (1, xo_C fx))]) A) [.ref hx0, .int x0].toArray s 1 6 A) (F0 m 0 ls []) by rw [hH] at kk; exact kk
  refine lv_aload_n hx hb dn_L_end_0 rfl (lv_at hl 0 rfl) ?_
  refine lv_iload_n hx hb dn_L_end_1 rfl (lv_at hl 1 rfl) ?_
  have hPc := hP.sub (ws' := [(hx0, .inr (1, xo_C fx))]) [0] rfl
  have hDc := hD.sub (ws' := [(hx0, .inr (1, xo_C fx))]) [0] (by decide) rfl
  refine xk_callX (ar := 1) (As := [.int x0]) (rest := []) (ci := 1) (q0 := 0) ⟨hx, hb, hml, hown, hg⟩ hK hN (ct_C_end_t0 l hlt dC dI cI cB cJ cZ cQ H.size hx0 x0 fx hn) hP hS hPc hDc rfl rfl hst hH wn_7_96 wn_7_97 wn_7_98 wn_1_1 wn_7_99 rfl rfl (by decide +kernel) ⟨Nat.le_of_ble_eq_true rfl, Nat.le_of_ble_eq_true rfl⟩ rfl hl.1 rfl (Nat.le_of_ble_eq_true rfl) dn_L_end_2 ⟨Nat.le_of_ble_eq_true rfl, Nat.le_of_ble_eq_true rfl⟩ htab (by decide) (by decide) wn_7_95 (by decide +kernel) (fun qx H hP hS => ?_)
  refine lv_astore_n (lv' := [(2, .ref qx), (0, .ref hx0), (1, .int x0)]) hx hb dn_L_end_8 rfl hl (by decide) rfl (fun ls hl => ?_)
  refine lv_iconst (v := 1) hx hb dn_L_end_9 (by decide) ?_
  exact xk_iret (w1 := fun u : Unit => [(hx0, .inr (1, xo_C fx))]) () hx hb hr hlocks hK hS dn_L_end_10 hP hD rfl (Nat.le_refl _) (Nat.le_refl _)
set_option maxHeartbeats 4000000 in
set_option maxRecDepth 100000 in
theorem ct_L_end_t2 (l : Launch) (hlt : l.stackTraces = false) (dC : Nat → ClassId) (dI : Nat → Nat → Nat) (cI cB cJ cZ cQ : ClassId) (sz : Nat) (hx0 : Nat) (fx : Nat → Value) (x0 : Int32) (hc0 : fx 0 = .int 0) (hn : ¬ x0 < 0) (hn2 : ¬ x0 ≤ 0) : Met l yn_L_end (Cond.codeWith yn_L_end bn_L_end 3 (some .int) [(0, 5, 8, 19)] :: xw_G) ({ frames := 7, cells := 1, slots := 6, locals := 121 }) (xk_PX (dC, dI) xcl (xt cI cB cJ cZ cQ) [.ref hx0, .int x0] sz [(hx0, .inr (1, xo_C fx))]) (xk_Qi (dC, dI) xcl (xt cI cB cJ cZ cQ) (fun (r : Int32) (u : Unit) => r = 1) (fun u : Unit => [(hx0, .inr (1, xo_C fx))]) (va_A [(hx0, .inr (1, xo_C fx))] sz)) 1 6 (va_A [(hx0, .inr (1, xo_C fx))] sz) := by
  refine xk_ofH (QA := xk_Qi (dC, dI) xcl (xt cI cB cJ cZ cQ) (fun (r : Int32) (u : Unit) => r = 1) (fun u : Unit => [(hx0, .inr (1, xo_C fx))])) (by decide) (Nat.le_of_ble_eq_true rfl) ?_
  intro p e s m below meth c hx hb hml hown hg hr hlocks htab hst hP hK hN A hA hD hS ls hl
  have hown : s.vm.findClass rn_L = some m.cls := hown
  have hl : lv_has ls 3 [(0, .ref hx0), (1, .int x0)] := hl
  obtain ⟨H, hH⟩ : ∃ z, z = s.heap := ⟨_, rfl⟩
  rw [← hH] at hP
  have hS : va_S A s.heap H [] := by rw [hH]; exact va_S.rf
  suffices kk : W p l e ({ frames := 7, cells := 1, slots := 6, locals := 121 }) s m [.ref hx0, .int x0].toArray below meth c H [] 0 0 (MQ below (xk_Qi (dC, dI) xcl (xt cI cB cJ cZ cQ) (fun (r : Int32) (u : Unit) => r = 1) (fun u : Unit => [(hx0, .inr (1, xo_C fx))]) A) [.ref hx0, .int x0].toArray s 1 6 A) (F0 m 0 ls []) by rw [hH] at kk; exact kk
  refine lv_aload_n hx hb dn_L_end_0 rfl (lv_at hl 0 rfl) ?_
  refine lv_iload_n hx hb dn_L_end_1 rfl (lv_at hl 1 rfl) ?_
  have hPc := hP.sub (ws' := [(hx0, .inr (1, xo_C fx))]) [0] rfl
  have hDc := hD.sub (ws' := [(hx0, .inr (1, xo_C fx))]) [0] (by decide) rfl
  refine xk_callX (ar := 1) (As := [.int x0]) (rest := []) (ci := 1) (q0 := 0) ⟨hx, hb, hml, hown, hg⟩ hK hN (ct_C_end_t1 l hlt dC dI cI cB cJ cZ cQ H.size hx0 x0 fx hc0 hn hn2) hP hS hPc hDc rfl rfl hst hH wn_7_96 wn_7_97 wn_7_98 wn_1_1 wn_7_99 rfl rfl (by decide +kernel) ⟨Nat.le_of_ble_eq_true rfl, Nat.le_of_ble_eq_true rfl⟩ rfl hl.1 rfl (Nat.le_of_ble_eq_true rfl) dn_L_end_2 ⟨Nat.le_of_ble_eq_true rfl, Nat.le_of_ble_eq_true rfl⟩ htab (by decide) (by decide) wn_7_95 (by decide +kernel) (fun qx H hP hS => ?_)
  refine lv_astore_n (lv' := [(2, .ref qx), (0, .ref hx0), (1, .int x0)]) hx hb dn_L_end_8 rfl hl (by decide) rfl (fun ls hl => ?_)
  refine lv_iconst (v := 1) hx hb dn_L_end_9 (by decide) ?_
  exact xk_iret (w1 := fun u : Unit => [(hx0, .inr (1, xo_C fx))]) () hx hb hr hlocks hK hS dn_L_end_10 hP hD rfl (Nat.le_refl _) (Nat.le_refl _)
set_option maxHeartbeats 4000000 in
set_option maxRecDepth 100000 in
theorem ct_Tokens_init_0 (l : Launch) (dC : Nat → ClassId) (dI : Nat → Nat → Nat) (cI cB cJ cZ cQ : ClassId) (sz : Nat) (h0 : Nat) (f0 : Nat → Value) : Met l yn_Tokens_init (xw yn_Tokens_init bn_Tokens_init 1 none) ({ frames := 1, cells := 1, slots := 65537, locals := 20 }) (xk_P (dC, dI) xcl (xt cI cB cJ cZ cQ) [.ref h0] sz [(h0, .inr (2, xo_Tokens f0))]) (xk_Qv (dC, dI) xcl (xt cI cB cJ cZ cQ) (fun u : Nat => True) (fun u : Nat => [(h0, .inr (2, xo_Tokens (va_up f0 0 (.ref u)))), (u, .inl (cJ, 65537, .inr (.inl (fun _ => 0))))]) (va_A [(h0, .inr (2, xo_Tokens f0))] sz)) 1 65537 (va_A [(h0, .inr (2, xo_Tokens f0))] sz) := by
  refine xk_of (QA := xk_Qv (dC, dI) xcl (xt cI cB cJ cZ cQ) (fun u : Nat => True) (fun u : Nat => [(h0, .inr (2, xo_Tokens (va_up f0 0 (.ref u)))), (u, .inl (cJ, 65537, .inr (.inl (fun _ => 0))))])) (by decide) (Nat.le_of_ble_eq_true rfl) ?_
  intro p e s m below meth c hx hb hml hown hg hr hlocks hin hP hK hN A hA hD hS ls hl
  have hown : s.vm.findClass rn_Tokens = some m.cls := hown
  have hl : lv_has ls 1 [(0, .ref h0)] := hl
  obtain ⟨H, hH⟩ : ∃ z, z = s.heap := ⟨_, rfl⟩
  rw [← hH] at hP
  have hS : va_S A s.heap H [] := by rw [hH]; exact va_S.rf
  suffices kk : W p l e ({ frames := 1, cells := 1, slots := 65537, locals := 20 }) s m [.ref h0].toArray below meth c H [] 0 0 (MQ below (xk_Qv (dC, dI) xcl (xt cI cB cJ cZ cQ) (fun u : Nat => True) (fun u : Nat => [(h0, .inr (2, xo_Tokens (va_up f0 0 (.ref u)))), (u, .inl (cJ, 65537, .inr (.inl (fun _ => 0))))]) A) [.ref h0].toArray s 1 65537 A) (F0 m 0 ls []) by rw [hH] at kk; exact kk
  refine lv_aload_n hx hb dn_Tokens_init_0 rfl (lv_at hl 0 rfl) ?_
  refine W.objInit hx hb hown (hg _ wn_1_43) (hg _ wn_1_36) (hg _ wn_1_37) rfl (by rw [hml]; exact hl.1) rfl dn_Tokens_init_1 (Nat.le_of_ble_eq_true rfl) (Nat.le_of_ble_eq_true rfl) ?_
  refine W.eq (g2 := F0 m 4 ls []) rfl ?_
  refine lv_aload_n hx hb dn_Tokens_init_4 rfl (lv_at hl 0 rfl) ?_
  refine lv_ldc hx hb hown (hg _ wn_1_44) dn_Tokens_init_5 ?_
  refine xk_newJ 65537 hx hb (hg _ wn_1_82) hK hP hD hS hA 2 rfl rfl (Nat.le_of_ble_eq_true rfl) (Nat.le_of_ble_eq_true rfl) (Nat.le_of_ble_eq_true rfl) dn_Tokens_init_7 (fun q_1 H hP hD hS => ?_)
  have hP : va_P (dC, dI) xcl [(h0, .inr (2, xo_Tokens f0)), (q_1, .inl (cJ, 65537, .inr (.inl (fun _ => 0))))] H := hP
  have hD : va_D A [(h0, .inr (2, xo_Tokens f0)), (q_1, .inl (cJ, 65537, .inr (.inl (fun _ => 0))))] := hD
  refine va_putF (D := (dC, dI)) (ci := 2) (v := .ref q_1) (ty := (.array .long)) (C := rn_Tokens) (T := fn_Tokens) (N := 9) hx hb hg in_Tokens tn_Tokens tk_Tokens nn_Tokens hown hK hP hD hS 0 rfl rfl 0 (by decide) (hg _ wn_1_45) (fun _ h9 => h9) rfl hin rfl (tk_Tokens 0 (by decide)) rfl rfl (Nat.le_of_ble_eq_true rfl) dn_Tokens_init_9 (fun H locs hP hD hS => ?_)
  have hP : va_P (dC, dI) xcl [(h0, .inr (2, xo_Tokens (va_up f0 0 (.ref q_1)))), (q_1, .inl (cJ, 65537, .inr (.inl (fun _ => 0))))] H := hP
  have hD : va_D A [(h0, .inr (2, xo_Tokens (va_up f0 0 (.ref q_1)))), (q_1, .inl (cJ, 65537, .inr (.inl (fun _ => 0))))] := hD
  have hP9 := hP.sub (ws' := [(h0, .inr (2, xo_Tokens (va_up f0 0 (.ref q_1)))), (q_1, .inl (cJ, 65537, .inr (.inl (fun _ => 0))))]) [0, 1] rfl
  have hD9 := hD.sub (ws' := [(h0, .inr (2, xo_Tokens (va_up f0 0 (.ref q_1)))), (q_1, .inl (cJ, 65537, .inr (.inl (fun _ => 0))))]) [0, 1] (by decide) rfl
  exact xk_vret (w1 := fun u : Nat => [(h0, .inr (2, xo_Tokens (va_up f0 0 (.ref u)))), (u, .inl (cJ, 65537, .inr (.inl (fun _ => 0))))]) (q_1) hx hb hr hlocks hK hS dn_Tokens_init_12 hP9 hD9 trivial (Nat.le_refl _) (Nat.le_refl _)
set_option maxHeartbeats 4000000 in
set_option maxRecDepth 100000 in
theorem ct_Scanner_init_0 (l : Launch) (dC : Nat → ClassId) (dI : Nat → Nat → Nat) (cI cB cJ cZ cQ : ClassId) (sz : Nat) (h0 : Nat) (h1 : Nat) (f0 : Nat → Value) : Met l yn_Scanner_init (xw yn_Scanner_init bn_Scanner_init 2 none) ({ frames := 1, cells := 5, slots := 59746, locals := 20 }) (xk_P (dC, dI) xcl (xt cI cB cJ cZ cQ) [.ref h0, .ref h1] sz [(h0, .inr (3, xo_Scanner f0))]) (xk_Qv (dC, dI) xcl (xt cI cB cJ cZ cQ) (fun u : Nat × Nat => True) (fun u : Nat × Nat => [(h0, .inr (3, xo_Scanner (va_up (va_up (va_up (va_up (va_up (va_up f0 1 (.ref u.1)) 4 (.ref u.2)) 5 (.ref q_3)) 6 (.ref q_4)) 7 (.ref q_5)) 0 (.ref h1)))), (u.1, .inl (cB, 0, .inl (fun _ => 0))), (u.2, .inl (cI, 256, .inl (fun _ => 0)))]) (va_A [(h0, .inr (3, xo_Scanner f0))] sz)) 5 59746 (va_A [(h0, .inr (3, xo_Scanner f0))] sz) := by
  refine xk_of (QA := xk_Qv (dC, dI) xcl (xt cI cB cJ cZ cQ) (fun u : Nat × Nat => True) (fun u : Nat × Nat => [(h0, .inr (3, xo_Scanner (va_up (va_up (va_up (va_up (va_up (va_up f0 1 (.ref u.1)) 4 (.ref u.2)) 5 (.ref q_3)) 6 (.ref q_4)) 7 (.ref q_5)) 0 (.ref h1)))), (u.1, .inl (cB, 0, .inl (fun _ => 0))), (u.2, .inl (cI, 256, .inl (fun _ => 0)))])) (by decide) (Nat.le_of_ble_eq_true rfl) ?_
  intro p e s m below meth c hx hb hml hown hg hr hlocks hin hP hK hN A hA hD hS ls hl
  have hown : s.vm.findClass rn_Scanner = some m.cls := hown
  have hl : lv_has ls 2 [(0, .ref h0), (1, .ref h1)] := hl
  obtain ⟨H, hH⟩ : ∃ z, z = s.heap := ⟨_, rfl⟩
  rw [← hH] at hP
  have hS : va_S A s.heap H [] := by rw [hH]; exact va_S.rf
  suffices kk : W p l e ({ frames := 1, cells := 5, slots := 59746, locals := 20 }) s m [.ref h0, .ref h1].toArray below meth c H [] 0 0 (MQ below (xk_Qv (dC, dI) xcl (xt cI cB cJ cZ cQ) (fun u : Nat × Nat => True) (fun u : Nat × Nat => [(h0, .inr (3, xo_Scanner (va_up (va_up (va_up (va_up (va_up (va_up f0 1 (.ref u.1)) 4 (.ref u.2)) 5 (.ref q_3)) 6 (.ref q_4)) 7 (.ref q_5)) 0 (.ref h1)))), (u.1, .inl (cB, 0, .inl (fun _ => 0))), (u.2, .inl (cI, 256, .inl (fun _ => 0)))]) A) [.ref h0, .ref h1].toArray s 5 59746 A) (F0 m 0 ls []) by rw [hH] at kk; exact kk
  refine lv_aload_n hx hb dn_Scanner_init_0 rfl (lv_at hl 0 rfl) ?_
  refine W.objInit hx hb hown (hg _ wn_1_88) (hg _ wn_1_36) (hg _ wn_1_37) rfl (by rw [hml]; exact hl.1) rfl dn_Scanner_init_1 (Nat.le_of_ble_eq_true rfl) (Nat.le_of_ble_eq_true rfl) ?_
  refine W.eq (g2 := F0 m 4 ls []) rfl ?_
  refine lv_aload_n hx hb dn_Scanner_init_4 rfl (lv_at hl 0 rfl) ?_
  refine lv_iconst (v := 0) hx hb dn_Scanner_init_5 (by decide) ?_
  refine xk_newB 0 hx hb (hg _ wn_1_118) hK hP hD hS hA 1 rfl rfl (Nat.le_of_ble_eq_true rfl) (Nat.le_of_ble_eq_true rfl) (Nat.le_of_ble_eq_true rfl) dn_Scanner_init_6 (fun q_1 H hP hD hS => ?_)
  have hP : va_P (dC, dI) xcl [(h0, .inr (3, xo_Scanner f0)), (q_1, .inl (cB, 0, .inl (fun _ => 0)))] H := hP
  have hD : va_D A [(h0, .inr (3, xo_Scanner f0)), (q_1, .inl (cB, 0, .inl (fun _ => 0)))] := hD
  refine va_put (D := (dC, dI)) (ci := 3) (v := .ref q_1) (ty := (.array .byte)) (C := rn_Scanner) (T := fn_Scanner) (N := 9) hx hb hg in_Scanner tn_Scanner tk_Scanner nn_Scanner hown hK hP hD hS 0 rfl rfl 1 (by decide) (hg _ wn_1_90) (fun _ h9 => h9) rfl (tk_Scanner 1 (by decide)) rfl rfl (Nat.le_of_ble_eq_true rfl) dn_Scanner_init_8 (fun H locs hP hD hS => ?_)
  have hP : va_P (dC, dI) xcl [(h0, .inr (3, xo_Scanner (va_up f0 1 (.ref q_1)))), (q_1, .inl (cB, 0, .inl (fun _ => 0)))] H := hP
  have hD : va_D A [(h0, .inr (3, xo_Scanner (va_up f0 1 (.ref q_1)))), (q_1, .inl (cB, 0, .inl (fun _ => 0)))] := hD
  refine lv_aload_n hx hb dn_Scanner_init_11 rfl (lv_at hl 0 rfl) ?_
  refine lv_sipush (v := 256) hx hb dn_Scanner_init_12 (by decide) ?_
  refine xk_newI 256 hx hb (hg _ wn_1_119) hK hP hD hS hA 0 rfl rfl (Nat.le_of_ble_eq_true rfl) (Nat.le_of_ble_eq_true rfl) (Nat.le_of_ble_eq_true rfl) dn_Scanner_init_15 (fun q_2 H hP hD hS => ?_)
  have hP : va_P (dC, dI) xcl [(h0, .inr (3, xo_Scanner (va_up f0 1 (.ref q_1)))), (q_1, .inl (cB, 0, .inl (fun _ => 0))), (q_2, .inl (cI, 256, .inl (fun _ => 0)))] H := hP
  have hD : va_D A [(h0, .inr (3, xo_Scanner (va_up f0 1 (.ref q_1)))), (q_1, .inl (cB, 0, .inl (fun _ => 0))), (q_2, .inl (cI, 256, .inl (fun _ => 0)))] := hD
  refine va_putF (D := (dC, dI)) (ci := 3) (v := .ref q_2) (ty := (.array .int)) (C := rn_Scanner) (T := fn_Scanner) (N := 9) hx hb hg in_Scanner tn_Scanner tk_Scanner nn_Scanner hown hK hP hD hS 0 rfl rfl 4 (by decide) (hg _ wn_1_93) (fun _ h9 => h9) rfl hin rfl (tk_Scanner 4 (by decide)) rfl rfl (Nat.le_of_ble_eq_true rfl) dn_Scanner_init_17 (fun H locs hP hD hS => ?_)
  have hP : va_P (dC, dI) xcl [(h0, .inr (3, xo_Scanner (va_up (va_up f0 1 (.ref q_1)) 4 (.ref q_2)))), (q_1, .inl (cB, 0, .inl (fun _ => 0))), (q_2, .inl (cI, 256, .inl (fun _ => 0)))] H := hP
  have hD : va_D A [(h0, .inr (3, xo_Scanner (va_up (va_up f0 1 (.ref q_1)) 4 (.ref q_2)))), (q_1, .inl (cB, 0, .inl (fun _ => 0))), (q_2, .inl (cI, 256, .inl (fun _ => 0)))] := hD
  refine lv_aload_n hx hb dn_Scanner_init_20 rfl (lv_at hl 0 rfl) ?_
  refine lv_sipush (v := 19830) hx hb dn_Scanner_init_21 (by decide) ?_
  refine xk_newI 19830 hx hb (hg _ wn_1_119) hK hP hD hS hA 0 rfl rfl (Nat.le_of_ble_eq_true rfl) (Nat.le_of_ble_eq_true rfl) (Nat.le_of_ble_eq_true rfl) dn_Scanner_init_24 (fun q_3 H hP hD hS => ?_)
  have hP : va_P (dC, dI) xcl [(h0, .inr (3, xo_Scanner (va_up (va_up f0 1 (.ref q_1)) 4 (.ref q_2)))), (q_1, .inl (cB, 0, .inl (fun _ => 0))), (q_2, .inl (cI, 256, .inl (fun _ => 0))), (q_3, .inl (cI, 19830, .inl (fun _ => 0)))] H := hP
  have hD : va_D A [(h0, .inr (3, xo_Scanner (va_up (va_up f0 1 (.ref q_1)) 4 (.ref q_2)))), (q_1, .inl (cB, 0, .inl (fun _ => 0))), (q_2, .inl (cI, 256, .inl (fun _ => 0))), (q_3, .inl (cI, 19830, .inl (fun _ => 0)))] := hD
  refine va_putF (D := (dC, dI)) (ci := 3) (v := .ref q_3) (ty := (.array .int)) (C := rn_Scanner) (T := fn_Scanner) (N := 9) hx hb hg in_Scanner tn_Scanner tk_Scanner nn_Scanner hown hK hP hD hS 0 rfl rfl 5 (by decide) (hg _ wn_1_94) (fun _ h9 => h9) rfl hin rfl (tk_Scanner 5 (by decide)) rfl rfl (Nat.le_of_ble_eq_true rfl) dn_Scanner_init_26 (fun H locs hP hD hS => ?_)
  have hP : va_P (dC, dI) xcl [(h0, .inr (3, xo_Scanner (va_up (va_up (va_up f0 1 (.ref q_1)) 4 (.ref q_2)) 5 (.ref q_3)))), (q_1, .inl (cB, 0, .inl (fun _ => 0))), (q_2, .inl (cI, 256, .inl (fun _ => 0))), (q_3, .inl (cI, 19830, .inl (fun _ => 0)))] H := hP
  have hD : va_D A [(h0, .inr (3, xo_Scanner (va_up (va_up (va_up f0 1 (.ref q_1)) 4 (.ref q_2)) 5 (.ref q_3)))), (q_1, .inl (cB, 0, .inl (fun _ => 0))), (q_2, .inl (cI, 256, .inl (fun _ => 0))), (q_3, .inl (cI, 19830, .inl (fun _ => 0)))] := hD
  have hP := hP.sub (ws' := [(h0, .inr (3, xo_Scanner (va_up (va_up (va_up f0 1 (.ref q_1)) 4 (.ref q_2)) 5 (.ref q_3)))), (q_1, .inl (cB, 0, .inl (fun _ => 0))), (q_2, .inl (cI, 256, .inl (fun _ => 0)))]) [0, 1, 2] rfl
  have hD := hD.sub (ws' := [(h0, .inr (3, xo_Scanner (va_up (va_up (va_up f0 1 (.ref q_1)) 4 (.ref q_2)) 5 (.ref q_3)))), (q_1, .inl (cB, 0, .inl (fun _ => 0))), (q_2, .inl (cI, 256, .inl (fun _ => 0)))]) [0, 1, 2] (by decide) rfl
  refine lv_aload_n hx hb dn_Scanner_init_29 rfl (lv_at hl 0 rfl) ?_
  refine lv_sipush (v := 19830) hx hb dn_Scanner_init_30 (by decide) ?_
  refine xk_newI 19830 hx hb (hg _ wn_1_119) hK hP hD hS hA 0 rfl rfl (Nat.le_of_ble_eq_true rfl) (Nat.le_of_ble_eq_true rfl) (Nat.le_of_ble_eq_true rfl) dn_Scanner_init_33 (fun q_4 H hP hD hS => ?_)
  have hP : va_P (dC, dI) xcl [(h0, .inr (3, xo_Scanner (va_up (va_up (va_up f0 1 (.ref q_1)) 4 (.ref q_2)) 5 (.ref q_3)))), (q_1, .inl (cB, 0, .inl (fun _ => 0))), (q_2, .inl (cI, 256, .inl (fun _ => 0))), (q_4, .inl (cI, 19830, .inl (fun _ => 0)))] H := hP
  have hD : va_D A [(h0, .inr (3, xo_Scanner (va_up (va_up (va_up f0 1 (.ref q_1)) 4 (.ref q_2)) 5 (.ref q_3)))), (q_1, .inl (cB, 0, .inl (fun _ => 0))), (q_2, .inl (cI, 256, .inl (fun _ => 0))), (q_4, .inl (cI, 19830, .inl (fun _ => 0)))] := hD
  refine va_putF (D := (dC, dI)) (ci := 3) (v := .ref q_4) (ty := (.array .int)) (C := rn_Scanner) (T := fn_Scanner) (N := 9) hx hb hg in_Scanner tn_Scanner tk_Scanner nn_Scanner hown hK hP hD hS 0 rfl rfl 6 (by decide) (hg _ wn_1_95) (fun _ h9 => h9) rfl hin rfl (tk_Scanner 6 (by decide)) rfl rfl (Nat.le_of_ble_eq_true rfl) dn_Scanner_init_35 (fun H locs hP hD hS => ?_)
  have hP : va_P (dC, dI) xcl [(h0, .inr (3, xo_Scanner (va_up (va_up (va_up (va_up f0 1 (.ref q_1)) 4 (.ref q_2)) 5 (.ref q_3)) 6 (.ref q_4)))), (q_1, .inl (cB, 0, .inl (fun _ => 0))), (q_2, .inl (cI, 256, .inl (fun _ => 0))), (q_4, .inl (cI, 19830, .inl (fun _ => 0)))] H := hP
  have hD : va_D A [(h0, .inr (3, xo_Scanner (va_up (va_up (va_up (va_up f0 1 (.ref q_1)) 4 (.ref q_2)) 5 (.ref q_3)) 6 (.ref q_4)))), (q_1, .inl (cB, 0, .inl (fun _ => 0))), (q_2, .inl (cI, 256, .inl (fun _ => 0))), (q_4, .inl (cI, 19830, .inl (fun _ => 0)))] := hD
  have hP := hP.sub (ws' := [(h0, .inr (3, xo_Scanner (va_up (va_up (va_up (va_up f0 1 (.ref q_1)) 4 (.ref q_2)) 5 (.ref q_3)) 6 (.ref q_4)))), (q_1, .inl (cB, 0, .inl (fun _ => 0))), (q_2, .inl (cI, 256, .inl (fun _ => 0)))]) [0, 1, 2] rfl
  have hD := hD.sub (ws' := [(h0, .inr (3, xo_Scanner (va_up (va_up (va_up (va_up f0 1 (.ref q_1)) 4 (.ref q_2)) 5 (.ref q_3)) 6 (.ref q_4)))), (q_1, .inl (cB, 0, .inl (fun _ => 0))), (q_2, .inl (cI, 256, .inl (fun _ => 0)))]) [0, 1, 2] (by decide) rfl
  refine lv_aload_n hx hb dn_Scanner_init_38 rfl (lv_at hl 0 rfl) ?_
  refine lv_sipush (v := 19830) hx hb dn_Scanner_init_39 (by decide) ?_
  refine xk_newI 19830 hx hb (hg _ wn_1_119) hK hP hD hS hA 0 rfl rfl (Nat.le_of_ble_eq_true rfl) (Nat.le_of_ble_eq_true rfl) (Nat.le_of_ble_eq_true rfl) dn_Scanner_init_42 (fun q_5 H hP hD hS => ?_)
  have hP : va_P (dC, dI) xcl [(h0, .inr (3, xo_Scanner (va_up (va_up (va_up (va_up f0 1 (.ref q_1)) 4 (.ref q_2)) 5 (.ref q_3)) 6 (.ref q_4)))), (q_1, .inl (cB, 0, .inl (fun _ => 0))), (q_2, .inl (cI, 256, .inl (fun _ => 0))), (q_5, .inl (cI, 19830, .inl (fun _ => 0)))] H := hP
  have hD : va_D A [(h0, .inr (3, xo_Scanner (va_up (va_up (va_up (va_up f0 1 (.ref q_1)) 4 (.ref q_2)) 5 (.ref q_3)) 6 (.ref q_4)))), (q_1, .inl (cB, 0, .inl (fun _ => 0))), (q_2, .inl (cI, 256, .inl (fun _ => 0))), (q_5, .inl (cI, 19830, .inl (fun _ => 0)))] := hD
  refine va_putF (D := (dC, dI)) (ci := 3) (v := .ref q_5) (ty := (.array .int)) (C := rn_Scanner) (T := fn_Scanner) (N := 9) hx hb hg in_Scanner tn_Scanner tk_Scanner nn_Scanner hown hK hP hD hS 0 rfl rfl 7 (by decide) (hg _ wn_1_96) (fun _ h9 => h9) rfl hin rfl (tk_Scanner 7 (by decide)) rfl rfl (Nat.le_of_ble_eq_true rfl) dn_Scanner_init_44 (fun H locs hP hD hS => ?_)
  have hP : va_P (dC, dI) xcl [(h0, .inr (3, xo_Scanner (va_up (va_up (va_up (va_up (va_up f0 1 (.ref q_1)) 4 (.ref q_2)) 5 (.ref q_3)) 6 (.ref q_4)) 7 (.ref q_5)))), (q_1, .inl (cB, 0, .inl (fun _ => 0))), (q_2, .inl (cI, 256, .inl (fun _ => 0))), (q_5, .inl (cI, 19830, .inl (fun _ => 0)))] H := hP
  have hD : va_D A [(h0, .inr (3, xo_Scanner (va_up (va_up (va_up (va_up (va_up f0 1 (.ref q_1)) 4 (.ref q_2)) 5 (.ref q_3)) 6 (.ref q_4)) 7 (.ref q_5)))), (q_1, .inl (cB, 0, .inl (fun _ => 0))), (q_2, .inl (cI, 256, .inl (fun _ => 0))), (q_5, .inl (cI, 19830, .inl (fun _ => 0)))] := hD
  have hP := hP.sub (ws' := [(h0, .inr (3, xo_Scanner (va_up (va_up (va_up (va_up (va_up f0 1 (.ref q_1)) 4 (.ref q_2)) 5 (.ref q_3)) 6 (.ref q_4)) 7 (.ref q_5)))), (q_1, .inl (cB, 0, .inl (fun _ => 0))), (q_2, .inl (cI, 256, .inl (fun _ => 0)))]) [0, 1, 2] rfl
  have hD := hD.sub (ws' := [(h0, .inr (3, xo_Scanner (va_up (va_up (va_up (va_up (va_up f0 1 (.ref q_1)) 4 (.ref q_2)) 5 (.ref q_3)) 6 (.ref q_4)) 7 (.ref q_5)))), (q_1, .inl (cB, 0, .inl (fun _ => 0))), (q_2, .inl (cI, 256, .inl (fun _ => 0)))]) [0, 1, 2] (by decide) rfl
  refine lv_aload_n hx hb dn_Scanner_init_47 rfl (lv_at hl 0 rfl) ?_
  refine lv_aload_n hx hb dn_Scanner_init_48 rfl (lv_at hl 1 rfl) ?_
  refine va_putF (D := (dC, dI)) (ci := 3) (v := .ref h1) (ty := (.object "CircuitCycles$Tokens")) (C := rn_Scanner) (T := fn_Scanner) (N := 9) hx hb hg in_Scanner tn_Scanner tk_Scanner nn_Scanner hown hK hP hD hS 0 rfl rfl 0 (by decide) (hg _ wn_1_89) (fun _ h9 => h9) rfl hin rfl (tk_Scanner 0 (by decide)) rfl rfl (Nat.le_of_ble_eq_true rfl) dn_Scanner_init_49 (fun H locs hP hD hS => ?_)
  have hP : va_P (dC, dI) xcl [(h0, .inr (3, xo_Scanner (va_up (va_up (va_up (va_up (va_up (va_up f0 1 (.ref q_1)) 4 (.ref q_2)) 5 (.ref q_3)) 6 (.ref q_4)) 7 (.ref q_5)) 0 (.ref h1)))), (q_1, .inl (cB, 0, .inl (fun _ => 0))), (q_2, .inl (cI, 256, .inl (fun _ => 0)))] H := hP
  have hD : va_D A [(h0, .inr (3, xo_Scanner (va_up (va_up (va_up (va_up (va_up (va_up f0 1 (.ref q_1)) 4 (.ref q_2)) 5 (.ref q_3)) 6 (.ref q_4)) 7 (.ref q_5)) 0 (.ref h1)))), (q_1, .inl (cB, 0, .inl (fun _ => 0))), (q_2, .inl (cI, 256, .inl (fun _ => 0)))] := hD
  have hP9 := hP.sub (ws' := [(h0, .inr (3, xo_Scanner (va_up (va_up (va_up (va_up (va_up (va_up f0 1 (.ref q_1)) 4 (.ref q_2)) 5 (.ref q_3)) 6 (.ref q_4)) 7 (.ref q_5)) 0 (.ref h1)))), (q_1, .inl (cB, 0, .inl (fun _ => 0))), (q_2, .inl (cI, 256, .inl (fun _ => 0)))]) [0, 1, 2] rfl
  have hD9 := hD.sub (ws' := [(h0, .inr (3, xo_Scanner (va_up (va_up (va_up (va_up (va_up (va_up f0 1 (.ref q_1)) 4 (.ref q_2)) 5 (.ref q_3)) 6 (.ref q_4)) 7 (.ref q_5)) 0 (.ref h1)))), (q_1, .inl (cB, 0, .inl (fun _ => 0))), (q_2, .inl (cI, 256, .inl (fun _ => 0)))]) [0, 1, 2] (by decide) rfl
  exact xk_vret (w1 := fun u : Nat × Nat => [(h0, .inr (3, xo_Scanner (va_up (va_up (va_up (va_up (va_up (va_up f0 1 (.ref u.1)) 4 (.ref u.2)) 5 (.ref q_3)) 6 (.ref q_4)) 7 (.ref q_5)) 0 (.ref h1)))), (u.1, .inl (cB, 0, .inl (fun _ => 0))), (u.2, .inl (cI, 256, .inl (fun _ => 0)))]) (q_1, q_2) hx hb hr hlocks hK hS dn_Scanner_init_52 hP9 hD9 trivial (Nat.le_refl _) (Nat.le_refl _)
set_option maxHeartbeats 4000000 in
set_option maxRecDepth 100000 in
theorem ct_Checker_init_0 (l : Launch) (dC : Nat → ClassId) (dI : Nat → Nat → Nat) (cI cB cJ cZ cQ : ClassId) (sz : Nat) (h0 : Nat) (h1 : Nat) (f0 : Nat → Value) : Met l yn_Checker_init (xw yn_Checker_init bn_Checker_init 2 none) ({ frames := 1, cells := 5, slots := 71437, locals := 20 }) (xk_P (dC, dI) xcl (xt cI cB cJ cZ cQ) [.ref h0, .ref h1] sz [(h0, .inr (4, xo_Checker f0))]) (xk_Qv (dC, dI) xcl (xt cI cB cJ cZ cQ) (fun u : Unit => True) (fun u : Unit => [(h0, .inr (4, xo_Checker (va_up (va_up (va_up (va_up (va_up (va_up f0 5 (.ref q_1)) 6 (.ref q_2)) 7 (.ref q_3)) 8 (.ref q_4)) 9 (.ref q_5)) 0 (.ref h1))))]) (va_A [(h0, .inr (4, xo_Checker f0))] sz)) 5 71437 (va_A [(h0, .inr (4, xo_Checker f0))] sz) := by
  refine xk_of (QA := xk_Qv (dC, dI) xcl (xt cI cB cJ cZ cQ) (fun u : Unit => True) (fun u : Unit => [(h0, .inr (4, xo_Checker (va_up (va_up (va_up (va_up (va_up (va_up f0 5 (.ref q_1)) 6 (.ref q_2)) 7 (.ref q_3)) 8 (.ref q_4)) 9 (.ref q_5)) 0 (.ref h1))))])) (by decide) (Nat.le_of_ble_eq_true rfl) ?_
  intro p e s m below meth c hx hb hml hown hg hr hlocks hin hP hK hN A hA hD hS ls hl
  have hown : s.vm.findClass rn_Checker = some m.cls := hown
  have hl : lv_has ls 2 [(0, .ref h0), (1, .ref h1)] := hl
  obtain ⟨H, hH⟩ : ∃ z, z = s.heap := ⟨_, rfl⟩
  rw [← hH] at hP
  have hS : va_S A s.heap H [] := by rw [hH]; exact va_S.rf
  suffices kk : W p l e ({ frames := 1, cells := 5, slots := 71437, locals := 20 }) s m [.ref h0, .ref h1].toArray below meth c H [] 0 0 (MQ below (xk_Qv (dC, dI) xcl (xt cI cB cJ cZ cQ) (fun u : Unit => True) (fun u : Unit => [(h0, .inr (4, xo_Checker (va_up (va_up (va_up (va_up (va_up (va_up f0 5 (.ref q_1)) 6 (.ref q_2)) 7 (.ref q_3)) 8 (.ref q_4)) 9 (.ref q_5)) 0 (.ref h1))))]) A) [.ref h0, .ref h1].toArray s 5 71437 A) (F0 m 0 ls []) by rw [hH] at kk; exact kk
  refine lv_aload_n hx hb dn_Checker_init_0 rfl (lv_at hl 0 rfl) ?_
  refine W.objInit hx hb hown (hg _ wn_1_125) (hg _ wn_1_36) (hg _ wn_1_37) rfl (by rw [hml]; exact hl.1) rfl dn_Checker_init_1 (Nat.le_of_ble_eq_true rfl) (Nat.le_of_ble_eq_true rfl) ?_
  refine W.eq (g2 := F0 m 4 ls []) rfl ?_
  refine lv_aload_n hx hb dn_Checker_init_4 rfl (lv_at hl 0 rfl) ?_
  refine lv_sipush (v := 19830) hx hb dn_Checker_init_5 (by decide) ?_
  refine xk_newI 19830 hx hb (hg _ wn_1_119) hK hP hD hS hA 0 rfl rfl (Nat.le_of_ble_eq_true rfl) (Nat.le_of_ble_eq_true rfl) (Nat.le_of_ble_eq_true rfl) dn_Checker_init_8 (fun q_1 H hP hD hS => ?_)
  have hP : va_P (dC, dI) xcl [(h0, .inr (4, xo_Checker f0)), (q_1, .inl (cI, 19830, .inl (fun _ => 0)))] H := hP
  have hD : va_D A [(h0, .inr (4, xo_Checker f0)), (q_1, .inl (cI, 19830, .inl (fun _ => 0)))] := hD
  refine va_putF (D := (dC, dI)) (ci := 4) (v := .ref q_1) (ty := (.array .int)) (C := rn_Checker) (T := fn_Checker) (N := 15) hx hb hg in_Checker tn_Checker tk_Checker nn_Checker hown hK hP hD hS 0 rfl rfl 5 (by decide) (hg _ wn_1_131) (fun _ h9 => h9) rfl hin rfl (tk_Checker 5 (by decide)) rfl rfl (Nat.le_of_ble_eq_true rfl) dn_Checker_init_10 (fun H locs hP hD hS => ?_)
  have hP : va_P (dC, dI) xcl [(h0, .inr (4, xo_Checker (va_up f0 5 (.ref q_1)))), (q_1, .inl (cI, 19830, .inl (fun _ => 0)))] H := hP
  have hD : va_D A [(h0, .inr (4, xo_Checker (va_up f0 5 (.ref q_1)))), (q_1, .inl (cI, 19830, .inl (fun _ => 0)))] := hD
  have hP := hP.sub (ws' := [(h0, .inr (4, xo_Checker (va_up f0 5 (.ref q_1))))]) [0] rfl
  have hD := hD.sub (ws' := [(h0, .inr (4, xo_Checker (va_up f0 5 (.ref q_1))))]) [0] (by decide) rfl
  refine lv_aload_n hx hb dn_Checker_init_13 rfl (lv_at hl 0 rfl) ?_
  refine lv_sipush (v := 19830) hx hb dn_Checker_init_14 (by decide) ?_
  refine xk_newI 19830 hx hb (hg _ wn_1_119) hK hP hD hS hA 0 rfl rfl (Nat.le_of_ble_eq_true rfl) (Nat.le_of_ble_eq_true rfl) (Nat.le_of_ble_eq_true rfl) dn_Checker_init_17 (fun q_2 H hP hD hS => ?_)
  have hP : va_P (dC, dI) xcl [(h0, .inr (4, xo_Checker (va_up f0 5 (.ref q_1)))), (q_2, .inl (cI, 19830, .inl (fun _ => 0)))] H := hP
  have hD : va_D A [(h0, .inr (4, xo_Checker (va_up f0 5 (.ref q_1)))), (q_2, .inl (cI, 19830, .inl (fun _ => 0)))] := hD
  refine va_putF (D := (dC, dI)) (ci := 4) (v := .ref q_2) (ty := (.array .int)) (C := rn_Checker) (T := fn_Checker) (N := 15) hx hb hg in_Checker tn_Checker tk_Checker nn_Checker hown hK hP hD hS 0 rfl rfl 6 (by decide) (hg _ wn_1_132) (fun _ h9 => h9) rfl hin rfl (tk_Checker 6 (by decide)) rfl rfl (Nat.le_of_ble_eq_true rfl) dn_Checker_init_19 (fun H locs hP hD hS => ?_)
  have hP : va_P (dC, dI) xcl [(h0, .inr (4, xo_Checker (va_up (va_up f0 5 (.ref q_1)) 6 (.ref q_2)))), (q_2, .inl (cI, 19830, .inl (fun _ => 0)))] H := hP
  have hD : va_D A [(h0, .inr (4, xo_Checker (va_up (va_up f0 5 (.ref q_1)) 6 (.ref q_2)))), (q_2, .inl (cI, 19830, .inl (fun _ => 0)))] := hD
  have hP := hP.sub (ws' := [(h0, .inr (4, xo_Checker (va_up (va_up f0 5 (.ref q_1)) 6 (.ref q_2))))]) [0] rfl
  have hD := hD.sub (ws' := [(h0, .inr (4, xo_Checker (va_up (va_up f0 5 (.ref q_1)) 6 (.ref q_2))))]) [0] (by decide) rfl
  refine lv_aload_n hx hb dn_Checker_init_22 rfl (lv_at hl 0 rfl) ?_
  refine lv_sipush (v := 19830) hx hb dn_Checker_init_23 (by decide) ?_
  refine xk_newI 19830 hx hb (hg _ wn_1_119) hK hP hD hS hA 0 rfl rfl (Nat.le_of_ble_eq_true rfl) (Nat.le_of_ble_eq_true rfl) (Nat.le_of_ble_eq_true rfl) dn_Checker_init_26 (fun q_3 H hP hD hS => ?_)
  have hP : va_P (dC, dI) xcl [(h0, .inr (4, xo_Checker (va_up (va_up f0 5 (.ref q_1)) 6 (.ref q_2)))), (q_3, .inl (cI, 19830, .inl (fun _ => 0)))] H := hP
  have hD : va_D A [(h0, .inr (4, xo_Checker (va_up (va_up f0 5 (.ref q_1)) 6 (.ref q_2)))), (q_3, .inl (cI, 19830, .inl (fun _ => 0)))] := hD
  refine va_putF (D := (dC, dI)) (ci := 4) (v := .ref q_3) (ty := (.array .int)) (C := rn_Checker) (T := fn_Checker) (N := 15) hx hb hg in_Checker tn_Checker tk_Checker nn_Checker hown hK hP hD hS 0 rfl rfl 7 (by decide) (hg _ wn_1_133) (fun _ h9 => h9) rfl hin rfl (tk_Checker 7 (by decide)) rfl rfl (Nat.le_of_ble_eq_true rfl) dn_Checker_init_28 (fun H locs hP hD hS => ?_)
  have hP : va_P (dC, dI) xcl [(h0, .inr (4, xo_Checker (va_up (va_up (va_up f0 5 (.ref q_1)) 6 (.ref q_2)) 7 (.ref q_3)))), (q_3, .inl (cI, 19830, .inl (fun _ => 0)))] H := hP
  have hD : va_D A [(h0, .inr (4, xo_Checker (va_up (va_up (va_up f0 5 (.ref q_1)) 6 (.ref q_2)) 7 (.ref q_3)))), (q_3, .inl (cI, 19830, .inl (fun _ => 0)))] := hD
  have hP := hP.sub (ws' := [(h0, .inr (4, xo_Checker (va_up (va_up (va_up f0 5 (.ref q_1)) 6 (.ref q_2)) 7 (.ref q_3))))]) [0] rfl
  have hD := hD.sub (ws' := [(h0, .inr (4, xo_Checker (va_up (va_up (va_up f0 5 (.ref q_1)) 6 (.ref q_2)) 7 (.ref q_3))))]) [0] (by decide) rfl
  refine lv_aload_n hx hb dn_Checker_init_31 rfl (lv_at hl 0 rfl) ?_
  refine lv_sipush (v := 10923) hx hb dn_Checker_init_32 (by decide) ?_
  refine xk_newI 10923 hx hb (hg _ wn_1_119) hK hP hD hS hA 0 rfl rfl (Nat.le_of_ble_eq_true rfl) (Nat.le_of_ble_eq_true rfl) (Nat.le_of_ble_eq_true rfl) dn_Checker_init_35 (fun q_4 H hP hD hS => ?_)
  have hP : va_P (dC, dI) xcl [(h0, .inr (4, xo_Checker (va_up (va_up (va_up f0 5 (.ref q_1)) 6 (.ref q_2)) 7 (.ref q_3)))), (q_4, .inl (cI, 10923, .inl (fun _ => 0)))] H := hP
  have hD : va_D A [(h0, .inr (4, xo_Checker (va_up (va_up (va_up f0 5 (.ref q_1)) 6 (.ref q_2)) 7 (.ref q_3)))), (q_4, .inl (cI, 10923, .inl (fun _ => 0)))] := hD
  refine va_putF (D := (dC, dI)) (ci := 4) (v := .ref q_4) (ty := (.array .int)) (C := rn_Checker) (T := fn_Checker) (N := 15) hx hb hg in_Checker tn_Checker tk_Checker nn_Checker hown hK hP hD hS 0 rfl rfl 8 (by decide) (hg _ wn_1_134) (fun _ h9 => h9) rfl hin rfl (tk_Checker 8 (by decide)) rfl rfl (Nat.le_of_ble_eq_true rfl) dn_Checker_init_37 (fun H locs hP hD hS => ?_)
  have hP : va_P (dC, dI) xcl [(h0, .inr (4, xo_Checker (va_up (va_up (va_up (va_up f0 5 (.ref q_1)) 6 (.ref q_2)) 7 (.ref q_3)) 8 (.ref q_4)))), (q_4, .inl (cI, 10923, .inl (fun _ => 0)))] H := hP
  have hD : va_D A [(h0, .inr (4, xo_Checker (va_up (va_up (va_up (va_up f0 5 (.ref q_1)) 6 (.ref q_2)) 7 (.ref q_3)) 8 (.ref q_4)))), (q_4, .inl (cI, 10923, .inl (fun _ => 0)))] := hD
  have hP := hP.sub (ws' := [(h0, .inr (4, xo_Checker (va_up (va_up (va_up (va_up f0 5 (.ref q_1)) 6 (.ref q_2)) 7 (.ref q_3)) 8 (.ref q_4))))]) [0] rfl
  have hD := hD.sub (ws' := [(h0, .inr (4, xo_Checker (va_up (va_up (va_up (va_up f0 5 (.ref q_1)) 6 (.ref q_2)) 7 (.ref q_3)) 8 (.ref q_4))))]) [0] (by decide) rfl
  refine lv_aload_n hx hb dn_Checker_init_40 rfl (lv_at hl 0 rfl) ?_
  refine lv_sipush (v := 1024) hx hb dn_Checker_init_41 (by decide) ?_
  refine xk_newI 1024 hx hb (hg _ wn_1_119) hK hP hD hS hA 0 rfl rfl (Nat.le_of_ble_eq_true rfl) (Nat.le_of_ble_eq_true rfl) (Nat.le_of_ble_eq_true rfl) dn_Checker_init_44 (fun q_5 H hP hD hS => ?_)
  have hP : va_P (dC, dI) xcl [(h0, .inr (4, xo_Checker (va_up (va_up (va_up (va_up f0 5 (.ref q_1)) 6 (.ref q_2)) 7 (.ref q_3)) 8 (.ref q_4)))), (q_5, .inl (cI, 1024, .inl (fun _ => 0)))] H := hP
  have hD : va_D A [(h0, .inr (4, xo_Checker (va_up (va_up (va_up (va_up f0 5 (.ref q_1)) 6 (.ref q_2)) 7 (.ref q_3)) 8 (.ref q_4)))), (q_5, .inl (cI, 1024, .inl (fun _ => 0)))] := hD
  refine va_putF (D := (dC, dI)) (ci := 4) (v := .ref q_5) (ty := (.array .int)) (C := rn_Checker) (T := fn_Checker) (N := 15) hx hb hg in_Checker tn_Checker tk_Checker nn_Checker hown hK hP hD hS 0 rfl rfl 9 (by decide) (hg _ wn_1_135) (fun _ h9 => h9) rfl hin rfl (tk_Checker 9 (by decide)) rfl rfl (Nat.le_of_ble_eq_true rfl) dn_Checker_init_46 (fun H locs hP hD hS => ?_)
  have hP : va_P (dC, dI) xcl [(h0, .inr (4, xo_Checker (va_up (va_up (va_up (va_up (va_up f0 5 (.ref q_1)) 6 (.ref q_2)) 7 (.ref q_3)) 8 (.ref q_4)) 9 (.ref q_5)))), (q_5, .inl (cI, 1024, .inl (fun _ => 0)))] H := hP
  have hD : va_D A [(h0, .inr (4, xo_Checker (va_up (va_up (va_up (va_up (va_up f0 5 (.ref q_1)) 6 (.ref q_2)) 7 (.ref q_3)) 8 (.ref q_4)) 9 (.ref q_5)))), (q_5, .inl (cI, 1024, .inl (fun _ => 0)))] := hD
  have hP := hP.sub (ws' := [(h0, .inr (4, xo_Checker (va_up (va_up (va_up (va_up (va_up f0 5 (.ref q_1)) 6 (.ref q_2)) 7 (.ref q_3)) 8 (.ref q_4)) 9 (.ref q_5))))]) [0] rfl
  have hD := hD.sub (ws' := [(h0, .inr (4, xo_Checker (va_up (va_up (va_up (va_up (va_up f0 5 (.ref q_1)) 6 (.ref q_2)) 7 (.ref q_3)) 8 (.ref q_4)) 9 (.ref q_5))))]) [0] (by decide) rfl
  refine lv_aload_n hx hb dn_Checker_init_49 rfl (lv_at hl 0 rfl) ?_
  refine lv_aload_n hx hb dn_Checker_init_50 rfl (lv_at hl 1 rfl) ?_
  refine va_putF (D := (dC, dI)) (ci := 4) (v := .ref h1) (ty := (.object "CircuitCycles$Tokens")) (C := rn_Checker) (T := fn_Checker) (N := 15) hx hb hg in_Checker tn_Checker tk_Checker nn_Checker hown hK hP hD hS 0 rfl rfl 0 (by decide) (hg _ wn_1_126) (fun _ h9 => h9) rfl hin rfl (tk_Checker 0 (by decide)) rfl rfl (Nat.le_of_ble_eq_true rfl) dn_Checker_init_51 (fun H locs hP hD hS => ?_)
  have hP : va_P (dC, dI) xcl [(h0, .inr (4, xo_Checker (va_up (va_up (va_up (va_up (va_up (va_up f0 5 (.ref q_1)) 6 (.ref q_2)) 7 (.ref q_3)) 8 (.ref q_4)) 9 (.ref q_5)) 0 (.ref h1))))] H := hP
  have hD : va_D A [(h0, .inr (4, xo_Checker (va_up (va_up (va_up (va_up (va_up (va_up f0 5 (.ref q_1)) 6 (.ref q_2)) 7 (.ref q_3)) 8 (.ref q_4)) 9 (.ref q_5)) 0 (.ref h1))))] := hD
  have hP9 := hP.sub (ws' := [(h0, .inr (4, xo_Checker (va_up (va_up (va_up (va_up (va_up (va_up f0 5 (.ref q_1)) 6 (.ref q_2)) 7 (.ref q_3)) 8 (.ref q_4)) 9 (.ref q_5)) 0 (.ref h1))))]) [0] rfl
  have hD9 := hD.sub (ws' := [(h0, .inr (4, xo_Checker (va_up (va_up (va_up (va_up (va_up (va_up f0 5 (.ref q_1)) 6 (.ref q_2)) 7 (.ref q_3)) 8 (.ref q_4)) 9 (.ref q_5)) 0 (.ref h1))))]) [0] (by decide) rfl
  exact xk_vret (w1 := fun u : Unit => [(h0, .inr (4, xo_Checker (va_up (va_up (va_up (va_up (va_up (va_up f0 5 (.ref q_1)) 6 (.ref q_2)) 7 (.ref q_3)) 8 (.ref q_4)) 9 (.ref q_5)) 0 (.ref h1))))]) () hx hb hr hlocks hK hS dn_Checker_init_54 hP9 hD9 trivial (Nat.le_refl _) (Nat.le_refl _)
set_option maxHeartbeats 4000000 in
set_option maxRecDepth 100000 in
theorem ct_Meaning_init_0 (l : Launch) (dC : Nat → ClassId) (dI : Nat → Nat → Nat) (cI cB cJ cZ cQ : ClassId) (sz : Nat) (h0 : Nat) (h1 : Nat) (f0 : Nat → Value) : Met l yn_Meaning_init (xw yn_Meaning_init bn_Meaning_init 2 none) ({ frames := 1, cells := 4, slots := 240, locals := 20 }) (xk_P (dC, dI) xcl (xt cI cB cJ cZ cQ) [.ref h0, .ref h1] sz [(h0, .inr (5, xo_Meaning f0))]) (xk_Qv (dC, dI) xcl (xt cI cB cJ cZ cQ) (fun u : Unit => True) (fun u : Unit => [(h0, .inr (5, xo_Meaning (va_up (va_up (va_up (va_up (va_up f0 12 (.ref q_1)) 13 (.ref q_2)) 14 (.ref q_3)) 15 (.ref q_4)) 0 (.ref h1))))]) (va_A [(h0, .inr (5, xo_Meaning f0))] sz)) 4 240 (va_A [(h0, .inr (5, xo_Meaning f0))] sz) := by
  refine xk_of (QA := xk_Qv (dC, dI) xcl (xt cI cB cJ cZ cQ) (fun u : Unit => True) (fun u : Unit => [(h0, .inr (5, xo_Meaning (va_up (va_up (va_up (va_up (va_up f0 12 (.ref q_1)) 13 (.ref q_2)) 14 (.ref q_3)) 15 (.ref q_4)) 0 (.ref h1))))])) (by decide) (Nat.le_of_ble_eq_true rfl) ?_
  intro p e s m below meth c hx hb hml hown hg hr hlocks hin hP hK hN A hA hD hS ls hl
  have hown : s.vm.findClass rn_Meaning = some m.cls := hown
  have hl : lv_has ls 2 [(0, .ref h0), (1, .ref h1)] := hl
  obtain ⟨H, hH⟩ : ∃ z, z = s.heap := ⟨_, rfl⟩
  rw [← hH] at hP
  have hS : va_S A s.heap H [] := by rw [hH]; exact va_S.rf
  suffices kk : W p l e ({ frames := 1, cells := 4, slots := 240, locals := 20 }) s m [.ref h0, .ref h1].toArray below meth c H [] 0 0 (MQ below (xk_Qv (dC, dI) xcl (xt cI cB cJ cZ cQ) (fun u : Unit => True) (fun u : Unit => [(h0, .inr (5, xo_Meaning (va_up (va_up (va_up (va_up (va_up f0 12 (.ref q_1)) 13 (.ref q_2)) 14 (.ref q_3)) 15 (.ref q_4)) 0 (.ref h1))))]) A) [.ref h0, .ref h1].toArray s 4 240 A) (F0 m 0 ls []) by rw [hH] at kk; exact kk
  refine lv_aload_n hx hb dn_Meaning_init_0 rfl (lv_at hl 0 rfl) ?_
  refine W.objInit hx hb hown (hg _ wn_1_183) (hg _ wn_1_36) (hg _ wn_1_37) rfl (by rw [hml]; exact hl.1) rfl dn_Meaning_init_1 (Nat.le_of_ble_eq_true rfl) (Nat.le_of_ble_eq_true rfl) ?_
  refine W.eq (g2 := F0 m 4 ls []) rfl ?_
  refine lv_aload_n hx hb dn_Meaning_init_4 rfl (lv_at hl 0 rfl) ?_
  refine lv_bipush (v := 60) hx hb dn_Meaning_init_5 (by decide) ?_
  refine xk_newI 60 hx hb (hg _ wn_1_119) hK hP hD hS hA 0 rfl rfl (Nat.le_of_ble_eq_true rfl) (Nat.le_of_ble_eq_true rfl) (Nat.le_of_ble_eq_true rfl) dn_Meaning_init_7 (fun q_1 H hP hD hS => ?_)
  have hP : va_P (dC, dI) xcl [(h0, .inr (5, xo_Meaning f0)), (q_1, .inl (cI, 60, .inl (fun _ => 0)))] H := hP
  have hD : va_D A [(h0, .inr (5, xo_Meaning f0)), (q_1, .inl (cI, 60, .inl (fun _ => 0)))] := hD
  refine va_putF (D := (dC, dI)) (ci := 5) (v := .ref q_1) (ty := (.array .int)) (C := rn_Meaning) (T := fn_Meaning) (N := 17) hx hb hg in_Meaning tn_Meaning tk_Meaning nn_Meaning hown hK hP hD hS 0 rfl rfl 12 (by decide) (hg _ wn_1_196) (fun _ h9 => h9) rfl hin rfl (tk_Meaning 12 (by decide)) rfl rfl (Nat.le_of_ble_eq_true rfl) dn_Meaning_init_9 (fun H locs hP hD hS => ?_)
  have hP : va_P (dC, dI) xcl [(h0, .inr (5, xo_Meaning (va_up f0 12 (.ref q_1)))), (q_1, .inl (cI, 60, .inl (fun _ => 0)))] H := hP
  have hD : va_D A [(h0, .inr (5, xo_Meaning (va_up f0 12 (.ref q_1)))), (q_1, .inl (cI, 60, .inl (fun _ => 0)))] := hD
  have hP := hP.sub (ws' := [(h0, .inr (5, xo_Meaning (va_up f0 12 (.ref q_1))))]) [0] rfl
  have hD := hD.sub (ws' := [(h0, .inr (5, xo_Meaning (va_up f0 12 (.ref q_1))))]) [0] (by decide) rfl
  refine lv_aload_n hx hb dn_Meaning_init_12 rfl (lv_at hl 0 rfl) ?_
  refine lv_bipush (v := 60) hx hb dn_Meaning_init_13 (by decide) ?_
  refine xk_newI 60 hx hb (hg _ wn_1_119) hK hP hD hS hA 0 rfl rfl (Nat.le_of_ble_eq_true rfl) (Nat.le_of_ble_eq_true rfl) (Nat.le_of_ble_eq_true rfl) dn_Meaning_init_15 (fun q_2 H hP hD hS => ?_)
  have hP : va_P (dC, dI) xcl [(h0, .inr (5, xo_Meaning (va_up f0 12 (.ref q_1)))), (q_2, .inl (cI, 60, .inl (fun _ => 0)))] H := hP
  have hD : va_D A [(h0, .inr (5, xo_Meaning (va_up f0 12 (.ref q_1)))), (q_2, .inl (cI, 60, .inl (fun _ => 0)))] := hD
  refine va_putF (D := (dC, dI)) (ci := 5) (v := .ref q_2) (ty := (.array .int)) (C := rn_Meaning) (T := fn_Meaning) (N := 17) hx hb hg in_Meaning tn_Meaning tk_Meaning nn_Meaning hown hK hP hD hS 0 rfl rfl 13 (by decide) (hg _ wn_1_197) (fun _ h9 => h9) rfl hin rfl (tk_Meaning 13 (by decide)) rfl rfl (Nat.le_of_ble_eq_true rfl) dn_Meaning_init_17 (fun H locs hP hD hS => ?_)
  have hP : va_P (dC, dI) xcl [(h0, .inr (5, xo_Meaning (va_up (va_up f0 12 (.ref q_1)) 13 (.ref q_2)))), (q_2, .inl (cI, 60, .inl (fun _ => 0)))] H := hP
  have hD : va_D A [(h0, .inr (5, xo_Meaning (va_up (va_up f0 12 (.ref q_1)) 13 (.ref q_2)))), (q_2, .inl (cI, 60, .inl (fun _ => 0)))] := hD
  have hP := hP.sub (ws' := [(h0, .inr (5, xo_Meaning (va_up (va_up f0 12 (.ref q_1)) 13 (.ref q_2))))]) [0] rfl
  have hD := hD.sub (ws' := [(h0, .inr (5, xo_Meaning (va_up (va_up f0 12 (.ref q_1)) 13 (.ref q_2))))]) [0] (by decide) rfl
  refine lv_aload_n hx hb dn_Meaning_init_20 rfl (lv_at hl 0 rfl) ?_
  refine lv_bipush (v := 60) hx hb dn_Meaning_init_21 (by decide) ?_
  refine xk_newI 60 hx hb (hg _ wn_1_119) hK hP hD hS hA 0 rfl rfl (Nat.le_of_ble_eq_true rfl) (Nat.le_of_ble_eq_true rfl) (Nat.le_of_ble_eq_true rfl) dn_Meaning_init_23 (fun q_3 H hP hD hS => ?_)
  have hP : va_P (dC, dI) xcl [(h0, .inr (5, xo_Meaning (va_up (va_up f0 12 (.ref q_1)) 13 (.ref q_2)))), (q_3, .inl (cI, 60, .inl (fun _ => 0)))] H := hP
  have hD : va_D A [(h0, .inr (5, xo_Meaning (va_up (va_up f0 12 (.ref q_1)) 13 (.ref q_2)))), (q_3, .inl (cI, 60, .inl (fun _ => 0)))] := hD
  refine va_putF (D := (dC, dI)) (ci := 5) (v := .ref q_3) (ty := (.array .int)) (C := rn_Meaning) (T := fn_Meaning) (N := 17) hx hb hg in_Meaning tn_Meaning tk_Meaning nn_Meaning hown hK hP hD hS 0 rfl rfl 14 (by decide) (hg _ wn_1_198) (fun _ h9 => h9) rfl hin rfl (tk_Meaning 14 (by decide)) rfl rfl (Nat.le_of_ble_eq_true rfl) dn_Meaning_init_25 (fun H locs hP hD hS => ?_)
  have hP : va_P (dC, dI) xcl [(h0, .inr (5, xo_Meaning (va_up (va_up (va_up f0 12 (.ref q_1)) 13 (.ref q_2)) 14 (.ref q_3)))), (q_3, .inl (cI, 60, .inl (fun _ => 0)))] H := hP
  have hD : va_D A [(h0, .inr (5, xo_Meaning (va_up (va_up (va_up f0 12 (.ref q_1)) 13 (.ref q_2)) 14 (.ref q_3)))), (q_3, .inl (cI, 60, .inl (fun _ => 0)))] := hD
  have hP := hP.sub (ws' := [(h0, .inr (5, xo_Meaning (va_up (va_up (va_up f0 12 (.ref q_1)) 13 (.ref q_2)) 14 (.ref q_3))))]) [0] rfl
  have hD := hD.sub (ws' := [(h0, .inr (5, xo_Meaning (va_up (va_up (va_up f0 12 (.ref q_1)) 13 (.ref q_2)) 14 (.ref q_3))))]) [0] (by decide) rfl
  refine lv_aload_n hx hb dn_Meaning_init_28 rfl (lv_at hl 0 rfl) ?_
  refine lv_bipush (v := 60) hx hb dn_Meaning_init_29 (by decide) ?_
  refine xk_newI 60 hx hb (hg _ wn_1_119) hK hP hD hS hA 0 rfl rfl (Nat.le_of_ble_eq_true rfl) (Nat.le_of_ble_eq_true rfl) (Nat.le_of_ble_eq_true rfl) dn_Meaning_init_31 (fun q_4 H hP hD hS => ?_)
  have hP : va_P (dC, dI) xcl [(h0, .inr (5, xo_Meaning (va_up (va_up (va_up f0 12 (.ref q_1)) 13 (.ref q_2)) 14 (.ref q_3)))), (q_4, .inl (cI, 60, .inl (fun _ => 0)))] H := hP
  have hD : va_D A [(h0, .inr (5, xo_Meaning (va_up (va_up (va_up f0 12 (.ref q_1)) 13 (.ref q_2)) 14 (.ref q_3)))), (q_4, .inl (cI, 60, .inl (fun _ => 0)))] := hD
  refine va_putF (D := (dC, dI)) (ci := 5) (v := .ref q_4) (ty := (.array .int)) (C := rn_Meaning) (T := fn_Meaning) (N := 17) hx hb hg in_Meaning tn_Meaning tk_Meaning nn_Meaning hown hK hP hD hS 0 rfl rfl 15 (by decide) (hg _ wn_1_199) (fun _ h9 => h9) rfl hin rfl (tk_Meaning 15 (by decide)) rfl rfl (Nat.le_of_ble_eq_true rfl) dn_Meaning_init_33 (fun H locs hP hD hS => ?_)
  have hP : va_P (dC, dI) xcl [(h0, .inr (5, xo_Meaning (va_up (va_up (va_up (va_up f0 12 (.ref q_1)) 13 (.ref q_2)) 14 (.ref q_3)) 15 (.ref q_4)))), (q_4, .inl (cI, 60, .inl (fun _ => 0)))] H := hP
  have hD : va_D A [(h0, .inr (5, xo_Meaning (va_up (va_up (va_up (va_up f0 12 (.ref q_1)) 13 (.ref q_2)) 14 (.ref q_3)) 15 (.ref q_4)))), (q_4, .inl (cI, 60, .inl (fun _ => 0)))] := hD
  have hP := hP.sub (ws' := [(h0, .inr (5, xo_Meaning (va_up (va_up (va_up (va_up f0 12 (.ref q_1)) 13 (.ref q_2)) 14 (.ref q_3)) 15 (.ref q_4))))]) [0] rfl
  have hD := hD.sub (ws' := [(h0, .inr (5, xo_Meaning (va_up (va_up (va_up (va_up f0 12 (.ref q_1)) 13 (.ref q_2)) 14 (.ref q_3)) 15 (.ref q_4))))]) [0] (by decide) rfl
  refine lv_aload_n hx hb dn_Meaning_init_36 rfl (lv_at hl 0 rfl) ?_
  refine lv_aload_n hx hb dn_Meaning_init_37 rfl (lv_at hl 1 rfl) ?_
  refine va_putF (D := (dC, dI)) (ci := 5) (v := .ref h1) (ty := (.object "CircuitCycles$Checker")) (C := rn_Meaning) (T := fn_Meaning) (N := 17) hx hb hg in_Meaning tn_Meaning tk_Meaning nn_Meaning hown hK hP hD hS 0 rfl rfl 0 (by decide) (hg _ wn_1_184) (fun _ h9 => h9) rfl hin rfl (tk_Meaning 0 (by decide)) rfl rfl (Nat.le_of_ble_eq_true rfl) dn_Meaning_init_38 (fun H locs hP hD hS => ?_)
  have hP : va_P (dC, dI) xcl [(h0, .inr (5, xo_Meaning (va_up (va_up (va_up (va_up (va_up f0 12 (.ref q_1)) 13 (.ref q_2)) 14 (.ref q_3)) 15 (.ref q_4)) 0 (.ref h1))))] H := hP
  have hD : va_D A [(h0, .inr (5, xo_Meaning (va_up (va_up (va_up (va_up (va_up f0 12 (.ref q_1)) 13 (.ref q_2)) 14 (.ref q_3)) 15 (.ref q_4)) 0 (.ref h1))))] := hD
  have hP9 := hP.sub (ws' := [(h0, .inr (5, xo_Meaning (va_up (va_up (va_up (va_up (va_up f0 12 (.ref q_1)) 13 (.ref q_2)) 14 (.ref q_3)) 15 (.ref q_4)) 0 (.ref h1))))]) [0] rfl
  have hD9 := hD.sub (ws' := [(h0, .inr (5, xo_Meaning (va_up (va_up (va_up (va_up (va_up f0 12 (.ref q_1)) 13 (.ref q_2)) 14 (.ref q_3)) 15 (.ref q_4)) 0 (.ref h1))))]) [0] (by decide) rfl
  exact xk_vret (w1 := fun u : Unit => [(h0, .inr (5, xo_Meaning (va_up (va_up (va_up (va_up (va_up f0 12 (.ref q_1)) 13 (.ref q_2)) 14 (.ref q_3)) 15 (.ref q_4)) 0 (.ref h1))))]) () hx hb hr hlocks hK hS dn_Meaning_init_41 hP9 hD9 trivial (Nat.le_refl _) (Nat.le_refl _)
set_option maxHeartbeats 4000000 in
set_option maxRecDepth 100000 in
theorem ct_Grammar_init_0 (l : Launch) (dC : Nat → ClassId) (dI : Nat → Nat → Nat) (cI cB cJ cZ cQ : ClassId) (sz : Nat) (h0 : Nat) (h1 : Nat) (h2 : Nat) (h3 : Nat) (f0 : Nat → Value) : Met l yn_Grammar_init (xw yn_Grammar_init bn_Grammar_init 4 none) ({ frames := 1, cells := 4, slots := 3132, locals := 20 }) (xk_P (dC, dI) xcl (xt cI cB cJ cZ cQ) [.ref h0, .ref h1, .ref h2, .ref h3] sz [(h0, .inr (6, xo_Grammar f0))]) (xk_Qv (dC, dI) xcl (xt cI cB cJ cZ cQ) (fun u : Unit => True) (fun u : Unit => [(h0, .inr (6, xo_Grammar (va_up (va_up (va_up (va_up (va_up (va_up (va_up f0 9 (.ref q_1)) 11 (.ref q_2)) 12 (.ref q_3)) 13 (.ref q_4)) 0 (.ref h1)) 1 (.ref h2)) 2 (.ref h3))))]) (va_A [(h0, .inr (6, xo_Grammar f0))] sz)) 4 3132 (va_A [(h0, .inr (6, xo_Grammar f0))] sz) := by
  refine xk_of (QA := xk_Qv (dC, dI) xcl (xt cI cB cJ cZ cQ) (fun u : Unit => True) (fun u : Unit => [(h0, .inr (6, xo_Grammar (va_up (va_up (va_up (va_up (va_up (va_up (va_up f0 9 (.ref q_1)) 11 (.ref q_2)) 12 (.ref q_3)) 13 (.ref q_4)) 0 (.ref h1)) 1 (.ref h2)) 2 (.ref h3))))])) (by decide) (Nat.le_of_ble_eq_true rfl) ?_
  intro p e s m below meth c hx hb hml hown hg hr hlocks hin hP hK hN A hA hD hS ls hl
  have hown : s.vm.findClass rn_Grammar = some m.cls := hown
  have hl : lv_has ls 4 [(0, .ref h0), (1, .ref h1), (2, .ref h2), (3, .ref h3)] := hl
  obtain ⟨H, hH⟩ : ∃ z, z = s.heap := ⟨_, rfl⟩
  rw [← hH] at hP
  have hS : va_S A s.heap H [] := by rw [hH]; exact va_S.rf
  suffices kk : W p l e ({ frames := 1, cells := 4, slots := 3132, locals := 20 }) s m [.ref h0, .ref h1, .ref h2, .ref h3].toArray below meth c H [] 0 0 (MQ below (xk_Qv (dC, dI) xcl (xt cI cB cJ cZ cQ) (fun u : Unit => True) (fun u : Unit => [(h0, .inr (6, xo_Grammar (va_up (va_up (va_up (va_up (va_up (va_up (va_up f0 9 (.ref q_1)) 11 (.ref q_2)) 12 (.ref q_3)) 13 (.ref q_4)) 0 (.ref h1)) 1 (.ref h2)) 2 (.ref h3))))]) A) [.ref h0, .ref h1, .ref h2, .ref h3].toArray s 4 3132 A) (F0 m 0 ls []) by rw [hH] at kk; exact kk
  refine lv_aload_n hx hb dn_Grammar_init_0 rfl (lv_at hl 0 rfl) ?_
  refine W.objInit hx hb hown (hg _ wn_1_239) (hg _ wn_1_36) (hg _ wn_1_37) rfl (by rw [hml]; exact hl.1) rfl dn_Grammar_init_1 (Nat.le_of_ble_eq_true rfl) (Nat.le_of_ble_eq_true rfl) ?_
  refine W.eq (g2 := F0 m 4 ls []) rfl ?_
  refine lv_aload_n hx hb dn_Grammar_init_4 rfl (lv_at hl 0 rfl) ?_
  refine lv_bipush (v := 60) hx hb dn_Grammar_init_5 (by decide) ?_
  refine xk_newI 60 hx hb (hg _ wn_1_119) hK hP hD hS hA 0 rfl rfl (Nat.le_of_ble_eq_true rfl) (Nat.le_of_ble_eq_true rfl) (Nat.le_of_ble_eq_true rfl) dn_Grammar_init_7 (fun q_1 H hP hD hS => ?_)
  have hP : va_P (dC, dI) xcl [(h0, .inr (6, xo_Grammar f0)), (q_1, .inl (cI, 60, .inl (fun _ => 0)))] H := hP
  have hD : va_D A [(h0, .inr (6, xo_Grammar f0)), (q_1, .inl (cI, 60, .inl (fun _ => 0)))] := hD
  refine va_putF (D := (dC, dI)) (ci := 6) (v := .ref q_1) (ty := (.array .int)) (C := rn_Grammar) (T := fn_Grammar) (N := 15) hx hb hg in_Grammar tn_Grammar tk_Grammar nn_Grammar hown hK hP hD hS 0 rfl rfl 9 (by decide) (hg _ wn_2_9) (fun _ h9 => h9) rfl hin rfl (tk_Grammar 9 (by decide)) rfl rfl (Nat.le_of_ble_eq_true rfl) dn_Grammar_init_9 (fun H locs hP hD hS => ?_)
  have hP : va_P (dC, dI) xcl [(h0, .inr (6, xo_Grammar (va_up f0 9 (.ref q_1)))), (q_1, .inl (cI, 60, .inl (fun _ => 0)))] H := hP
  have hD : va_D A [(h0, .inr (6, xo_Grammar (va_up f0 9 (.ref q_1)))), (q_1, .inl (cI, 60, .inl (fun _ => 0)))] := hD
  have hP := hP.sub (ws' := [(h0, .inr (6, xo_Grammar (va_up f0 9 (.ref q_1))))]) [0] rfl
  have hD := hD.sub (ws' := [(h0, .inr (6, xo_Grammar (va_up f0 9 (.ref q_1))))]) [0] (by decide) rfl
  refine lv_aload_n hx hb dn_Grammar_init_12 rfl (lv_at hl 0 rfl) ?_
  refine lv_sipush (v := 1024) hx hb dn_Grammar_init_13 (by decide) ?_
  refine xk_newI 1024 hx hb (hg _ wn_1_119) hK hP hD hS hA 0 rfl rfl (Nat.le_of_ble_eq_true rfl) (Nat.le_of_ble_eq_true rfl) (Nat.le_of_ble_eq_true rfl) dn_Grammar_init_16 (fun q_2 H hP hD hS => ?_)
  have hP : va_P (dC, dI) xcl [(h0, .inr (6, xo_Grammar (va_up f0 9 (.ref q_1)))), (q_2, .inl (cI, 1024, .inl (fun _ => 0)))] H := hP
  have hD : va_D A [(h0, .inr (6, xo_Grammar (va_up f0 9 (.ref q_1)))), (q_2, .inl (cI, 1024, .inl (fun _ => 0)))] := hD
  refine va_putF (D := (dC, dI)) (ci := 6) (v := .ref q_2) (ty := (.array .int)) (C := rn_Grammar) (T := fn_Grammar) (N := 15) hx hb hg in_Grammar tn_Grammar tk_Grammar nn_Grammar hown hK hP hD hS 0 rfl rfl 11 (by decide) (hg _ wn_2_11) (fun _ h9 => h9) rfl hin rfl (tk_Grammar 11 (by decide)) rfl rfl (Nat.le_of_ble_eq_true rfl) dn_Grammar_init_18 (fun H locs hP hD hS => ?_)
  have hP : va_P (dC, dI) xcl [(h0, .inr (6, xo_Grammar (va_up (va_up f0 9 (.ref q_1)) 11 (.ref q_2)))), (q_2, .inl (cI, 1024, .inl (fun _ => 0)))] H := hP
  have hD : va_D A [(h0, .inr (6, xo_Grammar (va_up (va_up f0 9 (.ref q_1)) 11 (.ref q_2)))), (q_2, .inl (cI, 1024, .inl (fun _ => 0)))] := hD
  have hP := hP.sub (ws' := [(h0, .inr (6, xo_Grammar (va_up (va_up f0 9 (.ref q_1)) 11 (.ref q_2))))]) [0] rfl
  have hD := hD.sub (ws' := [(h0, .inr (6, xo_Grammar (va_up (va_up f0 9 (.ref q_1)) 11 (.ref q_2))))]) [0] (by decide) rfl
  refine lv_aload_n hx hb dn_Grammar_init_21 rfl (lv_at hl 0 rfl) ?_
  refine lv_sipush (v := 1024) hx hb dn_Grammar_init_22 (by decide) ?_
  refine xk_newI 1024 hx hb (hg _ wn_1_119) hK hP hD hS hA 0 rfl rfl (Nat.le_of_ble_eq_true rfl) (Nat.le_of_ble_eq_true rfl) (Nat.le_of_ble_eq_true rfl) dn_Grammar_init_25 (fun q_3 H hP hD hS => ?_)
  have hP : va_P (dC, dI) xcl [(h0, .inr (6, xo_Grammar (va_up (va_up f0 9 (.ref q_1)) 11 (.ref q_2)))), (q_3, .inl (cI, 1024, .inl (fun _ => 0)))] H := hP
  have hD : va_D A [(h0, .inr (6, xo_Grammar (va_up (va_up f0 9 (.ref q_1)) 11 (.ref q_2)))), (q_3, .inl (cI, 1024, .inl (fun _ => 0)))] := hD
  refine va_putF (D := (dC, dI)) (ci := 6) (v := .ref q_3) (ty := (.array .int)) (C := rn_Grammar) (T := fn_Grammar) (N := 15) hx hb hg in_Grammar tn_Grammar tk_Grammar nn_Grammar hown hK hP hD hS 0 rfl rfl 12 (by decide) (hg _ wn_2_12) (fun _ h9 => h9) rfl hin rfl (tk_Grammar 12 (by decide)) rfl rfl (Nat.le_of_ble_eq_true rfl) dn_Grammar_init_27 (fun H locs hP hD hS => ?_)
  have hP : va_P (dC, dI) xcl [(h0, .inr (6, xo_Grammar (va_up (va_up (va_up f0 9 (.ref q_1)) 11 (.ref q_2)) 12 (.ref q_3)))), (q_3, .inl (cI, 1024, .inl (fun _ => 0)))] H := hP
  have hD : va_D A [(h0, .inr (6, xo_Grammar (va_up (va_up (va_up f0 9 (.ref q_1)) 11 (.ref q_2)) 12 (.ref q_3)))), (q_3, .inl (cI, 1024, .inl (fun _ => 0)))] := hD
  have hP := hP.sub (ws' := [(h0, .inr (6, xo_Grammar (va_up (va_up (va_up f0 9 (.ref q_1)) 11 (.ref q_2)) 12 (.ref q_3))))]) [0] rfl
  have hD := hD.sub (ws' := [(h0, .inr (6, xo_Grammar (va_up (va_up (va_up f0 9 (.ref q_1)) 11 (.ref q_2)) 12 (.ref q_3))))]) [0] (by decide) rfl
  refine lv_aload_n hx hb dn_Grammar_init_30 rfl (lv_at hl 0 rfl) ?_
  refine lv_sipush (v := 1024) hx hb dn_Grammar_init_31 (by decide) ?_
  refine xk_newI 1024 hx hb (hg _ wn_1_119) hK hP hD hS hA 0 rfl rfl (Nat.le_of_ble_eq_true rfl) (Nat.le_of_ble_eq_true rfl) (Nat.le_of_ble_eq_true rfl) dn_Grammar_init_34 (fun q_4 H hP hD hS => ?_)
  have hP : va_P (dC, dI) xcl [(h0, .inr (6, xo_Grammar (va_up (va_up (va_up f0 9 (.ref q_1)) 11 (.ref q_2)) 12 (.ref q_3)))), (q_4, .inl (cI, 1024, .inl (fun _ => 0)))] H := hP
  have hD : va_D A [(h0, .inr (6, xo_Grammar (va_up (va_up (va_up f0 9 (.ref q_1)) 11 (.ref q_2)) 12 (.ref q_3)))), (q_4, .inl (cI, 1024, .inl (fun _ => 0)))] := hD
  refine va_putF (D := (dC, dI)) (ci := 6) (v := .ref q_4) (ty := (.array .int)) (C := rn_Grammar) (T := fn_Grammar) (N := 15) hx hb hg in_Grammar tn_Grammar tk_Grammar nn_Grammar hown hK hP hD hS 0 rfl rfl 13 (by decide) (hg _ wn_2_13) (fun _ h9 => h9) rfl hin rfl (tk_Grammar 13 (by decide)) rfl rfl (Nat.le_of_ble_eq_true rfl) dn_Grammar_init_36 (fun H locs hP hD hS => ?_)
  have hP : va_P (dC, dI) xcl [(h0, .inr (6, xo_Grammar (va_up (va_up (va_up (va_up f0 9 (.ref q_1)) 11 (.ref q_2)) 12 (.ref q_3)) 13 (.ref q_4)))), (q_4, .inl (cI, 1024, .inl (fun _ => 0)))] H := hP
  have hD : va_D A [(h0, .inr (6, xo_Grammar (va_up (va_up (va_up (va_up f0 9 (.ref q_1)) 11 (.ref q_2)) 12 (.ref q_3)) 13 (.ref q_4)))), (q_4, .inl (cI, 1024, .inl (fun _ => 0)))] := hD
  have hP := hP.sub (ws' := [(h0, .inr (6, xo_Grammar (va_up (va_up (va_up (va_up f0 9 (.ref q_1)) 11 (.ref q_2)) 12 (.ref q_3)) 13 (.ref q_4))))]) [0] rfl
  have hD := hD.sub (ws' := [(h0, .inr (6, xo_Grammar (va_up (va_up (va_up (va_up f0 9 (.ref q_1)) 11 (.ref q_2)) 12 (.ref q_3)) 13 (.ref q_4))))]) [0] (by decide) rfl
  refine lv_aload_n hx hb dn_Grammar_init_39 rfl (lv_at hl 0 rfl) ?_
  refine lv_aload_n hx hb dn_Grammar_init_40 rfl (lv_at hl 1 rfl) ?_
  refine va_putF (D := (dC, dI)) (ci := 6) (v := .ref h1) (ty := (.object "CircuitCycles$Tokens")) (C := rn_Grammar) (T := fn_Grammar) (N := 15) hx hb hg in_Grammar tn_Grammar tk_Grammar nn_Grammar hown hK hP hD hS 0 rfl rfl 0 (by decide) (hg _ wn_2_0) (fun _ h9 => h9) rfl hin rfl (tk_Grammar 0 (by decide)) rfl rfl (Nat.le_of_ble_eq_true rfl) dn_Grammar_init_41 (fun H locs hP hD hS => ?_)
  have hP : va_P (dC, dI) xcl [(h0, .inr (6, xo_Grammar (va_up (va_up (va_up (va_up (va_up f0 9 (.ref q_1)) 11 (.ref q_2)) 12 (.ref q_3)) 13 (.ref q_4)) 0 (.ref h1))))] H := hP
  have hD : va_D A [(h0, .inr (6, xo_Grammar (va_up (va_up (va_up (va_up (va_up f0 9 (.ref q_1)) 11 (.ref q_2)) 12 (.ref q_3)) 13 (.ref q_4)) 0 (.ref h1))))] := hD
  refine lv_aload_n hx hb dn_Grammar_init_44 rfl (lv_at hl 0 rfl) ?_
  refine lv_aload_n hx hb dn_Grammar_init_45 rfl (lv_at hl 2 rfl) ?_
  refine va_putF (D := (dC, dI)) (ci := 6) (v := .ref h2) (ty := (.object "CircuitCycles$Checker")) (C := rn_Grammar) (T := fn_Grammar) (N := 15) hx hb hg in_Grammar tn_Grammar tk_Grammar nn_Grammar hown hK hP hD hS 0 rfl rfl 1 (by decide) (hg _ wn_2_1) (fun _ h9 => h9) rfl hin rfl (tk_Grammar 1 (by decide)) rfl rfl (Nat.le_of_ble_eq_true rfl) dn_Grammar_init_46 (fun H locs hP hD hS => ?_)
  have hP : va_P (dC, dI) xcl [(h0, .inr (6, xo_Grammar (va_up (va_up (va_up (va_up (va_up (va_up f0 9 (.ref q_1)) 11 (.ref q_2)) 12 (.ref q_3)) 13 (.ref q_4)) 0 (.ref h1)) 1 (.ref h2))))] H := hP
  have hD : va_D A [(h0, .inr (6, xo_Grammar (va_up (va_up (va_up (va_up (va_up (va_up f0 9 (.ref q_1)) 11 (.ref q_2)) 12 (.ref q_3)) 13 (.ref q_4)) 0 (.ref h1)) 1 (.ref h2))))] := hD
  refine lv_aload_n hx hb dn_Grammar_init_49 rfl (lv_at hl 0 rfl) ?_
  refine lv_aload_n hx hb dn_Grammar_init_50 rfl (lv_at hl 3 rfl) ?_
  refine va_putF (D := (dC, dI)) (ci := 6) (v := .ref h3) (ty := (.object "CircuitCycles$Meaning")) (C := rn_Grammar) (T := fn_Grammar) (N := 15) hx hb hg in_Grammar tn_Grammar tk_Grammar nn_Grammar hown hK hP hD hS 0 rfl rfl 2 (by decide) (hg _ wn_2_2) (fun _ h9 => h9) rfl hin rfl (tk_Grammar 2 (by decide)) rfl rfl (Nat.le_of_ble_eq_true rfl) dn_Grammar_init_51 (fun H locs hP hD hS => ?_)
  have hP : va_P (dC, dI) xcl [(h0, .inr (6, xo_Grammar (va_up (va_up (va_up (va_up (va_up (va_up (va_up f0 9 (.ref q_1)) 11 (.ref q_2)) 12 (.ref q_3)) 13 (.ref q_4)) 0 (.ref h1)) 1 (.ref h2)) 2 (.ref h3))))] H := hP
  have hD : va_D A [(h0, .inr (6, xo_Grammar (va_up (va_up (va_up (va_up (va_up (va_up (va_up f0 9 (.ref q_1)) 11 (.ref q_2)) 12 (.ref q_3)) 13 (.ref q_4)) 0 (.ref h1)) 1 (.ref h2)) 2 (.ref h3))))] := hD
  have hP9 := hP.sub (ws' := [(h0, .inr (6, xo_Grammar (va_up (va_up (va_up (va_up (va_up (va_up (va_up f0 9 (.ref q_1)) 11 (.ref q_2)) 12 (.ref q_3)) 13 (.ref q_4)) 0 (.ref h1)) 1 (.ref h2)) 2 (.ref h3))))]) [0] rfl
  have hD9 := hD.sub (ws' := [(h0, .inr (6, xo_Grammar (va_up (va_up (va_up (va_up (va_up (va_up (va_up f0 9 (.ref q_1)) 11 (.ref q_2)) 12 (.ref q_3)) 13 (.ref q_4)) 0 (.ref h1)) 1 (.ref h2)) 2 (.ref h3))))]) [0] (by decide) rfl
  exact xk_vret (w1 := fun u : Unit => [(h0, .inr (6, xo_Grammar (va_up (va_up (va_up (va_up (va_up (va_up (va_up f0 9 (.ref q_1)) 11 (.ref q_2)) 12 (.ref q_3)) 13 (.ref q_4)) 0 (.ref h1)) 1 (.ref h2)) 2 (.ref h3))))]) () hx hb hr hlocks hK hS dn_Grammar_init_54 hP9 hD9 trivial (Nat.le_refl _) (Nat.le_refl _)
set_option maxHeartbeats 4000000 in
set_option maxRecDepth 100000 in
theorem ct_Order_init_0 (l : Launch) (dC : Nat → ClassId) (dI : Nat → Nat → Nat) (cI cB cJ cZ cQ : ClassId) (sz : Nat) (h0 : Nat) (f0 : Nat → Value) : Met l yn_Order_init (xw yn_Order_init bn_Order_init 1 none) ({ frames := 1, cells := 5, slots := 5120, locals := 20 }) (xk_P (dC, dI) xcl (xt cI cB cJ cZ cQ) [.ref h0] sz [(h0, .inr (7, xo_Order f0))]) (xk_Qv (dC, dI) xcl (xt cI cB cJ cZ cQ) (fun u : Unit => True) (fun u : Unit => [(h0, .inr (7, xo_Order (va_up (va_up (va_up (va_up (va_up f0 1 (.ref q_1)) 2 (.ref q_2)) 3 (.ref q_3)) 4 (.ref q_4)) 5 (.ref q_5))))]) (va_A [(h0, .inr (7, xo_Order f0))] sz)) 5 5120 (va_A [(h0, .inr (7, xo_Order f0))] sz) := by
  refine xk_of (QA := xk_Qv (dC, dI) xcl (xt cI cB cJ cZ cQ) (fun u : Unit => True) (fun u : Unit => [(h0, .inr (7, xo_Order (va_up (va_up (va_up (va_up (va_up f0 1 (.ref q_1)) 2 (.ref q_2)) 3 (.ref q_3)) 4 (.ref q_4)) 5 (.ref q_5))))])) (by decide) (Nat.le_of_ble_eq_true rfl) ?_
  intro p e s m below meth c hx hb hml hown hg hr hlocks hin hP hK hN A hA hD hS ls hl
  have hown : s.vm.findClass rn_Order = some m.cls := hown
  have hl : lv_has ls 1 [(0, .ref h0)] := hl
  obtain ⟨H, hH⟩ : ∃ z, z = s.heap := ⟨_, rfl⟩
  rw [← hH] at hP
  have hS : va_S A s.heap H [] := by rw [hH]; exact va_S.rf
  suffices kk : W p l e ({ frames := 1, cells := 5, slots := 5120, locals := 20 }) s m [.ref h0].toArray below meth c H [] 0 0 (MQ below (xk_Qv (dC, dI) xcl (xt cI cB cJ cZ cQ) (fun u : Unit => True) (fun u : Unit => [(h0, .inr (7, xo_Order (va_up (va_up (va_up (va_up (va_up f0 1 (.ref q_1)) 2 (.ref q_2)) 3 (.ref q_3)) 4 (.ref q_4)) 5 (.ref q_5))))]) A) [.ref h0].toArray s 5 5120 A) (F0 m 0 ls []) by rw [hH] at kk; exact kk
  refine lv_aload_n hx hb dn_Order_init_0 rfl (lv_at hl 0 rfl) ?_
  refine W.objInit hx hb hown (hg _ wn_2_51) (hg _ wn_1_36) (hg _ wn_1_37) rfl (by rw [hml]; exact hl.1) rfl dn_Order_init_1 (Nat.le_of_ble_eq_true rfl) (Nat.le_of_ble_eq_true rfl) ?_
  refine W.eq (g2 := F0 m 4 ls []) rfl ?_
  refine lv_aload_n hx hb dn_Order_init_4 rfl (lv_at hl 0 rfl) ?_
  refine lv_sipush (v := 1024) hx hb dn_Order_init_5 (by decide) ?_
  refine xk_newI 1024 hx hb (hg _ wn_1_119) hK hP hD hS hA 0 rfl rfl (Nat.le_of_ble_eq_true rfl) (Nat.le_of_ble_eq_true rfl) (Nat.le_of_ble_eq_true rfl) dn_Order_init_8 (fun q_1 H hP hD hS => ?_)
  have hP : va_P (dC, dI) xcl [(h0, .inr (7, xo_Order f0)), (q_1, .inl (cI, 1024, .inl (fun _ => 0)))] H := hP
  have hD : va_D A [(h0, .inr (7, xo_Order f0)), (q_1, .inl (cI, 1024, .inl (fun _ => 0)))] := hD
  refine va_putF (D := (dC, dI)) (ci := 7) (v := .ref q_1) (ty := (.array .int)) (C := rn_Order) (T := fn_Order) (N := 10) hx hb hg in_Order tn_Order tk_Order nn_Order hown hK hP hD hS 0 rfl rfl 1 (by decide) (hg _ wn_2_53) (fun _ h9 => h9) rfl hin rfl (tk_Order 1 (by decide)) rfl rfl (Nat.le_of_ble_eq_true rfl) dn_Order_init_10 (fun H locs hP hD hS => ?_)
  have hP : va_P (dC, dI) xcl [(h0, .inr (7, xo_Order (va_up f0 1 (.ref q_1)))), (q_1, .inl (cI, 1024, .inl (fun _ => 0)))] H := hP
  have hD : va_D A [(h0, .inr (7, xo_Order (va_up f0 1 (.ref q_1)))), (q_1, .inl (cI, 1024, .inl (fun _ => 0)))] := hD
  have hP := hP.sub (ws' := [(h0, .inr (7, xo_Order (va_up f0 1 (.ref q_1))))]) [0] rfl
  have hD := hD.sub (ws' := [(h0, .inr (7, xo_Order (va_up f0 1 (.ref q_1))))]) [0] (by decide) rfl
  refine lv_aload_n hx hb dn_Order_init_13 rfl (lv_at hl 0 rfl) ?_
  refine lv_sipush (v := 1024) hx hb dn_Order_init_14 (by decide) ?_
  refine xk_newI 1024 hx hb (hg _ wn_1_119) hK hP hD hS hA 0 rfl rfl (Nat.le_of_ble_eq_true rfl) (Nat.le_of_ble_eq_true rfl) (Nat.le_of_ble_eq_true rfl) dn_Order_init_17 (fun q_2 H hP hD hS => ?_)
  have hP : va_P (dC, dI) xcl [(h0, .inr (7, xo_Order (va_up f0 1 (.ref q_1)))), (q_2, .inl (cI, 1024, .inl (fun _ => 0)))] H := hP
  have hD : va_D A [(h0, .inr (7, xo_Order (va_up f0 1 (.ref q_1)))), (q_2, .inl (cI, 1024, .inl (fun _ => 0)))] := hD
  refine va_putF (D := (dC, dI)) (ci := 7) (v := .ref q_2) (ty := (.array .int)) (C := rn_Order) (T := fn_Order) (N := 10) hx hb hg in_Order tn_Order tk_Order nn_Order hown hK hP hD hS 0 rfl rfl 2 (by decide) (hg _ wn_2_54) (fun _ h9 => h9) rfl hin rfl (tk_Order 2 (by decide)) rfl rfl (Nat.le_of_ble_eq_true rfl) dn_Order_init_19 (fun H locs hP hD hS => ?_)
  have hP : va_P (dC, dI) xcl [(h0, .inr (7, xo_Order (va_up (va_up f0 1 (.ref q_1)) 2 (.ref q_2)))), (q_2, .inl (cI, 1024, .inl (fun _ => 0)))] H := hP
  have hD : va_D A [(h0, .inr (7, xo_Order (va_up (va_up f0 1 (.ref q_1)) 2 (.ref q_2)))), (q_2, .inl (cI, 1024, .inl (fun _ => 0)))] := hD
  have hP := hP.sub (ws' := [(h0, .inr (7, xo_Order (va_up (va_up f0 1 (.ref q_1)) 2 (.ref q_2))))]) [0] rfl
  have hD := hD.sub (ws' := [(h0, .inr (7, xo_Order (va_up (va_up f0 1 (.ref q_1)) 2 (.ref q_2))))]) [0] (by decide) rfl
  refine lv_aload_n hx hb dn_Order_init_22 rfl (lv_at hl 0 rfl) ?_
  refine lv_sipush (v := 1024) hx hb dn_Order_init_23 (by decide) ?_
  refine xk_newI 1024 hx hb (hg _ wn_1_119) hK hP hD hS hA 0 rfl rfl (Nat.le_of_ble_eq_true rfl) (Nat.le_of_ble_eq_true rfl) (Nat.le_of_ble_eq_true rfl) dn_Order_init_26 (fun q_3 H hP hD hS => ?_)
  have hP : va_P (dC, dI) xcl [(h0, .inr (7, xo_Order (va_up (va_up f0 1 (.ref q_1)) 2 (.ref q_2)))), (q_3, .inl (cI, 1024, .inl (fun _ => 0)))] H := hP
  have hD : va_D A [(h0, .inr (7, xo_Order (va_up (va_up f0 1 (.ref q_1)) 2 (.ref q_2)))), (q_3, .inl (cI, 1024, .inl (fun _ => 0)))] := hD
  refine va_putF (D := (dC, dI)) (ci := 7) (v := .ref q_3) (ty := (.array .int)) (C := rn_Order) (T := fn_Order) (N := 10) hx hb hg in_Order tn_Order tk_Order nn_Order hown hK hP hD hS 0 rfl rfl 3 (by decide) (hg _ wn_2_55) (fun _ h9 => h9) rfl hin rfl (tk_Order 3 (by decide)) rfl rfl (Nat.le_of_ble_eq_true rfl) dn_Order_init_28 (fun H locs hP hD hS => ?_)
  have hP : va_P (dC, dI) xcl [(h0, .inr (7, xo_Order (va_up (va_up (va_up f0 1 (.ref q_1)) 2 (.ref q_2)) 3 (.ref q_3)))), (q_3, .inl (cI, 1024, .inl (fun _ => 0)))] H := hP
  have hD : va_D A [(h0, .inr (7, xo_Order (va_up (va_up (va_up f0 1 (.ref q_1)) 2 (.ref q_2)) 3 (.ref q_3)))), (q_3, .inl (cI, 1024, .inl (fun _ => 0)))] := hD
  have hP := hP.sub (ws' := [(h0, .inr (7, xo_Order (va_up (va_up (va_up f0 1 (.ref q_1)) 2 (.ref q_2)) 3 (.ref q_3))))]) [0] rfl
  have hD := hD.sub (ws' := [(h0, .inr (7, xo_Order (va_up (va_up (va_up f0 1 (.ref q_1)) 2 (.ref q_2)) 3 (.ref q_3))))]) [0] (by decide) rfl
  refine lv_aload_n hx hb dn_Order_init_31 rfl (lv_at hl 0 rfl) ?_
  refine lv_sipush (v := 1024) hx hb dn_Order_init_32 (by decide) ?_
  refine xk_newI 1024 hx hb (hg _ wn_1_119) hK hP hD hS hA 0 rfl rfl (Nat.le_of_ble_eq_true rfl) (Nat.le_of_ble_eq_true rfl) (Nat.le_of_ble_eq_true rfl) dn_Order_init_35 (fun q_4 H hP hD hS => ?_)
  have hP : va_P (dC, dI) xcl [(h0, .inr (7, xo_Order (va_up (va_up (va_up f0 1 (.ref q_1)) 2 (.ref q_2)) 3 (.ref q_3)))), (q_4, .inl (cI, 1024, .inl (fun _ => 0)))] H := hP
  have hD : va_D A [(h0, .inr (7, xo_Order (va_up (va_up (va_up f0 1 (.ref q_1)) 2 (.ref q_2)) 3 (.ref q_3)))), (q_4, .inl (cI, 1024, .inl (fun _ => 0)))] := hD
  refine va_putF (D := (dC, dI)) (ci := 7) (v := .ref q_4) (ty := (.array .int)) (C := rn_Order) (T := fn_Order) (N := 10) hx hb hg in_Order tn_Order tk_Order nn_Order hown hK hP hD hS 0 rfl rfl 4 (by decide) (hg _ wn_2_56) (fun _ h9 => h9) rfl hin rfl (tk_Order 4 (by decide)) rfl rfl (Nat.le_of_ble_eq_true rfl) dn_Order_init_37 (fun H locs hP hD hS => ?_)
  have hP : va_P (dC, dI) xcl [(h0, .inr (7, xo_Order (va_up (va_up (va_up (va_up f0 1 (.ref q_1)) 2 (.ref q_2)) 3 (.ref q_3)) 4 (.ref q_4)))), (q_4, .inl (cI, 1024, .inl (fun _ => 0)))] H := hP
  have hD : va_D A [(h0, .inr (7, xo_Order (va_up (va_up (va_up (va_up f0 1 (.ref q_1)) 2 (.ref q_2)) 3 (.ref q_3)) 4 (.ref q_4)))), (q_4, .inl (cI, 1024, .inl (fun _ => 0)))] := hD
  have hP := hP.sub (ws' := [(h0, .inr (7, xo_Order (va_up (va_up (va_up (va_up f0 1 (.ref q_1)) 2 (.ref q_2)) 3 (.ref q_3)) 4 (.ref q_4))))]) [0] rfl
  have hD := hD.sub (ws' := [(h0, .inr (7, xo_Order (va_up (va_up (va_up (va_up f0 1 (.ref q_1)) 2 (.ref q_2)) 3 (.ref q_3)) 4 (.ref q_4))))]) [0] (by decide) rfl
  refine lv_aload_n hx hb dn_Order_init_40 rfl (lv_at hl 0 rfl) ?_
  refine lv_sipush (v := 1024) hx hb dn_Order_init_41 (by decide) ?_
  refine xk_newI 1024 hx hb (hg _ wn_1_119) hK hP hD hS hA 0 rfl rfl (Nat.le_of_ble_eq_true rfl) (Nat.le_of_ble_eq_true rfl) (Nat.le_of_ble_eq_true rfl) dn_Order_init_44 (fun q_5 H hP hD hS => ?_)
  have hP : va_P (dC, dI) xcl [(h0, .inr (7, xo_Order (va_up (va_up (va_up (va_up f0 1 (.ref q_1)) 2 (.ref q_2)) 3 (.ref q_3)) 4 (.ref q_4)))), (q_5, .inl (cI, 1024, .inl (fun _ => 0)))] H := hP
  have hD : va_D A [(h0, .inr (7, xo_Order (va_up (va_up (va_up (va_up f0 1 (.ref q_1)) 2 (.ref q_2)) 3 (.ref q_3)) 4 (.ref q_4)))), (q_5, .inl (cI, 1024, .inl (fun _ => 0)))] := hD
  refine va_putF (D := (dC, dI)) (ci := 7) (v := .ref q_5) (ty := (.array .int)) (C := rn_Order) (T := fn_Order) (N := 10) hx hb hg in_Order tn_Order tk_Order nn_Order hown hK hP hD hS 0 rfl rfl 5 (by decide) (hg _ wn_2_57) (fun _ h9 => h9) rfl hin rfl (tk_Order 5 (by decide)) rfl rfl (Nat.le_of_ble_eq_true rfl) dn_Order_init_46 (fun H locs hP hD hS => ?_)
  have hP : va_P (dC, dI) xcl [(h0, .inr (7, xo_Order (va_up (va_up (va_up (va_up (va_up f0 1 (.ref q_1)) 2 (.ref q_2)) 3 (.ref q_3)) 4 (.ref q_4)) 5 (.ref q_5)))), (q_5, .inl (cI, 1024, .inl (fun _ => 0)))] H := hP
  have hD : va_D A [(h0, .inr (7, xo_Order (va_up (va_up (va_up (va_up (va_up f0 1 (.ref q_1)) 2 (.ref q_2)) 3 (.ref q_3)) 4 (.ref q_4)) 5 (.ref q_5)))), (q_5, .inl (cI, 1024, .inl (fun _ => 0)))] := hD
  have hP := hP.sub (ws' := [(h0, .inr (7, xo_Order (va_up (va_up (va_up (va_up (va_up f0 1 (.ref q_1)) 2 (.ref q_2)) 3 (.ref q_3)) 4 (.ref q_4)) 5 (.ref q_5))))]) [0] rfl
  have hD := hD.sub (ws' := [(h0, .inr (7, xo_Order (va_up (va_up (va_up (va_up (va_up f0 1 (.ref q_1)) 2 (.ref q_2)) 3 (.ref q_3)) 4 (.ref q_4)) 5 (.ref q_5))))]) [0] (by decide) rfl
  have hP9 := hP.sub (ws' := [(h0, .inr (7, xo_Order (va_up (va_up (va_up (va_up (va_up f0 1 (.ref q_1)) 2 (.ref q_2)) 3 (.ref q_3)) 4 (.ref q_4)) 5 (.ref q_5))))]) [0] rfl
  have hD9 := hD.sub (ws' := [(h0, .inr (7, xo_Order (va_up (va_up (va_up (va_up (va_up f0 1 (.ref q_1)) 2 (.ref q_2)) 3 (.ref q_3)) 4 (.ref q_4)) 5 (.ref q_5))))]) [0] (by decide) rfl
  exact xk_vret (w1 := fun u : Unit => [(h0, .inr (7, xo_Order (va_up (va_up (va_up (va_up (va_up f0 1 (.ref q_1)) 2 (.ref q_2)) 3 (.ref q_3)) 4 (.ref q_4)) 5 (.ref q_5))))]) () hx hb hr hlocks hK hS dn_Order_init_49 hP9 hD9 trivial (Nat.le_refl _) (Nat.le_refl _)
set_option maxHeartbeats 4000000 in
set_option maxRecDepth 100000 in
theorem ct_Machine_init_0 (l : Launch) (dC : Nat → ClassId) (dI : Nat → Nat → Nat) (cI cB cJ cZ cQ : ClassId) (sz : Nat) (h0 : Nat) (f0 : Nat → Value) : Met l yn_Machine_init (xw yn_Machine_init bn_Machine_init 1 none) ({ frames := 1, cells := 3, slots := 3072, locals := 20 }) (xk_P (dC, dI) xcl (xt cI cB cJ cZ cQ) [.ref h0] sz [(h0, .inr (8, xo_Machine f0))]) (xk_Qv (dC, dI) xcl (xt cI cB cJ cZ cQ) (fun u : Unit => True) (fun u : Unit => [(h0, .inr (8, xo_Machine (va_up (va_up (va_up f0 0 (.ref q_1)) 1 (.ref q_2)) 2 (.ref q_3))))]) (va_A [(h0, .inr (8, xo_Machine f0))] sz)) 3 3072 (va_A [(h0, .inr (8, xo_Machine f0))] sz) := by
  refine xk_of (QA := xk_Qv (dC, dI) xcl (xt cI cB cJ cZ cQ) (fun u : Unit => True) (fun u : Unit => [(h0, .inr (8, xo_Machine (va_up (va_up (va_up f0 0 (.ref q_1)) 1 (.ref q_2)) 2 (.ref q_3))))])) (by decide) (Nat.le_of_ble_eq_true rfl) ?_
  intro p e s m below meth c hx hb hml hown hg hr hlocks hin hP hK hN A hA hD hS ls hl
  have hown : s.vm.findClass rn_Machine = some m.cls := hown
  have hl : lv_has ls 1 [(0, .ref h0)] := hl
  obtain ⟨H, hH⟩ : ∃ z, z = s.heap := ⟨_, rfl⟩
  rw [← hH] at hP
  have hS : va_S A s.heap H [] := by rw [hH]; exact va_S.rf
  suffices kk : W p l e ({ frames := 1, cells := 3, slots := 3072, locals := 20 }) s m [.ref h0].toArray below meth c H [] 0 0 (MQ below (xk_Qv (dC, dI) xcl (xt cI cB cJ cZ cQ) (fun u : Unit => True) (fun u : Unit => [(h0, .inr (8, xo_Machine (va_up (va_up (va_up f0 0 (.ref q_1)) 1 (.ref q_2)) 2 (.ref q_3))))]) A) [.ref h0].toArray s 3 3072 A) (F0 m 0 ls []) by rw [hH] at kk; exact kk
  refine lv_aload_n hx hb dn_Machine_init_0 rfl (lv_at hl 0 rfl) ?_
  refine W.objInit hx hb hown (hg _ wn_2_88) (hg _ wn_1_36) (hg _ wn_1_37) rfl (by rw [hml]; exact hl.1) rfl dn_Machine_init_1 (Nat.le_of_ble_eq_true rfl) (Nat.le_of_ble_eq_true rfl) ?_
  refine W.eq (g2 := F0 m 4 ls []) rfl ?_
  refine lv_aload_n hx hb dn_Machine_init_4 rfl (lv_at hl 0 rfl) ?_
  refine lv_sipush (v := 1024) hx hb dn_Machine_init_5 (by decide) ?_
  refine xk_newJ 1024 hx hb (hg _ wn_1_82) hK hP hD hS hA 2 rfl rfl (Nat.le_of_ble_eq_true rfl) (Nat.le_of_ble_eq_true rfl) (Nat.le_of_ble_eq_true rfl) dn_Machine_init_8 (fun q_1 H hP hD hS => ?_)
  have hP : va_P (dC, dI) xcl [(h0, .inr (8, xo_Machine f0)), (q_1, .inl (cJ, 1024, .inr (.inl (fun _ => 0))))] H := hP
  have hD : va_D A [(h0, .inr (8, xo_Machine f0)), (q_1, .inl (cJ, 1024, .inr (.inl (fun _ => 0))))] := hD
  refine va_putF (D := (dC, dI)) (ci := 8) (v := .ref q_1) (ty := (.array .long)) (C := rn_Machine) (T := fn_Machine) (N := 5) hx hb hg in_Machine tn_Machine tk_Machine nn_Machine hown hK hP hD hS 0 rfl rfl 0 (by decide) (hg _ wn_2_89) (fun _ h9 => h9) rfl hin rfl (tk_Machine 0 (by decide)) rfl rfl (Nat.le_of_ble_eq_true rfl) dn_Machine_init_10 (fun H locs hP hD hS => ?_)
  have hP : va_P (dC, dI) xcl [(h0, .inr (8, xo_Machine (va_up f0 0 (.ref q_1)))), (q_1, .inl (cJ, 1024, .inr (.inl (fun _ => 0))))] H := hP
  have hD : va_D A [(h0, .inr (8, xo_Machine (va_up f0 0 (.ref q_1)))), (q_1, .inl (cJ, 1024, .inr (.inl (fun _ => 0))))] := hD
  have hP := hP.sub (ws' := [(h0, .inr (8, xo_Machine (va_up f0 0 (.ref q_1))))]) [0] rfl
  have hD := hD.sub (ws' := [(h0, .inr (8, xo_Machine (va_up f0 0 (.ref q_1))))]) [0] (by decide) rfl
  refine lv_aload_n hx hb dn_Machine_init_13 rfl (lv_at hl 0 rfl) ?_
  refine lv_sipush (v := 1024) hx hb dn_Machine_init_14 (by decide) ?_
  refine xk_newJ 1024 hx hb (hg _ wn_1_82) hK hP hD hS hA 2 rfl rfl (Nat.le_of_ble_eq_true rfl) (Nat.le_of_ble_eq_true rfl) (Nat.le_of_ble_eq_true rfl) dn_Machine_init_17 (fun q_2 H hP hD hS => ?_)
  have hP : va_P (dC, dI) xcl [(h0, .inr (8, xo_Machine (va_up f0 0 (.ref q_1)))), (q_2, .inl (cJ, 1024, .inr (.inl (fun _ => 0))))] H := hP
  have hD : va_D A [(h0, .inr (8, xo_Machine (va_up f0 0 (.ref q_1)))), (q_2, .inl (cJ, 1024, .inr (.inl (fun _ => 0))))] := hD
  refine va_putF (D := (dC, dI)) (ci := 8) (v := .ref q_2) (ty := (.array .long)) (C := rn_Machine) (T := fn_Machine) (N := 5) hx hb hg in_Machine tn_Machine tk_Machine nn_Machine hown hK hP hD hS 0 rfl rfl 1 (by decide) (hg _ wn_2_90) (fun _ h9 => h9) rfl hin rfl (tk_Machine 1 (by decide)) rfl rfl (Nat.le_of_ble_eq_true rfl) dn_Machine_init_19 (fun H locs hP hD hS => ?_)
  have hP : va_P (dC, dI) xcl [(h0, .inr (8, xo_Machine (va_up (va_up f0 0 (.ref q_1)) 1 (.ref q_2)))), (q_2, .inl (cJ, 1024, .inr (.inl (fun _ => 0))))] H := hP
  have hD : va_D A [(h0, .inr (8, xo_Machine (va_up (va_up f0 0 (.ref q_1)) 1 (.ref q_2)))), (q_2, .inl (cJ, 1024, .inr (.inl (fun _ => 0))))] := hD
  have hP := hP.sub (ws' := [(h0, .inr (8, xo_Machine (va_up (va_up f0 0 (.ref q_1)) 1 (.ref q_2))))]) [0] rfl
  have hD := hD.sub (ws' := [(h0, .inr (8, xo_Machine (va_up (va_up f0 0 (.ref q_1)) 1 (.ref q_2))))]) [0] (by decide) rfl
  refine lv_aload_n hx hb dn_Machine_init_22 rfl (lv_at hl 0 rfl) ?_
  refine lv_sipush (v := 1024) hx hb dn_Machine_init_23 (by decide) ?_
  refine xk_newJ 1024 hx hb (hg _ wn_1_82) hK hP hD hS hA 2 rfl rfl (Nat.le_of_ble_eq_true rfl) (Nat.le_of_ble_eq_true rfl) (Nat.le_of_ble_eq_true rfl) dn_Machine_init_26 (fun q_3 H hP hD hS => ?_)
  have hP : va_P (dC, dI) xcl [(h0, .inr (8, xo_Machine (va_up (va_up f0 0 (.ref q_1)) 1 (.ref q_2)))), (q_3, .inl (cJ, 1024, .inr (.inl (fun _ => 0))))] H := hP
  have hD : va_D A [(h0, .inr (8, xo_Machine (va_up (va_up f0 0 (.ref q_1)) 1 (.ref q_2)))), (q_3, .inl (cJ, 1024, .inr (.inl (fun _ => 0))))] := hD
  refine va_putF (D := (dC, dI)) (ci := 8) (v := .ref q_3) (ty := (.array .long)) (C := rn_Machine) (T := fn_Machine) (N := 5) hx hb hg in_Machine tn_Machine tk_Machine nn_Machine hown hK hP hD hS 0 rfl rfl 2 (by decide) (hg _ wn_2_91) (fun _ h9 => h9) rfl hin rfl (tk_Machine 2 (by decide)) rfl rfl (Nat.le_of_ble_eq_true rfl) dn_Machine_init_28 (fun H locs hP hD hS => ?_)
  have hP : va_P (dC, dI) xcl [(h0, .inr (8, xo_Machine (va_up (va_up (va_up f0 0 (.ref q_1)) 1 (.ref q_2)) 2 (.ref q_3)))), (q_3, .inl (cJ, 1024, .inr (.inl (fun _ => 0))))] H := hP
  have hD : va_D A [(h0, .inr (8, xo_Machine (va_up (va_up (va_up f0 0 (.ref q_1)) 1 (.ref q_2)) 2 (.ref q_3)))), (q_3, .inl (cJ, 1024, .inr (.inl (fun _ => 0))))] := hD
  have hP := hP.sub (ws' := [(h0, .inr (8, xo_Machine (va_up (va_up (va_up f0 0 (.ref q_1)) 1 (.ref q_2)) 2 (.ref q_3))))]) [0] rfl
  have hD := hD.sub (ws' := [(h0, .inr (8, xo_Machine (va_up (va_up (va_up f0 0 (.ref q_1)) 1 (.ref q_2)) 2 (.ref q_3))))]) [0] (by decide) rfl
  have hP9 := hP.sub (ws' := [(h0, .inr (8, xo_Machine (va_up (va_up (va_up f0 0 (.ref q_1)) 1 (.ref q_2)) 2 (.ref q_3))))]) [0] rfl
  have hD9 := hD.sub (ws' := [(h0, .inr (8, xo_Machine (va_up (va_up (va_up f0 0 (.ref q_1)) 1 (.ref q_2)) 2 (.ref q_3))))]) [0] (by decide) rfl
  exact xk_vret (w1 := fun u : Unit => [(h0, .inr (8, xo_Machine (va_up (va_up (va_up f0 0 (.ref q_1)) 1 (.ref q_2)) 2 (.ref q_3))))]) () hx hb hr hlocks hK hS dn_Machine_init_31 hP9 hD9 trivial (Nat.le_refl _) (Nat.le_refl _)
set_option maxHeartbeats 4000000 in
set_option maxRecDepth 100000 in
theorem ct_Parts_init_0 (l : Launch) (dC : Nat → ClassId) (dI : Nat → Nat → Nat) (cI cB cJ cZ cQ : ClassId) (sz : Nat) (h0 : Nat) (f0 : Nat → Value) : Met l yn_Parts_init (xw yn_Parts_init bn_Parts_init 1 none) ({ frames := 1, cells := 12, slots := 131076, locals := 20 }) (xk_P (dC, dI) xcl (xt cI cB cJ cZ cQ) [.ref h0] sz [(h0, .inr (11, xo_Parts f0))]) (xk_Qv (dC, dI) xcl (xt cI cB cJ cZ cQ) (fun u : Unit => True) (fun u : Unit => [(h0, .inr (11, xo_Parts (va_up (va_up (va_up (va_up (va_up (va_up (va_up (va_up (va_up (va_up (va_up (va_up f0 1 (.ref q_1)) 2 (.ref q_2)) 3 (.ref q_3)) 4 (.ref q_4)) 5 (.ref q_5)) 6 (.ref q_6)) 8 (.ref q_7)) 9 (.ref q_8)) 10 (.ref q_9)) 12 (.ref q_10)) 13 (.ref q_11)) 14 (.ref q_12))))]) (va_A [(h0, .inr (11, xo_Parts f0))] sz)) 12 131076 (va_A [(h0, .inr (11, xo_Parts f0))] sz) := by
  refine xk_of (QA := xk_Qv (dC, dI) xcl (xt cI cB cJ cZ cQ) (fun u : Unit => True) (fun u : Unit => [(h0, .inr (11, xo_Parts (va_up (va_up (va_up (va_up (va_up (va_up (va_up (va_up (va_up (va_up (va_up (va_up f0 1 (.ref q_1)) 2 (.ref q_2)) 3 (.ref q_3)) 4 (.ref q_4)) 5 (.ref q_5)) 6 (.ref q_6)) 8 (.ref q_7)) 9 (.ref q_8)) 10 (.ref q_9)) 12 (.ref q_10)) 13 (.ref q_11)) 14 (.ref q_12))))])) (by decide) (Nat.le_of_ble_eq_true rfl) ?_
  intro p e s m below meth c hx hb hml hown hg hr hlocks hin hP hK hN A hA hD hS ls hl
  have hown : s.vm.findClass rn_Parts = some m.cls := hown
  have hl : lv_has ls 1 [(0, .ref h0)] := hl
  obtain ⟨H, hH⟩ : ∃ z, z = s.heap := ⟨_, rfl⟩
  rw [← hH] at hP
  have hS : va_S A s.heap H [] := by rw [hH]; exact va_S.rf
  suffices kk : W p l e ({ frames := 1, cells := 12, slots := 131076, locals := 20 }) s m [.ref h0].toArray below meth c H [] 0 0 (MQ below (xk_Qv (dC, dI) xcl (xt cI cB cJ cZ cQ) (fun u : Unit => True) (fun u : Unit => [(h0, .inr (11, xo_Parts (va_up (va_up (va_up (va_up (va_up (va_up (va_up (va_up (va_up (va_up (va_up (va_up f0 1 (.ref q_1)) 2 (.ref q_2)) 3 (.ref q_3)) 4 (.ref q_4)) 5 (.ref q_5)) 6 (.ref q_6)) 8 (.ref q_7)) 9 (.ref q_8)) 10 (.ref q_9)) 12 (.ref q_10)) 13 (.ref q_11)) 14 (.ref q_12))))]) A) [.ref h0].toArray s 12 131076 A) (F0 m 0 ls []) by rw [hH] at kk; exact kk
  refine lv_aload_n hx hb dn_Parts_init_0 rfl (lv_at hl 0 rfl) ?_
  refine W.objInit hx hb hown (hg _ wn_2_122) (hg _ wn_1_36) (hg _ wn_1_37) rfl (by rw [hml]; exact hl.1) rfl dn_Parts_init_1 (Nat.le_of_ble_eq_true rfl) (Nat.le_of_ble_eq_true rfl) ?_
  refine W.eq (g2 := F0 m 4 ls []) rfl ?_
  refine lv_aload_n hx hb dn_Parts_init_4 rfl (lv_at hl 0 rfl) ?_
  refine lv_sipush (v := 10923) hx hb dn_Parts_init_5 (by decide) ?_
  refine xk_newI 10923 hx hb (hg _ wn_1_119) hK hP hD hS hA 0 rfl rfl (Nat.le_of_ble_eq_true rfl) (Nat.le_of_ble_eq_true rfl) (Nat.le_of_ble_eq_true rfl) dn_Parts_init_8 (fun q_1 H hP hD hS => ?_)
  have hP : va_P (dC, dI) xcl [(h0, .inr (11, xo_Parts f0)), (q_1, .inl (cI, 10923, .inl (fun _ => 0)))] H := hP
  have hD : va_D A [(h0, .inr (11, xo_Parts f0)), (q_1, .inl (cI, 10923, .inl (fun _ => 0)))] := hD
  refine va_putF (D := (dC, dI)) (ci := 11) (v := .ref q_1) (ty := (.array .int)) (C := rn_Parts) (T := fn_Parts) (N := 15) hx hb hg in_Parts tn_Parts tk_Parts nn_Parts hown hK hP hD hS 0 rfl rfl 1 (by decide) (hg _ wn_2_127) (fun _ h9 => h9) rfl hin rfl (tk_Parts 1 (by decide)) rfl rfl (Nat.le_of_ble_eq_true rfl) dn_Parts_init_10 (fun H locs hP hD hS => ?_)
  have hP : va_P (dC, dI) xcl [(h0, .inr (11, xo_Parts (va_up f0 1 (.ref q_1)))), (q_1, .inl (cI, 10923, .inl (fun _ => 0)))] H := hP
  have hD : va_D A [(h0, .inr (11, xo_Parts (va_up f0 1 (.ref q_1)))), (q_1, .inl (cI, 10923, .inl (fun _ => 0)))] := hD
  have hP := hP.sub (ws' := [(h0, .inr (11, xo_Parts (va_up f0 1 (.ref q_1))))]) [0] rfl
  have hD := hD.sub (ws' := [(h0, .inr (11, xo_Parts (va_up f0 1 (.ref q_1))))]) [0] (by decide) rfl
  refine lv_aload_n hx hb dn_Parts_init_13 rfl (lv_at hl 0 rfl) ?_
  refine lv_sipush (v := 10923) hx hb dn_Parts_init_14 (by decide) ?_
  refine xk_newI 10923 hx hb (hg _ wn_1_119) hK hP hD hS hA 0 rfl rfl (Nat.le_of_ble_eq_true rfl) (Nat.le_of_ble_eq_true rfl) (Nat.le_of_ble_eq_true rfl) dn_Parts_init_17 (fun q_2 H hP hD hS => ?_)
  have hP : va_P (dC, dI) xcl [(h0, .inr (11, xo_Parts (va_up f0 1 (.ref q_1)))), (q_2, .inl (cI, 10923, .inl (fun _ => 0)))] H := hP
  have hD : va_D A [(h0, .inr (11, xo_Parts (va_up f0 1 (.ref q_1)))), (q_2, .inl (cI, 10923, .inl (fun _ => 0)))] := hD
  refine va_putF (D := (dC, dI)) (ci := 11) (v := .ref q_2) (ty := (.array .int)) (C := rn_Parts) (T := fn_Parts) (N := 15) hx hb hg in_Parts tn_Parts tk_Parts nn_Parts hown hK hP hD hS 0 rfl rfl 2 (by decide) (hg _ wn_2_130) (fun _ h9 => h9) rfl hin rfl (tk_Parts 2 (by decide)) rfl rfl (Nat.le_of_ble_eq_true rfl) dn_Parts_init_19 (fun H locs hP hD hS => ?_)
  have hP : va_P (dC, dI) xcl [(h0, .inr (11, xo_Parts (va_up (va_up f0 1 (.ref q_1)) 2 (.ref q_2)))), (q_2, .inl (cI, 10923, .inl (fun _ => 0)))] H := hP
  have hD : va_D A [(h0, .inr (11, xo_Parts (va_up (va_up f0 1 (.ref q_1)) 2 (.ref q_2)))), (q_2, .inl (cI, 10923, .inl (fun _ => 0)))] := hD
  have hP := hP.sub (ws' := [(h0, .inr (11, xo_Parts (va_up (va_up f0 1 (.ref q_1)) 2 (.ref q_2))))]) [0] rfl
  have hD := hD.sub (ws' := [(h0, .inr (11, xo_Parts (va_up (va_up f0 1 (.ref q_1)) 2 (.ref q_2))))]) [0] (by decide) rfl
  refine lv_aload_n hx hb dn_Parts_init_22 rfl (lv_at hl 0 rfl) ?_
  refine lv_sipush (v := 10923) hx hb dn_Parts_init_23 (by decide) ?_
  refine xk_newI 10923 hx hb (hg _ wn_1_119) hK hP hD hS hA 0 rfl rfl (Nat.le_of_ble_eq_true rfl) (Nat.le_of_ble_eq_true rfl) (Nat.le_of_ble_eq_true rfl) dn_Parts_init_26 (fun q_3 H hP hD hS => ?_)
  have hP : va_P (dC, dI) xcl [(h0, .inr (11, xo_Parts (va_up (va_up f0 1 (.ref q_1)) 2 (.ref q_2)))), (q_3, .inl (cI, 10923, .inl (fun _ => 0)))] H := hP
  have hD : va_D A [(h0, .inr (11, xo_Parts (va_up (va_up f0 1 (.ref q_1)) 2 (.ref q_2)))), (q_3, .inl (cI, 10923, .inl (fun _ => 0)))] := hD
  refine va_putF (D := (dC, dI)) (ci := 11) (v := .ref q_3) (ty := (.array .int)) (C := rn_Parts) (T := fn_Parts) (N := 15) hx hb hg in_Parts tn_Parts tk_Parts nn_Parts hown hK hP hD hS 0 rfl rfl 3 (by decide) (hg _ wn_2_135) (fun _ h9 => h9) rfl hin rfl (tk_Parts 3 (by decide)) rfl rfl (Nat.le_of_ble_eq_true rfl) dn_Parts_init_28 (fun H locs hP hD hS => ?_)
  have hP : va_P (dC, dI) xcl [(h0, .inr (11, xo_Parts (va_up (va_up (va_up f0 1 (.ref q_1)) 2 (.ref q_2)) 3 (.ref q_3)))), (q_3, .inl (cI, 10923, .inl (fun _ => 0)))] H := hP
  have hD : va_D A [(h0, .inr (11, xo_Parts (va_up (va_up (va_up f0 1 (.ref q_1)) 2 (.ref q_2)) 3 (.ref q_3)))), (q_3, .inl (cI, 10923, .inl (fun _ => 0)))] := hD
  have hP := hP.sub (ws' := [(h0, .inr (11, xo_Parts (va_up (va_up (va_up f0 1 (.ref q_1)) 2 (.ref q_2)) 3 (.ref q_3))))]) [0] rfl
  have hD := hD.sub (ws' := [(h0, .inr (11, xo_Parts (va_up (va_up (va_up f0 1 (.ref q_1)) 2 (.ref q_2)) 3 (.ref q_3))))]) [0] (by decide) rfl
  refine lv_aload_n hx hb dn_Parts_init_31 rfl (lv_at hl 0 rfl) ?_
  refine lv_sipush (v := 10923) hx hb dn_Parts_init_32 (by decide) ?_
  refine xk_newJ 10923 hx hb (hg _ wn_1_82) hK hP hD hS hA 2 rfl rfl (Nat.le_of_ble_eq_true rfl) (Nat.le_of_ble_eq_true rfl) (Nat.le_of_ble_eq_true rfl) dn_Parts_init_35 (fun q_4 H hP hD hS => ?_)
  have hP : va_P (dC, dI) xcl [(h0, .inr (11, xo_Parts (va_up (va_up (va_up f0 1 (.ref q_1)) 2 (.ref q_2)) 3 (.ref q_3)))), (q_4, .inl (cJ, 10923, .inr (.inl (fun _ => 0))))] H := hP
  have hD : va_D A [(h0, .inr (11, xo_Parts (va_up (va_up (va_up f0 1 (.ref q_1)) 2 (.ref q_2)) 3 (.ref q_3)))), (q_4, .inl (cJ, 10923, .inr (.inl (fun _ => 0))))] := hD
  refine va_putF (D := (dC, dI)) (ci := 11) (v := .ref q_4) (ty := (.array .long)) (C := rn_Parts) (T := fn_Parts) (N := 15) hx hb hg in_Parts tn_Parts tk_Parts nn_Parts hown hK hP hD hS 0 rfl rfl 4 (by decide) (hg _ wn_2_140) (fun _ h9 => h9) rfl hin rfl (tk_Parts 4 (by decide)) rfl rfl (Nat.le_of_ble_eq_true rfl) dn_Parts_init_37 (fun H locs hP hD hS => ?_)
  have hP : va_P (dC, dI) xcl [(h0, .inr (11, xo_Parts (va_up (va_up (va_up (va_up f0 1 (.ref q_1)) 2 (.ref q_2)) 3 (.ref q_3)) 4 (.ref q_4)))), (q_4, .inl (cJ, 10923, .inr (.inl (fun _ => 0))))] H := hP
  have hD : va_D A [(h0, .inr (11, xo_Parts (va_up (va_up (va_up (va_up f0 1 (.ref q_1)) 2 (.ref q_2)) 3 (.ref q_3)) 4 (.ref q_4)))), (q_4, .inl (cJ, 10923, .inr (.inl (fun _ => 0))))] := hD
  have hP := hP.sub (ws' := [(h0, .inr (11, xo_Parts (va_up (va_up (va_up (va_up f0 1 (.ref q_1)) 2 (.ref q_2)) 3 (.ref q_3)) 4 (.ref q_4))))]) [0] rfl
  have hD := hD.sub (ws' := [(h0, .inr (11, xo_Parts (va_up (va_up (va_up (va_up f0 1 (.ref q_1)) 2 (.ref q_2)) 3 (.ref q_3)) 4 (.ref q_4))))]) [0] (by decide) rfl
  refine lv_aload_n hx hb dn_Parts_init_40 rfl (lv_at hl 0 rfl) ?_
  refine lv_sipush (v := 10923) hx hb dn_Parts_init_41 (by decide) ?_
  refine xk_newI 10923 hx hb (hg _ wn_1_119) hK hP hD hS hA 0 rfl rfl (Nat.le_of_ble_eq_true rfl) (Nat.le_of_ble_eq_true rfl) (Nat.le_of_ble_eq_true rfl) dn_Parts_init_44 (fun q_5 H hP hD hS => ?_)
  have hP : va_P (dC, dI) xcl [(h0, .inr (11, xo_Parts (va_up (va_up (va_up (va_up f0 1 (.ref q_1)) 2 (.ref q_2)) 3 (.ref q_3)) 4 (.ref q_4)))), (q_5, .inl (cI, 10923, .inl (fun _ => 0)))] H := hP
  have hD : va_D A [(h0, .inr (11, xo_Parts (va_up (va_up (va_up (va_up f0 1 (.ref q_1)) 2 (.ref q_2)) 3 (.ref q_3)) 4 (.ref q_4)))), (q_5, .inl (cI, 10923, .inl (fun _ => 0)))] := hD
  refine va_putF (D := (dC, dI)) (ci := 11) (v := .ref q_5) (ty := (.array .int)) (C := rn_Parts) (T := fn_Parts) (N := 15) hx hb hg in_Parts tn_Parts tk_Parts nn_Parts hown hK hP hD hS 0 rfl rfl 5 (by decide) (hg _ wn_2_143) (fun _ h9 => h9) rfl hin rfl (tk_Parts 5 (by decide)) rfl rfl (Nat.le_of_ble_eq_true rfl) dn_Parts_init_46 (fun H locs hP hD hS => ?_)
  have hP : va_P (dC, dI) xcl [(h0, .inr (11, xo_Parts (va_up (va_up (va_up (va_up (va_up f0 1 (.ref q_1)) 2 (.ref q_2)) 3 (.ref q_3)) 4 (.ref q_4)) 5 (.ref q_5)))), (q_5, .inl (cI, 10923, .inl (fun _ => 0)))] H := hP
  have hD : va_D A [(h0, .inr (11, xo_Parts (va_up (va_up (va_up (va_up (va_up f0 1 (.ref q_1)) 2 (.ref q_2)) 3 (.ref q_3)) 4 (.ref q_4)) 5 (.ref q_5)))), (q_5, .inl (cI, 10923, .inl (fun _ => 0)))] := hD
  have hP := hP.sub (ws' := [(h0, .inr (11, xo_Parts (va_up (va_up (va_up (va_up (va_up f0 1 (.ref q_1)) 2 (.ref q_2)) 3 (.ref q_3)) 4 (.ref q_4)) 5 (.ref q_5))))]) [0] rfl
  have hD := hD.sub (ws' := [(h0, .inr (11, xo_Parts (va_up (va_up (va_up (va_up (va_up f0 1 (.ref q_1)) 2 (.ref q_2)) 3 (.ref q_3)) 4 (.ref q_4)) 5 (.ref q_5))))]) [0] (by decide) rfl
  refine lv_aload_n hx hb dn_Parts_init_49 rfl (lv_at hl 0 rfl) ?_
  refine lv_sipush (v := 10923) hx hb dn_Parts_init_50 (by decide) ?_
  refine xk_newI 10923 hx hb (hg _ wn_1_119) hK hP hD hS hA 0 rfl rfl (Nat.le_of_ble_eq_true rfl) (Nat.le_of_ble_eq_true rfl) (Nat.le_of_ble_eq_true rfl) dn_Parts_init_53 (fun q_6 H hP hD hS => ?_)
  have hP : va_P (dC, dI) xcl [(h0, .inr (11, xo_Parts (va_up (va_up (va_up (va_up (va_up f0 1 (.ref q_1)) 2 (.ref q_2)) 3 (.ref q_3)) 4 (.ref q_4)) 5 (.ref q_5)))), (q_6, .inl (cI, 10923, .inl (fun _ => 0)))] H := hP
  have hD : va_D A [(h0, .inr (11, xo_Parts (va_up (va_up (va_up (va_up (va_up f0 1 (.ref q_1)) 2 (.ref q_2)) 3 (.ref q_3)) 4 (.ref q_4)) 5 (.ref q_5)))), (q_6, .inl (cI, 10923, .inl (fun _ => 0)))] := hD
  refine va_putF (D := (dC, dI)) (ci := 11) (v := .ref q_6) (ty := (.array .int)) (C := rn_Parts) (T := fn_Parts) (N := 15) hx hb hg in_Parts tn_Parts tk_Parts nn_Parts hown hK hP hD hS 0 rfl rfl 6 (by decide) (hg _ wn_2_146) (fun _ h9 => h9) rfl hin rfl (tk_Parts 6 (by decide)) rfl rfl (Nat.le_of_ble_eq_true rfl) dn_Parts_init_55 (fun H locs hP hD hS => ?_)
  have hP : va_P (dC, dI) xcl [(h0, .inr (11, xo_Parts (va_up (va_up (va_up (va_up (va_up (va_up f0 1 (.ref q_1)) 2 (.ref q_2)) 3 (.ref q_3)) 4 (.ref q_4)) 5 (.ref q_5)) 6 (.ref q_6)))), (q_6, .inl (cI, 10923, .inl (fun _ => 0)))] H := hP
  have hD : va_D A [(h0, .inr (11, xo_Parts (va_up (va_up (va_up (va_up (va_up (va_up f0 1 (.ref q_1)) 2 (.ref q_2)) 3 (.ref q_3)) 4 (.ref q_4)) 5 (.ref q_5)) 6 (.ref q_6)))), (q_6, .inl (cI, 10923, .inl (fun _ => 0)))] := hD
  have hP := hP.sub (ws' := [(h0, .inr (11, xo_Parts (va_up (va_up (va_up (va_up (va_up (va_up f0 1 (.ref q_1)) 2 (.ref q_2)) 3 (.ref q_3)) 4 (.ref q_4)) 5 (.ref q_5)) 6 (.ref q_6))))]) [0] rfl
  have hD := hD.sub (ws' := [(h0, .inr (11, xo_Parts (va_up (va_up (va_up (va_up (va_up (va_up f0 1 (.ref q_1)) 2 (.ref q_2)) 3 (.ref q_3)) 4 (.ref q_4)) 5 (.ref q_5)) 6 (.ref q_6))))]) [0] (by decide) rfl
  refine lv_aload_n hx hb dn_Parts_init_58 rfl (lv_at hl 0 rfl) ?_
  refine lv_sipush (v := 10923) hx hb dn_Parts_init_59 (by decide) ?_
  refine xk_newI 10923 hx hb (hg _ wn_1_119) hK hP hD hS hA 0 rfl rfl (Nat.le_of_ble_eq_true rfl) (Nat.le_of_ble_eq_true rfl) (Nat.le_of_ble_eq_true rfl) dn_Parts_init_62 (fun q_7 H hP hD hS => ?_)
  have hP : va_P (dC, dI) xcl [(h0, .inr (11, xo_Parts (va_up (va_up (va_up (va_up (va_up (va_up f0 1 (.ref q_1)) 2 (.ref q_2)) 3 (.ref q_3)) 4 (.ref q_4)) 5 (.ref q_5)) 6 (.ref q_6)))), (q_7, .inl (cI, 10923, .inl (fun _ => 0)))] H := hP
  have hD : va_D A [(h0, .inr (11, xo_Parts (va_up (va_up (va_up (va_up (va_up (va_up f0 1 (.ref q_1)) 2 (.ref q_2)) 3 (.ref q_3)) 4 (.ref q_4)) 5 (.ref q_5)) 6 (.ref q_6)))), (q_7, .inl (cI, 10923, .inl (fun _ => 0)))] := hD
  refine va_putF (D := (dC, dI)) (ci := 11) (v := .ref q_7) (ty := (.array .int)) (C := rn_Parts) (T := fn_Parts) (N := 15) hx hb hg in_Parts tn_Parts tk_Parts nn_Parts hown hK hP hD hS 0 rfl rfl 8 (by decide) (hg _ wn_2_152) (fun _ h9 => h9) rfl hin rfl (tk_Parts 8 (by decide)) rfl rfl (Nat.le_of_ble_eq_true rfl) dn_Parts_init_64 (fun H locs hP hD hS => ?_)
  have hP : va_P (dC, dI) xcl [(h0, .inr (11, xo_Parts (va_up (va_up (va_up (va_up (va_up (va_up (va_up f0 1 (.ref q_1)) 2 (.ref q_2)) 3 (.ref q_3)) 4 (.ref q_4)) 5 (.ref q_5)) 6 (.ref q_6)) 8 (.ref q_7)))), (q_7, .inl (cI, 10923, .inl (fun _ => 0)))] H := hP
  have hD : va_D A [(h0, .inr (11, xo_Parts (va_up (va_up (va_up (va_up (va_up (va_up (va_up f0 1 (.ref q_1)) 2 (.ref q_2)) 3 (.ref q_3)) 4 (.ref q_4)) 5 (.ref q_5)) 6 (.ref q_6)) 8 (.ref q_7)))), (q_7, .inl (cI, 10923, .inl (fun _ => 0)))] := hD
  have hP := hP.sub (ws' := [(h0, .inr (11, xo_Parts (va_up (va_up (va_up (va_up (va_up (va_up (va_up f0 1 (.ref q_1)) 2 (.ref q_2)) 3 (.ref q_3)) 4 (.ref q_4)) 5 (.ref q_5)) 6 (.ref q_6)) 8 (.ref q_7))))]) [0] rfl
  have hD := hD.sub (ws' := [(h0, .inr (11, xo_Parts (va_up (va_up (va_up (va_up (va_up (va_up (va_up f0 1 (.ref q_1)) 2 (.ref q_2)) 3 (.ref q_3)) 4 (.ref q_4)) 5 (.ref q_5)) 6 (.ref q_6)) 8 (.ref q_7))))]) [0] (by decide) rfl
  refine lv_aload_n hx hb dn_Parts_init_67 rfl (lv_at hl 0 rfl) ?_
  refine lv_sipush (v := 10923) hx hb dn_Parts_init_68 (by decide) ?_
  refine xk_newI 10923 hx hb (hg _ wn_1_119) hK hP hD hS hA 0 rfl rfl (Nat.le_of_ble_eq_true rfl) (Nat.le_of_ble_eq_true rfl) (Nat.le_of_ble_eq_true rfl) dn_Parts_init_71 (fun q_8 H hP hD hS => ?_)
  have hP : va_P (dC, dI) xcl [(h0, .inr (11, xo_Parts (va_up (va_up (va_up (va_up (va_up (va_up (va_up f0 1 (.ref q_1)) 2 (.ref q_2)) 3 (.ref q_3)) 4 (.ref q_4)) 5 (.ref q_5)) 6 (.ref q_6)) 8 (.ref q_7)))), (q_8, .inl (cI, 10923, .inl (fun _ => 0)))] H := hP
  have hD : va_D A [(h0, .inr (11, xo_Parts (va_up (va_up (va_up (va_up (va_up (va_up (va_up f0 1 (.ref q_1)) 2 (.ref q_2)) 3 (.ref q_3)) 4 (.ref q_4)) 5 (.ref q_5)) 6 (.ref q_6)) 8 (.ref q_7)))), (q_8, .inl (cI, 10923, .inl (fun _ => 0)))] := hD
  refine va_putF (D := (dC, dI)) (ci := 11) (v := .ref q_8) (ty := (.array .int)) (C := rn_Parts) (T := fn_Parts) (N := 15) hx hb hg in_Parts tn_Parts tk_Parts nn_Parts hown hK hP hD hS 0 rfl rfl 9 (by decide) (hg _ wn_2_156) (fun _ h9 => h9) rfl hin rfl (tk_Parts 9 (by decide)) rfl rfl (Nat.le_of_ble_eq_true rfl) dn_Parts_init_73 (fun H locs hP hD hS => ?_)
  have hP : va_P (dC, dI) xcl [(h0, .inr (11, xo_Parts (va_up (va_up (va_up (va_up (va_up (va_up (va_up (va_up f0 1 (.ref q_1)) 2 (.ref q_2)) 3 (.ref q_3)) 4 (.ref q_4)) 5 (.ref q_5)) 6 (.ref q_6)) 8 (.ref q_7)) 9 (.ref q_8)))), (q_8, .inl (cI, 10923, .inl (fun _ => 0)))] H := hP
  have hD : va_D A [(h0, .inr (11, xo_Parts (va_up (va_up (va_up (va_up (va_up (va_up (va_up (va_up f0 1 (.ref q_1)) 2 (.ref q_2)) 3 (.ref q_3)) 4 (.ref q_4)) 5 (.ref q_5)) 6 (.ref q_6)) 8 (.ref q_7)) 9 (.ref q_8)))), (q_8, .inl (cI, 10923, .inl (fun _ => 0)))] := hD
  have hP := hP.sub (ws' := [(h0, .inr (11, xo_Parts (va_up (va_up (va_up (va_up (va_up (va_up (va_up (va_up f0 1 (.ref q_1)) 2 (.ref q_2)) 3 (.ref q_3)) 4 (.ref q_4)) 5 (.ref q_5)) 6 (.ref q_6)) 8 (.ref q_7)) 9 (.ref q_8))))]) [0] rfl
  have hD := hD.sub (ws' := [(h0, .inr (11, xo_Parts (va_up (va_up (va_up (va_up (va_up (va_up (va_up (va_up f0 1 (.ref q_1)) 2 (.ref q_2)) 3 (.ref q_3)) 4 (.ref q_4)) 5 (.ref q_5)) 6 (.ref q_6)) 8 (.ref q_7)) 9 (.ref q_8))))]) [0] (by decide) rfl
  refine lv_aload_n hx hb dn_Parts_init_76 rfl (lv_at hl 0 rfl) ?_
  refine lv_sipush (v := 10923) hx hb dn_Parts_init_77 (by decide) ?_
  refine xk_newI 10923 hx hb (hg _ wn_1_119) hK hP hD hS hA 0 rfl rfl (Nat.le_of_ble_eq_true rfl) (Nat.le_of_ble_eq_true rfl) (Nat.le_of_ble_eq_true rfl) dn_Parts_init_80 (fun q_9 H hP hD hS => ?_)
  have hP : va_P (dC, dI) xcl [(h0, .inr (11, xo_Parts (va_up (va_up (va_up (va_up (va_up (va_up (va_up (va_up f0 1 (.ref q_1)) 2 (.ref q_2)) 3 (.ref q_3)) 4 (.ref q_4)) 5 (.ref q_5)) 6 (.ref q_6)) 8 (.ref q_7)) 9 (.ref q_8)))), (q_9, .inl (cI, 10923, .inl (fun _ => 0)))] H := hP
  have hD : va_D A [(h0, .inr (11, xo_Parts (va_up (va_up (va_up (va_up (va_up (va_up (va_up (va_up f0 1 (.ref q_1)) 2 (.ref q_2)) 3 (.ref q_3)) 4 (.ref q_4)) 5 (.ref q_5)) 6 (.ref q_6)) 8 (.ref q_7)) 9 (.ref q_8)))), (q_9, .inl (cI, 10923, .inl (fun _ => 0)))] := hD
  refine va_putF (D := (dC, dI)) (ci := 11) (v := .ref q_9) (ty := (.array .int)) (C := rn_Parts) (T := fn_Parts) (N := 15) hx hb hg in_Parts tn_Parts tk_Parts nn_Parts hown hK hP hD hS 0 rfl rfl 10 (by decide) (hg _ wn_2_159) (fun _ h9 => h9) rfl hin rfl (tk_Parts 10 (by decide)) rfl rfl (Nat.le_of_ble_eq_true rfl) dn_Parts_init_82 (fun H locs hP hD hS => ?_)
  have hP : va_P (dC, dI) xcl [(h0, .inr (11, xo_Parts (va_up (va_up (va_up (va_up (va_up (va_up (va_up (va_up (va_up f0 1 (.ref q_1)) 2 (.ref q_2)) 3 (.ref q_3)) 4 (.ref q_4)) 5 (.ref q_5)) 6 (.ref q_6)) 8 (.ref q_7)) 9 (.ref q_8)) 10 (.ref q_9)))), (q_9, .inl (cI, 10923, .inl (fun _ => 0)))] H := hP
  have hD : va_D A [(h0, .inr (11, xo_Parts (va_up (va_up (va_up (va_up (va_up (va_up (va_up (va_up (va_up f0 1 (.ref q_1)) 2 (.ref q_2)) 3 (.ref q_3)) 4 (.ref q_4)) 5 (.ref q_5)) 6 (.ref q_6)) 8 (.ref q_7)) 9 (.ref q_8)) 10 (.ref q_9)))), (q_9, .inl (cI, 10923, .inl (fun _ => 0)))] := hD
  have hP := hP.sub (ws' := [(h0, .inr (11, xo_Parts (va_up (va_up (va_up (va_up (va_up (va_up (va_up (va_up (va_up f0 1 (.ref q_1)) 2 (.ref q_2)) 3 (.ref q_3)) 4 (.ref q_4)) 5 (.ref q_5)) 6 (.ref q_6)) 8 (.ref q_7)) 9 (.ref q_8)) 10 (.ref q_9))))]) [0] rfl
  have hD := hD.sub (ws' := [(h0, .inr (11, xo_Parts (va_up (va_up (va_up (va_up (va_up (va_up (va_up (va_up (va_up f0 1 (.ref q_1)) 2 (.ref q_2)) 3 (.ref q_3)) 4 (.ref q_4)) 5 (.ref q_5)) 6 (.ref q_6)) 8 (.ref q_7)) 9 (.ref q_8)) 10 (.ref q_9))))]) [0] (by decide) rfl
  refine lv_aload_n hx hb dn_Parts_init_85 rfl (lv_at hl 0 rfl) ?_
  refine lv_sipush (v := 10923) hx hb dn_Parts_init_86 (by decide) ?_
  refine xk_newI 10923 hx hb (hg _ wn_1_119) hK hP hD hS hA 0 rfl rfl (Nat.le_of_ble_eq_true rfl) (Nat.le_of_ble_eq_true rfl) (Nat.le_of_ble_eq_true rfl) dn_Parts_init_89 (fun q_10 H hP hD hS => ?_)
  have hP : va_P (dC, dI) xcl [(h0, .inr (11, xo_Parts (va_up (va_up (va_up (va_up (va_up (va_up (va_up (va_up (va_up f0 1 (.ref q_1)) 2 (.ref q_2)) 3 (.ref q_3)) 4 (.ref q_4)) 5 (.ref q_5)) 6 (.ref q_6)) 8 (.ref q_7)) 9 (.ref q_8)) 10 (.ref q_9)))), (q_10, .inl (cI, 10923, .inl (fun _ => 0)))] H := hP
  have hD : va_D A [(h0, .inr (11, xo_Parts (va_up (va_up (va_up (va_up (va_up (va_up (va_up (va_up (va_up f0 1 (.ref q_1)) 2 (.ref q_2)) 3 (.ref q_3)) 4 (.ref q_4)) 5 (.ref q_5)) 6 (.ref q_6)) 8 (.ref q_7)) 9 (.ref q_8)) 10 (.ref q_9)))), (q_10, .inl (cI, 10923, .inl (fun _ => 0)))] := hD
  refine va_putF (D := (dC, dI)) (ci := 11) (v := .ref q_10) (ty := (.array .int)) (C := rn_Parts) (T := fn_Parts) (N := 15) hx hb hg in_Parts tn_Parts tk_Parts nn_Parts hown hK hP hD hS 0 rfl rfl 12 (by decide) (hg _ wn_2_164) (fun _ h9 => h9) rfl hin rfl (tk_Parts 12 (by decide)) rfl rfl (Nat.le_of_ble_eq_true rfl) dn_Parts_init_91 (fun H locs hP hD hS => ?_)
  have hP : va_P (dC, dI) xcl [(h0, .inr (11, xo_Parts (va_up (va_up (va_up (va_up (va_up (va_up (va_up (va_up (va_up (va_up f0 1 (.ref q_1)) 2 (.ref q_2)) 3 (.ref q_3)) 4 (.ref q_4)) 5 (.ref q_5)) 6 (.ref q_6)) 8 (.ref q_7)) 9 (.ref q_8)) 10 (.ref q_9)) 12 (.ref q_10)))), (q_10, .inl (cI, 10923, .inl (fun _ => 0)))] H := hP
  have hD : va_D A [(h0, .inr (11, xo_Parts (va_up (va_up (va_up (va_up (va_up (va_up (va_up (va_up (va_up (va_up f0 1 (.ref q_1)) 2 (.ref q_2)) 3 (.ref q_3)) 4 (.ref q_4)) 5 (.ref q_5)) 6 (.ref q_6)) 8 (.ref q_7)) 9 (.ref q_8)) 10 (.ref q_9)) 12 (.ref q_10)))), (q_10, .inl (cI, 10923, .inl (fun _ => 0)))] := hD
  have hP := hP.sub (ws' := [(h0, .inr (11, xo_Parts (va_up (va_up (va_up (va_up (va_up (va_up (va_up (va_up (va_up (va_up f0 1 (.ref q_1)) 2 (.ref q_2)) 3 (.ref q_3)) 4 (.ref q_4)) 5 (.ref q_5)) 6 (.ref q_6)) 8 (.ref q_7)) 9 (.ref q_8)) 10 (.ref q_9)) 12 (.ref q_10))))]) [0] rfl
  have hD := hD.sub (ws' := [(h0, .inr (11, xo_Parts (va_up (va_up (va_up (va_up (va_up (va_up (va_up (va_up (va_up (va_up f0 1 (.ref q_1)) 2 (.ref q_2)) 3 (.ref q_3)) 4 (.ref q_4)) 5 (.ref q_5)) 6 (.ref q_6)) 8 (.ref q_7)) 9 (.ref q_8)) 10 (.ref q_9)) 12 (.ref q_10))))]) [0] (by decide) rfl
  refine lv_aload_n hx hb dn_Parts_init_94 rfl (lv_at hl 0 rfl) ?_
  refine lv_sipush (v := 10923) hx hb dn_Parts_init_95 (by decide) ?_
  refine xk_newI 10923 hx hb (hg _ wn_1_119) hK hP hD hS hA 0 rfl rfl (Nat.le_of_ble_eq_true rfl) (Nat.le_of_ble_eq_true rfl) (Nat.le_of_ble_eq_true rfl) dn_Parts_init_98 (fun q_11 H hP hD hS => ?_)
  have hP : va_P (dC, dI) xcl [(h0, .inr (11, xo_Parts (va_up (va_up (va_up (va_up (va_up (va_up (va_up (va_up (va_up (va_up f0 1 (.ref q_1)) 2 (.ref q_2)) 3 (.ref q_3)) 4 (.ref q_4)) 5 (.ref q_5)) 6 (.ref q_6)) 8 (.ref q_7)) 9 (.ref q_8)) 10 (.ref q_9)) 12 (.ref q_10)))), (q_11, .inl (cI, 10923, .inl (fun _ => 0)))] H := hP
  have hD : va_D A [(h0, .inr (11, xo_Parts (va_up (va_up (va_up (va_up (va_up (va_up (va_up (va_up (va_up (va_up f0 1 (.ref q_1)) 2 (.ref q_2)) 3 (.ref q_3)) 4 (.ref q_4)) 5 (.ref q_5)) 6 (.ref q_6)) 8 (.ref q_7)) 9 (.ref q_8)) 10 (.ref q_9)) 12 (.ref q_10)))), (q_11, .inl (cI, 10923, .inl (fun _ => 0)))] := hD
  refine va_putF (D := (dC, dI)) (ci := 11) (v := .ref q_11) (ty := (.array .int)) (C := rn_Parts) (T := fn_Parts) (N := 15) hx hb hg in_Parts tn_Parts tk_Parts nn_Parts hown hK hP hD hS 0 rfl rfl 13 (by decide) (hg _ wn_2_166) (fun _ h9 => h9) rfl hin rfl (tk_Parts 13 (by decide)) rfl rfl (Nat.le_of_ble_eq_true rfl) dn_Parts_init_100 (fun H locs hP hD hS => ?_)
  have hP : va_P (dC, dI) xcl [(h0, .inr (11, xo_Parts (va_up (va_up (va_up (va_up (va_up (va_up (va_up (va_up (va_up (va_up (va_up f0 1 (.ref q_1)) 2 (.ref q_2)) 3 (.ref q_3)) 4 (.ref q_4)) 5 (.ref q_5)) 6 (.ref q_6)) 8 (.ref q_7)) 9 (.ref q_8)) 10 (.ref q_9)) 12 (.ref q_10)) 13 (.ref q_11)))), (q_11, .inl (cI, 10923, .inl (fun _ => 0)))] H := hP
  have hD : va_D A [(h0, .inr (11, xo_Parts (va_up (va_up (va_up (va_up (va_up (va_up (va_up (va_up (va_up (va_up (va_up f0 1 (.ref q_1)) 2 (.ref q_2)) 3 (.ref q_3)) 4 (.ref q_4)) 5 (.ref q_5)) 6 (.ref q_6)) 8 (.ref q_7)) 9 (.ref q_8)) 10 (.ref q_9)) 12 (.ref q_10)) 13 (.ref q_11)))), (q_11, .inl (cI, 10923, .inl (fun _ => 0)))] := hD
  have hP := hP.sub (ws' := [(h0, .inr (11, xo_Parts (va_up (va_up (va_up (va_up (va_up (va_up (va_up (va_up (va_up (va_up (va_up f0 1 (.ref q_1)) 2 (.ref q_2)) 3 (.ref q_3)) 4 (.ref q_4)) 5 (.ref q_5)) 6 (.ref q_6)) 8 (.ref q_7)) 9 (.ref q_8)) 10 (.ref q_9)) 12 (.ref q_10)) 13 (.ref q_11))))]) [0] rfl
  have hD := hD.sub (ws' := [(h0, .inr (11, xo_Parts (va_up (va_up (va_up (va_up (va_up (va_up (va_up (va_up (va_up (va_up (va_up f0 1 (.ref q_1)) 2 (.ref q_2)) 3 (.ref q_3)) 4 (.ref q_4)) 5 (.ref q_5)) 6 (.ref q_6)) 8 (.ref q_7)) 9 (.ref q_8)) 10 (.ref q_9)) 12 (.ref q_10)) 13 (.ref q_11))))]) [0] (by decide) rfl
  refine lv_aload_n hx hb dn_Parts_init_103 rfl (lv_at hl 0 rfl) ?_
  refine lv_sipush (v := 10923) hx hb dn_Parts_init_104 (by decide) ?_
  refine xk_newI 10923 hx hb (hg _ wn_1_119) hK hP hD hS hA 0 rfl rfl (Nat.le_of_ble_eq_true rfl) (Nat.le_of_ble_eq_true rfl) (Nat.le_of_ble_eq_true rfl) dn_Parts_init_107 (fun q_12 H hP hD hS => ?_)
  have hP : va_P (dC, dI) xcl [(h0, .inr (11, xo_Parts (va_up (va_up (va_up (va_up (va_up (va_up (va_up (va_up (va_up (va_up (va_up f0 1 (.ref q_1)) 2 (.ref q_2)) 3 (.ref q_3)) 4 (.ref q_4)) 5 (.ref q_5)) 6 (.ref q_6)) 8 (.ref q_7)) 9 (.ref q_8)) 10 (.ref q_9)) 12 (.ref q_10)) 13 (.ref q_11)))), (q_12, .inl (cI, 10923, .inl (fun _ => 0)))] H := hP
  have hD : va_D A [(h0, .inr (11, xo_Parts (va_up (va_up (va_up (va_up (va_up (va_up (va_up (va_up (va_up (va_up (va_up f0 1 (.ref q_1)) 2 (.ref q_2)) 3 (.ref q_3)) 4 (.ref q_4)) 5 (.ref q_5)) 6 (.ref q_6)) 8 (.ref q_7)) 9 (.ref q_8)) 10 (.ref q_9)) 12 (.ref q_10)) 13 (.ref q_11)))), (q_12, .inl (cI, 10923, .inl (fun _ => 0)))] := hD
  refine va_putF (D := (dC, dI)) (ci := 11) (v := .ref q_12) (ty := (.array .int)) (C := rn_Parts) (T := fn_Parts) (N := 15) hx hb hg in_Parts tn_Parts tk_Parts nn_Parts hown hK hP hD hS 0 rfl rfl 14 (by decide) (hg _ wn_2_169) (fun _ h9 => h9) rfl hin rfl (tk_Parts 14 (by decide)) rfl rfl (Nat.le_of_ble_eq_true rfl) dn_Parts_init_109 (fun H locs hP hD hS => ?_)
  have hP : va_P (dC, dI) xcl [(h0, .inr (11, xo_Parts (va_up (va_up (va_up (va_up (va_up (va_up (va_up (va_up (va_up (va_up (va_up (va_up f0 1 (.ref q_1)) 2 (.ref q_2)) 3 (.ref q_3)) 4 (.ref q_4)) 5 (.ref q_5)) 6 (.ref q_6)) 8 (.ref q_7)) 9 (.ref q_8)) 10 (.ref q_9)) 12 (.ref q_10)) 13 (.ref q_11)) 14 (.ref q_12)))), (q_12, .inl (cI, 10923, .inl (fun _ => 0)))] H := hP
  have hD : va_D A [(h0, .inr (11, xo_Parts (va_up (va_up (va_up (va_up (va_up (va_up (va_up (va_up (va_up (va_up (va_up (va_up f0 1 (.ref q_1)) 2 (.ref q_2)) 3 (.ref q_3)) 4 (.ref q_4)) 5 (.ref q_5)) 6 (.ref q_6)) 8 (.ref q_7)) 9 (.ref q_8)) 10 (.ref q_9)) 12 (.ref q_10)) 13 (.ref q_11)) 14 (.ref q_12)))), (q_12, .inl (cI, 10923, .inl (fun _ => 0)))] := hD
  have hP := hP.sub (ws' := [(h0, .inr (11, xo_Parts (va_up (va_up (va_up (va_up (va_up (va_up (va_up (va_up (va_up (va_up (va_up (va_up f0 1 (.ref q_1)) 2 (.ref q_2)) 3 (.ref q_3)) 4 (.ref q_4)) 5 (.ref q_5)) 6 (.ref q_6)) 8 (.ref q_7)) 9 (.ref q_8)) 10 (.ref q_9)) 12 (.ref q_10)) 13 (.ref q_11)) 14 (.ref q_12))))]) [0] rfl
  have hD := hD.sub (ws' := [(h0, .inr (11, xo_Parts (va_up (va_up (va_up (va_up (va_up (va_up (va_up (va_up (va_up (va_up (va_up (va_up f0 1 (.ref q_1)) 2 (.ref q_2)) 3 (.ref q_3)) 4 (.ref q_4)) 5 (.ref q_5)) 6 (.ref q_6)) 8 (.ref q_7)) 9 (.ref q_8)) 10 (.ref q_9)) 12 (.ref q_10)) 13 (.ref q_11)) 14 (.ref q_12))))]) [0] (by decide) rfl
  have hP9 := hP.sub (ws' := [(h0, .inr (11, xo_Parts (va_up (va_up (va_up (va_up (va_up (va_up (va_up (va_up (va_up (va_up (va_up (va_up f0 1 (.ref q_1)) 2 (.ref q_2)) 3 (.ref q_3)) 4 (.ref q_4)) 5 (.ref q_5)) 6 (.ref q_6)) 8 (.ref q_7)) 9 (.ref q_8)) 10 (.ref q_9)) 12 (.ref q_10)) 13 (.ref q_11)) 14 (.ref q_12))))]) [0] rfl
  have hD9 := hD.sub (ws' := [(h0, .inr (11, xo_Parts (va_up (va_up (va_up (va_up (va_up (va_up (va_up (va_up (va_up (va_up (va_up (va_up f0 1 (.ref q_1)) 2 (.ref q_2)) 3 (.ref q_3)) 4 (.ref q_4)) 5 (.ref q_5)) 6 (.ref q_6)) 8 (.ref q_7)) 9 (.ref q_8)) 10 (.ref q_9)) 12 (.ref q_10)) 13 (.ref q_11)) 14 (.ref q_12))))]) [0] (by decide) rfl
  exact xk_vret (w1 := fun u : Unit => [(h0, .inr (11, xo_Parts (va_up (va_up (va_up (va_up (va_up (va_up (va_up (va_up (va_up (va_up (va_up (va_up f0 1 (.ref q_1)) 2 (.ref q_2)) 3 (.ref q_3)) 4 (.ref q_4)) 5 (.ref q_5)) 6 (.ref q_6)) 8 (.ref q_7)) 9 (.ref q_8)) 10 (.ref q_9)) 12 (.ref q_10)) 13 (.ref q_11)) 14 (.ref q_12))))]) () hx hb hr hlocks hK hS dn_Parts_init_112 hP9 hD9 trivial (Nat.le_refl _) (Nat.le_refl _)
set_option maxHeartbeats 4000000 in
set_option maxRecDepth 100000 in
theorem ct_Code_init_0 (l : Launch) (dC : Nat → ClassId) (dI : Nat → Nat → Nat) (cI cB cJ cZ cQ : ClassId) (sz : Nat) (h0 : Nat) (f0 : Nat → Value) : Met l yn_Code_init (xw yn_Code_init bn_Code_init 1 none) ({ frames := 1, cells := 3, slots := 91753, locals := 20 }) (xk_P (dC, dI) xcl (xt cI cB cJ cZ cQ) [.ref h0] sz [(h0, .inr (12, xo_Code f0))]) (xk_Qv (dC, dI) xcl (xt cI cB cJ cZ cQ) (fun u : Unit => True) (fun u : Unit => [(h0, .inr (12, xo_Code (va_up (va_up (va_up f0 0 (.ref q_1)) 2 (.ref q_2)) 3 (.ref q_3))))]) (va_A [(h0, .inr (12, xo_Code f0))] sz)) 3 91753 (va_A [(h0, .inr (12, xo_Code f0))] sz) := by
  refine xk_of (QA := xk_Qv (dC, dI) xcl (xt cI cB cJ cZ cQ) (fun u : Unit => True) (fun u : Unit => [(h0, .inr (12, xo_Code (va_up (va_up (va_up f0 0 (.ref q_1)) 2 (.ref q_2)) 3 (.ref q_3))))])) (by decide) (Nat.le_of_ble_eq_true rfl) ?_
  intro p e s m below meth c hx hb hml hown hg hr hlocks hin hP hK hN A hA hD hS ls hl
  have hown : s.vm.findClass rn_Code = some m.cls := hown
  have hl : lv_has ls 1 [(0, .ref h0)] := hl
  obtain ⟨H, hH⟩ : ∃ z, z = s.heap := ⟨_, rfl⟩
  rw [← hH] at hP
  have hS : va_S A s.heap H [] := by rw [hH]; exact va_S.rf
  suffices kk : W p l e ({ frames := 1, cells := 3, slots := 91753, locals := 20 }) s m [.ref h0].toArray below meth c H [] 0 0 (MQ below (xk_Qv (dC, dI) xcl (xt cI cB cJ cZ cQ) (fun u : Unit => True) (fun u : Unit => [(h0, .inr (12, xo_Code (va_up (va_up (va_up f0 0 (.ref q_1)) 2 (.ref q_2)) 3 (.ref q_3))))]) A) [.ref h0].toArray s 3 91753 A) (F0 m 0 ls []) by rw [hH] at kk; exact kk
  refine lv_aload_n hx hb dn_Code_init_0 rfl (lv_at hl 0 rfl) ?_
  refine W.objInit hx hb hown (hg _ wn_2_208) (hg _ wn_1_36) (hg _ wn_1_37) rfl (by rw [hml]; exact hl.1) rfl dn_Code_init_1 (Nat.le_of_ble_eq_true rfl) (Nat.le_of_ble_eq_true rfl) ?_
  refine W.eq (g2 := F0 m 4 ls []) rfl ?_
  refine lv_aload_n hx hb dn_Code_init_4 rfl (lv_at hl 0 rfl) ?_
  refine lv_ldc hx hb hown (hg _ wn_2_209) dn_Code_init_5 ?_
  refine xk_newJ 65537 hx hb (hg _ wn_1_82) hK hP hD hS hA 2 rfl rfl (Nat.le_of_ble_eq_true rfl) (Nat.le_of_ble_eq_true rfl) (Nat.le_of_ble_eq_true rfl) dn_Code_init_7 (fun q_1 H hP hD hS => ?_)
  have hP : va_P (dC, dI) xcl [(h0, .inr (12, xo_Code f0)), (q_1, .inl (cJ, 65537, .inr (.inl (fun _ => 0))))] H := hP
  have hD : va_D A [(h0, .inr (12, xo_Code f0)), (q_1, .inl (cJ, 65537, .inr (.inl (fun _ => 0))))] := hD
  refine va_putF (D := (dC, dI)) (ci := 12) (v := .ref q_1) (ty := (.array .long)) (C := rn_Code) (T := fn_Code) (N := 5) hx hb hg in_Code tn_Code tk_Code nn_Code hown hK hP hD hS 0 rfl rfl 0 (by decide) (hg _ wn_2_210) (fun _ h9 => h9) rfl hin rfl (tk_Code 0 (by decide)) rfl rfl (Nat.le_of_ble_eq_true rfl) dn_Code_init_9 (fun H locs hP hD hS => ?_)
  have hP : va_P (dC, dI) xcl [(h0, .inr (12, xo_Code (va_up f0 0 (.ref q_1)))), (q_1, .inl (cJ, 65537, .inr (.inl (fun _ => 0))))] H := hP
  have hD : va_D A [(h0, .inr (12, xo_Code (va_up f0 0 (.ref q_1)))), (q_1, .inl (cJ, 65537, .inr (.inl (fun _ => 0))))] := hD
  have hP := hP.sub (ws' := [(h0, .inr (12, xo_Code (va_up f0 0 (.ref q_1))))]) [0] rfl
  have hD := hD.sub (ws' := [(h0, .inr (12, xo_Code (va_up f0 0 (.ref q_1))))]) [0] (by decide) rfl
  refine lv_aload_n hx hb dn_Code_init_12 rfl (lv_at hl 0 rfl) ?_
  refine lv_sipush (v := 13108) hx hb dn_Code_init_13 (by decide) ?_
  refine xk_newI 13108 hx hb (hg _ wn_1_119) hK hP hD hS hA 0 rfl rfl (Nat.le_of_ble_eq_true rfl) (Nat.le_of_ble_eq_true rfl) (Nat.le_of_ble_eq_true rfl) dn_Code_init_16 (fun q_2 H hP hD hS => ?_)
  have hP : va_P (dC, dI) xcl [(h0, .inr (12, xo_Code (va_up f0 0 (.ref q_1)))), (q_2, .inl (cI, 13108, .inl (fun _ => 0)))] H := hP
  have hD : va_D A [(h0, .inr (12, xo_Code (va_up f0 0 (.ref q_1)))), (q_2, .inl (cI, 13108, .inl (fun _ => 0)))] := hD
  refine va_putF (D := (dC, dI)) (ci := 12) (v := .ref q_2) (ty := (.array .int)) (C := rn_Code) (T := fn_Code) (N := 5) hx hb hg in_Code tn_Code tk_Code nn_Code hown hK hP hD hS 0 rfl rfl 2 (by decide) (hg _ wn_2_217) (fun _ h9 => h9) rfl hin rfl (tk_Code 2 (by decide)) rfl rfl (Nat.le_of_ble_eq_true rfl) dn_Code_init_18 (fun H locs hP hD hS => ?_)
  have hP : va_P (dC, dI) xcl [(h0, .inr (12, xo_Code (va_up (va_up f0 0 (.ref q_1)) 2 (.ref q_2)))), (q_2, .inl (cI, 13108, .inl (fun _ => 0)))] H := hP
  have hD : va_D A [(h0, .inr (12, xo_Code (va_up (va_up f0 0 (.ref q_1)) 2 (.ref q_2)))), (q_2, .inl (cI, 13108, .inl (fun _ => 0)))] := hD
  have hP := hP.sub (ws' := [(h0, .inr (12, xo_Code (va_up (va_up f0 0 (.ref q_1)) 2 (.ref q_2))))]) [0] rfl
  have hD := hD.sub (ws' := [(h0, .inr (12, xo_Code (va_up (va_up f0 0 (.ref q_1)) 2 (.ref q_2))))]) [0] (by decide) rfl
  refine lv_aload_n hx hb dn_Code_init_21 rfl (lv_at hl 0 rfl) ?_
  refine lv_sipush (v := 13108) hx hb dn_Code_init_22 (by decide) ?_
  refine xk_newJ 13108 hx hb (hg _ wn_1_82) hK hP hD hS hA 2 rfl rfl (Nat.le_of_ble_eq_true rfl) (Nat.le_of_ble_eq_true rfl) (Nat.le_of_ble_eq_true rfl) dn_Code_init_25 (fun q_3 H hP hD hS => ?_)
  have hP : va_P (dC, dI) xcl [(h0, .inr (12, xo_Code (va_up (va_up f0 0 (.ref q_1)) 2 (.ref q_2)))), (q_3, .inl (cJ, 13108, .inr (.inl (fun _ => 0))))] H := hP
  have hD : va_D A [(h0, .inr (12, xo_Code (va_up (va_up f0 0 (.ref q_1)) 2 (.ref q_2)))), (q_3, .inl (cJ, 13108, .inr (.inl (fun _ => 0))))] := hD
  refine va_putF (D := (dC, dI)) (ci := 12) (v := .ref q_3) (ty := (.array .long)) (C := rn_Code) (T := fn_Code) (N := 5) hx hb hg in_Code tn_Code tk_Code nn_Code hown hK hP hD hS 0 rfl rfl 3 (by decide) (hg _ wn_2_218) (fun _ h9 => h9) rfl hin rfl (tk_Code 3 (by decide)) rfl rfl (Nat.le_of_ble_eq_true rfl) dn_Code_init_27 (fun H locs hP hD hS => ?_)
  have hP : va_P (dC, dI) xcl [(h0, .inr (12, xo_Code (va_up (va_up (va_up f0 0 (.ref q_1)) 2 (.ref q_2)) 3 (.ref q_3)))), (q_3, .inl (cJ, 13108, .inr (.inl (fun _ => 0))))] H := hP
  have hD : va_D A [(h0, .inr (12, xo_Code (va_up (va_up (va_up f0 0 (.ref q_1)) 2 (.ref q_2)) 3 (.ref q_3)))), (q_3, .inl (cJ, 13108, .inr (.inl (fun _ => 0))))] := hD
  have hP := hP.sub (ws' := [(h0, .inr (12, xo_Code (va_up (va_up (va_up f0 0 (.ref q_1)) 2 (.ref q_2)) 3 (.ref q_3))))]) [0] rfl
  have hD := hD.sub (ws' := [(h0, .inr (12, xo_Code (va_up (va_up (va_up f0 0 (.ref q_1)) 2 (.ref q_2)) 3 (.ref q_3))))]) [0] (by decide) rfl
  have hP9 := hP.sub (ws' := [(h0, .inr (12, xo_Code (va_up (va_up (va_up f0 0 (.ref q_1)) 2 (.ref q_2)) 3 (.ref q_3))))]) [0] rfl
  have hD9 := hD.sub (ws' := [(h0, .inr (12, xo_Code (va_up (va_up (va_up f0 0 (.ref q_1)) 2 (.ref q_2)) 3 (.ref q_3))))]) [0] (by decide) rfl
  exact xk_vret (w1 := fun u : Unit => [(h0, .inr (12, xo_Code (va_up (va_up (va_up f0 0 (.ref q_1)) 2 (.ref q_2)) 3 (.ref q_3))))]) () hx hb hr hlocks hK hS dn_Code_init_30 hP9 hD9 trivial (Nat.le_refl _) (Nat.le_refl _)
set_option maxHeartbeats 4000000 in
set_option maxRecDepth 100000 in
theorem ct_Design_init_0 (l : Launch) (dC : Nat → ClassId) (dI : Nat → Nat → Nat) (cI cB cJ cZ cQ : ClassId) (sz : Nat) (h0 : Nat) (f0 : Nat → Value) : Met l yn_Design_init (xw yn_Design_init bn_Design_init 1 none) ({ frames := 2, cells := 32, slots := 340822, locals := 40 }) (xk_P (dC, dI) xcl (xt cI cB cJ cZ cQ) [.ref h0] sz [(h0, .inr (10, xo_Design f0))]) (xk_Qv (dC, dI) xcl (xt cI cB cJ cZ cQ) (fun u : Nat × Nat × Nat => True) (fun u : Nat × Nat × Nat => [(h0, .inr (10, xo_Design (va_up (va_up (va_up (va_up (va_up (va_up (va_up (va_up (va_up (va_up (va_up (va_up f0 0 (.ref u.1)) 1 (.ref u.2.1)) 2 (.ref u.2.2)) 6 (.ref q_4)) 7 (.ref q_5)) 8 (.ref q_6)) 9 (.ref q_7)) 10 (.ref q_8)) 11 (.ref q_9)) 13 (.ref q_15)) 14 (.ref q_16)) 15 (.ref q_17)))), (u.1, .inr (11, xo_Parts (va_up (va_up (va_up (va_up (va_up (va_up (va_up (va_up (va_up (va_up (va_up (va_up dv_Parts 1 (.ref u.1)) 2 (.ref u.2.1)) 3 (.ref u.2.2)) 4 (.ref q_4)) 5 (.ref q_5)) 6 (.ref q_6)) 8 (.ref q_7)) 9 (.ref q_8)) 10 (.ref q_9)) 12 (.ref q_10)) 13 (.ref q_11)) 14 (.ref q_12)))), (u.2.1, .inr (12, xo_Code (va_up (va_up (va_up dv_Code 0 (.ref u.1)) 2 (.ref u.2.1)) 3 (.ref u.2.2)))), (u.2.2, .inl (cB, 65536, .inl (fun _ => 0)))]) (va_A [(h0, .inr (10, xo_Design f0))] sz)) 32 340822 (va_A [(h0, .inr (10, xo_Design f0))] sz) := by
  refine xk_of (QA := xk_Qv (dC, dI) xcl (xt cI cB cJ cZ cQ) (fun u : Nat × Nat × Nat => True) (fun u : Nat × Nat × Nat => [(h0, .inr (10, xo_Design (va_up (va_up (va_up (va_up (va_up (va_up (va_up (va_up (va_up (va_up (va_up (va_up f0 0 (.ref u.1)) 1 (.ref u.2.1)) 2 (.ref u.2.2)) 6 (.ref q_4)) 7 (.ref q_5)) 8 (.ref q_6)) 9 (.ref q_7)) 10 (.ref q_8)) 11 (.ref q_9)) 13 (.ref q_15)) 14 (.ref q_16)) 15 (.ref q_17)))), (u.1, .inr (11, xo_Parts (va_up (va_up (va_up (va_up (va_up (va_up (va_up (va_up (va_up (va_up (va_up (va_up dv_Parts 1 (.ref u.1)) 2 (.ref u.2.1)) 3 (.ref u.2.2)) 4 (.ref q_4)) 5 (.ref q_5)) 6 (.ref q_6)) 8 (.ref q_7)) 9 (.ref q_8)) 10 (.ref q_9)) 12 (.ref q_10)) 13 (.ref q_11)) 14 (.ref q_12)))), (u.2.1, .inr (12, xo_Code (va_up (va_up (va_up dv_Code 0 (.ref u.1)) 2 (.ref u.2.1)) 3 (.ref u.2.2)))), (u.2.2, .inl (cB, 65536, .inl (fun _ => 0)))])) (by decide) (Nat.le_of_ble_eq_true rfl) ?_
  intro p e s m below meth c hx hb hml hown hg hr hlocks hin hP hK hN A hA hD hS ls hl
  have hown : s.vm.findClass rn_Design = some m.cls := hown
  have hl : lv_has ls 1 [(0, .ref h0)] := hl
  obtain ⟨H, hH⟩ : ∃ z, z = s.heap := ⟨_, rfl⟩
  rw [← hH] at hP
  have hS : va_S A s.heap H [] := by rw [hH]; exact va_S.rf
  suffices kk : W p l e ({ frames := 2, cells := 32, slots := 340822, locals := 40 }) s m [.ref h0].toArray below meth c H [] 0 0 (MQ below (xk_Qv (dC, dI) xcl (xt cI cB cJ cZ cQ) (fun u : Nat × Nat × Nat => True) (fun u : Nat × Nat × Nat => [(h0, .inr (10, xo_Design (va_up (va_up (va_up (va_up (va_up (va_up (va_up (va_up (va_up (va_up (va_up (va_up f0 0 (.ref u.1)) 1 (.ref u.2.1)) 2 (.ref u.2.2)) 6 (.ref q_4)) 7 (.ref q_5)) 8 (.ref q_6)) 9 (.ref q_7)) 10 (.ref q_8)) 11 (.ref q_9)) 13 (.ref q_15)) 14 (.ref q_16)) 15 (.ref q_17)))), (u.1, .inr (11, xo_Parts (va_up (va_up (va_up (va_up (va_up (va_up (va_up (va_up (va_up (va_up (va_up (va_up dv_Parts 1 (.ref u.1)) 2 (.ref u.2.1)) 3 (.ref u.2.2)) 4 (.ref q_4)) 5 (.ref q_5)) 6 (.ref q_6)) 8 (.ref q_7)) 9 (.ref q_8)) 10 (.ref q_9)) 12 (.ref q_10)) 13 (.ref q_11)) 14 (.ref q_12)))), (u.2.1, .inr (12, xo_Code (va_up (va_up (va_up dv_Code 0 (.ref u.1)) 2 (.ref u.2.1)) 3 (.ref u.2.2)))), (u.2.2, .inl (cB, 65536, .inl (fun _ => 0)))]) A) [.ref h0].toArray s 32 340822 A) (F0 m 0 ls []) by rw [hH] at kk; exact kk
  refine lv_aload_n hx hb dn_Design_init_0 rfl (lv_at hl 0 rfl) ?_
  refine W.objInit hx hb hown (hg _ wn_2_116) (hg _ wn_1_36) (hg _ wn_1_37) rfl (by rw [hml]; exact hl.1) rfl dn_Design_init_1 (Nat.le_of_ble_eq_true rfl) (Nat.le_of_ble_eq_true rfl) ?_
  refine W.eq (g2 := F0 m 4 ls []) rfl ?_
  refine lv_aload_n hx hb dn_Design_init_4 rfl (lv_at hl 0 rfl) ?_
  refine va_new (ci := 11) (fs := xo_Parts dv_Parts) (C := rn_Parts) (T := fn_Parts) (N := 15) hx hb hg in_Parts tn_Parts tk_Parts hown (hg _ wn_2_117) (hg _ wn_2_118) (hg _ wn_1_11) hK hP hD hS hA rfl dk_Parts (Nat.le_of_ble_eq_true rfl) (Nat.le_of_ble_eq_true rfl) dn_Design_init_5 (fun q_1 H hP hD hS => ?_)
  have hP : va_P (dC, dI) xcl [(h0, .inr (10, xo_Design f0)), (q_1, .inr (11, xo_Parts dv_Parts))] H := hP
  have hD : va_D A [(h0, .inr (10, xo_Design f0)), (q_1, .inr (11, xo_Parts dv_Parts))] := hD
  refine lv_dup hx hb dn_Design_init_8 rfl ?_
  have hPc := hP.sub (ws' := [(q_1, .inr (11, xo_Parts dv_Parts))]) [1] rfl
  have hDc := hD.sub (ws' := [(q_1, .inr (11, xo_Parts dv_Parts))]) [1] (by decide) rfl
  refine xk_callv (wr := [(h0, .inr (10, xo_Design f0))]) (xk_runIN (ar := 0) (As := []) (rest := [.ref q_1, .ref h0]) (host := "CircuitCycles") ⟨hx, hb, hml, hown, hg⟩ hK hN (ct_Parts_init_0 l dC dI cI cB cJ cZ cQ H.size q_1 dv_Parts) hPc hDc nl_Design_11 wn_2_120 wn_1_11 wn_2_121 rfl rfl rfl (by decide +kernel) ⟨Nat.le_of_ble_eq_true rfl, Nat.le_of_ble_eq_true rfl⟩ rfl hl.1 rfl (Nat.le_of_ble_eq_true rfl) dn_Design_init_9 ⟨Nat.le_of_ble_eq_true rfl, Nat.le_of_ble_eq_true rfl⟩) hP hD hS hA [1] [0] rfl rfl (by decide) (by decide) (fun _ H locs hw hP hD hS => ?_)
  have hP : va_P (dC, dI) xcl [(h0, .inr (10, xo_Design f0)), (q_1, .inr (11, xo_Parts (va_up (va_up (va_up (va_up (va_up (va_up (va_up (va_up (va_up (va_up (va_up (va_up dv_Parts 1 (.ref q_1)) 2 (.ref q_2)) 3 (.ref q_3)) 4 (.ref q_4)) 5 (.ref q_5)) 6 (.ref q_6)) 8 (.ref q_7)) 9 (.ref q_8)) 10 (.ref q_9)) 12 (.ref q_10)) 13 (.ref q_11)) 14 (.ref q_12))))] H := hP
  have hD : va_D A [(h0, .inr (10, xo_Design f0)), (q_1, .inr (11, xo_Parts (va_up (va_up (va_up (va_up (va_up (va_up (va_up (va_up (va_up (va_up (va_up (va_up dv_Parts 1 (.ref q_1)) 2 (.ref q_2)) 3 (.ref q_3)) 4 (.ref q_4)) 5 (.ref q_5)) 6 (.ref q_6)) 8 (.ref q_7)) 9 (.ref q_8)) 10 (.ref q_9)) 12 (.ref q_10)) 13 (.ref q_11)) 14 (.ref q_12))))] := hD
  refine va_putF (D := (dC, dI)) (ci := 10) (v := .ref q_1) (ty := (.object "CircuitCycles$Parts")) (C := rn_Design) (T := fn_Design) (N := 16) hx hb hg in_Design tn_Design tk_Design nn_Design hown hK hP hD hS 0 rfl rfl 0 (by decide) (hg _ wn_2_234) (fun _ h9 => h9) rfl hin rfl (tk_Design 0 (by decide)) rfl rfl (Nat.le_of_ble_eq_true rfl) dn_Design_init_12 (fun H locs hP hD hS => ?_)
  have hP : va_P (dC, dI) xcl [(h0, .inr (10, xo_Design (va_up f0 0 (.ref q_1)))), (q_1, .inr (11, xo_Parts (va_up (va_up (va_up (va_up (va_up (va_up (va_up (va_up (va_up (va_up (va_up (va_up dv_Parts 1 (.ref q_1)) 2 (.ref q_2)) 3 (.ref q_3)) 4 (.ref q_4)) 5 (.ref q_5)) 6 (.ref q_6)) 8 (.ref q_7)) 9 (.ref q_8)) 10 (.ref q_9)) 12 (.ref q_10)) 13 (.ref q_11)) 14 (.ref q_12))))] H := hP
  have hD : va_D A [(h0, .inr (10, xo_Design (va_up f0 0 (.ref q_1)))), (q_1, .inr (11, xo_Parts (va_up (va_up (va_up (va_up (va_up (va_up (va_up (va_up (va_up (va_up (va_up (va_up dv_Parts 1 (.ref q_1)) 2 (.ref q_2)) 3 (.ref q_3)) 4 (.ref q_4)) 5 (.ref q_5)) 6 (.ref q_6)) 8 (.ref q_7)) 9 (.ref q_8)) 10 (.ref q_9)) 12 (.ref q_10)) 13 (.ref q_11)) 14 (.ref q_12))))] := hD
  refine lv_aload_n hx hb dn_Design_init_15 rfl (lv_at hl 0 rfl) ?_
  refine va_new (ci := 12) (fs := xo_Code dv_Code) (C := rn_Code) (T := fn_Code) (N := 5) hx hb hg in_Code tn_Code tk_Code hown (hg _ wn_2_203) (hg _ wn_2_204) (hg _ wn_1_12) hK hP hD hS hA rfl dk_Code (Nat.le_of_ble_eq_true rfl) (Nat.le_of_ble_eq_true rfl) dn_Design_init_16 (fun q_2 H hP hD hS => ?_)
  have hP : va_P (dC, dI) xcl [(h0, .inr (10, xo_Design (va_up f0 0 (.ref q_1)))), (q_1, .inr (11, xo_Parts (va_up (va_up (va_up (va_up (va_up (va_up (va_up (va_up (va_up (va_up (va_up (va_up dv_Parts 1 (.ref q_1)) 2 (.ref q_2)) 3 (.ref q_3)) 4 (.ref q_4)) 5 (.ref q_5)) 6 (.ref q_6)) 8 (.ref q_7)) 9 (.ref q_8)) 10 (.ref q_9)) 12 (.ref q_10)) 13 (.ref q_11)) 14 (.ref q_12)))), (q_2, .inr (12, xo_Code dv_Code))] H := hP
  have hD : va_D A [(h0, .inr (10, xo_Design (va_up f0 0 (.ref q_1)))), (q_1, .inr (11, xo_Parts (va_up (va_up (va_up (va_up (va_up (va_up (va_up (va_up (va_up (va_up (va_up (va_up dv_Parts 1 (.ref q_1)) 2 (.ref q_2)) 3 (.ref q_3)) 4 (.ref q_4)) 5 (.ref q_5)) 6 (.ref q_6)) 8 (.ref q_7)) 9 (.ref q_8)) 10 (.ref q_9)) 12 (.ref q_10)) 13 (.ref q_11)) 14 (.ref q_12)))), (q_2, .inr (12, xo_Code dv_Code))] := hD
  refine lv_dup hx hb dn_Design_init_19 rfl ?_
  have hPc := hP.sub (ws' := [(q_2, .inr (12, xo_Code dv_Code))]) [2] rfl
  have hDc := hD.sub (ws' := [(q_2, .inr (12, xo_Code dv_Code))]) [2] (by decide) rfl
  refine xk_callv (wr := [(h0, .inr (10, xo_Design (va_up f0 0 (.ref q_1)))), (q_1, .inr (11, xo_Parts (va_up (va_up (va_up (va_up (va_up (va_up (va_up (va_up (va_up (va_up (va_up (va_up dv_Parts 1 (.ref q_1)) 2 (.ref q_2)) 3 (.ref q_3)) 4 (.ref q_4)) 5 (.ref q_5)) 6 (.ref q_6)) 8 (.ref q_7)) 9 (.ref q_8)) 10 (.ref q_9)) 12 (.ref q_10)) 13 (.ref q_11)) 14 (.ref q_12))))]) (xk_runIN (ar := 0) (As := []) (rest := [.ref q_2, .ref h0]) (host := "CircuitCycles") ⟨hx, hb, hml, hown, hg⟩ hK hN (ct_Code_init_0 l dC dI cI cB cJ cZ cQ H.size q_2 dv_Code) hPc hDc nl_Design_20 wn_2_206 wn_1_12 wn_2_207 rfl rfl rfl (by decide +kernel) ⟨Nat.le_of_ble_eq_true rfl, Nat.le_of_ble_eq_true rfl⟩ rfl hl.1 rfl (Nat.le_of_ble_eq_true rfl) dn_Design_init_20 ⟨Nat.le_of_ble_eq_true rfl, Nat.le_of_ble_eq_true rfl⟩) hP hD hS hA [2] [0, 1] rfl rfl (by decide) (by decide) (fun _ H locs hw hP hD hS => ?_)
  have hP : va_P (dC, dI) xcl [(h0, .inr (10, xo_Design (va_up f0 0 (.ref q_1)))), (q_1, .inr (11, xo_Parts (va_up (va_up (va_up (va_up (va_up (va_up (va_up (va_up (va_up (va_up (va_up (va_up dv_Parts 1 (.ref q_1)) 2 (.ref q_2)) 3 (.ref q_3)) 4 (.ref q_4)) 5 (.ref q_5)) 6 (.ref q_6)) 8 (.ref q_7)) 9 (.ref q_8)) 10 (.ref q_9)) 12 (.ref q_10)) 13 (.ref q_11)) 14 (.ref q_12)))), (q_2, .inr (12, xo_Code (va_up (va_up (va_up dv_Code 0 (.ref q_1)) 2 (.ref q_2)) 3 (.ref q_3))))] H := hP
  have hD : va_D A [(h0, .inr (10, xo_Design (va_up f0 0 (.ref q_1)))), (q_1, .inr (11, xo_Parts (va_up (va_up (va_up (va_up (va_up (va_up (va_up (va_up (va_up (va_up (va_up (va_up dv_Parts 1 (.ref q_1)) 2 (.ref q_2)) 3 (.ref q_3)) 4 (.ref q_4)) 5 (.ref q_5)) 6 (.ref q_6)) 8 (.ref q_7)) 9 (.ref q_8)) 10 (.ref q_9)) 12 (.ref q_10)) 13 (.ref q_11)) 14 (.ref q_12)))), (q_2, .inr (12, xo_Code (va_up (va_up (va_up dv_Code 0 (.ref q_1)) 2 (.ref q_2)) 3 (.ref q_3))))] := hD
  refine va_putF (D := (dC, dI)) (ci := 10) (v := .ref q_2) (ty := (.object "CircuitCycles$Code")) (C := rn_Design) (T := fn_Design) (N := 16) hx hb hg in_Design tn_Design tk_Design nn_Design hown hK hP hD hS 0 rfl rfl 1 (by decide) (hg _ wn_2_238) (fun _ h9 => h9) rfl hin rfl (tk_Design 1 (by decide)) rfl rfl (Nat.le_of_ble_eq_true rfl) dn_Design_init_23 (fun H locs hP hD hS => ?_)
  have hP : va_P (dC, dI) xcl [(h0, .inr (10, xo_Design (va_up (va_up f0 0 (.ref q_1)) 1 (.ref q_2)))), (q_1, .inr (11, xo_Parts (va_up (va_up (va_up (va_up (va_up (va_up (va_up (va_up (va_up (va_up (va_up (va_up dv_Parts 1 (.ref q_1)) 2 (.ref q_2)) 3 (.ref q_3)) 4 (.ref q_4)) 5 (.ref q_5)) 6 (.ref q_6)) 8 (.ref q_7)) 9 (.ref q_8)) 10 (.ref q_9)) 12 (.ref q_10)) 13 (.ref q_11)) 14 (.ref q_12)))), (q_2, .inr (12, xo_Code (va_up (va_up (va_up dv_Code 0 (.ref q_1)) 2 (.ref q_2)) 3 (.ref q_3))))] H := hP
  have hD : va_D A [(h0, .inr (10, xo_Design (va_up (va_up f0 0 (.ref q_1)) 1 (.ref q_2)))), (q_1, .inr (11, xo_Parts (va_up (va_up (va_up (va_up (va_up (va_up (va_up (va_up (va_up (va_up (va_up (va_up dv_Parts 1 (.ref q_1)) 2 (.ref q_2)) 3 (.ref q_3)) 4 (.ref q_4)) 5 (.ref q_5)) 6 (.ref q_6)) 8 (.ref q_7)) 9 (.ref q_8)) 10 (.ref q_9)) 12 (.ref q_10)) 13 (.ref q_11)) 14 (.ref q_12)))), (q_2, .inr (12, xo_Code (va_up (va_up (va_up dv_Code 0 (.ref q_1)) 2 (.ref q_2)) 3 (.ref q_3))))] := hD
  refine lv_aload_n hx hb dn_Design_init_26 rfl (lv_at hl 0 rfl) ?_
  refine lv_ldc hx hb hown (hg _ wn_2_231) dn_Design_init_27 ?_
  refine xk_newB 65536 hx hb (hg _ wn_1_118) hK hP hD hS hA 1 rfl rfl (Nat.le_of_ble_eq_true rfl) (Nat.le_of_ble_eq_true rfl) (Nat.le_of_ble_eq_true rfl) dn_Design_init_29 (fun q_3 H hP hD hS => ?_)
  have hP : va_P (dC, dI) xcl [(h0, .inr (10, xo_Design (va_up (va_up f0 0 (.ref q_1)) 1 (.ref q_2)))), (q_1, .inr (11, xo_Parts (va_up (va_up (va_up (va_up (va_up (va_up (va_up (va_up (va_up (va_up (va_up (va_up dv_Parts 1 (.ref q_1)) 2 (.ref q_2)) 3 (.ref q_3)) 4 (.ref q_4)) 5 (.ref q_5)) 6 (.ref q_6)) 8 (.ref q_7)) 9 (.ref q_8)) 10 (.ref q_9)) 12 (.ref q_10)) 13 (.ref q_11)) 14 (.ref q_12)))), (q_2, .inr (12, xo_Code (va_up (va_up (va_up dv_Code 0 (.ref q_1)) 2 (.ref q_2)) 3 (.ref q_3)))), (q_3, .inl (cB, 65536, .inl (fun _ => 0)))] H := hP
  have hD : va_D A [(h0, .inr (10, xo_Design (va_up (va_up f0 0 (.ref q_1)) 1 (.ref q_2)))), (q_1, .inr (11, xo_Parts (va_up (va_up (va_up (va_up (va_up (va_up (va_up (va_up (va_up (va_up (va_up (va_up dv_Parts 1 (.ref q_1)) 2 (.ref q_2)) 3 (.ref q_3)) 4 (.ref q_4)) 5 (.ref q_5)) 6 (.ref q_6)) 8 (.ref q_7)) 9 (.ref q_8)) 10 (.ref q_9)) 12 (.ref q_10)) 13 (.ref q_11)) 14 (.ref q_12)))), (q_2, .inr (12, xo_Code (va_up (va_up (va_up dv_Code 0 (.ref q_1)) 2 (.ref q_2)) 3 (.ref q_3)))), (q_3, .inl (cB, 65536, .inl (fun _ => 0)))] := hD
  refine va_putF (D := (dC, dI)) (ci := 10) (v := .ref q_3) (ty := (.array .byte)) (C := rn_Design) (T := fn_Design) (N := 16) hx hb hg in_Design tn_Design tk_Design nn_Design hown hK hP hD hS 0 rfl rfl 2 (by decide) (hg _ wn_3_4) (fun _ h9 => h9) rfl hin rfl (tk_Design 2 (by decide)) rfl rfl (Nat.le_of_ble_eq_true rfl) dn_Design_init_31 (fun H locs hP hD hS => ?_)
  have hP : va_P (dC, dI) xcl [(h0, .inr (10, xo_Design (va_up (va_up (va_up f0 0 (.ref q_1)) 1 (.ref q_2)) 2 (.ref q_3)))), (q_1, .inr (11, xo_Parts (va_up (va_up (va_up (va_up (va_up (va_up (va_up (va_up (va_up (va_up (va_up (va_up dv_Parts 1 (.ref q_1)) 2 (.ref q_2)) 3 (.ref q_3)) 4 (.ref q_4)) 5 (.ref q_5)) 6 (.ref q_6)) 8 (.ref q_7)) 9 (.ref q_8)) 10 (.ref q_9)) 12 (.ref q_10)) 13 (.ref q_11)) 14 (.ref q_12)))), (q_2, .inr (12, xo_Code (va_up (va_up (va_up dv_Code 0 (.ref q_1)) 2 (.ref q_2)) 3 (.ref q_3)))), (q_3, .inl (cB, 65536, .inl (fun _ => 0)))] H := hP
  have hD : va_D A [(h0, .inr (10, xo_Design (va_up (va_up (va_up f0 0 (.ref q_1)) 1 (.ref q_2)) 2 (.ref q_3)))), (q_1, .inr (11, xo_Parts (va_up (va_up (va_up (va_up (va_up (va_up (va_up (va_up (va_up (va_up (va_up (va_up dv_Parts 1 (.ref q_1)) 2 (.ref q_2)) 3 (.ref q_3)) 4 (.ref q_4)) 5 (.ref q_5)) 6 (.ref q_6)) 8 (.ref q_7)) 9 (.ref q_8)) 10 (.ref q_9)) 12 (.ref q_10)) 13 (.ref q_11)) 14 (.ref q_12)))), (q_2, .inr (12, xo_Code (va_up (va_up (va_up dv_Code 0 (.ref q_1)) 2 (.ref q_2)) 3 (.ref q_3)))), (q_3, .inl (cB, 65536, .inl (fun _ => 0)))] := hD
  refine lv_aload_n hx hb dn_Design_init_34 rfl (lv_at hl 0 rfl) ?_
  refine lv_sipush (v := 3277) hx hb dn_Design_init_35 (by decide) ?_
  refine xk_newI 3277 hx hb (hg _ wn_1_119) hK hP hD hS hA 0 rfl rfl (Nat.le_of_ble_eq_true rfl) (Nat.le_of_ble_eq_true rfl) (Nat.le_of_ble_eq_true rfl) dn_Design_init_38 (fun q_4 H hP hD hS => ?_)
  have hP : va_P (dC, dI) xcl [(h0, .inr (10, xo_Design (va_up (va_up (va_up f0 0 (.ref q_1)) 1 (.ref q_2)) 2 (.ref q_3)))), (q_1, .inr (11, xo_Parts (va_up (va_up (va_up (va_up (va_up (va_up (va_up (va_up (va_up (va_up (va_up (va_up dv_Parts 1 (.ref q_1)) 2 (.ref q_2)) 3 (.ref q_3)) 4 (.ref q_4)) 5 (.ref q_5)) 6 (.ref q_6)) 8 (.ref q_7)) 9 (.ref q_8)) 10 (.ref q_9)) 12 (.ref q_10)) 13 (.ref q_11)) 14 (.ref q_12)))), (q_2, .inr (12, xo_Code (va_up (va_up (va_up dv_Code 0 (.ref q_1)) 2 (.ref q_2)) 3 (.ref q_3)))), (q_3, .inl (cB, 65536, .inl (fun _ => 0))), (q_4, .inl (cI, 3277, .inl (fun _ => 0)))] H := hP
  have hD : va_D A [(h0, .inr (10, xo_Design (va_up (va_up (va_up f0 0 (.ref q_1)) 1 (.ref q_2)) 2 (.ref q_3)))), (q_1, .inr (11, xo_Parts (va_up (va_up (va_up (va_up (va_up (va_up (va_up (va_up (va_up (va_up (va_up (va_up dv_Parts 1 (.ref q_1)) 2 (.ref q_2)) 3 (.ref q_3)) 4 (.ref q_4)) 5 (.ref q_5)) 6 (.ref q_6)) 8 (.ref q_7)) 9 (.ref q_8)) 10 (.ref q_9)) 12 (.ref q_10)) 13 (.ref q_11)) 14 (.ref q_12)))), (q_2, .inr (12, xo_Code (va_up (va_up (va_up dv_Code 0 (.ref q_1)) 2 (.ref q_2)) 3 (.ref q_3)))), (q_3, .inl (cB, 65536, .inl (fun _ => 0))), (q_4, .inl (cI, 3277, .inl (fun _ => 0)))] := hD
  refine va_putF (D := (dC, dI)) (ci := 10) (v := .ref q_4) (ty := (.array .int)) (C := rn_Design) (T := fn_Design) (N := 16) hx hb hg in_Design tn_Design tk_Design nn_Design hown hK hP hD hS 0 rfl rfl 6 (by decide) (hg _ wn_3_15) (fun _ h9 => h9) rfl hin rfl (tk_Design 6 (by decide)) rfl rfl (Nat.le_of_ble_eq_true rfl) dn_Design_init_40 (fun H locs hP hD hS => ?_)
  have hP : va_P (dC, dI) xcl [(h0, .inr (10, xo_Design (va_up (va_up (va_up (va_up f0 0 (.ref q_1)) 1 (.ref q_2)) 2 (.ref q_3)) 6 (.ref q_4)))), (q_1, .inr (11, xo_Parts (va_up (va_up (va_up (va_up (va_up (va_up (va_up (va_up (va_up (va_up (va_up (va_up dv_Parts 1 (.ref q_1)) 2 (.ref q_2)) 3 (.ref q_3)) 4 (.ref q_4)) 5 (.ref q_5)) 6 (.ref q_6)) 8 (.ref q_7)) 9 (.ref q_8)) 10 (.ref q_9)) 12 (.ref q_10)) 13 (.ref q_11)) 14 (.ref q_12)))), (q_2, .inr (12, xo_Code (va_up (va_up (va_up dv_Code 0 (.ref q_1)) 2 (.ref q_2)) 3 (.ref q_3)))), (q_3, .inl (cB, 65536, .inl (fun _ => 0))), (q_4, .inl (cI, 3277, .inl (fun _ => 0)))] H := hP
  have hD : va_D A [(h0, .inr (10, xo_Design (va_up (va_up (va_up (va_up f0 0 (.ref q_1)) 1 (.ref q_2)) 2 (.ref q_3)) 6 (.ref q_4)))), (q_1, .inr (11, xo_Parts (va_up (va_up (va_up (va_up (va_up (va_up (va_up (va_up (va_up (va_up (va_up (va_up dv_Parts 1 (.ref q_1)) 2 (.ref q_2)) 3 (.ref q_3)) 4 (.ref q_4)) 5 (.ref q_5)) 6 (.ref q_6)) 8 (.ref q_7)) 9 (.ref q_8)) 10 (.ref q_9)) 12 (.ref q_10)) 13 (.ref q_11)) 14 (.ref q_12)))), (q_2, .inr (12, xo_Code (va_up (va_up (va_up dv_Code 0 (.ref q_1)) 2 (.ref q_2)) 3 (.ref q_3)))), (q_3, .inl (cB, 65536, .inl (fun _ => 0))), (q_4, .inl (cI, 3277, .inl (fun _ => 0)))] := hD
  have hP := hP.sub (ws' := [(h0, .inr (10, xo_Design (va_up (va_up (va_up (va_up f0 0 (.ref q_1)) 1 (.ref q_2)) 2 (.ref q_3)) 6 (.ref q_4)))), (q_1, .inr (11, xo_Parts (va_up (va_up (va_up (va_up (va_up (va_up (va_up (va_up (va_up (va_up (va_up (va_up dv_Parts 1 (.ref q_1)) 2 (.ref q_2)) 3 (.ref q_3)) 4 (.ref q_4)) 5 (.ref q_5)) 6 (.ref q_6)) 8 (.ref q_7)) 9 (.ref q_8)) 10 (.ref q_9)) 12 (.ref q_10)) 13 (.ref q_11)) 14 (.ref q_12)))), (q_2, .inr (12, xo_Code (va_up (va_up (va_up dv_Code 0 (.ref q_1)) 2 (.ref q_2)) 3 (.ref q_3)))), (q_3, .inl (cB, 65536, .inl (fun _ => 0)))]) [0, 1, 2, 3] rfl
  have hD := hD.sub (ws' := [(h0, .inr (10, xo_Design (va_up (va_up (va_up (va_up f0 0 (.ref q_1)) 1 (.ref q_2)) 2 (.ref q_3)) 6 (.ref q_4)))), (q_1, .inr (11, xo_Parts (va_up (va_up (va_up (va_up (va_up (va_up (va_up (va_up (va_up (va_up (va_up (va_up dv_Parts 1 (.ref q_1)) 2 (.ref q_2)) 3 (.ref q_3)) 4 (.ref q_4)) 5 (.ref q_5)) 6 (.ref q_6)) 8 (.ref q_7)) 9 (.ref q_8)) 10 (.ref q_9)) 12 (.ref q_10)) 13 (.ref q_11)) 14 (.ref q_12)))), (q_2, .inr (12, xo_Code (va_up (va_up (va_up dv_Code 0 (.ref q_1)) 2 (.ref q_2)) 3 (.ref q_3)))), (q_3, .inl (cB, 65536, .inl (fun _ => 0)))]) [0, 1, 2, 3] (by decide) rfl
  refine lv_aload_n hx hb dn_Design_init_43 rfl (lv_at hl 0 rfl) ?_
  refine lv_sipush (v := 3277) hx hb dn_Design_init_44 (by decide) ?_
  refine xk_newI 3277 hx hb (hg _ wn_1_119) hK hP hD hS hA 0 rfl rfl (Nat.le_of_ble_eq_true rfl) (Nat.le_of_ble_eq_true rfl) (Nat.le_of_ble_eq_true rfl) dn_Design_init_47 (fun q_5 H hP hD hS => ?_)
  have hP : va_P (dC, dI) xcl [(h0, .inr (10, xo_Design (va_up (va_up (va_up (va_up f0 0 (.ref q_1)) 1 (.ref q_2)) 2 (.ref q_3)) 6 (.ref q_4)))), (q_1, .inr (11, xo_Parts (va_up (va_up (va_up (va_up (va_up (va_up (va_up (va_up (va_up (va_up (va_up (va_up dv_Parts 1 (.ref q_1)) 2 (.ref q_2)) 3 (.ref q_3)) 4 (.ref q_4)) 5 (.ref q_5)) 6 (.ref q_6)) 8 (.ref q_7)) 9 (.ref q_8)) 10 (.ref q_9)) 12 (.ref q_10)) 13 (.ref q_11)) 14 (.ref q_12)))), (q_2, .inr (12, xo_Code (va_up (va_up (va_up dv_Code 0 (.ref q_1)) 2 (.ref q_2)) 3 (.ref q_3)))), (q_3, .inl (cB, 65536, .inl (fun _ => 0))), (q_5, .inl (cI, 3277, .inl (fun _ => 0)))] H := hP
  have hD : va_D A [(h0, .inr (10, xo_Design (va_up (va_up (va_up (va_up f0 0 (.ref q_1)) 1 (.ref q_2)) 2 (.ref q_3)) 6 (.ref q_4)))), (q_1, .inr (11, xo_Parts (va_up (va_up (va_up (va_up (va_up (va_up (va_up (va_up (va_up (va_up (va_up (va_up dv_Parts 1 (.ref q_1)) 2 (.ref q_2)) 3 (.ref q_3)) 4 (.ref q_4)) 5 (.ref q_5)) 6 (.ref q_6)) 8 (.ref q_7)) 9 (.ref q_8)) 10 (.ref q_9)) 12 (.ref q_10)) 13 (.ref q_11)) 14 (.ref q_12)))), (q_2, .inr (12, xo_Code (va_up (va_up (va_up dv_Code 0 (.ref q_1)) 2 (.ref q_2)) 3 (.ref q_3)))), (q_3, .inl (cB, 65536, .inl (fun _ => 0))), (q_5, .inl (cI, 3277, .inl (fun _ => 0)))] := hD
  refine va_putF (D := (dC, dI)) (ci := 10) (v := .ref q_5) (ty := (.array .int)) (C := rn_Design) (T := fn_Design) (N := 16) hx hb hg in_Design tn_Design tk_Design nn_Design hown hK hP hD hS 0 rfl rfl 7 (by decide) (hg _ wn_3_16) (fun _ h9 => h9) rfl hin rfl (tk_Design 7 (by decide)) rfl rfl (Nat.le_of_ble_eq_true rfl) dn_Design_init_49 (fun H locs hP hD hS => ?_)
  have hP : va_P (dC, dI) xcl [(h0, .inr (10, xo_Design (va_up (va_up (va_up (va_up (va_up f0 0 (.ref q_1)) 1 (.ref q_2)) 2 (.ref q_3)) 6 (.ref q_4)) 7 (.ref q_5)))), (q_1, .inr (11, xo_Parts (va_up (va_up (va_up (va_up (va_up (va_up (va_up (va_up (va_up (va_up (va_up (va_up dv_Parts 1 (.ref q_1)) 2 (.ref q_2)) 3 (.ref q_3)) 4 (.ref q_4)) 5 (.ref q_5)) 6 (.ref q_6)) 8 (.ref q_7)) 9 (.ref q_8)) 10 (.ref q_9)) 12 (.ref q_10)) 13 (.ref q_11)) 14 (.ref q_12)))), (q_2, .inr (12, xo_Code (va_up (va_up (va_up dv_Code 0 (.ref q_1)) 2 (.ref q_2)) 3 (.ref q_3)))), (q_3, .inl (cB, 65536, .inl (fun _ => 0))), (q_5, .inl (cI, 3277, .inl (fun _ => 0)))] H := hP
  have hD : va_D A [(h0, .inr (10, xo_Design (va_up (va_up (va_up (va_up (va_up f0 0 (.ref q_1)) 1 (.ref q_2)) 2 (.ref q_3)) 6 (.ref q_4)) 7 (.ref q_5)))), (q_1, .inr (11, xo_Parts (va_up (va_up (va_up (va_up (va_up (va_up (va_up (va_up (va_up (va_up (va_up (va_up dv_Parts 1 (.ref q_1)) 2 (.ref q_2)) 3 (.ref q_3)) 4 (.ref q_4)) 5 (.ref q_5)) 6 (.ref q_6)) 8 (.ref q_7)) 9 (.ref q_8)) 10 (.ref q_9)) 12 (.ref q_10)) 13 (.ref q_11)) 14 (.ref q_12)))), (q_2, .inr (12, xo_Code (va_up (va_up (va_up dv_Code 0 (.ref q_1)) 2 (.ref q_2)) 3 (.ref q_3)))), (q_3, .inl (cB, 65536, .inl (fun _ => 0))), (q_5, .inl (cI, 3277, .inl (fun _ => 0)))] := hD
  have hP := hP.sub (ws' := [(h0, .inr (10, xo_Design (va_up (va_up (va_up (va_up (va_up f0 0 (.ref q_1)) 1 (.ref q_2)) 2 (.ref q_3)) 6 (.ref q_4)) 7 (.ref q_5)))), (q_1, .inr (11, xo_Parts (va_up (va_up (va_up (va_up (va_up (va_up (va_up (va_up (va_up (va_up (va_up (va_up dv_Parts 1 (.ref q_1)) 2 (.ref q_2)) 3 (.ref q_3)) 4 (.ref q_4)) 5 (.ref q_5)) 6 (.ref q_6)) 8 (.ref q_7)) 9 (.ref q_8)) 10 (.ref q_9)) 12 (.ref q_10)) 13 (.ref q_11)) 14 (.ref q_12)))), (q_2, .inr (12, xo_Code (va_up (va_up (va_up dv_Code 0 (.ref q_1)) 2 (.ref q_2)) 3 (.ref q_3)))), (q_3, .inl (cB, 65536, .inl (fun _ => 0)))]) [0, 1, 2, 3] rfl
  have hD := hD.sub (ws' := [(h0, .inr (10, xo_Design (va_up (va_up (va_up (va_up (va_up f0 0 (.ref q_1)) 1 (.ref q_2)) 2 (.ref q_3)) 6 (.ref q_4)) 7 (.ref q_5)))), (q_1, .inr (11, xo_Parts (va_up (va_up (va_up (va_up (va_up (va_up (va_up (va_up (va_up (va_up (va_up (va_up dv_Parts 1 (.ref q_1)) 2 (.ref q_2)) 3 (.ref q_3)) 4 (.ref q_4)) 5 (.ref q_5)) 6 (.ref q_6)) 8 (.ref q_7)) 9 (.ref q_8)) 10 (.ref q_9)) 12 (.ref q_10)) 13 (.ref q_11)) 14 (.ref q_12)))), (q_2, .inr (12, xo_Code (va_up (va_up (va_up dv_Code 0 (.ref q_1)) 2 (.ref q_2)) 3 (.ref q_3)))), (q_3, .inl (cB, 65536, .inl (fun _ => 0)))]) [0, 1, 2, 3] (by decide) rfl
  refine lv_aload_n hx hb dn_Design_init_52 rfl (lv_at hl 0 rfl) ?_
  refine lv_sipush (v := 3277) hx hb dn_Design_init_53 (by decide) ?_
  refine xk_newI 3277 hx hb (hg _ wn_1_119) hK hP hD hS hA 0 rfl rfl (Nat.le_of_ble_eq_true rfl) (Nat.le_of_ble_eq_true rfl) (Nat.le_of_ble_eq_true rfl) dn_Design_init_56 (fun q_6 H hP hD hS => ?_)
  have hP : va_P (dC, dI) xcl [(h0, .inr (10, xo_Design (va_up (va_up (va_up (va_up (va_up f0 0 (.ref q_1)) 1 (.ref q_2)) 2 (.ref q_3)) 6 (.ref q_4)) 7 (.ref q_5)))), (q_1, .inr (11, xo_Parts (va_up (va_up (va_up (va_up (va_up (va_up (va_up (va_up (va_up (va_up (va_up (va_up dv_Parts 1 (.ref q_1)) 2 (.ref q_2)) 3 (.ref q_3)) 4 (.ref q_4)) 5 (.ref q_5)) 6 (.ref q_6)) 8 (.ref q_7)) 9 (.ref q_8)) 10 (.ref q_9)) 12 (.ref q_10)) 13 (.ref q_11)) 14 (.ref q_12)))), (q_2, .inr (12, xo_Code (va_up (va_up (va_up dv_Code 0 (.ref q_1)) 2 (.ref q_2)) 3 (.ref q_3)))), (q_3, .inl (cB, 65536, .inl (fun _ => 0))), (q_6, .inl (cI, 3277, .inl (fun _ => 0)))] H := hP
  have hD : va_D A [(h0, .inr (10, xo_Design (va_up (va_up (va_up (va_up (va_up f0 0 (.ref q_1)) 1 (.ref q_2)) 2 (.ref q_3)) 6 (.ref q_4)) 7 (.ref q_5)))), (q_1, .inr (11, xo_Parts (va_up (va_up (va_up (va_up (va_up (va_up (va_up (va_up (va_up (va_up (va_up (va_up dv_Parts 1 (.ref q_1)) 2 (.ref q_2)) 3 (.ref q_3)) 4 (.ref q_4)) 5 (.ref q_5)) 6 (.ref q_6)) 8 (.ref q_7)) 9 (.ref q_8)) 10 (.ref q_9)) 12 (.ref q_10)) 13 (.ref q_11)) 14 (.ref q_12)))), (q_2, .inr (12, xo_Code (va_up (va_up (va_up dv_Code 0 (.ref q_1)) 2 (.ref q_2)) 3 (.ref q_3)))), (q_3, .inl (cB, 65536, .inl (fun _ => 0))), (q_6, .inl (cI, 3277, .inl (fun _ => 0)))] := hD
  refine va_putF (D := (dC, dI)) (ci := 10) (v := .ref q_6) (ty := (.array .int)) (C := rn_Design) (T := fn_Design) (N := 16) hx hb hg in_Design tn_Design tk_Design nn_Design hown hK hP hD hS 0 rfl rfl 8 (by decide) (hg _ wn_3_17) (fun _ h9 => h9) rfl hin rfl (tk_Design 8 (by decide)) rfl rfl (Nat.le_of_ble_eq_true rfl) dn_Design_init_58 (fun H locs hP hD hS => ?_)
  have hP : va_P (dC, dI) xcl [(h0, .inr (10, xo_Design (va_up (va_up (va_up (va_up (va_up (va_up f0 0 (.ref q_1)) 1 (.ref q_2)) 2 (.ref q_3)) 6 (.ref q_4)) 7 (.ref q_5)) 8 (.ref q_6)))), (q_1, .inr (11, xo_Parts (va_up (va_up (va_up (va_up (va_up (va_up (va_up (va_up (va_up (va_up (va_up (va_up dv_Parts 1 (.ref q_1)) 2 (.ref q_2)) 3 (.ref q_3)) 4 (.ref q_4)) 5 (.ref q_5)) 6 (.ref q_6)) 8 (.ref q_7)) 9 (.ref q_8)) 10 (.ref q_9)) 12 (.ref q_10)) 13 (.ref q_11)) 14 (.ref q_12)))), (q_2, .inr (12, xo_Code (va_up (va_up (va_up dv_Code 0 (.ref q_1)) 2 (.ref q_2)) 3 (.ref q_3)))), (q_3, .inl (cB, 65536, .inl (fun _ => 0))), (q_6, .inl (cI, 3277, .inl (fun _ => 0)))] H := hP
  have hD : va_D A [(h0, .inr (10, xo_Design (va_up (va_up (va_up (va_up (va_up (va_up f0 0 (.ref q_1)) 1 (.ref q_2)) 2 (.ref q_3)) 6 (.ref q_4)) 7 (.ref q_5)) 8 (.ref q_6)))), (q_1, .inr (11, xo_Parts (va_up (va_up (va_up (va_up (va_up (va_up (va_up (va_up (va_up (va_up (va_up (va_up dv_Parts 1 (.ref q_1)) 2 (.ref q_2)) 3 (.ref q_3)) 4 (.ref q_4)) 5 (.ref q_5)) 6 (.ref q_6)) 8 (.ref q_7)) 9 (.ref q_8)) 10 (.ref q_9)) 12 (.ref q_10)) 13 (.ref q_11)) 14 (.ref q_12)))), (q_2, .inr (12, xo_Code (va_up (va_up (va_up dv_Code 0 (.ref q_1)) 2 (.ref q_2)) 3 (.ref q_3)))), (q_3, .inl (cB, 65536, .inl (fun _ => 0))), (q_6, .inl (cI, 3277, .inl (fun _ => 0)))] := hD
  have hP := hP.sub (ws' := [(h0, .inr (10, xo_Design (va_up (va_up (va_up (va_up (va_up (va_up f0 0 (.ref q_1)) 1 (.ref q_2)) 2 (.ref q_3)) 6 (.ref q_4)) 7 (.ref q_5)) 8 (.ref q_6)))), (q_1, .inr (11, xo_Parts (va_up (va_up (va_up (va_up (va_up (va_up (va_up (va_up (va_up (va_up (va_up (va_up dv_Parts 1 (.ref q_1)) 2 (.ref q_2)) 3 (.ref q_3)) 4 (.ref q_4)) 5 (.ref q_5)) 6 (.ref q_6)) 8 (.ref q_7)) 9 (.ref q_8)) 10 (.ref q_9)) 12 (.ref q_10)) 13 (.ref q_11)) 14 (.ref q_12)))), (q_2, .inr (12, xo_Code (va_up (va_up (va_up dv_Code 0 (.ref q_1)) 2 (.ref q_2)) 3 (.ref q_3)))), (q_3, .inl (cB, 65536, .inl (fun _ => 0)))]) [0, 1, 2, 3] rfl
  have hD := hD.sub (ws' := [(h0, .inr (10, xo_Design (va_up (va_up (va_up (va_up (va_up (va_up f0 0 (.ref q_1)) 1 (.ref q_2)) 2 (.ref q_3)) 6 (.ref q_4)) 7 (.ref q_5)) 8 (.ref q_6)))), (q_1, .inr (11, xo_Parts (va_up (va_up (va_up (va_up (va_up (va_up (va_up (va_up (va_up (va_up (va_up (va_up dv_Parts 1 (.ref q_1)) 2 (.ref q_2)) 3 (.ref q_3)) 4 (.ref q_4)) 5 (.ref q_5)) 6 (.ref q_6)) 8 (.ref q_7)) 9 (.ref q_8)) 10 (.ref q_9)) 12 (.ref q_10)) 13 (.ref q_11)) 14 (.ref q_12)))), (q_2, .inr (12, xo_Code (va_up (va_up (va_up dv_Code 0 (.ref q_1)) 2 (.ref q_2)) 3 (.ref q_3)))), (q_3, .inl (cB, 65536, .inl (fun _ => 0)))]) [0, 1, 2, 3] (by decide) rfl
  refine lv_aload_n hx hb dn_Design_init_61 rfl (lv_at hl 0 rfl) ?_
  refine lv_sipush (v := 3277) hx hb dn_Design_init_62 (by decide) ?_
  refine xk_newI 3277 hx hb (hg _ wn_1_119) hK hP hD hS hA 0 rfl rfl (Nat.le_of_ble_eq_true rfl) (Nat.le_of_ble_eq_true rfl) (Nat.le_of_ble_eq_true rfl) dn_Design_init_65 (fun q_7 H hP hD hS => ?_)
  have hP : va_P (dC, dI) xcl [(h0, .inr (10, xo_Design (va_up (va_up (va_up (va_up (va_up (va_up f0 0 (.ref q_1)) 1 (.ref q_2)) 2 (.ref q_3)) 6 (.ref q_4)) 7 (.ref q_5)) 8 (.ref q_6)))), (q_1, .inr (11, xo_Parts (va_up (va_up (va_up (va_up (va_up (va_up (va_up (va_up (va_up (va_up (va_up (va_up dv_Parts 1 (.ref q_1)) 2 (.ref q_2)) 3 (.ref q_3)) 4 (.ref q_4)) 5 (.ref q_5)) 6 (.ref q_6)) 8 (.ref q_7)) 9 (.ref q_8)) 10 (.ref q_9)) 12 (.ref q_10)) 13 (.ref q_11)) 14 (.ref q_12)))), (q_2, .inr (12, xo_Code (va_up (va_up (va_up dv_Code 0 (.ref q_1)) 2 (.ref q_2)) 3 (.ref q_3)))), (q_3, .inl (cB, 65536, .inl (fun _ => 0))), (q_7, .inl (cI, 3277, .inl (fun _ => 0)))] H := hP
  have hD : va_D A [(h0, .inr (10, xo_Design (va_up (va_up (va_up (va_up (va_up (va_up f0 0 (.ref q_1)) 1 (.ref q_2)) 2 (.ref q_3)) 6 (.ref q_4)) 7 (.ref q_5)) 8 (.ref q_6)))), (q_1, .inr (11, xo_Parts (va_up (va_up (va_up (va_up (va_up (va_up (va_up (va_up (va_up (va_up (va_up (va_up dv_Parts 1 (.ref q_1)) 2 (.ref q_2)) 3 (.ref q_3)) 4 (.ref q_4)) 5 (.ref q_5)) 6 (.ref q_6)) 8 (.ref q_7)) 9 (.ref q_8)) 10 (.ref q_9)) 12 (.ref q_10)) 13 (.ref q_11)) 14 (.ref q_12)))), (q_2, .inr (12, xo_Code (va_up (va_up (va_up dv_Code 0 (.ref q_1)) 2 (.ref q_2)) 3 (.ref q_3)))), (q_3, .inl (cB, 65536, .inl (fun _ => 0))), (q_7, .inl (cI, 3277, .inl (fun _ => 0)))] := hD
  refine va_putF (D := (dC, dI)) (ci := 10) (v := .ref q_7) (ty := (.array .int)) (C := rn_Design) (T := fn_Design) (N := 16) hx hb hg in_Design tn_Design tk_Design nn_Design hown hK hP hD hS 0 rfl rfl 9 (by decide) (hg _ wn_3_18) (fun _ h9 => h9) rfl hin rfl (tk_Design 9 (by decide)) rfl rfl (Nat.le_of_ble_eq_true rfl) dn_Design_init_67 (fun H locs hP hD hS => ?_)
  have hP : va_P (dC, dI) xcl [(h0, .inr (10, xo_Design (va_up (va_up (va_up (va_up (va_up (va_up (va_up f0 0 (.ref q_1)) 1 (.ref q_2)) 2 (.ref q_3)) 6 (.ref q_4)) 7 (.ref q_5)) 8 (.ref q_6)) 9 (.ref q_7)))), (q_1, .inr (11, xo_Parts (va_up (va_up (va_up (va_up (va_up (va_up (va_up (va_up (va_up (va_up (va_up (va_up dv_Parts 1 (.ref q_1)) 2 (.ref q_2)) 3 (.ref q_3)) 4 (.ref q_4)) 5 (.ref q_5)) 6 (.ref q_6)) 8 (.ref q_7)) 9 (.ref q_8)) 10 (.ref q_9)) 12 (.ref q_10)) 13 (.ref q_11)) 14 (.ref q_12)))), (q_2, .inr (12, xo_Code (va_up (va_up (va_up dv_Code 0 (.ref q_1)) 2 (.ref q_2)) 3 (.ref q_3)))), (q_3, .inl (cB, 65536, .inl (fun _ => 0))), (q_7, .inl (cI, 3277, .inl (fun _ => 0)))] H := hP
  have hD : va_D A [(h0, .inr (10, xo_Design (va_up (va_up (va_up (va_up (va_up (va_up (va_up f0 0 (.ref q_1)) 1 (.ref q_2)) 2 (.ref q_3)) 6 (.ref q_4)) 7 (.ref q_5)) 8 (.ref q_6)) 9 (.ref q_7)))), (q_1, .inr (11, xo_Parts (va_up (va_up (va_up (va_up (va_up (va_up (va_up (va_up (va_up (va_up (va_up (va_up dv_Parts 1 (.ref q_1)) 2 (.ref q_2)) 3 (.ref q_3)) 4 (.ref q_4)) 5 (.ref q_5)) 6 (.ref q_6)) 8 (.ref q_7)) 9 (.ref q_8)) 10 (.ref q_9)) 12 (.ref q_10)) 13 (.ref q_11)) 14 (.ref q_12)))), (q_2, .inr (12, xo_Code (va_up (va_up (va_up dv_Code 0 (.ref q_1)) 2 (.ref q_2)) 3 (.ref q_3)))), (q_3, .inl (cB, 65536, .inl (fun _ => 0))), (q_7, .inl (cI, 3277, .inl (fun _ => 0)))] := hD
  have hP := hP.sub (ws' := [(h0, .inr (10, xo_Design (va_up (va_up (va_up (va_up (va_up (va_up (va_up f0 0 (.ref q_1)) 1 (.ref q_2)) 2 (.ref q_3)) 6 (.ref q_4)) 7 (.ref q_5)) 8 (.ref q_6)) 9 (.ref q_7)))), (q_1, .inr (11, xo_Parts (va_up (va_up (va_up (va_up (va_up (va_up (va_up (va_up (va_up (va_up (va_up (va_up dv_Parts 1 (.ref q_1)) 2 (.ref q_2)) 3 (.ref q_3)) 4 (.ref q_4)) 5 (.ref q_5)) 6 (.ref q_6)) 8 (.ref q_7)) 9 (.ref q_8)) 10 (.ref q_9)) 12 (.ref q_10)) 13 (.ref q_11)) 14 (.ref q_12)))), (q_2, .inr (12, xo_Code (va_up (va_up (va_up dv_Code 0 (.ref q_1)) 2 (.ref q_2)) 3 (.ref q_3)))), (q_3, .inl (cB, 65536, .inl (fun _ => 0)))]) [0, 1, 2, 3] rfl
  have hD := hD.sub (ws' := [(h0, .inr (10, xo_Design (va_up (va_up (va_up (va_up (va_up (va_up (va_up f0 0 (.ref q_1)) 1 (.ref q_2)) 2 (.ref q_3)) 6 (.ref q_4)) 7 (.ref q_5)) 8 (.ref q_6)) 9 (.ref q_7)))), (q_1, .inr (11, xo_Parts (va_up (va_up (va_up (va_up (va_up (va_up (va_up (va_up (va_up (va_up (va_up (va_up dv_Parts 1 (.ref q_1)) 2 (.ref q_2)) 3 (.ref q_3)) 4 (.ref q_4)) 5 (.ref q_5)) 6 (.ref q_6)) 8 (.ref q_7)) 9 (.ref q_8)) 10 (.ref q_9)) 12 (.ref q_10)) 13 (.ref q_11)) 14 (.ref q_12)))), (q_2, .inr (12, xo_Code (va_up (va_up (va_up dv_Code 0 (.ref q_1)) 2 (.ref q_2)) 3 (.ref q_3)))), (q_3, .inl (cB, 65536, .inl (fun _ => 0)))]) [0, 1, 2, 3] (by decide) rfl
  refine lv_aload_n hx hb dn_Design_init_70 rfl (lv_at hl 0 rfl) ?_
  refine lv_sipush (v := 3277) hx hb dn_Design_init_71 (by decide) ?_
  refine xk_newI 3277 hx hb (hg _ wn_1_119) hK hP hD hS hA 0 rfl rfl (Nat.le_of_ble_eq_true rfl) (Nat.le_of_ble_eq_true rfl) (Nat.le_of_ble_eq_true rfl) dn_Design_init_74 (fun q_8 H hP hD hS => ?_)
  have hP : va_P (dC, dI) xcl [(h0, .inr (10, xo_Design (va_up (va_up (va_up (va_up (va_up (va_up (va_up f0 0 (.ref q_1)) 1 (.ref q_2)) 2 (.ref q_3)) 6 (.ref q_4)) 7 (.ref q_5)) 8 (.ref q_6)) 9 (.ref q_7)))), (q_1, .inr (11, xo_Parts (va_up (va_up (va_up (va_up (va_up (va_up (va_up (va_up (va_up (va_up (va_up (va_up dv_Parts 1 (.ref q_1)) 2 (.ref q_2)) 3 (.ref q_3)) 4 (.ref q_4)) 5 (.ref q_5)) 6 (.ref q_6)) 8 (.ref q_7)) 9 (.ref q_8)) 10 (.ref q_9)) 12 (.ref q_10)) 13 (.ref q_11)) 14 (.ref q_12)))), (q_2, .inr (12, xo_Code (va_up (va_up (va_up dv_Code 0 (.ref q_1)) 2 (.ref q_2)) 3 (.ref q_3)))), (q_3, .inl (cB, 65536, .inl (fun _ => 0))), (q_8, .inl (cI, 3277, .inl (fun _ => 0)))] H := hP
  have hD : va_D A [(h0, .inr (10, xo_Design (va_up (va_up (va_up (va_up (va_up (va_up (va_up f0 0 (.ref q_1)) 1 (.ref q_2)) 2 (.ref q_3)) 6 (.ref q_4)) 7 (.ref q_5)) 8 (.ref q_6)) 9 (.ref q_7)))), (q_1, .inr (11, xo_Parts (va_up (va_up (va_up (va_up (va_up (va_up (va_up (va_up (va_up (va_up (va_up (va_up dv_Parts 1 (.ref q_1)) 2 (.ref q_2)) 3 (.ref q_3)) 4 (.ref q_4)) 5 (.ref q_5)) 6 (.ref q_6)) 8 (.ref q_7)) 9 (.ref q_8)) 10 (.ref q_9)) 12 (.ref q_10)) 13 (.ref q_11)) 14 (.ref q_12)))), (q_2, .inr (12, xo_Code (va_up (va_up (va_up dv_Code 0 (.ref q_1)) 2 (.ref q_2)) 3 (.ref q_3)))), (q_3, .inl (cB, 65536, .inl (fun _ => 0))), (q_8, .inl (cI, 3277, .inl (fun _ => 0)))] := hD
  refine va_putF (D := (dC, dI)) (ci := 10) (v := .ref q_8) (ty := (.array .int)) (C := rn_Design) (T := fn_Design) (N := 16) hx hb hg in_Design tn_Design tk_Design nn_Design hown hK hP hD hS 0 rfl rfl 10 (by decide) (hg _ wn_3_19) (fun _ h9 => h9) rfl hin rfl (tk_Design 10 (by decide)) rfl rfl (Nat.le_of_ble_eq_true rfl) dn_Design_init_76 (fun H locs hP hD hS => ?_)
  have hP : va_P (dC, dI) xcl [(h0, .inr (10, xo_Design (va_up (va_up (va_up (va_up (va_up (va_up (va_up (va_up f0 0 (.ref q_1)) 1 (.ref q_2)) 2 (.ref q_3)) 6 (.ref q_4)) 7 (.ref q_5)) 8 (.ref q_6)) 9 (.ref q_7)) 10 (.ref q_8)))), (q_1, .inr (11, xo_Parts (va_up (va_up (va_up (va_up (va_up (va_up (va_up (va_up (va_up (va_up (va_up (va_up dv_Parts 1 (.ref q_1)) 2 (.ref q_2)) 3 (.ref q_3)) 4 (.ref q_4)) 5 (.ref q_5)) 6 (.ref q_6)) 8 (.ref q_7)) 9 (.ref q_8)) 10 (.ref q_9)) 12 (.ref q_10)) 13 (.ref q_11)) 14 (.ref q_12)))), (q_2, .inr (12, xo_Code (va_up (va_up (va_up dv_Code 0 (.ref q_1)) 2 (.ref q_2)) 3 (.ref q_3)))), (q_3, .inl (cB, 65536, .inl (fun _ => 0))), (q_8, .inl (cI, 3277, .inl (fun _ => 0)))] H := hP
  have hD : va_D A [(h0, .inr (10, xo_Design (va_up (va_up (va_up (va_up (va_up (va_up (va_up (va_up f0 0 (.ref q_1)) 1 (.ref q_2)) 2 (.ref q_3)) 6 (.ref q_4)) 7 (.ref q_5)) 8 (.ref q_6)) 9 (.ref q_7)) 10 (.ref q_8)))), (q_1, .inr (11, xo_Parts (va_up (va_up (va_up (va_up (va_up (va_up (va_up (va_up (va_up (va_up (va_up (va_up dv_Parts 1 (.ref q_1)) 2 (.ref q_2)) 3 (.ref q_3)) 4 (.ref q_4)) 5 (.ref q_5)) 6 (.ref q_6)) 8 (.ref q_7)) 9 (.ref q_8)) 10 (.ref q_9)) 12 (.ref q_10)) 13 (.ref q_11)) 14 (.ref q_12)))), (q_2, .inr (12, xo_Code (va_up (va_up (va_up dv_Code 0 (.ref q_1)) 2 (.ref q_2)) 3 (.ref q_3)))), (q_3, .inl (cB, 65536, .inl (fun _ => 0))), (q_8, .inl (cI, 3277, .inl (fun _ => 0)))] := hD
  have hP := hP.sub (ws' := [(h0, .inr (10, xo_Design (va_up (va_up (va_up (va_up (va_up (va_up (va_up (va_up f0 0 (.ref q_1)) 1 (.ref q_2)) 2 (.ref q_3)) 6 (.ref q_4)) 7 (.ref q_5)) 8 (.ref q_6)) 9 (.ref q_7)) 10 (.ref q_8)))), (q_1, .inr (11, xo_Parts (va_up (va_up (va_up (va_up (va_up (va_up (va_up (va_up (va_up (va_up (va_up (va_up dv_Parts 1 (.ref q_1)) 2 (.ref q_2)) 3 (.ref q_3)) 4 (.ref q_4)) 5 (.ref q_5)) 6 (.ref q_6)) 8 (.ref q_7)) 9 (.ref q_8)) 10 (.ref q_9)) 12 (.ref q_10)) 13 (.ref q_11)) 14 (.ref q_12)))), (q_2, .inr (12, xo_Code (va_up (va_up (va_up dv_Code 0 (.ref q_1)) 2 (.ref q_2)) 3 (.ref q_3)))), (q_3, .inl (cB, 65536, .inl (fun _ => 0)))]) [0, 1, 2, 3] rfl
  have hD := hD.sub (ws' := [(h0, .inr (10, xo_Design (va_up (va_up (va_up (va_up (va_up (va_up (va_up (va_up f0 0 (.ref q_1)) 1 (.ref q_2)) 2 (.ref q_3)) 6 (.ref q_4)) 7 (.ref q_5)) 8 (.ref q_6)) 9 (.ref q_7)) 10 (.ref q_8)))), (q_1, .inr (11, xo_Parts (va_up (va_up (va_up (va_up (va_up (va_up (va_up (va_up (va_up (va_up (va_up (va_up dv_Parts 1 (.ref q_1)) 2 (.ref q_2)) 3 (.ref q_3)) 4 (.ref q_4)) 5 (.ref q_5)) 6 (.ref q_6)) 8 (.ref q_7)) 9 (.ref q_8)) 10 (.ref q_9)) 12 (.ref q_10)) 13 (.ref q_11)) 14 (.ref q_12)))), (q_2, .inr (12, xo_Code (va_up (va_up (va_up dv_Code 0 (.ref q_1)) 2 (.ref q_2)) 3 (.ref q_3)))), (q_3, .inl (cB, 65536, .inl (fun _ => 0)))]) [0, 1, 2, 3] (by decide) rfl
  refine lv_aload_n hx hb dn_Design_init_79 rfl (lv_at hl 0 rfl) ?_
  refine lv_iconst (v := 5) hx hb dn_Design_init_80 (by decide) ?_
  refine lv_sipush (v := 3277) hx hb dn_Design_init_81 (by decide) ?_
  refine xk_multi5 3277 hx hb hown (hg _ wn_2_232) hN.2 hK hP hD hS hA 0 rfl 4 rfl rfl rfl (Nat.le_of_ble_eq_true rfl) (Nat.le_of_ble_eq_true rfl) (Nat.le_of_ble_eq_true rfl) dn_Design_init_84 (fun q_9 q_10 q_11 q_12 q_13 q_14 H locs hP hD hS => ?_)
  have hP : va_P (dC, dI) xcl [(h0, .inr (10, xo_Design (va_up (va_up (va_up (va_up (va_up (va_up (va_up (va_up f0 0 (.ref q_1)) 1 (.ref q_2)) 2 (.ref q_3)) 6 (.ref q_4)) 7 (.ref q_5)) 8 (.ref q_6)) 9 (.ref q_7)) 10 (.ref q_8)))), (q_1, .inr (11, xo_Parts (va_up (va_up (va_up (va_up (va_up (va_up (va_up (va_up (va_up (va_up (va_up (va_up dv_Parts 1 (.ref q_1)) 2 (.ref q_2)) 3 (.ref q_3)) 4 (.ref q_4)) 5 (.ref q_5)) 6 (.ref q_6)) 8 (.ref q_7)) 9 (.ref q_8)) 10 (.ref q_9)) 12 (.ref q_10)) 13 (.ref q_11)) 14 (.ref q_12)))), (q_2, .inr (12, xo_Code (va_up (va_up (va_up dv_Code 0 (.ref q_1)) 2 (.ref q_2)) 3 (.ref q_3)))), (q_3, .inl (cB, 65536, .inl (fun _ => 0))), (q_9, .inl (cQ, 5, .inr (.inr (.inr (.inr (xq_f q_10 q_11 q_12 q_13 q_14)))))), (q_10, .inl (cI, 3277, .inl (fun _ => 0))), (q_11, .inl (cI, 3277, .inl (fun _ => 0))), (q_12, .inl (cI, 3277, .inl (fun _ => 0))), (q_13, .inl (cI, 3277, .inl (fun _ => 0))), (q_14, .inl (cI, 3277, .inl (fun _ => 0)))] H := hP
  have hD : va_D A [(h0, .inr (10, xo_Design (va_up (va_up (va_up (va_up (va_up (va_up (va_up (va_up f0 0 (.ref q_1)) 1 (.ref q_2)) 2 (.ref q_3)) 6 (.ref q_4)) 7 (.ref q_5)) 8 (.ref q_6)) 9 (.ref q_7)) 10 (.ref q_8)))), (q_1, .inr (11, xo_Parts (va_up (va_up (va_up (va_up (va_up (va_up (va_up (va_up (va_up (va_up (va_up (va_up dv_Parts 1 (.ref q_1)) 2 (.ref q_2)) 3 (.ref q_3)) 4 (.ref q_4)) 5 (.ref q_5)) 6 (.ref q_6)) 8 (.ref q_7)) 9 (.ref q_8)) 10 (.ref q_9)) 12 (.ref q_10)) 13 (.ref q_11)) 14 (.ref q_12)))), (q_2, .inr (12, xo_Code (va_up (va_up (va_up dv_Code 0 (.ref q_1)) 2 (.ref q_2)) 3 (.ref q_3)))), (q_3, .inl (cB, 65536, .inl (fun _ => 0))), (q_9, .inl (cQ, 5, .inr (.inr (.inr (.inr (xq_f q_10 q_11 q_12 q_13 q_14)))))), (q_10, .inl (cI, 3277, .inl (fun _ => 0))), (q_11, .inl (cI, 3277, .inl (fun _ => 0))), (q_12, .inl (cI, 3277, .inl (fun _ => 0))), (q_13, .inl (cI, 3277, .inl (fun _ => 0))), (q_14, .inl (cI, 3277, .inl (fun _ => 0)))] := hD
  have hP := hP.sub (ws' := [(h0, .inr (10, xo_Design (va_up (va_up (va_up (va_up (va_up (va_up (va_up (va_up f0 0 (.ref q_1)) 1 (.ref q_2)) 2 (.ref q_3)) 6 (.ref q_4)) 7 (.ref q_5)) 8 (.ref q_6)) 9 (.ref q_7)) 10 (.ref q_8)))), (q_1, .inr (11, xo_Parts (va_up (va_up (va_up (va_up (va_up (va_up (va_up (va_up (va_up (va_up (va_up (va_up dv_Parts 1 (.ref q_1)) 2 (.ref q_2)) 3 (.ref q_3)) 4 (.ref q_4)) 5 (.ref q_5)) 6 (.ref q_6)) 8 (.ref q_7)) 9 (.ref q_8)) 10 (.ref q_9)) 12 (.ref q_10)) 13 (.ref q_11)) 14 (.ref q_12)))), (q_2, .inr (12, xo_Code (va_up (va_up (va_up dv_Code 0 (.ref q_1)) 2 (.ref q_2)) 3 (.ref q_3)))), (q_3, .inl (cB, 65536, .inl (fun _ => 0)))]) [0, 1, 2, 3] rfl
  have hD := hD.sub (ws' := [(h0, .inr (10, xo_Design (va_up (va_up (va_up (va_up (va_up (va_up (va_up (va_up f0 0 (.ref q_1)) 1 (.ref q_2)) 2 (.ref q_3)) 6 (.ref q_4)) 7 (.ref q_5)) 8 (.ref q_6)) 9 (.ref q_7)) 10 (.ref q_8)))), (q_1, .inr (11, xo_Parts (va_up (va_up (va_up (va_up (va_up (va_up (va_up (va_up (va_up (va_up (va_up (va_up dv_Parts 1 (.ref q_1)) 2 (.ref q_2)) 3 (.ref q_3)) 4 (.ref q_4)) 5 (.ref q_5)) 6 (.ref q_6)) 8 (.ref q_7)) 9 (.ref q_8)) 10 (.ref q_9)) 12 (.ref q_10)) 13 (.ref q_11)) 14 (.ref q_12)))), (q_2, .inr (12, xo_Code (va_up (va_up (va_up dv_Code 0 (.ref q_1)) 2 (.ref q_2)) 3 (.ref q_3)))), (q_3, .inl (cB, 65536, .inl (fun _ => 0)))]) [0, 1, 2, 3] (by decide) rfl
  refine va_putF (D := (dC, dI)) (ci := 10) (v := .ref q_9) (ty := (.array (.array .int))) (C := rn_Design) (T := fn_Design) (N := 16) hx hb hg in_Design tn_Design tk_Design nn_Design hown hK hP hD hS 0 rfl rfl 11 (by decide) (hg _ wn_3_20) (fun _ h9 => h9) rfl hin rfl (tk_Design 11 (by decide)) rfl rfl (Nat.le_of_ble_eq_true rfl) dn_Design_init_88 (fun H locs hP hD hS => ?_)
  have hP : va_P (dC, dI) xcl [(h0, .inr (10, xo_Design (va_up (va_up (va_up (va_up (va_up (va_up (va_up (va_up (va_up f0 0 (.ref q_1)) 1 (.ref q_2)) 2 (.ref q_3)) 6 (.ref q_4)) 7 (.ref q_5)) 8 (.ref q_6)) 9 (.ref q_7)) 10 (.ref q_8)) 11 (.ref q_9)))), (q_1, .inr (11, xo_Parts (va_up (va_up (va_up (va_up (va_up (va_up (va_up (va_up (va_up (va_up (va_up (va_up dv_Parts 1 (.ref q_1)) 2 (.ref q_2)) 3 (.ref q_3)) 4 (.ref q_4)) 5 (.ref q_5)) 6 (.ref q_6)) 8 (.ref q_7)) 9 (.ref q_8)) 10 (.ref q_9)) 12 (.ref q_10)) 13 (.ref q_11)) 14 (.ref q_12)))), (q_2, .inr (12, xo_Code (va_up (va_up (va_up dv_Code 0 (.ref q_1)) 2 (.ref q_2)) 3 (.ref q_3)))), (q_3, .inl (cB, 65536, .inl (fun _ => 0)))] H := hP
  have hD : va_D A [(h0, .inr (10, xo_Design (va_up (va_up (va_up (va_up (va_up (va_up (va_up (va_up (va_up f0 0 (.ref q_1)) 1 (.ref q_2)) 2 (.ref q_3)) 6 (.ref q_4)) 7 (.ref q_5)) 8 (.ref q_6)) 9 (.ref q_7)) 10 (.ref q_8)) 11 (.ref q_9)))), (q_1, .inr (11, xo_Parts (va_up (va_up (va_up (va_up (va_up (va_up (va_up (va_up (va_up (va_up (va_up (va_up dv_Parts 1 (.ref q_1)) 2 (.ref q_2)) 3 (.ref q_3)) 4 (.ref q_4)) 5 (.ref q_5)) 6 (.ref q_6)) 8 (.ref q_7)) 9 (.ref q_8)) 10 (.ref q_9)) 12 (.ref q_10)) 13 (.ref q_11)) 14 (.ref q_12)))), (q_2, .inr (12, xo_Code (va_up (va_up (va_up dv_Code 0 (.ref q_1)) 2 (.ref q_2)) 3 (.ref q_3)))), (q_3, .inl (cB, 65536, .inl (fun _ => 0)))] := hD
  refine lv_aload_n hx hb dn_Design_init_91 rfl (lv_at hl 0 rfl) ?_
  refine lv_sipush (v := 6554) hx hb dn_Design_init_92 (by decide) ?_
  refine xk_newI 6554 hx hb (hg _ wn_1_119) hK hP hD hS hA 0 rfl rfl (Nat.le_of_ble_eq_true rfl) (Nat.le_of_ble_eq_true rfl) (Nat.le_of_ble_eq_true rfl) dn_Design_init_95 (fun q_15 H hP hD hS => ?_)
  have hP : va_P (dC, dI) xcl [(h0, .inr (10, xo_Design (va_up (va_up (va_up (va_up (va_up (va_up (va_up (va_up (va_up f0 0 (.ref q_1)) 1 (.ref q_2)) 2 (.ref q_3)) 6 (.ref q_4)) 7 (.ref q_5)) 8 (.ref q_6)) 9 (.ref q_7)) 10 (.ref q_8)) 11 (.ref q_9)))), (q_1, .inr (11, xo_Parts (va_up (va_up (va_up (va_up (va_up (va_up (va_up (va_up (va_up (va_up (va_up (va_up dv_Parts 1 (.ref q_1)) 2 (.ref q_2)) 3 (.ref q_3)) 4 (.ref q_4)) 5 (.ref q_5)) 6 (.ref q_6)) 8 (.ref q_7)) 9 (.ref q_8)) 10 (.ref q_9)) 12 (.ref q_10)) 13 (.ref q_11)) 14 (.ref q_12)))), (q_2, .inr (12, xo_Code (va_up (va_up (va_up dv_Code 0 (.ref q_1)) 2 (.ref q_2)) 3 (.ref q_3)))), (q_3, .inl (cB, 65536, .inl (fun _ => 0))), (q_15, .inl (cI, 6554, .inl (fun _ => 0)))] H := hP
  have hD : va_D A [(h0, .inr (10, xo_Design (va_up (va_up (va_up (va_up (va_up (va_up (va_up (va_up (va_up f0 0 (.ref q_1)) 1 (.ref q_2)) 2 (.ref q_3)) 6 (.ref q_4)) 7 (.ref q_5)) 8 (.ref q_6)) 9 (.ref q_7)) 10 (.ref q_8)) 11 (.ref q_9)))), (q_1, .inr (11, xo_Parts (va_up (va_up (va_up (va_up (va_up (va_up (va_up (va_up (va_up (va_up (va_up (va_up dv_Parts 1 (.ref q_1)) 2 (.ref q_2)) 3 (.ref q_3)) 4 (.ref q_4)) 5 (.ref q_5)) 6 (.ref q_6)) 8 (.ref q_7)) 9 (.ref q_8)) 10 (.ref q_9)) 12 (.ref q_10)) 13 (.ref q_11)) 14 (.ref q_12)))), (q_2, .inr (12, xo_Code (va_up (va_up (va_up dv_Code 0 (.ref q_1)) 2 (.ref q_2)) 3 (.ref q_3)))), (q_3, .inl (cB, 65536, .inl (fun _ => 0))), (q_15, .inl (cI, 6554, .inl (fun _ => 0)))] := hD
  refine va_putF (D := (dC, dI)) (ci := 10) (v := .ref q_15) (ty := (.array .int)) (C := rn_Design) (T := fn_Design) (N := 16) hx hb hg in_Design tn_Design tk_Design nn_Design hown hK hP hD hS 0 rfl rfl 13 (by decide) (hg _ wn_3_22) (fun _ h9 => h9) rfl hin rfl (tk_Design 13 (by decide)) rfl rfl (Nat.le_of_ble_eq_true rfl) dn_Design_init_97 (fun H locs hP hD hS => ?_)
  have hP : va_P (dC, dI) xcl [(h0, .inr (10, xo_Design (va_up (va_up (va_up (va_up (va_up (va_up (va_up (va_up (va_up (va_up f0 0 (.ref q_1)) 1 (.ref q_2)) 2 (.ref q_3)) 6 (.ref q_4)) 7 (.ref q_5)) 8 (.ref q_6)) 9 (.ref q_7)) 10 (.ref q_8)) 11 (.ref q_9)) 13 (.ref q_15)))), (q_1, .inr (11, xo_Parts (va_up (va_up (va_up (va_up (va_up (va_up (va_up (va_up (va_up (va_up (va_up (va_up dv_Parts 1 (.ref q_1)) 2 (.ref q_2)) 3 (.ref q_3)) 4 (.ref q_4)) 5 (.ref q_5)) 6 (.ref q_6)) 8 (.ref q_7)) 9 (.ref q_8)) 10 (.ref q_9)) 12 (.ref q_10)) 13 (.ref q_11)) 14 (.ref q_12)))), (q_2, .inr (12, xo_Code (va_up (va_up (va_up dv_Code 0 (.ref q_1)) 2 (.ref q_2)) 3 (.ref q_3)))), (q_3, .inl (cB, 65536, .inl (fun _ => 0))), (q_15, .inl (cI, 6554, .inl (fun _ => 0)))] H := hP
  have hD : va_D A [(h0, .inr (10, xo_Design (va_up (va_up (va_up (va_up (va_up (va_up (va_up (va_up (va_up (va_up f0 0 (.ref q_1)) 1 (.ref q_2)) 2 (.ref q_3)) 6 (.ref q_4)) 7 (.ref q_5)) 8 (.ref q_6)) 9 (.ref q_7)) 10 (.ref q_8)) 11 (.ref q_9)) 13 (.ref q_15)))), (q_1, .inr (11, xo_Parts (va_up (va_up (va_up (va_up (va_up (va_up (va_up (va_up (va_up (va_up (va_up (va_up dv_Parts 1 (.ref q_1)) 2 (.ref q_2)) 3 (.ref q_3)) 4 (.ref q_4)) 5 (.ref q_5)) 6 (.ref q_6)) 8 (.ref q_7)) 9 (.ref q_8)) 10 (.ref q_9)) 12 (.ref q_10)) 13 (.ref q_11)) 14 (.ref q_12)))), (q_2, .inr (12, xo_Code (va_up (va_up (va_up dv_Code 0 (.ref q_1)) 2 (.ref q_2)) 3 (.ref q_3)))), (q_3, .inl (cB, 65536, .inl (fun _ => 0))), (q_15, .inl (cI, 6554, .inl (fun _ => 0)))] := hD
  have hP := hP.sub (ws' := [(h0, .inr (10, xo_Design (va_up (va_up (va_up (va_up (va_up (va_up (va_up (va_up (va_up (va_up f0 0 (.ref q_1)) 1 (.ref q_2)) 2 (.ref q_3)) 6 (.ref q_4)) 7 (.ref q_5)) 8 (.ref q_6)) 9 (.ref q_7)) 10 (.ref q_8)) 11 (.ref q_9)) 13 (.ref q_15)))), (q_1, .inr (11, xo_Parts (va_up (va_up (va_up (va_up (va_up (va_up (va_up (va_up (va_up (va_up (va_up (va_up dv_Parts 1 (.ref q_1)) 2 (.ref q_2)) 3 (.ref q_3)) 4 (.ref q_4)) 5 (.ref q_5)) 6 (.ref q_6)) 8 (.ref q_7)) 9 (.ref q_8)) 10 (.ref q_9)) 12 (.ref q_10)) 13 (.ref q_11)) 14 (.ref q_12)))), (q_2, .inr (12, xo_Code (va_up (va_up (va_up dv_Code 0 (.ref q_1)) 2 (.ref q_2)) 3 (.ref q_3)))), (q_3, .inl (cB, 65536, .inl (fun _ => 0)))]) [0, 1, 2, 3] rfl
  have hD := hD.sub (ws' := [(h0, .inr (10, xo_Design (va_up (va_up (va_up (va_up (va_up (va_up (va_up (va_up (va_up (va_up f0 0 (.ref q_1)) 1 (.ref q_2)) 2 (.ref q_3)) 6 (.ref q_4)) 7 (.ref q_5)) 8 (.ref q_6)) 9 (.ref q_7)) 10 (.ref q_8)) 11 (.ref q_9)) 13 (.ref q_15)))), (q_1, .inr (11, xo_Parts (va_up (va_up (va_up (va_up (va_up (va_up (va_up (va_up (va_up (va_up (va_up (va_up dv_Parts 1 (.ref q_1)) 2 (.ref q_2)) 3 (.ref q_3)) 4 (.ref q_4)) 5 (.ref q_5)) 6 (.ref q_6)) 8 (.ref q_7)) 9 (.ref q_8)) 10 (.ref q_9)) 12 (.ref q_10)) 13 (.ref q_11)) 14 (.ref q_12)))), (q_2, .inr (12, xo_Code (va_up (va_up (va_up dv_Code 0 (.ref q_1)) 2 (.ref q_2)) 3 (.ref q_3)))), (q_3, .inl (cB, 65536, .inl (fun _ => 0)))]) [0, 1, 2, 3] (by decide) rfl
  refine lv_aload_n hx hb dn_Design_init_100 rfl (lv_at hl 0 rfl) ?_
  refine lv_sipush (v := 6554) hx hb dn_Design_init_101 (by decide) ?_
  refine xk_newI 6554 hx hb (hg _ wn_1_119) hK hP hD hS hA 0 rfl rfl (Nat.le_of_ble_eq_true rfl) (Nat.le_of_ble_eq_true rfl) (Nat.le_of_ble_eq_true rfl) dn_Design_init_104 (fun q_16 H hP hD hS => ?_)
  have hP : va_P (dC, dI) xcl [(h0, .inr (10, xo_Design (va_up (va_up (va_up (va_up (va_up (va_up (va_up (va_up (va_up (va_up f0 0 (.ref q_1)) 1 (.ref q_2)) 2 (.ref q_3)) 6 (.ref q_4)) 7 (.ref q_5)) 8 (.ref q_6)) 9 (.ref q_7)) 10 (.ref q_8)) 11 (.ref q_9)) 13 (.ref q_15)))), (q_1, .inr (11, xo_Parts (va_up (va_up (va_up (va_up (va_up (va_up (va_up (va_up (va_up (va_up (va_up (va_up dv_Parts 1 (.ref q_1)) 2 (.ref q_2)) 3 (.ref q_3)) 4 (.ref q_4)) 5 (.ref q_5)) 6 (.ref q_6)) 8 (.ref q_7)) 9 (.ref q_8)) 10 (.ref q_9)) 12 (.ref q_10)) 13 (.ref q_11)) 14 (.ref q_12)))), (q_2, .inr (12, xo_Code (va_up (va_up (va_up dv_Code 0 (.ref q_1)) 2 (.ref q_2)) 3 (.ref q_3)))), (q_3, .inl (cB, 65536, .inl (fun _ => 0))), (q_16, .inl (cI, 6554, .inl (fun _ => 0)))] H := hP
  have hD : va_D A [(h0, .inr (10, xo_Design (va_up (va_up (va_up (va_up (va_up (va_up (va_up (va_up (va_up (va_up f0 0 (.ref q_1)) 1 (.ref q_2)) 2 (.ref q_3)) 6 (.ref q_4)) 7 (.ref q_5)) 8 (.ref q_6)) 9 (.ref q_7)) 10 (.ref q_8)) 11 (.ref q_9)) 13 (.ref q_15)))), (q_1, .inr (11, xo_Parts (va_up (va_up (va_up (va_up (va_up (va_up (va_up (va_up (va_up (va_up (va_up (va_up dv_Parts 1 (.ref q_1)) 2 (.ref q_2)) 3 (.ref q_3)) 4 (.ref q_4)) 5 (.ref q_5)) 6 (.ref q_6)) 8 (.ref q_7)) 9 (.ref q_8)) 10 (.ref q_9)) 12 (.ref q_10)) 13 (.ref q_11)) 14 (.ref q_12)))), (q_2, .inr (12, xo_Code (va_up (va_up (va_up dv_Code 0 (.ref q_1)) 2 (.ref q_2)) 3 (.ref q_3)))), (q_3, .inl (cB, 65536, .inl (fun _ => 0))), (q_16, .inl (cI, 6554, .inl (fun _ => 0)))] := hD
  refine va_putF (D := (dC, dI)) (ci := 10) (v := .ref q_16) (ty := (.array .int)) (C := rn_Design) (T := fn_Design) (N := 16) hx hb hg in_Design tn_Design tk_Design nn_Design hown hK hP hD hS 0 rfl rfl 14 (by decide) (hg _ wn_3_24) (fun _ h9 => h9) rfl hin rfl (tk_Design 14 (by decide)) rfl rfl (Nat.le_of_ble_eq_true rfl) dn_Design_init_106 (fun H locs hP hD hS => ?_)
  have hP : va_P (dC, dI) xcl [(h0, .inr (10, xo_Design (va_up (va_up (va_up (va_up (va_up (va_up (va_up (va_up (va_up (va_up (va_up f0 0 (.ref q_1)) 1 (.ref q_2)) 2 (.ref q_3)) 6 (.ref q_4)) 7 (.ref q_5)) 8 (.ref q_6)) 9 (.ref q_7)) 10 (.ref q_8)) 11 (.ref q_9)) 13 (.ref q_15)) 14 (.ref q_16)))), (q_1, .inr (11, xo_Parts (va_up (va_up (va_up (va_up (va_up (va_up (va_up (va_up (va_up (va_up (va_up (va_up dv_Parts 1 (.ref q_1)) 2 (.ref q_2)) 3 (.ref q_3)) 4 (.ref q_4)) 5 (.ref q_5)) 6 (.ref q_6)) 8 (.ref q_7)) 9 (.ref q_8)) 10 (.ref q_9)) 12 (.ref q_10)) 13 (.ref q_11)) 14 (.ref q_12)))), (q_2, .inr (12, xo_Code (va_up (va_up (va_up dv_Code 0 (.ref q_1)) 2 (.ref q_2)) 3 (.ref q_3)))), (q_3, .inl (cB, 65536, .inl (fun _ => 0))), (q_16, .inl (cI, 6554, .inl (fun _ => 0)))] H := hP
  have hD : va_D A [(h0, .inr (10, xo_Design (va_up (va_up (va_up (va_up (va_up (va_up (va_up (va_up (va_up (va_up (va_up f0 0 (.ref q_1)) 1 (.ref q_2)) 2 (.ref q_3)) 6 (.ref q_4)) 7 (.ref q_5)) 8 (.ref q_6)) 9 (.ref q_7)) 10 (.ref q_8)) 11 (.ref q_9)) 13 (.ref q_15)) 14 (.ref q_16)))), (q_1, .inr (11, xo_Parts (va_up (va_up (va_up (va_up (va_up (va_up (va_up (va_up (va_up (va_up (va_up (va_up dv_Parts 1 (.ref q_1)) 2 (.ref q_2)) 3 (.ref q_3)) 4 (.ref q_4)) 5 (.ref q_5)) 6 (.ref q_6)) 8 (.ref q_7)) 9 (.ref q_8)) 10 (.ref q_9)) 12 (.ref q_10)) 13 (.ref q_11)) 14 (.ref q_12)))), (q_2, .inr (12, xo_Code (va_up (va_up (va_up dv_Code 0 (.ref q_1)) 2 (.ref q_2)) 3 (.ref q_3)))), (q_3, .inl (cB, 65536, .inl (fun _ => 0))), (q_16, .inl (cI, 6554, .inl (fun _ => 0)))] := hD
  have hP := hP.sub (ws' := [(h0, .inr (10, xo_Design (va_up (va_up (va_up (va_up (va_up (va_up (va_up (va_up (va_up (va_up (va_up f0 0 (.ref q_1)) 1 (.ref q_2)) 2 (.ref q_3)) 6 (.ref q_4)) 7 (.ref q_5)) 8 (.ref q_6)) 9 (.ref q_7)) 10 (.ref q_8)) 11 (.ref q_9)) 13 (.ref q_15)) 14 (.ref q_16)))), (q_1, .inr (11, xo_Parts (va_up (va_up (va_up (va_up (va_up (va_up (va_up (va_up (va_up (va_up (va_up (va_up dv_Parts 1 (.ref q_1)) 2 (.ref q_2)) 3 (.ref q_3)) 4 (.ref q_4)) 5 (.ref q_5)) 6 (.ref q_6)) 8 (.ref q_7)) 9 (.ref q_8)) 10 (.ref q_9)) 12 (.ref q_10)) 13 (.ref q_11)) 14 (.ref q_12)))), (q_2, .inr (12, xo_Code (va_up (va_up (va_up dv_Code 0 (.ref q_1)) 2 (.ref q_2)) 3 (.ref q_3)))), (q_3, .inl (cB, 65536, .inl (fun _ => 0)))]) [0, 1, 2, 3] rfl
  have hD := hD.sub (ws' := [(h0, .inr (10, xo_Design (va_up (va_up (va_up (va_up (va_up (va_up (va_up (va_up (va_up (va_up (va_up f0 0 (.ref q_1)) 1 (.ref q_2)) 2 (.ref q_3)) 6 (.ref q_4)) 7 (.ref q_5)) 8 (.ref q_6)) 9 (.ref q_7)) 10 (.ref q_8)) 11 (.ref q_9)) 13 (.ref q_15)) 14 (.ref q_16)))), (q_1, .inr (11, xo_Parts (va_up (va_up (va_up (va_up (va_up (va_up (va_up (va_up (va_up (va_up (va_up (va_up dv_Parts 1 (.ref q_1)) 2 (.ref q_2)) 3 (.ref q_3)) 4 (.ref q_4)) 5 (.ref q_5)) 6 (.ref q_6)) 8 (.ref q_7)) 9 (.ref q_8)) 10 (.ref q_9)) 12 (.ref q_10)) 13 (.ref q_11)) 14 (.ref q_12)))), (q_2, .inr (12, xo_Code (va_up (va_up (va_up dv_Code 0 (.ref q_1)) 2 (.ref q_2)) 3 (.ref q_3)))), (q_3, .inl (cB, 65536, .inl (fun _ => 0)))]) [0, 1, 2, 3] (by decide) rfl
  refine lv_aload_n hx hb dn_Design_init_109 rfl (lv_at hl 0 rfl) ?_
  refine lv_sipush (v := 6554) hx hb dn_Design_init_110 (by decide) ?_
  refine xk_newI 6554 hx hb (hg _ wn_1_119) hK hP hD hS hA 0 rfl rfl (Nat.le_of_ble_eq_true rfl) (Nat.le_of_ble_eq_true rfl) (Nat.le_of_ble_eq_true rfl) dn_Design_init_113 (fun q_17 H hP hD hS => ?_)
  have hP : va_P (dC, dI) xcl [(h0, .inr (10, xo_Design (va_up (va_up (va_up (va_up (va_up (va_up (va_up (va_up (va_up (va_up (va_up f0 0 (.ref q_1)) 1 (.ref q_2)) 2 (.ref q_3)) 6 (.ref q_4)) 7 (.ref q_5)) 8 (.ref q_6)) 9 (.ref q_7)) 10 (.ref q_8)) 11 (.ref q_9)) 13 (.ref q_15)) 14 (.ref q_16)))), (q_1, .inr (11, xo_Parts (va_up (va_up (va_up (va_up (va_up (va_up (va_up (va_up (va_up (va_up (va_up (va_up dv_Parts 1 (.ref q_1)) 2 (.ref q_2)) 3 (.ref q_3)) 4 (.ref q_4)) 5 (.ref q_5)) 6 (.ref q_6)) 8 (.ref q_7)) 9 (.ref q_8)) 10 (.ref q_9)) 12 (.ref q_10)) 13 (.ref q_11)) 14 (.ref q_12)))), (q_2, .inr (12, xo_Code (va_up (va_up (va_up dv_Code 0 (.ref q_1)) 2 (.ref q_2)) 3 (.ref q_3)))), (q_3, .inl (cB, 65536, .inl (fun _ => 0))), (q_17, .inl (cI, 6554, .inl (fun _ => 0)))] H := hP
  have hD : va_D A [(h0, .inr (10, xo_Design (va_up (va_up (va_up (va_up (va_up (va_up (va_up (va_up (va_up (va_up (va_up f0 0 (.ref q_1)) 1 (.ref q_2)) 2 (.ref q_3)) 6 (.ref q_4)) 7 (.ref q_5)) 8 (.ref q_6)) 9 (.ref q_7)) 10 (.ref q_8)) 11 (.ref q_9)) 13 (.ref q_15)) 14 (.ref q_16)))), (q_1, .inr (11, xo_Parts (va_up (va_up (va_up (va_up (va_up (va_up (va_up (va_up (va_up (va_up (va_up (va_up dv_Parts 1 (.ref q_1)) 2 (.ref q_2)) 3 (.ref q_3)) 4 (.ref q_4)) 5 (.ref q_5)) 6 (.ref q_6)) 8 (.ref q_7)) 9 (.ref q_8)) 10 (.ref q_9)) 12 (.ref q_10)) 13 (.ref q_11)) 14 (.ref q_12)))), (q_2, .inr (12, xo_Code (va_up (va_up (va_up dv_Code 0 (.ref q_1)) 2 (.ref q_2)) 3 (.ref q_3)))), (q_3, .inl (cB, 65536, .inl (fun _ => 0))), (q_17, .inl (cI, 6554, .inl (fun _ => 0)))] := hD
  refine va_putF (D := (dC, dI)) (ci := 10) (v := .ref q_17) (ty := (.array .int)) (C := rn_Design) (T := fn_Design) (N := 16) hx hb hg in_Design tn_Design tk_Design nn_Design hown hK hP hD hS 0 rfl rfl 15 (by decide) (hg _ wn_3_26) (fun _ h9 => h9) rfl hin rfl (tk_Design 15 (by decide)) rfl rfl (Nat.le_of_ble_eq_true rfl) dn_Design_init_115 (fun H locs hP hD hS => ?_)
  have hP : va_P (dC, dI) xcl [(h0, .inr (10, xo_Design (va_up (va_up (va_up (va_up (va_up (va_up (va_up (va_up (va_up (va_up (va_up (va_up f0 0 (.ref q_1)) 1 (.ref q_2)) 2 (.ref q_3)) 6 (.ref q_4)) 7 (.ref q_5)) 8 (.ref q_6)) 9 (.ref q_7)) 10 (.ref q_8)) 11 (.ref q_9)) 13 (.ref q_15)) 14 (.ref q_16)) 15 (.ref q_17)))), (q_1, .inr (11, xo_Parts (va_up (va_up (va_up (va_up (va_up (va_up (va_up (va_up (va_up (va_up (va_up (va_up dv_Parts 1 (.ref q_1)) 2 (.ref q_2)) 3 (.ref q_3)) 4 (.ref q_4)) 5 (.ref q_5)) 6 (.ref q_6)) 8 (.ref q_7)) 9 (.ref q_8)) 10 (.ref q_9)) 12 (.ref q_10)) 13 (.ref q_11)) 14 (.ref q_12)))), (q_2, .inr (12, xo_Code (va_up (va_up (va_up dv_Code 0 (.ref q_1)) 2 (.ref q_2)) 3 (.ref q_3)))), (q_3, .inl (cB, 65536, .inl (fun _ => 0))), (q_17, .inl (cI, 6554, .inl (fun _ => 0)))] H := hP
  have hD : va_D A [(h0, .inr (10, xo_Design (va_up (va_up (va_up (va_up (va_up (va_up (va_up (va_up (va_up (va_up (va_up (va_up f0 0 (.ref q_1)) 1 (.ref q_2)) 2 (.ref q_3)) 6 (.ref q_4)) 7 (.ref q_5)) 8 (.ref q_6)) 9 (.ref q_7)) 10 (.ref q_8)) 11 (.ref q_9)) 13 (.ref q_15)) 14 (.ref q_16)) 15 (.ref q_17)))), (q_1, .inr (11, xo_Parts (va_up (va_up (va_up (va_up (va_up (va_up (va_up (va_up (va_up (va_up (va_up (va_up dv_Parts 1 (.ref q_1)) 2 (.ref q_2)) 3 (.ref q_3)) 4 (.ref q_4)) 5 (.ref q_5)) 6 (.ref q_6)) 8 (.ref q_7)) 9 (.ref q_8)) 10 (.ref q_9)) 12 (.ref q_10)) 13 (.ref q_11)) 14 (.ref q_12)))), (q_2, .inr (12, xo_Code (va_up (va_up (va_up dv_Code 0 (.ref q_1)) 2 (.ref q_2)) 3 (.ref q_3)))), (q_3, .inl (cB, 65536, .inl (fun _ => 0))), (q_17, .inl (cI, 6554, .inl (fun _ => 0)))] := hD
  have hP := hP.sub (ws' := [(h0, .inr (10, xo_Design (va_up (va_up (va_up (va_up (va_up (va_up (va_up (va_up (va_up (va_up (va_up (va_up f0 0 (.ref q_1)) 1 (.ref q_2)) 2 (.ref q_3)) 6 (.ref q_4)) 7 (.ref q_5)) 8 (.ref q_6)) 9 (.ref q_7)) 10 (.ref q_8)) 11 (.ref q_9)) 13 (.ref q_15)) 14 (.ref q_16)) 15 (.ref q_17)))), (q_1, .inr (11, xo_Parts (va_up (va_up (va_up (va_up (va_up (va_up (va_up (va_up (va_up (va_up (va_up (va_up dv_Parts 1 (.ref q_1)) 2 (.ref q_2)) 3 (.ref q_3)) 4 (.ref q_4)) 5 (.ref q_5)) 6 (.ref q_6)) 8 (.ref q_7)) 9 (.ref q_8)) 10 (.ref q_9)) 12 (.ref q_10)) 13 (.ref q_11)) 14 (.ref q_12)))), (q_2, .inr (12, xo_Code (va_up (va_up (va_up dv_Code 0 (.ref q_1)) 2 (.ref q_2)) 3 (.ref q_3)))), (q_3, .inl (cB, 65536, .inl (fun _ => 0)))]) [0, 1, 2, 3] rfl
  have hD := hD.sub (ws' := [(h0, .inr (10, xo_Design (va_up (va_up (va_up (va_up (va_up (va_up (va_up (va_up (va_up (va_up (va_up (va_up f0 0 (.ref q_1)) 1 (.ref q_2)) 2 (.ref q_3)) 6 (.ref q_4)) 7 (.ref q_5)) 8 (.ref q_6)) 9 (.ref q_7)) 10 (.ref q_8)) 11 (.ref q_9)) 13 (.ref q_15)) 14 (.ref q_16)) 15 (.ref q_17)))), (q_1, .inr (11, xo_Parts (va_up (va_up (va_up (va_up (va_up (va_up (va_up (va_up (va_up (va_up (va_up (va_up dv_Parts 1 (.ref q_1)) 2 (.ref q_2)) 3 (.ref q_3)) 4 (.ref q_4)) 5 (.ref q_5)) 6 (.ref q_6)) 8 (.ref q_7)) 9 (.ref q_8)) 10 (.ref q_9)) 12 (.ref q_10)) 13 (.ref q_11)) 14 (.ref q_12)))), (q_2, .inr (12, xo_Code (va_up (va_up (va_up dv_Code 0 (.ref q_1)) 2 (.ref q_2)) 3 (.ref q_3)))), (q_3, .inl (cB, 65536, .inl (fun _ => 0)))]) [0, 1, 2, 3] (by decide) rfl
  have hP9 := hP.sub (ws' := [(h0, .inr (10, xo_Design (va_up (va_up (va_up (va_up (va_up (va_up (va_up (va_up (va_up (va_up (va_up (va_up f0 0 (.ref q_1)) 1 (.ref q_2)) 2 (.ref q_3)) 6 (.ref q_4)) 7 (.ref q_5)) 8 (.ref q_6)) 9 (.ref q_7)) 10 (.ref q_8)) 11 (.ref q_9)) 13 (.ref q_15)) 14 (.ref q_16)) 15 (.ref q_17)))), (q_1, .inr (11, xo_Parts (va_up (va_up (va_up (va_up (va_up (va_up (va_up (va_up (va_up (va_up (va_up (va_up dv_Parts 1 (.ref q_1)) 2 (.ref q_2)) 3 (.ref q_3)) 4 (.ref q_4)) 5 (.ref q_5)) 6 (.ref q_6)) 8 (.ref q_7)) 9 (.ref q_8)) 10 (.ref q_9)) 12 (.ref q_10)) 13 (.ref q_11)) 14 (.ref q_12)))), (q_2, .inr (12, xo_Code (va_up (va_up (va_up dv_Code 0 (.ref q_1)) 2 (.ref q_2)) 3 (.ref q_3)))), (q_3, .inl (cB, 65536, .inl (fun _ => 0)))]) [0, 1, 2, 3] rfl
  have hD9 := hD.sub (ws' := [(h0, .inr (10, xo_Design (va_up (va_up (va_up (va_up (va_up (va_up (va_up (va_up (va_up (va_up (va_up (va_up f0 0 (.ref q_1)) 1 (.ref q_2)) 2 (.ref q_3)) 6 (.ref q_4)) 7 (.ref q_5)) 8 (.ref q_6)) 9 (.ref q_7)) 10 (.ref q_8)) 11 (.ref q_9)) 13 (.ref q_15)) 14 (.ref q_16)) 15 (.ref q_17)))), (q_1, .inr (11, xo_Parts (va_up (va_up (va_up (va_up (va_up (va_up (va_up (va_up (va_up (va_up (va_up (va_up dv_Parts 1 (.ref q_1)) 2 (.ref q_2)) 3 (.ref q_3)) 4 (.ref q_4)) 5 (.ref q_5)) 6 (.ref q_6)) 8 (.ref q_7)) 9 (.ref q_8)) 10 (.ref q_9)) 12 (.ref q_10)) 13 (.ref q_11)) 14 (.ref q_12)))), (q_2, .inr (12, xo_Code (va_up (va_up (va_up dv_Code 0 (.ref q_1)) 2 (.ref q_2)) 3 (.ref q_3)))), (q_3, .inl (cB, 65536, .inl (fun _ => 0)))]) [0, 1, 2, 3] (by decide) rfl
  exact xk_vret (w1 := fun u : Nat × Nat × Nat => [(h0, .inr (10, xo_Design (va_up (va_up (va_up (va_up (va_up (va_up (va_up (va_up (va_up (va_up (va_up (va_up f0 0 (.ref u.1)) 1 (.ref u.2.1)) 2 (.ref u.2.2)) 6 (.ref q_4)) 7 (.ref q_5)) 8 (.ref q_6)) 9 (.ref q_7)) 10 (.ref q_8)) 11 (.ref q_9)) 13 (.ref q_15)) 14 (.ref q_16)) 15 (.ref q_17)))), (u.1, .inr (11, xo_Parts (va_up (va_up (va_up (va_up (va_up (va_up (va_up (va_up (va_up (va_up (va_up (va_up dv_Parts 1 (.ref u.1)) 2 (.ref u.2.1)) 3 (.ref u.2.2)) 4 (.ref q_4)) 5 (.ref q_5)) 6 (.ref q_6)) 8 (.ref q_7)) 9 (.ref q_8)) 10 (.ref q_9)) 12 (.ref q_10)) 13 (.ref q_11)) 14 (.ref q_12)))), (u.2.1, .inr (12, xo_Code (va_up (va_up (va_up dv_Code 0 (.ref u.1)) 2 (.ref u.2.1)) 3 (.ref u.2.2)))), (u.2.2, .inl (cB, 65536, .inl (fun _ => 0)))]) (q_1, q_2, q_3) hx hb hr hlocks hK hS dn_Design_init_118 hP9 hD9 trivial (Nat.le_refl _) (Nat.le_refl _)
set_option maxHeartbeats 4000000 in
set_option maxRecDepth 100000 in
theorem ct_Circuit_init_0 (l : Launch) (dC : Nat → ClassId) (dI : Nat → Nat → Nat) (cI cB cJ cZ cQ : ClassId) (sz : Nat) (h0 : Nat) (f0 : Nat → Value) : Met l yn_Circuit_init (xw yn_Circuit_init bn_Circuit_init 1 none) ({ frames := 3, cells := 43, slots := 348010, locals := 60 }) (xk_P (dC, dI) xcl (xt cI cB cJ cZ cQ) [.ref h0] sz [(h0, .inr (9, xo_Circuit f0))]) (xk_Qv (dC, dI) xcl (xt cI cB cJ cZ cQ) (fun u : Nat × Nat × Nat × Nat => True) (fun u : Nat × Nat × Nat × Nat => [(h0, .inr (9, xo_Circuit (va_up (va_up (va_up (va_up (va_up (va_up (va_up (va_up (va_up (va_up (va_up f0 0 (.ref u.1)) 3 (.ref q_5)) 4 (.ref q_6)) 5 (.ref q_7)) 6 (.ref q_8)) 7 (.ref q_9)) 8 (.ref q_10)) 9 (.ref q_11)) 10 (.ref q_12)) 11 (.ref q_13)) 12 (.ref q_14)))), (u.1, .inr (10, xo_Design (va_up (va_up (va_up (va_up (va_up (va_up (va_up (va_up (va_up (va_up (va_up (va_up dv_Design 0 (.ref u.2.1)) 1 (.ref u.2.2.1)) 2 (.ref u.2.2.2)) 6 (.ref u.2.2.2)) 7 (.ref q_5)) 8 (.ref q_6)) 9 (.ref q_7)) 10 (.ref q_8)) 11 (.ref q_9)) 13 (.ref q_15)) 14 (.ref q_16)) 15 (.ref q_17)))), (u.2.1, .inr (11, xo_Parts (va_up (va_up (va_up (va_up (va_up (va_up (va_up (va_up (va_up (va_up (va_up (va_up dv_Parts 1 (.ref u.2.1)) 2 (.ref u.2.2.1)) 3 (.ref u.2.2.2)) 4 (.ref u.2.2.2)) 5 (.ref q_5)) 6 (.ref q_6)) 8 (.ref q_7)) 9 (.ref q_8)) 10 (.ref q_9)) 12 (.ref q_10)) 13 (.ref q_11)) 14 (.ref q_12)))), (u.2.2.1, .inr (12, xo_Code (va_up (va_up (va_up dv_Code 0 (.ref u.2.1)) 2 (.ref u.2.2.1)) 3 (.ref u.2.2.2)))), (u.2.2.2, .inl (cB, 65536, .inl (fun _ => 0)))]) (va_A [(h0, .inr (9, xo_Circuit f0))] sz)) 43 348010 (va_A [(h0, .inr (9, xo_Circuit f0))] sz) := by
  refine xk_of (QA := xk_Qv (dC, dI) xcl (xt cI cB cJ cZ cQ) (fun u : Nat × Nat × Nat × Nat => True) (fun u : Nat × Nat × Nat × Nat => [(h0, .inr (9, xo_Circuit (va_up (va_up (va_up (va_up (va_up (va_up (va_up (va_up (va_up (va_up (va_up f0 0 (.ref u.1)) 3 (.ref q_5)) 4 (.ref q_6)) 5 (.ref q_7)) 6 (.ref q_8)) 7 (.ref q_9)) 8 (.ref q_10)) 9 (.ref q_11)) 10 (.ref q_12)) 11 (.ref q_13)) 12 (.ref q_14)))), (u.1, .inr (10, xo_Design (va_up (va_up (va_up (va_up (va_up (va_up (va_up (va_up (va_up (va_up (va_up (va_up dv_Design 0 (.ref u.2.1)) 1 (.ref u.2.2.1)) 2 (.ref u.2.2.2)) 6 (.ref u.2.2.2)) 7 (.ref q_5)) 8 (.ref q_6)) 9 (.ref q_7)) 10 (.ref q_8)) 11 (.ref q_9)) 13 (.ref q_15)) 14 (.ref q_16)) 15 (.ref q_17)))), (u.2.1, .inr (11, xo_Parts (va_up (va_up (va_up (va_up (va_up (va_up (va_up (va_up (va_up (va_up (va_up (va_up dv_Parts 1 (.ref u.2.1)) 2 (.ref u.2.2.1)) 3 (.ref u.2.2.2)) 4 (.ref u.2.2.2)) 5 (.ref q_5)) 6 (.ref q_6)) 8 (.ref q_7)) 9 (.ref q_8)) 10 (.ref q_9)) 12 (.ref q_10)) 13 (.ref q_11)) 14 (.ref q_12)))), (u.2.2.1, .inr (12, xo_Code (va_up (va_up (va_up dv_Code 0 (.ref u.2.1)) 2 (.ref u.2.2.1)) 3 (.ref u.2.2.2)))), (u.2.2.2, .inl (cB, 65536, .inl (fun _ => 0)))])) (by decide) (Nat.le_of_ble_eq_true rfl) ?_
  intro p e s m below meth c hx hb hml hown hg hr hlocks hin hP hK hN A hA hD hS ls hl
  have hown : s.vm.findClass rn_Circuit = some m.cls := hown
  have hl : lv_has ls 1 [(0, .ref h0)] := hl
  obtain ⟨H, hH⟩ : ∃ z, z = s.heap := ⟨_, rfl⟩
  rw [← hH] at hP
  have hS : va_S A s.heap H [] := by rw [hH]; exact va_S.rf
  suffices kk : W p l e ({ frames := 3, cells := 43, slots := 348010, locals := 60 }) s m [.ref h0].toArray below meth c H [] 0 0 (MQ below (xk_Qv (dC, dI) xcl (xt cI cB cJ cZ cQ) (fun u : Nat × Nat × Nat × Nat => True) (fun u : Nat × Nat × Nat × Nat => [(h0, .inr (9, xo_Circuit (va_up (va_up (va_up (va_up (va_up (va_up (va_up (va_up (va_up (va_up (va_up f0 0 (.ref u.1)) 3 (.ref q_5)) 4 (.ref q_6)) 5 (.ref q_7)) 6 (.ref q_8)) 7 (.ref q_9)) 8 (.ref q_10)) 9 (.ref q_11)) 10 (.ref q_12)) 11 (.ref q_13)) 12 (.ref q_14)))), (u.1, .inr (10, xo_Design (va_up (va_up (va_up (va_up (va_up (va_up (va_up (va_up (va_up (va_up (va_up (va_up dv_Design 0 (.ref u.2.1)) 1 (.ref u.2.2.1)) 2 (.ref u.2.2.2)) 6 (.ref u.2.2.2)) 7 (.ref q_5)) 8 (.ref q_6)) 9 (.ref q_7)) 10 (.ref q_8)) 11 (.ref q_9)) 13 (.ref q_15)) 14 (.ref q_16)) 15 (.ref q_17)))), (u.2.1, .inr (11, xo_Parts (va_up (va_up (va_up (va_up (va_up (va_up (va_up (va_up (va_up (va_up (va_up (va_up dv_Parts 1 (.ref u.2.1)) 2 (.ref u.2.2.1)) 3 (.ref u.2.2.2)) 4 (.ref u.2.2.2)) 5 (.ref q_5)) 6 (.ref q_6)) 8 (.ref q_7)) 9 (.ref q_8)) 10 (.ref q_9)) 12 (.ref q_10)) 13 (.ref q_11)) 14 (.ref q_12)))), (u.2.2.1, .inr (12, xo_Code (va_up (va_up (va_up dv_Code 0 (.ref u.2.1)) 2 (.ref u.2.2.1)) 3 (.ref u.2.2.2)))), (u.2.2.2, .inl (cB, 65536, .inl (fun _ => 0)))]) A) [.ref h0].toArray s 43 348010 A) (F0 m 0 ls []) by rw [hH] at kk; exact kk
  refine lv_aload_n hx hb dn_Circuit_init_0 rfl (lv_at hl 0 rfl) ?_
  refine W.objInit hx hb hown (hg _ wn_2_110) (hg _ wn_1_36) (hg _ wn_1_37) rfl (by rw [hml]; exact hl.1) rfl dn_Circuit_init_1 (Nat.le_of_ble_eq_true rfl) (Nat.le_of_ble_eq_true rfl) ?_
  refine W.eq (g2 := F0 m 4 ls []) rfl ?_
  refine lv_aload_n hx hb dn_Circuit_init_4 rfl (lv_at hl 0 rfl) ?_
  refine va_new (ci := 10) (fs := xo_Design dv_Design) (C := rn_Design) (T := fn_Design) (N := 16) hx hb hg in_Design tn_Design tk_Design hown (hg _ wn_2_111) (hg _ wn_2_112) (hg _ wn_1_10) hK hP hD hS hA rfl dk_Design (Nat.le_of_ble_eq_true rfl) (Nat.le_of_ble_eq_true rfl) dn_Circuit_init_5 (fun q_1 H hP hD hS => ?_)
  have hP : va_P (dC, dI) xcl [(h0, .inr (9, xo_Circuit f0)), (q_1, .inr (10, xo_Design dv_Design))] H := hP
  have hD : va_D A [(h0, .inr (9, xo_Circuit f0)), (q_1, .inr (10, xo_Design dv_Design))] := hD
  refine lv_dup hx hb dn_Circuit_init_8 rfl ?_
  have hPc := hP.sub (ws' := [(q_1, .inr (10, xo_Design dv_Design))]) [1] rfl
  have hDc := hD.sub (ws' := [(q_1, .inr (10, xo_Design dv_Design))]) [1] (by decide) rfl
  refine xk_callv (wr := [(h0, .inr (9, xo_Circuit f0))]) (xk_runIN (ar := 0) (As := []) (rest := [.ref q_1, .ref h0]) (host := "CircuitCycles") ⟨hx, hb, hml, hown, hg⟩ hK hN (ct_Design_init_0 l dC dI cI cB cJ cZ cQ H.size q_1 dv_Design) hPc hDc nl_Circuit_11 wn_2_114 wn_1_10 wn_2_115 rfl rfl rfl (by decide +kernel) ⟨Nat.le_of_ble_eq_true rfl, Nat.le_of_ble_eq_true rfl⟩ rfl hl.1 rfl (Nat.le_of_ble_eq_true rfl) dn_Circuit_init_9 ⟨Nat.le_of_ble_eq_true rfl, Nat.le_of_ble_eq_true rfl⟩) hP hD hS hA [1] [0] rfl rfl (by decide) (by decide) (fun u H locs hw hP hD hS => ?_)
  obtain ⟨q_2, q_3, q_4⟩ := u
  have hP : va_P (dC, dI) xcl [(h0, .inr (9, xo_Circuit f0)), (q_1, .inr (10, xo_Design (va_up (va_up (va_up (va_up (va_up (va_up (va_up (va_up (va_up (va_up (va_up (va_up dv_Design 0 (.ref q_2)) 1 (.ref q_3)) 2 (.ref q_4)) 6 (.ref q_4)) 7 (.ref q_5)) 8 (.ref q_6)) 9 (.ref q_7)) 10 (.ref q_8)) 11 (.ref q_9)) 13 (.ref q_15)) 14 (.ref q_16)) 15 (.ref q_17)))), (q_2, .inr (11, xo_Parts (va_up (va_up (va_up (va_up (va_up (va_up (va_up (va_up (va_up (va_up (va_up (va_up dv_Parts 1 (.ref q_2)) 2 (.ref q_3)) 3 (.ref q_4)) 4 (.ref q_4)) 5 (.ref q_5)) 6 (.ref q_6)) 8 (.ref q_7)) 9 (.ref q_8)) 10 (.ref q_9)) 12 (.ref q_10)) 13 (.ref q_11)) 14 (.ref q_12)))), (q_3, .inr (12, xo_Code (va_up (va_up (va_up dv_Code 0 (.ref q_2)) 2 (.ref q_3)) 3 (.ref q_4)))), (q_4, .inl (cB, 65536, .inl (fun _ => 0)))] H := hP
  have hD : va_D A [(h0, .inr (9, xo_Circuit f0)), (q_1, .inr (10, xo_Design (va_up (va_up (va_up (va_up (va_up (va_up (va_up (va_up (va_up (va_up (va_up (va_up dv_Design 0 (.ref q_2)) 1 (.ref q_3)) 2 (.ref q_4)) 6 (.ref q_4)) 7 (.ref q_5)) 8 (.ref q_6)) 9 (.ref q_7)) 10 (.ref q_8)) 11 (.ref q_9)) 13 (.ref q_15)) 14 (.ref q_16)) 15 (.ref q_17)))), (q_2, .inr (11, xo_Parts (va_up (va_up (va_up (va_up (va_up (va_up (va_up (va_up (va_up (va_up (va_up (va_up dv_Parts 1 (.ref q_2)) 2 (.ref q_3)) 3 (.ref q_4)) 4 (.ref q_4)) 5 (.ref q_5)) 6 (.ref q_6)) 8 (.ref q_7)) 9 (.ref q_8)) 10 (.ref q_9)) 12 (.ref q_10)) 13 (.ref q_11)) 14 (.ref q_12)))), (q_3, .inr (12, xo_Code (va_up (va_up (va_up dv_Code 0 (.ref q_2)) 2 (.ref q_3)) 3 (.ref q_4)))), (q_4, .inl (cB, 65536, .inl (fun _ => 0)))] := hD
  refine va_putF (D := (dC, dI)) (ci := 9) (v := .ref q_1) (ty := (.object "CircuitCycles$Design")) (C := rn_Circuit) (T := fn_Circuit) (N := 14) hx hb hg in_Circuit tn_Circuit tk_Circuit nn_Circuit hown hK hP hD hS 0 rfl rfl 0 (by decide) (hg _ wn_3_61) (fun _ h9 => h9) rfl hin rfl (tk_Circuit 0 (by decide)) rfl rfl (Nat.le_of_ble_eq_true rfl) dn_Circuit_init_12 (fun H locs hP hD hS => ?_)
  have hP : va_P (dC, dI) xcl [(h0, .inr (9, xo_Circuit (va_up f0 0 (.ref q_1)))), (q_1, .inr (10, xo_Design (va_up (va_up (va_up (va_up (va_up (va_up (va_up (va_up (va_up (va_up (va_up (va_up dv_Design 0 (.ref q_2)) 1 (.ref q_3)) 2 (.ref q_4)) 6 (.ref q_4)) 7 (.ref q_5)) 8 (.ref q_6)) 9 (.ref q_7)) 10 (.ref q_8)) 11 (.ref q_9)) 13 (.ref q_15)) 14 (.ref q_16)) 15 (.ref q_17)))), (q_2, .inr (11, xo_Parts (va_up (va_up (va_up (va_up (va_up (va_up (va_up (va_up (va_up (va_up (va_up (va_up dv_Parts 1 (.ref q_2)) 2 (.ref q_3)) 3 (.ref q_4)) 4 (.ref q_4)) 5 (.ref q_5)) 6 (.ref q_6)) 8 (.ref q_7)) 9 (.ref q_8)) 10 (.ref q_9)) 12 (.ref q_10)) 13 (.ref q_11)) 14 (.ref q_12)))), (q_3, .inr (12, xo_Code (va_up (va_up (va_up dv_Code 0 (.ref q_2)) 2 (.ref q_3)) 3 (.ref q_4)))), (q_4, .inl (cB, 65536, .inl (fun _ => 0)))] H := hP
  have hD : va_D A [(h0, .inr (9, xo_Circuit (va_up f0 0 (.ref q_1)))), (q_1, .inr (10, xo_Design (va_up (va_up (va_up (va_up (va_up (va_up (va_up (va_up (va_up (va_up (va_up (va_up dv_Design 0 (.ref q_2)) 1 (.ref q_3)) 2 (.ref q_4)) 6 (.ref q_4)) 7 (.ref q_5)) 8 (.ref q_6)) 9 (.ref q_7)) 10 (.ref q_8)) 11 (.ref q_9)) 13 (.ref q_15)) 14 (.ref q_16)) 15 (.ref q_17)))), (q_2, .inr (11, xo_Parts (va_up (va_up (va_up (va_up (va_up (va_up (va_up (va_up (va_up (va_up (va_up (va_up dv_Parts 1 (.ref q_2)) 2 (.ref q_3)) 3 (.ref q_4)) 4 (.ref q_4)) 5 (.ref q_5)) 6 (.ref q_6)) 8 (.ref q_7)) 9 (.ref q_8)) 10 (.ref q_9)) 12 (.ref q_10)) 13 (.ref q_11)) 14 (.ref q_12)))), (q_3, .inr (12, xo_Code (va_up (va_up (va_up dv_Code 0 (.ref q_2)) 2 (.ref q_3)) 3 (.ref q_4)))), (q_4, .inl (cB, 65536, .inl (fun _ => 0)))] := hD
  refine lv_aload_n hx hb dn_Circuit_init_15 rfl (lv_at hl 0 rfl) ?_
  refine lv_sipush (v := 257) hx hb dn_Circuit_init_16 (by decide) ?_
  refine xk_newI 257 hx hb (hg _ wn_1_119) hK hP hD hS hA 0 rfl rfl (Nat.le_of_ble_eq_true rfl) (Nat.le_of_ble_eq_true rfl) (Nat.le_of_ble_eq_true rfl) dn_Circuit_init_19 (fun q_5 H hP hD hS => ?_)
  have hP : va_P (dC, dI) xcl [(h0, .inr (9, xo_Circuit (va_up f0 0 (.ref q_1)))), (q_1, .inr (10, xo_Design (va_up (va_up (va_up (va_up (va_up (va_up (va_up (va_up (va_up (va_up (va_up (va_up dv_Design 0 (.ref q_2)) 1 (.ref q_3)) 2 (.ref q_4)) 6 (.ref q_4)) 7 (.ref q_5)) 8 (.ref q_6)) 9 (.ref q_7)) 10 (.ref q_8)) 11 (.ref q_9)) 13 (.ref q_15)) 14 (.ref q_16)) 15 (.ref q_17)))), (q_2, .inr (11, xo_Parts (va_up (va_up (va_up (va_up (va_up (va_up (va_up (va_up (va_up (va_up (va_up (va_up dv_Parts 1 (.ref q_2)) 2 (.ref q_3)) 3 (.ref q_4)) 4 (.ref q_4)) 5 (.ref q_5)) 6 (.ref q_6)) 8 (.ref q_7)) 9 (.ref q_8)) 10 (.ref q_9)) 12 (.ref q_10)) 13 (.ref q_11)) 14 (.ref q_12)))), (q_3, .inr (12, xo_Code (va_up (va_up (va_up dv_Code 0 (.ref q_2)) 2 (.ref q_3)) 3 (.ref q_4)))), (q_4, .inl (cB, 65536, .inl (fun _ => 0))), (q_5, .inl (cI, 257, .inl (fun _ => 0)))] H := hP
  have hD : va_D A [(h0, .inr (9, xo_Circuit (va_up f0 0 (.ref q_1)))), (q_1, .inr (10, xo_Design (va_up (va_up (va_up (va_up (va_up (va_up (va_up (va_up (va_up (va_up (va_up (va_up dv_Design 0 (.ref q_2)) 1 (.ref q_3)) 2 (.ref q_4)) 6 (.ref q_4)) 7 (.ref q_5)) 8 (.ref q_6)) 9 (.ref q_7)) 10 (.ref q_8)) 11 (.ref q_9)) 13 (.ref q_15)) 14 (.ref q_16)) 15 (.ref q_17)))), (q_2, .inr (11, xo_Parts (va_up (va_up (va_up (va_up (va_up (va_up (va_up (va_up (va_up (va_up (va_up (va_up dv_Parts 1 (.ref q_2)) 2 (.ref q_3)) 3 (.ref q_4)) 4 (.ref q_4)) 5 (.ref q_5)) 6 (.ref q_6)) 8 (.ref q_7)) 9 (.ref q_8)) 10 (.ref q_9)) 12 (.ref q_10)) 13 (.ref q_11)) 14 (.ref q_12)))), (q_3, .inr (12, xo_Code (va_up (va_up (va_up dv_Code 0 (.ref q_2)) 2 (.ref q_3)) 3 (.ref q_4)))), (q_4, .inl (cB, 65536, .inl (fun _ => 0))), (q_5, .inl (cI, 257, .inl (fun _ => 0)))] := hD
  refine va_put (D := (dC, dI)) (ci := 9) (v := .ref q_5) (ty := (.array .int)) (C := rn_Circuit) (T := fn_Circuit) (N := 14) hx hb hg in_Circuit tn_Circuit tk_Circuit nn_Circuit hown hK hP hD hS 0 rfl rfl 3 (by decide) (hg _ wn_3_72) (fun _ h9 => h9) rfl (tk_Circuit 3 (by decide)) rfl rfl (Nat.le_of_ble_eq_true rfl) dn_Circuit_init_21 (fun H locs hP hD hS => ?_)
  have hP : va_P (dC, dI) xcl [(h0, .inr (9, xo_Circuit (va_up (va_up f0 0 (.ref q_1)) 3 (.ref q_5)))), (q_1, .inr (10, xo_Design (va_up (va_up (va_up (va_up (va_up (va_up (va_up (va_up (va_up (va_up (va_up (va_up dv_Design 0 (.ref q_2)) 1 (.ref q_3)) 2 (.ref q_4)) 6 (.ref q_4)) 7 (.ref q_5)) 8 (.ref q_6)) 9 (.ref q_7)) 10 (.ref q_8)) 11 (.ref q_9)) 13 (.ref q_15)) 14 (.ref q_16)) 15 (.ref q_17)))), (q_2, .inr (11, xo_Parts (va_up (va_up (va_up (va_up (va_up (va_up (va_up (va_up (va_up (va_up (va_up (va_up dv_Parts 1 (.ref q_2)) 2 (.ref q_3)) 3 (.ref q_4)) 4 (.ref q_4)) 5 (.ref q_5)) 6 (.ref q_6)) 8 (.ref q_7)) 9 (.ref q_8)) 10 (.ref q_9)) 12 (.ref q_10)) 13 (.ref q_11)) 14 (.ref q_12)))), (q_3, .inr (12, xo_Code (va_up (va_up (va_up dv_Code 0 (.ref q_2)) 2 (.ref q_3)) 3 (.ref q_4)))), (q_4, .inl (cB, 65536, .inl (fun _ => 0))), (q_5, .inl (cI, 257, .inl (fun _ => 0)))] H := hP
  have hD : va_D A [(h0, .inr (9, xo_Circuit (va_up (va_up f0 0 (.ref q_1)) 3 (.ref q_5)))), (q_1, .inr (10, xo_Design (va_up (va_up (va_up (va_up (va_up (va_up (va_up (va_up (va_up (va_up (va_up (va_up dv_Design 0 (.ref q_2)) 1 (.ref q_3)) 2 (.ref q_4)) 6 (.ref q_4)) 7 (.ref q_5)) 8 (.ref q_6)) 9 (.ref q_7)) 10 (.ref q_8)) 11 (.ref q_9)) 13 (.ref q_15)) 14 (.ref q_16)) 15 (.ref q_17)))), (q_2, .inr (11, xo_Parts (va_up (va_up (va_up (va_up (va_up (va_up (va_up (va_up (va_up (va_up (va_up (va_up dv_Parts 1 (.ref q_2)) 2 (.ref q_3)) 3 (.ref q_4)) 4 (.ref q_4)) 5 (.ref q_5)) 6 (.ref q_6)) 8 (.ref q_7)) 9 (.ref q_8)) 10 (.ref q_9)) 12 (.ref q_10)) 13 (.ref q_11)) 14 (.ref q_12)))), (q_3, .inr (12, xo_Code (va_up (va_up (va_up dv_Code 0 (.ref q_2)) 2 (.ref q_3)) 3 (.ref q_4)))), (q_4, .inl (cB, 65536, .inl (fun _ => 0))), (q_5, .inl (cI, 257, .inl (fun _ => 0)))] := hD
  have hP := hP.sub (ws' := [(h0, .inr (9, xo_Circuit (va_up (va_up f0 0 (.ref q_1)) 3 (.ref q_5)))), (q_1, .inr (10, xo_Design (va_up (va_up (va_up (va_up (va_up (va_up (va_up (va_up (va_up (va_up (va_up (va_up dv_Design 0 (.ref q_2)) 1 (.ref q_3)) 2 (.ref q_4)) 6 (.ref q_4)) 7 (.ref q_5)) 8 (.ref q_6)) 9 (.ref q_7)) 10 (.ref q_8)) 11 (.ref q_9)) 13 (.ref q_15)) 14 (.ref q_16)) 15 (.ref q_17)))), (q_2, .inr (11, xo_Parts (va_up (va_up (va_up (va_up (va_up (va_up (va_up (va_up (va_up (va_up (va_up (va_up dv_Parts 1 (.ref q_2)) 2 (.ref q_3)) 3 (.ref q_4)) 4 (.ref q_4)) 5 (.ref q_5)) 6 (.ref q_6)) 8 (.ref q_7)) 9 (.ref q_8)) 10 (.ref q_9)) 12 (.ref q_10)) 13 (.ref q_11)) 14 (.ref q_12)))), (q_3, .inr (12, xo_Code (va_up (va_up (va_up dv_Code 0 (.ref q_2)) 2 (.ref q_3)) 3 (.ref q_4)))), (q_4, .inl (cB, 65536, .inl (fun _ => 0)))]) [0, 1, 2, 3, 4] rfl
  have hD := hD.sub (ws' := [(h0, .inr (9, xo_Circuit (va_up (va_up f0 0 (.ref q_1)) 3 (.ref q_5)))), (q_1, .inr (10, xo_Design (va_up (va_up (va_up (va_up (va_up (va_up (va_up (va_up (va_up (va_up (va_up (va_up dv_Design 0 (.ref q_2)) 1 (.ref q_3)) 2 (.ref q_4)) 6 (.ref q_4)) 7 (.ref q_5)) 8 (.ref q_6)) 9 (.ref q_7)) 10 (.ref q_8)) 11 (.ref q_9)) 13 (.ref q_15)) 14 (.ref q_16)) 15 (.ref q_17)))), (q_2, .inr (11, xo_Parts (va_up (va_up (va_up (va_up (va_up (va_up (va_up (va_up (va_up (va_up (va_up (va_up dv_Parts 1 (.ref q_2)) 2 (.ref q_3)) 3 (.ref q_4)) 4 (.ref q_4)) 5 (.ref q_5)) 6 (.ref q_6)) 8 (.ref q_7)) 9 (.ref q_8)) 10 (.ref q_9)) 12 (.ref q_10)) 13 (.ref q_11)) 14 (.ref q_12)))), (q_3, .inr (12, xo_Code (va_up (va_up (va_up dv_Code 0 (.ref q_2)) 2 (.ref q_3)) 3 (.ref q_4)))), (q_4, .inl (cB, 65536, .inl (fun _ => 0)))]) [0, 1, 2, 3, 4] (by decide) rfl
  refine lv_aload_n hx hb dn_Circuit_init_24 rfl (lv_at hl 0 rfl) ?_
  refine lv_sipush (v := 257) hx hb dn_Circuit_init_25 (by decide) ?_
  refine xk_newI 257 hx hb (hg _ wn_1_119) hK hP hD hS hA 0 rfl rfl (Nat.le_of_ble_eq_true rfl) (Nat.le_of_ble_eq_true rfl) (Nat.le_of_ble_eq_true rfl) dn_Circuit_init_28 (fun q_6 H hP hD hS => ?_)
  have hP : va_P (dC, dI) xcl [(h0, .inr (9, xo_Circuit (va_up (va_up f0 0 (.ref q_1)) 3 (.ref q_5)))), (q_1, .inr (10, xo_Design (va_up (va_up (va_up (va_up (va_up (va_up (va_up (va_up (va_up (va_up (va_up (va_up dv_Design 0 (.ref q_2)) 1 (.ref q_3)) 2 (.ref q_4)) 6 (.ref q_4)) 7 (.ref q_5)) 8 (.ref q_6)) 9 (.ref q_7)) 10 (.ref q_8)) 11 (.ref q_9)) 13 (.ref q_15)) 14 (.ref q_16)) 15 (.ref q_17)))), (q_2, .inr (11, xo_Parts (va_up (va_up (va_up (va_up (va_up (va_up (va_up (va_up (va_up (va_up (va_up (va_up dv_Parts 1 (.ref q_2)) 2 (.ref q_3)) 3 (.ref q_4)) 4 (.ref q_4)) 5 (.ref q_5)) 6 (.ref q_6)) 8 (.ref q_7)) 9 (.ref q_8)) 10 (.ref q_9)) 12 (.ref q_10)) 13 (.ref q_11)) 14 (.ref q_12)))), (q_3, .inr (12, xo_Code (va_up (va_up (va_up dv_Code 0 (.ref q_2)) 2 (.ref q_3)) 3 (.ref q_4)))), (q_4, .inl (cB, 65536, .inl (fun _ => 0))), (q_6, .inl (cI, 257, .inl (fun _ => 0)))] H := hP
  have hD : va_D A [(h0, .inr (9, xo_Circuit (va_up (va_up f0 0 (.ref q_1)) 3 (.ref q_5)))), (q_1, .inr (10, xo_Design (va_up (va_up (va_up (va_up (va_up (va_up (va_up (va_up (va_up (va_up (va_up (va_up dv_Design 0 (.ref q_2)) 1 (.ref q_3)) 2 (.ref q_4)) 6 (.ref q_4)) 7 (.ref q_5)) 8 (.ref q_6)) 9 (.ref q_7)) 10 (.ref q_8)) 11 (.ref q_9)) 13 (.ref q_15)) 14 (.ref q_16)) 15 (.ref q_17)))), (q_2, .inr (11, xo_Parts (va_up (va_up (va_up (va_up (va_up (va_up (va_up (va_up (va_up (va_up (va_up (va_up dv_Parts 1 (.ref q_2)) 2 (.ref q_3)) 3 (.ref q_4)) 4 (.ref q_4)) 5 (.ref q_5)) 6 (.ref q_6)) 8 (.ref q_7)) 9 (.ref q_8)) 10 (.ref q_9)) 12 (.ref q_10)) 13 (.ref q_11)) 14 (.ref q_12)))), (q_3, .inr (12, xo_Code (va_up (va_up (va_up dv_Code 0 (.ref q_2)) 2 (.ref q_3)) 3 (.ref q_4)))), (q_4, .inl (cB, 65536, .inl (fun _ => 0))), (q_6, .inl (cI, 257, .inl (fun _ => 0)))] := hD
  refine va_put (D := (dC, dI)) (ci := 9) (v := .ref q_6) (ty := (.array .int)) (C := rn_Circuit) (T := fn_Circuit) (N := 14) hx hb hg in_Circuit tn_Circuit tk_Circuit nn_Circuit hown hK hP hD hS 0 rfl rfl 4 (by decide) (hg _ wn_3_74) (fun _ h9 => h9) rfl (tk_Circuit 4 (by decide)) rfl rfl (Nat.le_of_ble_eq_true rfl) dn_Circuit_init_30 (fun H locs hP hD hS => ?_)
  have hP : va_P (dC, dI) xcl [(h0, .inr (9, xo_Circuit (va_up (va_up (va_up f0 0 (.ref q_1)) 3 (.ref q_5)) 4 (.ref q_6)))), (q_1, .inr (10, xo_Design (va_up (va_up (va_up (va_up (va_up (va_up (va_up (va_up (va_up (va_up (va_up (va_up dv_Design 0 (.ref q_2)) 1 (.ref q_3)) 2 (.ref q_4)) 6 (.ref q_4)) 7 (.ref q_5)) 8 (.ref q_6)) 9 (.ref q_7)) 10 (.ref q_8)) 11 (.ref q_9)) 13 (.ref q_15)) 14 (.ref q_16)) 15 (.ref q_17)))), (q_2, .inr (11, xo_Parts (va_up (va_up (va_up (va_up (va_up (va_up (va_up (va_up (va_up (va_up (va_up (va_up dv_Parts 1 (.ref q_2)) 2 (.ref q_3)) 3 (.ref q_4)) 4 (.ref q_4)) 5 (.ref q_5)) 6 (.ref q_6)) 8 (.ref q_7)) 9 (.ref q_8)) 10 (.ref q_9)) 12 (.ref q_10)) 13 (.ref q_11)) 14 (.ref q_12)))), (q_3, .inr (12, xo_Code (va_up (va_up (va_up dv_Code 0 (.ref q_2)) 2 (.ref q_3)) 3 (.ref q_4)))), (q_4, .inl (cB, 65536, .inl (fun _ => 0))), (q_6, .inl (cI, 257, .inl (fun _ => 0)))] H := hP
  have hD : va_D A [(h0, .inr (9, xo_Circuit (va_up (va_up (va_up f0 0 (.ref q_1)) 3 (.ref q_5)) 4 (.ref q_6)))), (q_1, .inr (10, xo_Design (va_up (va_up (va_up (va_up (va_up (va_up (va_up (va_up (va_up (va_up (va_up (va_up dv_Design 0 (.ref q_2)) 1 (.ref q_3)) 2 (.ref q_4)) 6 (.ref q_4)) 7 (.ref q_5)) 8 (.ref q_6)) 9 (.ref q_7)) 10 (.ref q_8)) 11 (.ref q_9)) 13 (.ref q_15)) 14 (.ref q_16)) 15 (.ref q_17)))), (q_2, .inr (11, xo_Parts (va_up (va_up (va_up (va_up (va_up (va_up (va_up (va_up (va_up (va_up (va_up (va_up dv_Parts 1 (.ref q_2)) 2 (.ref q_3)) 3 (.ref q_4)) 4 (.ref q_4)) 5 (.ref q_5)) 6 (.ref q_6)) 8 (.ref q_7)) 9 (.ref q_8)) 10 (.ref q_9)) 12 (.ref q_10)) 13 (.ref q_11)) 14 (.ref q_12)))), (q_3, .inr (12, xo_Code (va_up (va_up (va_up dv_Code 0 (.ref q_2)) 2 (.ref q_3)) 3 (.ref q_4)))), (q_4, .inl (cB, 65536, .inl (fun _ => 0))), (q_6, .inl (cI, 257, .inl (fun _ => 0)))] := hD
  have hP := hP.sub (ws' := [(h0, .inr (9, xo_Circuit (va_up (va_up (va_up f0 0 (.ref q_1)) 3 (.ref q_5)) 4 (.ref q_6)))), (q_1, .inr (10, xo_Design (va_up (va_up (va_up (va_up (va_up (va_up (va_up (va_up (va_up (va_up (va_up (va_up dv_Design 0 (.ref q_2)) 1 (.ref q_3)) 2 (.ref q_4)) 6 (.ref q_4)) 7 (.ref q_5)) 8 (.ref q_6)) 9 (.ref q_7)) 10 (.ref q_8)) 11 (.ref q_9)) 13 (.ref q_15)) 14 (.ref q_16)) 15 (.ref q_17)))), (q_2, .inr (11, xo_Parts (va_up (va_up (va_up (va_up (va_up (va_up (va_up (va_up (va_up (va_up (va_up (va_up dv_Parts 1 (.ref q_2)) 2 (.ref q_3)) 3 (.ref q_4)) 4 (.ref q_4)) 5 (.ref q_5)) 6 (.ref q_6)) 8 (.ref q_7)) 9 (.ref q_8)) 10 (.ref q_9)) 12 (.ref q_10)) 13 (.ref q_11)) 14 (.ref q_12)))), (q_3, .inr (12, xo_Code (va_up (va_up (va_up dv_Code 0 (.ref q_2)) 2 (.ref q_3)) 3 (.ref q_4)))), (q_4, .inl (cB, 65536, .inl (fun _ => 0)))]) [0, 1, 2, 3, 4] rfl
  have hD := hD.sub (ws' := [(h0, .inr (9, xo_Circuit (va_up (va_up (va_up f0 0 (.ref q_1)) 3 (.ref q_5)) 4 (.ref q_6)))), (q_1, .inr (10, xo_Design (va_up (va_up (va_up (va_up (va_up (va_up (va_up (va_up (va_up (va_up (va_up (va_up dv_Design 0 (.ref q_2)) 1 (.ref q_3)) 2 (.ref q_4)) 6 (.ref q_4)) 7 (.ref q_5)) 8 (.ref q_6)) 9 (.ref q_7)) 10 (.ref q_8)) 11 (.ref q_9)) 13 (.ref q_15)) 14 (.ref q_16)) 15 (.ref q_17)))), (q_2, .inr (11, xo_Parts (va_up (va_up (va_up (va_up (va_up (va_up (va_up (va_up (va_up (va_up (va_up (va_up dv_Parts 1 (.ref q_2)) 2 (.ref q_3)) 3 (.ref q_4)) 4 (.ref q_4)) 5 (.ref q_5)) 6 (.ref q_6)) 8 (.ref q_7)) 9 (.ref q_8)) 10 (.ref q_9)) 12 (.ref q_10)) 13 (.ref q_11)) 14 (.ref q_12)))), (q_3, .inr (12, xo_Code (va_up (va_up (va_up dv_Code 0 (.ref q_2)) 2 (.ref q_3)) 3 (.ref q_4)))), (q_4, .inl (cB, 65536, .inl (fun _ => 0)))]) [0, 1, 2, 3, 4] (by decide) rfl
  refine lv_aload_n hx hb dn_Circuit_init_33 rfl (lv_at hl 0 rfl) ?_
  refine lv_sipush (v := 257) hx hb dn_Circuit_init_34 (by decide) ?_
  refine xk_newI 257 hx hb (hg _ wn_1_119) hK hP hD hS hA 0 rfl rfl (Nat.le_of_ble_eq_true rfl) (Nat.le_of_ble_eq_true rfl) (Nat.le_of_ble_eq_true rfl) dn_Circuit_init_37 (fun q_7 H hP hD hS => ?_)
  have hP : va_P (dC, dI) xcl [(h0, .inr (9, xo_Circuit (va_up (va_up (va_up f0 0 (.ref q_1)) 3 (.ref q_5)) 4 (.ref q_6)))), (q_1, .inr (10, xo_Design (va_up (va_up (va_up (va_up (va_up (va_up (va_up (va_up (va_up (va_up (va_up (va_up dv_Design 0 (.ref q_2)) 1 (.ref q_3)) 2 (.ref q_4)) 6 (.ref q_4)) 7 (.ref q_5)) 8 (.ref q_6)) 9 (.ref q_7)) 10 (.ref q_8)) 11 (.ref q_9)) 13 (.ref q_15)) 14 (.ref q_16)) 15 (.ref q_17)))), (q_2, .inr (11, xo_Parts (va_up (va_up (va_up (va_up (va_up (va_up (va_up (va_up (va_up (va_up (va_up (va_up dv_Parts 1 (.ref q_2)) 2 (.ref q_3)) 3 (.ref q_4)) 4 (.ref q_4)) 5 (.ref q_5)) 6 (.ref q_6)) 8 (.ref q_7)) 9 (.ref q_8)) 10 (.ref q_9)) 12 (.ref q_10)) 13 (.ref q_11)) 14 (.ref q_12)))), (q_3, .inr (12, xo_Code (va_up (va_up (va_up dv_Code 0 (.ref q_2)) 2 (.ref q_3)) 3 (.ref q_4)))), (q_4, .inl (cB, 65536, .inl (fun _ => 0))), (q_7, .inl (cI, 257, .inl (fun _ => 0)))] H := hP
  have hD : va_D A [(h0, .inr (9, xo_Circuit (va_up (va_up (va_up f0 0 (.ref q_1)) 3 (.ref q_5)) 4 (.ref q_6)))), (q_1, .inr (10, xo_Design (va_up (va_up (va_up (va_up (va_up (va_up (va_up (va_up (va_up (va_up (va_up (va_up dv_Design 0 (.ref q_2)) 1 (.ref q_3)) 2 (.ref q_4)) 6 (.ref q_4)) 7 (.ref q_5)) 8 (.ref q_6)) 9 (.ref q_7)) 10 (.ref q_8)) 11 (.ref q_9)) 13 (.ref q_15)) 14 (.ref q_16)) 15 (.ref q_17)))), (q_2, .inr (11, xo_Parts (va_up (va_up (va_up (va_up (va_up (va_up (va_up (va_up (va_up (va_up (va_up (va_up dv_Parts 1 (.ref q_2)) 2 (.ref q_3)) 3 (.ref q_4)) 4 (.ref q_4)) 5 (.ref q_5)) 6 (.ref q_6)) 8 (.ref q_7)) 9 (.ref q_8)) 10 (.ref q_9)) 12 (.ref q_10)) 13 (.ref q_11)) 14 (.ref q_12)))), (q_3, .inr (12, xo_Code (va_up (va_up (va_up dv_Code 0 (.ref q_2)) 2 (.ref q_3)) 3 (.ref q_4)))), (q_4, .inl (cB, 65536, .inl (fun _ => 0))), (q_7, .inl (cI, 257, .inl (fun _ => 0)))] := hD
  refine va_putF (D := (dC, dI)) (ci := 9) (v := .ref q_7) (ty := (.array .int)) (C := rn_Circuit) (T := fn_Circuit) (N := 14) hx hb hg in_Circuit tn_Circuit tk_Circuit nn_Circuit hown hK hP hD hS 0 rfl rfl 5 (by decide) (hg _ wn_3_76) (fun _ h9 => h9) rfl hin rfl (tk_Circuit 5 (by decide)) rfl rfl (Nat.le_of_ble_eq_true rfl) dn_Circuit_init_39 (fun H locs hP hD hS => ?_)
  have hP : va_P (dC, dI) xcl [(h0, .inr (9, xo_Circuit (va_up (va_up (va_up (va_up f0 0 (.ref q_1)) 3 (.ref q_5)) 4 (.ref q_6)) 5 (.ref q_7)))), (q_1, .inr (10, xo_Design (va_up (va_up (va_up (va_up (va_up (va_up (va_up (va_up (va_up (va_up (va_up (va_up dv_Design 0 (.ref q_2)) 1 (.ref q_3)) 2 (.ref q_4)) 6 (.ref q_4)) 7 (.ref q_5)) 8 (.ref q_6)) 9 (.ref q_7)) 10 (.ref q_8)) 11 (.ref q_9)) 13 (.ref q_15)) 14 (.ref q_16)) 15 (.ref q_17)))), (q_2, .inr (11, xo_Parts (va_up (va_up (va_up (va_up (va_up (va_up (va_up (va_up (va_up (va_up (va_up (va_up dv_Parts 1 (.ref q_2)) 2 (.ref q_3)) 3 (.ref q_4)) 4 (.ref q_4)) 5 (.ref q_5)) 6 (.ref q_6)) 8 (.ref q_7)) 9 (.ref q_8)) 10 (.ref q_9)) 12 (.ref q_10)) 13 (.ref q_11)) 14 (.ref q_12)))), (q_3, .inr (12, xo_Code (va_up (va_up (va_up dv_Code 0 (.ref q_2)) 2 (.ref q_3)) 3 (.ref q_4)))), (q_4, .inl (cB, 65536, .inl (fun _ => 0))), (q_7, .inl (cI, 257, .inl (fun _ => 0)))] H := hP
  have hD : va_D A [(h0, .inr (9, xo_Circuit (va_up (va_up (va_up (va_up f0 0 (.ref q_1)) 3 (.ref q_5)) 4 (.ref q_6)) 5 (.ref q_7)))), (q_1, .inr (10, xo_Design (va_up (va_up (va_up (va_up (va_up (va_up (va_up (va_up (va_up (va_up (va_up (va_up dv_Design 0 (.ref q_2)) 1 (.ref q_3)) 2 (.ref q_4)) 6 (.ref q_4)) 7 (.ref q_5)) 8 (.ref q_6)) 9 (.ref q_7)) 10 (.ref q_8)) 11 (.ref q_9)) 13 (.ref q_15)) 14 (.ref q_16)) 15 (.ref q_17)))), (q_2, .inr (11, xo_Parts (va_up (va_up (va_up (va_up (va_up (va_up (va_up (va_up (va_up (va_up (va_up (va_up dv_Parts 1 (.ref q_2)) 2 (.ref q_3)) 3 (.ref q_4)) 4 (.ref q_4)) 5 (.ref q_5)) 6 (.ref q_6)) 8 (.ref q_7)) 9 (.ref q_8)) 10 (.ref q_9)) 12 (.ref q_10)) 13 (.ref q_11)) 14 (.ref q_12)))), (q_3, .inr (12, xo_Code (va_up (va_up (va_up dv_Code 0 (.ref q_2)) 2 (.ref q_3)) 3 (.ref q_4)))), (q_4, .inl (cB, 65536, .inl (fun _ => 0))), (q_7, .inl (cI, 257, .inl (fun _ => 0)))] := hD
  have hP := hP.sub (ws' := [(h0, .inr (9, xo_Circuit (va_up (va_up (va_up (va_up f0 0 (.ref q_1)) 3 (.ref q_5)) 4 (.ref q_6)) 5 (.ref q_7)))), (q_1, .inr (10, xo_Design (va_up (va_up (va_up (va_up (va_up (va_up (va_up (va_up (va_up (va_up (va_up (va_up dv_Design 0 (.ref q_2)) 1 (.ref q_3)) 2 (.ref q_4)) 6 (.ref q_4)) 7 (.ref q_5)) 8 (.ref q_6)) 9 (.ref q_7)) 10 (.ref q_8)) 11 (.ref q_9)) 13 (.ref q_15)) 14 (.ref q_16)) 15 (.ref q_17)))), (q_2, .inr (11, xo_Parts (va_up (va_up (va_up (va_up (va_up (va_up (va_up (va_up (va_up (va_up (va_up (va_up dv_Parts 1 (.ref q_2)) 2 (.ref q_3)) 3 (.ref q_4)) 4 (.ref q_4)) 5 (.ref q_5)) 6 (.ref q_6)) 8 (.ref q_7)) 9 (.ref q_8)) 10 (.ref q_9)) 12 (.ref q_10)) 13 (.ref q_11)) 14 (.ref q_12)))), (q_3, .inr (12, xo_Code (va_up (va_up (va_up dv_Code 0 (.ref q_2)) 2 (.ref q_3)) 3 (.ref q_4)))), (q_4, .inl (cB, 65536, .inl (fun _ => 0)))]) [0, 1, 2, 3, 4] rfl
  have hD := hD.sub (ws' := [(h0, .inr (9, xo_Circuit (va_up (va_up (va_up (va_up f0 0 (.ref q_1)) 3 (.ref q_5)) 4 (.ref q_6)) 5 (.ref q_7)))), (q_1, .inr (10, xo_Design (va_up (va_up (va_up (va_up (va_up (va_up (va_up (va_up (va_up (va_up (va_up (va_up dv_Design 0 (.ref q_2)) 1 (.ref q_3)) 2 (.ref q_4)) 6 (.ref q_4)) 7 (.ref q_5)) 8 (.ref q_6)) 9 (.ref q_7)) 10 (.ref q_8)) 11 (.ref q_9)) 13 (.ref q_15)) 14 (.ref q_16)) 15 (.ref q_17)))), (q_2, .inr (11, xo_Parts (va_up (va_up (va_up (va_up (va_up (va_up (va_up (va_up (va_up (va_up (va_up (va_up dv_Parts 1 (.ref q_2)) 2 (.ref q_3)) 3 (.ref q_4)) 4 (.ref q_4)) 5 (.ref q_5)) 6 (.ref q_6)) 8 (.ref q_7)) 9 (.ref q_8)) 10 (.ref q_9)) 12 (.ref q_10)) 13 (.ref q_11)) 14 (.ref q_12)))), (q_3, .inr (12, xo_Code (va_up (va_up (va_up dv_Code 0 (.ref q_2)) 2 (.ref q_3)) 3 (.ref q_4)))), (q_4, .inl (cB, 65536, .inl (fun _ => 0)))]) [0, 1, 2, 3, 4] (by decide) rfl
  refine lv_aload_n hx hb dn_Circuit_init_42 rfl (lv_at hl 0 rfl) ?_
  refine lv_sipush (v := 257) hx hb dn_Circuit_init_43 (by decide) ?_
  refine xk_newI 257 hx hb (hg _ wn_1_119) hK hP hD hS hA 0 rfl rfl (Nat.le_of_ble_eq_true rfl) (Nat.le_of_ble_eq_true rfl) (Nat.le_of_ble_eq_true rfl) dn_Circuit_init_46 (fun q_8 H hP hD hS => ?_)
  have hP : va_P (dC, dI) xcl [(h0, .inr (9, xo_Circuit (va_up (va_up (va_up (va_up f0 0 (.ref q_1)) 3 (.ref q_5)) 4 (.ref q_6)) 5 (.ref q_7)))), (q_1, .inr (10, xo_Design (va_up (va_up (va_up (va_up (va_up (va_up (va_up (va_up (va_up (va_up (va_up (va_up dv_Design 0 (.ref q_2)) 1 (.ref q_3)) 2 (.ref q_4)) 6 (.ref q_4)) 7 (.ref q_5)) 8 (.ref q_6)) 9 (.ref q_7)) 10 (.ref q_8)) 11 (.ref q_9)) 13 (.ref q_15)) 14 (.ref q_16)) 15 (.ref q_17)))), (q_2, .inr (11, xo_Parts (va_up (va_up (va_up (va_up (va_up (va_up (va_up (va_up (va_up (va_up (va_up (va_up dv_Parts 1 (.ref q_2)) 2 (.ref q_3)) 3 (.ref q_4)) 4 (.ref q_4)) 5 (.ref q_5)) 6 (.ref q_6)) 8 (.ref q_7)) 9 (.ref q_8)) 10 (.ref q_9)) 12 (.ref q_10)) 13 (.ref q_11)) 14 (.ref q_12)))), (q_3, .inr (12, xo_Code (va_up (va_up (va_up dv_Code 0 (.ref q_2)) 2 (.ref q_3)) 3 (.ref q_4)))), (q_4, .inl (cB, 65536, .inl (fun _ => 0))), (q_8, .inl (cI, 257, .inl (fun _ => 0)))] H := hP
  have hD : va_D A [(h0, .inr (9, xo_Circuit (va_up (va_up (va_up (va_up f0 0 (.ref q_1)) 3 (.ref q_5)) 4 (.ref q_6)) 5 (.ref q_7)))), (q_1, .inr (10, xo_Design (va_up (va_up (va_up (va_up (va_up (va_up (va_up (va_up (va_up (va_up (va_up (va_up dv_Design 0 (.ref q_2)) 1 (.ref q_3)) 2 (.ref q_4)) 6 (.ref q_4)) 7 (.ref q_5)) 8 (.ref q_6)) 9 (.ref q_7)) 10 (.ref q_8)) 11 (.ref q_9)) 13 (.ref q_15)) 14 (.ref q_16)) 15 (.ref q_17)))), (q_2, .inr (11, xo_Parts (va_up (va_up (va_up (va_up (va_up (va_up (va_up (va_up (va_up (va_up (va_up (va_up dv_Parts 1 (.ref q_2)) 2 (.ref q_3)) 3 (.ref q_4)) 4 (.ref q_4)) 5 (.ref q_5)) 6 (.ref q_6)) 8 (.ref q_7)) 9 (.ref q_8)) 10 (.ref q_9)) 12 (.ref q_10)) 13 (.ref q_11)) 14 (.ref q_12)))), (q_3, .inr (12, xo_Code (va_up (va_up (va_up dv_Code 0 (.ref q_2)) 2 (.ref q_3)) 3 (.ref q_4)))), (q_4, .inl (cB, 65536, .inl (fun _ => 0))), (q_8, .inl (cI, 257, .inl (fun _ => 0)))] := hD
  refine va_putF (D := (dC, dI)) (ci := 9) (v := .ref q_8) (ty := (.array .int)) (C := rn_Circuit) (T := fn_Circuit) (N := 14) hx hb hg in_Circuit tn_Circuit tk_Circuit nn_Circuit hown hK hP hD hS 0 rfl rfl 6 (by decide) (hg _ wn_3_77) (fun _ h9 => h9) rfl hin rfl (tk_Circuit 6 (by decide)) rfl rfl (Nat.le_of_ble_eq_true rfl) dn_Circuit_init_48 (fun H locs hP hD hS => ?_)
  have hP : va_P (dC, dI) xcl [(h0, .inr (9, xo_Circuit (va_up (va_up (va_up (va_up (va_up f0 0 (.ref q_1)) 3 (.ref q_5)) 4 (.ref q_6)) 5 (.ref q_7)) 6 (.ref q_8)))), (q_1, .inr (10, xo_Design (va_up (va_up (va_up (va_up (va_up (va_up (va_up (va_up (va_up (va_up (va_up (va_up dv_Design 0 (.ref q_2)) 1 (.ref q_3)) 2 (.ref q_4)) 6 (.ref q_4)) 7 (.ref q_5)) 8 (.ref q_6)) 9 (.ref q_7)) 10 (.ref q_8)) 11 (.ref q_9)) 13 (.ref q_15)) 14 (.ref q_16)) 15 (.ref q_17)))), (q_2, .inr (11, xo_Parts (va_up (va_up (va_up (va_up (va_up (va_up (va_up (va_up (va_up (va_up (va_up (va_up dv_Parts 1 (.ref q_2)) 2 (.ref q_3)) 3 (.ref q_4)) 4 (.ref q_4)) 5 (.ref q_5)) 6 (.ref q_6)) 8 (.ref q_7)) 9 (.ref q_8)) 10 (.ref q_9)) 12 (.ref q_10)) 13 (.ref q_11)) 14 (.ref q_12)))), (q_3, .inr (12, xo_Code (va_up (va_up (va_up dv_Code 0 (.ref q_2)) 2 (.ref q_3)) 3 (.ref q_4)))), (q_4, .inl (cB, 65536, .inl (fun _ => 0))), (q_8, .inl (cI, 257, .inl (fun _ => 0)))] H := hP
  have hD : va_D A [(h0, .inr (9, xo_Circuit (va_up (va_up (va_up (va_up (va_up f0 0 (.ref q_1)) 3 (.ref q_5)) 4 (.ref q_6)) 5 (.ref q_7)) 6 (.ref q_8)))), (q_1, .inr (10, xo_Design (va_up (va_up (va_up (va_up (va_up (va_up (va_up (va_up (va_up (va_up (va_up (va_up dv_Design 0 (.ref q_2)) 1 (.ref q_3)) 2 (.ref q_4)) 6 (.ref q_4)) 7 (.ref q_5)) 8 (.ref q_6)) 9 (.ref q_7)) 10 (.ref q_8)) 11 (.ref q_9)) 13 (.ref q_15)) 14 (.ref q_16)) 15 (.ref q_17)))), (q_2, .inr (11, xo_Parts (va_up (va_up (va_up (va_up (va_up (va_up (va_up (va_up (va_up (va_up (va_up (va_up dv_Parts 1 (.ref q_2)) 2 (.ref q_3)) 3 (.ref q_4)) 4 (.ref q_4)) 5 (.ref q_5)) 6 (.ref q_6)) 8 (.ref q_7)) 9 (.ref q_8)) 10 (.ref q_9)) 12 (.ref q_10)) 13 (.ref q_11)) 14 (.ref q_12)))), (q_3, .inr (12, xo_Code (va_up (va_up (va_up dv_Code 0 (.ref q_2)) 2 (.ref q_3)) 3 (.ref q_4)))), (q_4, .inl (cB, 65536, .inl (fun _ => 0))), (q_8, .inl (cI, 257, .inl (fun _ => 0)))] := hD
  have hP := hP.sub (ws' := [(h0, .inr (9, xo_Circuit (va_up (va_up (va_up (va_up (va_up f0 0 (.ref q_1)) 3 (.ref q_5)) 4 (.ref q_6)) 5 (.ref q_7)) 6 (.ref q_8)))), (q_1, .inr (10, xo_Design (va_up (va_up (va_up (va_up (va_up (va_up (va_up (va_up (va_up (va_up (va_up (va_up dv_Design 0 (.ref q_2)) 1 (.ref q_3)) 2 (.ref q_4)) 6 (.ref q_4)) 7 (.ref q_5)) 8 (.ref q_6)) 9 (.ref q_7)) 10 (.ref q_8)) 11 (.ref q_9)) 13 (.ref q_15)) 14 (.ref q_16)) 15 (.ref q_17)))), (q_2, .inr (11, xo_Parts (va_up (va_up (va_up (va_up (va_up (va_up (va_up (va_up (va_up (va_up (va_up (va_up dv_Parts 1 (.ref q_2)) 2 (.ref q_3)) 3 (.ref q_4)) 4 (.ref q_4)) 5 (.ref q_5)) 6 (.ref q_6)) 8 (.ref q_7)) 9 (.ref q_8)) 10 (.ref q_9)) 12 (.ref q_10)) 13 (.ref q_11)) 14 (.ref q_12)))), (q_3, .inr (12, xo_Code (va_up (va_up (va_up dv_Code 0 (.ref q_2)) 2 (.ref q_3)) 3 (.ref q_4)))), (q_4, .inl (cB, 65536, .inl (fun _ => 0)))]) [0, 1, 2, 3, 4] rfl
  have hD := hD.sub (ws' := [(h0, .inr (9, xo_Circuit (va_up (va_up (va_up (va_up (va_up f0 0 (.ref q_1)) 3 (.ref q_5)) 4 (.ref q_6)) 5 (.ref q_7)) 6 (.ref q_8)))), (q_1, .inr (10, xo_Design (va_up (va_up (va_up (va_up (va_up (va_up (va_up (va_up (va_up (va_up (va_up (va_up dv_Design 0 (.ref q_2)) 1 (.ref q_3)) 2 (.ref q_4)) 6 (.ref q_4)) 7 (.ref q_5)) 8 (.ref q_6)) 9 (.ref q_7)) 10 (.ref q_8)) 11 (.ref q_9)) 13 (.ref q_15)) 14 (.ref q_16)) 15 (.ref q_17)))), (q_2, .inr (11, xo_Parts (va_up (va_up (va_up (va_up (va_up (va_up (va_up (va_up (va_up (va_up (va_up (va_up dv_Parts 1 (.ref q_2)) 2 (.ref q_3)) 3 (.ref q_4)) 4 (.ref q_4)) 5 (.ref q_5)) 6 (.ref q_6)) 8 (.ref q_7)) 9 (.ref q_8)) 10 (.ref q_9)) 12 (.ref q_10)) 13 (.ref q_11)) 14 (.ref q_12)))), (q_3, .inr (12, xo_Code (va_up (va_up (va_up dv_Code 0 (.ref q_2)) 2 (.ref q_3)) 3 (.ref q_4)))), (q_4, .inl (cB, 65536, .inl (fun _ => 0)))]) [0, 1, 2, 3, 4] (by decide) rfl
  refine lv_aload_n hx hb dn_Circuit_init_51 rfl (lv_at hl 0 rfl) ?_
  refine lv_sipush (v := 1024) hx hb dn_Circuit_init_52 (by decide) ?_
  refine xk_newI 1024 hx hb (hg _ wn_1_119) hK hP hD hS hA 0 rfl rfl (Nat.le_of_ble_eq_true rfl) (Nat.le_of_ble_eq_true rfl) (Nat.le_of_ble_eq_true rfl) dn_Circuit_init_55 (fun q_9 H hP hD hS => ?_)
  have hP : va_P (dC, dI) xcl [(h0, .inr (9, xo_Circuit (va_up (va_up (va_up (va_up (va_up f0 0 (.ref q_1)) 3 (.ref q_5)) 4 (.ref q_6)) 5 (.ref q_7)) 6 (.ref q_8)))), (q_1, .inr (10, xo_Design (va_up (va_up (va_up (va_up (va_up (va_up (va_up (va_up (va_up (va_up (va_up (va_up dv_Design 0 (.ref q_2)) 1 (.ref q_3)) 2 (.ref q_4)) 6 (.ref q_4)) 7 (.ref q_5)) 8 (.ref q_6)) 9 (.ref q_7)) 10 (.ref q_8)) 11 (.ref q_9)) 13 (.ref q_15)) 14 (.ref q_16)) 15 (.ref q_17)))), (q_2, .inr (11, xo_Parts (va_up (va_up (va_up (va_up (va_up (va_up (va_up (va_up (va_up (va_up (va_up (va_up dv_Parts 1 (.ref q_2)) 2 (.ref q_3)) 3 (.ref q_4)) 4 (.ref q_4)) 5 (.ref q_5)) 6 (.ref q_6)) 8 (.ref q_7)) 9 (.ref q_8)) 10 (.ref q_9)) 12 (.ref q_10)) 13 (.ref q_11)) 14 (.ref q_12)))), (q_3, .inr (12, xo_Code (va_up (va_up (va_up dv_Code 0 (.ref q_2)) 2 (.ref q_3)) 3 (.ref q_4)))), (q_4, .inl (cB, 65536, .inl (fun _ => 0))), (q_9, .inl (cI, 1024, .inl (fun _ => 0)))] H := hP
  have hD : va_D A [(h0, .inr (9, xo_Circuit (va_up (va_up (va_up (va_up (va_up f0 0 (.ref q_1)) 3 (.ref q_5)) 4 (.ref q_6)) 5 (.ref q_7)) 6 (.ref q_8)))), (q_1, .inr (10, xo_Design (va_up (va_up (va_up (va_up (va_up (va_up (va_up (va_up (va_up (va_up (va_up (va_up dv_Design 0 (.ref q_2)) 1 (.ref q_3)) 2 (.ref q_4)) 6 (.ref q_4)) 7 (.ref q_5)) 8 (.ref q_6)) 9 (.ref q_7)) 10 (.ref q_8)) 11 (.ref q_9)) 13 (.ref q_15)) 14 (.ref q_16)) 15 (.ref q_17)))), (q_2, .inr (11, xo_Parts (va_up (va_up (va_up (va_up (va_up (va_up (va_up (va_up (va_up (va_up (va_up (va_up dv_Parts 1 (.ref q_2)) 2 (.ref q_3)) 3 (.ref q_4)) 4 (.ref q_4)) 5 (.ref q_5)) 6 (.ref q_6)) 8 (.ref q_7)) 9 (.ref q_8)) 10 (.ref q_9)) 12 (.ref q_10)) 13 (.ref q_11)) 14 (.ref q_12)))), (q_3, .inr (12, xo_Code (va_up (va_up (va_up dv_Code 0 (.ref q_2)) 2 (.ref q_3)) 3 (.ref q_4)))), (q_4, .inl (cB, 65536, .inl (fun _ => 0))), (q_9, .inl (cI, 1024, .inl (fun _ => 0)))] := hD
  refine va_putF (D := (dC, dI)) (ci := 9) (v := .ref q_9) (ty := (.array .int)) (C := rn_Circuit) (T := fn_Circuit) (N := 14) hx hb hg in_Circuit tn_Circuit tk_Circuit nn_Circuit hown hK hP hD hS 0 rfl rfl 7 (by decide) (hg _ wn_3_78) (fun _ h9 => h9) rfl hin rfl (tk_Circuit 7 (by decide)) rfl rfl (Nat.le_of_ble_eq_true rfl) dn_Circuit_init_57 (fun H locs hP hD hS => ?_)
  have hP : va_P (dC, dI) xcl [(h0, .inr (9, xo_Circuit (va_up (va_up (va_up (va_up (va_up (va_up f0 0 (.ref q_1)) 3 (.ref q_5)) 4 (.ref q_6)) 5 (.ref q_7)) 6 (.ref q_8)) 7 (.ref q_9)))), (q_1, .inr (10, xo_Design (va_up (va_up (va_up (va_up (va_up (va_up (va_up (va_up (va_up (va_up (va_up (va_up dv_Design 0 (.ref q_2)) 1 (.ref q_3)) 2 (.ref q_4)) 6 (.ref q_4)) 7 (.ref q_5)) 8 (.ref q_6)) 9 (.ref q_7)) 10 (.ref q_8)) 11 (.ref q_9)) 13 (.ref q_15)) 14 (.ref q_16)) 15 (.ref q_17)))), (q_2, .inr (11, xo_Parts (va_up (va_up (va_up (va_up (va_up (va_up (va_up (va_up (va_up (va_up (va_up (va_up dv_Parts 1 (.ref q_2)) 2 (.ref q_3)) 3 (.ref q_4)) 4 (.ref q_4)) 5 (.ref q_5)) 6 (.ref q_6)) 8 (.ref q_7)) 9 (.ref q_8)) 10 (.ref q_9)) 12 (.ref q_10)) 13 (.ref q_11)) 14 (.ref q_12)))), (q_3, .inr (12, xo_Code (va_up (va_up (va_up dv_Code 0 (.ref q_2)) 2 (.ref q_3)) 3 (.ref q_4)))), (q_4, .inl (cB, 65536, .inl (fun _ => 0))), (q_9, .inl (cI, 1024, .inl (fun _ => 0)))] H := hP
  have hD : va_D A [(h0, .inr (9, xo_Circuit (va_up (va_up (va_up (va_up (va_up (va_up f0 0 (.ref q_1)) 3 (.ref q_5)) 4 (.ref q_6)) 5 (.ref q_7)) 6 (.ref q_8)) 7 (.ref q_9)))), (q_1, .inr (10, xo_Design (va_up (va_up (va_up (va_up (va_up (va_up (va_up (va_up (va_up (va_up (va_up (va_up dv_Design 0 (.ref q_2)) 1 (.ref q_3)) 2 (.ref q_4)) 6 (.ref q_4)) 7 (.ref q_5)) 8 (.ref q_6)) 9 (.ref q_7)) 10 (.ref q_8)) 11 (.ref q_9)) 13 (.ref q_15)) 14 (.ref q_16)) 15 (.ref q_17)))), (q_2, .inr (11, xo_Parts (va_up (va_up (va_up (va_up (va_up (va_up (va_up (va_up (va_up (va_up (va_up (va_up dv_Parts 1 (.ref q_2)) 2 (.ref q_3)) 3 (.ref q_4)) 4 (.ref q_4)) 5 (.ref q_5)) 6 (.ref q_6)) 8 (.ref q_7)) 9 (.ref q_8)) 10 (.ref q_9)) 12 (.ref q_10)) 13 (.ref q_11)) 14 (.ref q_12)))), (q_3, .inr (12, xo_Code (va_up (va_up (va_up dv_Code 0 (.ref q_2)) 2 (.ref q_3)) 3 (.ref q_4)))), (q_4, .inl (cB, 65536, .inl (fun _ => 0))), (q_9, .inl (cI, 1024, .inl (fun _ => 0)))] := hD
  have hP := hP.sub (ws' := [(h0, .inr (9, xo_Circuit (va_up (va_up (va_up (va_up (va_up (va_up f0 0 (.ref q_1)) 3 (.ref q_5)) 4 (.ref q_6)) 5 (.ref q_7)) 6 (.ref q_8)) 7 (.ref q_9)))), (q_1, .inr (10, xo_Design (va_up (va_up (va_up (va_up (va_up (va_up (va_up (va_up (va_up (va_up (va_up (va_up dv_Design 0 (.ref q_2)) 1 (.ref q_3)) 2 (.ref q_4)) 6 (.ref q_4)) 7 (.ref q_5)) 8 (.ref q_6)) 9 (.ref q_7)) 10 (.ref q_8)) 11 (.ref q_9)) 13 (.ref q_15)) 14 (.ref q_16)) 15 (.ref q_17)))), (q_2, .inr (11, xo_Parts (va_up (va_up (va_up (va_up (va_up (va_up (va_up (va_up (va_up (va_up (va_up (va_up dv_Parts 1 (.ref q_2)) 2 (.ref q_3)) 3 (.ref q_4)) 4 (.ref q_4)) 5 (.ref q_5)) 6 (.ref q_6)) 8 (.ref q_7)) 9 (.ref q_8)) 10 (.ref q_9)) 12 (.ref q_10)) 13 (.ref q_11)) 14 (.ref q_12)))), (q_3, .inr (12, xo_Code (va_up (va_up (va_up dv_Code 0 (.ref q_2)) 2 (.ref q_3)) 3 (.ref q_4)))), (q_4, .inl (cB, 65536, .inl (fun _ => 0)))]) [0, 1, 2, 3, 4] rfl
  have hD := hD.sub (ws' := [(h0, .inr (9, xo_Circuit (va_up (va_up (va_up (va_up (va_up (va_up f0 0 (.ref q_1)) 3 (.ref q_5)) 4 (.ref q_6)) 5 (.ref q_7)) 6 (.ref q_8)) 7 (.ref q_9)))), (q_1, .inr (10, xo_Design (va_up (va_up (va_up (va_up (va_up (va_up (va_up (va_up (va_up (va_up (va_up (va_up dv_Design 0 (.ref q_2)) 1 (.ref q_3)) 2 (.ref q_4)) 6 (.ref q_4)) 7 (.ref q_5)) 8 (.ref q_6)) 9 (.ref q_7)) 10 (.ref q_8)) 11 (.ref q_9)) 13 (.ref q_15)) 14 (.ref q_16)) 15 (.ref q_17)))), (q_2, .inr (11, xo_Parts (va_up (va_up (va_up (va_up (va_up (va_up (va_up (va_up (va_up (va_up (va_up (va_up dv_Parts 1 (.ref q_2)) 2 (.ref q_3)) 3 (.ref q_4)) 4 (.ref q_4)) 5 (.ref q_5)) 6 (.ref q_6)) 8 (.ref q_7)) 9 (.ref q_8)) 10 (.ref q_9)) 12 (.ref q_10)) 13 (.ref q_11)) 14 (.ref q_12)))), (q_3, .inr (12, xo_Code (va_up (va_up (va_up dv_Code 0 (.ref q_2)) 2 (.ref q_3)) 3 (.ref q_4)))), (q_4, .inl (cB, 65536, .inl (fun _ => 0)))]) [0, 1, 2, 3, 4] (by decide) rfl
  refine lv_aload_n hx hb dn_Circuit_init_60 rfl (lv_at hl 0 rfl) ?_
  refine lv_sipush (v := 1024) hx hb dn_Circuit_init_61 (by decide) ?_
  refine xk_newI 1024 hx hb (hg _ wn_1_119) hK hP hD hS hA 0 rfl rfl (Nat.le_of_ble_eq_true rfl) (Nat.le_of_ble_eq_true rfl) (Nat.le_of_ble_eq_true rfl) dn_Circuit_init_64 (fun q_10 H hP hD hS => ?_)
  have hP : va_P (dC, dI) xcl [(h0, .inr (9, xo_Circuit (va_up (va_up (va_up (va_up (va_up (va_up f0 0 (.ref q_1)) 3 (.ref q_5)) 4 (.ref q_6)) 5 (.ref q_7)) 6 (.ref q_8)) 7 (.ref q_9)))), (q_1, .inr (10, xo_Design (va_up (va_up (va_up (va_up (va_up (va_up (va_up (va_up (va_up (va_up (va_up (va_up dv_Design 0 (.ref q_2)) 1 (.ref q_3)) 2 (.ref q_4)) 6 (.ref q_4)) 7 (.ref q_5)) 8 (.ref q_6)) 9 (.ref q_7)) 10 (.ref q_8)) 11 (.ref q_9)) 13 (.ref q_15)) 14 (.ref q_16)) 15 (.ref q_17)))), (q_2, .inr (11, xo_Parts (va_up (va_up (va_up (va_up (va_up (va_up (va_up (va_up (va_up (va_up (va_up (va_up dv_Parts 1 (.ref q_2)) 2 (.ref q_3)) 3 (.ref q_4)) 4 (.ref q_4)) 5 (.ref q_5)) 6 (.ref q_6)) 8 (.ref q_7)) 9 (.ref q_8)) 10 (.ref q_9)) 12 (.ref q_10)) 13 (.ref q_11)) 14 (.ref q_12)))), (q_3, .inr (12, xo_Code (va_up (va_up (va_up dv_Code 0 (.ref q_2)) 2 (.ref q_3)) 3 (.ref q_4)))), (q_4, .inl (cB, 65536, .inl (fun _ => 0))), (q_10, .inl (cI, 1024, .inl (fun _ => 0)))] H := hP
  have hD : va_D A [(h0, .inr (9, xo_Circuit (va_up (va_up (va_up (va_up (va_up (va_up f0 0 (.ref q_1)) 3 (.ref q_5)) 4 (.ref q_6)) 5 (.ref q_7)) 6 (.ref q_8)) 7 (.ref q_9)))), (q_1, .inr (10, xo_Design (va_up (va_up (va_up (va_up (va_up (va_up (va_up (va_up (va_up (va_up (va_up (va_up dv_Design 0 (.ref q_2)) 1 (.ref q_3)) 2 (.ref q_4)) 6 (.ref q_4)) 7 (.ref q_5)) 8 (.ref q_6)) 9 (.ref q_7)) 10 (.ref q_8)) 11 (.ref q_9)) 13 (.ref q_15)) 14 (.ref q_16)) 15 (.ref q_17)))), (q_2, .inr (11, xo_Parts (va_up (va_up (va_up (va_up (va_up (va_up (va_up (va_up (va_up (va_up (va_up (va_up dv_Parts 1 (.ref q_2)) 2 (.ref q_3)) 3 (.ref q_4)) 4 (.ref q_4)) 5 (.ref q_5)) 6 (.ref q_6)) 8 (.ref q_7)) 9 (.ref q_8)) 10 (.ref q_9)) 12 (.ref q_10)) 13 (.ref q_11)) 14 (.ref q_12)))), (q_3, .inr (12, xo_Code (va_up (va_up (va_up dv_Code 0 (.ref q_2)) 2 (.ref q_3)) 3 (.ref q_4)))), (q_4, .inl (cB, 65536, .inl (fun _ => 0))), (q_10, .inl (cI, 1024, .inl (fun _ => 0)))] := hD
  refine va_putF (D := (dC, dI)) (ci := 9) (v := .ref q_10) (ty := (.array .int)) (C := rn_Circuit) (T := fn_Circuit) (N := 14) hx hb hg in_Circuit tn_Circuit tk_Circuit nn_Circuit hown hK hP hD hS 0 rfl rfl 8 (by decide) (hg _ wn_3_79) (fun _ h9 => h9) rfl hin rfl (tk_Circuit 8 (by decide)) rfl rfl (Nat.le_of_ble_eq_true rfl) dn_Circuit_init_66 (fun H locs hP hD hS => ?_)
  have hP : va_P (dC, dI) xcl [(h0, .inr (9, xo_Circuit (va_up (va_up (va_up (va_up (va_up (va_up (va_up f0 0 (.ref q_1)) 3 (.ref q_5)) 4 (.ref q_6)) 5 (.ref q_7)) 6 (.ref q_8)) 7 (.ref q_9)) 8 (.ref q_10)))), (q_1, .inr (10, xo_Design (va_up (va_up (va_up (va_up (va_up (va_up (va_up (va_up (va_up (va_up (va_up (va_up dv_Design 0 (.ref q_2)) 1 (.ref q_3)) 2 (.ref q_4)) 6 (.ref q_4)) 7 (.ref q_5)) 8 (.ref q_6)) 9 (.ref q_7)) 10 (.ref q_8)) 11 (.ref q_9)) 13 (.ref q_15)) 14 (.ref q_16)) 15 (.ref q_17)))), (q_2, .inr (11, xo_Parts (va_up (va_up (va_up (va_up (va_up (va_up (va_up (va_up (va_up (va_up (va_up (va_up dv_Parts 1 (.ref q_2)) 2 (.ref q_3)) 3 (.ref q_4)) 4 (.ref q_4)) 5 (.ref q_5)) 6 (.ref q_6)) 8 (.ref q_7)) 9 (.ref q_8)) 10 (.ref q_9)) 12 (.ref q_10)) 13 (.ref q_11)) 14 (.ref q_12)))), (q_3, .inr (12, xo_Code (va_up (va_up (va_up dv_Code 0 (.ref q_2)) 2 (.ref q_3)) 3 (.ref q_4)))), (q_4, .inl (cB, 65536, .inl (fun _ => 0))), (q_10, .inl (cI, 1024, .inl (fun _ => 0)))] H := hP
  have hD : va_D A [(h0, .inr (9, xo_Circuit (va_up (va_up (va_up (va_up (va_up (va_up (va_up f0 0 (.ref q_1)) 3 (.ref q_5)) 4 (.ref q_6)) 5 (.ref q_7)) 6 (.ref q_8)) 7 (.ref q_9)) 8 (.ref q_10)))), (q_1, .inr (10, xo_Design (va_up (va_up (va_up (va_up (va_up (va_up (va_up (va_up (va_up (va_up (va_up (va_up dv_Design 0 (.ref q_2)) 1 (.ref q_3)) 2 (.ref q_4)) 6 (.ref q_4)) 7 (.ref q_5)) 8 (.ref q_6)) 9 (.ref q_7)) 10 (.ref q_8)) 11 (.ref q_9)) 13 (.ref q_15)) 14 (.ref q_16)) 15 (.ref q_17)))), (q_2, .inr (11, xo_Parts (va_up (va_up (va_up (va_up (va_up (va_up (va_up (va_up (va_up (va_up (va_up (va_up dv_Parts 1 (.ref q_2)) 2 (.ref q_3)) 3 (.ref q_4)) 4 (.ref q_4)) 5 (.ref q_5)) 6 (.ref q_6)) 8 (.ref q_7)) 9 (.ref q_8)) 10 (.ref q_9)) 12 (.ref q_10)) 13 (.ref q_11)) 14 (.ref q_12)))), (q_3, .inr (12, xo_Code (va_up (va_up (va_up dv_Code 0 (.ref q_2)) 2 (.ref q_3)) 3 (.ref q_4)))), (q_4, .inl (cB, 65536, .inl (fun _ => 0))), (q_10, .inl (cI, 1024, .inl (fun _ => 0)))] := hD
  have hP := hP.sub (ws' := [(h0, .inr (9, xo_Circuit (va_up (va_up (va_up (va_up (va_up (va_up (va_up f0 0 (.ref q_1)) 3 (.ref q_5)) 4 (.ref q_6)) 5 (.ref q_7)) 6 (.ref q_8)) 7 (.ref q_9)) 8 (.ref q_10)))), (q_1, .inr (10, xo_Design (va_up (va_up (va_up (va_up (va_up (va_up (va_up (va_up (va_up (va_up (va_up (va_up dv_Design 0 (.ref q_2)) 1 (.ref q_3)) 2 (.ref q_4)) 6 (.ref q_4)) 7 (.ref q_5)) 8 (.ref q_6)) 9 (.ref q_7)) 10 (.ref q_8)) 11 (.ref q_9)) 13 (.ref q_15)) 14 (.ref q_16)) 15 (.ref q_17)))), (q_2, .inr (11, xo_Parts (va_up (va_up (va_up (va_up (va_up (va_up (va_up (va_up (va_up (va_up (va_up (va_up dv_Parts 1 (.ref q_2)) 2 (.ref q_3)) 3 (.ref q_4)) 4 (.ref q_4)) 5 (.ref q_5)) 6 (.ref q_6)) 8 (.ref q_7)) 9 (.ref q_8)) 10 (.ref q_9)) 12 (.ref q_10)) 13 (.ref q_11)) 14 (.ref q_12)))), (q_3, .inr (12, xo_Code (va_up (va_up (va_up dv_Code 0 (.ref q_2)) 2 (.ref q_3)) 3 (.ref q_4)))), (q_4, .inl (cB, 65536, .inl (fun _ => 0)))]) [0, 1, 2, 3, 4] rfl
  have hD := hD.sub (ws' := [(h0, .inr (9, xo_Circuit (va_up (va_up (va_up (va_up (va_up (va_up (va_up f0 0 (.ref q_1)) 3 (.ref q_5)) 4 (.ref q_6)) 5 (.ref q_7)) 6 (.ref q_8)) 7 (.ref q_9)) 8 (.ref q_10)))), (q_1, .inr (10, xo_Design (va_up (va_up (va_up (va_up (va_up (va_up (va_up (va_up (va_up (va_up (va_up (va_up dv_Design 0 (.ref q_2)) 1 (.ref q_3)) 2 (.ref q_4)) 6 (.ref q_4)) 7 (.ref q_5)) 8 (.ref q_6)) 9 (.ref q_7)) 10 (.ref q_8)) 11 (.ref q_9)) 13 (.ref q_15)) 14 (.ref q_16)) 15 (.ref q_17)))), (q_2, .inr (11, xo_Parts (va_up (va_up (va_up (va_up (va_up (va_up (va_up (va_up (va_up (va_up (va_up (va_up dv_Parts 1 (.ref q_2)) 2 (.ref q_3)) 3 (.ref q_4)) 4 (.ref q_4)) 5 (.ref q_5)) 6 (.ref q_6)) 8 (.ref q_7)) 9 (.ref q_8)) 10 (.ref q_9)) 12 (.ref q_10)) 13 (.ref q_11)) 14 (.ref q_12)))), (q_3, .inr (12, xo_Code (va_up (va_up (va_up dv_Code 0 (.ref q_2)) 2 (.ref q_3)) 3 (.ref q_4)))), (q_4, .inl (cB, 65536, .inl (fun _ => 0)))]) [0, 1, 2, 3, 4] (by decide) rfl
  refine lv_aload_n hx hb dn_Circuit_init_69 rfl (lv_at hl 0 rfl) ?_
  refine lv_sipush (v := 1024) hx hb dn_Circuit_init_70 (by decide) ?_
  refine xk_newI 1024 hx hb (hg _ wn_1_119) hK hP hD hS hA 0 rfl rfl (Nat.le_of_ble_eq_true rfl) (Nat.le_of_ble_eq_true rfl) (Nat.le_of_ble_eq_true rfl) dn_Circuit_init_73 (fun q_11 H hP hD hS => ?_)
  have hP : va_P (dC, dI) xcl [(h0, .inr (9, xo_Circuit (va_up (va_up (va_up (va_up (va_up (va_up (va_up f0 0 (.ref q_1)) 3 (.ref q_5)) 4 (.ref q_6)) 5 (.ref q_7)) 6 (.ref q_8)) 7 (.ref q_9)) 8 (.ref q_10)))), (q_1, .inr (10, xo_Design (va_up (va_up (va_up (va_up (va_up (va_up (va_up (va_up (va_up (va_up (va_up (va_up dv_Design 0 (.ref q_2)) 1 (.ref q_3)) 2 (.ref q_4)) 6 (.ref q_4)) 7 (.ref q_5)) 8 (.ref q_6)) 9 (.ref q_7)) 10 (.ref q_8)) 11 (.ref q_9)) 13 (.ref q_15)) 14 (.ref q_16)) 15 (.ref q_17)))), (q_2, .inr (11, xo_Parts (va_up (va_up (va_up (va_up (va_up (va_up (va_up (va_up (va_up (va_up (va_up (va_up dv_Parts 1 (.ref q_2)) 2 (.ref q_3)) 3 (.ref q_4)) 4 (.ref q_4)) 5 (.ref q_5)) 6 (.ref q_6)) 8 (.ref q_7)) 9 (.ref q_8)) 10 (.ref q_9)) 12 (.ref q_10)) 13 (.ref q_11)) 14 (.ref q_12)))), (q_3, .inr (12, xo_Code (va_up (va_up (va_up dv_Code 0 (.ref q_2)) 2 (.ref q_3)) 3 (.ref q_4)))), (q_4, .inl (cB, 65536, .inl (fun _ => 0))), (q_11, .inl (cI, 1024, .inl (fun _ => 0)))] H := hP
  have hD : va_D A [(h0, .inr (9, xo_Circuit (va_up (va_up (va_up (va_up (va_up (va_up (va_up f0 0 (.ref q_1)) 3 (.ref q_5)) 4 (.ref q_6)) 5 (.ref q_7)) 6 (.ref q_8)) 7 (.ref q_9)) 8 (.ref q_10)))), (q_1, .inr (10, xo_Design (va_up (va_up (va_up (va_up (va_up (va_up (va_up (va_up (va_up (va_up (va_up (va_up dv_Design 0 (.ref q_2)) 1 (.ref q_3)) 2 (.ref q_4)) 6 (.ref q_4)) 7 (.ref q_5)) 8 (.ref q_6)) 9 (.ref q_7)) 10 (.ref q_8)) 11 (.ref q_9)) 13 (.ref q_15)) 14 (.ref q_16)) 15 (.ref q_17)))), (q_2, .inr (11, xo_Parts (va_up (va_up (va_up (va_up (va_up (va_up (va_up (va_up (va_up (va_up (va_up (va_up dv_Parts 1 (.ref q_2)) 2 (.ref q_3)) 3 (.ref q_4)) 4 (.ref q_4)) 5 (.ref q_5)) 6 (.ref q_6)) 8 (.ref q_7)) 9 (.ref q_8)) 10 (.ref q_9)) 12 (.ref q_10)) 13 (.ref q_11)) 14 (.ref q_12)))), (q_3, .inr (12, xo_Code (va_up (va_up (va_up dv_Code 0 (.ref q_2)) 2 (.ref q_3)) 3 (.ref q_4)))), (q_4, .inl (cB, 65536, .inl (fun _ => 0))), (q_11, .inl (cI, 1024, .inl (fun _ => 0)))] := hD
  refine va_putF (D := (dC, dI)) (ci := 9) (v := .ref q_11) (ty := (.array .int)) (C := rn_Circuit) (T := fn_Circuit) (N := 14) hx hb hg in_Circuit tn_Circuit tk_Circuit nn_Circuit hown hK hP hD hS 0 rfl rfl 9 (by decide) (hg _ wn_3_82) (fun _ h9 => h9) rfl hin rfl (tk_Circuit 9 (by decide)) rfl rfl (Nat.le_of_ble_eq_true rfl) dn_Circuit_init_75 (fun H locs hP hD hS => ?_)
  have hP : va_P (dC, dI) xcl [(h0, .inr (9, xo_Circuit (va_up (va_up (va_up (va_up (va_up (va_up (va_up (va_up f0 0 (.ref q_1)) 3 (.ref q_5)) 4 (.ref q_6)) 5 (.ref q_7)) 6 (.ref q_8)) 7 (.ref q_9)) 8 (.ref q_10)) 9 (.ref q_11)))), (q_1, .inr (10, xo_Design (va_up (va_up (va_up (va_up (va_up (va_up (va_up (va_up (va_up (va_up (va_up (va_up dv_Design 0 (.ref q_2)) 1 (.ref q_3)) 2 (.ref q_4)) 6 (.ref q_4)) 7 (.ref q_5)) 8 (.ref q_6)) 9 (.ref q_7)) 10 (.ref q_8)) 11 (.ref q_9)) 13 (.ref q_15)) 14 (.ref q_16)) 15 (.ref q_17)))), (q_2, .inr (11, xo_Parts (va_up (va_up (va_up (va_up (va_up (va_up (va_up (va_up (va_up (va_up (va_up (va_up dv_Parts 1 (.ref q_2)) 2 (.ref q_3)) 3 (.ref q_4)) 4 (.ref q_4)) 5 (.ref q_5)) 6 (.ref q_6)) 8 (.ref q_7)) 9 (.ref q_8)) 10 (.ref q_9)) 12 (.ref q_10)) 13 (.ref q_11)) 14 (.ref q_12)))), (q_3, .inr (12, xo_Code (va_up (va_up (va_up dv_Code 0 (.ref q_2)) 2 (.ref q_3)) 3 (.ref q_4)))), (q_4, .inl (cB, 65536, .inl (fun _ => 0))), (q_11, .inl (cI, 1024, .inl (fun _ => 0)))] H := hP
  have hD : va_D A [(h0, .inr (9, xo_Circuit (va_up (va_up (va_up (va_up (va_up (va_up (va_up (va_up f0 0 (.ref q_1)) 3 (.ref q_5)) 4 (.ref q_6)) 5 (.ref q_7)) 6 (.ref q_8)) 7 (.ref q_9)) 8 (.ref q_10)) 9 (.ref q_11)))), (q_1, .inr (10, xo_Design (va_up (va_up (va_up (va_up (va_up (va_up (va_up (va_up (va_up (va_up (va_up (va_up dv_Design 0 (.ref q_2)) 1 (.ref q_3)) 2 (.ref q_4)) 6 (.ref q_4)) 7 (.ref q_5)) 8 (.ref q_6)) 9 (.ref q_7)) 10 (.ref q_8)) 11 (.ref q_9)) 13 (.ref q_15)) 14 (.ref q_16)) 15 (.ref q_17)))), (q_2, .inr (11, xo_Parts (va_up (va_up (va_up (va_up (va_up (va_up (va_up (va_up (va_up (va_up (va_up (va_up dv_Parts 1 (.ref q_2)) 2 (.ref q_3)) 3 (.ref q_4)) 4 (.ref q_4)) 5 (.ref q_5)) 6 (.ref q_6)) 8 (.ref q_7)) 9 (.ref q_8)) 10 (.ref q_9)) 12 (.ref q_10)) 13 (.ref q_11)) 14 (.ref q_12)))), (q_3, .inr (12, xo_Code (va_up (va_up (va_up dv_Code 0 (.ref q_2)) 2 (.ref q_3)) 3 (.ref q_4)))), (q_4, .inl (cB, 65536, .inl (fun _ => 0))), (q_11, .inl (cI, 1024, .inl (fun _ => 0)))] := hD
  have hP := hP.sub (ws' := [(h0, .inr (9, xo_Circuit (va_up (va_up (va_up (va_up (va_up (va_up (va_up (va_up f0 0 (.ref q_1)) 3 (.ref q_5)) 4 (.ref q_6)) 5 (.ref q_7)) 6 (.ref q_8)) 7 (.ref q_9)) 8 (.ref q_10)) 9 (.ref q_11)))), (q_1, .inr (10, xo_Design (va_up (va_up (va_up (va_up (va_up (va_up (va_up (va_up (va_up (va_up (va_up (va_up dv_Design 0 (.ref q_2)) 1 (.ref q_3)) 2 (.ref q_4)) 6 (.ref q_4)) 7 (.ref q_5)) 8 (.ref q_6)) 9 (.ref q_7)) 10 (.ref q_8)) 11 (.ref q_9)) 13 (.ref q_15)) 14 (.ref q_16)) 15 (.ref q_17)))), (q_2, .inr (11, xo_Parts (va_up (va_up (va_up (va_up (va_up (va_up (va_up (va_up (va_up (va_up (va_up (va_up dv_Parts 1 (.ref q_2)) 2 (.ref q_3)) 3 (.ref q_4)) 4 (.ref q_4)) 5 (.ref q_5)) 6 (.ref q_6)) 8 (.ref q_7)) 9 (.ref q_8)) 10 (.ref q_9)) 12 (.ref q_10)) 13 (.ref q_11)) 14 (.ref q_12)))), (q_3, .inr (12, xo_Code (va_up (va_up (va_up dv_Code 0 (.ref q_2)) 2 (.ref q_3)) 3 (.ref q_4)))), (q_4, .inl (cB, 65536, .inl (fun _ => 0)))]) [0, 1, 2, 3, 4] rfl
  have hD := hD.sub (ws' := [(h0, .inr (9, xo_Circuit (va_up (va_up (va_up (va_up (va_up (va_up (va_up (va_up f0 0 (.ref q_1)) 3 (.ref q_5)) 4 (.ref q_6)) 5 (.ref q_7)) 6 (.ref q_8)) 7 (.ref q_9)) 8 (.ref q_10)) 9 (.ref q_11)))), (q_1, .inr (10, xo_Design (va_up (va_up (va_up (va_up (va_up (va_up (va_up (va_up (va_up (va_up (va_up (va_up dv_Design 0 (.ref q_2)) 1 (.ref q_3)) 2 (.ref q_4)) 6 (.ref q_4)) 7 (.ref q_5)) 8 (.ref q_6)) 9 (.ref q_7)) 10 (.ref q_8)) 11 (.ref q_9)) 13 (.ref q_15)) 14 (.ref q_16)) 15 (.ref q_17)))), (q_2, .inr (11, xo_Parts (va_up (va_up (va_up (va_up (va_up (va_up (va_up (va_up (va_up (va_up (va_up (va_up dv_Parts 1 (.ref q_2)) 2 (.ref q_3)) 3 (.ref q_4)) 4 (.ref q_4)) 5 (.ref q_5)) 6 (.ref q_6)) 8 (.ref q_7)) 9 (.ref q_8)) 10 (.ref q_9)) 12 (.ref q_10)) 13 (.ref q_11)) 14 (.ref q_12)))), (q_3, .inr (12, xo_Code (va_up (va_up (va_up dv_Code 0 (.ref q_2)) 2 (.ref q_3)) 3 (.ref q_4)))), (q_4, .inl (cB, 65536, .inl (fun _ => 0)))]) [0, 1, 2, 3, 4] (by decide) rfl
  refine lv_aload_n hx hb dn_Circuit_init_78 rfl (lv_at hl 0 rfl) ?_
  refine lv_sipush (v := 1024) hx hb dn_Circuit_init_79 (by decide) ?_
  refine xk_newI 1024 hx hb (hg _ wn_1_119) hK hP hD hS hA 0 rfl rfl (Nat.le_of_ble_eq_true rfl) (Nat.le_of_ble_eq_true rfl) (Nat.le_of_ble_eq_true rfl) dn_Circuit_init_82 (fun q_12 H hP hD hS => ?_)
  have hP : va_P (dC, dI) xcl [(h0, .inr (9, xo_Circuit (va_up (va_up (va_up (va_up (va_up (va_up (va_up (va_up f0 0 (.ref q_1)) 3 (.ref q_5)) 4 (.ref q_6)) 5 (.ref q_7)) 6 (.ref q_8)) 7 (.ref q_9)) 8 (.ref q_10)) 9 (.ref q_11)))), (q_1, .inr (10, xo_Design (va_up (va_up (va_up (va_up (va_up (va_up (va_up (va_up (va_up (va_up (va_up (va_up dv_Design 0 (.ref q_2)) 1 (.ref q_3)) 2 (.ref q_4)) 6 (.ref q_4)) 7 (.ref q_5)) 8 (.ref q_6)) 9 (.ref q_7)) 10 (.ref q_8)) 11 (.ref q_9)) 13 (.ref q_15)) 14 (.ref q_16)) 15 (.ref q_17)))), (q_2, .inr (11, xo_Parts (va_up (va_up (va_up (va_up (va_up (va_up (va_up (va_up (va_up (va_up (va_up (va_up dv_Parts 1 (.ref q_2)) 2 (.ref q_3)) 3 (.ref q_4)) 4 (.ref q_4)) 5 (.ref q_5)) 6 (.ref q_6)) 8 (.ref q_7)) 9 (.ref q_8)) 10 (.ref q_9)) 12 (.ref q_10)) 13 (.ref q_11)) 14 (.ref q_12)))), (q_3, .inr (12, xo_Code (va_up (va_up (va_up dv_Code 0 (.ref q_2)) 2 (.ref q_3)) 3 (.ref q_4)))), (q_4, .inl (cB, 65536, .inl (fun _ => 0))), (q_12, .inl (cI, 1024, .inl (fun _ => 0)))] H := hP
  have hD : va_D A [(h0, .inr (9, xo_Circuit (va_up (va_up (va_up (va_up (va_up (va_up (va_up (va_up f0 0 (.ref q_1)) 3 (.ref q_5)) 4 (.ref q_6)) 5 (.ref q_7)) 6 (.ref q_8)) 7 (.ref q_9)) 8 (.ref q_10)) 9 (.ref q_11)))), (q_1, .inr (10, xo_Design (va_up (va_up (va_up (va_up (va_up (va_up (va_up (va_up (va_up (va_up (va_up (va_up dv_Design 0 (.ref q_2)) 1 (.ref q_3)) 2 (.ref q_4)) 6 (.ref q_4)) 7 (.ref q_5)) 8 (.ref q_6)) 9 (.ref q_7)) 10 (.ref q_8)) 11 (.ref q_9)) 13 (.ref q_15)) 14 (.ref q_16)) 15 (.ref q_17)))), (q_2, .inr (11, xo_Parts (va_up (va_up (va_up (va_up (va_up (va_up (va_up (va_up (va_up (va_up (va_up (va_up dv_Parts 1 (.ref q_2)) 2 (.ref q_3)) 3 (.ref q_4)) 4 (.ref q_4)) 5 (.ref q_5)) 6 (.ref q_6)) 8 (.ref q_7)) 9 (.ref q_8)) 10 (.ref q_9)) 12 (.ref q_10)) 13 (.ref q_11)) 14 (.ref q_12)))), (q_3, .inr (12, xo_Code (va_up (va_up (va_up dv_Code 0 (.ref q_2)) 2 (.ref q_3)) 3 (.ref q_4)))), (q_4, .inl (cB, 65536, .inl (fun _ => 0))), (q_12, .inl (cI, 1024, .inl (fun _ => 0)))] := hD
  refine va_putF (D := (dC, dI)) (ci := 9) (v := .ref q_12) (ty := (.array .int)) (C := rn_Circuit) (T := fn_Circuit) (N := 14) hx hb hg in_Circuit tn_Circuit tk_Circuit nn_Circuit hown hK hP hD hS 0 rfl rfl 10 (by decide) (hg _ wn_3_85) (fun _ h9 => h9) rfl hin rfl (tk_Circuit 10 (by decide)) rfl rfl (Nat.le_of_ble_eq_true rfl) dn_Circuit_init_84 (fun H locs hP hD hS => ?_)
  have hP : va_P (dC, dI) xcl [(h0, .inr (9, xo_Circuit (va_up (va_up (va_up (va_up (va_up (va_up (va_up (va_up (va_up f0 0 (.ref q_1)) 3 (.ref q_5)) 4 (.ref q_6)) 5 (.ref q_7)) 6 (.ref q_8)) 7 (.ref q_9)) 8 (.ref q_10)) 9 (.ref q_11)) 10 (.ref q_12)))), (q_1, .inr (10, xo_Design (va_up (va_up (va_up (va_up (va_up (va_up (va_up (va_up (va_up (va_up (va_up (va_up dv_Design 0 (.ref q_2)) 1 (.ref q_3)) 2 (.ref q_4)) 6 (.ref q_4)) 7 (.ref q_5)) 8 (.ref q_6)) 9 (.ref q_7)) 10 (.ref q_8)) 11 (.ref q_9)) 13 (.ref q_15)) 14 (.ref q_16)) 15 (.ref q_17)))), (q_2, .inr (11, xo_Parts (va_up (va_up (va_up (va_up (va_up (va_up (va_up (va_up (va_up (va_up (va_up (va_up dv_Parts 1 (.ref q_2)) 2 (.ref q_3)) 3 (.ref q_4)) 4 (.ref q_4)) 5 (.ref q_5)) 6 (.ref q_6)) 8 (.ref q_7)) 9 (.ref q_8)) 10 (.ref q_9)) 12 (.ref q_10)) 13 (.ref q_11)) 14 (.ref q_12)))), (q_3, .inr (12, xo_Code (va_up (va_up (va_up dv_Code 0 (.ref q_2)) 2 (.ref q_3)) 3 (.ref q_4)))), (q_4, .inl (cB, 65536, .inl (fun _ => 0))), (q_12, .inl (cI, 1024, .inl (fun _ => 0)))] H := hP
  have hD : va_D A [(h0, .inr (9, xo_Circuit (va_up (va_up (va_up (va_up (va_up (va_up (va_up (va_up (va_up f0 0 (.ref q_1)) 3 (.ref q_5)) 4 (.ref q_6)) 5 (.ref q_7)) 6 (.ref q_8)) 7 (.ref q_9)) 8 (.ref q_10)) 9 (.ref q_11)) 10 (.ref q_12)))), (q_1, .inr (10, xo_Design (va_up (va_up (va_up (va_up (va_up (va_up (va_up (va_up (va_up (va_up (va_up (va_up dv_Design 0 (.ref q_2)) 1 (.ref q_3)) 2 (.ref q_4)) 6 (.ref q_4)) 7 (.ref q_5)) 8 (.ref q_6)) 9 (.ref q_7)) 10 (.ref q_8)) 11 (.ref q_9)) 13 (.ref q_15)) 14 (.ref q_16)) 15 (.ref q_17)))), (q_2, .inr (11, xo_Parts (va_up (va_up (va_up (va_up (va_up (va_up (va_up (va_up (va_up (va_up (va_up (va_up dv_Parts 1 (.ref q_2)) 2 (.ref q_3)) 3 (.ref q_4)) 4 (.ref q_4)) 5 (.ref q_5)) 6 (.ref q_6)) 8 (.ref q_7)) 9 (.ref q_8)) 10 (.ref q_9)) 12 (.ref q_10)) 13 (.ref q_11)) 14 (.ref q_12)))), (q_3, .inr (12, xo_Code (va_up (va_up (va_up dv_Code 0 (.ref q_2)) 2 (.ref q_3)) 3 (.ref q_4)))), (q_4, .inl (cB, 65536, .inl (fun _ => 0))), (q_12, .inl (cI, 1024, .inl (fun _ => 0)))] := hD
  have hP := hP.sub (ws' := [(h0, .inr (9, xo_Circuit (va_up (va_up (va_up (va_up (va_up (va_up (va_up (va_up (va_up f0 0 (.ref q_1)) 3 (.ref q_5)) 4 (.ref q_6)) 5 (.ref q_7)) 6 (.ref q_8)) 7 (.ref q_9)) 8 (.ref q_10)) 9 (.ref q_11)) 10 (.ref q_12)))), (q_1, .inr (10, xo_Design (va_up (va_up (va_up (va_up (va_up (va_up (va_up (va_up (va_up (va_up (va_up (va_up dv_Design 0 (.ref q_2)) 1 (.ref q_3)) 2 (.ref q_4)) 6 (.ref q_4)) 7 (.ref q_5)) 8 (.ref q_6)) 9 (.ref q_7)) 10 (.ref q_8)) 11 (.ref q_9)) 13 (.ref q_15)) 14 (.ref q_16)) 15 (.ref q_17)))), (q_2, .inr (11, xo_Parts (va_up (va_up (va_up (va_up (va_up (va_up (va_up (va_up (va_up (va_up (va_up (va_up dv_Parts 1 (.ref q_2)) 2 (.ref q_3)) 3 (.ref q_4)) 4 (.ref q_4)) 5 (.ref q_5)) 6 (.ref q_6)) 8 (.ref q_7)) 9 (.ref q_8)) 10 (.ref q_9)) 12 (.ref q_10)) 13 (.ref q_11)) 14 (.ref q_12)))), (q_3, .inr (12, xo_Code (va_up (va_up (va_up dv_Code 0 (.ref q_2)) 2 (.ref q_3)) 3 (.ref q_4)))), (q_4, .inl (cB, 65536, .inl (fun _ => 0)))]) [0, 1, 2, 3, 4] rfl
  have hD := hD.sub (ws' := [(h0, .inr (9, xo_Circuit (va_up (va_up (va_up (va_up (va_up (va_up (va_up (va_up (va_up f0 0 (.ref q_1)) 3 (.ref q_5)) 4 (.ref q_6)) 5 (.ref q_7)) 6 (.ref q_8)) 7 (.ref q_9)) 8 (.ref q_10)) 9 (.ref q_11)) 10 (.ref q_12)))), (q_1, .inr (10, xo_Design (va_up (va_up (va_up (va_up (va_up (va_up (va_up (va_up (va_up (va_up (va_up (va_up dv_Design 0 (.ref q_2)) 1 (.ref q_3)) 2 (.ref q_4)) 6 (.ref q_4)) 7 (.ref q_5)) 8 (.ref q_6)) 9 (.ref q_7)) 10 (.ref q_8)) 11 (.ref q_9)) 13 (.ref q_15)) 14 (.ref q_16)) 15 (.ref q_17)))), (q_2, .inr (11, xo_Parts (va_up (va_up (va_up (va_up (va_up (va_up (va_up (va_up (va_up (va_up (va_up (va_up dv_Parts 1 (.ref q_2)) 2 (.ref q_3)) 3 (.ref q_4)) 4 (.ref q_4)) 5 (.ref q_5)) 6 (.ref q_6)) 8 (.ref q_7)) 9 (.ref q_8)) 10 (.ref q_9)) 12 (.ref q_10)) 13 (.ref q_11)) 14 (.ref q_12)))), (q_3, .inr (12, xo_Code (va_up (va_up (va_up dv_Code 0 (.ref q_2)) 2 (.ref q_3)) 3 (.ref q_4)))), (q_4, .inl (cB, 65536, .inl (fun _ => 0)))]) [0, 1, 2, 3, 4] (by decide) rfl
  refine lv_aload_n hx hb dn_Circuit_init_87 rfl (lv_at hl 0 rfl) ?_
  refine lv_sipush (v := 1024) hx hb dn_Circuit_init_88 (by decide) ?_
  refine xk_newI 1024 hx hb (hg _ wn_1_119) hK hP hD hS hA 0 rfl rfl (Nat.le_of_ble_eq_true rfl) (Nat.le_of_ble_eq_true rfl) (Nat.le_of_ble_eq_true rfl) dn_Circuit_init_91 (fun q_13 H hP hD hS => ?_)
  have hP : va_P (dC, dI) xcl [(h0, .inr (9, xo_Circuit (va_up (va_up (va_up (va_up (va_up (va_up (va_up (va_up (va_up f0 0 (.ref q_1)) 3 (.ref q_5)) 4 (.ref q_6)) 5 (.ref q_7)) 6 (.ref q_8)) 7 (.ref q_9)) 8 (.ref q_10)) 9 (.ref q_11)) 10 (.ref q_12)))), (q_1, .inr (10, xo_Design (va_up (va_up (va_up (va_up (va_up (va_up (va_up (va_up (va_up (va_up (va_up (va_up dv_Design 0 (.ref q_2)) 1 (.ref q_3)) 2 (.ref q_4)) 6 (.ref q_4)) 7 (.ref q_5)) 8 (.ref q_6)) 9 (.ref q_7)) 10 (.ref q_8)) 11 (.ref q_9)) 13 (.ref q_15)) 14 (.ref q_16)) 15 (.ref q_17)))), (q_2, .inr (11, xo_Parts (va_up (va_up (va_up (va_up (va_up (va_up (va_up (va_up (va_up (va_up (va_up (va_up dv_Parts 1 (.ref q_2)) 2 (.ref q_3)) 3 (.ref q_4)) 4 (.ref q_4)) 5 (.ref q_5)) 6 (.ref q_6)) 8 (.ref q_7)) 9 (.ref q_8)) 10 (.ref q_9)) 12 (.ref q_10)) 13 (.ref q_11)) 14 (.ref q_12)))), (q_3, .inr (12, xo_Code (va_up (va_up (va_up dv_Code 0 (.ref q_2)) 2 (.ref q_3)) 3 (.ref q_4)))), (q_4, .inl (cB, 65536, .inl (fun _ => 0))), (q_13, .inl (cI, 1024, .inl (fun _ => 0)))] H := hP
  have hD : va_D A [(h0, .inr (9, xo_Circuit (va_up (va_up (va_up (va_up (va_up (va_up (va_up (va_up (va_up f0 0 (.ref q_1)) 3 (.ref q_5)) 4 (.ref q_6)) 5 (.ref q_7)) 6 (.ref q_8)) 7 (.ref q_9)) 8 (.ref q_10)) 9 (.ref q_11)) 10 (.ref q_12)))), (q_1, .inr (10, xo_Design (va_up (va_up (va_up (va_up (va_up (va_up (va_up (va_up (va_up (va_up (va_up (va_up dv_Design 0 (.ref q_2)) 1 (.ref q_3)) 2 (.ref q_4)) 6 (.ref q_4)) 7 (.ref q_5)) 8 (.ref q_6)) 9 (.ref q_7)) 10 (.ref q_8)) 11 (.ref q_9)) 13 (.ref q_15)) 14 (.ref q_16)) 15 (.ref q_17)))), (q_2, .inr (11, xo_Parts (va_up (va_up (va_up (va_up (va_up (va_up (va_up (va_up (va_up (va_up (va_up (va_up dv_Parts 1 (.ref q_2)) 2 (.ref q_3)) 3 (.ref q_4)) 4 (.ref q_4)) 5 (.ref q_5)) 6 (.ref q_6)) 8 (.ref q_7)) 9 (.ref q_8)) 10 (.ref q_9)) 12 (.ref q_10)) 13 (.ref q_11)) 14 (.ref q_12)))), (q_3, .inr (12, xo_Code (va_up (va_up (va_up dv_Code 0 (.ref q_2)) 2 (.ref q_3)) 3 (.ref q_4)))), (q_4, .inl (cB, 65536, .inl (fun _ => 0))), (q_13, .inl (cI, 1024, .inl (fun _ => 0)))] := hD
  refine va_putF (D := (dC, dI)) (ci := 9) (v := .ref q_13) (ty := (.array .int)) (C := rn_Circuit) (T := fn_Circuit) (N := 14) hx hb hg in_Circuit tn_Circuit tk_Circuit nn_Circuit hown hK hP hD hS 0 rfl rfl 11 (by decide) (hg _ wn_3_88) (fun _ h9 => h9) rfl hin rfl (tk_Circuit 11 (by decide)) rfl rfl (Nat.le_of_ble_eq_true rfl) dn_Circuit_init_93 (fun H locs hP hD hS => ?_)
  have hP : va_P (dC, dI) xcl [(h0, .inr (9, xo_Circuit (va_up (va_up (va_up (va_up (va_up (va_up (va_up (va_up (va_up (va_up f0 0 (.ref q_1)) 3 (.ref q_5)) 4 (.ref q_6)) 5 (.ref q_7)) 6 (.ref q_8)) 7 (.ref q_9)) 8 (.ref q_10)) 9 (.ref q_11)) 10 (.ref q_12)) 11 (.ref q_13)))), (q_1, .inr (10, xo_Design (va_up (va_up (va_up (va_up (va_up (va_up (va_up (va_up (va_up (va_up (va_up (va_up dv_Design 0 (.ref q_2)) 1 (.ref q_3)) 2 (.ref q_4)) 6 (.ref q_4)) 7 (.ref q_5)) 8 (.ref q_6)) 9 (.ref q_7)) 10 (.ref q_8)) 11 (.ref q_9)) 13 (.ref q_15)) 14 (.ref q_16)) 15 (.ref q_17)))), (q_2, .inr (11, xo_Parts (va_up (va_up (va_up (va_up (va_up (va_up (va_up (va_up (va_up (va_up (va_up (va_up dv_Parts 1 (.ref q_2)) 2 (.ref q_3)) 3 (.ref q_4)) 4 (.ref q_4)) 5 (.ref q_5)) 6 (.ref q_6)) 8 (.ref q_7)) 9 (.ref q_8)) 10 (.ref q_9)) 12 (.ref q_10)) 13 (.ref q_11)) 14 (.ref q_12)))), (q_3, .inr (12, xo_Code (va_up (va_up (va_up dv_Code 0 (.ref q_2)) 2 (.ref q_3)) 3 (.ref q_4)))), (q_4, .inl (cB, 65536, .inl (fun _ => 0))), (q_13, .inl (cI, 1024, .inl (fun _ => 0)))] H := hP
  have hD : va_D A [(h0, .inr (9, xo_Circuit (va_up (va_up (va_up (va_up (va_up (va_up (va_up (va_up (va_up (va_up f0 0 (.ref q_1)) 3 (.ref q_5)) 4 (.ref q_6)) 5 (.ref q_7)) 6 (.ref q_8)) 7 (.ref q_9)) 8 (.ref q_10)) 9 (.ref q_11)) 10 (.ref q_12)) 11 (.ref q_13)))), (q_1, .inr (10, xo_Design (va_up (va_up (va_up (va_up (va_up (va_up (va_up (va_up (va_up (va_up (va_up (va_up dv_Design 0 (.ref q_2)) 1 (.ref q_3)) 2 (.ref q_4)) 6 (.ref q_4)) 7 (.ref q_5)) 8 (.ref q_6)) 9 (.ref q_7)) 10 (.ref q_8)) 11 (.ref q_9)) 13 (.ref q_15)) 14 (.ref q_16)) 15 (.ref q_17)))), (q_2, .inr (11, xo_Parts (va_up (va_up (va_up (va_up (va_up (va_up (va_up (va_up (va_up (va_up (va_up (va_up dv_Parts 1 (.ref q_2)) 2 (.ref q_3)) 3 (.ref q_4)) 4 (.ref q_4)) 5 (.ref q_5)) 6 (.ref q_6)) 8 (.ref q_7)) 9 (.ref q_8)) 10 (.ref q_9)) 12 (.ref q_10)) 13 (.ref q_11)) 14 (.ref q_12)))), (q_3, .inr (12, xo_Code (va_up (va_up (va_up dv_Code 0 (.ref q_2)) 2 (.ref q_3)) 3 (.ref q_4)))), (q_4, .inl (cB, 65536, .inl (fun _ => 0))), (q_13, .inl (cI, 1024, .inl (fun _ => 0)))] := hD
  have hP := hP.sub (ws' := [(h0, .inr (9, xo_Circuit (va_up (va_up (va_up (va_up (va_up (va_up (va_up (va_up (va_up (va_up f0 0 (.ref q_1)) 3 (.ref q_5)) 4 (.ref q_6)) 5 (.ref q_7)) 6 (.ref q_8)) 7 (.ref q_9)) 8 (.ref q_10)) 9 (.ref q_11)) 10 (.ref q_12)) 11 (.ref q_13)))), (q_1, .inr (10, xo_Design (va_up (va_up (va_up (va_up (va_up (va_up (va_up (va_up (va_up (va_up (va_up (va_up dv_Design 0 (.ref q_2)) 1 (.ref q_3)) 2 (.ref q_4)) 6 (.ref q_4)) 7 (.ref q_5)) 8 (.ref q_6)) 9 (.ref q_7)) 10 (.ref q_8)) 11 (.ref q_9)) 13 (.ref q_15)) 14 (.ref q_16)) 15 (.ref q_17)))), (q_2, .inr (11, xo_Parts (va_up (va_up (va_up (va_up (va_up (va_up (va_up (va_up (va_up (va_up (va_up (va_up dv_Parts 1 (.ref q_2)) 2 (.ref q_3)) 3 (.ref q_4)) 4 (.ref q_4)) 5 (.ref q_5)) 6 (.ref q_6)) 8 (.ref q_7)) 9 (.ref q_8)) 10 (.ref q_9)) 12 (.ref q_10)) 13 (.ref q_11)) 14 (.ref q_12)))), (q_3, .inr (12, xo_Code (va_up (va_up (va_up dv_Code 0 (.ref q_2)) 2 (.ref q_3)) 3 (.ref q_4)))), (q_4, .inl (cB, 65536, .inl (fun _ => 0)))]) [0, 1, 2, 3, 4] rfl
  have hD := hD.sub (ws' := [(h0, .inr (9, xo_Circuit (va_up (va_up (va_up (va_up (va_up (va_up (va_up (va_up (va_up (va_up f0 0 (.ref q_1)) 3 (.ref q_5)) 4 (.ref q_6)) 5 (.ref q_7)) 6 (.ref q_8)) 7 (.ref q_9)) 8 (.ref q_10)) 9 (.ref q_11)) 10 (.ref q_12)) 11 (.ref q_13)))), (q_1, .inr (10, xo_Design (va_up (va_up (va_up (va_up (va_up (va_up (va_up (va_up (va_up (va_up (va_up (va_up dv_Design 0 (.ref q_2)) 1 (.ref q_3)) 2 (.ref q_4)) 6 (.ref q_4)) 7 (.ref q_5)) 8 (.ref q_6)) 9 (.ref q_7)) 10 (.ref q_8)) 11 (.ref q_9)) 13 (.ref q_15)) 14 (.ref q_16)) 15 (.ref q_17)))), (q_2, .inr (11, xo_Parts (va_up (va_up (va_up (va_up (va_up (va_up (va_up (va_up (va_up (va_up (va_up (va_up dv_Parts 1 (.ref q_2)) 2 (.ref q_3)) 3 (.ref q_4)) 4 (.ref q_4)) 5 (.ref q_5)) 6 (.ref q_6)) 8 (.ref q_7)) 9 (.ref q_8)) 10 (.ref q_9)) 12 (.ref q_10)) 13 (.ref q_11)) 14 (.ref q_12)))), (q_3, .inr (12, xo_Code (va_up (va_up (va_up dv_Code 0 (.ref q_2)) 2 (.ref q_3)) 3 (.ref q_4)))), (q_4, .inl (cB, 65536, .inl (fun _ => 0)))]) [0, 1, 2, 3, 4] (by decide) rfl
  refine lv_aload_n hx hb dn_Circuit_init_96 rfl (lv_at hl 0 rfl) ?_
  refine lv_sipush (v := 1024) hx hb dn_Circuit_init_97 (by decide) ?_
  refine xk_newI 1024 hx hb (hg _ wn_1_119) hK hP hD hS hA 0 rfl rfl (Nat.le_of_ble_eq_true rfl) (Nat.le_of_ble_eq_true rfl) (Nat.le_of_ble_eq_true rfl) dn_Circuit_init_100 (fun q_14 H hP hD hS => ?_)
  have hP : va_P (dC, dI) xcl [(h0, .inr (9, xo_Circuit (va_up (va_up (va_up (va_up (va_up (va_up (va_up (va_up (va_up (va_up f0 0 (.ref q_1)) 3 (.ref q_5)) 4 (.ref q_6)) 5 (.ref q_7)) 6 (.ref q_8)) 7 (.ref q_9)) 8 (.ref q_10)) 9 (.ref q_11)) 10 (.ref q_12)) 11 (.ref q_13)))), (q_1, .inr (10, xo_Design (va_up (va_up (va_up (va_up (va_up (va_up (va_up (va_up (va_up (va_up (va_up (va_up dv_Design 0 (.ref q_2)) 1 (.ref q_3)) 2 (.ref q_4)) 6 (.ref q_4)) 7 (.ref q_5)) 8 (.ref q_6)) 9 (.ref q_7)) 10 (.ref q_8)) 11 (.ref q_9)) 13 (.ref q_15)) 14 (.ref q_16)) 15 (.ref q_17)))), (q_2, .inr (11, xo_Parts (va_up (va_up (va_up (va_up (va_up (va_up (va_up (va_up (va_up (va_up (va_up (va_up dv_Parts 1 (.ref q_2)) 2 (.ref q_3)) 3 (.ref q_4)) 4 (.ref q_4)) 5 (.ref q_5)) 6 (.ref q_6)) 8 (.ref q_7)) 9 (.ref q_8)) 10 (.ref q_9)) 12 (.ref q_10)) 13 (.ref q_11)) 14 (.ref q_12)))), (q_3, .inr (12, xo_Code (va_up (va_up (va_up dv_Code 0 (.ref q_2)) 2 (.ref q_3)) 3 (.ref q_4)))), (q_4, .inl (cB, 65536, .inl (fun _ => 0))), (q_14, .inl (cI, 1024, .inl (fun _ => 0)))] H := hP
  have hD : va_D A [(h0, .inr (9, xo_Circuit (va_up (va_up (va_up (va_up (va_up (va_up (va_up (va_up (va_up (va_up f0 0 (.ref q_1)) 3 (.ref q_5)) 4 (.ref q_6)) 5 (.ref q_7)) 6 (.ref q_8)) 7 (.ref q_9)) 8 (.ref q_10)) 9 (.ref q_11)) 10 (.ref q_12)) 11 (.ref q_13)))), (q_1, .inr (10, xo_Design (va_up (va_up (va_up (va_up (va_up (va_up (va_up (va_up (va_up (va_up (va_up (va_up dv_Design 0 (.ref q_2)) 1 (.ref q_3)) 2 (.ref q_4)) 6 (.ref q_4)) 7 (.ref q_5)) 8 (.ref q_6)) 9 (.ref q_7)) 10 (.ref q_8)) 11 (.ref q_9)) 13 (.ref q_15)) 14 (.ref q_16)) 15 (.ref q_17)))), (q_2, .inr (11, xo_Parts (va_up (va_up (va_up (va_up (va_up (va_up (va_up (va_up (va_up (va_up (va_up (va_up dv_Parts 1 (.ref q_2)) 2 (.ref q_3)) 3 (.ref q_4)) 4 (.ref q_4)) 5 (.ref q_5)) 6 (.ref q_6)) 8 (.ref q_7)) 9 (.ref q_8)) 10 (.ref q_9)) 12 (.ref q_10)) 13 (.ref q_11)) 14 (.ref q_12)))), (q_3, .inr (12, xo_Code (va_up (va_up (va_up dv_Code 0 (.ref q_2)) 2 (.ref q_3)) 3 (.ref q_4)))), (q_4, .inl (cB, 65536, .inl (fun _ => 0))), (q_14, .inl (cI, 1024, .inl (fun _ => 0)))] := hD
  refine va_putF (D := (dC, dI)) (ci := 9) (v := .ref q_14) (ty := (.array .int)) (C := rn_Circuit) (T := fn_Circuit) (N := 14) hx hb hg in_Circuit tn_Circuit tk_Circuit nn_Circuit hown hK hP hD hS 0 rfl rfl 12 (by decide) (hg _ wn_3_91) (fun _ h9 => h9) rfl hin rfl (tk_Circuit 12 (by decide)) rfl rfl (Nat.le_of_ble_eq_true rfl) dn_Circuit_init_102 (fun H locs hP hD hS => ?_)
  have hP : va_P (dC, dI) xcl [(h0, .inr (9, xo_Circuit (va_up (va_up (va_up (va_up (va_up (va_up (va_up (va_up (va_up (va_up (va_up f0 0 (.ref q_1)) 3 (.ref q_5)) 4 (.ref q_6)) 5 (.ref q_7)) 6 (.ref q_8)) 7 (.ref q_9)) 8 (.ref q_10)) 9 (.ref q_11)) 10 (.ref q_12)) 11 (.ref q_13)) 12 (.ref q_14)))), (q_1, .inr (10, xo_Design (va_up (va_up (va_up (va_up (va_up (va_up (va_up (va_up (va_up (va_up (va_up (va_up dv_Design 0 (.ref q_2)) 1 (.ref q_3)) 2 (.ref q_4)) 6 (.ref q_4)) 7 (.ref q_5)) 8 (.ref q_6)) 9 (.ref q_7)) 10 (.ref q_8)) 11 (.ref q_9)) 13 (.ref q_15)) 14 (.ref q_16)) 15 (.ref q_17)))), (q_2, .inr (11, xo_Parts (va_up (va_up (va_up (va_up (va_up (va_up (va_up (va_up (va_up (va_up (va_up (va_up dv_Parts 1 (.ref q_2)) 2 (.ref q_3)) 3 (.ref q_4)) 4 (.ref q_4)) 5 (.ref q_5)) 6 (.ref q_6)) 8 (.ref q_7)) 9 (.ref q_8)) 10 (.ref q_9)) 12 (.ref q_10)) 13 (.ref q_11)) 14 (.ref q_12)))), (q_3, .inr (12, xo_Code (va_up (va_up (va_up dv_Code 0 (.ref q_2)) 2 (.ref q_3)) 3 (.ref q_4)))), (q_4, .inl (cB, 65536, .inl (fun _ => 0))), (q_14, .inl (cI, 1024, .inl (fun _ => 0)))] H := hP
  have hD : va_D A [(h0, .inr (9, xo_Circuit (va_up (va_up (va_up (va_up (va_up (va_up (va_up (va_up (va_up (va_up (va_up f0 0 (.ref q_1)) 3 (.ref q_5)) 4 (.ref q_6)) 5 (.ref q_7)) 6 (.ref q_8)) 7 (.ref q_9)) 8 (.ref q_10)) 9 (.ref q_11)) 10 (.ref q_12)) 11 (.ref q_13)) 12 (.ref q_14)))), (q_1, .inr (10, xo_Design (va_up (va_up (va_up (va_up (va_up (va_up (va_up (va_up (va_up (va_up (va_up (va_up dv_Design 0 (.ref q_2)) 1 (.ref q_3)) 2 (.ref q_4)) 6 (.ref q_4)) 7 (.ref q_5)) 8 (.ref q_6)) 9 (.ref q_7)) 10 (.ref q_8)) 11 (.ref q_9)) 13 (.ref q_15)) 14 (.ref q_16)) 15 (.ref q_17)))), (q_2, .inr (11, xo_Parts (va_up (va_up (va_up (va_up (va_up (va_up (va_up (va_up (va_up (va_up (va_up (va_up dv_Parts 1 (.ref q_2)) 2 (.ref q_3)) 3 (.ref q_4)) 4 (.ref q_4)) 5 (.ref q_5)) 6 (.ref q_6)) 8 (.ref q_7)) 9 (.ref q_8)) 10 (.ref q_9)) 12 (.ref q_10)) 13 (.ref q_11)) 14 (.ref q_12)))), (q_3, .inr (12, xo_Code (va_up (va_up (va_up dv_Code 0 (.ref q_2)) 2 (.ref q_3)) 3 (.ref q_4)))), (q_4, .inl (cB, 65536, .inl (fun _ => 0))), (q_14, .inl (cI, 1024, .inl (fun _ => 0)))] := hD
  have hP := hP.sub (ws' := [(h0, .inr (9, xo_Circuit (va_up (va_up (va_up (va_up (va_up (va_up (va_up (va_up (va_up (va_up (va_up f0 0 (.ref q_1)) 3 (.ref q_5)) 4 (.ref q_6)) 5 (.ref q_7)) 6 (.ref q_8)) 7 (.ref q_9)) 8 (.ref q_10)) 9 (.ref q_11)) 10 (.ref q_12)) 11 (.ref q_13)) 12 (.ref q_14)))), (q_1, .inr (10, xo_Design (va_up (va_up (va_up (va_up (va_up (va_up (va_up (va_up (va_up (va_up (va_up (va_up dv_Design 0 (.ref q_2)) 1 (.ref q_3)) 2 (.ref q_4)) 6 (.ref q_4)) 7 (.ref q_5)) 8 (.ref q_6)) 9 (.ref q_7)) 10 (.ref q_8)) 11 (.ref q_9)) 13 (.ref q_15)) 14 (.ref q_16)) 15 (.ref q_17)))), (q_2, .inr (11, xo_Parts (va_up (va_up (va_up (va_up (va_up (va_up (va_up (va_up (va_up (va_up (va_up (va_up dv_Parts 1 (.ref q_2)) 2 (.ref q_3)) 3 (.ref q_4)) 4 (.ref q_4)) 5 (.ref q_5)) 6 (.ref q_6)) 8 (.ref q_7)) 9 (.ref q_8)) 10 (.ref q_9)) 12 (.ref q_10)) 13 (.ref q_11)) 14 (.ref q_12)))), (q_3, .inr (12, xo_Code (va_up (va_up (va_up dv_Code 0 (.ref q_2)) 2 (.ref q_3)) 3 (.ref q_4)))), (q_4, .inl (cB, 65536, .inl (fun _ => 0)))]) [0, 1, 2, 3, 4] rfl
  have hD := hD.sub (ws' := [(h0, .inr (9, xo_Circuit (va_up (va_up (va_up (va_up (va_up (va_up (va_up (va_up (va_up (va_up (va_up f0 0 (.ref q_1)) 3 (.ref q_5)) 4 (.ref q_6)) 5 (.ref q_7)) 6 (.ref q_8)) 7 (.ref q_9)) 8 (.ref q_10)) 9 (.ref q_11)) 10 (.ref q_12)) 11 (.ref q_13)) 12 (.ref q_14)))), (q_1, .inr (10, xo_Design (va_up (va_up (va_up (va_up (va_up (va_up (va_up (va_up (va_up (va_up (va_up (va_up dv_Design 0 (.ref q_2)) 1 (.ref q_3)) 2 (.ref q_4)) 6 (.ref q_4)) 7 (.ref q_5)) 8 (.ref q_6)) 9 (.ref q_7)) 10 (.ref q_8)) 11 (.ref q_9)) 13 (.ref q_15)) 14 (.ref q_16)) 15 (.ref q_17)))), (q_2, .inr (11, xo_Parts (va_up (va_up (va_up (va_up (va_up (va_up (va_up (va_up (va_up (va_up (va_up (va_up dv_Parts 1 (.ref q_2)) 2 (.ref q_3)) 3 (.ref q_4)) 4 (.ref q_4)) 5 (.ref q_5)) 6 (.ref q_6)) 8 (.ref q_7)) 9 (.ref q_8)) 10 (.ref q_9)) 12 (.ref q_10)) 13 (.ref q_11)) 14 (.ref q_12)))), (q_3, .inr (12, xo_Code (va_up (va_up (va_up dv_Code 0 (.ref q_2)) 2 (.ref q_3)) 3 (.ref q_4)))), (q_4, .inl (cB, 65536, .inl (fun _ => 0)))]) [0, 1, 2, 3, 4] (by decide) rfl
  have hP9 := hP.sub (ws' := [(h0, .inr (9, xo_Circuit (va_up (va_up (va_up (va_up (va_up (va_up (va_up (va_up (va_up (va_up (va_up f0 0 (.ref q_1)) 3 (.ref q_5)) 4 (.ref q_6)) 5 (.ref q_7)) 6 (.ref q_8)) 7 (.ref q_9)) 8 (.ref q_10)) 9 (.ref q_11)) 10 (.ref q_12)) 11 (.ref q_13)) 12 (.ref q_14)))), (q_1, .inr (10, xo_Design (va_up (va_up (va_up (va_up (va_up (va_up (va_up (va_up (va_up (va_up (va_up (va_up dv_Design 0 (.ref q_2)) 1 (.ref q_3)) 2 (.ref q_4)) 6 (.ref q_4)) 7 (.ref q_5)) 8 (.ref q_6)) 9 (.ref q_7)) 10 (.ref q_8)) 11 (.ref q_9)) 13 (.ref q_15)) 14 (.ref q_16)) 15 (.ref q_17)))), (q_2, .inr (11, xo_Parts (va_up (va_up (va_up (va_up (va_up (va_up (va_up (va_up (va_up (va_up (va_up (va_up dv_Parts 1 (.ref q_2)) 2 (.ref q_3)) 3 (.ref q_4)) 4 (.ref q_4)) 5 (.ref q_5)) 6 (.ref q_6)) 8 (.ref q_7)) 9 (.ref q_8)) 10 (.ref q_9)) 12 (.ref q_10)) 13 (.ref q_11)) 14 (.ref q_12)))), (q_3, .inr (12, xo_Code (va_up (va_up (va_up dv_Code 0 (.ref q_2)) 2 (.ref q_3)) 3 (.ref q_4)))), (q_4, .inl (cB, 65536, .inl (fun _ => 0)))]) [0, 1, 2, 3, 4] rfl
  have hD9 := hD.sub (ws' := [(h0, .inr (9, xo_Circuit (va_up (va_up (va_up (va_up (va_up (va_up (va_up (va_up (va_up (va_up (va_up f0 0 (.ref q_1)) 3 (.ref q_5)) 4 (.ref q_6)) 5 (.ref q_7)) 6 (.ref q_8)) 7 (.ref q_9)) 8 (.ref q_10)) 9 (.ref q_11)) 10 (.ref q_12)) 11 (.ref q_13)) 12 (.ref q_14)))), (q_1, .inr (10, xo_Design (va_up (va_up (va_up (va_up (va_up (va_up (va_up (va_up (va_up (va_up (va_up (va_up dv_Design 0 (.ref q_2)) 1 (.ref q_3)) 2 (.ref q_4)) 6 (.ref q_4)) 7 (.ref q_5)) 8 (.ref q_6)) 9 (.ref q_7)) 10 (.ref q_8)) 11 (.ref q_9)) 13 (.ref q_15)) 14 (.ref q_16)) 15 (.ref q_17)))), (q_2, .inr (11, xo_Parts (va_up (va_up (va_up (va_up (va_up (va_up (va_up (va_up (va_up (va_up (va_up (va_up dv_Parts 1 (.ref q_2)) 2 (.ref q_3)) 3 (.ref q_4)) 4 (.ref q_4)) 5 (.ref q_5)) 6 (.ref q_6)) 8 (.ref q_7)) 9 (.ref q_8)) 10 (.ref q_9)) 12 (.ref q_10)) 13 (.ref q_11)) 14 (.ref q_12)))), (q_3, .inr (12, xo_Code (va_up (va_up (va_up dv_Code 0 (.ref q_2)) 2 (.ref q_3)) 3 (.ref q_4)))), (q_4, .inl (cB, 65536, .inl (fun _ => 0)))]) [0, 1, 2, 3, 4] (by decide) rfl
  exact xk_vret (w1 := fun u : Nat × Nat × Nat × Nat => [(h0, .inr (9, xo_Circuit (va_up (va_up (va_up (va_up (va_up (va_up (va_up (va_up (va_up (va_up (va_up f0 0 (.ref u.1)) 3 (.ref q_5)) 4 (.ref q_6)) 5 (.ref q_7)) 6 (.ref q_8)) 7 (.ref q_9)) 8 (.ref q_10)) 9 (.ref q_11)) 10 (.ref q_12)) 11 (.ref q_13)) 12 (.ref q_14)))), (u.1, .inr (10, xo_Design (va_up (va_up (va_up (va_up (va_up (va_up (va_up (va_up (va_up (va_up (va_up (va_up dv_Design 0 (.ref u.2.1)) 1 (.ref u.2.2.1)) 2 (.ref u.2.2.2)) 6 (.ref u.2.2.2)) 7 (.ref q_5)) 8 (.ref q_6)) 9 (.ref q_7)) 10 (.ref q_8)) 11 (.ref q_9)) 13 (.ref q_15)) 14 (.ref q_16)) 15 (.ref q_17)))), (u.2.1, .inr (11, xo_Parts (va_up (va_up (va_up (va_up (va_up (va_up (va_up (va_up (va_up (va_up (va_up (va_up dv_Parts 1 (.ref u.2.1)) 2 (.ref u.2.2.1)) 3 (.ref u.2.2.2)) 4 (.ref u.2.2.2)) 5 (.ref q_5)) 6 (.ref q_6)) 8 (.ref q_7)) 9 (.ref q_8)) 10 (.ref q_9)) 12 (.ref q_10)) 13 (.ref q_11)) 14 (.ref q_12)))), (u.2.2.1, .inr (12, xo_Code (va_up (va_up (va_up dv_Code 0 (.ref u.2.1)) 2 (.ref u.2.2.1)) 3 (.ref u.2.2.2)))), (u.2.2.2, .inl (cB, 65536, .inl (fun _ => 0)))]) (q_1, q_2, q_3, q_4) hx hb hr hlocks hK hS dn_Circuit_init_105 hP9 hD9 trivial (Nat.le_refl _) (Nat.le_refl _)
set_option maxHeartbeats 4000000 in
set_option maxRecDepth 100000 in
theorem ct_C_init_0 (l : Launch) (dC : Nat → ClassId) (dI : Nat → Nat → Nat) (cI cB cJ cZ cQ : ClassId) (sz : Nat) (h0 : Nat) (f0 : Nat → Value) : Met l yn_C_init (xw yn_C_init bn_C_init 1 none) ({ frames := 4, cells := 122, slots := 904412, locals := 80 }) (xk_P (dC, dI) xcl (xt cI cB cJ cZ cQ) [.ref h0] sz [(h0, .inr (1, xo_C f0))]) (xk_Qv (dC, dI) xcl (xt cI cB cJ cZ cQ) (fun u : Nat × Nat × Nat × Nat × Nat × Nat × Nat × Nat × Nat × Nat × Nat × Nat × Nat × Nat × Nat × Nat × Nat × Nat × Nat × Nat => True) (fun u : Nat × Nat × Nat × Nat × Nat × Nat × Nat × Nat × Nat × Nat × Nat × Nat × Nat × Nat × Nat × Nat × Nat × Nat × Nat × Nat => [(h0, .inr (1, xo_C (va_up (va_up (va_up (va_up (va_up (va_up (va_up (va_up f0 2 (.ref u.1)) 3 (.ref u.2.2.1)) 4 (.ref u.2.2.2.2.2.1)) 5 (.ref u.2.2.2.2.2.2.1)) 6 (.ref u.2.2.2.2.2.2.2.2.1)) 7 (.ref u.2.2.2.2.2.2.2.2.2.1)) 9 (.ref u.2.2.2.2.2.2.2.2.2.2.1)) 10 (.ref u.2.2.2.2.2.2.2.2.2.2.2.2.2.2.2.1)))), (u.1, .inr (2, xo_Tokens (va_up dv_Tokens 0 (.ref u.2.1)))), (u.2.1, .inl (cJ, 65537, .inr (.inl (fun _ => 0)))), (u.2.2.1, .inr (3, xo_Scanner (va_up (va_up (va_up (va_up (va_up (va_up dv_Scanner 1 (.ref u.2.2.2.1)) 4 (.ref u.2.2.2.2.1)) 5 (.ref u.2.2.1)) 6 (.ref u.2.2.2.1)) 7 (.ref u.2.2.2.2.1)) 0 (.ref u.1)))), (u.2.2.2.1, .inl (cB, 0, .inl (fun _ => 0))), (u.2.2.2.2.1, .inl (cI, 256, .inl (fun _ => 0))), (u.2.2.2.2.2.1, .inr (4, xo_Checker (va_up (va_up (va_up (va_up (va_up (va_up dv_Checker 5 (.ref u.1)) 6 (.ref u.2.1)) 7 (.ref u.2.2.1)) 8 (.ref u.2.2.2.1)) 9 (.ref u.2.2.2.2.1)) 0 (.ref u.1)))), (u.2.2.2.2.2.2.2.1, .inr (5, xo_Meaning (va_up (va_up (va_up (va_up (va_up dv_Meaning 12 (.ref u.1)) 13 (.ref u.2.1)) 14 (.ref u.2.2.1)) 15 (.ref u.2.2.2.1)) 0 (.ref u.2.2.2.2.2.1)))), (u.2.2.2.2.2.2.1, .inr (6, xo_Grammar (va_up (va_up (va_up (va_up (va_up (va_up (va_up dv_Grammar 9 (.ref u.1)) 11 (.ref u.2.1)) 12 (.ref u.2.2.1)) 13 (.ref u.2.2.2.1)) 0 (.ref u.1)) 1 (.ref u.2.2.2.2.2.1)) 2 (.ref u.2.2.2.2.2.2.2.1)))), (u.2.2.2.2.2.2.2.2.1, .inr (7, xo_Order (va_up (va_up (va_up (va_up (va_up dv_Order 1 (.ref u.1)) 2 (.ref u.2.1)) 3 (.ref u.2.2.1)) 4 (.ref u.2.2.2.1)) 5 (.ref u.2.2.2.2.1)))), (u.2.2.2.2.2.2.2.2.2.1, .inr (8, xo_Machine (va_up (va_up (va_up dv_Machine 0 (.ref u.1)) 1 (.ref u.2.1)) 2 (.ref u.2.2.1)))), (u.2.2.2.2.2.2.2.2.2.2.1, .inr (9, xo_Circuit (va_up (va_up (va_up (va_up (va_up (va_up (va_up (va_up (va_up (va_up (va_up dv_Circuit 0 (.ref u.2.2.2.2.2.2.2.2.2.2.2.1)) 3 (.ref u.2.2.2.2.1)) 4 (.ref u.2.2.2.2.2.1)) 5 (.ref u.2.2.2.2.2.2.1)) 6 (.ref u.2.2.2.2.2.2.2.1)) 7 (.ref u.2.2.2.2.2.2.2.2.1)) 8 (.ref u.2.2.2.2.2.2.2.2.2.1)) 9 (.ref u.2.2.2.2.2.2.2.2.2.2.1)) 10 (.ref u.2.2.2.2.2.2.2.2.2.2.2.1)) 11 (.ref u.2.2.2.2.2.2.2.2.2.2.2.2.1)) 12 (.ref u.2.2.2.2.2.2.2.2.2.2.2.2.2.1)))), (u.2.2.2.2.2.2.2.2.2.2.2.1, .inr (10, xo_Design (va_up (va_up (va_up (va_up (va_up (va_up (va_up (va_up (va_up (va_up (va_up (va_up dv_Design 0 (.ref u.2.2.2.2.2.2.2.2.2.2.2.2.1)) 1 (.ref u.2.2.2.2.2.2.2.2.2.2.2.2.2.1)) 2 (.ref u.2.2.2.2.2.2.2.2.2.2.2.2.2.2.1)) 6 (.ref u.2.2.2.2.2.2.2.2.2.2.2.2.2.2.1)) 7 (.ref u.2.2.2.2.1)) 8 (.ref u.2.2.2.2.2.1)) 9 (.ref u.2.2.2.2.2.2.1)) 10 (.ref u.2.2.2.2.2.2.2.1)) 11 (.ref u.2.2.2.2.2.2.2.2.1)) 13 (.ref u.2.2.2.2.2.2.2.2.2.2.2.2.2.2.1)) 14 (.ref u.2.2.2.2.2.2.2.2.2.2.2.2.2.2.2.1)) 15 (.ref u.2.2.2.2.2.2.2.2.2.2.2.2.2.2.2.2.1)))), (u.2.2.2.2.2.2.2.2.2.2.2.2.1, .inr (11, xo_Parts (va_up (va_up (va_up (va_up (va_up (va_up (va_up (va_up (va_up (va_up (va_up (va_up dv_Parts 1 (.ref u.2.2.2.2.2.2.2.2.2.2.2.2.1)) 2 (.ref u.2.2.2.2.2.2.2.2.2.2.2.2.2.1)) 3 (.ref u.2.2.2.2.2.2.2.2.2.2.2.2.2.2.1)) 4 (.ref u.2.2.2.2.2.2.2.2.2.2.2.2.2.2.1)) 5 (.ref u.2.2.2.2.1)) 6 (.ref u.2.2.2.2.2.1)) 8 (.ref u.2.2.2.2.2.2.1)) 9 (.ref u.2.2.2.2.2.2.2.1)) 10 (.ref u.2.2.2.2.2.2.2.2.1)) 12 (.ref u.2.2.2.2.2.2.2.2.2.1)) 13 (.ref u.2.2.2.2.2.2.2.2.2.2.1)) 14 (.ref u.2.2.2.2.2.2.2.2.2.2.2.1)))), (u.2.2.2.2.2.2.2.2.2.2.2.2.2.1, .inr (12, xo_Code (va_up (va_up (va_up dv_Code 0 (.ref u.2.2.2.2.2.2.2.2.2.2.2.2.1)) 2 (.ref u.2.2.2.2.2.2.2.2.2.2.2.2.2.1)) 3 (.ref u.2.2.2.2.2.2.2.2.2.2.2.2.2.2.1)))), (u.2.2.2.2.2.2.2.2.2.2.2.2.2.2.1, .inl (cB, 65536, .inl (fun _ => 0))), (u.2.2.2.2.2.2.2.2.2.2.2.2.2.2.2.1, .inr (9, xo_Circuit (va_up (va_up (va_up (va_up (va_up (va_up (va_up (va_up (va_up (va_up (va_up dv_Circuit 0 (.ref u.2.2.2.2.2.2.2.2.2.2.2.2.2.2.2.2.1)) 3 (.ref u.2.2.2.2.1)) 4 (.ref u.2.2.2.2.2.1)) 5 (.ref u.2.2.2.2.2.2.1)) 6 (.ref u.2.2.2.2.2.2.2.1)) 7 (.ref u.2.2.2.2.2.2.2.2.1)) 8 (.ref u.2.2.2.2.2.2.2.2.2.1)) 9 (.ref u.2.2.2.2.2.2.2.2.2.2.1)) 10 (.ref u.2.2.2.2.2.2.2.2.2.2.2.1)) 11 (.ref u.2.2.2.2.2.2.2.2.2.2.2.2.1)) 12 (.ref u.2.2.2.2.2.2.2.2.2.2.2.2.2.1)))), (u.2.2.2.2.2.2.2.2.2.2.2.2.2.2.2.2.1, .inr (10, xo_Design (va_up (va_up (va_up (va_up (va_up (va_up (va_up (va_up (va_up (va_up (va_up (va_up dv_Design 0 (.ref u.2.2.2.2.2.2.2.2.2.2.2.2.2.2.2.2.2.1)) 1 (.ref u.2.2.2.2.2.2.2.2.2.2.2.2.2.2.2.2.2.2.1)) 2 (.ref u.2.2.2.2.2.2.2.2.2.2.2.2.2.2.2.2.2.2.2)) 6 (.ref u.2.2.2.2.2.2.2.2.2.2.2.2.2.2.2.2.2.2.2)) 7 (.ref u.2.2.2.2.1)) 8 (.ref u.2.2.2.2.2.1)) 9 (.ref u.2.2.2.2.2.2.1)) 10 (.ref u.2.2.2.2.2.2.2.1)) 11 (.ref u.2.2.2.2.2.2.2.2.1)) 13 (.ref u.2.2.2.2.2.2.2.2.2.2.2.2.2.2.1)) 14 (.ref u.2.2.2.2.2.2.2.2.2.2.2.2.2.2.2.1)) 15 (.ref u.2.2.2.2.2.2.2.2.2.2.2.2.2.2.2.2.1)))), (u.2.2.2.2.2.2.2.2.2.2.2.2.2.2.2.2.2.1, .inr (11, xo_Parts (va_up (va_up (va_up (va_up (va_up (va_up (va_up (va_up (va_up (va_up (va_up (va_up dv_Parts 1 (.ref u.2.2.2.2.2.2.2.2.2.2.2.2.2.2.2.2.2.1)) 2 (.ref u.2.2.2.2.2.2.2.2.2.2.2.2.2.2.2.2.2.2.1)) 3 (.ref u.2.2.2.2.2.2.2.2.2.2.2.2.2.2.2.2.2.2.2)) 4 (.ref u.2.2.2.2.2.2.2.2.2.2.2.2.2.2.2.2.2.2.2)) 5 (.ref u.2.2.2.2.1)) 6 (.ref u.2.2.2.2.2.1)) 8 (.ref u.2.2.2.2.2.2.1)) 9 (.ref u.2.2.2.2.2.2.2.1)) 10 (.ref u.2.2.2.2.2.2.2.2.1)) 12 (.ref u.2.2.2.2.2.2.2.2.2.1)) 13 (.ref u.2.2.2.2.2.2.2.2.2.2.1)) 14 (.ref u.2.2.2.2.2.2.2.2.2.2.2.1)))), (u.2.2.2.2.2.2.2.2.2.2.2.2.2.2.2.2.2.2.1, .inr (12, xo_Code (va_up (va_up (va_up dv_Code 0 (.ref u.2.2.2.2.2.2.2.2.2.2.2.2.2.2.2.2.2.1)) 2 (.ref u.2.2.2.2.2.2.2.2.2.2.2.2.2.2.2.2.2.2.1)) 3 (.ref u.2.2.2.2.2.2.2.2.2.2.2.2.2.2.2.2.2.2.2)))), (u.2.2.2.2.2.2.2.2.2.2.2.2.2.2.2.2.2.2.2, .inl (cB, 65536, .inl (fun _ => 0)))]) (va_A [(h0, .inr (1, xo_C f0))] sz)) 122 904412 (va_A [(h0, .inr (1, xo_C f0))] sz) := by
  refine xk_of (QA := xk_Qv (dC, dI) xcl (xt cI cB cJ cZ cQ) (fun u : Nat × Nat × Nat × Nat × Nat × Nat × Nat × Nat × Nat × Nat × Nat × Nat × Nat × Nat × Nat × Nat × Nat × Nat × Nat × Nat => True) (fun u : Nat × Nat × Nat × Nat × Nat × Nat × Nat × Nat × Nat × Nat × Nat × Nat × Nat × Nat × Nat × Nat × Nat × Nat × Nat × Nat => [(h0, .inr (1, xo_C (va_up (va_up (va_up (va_up (va_up (va_up (va_up (va_up f0 2 (.ref u.1)) 3 (.ref u.2.2.1)) 4 (.ref u.2.2.2.2.2.1)) 5 (.ref u.2.2.2.2.2.2.1)) 6 (.ref u.2.2.2.2.2.2.2.2.1)) 7 (.ref u.2.2.2.2.2.2.2.2.2.1)) 9 (.ref u.2.2.2.2.2.2.2.2.2.2.1)) 10 (.ref u.2.2.2.2.2.2.2.2.2.2.2.2.2.2.2.1)))), (u.1, .inr (2, xo_Tokens (va_up dv_Tokens 0 (.ref u.2.1)))), (u.2.1, .inl (cJ, 65537, .inr (.inl (fun _ => 0)))), (u.2.2.1, .inr (3, xo_Scanner (va_up (va_up (va_up (va_up (va_up (va_up dv_Scanner 1 (.ref u.2.2.2.1)) 4 (.ref u.2.2.2.2.1)) 5 (.ref u.2.2.1)) 6 (.ref u.2.2.2.1)) 7 (.ref u.2.2.2.2.1)) 0 (.ref u.1)))), (u.2.2.2.1, .inl (cB, 0, .inl (fun _ => 0))), (u.2.2.2.2.1, .inl (cI, 256, .inl (fun _ => 0))), (u.2.2.2.2.2.1, .inr (4, xo_Checker (va_up (va_up (va_up (va_up (va_up (va_up dv_Checker 5 (.ref u.1)) 6 (.ref u.2.1)) 7 (.ref u.2.2.1)) 8 (.ref u.2.2.2.1)) 9 (.ref u.2.2.2.2.1)) 0 (.ref u.1)))), (u.2.2.2.2.2.2.2.1, .inr (5, xo_Meaning (va_up (va_up (va_up (va_up (va_up dv_Meaning 12 (.ref u.1)) 13 (.ref u.2.1)) 14 (.ref u.2.2.1)) 15 (.ref u.2.2.2.1)) 0 (.ref u.2.2.2.2.2.1)))), (u.2.2.2.2.2.2.1, .inr (6, xo_Grammar (va_up (va_up (va_up (va_up (va_up (va_up (va_up dv_Grammar 9 (.ref u.1)) 11 (.ref u.2.1)) 12 (.ref u.2.2.1)) 13 (.ref u.2.2.2.1)) 0 (.ref u.1)) 1 (.ref u.2.2.2.2.2.1)) 2 (.ref u.2.2.2.2.2.2.2.1)))), (u.2.2.2.2.2.2.2.2.1, .inr (7, xo_Order (va_up (va_up (va_up (va_up (va_up dv_Order 1 (.ref u.1)) 2 (.ref u.2.1)) 3 (.ref u.2.2.1)) 4 (.ref u.2.2.2.1)) 5 (.ref u.2.2.2.2.1)))), (u.2.2.2.2.2.2.2.2.2.1, .inr (8, xo_Machine (va_up (va_up (va_up dv_Machine 0 (.ref u.1)) 1 (.ref u.2.1)) 2 (.ref u.2.2.1)))), (u.2.2.2.2.2.2.2.2.2.2.1, .inr (9, xo_Circuit (va_up (va_up (va_up (va_up (va_up (va_up (va_up (va_up (va_up (va_up (va_up dv_Circuit 0 (.ref u.2.2.2.2.2.2.2.2.2.2.2.1)) 3 (.ref u.2.2.2.2.1)) 4 (.ref u.2.2.2.2.2.1)) 5 (.ref u.2.2.2.2.2.2.1)) 6 (.ref u.2.2.2.2.2.2.2.1)) 7 (.ref u.2.2.2.2.2.2.2.2.1)) 8 (.ref u.2.2.2.2.2.2.2.2.2.1)) 9 (.ref u.2.2.2.2.2.2.2.2.2.2.1)) 10 (.ref u.2.2.2.2.2.2.2.2.2.2.2.1)) 11 (.ref u.2.2.2.2.2.2.2.2.2.2.2.2.1)) 12 (.ref u.2.2.2.2.2.2.2.2.2.2.2.2.2.1)))), (u.2.2.2.2.2.2.2.2.2.2.2.1, .inr (10, xo_Design (va_up (va_up (va_up (va_up (va_up (va_up (va_up (va_up (va_up (va_up (va_up (va_up dv_Design 0 (.ref u.2.2.2.2.2.2.2.2.2.2.2.2.1)) 1 (.ref u.2.2.2.2.2.2.2.2.2.2.2.2.2.1)) 2 (.ref u.2.2.2.2.2.2.2.2.2.2.2.2.2.2.1)) 6 (.ref u.2.2.2.2.2.2.2.2.2.2.2.2.2.2.1)) 7 (.ref u.2.2.2.2.1)) 8 (.ref u.2.2.2.2.2.1)) 9 (.ref u.2.2.2.2.2.2.1)) 10 (.ref u.2.2.2.2.2.2.2.1)) 11 (.ref u.2.2.2.2.2.2.2.2.1)) 13 (.ref u.2.2.2.2.2.2.2.2.2.2.2.2.2.2.1)) 14 (.ref u.2.2.2.2.2.2.2.2.2.2.2.2.2.2.2.1)) 15 (.ref u.2.2.2.2.2.2.2.2.2.2.2.2.2.2.2.2.1)))), (u.2.2.2.2.2.2.2.2.2.2.2.2.1, .inr (11, xo_Parts (va_up (va_up (va_up (va_up (va_up (va_up (va_up (va_up (va_up (va_up (va_up (va_up dv_Parts 1 (.ref u.2.2.2.2.2.2.2.2.2.2.2.2.1)) 2 (.ref u.2.2.2.2.2.2.2.2.2.2.2.2.2.1)) 3 (.ref u.2.2.2.2.2.2.2.2.2.2.2.2.2.2.1)) 4 (.ref u.2.2.2.2.2.2.2.2.2.2.2.2.2.2.1)) 5 (.ref u.2.2.2.2.1)) 6 (.ref u.2.2.2.2.2.1)) 8 (.ref u.2.2.2.2.2.2.1)) 9 (.ref u.2.2.2.2.2.2.2.1)) 10 (.ref u.2.2.2.2.2.2.2.2.1)) 12 (.ref u.2.2.2.2.2.2.2.2.2.1)) 13 (.ref u.2.2.2.2.2.2.2.2.2.2.1)) 14 (.ref u.2.2.2.2.2.2.2.2.2.2.2.1)))), (u.2.2.2.2.2.2.2.2.2.2.2.2.2.1, .inr (12, xo_Code (va_up (va_up (va_up dv_Code 0 (.ref u.2.2.2.2.2.2.2.2.2.2.2.2.1)) 2 (.ref u.2.2.2.2.2.2.2.2.2.2.2.2.2.1)) 3 (.ref u.2.2.2.2.2.2.2.2.2.2.2.2.2.2.1)))), (u.2.2.2.2.2.2.2.2.2.2.2.2.2.2.1, .inl (cB, 65536, .inl (fun _ => 0))), (u.2.2.2.2.2.2.2.2.2.2.2.2.2.2.2.1, .inr (9, xo_Circuit (va_up (va_up (va_up (va_up (va_up (va_up (va_up (va_up (va_up (va_up (va_up dv_Circuit 0 (.ref u.2.2.2.2.2.2.2.2.2.2.2.2.2.2.2.2.1)) 3 (.ref u.2.2.2.2.1)) 4 (.ref u.2.2.2.2.2.1)) 5 (.ref u.2.2.2.2.2.2.1)) 6 (.ref u.2.2.2.2.2.2.2.1)) 7 (.ref u.2.2.2.2.2.2.2.2.1)) 8 (.ref u.2.2.2.2.2.2.2.2.2.1)) 9 (.ref u.2.2.2.2.2.2.2.2.2.2.1)) 10 (.ref u.2.2.2.2.2.2.2.2.2.2.2.1)) 11 (.ref u.2.2.2.2.2.2.2.2.2.2.2.2.1)) 12 (.ref u.2.2.2.2.2.2.2.2.2.2.2.2.2.1)))), (u.2.2.2.2.2.2.2.2.2.2.2.2.2.2.2.2.1, .inr (10, xo_Design (va_up (va_up (va_up (va_up (va_up (va_up (va_up (va_up (va_up (va_up (va_up (va_up dv_Design 0 (.ref u.2.2.2.2.2.2.2.2.2.2.2.2.2.2.2.2.2.1)) 1 (.ref u.2.2.2.2.2.2.2.2.2.2.2.2.2.2.2.2.2.2.1)) 2 (.ref u.2.2.2.2.2.2.2.2.2.2.2.2.2.2.2.2.2.2.2)) 6 (.ref u.2.2.2.2.2.2.2.2.2.2.2.2.2.2.2.2.2.2.2)) 7 (.ref u.2.2.2.2.1)) 8 (.ref u.2.2.2.2.2.1)) 9 (.ref u.2.2.2.2.2.2.1)) 10 (.ref u.2.2.2.2.2.2.2.1)) 11 (.ref u.2.2.2.2.2.2.2.2.1)) 13 (.ref u.2.2.2.2.2.2.2.2.2.2.2.2.2.2.1)) 14 (.ref u.2.2.2.2.2.2.2.2.2.2.2.2.2.2.2.1)) 15 (.ref u.2.2.2.2.2.2.2.2.2.2.2.2.2.2.2.2.1)))), (u.2.2.2.2.2.2.2.2.2.2.2.2.2.2.2.2.2.1, .inr (11, xo_Parts (va_up (va_up (va_up (va_up (va_up (va_up (va_up (va_up (va_up (va_up (va_up (va_up dv_Parts 1 (.ref u.2.2.2.2.2.2.2.2.2.2.2.2.2.2.2.2.2.1)) 2 (.ref u.2.2.2.2.2.2.2.2.2.2.2.2.2.2.2.2.2.2.1)) 3 (.ref u.2.2.2.2.2.2.2.2.2.2.2.2.2.2.2.2.2.2.2)) 4 (.ref u.2.2.2.2.2.2.2.2.2.2.2.2.2.2.2.2.2.2.2)) 5 (.ref u.2.2.2.2.1)) 6 (.ref u.2.2.2.2.2.1)) 8 (.ref u.2.2.2.2.2.2.1)) 9 (.ref u.2.2.2.2.2.2.2.1)) 10 (.ref u.2.2.2.2.2.2.2.2.1)) 12 (.ref u.2.2.2.2.2.2.2.2.2.1)) 13 (.ref u.2.2.2.2.2.2.2.2.2.2.1)) 14 (.ref u.2.2.2.2.2.2.2.2.2.2.2.1)))), (u.2.2.2.2.2.2.2.2.2.2.2.2.2.2.2.2.2.2.1, .inr (12, xo_Code (va_up (va_up (va_up dv_Code 0 (.ref u.2.2.2.2.2.2.2.2.2.2.2.2.2.2.2.2.2.1)) 2 (.ref u.2.2.2.2.2.2.2.2.2.2.2.2.2.2.2.2.2.2.1)) 3 (.ref u.2.2.2.2.2.2.2.2.2.2.2.2.2.2.2.2.2.2.2)))), (u.2.2.2.2.2.2.2.2.2.2.2.2.2.2.2.2.2.2.2, .inl (cB, 65536, .inl (fun _ => 0)))])) (by decide) (Nat.le_of_ble_eq_true rfl) ?_
  intro p e s m below meth c hx hb hml hown hg hr hlocks hin hP hK hN A hA hD hS ls hl
  have hown : s.vm.findClass rn_C = some m.cls := hown
  have hl : lv_has ls 1 [(0, .ref h0)] := hl
  obtain ⟨H, hH⟩ : ∃ z, z = s.heap := ⟨_, rfl⟩
  rw [← hH] at hP
  have hS : va_S A s.heap H [] := by rw [hH]; exact va_S.rf
  suffices kk : W p l e ({ frames := 4, cells := 122, slots := 904412, locals := 80 }) s m [.ref h0].toArray below meth c H [] 0 0 (MQ below (xk_Qv (dC, dI) xcl (xt cI cB cJ cZ cQ) (fun u : Nat × Nat × Nat × Nat × Nat × Nat × Nat × Nat × Nat × Nat × Nat × Nat × Nat × Nat × Nat × Nat × Nat × Nat × Nat × Nat => True) (fun u : Nat × Nat × Nat × Nat × Nat × Nat × Nat × Nat × Nat × Nat × Nat × Nat × Nat × Nat × Nat × Nat × Nat × Nat × Nat × Nat => [(h0, .inr (1, xo_C (va_up (va_up (va_up (va_up (va_up (va_up (va_up (va_up f0 2 (.ref u.1)) 3 (.ref u.2.2.1)) 4 (.ref u.2.2.2.2.2.1)) 5 (.ref u.2.2.2.2.2.2.1)) 6 (.ref u.2.2.2.2.2.2.2.2.1)) 7 (.ref u.2.2.2.2.2.2.2.2.2.1)) 9 (.ref u.2.2.2.2.2.2.2.2.2.2.1)) 10 (.ref u.2.2.2.2.2.2.2.2.2.2.2.2.2.2.2.1)))), (u.1, .inr (2, xo_Tokens (va_up dv_Tokens 0 (.ref u.2.1)))), (u.2.1, .inl (cJ, 65537, .inr (.inl (fun _ => 0)))), (u.2.2.1, .inr (3, xo_Scanner (va_up (va_up (va_up (va_up (va_up (va_up dv_Scanner 1 (.ref u.2.2.2.1)) 4 (.ref u.2.2.2.2.1)) 5 (.ref u.2.2.1)) 6 (.ref u.2.2.2.1)) 7 (.ref u.2.2.2.2.1)) 0 (.ref u.1)))), (u.2.2.2.1, .inl (cB, 0, .inl (fun _ => 0))), (u.2.2.2.2.1, .inl (cI, 256, .inl (fun _ => 0))), (u.2.2.2.2.2.1, .inr (4, xo_Checker (va_up (va_up (va_up (va_up (va_up (va_up dv_Checker 5 (.ref u.1)) 6 (.ref u.2.1)) 7 (.ref u.2.2.1)) 8 (.ref u.2.2.2.1)) 9 (.ref u.2.2.2.2.1)) 0 (.ref u.1)))), (u.2.2.2.2.2.2.2.1, .inr (5, xo_Meaning (va_up (va_up (va_up (va_up (va_up dv_Meaning 12 (.ref u.1)) 13 (.ref u.2.1)) 14 (.ref u.2.2.1)) 15 (.ref u.2.2.2.1)) 0 (.ref u.2.2.2.2.2.1)))), (u.2.2.2.2.2.2.1, .inr (6, xo_Grammar (va_up (va_up (va_up (va_up (va_up (va_up (va_up dv_Grammar 9 (.ref u.1)) 11 (.ref u.2.1)) 12 (.ref u.2.2.1)) 13 (.ref u.2.2.2.1)) 0 (.ref u.1)) 1 (.ref u.2.2.2.2.2.1)) 2 (.ref u.2.2.2.2.2.2.2.1)))), (u.2.2.2.2.2.2.2.2.1, .inr (7, xo_Order (va_up (va_up (va_up (va_up (va_up dv_Order 1 (.ref u.1)) 2 (.ref u.2.1)) 3 (.ref u.2.2.1)) 4 (.ref u.2.2.2.1)) 5 (.ref u.2.2.2.2.1)))), (u.2.2.2.2.2.2.2.2.2.1, .inr (8, xo_Machine (va_up (va_up (va_up dv_Machine 0 (.ref u.1)) 1 (.ref u.2.1)) 2 (.ref u.2.2.1)))), (u.2.2.2.2.2.2.2.2.2.2.1, .inr (9, xo_Circuit (va_up (va_up (va_up (va_up (va_up (va_up (va_up (va_up (va_up (va_up (va_up dv_Circuit 0 (.ref u.2.2.2.2.2.2.2.2.2.2.2.1)) 3 (.ref u.2.2.2.2.1)) 4 (.ref u.2.2.2.2.2.1)) 5 (.ref u.2.2.2.2.2.2.1)) 6 (.ref u.2.2.2.2.2.2.2.1)) 7 (.ref u.2.2.2.2.2.2.2.2.1)) 8 (.ref u.2.2.2.2.2.2.2.2.2.1)) 9 (.ref u.2.2.2.2.2.2.2.2.2.2.1)) 10 (.ref u.2.2.2.2.2.2.2.2.2.2.2.1)) 11 (.ref u.2.2.2.2.2.2.2.2.2.2.2.2.1)) 12 (.ref u.2.2.2.2.2.2.2.2.2.2.2.2.2.1)))), (u.2.2.2.2.2.2.2.2.2.2.2.1, .inr (10, xo_Design (va_up (va_up (va_up (va_up (va_up (va_up (va_up (va_up (va_up (va_up (va_up (va_up dv_Design 0 (.ref u.2.2.2.2.2.2.2.2.2.2.2.2.1)) 1 (.ref u.2.2.2.2.2.2.2.2.2.2.2.2.2.1)) 2 (.ref u.2.2.2.2.2.2.2.2.2.2.2.2.2.2.1)) 6 (.ref u.2.2.2.2.2.2.2.2.2.2.2.2.2.2.1)) 7 (.ref u.2.2.2.2.1)) 8 (.ref u.2.2.2.2.2.1)) 9 (.ref u.2.2.2.2.2.2.1)) 10 (.ref u.2.2.2.2.2.2.2.1)) 11 (.ref u.2.2.2.2.2.2.2.2.1)) 13 (.ref u.2.2.2.2.2.2.2.2.2.2.2.2.2.2.1)) 14 (.ref u.2.2.2.2.2.2.2.2.2.2.2.2.2.2.2.1)) 15 (.ref u.2.2.2.2.2.2.2.2.2.2.2.2.2.2.2.2.1)))), (u.2.2.2.2.2.2.2.2.2.2.2.2.1, .inr (11, xo_Parts (va_up (va_up (va_up (va_up (va_up (va_up (va_up (va_up (va_up (va_up (va_up (va_up dv_Parts 1 (.ref u.2.2.2.2.2.2.2.2.2.2.2.2.1)) 2 (.ref u.2.2.2.2.2.2.2.2.2.2.2.2.2.1)) 3 (.ref u.2.2.2.2.2.2.2.2.2.2.2.2.2.2.1)) 4 (.ref u.2.2.2.2.2.2.2.2.2.2.2.2.2.2.1)) 5 (.ref u.2.2.2.2.1)) 6 (.ref u.2.2.2.2.2.1)) 8 (.ref u.2.2.2.2.2.2.1)) 9 (.ref u.2.2.2.2.2.2.2.1)) 10 (.ref u.2.2.2.2.2.2.2.2.1)) 12 (.ref u.2.2.2.2.2.2.2.2.2.1)) 13 (.ref u.2.2.2.2.2.2.2.2.2.2.1)) 14 (.ref u.2.2.2.2.2.2.2.2.2.2.2.1)))), (u.2.2.2.2.2.2.2.2.2.2.2.2.2.1, .inr (12, xo_Code (va_up (va_up (va_up dv_Code 0 (.ref u.2.2.2.2.2.2.2.2.2.2.2.2.1)) 2 (.ref u.2.2.2.2.2.2.2.2.2.2.2.2.2.1)) 3 (.ref u.2.2.2.2.2.2.2.2.2.2.2.2.2.2.1)))), (u.2.2.2.2.2.2.2.2.2.2.2.2.2.2.1, .inl (cB, 65536, .inl (fun _ => 0))), (u.2.2.2.2.2.2.2.2.2.2.2.2.2.2.2.1, .inr (9, xo_Circuit (va_up (va_up (va_up (va_up (va_up (va_up (va_up (va_up (va_up (va_up (va_up dv_Circuit 0 (.ref u.2.2.2.2.2.2.2.2.2.2.2.2.2.2.2.2.1)) 3 (.ref u.2.2.2.2.1)) 4 (.ref u.2.2.2.2.2.1)) 5 (.ref u.2.2.2.2.2.2.1)) 6 (.ref u.2.2.2.2.2.2.2.1)) 7 (.ref u.2.2.2.2.2.2.2.2.1)) 8 (.ref u.2.2.2.2.2.2.2.2.2.1)) 9 (.ref u.2.2.2.2.2.2.2.2.2.2.1)) 10 (.ref u.2.2.2.2.2.2.2.2.2.2.2.1)) 11 (.ref u.2.2.2.2.2.2.2.2.2.2.2.2.1)) 12 (.ref u.2.2.2.2.2.2.2.2.2.2.2.2.2.1)))), (u.2.2.2.2.2.2.2.2.2.2.2.2.2.2.2.2.1, .inr (10, xo_Design (va_up (va_up (va_up (va_up (va_up (va_up (va_up (va_up (va_up (va_up (va_up (va_up dv_Design 0 (.ref u.2.2.2.2.2.2.2.2.2.2.2.2.2.2.2.2.2.1)) 1 (.ref u.2.2.2.2.2.2.2.2.2.2.2.2.2.2.2.2.2.2.1)) 2 (.ref u.2.2.2.2.2.2.2.2.2.2.2.2.2.2.2.2.2.2.2)) 6 (.ref u.2.2.2.2.2.2.2.2.2.2.2.2.2.2.2.2.2.2.2)) 7 (.ref u.2.2.2.2.1)) 8 (.ref u.2.2.2.2.2.1)) 9 (.ref u.2.2.2.2.2.2.1)) 10 (.ref u.2.2.2.2.2.2.2.1)) 11 (.ref u.2.2.2.2.2.2.2.2.1)) 13 (.ref u.2.2.2.2.2.2.2.2.2.2.2.2.2.2.1)) 14 (.ref u.2.2.2.2.2.2.2.2.2.2.2.2.2.2.2.1)) 15 (.ref u.2.2.2.2.2.2.2.2.2.2.2.2.2.2.2.2.1)))), (u.2.2.2.2.2.2.2.2.2.2.2.2.2.2.2.2.2.1, .inr (11, xo_Parts (va_up (va_up (va_up (va_up (va_up (va_up (va_up (va_up (va_up (va_up (va_up (va_up dv_Parts 1 (.ref u.2.2.2.2.2.2.2.2.2.2.2.2.2.2.2.2.2.1)) 2 (.ref u.2.2.2.2.2.2.2.2.2.2.2.2.2.2.2.2.2.2.1)) 3 (.ref u.2.2.2.2.2.2.2.2.2.2.2.2.2.2.2.2.2.2.2)) 4 (.ref u.2.2.2.2.2.2.2.2.2.2.2.2.2.2.2.2.2.2.2)) 5 (.ref u.2.2.2.2.1)) 6 (.ref u.2.2.2.2.2.1)) 8 (.ref u.2.2.2.2.2.2.1)) 9 (.ref u.2.2.2.2.2.2.2.1)) 10 (.ref u.2.2.2.2.2.2.2.2.1)) 12 (.ref u.2.2.2.2.2.2.2.2.2.1)) 13 (.ref u.2.2.2.2.2.2.2.2.2.2.1)) 14 (.ref u.2.2.2.2.2.2.2.2.2.2.2.1)))), (u.2.2.2.2.2.2.2.2.2.2.2.2.2.2.2.2.2.2.1, .inr (12, xo_Code (va_up (va_up (va_up dv_Code 0 (.ref u.2.2.2.2.2.2.2.2.2.2.2.2.2.2.2.2.2.1)) 2 (.ref u.2.2.2.2.2.2.2.2.2.2.2.2.2.2.2.2.2.2.1)) 3 (.ref u.2.2.2.2.2.2.2.2.2.2.2.2.2.2.2.2.2.2.2)))), (u.2.2.2.2.2.2.2.2.2.2.2.2.2.2.2.2.2.2.2, .inl (cB, 65536, .inl (fun _ => 0)))]) A) [.ref h0].toArray s 122 904412 A) (F0 m 0 ls []) by rw [hH] at kk; exact kk
  refine lv_aload_n hx hb dn_C_init_0 rfl (lv_at hl 0 rfl) ?_
  refine W.objInit hx hb hown (hg _ wn_1_35) (hg _ wn_1_36) (hg _ wn_1_37) rfl (by rw [hml]; exact hl.1) rfl dn_C_init_1 (Nat.le_of_ble_eq_true rfl) (Nat.le_of_ble_eq_true rfl) ?_
  refine W.eq (g2 := F0 m 4 ls []) rfl ?_
  refine lv_aload_n hx hb dn_C_init_4 rfl (lv_at hl 0 rfl) ?_
  refine va_new (ci := 2) (fs := xo_Tokens dv_Tokens) (C := rn_Tokens) (T := fn_Tokens) (N := 9) hx hb hg in_Tokens tn_Tokens tk_Tokens hown (hg _ wn_1_38) (hg _ wn_1_39) (hg _ wn_1_2) hK hP hD hS hA rfl dk_Tokens (Nat.le_of_ble_eq_true rfl) (Nat.le_of_ble_eq_true rfl) dn_C_init_5 (fun q_1 H hP hD hS => ?_)
  have hP : va_P (dC, dI) xcl [(h0, .inr (1, xo_C f0)), (q_1, .inr (2, xo_Tokens dv_Tokens))] H := hP
  have hD : va_D A [(h0, .inr (1, xo_C f0)), (q_1, .inr (2, xo_Tokens dv_Tokens))] := hD
  refine lv_dup hx hb dn_C_init_8 rfl ?_
  have hPc := hP.sub (ws' := [(q_1, .inr (2, xo_Tokens dv_Tokens))]) [1] rfl
  have hDc := hD.sub (ws' := [(q_1, .inr (2, xo_Tokens dv_Tokens))]) [1] (by decide) rfl
  refine xk_callv (wr := [(h0, .inr (1, xo_C f0))]) (xk_runIN (ar := 0) (As := []) (rest := [.ref q_1, .ref h0]) (host := "CircuitCycles") ⟨hx, hb, hml, hown, hg⟩ hK hN (ct_Tokens_init_0 l dC dI cI cB cJ cZ cQ H.size q_1 dv_Tokens) hPc hDc nl_C_11 wn_1_41 wn_1_2 wn_1_42 rfl rfl rfl (by decide +kernel) ⟨Nat.le_of_ble_eq_true rfl, Nat.le_of_ble_eq_true rfl⟩ rfl hl.1 rfl (Nat.le_of_ble_eq_true rfl) dn_C_init_9 ⟨Nat.le_of_ble_eq_true rfl, Nat.le_of_ble_eq_true rfl⟩) hP hD hS hA [1] [0] rfl rfl (by decide) (by decide) (fun q_2 H locs hw hP hD hS => ?_)
  have hP : va_P (dC, dI) xcl [(h0, .inr (1, xo_C f0)), (q_1, .inr (2, xo_Tokens (va_up dv_Tokens 0 (.ref q_2)))), (q_2, .inl (cJ, 65537, .inr (.inl (fun _ => 0))))] H := hP
  have hD : va_D A [(h0, .inr (1, xo_C f0)), (q_1, .inr (2, xo_Tokens (va_up dv_Tokens 0 (.ref q_2)))), (q_2, .inl (cJ, 65537, .inr (.inl (fun _ => 0))))] := hD
  refine va_putF (D := (dC, dI)) (ci := 1) (v := .ref q_1) (ty := (.object "CircuitCycles$Tokens")) (C := rn_C) (T := fn_C) (N := 11) hx hb hg in_C tn_C tk_C nn_C hown hK hP hD hS 0 rfl rfl 2 (by decide) (hg _ wn_3_127) (fun _ h9 => h9) rfl hin rfl (tk_C 2 (by decide)) rfl rfl (Nat.le_of_ble_eq_true rfl) dn_C_init_12 (fun H locs hP hD hS => ?_)
  have hP : va_P (dC, dI) xcl [(h0, .inr (1, xo_C (va_up f0 2 (.ref q_1)))), (q_1, .inr (2, xo_Tokens (va_up dv_Tokens 0 (.ref q_2)))), (q_2, .inl (cJ, 65537, .inr (.inl (fun _ => 0))))] H := hP
  have hD : va_D A [(h0, .inr (1, xo_C (va_up f0 2 (.ref q_1)))), (q_1, .inr (2, xo_Tokens (va_up dv_Tokens 0 (.ref q_2)))), (q_2, .inl (cJ, 65537, .inr (.inl (fun _ => 0))))] := hD
  refine lv_aload_n hx hb dn_C_init_15 rfl (lv_at hl 0 rfl) ?_
  refine va_new (ci := 3) (fs := xo_Scanner dv_Scanner) (C := rn_Scanner) (T := fn_Scanner) (N := 9) hx hb hg in_Scanner tn_Scanner tk_Scanner hown (hg _ wn_1_83) (hg _ wn_1_84) (hg _ wn_1_3) hK hP hD hS hA rfl dk_Scanner (Nat.le_of_ble_eq_true rfl) (Nat.le_of_ble_eq_true rfl) dn_C_init_16 (fun q_3 H hP hD hS => ?_)
  have hP : va_P (dC, dI) xcl [(h0, .inr (1, xo_C (va_up f0 2 (.ref q_1)))), (q_1, .inr (2, xo_Tokens (va_up dv_Tokens 0 (.ref q_2)))), (q_2, .inl (cJ, 65537, .inr (.inl (fun _ => 0)))), (q_3, .inr (3, xo_Scanner dv_Scanner))] H := hP
  have hD : va_D A [(h0, .inr (1, xo_C (va_up f0 2 (.ref q_1)))), (q_1, .inr (2, xo_Tokens (va_up dv_Tokens 0 (.ref q_2)))), (q_2, .inl (cJ, 65537, .inr (.inl (fun _ => 0)))), (q_3, .inr (3, xo_Scanner dv_Scanner))] := hD
  refine lv_dup hx hb dn_C_init_19 rfl ?_
  refine lv_aload_n hx hb dn_C_init_20 rfl (lv_at hl 0 rfl) ?_
  refine va_get (D := (dC, dI)) (ci := 1) (v := .ref q_1) (C := rn_C) (T := fn_C) (N := 11) hx hb hg in_C hown hK hP 0 rfl rfl 2 (by decide) (hg _ wn_3_127) (fun _ h9 => h9) rfl dn_C_init_21 ?_
  have hPc := hP.sub (ws' := [(q_3, .inr (3, xo_Scanner dv_Scanner))]) [3] rfl
  have hDc := hD.sub (ws' := [(q_3, .inr (3, xo_Scanner dv_Scanner))]) [3] (by decide) rfl
  refine xk_callv (wr := [(h0, .inr (1, xo_C (va_up f0 2 (.ref q_1)))), (q_1, .inr (2, xo_Tokens (va_up dv_Tokens 0 (.ref q_2)))), (q_2, .inl (cJ, 65537, .inr (.inl (fun _ => 0))))]) (xk_runI (ar := 1) (As := [.ref q_1]) (rest := [.ref q_3, .ref h0]) ⟨hx, hb, hml, hown, hg⟩ hK hN (ct_Scanner_init_0 l dC dI cI cB cJ cZ cQ H.size q_3 q_1 dv_Scanner) hPc hDc wn_1_85 wn_1_86 wn_1_3 wn_1_87 rfl rfl rfl (by decide +kernel) ⟨Nat.le_of_ble_eq_true rfl, Nat.le_of_ble_eq_true rfl⟩ rfl hl.1 rfl (Nat.le_of_ble_eq_true rfl) dn_C_init_24 ⟨Nat.le_of_ble_eq_true rfl, Nat.le_of_ble_eq_true rfl⟩) hP hD hS hA [3] [0, 1, 2] rfl rfl (by decide) (by decide) (fun u H locs hw hP hD hS => ?_)
  obtain ⟨q_4, q_5⟩ := u
  have hP : va_P (dC, dI) xcl [(h0, .inr (1, xo_C (va_up f0 2 (.ref q_1)))), (q_1, .inr (2, xo_Tokens (va_up dv_Tokens 0 (.ref q_2)))), (q_2, .inl (cJ, 65537, .inr (.inl (fun _ => 0)))), (q_3, .inr (3, xo_Scanner (va_up (va_up (va_up (va_up (va_up (va_up dv_Scanner 1 (.ref q_4)) 4 (.ref q_5)) 5 (.ref q_3)) 6 (.ref q_4)) 7 (.ref q_5)) 0 (.ref q_1)))), (q_4, .inl (cB, 0, .inl (fun _ => 0))), (q_5, .inl (cI, 256, .inl (fun _ => 0)))] H := hP
  have hD : va_D A [(h0, .inr (1, xo_C (va_up f0 2 (.ref q_1)))), (q_1, .inr (2, xo_Tokens (va_up dv_Tokens 0 (.ref q_2)))), (q_2, .inl (cJ, 65537, .inr (.inl (fun _ => 0)))), (q_3, .inr (3, xo_Scanner (va_up (va_up (va_up (va_up (va_up (va_up dv_Scanner 1 (.ref q_4)) 4 (.ref q_5)) 5 (.ref q_3)) 6 (.ref q_4)) 7 (.ref q_5)) 0 (.ref q_1)))), (q_4, .inl (cB, 0, .inl (fun _ => 0))), (q_5, .inl (cI, 256, .inl (fun _ => 0)))] := hD
  refine va_putF (D := (dC, dI)) (ci := 1) (v := .ref q_3) (ty := (.object "CircuitCycles$Scanner")) (C := rn_C) (T := fn_C) (N := 11) hx hb hg in_C tn_C tk_C nn_C hown hK hP hD hS 0 rfl rfl 3 (by decide) (hg _ wn_3_128) (fun _ h9 => h9) rfl hin rfl (tk_C 3 (by decide)) rfl rfl (Nat.le_of_ble_eq_true rfl) dn_C_init_27 (fun H locs hP hD hS => ?_)
  have hP : va_P (dC, dI) xcl [(h0, .inr (1, xo_C (va_up (va_up f0 2 (.ref q_1)) 3 (.ref q_3)))), (q_1, .inr (2, xo_Tokens (va_up dv_Tokens 0 (.ref q_2)))), (q_2, .inl (cJ, 65537, .inr (.inl (fun _ => 0)))), (q_3, .inr (3, xo_Scanner (va_up (va_up (va_up (va_up (va_up (va_up dv_Scanner 1 (.ref q_4)) 4 (.ref q_5)) 5 (.ref q_3)) 6 (.ref q_4)) 7 (.ref q_5)) 0 (.ref q_1)))), (q_4, .inl (cB, 0, .inl (fun _ => 0))), (q_5, .inl (cI, 256, .inl (fun _ => 0)))] H := hP
  have hD : va_D A [(h0, .inr (1, xo_C (va_up (va_up f0 2 (.ref q_1)) 3 (.ref q_3)))), (q_1, .inr (2, xo_Tokens (va_up dv_Tokens 0 (.ref q_2)))), (q_2, .inl (cJ, 65537, .inr (.inl (fun _ => 0)))), (q_3, .inr (3, xo_Scanner (va_up (va_up (va_up (va_up (va_up (va_up dv_Scanner 1 (.ref q_4)) 4 (.ref q_5)) 5 (.ref q_3)) 6 (.ref q_4)) 7 (.ref q_5)) 0 (.ref q_1)))), (q_4, .inl (cB, 0, .inl (fun _ => 0))), (q_5, .inl (cI, 256, .inl (fun _ => 0)))] := hD
  refine lv_aload_n hx hb dn_C_init_30 rfl (lv_at hl 0 rfl) ?_
  refine va_new (ci := 4) (fs := xo_Checker dv_Checker) (C := rn_Checker) (T := fn_Checker) (N := 15) hx hb hg in_Checker tn_Checker tk_Checker hown (hg _ wn_1_120) (hg _ wn_1_121) (hg _ wn_1_4) hK hP hD hS hA rfl dk_Checker (Nat.le_of_ble_eq_true rfl) (Nat.le_of_ble_eq_true rfl) dn_C_init_31 (fun q_6 H hP hD hS => ?_)
  have hP : va_P (dC, dI) xcl [(h0, .inr (1, xo_C (va_up (va_up f0 2 (.ref q_1)) 3 (.ref q_3)))), (q_1, .inr (2, xo_Tokens (va_up dv_Tokens 0 (.ref q_2)))), (q_2, .inl (cJ, 65537, .inr (.inl (fun _ => 0)))), (q_3, .inr (3, xo_Scanner (va_up (va_up (va_up (va_up (va_up (va_up dv_Scanner 1 (.ref q_4)) 4 (.ref q_5)) 5 (.ref q_3)) 6 (.ref q_4)) 7 (.ref q_5)) 0 (.ref q_1)))), (q_4, .inl (cB, 0, .inl (fun _ => 0))), (q_5, .inl (cI, 256, .inl (fun _ => 0))), (q_6, .inr (4, xo_Checker dv_Checker))] H := hP
  have hD : va_D A [(h0, .inr (1, xo_C (va_up (va_up f0 2 (.ref q_1)) 3 (.ref q_3)))), (q_1, .inr (2, xo_Tokens (va_up dv_Tokens 0 (.ref q_2)))), (q_2, .inl (cJ, 65537, .inr (.inl (fun _ => 0)))), (q_3, .inr (3, xo_Scanner (va_up (va_up (va_up (va_up (va_up (va_up dv_Scanner 1 (.ref q_4)) 4 (.ref q_5)) 5 (.ref q_3)) 6 (.ref q_4)) 7 (.ref q_5)) 0 (.ref q_1)))), (q_4, .inl (cB, 0, .inl (fun _ => 0))), (q_5, .inl (cI, 256, .inl (fun _ => 0))), (q_6, .inr (4, xo_Checker dv_Checker))] := hD
  refine lv_dup hx hb dn_C_init_34 rfl ?_
  refine lv_aload_n hx hb dn_C_init_35 rfl (lv_at hl 0 rfl) ?_
  refine va_get (D := (dC, dI)) (ci := 1) (v := .ref q_1) (C := rn_C) (T := fn_C) (N := 11) hx hb hg in_C hown hK hP 0 rfl rfl 2 (by decide) (hg _ wn_3_127) (fun _ h9 => h9) rfl dn_C_init_36 ?_
  have hPc := hP.sub (ws' := [(q_6, .inr (4, xo_Checker dv_Checker))]) [6] rfl
  have hDc := hD.sub (ws' := [(q_6, .inr (4, xo_Checker dv_Checker))]) [6] (by decide) rfl
  refine xk_callv (wr := [(h0, .inr (1, xo_C (va_up (va_up f0 2 (.ref q_1)) 3 (.ref q_3)))), (q_1, .inr (2, xo_Tokens (va_up dv_Tokens 0 (.ref q_2)))), (q_2, .inl (cJ, 65537, .inr (.inl (fun _ => 0)))), (q_3, .inr (3, xo_Scanner (va_up (va_up (va_up (va_up (va_up (va_up dv_Scanner 1 (.ref q_4)) 4 (.ref q_5)) 5 (.ref q_3)) 6 (.ref q_4)) 7 (.ref q_5)) 0 (.ref q_1)))), (q_4, .inl (cB, 0, .inl (fun _ => 0))), (q_5, .inl (cI, 256, .inl (fun _ => 0)))]) (xk_runI (ar := 1) (As := [.ref q_1]) (rest := [.ref q_6, .ref h0]) ⟨hx, hb, hml, hown, hg⟩ hK hN (ct_Checker_init_0 l dC dI cI cB cJ cZ cQ H.size q_6 q_1 dv_Checker) hPc hDc wn_1_122 wn_1_123 wn_1_4 wn_1_124 rfl rfl rfl (by decide +kernel) ⟨Nat.le_of_ble_eq_true rfl, Nat.le_of_ble_eq_true rfl⟩ rfl hl.1 rfl (Nat.le_of_ble_eq_true rfl) dn_C_init_39 ⟨Nat.le_of_ble_eq_true rfl, Nat.le_of_ble_eq_true rfl⟩) hP hD hS hA [6] [0, 1, 2, 3, 4, 5] rfl rfl (by decide) (by decide) (fun _ H locs hw hP hD hS => ?_)
  have hP : va_P (dC, dI) xcl [(h0, .inr (1, xo_C (va_up (va_up f0 2 (.ref q_1)) 3 (.ref q_3)))), (q_1, .inr (2, xo_Tokens (va_up dv_Tokens 0 (.ref q_2)))), (q_2, .inl (cJ, 65537, .inr (.inl (fun _ => 0)))), (q_3, .inr (3, xo_Scanner (va_up (va_up (va_up (va_up (va_up (va_up dv_Scanner 1 (.ref q_4)) 4 (.ref q_5)) 5 (.ref q_3)) 6 (.ref q_4)) 7 (.ref q_5)) 0 (.ref q_1)))), (q_4, .inl (cB, 0, .inl (fun _ => 0))), (q_5, .inl (cI, 256, .inl (fun _ => 0))), (q_6, .inr (4, xo_Checker (va_up (va_up (va_up (va_up (va_up (va_up dv_Checker 5 (.ref q_1)) 6 (.ref q_2)) 7 (.ref q_3)) 8 (.ref q_4)) 9 (.ref q_5)) 0 (.ref q_1))))] H := hP
  have hD : va_D A [(h0, .inr (1, xo_C (va_up (va_up f0 2 (.ref q_1)) 3 (.ref q_3)))), (q_1, .inr (2, xo_Tokens (va_up dv_Tokens 0 (.ref q_2)))), (q_2, .inl (cJ, 65537, .inr (.inl (fun _ => 0)))), (q_3, .inr (3, xo_Scanner (va_up (va_up (va_up (va_up (va_up (va_up dv_Scanner 1 (.ref q_4)) 4 (.ref q_5)) 5 (.ref q_3)) 6 (.ref q_4)) 7 (.ref q_5)) 0 (.ref q_1)))), (q_4, .inl (cB, 0, .inl (fun _ => 0))), (q_5, .inl (cI, 256, .inl (fun _ => 0))), (q_6, .inr (4, xo_Checker (va_up (va_up (va_up (va_up (va_up (va_up dv_Checker 5 (.ref q_1)) 6 (.ref q_2)) 7 (.ref q_3)) 8 (.ref q_4)) 9 (.ref q_5)) 0 (.ref q_1))))] := hD
  refine va_putF (D := (dC, dI)) (ci := 1) (v := .ref q_6) (ty := (.object "CircuitCycles$Checker")) (C := rn_C) (T := fn_C) (N := 11) hx hb hg in_C tn_C tk_C nn_C hown hK hP hD hS 0 rfl rfl 4 (by decide) (hg _ wn_3_129) (fun _ h9 => h9) rfl hin rfl (tk_C 4 (by decide)) rfl rfl (Nat.le_of_ble_eq_true rfl) dn_C_init_42 (fun H locs hP hD hS => ?_)
  have hP : va_P (dC, dI) xcl [(h0, .inr (1, xo_C (va_up (va_up (va_up f0 2 (.ref q_1)) 3 (.ref q_3)) 4 (.ref q_6)))), (q_1, .inr (2, xo_Tokens (va_up dv_Tokens 0 (.ref q_2)))), (q_2, .inl (cJ, 65537, .inr (.inl (fun _ => 0)))), (q_3, .inr (3, xo_Scanner (va_up (va_up (va_up (va_up (va_up (va_up dv_Scanner 1 (.ref q_4)) 4 (.ref q_5)) 5 (.ref q_3)) 6 (.ref q_4)) 7 (.ref q_5)) 0 (.ref q_1)))), (q_4, .inl (cB, 0, .inl (fun _ => 0))), (q_5, .inl (cI, 256, .inl (fun _ => 0))), (q_6, .inr (4, xo_Checker (va_up (va_up (va_up (va_up (va_up (va_up dv_Checker 5 (.ref q_1)) 6 (.ref q_2)) 7 (.ref q_3)) 8 (.ref q_4)) 9 (.ref q_5)) 0 (.ref q_1))))] H := hP
  have hD : va_D A [(h0, .inr (1, xo_C (va_up (va_up (va_up f0 2 (.ref q_1)) 3 (.ref q_3)) 4 (.ref q_6)))), (q_1, .inr (2, xo_Tokens (va_up dv_Tokens 0 (.ref q_2)))), (q_2, .inl (cJ, 65537, .inr (.inl (fun _ => 0)))), (q_3, .inr (3, xo_Scanner (va_up (va_up (va_up (va_up (va_up (va_up dv_Scanner 1 (.ref q_4)) 4 (.ref q_5)) 5 (.ref q_3)) 6 (.ref q_4)) 7 (.ref q_5)) 0 (.ref q_1)))), (q_4, .inl (cB, 0, .inl (fun _ => 0))), (q_5, .inl (cI, 256, .inl (fun _ => 0))), (q_6, .inr (4, xo_Checker (va_up (va_up (va_up (va_up (va_up (va_up dv_Checker 5 (.ref q_1)) 6 (.ref q_2)) 7 (.ref q_3)) 8 (.ref q_4)) 9 (.ref q_5)) 0 (.ref q_1))))] := hD
  refine lv_aload_n hx hb dn_C_init_45 rfl (lv_at hl 0 rfl) ?_
  refine va_new (ci := 6) (fs := xo_Grammar dv_Grammar) (C := rn_Grammar) (T := fn_Grammar) (N := 15) hx hb hg in_Grammar tn_Grammar tk_Grammar hown (hg _ wn_1_176) (hg _ wn_1_177) (hg _ wn_1_5) hK hP hD hS hA rfl dk_Grammar (Nat.le_of_ble_eq_true rfl) (Nat.le_of_ble_eq_true rfl) dn_C_init_46 (fun q_7 H hP hD hS => ?_)
  have hP : va_P (dC, dI) xcl [(h0, .inr (1, xo_C (va_up (va_up (va_up f0 2 (.ref q_1)) 3 (.ref q_3)) 4 (.ref q_6)))), (q_1, .inr (2, xo_Tokens (va_up dv_Tokens 0 (.ref q_2)))), (q_2, .inl (cJ, 65537, .inr (.inl (fun _ => 0)))), (q_3, .inr (3, xo_Scanner (va_up (va_up (va_up (va_up (va_up (va_up dv_Scanner 1 (.ref q_4)) 4 (.ref q_5)) 5 (.ref q_3)) 6 (.ref q_4)) 7 (.ref q_5)) 0 (.ref q_1)))), (q_4, .inl (cB, 0, .inl (fun _ => 0))), (q_5, .inl (cI, 256, .inl (fun _ => 0))), (q_6, .inr (4, xo_Checker (va_up (va_up (va_up (va_up (va_up (va_up dv_Checker 5 (.ref q_1)) 6 (.ref q_2)) 7 (.ref q_3)) 8 (.ref q_4)) 9 (.ref q_5)) 0 (.ref q_1)))), (q_7, .inr (6, xo_Grammar dv_Grammar))] H := hP
  have hD : va_D A [(h0, .inr (1, xo_C (va_up (va_up (va_up f0 2 (.ref q_1)) 3 (.ref q_3)) 4 (.ref q_6)))), (q_1, .inr (2, xo_Tokens (va_up dv_Tokens 0 (.ref q_2)))), (q_2, .inl (cJ, 65537, .inr (.inl (fun _ => 0)))), (q_3, .inr (3, xo_Scanner (va_up (va_up (va_up (va_up (va_up (va_up dv_Scanner 1 (.ref q_4)) 4 (.ref q_5)) 5 (.ref q_3)) 6 (.ref q_4)) 7 (.ref q_5)) 0 (.ref q_1)))), (q_4, .inl (cB, 0, .inl (fun _ => 0))), (q_5, .inl (cI, 256, .inl (fun _ => 0))), (q_6, .inr (4, xo_Checker (va_up (va_up (va_up (va_up (va_up (va_up dv_Checker 5 (.ref q_1)) 6 (.ref q_2)) 7 (.ref q_3)) 8 (.ref q_4)) 9 (.ref q_5)) 0 (.ref q_1)))), (q_7, .inr (6, xo_Grammar dv_Grammar))] := hD
  refine lv_dup hx hb dn_C_init_49 rfl ?_
  refine lv_aload_n hx hb dn_C_init_50 rfl (lv_at hl 0 rfl) ?_
  refine va_get (D := (dC, dI)) (ci := 1) (v := .ref q_1) (C := rn_C) (T := fn_C) (N := 11) hx hb hg in_C hown hK hP 0 rfl rfl 2 (by decide) (hg _ wn_3_127) (fun _ h9 => h9) rfl dn_C_init_51 ?_
  refine lv_aload_n hx hb dn_C_init_54 rfl (lv_at hl 0 rfl) ?_
  refine va_get (D := (dC, dI)) (ci := 1) (v := .ref q_6) (C := rn_C) (T := fn_C) (N := 11) hx hb hg in_C hown hK hP 0 rfl rfl 4 (by decide) (hg _ wn_3_129) (fun _ h9 => h9) rfl dn_C_init_55 ?_
  refine va_new (ci := 5) (fs := xo_Meaning dv_Meaning) (C := rn_Meaning) (T := fn_Meaning) (N := 17) hx hb hg in_Meaning tn_Meaning tk_Meaning hown (hg _ wn_1_178) (hg _ wn_1_179) (hg _ wn_1_6) hK hP hD hS hA rfl dk_Meaning (Nat.le_of_ble_eq_true rfl) (Nat.le_of_ble_eq_true rfl) dn_C_init_58 (fun q_8 H hP hD hS => ?_)
  have hP : va_P (dC, dI) xcl [(h0, .inr (1, xo_C (va_up (va_up (va_up f0 2 (.ref q_1)) 3 (.ref q_3)) 4 (.ref q_6)))), (q_1, .inr (2, xo_Tokens (va_up dv_Tokens 0 (.ref q_2)))), (q_2, .inl (cJ, 65537, .inr (.inl (fun _ => 0)))), (q_3, .inr (3, xo_Scanner (va_up (va_up (va_up (va_up (va_up (va_up dv_Scanner 1 (.ref q_4)) 4 (.ref q_5)) 5 (.ref q_3)) 6 (.ref q_4)) 7 (.ref q_5)) 0 (.ref q_1)))), (q_4, .inl (cB, 0, .inl (fun _ => 0))), (q_5, .inl (cI, 256, .inl (fun _ => 0))), (q_6, .inr (4, xo_Checker (va_up (va_up (va_up (va_up (va_up (va_up dv_Checker 5 (.ref q_1)) 6 (.ref q_2)) 7 (.ref q_3)) 8 (.ref q_4)) 9 (.ref q_5)) 0 (.ref q_1)))), (q_7, .inr (6, xo_Grammar dv_Grammar)), (q_8, .inr (5, xo_Meaning dv_Meaning))] H := hP
  have hD : va_D A [(h0, .inr (1, xo_C (va_up (va_up (va_up f0 2 (.ref q_1)) 3 (.ref q_3)) 4 (.ref q_6)))), (q_1, .inr (2, xo_Tokens (va_up dv_Tokens 0 (.ref q_2)))), (q_2, .inl (cJ, 65537, .inr (.inl (fun _ => 0)))), (q_3, .inr (3, xo_Scanner (va_up (va_up (va_up (va_up (va_up (va_up dv_Scanner 1 (.ref q_4)) 4 (.ref q_5)) 5 (.ref q_3)) 6 (.ref q_4)) 7 (.ref q_5)) 0 (.ref q_1)))), (q_4, .inl (cB, 0, .inl (fun _ => 0))), (q_5, .inl (cI, 256, .inl (fun _ => 0))), (q_6, .inr (4, xo_Checker (va_up (va_up (va_up (va_up (va_up (va_up dv_Checker 5 (.ref q_1)) 6 (.ref q_2)) 7 (.ref q_3)) 8 (.ref q_4)) 9 (.ref q_5)) 0 (.ref q_1)))), (q_7, .inr (6, xo_Grammar dv_Grammar)), (q_8, .inr (5, xo_Meaning dv_Meaning))] := hD
  refine lv_dup hx hb dn_C_init_61 rfl ?_
  refine lv_aload_n hx hb dn_C_init_62 rfl (lv_at hl 0 rfl) ?_
  refine va_get (D := (dC, dI)) (ci := 1) (v := .ref q_6) (C := rn_C) (T := fn_C) (N := 11) hx hb hg in_C hown hK hP 0 rfl rfl 4 (by decide) (hg _ wn_3_129) (fun _ h9 => h9) rfl dn_C_init_63 ?_
  have hPc := hP.sub (ws' := [(q_8, .inr (5, xo_Meaning dv_Meaning))]) [8] rfl
  have hDc := hD.sub (ws' := [(q_8, .inr (5, xo_Meaning dv_Meaning))]) [8] (by decide) rfl
  refine xk_callv (wr := [(h0, .inr (1, xo_C (va_up (va_up (va_up f0 2 (.ref q_1)) 3 (.ref q_3)) 4 (.ref q_6)))), (q_1, .inr (2, xo_Tokens (va_up dv_Tokens 0 (.ref q_2)))), (q_2, .inl (cJ, 65537, .inr (.inl (fun _ => 0)))), (q_3, .inr (3, xo_Scanner (va_up (va_up (va_up (va_up (va_up (va_up dv_Scanner 1 (.ref q_4)) 4 (.ref q_5)) 5 (.ref q_3)) 6 (.ref q_4)) 7 (.ref q_5)) 0 (.ref q_1)))), (q_4, .inl (cB, 0, .inl (fun _ => 0))), (q_5, .inl (cI, 256, .inl (fun _ => 0))), (q_6, .inr (4, xo_Checker (va_up (va_up (va_up (va_up (va_up (va_up dv_Checker 5 (.ref q_1)) 6 (.ref q_2)) 7 (.ref q_3)) 8 (.ref q_4)) 9 (.ref q_5)) 0 (.ref q_1)))), (q_7, .inr (6, xo_Grammar dv_Grammar))]) (xk_runI (ar := 1) (As := [.ref q_6]) (rest := [.ref q_8, .ref q_6, .ref q_1, .ref q_7, .ref q_7, .ref h0]) ⟨hx, hb, hml, hown, hg⟩ hK hN (ct_Meaning_init_0 l dC dI cI cB cJ cZ cQ H.size q_8 q_6 dv_Meaning) hPc hDc wn_1_180 wn_1_181 wn_1_6 wn_1_182 rfl rfl rfl (by decide +kernel) ⟨Nat.le_of_ble_eq_true rfl, Nat.le_of_ble_eq_true rfl⟩ rfl hl.1 rfl (Nat.le_of_ble_eq_true rfl) dn_C_init_66 ⟨Nat.le_of_ble_eq_true rfl, Nat.le_of_ble_eq_true rfl⟩) hP hD hS hA [8] [0, 1, 2, 3, 4, 5, 6, 7] rfl rfl (by decide) (by decide) (fun _ H locs hw hP hD hS => ?_)
  have hP : va_P (dC, dI) xcl [(h0, .inr (1, xo_C (va_up (va_up (va_up f0 2 (.ref q_1)) 3 (.ref q_3)) 4 (.ref q_6)))), (q_1, .inr (2, xo_Tokens (va_up dv_Tokens 0 (.ref q_2)))), (q_2, .inl (cJ, 65537, .inr (.inl (fun _ => 0)))), (q_3, .inr (3, xo_Scanner (va_up (va_up (va_up (va_up (va_up (va_up dv_Scanner 1 (.ref q_4)) 4 (.ref q_5)) 5 (.ref q_3)) 6 (.ref q_4)) 7 (.ref q_5)) 0 (.ref q_1)))), (q_4, .inl (cB, 0, .inl (fun _ => 0))), (q_5, .inl (cI, 256, .inl (fun _ => 0))), (q_6, .inr (4, xo_Checker (va_up (va_up (va_up (va_up (va_up (va_up dv_Checker 5 (.ref q_1)) 6 (.ref q_2)) 7 (.ref q_3)) 8 (.ref q_4)) 9 (.ref q_5)) 0 (.ref q_1)))), (q_7, .inr (6, xo_Grammar dv_Grammar)), (q_8, .inr (5, xo_Meaning (va_up (va_up (va_up (va_up (va_up dv_Meaning 12 (.ref q_1)) 13 (.ref q_2)) 14 (.ref q_3)) 15 (.ref q_4)) 0 (.ref q_6))))] H := hP
  have hD : va_D A [(h0, .inr (1, xo_C (va_up (va_up (va_up f0 2 (.ref q_1)) 3 (.ref q_3)) 4 (.ref q_6)))), (q_1, .inr (2, xo_Tokens (va_up dv_Tokens 0 (.ref q_2)))), (q_2, .inl (cJ, 65537, .inr (.inl (fun _ => 0)))), (q_3, .inr (3, xo_Scanner (va_up (va_up (va_up (va_up (va_up (va_up dv_Scanner 1 (.ref q_4)) 4 (.ref q_5)) 5 (.ref q_3)) 6 (.ref q_4)) 7 (.ref q_5)) 0 (.ref q_1)))), (q_4, .inl (cB, 0, .inl (fun _ => 0))), (q_5, .inl (cI, 256, .inl (fun _ => 0))), (q_6, .inr (4, xo_Checker (va_up (va_up (va_up (va_up (va_up (va_up dv_Checker 5 (.ref q_1)) 6 (.ref q_2)) 7 (.ref q_3)) 8 (.ref q_4)) 9 (.ref q_5)) 0 (.ref q_1)))), (q_7, .inr (6, xo_Grammar dv_Grammar)), (q_8, .inr (5, xo_Meaning (va_up (va_up (va_up (va_up (va_up dv_Meaning 12 (.ref q_1)) 13 (.ref q_2)) 14 (.ref q_3)) 15 (.ref q_4)) 0 (.ref q_6))))] := hD
  have hPc := hP.sub (ws' := [(q_7, .inr (6, xo_Grammar dv_Grammar))]) [7] rfl
  have hDc := hD.sub (ws' := [(q_7, .inr (6, xo_Grammar dv_Grammar))]) [7] (by decide) rfl
  refine xk_callv (wr := [(h0, .inr (1, xo_C (va_up (va_up (va_up f0 2 (.ref q_1)) 3 (.ref q_3)) 4 (.ref q_6)))), (q_1, .inr (2, xo_Tokens (va_up dv_Tokens 0 (.ref q_2)))), (q_2, .inl (cJ, 65537, .inr (.inl (fun _ => 0)))), (q_3, .inr (3, xo_Scanner (va_up (va_up (va_up (va_up (va_up (va_up dv_Scanner 1 (.ref q_4)) 4 (.ref q_5)) 5 (.ref q_3)) 6 (.ref q_4)) 7 (.ref q_5)) 0 (.ref q_1)))), (q_4, .inl (cB, 0, .inl (fun _ => 0))), (q_5, .inl (cI, 256, .inl (fun _ => 0))), (q_6, .inr (4, xo_Checker (va_up (va_up (va_up (va_up (va_up (va_up dv_Checker 5 (.ref q_1)) 6 (.ref q_2)) 7 (.ref q_3)) 8 (.ref q_4)) 9 (.ref q_5)) 0 (.ref q_1)))), (q_8, .inr (5, xo_Meaning (va_up (va_up (va_up (va_up (va_up dv_Meaning 12 (.ref q_1)) 13 (.ref q_2)) 14 (.ref q_3)) 15 (.ref q_4)) 0 (.ref q_6))))]) (xk_runI (ar := 3) (As := [.ref q_1, .ref q_6, .ref q_8]) (rest := [.ref q_7, .ref h0]) ⟨hx, hb, hml, hown, hg⟩ hK hN (ct_Grammar_init_0 l dC dI cI cB cJ cZ cQ H.size q_7 q_1 q_6 q_8 dv_Grammar) hPc hDc wn_1_236 wn_1_237 wn_1_5 wn_1_238 rfl rfl rfl (by decide +kernel) ⟨Nat.le_of_ble_eq_true rfl, Nat.le_of_ble_eq_true rfl⟩ rfl hl.1 rfl (Nat.le_of_ble_eq_true rfl) dn_C_init_69 ⟨Nat.le_of_ble_eq_true rfl, Nat.le_of_ble_eq_true rfl⟩) hP hD hS hA [7] [0, 1, 2, 3, 4, 5, 6, 8] rfl rfl (by decide) (by decide) (fun _ H locs hw hP hD hS => ?_)
  have hP : va_P (dC, dI) xcl [(h0, .inr (1, xo_C (va_up (va_up (va_up f0 2 (.ref q_1)) 3 (.ref q_3)) 4 (.ref q_6)))), (q_1, .inr (2, xo_Tokens (va_up dv_Tokens 0 (.ref q_2)))), (q_2, .inl (cJ, 65537, .inr (.inl (fun _ => 0)))), (q_3, .inr (3, xo_Scanner (va_up (va_up (va_up (va_up (va_up (va_up dv_Scanner 1 (.ref q_4)) 4 (.ref q_5)) 5 (.ref q_3)) 6 (.ref q_4)) 7 (.ref q_5)) 0 (.ref q_1)))), (q_4, .inl (cB, 0, .inl (fun _ => 0))), (q_5, .inl (cI, 256, .inl (fun _ => 0))), (q_6, .inr (4, xo_Checker (va_up (va_up (va_up (va_up (va_up (va_up dv_Checker 5 (.ref q_1)) 6 (.ref q_2)) 7 (.ref q_3)) 8 (.ref q_4)) 9 (.ref q_5)) 0 (.ref q_1)))), (q_8, .inr (5, xo_Meaning (va_up (va_up (va_up (va_up (va_up dv_Meaning 12 (.ref q_1)) 13 (.ref q_2)) 14 (.ref q_3)) 15 (.ref q_4)) 0 (.ref q_6)))), (q_7, .inr (6, xo_Grammar (va_up (va_up (va_up (va_up (va_up (va_up (va_up dv_Grammar 9 (.ref q_1)) 11 (.ref q_2)) 12 (.ref q_3)) 13 (.ref q_4)) 0 (.ref q_1)) 1 (.ref q_6)) 2 (.ref q_8))))] H := hP
  have hD : va_D A [(h0, .inr (1, xo_C (va_up (va_up (va_up f0 2 (.ref q_1)) 3 (.ref q_3)) 4 (.ref q_6)))), (q_1, .inr (2, xo_Tokens (va_up dv_Tokens 0 (.ref q_2)))), (q_2, .inl (cJ, 65537, .inr (.inl (fun _ => 0)))), (q_3, .inr (3, xo_Scanner (va_up (va_up (va_up (va_up (va_up (va_up dv_Scanner 1 (.ref q_4)) 4 (.ref q_5)) 5 (.ref q_3)) 6 (.ref q_4)) 7 (.ref q_5)) 0 (.ref q_1)))), (q_4, .inl (cB, 0, .inl (fun _ => 0))), (q_5, .inl (cI, 256, .inl (fun _ => 0))), (q_6, .inr (4, xo_Checker (va_up (va_up (va_up (va_up (va_up (va_up dv_Checker 5 (.ref q_1)) 6 (.ref q_2)) 7 (.ref q_3)) 8 (.ref q_4)) 9 (.ref q_5)) 0 (.ref q_1)))), (q_8, .inr (5, xo_Meaning (va_up (va_up (va_up (va_up (va_up dv_Meaning 12 (.ref q_1)) 13 (.ref q_2)) 14 (.ref q_3)) 15 (.ref q_4)) 0 (.ref q_6)))), (q_7, .inr (6, xo_Grammar (va_up (va_up (va_up (va_up (va_up (va_up (va_up dv_Grammar 9 (.ref q_1)) 11 (.ref q_2)) 12 (.ref q_3)) 13 (.ref q_4)) 0 (.ref q_1)) 1 (.ref q_6)) 2 (.ref q_8))))] := hD
  refine va_putF (D := (dC, dI)) (ci := 1) (v := .ref q_7) (ty := (.object "CircuitCycles$Grammar")) (C := rn_C) (T := fn_C) (N := 11) hx hb hg in_C tn_C tk_C nn_C hown hK hP hD hS 0 rfl rfl 5 (by decide) (hg _ wn_3_130) (fun _ h9 => h9) rfl hin rfl (tk_C 5 (by decide)) rfl rfl (Nat.le_of_ble_eq_true rfl) dn_C_init_72 (fun H locs hP hD hS => ?_)
  have hP : va_P (dC, dI) xcl [(h0, .inr (1, xo_C (va_up (va_up (va_up (va_up f0 2 (.ref q_1)) 3 (.ref q_3)) 4 (.ref q_6)) 5 (.ref q_7)))), (q_1, .inr (2, xo_Tokens (va_up dv_Tokens 0 (.ref q_2)))), (q_2, .inl (cJ, 65537, .inr (.inl (fun _ => 0)))), (q_3, .inr (3, xo_Scanner (va_up (va_up (va_up (va_up (va_up (va_up dv_Scanner 1 (.ref q_4)) 4 (.ref q_5)) 5 (.ref q_3)) 6 (.ref q_4)) 7 (.ref q_5)) 0 (.ref q_1)))), (q_4, .inl (cB, 0, .inl (fun _ => 0))), (q_5, .inl (cI, 256, .inl (fun _ => 0))), (q_6, .inr (4, xo_Checker (va_up (va_up (va_up (va_up (va_up (va_up dv_Checker 5 (.ref q_1)) 6 (.ref q_2)) 7 (.ref q_3)) 8 (.ref q_4)) 9 (.ref q_5)) 0 (.ref q_1)))), (q_8, .inr (5, xo_Meaning (va_up (va_up (va_up (va_up (va_up dv_Meaning 12 (.ref q_1)) 13 (.ref q_2)) 14 (.ref q_3)) 15 (.ref q_4)) 0 (.ref q_6)))), (q_7, .inr (6, xo_Grammar (va_up (va_up (va_up (va_up (va_up (va_up (va_up dv_Grammar 9 (.ref q_1)) 11 (.ref q_2)) 12 (.ref q_3)) 13 (.ref q_4)) 0 (.ref q_1)) 1 (.ref q_6)) 2 (.ref q_8))))] H := hP
  have hD : va_D A [(h0, .inr (1, xo_C (va_up (va_up (va_up (va_up f0 2 (.ref q_1)) 3 (.ref q_3)) 4 (.ref q_6)) 5 (.ref q_7)))), (q_1, .inr (2, xo_Tokens (va_up dv_Tokens 0 (.ref q_2)))), (q_2, .inl (cJ, 65537, .inr (.inl (fun _ => 0)))), (q_3, .inr (3, xo_Scanner (va_up (va_up (va_up (va_up (va_up (va_up dv_Scanner 1 (.ref q_4)) 4 (.ref q_5)) 5 (.ref q_3)) 6 (.ref q_4)) 7 (.ref q_5)) 0 (.ref q_1)))), (q_4, .inl (cB, 0, .inl (fun _ => 0))), (q_5, .inl (cI, 256, .inl (fun _ => 0))), (q_6, .inr (4, xo_Checker (va_up (va_up (va_up (va_up (va_up (va_up dv_Checker 5 (.ref q_1)) 6 (.ref q_2)) 7 (.ref q_3)) 8 (.ref q_4)) 9 (.ref q_5)) 0 (.ref q_1)))), (q_8, .inr (5, xo_Meaning (va_up (va_up (va_up (va_up (va_up dv_Meaning 12 (.ref q_1)) 13 (.ref q_2)) 14 (.ref q_3)) 15 (.ref q_4)) 0 (.ref q_6)))), (q_7, .inr (6, xo_Grammar (va_up (va_up (va_up (va_up (va_up (va_up (va_up dv_Grammar 9 (.ref q_1)) 11 (.ref q_2)) 12 (.ref q_3)) 13 (.ref q_4)) 0 (.ref q_1)) 1 (.ref q_6)) 2 (.ref q_8))))] := hD
  refine lv_aload_n hx hb dn_C_init_75 rfl (lv_at hl 0 rfl) ?_
  refine va_new (ci := 7) (fs := xo_Order dv_Order) (C := rn_Order) (T := fn_Order) (N := 10) hx hb hg in_Order tn_Order tk_Order hown (hg _ wn_2_46) (hg _ wn_2_47) (hg _ wn_1_7) hK hP hD hS hA rfl dk_Order (Nat.le_of_ble_eq_true rfl) (Nat.le_of_ble_eq_true rfl) dn_C_init_76 (fun q_9 H hP hD hS => ?_)
  have hP : va_P (dC, dI) xcl [(h0, .inr (1, xo_C (va_up (va_up (va_up (va_up f0 2 (.ref q_1)) 3 (.ref q_3)) 4 (.ref q_6)) 5 (.ref q_7)))), (q_1, .inr (2, xo_Tokens (va_up dv_Tokens 0 (.ref q_2)))), (q_2, .inl (cJ, 65537, .inr (.inl (fun _ => 0)))), (q_3, .inr (3, xo_Scanner (va_up (va_up (va_up (va_up (va_up (va_up dv_Scanner 1 (.ref q_4)) 4 (.ref q_5)) 5 (.ref q_3)) 6 (.ref q_4)) 7 (.ref q_5)) 0 (.ref q_1)))), (q_4, .inl (cB, 0, .inl (fun _ => 0))), (q_5, .inl (cI, 256, .inl (fun _ => 0))), (q_6, .inr (4, xo_Checker (va_up (va_up (va_up (va_up (va_up (va_up dv_Checker 5 (.ref q_1)) 6 (.ref q_2)) 7 (.ref q_3)) 8 (.ref q_4)) 9 (.ref q_5)) 0 (.ref q_1)))), (q_8, .inr (5, xo_Meaning (va_up (va_up (va_up (va_up (va_up dv_Meaning 12 (.ref q_1)) 13 (.ref q_2)) 14 (.ref q_3)) 15 (.ref q_4)) 0 (.ref q_6)))), (q_7, .inr (6, xo_Grammar (va_up (va_up (va_up (va_up (va_up (va_up (va_up dv_Grammar 9 (.ref q_1)) 11 (.ref q_2)) 12 (.ref q_3)) 13 (.ref q_4)) 0 (.ref q_1)) 1 (.ref q_6)) 2 (.ref q_8)))), (q_9, .inr (7, xo_Order dv_Order))] H := hP
  have hD : va_D A [(h0, .inr (1, xo_C (va_up (va_up (va_up (va_up f0 2 (.ref q_1)) 3 (.ref q_3)) 4 (.ref q_6)) 5 (.ref q_7)))), (q_1, .inr (2, xo_Tokens (va_up dv_Tokens 0 (.ref q_2)))), (q_2, .inl (cJ, 65537, .inr (.inl (fun _ => 0)))), (q_3, .inr (3, xo_Scanner (va_up (va_up (va_up (va_up (va_up (va_up dv_Scanner 1 (.ref q_4)) 4 (.ref q_5)) 5 (.ref q_3)) 6 (.ref q_4)) 7 (.ref q_5)) 0 (.ref q_1)))), (q_4, .inl (cB, 0, .inl (fun _ => 0))), (q_5, .inl (cI, 256, .inl (fun _ => 0))), (q_6, .inr (4, xo_Checker (va_up (va_up (va_up (va_up (va_up (va_up dv_Checker 5 (.ref q_1)) 6 (.ref q_2)) 7 (.ref q_3)) 8 (.ref q_4)) 9 (.ref q_5)) 0 (.ref q_1)))), (q_8, .inr (5, xo_Meaning (va_up (va_up (va_up (va_up (va_up dv_Meaning 12 (.ref q_1)) 13 (.ref q_2)) 14 (.ref q_3)) 15 (.ref q_4)) 0 (.ref q_6)))), (q_7, .inr (6, xo_Grammar (va_up (va_up (va_up (va_up (va_up (va_up (va_up dv_Grammar 9 (.ref q_1)) 11 (.ref q_2)) 12 (.ref q_3)) 13 (.ref q_4)) 0 (.ref q_1)) 1 (.ref q_6)) 2 (.ref q_8)))), (q_9, .inr (7, xo_Order dv_Order))] := hD
  refine lv_dup hx hb dn_C_init_79 rfl ?_
  have hPc := hP.sub (ws' := [(q_9, .inr (7, xo_Order dv_Order))]) [9] rfl
  have hDc := hD.sub (ws' := [(q_9, .inr (7, xo_Order dv_Order))]) [9] (by decide) rfl
  refine xk_callv (wr := [(h0, .inr (1, xo_C (va_up (va_up (va_up (va_up f0 2 (.ref q_1)) 3 (.ref q_3)) 4 (.ref q_6)) 5 (.ref q_7)))), (q_1, .inr (2, xo_Tokens (va_up dv_Tokens 0 (.ref q_2)))), (q_2, .inl (cJ, 65537, .inr (.inl (fun _ => 0)))), (q_3, .inr (3, xo_Scanner (va_up (va_up (va_up (va_up (va_up (va_up dv_Scanner 1 (.ref q_4)) 4 (.ref q_5)) 5 (.ref q_3)) 6 (.ref q_4)) 7 (.ref q_5)) 0 (.ref q_1)))), (q_4, .inl (cB, 0, .inl (fun _ => 0))), (q_5, .inl (cI, 256, .inl (fun _ => 0))), (q_6, .inr (4, xo_Checker (va_up (va_up (va_up (va_up (va_up (va_up dv_Checker 5 (.ref q_1)) 6 (.ref q_2)) 7 (.ref q_3)) 8 (.ref q_4)) 9 (.ref q_5)) 0 (.ref q_1)))), (q_8, .inr (5, xo_Meaning (va_up (va_up (va_up (va_up (va_up dv_Meaning 12 (.ref q_1)) 13 (.ref q_2)) 14 (.ref q_3)) 15 (.ref q_4)) 0 (.ref q_6)))), (q_7, .inr (6, xo_Grammar (va_up (va_up (va_up (va_up (va_up (va_up (va_up dv_Grammar 9 (.ref q_1)) 11 (.ref q_2)) 12 (.ref q_3)) 13 (.ref q_4)) 0 (.ref q_1)) 1 (.ref q_6)) 2 (.ref q_8))))]) (xk_runIN (ar := 0) (As := []) (rest := [.ref q_9, .ref h0]) (host := "CircuitCycles") ⟨hx, hb, hml, hown, hg⟩ hK hN (ct_Order_init_0 l dC dI cI cB cJ cZ cQ H.size q_9 dv_Order) hPc hDc nl_C_48 wn_2_49 wn_1_7 wn_2_50 rfl rfl rfl (by decide +kernel) ⟨Nat.le_of_ble_eq_true rfl, Nat.le_of_ble_eq_true rfl⟩ rfl hl.1 rfl (Nat.le_of_ble_eq_true rfl) dn_C_init_80 ⟨Nat.le_of_ble_eq_true rfl, Nat.le_of_ble_eq_true rfl⟩) hP hD hS hA [9] [0, 1, 2, 3, 4, 5, 6, 7, 8] rfl rfl (by decide) (by decide) (fun _ H locs hw hP hD hS => ?_)
  have hP : va_P (dC, dI) xcl [(h0, .inr (1, xo_C (va_up (va_up (va_up (va_up f0 2 (.ref q_1)) 3 (.ref q_3)) 4 (.ref q_6)) 5 (.ref q_7)))), (q_1, .inr (2, xo_Tokens (va_up dv_Tokens 0 (.ref q_2)))), (q_2, .inl (cJ, 65537, .inr (.inl (fun _ => 0)))), (q_3, .inr (3, xo_Scanner (va_up (va_up (va_up (va_up (va_up (va_up dv_Scanner 1 (.ref q_4)) 4 (.ref q_5)) 5 (.ref q_3)) 6 (.ref q_4)) 7 (.ref q_5)) 0 (.ref q_1)))), (q_4, .inl (cB, 0, .inl (fun _ => 0))), (q_5, .inl (cI, 256, .inl (fun _ => 0))), (q_6, .inr (4, xo_Checker (va_up (va_up (va_up (va_up (va_up (va_up dv_Checker 5 (.ref q_1)) 6 (.ref q_2)) 7 (.ref q_3)) 8 (.ref q_4)) 9 (.ref q_5)) 0 (.ref q_1)))), (q_8, .inr (5, xo_Meaning (va_up (va_up (va_up (va_up (va_up dv_Meaning 12 (.ref q_1)) 13 (.ref q_2)) 14 (.ref q_3)) 15 (.ref q_4)) 0 (.ref q_6)))), (q_7, .inr (6, xo_Grammar (va_up (va_up (va_up (va_up (va_up (va_up (va_up dv_Grammar 9 (.ref q_1)) 11 (.ref q_2)) 12 (.ref q_3)) 13 (.ref q_4)) 0 (.ref q_1)) 1 (.ref q_6)) 2 (.ref q_8)))), (q_9, .inr (7, xo_Order (va_up (va_up (va_up (va_up (va_up dv_Order 1 (.ref q_1)) 2 (.ref q_2)) 3 (.ref q_3)) 4 (.ref q_4)) 5 (.ref q_5))))] H := hP
  have hD : va_D A [(h0, .inr (1, xo_C (va_up (va_up (va_up (va_up f0 2 (.ref q_1)) 3 (.ref q_3)) 4 (.ref q_6)) 5 (.ref q_7)))), (q_1, .inr (2, xo_Tokens (va_up dv_Tokens 0 (.ref q_2)))), (q_2, .inl (cJ, 65537, .inr (.inl (fun _ => 0)))), (q_3, .inr (3, xo_Scanner (va_up (va_up (va_up (va_up (va_up (va_up dv_Scanner 1 (.ref q_4)) 4 (.ref q_5)) 5 (.ref q_3)) 6 (.ref q_4)) 7 (.ref q_5)) 0 (.ref q_1)))), (q_4, .inl (cB, 0, .inl (fun _ => 0))), (q_5, .inl (cI, 256, .inl (fun _ => 0))), (q_6, .inr (4, xo_Checker (va_up (va_up (va_up (va_up (va_up (va_up dv_Checker 5 (.ref q_1)) 6 (.ref q_2)) 7 (.ref q_3)) 8 (.ref q_4)) 9 (.ref q_5)) 0 (.ref q_1)))), (q_8, .inr (5, xo_Meaning (va_up (va_up (va_up (va_up (va_up dv_Meaning 12 (.ref q_1)) 13 (.ref q_2)) 14 (.ref q_3)) 15 (.ref q_4)) 0 (.ref q_6)))), (q_7, .inr (6, xo_Grammar (va_up (va_up (va_up (va_up (va_up (va_up (va_up dv_Grammar 9 (.ref q_1)) 11 (.ref q_2)) 12 (.ref q_3)) 13 (.ref q_4)) 0 (.ref q_1)) 1 (.ref q_6)) 2 (.ref q_8)))), (q_9, .inr (7, xo_Order (va_up (va_up (va_up (va_up (va_up dv_Order 1 (.ref q_1)) 2 (.ref q_2)) 3 (.ref q_3)) 4 (.ref q_4)) 5 (.ref q_5))))] := hD
  refine va_putF (D := (dC, dI)) (ci := 1) (v := .ref q_9) (ty := (.object "CircuitCycles$Order")) (C := rn_C) (T := fn_C) (N := 11) hx hb hg in_C tn_C tk_C nn_C hown hK hP hD hS 0 rfl rfl 6 (by decide) (hg _ wn_3_131) (fun _ h9 => h9) rfl hin rfl (tk_C 6 (by decide)) rfl rfl (Nat.le_of_ble_eq_true rfl) dn_C_init_83 (fun H locs hP hD hS => ?_)
  have hP : va_P (dC, dI) xcl [(h0, .inr (1, xo_C (va_up (va_up (va_up (va_up (va_up f0 2 (.ref q_1)) 3 (.ref q_3)) 4 (.ref q_6)) 5 (.ref q_7)) 6 (.ref q_9)))), (q_1, .inr (2, xo_Tokens (va_up dv_Tokens 0 (.ref q_2)))), (q_2, .inl (cJ, 65537, .inr (.inl (fun _ => 0)))), (q_3, .inr (3, xo_Scanner (va_up (va_up (va_up (va_up (va_up (va_up dv_Scanner 1 (.ref q_4)) 4 (.ref q_5)) 5 (.ref q_3)) 6 (.ref q_4)) 7 (.ref q_5)) 0 (.ref q_1)))), (q_4, .inl (cB, 0, .inl (fun _ => 0))), (q_5, .inl (cI, 256, .inl (fun _ => 0))), (q_6, .inr (4, xo_Checker (va_up (va_up (va_up (va_up (va_up (va_up dv_Checker 5 (.ref q_1)) 6 (.ref q_2)) 7 (.ref q_3)) 8 (.ref q_4)) 9 (.ref q_5)) 0 (.ref q_1)))), (q_8, .inr (5, xo_Meaning (va_up (va_up (va_up (va_up (va_up dv_Meaning 12 (.ref q_1)) 13 (.ref q_2)) 14 (.ref q_3)) 15 (.ref q_4)) 0 (.ref q_6)))), (q_7, .inr (6, xo_Grammar (va_up (va_up (va_up (va_up (va_up (va_up (va_up dv_Grammar 9 (.ref q_1)) 11 (.ref q_2)) 12 (.ref q_3)) 13 (.ref q_4)) 0 (.ref q_1)) 1 (.ref q_6)) 2 (.ref q_8)))), (q_9, .inr (7, xo_Order (va_up (va_up (va_up (va_up (va_up dv_Order 1 (.ref q_1)) 2 (.ref q_2)) 3 (.ref q_3)) 4 (.ref q_4)) 5 (.ref q_5))))] H := hP
  have hD : va_D A [(h0, .inr (1, xo_C (va_up (va_up (va_up (va_up (va_up f0 2 (.ref q_1)) 3 (.ref q_3)) 4 (.ref q_6)) 5 (.ref q_7)) 6 (.ref q_9)))), (q_1, .inr (2, xo_Tokens (va_up dv_Tokens 0 (.ref q_2)))), (q_2, .inl (cJ, 65537, .inr (.inl (fun _ => 0)))), (q_3, .inr (3, xo_Scanner (va_up (va_up (va_up (va_up (va_up (va_up dv_Scanner 1 (.ref q_4)) 4 (.ref q_5)) 5 (.ref q_3)) 6 (.ref q_4)) 7 (.ref q_5)) 0 (.ref q_1)))), (q_4, .inl (cB, 0, .inl (fun _ => 0))), (q_5, .inl (cI, 256, .inl (fun _ => 0))), (q_6, .inr (4, xo_Checker (va_up (va_up (va_up (va_up (va_up (va_up dv_Checker 5 (.ref q_1)) 6 (.ref q_2)) 7 (.ref q_3)) 8 (.ref q_4)) 9 (.ref q_5)) 0 (.ref q_1)))), (q_8, .inr (5, xo_Meaning (va_up (va_up (va_up (va_up (va_up dv_Meaning 12 (.ref q_1)) 13 (.ref q_2)) 14 (.ref q_3)) 15 (.ref q_4)) 0 (.ref q_6)))), (q_7, .inr (6, xo_Grammar (va_up (va_up (va_up (va_up (va_up (va_up (va_up dv_Grammar 9 (.ref q_1)) 11 (.ref q_2)) 12 (.ref q_3)) 13 (.ref q_4)) 0 (.ref q_1)) 1 (.ref q_6)) 2 (.ref q_8)))), (q_9, .inr (7, xo_Order (va_up (va_up (va_up (va_up (va_up dv_Order 1 (.ref q_1)) 2 (.ref q_2)) 3 (.ref q_3)) 4 (.ref q_4)) 5 (.ref q_5))))] := hD
  refine lv_aload_n hx hb dn_C_init_86 rfl (lv_at hl 0 rfl) ?_
  refine va_new (ci := 8) (fs := xo_Machine dv_Machine) (C := rn_Machine) (T := fn_Machine) (N := 5) hx hb hg in_Machine tn_Machine tk_Machine hown (hg _ wn_2_83) (hg _ wn_2_84) (hg _ wn_1_8) hK hP hD hS hA rfl dk_Machine (Nat.le_of_ble_eq_true rfl) (Nat.le_of_ble_eq_true rfl) dn_C_init_87 (fun q_10 H hP hD hS => ?_)
  have hP : va_P (dC, dI) xcl [(h0, .inr (1, xo_C (va_up (va_up (va_up (va_up (va_up f0 2 (.ref q_1)) 3 (.ref q_3)) 4 (.ref q_6)) 5 (.ref q_7)) 6 (.ref q_9)))), (q_1, .inr (2, xo_Tokens (va_up dv_Tokens 0 (.ref q_2)))), (q_2, .inl (cJ, 65537, .inr (.inl (fun _ => 0)))), (q_3, .inr (3, xo_Scanner (va_up (va_up (va_up (va_up (va_up (va_up dv_Scanner 1 (.ref q_4)) 4 (.ref q_5)) 5 (.ref q_3)) 6 (.ref q_4)) 7 (.ref q_5)) 0 (.ref q_1)))), (q_4, .inl (cB, 0, .inl (fun _ => 0))), (q_5, .inl (cI, 256, .inl (fun _ => 0))), (q_6, .inr (4, xo_Checker (va_up (va_up (va_up (va_up (va_up (va_up dv_Checker 5 (.ref q_1)) 6 (.ref q_2)) 7 (.ref q_3)) 8 (.ref q_4)) 9 (.ref q_5)) 0 (.ref q_1)))), (q_8, .inr (5, xo_Meaning (va_up (va_up (va_up (va_up (va_up dv_Meaning 12 (.ref q_1)) 13 (.ref q_2)) 14 (.ref q_3)) 15 (.ref q_4)) 0 (.ref q_6)))), (q_7, .inr (6, xo_Grammar (va_up (va_up (va_up (va_up (va_up (va_up (va_up dv_Grammar 9 (.ref q_1)) 11 (.ref q_2)) 12 (.ref q_3)) 13 (.ref q_4)) 0 (.ref q_1)) 1 (.ref q_6)) 2 (.ref q_8)))), (q_9, .inr (7, xo_Order (va_up (va_up (va_up (va_up (va_up dv_Order 1 (.ref q_1)) 2 (.ref q_2)) 3 (.ref q_3)) 4 (.ref q_4)) 5 (.ref q_5)))), (q_10, .inr (8, xo_Machine dv_Machine))] H := hP
  have hD : va_D A [(h0, .inr (1, xo_C (va_up (va_up (va_up (va_up (va_up f0 2 (.ref q_1)) 3 (.ref q_3)) 4 (.ref q_6)) 5 (.ref q_7)) 6 (.ref q_9)))), (q_1, .inr (2, xo_Tokens (va_up dv_Tokens 0 (.ref q_2)))), (q_2, .inl (cJ, 65537, .inr (.inl (fun _ => 0)))), (q_3, .inr (3, xo_Scanner (va_up (va_up (va_up (va_up (va_up (va_up dv_Scanner 1 (.ref q_4)) 4 (.ref q_5)) 5 (.ref q_3)) 6 (.ref q_4)) 7 (.ref q_5)) 0 (.ref q_1)))), (q_4, .inl (cB, 0, .inl (fun _ => 0))), (q_5, .inl (cI, 256, .inl (fun _ => 0))), (q_6, .inr (4, xo_Checker (va_up (va_up (va_up (va_up (va_up (va_up dv_Checker 5 (.ref q_1)) 6 (.ref q_2)) 7 (.ref q_3)) 8 (.ref q_4)) 9 (.ref q_5)) 0 (.ref q_1)))), (q_8, .inr (5, xo_Meaning (va_up (va_up (va_up (va_up (va_up dv_Meaning 12 (.ref q_1)) 13 (.ref q_2)) 14 (.ref q_3)) 15 (.ref q_4)) 0 (.ref q_6)))), (q_7, .inr (6, xo_Grammar (va_up (va_up (va_up (va_up (va_up (va_up (va_up dv_Grammar 9 (.ref q_1)) 11 (.ref q_2)) 12 (.ref q_3)) 13 (.ref q_4)) 0 (.ref q_1)) 1 (.ref q_6)) 2 (.ref q_8)))), (q_9, .inr (7, xo_Order (va_up (va_up (va_up (va_up (va_up dv_Order 1 (.ref q_1)) 2 (.ref q_2)) 3 (.ref q_3)) 4 (.ref q_4)) 5 (.ref q_5)))), (q_10, .inr (8, xo_Machine dv_Machine))] := hD
  refine lv_dup hx hb dn_C_init_90 rfl ?_
  have hPc := hP.sub (ws' := [(q_10, .inr (8, xo_Machine dv_Machine))]) [10] rfl
  have hDc := hD.sub (ws' := [(q_10, .inr (8, xo_Machine dv_Machine))]) [10] (by decide) rfl
  refine xk_callv (wr := [(h0, .inr (1, xo_C (va_up (va_up (va_up (va_up (va_up f0 2 (.ref q_1)) 3 (.ref q_3)) 4 (.ref q_6)) 5 (.ref q_7)) 6 (.ref q_9)))), (q_1, .inr (2, xo_Tokens (va_up dv_Tokens 0 (.ref q_2)))), (q_2, .inl (cJ, 65537, .inr (.inl (fun _ => 0)))), (q_3, .inr (3, xo_Scanner (va_up (va_up (va_up (va_up (va_up (va_up dv_Scanner 1 (.ref q_4)) 4 (.ref q_5)) 5 (.ref q_3)) 6 (.ref q_4)) 7 (.ref q_5)) 0 (.ref q_1)))), (q_4, .inl (cB, 0, .inl (fun _ => 0))), (q_5, .inl (cI, 256, .inl (fun _ => 0))), (q_6, .inr (4, xo_Checker (va_up (va_up (va_up (va_up (va_up (va_up dv_Checker 5 (.ref q_1)) 6 (.ref q_2)) 7 (.ref q_3)) 8 (.ref q_4)) 9 (.ref q_5)) 0 (.ref q_1)))), (q_8, .inr (5, xo_Meaning (va_up (va_up (va_up (va_up (va_up dv_Meaning 12 (.ref q_1)) 13 (.ref q_2)) 14 (.ref q_3)) 15 (.ref q_4)) 0 (.ref q_6)))), (q_7, .inr (6, xo_Grammar (va_up (va_up (va_up (va_up (va_up (va_up (va_up dv_Grammar 9 (.ref q_1)) 11 (.ref q_2)) 12 (.ref q_3)) 13 (.ref q_4)) 0 (.ref q_1)) 1 (.ref q_6)) 2 (.ref q_8)))), (q_9, .inr (7, xo_Order (va_up (va_up (va_up (va_up (va_up dv_Order 1 (.ref q_1)) 2 (.ref q_2)) 3 (.ref q_3)) 4 (.ref q_4)) 5 (.ref q_5))))]) (xk_runIN (ar := 0) (As := []) (rest := [.ref q_10, .ref h0]) (host := "CircuitCycles") ⟨hx, hb, hml, hown, hg⟩ hK hN (ct_Machine_init_0 l dC dI cI cB cJ cZ cQ H.size q_10 dv_Machine) hPc hDc nl_C_55 wn_2_86 wn_1_8 wn_2_87 rfl rfl rfl (by decide +kernel) ⟨Nat.le_of_ble_eq_true rfl, Nat.le_of_ble_eq_true rfl⟩ rfl hl.1 rfl (Nat.le_of_ble_eq_true rfl) dn_C_init_91 ⟨Nat.le_of_ble_eq_true rfl, Nat.le_of_ble_eq_true rfl⟩) hP hD hS hA [10] [0, 1, 2, 3, 4, 5, 6, 7, 8, 9] rfl rfl (by decide) (by decide) (fun _ H locs hw hP hD hS => ?_)
  have hP : va_P (dC, dI) xcl [(h0, .inr (1, xo_C (va_up (va_up (va_up (va_up (va_up f0 2 (.ref q_1)) 3 (.ref q_3)) 4 (.ref q_6)) 5 (.ref q_7)) 6 (.ref q_9)))), (q_1, .inr (2, xo_Tokens (va_up dv_Tokens 0 (.ref q_2)))), (q_2, .inl (cJ, 65537, .inr (.inl (fun _ => 0)))), (q_3, .inr (3, xo_Scanner (va_up (va_up (va_up (va_up (va_up (va_up dv_Scanner 1 (.ref q_4)) 4 (.ref q_5)) 5 (.ref q_3)) 6 (.ref q_4)) 7 (.ref q_5)) 0 (.ref q_1)))), (q_4, .inl (cB, 0, .inl (fun _ => 0))), (q_5, .inl (cI, 256, .inl (fun _ => 0))), (q_6, .inr (4, xo_Checker (va_up (va_up (va_up (va_up (va_up (va_up dv_Checker 5 (.ref q_1)) 6 (.ref q_2)) 7 (.ref q_3)) 8 (.ref q_4)) 9 (.ref q_5)) 0 (.ref q_1)))), (q_8, .inr (5, xo_Meaning (va_up (va_up (va_up (va_up (va_up dv_Meaning 12 (.ref q_1)) 13 (.ref q_2)) 14 (.ref q_3)) 15 (.ref q_4)) 0 (.ref q_6)))), (q_7, .inr (6, xo_Grammar (va_up (va_up (va_up (va_up (va_up (va_up (va_up dv_Grammar 9 (.ref q_1)) 11 (.ref q_2)) 12 (.ref q_3)) 13 (.ref q_4)) 0 (.ref q_1)) 1 (.ref q_6)) 2 (.ref q_8)))), (q_9, .inr (7, xo_Order (va_up (va_up (va_up (va_up (va_up dv_Order 1 (.ref q_1)) 2 (.ref q_2)) 3 (.ref q_3)) 4 (.ref q_4)) 5 (.ref q_5)))), (q_10, .inr (8, xo_Machine (va_up (va_up (va_up dv_Machine 0 (.ref q_1)) 1 (.ref q_2)) 2 (.ref q_3))))] H := hP
  have hD : va_D A [(h0, .inr (1, xo_C (va_up (va_up (va_up (va_up (va_up f0 2 (.ref q_1)) 3 (.ref q_3)) 4 (.ref q_6)) 5 (.ref q_7)) 6 (.ref q_9)))), (q_1, .inr (2, xo_Tokens (va_up dv_Tokens 0 (.ref q_2)))), (q_2, .inl (cJ, 65537, .inr (.inl (fun _ => 0)))), (q_3, .inr (3, xo_Scanner (va_up (va_up (va_up (va_up (va_up (va_up dv_Scanner 1 (.ref q_4)) 4 (.ref q_5)) 5 (.ref q_3)) 6 (.ref q_4)) 7 (.ref q_5)) 0 (.ref q_1)))), (q_4, .inl (cB, 0, .inl (fun _ => 0))), (q_5, .inl (cI, 256, .inl (fun _ => 0))), (q_6, .inr (4, xo_Checker (va_up (va_up (va_up (va_up (va_up (va_up dv_Checker 5 (.ref q_1)) 6 (.ref q_2)) 7 (.ref q_3)) 8 (.ref q_4)) 9 (.ref q_5)) 0 (.ref q_1)))), (q_8, .inr (5, xo_Meaning (va_up (va_up (va_up (va_up (va_up dv_Meaning 12 (.ref q_1)) 13 (.ref q_2)) 14 (.ref q_3)) 15 (.ref q_4)) 0 (.ref q_6)))), (q_7, .inr (6, xo_Grammar (va_up (va_up (va_up (va_up (va_up (va_up (va_up dv_Grammar 9 (.ref q_1)) 11 (.ref q_2)) 12 (.ref q_3)) 13 (.ref q_4)) 0 (.ref q_1)) 1 (.ref q_6)) 2 (.ref q_8)))), (q_9, .inr (7, xo_Order (va_up (va_up (va_up (va_up (va_up dv_Order 1 (.ref q_1)) 2 (.ref q_2)) 3 (.ref q_3)) 4 (.ref q_4)) 5 (.ref q_5)))), (q_10, .inr (8, xo_Machine (va_up (va_up (va_up dv_Machine 0 (.ref q_1)) 1 (.ref q_2)) 2 (.ref q_3))))] := hD
  refine va_putF (D := (dC, dI)) (ci := 1) (v := .ref q_10) (ty := (.object "CircuitCycles$Machine")) (C := rn_C) (T := fn_C) (N := 11) hx hb hg in_C tn_C tk_C nn_C hown hK hP hD hS 0 rfl rfl 7 (by decide) (hg _ wn_3_132) (fun _ h9 => h9) rfl hin rfl (tk_C 7 (by decide)) rfl rfl (Nat.le_of_ble_eq_true rfl) dn_C_init_94 (fun H locs hP hD hS => ?_)
  have hP : va_P (dC, dI) xcl [(h0, .inr (1, xo_C (va_up (va_up (va_up (va_up (va_up (va_up f0 2 (.ref q_1)) 3 (.ref q_3)) 4 (.ref q_6)) 5 (.ref q_7)) 6 (.ref q_9)) 7 (.ref q_10)))), (q_1, .inr (2, xo_Tokens (va_up dv_Tokens 0 (.ref q_2)))), (q_2, .inl (cJ, 65537, .inr (.inl (fun _ => 0)))), (q_3, .inr (3, xo_Scanner (va_up (va_up (va_up (va_up (va_up (va_up dv_Scanner 1 (.ref q_4)) 4 (.ref q_5)) 5 (.ref q_3)) 6 (.ref q_4)) 7 (.ref q_5)) 0 (.ref q_1)))), (q_4, .inl (cB, 0, .inl (fun _ => 0))), (q_5, .inl (cI, 256, .inl (fun _ => 0))), (q_6, .inr (4, xo_Checker (va_up (va_up (va_up (va_up (va_up (va_up dv_Checker 5 (.ref q_1)) 6 (.ref q_2)) 7 (.ref q_3)) 8 (.ref q_4)) 9 (.ref q_5)) 0 (.ref q_1)))), (q_8, .inr (5, xo_Meaning (va_up (va_up (va_up (va_up (va_up dv_Meaning 12 (.ref q_1)) 13 (.ref q_2)) 14 (.ref q_3)) 15 (.ref q_4)) 0 (.ref q_6)))), (q_7, .inr (6, xo_Grammar (va_up (va_up (va_up (va_up (va_up (va_up (va_up dv_Grammar 9 (.ref q_1)) 11 (.ref q_2)) 12 (.ref q_3)) 13 (.ref q_4)) 0 (.ref q_1)) 1 (.ref q_6)) 2 (.ref q_8)))), (q_9, .inr (7, xo_Order (va_up (va_up (va_up (va_up (va_up dv_Order 1 (.ref q_1)) 2 (.ref q_2)) 3 (.ref q_3)) 4 (.ref q_4)) 5 (.ref q_5)))), (q_10, .inr (8, xo_Machine (va_up (va_up (va_up dv_Machine 0 (.ref q_1)) 1 (.ref q_2)) 2 (.ref q_3))))] H := hP
  have hD : va_D A [(h0, .inr (1, xo_C (va_up (va_up (va_up (va_up (va_up (va_up f0 2 (.ref q_1)) 3 (.ref q_3)) 4 (.ref q_6)) 5 (.ref q_7)) 6 (.ref q_9)) 7 (.ref q_10)))), (q_1, .inr (2, xo_Tokens (va_up dv_Tokens 0 (.ref q_2)))), (q_2, .inl (cJ, 65537, .inr (.inl (fun _ => 0)))), (q_3, .inr (3, xo_Scanner (va_up (va_up (va_up (va_up (va_up (va_up dv_Scanner 1 (.ref q_4)) 4 (.ref q_5)) 5 (.ref q_3)) 6 (.ref q_4)) 7 (.ref q_5)) 0 (.ref q_1)))), (q_4, .inl (cB, 0, .inl (fun _ => 0))), (q_5, .inl (cI, 256, .inl (fun _ => 0))), (q_6, .inr (4, xo_Checker (va_up (va_up (va_up (va_up (va_up (va_up dv_Checker 5 (.ref q_1)) 6 (.ref q_2)) 7 (.ref q_3)) 8 (.ref q_4)) 9 (.ref q_5)) 0 (.ref q_1)))), (q_8, .inr (5, xo_Meaning (va_up (va_up (va_up (va_up (va_up dv_Meaning 12 (.ref q_1)) 13 (.ref q_2)) 14 (.ref q_3)) 15 (.ref q_4)) 0 (.ref q_6)))), (q_7, .inr (6, xo_Grammar (va_up (va_up (va_up (va_up (va_up (va_up (va_up dv_Grammar 9 (.ref q_1)) 11 (.ref q_2)) 12 (.ref q_3)) 13 (.ref q_4)) 0 (.ref q_1)) 1 (.ref q_6)) 2 (.ref q_8)))), (q_9, .inr (7, xo_Order (va_up (va_up (va_up (va_up (va_up dv_Order 1 (.ref q_1)) 2 (.ref q_2)) 3 (.ref q_3)) 4 (.ref q_4)) 5 (.ref q_5)))), (q_10, .inr (8, xo_Machine (va_up (va_up (va_up dv_Machine 0 (.ref q_1)) 1 (.ref q_2)) 2 (.ref q_3))))] := hD
  refine lv_aload_n hx hb dn_C_init_97 rfl (lv_at hl 0 rfl) ?_
  refine va_new (ci := 9) (fs := xo_Circuit dv_Circuit) (C := rn_Circuit) (T := fn_Circuit) (N := 14) hx hb hg in_Circuit tn_Circuit tk_Circuit hown (hg _ wn_2_105) (hg _ wn_2_106) (hg _ wn_1_9) hK hP hD hS hA rfl dk_Circuit (Nat.le_of_ble_eq_true rfl) (Nat.le_of_ble_eq_true rfl) dn_C_init_98 (fun q_11 H hP hD hS => ?_)
  have hP : va_P (dC, dI) xcl [(h0, .inr (1, xo_C (va_up (va_up (va_up (va_up (va_up (va_up f0 2 (.ref q_1)) 3 (.ref q_3)) 4 (.ref q_6)) 5 (.ref q_7)) 6 (.ref q_9)) 7 (.ref q_10)))), (q_1, .inr (2, xo_Tokens (va_up dv_Tokens 0 (.ref q_2)))), (q_2, .inl (cJ, 65537, .inr (.inl (fun _ => 0)))), (q_3, .inr (3, xo_Scanner (va_up (va_up (va_up (va_up (va_up (va_up dv_Scanner 1 (.ref q_4)) 4 (.ref q_5)) 5 (.ref q_3)) 6 (.ref q_4)) 7 (.ref q_5)) 0 (.ref q_1)))), (q_4, .inl (cB, 0, .inl (fun _ => 0))), (q_5, .inl (cI, 256, .inl (fun _ => 0))), (q_6, .inr (4, xo_Checker (va_up (va_up (va_up (va_up (va_up (va_up dv_Checker 5 (.ref q_1)) 6 (.ref q_2)) 7 (.ref q_3)) 8 (.ref q_4)) 9 (.ref q_5)) 0 (.ref q_1)))), (q_8, .inr (5, xo_Meaning (va_up (va_up (va_up (va_up (va_up dv_Meaning 12 (.ref q_1)) 13 (.ref q_2)) 14 (.ref q_3)) 15 (.ref q_4)) 0 (.ref q_6)))), (q_7, .inr (6, xo_Grammar (va_up (va_up (va_up (va_up (va_up (va_up (va_up dv_Grammar 9 (.ref q_1)) 11 (.ref q_2)) 12 (.ref q_3)) 13 (.ref q_4)) 0 (.ref q_1)) 1 (.ref q_6)) 2 (.ref q_8)))), (q_9, .inr (7, xo_Order (va_up (va_up (va_up (va_up (va_up dv_Order 1 (.ref q_1)) 2 (.ref q_2)) 3 (.ref q_3)) 4 (.ref q_4)) 5 (.ref q_5)))), (q_10, .inr (8, xo_Machine (va_up (va_up (va_up dv_Machine 0 (.ref q_1)) 1 (.ref q_2)) 2 (.ref q_3)))), (q_11, .inr (9, xo_Circuit dv_Circuit))] H := hP
  have hD : va_D A [(h0, .inr (1, xo_C (va_up (va_up (va_up (va_up (va_up (va_up f0 2 (.ref q_1)) 3 (.ref q_3)) 4 (.ref q_6)) 5 (.ref q_7)) 6 (.ref q_9)) 7 (.ref q_10)))), (q_1, .inr (2, xo_Tokens (va_up dv_Tokens 0 (.ref q_2)))), (q_2, .inl (cJ, 65537, .inr (.inl (fun _ => 0)))), (q_3, .inr (3, xo_Scanner (va_up (va_up (va_up (va_up (va_up (va_up dv_Scanner 1 (.ref q_4)) 4 (.ref q_5)) 5 (.ref q_3)) 6 (.ref q_4)) 7 (.ref q_5)) 0 (.ref q_1)))), (q_4, .inl (cB, 0, .inl (fun _ => 0))), (q_5, .inl (cI, 256, .inl (fun _ => 0))), (q_6, .inr (4, xo_Checker (va_up (va_up (va_up (va_up (va_up (va_up dv_Checker 5 (.ref q_1)) 6 (.ref q_2)) 7 (.ref q_3)) 8 (.ref q_4)) 9 (.ref q_5)) 0 (.ref q_1)))), (q_8, .inr (5, xo_Meaning (va_up (va_up (va_up (va_up (va_up dv_Meaning 12 (.ref q_1)) 13 (.ref q_2)) 14 (.ref q_3)) 15 (.ref q_4)) 0 (.ref q_6)))), (q_7, .inr (6, xo_Grammar (va_up (va_up (va_up (va_up (va_up (va_up (va_up dv_Grammar 9 (.ref q_1)) 11 (.ref q_2)) 12 (.ref q_3)) 13 (.ref q_4)) 0 (.ref q_1)) 1 (.ref q_6)) 2 (.ref q_8)))), (q_9, .inr (7, xo_Order (va_up (va_up (va_up (va_up (va_up dv_Order 1 (.ref q_1)) 2 (.ref q_2)) 3 (.ref q_3)) 4 (.ref q_4)) 5 (.ref q_5)))), (q_10, .inr (8, xo_Machine (va_up (va_up (va_up dv_Machine 0 (.ref q_1)) 1 (.ref q_2)) 2 (.ref q_3)))), (q_11, .inr (9, xo_Circuit dv_Circuit))] := hD
  refine lv_dup hx hb dn_C_init_101 rfl ?_
  have hPc := hP.sub (ws' := [(q_11, .inr (9, xo_Circuit dv_Circuit))]) [11] rfl
  have hDc := hD.sub (ws' := [(q_11, .inr (9, xo_Circuit dv_Circuit))]) [11] (by decide) rfl
  refine xk_callv (wr := [(h0, .inr (1, xo_C (va_up (va_up (va_up (va_up (va_up (va_up f0 2 (.ref q_1)) 3 (.ref q_3)) 4 (.ref q_6)) 5 (.ref q_7)) 6 (.ref q_9)) 7 (.ref q_10)))), (q_1, .inr (2, xo_Tokens (va_up dv_Tokens 0 (.ref q_2)))), (q_2, .inl (cJ, 65537, .inr (.inl (fun _ => 0)))), (q_3, .inr (3, xo_Scanner (va_up (va_up (va_up (va_up (va_up (va_up dv_Scanner 1 (.ref q_4)) 4 (.ref q_5)) 5 (.ref q_3)) 6 (.ref q_4)) 7 (.ref q_5)) 0 (.ref q_1)))), (q_4, .inl (cB, 0, .inl (fun _ => 0))), (q_5, .inl (cI, 256, .inl (fun _ => 0))), (q_6, .inr (4, xo_Checker (va_up (va_up (va_up (va_up (va_up (va_up dv_Checker 5 (.ref q_1)) 6 (.ref q_2)) 7 (.ref q_3)) 8 (.ref q_4)) 9 (.ref q_5)) 0 (.ref q_1)))), (q_8, .inr (5, xo_Meaning (va_up (va_up (va_up (va_up (va_up dv_Meaning 12 (.ref q_1)) 13 (.ref q_2)) 14 (.ref q_3)) 15 (.ref q_4)) 0 (.ref q_6)))), (q_7, .inr (6, xo_Grammar (va_up (va_up (va_up (va_up (va_up (va_up (va_up dv_Grammar 9 (.ref q_1)) 11 (.ref q_2)) 12 (.ref q_3)) 13 (.ref q_4)) 0 (.ref q_1)) 1 (.ref q_6)) 2 (.ref q_8)))), (q_9, .inr (7, xo_Order (va_up (va_up (va_up (va_up (va_up dv_Order 1 (.ref q_1)) 2 (.ref q_2)) 3 (.ref q_3)) 4 (.ref q_4)) 5 (.ref q_5)))), (q_10, .inr (8, xo_Machine (va_up (va_up (va_up dv_Machine 0 (.ref q_1)) 1 (.ref q_2)) 2 (.ref q_3))))]) (xk_runIN (ar := 0) (As := []) (rest := [.ref q_11, .ref h0]) (host := "CircuitCycles") ⟨hx, hb, hml, hown, hg⟩ hK hN (ct_Circuit_init_0 l dC dI cI cB cJ cZ cQ H.size q_11 dv_Circuit) hPc hDc nl_C_62 wn_2_108 wn_1_9 wn_2_109 rfl rfl rfl (by decide +kernel) ⟨Nat.le_of_ble_eq_true rfl, Nat.le_of_ble_eq_true rfl⟩ rfl hl.1 rfl (Nat.le_of_ble_eq_true rfl) dn_C_init_102 ⟨Nat.le_of_ble_eq_true rfl, Nat.le_of_ble_eq_true rfl⟩) hP hD hS hA [11] [0, 1, 2, 3, 4, 5, 6, 7, 8, 9, 10] rfl rfl (by decide) (by decide) (fun u H locs hw hP hD hS => ?_)
  obtain ⟨q_12, q_13, q_14, q_15⟩ := u
  have hP : va_P (dC, dI) xcl [(h0, .inr (1, xo_C (va_up (va_up (va_up (va_up (va_up (va_up f0 2 (.ref q_1)) 3 (.ref q_3)) 4 (.ref q_6)) 5 (.ref q_7)) 6 (.ref q_9)) 7 (.ref q_10)))), (q_1, .inr (2, xo_Tokens (va_up dv_Tokens 0 (.ref q_2)))), (q_2, .inl (cJ, 65537, .inr (.inl (fun _ => 0)))), (q_3, .inr (3, xo_Scanner (va_up (va_up (va_up (va_up (va_up (va_up dv_Scanner 1 (.ref q_4)) 4 (.ref q_5)) 5 (.ref q_3)) 6 (.ref q_4)) 7 (.ref q_5)) 0 (.ref q_1)))), (q_4, .inl (cB, 0, .inl (fun _ => 0))), (q_5, .inl (cI, 256, .inl (fun _ => 0))), (q_6, .inr (4, xo_Checker (va_up (va_up (va_up (va_up (va_up (va_up dv_Checker 5 (.ref q_1)) 6 (.ref q_2)) 7 (.ref q_3)) 8 (.ref q_4)) 9 (.ref q_5)) 0 (.ref q_1)))), (q_8, .inr (5, xo_Meaning (va_up (va_up (va_up (va_up (va_up dv_Meaning 12 (.ref q_1)) 13 (.ref q_2)) 14 (.ref q_3)) 15 (.ref q_4)) 0 (.ref q_6)))), (q_7, .inr (6, xo_Grammar (va_up (va_up (va_up (va_up (va_up (va_up (va_up dv_Grammar 9 (.ref q_1)) 11 (.ref q_2)) 12 (.ref q_3)) 13 (.ref q_4)) 0 (.ref q_1)) 1 (.ref q_6)) 2 (.ref q_8)))), (q_9, .inr (7, xo_Order (va_up (va_up (va_up (va_up (va_up dv_Order 1 (.ref q_1)) 2 (.ref q_2)) 3 (.ref q_3)) 4 (.ref q_4)) 5 (.ref q_5)))), (q_10, .inr (8, xo_Machine (va_up (va_up (va_up dv_Machine 0 (.ref q_1)) 1 (.ref q_2)) 2 (.ref q_3)))), (q_11, .inr (9, xo_Circuit (va_up (va_up (va_up (va_up (va_up (va_up (va_up (va_up (va_up (va_up (va_up dv_Circuit 0 (.ref q_12)) 3 (.ref q_5)) 4 (.ref q_6)) 5 (.ref q_7)) 6 (.ref q_8)) 7 (.ref q_9)) 8 (.ref q_10)) 9 (.ref q_11)) 10 (.ref q_12)) 11 (.ref q_13)) 12 (.ref q_14)))), (q_12, .inr (10, xo_Design (va_up (va_up (va_up (va_up (va_up (va_up (va_up (va_up (va_up (va_up (va_up (va_up dv_Design 0 (.ref q_13)) 1 (.ref q_14)) 2 (.ref q_15)) 6 (.ref q_15)) 7 (.ref q_5)) 8 (.ref q_6)) 9 (.ref q_7)) 10 (.ref q_8)) 11 (.ref q_9)) 13 (.ref q_15)) 14 (.ref q_16)) 15 (.ref q_17)))), (q_13, .inr (11, xo_Parts (va_up (va_up (va_up (va_up (va_up (va_up (va_up (va_up (va_up (va_up (va_up (va_up dv_Parts 1 (.ref q_13)) 2 (.ref q_14)) 3 (.ref q_15)) 4 (.ref q_15)) 5 (.ref q_5)) 6 (.ref q_6)) 8 (.ref q_7)) 9 (.ref q_8)) 10 (.ref q_9)) 12 (.ref q_10)) 13 (.ref q_11)) 14 (.ref q_12)))), (q_14, .inr (12, xo_Code (va_up (va_up (va_up dv_Code 0 (.ref q_13)) 2 (.ref q_14)) 3 (.ref q_15)))), (q_15, .inl (cB, 65536, .inl (fun _ => 0)))] H := hP
  have hD : va_D A [(h0, .inr (1, xo_C (va_up (va_up (va_up (va_up (va_up (va_up f0 2 (.ref q_1)) 3 (.ref q_3)) 4 (.ref q_6)) 5 (.ref q_7)) 6 (.ref q_9)) 7 (.ref q_10)))), (q_1, .inr (2, xo_Tokens (va_up dv_Tokens 0 (.ref q_2)))), (q_2, .inl (cJ, 65537, .inr (.inl (fun _ => 0)))), (q_3, .inr (3, xo_Scanner (va_up (va_up (va_up (va_up (va_up (va_up dv_Scanner 1 (.ref q_4)) 4 (.ref q_5)) 5 (.ref q_3)) 6 (.ref q_4)) 7 (.ref q_5)) 0 (.ref q_1)))), (q_4, .inl (cB, 0, .inl (fun _ => 0))), (q_5, .inl (cI, 256, .inl (fun _ => 0))), (q_6, .inr (4, xo_Checker (va_up (va_up (va_up (va_up (va_up (va_up dv_Checker 5 (.ref q_1)) 6 (.ref q_2)) 7 (.ref q_3)) 8 (.ref q_4)) 9 (.ref q_5)) 0 (.ref q_1)))), (q_8, .inr (5, xo_Meaning (va_up (va_up (va_up (va_up (va_up dv_Meaning 12 (.ref q_1)) 13 (.ref q_2)) 14 (.ref q_3)) 15 (.ref q_4)) 0 (.ref q_6)))), (q_7, .inr (6, xo_Grammar (va_up (va_up (va_up (va_up (va_up (va_up (va_up dv_Grammar 9 (.ref q_1)) 11 (.ref q_2)) 12 (.ref q_3)) 13 (.ref q_4)) 0 (.ref q_1)) 1 (.ref q_6)) 2 (.ref q_8)))), (q_9, .inr (7, xo_Order (va_up (va_up (va_up (va_up (va_up dv_Order 1 (.ref q_1)) 2 (.ref q_2)) 3 (.ref q_3)) 4 (.ref q_4)) 5 (.ref q_5)))), (q_10, .inr (8, xo_Machine (va_up (va_up (va_up dv_Machine 0 (.ref q_1)) 1 (.ref q_2)) 2 (.ref q_3)))), (q_11, .inr (9, xo_Circuit (va_up (va_up (va_up (va_up (va_up (va_up (va_up (va_up (va_up (va_up (va_up dv_Circuit 0 (.ref q_12)) 3 (.ref q_5)) 4 (.ref q_6)) 5 (.ref q_7)) 6 (.ref q_8)) 7 (.ref q_9)) 8 (.ref q_10)) 9 (.ref q_11)) 10 (.ref q_12)) 11 (.ref q_13)) 12 (.ref q_14)))), (q_12, .inr (10, xo_Design (va_up (va_up (va_up (va_up (va_up (va_up (va_up (va_up (va_up (va_up (va_up (va_up dv_Design 0 (.ref q_13)) 1 (.ref q_14)) 2 (.ref q_15)) 6 (.ref q_15)) 7 (.ref q_5)) 8 (.ref q_6)) 9 (.ref q_7)) 10 (.ref q_8)) 11 (.ref q_9)) 13 (.ref q_15)) 14 (.ref q_16)) 15 (.ref q_17)))), (q_13, .inr (11, xo_Parts (va_up (va_up (va_up (va_up (va_up (va_up (va_up (va_up (va_up (va_up (va_up (va_up dv_Parts 1 (.ref q_13)) 2 (.ref q_14)) 3 (.ref q_15)) 4 (.ref q_15)) 5 (.ref q_5)) 6 (.ref q_6)) 8 (.ref q_7)) 9 (.ref q_8)) 10 (.ref q_9)) 12 (.ref q_10)) 13 (.ref q_11)) 14 (.ref q_12)))), (q_14, .inr (12, xo_Code (va_up (va_up (va_up dv_Code 0 (.ref q_13)) 2 (.ref q_14)) 3 (.ref q_15)))), (q_15, .inl (cB, 65536, .inl (fun _ => 0)))] := hD
  refine va_put (D := (dC, dI)) (ci := 1) (v := .ref q_11) (ty := (.object "CircuitCycles$Circuit")) (C := rn_C) (T := fn_C) (N := 11) hx hb hg in_C tn_C tk_C nn_C hown hK hP hD hS 0 rfl rfl 9 (by decide) (hg _ wn_3_134) (fun _ h9 => h9) rfl (tk_C 9 (by decide)) rfl rfl (Nat.le_of_ble_eq_true rfl) dn_C_init_105 (fun H locs hP hD hS => ?_)
  have hP : va_P (dC, dI) xcl [(h0, .inr (1, xo_C (va_up (va_up (va_up (va_up (va_up (va_up (va_up f0 2 (.ref q_1)) 3 (.ref q_3)) 4 (.ref q_6)) 5 (.ref q_7)) 6 (.ref q_9)) 7 (.ref q_10)) 9 (.ref q_11)))), (q_1, .inr (2, xo_Tokens (va_up dv_Tokens 0 (.ref q_2)))), (q_2, .inl (cJ, 65537, .inr (.inl (fun _ => 0)))), (q_3, .inr (3, xo_Scanner (va_up (va_up (va_up (va_up (va_up (va_up dv_Scanner 1 (.ref q_4)) 4 (.ref q_5)) 5 (.ref q_3)) 6 (.ref q_4)) 7 (.ref q_5)) 0 (.ref q_1)))), (q_4, .inl (cB, 0, .inl (fun _ => 0))), (q_5, .inl (cI, 256, .inl (fun _ => 0))), (q_6, .inr (4, xo_Checker (va_up (va_up (va_up (va_up (va_up (va_up dv_Checker 5 (.ref q_1)) 6 (.ref q_2)) 7 (.ref q_3)) 8 (.ref q_4)) 9 (.ref q_5)) 0 (.ref q_1)))), (q_8, .inr (5, xo_Meaning (va_up (va_up (va_up (va_up (va_up dv_Meaning 12 (.ref q_1)) 13 (.ref q_2)) 14 (.ref q_3)) 15 (.ref q_4)) 0 (.ref q_6)))), (q_7, .inr (6, xo_Grammar (va_up (va_up (va_up (va_up (va_up (va_up (va_up dv_Grammar 9 (.ref q_1)) 11 (.ref q_2)) 12 (.ref q_3)) 13 (.ref q_4)) 0 (.ref q_1)) 1 (.ref q_6)) 2 (.ref q_8)))), (q_9, .inr (7, xo_Order (va_up (va_up (va_up (va_up (va_up dv_Order 1 (.ref q_1)) 2 (.ref q_2)) 3 (.ref q_3)) 4 (.ref q_4)) 5 (.ref q_5)))), (q_10, .inr (8, xo_Machine (va_up (va_up (va_up dv_Machine 0 (.ref q_1)) 1 (.ref q_2)) 2 (.ref q_3)))), (q_11, .inr (9, xo_Circuit (va_up (va_up (va_up (va_up (va_up (va_up (va_up (va_up (va_up (va_up (va_up dv_Circuit 0 (.ref q_12)) 3 (.ref q_5)) 4 (.ref q_6)) 5 (.ref q_7)) 6 (.ref q_8)) 7 (.ref q_9)) 8 (.ref q_10)) 9 (.ref q_11)) 10 (.ref q_12)) 11 (.ref q_13)) 12 (.ref q_14)))), (q_12, .inr (10, xo_Design (va_up (va_up (va_up (va_up (va_up (va_up (va_up (va_up (va_up (va_up (va_up (va_up dv_Design 0 (.ref q_13)) 1 (.ref q_14)) 2 (.ref q_15)) 6 (.ref q_15)) 7 (.ref q_5)) 8 (.ref q_6)) 9 (.ref q_7)) 10 (.ref q_8)) 11 (.ref q_9)) 13 (.ref q_15)) 14 (.ref q_16)) 15 (.ref q_17)))), (q_13, .inr (11, xo_Parts (va_up (va_up (va_up (va_up (va_up (va_up (va_up (va_up (va_up (va_up (va_up (va_up dv_Parts 1 (.ref q_13)) 2 (.ref q_14)) 3 (.ref q_15)) 4 (.ref q_15)) 5 (.ref q_5)) 6 (.ref q_6)) 8 (.ref q_7)) 9 (.ref q_8)) 10 (.ref q_9)) 12 (.ref q_10)) 13 (.ref q_11)) 14 (.ref q_12)))), (q_14, .inr (12, xo_Code (va_up (va_up (va_up dv_Code 0 (.ref q_13)) 2 (.ref q_14)) 3 (.ref q_15)))), (q_15, .inl (cB, 65536, .inl (fun _ => 0)))] H := hP
  have hD : va_D A [(h0, .inr (1, xo_C (va_up (va_up (va_up (va_up (va_up (va_up (va_up f0 2 (.ref q_1)) 3 (.ref q_3)) 4 (.ref q_6)) 5 (.ref q_7)) 6 (.ref q_9)) 7 (.ref q_10)) 9 (.ref q_11)))), (q_1, .inr (2, xo_Tokens (va_up dv_Tokens 0 (.ref q_2)))), (q_2, .inl (cJ, 65537, .inr (.inl (fun _ => 0)))), (q_3, .inr (3, xo_Scanner (va_up (va_up (va_up (va_up (va_up (va_up dv_Scanner 1 (.ref q_4)) 4 (.ref q_5)) 5 (.ref q_3)) 6 (.ref q_4)) 7 (.ref q_5)) 0 (.ref q_1)))), (q_4, .inl (cB, 0, .inl (fun _ => 0))), (q_5, .inl (cI, 256, .inl (fun _ => 0))), (q_6, .inr (4, xo_Checker (va_up (va_up (va_up (va_up (va_up (va_up dv_Checker 5 (.ref q_1)) 6 (.ref q_2)) 7 (.ref q_3)) 8 (.ref q_4)) 9 (.ref q_5)) 0 (.ref q_1)))), (q_8, .inr (5, xo_Meaning (va_up (va_up (va_up (va_up (va_up dv_Meaning 12 (.ref q_1)) 13 (.ref q_2)) 14 (.ref q_3)) 15 (.ref q_4)) 0 (.ref q_6)))), (q_7, .inr (6, xo_Grammar (va_up (va_up (va_up (va_up (va_up (va_up (va_up dv_Grammar 9 (.ref q_1)) 11 (.ref q_2)) 12 (.ref q_3)) 13 (.ref q_4)) 0 (.ref q_1)) 1 (.ref q_6)) 2 (.ref q_8)))), (q_9, .inr (7, xo_Order (va_up (va_up (va_up (va_up (va_up dv_Order 1 (.ref q_1)) 2 (.ref q_2)) 3 (.ref q_3)) 4 (.ref q_4)) 5 (.ref q_5)))), (q_10, .inr (8, xo_Machine (va_up (va_up (va_up dv_Machine 0 (.ref q_1)) 1 (.ref q_2)) 2 (.ref q_3)))), (q_11, .inr (9, xo_Circuit (va_up (va_up (va_up (va_up (va_up (va_up (va_up (va_up (va_up (va_up (va_up dv_Circuit 0 (.ref q_12)) 3 (.ref q_5)) 4 (.ref q_6)) 5 (.ref q_7)) 6 (.ref q_8)) 7 (.ref q_9)) 8 (.ref q_10)) 9 (.ref q_11)) 10 (.ref q_12)) 11 (.ref q_13)) 12 (.ref q_14)))), (q_12, .inr (10, xo_Design (va_up (va_up (va_up (va_up (va_up (va_up (va_up (va_up (va_up (va_up (va_up (va_up dv_Design 0 (.ref q_13)) 1 (.ref q_14)) 2 (.ref q_15)) 6 (.ref q_15)) 7 (.ref q_5)) 8 (.ref q_6)) 9 (.ref q_7)) 10 (.ref q_8)) 11 (.ref q_9)) 13 (.ref q_15)) 14 (.ref q_16)) 15 (.ref q_17)))), (q_13, .inr (11, xo_Parts (va_up (va_up (va_up (va_up (va_up (va_up (va_up (va_up (va_up (va_up (va_up (va_up dv_Parts 1 (.ref q_13)) 2 (.ref q_14)) 3 (.ref q_15)) 4 (.ref q_15)) 5 (.ref q_5)) 6 (.ref q_6)) 8 (.ref q_7)) 9 (.ref q_8)) 10 (.ref q_9)) 12 (.ref q_10)) 13 (.ref q_11)) 14 (.ref q_12)))), (q_14, .inr (12, xo_Code (va_up (va_up (va_up dv_Code 0 (.ref q_13)) 2 (.ref q_14)) 3 (.ref q_15)))), (q_15, .inl (cB, 65536, .inl (fun _ => 0)))] := hD
  refine lv_aload_n hx hb dn_C_init_108 rfl (lv_at hl 0 rfl) ?_
  refine va_new (ci := 9) (fs := xo_Circuit dv_Circuit) (C := rn_Circuit) (T := fn_Circuit) (N := 14) hx hb hg in_Circuit tn_Circuit tk_Circuit hown (hg _ wn_2_105) (hg _ wn_2_106) (hg _ wn_1_9) hK hP hD hS hA rfl dk_Circuit (Nat.le_of_ble_eq_true rfl) (Nat.le_of_ble_eq_true rfl) dn_C_init_109 (fun q_16 H hP hD hS => ?_)
  have hP : va_P (dC, dI) xcl [(h0, .inr (1, xo_C (va_up (va_up (va_up (va_up (va_up (va_up (va_up f0 2 (.ref q_1)) 3 (.ref q_3)) 4 (.ref q_6)) 5 (.ref q_7)) 6 (.ref q_9)) 7 (.ref q_10)) 9 (.ref q_11)))), (q_1, .inr (2, xo_Tokens (va_up dv_Tokens 0 (.ref q_2)))), (q_2, .inl (cJ, 65537, .inr (.inl (fun _ => 0)))), (q_3, .inr (3, xo_Scanner (va_up (va_up (va_up (va_up (va_up (va_up dv_Scanner 1 (.ref q_4)) 4 (.ref q_5)) 5 (.ref q_3)) 6 (.ref q_4)) 7 (.ref q_5)) 0 (.ref q_1)))), (q_4, .inl (cB, 0, .inl (fun _ => 0))), (q_5, .inl (cI, 256, .inl (fun _ => 0))), (q_6, .inr (4, xo_Checker (va_up (va_up (va_up (va_up (va_up (va_up dv_Checker 5 (.ref q_1)) 6 (.ref q_2)) 7 (.ref q_3)) 8 (.ref q_4)) 9 (.ref q_5)) 0 (.ref q_1)))), (q_8, .inr (5, xo_Meaning (va_up (va_up (va_up (va_up (va_up dv_Meaning 12 (.ref q_1)) 13 (.ref q_2)) 14 (.ref q_3)) 15 (.ref q_4)) 0 (.ref q_6)))), (q_7, .inr (6, xo_Grammar (va_up (va_up (va_up (va_up (va_up (va_up (va_up dv_Grammar 9 (.ref q_1)) 11 (.ref q_2)) 12 (.ref q_3)) 13 (.ref q_4)) 0 (.ref q_1)) 1 (.ref q_6)) 2 (.ref q_8)))), (q_9, .inr (7, xo_Order (va_up (va_up (va_up (va_up (va_up dv_Order 1 (.ref q_1)) 2 (.ref q_2)) 3 (.ref q_3)) 4 (.ref q_4)) 5 (.ref q_5)))), (q_10, .inr (8, xo_Machine (va_up (va_up (va_up dv_Machine 0 (.ref q_1)) 1 (.ref q_2)) 2 (.ref q_3)))), (q_11, .inr (9, xo_Circuit (va_up (va_up (va_up (va_up (va_up (va_up (va_up (va_up (va_up (va_up (va_up dv_Circuit 0 (.ref q_12)) 3 (.ref q_5)) 4 (.ref q_6)) 5 (.ref q_7)) 6 (.ref q_8)) 7 (.ref q_9)) 8 (.ref q_10)) 9 (.ref q_11)) 10 (.ref q_12)) 11 (.ref q_13)) 12 (.ref q_14)))), (q_12, .inr (10, xo_Design (va_up (va_up (va_up (va_up (va_up (va_up (va_up (va_up (va_up (va_up (va_up (va_up dv_Design 0 (.ref q_13)) 1 (.ref q_14)) 2 (.ref q_15)) 6 (.ref q_15)) 7 (.ref q_5)) 8 (.ref q_6)) 9 (.ref q_7)) 10 (.ref q_8)) 11 (.ref q_9)) 13 (.ref q_15)) 14 (.ref q_16)) 15 (.ref q_17)))), (q_13, .inr (11, xo_Parts (va_up (va_up (va_up (va_up (va_up (va_up (va_up (va_up (va_up (va_up (va_up (va_up dv_Parts 1 (.ref q_13)) 2 (.ref q_14)) 3 (.ref q_15)) 4 (.ref q_15)) 5 (.ref q_5)) 6 (.ref q_6)) 8 (.ref q_7)) 9 (.ref q_8)) 10 (.ref q_9)) 12 (.ref q_10)) 13 (.ref q_11)) 14 (.ref q_12)))), (q_14, .inr (12, xo_Code (va_up (va_up (va_up dv_Code 0 (.ref q_13)) 2 (.ref q_14)) 3 (.ref q_15)))), (q_15, .inl (cB, 65536, .inl (fun _ => 0))), (q_16, .inr (9, xo_Circuit dv_Circuit))] H := hP
  have hD : va_D A [(h0, .inr (1, xo_C (va_up (va_up (va_up (va_up (va_up (va_up (va_up f0 2 (.ref q_1)) 3 (.ref q_3)) 4 (.ref q_6)) 5 (.ref q_7)) 6 (.ref q_9)) 7 (.ref q_10)) 9 (.ref q_11)))), (q_1, .inr (2, xo_Tokens (va_up dv_Tokens 0 (.ref q_2)))), (q_2, .inl (cJ, 65537, .inr (.inl (fun _ => 0)))), (q_3, .inr (3, xo_Scanner (va_up (va_up (va_up (va_up (va_up (va_up dv_Scanner 1 (.ref q_4)) 4 (.ref q_5)) 5 (.ref q_3)) 6 (.ref q_4)) 7 (.ref q_5)) 0 (.ref q_1)))), (q_4, .inl (cB, 0, .inl (fun _ => 0))), (q_5, .inl (cI, 256, .inl (fun _ => 0))), (q_6, .inr (4, xo_Checker (va_up (va_up (va_up (va_up (va_up (va_up dv_Checker 5 (.ref q_1)) 6 (.ref q_2)) 7 (.ref q_3)) 8 (.ref q_4)) 9 (.ref q_5)) 0 (.ref q_1)))), (q_8, .inr (5, xo_Meaning (va_up (va_up (va_up (va_up (va_up dv_Meaning 12 (.ref q_1)) 13 (.ref q_2)) 14 (.ref q_3)) 15 (.ref q_4)) 0 (.ref q_6)))), (q_7, .inr (6, xo_Grammar (va_up (va_up (va_up (va_up (va_up (va_up (va_up dv_Grammar 9 (.ref q_1)) 11 (.ref q_2)) 12 (.ref q_3)) 13 (.ref q_4)) 0 (.ref q_1)) 1 (.ref q_6)) 2 (.ref q_8)))), (q_9, .inr (7, xo_Order (va_up (va_up (va_up (va_up (va_up dv_Order 1 (.ref q_1)) 2 (.ref q_2)) 3 (.ref q_3)) 4 (.ref q_4)) 5 (.ref q_5)))), (q_10, .inr (8, xo_Machine (va_up (va_up (va_up dv_Machine 0 (.ref q_1)) 1 (.ref q_2)) 2 (.ref q_3)))), (q_11, .inr (9, xo_Circuit (va_up (va_up (va_up (va_up (va_up (va_up (va_up (va_up (va_up (va_up (va_up dv_Circuit 0 (.ref q_12)) 3 (.ref q_5)) 4 (.ref q_6)) 5 (.ref q_7)) 6 (.ref q_8)) 7 (.ref q_9)) 8 (.ref q_10)) 9 (.ref q_11)) 10 (.ref q_12)) 11 (.ref q_13)) 12 (.ref q_14)))), (q_12, .inr (10, xo_Design (va_up (va_up (va_up (va_up (va_up (va_up (va_up (va_up (va_up (va_up (va_up (va_up dv_Design 0 (.ref q_13)) 1 (.ref q_14)) 2 (.ref q_15)) 6 (.ref q_15)) 7 (.ref q_5)) 8 (.ref q_6)) 9 (.ref q_7)) 10 (.ref q_8)) 11 (.ref q_9)) 13 (.ref q_15)) 14 (.ref q_16)) 15 (.ref q_17)))), (q_13, .inr (11, xo_Parts (va_up (va_up (va_up (va_up (va_up (va_up (va_up (va_up (va_up (va_up (va_up (va_up dv_Parts 1 (.ref q_13)) 2 (.ref q_14)) 3 (.ref q_15)) 4 (.ref q_15)) 5 (.ref q_5)) 6 (.ref q_6)) 8 (.ref q_7)) 9 (.ref q_8)) 10 (.ref q_9)) 12 (.ref q_10)) 13 (.ref q_11)) 14 (.ref q_12)))), (q_14, .inr (12, xo_Code (va_up (va_up (va_up dv_Code 0 (.ref q_13)) 2 (.ref q_14)) 3 (.ref q_15)))), (q_15, .inl (cB, 65536, .inl (fun _ => 0))), (q_16, .inr (9, xo_Circuit dv_Circuit))] := hD
  refine lv_dup hx hb dn_C_init_112 rfl ?_
  have hPc := hP.sub (ws' := [(q_16, .inr (9, xo_Circuit dv_Circuit))]) [16] rfl
  have hDc := hD.sub (ws' := [(q_16, .inr (9, xo_Circuit dv_Circuit))]) [16] (by decide) rfl
  refine xk_callv (wr := [(h0, .inr (1, xo_C (va_up (va_up (va_up (va_up (va_up (va_up (va_up f0 2 (.ref q_1)) 3 (.ref q_3)) 4 (.ref q_6)) 5 (.ref q_7)) 6 (.ref q_9)) 7 (.ref q_10)) 9 (.ref q_11)))), (q_1, .inr (2, xo_Tokens (va_up dv_Tokens 0 (.ref q_2)))), (q_2, .inl (cJ, 65537, .inr (.inl (fun _ => 0)))), (q_3, .inr (3, xo_Scanner (va_up (va_up (va_up (va_up (va_up (va_up dv_Scanner 1 (.ref q_4)) 4 (.ref q_5)) 5 (.ref q_3)) 6 (.ref q_4)) 7 (.ref q_5)) 0 (.ref q_1)))), (q_4, .inl (cB, 0, .inl (fun _ => 0))), (q_5, .inl (cI, 256, .inl (fun _ => 0))), (q_6, .inr (4, xo_Checker (va_up (va_up (va_up (va_up (va_up (va_up dv_Checker 5 (.ref q_1)) 6 (.ref q_2)) 7 (.ref q_3)) 8 (.ref q_4)) 9 (.ref q_5)) 0 (.ref q_1)))), (q_8, .inr (5, xo_Meaning (va_up (va_up (va_up (va_up (va_up dv_Meaning 12 (.ref q_1)) 13 (.ref q_2)) 14 (.ref q_3)) 15 (.ref q_4)) 0 (.ref q_6)))), (q_7, .inr (6, xo_Grammar (va_up (va_up (va_up (va_up (va_up (va_up (va_up dv_Grammar 9 (.ref q_1)) 11 (.ref q_2)) 12 (.ref q_3)) 13 (.ref q_4)) 0 (.ref q_1)) 1 (.ref q_6)) 2 (.ref q_8)))), (q_9, .inr (7, xo_Order (va_up (va_up (va_up (va_up (va_up dv_Order 1 (.ref q_1)) 2 (.ref q_2)) 3 (.ref q_3)) 4 (.ref q_4)) 5 (.ref q_5)))), (q_10, .inr (8, xo_Machine (va_up (va_up (va_up dv_Machine 0 (.ref q_1)) 1 (.ref q_2)) 2 (.ref q_3)))), (q_11, .inr (9, xo_Circuit (va_up (va_up (va_up (va_up (va_up (va_up (va_up (va_up (va_up (va_up (va_up dv_Circuit 0 (.ref q_12)) 3 (.ref q_5)) 4 (.ref q_6)) 5 (.ref q_7)) 6 (.ref q_8)) 7 (.ref q_9)) 8 (.ref q_10)) 9 (.ref q_11)) 10 (.ref q_12)) 11 (.ref q_13)) 12 (.ref q_14)))), (q_12, .inr (10, xo_Design (va_up (va_up (va_up (va_up (va_up (va_up (va_up (va_up (va_up (va_up (va_up (va_up dv_Design 0 (.ref q_13)) 1 (.ref q_14)) 2 (.ref q_15)) 6 (.ref q_15)) 7 (.ref q_5)) 8 (.ref q_6)) 9 (.ref q_7)) 10 (.ref q_8)) 11 (.ref q_9)) 13 (.ref q_15)) 14 (.ref q_16)) 15 (.ref q_17)))), (q_13, .inr (11, xo_Parts (va_up (va_up (va_up (va_up (va_up (va_up (va_up (va_up (va_up (va_up (va_up (va_up dv_Parts 1 (.ref q_13)) 2 (.ref q_14)) 3 (.ref q_15)) 4 (.ref q_15)) 5 (.ref q_5)) 6 (.ref q_6)) 8 (.ref q_7)) 9 (.ref q_8)) 10 (.ref q_9)) 12 (.ref q_10)) 13 (.ref q_11)) 14 (.ref q_12)))), (q_14, .inr (12, xo_Code (va_up (va_up (va_up dv_Code 0 (.ref q_13)) 2 (.ref q_14)) 3 (.ref q_15)))), (q_15, .inl (cB, 65536, .inl (fun _ => 0)))]) (xk_runIN (ar := 0) (As := []) (rest := [.ref q_16, .ref h0]) (host := "CircuitCycles") ⟨hx, hb, hml, hown, hg⟩ hK hN (ct_Circuit_init_0 l dC dI cI cB cJ cZ cQ H.size q_16 dv_Circuit) hPc hDc nl_C_62 wn_2_108 wn_1_9 wn_2_109 rfl rfl rfl (by decide +kernel) ⟨Nat.le_of_ble_eq_true rfl, Nat.le_of_ble_eq_true rfl⟩ rfl hl.1 rfl (Nat.le_of_ble_eq_true rfl) dn_C_init_113 ⟨Nat.le_of_ble_eq_true rfl, Nat.le_of_ble_eq_true rfl⟩) hP hD hS hA [16] [0, 1, 2, 3, 4, 5, 6, 7, 8, 9, 10, 11, 12, 13, 14, 15] rfl rfl (by decide) (by decide) (fun u H locs hw hP hD hS => ?_)
  obtain ⟨q_17, q_18, q_19, q_20⟩ := u
  have hP : va_P (dC, dI) xcl [(h0, .inr (1, xo_C (va_up (va_up (va_up (va_up (va_up (va_up (va_up f0 2 (.ref q_1)) 3 (.ref q_3)) 4 (.ref q_6)) 5 (.ref q_7)) 6 (.ref q_9)) 7 (.ref q_10)) 9 (.ref q_11)))), (q_1, .inr (2, xo_Tokens (va_up dv_Tokens 0 (.ref q_2)))), (q_2, .inl (cJ, 65537, .inr (.inl (fun _ => 0)))), (q_3, .inr (3, xo_Scanner (va_up (va_up (va_up (va_up (va_up (va_up dv_Scanner 1 (.ref q_4)) 4 (.ref q_5)) 5 (.ref q_3)) 6 (.ref q_4)) 7 (.ref q_5)) 0 (.ref q_1)))), (q_4, .inl (cB, 0, .inl (fun _ => 0))), (q_5, .inl (cI, 256, .inl (fun _ => 0))), (q_6, .inr (4, xo_Checker (va_up (va_up (va_up (va_up (va_up (va_up dv_Checker 5 (.ref q_1)) 6 (.ref q_2)) 7 (.ref q_3)) 8 (.ref q_4)) 9 (.ref q_5)) 0 (.ref q_1)))), (q_8, .inr (5, xo_Meaning (va_up (va_up (va_up (va_up (va_up dv_Meaning 12 (.ref q_1)) 13 (.ref q_2)) 14 (.ref q_3)) 15 (.ref q_4)) 0 (.ref q_6)))), (q_7, .inr (6, xo_Grammar (va_up (va_up (va_up (va_up (va_up (va_up (va_up dv_Grammar 9 (.ref q_1)) 11 (.ref q_2)) 12 (.ref q_3)) 13 (.ref q_4)) 0 (.ref q_1)) 1 (.ref q_6)) 2 (.ref q_8)))), (q_9, .inr (7, xo_Order (va_up (va_up (va_up (va_up (va_up dv_Order 1 (.ref q_1)) 2 (.ref q_2)) 3 (.ref q_3)) 4 (.ref q_4)) 5 (.ref q_5)))), (q_10, .inr (8, xo_Machine (va_up (va_up (va_up dv_Machine 0 (.ref q_1)) 1 (.ref q_2)) 2 (.ref q_3)))), (q_11, .inr (9, xo_Circuit (va_up (va_up (va_up (va_up (va_up (va_up (va_up (va_up (va_up (va_up (va_up dv_Circuit 0 (.ref q_12)) 3 (.ref q_5)) 4 (.ref q_6)) 5 (.ref q_7)) 6 (.ref q_8)) 7 (.ref q_9)) 8 (.ref q_10)) 9 (.ref q_11)) 10 (.ref q_12)) 11 (.ref q_13)) 12 (.ref q_14)))), (q_12, .inr (10, xo_Design (va_up (va_up (va_up (va_up (va_up (va_up (va_up (va_up (va_up (va_up (va_up (va_up dv_Design 0 (.ref q_13)) 1 (.ref q_14)) 2 (.ref q_15)) 6 (.ref q_15)) 7 (.ref q_5)) 8 (.ref q_6)) 9 (.ref q_7)) 10 (.ref q_8)) 11 (.ref q_9)) 13 (.ref q_15)) 14 (.ref q_16)) 15 (.ref q_17)))), (q_13, .inr (11, xo_Parts (va_up (va_up (va_up (va_up (va_up (va_up (va_up (va_up (va_up (va_up (va_up (va_up dv_Parts 1 (.ref q_13)) 2 (.ref q_14)) 3 (.ref q_15)) 4 (.ref q_15)) 5 (.ref q_5)) 6 (.ref q_6)) 8 (.ref q_7)) 9 (.ref q_8)) 10 (.ref q_9)) 12 (.ref q_10)) 13 (.ref q_11)) 14 (.ref q_12)))), (q_14, .inr (12, xo_Code (va_up (va_up (va_up dv_Code 0 (.ref q_13)) 2 (.ref q_14)) 3 (.ref q_15)))), (q_15, .inl (cB, 65536, .inl (fun _ => 0))), (q_16, .inr (9, xo_Circuit (va_up (va_up (va_up (va_up (va_up (va_up (va_up (va_up (va_up (va_up (va_up dv_Circuit 0 (.ref q_17)) 3 (.ref q_5)) 4 (.ref q_6)) 5 (.ref q_7)) 6 (.ref q_8)) 7 (.ref q_9)) 8 (.ref q_10)) 9 (.ref q_11)) 10 (.ref q_12)) 11 (.ref q_13)) 12 (.ref q_14)))), (q_17, .inr (10, xo_Design (va_up (va_up (va_up (va_up (va_up (va_up (va_up (va_up (va_up (va_up (va_up (va_up dv_Design 0 (.ref q_18)) 1 (.ref q_19)) 2 (.ref q_20)) 6 (.ref q_20)) 7 (.ref q_5)) 8 (.ref q_6)) 9 (.ref q_7)) 10 (.ref q_8)) 11 (.ref q_9)) 13 (.ref q_15)) 14 (.ref q_16)) 15 (.ref q_17)))), (q_18, .inr (11, xo_Parts (va_up (va_up (va_up (va_up (va_up (va_up (va_up (va_up (va_up (va_up (va_up (va_up dv_Parts 1 (.ref q_18)) 2 (.ref q_19)) 3 (.ref q_20)) 4 (.ref q_20)) 5 (.ref q_5)) 6 (.ref q_6)) 8 (.ref q_7)) 9 (.ref q_8)) 10 (.ref q_9)) 12 (.ref q_10)) 13 (.ref q_11)) 14 (.ref q_12)))), (q_19, .inr (12, xo_Code (va_up (va_up (va_up dv_Code 0 (.ref q_18)) 2 (.ref q_19)) 3 (.ref q_20)))), (q_20, .inl (cB, 65536, .inl (fun _ => 0)))] H := hP
  have hD : va_D A [(h0, .inr (1, xo_C (va_up (va_up (va_up (va_up (va_up (va_up (va_up f0 2 (.ref q_1)) 3 (.ref q_3)) 4 (.ref q_6)) 5 (.ref q_7)) 6 (.ref q_9)) 7 (.ref q_10)) 9 (.ref q_11)))), (q_1, .inr (2, xo_Tokens (va_up dv_Tokens 0 (.ref q_2)))), (q_2, .inl (cJ, 65537, .inr (.inl (fun _ => 0)))), (q_3, .inr (3, xo_Scanner (va_up (va_up (va_up (va_up (va_up (va_up dv_Scanner 1 (.ref q_4)) 4 (.ref q_5)) 5 (.ref q_3)) 6 (.ref q_4)) 7 (.ref q_5)) 0 (.ref q_1)))), (q_4, .inl (cB, 0, .inl (fun _ => 0))), (q_5, .inl (cI, 256, .inl (fun _ => 0))), (q_6, .inr (4, xo_Checker (va_up (va_up (va_up (va_up (va_up (va_up dv_Checker 5 (.ref q_1)) 6 (.ref q_2)) 7 (.ref q_3)) 8 (.ref q_4)) 9 (.ref q_5)) 0 (.ref q_1)))), (q_8, .inr (5, xo_Meaning (va_up (va_up (va_up (va_up (va_up dv_Meaning 12 (.ref q_1)) 13 (.ref q_2)) 14 (.ref q_3)) 15 (.ref q_4)) 0 (.ref q_6)))), (q_7, .inr (6, xo_Grammar (va_up (va_up (va_up (va_up (va_up (va_up (va_up dv_Grammar 9 (.ref q_1)) 11 (.ref q_2)) 12 (.ref q_3)) 13 (.ref q_4)) 0 (.ref q_1)) 1 (.ref q_6)) 2 (.ref q_8)))), (q_9, .inr (7, xo_Order (va_up (va_up (va_up (va_up (va_up dv_Order 1 (.ref q_1)) 2 (.ref q_2)) 3 (.ref q_3)) 4 (.ref q_4)) 5 (.ref q_5)))), (q_10, .inr (8, xo_Machine (va_up (va_up (va_up dv_Machine 0 (.ref q_1)) 1 (.ref q_2)) 2 (.ref q_3)))), (q_11, .inr (9, xo_Circuit (va_up (va_up (va_up (va_up (va_up (va_up (va_up (va_up (va_up (va_up (va_up dv_Circuit 0 (.ref q_12)) 3 (.ref q_5)) 4 (.ref q_6)) 5 (.ref q_7)) 6 (.ref q_8)) 7 (.ref q_9)) 8 (.ref q_10)) 9 (.ref q_11)) 10 (.ref q_12)) 11 (.ref q_13)) 12 (.ref q_14)))), (q_12, .inr (10, xo_Design (va_up (va_up (va_up (va_up (va_up (va_up (va_up (va_up (va_up (va_up (va_up (va_up dv_Design 0 (.ref q_13)) 1 (.ref q_14)) 2 (.ref q_15)) 6 (.ref q_15)) 7 (.ref q_5)) 8 (.ref q_6)) 9 (.ref q_7)) 10 (.ref q_8)) 11 (.ref q_9)) 13 (.ref q_15)) 14 (.ref q_16)) 15 (.ref q_17)))), (q_13, .inr (11, xo_Parts (va_up (va_up (va_up (va_up (va_up (va_up (va_up (va_up (va_up (va_up (va_up (va_up dv_Parts 1 (.ref q_13)) 2 (.ref q_14)) 3 (.ref q_15)) 4 (.ref q_15)) 5 (.ref q_5)) 6 (.ref q_6)) 8 (.ref q_7)) 9 (.ref q_8)) 10 (.ref q_9)) 12 (.ref q_10)) 13 (.ref q_11)) 14 (.ref q_12)))), (q_14, .inr (12, xo_Code (va_up (va_up (va_up dv_Code 0 (.ref q_13)) 2 (.ref q_14)) 3 (.ref q_15)))), (q_15, .inl (cB, 65536, .inl (fun _ => 0))), (q_16, .inr (9, xo_Circuit (va_up (va_up (va_up (va_up (va_up (va_up (va_up (va_up (va_up (va_up (va_up dv_Circuit 0 (.ref q_17)) 3 (.ref q_5)) 4 (.ref q_6)) 5 (.ref q_7)) 6 (.ref q_8)) 7 (.ref q_9)) 8 (.ref q_10)) 9 (.ref q_11)) 10 (.ref q_12)) 11 (.ref q_13)) 12 (.ref q_14)))), (q_17, .inr (10, xo_Design (va_up (va_up (va_up (va_up (va_up (va_up (va_up (va_up (va_up (va_up (va_up (va_up dv_Design 0 (.ref q_18)) 1 (.ref q_19)) 2 (.ref q_20)) 6 (.ref q_20)) 7 (.ref q_5)) 8 (.ref q_6)) 9 (.ref q_7)) 10 (.ref q_8)) 11 (.ref q_9)) 13 (.ref q_15)) 14 (.ref q_16)) 15 (.ref q_17)))), (q_18, .inr (11, xo_Parts (va_up (va_up (va_up (va_up (va_up (va_up (va_up (va_up (va_up (va_up (va_up (va_up dv_Parts 1 (.ref q_18)) 2 (.ref q_19)) 3 (.ref q_20)) 4 (.ref q_20)) 5 (.ref q_5)) 6 (.ref q_6)) 8 (.ref q_7)) 9 (.ref q_8)) 10 (.ref q_9)) 12 (.ref q_10)) 13 (.ref q_11)) 14 (.ref q_12)))), (q_19, .inr (12, xo_Code (va_up (va_up (va_up dv_Code 0 (.ref q_18)) 2 (.ref q_19)) 3 (.ref q_20)))), (q_20, .inl (cB, 65536, .inl (fun _ => 0)))] := hD
  refine va_put (D := (dC, dI)) (ci := 1) (v := .ref q_16) (ty := (.object "CircuitCycles$Circuit")) (C := rn_C) (T := fn_C) (N := 11) hx hb hg in_C tn_C tk_C nn_C hown hK hP hD hS 0 rfl rfl 10 (by decide) (hg _ wn_3_135) (fun _ h9 => h9) rfl (tk_C 10 (by decide)) rfl rfl (Nat.le_of_ble_eq_true rfl) dn_C_init_116 (fun H locs hP hD hS => ?_)
  have hP : va_P (dC, dI) xcl [(h0, .inr (1, xo_C (va_up (va_up (va_up (va_up (va_up (va_up (va_up (va_up f0 2 (.ref q_1)) 3 (.ref q_3)) 4 (.ref q_6)) 5 (.ref q_7)) 6 (.ref q_9)) 7 (.ref q_10)) 9 (.ref q_11)) 10 (.ref q_16)))), (q_1, .inr (2, xo_Tokens (va_up dv_Tokens 0 (.ref q_2)))), (q_2, .inl (cJ, 65537, .inr (.inl (fun _ => 0)))), (q_3, .inr (3, xo_Scanner (va_up (va_up (va_up (va_up (va_up (va_up dv_Scanner 1 (.ref q_4)) 4 (.ref q_5)) 5 (.ref q_3)) 6 (.ref q_4)) 7 (.ref q_5)) 0 (.ref q_1)))), (q_4, .inl (cB, 0, .inl (fun _ => 0))), (q_5, .inl (cI, 256, .inl (fun _ => 0))), (q_6, .inr (4, xo_Checker (va_up (va_up (va_up (va_up (va_up (va_up dv_Checker 5 (.ref q_1)) 6 (.ref q_2)) 7 (.ref q_3)) 8 (.ref q_4)) 9 (.ref q_5)) 0 (.ref q_1)))), (q_8, .inr (5, xo_Meaning (va_up (va_up (va_up (va_up (va_up dv_Meaning 12 (.ref q_1)) 13 (.ref q_2)) 14 (.ref q_3)) 15 (.ref q_4)) 0 (.ref q_6)))), (q_7, .inr (6, xo_Grammar (va_up (va_up (va_up (va_up (va_up (va_up (va_up dv_Grammar 9 (.ref q_1)) 11 (.ref q_2)) 12 (.ref q_3)) 13 (.ref q_4)) 0 (.ref q_1)) 1 (.ref q_6)) 2 (.ref q_8)))), (q_9, .inr (7, xo_Order (va_up (va_up (va_up (va_up (va_up dv_Order 1 (.ref q_1)) 2 (.ref q_2)) 3 (.ref q_3)) 4 (.ref q_4)) 5 (.ref q_5)))), (q_10, .inr (8, xo_Machine (va_up (va_up (va_up dv_Machine 0 (.ref q_1)) 1 (.ref q_2)) 2 (.ref q_3)))), (q_11, .inr (9, xo_Circuit (va_up (va_up (va_up (va_up (va_up (va_up (va_up (va_up (va_up (va_up (va_up dv_Circuit 0 (.ref q_12)) 3 (.ref q_5)) 4 (.ref q_6)) 5 (.ref q_7)) 6 (.ref q_8)) 7 (.ref q_9)) 8 (.ref q_10)) 9 (.ref q_11)) 10 (.ref q_12)) 11 (.ref q_13)) 12 (.ref q_14)))), (q_12, .inr (10, xo_Design (va_up (va_up (va_up (va_up (va_up (va_up (va_up (va_up (va_up (va_up (va_up (va_up dv_Design 0 (.ref q_13)) 1 (.ref q_14)) 2 (.ref q_15)) 6 (.ref q_15)) 7 (.ref q_5)) 8 (.ref q_6)) 9 (.ref q_7)) 10 (.ref q_8)) 11 (.ref q_9)) 13 (.ref q_15)) 14 (.ref q_16)) 15 (.ref q_17)))), (q_13, .inr (11, xo_Parts (va_up (va_up (va_up (va_up (va_up (va_up (va_up (va_up (va_up (va_up (va_up (va_up dv_Parts 1 (.ref q_13)) 2 (.ref q_14)) 3 (.ref q_15)) 4 (.ref q_15)) 5 (.ref q_5)) 6 (.ref q_6)) 8 (.ref q_7)) 9 (.ref q_8)) 10 (.ref q_9)) 12 (.ref q_10)) 13 (.ref q_11)) 14 (.ref q_12)))), (q_14, .inr (12, xo_Code (va_up (va_up (va_up dv_Code 0 (.ref q_13)) 2 (.ref q_14)) 3 (.ref q_15)))), (q_15, .inl (cB, 65536, .inl (fun _ => 0))), (q_16, .inr (9, xo_Circuit (va_up (va_up (va_up (va_up (va_up (va_up (va_up (va_up (va_up (va_up (va_up dv_Circuit 0 (.ref q_17)) 3 (.ref q_5)) 4 (.ref q_6)) 5 (.ref q_7)) 6 (.ref q_8)) 7 (.ref q_9)) 8 (.ref q_10)) 9 (.ref q_11)) 10 (.ref q_12)) 11 (.ref q_13)) 12 (.ref q_14)))), (q_17, .inr (10, xo_Design (va_up (va_up (va_up (va_up (va_up (va_up (va_up (va_up (va_up (va_up (va_up (va_up dv_Design 0 (.ref q_18)) 1 (.ref q_19)) 2 (.ref q_20)) 6 (.ref q_20)) 7 (.ref q_5)) 8 (.ref q_6)) 9 (.ref q_7)) 10 (.ref q_8)) 11 (.ref q_9)) 13 (.ref q_15)) 14 (.ref q_16)) 15 (.ref q_17)))), (q_18, .inr (11, xo_Parts (va_up (va_up (va_up (va_up (va_up (va_up (va_up (va_up (va_up (va_up (va_up (va_up dv_Parts 1 (.ref q_18)) 2 (.ref q_19)) 3 (.ref q_20)) 4 (.ref q_20)) 5 (.ref q_5)) 6 (.ref q_6)) 8 (.ref q_7)) 9 (.ref q_8)) 10 (.ref q_9)) 12 (.ref q_10)) 13 (.ref q_11)) 14 (.ref q_12)))), (q_19, .inr (12, xo_Code (va_up (va_up (va_up dv_Code 0 (.ref q_18)) 2 (.ref q_19)) 3 (.ref q_20)))), (q_20, .inl (cB, 65536, .inl (fun _ => 0)))] H := hP
  have hD : va_D A [(h0, .inr (1, xo_C (va_up (va_up (va_up (va_up (va_up (va_up (va_up (va_up f0 2 (.ref q_1)) 3 (.ref q_3)) 4 (.ref q_6)) 5 (.ref q_7)) 6 (.ref q_9)) 7 (.ref q_10)) 9 (.ref q_11)) 10 (.ref q_16)))), (q_1, .inr (2, xo_Tokens (va_up dv_Tokens 0 (.ref q_2)))), (q_2, .inl (cJ, 65537, .inr (.inl (fun _ => 0)))), (q_3, .inr (3, xo_Scanner (va_up (va_up (va_up (va_up (va_up (va_up dv_Scanner 1 (.ref q_4)) 4 (.ref q_5)) 5 (.ref q_3)) 6 (.ref q_4)) 7 (.ref q_5)) 0 (.ref q_1)))), (q_4, .inl (cB, 0, .inl (fun _ => 0))), (q_5, .inl (cI, 256, .inl (fun _ => 0))), (q_6, .inr (4, xo_Checker (va_up (va_up (va_up (va_up (va_up (va_up dv_Checker 5 (.ref q_1)) 6 (.ref q_2)) 7 (.ref q_3)) 8 (.ref q_4)) 9 (.ref q_5)) 0 (.ref q_1)))), (q_8, .inr (5, xo_Meaning (va_up (va_up (va_up (va_up (va_up dv_Meaning 12 (.ref q_1)) 13 (.ref q_2)) 14 (.ref q_3)) 15 (.ref q_4)) 0 (.ref q_6)))), (q_7, .inr (6, xo_Grammar (va_up (va_up (va_up (va_up (va_up (va_up (va_up dv_Grammar 9 (.ref q_1)) 11 (.ref q_2)) 12 (.ref q_3)) 13 (.ref q_4)) 0 (.ref q_1)) 1 (.ref q_6)) 2 (.ref q_8)))), (q_9, .inr (7, xo_Order (va_up (va_up (va_up (va_up (va_up dv_Order 1 (.ref q_1)) 2 (.ref q_2)) 3 (.ref q_3)) 4 (.ref q_4)) 5 (.ref q_5)))), (q_10, .inr (8, xo_Machine (va_up (va_up (va_up dv_Machine 0 (.ref q_1)) 1 (.ref q_2)) 2 (.ref q_3)))), (q_11, .inr (9, xo_Circuit (va_up (va_up (va_up (va_up (va_up (va_up (va_up (va_up (va_up (va_up (va_up dv_Circuit 0 (.ref q_12)) 3 (.ref q_5)) 4 (.ref q_6)) 5 (.ref q_7)) 6 (.ref q_8)) 7 (.ref q_9)) 8 (.ref q_10)) 9 (.ref q_11)) 10 (.ref q_12)) 11 (.ref q_13)) 12 (.ref q_14)))), (q_12, .inr (10, xo_Design (va_up (va_up (va_up (va_up (va_up (va_up (va_up (va_up (va_up (va_up (va_up (va_up dv_Design 0 (.ref q_13)) 1 (.ref q_14)) 2 (.ref q_15)) 6 (.ref q_15)) 7 (.ref q_5)) 8 (.ref q_6)) 9 (.ref q_7)) 10 (.ref q_8)) 11 (.ref q_9)) 13 (.ref q_15)) 14 (.ref q_16)) 15 (.ref q_17)))), (q_13, .inr (11, xo_Parts (va_up (va_up (va_up (va_up (va_up (va_up (va_up (va_up (va_up (va_up (va_up (va_up dv_Parts 1 (.ref q_13)) 2 (.ref q_14)) 3 (.ref q_15)) 4 (.ref q_15)) 5 (.ref q_5)) 6 (.ref q_6)) 8 (.ref q_7)) 9 (.ref q_8)) 10 (.ref q_9)) 12 (.ref q_10)) 13 (.ref q_11)) 14 (.ref q_12)))), (q_14, .inr (12, xo_Code (va_up (va_up (va_up dv_Code 0 (.ref q_13)) 2 (.ref q_14)) 3 (.ref q_15)))), (q_15, .inl (cB, 65536, .inl (fun _ => 0))), (q_16, .inr (9, xo_Circuit (va_up (va_up (va_up (va_up (va_up (va_up (va_up (va_up (va_up (va_up (va_up dv_Circuit 0 (.ref q_17)) 3 (.ref q_5)) 4 (.ref q_6)) 5 (.ref q_7)) 6 (.ref q_8)) 7 (.ref q_9)) 8 (.ref q_10)) 9 (.ref q_11)) 10 (.ref q_12)) 11 (.ref q_13)) 12 (.ref q_14)))), (q_17, .inr (10, xo_Design (va_up (va_up (va_up (va_up (va_up (va_up (va_up (va_up (va_up (va_up (va_up (va_up dv_Design 0 (.ref q_18)) 1 (.ref q_19)) 2 (.ref q_20)) 6 (.ref q_20)) 7 (.ref q_5)) 8 (.ref q_6)) 9 (.ref q_7)) 10 (.ref q_8)) 11 (.ref q_9)) 13 (.ref q_15)) 14 (.ref q_16)) 15 (.ref q_17)))), (q_18, .inr (11, xo_Parts (va_up (va_up (va_up (va_up (va_up (va_up (va_up (va_up (va_up (va_up (va_up (va_up dv_Parts 1 (.ref q_18)) 2 (.ref q_19)) 3 (.ref q_20)) 4 (.ref q_20)) 5 (.ref q_5)) 6 (.ref q_6)) 8 (.ref q_7)) 9 (.ref q_8)) 10 (.ref q_9)) 12 (.ref q_10)) 13 (.ref q_11)) 14 (.ref q_12)))), (q_19, .inr (12, xo_Code (va_up (va_up (va_up dv_Code 0 (.ref q_18)) 2 (.ref q_19)) 3 (.ref q_20)))), (q_20, .inl (cB, 65536, .inl (fun _ => 0)))] := hD
  have hP9 := hP.sub (ws' := [(h0, .inr (1, xo_C (va_up (va_up (va_up (va_up (va_up (va_up (va_up (va_up f0 2 (.ref q_1)) 3 (.ref q_3)) 4 (.ref q_6)) 5 (.ref q_7)) 6 (.ref q_9)) 7 (.ref q_10)) 9 (.ref q_11)) 10 (.ref q_16)))), (q_1, .inr (2, xo_Tokens (va_up dv_Tokens 0 (.ref q_2)))), (q_2, .inl (cJ, 65537, .inr (.inl (fun _ => 0)))), (q_3, .inr (3, xo_Scanner (va_up (va_up (va_up (va_up (va_up (va_up dv_Scanner 1 (.ref q_4)) 4 (.ref q_5)) 5 (.ref q_3)) 6 (.ref q_4)) 7 (.ref q_5)) 0 (.ref q_1)))), (q_4, .inl (cB, 0, .inl (fun _ => 0))), (q_5, .inl (cI, 256, .inl (fun _ => 0))), (q_6, .inr (4, xo_Checker (va_up (va_up (va_up (va_up (va_up (va_up dv_Checker 5 (.ref q_1)) 6 (.ref q_2)) 7 (.ref q_3)) 8 (.ref q_4)) 9 (.ref q_5)) 0 (.ref q_1)))), (q_8, .inr (5, xo_Meaning (va_up (va_up (va_up (va_up (va_up dv_Meaning 12 (.ref q_1)) 13 (.ref q_2)) 14 (.ref q_3)) 15 (.ref q_4)) 0 (.ref q_6)))), (q_7, .inr (6, xo_Grammar (va_up (va_up (va_up (va_up (va_up (va_up (va_up dv_Grammar 9 (.ref q_1)) 11 (.ref q_2)) 12 (.ref q_3)) 13 (.ref q_4)) 0 (.ref q_1)) 1 (.ref q_6)) 2 (.ref q_8)))), (q_9, .inr (7, xo_Order (va_up (va_up (va_up (va_up (va_up dv_Order 1 (.ref q_1)) 2 (.ref q_2)) 3 (.ref q_3)) 4 (.ref q_4)) 5 (.ref q_5)))), (q_10, .inr (8, xo_Machine (va_up (va_up (va_up dv_Machine 0 (.ref q_1)) 1 (.ref q_2)) 2 (.ref q_3)))), (q_11, .inr (9, xo_Circuit (va_up (va_up (va_up (va_up (va_up (va_up (va_up (va_up (va_up (va_up (va_up dv_Circuit 0 (.ref q_12)) 3 (.ref q_5)) 4 (.ref q_6)) 5 (.ref q_7)) 6 (.ref q_8)) 7 (.ref q_9)) 8 (.ref q_10)) 9 (.ref q_11)) 10 (.ref q_12)) 11 (.ref q_13)) 12 (.ref q_14)))), (q_12, .inr (10, xo_Design (va_up (va_up (va_up (va_up (va_up (va_up (va_up (va_up (va_up (va_up (va_up (va_up dv_Design 0 (.ref q_13)) 1 (.ref q_14)) 2 (.ref q_15)) 6 (.ref q_15)) 7 (.ref q_5)) 8 (.ref q_6)) 9 (.ref q_7)) 10 (.ref q_8)) 11 (.ref q_9)) 13 (.ref q_15)) 14 (.ref q_16)) 15 (.ref q_17)))), (q_13, .inr (11, xo_Parts (va_up (va_up (va_up (va_up (va_up (va_up (va_up (va_up (va_up (va_up (va_up (va_up dv_Parts 1 (.ref q_13)) 2 (.ref q_14)) 3 (.ref q_15)) 4 (.ref q_15)) 5 (.ref q_5)) 6 (.ref q_6)) 8 (.ref q_7)) 9 (.ref q_8)) 10 (.ref q_9)) 12 (.ref q_10)) 13 (.ref q_11)) 14 (.ref q_12)))), (q_14, .inr (12, xo_Code (va_up (va_up (va_up dv_Code 0 (.ref q_13)) 2 (.ref q_14)) 3 (.ref q_15)))), (q_15, .inl (cB, 65536, .inl (fun _ => 0))), (q_16, .inr (9, xo_Circuit (va_up (va_up (va_up (va_up (va_up (va_up (va_up (va_up (va_up (va_up (va_up dv_Circuit 0 (.ref q_17)) 3 (.ref q_5)) 4 (.ref q_6)) 5 (.ref q_7)) 6 (.ref q_8)) 7 (.ref q_9)) 8 (.ref q_10)) 9 (.ref q_11)) 10 (.ref q_12)) 11 (.ref q_13)) 12 (.ref q_14)))), (q_17, .inr (10, xo_Design (va_up (va_up (va_up (va_up (va_up (va_up (va_up (va_up (va_up (va_up (va_up (va_up dv_Design 0 (.ref q_18)) 1 (.ref q_19)) 2 (.ref q_20)) 6 (.ref q_20)) 7 (.ref q_5)) 8 (.ref q_6)) 9 (.ref q_7)) 10 (.ref q_8)) 11 (.ref q_9)) 13 (.ref q_15)) 14 (.ref q_16)) 15 (.ref q_17)))), (q_18, .inr (11, xo_Parts (va_up (va_up (va_up (va_up (va_up (va_up (va_up (va_up (va_up (va_up (va_up (va_up dv_Parts 1 (.ref q_18)) 2 (.ref q_19)) 3 (.ref q_20)) 4 (.ref q_20)) 5 (.ref q_5)) 6 (.ref q_6)) 8 (.ref q_7)) 9 (.ref q_8)) 10 (.ref q_9)) 12 (.ref q_10)) 13 (.ref q_11)) 14 (.ref q_12)))), (q_19, .inr (12, xo_Code (va_up (va_up (va_up dv_Code 0 (.ref q_18)) 2 (.ref q_19)) 3 (.ref q_20)))), (q_20, .inl (cB, 65536, .inl (fun _ => 0)))]) [0, 1, 2, 3, 4, 5, 6, 7, 8, 9, 10, 11, 12, 13, 14, 15, 16, 17, 18, 19, 20] rfl
  have hD9 := hD.sub (ws' := [(h0, .inr (1, xo_C (va_up (va_up (va_up (va_up (va_up (va_up (va_up (va_up f0 2 (.ref q_1)) 3 (.ref q_3)) 4 (.ref q_6)) 5 (.ref q_7)) 6 (.ref q_9)) 7 (.ref q_10)) 9 (.ref q_11)) 10 (.ref q_16)))), (q_1, .inr (2, xo_Tokens (va_up dv_Tokens 0 (.ref q_2)))), (q_2, .inl (cJ, 65537, .inr (.inl (fun _ => 0)))), (q_3, .inr (3, xo_Scanner (va_up (va_up (va_up (va_up (va_up (va_up dv_Scanner 1 (.ref q_4)) 4 (.ref q_5)) 5 (.ref q_3)) 6 (.ref q_4)) 7 (.ref q_5)) 0 (.ref q_1)))), (q_4, .inl (cB, 0, .inl (fun _ => 0))), (q_5, .inl (cI, 256, .inl (fun _ => 0))), (q_6, .inr (4, xo_Checker (va_up (va_up (va_up (va_up (va_up (va_up dv_Checker 5 (.ref q_1)) 6 (.ref q_2)) 7 (.ref q_3)) 8 (.ref q_4)) 9 (.ref q_5)) 0 (.ref q_1)))), (q_8, .inr (5, xo_Meaning (va_up (va_up (va_up (va_up (va_up dv_Meaning 12 (.ref q_1)) 13 (.ref q_2)) 14 (.ref q_3)) 15 (.ref q_4)) 0 (.ref q_6)))), (q_7, .inr (6, xo_Grammar (va_up (va_up (va_up (va_up (va_up (va_up (va_up dv_Grammar 9 (.ref q_1)) 11 (.ref q_2)) 12 (.ref q_3)) 13 (.ref q_4)) 0 (.ref q_1)) 1 (.ref q_6)) 2 (.ref q_8)))), (q_9, .inr (7, xo_Order (va_up (va_up (va_up (va_up (va_up dv_Order 1 (.ref q_1)) 2 (.ref q_2)) 3 (.ref q_3)) 4 (.ref q_4)) 5 (.ref q_5)))), (q_10, .inr (8, xo_Machine (va_up (va_up (va_up dv_Machine 0 (.ref q_1)) 1 (.ref q_2)) 2 (.ref q_3)))), (q_11, .inr (9, xo_Circuit (va_up (va_up (va_up (va_up (va_up (va_up (va_up (va_up (va_up (va_up (va_up dv_Circuit 0 (.ref q_12)) 3 (.ref q_5)) 4 (.ref q_6)) 5 (.ref q_7)) 6 (.ref q_8)) 7 (.ref q_9)) 8 (.ref q_10)) 9 (.ref q_11)) 10 (.ref q_12)) 11 (.ref q_13)) 12 (.ref q_14)))), (q_12, .inr (10, xo_Design (va_up (va_up (va_up (va_up (va_up (va_up (va_up (va_up (va_up (va_up (va_up (va_up dv_Design 0 (.ref q_13)) 1 (.ref q_14)) 2 (.ref q_15)) 6 (.ref q_15)) 7 (.ref q_5)) 8 (.ref q_6)) 9 (.ref q_7)) 10 (.ref q_8)) 11 (.ref q_9)) 13 (.ref q_15)) 14 (.ref q_16)) 15 (.ref q_17)))), (q_13, .inr (11, xo_Parts (va_up (va_up (va_up (va_up (va_up (va_up (va_up (va_up (va_up (va_up (va_up (va_up dv_Parts 1 (.ref q_13)) 2 (.ref q_14)) 3 (.ref q_15)) 4 (.ref q_15)) 5 (.ref q_5)) 6 (.ref q_6)) 8 (.ref q_7)) 9 (.ref q_8)) 10 (.ref q_9)) 12 (.ref q_10)) 13 (.ref q_11)) 14 (.ref q_12)))), (q_14, .inr (12, xo_Code (va_up (va_up (va_up dv_Code 0 (.ref q_13)) 2 (.ref q_14)) 3 (.ref q_15)))), (q_15, .inl (cB, 65536, .inl (fun _ => 0))), (q_16, .inr (9, xo_Circuit (va_up (va_up (va_up (va_up (va_up (va_up (va_up (va_up (va_up (va_up (va_up dv_Circuit 0 (.ref q_17)) 3 (.ref q_5)) 4 (.ref q_6)) 5 (.ref q_7)) 6 (.ref q_8)) 7 (.ref q_9)) 8 (.ref q_10)) 9 (.ref q_11)) 10 (.ref q_12)) 11 (.ref q_13)) 12 (.ref q_14)))), (q_17, .inr (10, xo_Design (va_up (va_up (va_up (va_up (va_up (va_up (va_up (va_up (va_up (va_up (va_up (va_up dv_Design 0 (.ref q_18)) 1 (.ref q_19)) 2 (.ref q_20)) 6 (.ref q_20)) 7 (.ref q_5)) 8 (.ref q_6)) 9 (.ref q_7)) 10 (.ref q_8)) 11 (.ref q_9)) 13 (.ref q_15)) 14 (.ref q_16)) 15 (.ref q_17)))), (q_18, .inr (11, xo_Parts (va_up (va_up (va_up (va_up (va_up (va_up (va_up (va_up (va_up (va_up (va_up (va_up dv_Parts 1 (.ref q_18)) 2 (.ref q_19)) 3 (.ref q_20)) 4 (.ref q_20)) 5 (.ref q_5)) 6 (.ref q_6)) 8 (.ref q_7)) 9 (.ref q_8)) 10 (.ref q_9)) 12 (.ref q_10)) 13 (.ref q_11)) 14 (.ref q_12)))), (q_19, .inr (12, xo_Code (va_up (va_up (va_up dv_Code 0 (.ref q_18)) 2 (.ref q_19)) 3 (.ref q_20)))), (q_20, .inl (cB, 65536, .inl (fun _ => 0)))]) [0, 1, 2, 3, 4, 5, 6, 7, 8, 9, 10, 11, 12, 13, 14, 15, 16, 17, 18, 19, 20] (by decide) rfl
  exact xk_vret (w1 := fun u : Nat × Nat × Nat × Nat × Nat × Nat × Nat × Nat × Nat × Nat × Nat × Nat × Nat × Nat × Nat × Nat × Nat × Nat × Nat × Nat => [(h0, .inr (1, xo_C (va_up (va_up (va_up (va_up (va_up (va_up (va_up (va_up f0 2 (.ref u.1)) 3 (.ref u.2.2.1)) 4 (.ref u.2.2.2.2.2.1)) 5 (.ref u.2.2.2.2.2.2.1)) 6 (.ref u.2.2.2.2.2.2.2.2.1)) 7 (.ref u.2.2.2.2.2.2.2.2.2.1)) 9 (.ref u.2.2.2.2.2.2.2.2.2.2.1)) 10 (.ref u.2.2.2.2.2.2.2.2.2.2.2.2.2.2.2.1)))), (u.1, .inr (2, xo_Tokens (va_up dv_Tokens 0 (.ref u.2.1)))), (u.2.1, .inl (cJ, 65537, .inr (.inl (fun _ => 0)))), (u.2.2.1, .inr (3, xo_Scanner (va_up (va_up (va_up (va_up (va_up (va_up dv_Scanner 1 (.ref u.2.2.2.1)) 4 (.ref u.2.2.2.2.1)) 5 (.ref u.2.2.1)) 6 (.ref u.2.2.2.1)) 7 (.ref u.2.2.2.2.1)) 0 (.ref u.1)))), (u.2.2.2.1, .inl (cB, 0, .inl (fun _ => 0))), (u.2.2.2.2.1, .inl (cI, 256, .inl (fun _ => 0))), (u.2.2.2.2.2.1, .inr (4, xo_Checker (va_up (va_up (va_up (va_up (va_up (va_up dv_Checker 5 (.ref u.1)) 6 (.ref u.2.1)) 7 (.ref u.2.2.1)) 8 (.ref u.2.2.2.1)) 9 (.ref u.2.2.2.2.1)) 0 (.ref u.1)))), (u.2.2.2.2.2.2.2.1, .inr (5, xo_Meaning (va_up (va_up (va_up (va_up (va_up dv_Meaning 12 (.ref u.1)) 13 (.ref u.2.1)) 14 (.ref u.2.2.1)) 15 (.ref u.2.2.2.1)) 0 (.ref u.2.2.2.2.2.1)))), (u.2.2.2.2.2.2.1, .inr (6, xo_Grammar (va_up (va_up (va_up (va_up (va_up (va_up (va_up dv_Grammar 9 (.ref u.1)) 11 (.ref u.2.1)) 12 (.ref u.2.2.1)) 13 (.ref u.2.2.2.1)) 0 (.ref u.1)) 1 (.ref u.2.2.2.2.2.1)) 2 (.ref u.2.2.2.2.2.2.2.1)))), (u.2.2.2.2.2.2.2.2.1, .inr (7, xo_Order (va_up (va_up (va_up (va_up (va_up dv_Order 1 (.ref u.1)) 2 (.ref u.2.1)) 3 (.ref u.2.2.1)) 4 (.ref u.2.2.2.1)) 5 (.ref u.2.2.2.2.1)))), (u.2.2.2.2.2.2.2.2.2.1, .inr (8, xo_Machine (va_up (va_up (va_up dv_Machine 0 (.ref u.1)) 1 (.ref u.2.1)) 2 (.ref u.2.2.1)))), (u.2.2.2.2.2.2.2.2.2.2.1, .inr (9, xo_Circuit (va_up (va_up (va_up (va_up (va_up (va_up (va_up (va_up (va_up (va_up (va_up dv_Circuit 0 (.ref u.2.2.2.2.2.2.2.2.2.2.2.1)) 3 (.ref u.2.2.2.2.1)) 4 (.ref u.2.2.2.2.2.1)) 5 (.ref u.2.2.2.2.2.2.1)) 6 (.ref u.2.2.2.2.2.2.2.1)) 7 (.ref u.2.2.2.2.2.2.2.2.1)) 8 (.ref u.2.2.2.2.2.2.2.2.2.1)) 9 (.ref u.2.2.2.2.2.2.2.2.2.2.1)) 10 (.ref u.2.2.2.2.2.2.2.2.2.2.2.1)) 11 (.ref u.2.2.2.2.2.2.2.2.2.2.2.2.1)) 12 (.ref u.2.2.2.2.2.2.2.2.2.2.2.2.2.1)))), (u.2.2.2.2.2.2.2.2.2.2.2.1, .inr (10, xo_Design (va_up (va_up (va_up (va_up (va_up (va_up (va_up (va_up (va_up (va_up (va_up (va_up dv_Design 0 (.ref u.2.2.2.2.2.2.2.2.2.2.2.2.1)) 1 (.ref u.2.2.2.2.2.2.2.2.2.2.2.2.2.1)) 2 (.ref u.2.2.2.2.2.2.2.2.2.2.2.2.2.2.1)) 6 (.ref u.2.2.2.2.2.2.2.2.2.2.2.2.2.2.1)) 7 (.ref u.2.2.2.2.1)) 8 (.ref u.2.2.2.2.2.1)) 9 (.ref u.2.2.2.2.2.2.1)) 10 (.ref u.2.2.2.2.2.2.2.1)) 11 (.ref u.2.2.2.2.2.2.2.2.1)) 13 (.ref u.2.2.2.2.2.2.2.2.2.2.2.2.2.2.1)) 14 (.ref u.2.2.2.2.2.2.2.2.2.2.2.2.2.2.2.1)) 15 (.ref u.2.2.2.2.2.2.2.2.2.2.2.2.2.2.2.2.1)))), (u.2.2.2.2.2.2.2.2.2.2.2.2.1, .inr (11, xo_Parts (va_up (va_up (va_up (va_up (va_up (va_up (va_up (va_up (va_up (va_up (va_up (va_up dv_Parts 1 (.ref u.2.2.2.2.2.2.2.2.2.2.2.2.1)) 2 (.ref u.2.2.2.2.2.2.2.2.2.2.2.2.2.1)) 3 (.ref u.2.2.2.2.2.2.2.2.2.2.2.2.2.2.1)) 4 (.ref u.2.2.2.2.2.2.2.2.2.2.2.2.2.2.1)) 5 (.ref u.2.2.2.2.1)) 6 (.ref u.2.2.2.2.2.1)) 8 (.ref u.2.2.2.2.2.2.1)) 9 (.ref u.2.2.2.2.2.2.2.1)) 10 (.ref u.2.2.2.2.2.2.2.2.1)) 12 (.ref u.2.2.2.2.2.2.2.2.2.1)) 13 (.ref u.2.2.2.2.2.2.2.2.2.2.1)) 14 (.ref u.2.2.2.2.2.2.2.2.2.2.2.1)))), (u.2.2.2.2.2.2.2.2.2.2.2.2.2.1, .inr (12, xo_Code (va_up (va_up (va_up dv_Code 0 (.ref u.2.2.2.2.2.2.2.2.2.2.2.2.1)) 2 (.ref u.2.2.2.2.2.2.2.2.2.2.2.2.2.1)) 3 (.ref u.2.2.2.2.2.2.2.2.2.2.2.2.2.2.1)))), (u.2.2.2.2.2.2.2.2.2.2.2.2.2.2.1, .inl (cB, 65536, .inl (fun _ => 0))), (u.2.2.2.2.2.2.2.2.2.2.2.2.2.2.2.1, .inr (9, xo_Circuit (va_up (va_up (va_up (va_up (va_up (va_up (va_up (va_up (va_up (va_up (va_up dv_Circuit 0 (.ref u.2.2.2.2.2.2.2.2.2.2.2.2.2.2.2.2.1)) 3 (.ref u.2.2.2.2.1)) 4 (.ref u.2.2.2.2.2.1)) 5 (.ref u.2.2.2.2.2.2.1)) 6 (.ref u.2.2.2.2.2.2.2.1)) 7 (.ref u.2.2.2.2.2.2.2.2.1)) 8 (.ref u.2.2.2.2.2.2.2.2.2.1)) 9 (.ref u.2.2.2.2.2.2.2.2.2.2.1)) 10 (.ref u.2.2.2.2.2.2.2.2.2.2.2.1)) 11 (.ref u.2.2.2.2.2.2.2.2.2.2.2.2.1)) 12 (.ref u.2.2.2.2.2.2.2.2.2.2.2.2.2.1)))), (u.2.2.2.2.2.2.2.2.2.2.2.2.2.2.2.2.1, .inr (10, xo_Design (va_up (va_up (va_up (va_up (va_up (va_up (va_up (va_up (va_up (va_up (va_up (va_up dv_Design 0 (.ref u.2.2.2.2.2.2.2.2.2.2.2.2.2.2.2.2.2.1)) 1 (.ref u.2.2.2.2.2.2.2.2.2.2.2.2.2.2.2.2.2.2.1)) 2 (.ref u.2.2.2.2.2.2.2.2.2.2.2.2.2.2.2.2.2.2.2)) 6 (.ref u.2.2.2.2.2.2.2.2.2.2.2.2.2.2.2.2.2.2.2)) 7 (.ref u.2.2.2.2.1)) 8 (.ref u.2.2.2.2.2.1)) 9 (.ref u.2.2.2.2.2.2.1)) 10 (.ref u.2.2.2.2.2.2.2.1)) 11 (.ref u.2.2.2.2.2.2.2.2.1)) 13 (.ref u.2.2.2.2.2.2.2.2.2.2.2.2.2.2.1)) 14 (.ref u.2.2.2.2.2.2.2.2.2.2.2.2.2.2.2.1)) 15 (.ref u.2.2.2.2.2.2.2.2.2.2.2.2.2.2.2.2.1)))), (u.2.2.2.2.2.2.2.2.2.2.2.2.2.2.2.2.2.1, .inr (11, xo_Parts (va_up (va_up (va_up (va_up (va_up (va_up (va_up (va_up (va_up (va_up (va_up (va_up dv_Parts 1 (.ref u.2.2.2.2.2.2.2.2.2.2.2.2.2.2.2.2.2.1)) 2 (.ref u.2.2.2.2.2.2.2.2.2.2.2.2.2.2.2.2.2.2.1)) 3 (.ref u.2.2.2.2.2.2.2.2.2.2.2.2.2.2.2.2.2.2.2)) 4 (.ref u.2.2.2.2.2.2.2.2.2.2.2.2.2.2.2.2.2.2.2)) 5 (.ref u.2.2.2.2.1)) 6 (.ref u.2.2.2.2.2.1)) 8 (.ref u.2.2.2.2.2.2.1)) 9 (.ref u.2.2.2.2.2.2.2.1)) 10 (.ref u.2.2.2.2.2.2.2.2.1)) 12 (.ref u.2.2.2.2.2.2.2.2.2.1)) 13 (.ref u.2.2.2.2.2.2.2.2.2.2.1)) 14 (.ref u.2.2.2.2.2.2.2.2.2.2.2.1)))), (u.2.2.2.2.2.2.2.2.2.2.2.2.2.2.2.2.2.2.1, .inr (12, xo_Code (va_up (va_up (va_up dv_Code 0 (.ref u.2.2.2.2.2.2.2.2.2.2.2.2.2.2.2.2.2.1)) 2 (.ref u.2.2.2.2.2.2.2.2.2.2.2.2.2.2.2.2.2.2.1)) 3 (.ref u.2.2.2.2.2.2.2.2.2.2.2.2.2.2.2.2.2.2.2)))), (u.2.2.2.2.2.2.2.2.2.2.2.2.2.2.2.2.2.2.2, .inl (cB, 65536, .inl (fun _ => 0)))]) (q_1, q_2, q_3, q_4, q_5, q_6, q_7, q_8, q_9, q_10, q_11, q_12, q_13, q_14, q_15, q_16, q_17, q_18, q_19, q_20) hx hb hr hlocks hK hS dn_C_init_119 hP9 hD9 trivial (Nat.le_refl _) (Nat.le_refl _)
set_option maxHeartbeats 4000000 in
set_option maxRecDepth 100000 in
theorem ct_M_feed_1 (l : Launch) (dC : Nat → ClassId) (dI : Nat → Nat → Nat) (cI cB cJ cZ cQ : ClassId) (sz : Nat) (h0 : Nat) (h1 : Nat) (x0 : Int32) (x1 : Int32) (x2 : Int32) (x3 : Int32) (x4 : Int32) (f0 : Nat → Value) (hf0_1 : f0 1 = .ref h1) (hf0_88 : f0 88 = .int 0) : Met l yn_M_feed (xw yn_M_feed bn_M_feed 8 (some .int)) ({ frames := 0, cells := 0, slots := 0, locals := 0 }) (xk_P (dC, dI) xcl (xt cI cB cJ cZ cQ) [.ref h0, .int x0, .int x1, .int x2, .int x3, .int x4] sz [(h0, .inr (0, xo_M f0)), (h1, .inl (cB, 65536, .inl (fun _ => 0)))]) (xk_Qi (dC, dI) xcl (xt cI cB cJ cZ cQ) (fun (r : Int32) (u : (Nat → Int32)) => r = 20) (fun u : (Nat → Int32) => [(h0, .inr (0, xo_M (va_up (va_up f0 0 (.int 0)) 88 (.int 20)))), (h1, .inl (cB, 65536, .inl u))]) (va_A [(h0, .inr (0, xo_M f0)), (h1, .inl (cB, 65536, .inl (fun _ => 0)))] sz)) 0 0 (va_A [(h0, .inr (0, xo_M f0)), (h1, .inl (cB, 65536, .inl (fun _ => 0)))] sz) := by
  refine xk_of (QA := xk_Qi (dC, dI) xcl (xt cI cB cJ cZ cQ) (fun (r : Int32) (u : (Nat → Int32)) => r = 20) (fun u : (Nat → Int32) => [(h0, .inr (0, xo_M (va_up (va_up f0 0 (.int 0)) 88 (.int 20)))), (h1, .inl (cB, 65536, .inl u))])) (by decide) (Nat.le_of_ble_eq_true rfl) ?_
  intro p e s m below meth c hx hb hml hown hg hr hlocks hin hP hK hN A hA hD hS ls hl
  have hown : s.vm.findClass rn_M = some m.cls := hown
  have hl : lv_has ls 8 [(0, .ref h0), (1, .int x0), (2, .int x1), (3, .int x2), (4, .int x3), (5, .int x4)] := hl
  obtain ⟨H, hH⟩ : ∃ z, z = s.heap := ⟨_, rfl⟩
  rw [← hH] at hP
  have hS : va_S A s.heap H [] := by rw [hH]; exact va_S.rf
  suffices kk : W p l e ({ frames := 0, cells := 0, slots := 0, locals := 0 }) s m [.ref h0, .int x0, .int x1, .int x2, .int x3, .int x4].toArray below meth c H [] 0 0 (MQ below (xk_Qi (dC, dI) xcl (xt cI cB cJ cZ cQ) (fun (r : Int32) (u : (Nat → Int32)) => r = 20) (fun u : (Nat → Int32) => [(h0, .inr (0, xo_M (va_up (va_up f0 0 (.int 0)) 88 (.int 20)))), (h1, .inl (cB, 65536, .inl u))]) A) [.ref h0, .int x0, .int x1, .int x2, .int x3, .int x4].toArray s 0 0 A) (F0 m 0 ls []) by rw [hH] at kk; exact kk
  refine lv_aload_n hx hb dn_M_feed_0 rfl (lv_at hl 0 rfl) ?_
  refine lv_aload_n hx hb dn_M_feed_1 rfl (lv_at hl 0 rfl) ?_
  refine va_get (D := (dC, dI)) (ci := 0) (v := .int 0) (C := rn_M) (T := fn_M) (N := 91) hx hb hg in_M hown hK hP 0 rfl rfl 88 (by decide) (hg _ wn_8_156) (fun _ h9 => h9) (congrArg some hf0_88) dn_M_feed_2 ?_
  refine lv_bipush (v := 20) hx hb dn_M_feed_5 (by decide) ?_
  refine lv_iadd hx hb dn_M_feed_7 ?_
  refine xk_ti (y := 20) (by decide) ?_
  refine lv_aload_n hx hb dn_M_feed_8 rfl (lv_at hl 0 rfl) ?_
  refine va_get (D := (dC, dI)) (ci := 0) (v := .ref h1) (C := rn_M) (T := fn_M) (N := 91) hx hb hg in_M hown hK hP 0 rfl rfl 1 (by decide) (hg _ wn_8_69) (fun _ h9 => h9) (congrArg some hf0_1) dn_M_feed_9 ?_
  refine va_alen (v := 65536) hx hb hK hP 1 1 rfl rfl rfl dn_M_feed_12 ?_
  refine lv_icmp_le (tgt := 20) hx hb dn_M_feed_13 (by decide) (fun _ => ?_) (fun h9 => absurd h9 (by decide))
  refine lv_iconst (v := 0) hx hb dn_M_feed_20 (by decide) ?_
  refine va_put (D := (dC, dI)) (ci := 0) (v := .int 0) (ty := .int) (C := rn_M) (T := fn_M) (N := 91) hx hb hg in_M tn_M tk_M nn_M hown hK hP hD hS 0 rfl rfl 0 (by decide) (hg _ wn_8_68) (fun _ h9 => h9) rfl (tk_M 0 (by decide)) rfl rfl (Nat.le_of_ble_eq_true rfl) dn_M_feed_21 (fun H locs hP hD hS => ?_)
  have hP : va_P (dC, dI) xcl [(h0, .inr (0, xo_M (va_up f0 0 (.int 0)))), (h1, .inl (cB, 65536, .inl (fun _ => 0)))] H := hP
  have hD : va_D A [(h0, .inr (0, xo_M (va_up f0 0 (.int 0)))), (h1, .inl (cB, 65536, .inl (fun _ => 0)))] := hD
  refine lv_aload_n hx hb dn_M_feed_24 rfl (lv_at hl 0 rfl) ?_
  refine va_get (D := (dC, dI)) (ci := 0) (v := .int 0) (C := rn_M) (T := fn_M) (N := 91) hx hb hg in_M hown hK hP 0 rfl rfl 0 (by decide) (hg _ wn_8_68) (fun _ h9 => h9) rfl dn_M_feed_25 ?_
  refine lv_if_le (tgt := 33) hx hb dn_M_feed_28 (by decide) (fun _ => ?_) (fun h9 => absurd h9 (by decide))
  refine lv_iconst (v := 0) hx hb dn_M_feed_33 (by decide) ?_
  refine lv_istore (lv' := [(6, .int 0), (0, .ref h0), (1, .int x0), (2, .int x1), (3, .int x2), (4, .int x3), (5, .int x4)]) hx hb dn_M_feed_34 hl (by decide) rfl (fun ls hl => ?_)
  refine lv_iload hx hb dn_M_feed_36 (lv_at hl 0 rfl) ?_
  refine lv_bipush (v := 20) hx hb dn_M_feed_38 (by decide) ?_
  refine lv_icmp_ge (tgt := 123) hx hb dn_M_feed_40 (by decide) (fun h9 => absurd h9 (by decide)) (fun _ => ?_)
  refine lv_iload hx hb dn_M_feed_43 (lv_at hl 0 rfl) ?_
  refine lv_iconst (v := 4) hx hb dn_M_feed_45 (by decide) ?_
  refine lv_icmp_ge (tgt := 53) hx hb dn_M_feed_46 (by decide) (fun h9 => absurd h9 (by decide)) (fun _ => ?_)
  refine lv_iload_n hx hb dn_M_feed_49 rfl (lv_at hl 2 rfl) ?_
  refine lv_goto (tgt := 89) hx hb dn_M_feed_50 (by decide) ?_
  refine lv_istore (lv' := [(7, .int x0), (6, .int 0), (0, .ref h0), (1, .int x0), (2, .int x1), (3, .int x2), (4, .int x3), (5, .int x4)]) hx hb dn_M_feed_89 hl (by decide) rfl (fun ls hl => ?_)
  refine lv_aload_n hx hb dn_M_feed_91 rfl (lv_at hl 2 rfl) ?_
  refine va_get (D := (dC, dI)) (ci := 0) (v := .ref h1) (C := rn_M) (T := fn_M) (N := 91) hx hb hg in_M hown hK hP 0 rfl rfl 1 (by decide) (hg _ wn_8_69) (fun _ h9 => h9) (congrArg some hf0_1) dn_M_feed_92 ?_
  refine lv_aload_n hx hb dn_M_feed_95 rfl (lv_at hl 2 rfl) ?_
  refine va_get (D := (dC, dI)) (ci := 0) (v := .int 0) (C := rn_M) (T := fn_M) (N := 91) hx hb hg in_M hown hK hP 0 rfl rfl 88 (by decide) (hg _ wn_8_156) (fun _ h9 => h9) (congrArg some hf0_88) dn_M_feed_96 ?_
  refine lv_iload hx hb dn_M_feed_99 (lv_at hl 1 rfl) ?_
  refine lv_iadd hx hb dn_M_feed_101 ?_
  refine xk_ti (y := 0) (by decide) ?_
  refine lv_iload hx hb dn_M_feed_102 (lv_at hl 0 rfl) ?_
  refine lv_bipush (v := 24) hx hb dn_M_feed_104 (by decide) ?_
  refine lv_bipush (v := 8) hx hb dn_M_feed_106 (by decide) ?_
  refine lv_iload hx hb dn_M_feed_108 (lv_at hl 1 rfl) ?_
  refine lv_iconst (v := 4) hx hb dn_M_feed_110 (by decide) ?_
  refine lv_irem hx hb dn_M_feed_111 (by decide) ?_
  refine xk_ti (y := 0) (by decide) ?_
  refine lv_imul hx hb dn_M_feed_112 ?_
  refine xk_ti (y := 0) (by decide) ?_
  refine lv_isub hx hb dn_M_feed_113 ?_
  refine xk_ti (y := 24) (by decide) ?_
  refine lv_ishr hx hb dn_M_feed_114 ?_
  refine lv_topi (fun z_1 _ => ?_)
  refine lv_i2b hx hb dn_M_feed_115 rfl ?_
  refine lv_topi (fun z_2 ez_2 => ?_)
  refine va_bast hx hb hK hP hD hS 1 1 rfl rfl (show ¬ (_ ∨ _) by decide) dn_M_feed_116 (fun H locs hP hD hS => ?_)
  obtain ⟨g_3, eg_3⟩ : ∃ z : Nat → Int32, z = upd (fun _ => 0) (0 : Int32).toNatClampNeg (vp_nar .byte z_2) := ⟨_, rfl⟩
  have hP : va_P (dC, dI) xcl [(h0, .inr (0, xo_M (va_up f0 0 (.int 0)))), (h1, .inl (cB, 65536, .inl g_3))] H := by rw [eg_3]; exact hP
  have hD : va_D A [(h0, .inr (0, xo_M (va_up f0 0 (.int 0)))), (h1, .inl (cB, 65536, .inl g_3))] := by rw [eg_3]; exact hD
  refine lv_iinc (v := 1) (lv' := [(6, .int 1), (7, .int x0), (0, .ref h0), (1, .int x0), (2, .int x1), (3, .int x2), (4, .int x3), (5, .int x4)]) hx hb dn_M_feed_117 hl (k := 1) rfl (by decide) (by decide) rfl (fun ls hl => ?_)
  refine lv_goto (tgt := 36) hx hb dn_M_feed_120 (by decide) ?_
  refine lv_iload hx hb dn_M_feed_36 (lv_at hl 0 rfl) ?_
  refine lv_bipush (v := 20) hx hb dn_M_feed_38 (by decide) ?_
  refine lv_icmp_ge (tgt := 123) hx hb dn_M_feed_40 (by decide) (fun h9 => absurd h9 (by decide)) (fun _ => ?_)
  refine lv_iload hx hb dn_M_feed_43 (lv_at hl 0 rfl) ?_
  refine lv_iconst (v := 4) hx hb dn_M_feed_45 (by decide) ?_
  refine lv_icmp_ge (tgt := 53) hx hb dn_M_feed_46 (by decide) (fun h9 => absurd h9 (by decide)) (fun _ => ?_)
  refine lv_iload_n hx hb dn_M_feed_49 rfl (lv_at hl 3 rfl) ?_
  refine lv_goto (tgt := 89) hx hb dn_M_feed_50 (by decide) ?_
  refine lv_istore (lv' := [(7, .int x0), (6, .int 1), (0, .ref h0), (1, .int x0), (2, .int x1), (3, .int x2), (4, .int x3), (5, .int x4)]) hx hb dn_M_feed_89 hl (by decide) rfl (fun ls hl => ?_)
  refine lv_aload_n hx hb dn_M_feed_91 rfl (lv_at hl 2 rfl) ?_
  refine va_get (D := (dC, dI)) (ci := 0) (v := .ref h1) (C := rn_M) (T := fn_M) (N := 91) hx hb hg in_M hown hK hP 0 rfl rfl 1 (by decide) (hg _ wn_8_69) (fun _ h9 => h9) (congrArg some hf0_1) dn_M_feed_92 ?_
  refine lv_aload_n hx hb dn_M_feed_95 rfl (lv_at hl 2 rfl) ?_
  refine va_get (D := (dC, dI)) (ci := 0) (v := .int 0) (C := rn_M) (T := fn_M) (N := 91) hx hb hg in_M hown hK hP 0 rfl rfl 88 (by decide) (hg _ wn_8_156) (fun _ h9 => h9) (congrArg some hf0_88) dn_M_feed_96 ?_
  refine lv_iload hx hb dn_M_feed_99 (lv_at hl 1 rfl) ?_
  refine lv_iadd hx hb dn_M_feed_101 ?_
  refine xk_ti (y := 1) (by decide) ?_
  refine lv_iload hx hb dn_M_feed_102 (lv_at hl 0 rfl) ?_
  refine lv_bipush (v := 24) hx hb dn_M_feed_104 (by decide) ?_
  refine lv_bipush (v := 8) hx hb dn_M_feed_106 (by decide) ?_
  refine lv_iload hx hb dn_M_feed_108 (lv_at hl 1 rfl) ?_
  refine lv_iconst (v := 4) hx hb dn_M_feed_110 (by decide) ?_
  refine lv_irem hx hb dn_M_feed_111 (by decide) ?_
  refine xk_ti (y := 1) (by decide) ?_
  refine lv_imul hx hb dn_M_feed_112 ?_
  refine xk_ti (y := 8) (by decide) ?_
  refine lv_isub hx hb dn_M_feed_113 ?_
  refine xk_ti (y := 16) (by decide) ?_
  refine lv_ishr hx hb dn_M_feed_114 ?_
  refine lv_topi (fun z_4 _ => ?_)
  refine lv_i2b hx hb dn_M_feed_115 rfl ?_
  refine lv_topi (fun z_5 ez_5 => ?_)
  refine va_bast hx hb hK hP hD hS 1 1 rfl rfl (show ¬ (_ ∨ _) by decide) dn_M_feed_116 (fun H locs hP hD hS => ?_)
  obtain ⟨g_6, eg_6⟩ : ∃ z : Nat → Int32, z = upd g_3 (1 : Int32).toNatClampNeg (vp_nar .byte z_5) := ⟨_, rfl⟩
  have hP : va_P (dC, dI) xcl [(h0, .inr (0, xo_M (va_up f0 0 (.int 0)))), (h1, .inl (cB, 65536, .inl g_6))] H := by rw [eg_6]; exact hP
  have hD : va_D A [(h0, .inr (0, xo_M (va_up f0 0 (.int 0)))), (h1, .inl (cB, 65536, .inl g_6))] := by rw [eg_6]; exact hD
  refine lv_iinc (v := 2) (lv' := [(6, .int 2), (7, .int x0), (0, .ref h0), (1, .int x0), (2, .int x1), (3, .int x2), (4, .int x3), (5, .int x4)]) hx hb dn_M_feed_117 hl (k := 1) rfl (by decide) (by decide) rfl (fun ls hl => ?_)
  refine lv_goto (tgt := 36) hx hb dn_M_feed_120 (by decide) ?_
  refine lv_iload hx hb dn_M_feed_36 (lv_at hl 0 rfl) ?_
  refine lv_bipush (v := 20) hx hb dn_M_feed_38 (by decide) ?_
  refine lv_icmp_ge (tgt := 123) hx hb dn_M_feed_40 (by decide) (fun h9 => absurd h9 (by decide)) (fun _ => ?_)
  refine lv_iload hx hb dn_M_feed_43 (lv_at hl 0 rfl) ?_
  refine lv_iconst (v := 4) hx hb dn_M_feed_45 (by decide) ?_
  refine lv_icmp_ge (tgt := 53) hx hb dn_M_feed_46 (by decide) (fun h9 => absurd h9 (by decide)) (fun _ => ?_)
  refine lv_iload_n hx hb dn_M_feed_49 rfl (lv_at hl 3 rfl) ?_
  refine lv_goto (tgt := 89) hx hb dn_M_feed_50 (by decide) ?_
  refine lv_istore (lv' := [(7, .int x0), (6, .int 2), (0, .ref h0), (1, .int x0), (2, .int x1), (3, .int x2), (4, .int x3), (5, .int x4)]) hx hb dn_M_feed_89 hl (by decide) rfl (fun ls hl => ?_)
  refine lv_aload_n hx hb dn_M_feed_91 rfl (lv_at hl 2 rfl) ?_
  refine va_get (D := (dC, dI)) (ci := 0) (v := .ref h1) (C := rn_M) (T := fn_M) (N := 91) hx hb hg in_M hown hK hP 0 rfl rfl 1 (by decide) (hg _ wn_8_69) (fun _ h9 => h9) (congrArg some hf0_1) dn_M_feed_92 ?_
  refine lv_aload_n hx hb dn_M_feed_95 rfl (lv_at hl 2 rfl) ?_
  refine va_get (D := (dC, dI)) (ci := 0) (v := .int 0) (C := rn_M) (T := fn_M) (N := 91) hx hb hg in_M hown hK hP 0 rfl rfl 88 (by decide) (hg _ wn_8_156) (fun _ h9 => h9) (congrArg some hf0_88) dn_M_feed_96 ?_
  refine lv_iload hx hb dn_M_feed_99 (lv_at hl 1 rfl) ?_
  refine lv_iadd hx hb dn_M_feed_101 ?_
  refine xk_ti (y := 2) (by decide) ?_
  refine lv_iload hx hb dn_M_feed_102 (lv_at hl 0 rfl) ?_
  refine lv_bipush (v := 24) hx hb dn_M_feed_104 (by decide) ?_
  refine lv_bipush (v := 8) hx hb dn_M_feed_106 (by decide) ?_
  refine lv_iload hx hb dn_M_feed_108 (lv_at hl 1 rfl) ?_
  refine lv_iconst (v := 4) hx hb dn_M_feed_110 (by decide) ?_
  refine lv_irem hx hb dn_M_feed_111 (by decide) ?_
  refine xk_ti (y := 2) (by decide) ?_
  refine lv_imul hx hb dn_M_feed_112 ?_
  refine xk_ti (y := 16) (by decide) ?_
  refine lv_isub hx hb dn_M_feed_113 ?_
  refine xk_ti (y := 8) (by decide) ?_
  refine lv_ishr hx hb dn_M_feed_114 ?_
  refine lv_topi (fun z_7 _ => ?_)
  refine lv_i2b hx hb dn_M_feed_115 rfl ?_
  refine lv_topi (fun z_8 ez_8 => ?_)
  refine va_bast hx hb hK hP hD hS 1 1 rfl rfl (show ¬ (_ ∨ _) by decide) dn_M_feed_116 (fun H locs hP hD hS => ?_)
  obtain ⟨g_9, eg_9⟩ : ∃ z : Nat → Int32, z = upd g_6 (2 : Int32).toNatClampNeg (vp_nar .byte z_8) := ⟨_, rfl⟩
  have hP : va_P (dC, dI) xcl [(h0, .inr (0, xo_M (va_up f0 0 (.int 0)))), (h1, .inl (cB, 65536, .inl g_9))] H := by rw [eg_9]; exact hP
  have hD : va_D A [(h0, .inr (0, xo_M (va_up f0 0 (.int 0)))), (h1, .inl (cB, 65536, .inl g_9))] := by rw [eg_9]; exact hD
  refine lv_iinc (v := 3) (lv' := [(6, .int 3), (7, .int x0), (0, .ref h0), (1, .int x0), (2, .int x1), (3, .int x2), (4, .int x3), (5, .int x4)]) hx hb dn_M_feed_117 hl (k := 1) rfl (by decide) (by decide) rfl (fun ls hl => ?_)
  refine lv_goto (tgt := 36) hx hb dn_M_feed_120 (by decide) ?_
  refine lv_iload hx hb dn_M_feed_36 (lv_at hl 0 rfl) ?_
  refine lv_bipush (v := 20) hx hb dn_M_feed_38 (by decide) ?_
  refine lv_icmp_ge (tgt := 123) hx hb dn_M_feed_40 (by decide) (fun h9 => absurd h9 (by decide)) (fun _ => ?_)
  refine lv_iload hx hb dn_M_feed_43 (lv_at hl 0 rfl) ?_
  refine lv_iconst (v := 4) hx hb dn_M_feed_45 (by decide) ?_
  refine lv_icmp_ge (tgt := 53) hx hb dn_M_feed_46 (by decide) (fun h9 => absurd h9 (by decide)) (fun _ => ?_)
  refine lv_iload_n hx hb dn_M_feed_49 rfl (lv_at hl 3 rfl) ?_
  refine lv_goto (tgt := 89) hx hb dn_M_feed_50 (by decide) ?_
  refine lv_istore (lv' := [(7, .int x0), (6, .int 3), (0, .ref h0), (1, .int x0), (2, .int x1), (3, .int x2), (4, .int x3), (5, .int x4)]) hx hb dn_M_feed_89 hl (by decide) rfl (fun ls hl => ?_)
  refine lv_aload_n hx hb dn_M_feed_91 rfl (lv_at hl 2 rfl) ?_
  refine va_get (D := (dC, dI)) (ci := 0) (v := .ref h1) (C := rn_M) (T := fn_M) (N := 91) hx hb hg in_M hown hK hP 0 rfl rfl 1 (by decide) (hg _ wn_8_69) (fun _ h9 => h9) (congrArg some hf0_1) dn_M_feed_92 ?_
  refine lv_aload_n hx hb dn_M_feed_95 rfl (lv_at hl 2 rfl) ?_
  refine va_get (D := (dC, dI)) (ci := 0) (v := .int 0) (C := rn_M) (T := fn_M) (N := 91) hx hb hg in_M hown hK hP 0 rfl rfl 88 (by decide) (hg _ wn_8_156) (fun _ h9 => h9) (congrArg some hf0_88) dn_M_feed_96 ?_
  refine lv_iload hx hb dn_M_feed_99 (lv_at hl 1 rfl) ?_
  refine lv_iadd hx hb dn_M_feed_101 ?_
  refine xk_ti (y := 3) (by decide) ?_
  refine lv_iload hx hb dn_M_feed_102 (lv_at hl 0 rfl) ?_
  refine lv_bipush (v := 24) hx hb dn_M_feed_104 (by decide) ?_
  refine lv_bipush (v := 8) hx hb dn_M_feed_106 (by decide) ?_
  refine lv_iload hx hb dn_M_feed_108 (lv_at hl 1 rfl) ?_
  refine lv_iconst (v := 4) hx hb dn_M_feed_110 (by decide) ?_
  refine lv_irem hx hb dn_M_feed_111 (by decide) ?_
  refine xk_ti (y := 3) (by decide) ?_
  refine lv_imul hx hb dn_M_feed_112 ?_
  refine xk_ti (y := 24) (by decide) ?_
  refine lv_isub hx hb dn_M_feed_113 ?_
  refine xk_ti (y := 0) (by decide) ?_
  refine lv_ishr hx hb dn_M_feed_114 ?_
  refine lv_topi (fun z_10 _ => ?_)
  refine lv_i2b hx hb dn_M_feed_115 rfl ?_
  refine lv_topi (fun z_11 ez_11 => ?_)
  refine va_bast hx hb hK hP hD hS 1 1 rfl rfl (show ¬ (_ ∨ _) by decide) dn_M_feed_116 (fun H locs hP hD hS => ?_)
  obtain ⟨g_12, eg_12⟩ : ∃ z : Nat → Int32, z = upd g_9 (3 : Int32).toNatClampNeg (vp_nar .byte z_11) := ⟨_, rfl⟩
  have hP : va_P (dC, dI) xcl [(h0, .inr (0, xo_M (va_up f0 0 (.int 0)))), (h1, .inl (cB, 65536, .inl g_12))] H := by rw [eg_12]; exact hP
  have hD : va_D A [(h0, .inr (0, xo_M (va_up f0 0 (.int 0)))), (h1, .inl (cB, 65536, .inl g_12))] := by rw [eg_12]; exact hD
  refine lv_iinc (v := 4) (lv' := [(6, .int 4), (7, .int x0), (0, .ref h0), (1, .int x0), (2, .int x1), (3, .int x2), (4, .int x3), (5, .int x4)]) hx hb dn_M_feed_117 hl (k := 1) rfl (by decide) (by decide) rfl (fun ls hl => ?_)
  refine lv_goto (tgt := 36) hx hb dn_M_feed_120 (by decide) ?_
  refine lv_iload hx hb dn_M_feed_36 (lv_at hl 0 rfl) ?_
  refine lv_bipush (v := 20) hx hb dn_M_feed_38 (by decide) ?_
  refine lv_icmp_ge (tgt := 123) hx hb dn_M_feed_40 (by decide) (fun h9 => absurd h9 (by decide)) (fun _ => ?_)
  refine lv_iload hx hb dn_M_feed_43 (lv_at hl 0 rfl) ?_
  refine lv_iconst (v := 4) hx hb dn_M_feed_45 (by decide) ?_
  refine lv_icmp_ge (tgt := 53) hx hb dn_M_feed_46 (by decide) (fun _ => ?_) (fun h9 => absurd h9 (by decide))
  refine lv_iload hx hb dn_M_feed_53 (lv_at hl 0 rfl) ?_
  refine lv_bipush (v := 8) hx hb dn_M_feed_55 (by decide) ?_
  refine lv_icmp_ge (tgt := 64) hx hb dn_M_feed_57 (by decide) (fun h9 => absurd h9 (by decide)) (fun _ => ?_)
  refine lv_iload_n hx hb dn_M_feed_60 rfl (lv_at hl 4 rfl) ?_
  refine lv_goto (tgt := 89) hx hb dn_M_feed_61 (by decide) ?_
  refine lv_istore (lv' := [(7, .int x1), (6, .int 4), (0, .ref h0), (1, .int x0), (2, .int x1), (3, .int x2), (4, .int x3), (5, .int x4)]) hx hb dn_M_feed_89 hl (by decide) rfl (fun ls hl => ?_)
  refine lv_aload_n hx hb dn_M_feed_91 rfl (lv_at hl 2 rfl) ?_
  refine va_get (D := (dC, dI)) (ci := 0) (v := .ref h1) (C := rn_M) (T := fn_M) (N := 91) hx hb hg in_M hown hK hP 0 rfl rfl 1 (by decide) (hg _ wn_8_69) (fun _ h9 => h9) (congrArg some hf0_1) dn_M_feed_92 ?_
  refine lv_aload_n hx hb dn_M_feed_95 rfl (lv_at hl 2 rfl) ?_
  refine va_get (D := (dC, dI)) (ci := 0) (v := .int 0) (C := rn_M) (T := fn_M) (N := 91) hx hb hg in_M hown hK hP 0 rfl rfl 88 (by decide) (hg _ wn_8_156) (fun _ h9 => h9) (congrArg some hf0_88) dn_M_feed_96 ?_
  refine lv_iload hx hb dn_M_feed_99 (lv_at hl 1 rfl) ?_
  refine lv_iadd hx hb dn_M_feed_101 ?_
  refine xk_ti (y := 4) (by decide) ?_
  refine lv_iload hx hb dn_M_feed_102 (lv_at hl 0 rfl) ?_
  refine lv_bipush (v := 24) hx hb dn_M_feed_104 (by decide) ?_
  refine lv_bipush (v := 8) hx hb dn_M_feed_106 (by decide) ?_
  refine lv_iload hx hb dn_M_feed_108 (lv_at hl 1 rfl) ?_
  refine lv_iconst (v := 4) hx hb dn_M_feed_110 (by decide) ?_
  refine lv_irem hx hb dn_M_feed_111 (by decide) ?_
  refine xk_ti (y := 0) (by decide) ?_
  refine lv_imul hx hb dn_M_feed_112 ?_
  refine xk_ti (y := 0) (by decide) ?_
  refine lv_isub hx hb dn_M_feed_113 ?_
  refine xk_ti (y := 24) (by decide) ?_
  refine lv_ishr hx hb dn_M_feed_114 ?_
  refine lv_topi (fun z_13 _ => ?_)
  refine lv_i2b hx hb dn_M_feed_115 rfl ?_
  refine lv_topi (fun z_14 ez_14 => ?_)
  refine va_bast hx hb hK hP hD hS 1 1 rfl rfl (show ¬ (_ ∨ _) by decide) dn_M_feed_116 (fun H locs hP hD hS => ?_)
  obtain ⟨g_15, eg_15⟩ : ∃ z : Nat → Int32, z = upd g_12 (4 : Int32).toNatClampNeg (vp_nar .byte z_14) := ⟨_, rfl⟩
  have hP : va_P (dC, dI) xcl [(h0, .inr (0, xo_M (va_up f0 0 (.int 0)))), (h1, .inl (cB, 65536, .inl g_15))] H := by rw [eg_15]; exact hP
  have hD : va_D A [(h0, .inr (0, xo_M (va_up f0 0 (.int 0)))), (h1, .inl (cB, 65536, .inl g_15))] := by rw [eg_15]; exact hD
  refine lv_iinc (v := 5) (lv' := [(6, .int 5), (7, .int x1), (0, .ref h0), (1, .int x0), (2, .int x1), (3, .int x2), (4, .int x3), (5, .int x4)]) hx hb dn_M_feed_117 hl (k := 1) rfl (by decide) (by decide) rfl (fun ls hl => ?_)
  refine lv_goto (tgt := 36) hx hb dn_M_feed_120 (by decide) ?_
  refine lv_iload hx hb dn_M_feed_36 (lv_at hl 0 rfl) ?_
  refine lv_bipush (v := 20) hx hb dn_M_feed_38 (by decide) ?_
  refine lv_icmp_ge (tgt := 123) hx hb dn_M_feed_40 (by decide) (fun h9 => absurd h9 (by decide)) (fun _ => ?_)
  refine lv_iload hx hb dn_M_feed_43 (lv_at hl 0 rfl) ?_
  refine lv_iconst (v := 4) hx hb dn_M_feed_45 (by decide) ?_
  refine lv_icmp_ge (tgt := 53) hx hb dn_M_feed_46 (by decide) (fun _ => ?_) (fun h9 => absurd h9 (by decide))
  refine lv_iload hx hb dn_M_feed_53 (lv_at hl 0 rfl) ?_
  refine lv_bipush (v := 8) hx hb dn_M_feed_55 (by decide) ?_
  refine lv_icmp_ge (tgt := 64) hx hb dn_M_feed_57 (by decide) (fun h9 => absurd h9 (by decide)) (fun _ => ?_)
  refine lv_iload_n hx hb dn_M_feed_60 rfl (lv_at hl 4 rfl) ?_
  refine lv_goto (tgt := 89) hx hb dn_M_feed_61 (by decide) ?_
  refine lv_istore (lv' := [(7, .int x1), (6, .int 5), (0, .ref h0), (1, .int x0), (2, .int x1), (3, .int x2), (4, .int x3), (5, .int x4)]) hx hb dn_M_feed_89 hl (by decide) rfl (fun ls hl => ?_)
  refine lv_aload_n hx hb dn_M_feed_91 rfl (lv_at hl 2 rfl) ?_
  refine va_get (D := (dC, dI)) (ci := 0) (v := .ref h1) (C := rn_M) (T := fn_M) (N := 91) hx hb hg in_M hown hK hP 0 rfl rfl 1 (by decide) (hg _ wn_8_69) (fun _ h9 => h9) (congrArg some hf0_1) dn_M_feed_92 ?_
  refine lv_aload_n hx hb dn_M_feed_95 rfl (lv_at hl 2 rfl) ?_
  refine va_get (D := (dC, dI)) (ci := 0) (v := .int 0) (C := rn_M) (T := fn_M) (N := 91) hx hb hg in_M hown hK hP 0 rfl rfl 88 (by decide) (hg _ wn_8_156) (fun _ h9 => h9) (congrArg some hf0_88) dn_M_feed_96 ?_
  refine lv_iload hx hb dn_M_feed_99 (lv_at hl 1 rfl) ?_
  refine lv_iadd hx hb dn_M_feed_101 ?_
  refine xk_ti (y := 5) (by decide) ?_
  refine lv_iload hx hb dn_M_feed_102 (lv_at hl 0 rfl) ?_
  refine lv_bipush (v := 24) hx hb dn_M_feed_104 (by decide) ?_
  refine lv_bipush (v := 8) hx hb dn_M_feed_106 (by decide) ?_
  refine lv_iload hx hb dn_M_feed_108 (lv_at hl 1 rfl) ?_
  refine lv_iconst (v := 4) hx hb dn_M_feed_110 (by decide) ?_
  refine lv_irem hx hb dn_M_feed_111 (by decide) ?_
  refine xk_ti (y := 1) (by decide) ?_
  refine lv_imul hx hb dn_M_feed_112 ?_
  refine xk_ti (y := 8) (by decide) ?_
  refine lv_isub hx hb dn_M_feed_113 ?_
  refine xk_ti (y := 16) (by decide) ?_
  refine lv_ishr hx hb dn_M_feed_114 ?_
  refine lv_topi (fun z_16 _ => ?_)
  refine lv_i2b hx hb dn_M_feed_115 rfl ?_
  refine lv_topi (fun z_17 ez_17 => ?_)
  refine va_bast hx hb hK hP hD hS 1 1 rfl rfl (show ¬ (_ ∨ _) by decide) dn_M_feed_116 (fun H locs hP hD hS => ?_)
  obtain ⟨g_18, eg_18⟩ : ∃ z : Nat → Int32, z = upd g_15 (5 : Int32).toNatClampNeg (vp_nar .byte z_17) := ⟨_, rfl⟩
  have hP : va_P (dC, dI) xcl [(h0, .inr (0, xo_M (va_up f0 0 (.int 0)))), (h1, .inl (cB, 65536, .inl g_18))] H := by rw [eg_18]; exact hP
  have hD : va_D A [(h0, .inr (0, xo_M (va_up f0 0 (.int 0)))), (h1, .inl (cB, 65536, .inl g_18))] := by rw [eg_18]; exact hD
  refine lv_iinc (v := 6) (lv' := [(6, .int 6), (7, .int x1), (0, .ref h0), (1, .int x0), (2, .int x1), (3, .int x2), (4, .int x3), (5, .int x4)]) hx hb dn_M_feed_117 hl (k := 1) rfl (by decide) (by decide) rfl (fun ls hl => ?_)
  refine lv_goto (tgt := 36) hx hb dn_M_feed_120 (by decide) ?_
  refine lv_iload hx hb dn_M_feed_36 (lv_at hl 0 rfl) ?_
  refine lv_bipush (v := 20) hx hb dn_M_feed_38 (by decide) ?_
  refine lv_icmp_ge (tgt := 123) hx hb dn_M_feed_40 (by decide) (fun h9 => absurd h9 (by decide)) (fun _ => ?_)
  refine lv_iload hx hb dn_M_feed_43 (lv_at hl 0 rfl) ?_
  refine lv_iconst (v := 4) hx hb dn_M_feed_45 (by decide) ?_
  refine lv_icmp_ge (tgt := 53) hx hb dn_M_feed_46 (by decide) (fun _ => ?_) (fun h9 => absurd h9 (by decide))
  refine lv_iload hx hb dn_M_feed_53 (lv_at hl 0 rfl) ?_
  refine lv_bipush (v := 8) hx hb dn_M_feed_55 (by decide) ?_
  refine lv_icmp_ge (tgt := 64) hx hb dn_M_feed_57 (by decide) (fun h9 => absurd h9 (by decide)) (fun _ => ?_)
  refine lv_iload_n hx hb dn_M_feed_60 rfl (lv_at hl 4 rfl) ?_
  refine lv_goto (tgt := 89) hx hb dn_M_feed_61 (by decide) ?_
  refine lv_istore (lv' := [(7, .int x1), (6, .int 6), (0, .ref h0), (1, .int x0), (2, .int x1), (3, .int x2), (4, .int x3), (5, .int x4)]) hx hb dn_M_feed_89 hl (by decide) rfl (fun ls hl => ?_)
  refine lv_aload_n hx hb dn_M_feed_91 rfl (lv_at hl 2 rfl) ?_
  refine va_get (D := (dC, dI)) (ci := 0) (v := .ref h1) (C := rn_M) (T := fn_M) (N := 91) hx hb hg in_M hown hK hP 0 rfl rfl 1 (by decide) (hg _ wn_8_69) (fun _ h9 => h9) (congrArg some hf0_1) dn_M_feed_92 ?_
  refine lv_aload_n hx hb dn_M_feed_95 rfl (lv_at hl 2 rfl) ?_
  refine va_get (D := (dC, dI)) (ci := 0) (v := .int 0) (C := rn_M) (T := fn_M) (N := 91) hx hb hg in_M hown hK hP 0 rfl rfl 88 (by decide) (hg _ wn_8_156) (fun _ h9 => h9) (congrArg some hf0_88) dn_M_feed_96 ?_
  refine lv_iload hx hb dn_M_feed_99 (lv_at hl 1 rfl) ?_
  refine lv_iadd hx hb dn_M_feed_101 ?_
  refine xk_ti (y := 6) (by decide) ?_
  refine lv_iload hx hb dn_M_feed_102 (lv_at hl 0 rfl) ?_
  refine lv_bipush (v := 24) hx hb dn_M_feed_104 (by decide) ?_
  refine lv_bipush (v := 8) hx hb dn_M_feed_106 (by decide) ?_
  refine lv_iload hx hb dn_M_feed_108 (lv_at hl 1 rfl) ?_
  refine lv_iconst (v := 4) hx hb dn_M_feed_110 (by decide) ?_
  refine lv_irem hx hb dn_M_feed_111 (by decide) ?_
  refine xk_ti (y := 2) (by decide) ?_
  refine lv_imul hx hb dn_M_feed_112 ?_
  refine xk_ti (y := 16) (by decide) ?_
  refine lv_isub hx hb dn_M_feed_113 ?_
  refine xk_ti (y := 8) (by decide) ?_
  refine lv_ishr hx hb dn_M_feed_114 ?_
  refine lv_topi (fun z_19 _ => ?_)
  refine lv_i2b hx hb dn_M_feed_115 rfl ?_
  refine lv_topi (fun z_20 ez_20 => ?_)
  refine va_bast hx hb hK hP hD hS 1 1 rfl rfl (show ¬ (_ ∨ _) by decide) dn_M_feed_116 (fun H locs hP hD hS => ?_)
  obtain ⟨g_21, eg_21⟩ : ∃ z : Nat → Int32, z = upd g_18 (6 : Int32).toNatClampNeg (vp_nar .byte z_20) := ⟨_, rfl⟩
  have hP : va_P (dC, dI) xcl [(h0, .inr (0, xo_M (va_up f0 0 (.int 0)))), (h1, .inl (cB, 65536, .inl g_21))] H := by rw [eg_21]; exact hP
  have hD : va_D A [(h0, .inr (0, xo_M (va_up f0 0 (.int 0)))), (h1, .inl (cB, 65536, .inl g_21))] := by rw [eg_21]; exact hD
  refine lv_iinc (v := 7) (lv' := [(6, .int 7), (7, .int x1), (0, .ref h0), (1, .int x0), (2, .int x1), (3, .int x2), (4, .int x3), (5, .int x4)]) hx hb dn_M_feed_117 hl (k := 1) rfl (by decide) (by decide) rfl (fun ls hl => ?_)
  refine lv_goto (tgt := 36) hx hb dn_M_feed_120 (by decide) ?_
  refine lv_iload hx hb dn_M_feed_36 (lv_at hl 0 rfl) ?_
  refine lv_bipush (v := 20) hx hb dn_M_feed_38 (by decide) ?_
  refine lv_icmp_ge (tgt := 123) hx hb dn_M_feed_40 (by decide) (fun h9 => absurd h9 (by decide)) (fun _ => ?_)
  refine lv_iload hx hb dn_M_feed_43 (lv_at hl 0 rfl) ?_
  refine lv_iconst (v := 4) hx hb dn_M_feed_45 (by decide) ?_
  refine lv_icmp_ge (tgt := 53) hx hb dn_M_feed_46 (by decide) (fun _ => ?_) (fun h9 => absurd h9 (by decide))
  refine lv_iload hx hb dn_M_feed_53 (lv_at hl 0 rfl) ?_
  refine lv_bipush (v := 8) hx hb dn_M_feed_55 (by decide) ?_
  refine lv_icmp_ge (tgt := 64) hx hb dn_M_feed_57 (by decide) (fun h9 => absurd h9 (by decide)) (fun _ => ?_)
  refine lv_iload_n hx hb dn_M_feed_60 rfl (lv_at hl 4 rfl) ?_
  refine lv_goto (tgt := 89) hx hb dn_M_feed_61 (by decide) ?_
  refine lv_istore (lv' := [(7, .int x1), (6, .int 7), (0, .ref h0), (1, .int x0), (2, .int x1), (3, .int x2), (4, .int x3), (5, .int x4)]) hx hb dn_M_feed_89 hl (by decide) rfl (fun ls hl => ?_)
  refine lv_aload_n hx hb dn_M_feed_91 rfl (lv_at hl 2 rfl) ?_
  refine va_get (D := (dC, dI)) (ci := 0) (v := .ref h1) (C := rn_M) (T := fn_M) (N := 91) hx hb hg in_M hown hK hP 0 rfl rfl 1 (by decide) (hg _ wn_8_69) (fun _ h9 => h9) (congrArg some hf0_1) dn_M_feed_92 ?_
  refine lv_aload_n hx hb dn_M_feed_95 rfl (lv_at hl 2 rfl) ?_
  refine va_get (D := (dC, dI)) (ci := 0) (v := .int 0) (C := rn_M) (T := fn_M) (N := 91) hx hb hg in_M hown hK hP 0 rfl rfl 88 (by decide) (hg _ wn_8_156) (fun _ h9 => h9) (congrArg some hf0_88) dn_M_feed_96 ?_
  refine lv_iload hx hb dn_M_feed_99 (lv_at hl 1 rfl) ?_
  refine lv_iadd hx hb dn_M_feed_101 ?_
  refine xk_ti (y := 7) (by decide) ?_
  refine lv_iload hx hb dn_M_feed_102 (lv_at hl 0 rfl) ?_
  refine lv_bipush (v := 24) hx hb dn_M_feed_104 (by decide) ?_
  refine lv_bipush (v := 8) hx hb dn_M_feed_106 (by decide) ?_
  refine lv_iload hx hb dn_M_feed_108 (lv_at hl 1 rfl) ?_
  refine lv_iconst (v := 4) hx hb dn_M_feed_110 (by decide) ?_
  refine lv_irem hx hb dn_M_feed_111 (by decide) ?_
  refine xk_ti (y := 3) (by decide) ?_
  refine lv_imul hx hb dn_M_feed_112 ?_
  refine xk_ti (y := 24) (by decide) ?_
  refine lv_isub hx hb dn_M_feed_113 ?_
  refine xk_ti (y := 0) (by decide) ?_
  refine lv_ishr hx hb dn_M_feed_114 ?_
  refine lv_topi (fun z_22 _ => ?_)
  refine lv_i2b hx hb dn_M_feed_115 rfl ?_
  refine lv_topi (fun z_23 ez_23 => ?_)
  refine va_bast hx hb hK hP hD hS 1 1 rfl rfl (show ¬ (_ ∨ _) by decide) dn_M_feed_116 (fun H locs hP hD hS => ?_)
  obtain ⟨g_24, eg_24⟩ : ∃ z : Nat → Int32, z = upd g_21 (7 : Int32).toNatClampNeg (vp_nar .byte z_23) := ⟨_, rfl⟩
  have hP : va_P (dC, dI) xcl [(h0, .inr (0, xo_M (va_up f0 0 (.int 0)))), (h1, .inl (cB, 65536, .inl g_24))] H := by rw [eg_24]; exact hP
  have hD : va_D A [(h0, .inr (0, xo_M (va_up f0 0 (.int 0)))), (h1, .inl (cB, 65536, .inl g_24))] := by rw [eg_24]; exact hD
  refine lv_iinc (v := 8) (lv' := [(6, .int 8), (7, .int x1), (0, .ref h0), (1, .int x0), (2, .int x1), (3, .int x2), (4, .int x3), (5, .int x4)]) hx hb dn_M_feed_117 hl (k := 1) rfl (by decide) (by decide) rfl (fun ls hl => ?_)
  refine lv_goto (tgt := 36) hx hb dn_M_feed_120 (by decide) ?_
  refine lv_iload hx hb dn_M_feed_36 (lv_at hl 0 rfl) ?_
  refine lv_bipush (v := 20) hx hb dn_M_feed_38 (by decide) ?_
  refine lv_icmp_ge (tgt := 123) hx hb dn_M_feed_40 (by decide) (fun h9 => absurd h9 (by decide)) (fun _ => ?_)
  refine lv_iload hx hb dn_M_feed_43 (lv_at hl 0 rfl) ?_
  refine lv_iconst (v := 4) hx hb dn_M_feed_45 (by decide) ?_
  refine lv_icmp_ge (tgt := 53) hx hb dn_M_feed_46 (by decide) (fun _ => ?_) (fun h9 => absurd h9 (by decide))
  refine lv_iload hx hb dn_M_feed_53 (lv_at hl 0 rfl) ?_
  refine lv_bipush (v := 8) hx hb dn_M_feed_55 (by decide) ?_
  refine lv_icmp_ge (tgt := 64) hx hb dn_M_feed_57 (by decide) (fun _ => ?_) (fun h9 => absurd h9 (by decide))
  refine lv_iload hx hb dn_M_feed_64 (lv_at hl 0 rfl) ?_
  refine lv_bipush (v := 12) hx hb dn_M_feed_66 (by decide) ?_
  refine lv_icmp_ge (tgt := 75) hx hb dn_M_feed_68 (by decide) (fun h9 => absurd h9 (by decide)) (fun _ => ?_)
  refine lv_iload_n hx hb dn_M_feed_71 rfl (lv_at hl 5 rfl) ?_
  refine lv_goto (tgt := 89) hx hb dn_M_feed_72 (by decide) ?_
  refine lv_istore (lv' := [(7, .int x2), (6, .int 8), (0, .ref h0), (1, .int x0), (2, .int x1), (3, .int x2), (4, .int x3), (5, .int x4)]) hx hb dn_M_feed_89 hl (by decide) rfl (fun ls hl => ?_)
  refine lv_aload_n hx hb dn_M_feed_91 rfl (lv_at hl 2 rfl) ?_
  refine va_get (D := (dC, dI)) (ci := 0) (v := .ref h1) (C := rn_M) (T := fn_M) (N := 91) hx hb hg in_M hown hK hP 0 rfl rfl 1 (by decide) (hg _ wn_8_69) (fun _ h9 => h9) (congrArg some hf0_1) dn_M_feed_92 ?_
  refine lv_aload_n hx hb dn_M_feed_95 rfl (lv_at hl 2 rfl) ?_
  refine va_get (D := (dC, dI)) (ci := 0) (v := .int 0) (C := rn_M) (T := fn_M) (N := 91) hx hb hg in_M hown hK hP 0 rfl rfl 88 (by decide) (hg _ wn_8_156) (fun _ h9 => h9) (congrArg some hf0_88) dn_M_feed_96 ?_
  refine lv_iload hx hb dn_M_feed_99 (lv_at hl 1 rfl) ?_
  refine lv_iadd hx hb dn_M_feed_101 ?_
  refine xk_ti (y := 8) (by decide) ?_
  refine lv_iload hx hb dn_M_feed_102 (lv_at hl 0 rfl) ?_
  refine lv_bipush (v := 24) hx hb dn_M_feed_104 (by decide) ?_
  refine lv_bipush (v := 8) hx hb dn_M_feed_106 (by decide) ?_
  refine lv_iload hx hb dn_M_feed_108 (lv_at hl 1 rfl) ?_
  refine lv_iconst (v := 4) hx hb dn_M_feed_110 (by decide) ?_
  refine lv_irem hx hb dn_M_feed_111 (by decide) ?_
  refine xk_ti (y := 0) (by decide) ?_
  refine lv_imul hx hb dn_M_feed_112 ?_
  refine xk_ti (y := 0) (by decide) ?_
  refine lv_isub hx hb dn_M_feed_113 ?_
  refine xk_ti (y := 24) (by decide) ?_
  refine lv_ishr hx hb dn_M_feed_114 ?_
  refine lv_topi (fun z_25 _ => ?_)
  refine lv_i2b hx hb dn_M_feed_115 rfl ?_
  refine lv_topi (fun z_26 ez_26 => ?_)
  refine va_bast hx hb hK hP hD hS 1 1 rfl rfl (show ¬ (_ ∨ _) by decide) dn_M_feed_116 (fun H locs hP hD hS => ?_)
  obtain ⟨g_27, eg_27⟩ : ∃ z : Nat → Int32, z = upd g_24 (8 : Int32).toNatClampNeg (vp_nar .byte z_26) := ⟨_, rfl⟩
  have hP : va_P (dC, dI) xcl [(h0, .inr (0, xo_M (va_up f0 0 (.int 0)))), (h1, .inl (cB, 65536, .inl g_27))] H := by rw [eg_27]; exact hP
  have hD : va_D A [(h0, .inr (0, xo_M (va_up f0 0 (.int 0)))), (h1, .inl (cB, 65536, .inl g_27))] := by rw [eg_27]; exact hD
  refine lv_iinc (v := 9) (lv' := [(6, .int 9), (7, .int x2), (0, .ref h0), (1, .int x0), (2, .int x1), (3, .int x2), (4, .int x3), (5, .int x4)]) hx hb dn_M_feed_117 hl (k := 1) rfl (by decide) (by decide) rfl (fun ls hl => ?_)
  refine lv_goto (tgt := 36) hx hb dn_M_feed_120 (by decide) ?_
  refine lv_iload hx hb dn_M_feed_36 (lv_at hl 0 rfl) ?_
  refine lv_bipush (v := 20) hx hb dn_M_feed_38 (by decide) ?_
  refine lv_icmp_ge (tgt := 123) hx hb dn_M_feed_40 (by decide) (fun h9 => absurd h9 (by decide)) (fun _ => ?_)
  refine lv_iload hx hb dn_M_feed_43 (lv_at hl 0 rfl) ?_
  refine lv_iconst (v := 4) hx hb dn_M_feed_45 (by decide) ?_
  refine lv_icmp_ge (tgt := 53) hx hb dn_M_feed_46 (by decide) (fun _ => ?_) (fun h9 => absurd h9 (by decide))
  refine lv_iload hx hb dn_M_feed_53 (lv_at hl 0 rfl) ?_
  refine lv_bipush (v := 8) hx hb dn_M_feed_55 (by decide) ?_
  refine lv_icmp_ge (tgt := 64) hx hb dn_M_feed_57 (by decide) (fun _ => ?_) (fun h9 => absurd h9 (by decide))
  refine lv_iload hx hb dn_M_feed_64 (lv_at hl 0 rfl) ?_
  refine lv_bipush (v := 12) hx hb dn_M_feed_66 (by decide) ?_
  refine lv_icmp_ge (tgt := 75) hx hb dn_M_feed_68 (by decide) (fun h9 => absurd h9 (by decide)) (fun _ => ?_)
  refine lv_iload_n hx hb dn_M_feed_71 rfl (lv_at hl 5 rfl) ?_
  refine lv_goto (tgt := 89) hx hb dn_M_feed_72 (by decide) ?_
  refine lv_istore (lv' := [(7, .int x2), (6, .int 9), (0, .ref h0), (1, .int x0), (2, .int x1), (3, .int x2), (4, .int x3), (5, .int x4)]) hx hb dn_M_feed_89 hl (by decide) rfl (fun ls hl => ?_)
  refine lv_aload_n hx hb dn_M_feed_91 rfl (lv_at hl 2 rfl) ?_
  refine va_get (D := (dC, dI)) (ci := 0) (v := .ref h1) (C := rn_M) (T := fn_M) (N := 91) hx hb hg in_M hown hK hP 0 rfl rfl 1 (by decide) (hg _ wn_8_69) (fun _ h9 => h9) (congrArg some hf0_1) dn_M_feed_92 ?_
  refine lv_aload_n hx hb dn_M_feed_95 rfl (lv_at hl 2 rfl) ?_
  refine va_get (D := (dC, dI)) (ci := 0) (v := .int 0) (C := rn_M) (T := fn_M) (N := 91) hx hb hg in_M hown hK hP 0 rfl rfl 88 (by decide) (hg _ wn_8_156) (fun _ h9 => h9) (congrArg some hf0_88) dn_M_feed_96 ?_
  refine lv_iload hx hb dn_M_feed_99 (lv_at hl 1 rfl) ?_
  refine lv_iadd hx hb dn_M_feed_101 ?_
  refine xk_ti (y := 9) (by decide) ?_
  refine lv_iload hx hb dn_M_feed_102 (lv_at hl 0 rfl) ?_
  refine lv_bipush (v := 24) hx hb dn_M_feed_104 (by decide) ?_
  refine lv_bipush (v := 8) hx hb dn_M_feed_106 (by decide) ?_
  refine lv_iload hx hb dn_M_feed_108 (lv_at hl 1 rfl) ?_
  refine lv_iconst (v := 4) hx hb dn_M_feed_110 (by decide) ?_
  refine lv_irem hx hb dn_M_feed_111 (by decide) ?_
  refine xk_ti (y := 1) (by decide) ?_
  refine lv_imul hx hb dn_M_feed_112 ?_
  refine xk_ti (y := 8) (by decide) ?_
  refine lv_isub hx hb dn_M_feed_113 ?_
  refine xk_ti (y := 16) (by decide) ?_
  refine lv_ishr hx hb dn_M_feed_114 ?_
  refine lv_topi (fun z_28 _ => ?_)
  refine lv_i2b hx hb dn_M_feed_115 rfl ?_
  refine lv_topi (fun z_29 ez_29 => ?_)
  refine va_bast hx hb hK hP hD hS 1 1 rfl rfl (show ¬ (_ ∨ _) by decide) dn_M_feed_116 (fun H locs hP hD hS => ?_)
  obtain ⟨g_30, eg_30⟩ : ∃ z : Nat → Int32, z = upd g_27 (9 : Int32).toNatClampNeg (vp_nar .byte z_29) := ⟨_, rfl⟩
  have hP : va_P (dC, dI) xcl [(h0, .inr (0, xo_M (va_up f0 0 (.int 0)))), (h1, .inl (cB, 65536, .inl g_30))] H := by rw [eg_30]; exact hP
  have hD : va_D A [(h0, .inr (0, xo_M (va_up f0 0 (.int 0)))), (h1, .inl (cB, 65536, .inl g_30))] := by rw [eg_30]; exact hD
  refine lv_iinc (v := 10) (lv' := [(6, .int 10), (7, .int x2), (0, .ref h0), (1, .int x0), (2, .int x1), (3, .int x2), (4, .int x3), (5, .int x4)]) hx hb dn_M_feed_117 hl (k := 1) rfl (by decide) (by decide) rfl (fun ls hl => ?_)
  refine lv_goto (tgt := 36) hx hb dn_M_feed_120 (by decide) ?_
  refine lv_iload hx hb dn_M_feed_36 (lv_at hl 0 rfl) ?_
  refine lv_bipush (v := 20) hx hb dn_M_feed_38 (by decide) ?_
  refine lv_icmp_ge (tgt := 123) hx hb dn_M_feed_40 (by decide) (fun h9 => absurd h9 (by decide)) (fun _ => ?_)
  refine lv_iload hx hb dn_M_feed_43 (lv_at hl 0 rfl) ?_
  refine lv_iconst (v := 4) hx hb dn_M_feed_45 (by decide) ?_
  refine lv_icmp_ge (tgt := 53) hx hb dn_M_feed_46 (by decide) (fun _ => ?_) (fun h9 => absurd h9 (by decide))
  refine lv_iload hx hb dn_M_feed_53 (lv_at hl 0 rfl) ?_
  refine lv_bipush (v := 8) hx hb dn_M_feed_55 (by decide) ?_
  refine lv_icmp_ge (tgt := 64) hx hb dn_M_feed_57 (by decide) (fun _ => ?_) (fun h9 => absurd h9 (by decide))
  refine lv_iload hx hb dn_M_feed_64 (lv_at hl 0 rfl) ?_
  refine lv_bipush (v := 12) hx hb dn_M_feed_66 (by decide) ?_
  refine lv_icmp_ge (tgt := 75) hx hb dn_M_feed_68 (by decide) (fun h9 => absurd h9 (by decide)) (fun _ => ?_)
  refine lv_iload_n hx hb dn_M_feed_71 rfl (lv_at hl 5 rfl) ?_
  refine lv_goto (tgt := 89) hx hb dn_M_feed_72 (by decide) ?_
  refine lv_istore (lv' := [(7, .int x2), (6, .int 10), (0, .ref h0), (1, .int x0), (2, .int x1), (3, .int x2), (4, .int x3), (5, .int x4)]) hx hb dn_M_feed_89 hl (by decide) rfl (fun ls hl => ?_)
  refine lv_aload_n hx hb dn_M_feed_91 rfl (lv_at hl 2 rfl) ?_
  refine va_get (D := (dC, dI)) (ci := 0) (v := .ref h1) (C := rn_M) (T := fn_M) (N := 91) hx hb hg in_M hown hK hP 0 rfl rfl 1 (by decide) (hg _ wn_8_69) (fun _ h9 => h9) (congrArg some hf0_1) dn_M_feed_92 ?_
  refine lv_aload_n hx hb dn_M_feed_95 rfl (lv_at hl 2 rfl) ?_
  refine va_get (D := (dC, dI)) (ci := 0) (v := .int 0) (C := rn_M) (T := fn_M) (N := 91) hx hb hg in_M hown hK hP 0 rfl rfl 88 (by decide) (hg _ wn_8_156) (fun _ h9 => h9) (congrArg some hf0_88) dn_M_feed_96 ?_
  refine lv_iload hx hb dn_M_feed_99 (lv_at hl 1 rfl) ?_
  refine lv_iadd hx hb dn_M_feed_101 ?_
  refine xk_ti (y := 10) (by decide) ?_
  refine lv_iload hx hb dn_M_feed_102 (lv_at hl 0 rfl) ?_
  refine lv_bipush (v := 24) hx hb dn_M_feed_104 (by decide) ?_
  refine lv_bipush (v := 8) hx hb dn_M_feed_106 (by decide) ?_
  refine lv_iload hx hb dn_M_feed_108 (lv_at hl 1 rfl) ?_
  refine lv_iconst (v := 4) hx hb dn_M_feed_110 (by decide) ?_
  refine lv_irem hx hb dn_M_feed_111 (by decide) ?_
  refine xk_ti (y := 2) (by decide) ?_
  refine lv_imul hx hb dn_M_feed_112 ?_
  refine xk_ti (y := 16) (by decide) ?_
  refine lv_isub hx hb dn_M_feed_113 ?_
  refine xk_ti (y := 8) (by decide) ?_
  refine lv_ishr hx hb dn_M_feed_114 ?_
  refine lv_topi (fun z_31 _ => ?_)
  refine lv_i2b hx hb dn_M_feed_115 rfl ?_
  refine lv_topi (fun z_32 ez_32 => ?_)
  refine va_bast hx hb hK hP hD hS 1 1 rfl rfl (show ¬ (_ ∨ _) by decide) dn_M_feed_116 (fun H locs hP hD hS => ?_)
  obtain ⟨g_33, eg_33⟩ : ∃ z : Nat → Int32, z = upd g_30 (10 : Int32).toNatClampNeg (vp_nar .byte z_32) := ⟨_, rfl⟩
  have hP : va_P (dC, dI) xcl [(h0, .inr (0, xo_M (va_up f0 0 (.int 0)))), (h1, .inl (cB, 65536, .inl g_33))] H := by rw [eg_33]; exact hP
  have hD : va_D A [(h0, .inr (0, xo_M (va_up f0 0 (.int 0)))), (h1, .inl (cB, 65536, .inl g_33))] := by rw [eg_33]; exact hD
  refine lv_iinc (v := 11) (lv' := [(6, .int 11), (7, .int x2), (0, .ref h0), (1, .int x0), (2, .int x1), (3, .int x2), (4, .int x3), (5, .int x4)]) hx hb dn_M_feed_117 hl (k := 1) rfl (by decide) (by decide) rfl (fun ls hl => ?_)
  refine lv_goto (tgt := 36) hx hb dn_M_feed_120 (by decide) ?_
  refine lv_iload hx hb dn_M_feed_36 (lv_at hl 0 rfl) ?_
  refine lv_bipush (v := 20) hx hb dn_M_feed_38 (by decide) ?_
  refine lv_icmp_ge (tgt := 123) hx hb dn_M_feed_40 (by decide) (fun h9 => absurd h9 (by decide)) (fun _ => ?_)
  refine lv_iload hx hb dn_M_feed_43 (lv_at hl 0 rfl) ?_
  refine lv_iconst (v := 4) hx hb dn_M_feed_45 (by decide) ?_
  refine lv_icmp_ge (tgt := 53) hx hb dn_M_feed_46 (by decide) (fun _ => ?_) (fun h9 => absurd h9 (by decide))
  refine lv_iload hx hb dn_M_feed_53 (lv_at hl 0 rfl) ?_
  refine lv_bipush (v := 8) hx hb dn_M_feed_55 (by decide) ?_
  refine lv_icmp_ge (tgt := 64) hx hb dn_M_feed_57 (by decide) (fun _ => ?_) (fun h9 => absurd h9 (by decide))
  refine lv_iload hx hb dn_M_feed_64 (lv_at hl 0 rfl) ?_
  refine lv_bipush (v := 12) hx hb dn_M_feed_66 (by decide) ?_
  refine lv_icmp_ge (tgt := 75) hx hb dn_M_feed_68 (by decide) (fun h9 => absurd h9 (by decide)) (fun _ => ?_)
  refine lv_iload_n hx hb dn_M_feed_71 rfl (lv_at hl 5 rfl) ?_
  refine lv_goto (tgt := 89) hx hb dn_M_feed_72 (by decide) ?_
  refine lv_istore (lv' := [(7, .int x2), (6, .int 11), (0, .ref h0), (1, .int x0), (2, .int x1), (3, .int x2), (4, .int x3), (5, .int x4)]) hx hb dn_M_feed_89 hl (by decide) rfl (fun ls hl => ?_)
  refine lv_aload_n hx hb dn_M_feed_91 rfl (lv_at hl 2 rfl) ?_
  refine va_get (D := (dC, dI)) (ci := 0) (v := .ref h1) (C := rn_M) (T := fn_M) (N := 91) hx hb hg in_M hown hK hP 0 rfl rfl 1 (by decide) (hg _ wn_8_69) (fun _ h9 => h9) (congrArg some hf0_1) dn_M_feed_92 ?_
  refine lv_aload_n hx hb dn_M_feed_95 rfl (lv_at hl 2 rfl) ?_
  refine va_get (D := (dC, dI)) (ci := 0) (v := .int 0) (C := rn_M) (T := fn_M) (N := 91) hx hb hg in_M hown hK hP 0 rfl rfl 88 (by decide) (hg _ wn_8_156) (fun _ h9 => h9) (congrArg some hf0_88) dn_M_feed_96 ?_
  refine lv_iload hx hb dn_M_feed_99 (lv_at hl 1 rfl) ?_
  refine lv_iadd hx hb dn_M_feed_101 ?_
  refine xk_ti (y := 11) (by decide) ?_
  refine lv_iload hx hb dn_M_feed_102 (lv_at hl 0 rfl) ?_
  refine lv_bipush (v := 24) hx hb dn_M_feed_104 (by decide) ?_
  refine lv_bipush (v := 8) hx hb dn_M_feed_106 (by decide) ?_
  refine lv_iload hx hb dn_M_feed_108 (lv_at hl 1 rfl) ?_
  refine lv_iconst (v := 4) hx hb dn_M_feed_110 (by decide) ?_
  refine lv_irem hx hb dn_M_feed_111 (by decide) ?_
  refine xk_ti (y := 3) (by decide) ?_
  refine lv_imul hx hb dn_M_feed_112 ?_
  refine xk_ti (y := 24) (by decide) ?_
  refine lv_isub hx hb dn_M_feed_113 ?_
  refine xk_ti (y := 0) (by decide) ?_
  refine lv_ishr hx hb dn_M_feed_114 ?_
  refine lv_topi (fun z_34 _ => ?_)
  refine lv_i2b hx hb dn_M_feed_115 rfl ?_
  refine lv_topi (fun z_35 ez_35 => ?_)
  refine va_bast hx hb hK hP hD hS 1 1 rfl rfl (show ¬ (_ ∨ _) by decide) dn_M_feed_116 (fun H locs hP hD hS => ?_)
  obtain ⟨g_36, eg_36⟩ : ∃ z : Nat → Int32, z = upd g_33 (11 : Int32).toNatClampNeg (vp_nar .byte z_35) := ⟨_, rfl⟩
  have hP : va_P (dC, dI) xcl [(h0, .inr (0, xo_M (va_up f0 0 (.int 0)))), (h1, .inl (cB, 65536, .inl g_36))] H := by rw [eg_36]; exact hP
  have hD : va_D A [(h0, .inr (0, xo_M (va_up f0 0 (.int 0)))), (h1, .inl (cB, 65536, .inl g_36))] := by rw [eg_36]; exact hD
  refine lv_iinc (v := 12) (lv' := [(6, .int 12), (7, .int x2), (0, .ref h0), (1, .int x0), (2, .int x1), (3, .int x2), (4, .int x3), (5, .int x4)]) hx hb dn_M_feed_117 hl (k := 1) rfl (by decide) (by decide) rfl (fun ls hl => ?_)
  refine lv_goto (tgt := 36) hx hb dn_M_feed_120 (by decide) ?_
  refine lv_iload hx hb dn_M_feed_36 (lv_at hl 0 rfl) ?_
  refine lv_bipush (v := 20) hx hb dn_M_feed_38 (by decide) ?_
  refine lv_icmp_ge (tgt := 123) hx hb dn_M_feed_40 (by decide) (fun h9 => absurd h9 (by decide)) (fun _ => ?_)
  refine lv_iload hx hb dn_M_feed_43 (lv_at hl 0 rfl) ?_
  refine lv_iconst (v := 4) hx hb dn_M_feed_45 (by decide) ?_
  refine lv_icmp_ge (tgt := 53) hx hb dn_M_feed_46 (by decide) (fun _ => ?_) (fun h9 => absurd h9 (by decide))
  refine lv_iload hx hb dn_M_feed_53 (lv_at hl 0 rfl) ?_
  refine lv_bipush (v := 8) hx hb dn_M_feed_55 (by decide) ?_
  refine lv_icmp_ge (tgt := 64) hx hb dn_M_feed_57 (by decide) (fun _ => ?_) (fun h9 => absurd h9 (by decide))
  refine lv_iload hx hb dn_M_feed_64 (lv_at hl 0 rfl) ?_
  refine lv_bipush (v := 12) hx hb dn_M_feed_66 (by decide) ?_
  refine lv_icmp_ge (tgt := 75) hx hb dn_M_feed_68 (by decide) (fun _ => ?_) (fun h9 => absurd h9 (by decide))
  refine lv_iload hx hb dn_M_feed_75 (lv_at hl 0 rfl) ?_
  refine lv_bipush (v := 16) hx hb dn_M_feed_77 (by decide) ?_
  refine lv_icmp_ge (tgt := 87) hx hb dn_M_feed_79 (by decide) (fun h9 => absurd h9 (by decide)) (fun _ => ?_)
  refine lv_iload hx hb dn_M_feed_82 (lv_at hl 6 rfl) ?_
  refine lv_goto (tgt := 89) hx hb dn_M_feed_84 (by decide) ?_
  refine lv_istore (lv' := [(7, .int x3), (6, .int 12), (0, .ref h0), (1, .int x0), (2, .int x1), (3, .int x2), (4, .int x3), (5, .int x4)]) hx hb dn_M_feed_89 hl (by decide) rfl (fun ls hl => ?_)
  refine lv_aload_n hx hb dn_M_feed_91 rfl (lv_at hl 2 rfl) ?_
  refine va_get (D := (dC, dI)) (ci := 0) (v := .ref h1) (C := rn_M) (T := fn_M) (N := 91) hx hb hg in_M hown hK hP 0 rfl rfl 1 (by decide) (hg _ wn_8_69) (fun _ h9 => h9) (congrArg some hf0_1) dn_M_feed_92 ?_
  refine lv_aload_n hx hb dn_M_feed_95 rfl (lv_at hl 2 rfl) ?_
  refine va_get (D := (dC, dI)) (ci := 0) (v := .int 0) (C := rn_M) (T := fn_M) (N := 91) hx hb hg in_M hown hK hP 0 rfl rfl 88 (by decide) (hg _ wn_8_156) (fun _ h9 => h9) (congrArg some hf0_88) dn_M_feed_96 ?_
  refine lv_iload hx hb dn_M_feed_99 (lv_at hl 1 rfl) ?_
  refine lv_iadd hx hb dn_M_feed_101 ?_
  refine xk_ti (y := 12) (by decide) ?_
  refine lv_iload hx hb dn_M_feed_102 (lv_at hl 0 rfl) ?_
  refine lv_bipush (v := 24) hx hb dn_M_feed_104 (by decide) ?_
  refine lv_bipush (v := 8) hx hb dn_M_feed_106 (by decide) ?_
  refine lv_iload hx hb dn_M_feed_108 (lv_at hl 1 rfl) ?_
  refine lv_iconst (v := 4) hx hb dn_M_feed_110 (by decide) ?_
  refine lv_irem hx hb dn_M_feed_111 (by decide) ?_
  refine xk_ti (y := 0) (by decide) ?_
  refine lv_imul hx hb dn_M_feed_112 ?_
  refine xk_ti (y := 0) (by decide) ?_
  refine lv_isub hx hb dn_M_feed_113 ?_
  refine xk_ti (y := 24) (by decide) ?_
  refine lv_ishr hx hb dn_M_feed_114 ?_
  refine lv_topi (fun z_37 _ => ?_)
  refine lv_i2b hx hb dn_M_feed_115 rfl ?_
  refine lv_topi (fun z_38 ez_38 => ?_)
  refine va_bast hx hb hK hP hD hS 1 1 rfl rfl (show ¬ (_ ∨ _) by decide) dn_M_feed_116 (fun H locs hP hD hS => ?_)
  obtain ⟨g_39, eg_39⟩ : ∃ z : Nat → Int32, z = upd g_36 (12 : Int32).toNatClampNeg (vp_nar .byte z_38) := ⟨_, rfl⟩
  have hP : va_P (dC, dI) xcl [(h0, .inr (0, xo_M (va_up f0 0 (.int 0)))), (h1, .inl (cB, 65536, .inl g_39))] H := by rw [eg_39]; exact hP
  have hD : va_D A [(h0, .inr (0, xo_M (va_up f0 0 (.int 0)))), (h1, .inl (cB, 65536, .inl g_39))] := by rw [eg_39]; exact hD
  refine lv_iinc (v := 13) (lv' := [(6, .int 13), (7, .int x3), (0, .ref h0), (1, .int x0), (2, .int x1), (3, .int x2), (4, .int x3), (5, .int x4)]) hx hb dn_M_feed_117 hl (k := 1) rfl (by decide) (by decide) rfl (fun ls hl => ?_)
  refine lv_goto (tgt := 36) hx hb dn_M_feed_120 (by decide) ?_
  refine lv_iload hx hb dn_M_feed_36 (lv_at hl 0 rfl) ?_
  refine lv_bipush (v := 20) hx hb dn_M_feed_38 (by decide) ?_
  refine lv_icmp_ge (tgt := 123) hx hb dn_M_feed_40 (by decide) (fun h9 => absurd h9 (by decide)) (fun _ => ?_)
  refine lv_iload hx hb dn_M_feed_43 (lv_at hl 0 rfl) ?_
  refine lv_iconst (v := 4) hx hb dn_M_feed_45 (by decide) ?_
  refine lv_icmp_ge (tgt := 53) hx hb dn_M_feed_46 (by decide) (fun _ => ?_) (fun h9 => absurd h9 (by decide))
  refine lv_iload hx hb dn_M_feed_53 (lv_at hl 0 rfl) ?_
  refine lv_bipush (v := 8) hx hb dn_M_feed_55 (by decide) ?_
  refine lv_icmp_ge (tgt := 64) hx hb dn_M_feed_57 (by decide) (fun _ => ?_) (fun h9 => absurd h9 (by decide))
  refine lv_iload hx hb dn_M_feed_64 (lv_at hl 0 rfl) ?_
  refine lv_bipush (v := 12) hx hb dn_M_feed_66 (by decide) ?_
  refine lv_icmp_ge (tgt := 75) hx hb dn_M_feed_68 (by decide) (fun _ => ?_) (fun h9 => absurd h9 (by decide))
  refine lv_iload hx hb dn_M_feed_75 (lv_at hl 0 rfl) ?_
  refine lv_bipush (v := 16) hx hb dn_M_feed_77 (by decide) ?_
  refine lv_icmp_ge (tgt := 87) hx hb dn_M_feed_79 (by decide) (fun h9 => absurd h9 (by decide)) (fun _ => ?_)
  refine lv_iload hx hb dn_M_feed_82 (lv_at hl 6 rfl) ?_
  refine lv_goto (tgt := 89) hx hb dn_M_feed_84 (by decide) ?_
  refine lv_istore (lv' := [(7, .int x3), (6, .int 13), (0, .ref h0), (1, .int x0), (2, .int x1), (3, .int x2), (4, .int x3), (5, .int x4)]) hx hb dn_M_feed_89 hl (by decide) rfl (fun ls hl => ?_)
  refine lv_aload_n hx hb dn_M_feed_91 rfl (lv_at hl 2 rfl) ?_
  refine va_get (D := (dC, dI)) (ci := 0) (v := .ref h1) (C := rn_M) (T := fn_M) (N := 91) hx hb hg in_M hown hK hP 0 rfl rfl 1 (by decide) (hg _ wn_8_69) (fun _ h9 => h9) (congrArg some hf0_1) dn_M_feed_92 ?_
  refine lv_aload_n hx hb dn_M_feed_95 rfl (lv_at hl 2 rfl) ?_
  refine va_get (D := (dC, dI)) (ci := 0) (v := .int 0) (C := rn_M) (T := fn_M) (N := 91) hx hb hg in_M hown hK hP 0 rfl rfl 88 (by decide) (hg _ wn_8_156) (fun _ h9 => h9) (congrArg some hf0_88) dn_M_feed_96 ?_
  refine lv_iload hx hb dn_M_feed_99 (lv_at hl 1 rfl) ?_
  refine lv_iadd hx hb dn_M_feed_101 ?_
  refine xk_ti (y := 13) (by decide) ?_
  refine lv_iload hx hb dn_M_feed_102 (lv_at hl 0 rfl) ?_
  refine lv_bipush (v := 24) hx hb dn_M_feed_104 (by decide) ?_
  refine lv_bipush (v := 8) hx hb dn_M_feed_106 (by decide) ?_
  refine lv_iload hx hb dn_M_feed_108 (lv_at hl 1 rfl) ?_
  refine lv_iconst (v := 4) hx hb dn_M_feed_110 (by decide) ?_
  refine lv_irem hx hb dn_M_feed_111 (by decide) ?_
  refine xk_ti (y := 1) (by decide) ?_
  refine lv_imul hx hb dn_M_feed_112 ?_
  refine xk_ti (y := 8) (by decide) ?_
  refine lv_isub hx hb dn_M_feed_113 ?_
  refine xk_ti (y := 16) (by decide) ?_
  refine lv_ishr hx hb dn_M_feed_114 ?_
  refine lv_topi (fun z_40 _ => ?_)
  refine lv_i2b hx hb dn_M_feed_115 rfl ?_
  refine lv_topi (fun z_41 ez_41 => ?_)
  refine va_bast hx hb hK hP hD hS 1 1 rfl rfl (show ¬ (_ ∨ _) by decide) dn_M_feed_116 (fun H locs hP hD hS => ?_)
  obtain ⟨g_42, eg_42⟩ : ∃ z : Nat → Int32, z = upd g_39 (13 : Int32).toNatClampNeg (vp_nar .byte z_41) := ⟨_, rfl⟩
  have hP : va_P (dC, dI) xcl [(h0, .inr (0, xo_M (va_up f0 0 (.int 0)))), (h1, .inl (cB, 65536, .inl g_42))] H := by rw [eg_42]; exact hP
  have hD : va_D A [(h0, .inr (0, xo_M (va_up f0 0 (.int 0)))), (h1, .inl (cB, 65536, .inl g_42))] := by rw [eg_42]; exact hD
  refine lv_iinc (v := 14) (lv' := [(6, .int 14), (7, .int x3), (0, .ref h0), (1, .int x0), (2, .int x1), (3, .int x2), (4, .int x3), (5, .int x4)]) hx hb dn_M_feed_117 hl (k := 1) rfl (by decide) (by decide) rfl (fun ls hl => ?_)
  refine lv_goto (tgt := 36) hx hb dn_M_feed_120 (by decide) ?_
  refine lv_iload hx hb dn_M_feed_36 (lv_at hl 0 rfl) ?_
  refine lv_bipush (v := 20) hx hb dn_M_feed_38 (by decide) ?_
  refine lv_icmp_ge (tgt := 123) hx hb dn_M_feed_40 (by decide) (fun h9 => absurd h9 (by decide)) (fun _ => ?_)
  refine lv_iload hx hb dn_M_feed_43 (lv_at hl 0 rfl) ?_
  refine lv_iconst (v := 4) hx hb dn_M_feed_45 (by decide) ?_
  refine lv_icmp_ge (tgt := 53) hx hb dn_M_feed_46 (by decide) (fun _ => ?_) (fun h9 => absurd h9 (by decide))
  refine lv_iload hx hb dn_M_feed_53 (lv_at hl 0 rfl) ?_
  refine lv_bipush (v := 8) hx hb dn_M_feed_55 (by decide) ?_
  refine lv_icmp_ge (tgt := 64) hx hb dn_M_feed_57 (by decide) (fun _ => ?_) (fun h9 => absurd h9 (by decide))
  refine lv_iload hx hb dn_M_feed_64 (lv_at hl 0 rfl) ?_
  refine lv_bipush (v := 12) hx hb dn_M_feed_66 (by decide) ?_
  refine lv_icmp_ge (tgt := 75) hx hb dn_M_feed_68 (by decide) (fun _ => ?_) (fun h9 => absurd h9 (by decide))
  refine lv_iload hx hb dn_M_feed_75 (lv_at hl 0 rfl) ?_
  refine lv_bipush (v := 16) hx hb dn_M_feed_77 (by decide) ?_
  refine lv_icmp_ge (tgt := 87) hx hb dn_M_feed_79 (by decide) (fun h9 => absurd h9 (by decide)) (fun _ => ?_)
  refine lv_iload hx hb dn_M_feed_82 (lv_at hl 6 rfl) ?_
  refine lv_goto (tgt := 89) hx hb dn_M_feed_84 (by decide) ?_
  refine lv_istore (lv' := [(7, .int x3), (6, .int 14), (0, .ref h0), (1, .int x0), (2, .int x1), (3, .int x2), (4, .int x3), (5, .int x4)]) hx hb dn_M_feed_89 hl (by decide) rfl (fun ls hl => ?_)
  refine lv_aload_n hx hb dn_M_feed_91 rfl (lv_at hl 2 rfl) ?_
  refine va_get (D := (dC, dI)) (ci := 0) (v := .ref h1) (C := rn_M) (T := fn_M) (N := 91) hx hb hg in_M hown hK hP 0 rfl rfl 1 (by decide) (hg _ wn_8_69) (fun _ h9 => h9) (congrArg some hf0_1) dn_M_feed_92 ?_
  refine lv_aload_n hx hb dn_M_feed_95 rfl (lv_at hl 2 rfl) ?_
  refine va_get (D := (dC, dI)) (ci := 0) (v := .int 0) (C := rn_M) (T := fn_M) (N := 91) hx hb hg in_M hown hK hP 0 rfl rfl 88 (by decide) (hg _ wn_8_156) (fun _ h9 => h9) (congrArg some hf0_88) dn_M_feed_96 ?_
  refine lv_iload hx hb dn_M_feed_99 (lv_at hl 1 rfl) ?_
  refine lv_iadd hx hb dn_M_feed_101 ?_
  refine xk_ti (y := 14) (by decide) ?_
  refine lv_iload hx hb dn_M_feed_102 (lv_at hl 0 rfl) ?_
  refine lv_bipush (v := 24) hx hb dn_M_feed_104 (by decide) ?_
  refine lv_bipush (v := 8) hx hb dn_M_feed_106 (by decide) ?_
  refine lv_iload hx hb dn_M_feed_108 (lv_at hl 1 rfl) ?_
  refine lv_iconst (v := 4) hx hb dn_M_feed_110 (by decide) ?_
  refine lv_irem hx hb dn_M_feed_111 (by decide) ?_
  refine xk_ti (y := 2) (by decide) ?_
  refine lv_imul hx hb dn_M_feed_112 ?_
  refine xk_ti (y := 16) (by decide) ?_
  refine lv_isub hx hb dn_M_feed_113 ?_
  refine xk_ti (y := 8) (by decide) ?_
  refine lv_ishr hx hb dn_M_feed_114 ?_
  refine lv_topi (fun z_43 _ => ?_)
  refine lv_i2b hx hb dn_M_feed_115 rfl ?_
  refine lv_topi (fun z_44 ez_44 => ?_)
  refine va_bast hx hb hK hP hD hS 1 1 rfl rfl (show ¬ (_ ∨ _) by decide) dn_M_feed_116 (fun H locs hP hD hS => ?_)
  obtain ⟨g_45, eg_45⟩ : ∃ z : Nat → Int32, z = upd g_42 (14 : Int32).toNatClampNeg (vp_nar .byte z_44) := ⟨_, rfl⟩
  have hP : va_P (dC, dI) xcl [(h0, .inr (0, xo_M (va_up f0 0 (.int 0)))), (h1, .inl (cB, 65536, .inl g_45))] H := by rw [eg_45]; exact hP
  have hD : va_D A [(h0, .inr (0, xo_M (va_up f0 0 (.int 0)))), (h1, .inl (cB, 65536, .inl g_45))] := by rw [eg_45]; exact hD
  refine lv_iinc (v := 15) (lv' := [(6, .int 15), (7, .int x3), (0, .ref h0), (1, .int x0), (2, .int x1), (3, .int x2), (4, .int x3), (5, .int x4)]) hx hb dn_M_feed_117 hl (k := 1) rfl (by decide) (by decide) rfl (fun ls hl => ?_)
  refine lv_goto (tgt := 36) hx hb dn_M_feed_120 (by decide) ?_
  refine lv_iload hx hb dn_M_feed_36 (lv_at hl 0 rfl) ?_
  refine lv_bipush (v := 20) hx hb dn_M_feed_38 (by decide) ?_
  refine lv_icmp_ge (tgt := 123) hx hb dn_M_feed_40 (by decide) (fun h9 => absurd h9 (by decide)) (fun _ => ?_)
  refine lv_iload hx hb dn_M_feed_43 (lv_at hl 0 rfl) ?_
  refine lv_iconst (v := 4) hx hb dn_M_feed_45 (by decide) ?_
  refine lv_icmp_ge (tgt := 53) hx hb dn_M_feed_46 (by decide) (fun _ => ?_) (fun h9 => absurd h9 (by decide))
  refine lv_iload hx hb dn_M_feed_53 (lv_at hl 0 rfl) ?_
  refine lv_bipush (v := 8) hx hb dn_M_feed_55 (by decide) ?_
  refine lv_icmp_ge (tgt := 64) hx hb dn_M_feed_57 (by decide) (fun _ => ?_) (fun h9 => absurd h9 (by decide))
  refine lv_iload hx hb dn_M_feed_64 (lv_at hl 0 rfl) ?_
  refine lv_bipush (v := 12) hx hb dn_M_feed_66 (by decide) ?_
  refine lv_icmp_ge (tgt := 75) hx hb dn_M_feed_68 (by decide) (fun _ => ?_) (fun h9 => absurd h9 (by decide))
  refine lv_iload hx hb dn_M_feed_75 (lv_at hl 0 rfl) ?_
  refine lv_bipush (v := 16) hx hb dn_M_feed_77 (by decide) ?_
  refine lv_icmp_ge (tgt := 87) hx hb dn_M_feed_79 (by decide) (fun h9 => absurd h9 (by decide)) (fun _ => ?_)
  refine lv_iload hx hb dn_M_feed_82 (lv_at hl 6 rfl) ?_
  refine lv_goto (tgt := 89) hx hb dn_M_feed_84 (by decide) ?_
  refine lv_istore (lv' := [(7, .int x3), (6, .int 15), (0, .ref h0), (1, .int x0), (2, .int x1), (3, .int x2), (4, .int x3), (5, .int x4)]) hx hb dn_M_feed_89 hl (by decide) rfl (fun ls hl => ?_)
  refine lv_aload_n hx hb dn_M_feed_91 rfl (lv_at hl 2 rfl) ?_
  refine va_get (D := (dC, dI)) (ci := 0) (v := .ref h1) (C := rn_M) (T := fn_M) (N := 91) hx hb hg in_M hown hK hP 0 rfl rfl 1 (by decide) (hg _ wn_8_69) (fun _ h9 => h9) (congrArg some hf0_1) dn_M_feed_92 ?_
  refine lv_aload_n hx hb dn_M_feed_95 rfl (lv_at hl 2 rfl) ?_
  refine va_get (D := (dC, dI)) (ci := 0) (v := .int 0) (C := rn_M) (T := fn_M) (N := 91) hx hb hg in_M hown hK hP 0 rfl rfl 88 (by decide) (hg _ wn_8_156) (fun _ h9 => h9) (congrArg some hf0_88) dn_M_feed_96 ?_
  refine lv_iload hx hb dn_M_feed_99 (lv_at hl 1 rfl) ?_
  refine lv_iadd hx hb dn_M_feed_101 ?_
  refine xk_ti (y := 15) (by decide) ?_
  refine lv_iload hx hb dn_M_feed_102 (lv_at hl 0 rfl) ?_
  refine lv_bipush (v := 24) hx hb dn_M_feed_104 (by decide) ?_
  refine lv_bipush (v := 8) hx hb dn_M_feed_106 (by decide) ?_
  refine lv_iload hx hb dn_M_feed_108 (lv_at hl 1 rfl) ?_
  refine lv_iconst (v := 4) hx hb dn_M_feed_110 (by decide) ?_
  refine lv_irem hx hb dn_M_feed_111 (by decide) ?_
  refine xk_ti (y := 3) (by decide) ?_
  refine lv_imul hx hb dn_M_feed_112 ?_
  refine xk_ti (y := 24) (by decide) ?_
  refine lv_isub hx hb dn_M_feed_113 ?_
  refine xk_ti (y := 0) (by decide) ?_
  refine lv_ishr hx hb dn_M_feed_114 ?_
  refine lv_topi (fun z_46 _ => ?_)
  refine lv_i2b hx hb dn_M_feed_115 rfl ?_
  refine lv_topi (fun z_47 ez_47 => ?_)
  refine va_bast hx hb hK hP hD hS 1 1 rfl rfl (show ¬ (_ ∨ _) by decide) dn_M_feed_116 (fun H locs hP hD hS => ?_)
  obtain ⟨g_48, eg_48⟩ : ∃ z : Nat → Int32, z = upd g_45 (15 : Int32).toNatClampNeg (vp_nar .byte z_47) := ⟨_, rfl⟩
  have hP : va_P (dC, dI) xcl [(h0, .inr (0, xo_M (va_up f0 0 (.int 0)))), (h1, .inl (cB, 65536, .inl g_48))] H := by rw [eg_48]; exact hP
  have hD : va_D A [(h0, .inr (0, xo_M (va_up f0 0 (.int 0)))), (h1, .inl (cB, 65536, .inl g_48))] := by rw [eg_48]; exact hD
  refine lv_iinc (v := 16) (lv' := [(6, .int 16), (7, .int x3), (0, .ref h0), (1, .int x0), (2, .int x1), (3, .int x2), (4, .int x3), (5, .int x4)]) hx hb dn_M_feed_117 hl (k := 1) rfl (by decide) (by decide) rfl (fun ls hl => ?_)
  refine lv_goto (tgt := 36) hx hb dn_M_feed_120 (by decide) ?_
  refine lv_iload hx hb dn_M_feed_36 (lv_at hl 0 rfl) ?_
  refine lv_bipush (v := 20) hx hb dn_M_feed_38 (by decide) ?_
  refine lv_icmp_ge (tgt := 123) hx hb dn_M_feed_40 (by decide) (fun h9 => absurd h9 (by decide)) (fun _ => ?_)
  refine lv_iload hx hb dn_M_feed_43 (lv_at hl 0 rfl) ?_
  refine lv_iconst (v := 4) hx hb dn_M_feed_45 (by decide) ?_
  refine lv_icmp_ge (tgt := 53) hx hb dn_M_feed_46 (by decide) (fun _ => ?_) (fun h9 => absurd h9 (by decide))
  refine lv_iload hx hb dn_M_feed_53 (lv_at hl 0 rfl) ?_
  refine lv_bipush (v := 8) hx hb dn_M_feed_55 (by decide) ?_
  refine lv_icmp_ge (tgt := 64) hx hb dn_M_feed_57 (by decide) (fun _ => ?_) (fun h9 => absurd h9 (by decide))
  refine lv_iload hx hb dn_M_feed_64 (lv_at hl 0 rfl) ?_
  refine lv_bipush (v := 12) hx hb dn_M_feed_66 (by decide) ?_
  refine lv_icmp_ge (tgt := 75) hx hb dn_M_feed_68 (by decide) (fun _ => ?_) (fun h9 => absurd h9 (by decide))
  refine lv_iload hx hb dn_M_feed_75 (lv_at hl 0 rfl) ?_
  refine lv_bipush (v := 16) hx hb dn_M_feed_77 (by decide) ?_
  refine lv_icmp_ge (tgt := 87) hx hb dn_M_feed_79 (by decide) (fun _ => ?_) (fun h9 => absurd h9 (by decide))
  refine lv_iload hx hb dn_M_feed_87 (lv_at hl 7 rfl) ?_
  refine lv_istore (lv' := [(7, .int x4), (6, .int 16), (0, .ref h0), (1, .int x0), (2, .int x1), (3, .int x2), (4, .int x3), (5, .int x4)]) hx hb dn_M_feed_89 hl (by decide) rfl (fun ls hl => ?_)
  refine lv_aload_n hx hb dn_M_feed_91 rfl (lv_at hl 2 rfl) ?_
  refine va_get (D := (dC, dI)) (ci := 0) (v := .ref h1) (C := rn_M) (T := fn_M) (N := 91) hx hb hg in_M hown hK hP 0 rfl rfl 1 (by decide) (hg _ wn_8_69) (fun _ h9 => h9) (congrArg some hf0_1) dn_M_feed_92 ?_
  refine lv_aload_n hx hb dn_M_feed_95 rfl (lv_at hl 2 rfl) ?_
  refine va_get (D := (dC, dI)) (ci := 0) (v := .int 0) (C := rn_M) (T := fn_M) (N := 91) hx hb hg in_M hown hK hP 0 rfl rfl 88 (by decide) (hg _ wn_8_156) (fun _ h9 => h9) (congrArg some hf0_88) dn_M_feed_96 ?_
  refine lv_iload hx hb dn_M_feed_99 (lv_at hl 1 rfl) ?_
  refine lv_iadd hx hb dn_M_feed_101 ?_
  refine xk_ti (y := 16) (by decide) ?_
  refine lv_iload hx hb dn_M_feed_102 (lv_at hl 0 rfl) ?_
  refine lv_bipush (v := 24) hx hb dn_M_feed_104 (by decide) ?_
  refine lv_bipush (v := 8) hx hb dn_M_feed_106 (by decide) ?_
  refine lv_iload hx hb dn_M_feed_108 (lv_at hl 1 rfl) ?_
  refine lv_iconst (v := 4) hx hb dn_M_feed_110 (by decide) ?_
  refine lv_irem hx hb dn_M_feed_111 (by decide) ?_
  refine xk_ti (y := 0) (by decide) ?_
  refine lv_imul hx hb dn_M_feed_112 ?_
  refine xk_ti (y := 0) (by decide) ?_
  refine lv_isub hx hb dn_M_feed_113 ?_
  refine xk_ti (y := 24) (by decide) ?_
  refine lv_ishr hx hb dn_M_feed_114 ?_
  refine lv_topi (fun z_49 _ => ?_)
  refine lv_i2b hx hb dn_M_feed_115 rfl ?_
  refine lv_topi (fun z_50 ez_50 => ?_)
  refine va_bast hx hb hK hP hD hS 1 1 rfl rfl (show ¬ (_ ∨ _) by decide) dn_M_feed_116 (fun H locs hP hD hS => ?_)
  obtain ⟨g_51, eg_51⟩ : ∃ z : Nat → Int32, z = upd g_48 (16 : Int32).toNatClampNeg (vp_nar .byte z_50) := ⟨_, rfl⟩
  have hP : va_P (dC, dI) xcl [(h0, .inr (0, xo_M (va_up f0 0 (.int 0)))), (h1, .inl (cB, 65536, .inl g_51))] H := by rw [eg_51]; exact hP
  have hD : va_D A [(h0, .inr (0, xo_M (va_up f0 0 (.int 0)))), (h1, .inl (cB, 65536, .inl g_51))] := by rw [eg_51]; exact hD
  refine lv_iinc (v := 17) (lv' := [(6, .int 17), (7, .int x4), (0, .ref h0), (1, .int x0), (2, .int x1), (3, .int x2), (4, .int x3), (5, .int x4)]) hx hb dn_M_feed_117 hl (k := 1) rfl (by decide) (by decide) rfl (fun ls hl => ?_)
  refine lv_goto (tgt := 36) hx hb dn_M_feed_120 (by decide) ?_
  refine lv_iload hx hb dn_M_feed_36 (lv_at hl 0 rfl) ?_
  refine lv_bipush (v := 20) hx hb dn_M_feed_38 (by decide) ?_
  refine lv_icmp_ge (tgt := 123) hx hb dn_M_feed_40 (by decide) (fun h9 => absurd h9 (by decide)) (fun _ => ?_)
  refine lv_iload hx hb dn_M_feed_43 (lv_at hl 0 rfl) ?_
  refine lv_iconst (v := 4) hx hb dn_M_feed_45 (by decide) ?_
  refine lv_icmp_ge (tgt := 53) hx hb dn_M_feed_46 (by decide) (fun _ => ?_) (fun h9 => absurd h9 (by decide))
  refine lv_iload hx hb dn_M_feed_53 (lv_at hl 0 rfl) ?_
  refine lv_bipush (v := 8) hx hb dn_M_feed_55 (by decide) ?_
  refine lv_icmp_ge (tgt := 64) hx hb dn_M_feed_57 (by decide) (fun _ => ?_) (fun h9 => absurd h9 (by decide))
  refine lv_iload hx hb dn_M_feed_64 (lv_at hl 0 rfl) ?_
  refine lv_bipush (v := 12) hx hb dn_M_feed_66 (by decide) ?_
  refine lv_icmp_ge (tgt := 75) hx hb dn_M_feed_68 (by decide) (fun _ => ?_) (fun h9 => absurd h9 (by decide))
  refine lv_iload hx hb dn_M_feed_75 (lv_at hl 0 rfl) ?_
  refine lv_bipush (v := 16) hx hb dn_M_feed_77 (by decide) ?_
  refine lv_icmp_ge (tgt := 87) hx hb dn_M_feed_79 (by decide) (fun _ => ?_) (fun h9 => absurd h9 (by decide))
  refine lv_iload hx hb dn_M_feed_87 (lv_at hl 7 rfl) ?_
  refine lv_istore (lv' := [(7, .int x4), (6, .int 17), (0, .ref h0), (1, .int x0), (2, .int x1), (3, .int x2), (4, .int x3), (5, .int x4)]) hx hb dn_M_feed_89 hl (by decide) rfl (fun ls hl => ?_)
  refine lv_aload_n hx hb dn_M_feed_91 rfl (lv_at hl 2 rfl) ?_
  refine va_get (D := (dC, dI)) (ci := 0) (v := .ref h1) (C := rn_M) (T := fn_M) (N := 91) hx hb hg in_M hown hK hP 0 rfl rfl 1 (by decide) (hg _ wn_8_69) (fun _ h9 => h9) (congrArg some hf0_1) dn_M_feed_92 ?_
  refine lv_aload_n hx hb dn_M_feed_95 rfl (lv_at hl 2 rfl) ?_
  refine va_get (D := (dC, dI)) (ci := 0) (v := .int 0) (C := rn_M) (T := fn_M) (N := 91) hx hb hg in_M hown hK hP 0 rfl rfl 88 (by decide) (hg _ wn_8_156) (fun _ h9 => h9) (congrArg some hf0_88) dn_M_feed_96 ?_
  refine lv_iload hx hb dn_M_feed_99 (lv_at hl 1 rfl) ?_
  refine lv_iadd hx hb dn_M_feed_101 ?_
  refine xk_ti (y := 17) (by decide) ?_
  refine lv_iload hx hb dn_M_feed_102 (lv_at hl 0 rfl) ?_
  refine lv_bipush (v := 24) hx hb dn_M_feed_104 (by decide) ?_
  refine lv_bipush (v := 8) hx hb dn_M_feed_106 (by decide) ?_
  refine lv_iload hx hb dn_M_feed_108 (lv_at hl 1 rfl) ?_
  refine lv_iconst (v := 4) hx hb dn_M_feed_110 (by decide) ?_
  refine lv_irem hx hb dn_M_feed_111 (by decide) ?_
  refine xk_ti (y := 1) (by decide) ?_
  refine lv_imul hx hb dn_M_feed_112 ?_
  refine xk_ti (y := 8) (by decide) ?_
  refine lv_isub hx hb dn_M_feed_113 ?_
  refine xk_ti (y := 16) (by decide) ?_
  refine lv_ishr hx hb dn_M_feed_114 ?_
  refine lv_topi (fun z_52 _ => ?_)
  refine lv_i2b hx hb dn_M_feed_115 rfl ?_
  refine lv_topi (fun z_53 ez_53 => ?_)
  refine va_bast hx hb hK hP hD hS 1 1 rfl rfl (show ¬ (_ ∨ _) by decide) dn_M_feed_116 (fun H locs hP hD hS => ?_)
  obtain ⟨g_54, eg_54⟩ : ∃ z : Nat → Int32, z = upd g_51 (17 : Int32).toNatClampNeg (vp_nar .byte z_53) := ⟨_, rfl⟩
  have hP : va_P (dC, dI) xcl [(h0, .inr (0, xo_M (va_up f0 0 (.int 0)))), (h1, .inl (cB, 65536, .inl g_54))] H := by rw [eg_54]; exact hP
  have hD : va_D A [(h0, .inr (0, xo_M (va_up f0 0 (.int 0)))), (h1, .inl (cB, 65536, .inl g_54))] := by rw [eg_54]; exact hD
  refine lv_iinc (v := 18) (lv' := [(6, .int 18), (7, .int x4), (0, .ref h0), (1, .int x0), (2, .int x1), (3, .int x2), (4, .int x3), (5, .int x4)]) hx hb dn_M_feed_117 hl (k := 1) rfl (by decide) (by decide) rfl (fun ls hl => ?_)
  refine lv_goto (tgt := 36) hx hb dn_M_feed_120 (by decide) ?_
  refine lv_iload hx hb dn_M_feed_36 (lv_at hl 0 rfl) ?_
  refine lv_bipush (v := 20) hx hb dn_M_feed_38 (by decide) ?_
  refine lv_icmp_ge (tgt := 123) hx hb dn_M_feed_40 (by decide) (fun h9 => absurd h9 (by decide)) (fun _ => ?_)
  refine lv_iload hx hb dn_M_feed_43 (lv_at hl 0 rfl) ?_
  refine lv_iconst (v := 4) hx hb dn_M_feed_45 (by decide) ?_
  refine lv_icmp_ge (tgt := 53) hx hb dn_M_feed_46 (by decide) (fun _ => ?_) (fun h9 => absurd h9 (by decide))
  refine lv_iload hx hb dn_M_feed_53 (lv_at hl 0 rfl) ?_
  refine lv_bipush (v := 8) hx hb dn_M_feed_55 (by decide) ?_
  refine lv_icmp_ge (tgt := 64) hx hb dn_M_feed_57 (by decide) (fun _ => ?_) (fun h9 => absurd h9 (by decide))
  refine lv_iload hx hb dn_M_feed_64 (lv_at hl 0 rfl) ?_
  refine lv_bipush (v := 12) hx hb dn_M_feed_66 (by decide) ?_
  refine lv_icmp_ge (tgt := 75) hx hb dn_M_feed_68 (by decide) (fun _ => ?_) (fun h9 => absurd h9 (by decide))
  refine lv_iload hx hb dn_M_feed_75 (lv_at hl 0 rfl) ?_
  refine lv_bipush (v := 16) hx hb dn_M_feed_77 (by decide) ?_
  refine lv_icmp_ge (tgt := 87) hx hb dn_M_feed_79 (by decide) (fun _ => ?_) (fun h9 => absurd h9 (by decide))
  refine lv_iload hx hb dn_M_feed_87 (lv_at hl 7 rfl) ?_
  refine lv_istore (lv' := [(7, .int x4), (6, .int 18), (0, .ref h0), (1, .int x0), (2, .int x1), (3, .int x2), (4, .int x3), (5, .int x4)]) hx hb dn_M_feed_89 hl (by decide) rfl (fun ls hl => ?_)
  refine lv_aload_n hx hb dn_M_feed_91 rfl (lv_at hl 2 rfl) ?_
  refine va_get (D := (dC, dI)) (ci := 0) (v := .ref h1) (C := rn_M) (T := fn_M) (N := 91) hx hb hg in_M hown hK hP 0 rfl rfl 1 (by decide) (hg _ wn_8_69) (fun _ h9 => h9) (congrArg some hf0_1) dn_M_feed_92 ?_
  refine lv_aload_n hx hb dn_M_feed_95 rfl (lv_at hl 2 rfl) ?_
  refine va_get (D := (dC, dI)) (ci := 0) (v := .int 0) (C := rn_M) (T := fn_M) (N := 91) hx hb hg in_M hown hK hP 0 rfl rfl 88 (by decide) (hg _ wn_8_156) (fun _ h9 => h9) (congrArg some hf0_88) dn_M_feed_96 ?_
  refine lv_iload hx hb dn_M_feed_99 (lv_at hl 1 rfl) ?_
  refine lv_iadd hx hb dn_M_feed_101 ?_
  refine xk_ti (y := 18) (by decide) ?_
  refine lv_iload hx hb dn_M_feed_102 (lv_at hl 0 rfl) ?_
  refine lv_bipush (v := 24) hx hb dn_M_feed_104 (by decide) ?_
  refine lv_bipush (v := 8) hx hb dn_M_feed_106 (by decide) ?_
  refine lv_iload hx hb dn_M_feed_108 (lv_at hl 1 rfl) ?_
  refine lv_iconst (v := 4) hx hb dn_M_feed_110 (by decide) ?_
  refine lv_irem hx hb dn_M_feed_111 (by decide) ?_
  refine xk_ti (y := 2) (by decide) ?_
  refine lv_imul hx hb dn_M_feed_112 ?_
  refine xk_ti (y := 16) (by decide) ?_
  refine lv_isub hx hb dn_M_feed_113 ?_
  refine xk_ti (y := 8) (by decide) ?_
  refine lv_ishr hx hb dn_M_feed_114 ?_
  refine lv_topi (fun z_55 _ => ?_)
  refine lv_i2b hx hb dn_M_feed_115 rfl ?_
  refine lv_topi (fun z_56 ez_56 => ?_)
  refine va_bast hx hb hK hP hD hS 1 1 rfl rfl (show ¬ (_ ∨ _) by decide) dn_M_feed_116 (fun H locs hP hD hS => ?_)
  obtain ⟨g_57, eg_57⟩ : ∃ z : Nat → Int32, z = upd g_54 (18 : Int32).toNatClampNeg (vp_nar .byte z_56) := ⟨_, rfl⟩
  have hP : va_P (dC, dI) xcl [(h0, .inr (0, xo_M (va_up f0 0 (.int 0)))), (h1, .inl (cB, 65536, .inl g_57))] H := by rw [eg_57]; exact hP
  have hD : va_D A [(h0, .inr (0, xo_M (va_up f0 0 (.int 0)))), (h1, .inl (cB, 65536, .inl g_57))] := by rw [eg_57]; exact hD
  refine lv_iinc (v := 19) (lv' := [(6, .int 19), (7, .int x4), (0, .ref h0), (1, .int x0), (2, .int x1), (3, .int x2), (4, .int x3), (5, .int x4)]) hx hb dn_M_feed_117 hl (k := 1) rfl (by decide) (by decide) rfl (fun ls hl => ?_)
  refine lv_goto (tgt := 36) hx hb dn_M_feed_120 (by decide) ?_
  refine lv_iload hx hb dn_M_feed_36 (lv_at hl 0 rfl) ?_
  refine lv_bipush (v := 20) hx hb dn_M_feed_38 (by decide) ?_
  refine lv_icmp_ge (tgt := 123) hx hb dn_M_feed_40 (by decide) (fun h9 => absurd h9 (by decide)) (fun _ => ?_)
  refine lv_iload hx hb dn_M_feed_43 (lv_at hl 0 rfl) ?_
  refine lv_iconst (v := 4) hx hb dn_M_feed_45 (by decide) ?_
  refine lv_icmp_ge (tgt := 53) hx hb dn_M_feed_46 (by decide) (fun _ => ?_) (fun h9 => absurd h9 (by decide))
  refine lv_iload hx hb dn_M_feed_53 (lv_at hl 0 rfl) ?_
  refine lv_bipush (v := 8) hx hb dn_M_feed_55 (by decide) ?_
  refine lv_icmp_ge (tgt := 64) hx hb dn_M_feed_57 (by decide) (fun _ => ?_) (fun h9 => absurd h9 (by decide))
  refine lv_iload hx hb dn_M_feed_64 (lv_at hl 0 rfl) ?_
  refine lv_bipush (v := 12) hx hb dn_M_feed_66 (by decide) ?_
  refine lv_icmp_ge (tgt := 75) hx hb dn_M_feed_68 (by decide) (fun _ => ?_) (fun h9 => absurd h9 (by decide))
  refine lv_iload hx hb dn_M_feed_75 (lv_at hl 0 rfl) ?_
  refine lv_bipush (v := 16) hx hb dn_M_feed_77 (by decide) ?_
  refine lv_icmp_ge (tgt := 87) hx hb dn_M_feed_79 (by decide) (fun _ => ?_) (fun h9 => absurd h9 (by decide))
  refine lv_iload hx hb dn_M_feed_87 (lv_at hl 7 rfl) ?_
  refine lv_istore (lv' := [(7, .int x4), (6, .int 19), (0, .ref h0), (1, .int x0), (2, .int x1), (3, .int x2), (4, .int x3), (5, .int x4)]) hx hb dn_M_feed_89 hl (by decide) rfl (fun ls hl => ?_)
  refine lv_aload_n hx hb dn_M_feed_91 rfl (lv_at hl 2 rfl) ?_
  refine va_get (D := (dC, dI)) (ci := 0) (v := .ref h1) (C := rn_M) (T := fn_M) (N := 91) hx hb hg in_M hown hK hP 0 rfl rfl 1 (by decide) (hg _ wn_8_69) (fun _ h9 => h9) (congrArg some hf0_1) dn_M_feed_92 ?_
  refine lv_aload_n hx hb dn_M_feed_95 rfl (lv_at hl 2 rfl) ?_
  refine va_get (D := (dC, dI)) (ci := 0) (v := .int 0) (C := rn_M) (T := fn_M) (N := 91) hx hb hg in_M hown hK hP 0 rfl rfl 88 (by decide) (hg _ wn_8_156) (fun _ h9 => h9) (congrArg some hf0_88) dn_M_feed_96 ?_
  refine lv_iload hx hb dn_M_feed_99 (lv_at hl 1 rfl) ?_
  refine lv_iadd hx hb dn_M_feed_101 ?_
  refine xk_ti (y := 19) (by decide) ?_
  refine lv_iload hx hb dn_M_feed_102 (lv_at hl 0 rfl) ?_
  refine lv_bipush (v := 24) hx hb dn_M_feed_104 (by decide) ?_
  refine lv_bipush (v := 8) hx hb dn_M_feed_106 (by decide) ?_
  refine lv_iload hx hb dn_M_feed_108 (lv_at hl 1 rfl) ?_
  refine lv_iconst (v := 4) hx hb dn_M_feed_110 (by decide) ?_
  refine lv_irem hx hb dn_M_feed_111 (by decide) ?_
  refine xk_ti (y := 3) (by decide) ?_
  refine lv_imul hx hb dn_M_feed_112 ?_
  refine xk_ti (y := 24) (by decide) ?_
  refine lv_isub hx hb dn_M_feed_113 ?_
  refine xk_ti (y := 0) (by decide) ?_
  refine lv_ishr hx hb dn_M_feed_114 ?_
  refine lv_topi (fun z_58 _ => ?_)
  refine lv_i2b hx hb dn_M_feed_115 rfl ?_
  refine lv_topi (fun z_59 ez_59 => ?_)
  refine va_bast hx hb hK hP hD hS 1 1 rfl rfl (show ¬ (_ ∨ _) by decide) dn_M_feed_116 (fun H locs hP hD hS => ?_)
  obtain ⟨g_60, eg_60⟩ : ∃ z : Nat → Int32, z = upd g_57 (19 : Int32).toNatClampNeg (vp_nar .byte z_59) := ⟨_, rfl⟩
  have hP : va_P (dC, dI) xcl [(h0, .inr (0, xo_M (va_up f0 0 (.int 0)))), (h1, .inl (cB, 65536, .inl g_60))] H := by rw [eg_60]; exact hP
  have hD : va_D A [(h0, .inr (0, xo_M (va_up f0 0 (.int 0)))), (h1, .inl (cB, 65536, .inl g_60))] := by rw [eg_60]; exact hD
  refine lv_iinc (v := 20) (lv' := [(6, .int 20), (7, .int x4), (0, .ref h0), (1, .int x0), (2, .int x1), (3, .int x2), (4, .int x3), (5, .int x4)]) hx hb dn_M_feed_117 hl (k := 1) rfl (by decide) (by decide) rfl (fun ls hl => ?_)
  refine lv_goto (tgt := 36) hx hb dn_M_feed_120 (by decide) ?_
  refine lv_iload hx hb dn_M_feed_36 (lv_at hl 0 rfl) ?_
  refine lv_bipush (v := 20) hx hb dn_M_feed_38 (by decide) ?_
  refine lv_icmp_ge (tgt := 123) hx hb dn_M_feed_40 (by decide) (fun _ => ?_) (fun h9 => absurd h9 (by decide))
  refine lv_aload_n hx hb dn_M_feed_123 rfl (lv_at hl 2 rfl) ?_
  refine lv_aload_n hx hb dn_M_feed_124 rfl (lv_at hl 2 rfl) ?_
  refine va_get (D := (dC, dI)) (ci := 0) (v := .int 0) (C := rn_M) (T := fn_M) (N := 91) hx hb hg in_M hown hK hP 0 rfl rfl 88 (by decide) (hg _ wn_8_156) (fun _ h9 => h9) (congrArg some hf0_88) dn_M_feed_125 ?_
  refine lv_bipush (v := 20) hx hb dn_M_feed_128 (by decide) ?_
  refine lv_iadd hx hb dn_M_feed_130 ?_
  refine xk_ti (y := 20) (by decide) ?_
  refine va_put (D := (dC, dI)) (ci := 0) (v := .int 20) (ty := .int) (C := rn_M) (T := fn_M) (N := 91) hx hb hg in_M tn_M tk_M nn_M hown hK hP hD hS 0 rfl rfl 88 (by decide) (hg _ wn_8_156) (fun _ h9 => h9) rfl (tk_M 88 (by decide)) rfl rfl (Nat.le_of_ble_eq_true rfl) dn_M_feed_131 (fun H locs hP hD hS => ?_)
  have hP : va_P (dC, dI) xcl [(h0, .inr (0, xo_M (va_up (va_up f0 0 (.int 0)) 88 (.int 20)))), (h1, .inl (cB, 65536, .inl g_60))] H := hP
  have hD : va_D A [(h0, .inr (0, xo_M (va_up (va_up f0 0 (.int 0)) 88 (.int 20)))), (h1, .inl (cB, 65536, .inl g_60))] := hD
  refine lv_aload_n hx hb dn_M_feed_134 rfl (lv_at hl 2 rfl) ?_
  refine va_get (D := (dC, dI)) (ci := 0) (v := .int 20) (C := rn_M) (T := fn_M) (N := 91) hx hb hg in_M hown hK hP 0 rfl rfl 88 (by decide) (hg _ wn_8_156) (fun _ h9 => h9) rfl dn_M_feed_135 ?_
  have hP9 := hP.sub (ws' := [(h0, .inr (0, xo_M (va_up (va_up f0 0 (.int 0)) 88 (.int 20)))), (h1, .inl (cB, 65536, .inl g_60))]) [0, 1] rfl
  have hD9 := hD.sub (ws' := [(h0, .inr (0, xo_M (va_up (va_up f0 0 (.int 0)) 88 (.int 20)))), (h1, .inl (cB, 65536, .inl g_60))]) [0, 1] (by decide) rfl
  exact xk_iret (w1 := fun u : (Nat → Int32) => [(h0, .inr (0, xo_M (va_up (va_up f0 0 (.int 0)) 88 (.int 20)))), (h1, .inl (cB, 65536, .inl u))]) (g_60) hx hb hr hlocks hK hS dn_M_feed_138 hP9 hD9 rfl (Nat.le_refl _) (Nat.le_refl _)
set_option maxHeartbeats 4000000 in
set_option maxRecDepth 100000 in
theorem ct_M_thrown_1 (l : Launch) (dC : Nat → ClassId) (dI : Nat → Nat → Nat) (cI cB cJ cZ cQ : ClassId) (sz : Nat) (h0 : Nat) (f0 : Nat → Value) (hf0_0 : f0 0 = .int 1) : Met l yn_M_thrown (xw yn_M_thrown bn_M_thrown 1 (some .int)) ({ frames := 0, cells := 0, slots := 0, locals := 0 }) (xk_P (dC, dI) xcl (xt cI cB cJ cZ cQ) [.ref h0] sz [(h0, .inr (0, xo_M f0))]) (xk_Qi (dC, dI) xcl (xt cI cB cJ cZ cQ) (fun (r : Int32) (u : Unit) => r = 1) (fun u : Unit => [(h0, .inr (0, xo_M f0))]) (va_A [(h0, .inr (0, xo_M f0))] sz)) 0 0 (va_A [(h0, .inr (0, xo_M f0))] sz) := by
  refine xk_of (QA := xk_Qi (dC, dI) xcl (xt cI cB cJ cZ cQ) (fun (r : Int32) (u : Unit) => r = 1) (fun u : Unit => [(h0, .inr (0, xo_M f0))])) (by decide) (Nat.le_of_ble_eq_true rfl) ?_
  intro p e s m below meth c hx hb hml hown hg hr hlocks hin hP hK hN A hA hD hS ls hl
  have hown : s.vm.findClass rn_M = some m.cls := hown
  have hl : lv_has ls 1 [(0, .ref h0)] := hl
  obtain ⟨H, hH⟩ : ∃ z, z = s.heap := ⟨_, rfl⟩
  rw [← hH] at hP
  have hS : va_S A s.heap H [] := by rw [hH]; exact va_S.rf
  suffices kk : W p l e ({ frames := 0, cells := 0, slots := 0, locals := 0 }) s m [.ref h0].toArray below meth c H [] 0 0 (MQ below (xk_Qi (dC, dI) xcl (xt cI cB cJ cZ cQ) (fun (r : Int32) (u : Unit) => r = 1) (fun u : Unit => [(h0, .inr (0, xo_M f0))]) A) [.ref h0].toArray s 0 0 A) (F0 m 0 ls []) by rw [hH] at kk; exact kk
  refine lv_aload_n hx hb dn_M_thrown_0 rfl (lv_at hl 0 rfl) ?_
  refine va_get (D := (dC, dI)) (ci := 0) (v := .int 1) (C := rn_M) (T := fn_M) (N := 91) hx hb hg in_M hown hK hP 0 rfl rfl 0 (by decide) (hg _ wn_8_68) (fun _ h9 => h9) (congrArg some hf0_0) dn_M_thrown_1 ?_
  have hP9 := hP.sub (ws' := [(h0, .inr (0, xo_M f0))]) [0] rfl
  have hD9 := hD.sub (ws' := [(h0, .inr (0, xo_M f0))]) [0] (by decide) rfl
  exact xk_iret (w1 := fun u : Unit => [(h0, .inr (0, xo_M f0))]) () hx hb hr hlocks hK hS dn_M_thrown_4 hP9 hD9 rfl (Nat.le_refl _) (Nat.le_refl _)
set_option maxHeartbeats 4000000 in
set_option maxRecDepth 100000 in
theorem ct_M_thrown_2 (l : Launch) (dC : Nat → ClassId) (dI : Nat → Nat → Nat) (cI cB cJ cZ cQ : ClassId) (sz : Nat) (h0 : Nat) (f0 : Nat → Value) (hf0_0 : f0 0 = .int 1) : Met l yn_M_thrown (xw yn_M_thrown bn_M_thrown 1 (some .int)) ({ frames := 0, cells := 0, slots := 0, locals := 0 }) (xk_P (dC, dI) xcl (xt cI cB cJ cZ cQ) [.ref h0] sz [(h0, .inr (0, xo_M f0))]) (xk_Qi (dC, dI) xcl (xt cI cB cJ cZ cQ) (fun (r : Int32) (u : Unit) => r = 1) (fun u : Unit => [(h0, .inr (0, xo_M f0))]) (va_A [(h0, .inr (0, xo_M f0))] sz)) 0 0 (va_A [(h0, .inr (0, xo_M f0))] sz) := by
  refine xk_of (QA := xk_Qi (dC, dI) xcl (xt cI cB cJ cZ cQ) (fun (r : Int32) (u : Unit) => r = 1) (fun u : Unit => [(h0, .inr (0, xo_M f0))])) (by decide) (Nat.le_of_ble_eq_true rfl) ?_
  intro p e s m below meth c hx hb hml hown hg hr hlocks hin hP hK hN A hA hD hS ls hl
  have hown : s.vm.findClass rn_M = some m.cls := hown
  have hl : lv_has ls 1 [(0, .ref h0)] := hl
  obtain ⟨H, hH⟩ : ∃ z, z = s.heap := ⟨_, rfl⟩
  rw [← hH] at hP
  have hS : va_S A s.heap H [] := by rw [hH]; exact va_S.rf
  suffices kk : W p l e ({ frames := 0, cells := 0, slots := 0, locals := 0 }) s m [.ref h0].toArray below meth c H [] 0 0 (MQ below (xk_Qi (dC, dI) xcl (xt cI cB cJ cZ cQ) (fun (r : Int32) (u : Unit) => r = 1) (fun u : Unit => [(h0, .inr (0, xo_M f0))]) A) [.ref h0].toArray s 0 0 A) (F0 m 0 ls []) by rw [hH] at kk; exact kk
  refine lv_aload_n hx hb dn_M_thrown_0 rfl (lv_at hl 0 rfl) ?_
  refine va_get (D := (dC, dI)) (ci := 0) (v := .int 1) (C := rn_M) (T := fn_M) (N := 91) hx hb hg in_M hown hK hP 0 rfl rfl 0 (by decide) (hg _ wn_8_68) (fun _ h9 => h9) (congrArg some hf0_0) dn_M_thrown_1 ?_
  have hP9 := hP.sub (ws' := [(h0, .inr (0, xo_M f0))]) [0] rfl
  have hD9 := hD.sub (ws' := [(h0, .inr (0, xo_M f0))]) [0] (by decide) rfl
  exact xk_iret (w1 := fun u : Unit => [(h0, .inr (0, xo_M f0))]) () hx hb hr hlocks hK hS dn_M_thrown_4 hP9 hD9 rfl (Nat.le_refl _) (Nat.le_refl _)
set_option maxHeartbeats 4000000 in
set_option maxRecDepth 100000 in
theorem ct_Parts_clear_0 (l : Launch) (dC : Nat → ClassId) (dI : Nat → Nat → Nat) (cI cB cJ cZ cQ : ClassId) (sz : Nat) (h0 : Nat) (f0 : Nat → Value) : Met l yn_Parts_clear (xw yn_Parts_clear bn_Parts_clear 1 none) ({ frames := 0, cells := 0, slots := 0, locals := 0 }) (xk_P (dC, dI) xcl (xt cI cB cJ cZ cQ) [.ref h0] sz [(h0, .inr (11, xo_Parts f0))]) (xk_Qv (dC, dI) xcl (xt cI cB cJ cZ cQ) (fun u : Unit => True) (fun u : Unit => [(h0, .inr (11, xo_Parts (va_up (va_up (va_up f0 0 (.int 0)) 7 (.int 0)) 11 (.int 0))))]) (va_A [(h0, .inr (11, xo_Parts f0))] sz)) 0 0 (va_A [(h0, .inr (11, xo_Parts f0))] sz) := by
  refine xk_of (QA := xk_Qv (dC, dI) xcl (xt cI cB cJ cZ cQ) (fun u : Unit => True) (fun u : Unit => [(h0, .inr (11, xo_Parts (va_up (va_up (va_up f0 0 (.int 0)) 7 (.int 0)) 11 (.int 0))))])) (by decide) (Nat.le_of_ble_eq_true rfl) ?_
  intro p e s m below meth c hx hb hml hown hg hr hlocks hin hP hK hN A hA hD hS ls hl
  have hown : s.vm.findClass rn_Parts = some m.cls := hown
  have hl : lv_has ls 1 [(0, .ref h0)] := hl
  obtain ⟨H, hH⟩ : ∃ z, z = s.heap := ⟨_, rfl⟩
  rw [← hH] at hP
  have hS : va_S A s.heap H [] := by rw [hH]; exact va_S.rf
  suffices kk : W p l e ({ frames := 0, cells := 0, slots := 0, locals := 0 }) s m [.ref h0].toArray below meth c H [] 0 0 (MQ below (xk_Qv (dC, dI) xcl (xt cI cB cJ cZ cQ) (fun u : Unit => True) (fun u : Unit => [(h0, .inr (11, xo_Parts (va_up (va_up (va_up f0 0 (.int 0)) 7 (.int 0)) 11 (.int 0))))]) A) [.ref h0].toArray s 0 0 A) (F0 m 0 ls []) by rw [hH] at kk; exact kk
  refine lv_aload_n hx hb dn_Parts_clear_0 rfl (lv_at hl 0 rfl) ?_
  refine lv_iconst (v := 0) hx hb dn_Parts_clear_1 (by decide) ?_
  refine va_put (D := (dC, dI)) (ci := 11) (v := .int 0) (ty := .int) (C := rn_Parts) (T := fn_Parts) (N := 15) hx hb hg in_Parts tn_Parts tk_Parts nn_Parts hown hK hP hD hS 0 rfl rfl 0 (by decide) (hg _ wn_2_123) (fun _ h9 => h9) rfl (tk_Parts 0 (by decide)) rfl rfl (Nat.le_of_ble_eq_true rfl) dn_Parts_clear_2 (fun H locs hP hD hS => ?_)
  have hP : va_P (dC, dI) xcl [(h0, .inr (11, xo_Parts (va_up f0 0 (.int 0))))] H := hP
  have hD : va_D A [(h0, .inr (11, xo_Parts (va_up f0 0 (.int 0))))] := hD
  refine lv_aload_n hx hb dn_Parts_clear_5 rfl (lv_at hl 0 rfl) ?_
  refine lv_iconst (v := 0) hx hb dn_Parts_clear_6 (by decide) ?_
  refine va_put (D := (dC, dI)) (ci := 11) (v := .int 0) (ty := .int) (C := rn_Parts) (T := fn_Parts) (N := 15) hx hb hg in_Parts tn_Parts tk_Parts nn_Parts hown hK hP hD hS 0 rfl rfl 7 (by decide) (hg _ wn_2_149) (fun _ h9 => h9) rfl (tk_Parts 7 (by decide)) rfl rfl (Nat.le_of_ble_eq_true rfl) dn_Parts_clear_7 (fun H locs hP hD hS => ?_)
  have hP : va_P (dC, dI) xcl [(h0, .inr (11, xo_Parts (va_up (va_up f0 0 (.int 0)) 7 (.int 0))))] H := hP
  have hD : va_D A [(h0, .inr (11, xo_Parts (va_up (va_up f0 0 (.int 0)) 7 (.int 0))))] := hD
  refine lv_aload_n hx hb dn_Parts_clear_10 rfl (lv_at hl 0 rfl) ?_
  refine lv_iconst (v := 0) hx hb dn_Parts_clear_11 (by decide) ?_
  refine va_put (D := (dC, dI)) (ci := 11) (v := .int 0) (ty := .int) (C := rn_Parts) (T := fn_Parts) (N := 15) hx hb hg in_Parts tn_Parts tk_Parts nn_Parts hown hK hP hD hS 0 rfl rfl 11 (by decide) (hg _ wn_2_162) (fun _ h9 => h9) rfl (tk_Parts 11 (by decide)) rfl rfl (Nat.le_of_ble_eq_true rfl) dn_Parts_clear_12 (fun H locs hP hD hS => ?_)
  have hP : va_P (dC, dI) xcl [(h0, .inr (11, xo_Parts (va_up (va_up (va_up f0 0 (.int 0)) 7 (.int 0)) 11 (.int 0))))] H := hP
  have hD : va_D A [(h0, .inr (11, xo_Parts (va_up (va_up (va_up f0 0 (.int 0)) 7 (.int 0)) 11 (.int 0))))] := hD
  have hP9 := hP.sub (ws' := [(h0, .inr (11, xo_Parts (va_up (va_up (va_up f0 0 (.int 0)) 7 (.int 0)) 11 (.int 0))))]) [0] rfl
  have hD9 := hD.sub (ws' := [(h0, .inr (11, xo_Parts (va_up (va_up (va_up f0 0 (.int 0)) 7 (.int 0)) 11 (.int 0))))]) [0] (by decide) rfl
  exact xk_vret (w1 := fun u : Unit => [(h0, .inr (11, xo_Parts (va_up (va_up (va_up f0 0 (.int 0)) 7 (.int 0)) 11 (.int 0))))]) () hx hb hr hlocks hK hS dn_Parts_clear_15 hP9 hD9 trivial (Nat.le_refl _) (Nat.le_refl _)
set_option maxHeartbeats 4000000 in
set_option maxRecDepth 100000 in
theorem ct_Code_clear_0 (l : Launch) (dC : Nat → ClassId) (dI : Nat → Nat → Nat) (cI cB cJ cZ cQ : ClassId) (sz : Nat) (h0 : Nat) (f0 : Nat → Value) : Met l yn_Code_clear (xw yn_Code_clear bn_Code_clear 1 none) ({ frames := 0, cells := 0, slots := 0, locals := 0 }) (xk_P (dC, dI) xcl (xt cI cB cJ cZ cQ) [.ref h0] sz [(h0, .inr (12, xo_Code f0))]) (xk_Qv (dC, dI) xcl (xt cI cB cJ cZ cQ) (fun u : Unit => True) (fun u : Unit => [(h0, .inr (12, xo_Code (va_up (va_up f0 1 (.int 0)) 4 (.int 0))))]) (va_A [(h0, .inr (12, xo_Code f0))] sz)) 0 0 (va_A [(h0, .inr (12, xo_Code f0))] sz) := by
  refine xk_of (QA := xk_Qv (dC, dI) xcl (xt cI cB cJ cZ cQ) (fun u : Unit => True) (fun u : Unit => [(h0, .inr (12, xo_Code (va_up (va_up f0 1 (.int 0)) 4 (.int 0))))])) (by decide) (Nat.le_of_ble_eq_true rfl) ?_
  intro p e s m below meth c hx hb hml hown hg hr hlocks hin hP hK hN A hA hD hS ls hl
  have hown : s.vm.findClass rn_Code = some m.cls := hown
  have hl : lv_has ls 1 [(0, .ref h0)] := hl
  obtain ⟨H, hH⟩ : ∃ z, z = s.heap := ⟨_, rfl⟩
  rw [← hH] at hP
  have hS : va_S A s.heap H [] := by rw [hH]; exact va_S.rf
  suffices kk : W p l e ({ frames := 0, cells := 0, slots := 0, locals := 0 }) s m [.ref h0].toArray below meth c H [] 0 0 (MQ below (xk_Qv (dC, dI) xcl (xt cI cB cJ cZ cQ) (fun u : Unit => True) (fun u : Unit => [(h0, .inr (12, xo_Code (va_up (va_up f0 1 (.int 0)) 4 (.int 0))))]) A) [.ref h0].toArray s 0 0 A) (F0 m 0 ls []) by rw [hH] at kk; exact kk
  refine lv_aload_n hx hb dn_Code_clear_0 rfl (lv_at hl 0 rfl) ?_
  refine lv_iconst (v := 0) hx hb dn_Code_clear_1 (by decide) ?_
  refine va_put (D := (dC, dI)) (ci := 12) (v := .int 0) (ty := .int) (C := rn_Code) (T := fn_Code) (N := 5) hx hb hg in_Code tn_Code tk_Code nn_Code hown hK hP hD hS 0 rfl rfl 1 (by decide) (hg _ wn_2_211) (fun _ h9 => h9) rfl (tk_Code 1 (by decide)) rfl rfl (Nat.le_of_ble_eq_true rfl) dn_Code_clear_2 (fun H locs hP hD hS => ?_)
  have hP : va_P (dC, dI) xcl [(h0, .inr (12, xo_Code (va_up f0 1 (.int 0))))] H := hP
  have hD : va_D A [(h0, .inr (12, xo_Code (va_up f0 1 (.int 0))))] := hD
  refine lv_aload_n hx hb dn_Code_clear_5 rfl (lv_at hl 0 rfl) ?_
  refine lv_iconst (v := 0) hx hb dn_Code_clear_6 (by decide) ?_
  refine va_put (D := (dC, dI)) (ci := 12) (v := .int 0) (ty := .int) (C := rn_Code) (T := fn_Code) (N := 5) hx hb hg in_Code tn_Code tk_Code nn_Code hown hK hP hD hS 0 rfl rfl 4 (by decide) (hg _ wn_2_219) (fun _ h9 => h9) rfl (tk_Code 4 (by decide)) rfl rfl (Nat.le_of_ble_eq_true rfl) dn_Code_clear_7 (fun H locs hP hD hS => ?_)
  have hP : va_P (dC, dI) xcl [(h0, .inr (12, xo_Code (va_up (va_up f0 1 (.int 0)) 4 (.int 0))))] H := hP
  have hD : va_D A [(h0, .inr (12, xo_Code (va_up (va_up f0 1 (.int 0)) 4 (.int 0))))] := hD
  have hP9 := hP.sub (ws' := [(h0, .inr (12, xo_Code (va_up (va_up f0 1 (.int 0)) 4 (.int 0))))]) [0] rfl
  have hD9 := hD.sub (ws' := [(h0, .inr (12, xo_Code (va_up (va_up f0 1 (.int 0)) 4 (.int 0))))]) [0] (by decide) rfl
  exact xk_vret (w1 := fun u : Unit => [(h0, .inr (12, xo_Code (va_up (va_up f0 1 (.int 0)) 4 (.int 0))))]) () hx hb hr hlocks hK hS dn_Code_clear_10 hP9 hD9 trivial (Nat.le_refl _) (Nat.le_refl _)
set_option maxHeartbeats 4000000 in
set_option maxRecDepth 100000 in
theorem ct_Design_clear_0 (l : Launch) (dC : Nat → ClassId) (dI : Nat → Nat → Nat) (cI cB cJ cZ cQ : ClassId) (sz : Nat) (h0 : Nat) (h1 : Nat) (h2 : Nat) (h3 : Nat) (f0 : Nat → Value) (f1 : Nat → Value) (f2 : Nat → Value) (hf0_0 : f0 0 = .ref h1) (hf0_1 : f0 1 = .ref h2) (hf0_2 : f0 2 = .ref h3) : Met l yn_Design_clear (xw yn_Design_clear bn_Design_clear 2 none) ({ frames := 1, cells := 0, slots := 0, locals := 40 }) (xk_P (dC, dI) xcl (xt cI cB cJ cZ cQ) [.ref h0, .int 0] sz [(h0, .inr (10, xo_Design f0)), (h1, .inr (11, xo_Parts f1)), (h2, .inr (12, xo_Code f2)), (h3, .inl (cB, 65536, .inl (fun _ => 0)))]) (xk_Qv (dC, dI) xcl (xt cI cB cJ cZ cQ) (fun u : Unit => True) (fun u : Unit => [(h0, .inr (10, xo_Design (va_up (va_up (va_up (va_up f0 3 (.int 0)) 4 (.int 0)) 12 (.int 0)) 5 (.int 0)))), (h3, .inl (cB, 65536, .inl (fun _ => 0))), (h1, .inr (11, xo_Parts (va_up (va_up (va_up f1 0 (.int 0)) 7 (.int 0)) 11 (.int 0)))), (h2, .inr (12, xo_Code (va_up (va_up f2 1 (.int 0)) 4 (.int 0))))]) (va_A [(h0, .inr (10, xo_Design f0)), (h1, .inr (11, xo_Parts f1)), (h2, .inr (12, xo_Code f2)), (h3, .inl (cB, 65536, .inl (fun _ => 0)))] sz)) 0 0 (va_A [(h0, .inr (10, xo_Design f0)), (h1, .inr (11, xo_Parts f1)), (h2, .inr (12, xo_Code f2)), (h3, .inl (cB, 65536, .inl (fun _ => 0)))] sz) := by
  refine xk_of (QA := xk_Qv (dC, dI) xcl (xt cI cB cJ cZ cQ) (fun u : Unit => True) (fun u : Unit => [(h0, .inr (10, xo_Design (va_up (va_up (va_up (va_up f0 3 (.int 0)) 4 (.int 0)) 12 (.int 0)) 5 (.int 0)))), (h3, .inl (cB, 65536, .inl (fun _ => 0))), (h1, .inr (11, xo_Parts (va_up (va_up (va_up f1 0 (.int 0)) 7 (.int 0)) 11 (.int 0)))), (h2, .inr (12, xo_Code (va_up (va_up f2 1 (.int 0)) 4 (.int 0))))])) (by decide) (Nat.le_of_ble_eq_true rfl) ?_
  intro p e s m below meth c hx hb hml hown hg hr hlocks hin hP hK hN A hA hD hS ls hl
  have hown : s.vm.findClass rn_Design = some m.cls := hown
  have hl : lv_has ls 2 [(0, .ref h0), (1, .int 0)] := hl
  obtain ⟨H, hH⟩ : ∃ z, z = s.heap := ⟨_, rfl⟩
  rw [← hH] at hP
  have hS : va_S A s.heap H [] := by rw [hH]; exact va_S.rf
  suffices kk : W p l e ({ frames := 1, cells := 0, slots := 0, locals := 40 }) s m [.ref h0, .int 0].toArray below meth c H [] 0 0 (MQ below (xk_Qv (dC, dI) xcl (xt cI cB cJ cZ cQ) (fun u : Unit => True) (fun u : Unit => [(h0, .inr (10, xo_Design (va_up (va_up (va_up (va_up f0 3 (.int 0)) 4 (.int 0)) 12 (.int 0)) 5 (.int 0)))), (h3, .inl (cB, 65536, .inl (fun _ => 0))), (h1, .inr (11, xo_Parts (va_up (va_up (va_up f1 0 (.int 0)) 7 (.int 0)) 11 (.int 0)))), (h2, .inr (12, xo_Code (va_up (va_up f2 1 (.int 0)) 4 (.int 0))))]) A) [.ref h0, .int 0].toArray s 0 0 A) (F0 m 0 ls []) by rw [hH] at kk; exact kk
  refine lv_aload_n hx hb dn_Design_clear_0 rfl (lv_at hl 0 rfl) ?_
  refine lv_iload_n hx hb dn_Design_clear_1 rfl (lv_at hl 1 rfl) ?_
  refine lv_aload_n hx hb dn_Design_clear_2 rfl (lv_at hl 0 rfl) ?_
  refine va_get (D := (dC, dI)) (ci := 10) (v := .ref h3) (C := rn_Design) (T := fn_Design) (N := 16) hx hb hg in_Design hown hK hP 0 rfl rfl 2 (by decide) (hg _ wn_3_4) (fun _ h9 => h9) (congrArg some hf0_2) dn_Design_clear_3 ?_
  refine va_alen (v := 65536) hx hb hK hP 3 1 rfl rfl rfl dn_Design_clear_6 ?_
  refine va_mmin (x := 0) (y := 65536) (rest := [.ref h0]) hx hb (by rw [hml]; exact hl.1.symm) hown (hg _ wn_3_167) (hg _ wn_3_168) (hg _ wn_1_19) (hg _ wn_3_169) (Nat.le_of_ble_eq_true rfl) (Nat.le_of_ble_eq_true rfl) (Nat.le_of_ble_eq_true rfl) (Nat.le_of_ble_eq_true rfl) dn_Design_clear_7 ?_
  refine xk_ti (y := 0) (by decide) ?_
  refine va_put (D := (dC, dI)) (ci := 10) (v := .int 0) (ty := .int) (C := rn_Design) (T := fn_Design) (N := 16) hx hb hg in_Design tn_Design tk_Design nn_Design hown hK hP hD hS 0 rfl rfl 3 (by decide) (hg _ wn_3_7) (fun _ h9 => h9) rfl (tk_Design 3 (by decide)) rfl rfl (Nat.le_of_ble_eq_true rfl) dn_Design_clear_10 (fun H locs hP hD hS => ?_)
  have hP : va_P (dC, dI) xcl [(h0, .inr (10, xo_Design (va_up f0 3 (.int 0)))), (h1, .inr (11, xo_Parts f1)), (h2, .inr (12, xo_Code f2)), (h3, .inl (cB, 65536, .inl (fun _ => 0)))] H := hP
  have hD : va_D A [(h0, .inr (10, xo_Design (va_up f0 3 (.int 0)))), (h1, .inr (11, xo_Parts f1)), (h2, .inr (12, xo_Code f2)), (h3, .inl (cB, 65536, .inl (fun _ => 0)))] := hD
  refine lv_aload_n hx hb dn_Design_clear_13 rfl (lv_at hl 0 rfl) ?_
  refine lv_iconst (v := 0) hx hb dn_Design_clear_14 (by decide) ?_
  refine va_put (D := (dC, dI)) (ci := 10) (v := .int 0) (ty := .int) (C := rn_Design) (T := fn_Design) (N := 16) hx hb hg in_Design tn_Design tk_Design nn_Design hown hK hP hD hS 0 rfl rfl 4 (by decide) (hg _ wn_3_10) (fun _ h9 => h9) rfl (tk_Design 4 (by decide)) rfl rfl (Nat.le_of_ble_eq_true rfl) dn_Design_clear_15 (fun H locs hP hD hS => ?_)
  have hP : va_P (dC, dI) xcl [(h0, .inr (10, xo_Design (va_up (va_up f0 3 (.int 0)) 4 (.int 0)))), (h1, .inr (11, xo_Parts f1)), (h2, .inr (12, xo_Code f2)), (h3, .inl (cB, 65536, .inl (fun _ => 0)))] H := hP
  have hD : va_D A [(h0, .inr (10, xo_Design (va_up (va_up f0 3 (.int 0)) 4 (.int 0)))), (h1, .inr (11, xo_Parts f1)), (h2, .inr (12, xo_Code f2)), (h3, .inl (cB, 65536, .inl (fun _ => 0)))] := hD
  refine lv_aload_n hx hb dn_Design_clear_18 rfl (lv_at hl 0 rfl) ?_
  refine lv_iconst (v := 0) hx hb dn_Design_clear_19 (by decide) ?_
  refine va_put (D := (dC, dI)) (ci := 10) (v := .int 0) (ty := .int) (C := rn_Design) (T := fn_Design) (N := 16) hx hb hg in_Design tn_Design tk_Design nn_Design hown hK hP hD hS 0 rfl rfl 12 (by decide) (hg _ wn_3_21) (fun _ h9 => h9) rfl (tk_Design 12 (by decide)) rfl rfl (Nat.le_of_ble_eq_true rfl) dn_Design_clear_20 (fun H locs hP hD hS => ?_)
  have hP : va_P (dC, dI) xcl [(h0, .inr (10, xo_Design (va_up (va_up (va_up f0 3 (.int 0)) 4 (.int 0)) 12 (.int 0)))), (h1, .inr (11, xo_Parts f1)), (h2, .inr (12, xo_Code f2)), (h3, .inl (cB, 65536, .inl (fun _ => 0)))] H := hP
  have hD : va_D A [(h0, .inr (10, xo_Design (va_up (va_up (va_up f0 3 (.int 0)) 4 (.int 0)) 12 (.int 0)))), (h1, .inr (11, xo_Parts f1)), (h2, .inr (12, xo_Code f2)), (h3, .inl (cB, 65536, .inl (fun _ => 0)))] := hD
  refine lv_aload_n hx hb dn_Design_clear_23 rfl (lv_at hl 0 rfl) ?_
  refine lv_iconst (v := 0) hx hb dn_Design_clear_24 (by decide) ?_
  refine va_put (D := (dC, dI)) (ci := 10) (v := .int 0) (ty := .int) (C := rn_Design) (T := fn_Design) (N := 16) hx hb hg in_Design tn_Design tk_Design nn_Design hown hK hP hD hS 0 rfl rfl 5 (by decide) (hg _ wn_3_13) (fun _ h9 => h9) rfl (tk_Design 5 (by decide)) rfl rfl (Nat.le_of_ble_eq_true rfl) dn_Design_clear_25 (fun H locs hP hD hS => ?_)
  have hP : va_P (dC, dI) xcl [(h0, .inr (10, xo_Design (va_up (va_up (va_up (va_up f0 3 (.int 0)) 4 (.int 0)) 12 (.int 0)) 5 (.int 0)))), (h1, .inr (11, xo_Parts f1)), (h2, .inr (12, xo_Code f2)), (h3, .inl (cB, 65536, .inl (fun _ => 0)))] H := hP
  have hD : va_D A [(h0, .inr (10, xo_Design (va_up (va_up (va_up (va_up f0 3 (.int 0)) 4 (.int 0)) 12 (.int 0)) 5 (.int 0)))), (h1, .inr (11, xo_Parts f1)), (h2, .inr (12, xo_Code f2)), (h3, .inl (cB, 65536, .inl (fun _ => 0)))] := hD
  refine lv_aload_n hx hb dn_Design_clear_28 rfl (lv_at hl 0 rfl) ?_
  refine va_get (D := (dC, dI)) (ci := 10) (v := .ref h1) (C := rn_Design) (T := fn_Design) (N := 16) hx hb hg in_Design hown hK hP 0 rfl rfl 0 (by decide) (hg _ wn_2_234) (fun _ h9 => h9) (congrArg some hf0_0) dn_Design_clear_29 ?_
  have hPc := hP.sub (ws' := [(h1, .inr (11, xo_Parts f1))]) [1] rfl
  have hDc := hD.sub (ws' := [(h1, .inr (11, xo_Parts f1))]) [1] (by decide) rfl
  refine xk_callv (wr := [(h0, .inr (10, xo_Design (va_up (va_up (va_up (va_up f0 3 (.int 0)) 4 (.int 0)) 12 (.int 0)) 5 (.int 0)))), (h2, .inr (12, xo_Code f2)), (h3, .inl (cB, 65536, .inl (fun _ => 0)))]) (xk_runV (ar := 0) (As := []) (rest := []) (ci := 11) (q0 := 0) ⟨hx, hb, hml, hown, hg⟩ hK hN (ct_Parts_clear_0 l dC dI cI cB cJ cZ cQ H.size h1 f1) hPc hDc rfl rfl wn_3_170 wn_3_171 wn_3_172 wn_1_11 wn_3_173 rfl rfl (by decide +kernel) ⟨Nat.le_of_ble_eq_true rfl, Nat.le_of_ble_eq_true rfl⟩ rfl hl.1 rfl (Nat.le_of_ble_eq_true rfl) dn_Design_clear_32 ⟨Nat.le_of_ble_eq_true rfl, Nat.le_of_ble_eq_true rfl⟩) hP hD hS hA [1] [0, 2, 3] rfl rfl (by decide) (by decide) (fun _ H locs hw hP hD hS => ?_)
  have hP : va_P (dC, dI) xcl [(h0, .inr (10, xo_Design (va_up (va_up (va_up (va_up f0 3 (.int 0)) 4 (.int 0)) 12 (.int 0)) 5 (.int 0)))), (h2, .inr (12, xo_Code f2)), (h3, .inl (cB, 65536, .inl (fun _ => 0))), (h1, .inr (11, xo_Parts (va_up (va_up (va_up f1 0 (.int 0)) 7 (.int 0)) 11 (.int 0))))] H := hP
  have hD : va_D A [(h0, .inr (10, xo_Design (va_up (va_up (va_up (va_up f0 3 (.int 0)) 4 (.int 0)) 12 (.int 0)) 5 (.int 0)))), (h2, .inr (12, xo_Code f2)), (h3, .inl (cB, 65536, .inl (fun _ => 0))), (h1, .inr (11, xo_Parts (va_up (va_up (va_up f1 0 (.int 0)) 7 (.int 0)) 11 (.int 0))))] := hD
  refine lv_aload_n hx hb dn_Design_clear_35 rfl (lv_at hl 0 rfl) ?_
  refine va_get (D := (dC, dI)) (ci := 10) (v := .ref h2) (C := rn_Design) (T := fn_Design) (N := 16) hx hb hg in_Design hown hK hP 0 rfl rfl 1 (by decide) (hg _ wn_2_238) (fun _ h9 => h9) (congrArg some hf0_1) dn_Design_clear_36 ?_
  have hPc := hP.sub (ws' := [(h2, .inr (12, xo_Code f2))]) [1] rfl
  have hDc := hD.sub (ws' := [(h2, .inr (12, xo_Code f2))]) [1] (by decide) rfl
  refine xk_callv (wr := [(h0, .inr (10, xo_Design (va_up (va_up (va_up (va_up f0 3 (.int 0)) 4 (.int 0)) 12 (.int 0)) 5 (.int 0)))), (h3, .inl (cB, 65536, .inl (fun _ => 0))), (h1, .inr (11, xo_Parts (va_up (va_up (va_up f1 0 (.int 0)) 7 (.int 0)) 11 (.int 0))))]) (xk_runV (ar := 0) (As := []) (rest := []) (ci := 12) (q0 := 0) ⟨hx, hb, hml, hown, hg⟩ hK hN (ct_Code_clear_0 l dC dI cI cB cJ cZ cQ H.size h2 f2) hPc hDc rfl rfl wn_3_174 wn_3_175 wn_3_176 wn_1_12 wn_3_177 rfl rfl (by decide +kernel) ⟨Nat.le_of_ble_eq_true rfl, Nat.le_of_ble_eq_true rfl⟩ rfl hl.1 rfl (Nat.le_of_ble_eq_true rfl) dn_Design_clear_39 ⟨Nat.le_of_ble_eq_true rfl, Nat.le_of_ble_eq_true rfl⟩) hP hD hS hA [1] [0, 2, 3] rfl rfl (by decide) (by decide) (fun _ H locs hw hP hD hS => ?_)
  have hP : va_P (dC, dI) xcl [(h0, .inr (10, xo_Design (va_up (va_up (va_up (va_up f0 3 (.int 0)) 4 (.int 0)) 12 (.int 0)) 5 (.int 0)))), (h3, .inl (cB, 65536, .inl (fun _ => 0))), (h1, .inr (11, xo_Parts (va_up (va_up (va_up f1 0 (.int 0)) 7 (.int 0)) 11 (.int 0)))), (h2, .inr (12, xo_Code (va_up (va_up f2 1 (.int 0)) 4 (.int 0))))] H := hP
  have hD : va_D A [(h0, .inr (10, xo_Design (va_up (va_up (va_up (va_up f0 3 (.int 0)) 4 (.int 0)) 12 (.int 0)) 5 (.int 0)))), (h3, .inl (cB, 65536, .inl (fun _ => 0))), (h1, .inr (11, xo_Parts (va_up (va_up (va_up f1 0 (.int 0)) 7 (.int 0)) 11 (.int 0)))), (h2, .inr (12, xo_Code (va_up (va_up f2 1 (.int 0)) 4 (.int 0))))] := hD
  have hP9 := hP.sub (ws' := [(h0, .inr (10, xo_Design (va_up (va_up (va_up (va_up f0 3 (.int 0)) 4 (.int 0)) 12 (.int 0)) 5 (.int 0)))), (h3, .inl (cB, 65536, .inl (fun _ => 0))), (h1, .inr (11, xo_Parts (va_up (va_up (va_up f1 0 (.int 0)) 7 (.int 0)) 11 (.int 0)))), (h2, .inr (12, xo_Code (va_up (va_up f2 1 (.int 0)) 4 (.int 0))))]) [0, 1, 2, 3] rfl
  have hD9 := hD.sub (ws' := [(h0, .inr (10, xo_Design (va_up (va_up (va_up (va_up f0 3 (.int 0)) 4 (.int 0)) 12 (.int 0)) 5 (.int 0)))), (h3, .inl (cB, 65536, .inl (fun _ => 0))), (h1, .inr (11, xo_Parts (va_up (va_up (va_up f1 0 (.int 0)) 7 (.int 0)) 11 (.int 0)))), (h2, .inr (12, xo_Code (va_up (va_up f2 1 (.int 0)) 4 (.int 0))))]) [0, 1, 2, 3] (by decide) rfl
  exact xk_vret (w1 := fun u : Unit => [(h0, .inr (10, xo_Design (va_up (va_up (va_up (va_up f0 3 (.int 0)) 4 (.int 0)) 12 (.int 0)) 5 (.int 0)))), (h3, .inl (cB, 65536, .inl (fun _ => 0))), (h1, .inr (11, xo_Parts (va_up (va_up (va_up f1 0 (.int 0)) 7 (.int 0)) 11 (.int 0)))), (h2, .inr (12, xo_Code (va_up (va_up f2 1 (.int 0)) 4 (.int 0))))]) () hx hb hr hlocks hK hS dn_Design_clear_42 hP9 hD9 trivial (Nat.le_refl _) (Nat.le_refl _)
set_option maxHeartbeats 4000000 in
set_option maxRecDepth 100000 in
theorem ct_Tokens_clear_0 (l : Launch) (dC : Nat → ClassId) (dI : Nat → Nat → Nat) (cI cB cJ cZ cQ : ClassId) (sz : Nat) (h0 : Nat) (f0 : Nat → Value) : Met l yn_Tokens_clear (xw yn_Tokens_clear bn_Tokens_clear 1 none) ({ frames := 0, cells := 0, slots := 0, locals := 0 }) (xk_P (dC, dI) xcl (xt cI cB cJ cZ cQ) [.ref h0] sz [(h0, .inr (2, xo_Tokens f0))]) (xk_Qv (dC, dI) xcl (xt cI cB cJ cZ cQ) (fun u : Unit => True) (fun u : Unit => [(h0, .inr (2, xo_Tokens (va_up f0 1 (.int 0))))]) (va_A [(h0, .inr (2, xo_Tokens f0))] sz)) 0 0 (va_A [(h0, .inr (2, xo_Tokens f0))] sz) := by
  refine xk_of (QA := xk_Qv (dC, dI) xcl (xt cI cB cJ cZ cQ) (fun u : Unit => True) (fun u : Unit => [(h0, .inr (2, xo_Tokens (va_up f0 1 (.int 0))))])) (by decide) (Nat.le_of_ble_eq_true rfl) ?_
  intro p e s m below meth c hx hb hml hown hg hr hlocks hin hP hK hN A hA hD hS ls hl
  have hown : s.vm.findClass rn_Tokens = some m.cls := hown
  have hl : lv_has ls 1 [(0, .ref h0)] := hl
  obtain ⟨H, hH⟩ : ∃ z, z = s.heap := ⟨_, rfl⟩
  rw [← hH] at hP
  have hS : va_S A s.heap H [] := by rw [hH]; exact va_S.rf
  suffices kk : W p l e ({ frames := 0, cells := 0, slots := 0, locals := 0 }) s m [.ref h0].toArray below meth c H [] 0 0 (MQ below (xk_Qv (dC, dI) xcl (xt cI cB cJ cZ cQ) (fun u : Unit => True) (fun u : Unit => [(h0, .inr (2, xo_Tokens (va_up f0 1 (.int 0))))]) A) [.ref h0].toArray s 0 0 A) (F0 m 0 ls []) by rw [hH] at kk; exact kk
  refine lv_aload_n hx hb dn_Tokens_clear_0 rfl (lv_at hl 0 rfl) ?_
  refine lv_iconst (v := 0) hx hb dn_Tokens_clear_1 (by decide) ?_
  refine va_put (D := (dC, dI)) (ci := 2) (v := .int 0) (ty := .int) (C := rn_Tokens) (T := fn_Tokens) (N := 9) hx hb hg in_Tokens tn_Tokens tk_Tokens nn_Tokens hown hK hP hD hS 0 rfl rfl 1 (by decide) (hg _ wn_1_46) (fun _ h9 => h9) rfl (tk_Tokens 1 (by decide)) rfl rfl (Nat.le_of_ble_eq_true rfl) dn_Tokens_clear_2 (fun H locs hP hD hS => ?_)
  have hP : va_P (dC, dI) xcl [(h0, .inr (2, xo_Tokens (va_up f0 1 (.int 0))))] H := hP
  have hD : va_D A [(h0, .inr (2, xo_Tokens (va_up f0 1 (.int 0))))] := hD
  have hP9 := hP.sub (ws' := [(h0, .inr (2, xo_Tokens (va_up f0 1 (.int 0))))]) [0] rfl
  have hD9 := hD.sub (ws' := [(h0, .inr (2, xo_Tokens (va_up f0 1 (.int 0))))]) [0] (by decide) rfl
  exact xk_vret (w1 := fun u : Unit => [(h0, .inr (2, xo_Tokens (va_up f0 1 (.int 0))))]) () hx hb hr hlocks hK hS dn_Tokens_clear_5 hP9 hD9 trivial (Nat.le_refl _) (Nat.le_refl _)
set_option maxHeartbeats 4000000 in
set_option maxRecDepth 100000 in
theorem ct_Tokens_add_0 (l : Launch) (dC : Nat → ClassId) (dI : Nat → Nat → Nat) (cI cB cJ cZ cQ : ClassId) (sz : Nat) (h0 : Nat) (h1 : Nat) (f0 : Nat → Value) (hf0_0 : f0 0 = .ref h0) (hf0_1 : f0 1 = .int 0) : Met l yn_Tokens_add (xw yn_Tokens_add bn_Tokens_add 4 none) ({ frames := 0, cells := 0, slots := 0, locals := 0 }) (xk_P (dC, dI) xcl (xt cI cB cJ cZ cQ) [.ref h1, .int 0, .int 0, .int (-1)] sz [(h0, .inl (cJ, 65537, .inr (.inl (fun _ => 0)))), (h1, .inr (2, xo_Tokens f0))]) (xk_Qv (dC, dI) xcl (xt cI cB cJ cZ cQ) (fun u : Unit => True) (fun u : Unit => [(h0, .inl (cJ, 65537, .inr (.inl (vp_updL (fun _ => 0) 0 0)))), (h1, .inr (2, xo_Tokens (va_up f0 1 (.int 1))))]) (va_A [(h0, .inl (cJ, 65537, .inr (.inl (fun _ => 0)))), (h1, .inr (2, xo_Tokens f0))] sz)) 0 0 (va_A [(h0, .inl (cJ, 65537, .inr (.inl (fun _ => 0)))), (h1, .inr (2, xo_Tokens f0))] sz) := by
  refine xk_of (QA := xk_Qv (dC, dI) xcl (xt cI cB cJ cZ cQ) (fun u : Unit => True) (fun u : Unit => [(h0, .inl (cJ, 65537, .inr (.inl (vp_updL (fun _ => 0) 0 0)))), (h1, .inr (2, xo_Tokens (va_up f0 1 (.int 1))))])) (by decide) (Nat.le_of_ble_eq_true rfl) ?_
  intro p e s m below meth c hx hb hml hown hg hr hlocks hin hP hK hN A hA hD hS ls hl
  have hown : s.vm.findClass rn_Tokens = some m.cls := hown
  have hl : lv_has ls 4 [(0, .ref h1), (1, .int 0), (2, .int 0), (3, .int (-1))] := hl
  obtain ⟨H, hH⟩ : ∃ z, z = s.heap := ⟨_, rfl⟩
  rw [← hH] at hP
  have hS : va_S A s.heap H [] := by rw [hH]; exact va_S.rf
  suffices kk : W p l e ({ frames := 0, cells := 0, slots := 0, locals := 0 }) s m [.ref h1, .int 0, .int 0, .int (-1)].toArray below meth c H [] 0 0 (MQ below (xk_Qv (dC, dI) xcl (xt cI cB cJ cZ cQ) (fun u : Unit => True) (fun u : Unit => [(h0, .inl (cJ, 65537, .inr (.inl (vp_updL (fun _ => 0) 0 0)))), (h1, .inr (2, xo_Tokens (va_up f0 1 (.int 1))))]) A) [.ref h1, .int 0, .int 0, .int (-1)].toArray s 0 0 A) (F0 m 0 ls []) by rw [hH] at kk; exact kk
  refine lv_aload_n hx hb dn_Tokens_add_0 rfl (lv_at hl 0 rfl) ?_
  refine va_get (D := (dC, dI)) (ci := 2) (v := .int 0) (C := rn_Tokens) (T := fn_Tokens) (N := 9) hx hb hg in_Tokens hown hK hP 1 rfl rfl 1 (by decide) (hg _ wn_1_46) (fun _ h9 => h9) (congrArg some hf0_1) dn_Tokens_add_1 ?_
  refine lv_aload_n hx hb dn_Tokens_add_4 rfl (lv_at hl 0 rfl) ?_
  refine va_get (D := (dC, dI)) (ci := 2) (v := .ref h0) (C := rn_Tokens) (T := fn_Tokens) (N := 9) hx hb hg in_Tokens hown hK hP 1 rfl rfl 0 (by decide) (hg _ wn_1_45) (fun _ h9 => h9) (congrArg some hf0_0) dn_Tokens_add_5 ?_
  refine va_alen (v := 65537) hx hb hK hP 0 2 rfl rfl rfl dn_Tokens_add_8 ?_
  refine lv_icmp_lt (tgt := 13) hx hb dn_Tokens_add_9 (by decide) (fun _ => ?_) (fun h9 => absurd h9 (by decide))
  refine lv_aload_n hx hb dn_Tokens_add_13 rfl (lv_at hl 0 rfl) ?_
  refine va_get (D := (dC, dI)) (ci := 2) (v := .ref h0) (C := rn_Tokens) (T := fn_Tokens) (N := 9) hx hb hg in_Tokens hown hK hP 1 rfl rfl 0 (by decide) (hg _ wn_1_45) (fun _ h9 => h9) (congrArg some hf0_0) dn_Tokens_add_14 ?_
  refine lv_aload_n hx hb dn_Tokens_add_17 rfl (lv_at hl 0 rfl) ?_
  refine va_get (D := (dC, dI)) (ci := 2) (v := .int 0) (C := rn_Tokens) (T := fn_Tokens) (N := 9) hx hb hg in_Tokens hown hK hP 1 rfl rfl 1 (by decide) (hg _ wn_1_46) (fun _ h9 => h9) (congrArg some hf0_1) dn_Tokens_add_18 ?_
  refine lv_iload_n hx hb dn_Tokens_add_21 rfl (lv_at hl 1 rfl) ?_
  refine lv_i2l (v := 0) hx hb dn_Tokens_add_22 (by decide) ?_
  refine lv_bipush (v := 40) hx hb dn_Tokens_add_23 (by decide) ?_
  refine lv_lshl (v := 0) hx hb dn_Tokens_add_25 (by decide) ?_
  refine lv_iload_n hx hb dn_Tokens_add_26 rfl (lv_at hl 2 rfl) ?_
  refine lv_i2l (v := 0) hx hb dn_Tokens_add_27 (by decide) ?_
  refine lv_bipush (v := 20) hx hb dn_Tokens_add_28 (by decide) ?_
  refine lv_lshl (v := 0) hx hb dn_Tokens_add_30 (by decide) ?_
  refine lv_lor hx hb dn_Tokens_add_31 ?_
  refine xk_tl (y := 0) (by decide) ?_
  refine lv_iload_n hx hb dn_Tokens_add_32 rfl (lv_at hl 3 rfl) ?_
  refine lv_iconst (v := 1) hx hb dn_Tokens_add_33 (by decide) ?_
  refine lv_iadd hx hb dn_Tokens_add_34 ?_
  refine xk_ti (y := 0) (by decide) ?_
  refine lv_i2l (v := 0) hx hb dn_Tokens_add_35 (by decide) ?_
  refine lv_lor hx hb dn_Tokens_add_36 ?_
  refine xk_tl (y := 0) (by decide) ?_
  refine va_last hx hb hK hP hD hS 0 2 rfl rfl (show ¬ (_ ∨ _) by decide) dn_Tokens_add_37 (fun H locs hP hD hS => ?_)
  have hP : va_P (dC, dI) xcl [(h0, .inl (cJ, 65537, .inr (.inl (vp_updL (fun _ => 0) 0 0)))), (h1, .inr (2, xo_Tokens f0))] H := hP
  have hD : va_D A [(h0, .inl (cJ, 65537, .inr (.inl (vp_updL (fun _ => 0) 0 0)))), (h1, .inr (2, xo_Tokens f0))] := hD
  refine lv_aload_n hx hb dn_Tokens_add_38 rfl (lv_at hl 0 rfl) ?_
  refine lv_dup hx hb dn_Tokens_add_39 rfl ?_
  refine va_get (D := (dC, dI)) (ci := 2) (v := .int 0) (C := rn_Tokens) (T := fn_Tokens) (N := 9) hx hb hg in_Tokens hown hK hP 1 rfl rfl 1 (by decide) (hg _ wn_1_46) (fun _ h9 => h9) (congrArg some hf0_1) dn_Tokens_add_40 ?_
  refine lv_iconst (v := 1) hx hb dn_Tokens_add_43 (by decide) ?_
  refine lv_iadd hx hb dn_Tokens_add_44 ?_
  refine xk_ti (y := 1) (by decide) ?_
  refine va_put (D := (dC, dI)) (ci := 2) (v := .int 1) (ty := .int) (C := rn_Tokens) (T := fn_Tokens) (N := 9) hx hb hg in_Tokens tn_Tokens tk_Tokens nn_Tokens hown hK hP hD hS 1 rfl rfl 1 (by decide) (hg _ wn_1_46) (fun _ h9 => h9) rfl (tk_Tokens 1 (by decide)) rfl rfl (Nat.le_of_ble_eq_true rfl) dn_Tokens_add_45 (fun H locs hP hD hS => ?_)
  have hP : va_P (dC, dI) xcl [(h0, .inl (cJ, 65537, .inr (.inl (vp_updL (fun _ => 0) 0 0)))), (h1, .inr (2, xo_Tokens (va_up f0 1 (.int 1))))] H := hP
  have hD : va_D A [(h0, .inl (cJ, 65537, .inr (.inl (vp_updL (fun _ => 0) 0 0)))), (h1, .inr (2, xo_Tokens (va_up f0 1 (.int 1))))] := hD
  have hP9 := hP.sub (ws' := [(h0, .inl (cJ, 65537, .inr (.inl (vp_updL (fun _ => 0) 0 0)))), (h1, .inr (2, xo_Tokens (va_up f0 1 (.int 1))))]) [0, 1] rfl
  have hD9 := hD.sub (ws' := [(h0, .inl (cJ, 65537, .inr (.inl (vp_updL (fun _ => 0) 0 0)))), (h1, .inr (2, xo_Tokens (va_up f0 1 (.int 1))))]) [0, 1] (by decide) rfl
  exact xk_vret (w1 := fun u : Unit => [(h0, .inl (cJ, 65537, .inr (.inl (vp_updL (fun _ => 0) 0 0)))), (h1, .inr (2, xo_Tokens (va_up f0 1 (.int 1))))]) () hx hb hr hlocks hK hS dn_Tokens_add_48 hP9 hD9 trivial (Nat.le_refl _) (Nat.le_refl _)
set_option maxHeartbeats 4000000 in
set_option maxRecDepth 100000 in
theorem ct_Scanner_scan_0 (l : Launch) (dC : Nat → ClassId) (dI : Nat → Nat → Nat) (cI cB cJ cZ cQ : ClassId) (sz : Nat) (h0 : Nat) (h1 : Nat) (h2 : Nat) (h3 : Nat) (h4 : Nat) (h5 : Nat) (f0 : Nat → Value) (f1 : Nat → Value) (f2 : Nat → Value) (h6 : Nat) (hf0_0 : f0 0 = .ref h1) (hf1_0 : f1 0 = .ref h0) (hf1_4 : f1 4 = .ref h3) (hf2_1 : f2 1 = .ref h6) (hf2_2 : f2 2 = .ref h5) (hf2_3 : f2 3 = .int 0) : Met l yn_Scanner_scan (xw yn_Scanner_scan bn_Scanner_scan 5 none) ({ frames := 1, cells := 0, slots := 0, locals := 40 }) (xk_P (dC, dI) xcl (xt cI cB cJ cZ cQ) [.ref h2, .ref h4] sz [(h0, .inr (2, xo_Tokens f0)), (h1, .inl (cJ, 65537, .inr (.inl (fun _ => 0)))), (h2, .inr (3, xo_Scanner f1)), (h3, .inl (cI, 256, .inl (fun _ => 0))), (h4, .inr (10, xo_Design f2)), (h5, .inl (cB, 65536, .inl (fun _ => 0)))]) (xk_Qv (dC, dI) xcl (xt cI cB cJ cZ cQ) (fun u : Unit => True) (fun u : Unit => [(h2, .inr (3, xo_Scanner (va_up (va_up (va_up (va_up f1 1 (.ref h5)) 2 (.int 0)) 3 (.ref h6)) 8 (.int 0)))), (h4, .inr (10, xo_Design f2)), (h5, .inl (cB, 65536, .inl (fun _ => 0))), (h3, .inl (cI, 256, .inl (xk_fillv 256 ((-1)) (fun _ => 0)))), (h1, .inl (cJ, 65537, .inr (.inl (vp_updL (fun _ => 0) 0 0)))), (h0, .inr (2, xo_Tokens (va_up (va_up f0 1 (.int 0)) 1 (.int 1))))]) (va_A [(h0, .inr (2, xo_Tokens f0)), (h1, .inl (cJ, 65537, .inr (.inl (fun _ => 0)))), (h2, .inr (3, xo_Scanner f1)), (h3, .inl (cI, 256, .inl (fun _ => 0))), (h4, .inr (10, xo_Design f2)), (h5, .inl (cB, 65536, .inl (fun _ => 0)))] sz)) 0 0 (va_A [(h0, .inr (2, xo_Tokens f0)), (h1, .inl (cJ, 65537, .inr (.inl (fun _ => 0)))), (h2, .inr (3, xo_Scanner f1)), (h3, .inl (cI, 256, .inl (fun _ => 0))), (h4, .inr (10, xo_Design f2)), (h5, .inl (cB, 65536, .inl (fun _ => 0)))] sz) := by
  refine xk_of (QA := xk_Qv (dC, dI) xcl (xt cI cB cJ cZ cQ) (fun u : Unit => True) (fun u : Unit => [(h2, .inr (3, xo_Scanner (va_up (va_up (va_up (va_up f1 1 (.ref h5)) 2 (.int 0)) 3 (.ref h6)) 8 (.int 0)))), (h4, .inr (10, xo_Design f2)), (h5, .inl (cB, 65536, .inl (fun _ => 0))), (h3, .inl (cI, 256, .inl (xk_fillv 256 ((-1)) (fun _ => 0)))), (h1, .inl (cJ, 65537, .inr (.inl (vp_updL (fun _ => 0) 0 0)))), (h0, .inr (2, xo_Tokens (va_up (va_up f0 1 (.int 0)) 1 (.int 1))))])) (by decide) (Nat.le_of_ble_eq_true rfl) ?_
  intro p e s m below meth c hx hb hml hown hg hr hlocks hin hP hK hN A hA hD hS ls hl
  have hown : s.vm.findClass rn_Scanner = some m.cls := hown
  have hl : lv_has ls 5 [(0, .ref h2), (1, .ref h4)] := hl
  obtain ⟨H, hH⟩ : ∃ z, z = s.heap := ⟨_, rfl⟩
  rw [← hH] at hP
  have hS : va_S A s.heap H [] := by rw [hH]; exact va_S.rf
  suffices kk : W p l e ({ frames := 1, cells := 0, slots := 0, locals := 40 }) s m [.ref h2, .ref h4].toArray below meth c H [] 0 0 (MQ below (xk_Qv (dC, dI) xcl (xt cI cB cJ cZ cQ) (fun u : Unit => True) (fun u : Unit => [(h2, .inr (3, xo_Scanner (va_up (va_up (va_up (va_up f1 1 (.ref h5)) 2 (.int 0)) 3 (.ref h6)) 8 (.int 0)))), (h4, .inr (10, xo_Design f2)), (h5, .inl (cB, 65536, .inl (fun _ => 0))), (h3, .inl (cI, 256, .inl (xk_fillv 256 ((-1)) (fun _ => 0)))), (h1, .inl (cJ, 65537, .inr (.inl (vp_updL (fun _ => 0) 0 0)))), (h0, .inr (2, xo_Tokens (va_up (va_up f0 1 (.int 0)) 1 (.int 1))))]) A) [.ref h2, .ref h4].toArray s 0 0 A) (F0 m 0 ls []) by rw [hH] at kk; exact kk
  refine lv_aload_n hx hb dn_Scanner_scan_0 rfl (lv_at hl 0 rfl) ?_
  refine lv_aload_n hx hb dn_Scanner_scan_1 rfl (lv_at hl 1 rfl) ?_
  refine va_get (D := (dC, dI)) (ci := 10) (v := .ref h5) (C := rn_Design) (T := fn_Design) (N := 16) hx hb hg in_Design hown hK hP 4 rfl rfl 2 (by decide) (hg _ wn_3_5) (fun _ h9 => h9) (congrArg some hf2_2) dn_Scanner_scan_2 ?_
  refine va_put (D := (dC, dI)) (ci := 3) (v := .ref h5) (ty := (.array .byte)) (C := rn_Scanner) (T := fn_Scanner) (N := 9) hx hb hg in_Scanner tn_Scanner tk_Scanner nn_Scanner hown hK hP hD hS 2 rfl rfl 1 (by decide) (hg _ wn_1_90) (fun _ h9 => h9) rfl (tk_Scanner 1 (by decide)) rfl rfl (Nat.le_of_ble_eq_true rfl) dn_Scanner_scan_5 (fun H locs hP hD hS => ?_)
  have hP : va_P (dC, dI) xcl [(h0, .inr (2, xo_Tokens f0)), (h1, .inl (cJ, 65537, .inr (.inl (fun _ => 0)))), (h2, .inr (3, xo_Scanner (va_up f1 1 (.ref h5)))), (h3, .inl (cI, 256, .inl (fun _ => 0))), (h4, .inr (10, xo_Design f2)), (h5, .inl (cB, 65536, .inl (fun _ => 0)))] H := hP
  have hD : va_D A [(h0, .inr (2, xo_Tokens f0)), (h1, .inl (cJ, 65537, .inr (.inl (fun _ => 0)))), (h2, .inr (3, xo_Scanner (va_up f1 1 (.ref h5)))), (h3, .inl (cI, 256, .inl (fun _ => 0))), (h4, .inr (10, xo_Design f2)), (h5, .inl (cB, 65536, .inl (fun _ => 0)))] := hD
  refine lv_aload_n hx hb dn_Scanner_scan_8 rfl (lv_at hl 0 rfl) ?_
  refine lv_aload_n hx hb dn_Scanner_scan_9 rfl (lv_at hl 1 rfl) ?_
  refine va_get (D := (dC, dI)) (ci := 10) (v := .int 0) (C := rn_Design) (T := fn_Design) (N := 16) hx hb hg in_Design hown hK hP 4 rfl rfl 3 (by decide) (hg _ wn_3_8) (fun _ h9 => h9) (congrArg some hf2_3) dn_Scanner_scan_10 ?_
  refine lv_aload_n hx hb dn_Scanner_scan_13 rfl (lv_at hl 0 rfl) ?_
  refine va_get (D := (dC, dI)) (ci := 3) (v := .ref h5) (C := rn_Scanner) (T := fn_Scanner) (N := 9) hx hb hg in_Scanner hown hK hP 2 rfl rfl 1 (by decide) (hg _ wn_1_90) (fun _ h9 => h9) rfl dn_Scanner_scan_14 ?_
  refine va_alen (v := 65536) hx hb hK hP 5 1 rfl rfl rfl dn_Scanner_scan_17 ?_
  refine va_mmin (x := 0) (y := 65536) (rest := [.ref h2]) hx hb (by rw [hml]; exact hl.1.symm) hown (hg _ wn_3_182) (hg _ wn_3_168) (hg _ wn_1_19) (hg _ wn_3_169) (Nat.le_of_ble_eq_true rfl) (Nat.le_of_ble_eq_true rfl) (Nat.le_of_ble_eq_true rfl) (Nat.le_of_ble_eq_true rfl) dn_Scanner_scan_18 ?_
  refine xk_ti (y := 0) (by decide) ?_
  refine va_put (D := (dC, dI)) (ci := 3) (v := .int 0) (ty := .int) (C := rn_Scanner) (T := fn_Scanner) (N := 9) hx hb hg in_Scanner tn_Scanner tk_Scanner nn_Scanner hown hK hP hD hS 2 rfl rfl 2 (by decide) (hg _ wn_1_91) (fun _ h9 => h9) rfl (tk_Scanner 2 (by decide)) rfl rfl (Nat.le_of_ble_eq_true rfl) dn_Scanner_scan_21 (fun H locs hP hD hS => ?_)
  have hP : va_P (dC, dI) xcl [(h0, .inr (2, xo_Tokens f0)), (h1, .inl (cJ, 65537, .inr (.inl (fun _ => 0)))), (h2, .inr (3, xo_Scanner (va_up (va_up f1 1 (.ref h5)) 2 (.int 0)))), (h3, .inl (cI, 256, .inl (fun _ => 0))), (h4, .inr (10, xo_Design f2)), (h5, .inl (cB, 65536, .inl (fun _ => 0)))] H := hP
  have hD : va_D A [(h0, .inr (2, xo_Tokens f0)), (h1, .inl (cJ, 65537, .inr (.inl (fun _ => 0)))), (h2, .inr (3, xo_Scanner (va_up (va_up f1 1 (.ref h5)) 2 (.int 0)))), (h3, .inl (cI, 256, .inl (fun _ => 0))), (h4, .inr (10, xo_Design f2)), (h5, .inl (cB, 65536, .inl (fun _ => 0)))] := hD
  refine lv_aload_n hx hb dn_Scanner_scan_24 rfl (lv_at hl 0 rfl) ?_
  refine lv_aload_n hx hb dn_Scanner_scan_25 rfl (lv_at hl 1 rfl) ?_
  refine va_get (D := (dC, dI)) (ci := 10) (v := .ref h6) (C := rn_Design) (T := fn_Design) (N := 16) hx hb hg in_Design hown hK hP 4 rfl rfl 1 (by decide) (hg _ wn_3_1) (fun _ h9 => h9) (congrArg some hf2_1) dn_Scanner_scan_26 ?_
  refine va_put (D := (dC, dI)) (ci := 3) (v := .ref h6) (ty := (.object "CircuitCycles$Code")) (C := rn_Scanner) (T := fn_Scanner) (N := 9) hx hb hg in_Scanner tn_Scanner tk_Scanner nn_Scanner hown hK hP hD hS 2 rfl rfl 3 (by decide) (hg _ wn_1_92) (fun _ h9 => h9) rfl (tk_Scanner 3 (by decide)) rfl rfl (Nat.le_of_ble_eq_true rfl) dn_Scanner_scan_29 (fun H locs hP hD hS => ?_)
  have hP : va_P (dC, dI) xcl [(h0, .inr (2, xo_Tokens f0)), (h1, .inl (cJ, 65537, .inr (.inl (fun _ => 0)))), (h2, .inr (3, xo_Scanner (va_up (va_up (va_up f1 1 (.ref h5)) 2 (.int 0)) 3 (.ref h6)))), (h3, .inl (cI, 256, .inl (fun _ => 0))), (h4, .inr (10, xo_Design f2)), (h5, .inl (cB, 65536, .inl (fun _ => 0)))] H := hP
  have hD : va_D A [(h0, .inr (2, xo_Tokens f0)), (h1, .inl (cJ, 65537, .inr (.inl (fun _ => 0)))), (h2, .inr (3, xo_Scanner (va_up (va_up (va_up f1 1 (.ref h5)) 2 (.int 0)) 3 (.ref h6)))), (h3, .inl (cI, 256, .inl (fun _ => 0))), (h4, .inr (10, xo_Design f2)), (h5, .inl (cB, 65536, .inl (fun _ => 0)))] := hD
  refine lv_aload_n hx hb dn_Scanner_scan_32 rfl (lv_at hl 0 rfl) ?_
  refine va_get (D := (dC, dI)) (ci := 3) (v := .ref h0) (C := rn_Scanner) (T := fn_Scanner) (N := 9) hx hb hg in_Scanner hown hK hP 2 rfl rfl 0 (by decide) (hg _ wn_1_89) (fun _ h9 => h9) (congrArg some hf1_0) dn_Scanner_scan_33 ?_
  have hPc := hP.sub (ws' := [(h0, .inr (2, xo_Tokens f0))]) [0] rfl
  have hDc := hD.sub (ws' := [(h0, .inr (2, xo_Tokens f0))]) [0] (by decide) rfl
  refine xk_callv (wr := [(h1, .inl (cJ, 65537, .inr (.inl (fun _ => 0)))), (h2, .inr (3, xo_Scanner (va_up (va_up (va_up f1 1 (.ref h5)) 2 (.int 0)) 3 (.ref h6)))), (h3, .inl (cI, 256, .inl (fun _ => 0))), (h4, .inr (10, xo_Design f2)), (h5, .inl (cB, 65536, .inl (fun _ => 0)))]) (xk_runV (ar := 0) (As := []) (rest := []) (ci := 2) (q0 := 0) ⟨hx, hb, hml, hown, hg⟩ hK hN (ct_Tokens_clear_0 l dC dI cI cB cJ cZ cQ H.size h0 f0) hPc hDc rfl rfl wn_3_183 wn_3_184 wn_3_185 wn_1_2 wn_3_186 rfl rfl (by decide +kernel) ⟨Nat.le_of_ble_eq_true rfl, Nat.le_of_ble_eq_true rfl⟩ rfl hl.1 rfl (Nat.le_of_ble_eq_true rfl) dn_Scanner_scan_36 ⟨Nat.le_of_ble_eq_true rfl, Nat.le_of_ble_eq_true rfl⟩) hP hD hS hA [0] [1, 2, 3, 4, 5] rfl rfl (by decide) (by decide) (fun _ H locs hw hP hD hS => ?_)
  have hP : va_P (dC, dI) xcl [(h1, .inl (cJ, 65537, .inr (.inl (fun _ => 0)))), (h2, .inr (3, xo_Scanner (va_up (va_up (va_up f1 1 (.ref h5)) 2 (.int 0)) 3 (.ref h6)))), (h3, .inl (cI, 256, .inl (fun _ => 0))), (h4, .inr (10, xo_Design f2)), (h5, .inl (cB, 65536, .inl (fun _ => 0))), (h0, .inr (2, xo_Tokens (va_up f0 1 (.int 0))))] H := hP
  have hD : va_D A [(h1, .inl (cJ, 65537, .inr (.inl (fun _ => 0)))), (h2, .inr (3, xo_Scanner (va_up (va_up (va_up f1 1 (.ref h5)) 2 (.int 0)) 3 (.ref h6)))), (h3, .inl (cI, 256, .inl (fun _ => 0))), (h4, .inr (10, xo_Design f2)), (h5, .inl (cB, 65536, .inl (fun _ => 0))), (h0, .inr (2, xo_Tokens (va_up f0 1 (.int 0))))] := hD
  refine lv_aload_n hx hb dn_Scanner_scan_39 rfl (lv_at hl 0 rfl) ?_
  refine va_get (D := (dC, dI)) (ci := 3) (v := .ref h3) (C := rn_Scanner) (T := fn_Scanner) (N := 9) hx hb hg in_Scanner hown hK hP 1 rfl rfl 4 (by decide) (hg _ wn_1_93) (fun _ h9 => h9) (congrArg some hf1_4) dn_Scanner_scan_40 ?_
  refine lv_iconst (v := (-1)) hx hb dn_Scanner_scan_43 (by decide) ?_
  have hPc := hP.sub (ws' := [(h3, .inl (cI, 256, .inl (fun _ => 0)))]) [2] rfl
  have hDc := hD.sub (ws' := [(h3, .inl (cI, 256, .inl (fun _ => 0)))]) [2] (by decide) rfl
  refine xk_callv (wr := [(h1, .inl (cJ, 65537, .inr (.inl (fun _ => 0)))), (h2, .inr (3, xo_Scanner (va_up (va_up (va_up f1 1 (.ref h5)) 2 (.int 0)) 3 (.ref h6)))), (h4, .inr (10, xo_Design f2)), (h5, .inl (cB, 65536, .inl (fun _ => 0))), (h0, .inr (2, xo_Tokens (va_up f0 1 (.int 0))))]) (xk_runS (ar := 2) (As := [.ref h3, .int (-1)]) (rest := []) ⟨hx, hb, hml, hown, hg⟩ hK hN (ct_fill_256 l dC dI cI cB cJ cZ cQ H.size h3 (fun _ => 0) ((-1))) hPc hDc wn_3_187 wn_3_188 wn_1_20 wn_3_189 rfl rfl (by decide +kernel) ⟨Nat.le_of_ble_eq_true rfl, Nat.le_of_ble_eq_true rfl⟩ rfl hl.1 rfl (Nat.le_of_ble_eq_true rfl) dn_Scanner_scan_44 ⟨Nat.le_of_ble_eq_true rfl, Nat.le_of_ble_eq_true rfl⟩) hP hD hS hA [2] [0, 1, 3, 4, 5] rfl rfl (by decide) (by decide) (fun _ H locs hw hP hD hS => ?_)
  have hP : va_P (dC, dI) xcl [(h1, .inl (cJ, 65537, .inr (.inl (fun _ => 0)))), (h2, .inr (3, xo_Scanner (va_up (va_up (va_up f1 1 (.ref h5)) 2 (.int 0)) 3 (.ref h6)))), (h4, .inr (10, xo_Design f2)), (h5, .inl (cB, 65536, .inl (fun _ => 0))), (h0, .inr (2, xo_Tokens (va_up f0 1 (.int 0)))), (h3, .inl (cI, 256, .inl (xk_fillv 256 ((-1)) (fun _ => 0))))] H := hP
  have hD : va_D A [(h1, .inl (cJ, 65537, .inr (.inl (fun _ => 0)))), (h2, .inr (3, xo_Scanner (va_up (va_up (va_up f1 1 (.ref h5)) 2 (.int 0)) 3 (.ref h6)))), (h4, .inr (10, xo_Design f2)), (h5, .inl (cB, 65536, .inl (fun _ => 0))), (h0, .inr (2, xo_Tokens (va_up f0 1 (.int 0)))), (h3, .inl (cI, 256, .inl (xk_fillv 256 ((-1)) (fun _ => 0))))] := hD
  refine lv_aload_n hx hb dn_Scanner_scan_47 rfl (lv_at hl 0 rfl) ?_
  refine lv_iconst (v := 0) hx hb dn_Scanner_scan_48 (by decide) ?_
  refine va_put (D := (dC, dI)) (ci := 3) (v := .int 0) (ty := .int) (C := rn_Scanner) (T := fn_Scanner) (N := 9) hx hb hg in_Scanner tn_Scanner tk_Scanner nn_Scanner hown hK hP hD hS 1 rfl rfl 8 (by decide) (hg _ wn_1_97) (fun _ h9 => h9) rfl (tk_Scanner 8 (by decide)) rfl rfl (Nat.le_of_ble_eq_true rfl) dn_Scanner_scan_49 (fun H locs hP hD hS => ?_)
  have hP : va_P (dC, dI) xcl [(h1, .inl (cJ, 65537, .inr (.inl (fun _ => 0)))), (h2, .inr (3, xo_Scanner (va_up (va_up (va_up (va_up f1 1 (.ref h5)) 2 (.int 0)) 3 (.ref h6)) 8 (.int 0)))), (h4, .inr (10, xo_Design f2)), (h5, .inl (cB, 65536, .inl (fun _ => 0))), (h0, .inr (2, xo_Tokens (va_up f0 1 (.int 0)))), (h3, .inl (cI, 256, .inl (xk_fillv 256 ((-1)) (fun _ => 0))))] H := hP
  have hD : va_D A [(h1, .inl (cJ, 65537, .inr (.inl (fun _ => 0)))), (h2, .inr (3, xo_Scanner (va_up (va_up (va_up (va_up f1 1 (.ref h5)) 2 (.int 0)) 3 (.ref h6)) 8 (.int 0)))), (h4, .inr (10, xo_Design f2)), (h5, .inl (cB, 65536, .inl (fun _ => 0))), (h0, .inr (2, xo_Tokens (va_up f0 1 (.int 0)))), (h3, .inl (cI, 256, .inl (xk_fillv 256 ((-1)) (fun _ => 0))))] := hD
  refine lv_iconst (v := 0) hx hb dn_Scanner_scan_52 (by decide) ?_
  refine lv_istore_n (lv' := [(2, .int 0), (0, .ref h2), (1, .ref h4)]) hx hb dn_Scanner_scan_53 rfl hl (by decide) rfl (fun ls hl => ?_)
  refine lv_iconst (v := 1) hx hb dn_Scanner_scan_54 (by decide) ?_
  refine lv_istore_n (lv' := [(3, .int 1), (2, .int 0), (0, .ref h2), (1, .ref h4)]) hx hb dn_Scanner_scan_55 rfl hl (by decide) rfl (fun ls hl => ?_)
  refine lv_iload_n hx hb dn_Scanner_scan_56 rfl (lv_at hl 0 rfl) ?_
  refine lv_if_eq (tgt := 110) hx hb dn_Scanner_scan_57 (by decide) (fun h9 => absurd h9 (by decide)) (fun _ => ?_)
  refine lv_iload_n hx hb dn_Scanner_scan_60 rfl (lv_at hl 1 rfl) ?_
  refine lv_aload_n hx hb dn_Scanner_scan_61 rfl (lv_at hl 2 rfl) ?_
  refine va_get (D := (dC, dI)) (ci := 3) (v := .int 0) (C := rn_Scanner) (T := fn_Scanner) (N := 9) hx hb hg in_Scanner hown hK hP 1 rfl rfl 2 (by decide) (hg _ wn_1_91) (fun _ h9 => h9) rfl dn_Scanner_scan_62 ?_
  refine lv_icmp_ge (tgt := 110) hx hb dn_Scanner_scan_65 (by decide) (fun _ => ?_) (fun h9 => absurd h9 (by decide))
  refine lv_aload_n hx hb dn_Scanner_scan_110 rfl (lv_at hl 2 rfl) ?_
  refine va_get (D := (dC, dI)) (ci := 3) (v := .ref h0) (C := rn_Scanner) (T := fn_Scanner) (N := 9) hx hb hg in_Scanner hown hK hP 1 rfl rfl 0 (by decide) (hg _ wn_1_89) (fun _ h9 => h9) (congrArg some hf1_0) dn_Scanner_scan_111 ?_
  refine lv_iload_n hx hb dn_Scanner_scan_114 rfl (lv_at hl 0 rfl) ?_
  refine lv_if_eq (tgt := 122) hx hb dn_Scanner_scan_115 (by decide) (fun h9 => absurd h9 (by decide)) (fun _ => ?_)
  refine lv_iconst (v := 0) hx hb dn_Scanner_scan_118 (by decide) ?_
  refine lv_goto (tgt := 123) hx hb dn_Scanner_scan_119 (by decide) ?_
  refine lv_iload_n hx hb dn_Scanner_scan_123 rfl (lv_at hl 1 rfl) ?_
  refine lv_iconst (v := (-1)) hx hb dn_Scanner_scan_124 (by decide) ?_
  have hPc := hP.sub (ws' := [(h1, .inl (cJ, 65537, .inr (.inl (fun _ => 0)))), (h0, .inr (2, xo_Tokens (va_up f0 1 (.int 0))))]) [0, 4] rfl
  have hDc := hD.sub (ws' := [(h1, .inl (cJ, 65537, .inr (.inl (fun _ => 0)))), (h0, .inr (2, xo_Tokens (va_up f0 1 (.int 0))))]) [0, 4] (by decide) rfl
  refine xk_callv (wr := [(h2, .inr (3, xo_Scanner (va_up (va_up (va_up (va_up f1 1 (.ref h5)) 2 (.int 0)) 3 (.ref h6)) 8 (.int 0)))), (h4, .inr (10, xo_Design f2)), (h5, .inl (cB, 65536, .inl (fun _ => 0))), (h3, .inl (cI, 256, .inl (xk_fillv 256 ((-1)) (fun _ => 0))))]) (xk_runV (ar := 3) (As := [.int 0, .int 0, .int (-1)]) (rest := []) (ci := 2) (q0 := 1) ⟨hx, hb, hml, hown, hg⟩ hK hN (ct_Tokens_add_0 l dC dI cI cB cJ cZ cQ H.size h1 h0 (va_up f0 1 (.int 0)) hf0_0 (show (va_up f0 1 (.int 0)) 1 = .int 0 from rfl)) hPc hDc rfl rfl wn_4_45 wn_4_46 wn_4_47 wn_1_2 wn_4_48 rfl rfl (by decide +kernel) ⟨Nat.le_of_ble_eq_true rfl, Nat.le_of_ble_eq_true rfl⟩ rfl hl.1 rfl (Nat.le_of_ble_eq_true rfl) dn_Scanner_scan_125 ⟨Nat.le_of_ble_eq_true rfl, Nat.le_of_ble_eq_true rfl⟩) hP hD hS hA [0, 4] [1, 2, 3, 5] rfl rfl (by decide) (by decide) (fun _ H locs hw hP hD hS => ?_)
  have hP : va_P (dC, dI) xcl [(h2, .inr (3, xo_Scanner (va_up (va_up (va_up (va_up f1 1 (.ref h5)) 2 (.int 0)) 3 (.ref h6)) 8 (.int 0)))), (h4, .inr (10, xo_Design f2)), (h5, .inl (cB, 65536, .inl (fun _ => 0))), (h3, .inl (cI, 256, .inl (xk_fillv 256 ((-1)) (fun _ => 0)))), (h1, .inl (cJ, 65537, .inr (.inl (vp_updL (fun _ => 0) 0 0)))), (h0, .inr (2, xo_Tokens (va_up (va_up f0 1 (.int 0)) 1 (.int 1))))] H := hP
  have hD : va_D A [(h2, .inr (3, xo_Scanner (va_up (va_up (va_up (va_up f1 1 (.ref h5)) 2 (.int 0)) 3 (.ref h6)) 8 (.int 0)))), (h4, .inr (10, xo_Design f2)), (h5, .inl (cB, 65536, .inl (fun _ => 0))), (h3, .inl (cI, 256, .inl (xk_fillv 256 ((-1)) (fun _ => 0)))), (h1, .inl (cJ, 65537, .inr (.inl (vp_updL (fun _ => 0) 0 0)))), (h0, .inr (2, xo_Tokens (va_up (va_up f0 1 (.int 0)) 1 (.int 1))))] := hD
  have hP9 := hP.sub (ws' := [(h2, .inr (3, xo_Scanner (va_up (va_up (va_up (va_up f1 1 (.ref h5)) 2 (.int 0)) 3 (.ref h6)) 8 (.int 0)))), (h4, .inr (10, xo_Design f2)), (h5, .inl (cB, 65536, .inl (fun _ => 0))), (h3, .inl (cI, 256, .inl (xk_fillv 256 ((-1)) (fun _ => 0)))), (h1, .inl (cJ, 65537, .inr (.inl (vp_updL (fun _ => 0) 0 0)))), (h0, .inr (2, xo_Tokens (va_up (va_up f0 1 (.int 0)) 1 (.int 1))))]) [0, 1, 2, 3, 4, 5] rfl
  have hD9 := hD.sub (ws' := [(h2, .inr (3, xo_Scanner (va_up (va_up (va_up (va_up f1 1 (.ref h5)) 2 (.int 0)) 3 (.ref h6)) 8 (.int 0)))), (h4, .inr (10, xo_Design f2)), (h5, .inl (cB, 65536, .inl (fun _ => 0))), (h3, .inl (cI, 256, .inl (xk_fillv 256 ((-1)) (fun _ => 0)))), (h1, .inl (cJ, 65537, .inr (.inl (vp_updL (fun _ => 0) 0 0)))), (h0, .inr (2, xo_Tokens (va_up (va_up f0 1 (.int 0)) 1 (.int 1))))]) [0, 1, 2, 3, 4, 5] (by decide) rfl
  exact xk_vret (w1 := fun u : Unit => [(h2, .inr (3, xo_Scanner (va_up (va_up (va_up (va_up f1 1 (.ref h5)) 2 (.int 0)) 3 (.ref h6)) 8 (.int 0)))), (h4, .inr (10, xo_Design f2)), (h5, .inl (cB, 65536, .inl (fun _ => 0))), (h3, .inl (cI, 256, .inl (xk_fillv 256 ((-1)) (fun _ => 0)))), (h1, .inl (cJ, 65537, .inr (.inl (vp_updL (fun _ => 0) 0 0)))), (h0, .inr (2, xo_Tokens (va_up (va_up f0 1 (.int 0)) 1 (.int 1))))]) () hx hb hr hlocks hK hS dn_Scanner_scan_128 hP9 hD9 trivial (Nat.le_refl _) (Nat.le_refl _)
set_option maxHeartbeats 4000000 in
set_option maxRecDepth 100000 in
theorem ct_Tokens_kindAt_0 (l : Launch) (dC : Nat → ClassId) (dI : Nat → Nat → Nat) (cI cB cJ cZ cQ : ClassId) (sz : Nat) (h0 : Nat) (h1 : Nat) (g0 : Nat → Int64) (f0 : Nat → Value) (he0_0 : g0 0 = 0) (hf0_0 : f0 0 = .ref h0) (hf0_1 : f0 1 = .int 1) : Met l yn_Tokens_kindAt (xw yn_Tokens_kindAt bn_Tokens_kindAt 2 (some .int)) ({ frames := 0, cells := 0, slots := 0, locals := 0 }) (xk_P (dC, dI) xcl (xt cI cB cJ cZ cQ) [.ref h1, .int 0] sz [(h0, .inl (cJ, 65537, .inr (.inl g0))), (h1, .inr (2, xo_Tokens f0))]) (xk_Qi (dC, dI) xcl (xt cI cB cJ cZ cQ) (fun (r : Int32) (u : Unit) => r = 0) (fun u : Unit => [(h0, .inl (cJ, 65537, .inr (.inl g0))), (h1, .inr (2, xo_Tokens f0))]) (va_A [(h0, .inl (cJ, 65537, .inr (.inl g0))), (h1, .inr (2, xo_Tokens f0))] sz)) 0 0 (va_A [(h0, .inl (cJ, 65537, .inr (.inl g0))), (h1, .inr (2, xo_Tokens f0))] sz) := by
  refine xk_of (QA := xk_Qi (dC, dI) xcl (xt cI cB cJ cZ cQ) (fun (r : Int32) (u : Unit) => r = 0) (fun u : Unit => [(h0, .inl (cJ, 65537, .inr (.inl g0))), (h1, .inr (2, xo_Tokens f0))])) (by decide) (Nat.le_of_ble_eq_true rfl) ?_
  intro p e s m below meth c hx hb hml hown hg hr hlocks hin hP hK hN A hA hD hS ls hl
  have hown : s.vm.findClass rn_Tokens = some m.cls := hown
  have hl : lv_has ls 2 [(0, .ref h1), (1, .int 0)] := hl
  obtain ⟨H, hH⟩ : ∃ z, z = s.heap := ⟨_, rfl⟩
  rw [← hH] at hP
  have hS : va_S A s.heap H [] := by rw [hH]; exact va_S.rf
  suffices kk : W p l e ({ frames := 0, cells := 0, slots := 0, locals := 0 }) s m [.ref h1, .int 0].toArray below meth c H [] 0 0 (MQ below (xk_Qi (dC, dI) xcl (xt cI cB cJ cZ cQ) (fun (r : Int32) (u : Unit) => r = 0) (fun u : Unit => [(h0, .inl (cJ, 65537, .inr (.inl g0))), (h1, .inr (2, xo_Tokens f0))]) A) [.ref h1, .int 0].toArray s 0 0 A) (F0 m 0 ls []) by rw [hH] at kk; exact kk
  refine lv_iload_n hx hb dn_Tokens_kindAt_0 rfl (lv_at hl 1 rfl) ?_
  refine lv_if_lt (tgt := 25) hx hb dn_Tokens_kindAt_1 (by decide) (fun h9 => absurd h9 (by decide)) (fun _ => ?_)
  refine lv_iload_n hx hb dn_Tokens_kindAt_4 rfl (lv_at hl 1 rfl) ?_
  refine lv_aload_n hx hb dn_Tokens_kindAt_5 rfl (lv_at hl 0 rfl) ?_
  refine va_get (D := (dC, dI)) (ci := 2) (v := .int 1) (C := rn_Tokens) (T := fn_Tokens) (N := 9) hx hb hg in_Tokens hown hK hP 1 rfl rfl 1 (by decide) (hg _ wn_1_46) (fun _ h9 => h9) (congrArg some hf0_1) dn_Tokens_kindAt_6 ?_
  refine lv_icmp_ge (tgt := 25) hx hb dn_Tokens_kindAt_9 (by decide) (fun h9 => absurd h9 (by decide)) (fun _ => ?_)
  refine lv_aload_n hx hb dn_Tokens_kindAt_12 rfl (lv_at hl 0 rfl) ?_
  refine va_get (D := (dC, dI)) (ci := 2) (v := .ref h0) (C := rn_Tokens) (T := fn_Tokens) (N := 9) hx hb hg in_Tokens hown hK hP 1 rfl rfl 0 (by decide) (hg _ wn_1_45) (fun _ h9 => h9) (congrArg some hf0_0) dn_Tokens_kindAt_13 ?_
  refine lv_iload_n hx hb dn_Tokens_kindAt_16 rfl (lv_at hl 1 rfl) ?_
  refine va_lald hx hb hK hP 0 2 rfl rfl (show ¬ (_ ∨ _) by decide) dn_Tokens_kindAt_17 ?_
  refine xk_tl (y := 0) he0_0 ?_
  refine lv_bipush (v := 40) hx hb dn_Tokens_kindAt_18 (by decide) ?_
  refine lv_lushr (v := 0) hx hb dn_Tokens_kindAt_20 (by decide) ?_
  refine lv_l2i (v := 0) hx hb dn_Tokens_kindAt_21 (by decide) ?_
  refine lv_goto (tgt := 26) hx hb dn_Tokens_kindAt_22 (by decide) ?_
  have hP9 := hP.sub (ws' := [(h0, .inl (cJ, 65537, .inr (.inl g0))), (h1, .inr (2, xo_Tokens f0))]) [0, 1] rfl
  have hD9 := hD.sub (ws' := [(h0, .inl (cJ, 65537, .inr (.inl g0))), (h1, .inr (2, xo_Tokens f0))]) [0, 1] (by decide) rfl
  exact xk_iret (w1 := fun u : Unit => [(h0, .inl (cJ, 65537, .inr (.inl g0))), (h1, .inr (2, xo_Tokens f0))]) () hx hb hr hlocks hK hS dn_Tokens_kindAt_26 hP9 hD9 rfl (Nat.le_refl _) (Nat.le_refl _)
set_option maxHeartbeats 4000000 in
set_option maxRecDepth 100000 in
theorem ct_Tokens_extraAt_0 (l : Launch) (dC : Nat → ClassId) (dI : Nat → Nat → Nat) (cI cB cJ cZ cQ : ClassId) (sz : Nat) (h0 : Nat) (h1 : Nat) (g0 : Nat → Int64) (f0 : Nat → Value) (he0_0 : g0 0 = 0) (hf0_0 : f0 0 = .ref h0) (hf0_1 : f0 1 = .int 1) : Met l yn_Tokens_extraAt (xw yn_Tokens_extraAt bn_Tokens_extraAt 2 (some .int)) ({ frames := 0, cells := 0, slots := 0, locals := 0 }) (xk_P (dC, dI) xcl (xt cI cB cJ cZ cQ) [.ref h1, .int 0] sz [(h0, .inl (cJ, 65537, .inr (.inl g0))), (h1, .inr (2, xo_Tokens f0))]) (xk_Qi (dC, dI) xcl (xt cI cB cJ cZ cQ) (fun (r : Int32) (u : Unit) => r = (-1)) (fun u : Unit => [(h0, .inl (cJ, 65537, .inr (.inl g0))), (h1, .inr (2, xo_Tokens f0))]) (va_A [(h0, .inl (cJ, 65537, .inr (.inl g0))), (h1, .inr (2, xo_Tokens f0))] sz)) 0 0 (va_A [(h0, .inl (cJ, 65537, .inr (.inl g0))), (h1, .inr (2, xo_Tokens f0))] sz) := by
  refine xk_of (QA := xk_Qi (dC, dI) xcl (xt cI cB cJ cZ cQ) (fun (r : Int32) (u : Unit) => r = (-1)) (fun u : Unit => [(h0, .inl (cJ, 65537, .inr (.inl g0))), (h1, .inr (2, xo_Tokens f0))])) (by decide) (Nat.le_of_ble_eq_true rfl) ?_
  intro p e s m below meth c hx hb hml hown hg hr hlocks hin hP hK hN A hA hD hS ls hl
  have hown : s.vm.findClass rn_Tokens = some m.cls := hown
  have hl : lv_has ls 2 [(0, .ref h1), (1, .int 0)] := hl
  obtain ⟨H, hH⟩ : ∃ z, z = s.heap := ⟨_, rfl⟩
  rw [← hH] at hP
  have hS : va_S A s.heap H [] := by rw [hH]; exact va_S.rf
  suffices kk : W p l e ({ frames := 0, cells := 0, slots := 0, locals := 0 }) s m [.ref h1, .int 0].toArray below meth c H [] 0 0 (MQ below (xk_Qi (dC, dI) xcl (xt cI cB cJ cZ cQ) (fun (r : Int32) (u : Unit) => r = (-1)) (fun u : Unit => [(h0, .inl (cJ, 65537, .inr (.inl g0))), (h1, .inr (2, xo_Tokens f0))]) A) [.ref h1, .int 0].toArray s 0 0 A) (F0 m 0 ls []) by rw [hH] at kk; exact kk
  refine lv_iload_n hx hb dn_Tokens_extraAt_0 rfl (lv_at hl 1 rfl) ?_
  refine lv_if_lt (tgt := 27) hx hb dn_Tokens_extraAt_1 (by decide) (fun h9 => absurd h9 (by decide)) (fun _ => ?_)
  refine lv_iload_n hx hb dn_Tokens_extraAt_4 rfl (lv_at hl 1 rfl) ?_
  refine lv_aload_n hx hb dn_Tokens_extraAt_5 rfl (lv_at hl 0 rfl) ?_
  refine va_get (D := (dC, dI)) (ci := 2) (v := .int 1) (C := rn_Tokens) (T := fn_Tokens) (N := 9) hx hb hg in_Tokens hown hK hP 1 rfl rfl 1 (by decide) (hg _ wn_1_46) (fun _ h9 => h9) (congrArg some hf0_1) dn_Tokens_extraAt_6 ?_
  refine lv_icmp_ge (tgt := 27) hx hb dn_Tokens_extraAt_9 (by decide) (fun h9 => absurd h9 (by decide)) (fun _ => ?_)
  refine lv_aload_n hx hb dn_Tokens_extraAt_12 rfl (lv_at hl 0 rfl) ?_
  refine va_get (D := (dC, dI)) (ci := 2) (v := .ref h0) (C := rn_Tokens) (T := fn_Tokens) (N := 9) hx hb hg in_Tokens hown hK hP 1 rfl rfl 0 (by decide) (hg _ wn_1_45) (fun _ h9 => h9) (congrArg some hf0_0) dn_Tokens_extraAt_13 ?_
  refine lv_iload_n hx hb dn_Tokens_extraAt_16 rfl (lv_at hl 1 rfl) ?_
  refine va_lald hx hb hK hP 0 2 rfl rfl (show ¬ (_ ∨ _) by decide) dn_Tokens_extraAt_17 ?_
  refine xk_tl (y := 0) he0_0 ?_
  refine lv_l2i (v := 0) hx hb dn_Tokens_extraAt_18 (by decide) ?_
  refine lv_ldc hx hb hown (hg _ wn_4_156) dn_Tokens_extraAt_19 ?_
  refine lv_iand hx hb dn_Tokens_extraAt_21 ?_
  refine xk_ti (y := 0) (by decide) ?_
  refine lv_iconst (v := 1) hx hb dn_Tokens_extraAt_22 (by decide) ?_
  refine lv_isub hx hb dn_Tokens_extraAt_23 ?_
  refine xk_ti (y := (-1)) (by decide) ?_
  refine lv_goto (tgt := 28) hx hb dn_Tokens_extraAt_24 (by decide) ?_
  have hP9 := hP.sub (ws' := [(h0, .inl (cJ, 65537, .inr (.inl g0))), (h1, .inr (2, xo_Tokens f0))]) [0, 1] rfl
  have hD9 := hD.sub (ws' := [(h0, .inl (cJ, 65537, .inr (.inl g0))), (h1, .inr (2, xo_Tokens f0))]) [0, 1] (by decide) rfl
  exact xk_iret (w1 := fun u : Unit => [(h0, .inl (cJ, 65537, .inr (.inl g0))), (h1, .inr (2, xo_Tokens f0))]) () hx hb hr hlocks hK hS dn_Tokens_extraAt_28 hP9 hD9 rfl (Nat.le_refl _) (Nat.le_refl _)
set_option maxHeartbeats 4000000 in
set_option maxRecDepth 100000 in
theorem ct_Tokens_take_0 (l : Launch) (dC : Nat → ClassId) (dI : Nat → Nat → Nat) (cI cB cJ cZ cQ : ClassId) (sz : Nat) (h0 : Nat) (h1 : Nat) (g0 : Nat → Int64) (f0 : Nat → Value) (he0_0 : g0 0 = 0) (hf0_0 : f0 0 = .ref h0) (hf0_1 : f0 1 = .int 1) (hf0_2 : f0 2 = .int (-1)) (hf0_6 : f0 6 = .int 0) : Met l yn_Tokens_take (xw yn_Tokens_take bn_Tokens_take 1 none) ({ frames := 1, cells := 0, slots := 0, locals := 21 }) (xk_P (dC, dI) xcl (xt cI cB cJ cZ cQ) [.ref h1] sz [(h0, .inl (cJ, 65537, .inr (.inl g0))), (h1, .inr (2, xo_Tokens f0))]) (xk_Qv (dC, dI) xcl (xt cI cB cJ cZ cQ) (fun u : Unit => True) (fun u : Unit => [(h0, .inl (cJ, 65537, .inr (.inl g0))), (h1, .inr (2, xo_Tokens (va_up ((va_up (va_up ((va_up f0 2 (.int 0))) 3 (.int 0)) 4 (.int 0))) 5 (.int (-1)))))]) (va_A [(h0, .inl (cJ, 65537, .inr (.inl g0))), (h1, .inr (2, xo_Tokens f0))] sz)) 0 0 (va_A [(h0, .inl (cJ, 65537, .inr (.inl g0))), (h1, .inr (2, xo_Tokens f0))] sz) := by
  refine xk_of (QA := xk_Qv (dC, dI) xcl (xt cI cB cJ cZ cQ) (fun u : Unit => True) (fun u : Unit => [(h0, .inl (cJ, 65537, .inr (.inl g0))), (h1, .inr (2, xo_Tokens (va_up ((va_up (va_up ((va_up f0 2 (.int 0))) 3 (.int 0)) 4 (.int 0))) 5 (.int (-1)))))])) (by decide) (Nat.le_of_ble_eq_true rfl) ?_
  intro p e s m below meth c hx hb hml hown hg hr hlocks hin hP hK hN A hA hD hS ls hl
  have hown : s.vm.findClass rn_Tokens = some m.cls := hown
  have hl : lv_has ls 1 [(0, .ref h1)] := hl
  obtain ⟨H, hH⟩ : ∃ z, z = s.heap := ⟨_, rfl⟩
  rw [← hH] at hP
  have hS : va_S A s.heap H [] := by rw [hH]; exact va_S.rf
  suffices kk : W p l e ({ frames := 1, cells := 0, slots := 0, locals := 21 }) s m [.ref h1].toArray below meth c H [] 0 0 (MQ below (xk_Qv (dC, dI) xcl (xt cI cB cJ cZ cQ) (fun u : Unit => True) (fun u : Unit => [(h0, .inl (cJ, 65537, .inr (.inl g0))), (h1, .inr (2, xo_Tokens (va_up ((va_up (va_up ((va_up f0 2 (.int 0))) 3 (.int 0)) 4 (.int 0))) 5 (.int (-1)))))]) A) [.ref h1].toArray s 0 0 A) (F0 m 0 ls []) by rw [hH] at kk; exact kk
  refine lv_aload_n hx hb dn_Tokens_take_0 rfl (lv_at hl 0 rfl) ?_
  refine va_get (D := (dC, dI)) (ci := 2) (v := .int 0) (C := rn_Tokens) (T := fn_Tokens) (N := 9) hx hb hg in_Tokens hown hK hP 1 rfl rfl 6 (by decide) (hg _ wn_1_58) (fun _ h9 => h9) (congrArg some hf0_6) dn_Tokens_take_1 ?_
  refine lv_if_ne (tgt := 20) hx hb dn_Tokens_take_4 (by decide) (fun h9 => absurd h9 (by decide)) (fun _ => ?_)
  refine lv_aload_n hx hb dn_Tokens_take_7 rfl (lv_at hl 0 rfl) ?_
  refine va_get (D := (dC, dI)) (ci := 2) (v := .int (-1)) (C := rn_Tokens) (T := fn_Tokens) (N := 9) hx hb hg in_Tokens hown hK hP 1 rfl rfl 2 (by decide) (hg _ wn_1_48) (fun _ h9 => h9) (congrArg some hf0_2) dn_Tokens_take_8 ?_
  refine lv_iconst (v := 1) hx hb dn_Tokens_take_11 (by decide) ?_
  refine lv_iadd hx hb dn_Tokens_take_12 ?_
  refine xk_ti (y := 0) (by decide) ?_
  refine lv_aload_n hx hb dn_Tokens_take_13 rfl (lv_at hl 0 rfl) ?_
  refine va_get (D := (dC, dI)) (ci := 2) (v := .int 1) (C := rn_Tokens) (T := fn_Tokens) (N := 9) hx hb hg in_Tokens hown hK hP 1 rfl rfl 1 (by decide) (hg _ wn_1_46) (fun _ h9 => h9) (congrArg some hf0_1) dn_Tokens_take_14 ?_
  refine lv_icmp_lt (tgt := 21) hx hb dn_Tokens_take_17 (by decide) (fun _ => ?_) (fun h9 => absurd h9 (by decide))
  refine lv_aload_n hx hb dn_Tokens_take_21 rfl (lv_at hl 0 rfl) ?_
  refine lv_dup hx hb dn_Tokens_take_22 rfl ?_
  refine va_get (D := (dC, dI)) (ci := 2) (v := .int (-1)) (C := rn_Tokens) (T := fn_Tokens) (N := 9) hx hb hg in_Tokens hown hK hP 1 rfl rfl 2 (by decide) (hg _ wn_1_48) (fun _ h9 => h9) (congrArg some hf0_2) dn_Tokens_take_23 ?_
  refine lv_iconst (v := 1) hx hb dn_Tokens_take_26 (by decide) ?_
  refine lv_iadd hx hb dn_Tokens_take_27 ?_
  refine xk_ti (y := 0) (by decide) ?_
  refine va_put (D := (dC, dI)) (ci := 2) (v := .int 0) (ty := .int) (C := rn_Tokens) (T := fn_Tokens) (N := 9) hx hb hg in_Tokens tn_Tokens tk_Tokens nn_Tokens hown hK hP hD hS 1 rfl rfl 2 (by decide) (hg _ wn_1_48) (fun _ h9 => h9) rfl (tk_Tokens 2 (by decide)) rfl rfl (Nat.le_of_ble_eq_true rfl) dn_Tokens_take_28 (fun H locs hP hD hS => ?_)
  have hP : va_P (dC, dI) xcl [(h0, .inl (cJ, 65537, .inr (.inl g0))), (h1, .inr (2, xo_Tokens (va_up f0 2 (.int 0))))] H := hP
  have hD : va_D A [(h0, .inl (cJ, 65537, .inr (.inl g0))), (h1, .inr (2, xo_Tokens (va_up f0 2 (.int 0))))] := hD
  refine lv_aload_n hx hb dn_Tokens_take_31 rfl (lv_at hl 0 rfl) ?_
  refine lv_aload_n hx hb dn_Tokens_take_32 rfl (lv_at hl 0 rfl) ?_
  refine lv_aload_n hx hb dn_Tokens_take_33 rfl (lv_at hl 0 rfl) ?_
  refine va_get (D := (dC, dI)) (ci := 2) (v := .int 0) (C := rn_Tokens) (T := fn_Tokens) (N := 9) hx hb hg in_Tokens hown hK hP 1 rfl rfl 2 (by decide) (hg _ wn_1_48) (fun _ h9 => h9) rfl dn_Tokens_take_34 ?_
  have hPc := hP.sub (ws' := [(h0, .inl (cJ, 65537, .inr (.inl g0))), (h1, .inr (2, xo_Tokens (va_up f0 2 (.int 0))))]) [0, 1] rfl
  have hDc := hD.sub (ws' := [(h0, .inl (cJ, 65537, .inr (.inl g0))), (h1, .inr (2, xo_Tokens (va_up f0 2 (.int 0))))]) [0, 1] (by decide) rfl
  refine xk_calli (wr := []) (xk_runV (ar := 1) (As := [.int 0]) (rest := [.ref h1]) (ci := 2) (q0 := 1) ⟨hx, hb, hml, hown, hg⟩ hK hN (ct_Tokens_kindAt_0 l dC dI cI cB cJ cZ cQ H.size h0 h1 g0 (va_up f0 2 (.int 0)) he0_0 hf0_0 hf0_1) hPc hDc rfl rfl wn_4_152 wn_4_153 wn_4_154 wn_1_2 wn_4_155 rfl rfl (by decide +kernel) ⟨Nat.le_of_ble_eq_true rfl, Nat.le_of_ble_eq_true rfl⟩ rfl hl.1 rfl (Nat.le_of_ble_eq_true rfl) dn_Tokens_take_37 ⟨Nat.le_of_ble_eq_true rfl, Nat.le_of_ble_eq_true rfl⟩) hP hD hS hA [0, 1] [] rfl rfl (by decide) (by decide) (fun r_1 _ H locs hw hP hD hS => ?_)
  have hP : va_P (dC, dI) xcl [(h0, .inl (cJ, 65537, .inr (.inl g0))), (h1, .inr (2, xo_Tokens ((va_up f0 2 (.int 0)))))] H := hP
  have hD : va_D A [(h0, .inl (cJ, 65537, .inr (.inl g0))), (h1, .inr (2, xo_Tokens ((va_up f0 2 (.int 0)))))] := hD
  have hw : r_1 = 0 := hw
  subst hw
  refine va_put (D := (dC, dI)) (ci := 2) (v := .int 0) (ty := .int) (C := rn_Tokens) (T := fn_Tokens) (N := 9) hx hb hg in_Tokens tn_Tokens tk_Tokens nn_Tokens hown hK hP hD hS 1 rfl rfl 3 (by decide) (hg _ wn_1_51) (fun _ h9 => h9) rfl (tk_Tokens 3 (by decide)) rfl rfl (Nat.le_of_ble_eq_true rfl) dn_Tokens_take_40 (fun H locs hP hD hS => ?_)
  have hP : va_P (dC, dI) xcl [(h0, .inl (cJ, 65537, .inr (.inl g0))), (h1, .inr (2, xo_Tokens (va_up ((va_up f0 2 (.int 0))) 3 (.int 0))))] H := hP
  have hD : va_D A [(h0, .inl (cJ, 65537, .inr (.inl g0))), (h1, .inr (2, xo_Tokens (va_up ((va_up f0 2 (.int 0))) 3 (.int 0))))] := hD
  refine lv_aload_n hx hb dn_Tokens_take_43 rfl (lv_at hl 0 rfl) ?_
  refine lv_aload_n hx hb dn_Tokens_take_44 rfl (lv_at hl 0 rfl) ?_
  refine va_get (D := (dC, dI)) (ci := 2) (v := .ref h0) (C := rn_Tokens) (T := fn_Tokens) (N := 9) hx hb hg in_Tokens hown hK hP 1 rfl rfl 0 (by decide) (hg _ wn_1_45) (fun _ h9 => h9) (congrArg some hf0_0) dn_Tokens_take_45 ?_
  refine lv_aload_n hx hb dn_Tokens_take_48 rfl (lv_at hl 0 rfl) ?_
  refine va_get (D := (dC, dI)) (ci := 2) (v := .int 0) (C := rn_Tokens) (T := fn_Tokens) (N := 9) hx hb hg in_Tokens hown hK hP 1 rfl rfl 2 (by decide) (hg _ wn_1_48) (fun _ h9 => h9) rfl dn_Tokens_take_49 ?_
  refine va_lald hx hb hK hP 0 2 rfl rfl (show ¬ (_ ∨ _) by decide) dn_Tokens_take_52 ?_
  refine xk_tl (y := 0) he0_0 ?_
  refine lv_bipush (v := 20) hx hb dn_Tokens_take_53 (by decide) ?_
  refine lv_lushr (v := 0) hx hb dn_Tokens_take_55 (by decide) ?_
  refine lv_l2i (v := 0) hx hb dn_Tokens_take_56 (by decide) ?_
  refine lv_ldc hx hb hown (hg _ wn_4_156) dn_Tokens_take_57 ?_
  refine lv_iand hx hb dn_Tokens_take_59 ?_
  refine xk_ti (y := 0) (by decide) ?_
  refine va_put (D := (dC, dI)) (ci := 2) (v := .int 0) (ty := .int) (C := rn_Tokens) (T := fn_Tokens) (N := 9) hx hb hg in_Tokens tn_Tokens tk_Tokens nn_Tokens hown hK hP hD hS 1 rfl rfl 4 (by decide) (hg _ wn_1_53) (fun _ h9 => h9) rfl (tk_Tokens 4 (by decide)) rfl rfl (Nat.le_of_ble_eq_true rfl) dn_Tokens_take_60 (fun H locs hP hD hS => ?_)
  have hP : va_P (dC, dI) xcl [(h0, .inl (cJ, 65537, .inr (.inl g0))), (h1, .inr (2, xo_Tokens (va_up (va_up ((va_up f0 2 (.int 0))) 3 (.int 0)) 4 (.int 0))))] H := hP
  have hD : va_D A [(h0, .inl (cJ, 65537, .inr (.inl g0))), (h1, .inr (2, xo_Tokens (va_up (va_up ((va_up f0 2 (.int 0))) 3 (.int 0)) 4 (.int 0))))] := hD
  refine lv_aload_n hx hb dn_Tokens_take_63 rfl (lv_at hl 0 rfl) ?_
  refine lv_aload_n hx hb dn_Tokens_take_64 rfl (lv_at hl 0 rfl) ?_
  refine lv_aload_n hx hb dn_Tokens_take_65 rfl (lv_at hl 0 rfl) ?_
  refine va_get (D := (dC, dI)) (ci := 2) (v := .int 0) (C := rn_Tokens) (T := fn_Tokens) (N := 9) hx hb hg in_Tokens hown hK hP 1 rfl rfl 2 (by decide) (hg _ wn_1_48) (fun _ h9 => h9) rfl dn_Tokens_take_66 ?_
  have hPc := hP.sub (ws' := [(h0, .inl (cJ, 65537, .inr (.inl g0))), (h1, .inr (2, xo_Tokens (va_up (va_up ((va_up f0 2 (.int 0))) 3 (.int 0)) 4 (.int 0))))]) [0, 1] rfl
  have hDc := hD.sub (ws' := [(h0, .inl (cJ, 65537, .inr (.inl g0))), (h1, .inr (2, xo_Tokens (va_up (va_up ((va_up f0 2 (.int 0))) 3 (.int 0)) 4 (.int 0))))]) [0, 1] (by decide) rfl
  refine xk_calli (wr := []) (xk_runV (ar := 1) (As := [.int 0]) (rest := [.ref h1]) (ci := 2) (q0 := 1) ⟨hx, hb, hml, hown, hg⟩ hK hN (ct_Tokens_extraAt_0 l dC dI cI cB cJ cZ cQ H.size h0 h1 g0 (va_up (va_up ((va_up f0 2 (.int 0))) 3 (.int 0)) 4 (.int 0)) he0_0 hf0_0 hf0_1) hPc hDc rfl rfl wn_4_157 wn_4_158 wn_4_159 wn_1_2 wn_4_160 rfl rfl (by decide +kernel) ⟨Nat.le_of_ble_eq_true rfl, Nat.le_of_ble_eq_true rfl⟩ rfl hl.1 rfl (Nat.le_of_ble_eq_true rfl) dn_Tokens_take_69 ⟨Nat.le_of_ble_eq_true rfl, Nat.le_of_ble_eq_true rfl⟩) hP hD hS hA [0, 1] [] rfl rfl (by decide) (by decide) (fun r_2 _ H locs hw hP hD hS => ?_)
  have hP : va_P (dC, dI) xcl [(h0, .inl (cJ, 65537, .inr (.inl g0))), (h1, .inr (2, xo_Tokens ((va_up (va_up ((va_up f0 2 (.int 0))) 3 (.int 0)) 4 (.int 0)))))] H := hP
  have hD : va_D A [(h0, .inl (cJ, 65537, .inr (.inl g0))), (h1, .inr (2, xo_Tokens ((va_up (va_up ((va_up f0 2 (.int 0))) 3 (.int 0)) 4 (.int 0)))))] := hD
  have hw : r_2 = (-1) := hw
  subst hw
  refine va_put (D := (dC, dI)) (ci := 2) (v := .int (-1)) (ty := .int) (C := rn_Tokens) (T := fn_Tokens) (N := 9) hx hb hg in_Tokens tn_Tokens tk_Tokens nn_Tokens hown hK hP hD hS 1 rfl rfl 5 (by decide) (hg _ wn_1_55) (fun _ h9 => h9) rfl (tk_Tokens 5 (by decide)) rfl rfl (Nat.le_of_ble_eq_true rfl) dn_Tokens_take_72 (fun H locs hP hD hS => ?_)
  have hP : va_P (dC, dI) xcl [(h0, .inl (cJ, 65537, .inr (.inl g0))), (h1, .inr (2, xo_Tokens (va_up ((va_up (va_up ((va_up f0 2 (.int 0))) 3 (.int 0)) 4 (.int 0))) 5 (.int (-1)))))] H := hP
  have hD : va_D A [(h0, .inl (cJ, 65537, .inr (.inl g0))), (h1, .inr (2, xo_Tokens (va_up ((va_up (va_up ((va_up f0 2 (.int 0))) 3 (.int 0)) 4 (.int 0))) 5 (.int (-1)))))] := hD
  have hP9 := hP.sub (ws' := [(h0, .inl (cJ, 65537, .inr (.inl g0))), (h1, .inr (2, xo_Tokens (va_up ((va_up (va_up ((va_up f0 2 (.int 0))) 3 (.int 0)) 4 (.int 0))) 5 (.int (-1)))))]) [0, 1] rfl
  have hD9 := hD.sub (ws' := [(h0, .inl (cJ, 65537, .inr (.inl g0))), (h1, .inr (2, xo_Tokens (va_up ((va_up (va_up ((va_up f0 2 (.int 0))) 3 (.int 0)) 4 (.int 0))) 5 (.int (-1)))))]) [0, 1] (by decide) rfl
  exact xk_vret (w1 := fun u : Unit => [(h0, .inl (cJ, 65537, .inr (.inl g0))), (h1, .inr (2, xo_Tokens (va_up ((va_up (va_up ((va_up f0 2 (.int 0))) 3 (.int 0)) 4 (.int 0))) 5 (.int (-1)))))]) () hx hb hr hlocks hK hS dn_Tokens_take_75 hP9 hD9 trivial (Nat.le_refl _) (Nat.le_refl _)
set_option maxHeartbeats 4000000 in
set_option maxRecDepth 100000 in
theorem ct_Tokens_start_0 (l : Launch) (dC : Nat → ClassId) (dI : Nat → Nat → Nat) (cI cB cJ cZ cQ : ClassId) (sz : Nat) (h0 : Nat) (h1 : Nat) (g0 : Nat → Int64) (f0 : Nat → Value) (he0_0 : g0 0 = 0) (hf0_0 : f0 0 = .ref h0) (hf0_1 : f0 1 = .int 1) : Met l yn_Tokens_start (xw yn_Tokens_start bn_Tokens_start 1 none) ({ frames := 2, cells := 0, slots := 0, locals := 41 }) (xk_P (dC, dI) xcl (xt cI cB cJ cZ cQ) [.ref h1] sz [(h0, .inl (cJ, 65537, .inr (.inl g0))), (h1, .inr (2, xo_Tokens f0))]) (xk_Qv (dC, dI) xcl (xt cI cB cJ cZ cQ) (fun u : Unit => True) (fun u : Unit => [(h0, .inl (cJ, 65537, .inr (.inl g0))), (h1, .inr (2, xo_Tokens (va_up ((va_up (va_up ((va_up (va_up (va_up (va_up (va_up f0 2 (.int (-1))) 8 (.int 0)) 6 (.int 0)) 7 (.int (-1))) 2 (.int 0))) 3 (.int 0)) 4 (.int 0))) 5 (.int (-1)))))]) (va_A [(h0, .inl (cJ, 65537, .inr (.inl g0))), (h1, .inr (2, xo_Tokens f0))] sz)) 0 0 (va_A [(h0, .inl (cJ, 65537, .inr (.inl g0))), (h1, .inr (2, xo_Tokens f0))] sz) := by
  refine xk_of (QA := xk_Qv (dC, dI) xcl (xt cI cB cJ cZ cQ) (fun u : Unit => True) (fun u : Unit => [(h0, .inl (cJ, 65537, .inr (.inl g0))), (h1, .inr (2, xo_Tokens (va_up ((va_up (va_up ((va_up (va_up (va_up (va_up (va_up f0 2 (.int (-1))) 8 (.int 0)) 6 (.int 0)) 7 (.int (-1))) 2 (.int 0))) 3 (.int 0)) 4 (.int 0))) 5 (.int (-1)))))])) (by decide) (Nat.le_of_ble_eq_true rfl) ?_
  intro p e s m below meth c hx hb hml hown hg hr hlocks hin hP hK hN A hA hD hS ls hl
  have hown : s.vm.findClass rn_Tokens = some m.cls := hown
  have hl : lv_has ls 1 [(0, .ref h1)] := hl
  obtain ⟨H, hH⟩ : ∃ z, z = s.heap := ⟨_, rfl⟩
  rw [← hH] at hP
  have hS : va_S A s.heap H [] := by rw [hH]; exact va_S.rf
  suffices kk : W p l e ({ frames := 2, cells := 0, slots := 0, locals := 41 }) s m [.ref h1].toArray below meth c H [] 0 0 (MQ below (xk_Qv (dC, dI) xcl (xt cI cB cJ cZ cQ) (fun u : Unit => True) (fun u : Unit => [(h0, .inl (cJ, 65537, .inr (.inl g0))), (h1, .inr (2, xo_Tokens (va_up ((va_up (va_up ((va_up (va_up (va_up (va_up (va_up f0 2 (.int (-1))) 8 (.int 0)) 6 (.int 0)) 7 (.int (-1))) 2 (.int 0))) 3 (.int 0)) 4 (.int 0))) 5 (.int (-1)))))]) A) [.ref h1].toArray s 0 0 A) (F0 m 0 ls []) by rw [hH] at kk; exact kk
  refine lv_aload_n hx hb dn_Tokens_start_0 rfl (lv_at hl 0 rfl) ?_
  refine lv_iconst (v := (-1)) hx hb dn_Tokens_start_1 (by decide) ?_
  refine va_put (D := (dC, dI)) (ci := 2) (v := .int (-1)) (ty := .int) (C := rn_Tokens) (T := fn_Tokens) (N := 9) hx hb hg in_Tokens tn_Tokens tk_Tokens nn_Tokens hown hK hP hD hS 1 rfl rfl 2 (by decide) (hg _ wn_1_48) (fun _ h9 => h9) rfl (tk_Tokens 2 (by decide)) rfl rfl (Nat.le_of_ble_eq_true rfl) dn_Tokens_start_2 (fun H locs hP hD hS => ?_)
  have hP : va_P (dC, dI) xcl [(h0, .inl (cJ, 65537, .inr (.inl g0))), (h1, .inr (2, xo_Tokens (va_up f0 2 (.int (-1)))))] H := hP
  have hD : va_D A [(h0, .inl (cJ, 65537, .inr (.inl g0))), (h1, .inr (2, xo_Tokens (va_up f0 2 (.int (-1)))))] := hD
  refine lv_aload_n hx hb dn_Tokens_start_5 rfl (lv_at hl 0 rfl) ?_
  refine lv_iconst (v := 0) hx hb dn_Tokens_start_6 (by decide) ?_
  refine va_put (D := (dC, dI)) (ci := 2) (v := .int 0) (ty := .int) (C := rn_Tokens) (T := fn_Tokens) (N := 9) hx hb hg in_Tokens tn_Tokens tk_Tokens nn_Tokens hown hK hP hD hS 1 rfl rfl 8 (by decide) (hg _ wn_1_62) (fun _ h9 => h9) rfl (tk_Tokens 8 (by decide)) rfl rfl (Nat.le_of_ble_eq_true rfl) dn_Tokens_start_7 (fun H locs hP hD hS => ?_)
  have hP : va_P (dC, dI) xcl [(h0, .inl (cJ, 65537, .inr (.inl g0))), (h1, .inr (2, xo_Tokens (va_up (va_up f0 2 (.int (-1))) 8 (.int 0))))] H := hP
  have hD : va_D A [(h0, .inl (cJ, 65537, .inr (.inl g0))), (h1, .inr (2, xo_Tokens (va_up (va_up f0 2 (.int (-1))) 8 (.int 0))))] := hD
  refine lv_aload_n hx hb dn_Tokens_start_10 rfl (lv_at hl 0 rfl) ?_
  refine lv_iconst (v := 0) hx hb dn_Tokens_start_11 (by decide) ?_
  refine va_put (D := (dC, dI)) (ci := 2) (v := .int 0) (ty := .int) (C := rn_Tokens) (T := fn_Tokens) (N := 9) hx hb hg in_Tokens tn_Tokens tk_Tokens nn_Tokens hown hK hP hD hS 1 rfl rfl 6 (by decide) (hg _ wn_1_58) (fun _ h9 => h9) rfl (tk_Tokens 6 (by decide)) rfl rfl (Nat.le_of_ble_eq_true rfl) dn_Tokens_start_12 (fun H locs hP hD hS => ?_)
  have hP : va_P (dC, dI) xcl [(h0, .inl (cJ, 65537, .inr (.inl g0))), (h1, .inr (2, xo_Tokens (va_up (va_up (va_up f0 2 (.int (-1))) 8 (.int 0)) 6 (.int 0))))] H := hP
  have hD : va_D A [(h0, .inl (cJ, 65537, .inr (.inl g0))), (h1, .inr (2, xo_Tokens (va_up (va_up (va_up f0 2 (.int (-1))) 8 (.int 0)) 6 (.int 0))))] := hD
  refine lv_aload_n hx hb dn_Tokens_start_15 rfl (lv_at hl 0 rfl) ?_
  refine lv_iconst (v := (-1)) hx hb dn_Tokens_start_16 (by decide) ?_
  refine va_put (D := (dC, dI)) (ci := 2) (v := .int (-1)) (ty := .int) (C := rn_Tokens) (T := fn_Tokens) (N := 9) hx hb hg in_Tokens tn_Tokens tk_Tokens nn_Tokens hown hK hP hD hS 1 rfl rfl 7 (by decide) (hg _ wn_1_60) (fun _ h9 => h9) rfl (tk_Tokens 7 (by decide)) rfl rfl (Nat.le_of_ble_eq_true rfl) dn_Tokens_start_17 (fun H locs hP hD hS => ?_)
  have hP : va_P (dC, dI) xcl [(h0, .inl (cJ, 65537, .inr (.inl g0))), (h1, .inr (2, xo_Tokens (va_up (va_up (va_up (va_up f0 2 (.int (-1))) 8 (.int 0)) 6 (.int 0)) 7 (.int (-1)))))] H := hP
  have hD : va_D A [(h0, .inl (cJ, 65537, .inr (.inl g0))), (h1, .inr (2, xo_Tokens (va_up (va_up (va_up (va_up f0 2 (.int (-1))) 8 (.int 0)) 6 (.int 0)) 7 (.int (-1)))))] := hD
  refine lv_aload_n hx hb dn_Tokens_start_20 rfl (lv_at hl 0 rfl) ?_
  have hPc := hP.sub (ws' := [(h0, .inl (cJ, 65537, .inr (.inl g0))), (h1, .inr (2, xo_Tokens (va_up (va_up (va_up (va_up f0 2 (.int (-1))) 8 (.int 0)) 6 (.int 0)) 7 (.int (-1)))))]) [0, 1] rfl
  have hDc := hD.sub (ws' := [(h0, .inl (cJ, 65537, .inr (.inl g0))), (h1, .inr (2, xo_Tokens (va_up (va_up (va_up (va_up f0 2 (.int (-1))) 8 (.int 0)) 6 (.int 0)) 7 (.int (-1)))))]) [0, 1] (by decide) rfl
  refine xk_callv (wr := []) (xk_runV (ar := 0) (As := []) (rest := []) (ci := 2) (q0 := 1) ⟨hx, hb, hml, hown, hg⟩ hK hN (ct_Tokens_take_0 l dC dI cI cB cJ cZ cQ H.size h0 h1 g0 (va_up (va_up (va_up (va_up f0 2 (.int (-1))) 8 (.int 0)) 6 (.int 0)) 7 (.int (-1))) he0_0 hf0_0 hf0_1 (show (va_up (va_up (va_up (va_up f0 2 (.int (-1))) 8 (.int 0)) 6 (.int 0)) 7 (.int (-1))) 2 = .int (-1) from rfl) (show (va_up (va_up (va_up (va_up f0 2 (.int (-1))) 8 (.int 0)) 6 (.int 0)) 7 (.int (-1))) 6 = .int 0 from rfl)) hPc hDc rfl rfl wn_4_148 wn_4_149 wn_4_150 wn_1_2 wn_4_151 rfl rfl (by decide +kernel) ⟨Nat.le_of_ble_eq_true rfl, Nat.le_of_ble_eq_true rfl⟩ rfl hl.1 rfl (Nat.le_of_ble_eq_true rfl) dn_Tokens_start_21 ⟨Nat.le_of_ble_eq_true rfl, Nat.le_of_ble_eq_true rfl⟩) hP hD hS hA [0, 1] [] rfl rfl (by decide) (by decide) (fun _ H locs hw hP hD hS => ?_)
  have hP : va_P (dC, dI) xcl [(h0, .inl (cJ, 65537, .inr (.inl g0))), (h1, .inr (2, xo_Tokens (va_up ((va_up (va_up ((va_up (va_up (va_up (va_up (va_up f0 2 (.int (-1))) 8 (.int 0)) 6 (.int 0)) 7 (.int (-1))) 2 (.int 0))) 3 (.int 0)) 4 (.int 0))) 5 (.int (-1)))))] H := hP
  have hD : va_D A [(h0, .inl (cJ, 65537, .inr (.inl g0))), (h1, .inr (2, xo_Tokens (va_up ((va_up (va_up ((va_up (va_up (va_up (va_up (va_up f0 2 (.int (-1))) 8 (.int 0)) 6 (.int 0)) 7 (.int (-1))) 2 (.int 0))) 3 (.int 0)) 4 (.int 0))) 5 (.int (-1)))))] := hD
  have hP9 := hP.sub (ws' := [(h0, .inl (cJ, 65537, .inr (.inl g0))), (h1, .inr (2, xo_Tokens (va_up ((va_up (va_up ((va_up (va_up (va_up (va_up (va_up f0 2 (.int (-1))) 8 (.int 0)) 6 (.int 0)) 7 (.int (-1))) 2 (.int 0))) 3 (.int 0)) 4 (.int 0))) 5 (.int (-1)))))]) [0, 1] rfl
  have hD9 := hD.sub (ws' := [(h0, .inl (cJ, 65537, .inr (.inl g0))), (h1, .inr (2, xo_Tokens (va_up ((va_up (va_up ((va_up (va_up (va_up (va_up (va_up f0 2 (.int (-1))) 8 (.int 0)) 6 (.int 0)) 7 (.int (-1))) 2 (.int 0))) 3 (.int 0)) 4 (.int 0))) 5 (.int (-1)))))]) [0, 1] (by decide) rfl
  exact xk_vret (w1 := fun u : Unit => [(h0, .inl (cJ, 65537, .inr (.inl g0))), (h1, .inr (2, xo_Tokens (va_up ((va_up (va_up ((va_up (va_up (va_up (va_up (va_up f0 2 (.int (-1))) 8 (.int 0)) 6 (.int 0)) 7 (.int (-1))) 2 (.int 0))) 3 (.int 0)) 4 (.int 0))) 5 (.int (-1)))))]) () hx hb hr hlocks hK hS dn_Tokens_start_24 hP9 hD9 trivial (Nat.le_refl _) (Nat.le_refl _)
set_option maxHeartbeats 4000000 in
set_option maxRecDepth 100000 in
theorem ct_Checker_start_0 (l : Launch) (dC : Nat → ClassId) (dI : Nat → Nat → Nat) (cI cB cJ cZ cQ : ClassId) (sz : Nat) (h0 : Nat) (h1 : Nat) (f0 : Nat → Value) (f1 : Nat → Value) (h2 : Nat) (h3 : Nat) (hf1_0 : f1 0 = .ref h2) (hf1_1 : f1 1 = .ref h3) : Met l yn_Checker_start (xw yn_Checker_start bn_Checker_start 4 none) ({ frames := 0, cells := 0, slots := 0, locals := 0 }) (xk_P (dC, dI) xcl (xt cI cB cJ cZ cQ) [.ref h0, .ref h1, .int 0] sz [(h0, .inr (4, xo_Checker f0)), (h1, .inr (10, xo_Design f1))]) (xk_Qv (dC, dI) xcl (xt cI cB cJ cZ cQ) (fun u : Unit => True) (fun u : Unit => [(h0, .inr (4, xo_Checker (va_up (va_up (va_up (va_up (va_up (va_up f0 1 (.ref h2)) 2 (.ref h3)) 3 (.int (-1))) 13 (.int 0)) 14 (.int (-1))) 10 (.int 0)))), (h1, .inr (10, xo_Design f1))]) (va_A [(h0, .inr (4, xo_Checker f0)), (h1, .inr (10, xo_Design f1))] sz)) 0 0 (va_A [(h0, .inr (4, xo_Checker f0)), (h1, .inr (10, xo_Design f1))] sz) := by
  refine xk_of (QA := xk_Qv (dC, dI) xcl (xt cI cB cJ cZ cQ) (fun u : Unit => True) (fun u : Unit => [(h0, .inr (4, xo_Checker (va_up (va_up (va_up (va_up (va_up (va_up f0 1 (.ref h2)) 2 (.ref h3)) 3 (.int (-1))) 13 (.int 0)) 14 (.int (-1))) 10 (.int 0)))), (h1, .inr (10, xo_Design f1))])) (by decide) (Nat.le_of_ble_eq_true rfl) ?_
  intro p e s m below meth c hx hb hml hown hg hr hlocks hin hP hK hN A hA hD hS ls hl
  have hown : s.vm.findClass rn_Checker = some m.cls := hown
  have hl : lv_has ls 4 [(0, .ref h0), (1, .ref h1), (2, .int 0)] := hl
  obtain ⟨H, hH⟩ : ∃ z, z = s.heap := ⟨_, rfl⟩
  rw [← hH] at hP
  have hS : va_S A s.heap H [] := by rw [hH]; exact va_S.rf
  suffices kk : W p l e ({ frames := 0, cells := 0, slots := 0, locals := 0 }) s m [.ref h0, .ref h1, .int 0].toArray below meth c H [] 0 0 (MQ below (xk_Qv (dC, dI) xcl (xt cI cB cJ cZ cQ) (fun u : Unit => True) (fun u : Unit => [(h0, .inr (4, xo_Checker (va_up (va_up (va_up (va_up (va_up (va_up f0 1 (.ref h2)) 2 (.ref h3)) 3 (.int (-1))) 13 (.int 0)) 14 (.int (-1))) 10 (.int 0)))), (h1, .inr (10, xo_Design f1))]) A) [.ref h0, .ref h1, .int 0].toArray s 0 0 A) (F0 m 0 ls []) by rw [hH] at kk; exact kk
  refine lv_aload_n hx hb dn_Checker_start_0 rfl (lv_at hl 0 rfl) ?_
  refine lv_aload_n hx hb dn_Checker_start_1 rfl (lv_at hl 1 rfl) ?_
  refine va_get (D := (dC, dI)) (ci := 10) (v := .ref h2) (C := rn_Design) (T := fn_Design) (N := 16) hx hb hg in_Design hown hK hP 1 rfl rfl 0 (by decide) (hg _ wn_2_235) (fun _ h9 => h9) (congrArg some hf1_0) dn_Checker_start_2 ?_
  refine va_put (D := (dC, dI)) (ci := 4) (v := .ref h2) (ty := (.object "CircuitCycles$Parts")) (C := rn_Checker) (T := fn_Checker) (N := 15) hx hb hg in_Checker tn_Checker tk_Checker nn_Checker hown hK hP hD hS 0 rfl rfl 1 (by decide) (hg _ wn_1_127) (fun _ h9 => h9) rfl (tk_Checker 1 (by decide)) rfl rfl (Nat.le_of_ble_eq_true rfl) dn_Checker_start_5 (fun H locs hP hD hS => ?_)
  have hP : va_P (dC, dI) xcl [(h0, .inr (4, xo_Checker (va_up f0 1 (.ref h2)))), (h1, .inr (10, xo_Design f1))] H := hP
  have hD : va_D A [(h0, .inr (4, xo_Checker (va_up f0 1 (.ref h2)))), (h1, .inr (10, xo_Design f1))] := hD
  refine lv_aload_n hx hb dn_Checker_start_8 rfl (lv_at hl 0 rfl) ?_
  refine lv_aload_n hx hb dn_Checker_start_9 rfl (lv_at hl 1 rfl) ?_
  refine va_get (D := (dC, dI)) (ci := 10) (v := .ref h3) (C := rn_Design) (T := fn_Design) (N := 16) hx hb hg in_Design hown hK hP 1 rfl rfl 1 (by decide) (hg _ wn_2_239) (fun _ h9 => h9) (congrArg some hf1_1) dn_Checker_start_10 ?_
  refine va_put (D := (dC, dI)) (ci := 4) (v := .ref h3) (ty := (.object "CircuitCycles$Code")) (C := rn_Checker) (T := fn_Checker) (N := 15) hx hb hg in_Checker tn_Checker tk_Checker nn_Checker hown hK hP hD hS 0 rfl rfl 2 (by decide) (hg _ wn_1_128) (fun _ h9 => h9) rfl (tk_Checker 2 (by decide)) rfl rfl (Nat.le_of_ble_eq_true rfl) dn_Checker_start_13 (fun H locs hP hD hS => ?_)
  have hP : va_P (dC, dI) xcl [(h0, .inr (4, xo_Checker (va_up (va_up f0 1 (.ref h2)) 2 (.ref h3)))), (h1, .inr (10, xo_Design f1))] H := hP
  have hD : va_D A [(h0, .inr (4, xo_Checker (va_up (va_up f0 1 (.ref h2)) 2 (.ref h3)))), (h1, .inr (10, xo_Design f1))] := hD
  refine lv_iconst (v := 0) hx hb dn_Checker_start_16 (by decide) ?_
  refine lv_istore_n (lv' := [(3, .int 0), (0, .ref h0), (1, .ref h1), (2, .int 0)]) hx hb dn_Checker_start_17 rfl hl (by decide) rfl (fun ls hl => ?_)
  refine lv_iload_n hx hb dn_Checker_start_18 rfl (lv_at hl 0 rfl) ?_
  refine lv_iload_n hx hb dn_Checker_start_19 rfl (lv_at hl 3 rfl) ?_
  refine lv_icmp_ge (tgt := 50) hx hb dn_Checker_start_20 (by decide) (fun _ => ?_) (fun h9 => absurd h9 (by decide))
  refine lv_aload_n hx hb dn_Checker_start_50 rfl (lv_at hl 1 rfl) ?_
  refine lv_iconst (v := (-1)) hx hb dn_Checker_start_51 (by decide) ?_
  refine va_put (D := (dC, dI)) (ci := 4) (v := .int (-1)) (ty := .int) (C := rn_Checker) (T := fn_Checker) (N := 15) hx hb hg in_Checker tn_Checker tk_Checker nn_Checker hown hK hP hD hS 0 rfl rfl 3 (by decide) (hg _ wn_1_129) (fun _ h9 => h9) rfl (tk_Checker 3 (by decide)) rfl rfl (Nat.le_of_ble_eq_true rfl) dn_Checker_start_52 (fun H locs hP hD hS => ?_)
  have hP : va_P (dC, dI) xcl [(h0, .inr (4, xo_Checker (va_up (va_up (va_up f0 1 (.ref h2)) 2 (.ref h3)) 3 (.int (-1))))), (h1, .inr (10, xo_Design f1))] H := hP
  have hD : va_D A [(h0, .inr (4, xo_Checker (va_up (va_up (va_up f0 1 (.ref h2)) 2 (.ref h3)) 3 (.int (-1))))), (h1, .inr (10, xo_Design f1))] := hD
  refine lv_aload_n hx hb dn_Checker_start_55 rfl (lv_at hl 1 rfl) ?_
  refine lv_iconst (v := 0) hx hb dn_Checker_start_56 (by decide) ?_
  refine va_put (D := (dC, dI)) (ci := 4) (v := .int 0) (ty := .int) (C := rn_Checker) (T := fn_Checker) (N := 15) hx hb hg in_Checker tn_Checker tk_Checker nn_Checker hown hK hP hD hS 0 rfl rfl 13 (by decide) (hg _ wn_1_141) (fun _ h9 => h9) rfl (tk_Checker 13 (by decide)) rfl rfl (Nat.le_of_ble_eq_true rfl) dn_Checker_start_57 (fun H locs hP hD hS => ?_)
  have hP : va_P (dC, dI) xcl [(h0, .inr (4, xo_Checker (va_up (va_up (va_up (va_up f0 1 (.ref h2)) 2 (.ref h3)) 3 (.int (-1))) 13 (.int 0)))), (h1, .inr (10, xo_Design f1))] H := hP
  have hD : va_D A [(h0, .inr (4, xo_Checker (va_up (va_up (va_up (va_up f0 1 (.ref h2)) 2 (.ref h3)) 3 (.int (-1))) 13 (.int 0)))), (h1, .inr (10, xo_Design f1))] := hD
  refine lv_aload_n hx hb dn_Checker_start_60 rfl (lv_at hl 1 rfl) ?_
  refine lv_iconst (v := (-1)) hx hb dn_Checker_start_61 (by decide) ?_
  refine va_put (D := (dC, dI)) (ci := 4) (v := .int (-1)) (ty := .int) (C := rn_Checker) (T := fn_Checker) (N := 15) hx hb hg in_Checker tn_Checker tk_Checker nn_Checker hown hK hP hD hS 0 rfl rfl 14 (by decide) (hg _ wn_1_143) (fun _ h9 => h9) rfl (tk_Checker 14 (by decide)) rfl rfl (Nat.le_of_ble_eq_true rfl) dn_Checker_start_62 (fun H locs hP hD hS => ?_)
  have hP : va_P (dC, dI) xcl [(h0, .inr (4, xo_Checker (va_up (va_up (va_up (va_up (va_up f0 1 (.ref h2)) 2 (.ref h3)) 3 (.int (-1))) 13 (.int 0)) 14 (.int (-1))))), (h1, .inr (10, xo_Design f1))] H := hP
  have hD : va_D A [(h0, .inr (4, xo_Checker (va_up (va_up (va_up (va_up (va_up f0 1 (.ref h2)) 2 (.ref h3)) 3 (.int (-1))) 13 (.int 0)) 14 (.int (-1))))), (h1, .inr (10, xo_Design f1))] := hD
  refine lv_aload_n hx hb dn_Checker_start_65 rfl (lv_at hl 1 rfl) ?_
  refine lv_iconst (v := 0) hx hb dn_Checker_start_66 (by decide) ?_
  refine va_put (D := (dC, dI)) (ci := 4) (v := .int 0) (ty := .int) (C := rn_Checker) (T := fn_Checker) (N := 15) hx hb hg in_Checker tn_Checker tk_Checker nn_Checker hown hK hP hD hS 0 rfl rfl 10 (by decide) (hg _ wn_1_136) (fun _ h9 => h9) rfl (tk_Checker 10 (by decide)) rfl rfl (Nat.le_of_ble_eq_true rfl) dn_Checker_start_67 (fun H locs hP hD hS => ?_)
  have hP : va_P (dC, dI) xcl [(h0, .inr (4, xo_Checker (va_up (va_up (va_up (va_up (va_up (va_up f0 1 (.ref h2)) 2 (.ref h3)) 3 (.int (-1))) 13 (.int 0)) 14 (.int (-1))) 10 (.int 0)))), (h1, .inr (10, xo_Design f1))] H := hP
  have hD : va_D A [(h0, .inr (4, xo_Checker (va_up (va_up (va_up (va_up (va_up (va_up f0 1 (.ref h2)) 2 (.ref h3)) 3 (.int (-1))) 13 (.int 0)) 14 (.int (-1))) 10 (.int 0)))), (h1, .inr (10, xo_Design f1))] := hD
  have hP9 := hP.sub (ws' := [(h0, .inr (4, xo_Checker (va_up (va_up (va_up (va_up (va_up (va_up f0 1 (.ref h2)) 2 (.ref h3)) 3 (.int (-1))) 13 (.int 0)) 14 (.int (-1))) 10 (.int 0)))), (h1, .inr (10, xo_Design f1))]) [0, 1] rfl
  have hD9 := hD.sub (ws' := [(h0, .inr (4, xo_Checker (va_up (va_up (va_up (va_up (va_up (va_up f0 1 (.ref h2)) 2 (.ref h3)) 3 (.int (-1))) 13 (.int 0)) 14 (.int (-1))) 10 (.int 0)))), (h1, .inr (10, xo_Design f1))]) [0, 1] (by decide) rfl
  exact xk_vret (w1 := fun u : Unit => [(h0, .inr (4, xo_Checker (va_up (va_up (va_up (va_up (va_up (va_up f0 1 (.ref h2)) 2 (.ref h3)) 3 (.int (-1))) 13 (.int 0)) 14 (.int (-1))) 10 (.int 0)))), (h1, .inr (10, xo_Design f1))]) () hx hb hr hlocks hK hS dn_Checker_start_70 hP9 hD9 trivial (Nat.le_refl _) (Nat.le_refl _)
set_option maxHeartbeats 4000000 in
set_option maxRecDepth 100000 in
theorem ct_Meaning_start_0 (l : Launch) (dC : Nat → ClassId) (dI : Nat → Nat → Nat) (cI cB cJ cZ cQ : ClassId) (sz : Nat) (h0 : Nat) (h1 : Nat) (f0 : Nat → Value) (f1 : Nat → Value) (h2 : Nat) (h3 : Nat) (hf1_0 : f1 0 = .ref h2) (hf1_1 : f1 1 = .ref h3) : Met l yn_Meaning_start (xw yn_Meaning_start bn_Meaning_start 2 none) ({ frames := 0, cells := 0, slots := 0, locals := 0 }) (xk_P (dC, dI) xcl (xt cI cB cJ cZ cQ) [.ref h0, .ref h1] sz [(h0, .inr (5, xo_Meaning f0)), (h1, .inr (10, xo_Design f1))]) (xk_Qv (dC, dI) xcl (xt cI cB cJ cZ cQ) (fun u : Unit => True) (fun u : Unit => [(h0, .inr (5, xo_Meaning (va_up (va_up (va_up (va_up (va_up (va_up f0 1 (.ref h1)) 2 (.ref h2)) 3 (.ref h3)) 4 (.int 1)) 9 (.int 0)) 16 (.int 0)))), (h1, .inr (10, xo_Design f1))]) (va_A [(h0, .inr (5, xo_Meaning f0)), (h1, .inr (10, xo_Design f1))] sz)) 0 0 (va_A [(h0, .inr (5, xo_Meaning f0)), (h1, .inr (10, xo_Design f1))] sz) := by
  refine xk_of (QA := xk_Qv (dC, dI) xcl (xt cI cB cJ cZ cQ) (fun u : Unit => True) (fun u : Unit => [(h0, .inr (5, xo_Meaning (va_up (va_up (va_up (va_up (va_up (va_up f0 1 (.ref h1)) 2 (.ref h2)) 3 (.ref h3)) 4 (.int 1)) 9 (.int 0)) 16 (.int 0)))), (h1, .inr (10, xo_Design f1))])) (by decide) (Nat.le_of_ble_eq_true rfl) ?_
  intro p e s m below meth c hx hb hml hown hg hr hlocks hin hP hK hN A hA hD hS ls hl
  have hown : s.vm.findClass rn_Meaning = some m.cls := hown
  have hl : lv_has ls 2 [(0, .ref h0), (1, .ref h1)] := hl
  obtain ⟨H, hH⟩ : ∃ z, z = s.heap := ⟨_, rfl⟩
  rw [← hH] at hP
  have hS : va_S A s.heap H [] := by rw [hH]; exact va_S.rf
  suffices kk : W p l e ({ frames := 0, cells := 0, slots := 0, locals := 0 }) s m [.ref h0, .ref h1].toArray below meth c H [] 0 0 (MQ below (xk_Qv (dC, dI) xcl (xt cI cB cJ cZ cQ) (fun u : Unit => True) (fun u : Unit => [(h0, .inr (5, xo_Meaning (va_up (va_up (va_up (va_up (va_up (va_up f0 1 (.ref h1)) 2 (.ref h2)) 3 (.ref h3)) 4 (.int 1)) 9 (.int 0)) 16 (.int 0)))), (h1, .inr (10, xo_Design f1))]) A) [.ref h0, .ref h1].toArray s 0 0 A) (F0 m 0 ls []) by rw [hH] at kk; exact kk
  refine lv_aload_n hx hb dn_Meaning_start_0 rfl (lv_at hl 0 rfl) ?_
  refine lv_aload_n hx hb dn_Meaning_start_1 rfl (lv_at hl 1 rfl) ?_
  refine va_put (D := (dC, dI)) (ci := 5) (v := .ref h1) (ty := (.object "CircuitCycles$Design")) (C := rn_Meaning) (T := fn_Meaning) (N := 17) hx hb hg in_Meaning tn_Meaning tk_Meaning nn_Meaning hown hK hP hD hS 0 rfl rfl 1 (by decide) (hg _ wn_1_185) (fun _ h9 => h9) rfl (tk_Meaning 1 (by decide)) rfl rfl (Nat.le_of_ble_eq_true rfl) dn_Meaning_start_2 (fun H locs hP hD hS => ?_)
  have hP : va_P (dC, dI) xcl [(h0, .inr (5, xo_Meaning (va_up f0 1 (.ref h1)))), (h1, .inr (10, xo_Design f1))] H := hP
  have hD : va_D A [(h0, .inr (5, xo_Meaning (va_up f0 1 (.ref h1)))), (h1, .inr (10, xo_Design f1))] := hD
  refine lv_aload_n hx hb dn_Meaning_start_5 rfl (lv_at hl 0 rfl) ?_
  refine lv_aload_n hx hb dn_Meaning_start_6 rfl (lv_at hl 1 rfl) ?_
  refine va_get (D := (dC, dI)) (ci := 10) (v := .ref h2) (C := rn_Design) (T := fn_Design) (N := 16) hx hb hg in_Design hown hK hP 1 rfl rfl 0 (by decide) (hg _ wn_2_236) (fun _ h9 => h9) (congrArg some hf1_0) dn_Meaning_start_7 ?_
  refine va_put (D := (dC, dI)) (ci := 5) (v := .ref h2) (ty := (.object "CircuitCycles$Parts")) (C := rn_Meaning) (T := fn_Meaning) (N := 17) hx hb hg in_Meaning tn_Meaning tk_Meaning nn_Meaning hown hK hP hD hS 0 rfl rfl 2 (by decide) (hg _ wn_1_186) (fun _ h9 => h9) rfl (tk_Meaning 2 (by decide)) rfl rfl (Nat.le_of_ble_eq_true rfl) dn_Meaning_start_10 (fun H locs hP hD hS => ?_)
  have hP : va_P (dC, dI) xcl [(h0, .inr (5, xo_Meaning (va_up (va_up f0 1 (.ref h1)) 2 (.ref h2)))), (h1, .inr (10, xo_Design f1))] H := hP
  have hD : va_D A [(h0, .inr (5, xo_Meaning (va_up (va_up f0 1 (.ref h1)) 2 (.ref h2)))), (h1, .inr (10, xo_Design f1))] := hD
  refine lv_aload_n hx hb dn_Meaning_start_13 rfl (lv_at hl 0 rfl) ?_
  refine lv_aload_n hx hb dn_Meaning_start_14 rfl (lv_at hl 1 rfl) ?_
  refine va_get (D := (dC, dI)) (ci := 10) (v := .ref h3) (C := rn_Design) (T := fn_Design) (N := 16) hx hb hg in_Design hown hK hP 1 rfl rfl 1 (by decide) (hg _ wn_3_0) (fun _ h9 => h9) (congrArg some hf1_1) dn_Meaning_start_15 ?_
  refine va_put (D := (dC, dI)) (ci := 5) (v := .ref h3) (ty := (.object "CircuitCycles$Code")) (C := rn_Meaning) (T := fn_Meaning) (N := 17) hx hb hg in_Meaning tn_Meaning tk_Meaning nn_Meaning hown hK hP hD hS 0 rfl rfl 3 (by decide) (hg _ wn_1_187) (fun _ h9 => h9) rfl (tk_Meaning 3 (by decide)) rfl rfl (Nat.le_of_ble_eq_true rfl) dn_Meaning_start_18 (fun H locs hP hD hS => ?_)
  have hP : va_P (dC, dI) xcl [(h0, .inr (5, xo_Meaning (va_up (va_up (va_up f0 1 (.ref h1)) 2 (.ref h2)) 3 (.ref h3)))), (h1, .inr (10, xo_Design f1))] H := hP
  have hD : va_D A [(h0, .inr (5, xo_Meaning (va_up (va_up (va_up f0 1 (.ref h1)) 2 (.ref h2)) 3 (.ref h3)))), (h1, .inr (10, xo_Design f1))] := hD
  refine lv_aload_n hx hb dn_Meaning_start_21 rfl (lv_at hl 0 rfl) ?_
  refine lv_iconst (v := 1) hx hb dn_Meaning_start_22 (by decide) ?_
  refine va_put (D := (dC, dI)) (ci := 5) (v := .int 1) (ty := .int) (C := rn_Meaning) (T := fn_Meaning) (N := 17) hx hb hg in_Meaning tn_Meaning tk_Meaning nn_Meaning hown hK hP hD hS 0 rfl rfl 4 (by decide) (hg _ wn_1_188) (fun _ h9 => h9) rfl (tk_Meaning 4 (by decide)) rfl rfl (Nat.le_of_ble_eq_true rfl) dn_Meaning_start_23 (fun H locs hP hD hS => ?_)
  have hP : va_P (dC, dI) xcl [(h0, .inr (5, xo_Meaning (va_up (va_up (va_up (va_up f0 1 (.ref h1)) 2 (.ref h2)) 3 (.ref h3)) 4 (.int 1)))), (h1, .inr (10, xo_Design f1))] H := hP
  have hD : va_D A [(h0, .inr (5, xo_Meaning (va_up (va_up (va_up (va_up f0 1 (.ref h1)) 2 (.ref h2)) 3 (.ref h3)) 4 (.int 1)))), (h1, .inr (10, xo_Design f1))] := hD
  refine lv_aload_n hx hb dn_Meaning_start_26 rfl (lv_at hl 0 rfl) ?_
  refine lv_iconst (v := 0) hx hb dn_Meaning_start_27 (by decide) ?_
  refine va_put (D := (dC, dI)) (ci := 5) (v := .int 0) (ty := .int) (C := rn_Meaning) (T := fn_Meaning) (N := 17) hx hb hg in_Meaning tn_Meaning tk_Meaning nn_Meaning hown hK hP hD hS 0 rfl rfl 9 (by decide) (hg _ wn_1_193) (fun _ h9 => h9) rfl (tk_Meaning 9 (by decide)) rfl rfl (Nat.le_of_ble_eq_true rfl) dn_Meaning_start_28 (fun H locs hP hD hS => ?_)
  have hP : va_P (dC, dI) xcl [(h0, .inr (5, xo_Meaning (va_up (va_up (va_up (va_up (va_up f0 1 (.ref h1)) 2 (.ref h2)) 3 (.ref h3)) 4 (.int 1)) 9 (.int 0)))), (h1, .inr (10, xo_Design f1))] H := hP
  have hD : va_D A [(h0, .inr (5, xo_Meaning (va_up (va_up (va_up (va_up (va_up f0 1 (.ref h1)) 2 (.ref h2)) 3 (.ref h3)) 4 (.int 1)) 9 (.int 0)))), (h1, .inr (10, xo_Design f1))] := hD
  refine lv_aload_n hx hb dn_Meaning_start_31 rfl (lv_at hl 0 rfl) ?_
  refine lv_iconst (v := 0) hx hb dn_Meaning_start_32 (by decide) ?_
  refine va_put (D := (dC, dI)) (ci := 5) (v := .int 0) (ty := .int) (C := rn_Meaning) (T := fn_Meaning) (N := 17) hx hb hg in_Meaning tn_Meaning tk_Meaning nn_Meaning hown hK hP hD hS 0 rfl rfl 16 (by decide) (hg _ wn_1_200) (fun _ h9 => h9) rfl (tk_Meaning 16 (by decide)) rfl rfl (Nat.le_of_ble_eq_true rfl) dn_Meaning_start_33 (fun H locs hP hD hS => ?_)
  have hP : va_P (dC, dI) xcl [(h0, .inr (5, xo_Meaning (va_up (va_up (va_up (va_up (va_up (va_up f0 1 (.ref h1)) 2 (.ref h2)) 3 (.ref h3)) 4 (.int 1)) 9 (.int 0)) 16 (.int 0)))), (h1, .inr (10, xo_Design f1))] H := hP
  have hD : va_D A [(h0, .inr (5, xo_Meaning (va_up (va_up (va_up (va_up (va_up (va_up f0 1 (.ref h1)) 2 (.ref h2)) 3 (.ref h3)) 4 (.int 1)) 9 (.int 0)) 16 (.int 0)))), (h1, .inr (10, xo_Design f1))] := hD
  have hP9 := hP.sub (ws' := [(h0, .inr (5, xo_Meaning (va_up (va_up (va_up (va_up (va_up (va_up f0 1 (.ref h1)) 2 (.ref h2)) 3 (.ref h3)) 4 (.int 1)) 9 (.int 0)) 16 (.int 0)))), (h1, .inr (10, xo_Design f1))]) [0, 1] rfl
  have hD9 := hD.sub (ws' := [(h0, .inr (5, xo_Meaning (va_up (va_up (va_up (va_up (va_up (va_up f0 1 (.ref h1)) 2 (.ref h2)) 3 (.ref h3)) 4 (.int 1)) 9 (.int 0)) 16 (.int 0)))), (h1, .inr (10, xo_Design f1))]) [0, 1] (by decide) rfl
  exact xk_vret (w1 := fun u : Unit => [(h0, .inr (5, xo_Meaning (va_up (va_up (va_up (va_up (va_up (va_up f0 1 (.ref h1)) 2 (.ref h2)) 3 (.ref h3)) 4 (.int 1)) 9 (.int 0)) 16 (.int 0)))), (h1, .inr (10, xo_Design f1))]) () hx hb hr hlocks hK hS dn_Meaning_start_36 hP9 hD9 trivial (Nat.le_refl _) (Nat.le_refl _)
set_option maxHeartbeats 4000000 in
set_option maxRecDepth 100000 in
theorem ct_Tokens_misfit_0 (l : Launch) (dC : Nat → ClassId) (dI : Nat → Nat → Nat) (cI cB cJ cZ cQ : ClassId) (sz : Nat) (h0 : Nat) (f0 : Nat → Value) (hf0_3 : f0 3 = .int 0) : Met l yn_Tokens_misfit (xw yn_Tokens_misfit bn_Tokens_misfit 1 (some .int)) ({ frames := 0, cells := 0, slots := 0, locals := 0 }) (xk_P (dC, dI) xcl (xt cI cB cJ cZ cQ) [.ref h0] sz [(h0, .inr (2, xo_Tokens f0))]) (xk_Qi (dC, dI) xcl (xt cI cB cJ cZ cQ) (fun (r : Int32) (u : Unit) => r = 2) (fun u : Unit => [(h0, .inr (2, xo_Tokens f0))]) (va_A [(h0, .inr (2, xo_Tokens f0))] sz)) 0 0 (va_A [(h0, .inr (2, xo_Tokens f0))] sz) := by
  refine xk_of (QA := xk_Qi (dC, dI) xcl (xt cI cB cJ cZ cQ) (fun (r : Int32) (u : Unit) => r = 2) (fun u : Unit => [(h0, .inr (2, xo_Tokens f0))])) (by decide) (Nat.le_of_ble_eq_true rfl) ?_
  intro p e s m below meth c hx hb hml hown hg hr hlocks hin hP hK hN A hA hD hS ls hl
  have hown : s.vm.findClass rn_Tokens = some m.cls := hown
  have hl : lv_has ls 1 [(0, .ref h0)] := hl
  obtain ⟨H, hH⟩ : ∃ z, z = s.heap := ⟨_, rfl⟩
  rw [← hH] at hP
  have hS : va_S A s.heap H [] := by rw [hH]; exact va_S.rf
  suffices kk : W p l e ({ frames := 0, cells := 0, slots := 0, locals := 0 }) s m [.ref h0].toArray below meth c H [] 0 0 (MQ below (xk_Qi (dC, dI) xcl (xt cI cB cJ cZ cQ) (fun (r : Int32) (u : Unit) => r = 2) (fun u : Unit => [(h0, .inr (2, xo_Tokens f0))]) A) [.ref h0].toArray s 0 0 A) (F0 m 0 ls []) by rw [hH] at kk; exact kk
  refine lv_aload_n hx hb dn_Tokens_misfit_0 rfl (lv_at hl 0 rfl) ?_
  refine va_get (D := (dC, dI)) (ci := 2) (v := .int 0) (C := rn_Tokens) (T := fn_Tokens) (N := 9) hx hb hg in_Tokens hown hK hP 0 rfl rfl 3 (by decide) (hg _ wn_1_51) (fun _ h9 => h9) (congrArg some hf0_3) dn_Tokens_misfit_1 ?_
  refine lv_iconst (v := 1) hx hb dn_Tokens_misfit_4 (by decide) ?_
  refine lv_icmp_ne (tgt := 12) hx hb dn_Tokens_misfit_5 (by decide) (fun _ => ?_) (fun h9 => absurd h9 (by decide))
  refine lv_iconst (v := 2) hx hb dn_Tokens_misfit_12 (by decide) ?_
  have hP9 := hP.sub (ws' := [(h0, .inr (2, xo_Tokens f0))]) [0] rfl
  have hD9 := hD.sub (ws' := [(h0, .inr (2, xo_Tokens f0))]) [0] (by decide) rfl
  exact xk_iret (w1 := fun u : Unit => [(h0, .inr (2, xo_Tokens f0))]) () hx hb hr hlocks hK hS dn_Tokens_misfit_13 hP9 hD9 rfl (Nat.le_refl _) (Nat.le_refl _)
set_option maxHeartbeats 4000000 in
set_option maxRecDepth 100000 in
theorem ct_Tokens_stop_0 (l : Launch) (dC : Nat → ClassId) (dI : Nat → Nat → Nat) (cI cB cJ cZ cQ : ClassId) (sz : Nat) (h0 : Nat) (f0 : Nat → Value) (hf0_4 : f0 4 = .int 0) (hf0_6 : f0 6 = .int 0) : Met l yn_Tokens_stop (xw yn_Tokens_stop bn_Tokens_stop 2 none) ({ frames := 0, cells := 0, slots := 0, locals := 0 }) (xk_P (dC, dI) xcl (xt cI cB cJ cZ cQ) [.ref h0, .int 2] sz [(h0, .inr (2, xo_Tokens f0))]) (xk_Qv (dC, dI) xcl (xt cI cB cJ cZ cQ) (fun u : Unit => True) (fun u : Unit => [(h0, .inr (2, xo_Tokens (va_up (va_up (va_up f0 6 (.int 2)) 7 (.int 0)) 3 (.int (-1)))))]) (va_A [(h0, .inr (2, xo_Tokens f0))] sz)) 0 0 (va_A [(h0, .inr (2, xo_Tokens f0))] sz) := by
  refine xk_of (QA := xk_Qv (dC, dI) xcl (xt cI cB cJ cZ cQ) (fun u : Unit => True) (fun u : Unit => [(h0, .inr (2, xo_Tokens (va_up (va_up (va_up f0 6 (.int 2)) 7 (.int 0)) 3 (.int (-1)))))])) (by decide) (Nat.le_of_ble_eq_true rfl) ?_
  intro p e s m below meth c hx hb hml hown hg hr hlocks hin hP hK hN A hA hD hS ls hl
  have hown : s.vm.findClass rn_Tokens = some m.cls := hown
  have hl : lv_has ls 2 [(0, .ref h0), (1, .int 2)] := hl
  obtain ⟨H, hH⟩ : ∃ z, z = s.heap := ⟨_, rfl⟩
  rw [← hH] at hP
  have hS : va_S A s.heap H [] := by rw [hH]; exact va_S.rf
  suffices kk : W p l e ({ frames := 0, cells := 0, slots := 0, locals := 0 }) s m [.ref h0, .int 2].toArray below meth c H [] 0 0 (MQ below (xk_Qv (dC, dI) xcl (xt cI cB cJ cZ cQ) (fun u : Unit => True) (fun u : Unit => [(h0, .inr (2, xo_Tokens (va_up (va_up (va_up f0 6 (.int 2)) 7 (.int 0)) 3 (.int (-1)))))]) A) [.ref h0, .int 2].toArray s 0 0 A) (F0 m 0 ls []) by rw [hH] at kk; exact kk
  refine lv_aload_n hx hb dn_Tokens_stop_0 rfl (lv_at hl 0 rfl) ?_
  refine va_get (D := (dC, dI)) (ci := 2) (v := .int 0) (C := rn_Tokens) (T := fn_Tokens) (N := 9) hx hb hg in_Tokens hown hK hP 0 rfl rfl 6 (by decide) (hg _ wn_1_58) (fun _ h9 => h9) (congrArg some hf0_6) dn_Tokens_stop_1 ?_
  refine lv_if_eq (tgt := 8) hx hb dn_Tokens_stop_4 (by decide) (fun _ => ?_) (fun h9 => absurd h9 (by decide))
  refine lv_aload_n hx hb dn_Tokens_stop_8 rfl (lv_at hl 0 rfl) ?_
  refine lv_iload_n hx hb dn_Tokens_stop_9 rfl (lv_at hl 1 rfl) ?_
  refine va_put (D := (dC, dI)) (ci := 2) (v := .int 2) (ty := .int) (C := rn_Tokens) (T := fn_Tokens) (N := 9) hx hb hg in_Tokens tn_Tokens tk_Tokens nn_Tokens hown hK hP hD hS 0 rfl rfl 6 (by decide) (hg _ wn_1_58) (fun _ h9 => h9) rfl (tk_Tokens 6 (by decide)) rfl rfl (Nat.le_of_ble_eq_true rfl) dn_Tokens_stop_10 (fun H locs hP hD hS => ?_)
  have hP : va_P (dC, dI) xcl [(h0, .inr (2, xo_Tokens (va_up f0 6 (.int 2))))] H := hP
  have hD : va_D A [(h0, .inr (2, xo_Tokens (va_up f0 6 (.int 2))))] := hD
  refine lv_aload_n hx hb dn_Tokens_stop_13 rfl (lv_at hl 0 rfl) ?_
  refine lv_aload_n hx hb dn_Tokens_stop_14 rfl (lv_at hl 0 rfl) ?_
  refine va_get (D := (dC, dI)) (ci := 2) (v := .int 0) (C := rn_Tokens) (T := fn_Tokens) (N := 9) hx hb hg in_Tokens hown hK hP 0 rfl rfl 4 (by decide) (hg _ wn_1_53) (fun _ h9 => h9) (congrArg some hf0_4) dn_Tokens_stop_15 ?_
  refine va_put (D := (dC, dI)) (ci := 2) (v := .int 0) (ty := .int) (C := rn_Tokens) (T := fn_Tokens) (N := 9) hx hb hg in_Tokens tn_Tokens tk_Tokens nn_Tokens hown hK hP hD hS 0 rfl rfl 7 (by decide) (hg _ wn_1_60) (fun _ h9 => h9) rfl (tk_Tokens 7 (by decide)) rfl rfl (Nat.le_of_ble_eq_true rfl) dn_Tokens_stop_18 (fun H locs hP hD hS => ?_)
  have hP : va_P (dC, dI) xcl [(h0, .inr (2, xo_Tokens (va_up (va_up f0 6 (.int 2)) 7 (.int 0))))] H := hP
  have hD : va_D A [(h0, .inr (2, xo_Tokens (va_up (va_up f0 6 (.int 2)) 7 (.int 0))))] := hD
  refine lv_aload_n hx hb dn_Tokens_stop_21 rfl (lv_at hl 0 rfl) ?_
  refine lv_iconst (v := (-1)) hx hb dn_Tokens_stop_22 (by decide) ?_
  refine va_put (D := (dC, dI)) (ci := 2) (v := .int (-1)) (ty := .int) (C := rn_Tokens) (T := fn_Tokens) (N := 9) hx hb hg in_Tokens tn_Tokens tk_Tokens nn_Tokens hown hK hP hD hS 0 rfl rfl 3 (by decide) (hg _ wn_1_51) (fun _ h9 => h9) rfl (tk_Tokens 3 (by decide)) rfl rfl (Nat.le_of_ble_eq_true rfl) dn_Tokens_stop_23 (fun H locs hP hD hS => ?_)
  have hP : va_P (dC, dI) xcl [(h0, .inr (2, xo_Tokens (va_up (va_up (va_up f0 6 (.int 2)) 7 (.int 0)) 3 (.int (-1)))))] H := hP
  have hD : va_D A [(h0, .inr (2, xo_Tokens (va_up (va_up (va_up f0 6 (.int 2)) 7 (.int 0)) 3 (.int (-1)))))] := hD
  have hP9 := hP.sub (ws' := [(h0, .inr (2, xo_Tokens (va_up (va_up (va_up f0 6 (.int 2)) 7 (.int 0)) 3 (.int (-1)))))]) [0] rfl
  have hD9 := hD.sub (ws' := [(h0, .inr (2, xo_Tokens (va_up (va_up (va_up f0 6 (.int 2)) 7 (.int 0)) 3 (.int (-1)))))]) [0] (by decide) rfl
  exact xk_vret (w1 := fun u : Unit => [(h0, .inr (2, xo_Tokens (va_up (va_up (va_up f0 6 (.int 2)) 7 (.int 0)) 3 (.int (-1)))))]) () hx hb hr hlocks hK hS dn_Tokens_stop_26 hP9 hD9 trivial (Nat.le_refl _) (Nat.le_refl _)
set_option maxHeartbeats 4000000 in
set_option maxRecDepth 100000 in
theorem ct_Tokens_need_0 (l : Launch) (dC : Nat → ClassId) (dI : Nat → Nat → Nat) (cI cB cJ cZ cQ : ClassId) (sz : Nat) (h0 : Nat) (f0 : Nat → Value) (hf0_3 : f0 3 = .int 0) (hf0_4 : f0 4 = .int 0) (hf0_6 : f0 6 = .int 0) : Met l yn_Tokens_need (xw yn_Tokens_need bn_Tokens_need 2 none) ({ frames := 1, cells := 0, slots := 0, locals := 21 }) (xk_P (dC, dI) xcl (xt cI cB cJ cZ cQ) [.ref h0, .int 128] sz [(h0, .inr (2, xo_Tokens f0))]) (xk_Qv (dC, dI) xcl (xt cI cB cJ cZ cQ) (fun u : Unit => True) (fun u : Unit => [(h0, .inr (2, xo_Tokens (va_up (va_up (va_up f0 6 (.int 2)) 7 (.int 0)) 3 (.int (-1)))))]) (va_A [(h0, .inr (2, xo_Tokens f0))] sz)) 0 0 (va_A [(h0, .inr (2, xo_Tokens f0))] sz) := by
  refine xk_of (QA := xk_Qv (dC, dI) xcl (xt cI cB cJ cZ cQ) (fun u : Unit => True) (fun u : Unit => [(h0, .inr (2, xo_Tokens (va_up (va_up (va_up f0 6 (.int 2)) 7 (.int 0)) 3 (.int (-1)))))])) (by decide) (Nat.le_of_ble_eq_true rfl) ?_
  intro p e s m below meth c hx hb hml hown hg hr hlocks hin hP hK hN A hA hD hS ls hl
  have hown : s.vm.findClass rn_Tokens = some m.cls := hown
  have hl : lv_has ls 2 [(0, .ref h0), (1, .int 128)] := hl
  obtain ⟨H, hH⟩ : ∃ z, z = s.heap := ⟨_, rfl⟩
  rw [← hH] at hP
  have hS : va_S A s.heap H [] := by rw [hH]; exact va_S.rf
  suffices kk : W p l e ({ frames := 1, cells := 0, slots := 0, locals := 21 }) s m [.ref h0, .int 128].toArray below meth c H [] 0 0 (MQ below (xk_Qv (dC, dI) xcl (xt cI cB cJ cZ cQ) (fun u : Unit => True) (fun u : Unit => [(h0, .inr (2, xo_Tokens (va_up (va_up (va_up f0 6 (.int 2)) 7 (.int 0)) 3 (.int (-1)))))]) A) [.ref h0, .int 128].toArray s 0 0 A) (F0 m 0 ls []) by rw [hH] at kk; exact kk
  refine lv_aload_n hx hb dn_Tokens_need_0 rfl (lv_at hl 0 rfl) ?_
  refine va_get (D := (dC, dI)) (ci := 2) (v := .int 0) (C := rn_Tokens) (T := fn_Tokens) (N := 9) hx hb hg in_Tokens hown hK hP 0 rfl rfl 3 (by decide) (hg _ wn_1_51) (fun _ h9 => h9) (congrArg some hf0_3) dn_Tokens_need_1 ?_
  refine lv_iload_n hx hb dn_Tokens_need_4 rfl (lv_at hl 1 rfl) ?_
  refine lv_icmp_ne (tgt := 15) hx hb dn_Tokens_need_5 (by decide) (fun _ => ?_) (fun h9 => absurd h9 (by decide))
  refine lv_aload_n hx hb dn_Tokens_need_15 rfl (lv_at hl 0 rfl) ?_
  refine lv_aload_n hx hb dn_Tokens_need_16 rfl (lv_at hl 0 rfl) ?_
  have hPc := hP.sub (ws' := [(h0, .inr (2, xo_Tokens f0))]) [0] rfl
  have hDc := hD.sub (ws' := [(h0, .inr (2, xo_Tokens f0))]) [0] (by decide) rfl
  refine xk_calli (wr := []) (xk_runV (ar := 0) (As := []) (rest := [.ref h0]) (ci := 2) (q0 := 0) ⟨hx, hb, hml, hown, hg⟩ hK hN (ct_Tokens_misfit_0 l dC dI cI cB cJ cZ cQ H.size h0 f0 hf0_3) hPc hDc rfl rfl wn_4_177 wn_4_179 sn_Tokens_misfit wn_1_2 wn_4_180 rfl rfl (by decide +kernel) ⟨Nat.le_of_ble_eq_true rfl, Nat.le_of_ble_eq_true rfl⟩ rfl hl.1 rfl (Nat.le_of_ble_eq_true rfl) dn_Tokens_need_17 ⟨Nat.le_of_ble_eq_true rfl, Nat.le_of_ble_eq_true rfl⟩) hP hD hS hA [0] [] rfl rfl (by decide) (by decide) (fun r_1 _ H locs hw hP hD hS => ?_)
  have hP : va_P (dC, dI) xcl [(h0, .inr (2, xo_Tokens f0))] H := hP
  have hD : va_D A [(h0, .inr (2, xo_Tokens f0))] := hD
  have hw : r_1 = 2 := hw
  subst hw
  have hPc := hP.sub (ws' := [(h0, .inr (2, xo_Tokens f0))]) [0] rfl
  have hDc := hD.sub (ws' := [(h0, .inr (2, xo_Tokens f0))]) [0] (by decide) rfl
  refine xk_callv (wr := []) (xk_runV (ar := 1) (As := [.int 2]) (rest := []) (ci := 2) (q0 := 0) ⟨hx, hb, hml, hown, hg⟩ hK hN (ct_Tokens_stop_0 l dC dI cI cB cJ cZ cQ H.size h0 f0 hf0_4 hf0_6) hPc hDc rfl rfl wn_4_181 wn_4_183 sn_Tokens_stop wn_1_2 wn_4_184 rfl rfl (by decide +kernel) ⟨Nat.le_of_ble_eq_true rfl, Nat.le_of_ble_eq_true rfl⟩ rfl hl.1 rfl (Nat.le_of_ble_eq_true rfl) dn_Tokens_need_20 ⟨Nat.le_of_ble_eq_true rfl, Nat.le_of_ble_eq_true rfl⟩) hP hD hS hA [0] [] rfl rfl (by decide) (by decide) (fun _ H locs hw hP hD hS => ?_)
  have hP : va_P (dC, dI) xcl [(h0, .inr (2, xo_Tokens (va_up (va_up (va_up f0 6 (.int 2)) 7 (.int 0)) 3 (.int (-1)))))] H := hP
  have hD : va_D A [(h0, .inr (2, xo_Tokens (va_up (va_up (va_up f0 6 (.int 2)) 7 (.int 0)) 3 (.int (-1)))))] := hD
  have hP9 := hP.sub (ws' := [(h0, .inr (2, xo_Tokens (va_up (va_up (va_up f0 6 (.int 2)) 7 (.int 0)) 3 (.int (-1)))))]) [0] rfl
  have hD9 := hD.sub (ws' := [(h0, .inr (2, xo_Tokens (va_up (va_up (va_up f0 6 (.int 2)) 7 (.int 0)) 3 (.int (-1)))))]) [0] (by decide) rfl
  exact xk_vret (w1 := fun u : Unit => [(h0, .inr (2, xo_Tokens (va_up (va_up (va_up f0 6 (.int 2)) 7 (.int 0)) 3 (.int (-1)))))]) () hx hb hr hlocks hK hS dn_Tokens_need_23 hP9 hD9 trivial (Nat.le_refl _) (Nat.le_refl _)
set_option maxHeartbeats 4000000 in
set_option maxRecDepth 100000 in
theorem ct_Tokens_misfit_1 (l : Launch) (dC : Nat → ClassId) (dI : Nat → Nat → Nat) (cI cB cJ cZ cQ : ClassId) (sz : Nat) (h0 : Nat) (f0 : Nat → Value) (hf0_3 : f0 3 = .int (-1)) : Met l yn_Tokens_misfit (xw yn_Tokens_misfit bn_Tokens_misfit 1 (some .int)) ({ frames := 0, cells := 0, slots := 0, locals := 0 }) (xk_P (dC, dI) xcl (xt cI cB cJ cZ cQ) [.ref h0] sz [(h0, .inr (2, xo_Tokens f0))]) (xk_Qi (dC, dI) xcl (xt cI cB cJ cZ cQ) (fun (r : Int32) (u : Unit) => r = 2) (fun u : Unit => [(h0, .inr (2, xo_Tokens f0))]) (va_A [(h0, .inr (2, xo_Tokens f0))] sz)) 0 0 (va_A [(h0, .inr (2, xo_Tokens f0))] sz) := by
  refine xk_of (QA := xk_Qi (dC, dI) xcl (xt cI cB cJ cZ cQ) (fun (r : Int32) (u : Unit) => r = 2) (fun u : Unit => [(h0, .inr (2, xo_Tokens f0))])) (by decide) (Nat.le_of_ble_eq_true rfl) ?_
  intro p e s m below meth c hx hb hml hown hg hr hlocks hin hP hK hN A hA hD hS ls hl
  have hown : s.vm.findClass rn_Tokens = some m.cls := hown
  have hl : lv_has ls 1 [(0, .ref h0)] := hl
  obtain ⟨H, hH⟩ : ∃ z, z = s.heap := ⟨_, rfl⟩
  rw [← hH] at hP
  have hS : va_S A s.heap H [] := by rw [hH]; exact va_S.rf
  suffices kk : W p l e ({ frames := 0, cells := 0, slots := 0, locals := 0 }) s m [.ref h0].toArray below meth c H [] 0 0 (MQ below (xk_Qi (dC, dI) xcl (xt cI cB cJ cZ cQ) (fun (r : Int32) (u : Unit) => r = 2) (fun u : Unit => [(h0, .inr (2, xo_Tokens f0))]) A) [.ref h0].toArray s 0 0 A) (F0 m 0 ls []) by rw [hH] at kk; exact kk
  refine lv_aload_n hx hb dn_Tokens_misfit_0 rfl (lv_at hl 0 rfl) ?_
  refine va_get (D := (dC, dI)) (ci := 2) (v := .int (-1)) (C := rn_Tokens) (T := fn_Tokens) (N := 9) hx hb hg in_Tokens hown hK hP 0 rfl rfl 3 (by decide) (hg _ wn_1_51) (fun _ h9 => h9) (congrArg some hf0_3) dn_Tokens_misfit_1 ?_
  refine lv_iconst (v := 1) hx hb dn_Tokens_misfit_4 (by decide) ?_
  refine lv_icmp_ne (tgt := 12) hx hb dn_Tokens_misfit_5 (by decide) (fun _ => ?_) (fun h9 => absurd h9 (by decide))
  refine lv_iconst (v := 2) hx hb dn_Tokens_misfit_12 (by decide) ?_
  have hP9 := hP.sub (ws' := [(h0, .inr (2, xo_Tokens f0))]) [0] rfl
  have hD9 := hD.sub (ws' := [(h0, .inr (2, xo_Tokens f0))]) [0] (by decide) rfl
  exact xk_iret (w1 := fun u : Unit => [(h0, .inr (2, xo_Tokens f0))]) () hx hb hr hlocks hK hS dn_Tokens_misfit_13 hP9 hD9 rfl (Nat.le_refl _) (Nat.le_refl _)
set_option maxHeartbeats 4000000 in
set_option maxRecDepth 100000 in
theorem ct_Tokens_stop_1 (l : Launch) (dC : Nat → ClassId) (dI : Nat → Nat → Nat) (cI cB cJ cZ cQ : ClassId) (sz : Nat) (h0 : Nat) (f0 : Nat → Value) (hf0_6 : f0 6 = .int 2) : Met l yn_Tokens_stop (xw yn_Tokens_stop bn_Tokens_stop 2 none) ({ frames := 0, cells := 0, slots := 0, locals := 0 }) (xk_P (dC, dI) xcl (xt cI cB cJ cZ cQ) [.ref h0, .int 2] sz [(h0, .inr (2, xo_Tokens f0))]) (xk_Qv (dC, dI) xcl (xt cI cB cJ cZ cQ) (fun u : Unit => True) (fun u : Unit => [(h0, .inr (2, xo_Tokens f0))]) (va_A [(h0, .inr (2, xo_Tokens f0))] sz)) 0 0 (va_A [(h0, .inr (2, xo_Tokens f0))] sz) := by
  refine xk_of (QA := xk_Qv (dC, dI) xcl (xt cI cB cJ cZ cQ) (fun u : Unit => True) (fun u : Unit => [(h0, .inr (2, xo_Tokens f0))])) (by decide) (Nat.le_of_ble_eq_true rfl) ?_
  intro p e s m below meth c hx hb hml hown hg hr hlocks hin hP hK hN A hA hD hS ls hl
  have hown : s.vm.findClass rn_Tokens = some m.cls := hown
  have hl : lv_has ls 2 [(0, .ref h0), (1, .int 2)] := hl
  obtain ⟨H, hH⟩ : ∃ z, z = s.heap := ⟨_, rfl⟩
  rw [← hH] at hP
  have hS : va_S A s.heap H [] := by rw [hH]; exact va_S.rf
  suffices kk : W p l e ({ frames := 0, cells := 0, slots := 0, locals := 0 }) s m [.ref h0, .int 2].toArray below meth c H [] 0 0 (MQ below (xk_Qv (dC, dI) xcl (xt cI cB cJ cZ cQ) (fun u : Unit => True) (fun u : Unit => [(h0, .inr (2, xo_Tokens f0))]) A) [.ref h0, .int 2].toArray s 0 0 A) (F0 m 0 ls []) by rw [hH] at kk; exact kk
  refine lv_aload_n hx hb dn_Tokens_stop_0 rfl (lv_at hl 0 rfl) ?_
  refine va_get (D := (dC, dI)) (ci := 2) (v := .int 2) (C := rn_Tokens) (T := fn_Tokens) (N := 9) hx hb hg in_Tokens hown hK hP 0 rfl rfl 6 (by decide) (hg _ wn_1_58) (fun _ h9 => h9) (congrArg some hf0_6) dn_Tokens_stop_1 ?_
  refine lv_if_eq (tgt := 8) hx hb dn_Tokens_stop_4 (by decide) (fun h9 => absurd h9 (by decide)) (fun _ => ?_)
  have hP9 := hP.sub (ws' := [(h0, .inr (2, xo_Tokens f0))]) [0] rfl
  have hD9 := hD.sub (ws' := [(h0, .inr (2, xo_Tokens f0))]) [0] (by decide) rfl
  exact xk_vret (w1 := fun u : Unit => [(h0, .inr (2, xo_Tokens f0))]) () hx hb hr hlocks hK hS dn_Tokens_stop_7 hP9 hD9 trivial (Nat.le_refl _) (Nat.le_refl _)
set_option maxHeartbeats 4000000 in
set_option maxRecDepth 100000 in
theorem ct_Tokens_due_0 (l : Launch) (dC : Nat → ClassId) (dI : Nat → Nat → Nat) (cI cB cJ cZ cQ : ClassId) (sz : Nat) (h0 : Nat) (f0 : Nat → Value) (hf0_3 : f0 3 = .int (-1)) (hf0_6 : f0 6 = .int 2) : Met l yn_Tokens_due (xw yn_Tokens_due bn_Tokens_due 2 (some .boolean)) ({ frames := 1, cells := 0, slots := 0, locals := 21 }) (xk_P (dC, dI) xcl (xt cI cB cJ cZ cQ) [.ref h0, .int 2] sz [(h0, .inr (2, xo_Tokens f0))]) (xk_Qi (dC, dI) xcl (xt cI cB cJ cZ cQ) (fun (r : Int32) (u : Unit) => r = 0) (fun u : Unit => [(h0, .inr (2, xo_Tokens f0))]) (va_A [(h0, .inr (2, xo_Tokens f0))] sz)) 0 0 (va_A [(h0, .inr (2, xo_Tokens f0))] sz) := by
  refine xk_of (QA := xk_Qi (dC, dI) xcl (xt cI cB cJ cZ cQ) (fun (r : Int32) (u : Unit) => r = 0) (fun u : Unit => [(h0, .inr (2, xo_Tokens f0))])) (by decide) (Nat.le_of_ble_eq_true rfl) ?_
  intro p e s m below meth c hx hb hml hown hg hr hlocks hin hP hK hN A hA hD hS ls hl
  have hown : s.vm.findClass rn_Tokens = some m.cls := hown
  have hl : lv_has ls 2 [(0, .ref h0), (1, .int 2)] := hl
  obtain ⟨H, hH⟩ : ∃ z, z = s.heap := ⟨_, rfl⟩
  rw [← hH] at hP
  have hS : va_S A s.heap H [] := by rw [hH]; exact va_S.rf
  suffices kk : W p l e ({ frames := 1, cells := 0, slots := 0, locals := 21 }) s m [.ref h0, .int 2].toArray below meth c H [] 0 0 (MQ below (xk_Qi (dC, dI) xcl (xt cI cB cJ cZ cQ) (fun (r : Int32) (u : Unit) => r = 0) (fun u : Unit => [(h0, .inr (2, xo_Tokens f0))]) A) [.ref h0, .int 2].toArray s 0 0 A) (F0 m 0 ls []) by rw [hH] at kk; exact kk
  refine lv_aload_n hx hb dn_Tokens_due_0 rfl (lv_at hl 0 rfl) ?_
  refine va_get (D := (dC, dI)) (ci := 2) (v := .int (-1)) (C := rn_Tokens) (T := fn_Tokens) (N := 9) hx hb hg in_Tokens hown hK hP 0 rfl rfl 3 (by decide) (hg _ wn_1_51) (fun _ h9 => h9) (congrArg some hf0_3) dn_Tokens_due_1 ?_
  refine lv_iload_n hx hb dn_Tokens_due_4 rfl (lv_at hl 1 rfl) ?_
  refine lv_icmp_ne (tgt := 10) hx hb dn_Tokens_due_5 (by decide) (fun _ => ?_) (fun h9 => absurd h9 (by decide))
  refine lv_aload_n hx hb dn_Tokens_due_10 rfl (lv_at hl 0 rfl) ?_
  refine lv_aload_n hx hb dn_Tokens_due_11 rfl (lv_at hl 0 rfl) ?_
  have hPc := hP.sub (ws' := [(h0, .inr (2, xo_Tokens f0))]) [0] rfl
  have hDc := hD.sub (ws' := [(h0, .inr (2, xo_Tokens f0))]) [0] (by decide) rfl
  refine xk_calli (wr := []) (xk_runV (ar := 0) (As := []) (rest := [.ref h0]) (ci := 2) (q0 := 0) ⟨hx, hb, hml, hown, hg⟩ hK hN (ct_Tokens_misfit_1 l dC dI cI cB cJ cZ cQ H.size h0 f0 hf0_3) hPc hDc rfl rfl wn_4_177 wn_4_179 sn_Tokens_misfit wn_1_2 wn_4_180 rfl rfl (by decide +kernel) ⟨Nat.le_of_ble_eq_true rfl, Nat.le_of_ble_eq_true rfl⟩ rfl hl.1 rfl (Nat.le_of_ble_eq_true rfl) dn_Tokens_due_12 ⟨Nat.le_of_ble_eq_true rfl, Nat.le_of_ble_eq_true rfl⟩) hP hD hS hA [0] [] rfl rfl (by decide) (by decide) (fun r_1 _ H locs hw hP hD hS => ?_)
  have hP : va_P (dC, dI) xcl [(h0, .inr (2, xo_Tokens f0))] H := hP
  have hD : va_D A [(h0, .inr (2, xo_Tokens f0))] := hD
  have hw : r_1 = 2 := hw
  subst hw
  have hPc := hP.sub (ws' := [(h0, .inr (2, xo_Tokens f0))]) [0] rfl
  have hDc := hD.sub (ws' := [(h0, .inr (2, xo_Tokens f0))]) [0] (by decide) rfl
  refine xk_callv (wr := []) (xk_runV (ar := 1) (As := [.int 2]) (rest := []) (ci := 2) (q0 := 0) ⟨hx, hb, hml, hown, hg⟩ hK hN (ct_Tokens_stop_1 l dC dI cI cB cJ cZ cQ H.size h0 f0 hf0_6) hPc hDc rfl rfl wn_4_181 wn_4_183 sn_Tokens_stop wn_1_2 wn_4_184 rfl rfl (by decide +kernel) ⟨Nat.le_of_ble_eq_true rfl, Nat.le_of_ble_eq_true rfl⟩ rfl hl.1 rfl (Nat.le_of_ble_eq_true rfl) dn_Tokens_due_15 ⟨Nat.le_of_ble_eq_true rfl, Nat.le_of_ble_eq_true rfl⟩) hP hD hS hA [0] [] rfl rfl (by decide) (by decide) (fun _ H locs hw hP hD hS => ?_)
  have hP : va_P (dC, dI) xcl [(h0, .inr (2, xo_Tokens f0))] H := hP
  have hD : va_D A [(h0, .inr (2, xo_Tokens f0))] := hD
  refine lv_iconst (v := 0) hx hb dn_Tokens_due_18 (by decide) ?_
  have hP9 := hP.sub (ws' := [(h0, .inr (2, xo_Tokens f0))]) [0] rfl
  have hD9 := hD.sub (ws' := [(h0, .inr (2, xo_Tokens f0))]) [0] (by decide) rfl
  exact xk_zret (w1 := fun u : Unit => [(h0, .inr (2, xo_Tokens f0))]) () hx hb hr rfl hlocks hK hS dn_Tokens_due_19 hP9 hD9 rfl (Nat.le_refl _) (Nat.le_refl _)
set_option maxHeartbeats 4000000 in
set_option maxRecDepth 100000 in
theorem ct_Tokens_take_1 (l : Launch) (dC : Nat → ClassId) (dI : Nat → Nat → Nat) (cI cB cJ cZ cQ : ClassId) (sz : Nat) (h0 : Nat) (f0 : Nat → Value) (hf0_6 : f0 6 = .int 2) : Met l yn_Tokens_take (xw yn_Tokens_take bn_Tokens_take 1 none) ({ frames := 0, cells := 0, slots := 0, locals := 0 }) (xk_P (dC, dI) xcl (xt cI cB cJ cZ cQ) [.ref h0] sz [(h0, .inr (2, xo_Tokens f0))]) (xk_Qv (dC, dI) xcl (xt cI cB cJ cZ cQ) (fun u : Unit => True) (fun u : Unit => [(h0, .inr (2, xo_Tokens f0))]) (va_A [(h0, .inr (2, xo_Tokens f0))] sz)) 0 0 (va_A [(h0, .inr (2, xo_Tokens f0))] sz) := by
  refine xk_of (QA := xk_Qv (dC, dI) xcl (xt cI cB cJ cZ cQ) (fun u : Unit => True) (fun u : Unit => [(h0, .inr (2, xo_Tokens f0))])) (by decide) (Nat.le_of_ble_eq_true rfl) ?_
  intro p e s m below meth c hx hb hml hown hg hr hlocks hin hP hK hN A hA hD hS ls hl
  have hown : s.vm.findClass rn_Tokens = some m.cls := hown
  have hl : lv_has ls 1 [(0, .ref h0)] := hl
  obtain ⟨H, hH⟩ : ∃ z, z = s.heap := ⟨_, rfl⟩
  rw [← hH] at hP
  have hS : va_S A s.heap H [] := by rw [hH]; exact va_S.rf
  suffices kk : W p l e ({ frames := 0, cells := 0, slots := 0, locals := 0 }) s m [.ref h0].toArray below meth c H [] 0 0 (MQ below (xk_Qv (dC, dI) xcl (xt cI cB cJ cZ cQ) (fun u : Unit => True) (fun u : Unit => [(h0, .inr (2, xo_Tokens f0))]) A) [.ref h0].toArray s 0 0 A) (F0 m 0 ls []) by rw [hH] at kk; exact kk
  refine lv_aload_n hx hb dn_Tokens_take_0 rfl (lv_at hl 0 rfl) ?_
  refine va_get (D := (dC, dI)) (ci := 2) (v := .int 2) (C := rn_Tokens) (T := fn_Tokens) (N := 9) hx hb hg in_Tokens hown hK hP 0 rfl rfl 6 (by decide) (hg _ wn_1_58) (fun _ h9 => h9) (congrArg some hf0_6) dn_Tokens_take_1 ?_
  refine lv_if_ne (tgt := 20) hx hb dn_Tokens_take_4 (by decide) (fun _ => ?_) (fun h9 => absurd h9 (by decide))
  have hP9 := hP.sub (ws' := [(h0, .inr (2, xo_Tokens f0))]) [0] rfl
  have hD9 := hD.sub (ws' := [(h0, .inr (2, xo_Tokens f0))]) [0] (by decide) rfl
  exact xk_vret (w1 := fun u : Unit => [(h0, .inr (2, xo_Tokens f0))]) () hx hb hr hlocks hK hS dn_Tokens_take_20 hP9 hD9 trivial (Nat.le_refl _) (Nat.le_refl _)
set_option maxHeartbeats 4000000 in
set_option maxRecDepth 100000 in
theorem ct_Tokens_open_0 (l : Launch) (dC : Nat → ClassId) (dI : Nat → Nat → Nat) (cI cB cJ cZ cQ : ClassId) (sz : Nat) (h0 : Nat) (f0 : Nat → Value) (hf0_3 : f0 3 = .int (-1)) (hf0_6 : f0 6 = .int 2) : Met l yn_Tokens_open (xw yn_Tokens_open bn_Tokens_open 2 none) ({ frames := 1, cells := 0, slots := 0, locals := 21 }) (xk_P (dC, dI) xcl (xt cI cB cJ cZ cQ) [.ref h0, .int 40] sz [(h0, .inr (2, xo_Tokens f0))]) (xk_Qv (dC, dI) xcl (xt cI cB cJ cZ cQ) (fun u : Unit => True) (fun u : Unit => [(h0, .inr (2, xo_Tokens f0))]) (va_A [(h0, .inr (2, xo_Tokens f0))] sz)) 0 0 (va_A [(h0, .inr (2, xo_Tokens f0))] sz) := by
  refine xk_of (QA := xk_Qv (dC, dI) xcl (xt cI cB cJ cZ cQ) (fun u : Unit => True) (fun u : Unit => [(h0, .inr (2, xo_Tokens f0))])) (by decide) (Nat.le_of_ble_eq_true rfl) ?_
  intro p e s m below meth c hx hb hml hown hg hr hlocks hin hP hK hN A hA hD hS ls hl
  have hown : s.vm.findClass rn_Tokens = some m.cls := hown
  have hl : lv_has ls 2 [(0, .ref h0), (1, .int 40)] := hl
  obtain ⟨H, hH⟩ : ∃ z, z = s.heap := ⟨_, rfl⟩
  rw [← hH] at hP
  have hS : va_S A s.heap H [] := by rw [hH]; exact va_S.rf
  suffices kk : W p l e ({ frames := 1, cells := 0, slots := 0, locals := 21 }) s m [.ref h0, .int 40].toArray below meth c H [] 0 0 (MQ below (xk_Qv (dC, dI) xcl (xt cI cB cJ cZ cQ) (fun u : Unit => True) (fun u : Unit => [(h0, .inr (2, xo_Tokens f0))]) A) [.ref h0, .int 40].toArray s 0 0 A) (F0 m 0 ls []) by rw [hH] at kk; exact kk
  refine lv_aload_n hx hb dn_Tokens_open_0 rfl (lv_at hl 0 rfl) ?_
  refine va_get (D := (dC, dI)) (ci := 2) (v := .int (-1)) (C := rn_Tokens) (T := fn_Tokens) (N := 9) hx hb hg in_Tokens hown hK hP 0 rfl rfl 3 (by decide) (hg _ wn_1_51) (fun _ h9 => h9) (congrArg some hf0_3) dn_Tokens_open_1 ?_
  refine lv_iload_n hx hb dn_Tokens_open_4 rfl (lv_at hl 1 rfl) ?_
  refine lv_icmp_eq (tgt := 19) hx hb dn_Tokens_open_5 (by decide) (fun h9 => absurd h9 (by decide)) (fun _ => ?_)
  refine lv_aload_n hx hb dn_Tokens_open_8 rfl (lv_at hl 0 rfl) ?_
  refine lv_aload_n hx hb dn_Tokens_open_9 rfl (lv_at hl 0 rfl) ?_
  have hPc := hP.sub (ws' := [(h0, .inr (2, xo_Tokens f0))]) [0] rfl
  have hDc := hD.sub (ws' := [(h0, .inr (2, xo_Tokens f0))]) [0] (by decide) rfl
  refine xk_calli (wr := []) (xk_runV (ar := 0) (As := []) (rest := [.ref h0]) (ci := 2) (q0 := 0) ⟨hx, hb, hml, hown, hg⟩ hK hN (ct_Tokens_misfit_1 l dC dI cI cB cJ cZ cQ H.size h0 f0 hf0_3) hPc hDc rfl rfl wn_4_177 wn_4_179 sn_Tokens_misfit wn_1_2 wn_4_180 rfl rfl (by decide +kernel) ⟨Nat.le_of_ble_eq_true rfl, Nat.le_of_ble_eq_true rfl⟩ rfl hl.1 rfl (Nat.le_of_ble_eq_true rfl) dn_Tokens_open_10 ⟨Nat.le_of_ble_eq_true rfl, Nat.le_of_ble_eq_true rfl⟩) hP hD hS hA [0] [] rfl rfl (by decide) (by decide) (fun r_1 _ H locs hw hP hD hS => ?_)
  have hP : va_P (dC, dI) xcl [(h0, .inr (2, xo_Tokens f0))] H := hP
  have hD : va_D A [(h0, .inr (2, xo_Tokens f0))] := hD
  have hw : r_1 = 2 := hw
  subst hw
  have hPc := hP.sub (ws' := [(h0, .inr (2, xo_Tokens f0))]) [0] rfl
  have hDc := hD.sub (ws' := [(h0, .inr (2, xo_Tokens f0))]) [0] (by decide) rfl
  refine xk_callv (wr := []) (xk_runV (ar := 1) (As := [.int 2]) (rest := []) (ci := 2) (q0 := 0) ⟨hx, hb, hml, hown, hg⟩ hK hN (ct_Tokens_stop_1 l dC dI cI cB cJ cZ cQ H.size h0 f0 hf0_6) hPc hDc rfl rfl wn_4_181 wn_4_183 sn_Tokens_stop wn_1_2 wn_4_184 rfl rfl (by decide +kernel) ⟨Nat.le_of_ble_eq_true rfl, Nat.le_of_ble_eq_true rfl⟩ rfl hl.1 rfl (Nat.le_of_ble_eq_true rfl) dn_Tokens_open_13 ⟨Nat.le_of_ble_eq_true rfl, Nat.le_of_ble_eq_true rfl⟩) hP hD hS hA [0] [] rfl rfl (by decide) (by decide) (fun _ H locs hw hP hD hS => ?_)
  have hP : va_P (dC, dI) xcl [(h0, .inr (2, xo_Tokens f0))] H := hP
  have hD : va_D A [(h0, .inr (2, xo_Tokens f0))] := hD
  refine lv_goto (tgt := 50) hx hb dn_Tokens_open_16 (by decide) ?_
  have hP9 := hP.sub (ws' := [(h0, .inr (2, xo_Tokens f0))]) [0] rfl
  have hD9 := hD.sub (ws' := [(h0, .inr (2, xo_Tokens f0))]) [0] (by decide) rfl
  exact xk_vret (w1 := fun u : Unit => [(h0, .inr (2, xo_Tokens f0))]) () hx hb hr hlocks hK hS dn_Tokens_open_50 hP9 hD9 trivial (Nat.le_refl _) (Nat.le_refl _)
set_option maxHeartbeats 4000000 in
set_option maxRecDepth 100000 in
theorem ct_Tokens_need_1 (l : Launch) (dC : Nat → ClassId) (dI : Nat → Nat → Nat) (cI cB cJ cZ cQ : ClassId) (sz : Nat) (h0 : Nat) (f0 : Nat → Value) (hf0_3 : f0 3 = .int (-1)) (hf0_6 : f0 6 = .int 2) : Met l yn_Tokens_need (xw yn_Tokens_need bn_Tokens_need 2 none) ({ frames := 1, cells := 0, slots := 0, locals := 21 }) (xk_P (dC, dI) xcl (xt cI cB cJ cZ cQ) [.ref h0, .int 131] sz [(h0, .inr (2, xo_Tokens f0))]) (xk_Qv (dC, dI) xcl (xt cI cB cJ cZ cQ) (fun u : Unit => True) (fun u : Unit => [(h0, .inr (2, xo_Tokens f0))]) (va_A [(h0, .inr (2, xo_Tokens f0))] sz)) 0 0 (va_A [(h0, .inr (2, xo_Tokens f0))] sz) := by
  refine xk_of (QA := xk_Qv (dC, dI) xcl (xt cI cB cJ cZ cQ) (fun u : Unit => True) (fun u : Unit => [(h0, .inr (2, xo_Tokens f0))])) (by decide) (Nat.le_of_ble_eq_true rfl) ?_
  intro p e s m below meth c hx hb hml hown hg hr hlocks hin hP hK hN A hA hD hS ls hl
  have hown : s.vm.findClass rn_Tokens = some m.cls := hown
  have hl : lv_has ls 2 [(0, .ref h0), (1, .int 131)] := hl
  obtain ⟨H, hH⟩ : ∃ z, z = s.heap := ⟨_, rfl⟩
  rw [← hH] at hP
  have hS : va_S A s.heap H [] := by rw [hH]; exact va_S.rf
  suffices kk : W p l e ({ frames := 1, cells := 0, slots := 0, locals := 21 }) s m [.ref h0, .int 131].toArray below meth c H [] 0 0 (MQ below (xk_Qv (dC, dI) xcl (xt cI cB cJ cZ cQ) (fun u : Unit => True) (fun u : Unit => [(h0, .inr (2, xo_Tokens f0))]) A) [.ref h0, .int 131].toArray s 0 0 A) (F0 m 0 ls []) by rw [hH] at kk; exact kk
  refine lv_aload_n hx hb dn_Tokens_need_0 rfl (lv_at hl 0 rfl) ?_
  refine va_get (D := (dC, dI)) (ci := 2) (v := .int (-1)) (C := rn_Tokens) (T := fn_Tokens) (N := 9) hx hb hg in_Tokens hown hK hP 0 rfl rfl 3 (by decide) (hg _ wn_1_51) (fun _ h9 => h9) (congrArg some hf0_3) dn_Tokens_need_1 ?_
  refine lv_iload_n hx hb dn_Tokens_need_4 rfl (lv_at hl 1 rfl) ?_
  refine lv_icmp_ne (tgt := 15) hx hb dn_Tokens_need_5 (by decide) (fun _ => ?_) (fun h9 => absurd h9 (by decide))
  refine lv_aload_n hx hb dn_Tokens_need_15 rfl (lv_at hl 0 rfl) ?_
  refine lv_aload_n hx hb dn_Tokens_need_16 rfl (lv_at hl 0 rfl) ?_
  have hPc := hP.sub (ws' := [(h0, .inr (2, xo_Tokens f0))]) [0] rfl
  have hDc := hD.sub (ws' := [(h0, .inr (2, xo_Tokens f0))]) [0] (by decide) rfl
  refine xk_calli (wr := []) (xk_runV (ar := 0) (As := []) (rest := [.ref h0]) (ci := 2) (q0 := 0) ⟨hx, hb, hml, hown, hg⟩ hK hN (ct_Tokens_misfit_1 l dC dI cI cB cJ cZ cQ H.size h0 f0 hf0_3) hPc hDc rfl rfl wn_4_177 wn_4_179 sn_Tokens_misfit wn_1_2 wn_4_180 rfl rfl (by decide +kernel) ⟨Nat.le_of_ble_eq_true rfl, Nat.le_of_ble_eq_true rfl⟩ rfl hl.1 rfl (Nat.le_of_ble_eq_true rfl) dn_Tokens_need_17 ⟨Nat.le_of_ble_eq_true rfl, Nat.le_of_ble_eq_true rfl⟩) hP hD hS hA [0] [] rfl rfl (by decide) (by decide) (fun r_1 _ H locs hw hP hD hS => ?_)
  have hP : va_P (dC, dI) xcl [(h0, .inr (2, xo_Tokens f0))] H := hP
  have hD : va_D A [(h0, .inr (2, xo_Tokens f0))] := hD
  have hw : r_1 = 2 := hw
  subst hw
  have hPc := hP.sub (ws' := [(h0, .inr (2, xo_Tokens f0))]) [0] rfl
  have hDc := hD.sub (ws' := [(h0, .inr (2, xo_Tokens f0))]) [0] (by decide) rfl
  refine xk_callv (wr := []) (xk_runV (ar := 1) (As := [.int 2]) (rest := []) (ci := 2) (q0 := 0) ⟨hx, hb, hml, hown, hg⟩ hK hN (ct_Tokens_stop_1 l dC dI cI cB cJ cZ cQ H.size h0 f0 hf0_6) hPc hDc rfl rfl wn_4_181 wn_4_183 sn_Tokens_stop wn_1_2 wn_4_184 rfl rfl (by decide +kernel) ⟨Nat.le_of_ble_eq_true rfl, Nat.le_of_ble_eq_true rfl⟩ rfl hl.1 rfl (Nat.le_of_ble_eq_true rfl) dn_Tokens_need_20 ⟨Nat.le_of_ble_eq_true rfl, Nat.le_of_ble_eq_true rfl⟩) hP hD hS hA [0] [] rfl rfl (by decide) (by decide) (fun _ H locs hw hP hD hS => ?_)
  have hP : va_P (dC, dI) xcl [(h0, .inr (2, xo_Tokens f0))] H := hP
  have hD : va_D A [(h0, .inr (2, xo_Tokens f0))] := hD
  have hP9 := hP.sub (ws' := [(h0, .inr (2, xo_Tokens f0))]) [0] rfl
  have hD9 := hD.sub (ws' := [(h0, .inr (2, xo_Tokens f0))]) [0] (by decide) rfl
  exact xk_vret (w1 := fun u : Unit => [(h0, .inr (2, xo_Tokens f0))]) () hx hb hr hlocks hK hS dn_Tokens_need_23 hP9 hD9 trivial (Nat.le_refl _) (Nat.le_refl _)
set_option maxHeartbeats 4000000 in
set_option maxRecDepth 100000 in
theorem ct_Grammar_declaration_0 (l : Launch) (dC : Nat → ClassId) (dI : Nat → Nat → Nat) (cI cB cJ cZ cQ : ClassId) (sz : Nat) (h0 : Nat) (h1 : Nat) (f0 : Nat → Value) (f1 : Nat → Value) (hf0_0 : f0 0 = .ref h1) (hf1_3 : f1 3 = .int (-1)) (hf1_6 : f1 6 = .int 2) : Met l yn_Grammar_declaration (xw yn_Grammar_declaration bn_Grammar_declaration 5 none) ({ frames := 2, cells := 0, slots := 0, locals := 42 }) (xk_P (dC, dI) xcl (xt cI cB cJ cZ cQ) [.ref h0, .int 1] sz [(h0, .inr (6, xo_Grammar f0)), (h1, .inr (2, xo_Tokens f1))]) (xk_Qv (dC, dI) xcl (xt cI cB cJ cZ cQ) (fun u : Unit => True) (fun u : Unit => [(h0, .inr (6, xo_Grammar f0)), (h1, .inr (2, xo_Tokens f1))]) (va_A [(h0, .inr (6, xo_Grammar f0)), (h1, .inr (2, xo_Tokens f1))] sz)) 0 0 (va_A [(h0, .inr (6, xo_Grammar f0)), (h1, .inr (2, xo_Tokens f1))] sz) := by
  refine xk_of (QA := xk_Qv (dC, dI) xcl (xt cI cB cJ cZ cQ) (fun u : Unit => True) (fun u : Unit => [(h0, .inr (6, xo_Grammar f0)), (h1, .inr (2, xo_Tokens f1))])) (by decide) (Nat.le_of_ble_eq_true rfl) ?_
  intro p e s m below meth c hx hb hml hown hg hr hlocks hin hP hK hN A hA hD hS ls hl
  have hown : s.vm.findClass rn_Grammar = some m.cls := hown
  have hl : lv_has ls 5 [(0, .ref h0), (1, .int 1)] := hl
  obtain ⟨H, hH⟩ : ∃ z, z = s.heap := ⟨_, rfl⟩
  rw [← hH] at hP
  have hS : va_S A s.heap H [] := by rw [hH]; exact va_S.rf
  suffices kk : W p l e ({ frames := 2, cells := 0, slots := 0, locals := 42 }) s m [.ref h0, .int 1].toArray below meth c H [] 0 0 (MQ below (xk_Qv (dC, dI) xcl (xt cI cB cJ cZ cQ) (fun u : Unit => True) (fun u : Unit => [(h0, .inr (6, xo_Grammar f0)), (h1, .inr (2, xo_Tokens f1))]) A) [.ref h0, .int 1].toArray s 0 0 A) (F0 m 0 ls []) by rw [hH] at kk; exact kk
  refine lv_aload_n hx hb dn_Grammar_declaration_0 rfl (lv_at hl 0 rfl) ?_
  refine va_get (D := (dC, dI)) (ci := 6) (v := .ref h1) (C := rn_Grammar) (T := fn_Grammar) (N := 15) hx hb hg in_Grammar hown hK hP 0 rfl rfl 0 (by decide) (hg _ wn_2_0) (fun _ h9 => h9) (congrArg some hf0_0) dn_Grammar_declaration_1 ?_
  refine va_get (D := (dC, dI)) (ci := 2) (v := .int (-1)) (C := rn_Tokens) (T := fn_Tokens) (N := 9) hx hb hg in_Tokens hown hK hP 1 rfl rfl 3 (by decide) (hg _ wn_1_50) (fun _ h9 => h9) (congrArg some hf1_3) dn_Grammar_declaration_4 ?_
  refine lv_bipush (v := 91) hx hb dn_Grammar_declaration_7 (by decide) ?_
  refine lv_icmp_ne (tgt := 91) hx hb dn_Grammar_declaration_9 (by decide) (fun _ => ?_) (fun h9 => absurd h9 (by decide))
  refine lv_aload_n hx hb dn_Grammar_declaration_91 rfl (lv_at hl 0 rfl) ?_
  refine va_get (D := (dC, dI)) (ci := 6) (v := .ref h1) (C := rn_Grammar) (T := fn_Grammar) (N := 15) hx hb hg in_Grammar hown hK hP 0 rfl rfl 0 (by decide) (hg _ wn_2_0) (fun _ h9 => h9) (congrArg some hf0_0) dn_Grammar_declaration_92 ?_
  refine lv_iconst (v := 2) hx hb dn_Grammar_declaration_95 (by decide) ?_
  have hPc := hP.sub (ws' := [(h1, .inr (2, xo_Tokens f1))]) [1] rfl
  have hDc := hD.sub (ws' := [(h1, .inr (2, xo_Tokens f1))]) [1] (by decide) rfl
  refine xk_calli (wr := [(h0, .inr (6, xo_Grammar f0))]) (xk_runV (ar := 1) (As := [.int 2]) (rest := []) (ci := 2) (q0 := 0) ⟨hx, hb, hml, hown, hg⟩ hK hN (ct_Tokens_due_0 l dC dI cI cB cJ cZ cQ H.size h1 f1 hf1_3 hf1_6) hPc hDc rfl rfl wn_4_185 wn_4_186 wn_4_187 wn_1_2 wn_4_188 rfl rfl (by decide +kernel) ⟨Nat.le_of_ble_eq_true rfl, Nat.le_of_ble_eq_true rfl⟩ rfl hl.1 rfl (Nat.le_of_ble_eq_true rfl) dn_Grammar_declaration_96 ⟨Nat.le_of_ble_eq_true rfl, Nat.le_of_ble_eq_true rfl⟩) hP hD hS hA [1] [0] rfl rfl (by decide) (by decide) (fun r_1 _ H locs hw hP hD hS => ?_)
  have hP : va_P (dC, dI) xcl [(h0, .inr (6, xo_Grammar f0)), (h1, .inr (2, xo_Tokens f1))] H := hP
  have hD : va_D A [(h0, .inr (6, xo_Grammar f0)), (h1, .inr (2, xo_Tokens f1))] := hD
  have hw : r_1 = 0 := hw
  subst hw
  refine lv_if_eq (tgt := 124) hx hb dn_Grammar_declaration_99 (by decide) (fun _ => ?_) (fun h9 => absurd h9 (by decide))
  refine lv_aload_n hx hb dn_Grammar_declaration_124 rfl (lv_at hl 0 rfl) ?_
  refine va_get (D := (dC, dI)) (ci := 6) (v := .ref h1) (C := rn_Grammar) (T := fn_Grammar) (N := 15) hx hb hg in_Grammar hown hK hP 0 rfl rfl 0 (by decide) (hg _ wn_2_0) (fun _ h9 => h9) (congrArg some hf0_0) dn_Grammar_declaration_125 ?_
  have hPc := hP.sub (ws' := [(h1, .inr (2, xo_Tokens f1))]) [1] rfl
  have hDc := hD.sub (ws' := [(h1, .inr (2, xo_Tokens f1))]) [1] (by decide) rfl
  refine xk_callv (wr := [(h0, .inr (6, xo_Grammar f0))]) (xk_runV (ar := 0) (As := []) (rest := []) (ci := 2) (q0 := 0) ⟨hx, hb, hml, hown, hg⟩ hK hN (ct_Tokens_take_1 l dC dI cI cB cJ cZ cQ H.size h1 f1 hf1_6) hPc hDc rfl rfl wn_4_213 wn_4_149 wn_4_150 wn_1_2 wn_4_151 rfl rfl (by decide +kernel) ⟨Nat.le_of_ble_eq_true rfl, Nat.le_of_ble_eq_true rfl⟩ rfl hl.1 rfl (Nat.le_of_ble_eq_true rfl) dn_Grammar_declaration_128 ⟨Nat.le_of_ble_eq_true rfl, Nat.le_of_ble_eq_true rfl⟩) hP hD hS hA [1] [0] rfl rfl (by decide) (by decide) (fun _ H locs hw hP hD hS => ?_)
  have hP : va_P (dC, dI) xcl [(h0, .inr (6, xo_Grammar f0)), (h1, .inr (2, xo_Tokens f1))] H := hP
  have hD : va_D A [(h0, .inr (6, xo_Grammar f0)), (h1, .inr (2, xo_Tokens f1))] := hD
  refine lv_iload_n hx hb dn_Grammar_declaration_131 rfl (lv_at hl 1 rfl) ?_
  refine lv_iconst (v := 2) hx hb dn_Grammar_declaration_132 (by decide) ?_
  refine lv_icmp_ne (tgt := 148) hx hb dn_Grammar_declaration_133 (by decide) (fun _ => ?_) (fun h9 => absurd h9 (by decide))
  have hP9 := hP.sub (ws' := [(h0, .inr (6, xo_Grammar f0)), (h1, .inr (2, xo_Tokens f1))]) [0, 1] rfl
  have hD9 := hD.sub (ws' := [(h0, .inr (6, xo_Grammar f0)), (h1, .inr (2, xo_Tokens f1))]) [0, 1] (by decide) rfl
  exact xk_vret (w1 := fun u : Unit => [(h0, .inr (6, xo_Grammar f0)), (h1, .inr (2, xo_Tokens f1))]) () hx hb hr hlocks hK hS dn_Grammar_declaration_148 hP9 hD9 trivial (Nat.le_refl _) (Nat.le_refl _)
set_option maxHeartbeats 4000000 in
set_option maxRecDepth 100000 in
theorem ct_Grammar_port_0 (l : Launch) (dC : Nat → ClassId) (dI : Nat → Nat → Nat) (cI cB cJ cZ cQ : ClassId) (sz : Nat) (h0 : Nat) (h1 : Nat) (f0 : Nat → Value) (f1 : Nat → Value) (hf0_0 : f0 0 = .ref h1) (hf1_3 : f1 3 = .int (-1)) (hf1_6 : f1 6 = .int 2) : Met l yn_Grammar_port (xw yn_Grammar_port bn_Grammar_port 1 none) ({ frames := 3, cells := 0, slots := 0, locals := 66 }) (xk_P (dC, dI) xcl (xt cI cB cJ cZ cQ) [.ref h0] sz [(h0, .inr (6, xo_Grammar f0)), (h1, .inr (2, xo_Tokens f1))]) (xk_Qv (dC, dI) xcl (xt cI cB cJ cZ cQ) (fun u : Unit => True) (fun u : Unit => [(h0, .inr (6, xo_Grammar f0)), (h1, .inr (2, xo_Tokens f1))]) (va_A [(h0, .inr (6, xo_Grammar f0)), (h1, .inr (2, xo_Tokens f1))] sz)) 0 0 (va_A [(h0, .inr (6, xo_Grammar f0)), (h1, .inr (2, xo_Tokens f1))] sz) := by
  refine xk_of (QA := xk_Qv (dC, dI) xcl (xt cI cB cJ cZ cQ) (fun u : Unit => True) (fun u : Unit => [(h0, .inr (6, xo_Grammar f0)), (h1, .inr (2, xo_Tokens f1))])) (by decide) (Nat.le_of_ble_eq_true rfl) ?_
  intro p e s m below meth c hx hb hml hown hg hr hlocks hin hP hK hN A hA hD hS ls hl
  have hown : s.vm.findClass rn_Grammar = some m.cls := hown
  have hl : lv_has ls 1 [(0, .ref h0)] := hl
  obtain ⟨H, hH⟩ : ∃ z, z = s.heap := ⟨_, rfl⟩
  rw [← hH] at hP
  have hS : va_S A s.heap H [] := by rw [hH]; exact va_S.rf
  suffices kk : W p l e ({ frames := 3, cells := 0, slots := 0, locals := 66 }) s m [.ref h0].toArray below meth c H [] 0 0 (MQ below (xk_Qv (dC, dI) xcl (xt cI cB cJ cZ cQ) (fun u : Unit => True) (fun u : Unit => [(h0, .inr (6, xo_Grammar f0)), (h1, .inr (2, xo_Tokens f1))]) A) [.ref h0].toArray s 0 0 A) (F0 m 0 ls []) by rw [hH] at kk; exact kk
  refine lv_aload_n hx hb dn_Grammar_port_0 rfl (lv_at hl 0 rfl) ?_
  refine va_get (D := (dC, dI)) (ci := 6) (v := .ref h1) (C := rn_Grammar) (T := fn_Grammar) (N := 15) hx hb hg in_Grammar hown hK hP 0 rfl rfl 0 (by decide) (hg _ wn_2_0) (fun _ h9 => h9) (congrArg some hf0_0) dn_Grammar_port_1 ?_
  refine va_get (D := (dC, dI)) (ci := 2) (v := .int (-1)) (C := rn_Tokens) (T := fn_Tokens) (N := 9) hx hb hg in_Tokens hown hK hP 1 rfl rfl 3 (by decide) (hg _ wn_1_50) (fun _ h9 => h9) (congrArg some hf1_3) dn_Grammar_port_4 ?_
  refine lv_sipush (v := 130) hx hb dn_Grammar_port_7 (by decide) ?_
  refine lv_icmp_ne (tgt := 26) hx hb dn_Grammar_port_10 (by decide) (fun _ => ?_) (fun h9 => absurd h9 (by decide))
  refine lv_aload_n hx hb dn_Grammar_port_26 rfl (lv_at hl 0 rfl) ?_
  refine va_get (D := (dC, dI)) (ci := 6) (v := .ref h1) (C := rn_Grammar) (T := fn_Grammar) (N := 15) hx hb hg in_Grammar hown hK hP 0 rfl rfl 0 (by decide) (hg _ wn_2_0) (fun _ h9 => h9) (congrArg some hf0_0) dn_Grammar_port_27 ?_
  refine lv_sipush (v := 131) hx hb dn_Grammar_port_30 (by decide) ?_
  have hPc := hP.sub (ws' := [(h1, .inr (2, xo_Tokens f1))]) [1] rfl
  have hDc := hD.sub (ws' := [(h1, .inr (2, xo_Tokens f1))]) [1] (by decide) rfl
  refine xk_callv (wr := [(h0, .inr (6, xo_Grammar f0))]) (xk_runV (ar := 1) (As := [.int 131]) (rest := []) (ci := 2) (q0 := 0) ⟨hx, hb, hml, hown, hg⟩ hK hN (ct_Tokens_need_1 l dC dI cI cB cJ cZ cQ H.size h1 f1 hf1_3 hf1_6) hPc hDc rfl rfl wn_4_173 wn_4_174 wn_4_175 wn_1_2 wn_4_176 rfl rfl (by decide +kernel) ⟨Nat.le_of_ble_eq_true rfl, Nat.le_of_ble_eq_true rfl⟩ rfl hl.1 rfl (Nat.le_of_ble_eq_true rfl) dn_Grammar_port_33 ⟨Nat.le_of_ble_eq_true rfl, Nat.le_of_ble_eq_true rfl⟩) hP hD hS hA [1] [0] rfl rfl (by decide) (by decide) (fun _ H locs hw hP hD hS => ?_)
  have hP : va_P (dC, dI) xcl [(h0, .inr (6, xo_Grammar f0)), (h1, .inr (2, xo_Tokens f1))] H := hP
  have hD : va_D A [(h0, .inr (6, xo_Grammar f0)), (h1, .inr (2, xo_Tokens f1))] := hD
  refine lv_aload_n hx hb dn_Grammar_port_36 rfl (lv_at hl 0 rfl) ?_
  refine va_get (D := (dC, dI)) (ci := 6) (v := .ref h1) (C := rn_Grammar) (T := fn_Grammar) (N := 15) hx hb hg in_Grammar hown hK hP 0 rfl rfl 0 (by decide) (hg _ wn_2_0) (fun _ h9 => h9) (congrArg some hf0_0) dn_Grammar_port_37 ?_
  refine va_get (D := (dC, dI)) (ci := 2) (v := .int (-1)) (C := rn_Tokens) (T := fn_Tokens) (N := 9) hx hb hg in_Tokens hown hK hP 1 rfl rfl 3 (by decide) (hg _ wn_1_50) (fun _ h9 => h9) (congrArg some hf1_3) dn_Grammar_port_40 ?_
  refine lv_sipush (v := 133) hx hb dn_Grammar_port_43 (by decide) ?_
  refine lv_icmp_ne (tgt := 64) hx hb dn_Grammar_port_46 (by decide) (fun _ => ?_) (fun h9 => absurd h9 (by decide))
  refine lv_aload_n hx hb dn_Grammar_port_64 rfl (lv_at hl 0 rfl) ?_
  refine lv_iconst (v := 1) hx hb dn_Grammar_port_65 (by decide) ?_
  have hPc := hP.sub (ws' := [(h0, .inr (6, xo_Grammar f0)), (h1, .inr (2, xo_Tokens f1))]) [0, 1] rfl
  have hDc := hD.sub (ws' := [(h0, .inr (6, xo_Grammar f0)), (h1, .inr (2, xo_Tokens f1))]) [0, 1] (by decide) rfl
  refine xk_callv (wr := []) (xk_runV (ar := 1) (As := [.int 1]) (rest := []) (ci := 6) (q0 := 0) ⟨hx, hb, hml, hown, hg⟩ hK hN (ct_Grammar_declaration_0 l dC dI cI cB cJ cZ cQ H.size h0 h1 f0 f1 hf0_0 hf1_3 hf1_6) hPc hDc rfl rfl wn_4_222 wn_4_224 sn_Grammar_declaration wn_1_5 wn_4_225 rfl rfl (by decide +kernel) ⟨Nat.le_of_ble_eq_true rfl, Nat.le_of_ble_eq_true rfl⟩ rfl hl.1 rfl (Nat.le_of_ble_eq_true rfl) dn_Grammar_port_66 ⟨Nat.le_of_ble_eq_true rfl, Nat.le_of_ble_eq_true rfl⟩) hP hD hS hA [0, 1] [] rfl rfl (by decide) (by decide) (fun _ H locs hw hP hD hS => ?_)
  have hP : va_P (dC, dI) xcl [(h0, .inr (6, xo_Grammar f0)), (h1, .inr (2, xo_Tokens f1))] H := hP
  have hD : va_D A [(h0, .inr (6, xo_Grammar f0)), (h1, .inr (2, xo_Tokens f1))] := hD
  have hP9 := hP.sub (ws' := [(h0, .inr (6, xo_Grammar f0)), (h1, .inr (2, xo_Tokens f1))]) [0, 1] rfl
  have hD9 := hD.sub (ws' := [(h0, .inr (6, xo_Grammar f0)), (h1, .inr (2, xo_Tokens f1))]) [0, 1] (by decide) rfl
  exact xk_vret (w1 := fun u : Unit => [(h0, .inr (6, xo_Grammar f0)), (h1, .inr (2, xo_Tokens f1))]) () hx hb hr hlocks hK hS dn_Grammar_port_69 hP9 hD9 trivial (Nat.le_refl _) (Nat.le_refl _)
set_option maxHeartbeats 4000000 in
set_option maxRecDepth 100000 in
theorem ct_Tokens_shut_0 (l : Launch) (dC : Nat → ClassId) (dI : Nat → Nat → Nat) (cI cB cJ cZ cQ : ClassId) (sz : Nat) (h0 : Nat) (f0 : Nat → Value) (hf0_3 : f0 3 = .int (-1)) (hf0_6 : f0 6 = .int 2) (hf0_8 : f0 8 = .int 0) : Met l yn_Tokens_shut (xw yn_Tokens_shut bn_Tokens_shut 2 none) ({ frames := 1, cells := 0, slots := 0, locals := 21 }) (xk_P (dC, dI) xcl (xt cI cB cJ cZ cQ) [.ref h0, .int 41] sz [(h0, .inr (2, xo_Tokens f0))]) (xk_Qv (dC, dI) xcl (xt cI cB cJ cZ cQ) (fun u : Unit => True) (fun u : Unit => [(h0, .inr (2, xo_Tokens (va_up f0 8 (.int (-1)))))]) (va_A [(h0, .inr (2, xo_Tokens f0))] sz)) 0 0 (va_A [(h0, .inr (2, xo_Tokens f0))] sz) := by
  refine xk_of (QA := xk_Qv (dC, dI) xcl (xt cI cB cJ cZ cQ) (fun u : Unit => True) (fun u : Unit => [(h0, .inr (2, xo_Tokens (va_up f0 8 (.int (-1)))))])) (by decide) (Nat.le_of_ble_eq_true rfl) ?_
  intro p e s m below meth c hx hb hml hown hg hr hlocks hin hP hK hN A hA hD hS ls hl
  have hown : s.vm.findClass rn_Tokens = some m.cls := hown
  have hl : lv_has ls 2 [(0, .ref h0), (1, .int 41)] := hl
  obtain ⟨H, hH⟩ : ∃ z, z = s.heap := ⟨_, rfl⟩
  rw [← hH] at hP
  have hS : va_S A s.heap H [] := by rw [hH]; exact va_S.rf
  suffices kk : W p l e ({ frames := 1, cells := 0, slots := 0, locals := 21 }) s m [.ref h0, .int 41].toArray below meth c H [] 0 0 (MQ below (xk_Qv (dC, dI) xcl (xt cI cB cJ cZ cQ) (fun u : Unit => True) (fun u : Unit => [(h0, .inr (2, xo_Tokens (va_up f0 8 (.int (-1)))))]) A) [.ref h0, .int 41].toArray s 0 0 A) (F0 m 0 ls []) by rw [hH] at kk; exact kk
  refine lv_aload_n hx hb dn_Tokens_shut_0 rfl (lv_at hl 0 rfl) ?_
  refine va_get (D := (dC, dI)) (ci := 2) (v := .int (-1)) (C := rn_Tokens) (T := fn_Tokens) (N := 9) hx hb hg in_Tokens hown hK hP 0 rfl rfl 3 (by decide) (hg _ wn_1_51) (fun _ h9 => h9) (congrArg some hf0_3) dn_Tokens_shut_1 ?_
  refine lv_iload_n hx hb dn_Tokens_shut_4 rfl (lv_at hl 1 rfl) ?_
  refine lv_icmp_ne (tgt := 15) hx hb dn_Tokens_shut_5 (by decide) (fun _ => ?_) (fun h9 => absurd h9 (by decide))
  refine lv_aload_n hx hb dn_Tokens_shut_15 rfl (lv_at hl 0 rfl) ?_
  refine lv_aload_n hx hb dn_Tokens_shut_16 rfl (lv_at hl 0 rfl) ?_
  have hPc := hP.sub (ws' := [(h0, .inr (2, xo_Tokens f0))]) [0] rfl
  have hDc := hD.sub (ws' := [(h0, .inr (2, xo_Tokens f0))]) [0] (by decide) rfl
  refine xk_calli (wr := []) (xk_runV (ar := 0) (As := []) (rest := [.ref h0]) (ci := 2) (q0 := 0) ⟨hx, hb, hml, hown, hg⟩ hK hN (ct_Tokens_misfit_1 l dC dI cI cB cJ cZ cQ H.size h0 f0 hf0_3) hPc hDc rfl rfl wn_4_177 wn_4_179 sn_Tokens_misfit wn_1_2 wn_4_180 rfl rfl (by decide +kernel) ⟨Nat.le_of_ble_eq_true rfl, Nat.le_of_ble_eq_true rfl⟩ rfl hl.1 rfl (Nat.le_of_ble_eq_true rfl) dn_Tokens_shut_17 ⟨Nat.le_of_ble_eq_true rfl, Nat.le_of_ble_eq_true rfl⟩) hP hD hS hA [0] [] rfl rfl (by decide) (by decide) (fun r_1 _ H locs hw hP hD hS => ?_)
  have hP : va_P (dC, dI) xcl [(h0, .inr (2, xo_Tokens f0))] H := hP
  have hD : va_D A [(h0, .inr (2, xo_Tokens f0))] := hD
  have hw : r_1 = 2 := hw
  subst hw
  have hPc := hP.sub (ws' := [(h0, .inr (2, xo_Tokens f0))]) [0] rfl
  have hDc := hD.sub (ws' := [(h0, .inr (2, xo_Tokens f0))]) [0] (by decide) rfl
  refine xk_callv (wr := []) (xk_runV (ar := 1) (As := [.int 2]) (rest := []) (ci := 2) (q0 := 0) ⟨hx, hb, hml, hown, hg⟩ hK hN (ct_Tokens_stop_1 l dC dI cI cB cJ cZ cQ H.size h0 f0 hf0_6) hPc hDc rfl rfl wn_4_181 wn_4_183 sn_Tokens_stop wn_1_2 wn_4_184 rfl rfl (by decide +kernel) ⟨Nat.le_of_ble_eq_true rfl, Nat.le_of_ble_eq_true rfl⟩ rfl hl.1 rfl (Nat.le_of_ble_eq_true rfl) dn_Tokens_shut_20 ⟨Nat.le_of_ble_eq_true rfl, Nat.le_of_ble_eq_true rfl⟩) hP hD hS hA [0] [] rfl rfl (by decide) (by decide) (fun _ H locs hw hP hD hS => ?_)
  have hP : va_P (dC, dI) xcl [(h0, .inr (2, xo_Tokens f0))] H := hP
  have hD : va_D A [(h0, .inr (2, xo_Tokens f0))] := hD
  refine lv_aload_n hx hb dn_Tokens_shut_23 rfl (lv_at hl 0 rfl) ?_
  refine lv_dup hx hb dn_Tokens_shut_24 rfl ?_
  refine va_get (D := (dC, dI)) (ci := 2) (v := .int 0) (C := rn_Tokens) (T := fn_Tokens) (N := 9) hx hb hg in_Tokens hown hK hP 0 rfl rfl 8 (by decide) (hg _ wn_1_62) (fun _ h9 => h9) (congrArg some hf0_8) dn_Tokens_shut_25 ?_
  refine lv_iconst (v := 1) hx hb dn_Tokens_shut_28 (by decide) ?_
  refine lv_isub hx hb dn_Tokens_shut_29 ?_
  refine xk_ti (y := (-1)) (by decide) ?_
  refine va_put (D := (dC, dI)) (ci := 2) (v := .int (-1)) (ty := .int) (C := rn_Tokens) (T := fn_Tokens) (N := 9) hx hb hg in_Tokens tn_Tokens tk_Tokens nn_Tokens hown hK hP hD hS 0 rfl rfl 8 (by decide) (hg _ wn_1_62) (fun _ h9 => h9) rfl (tk_Tokens 8 (by decide)) rfl rfl (Nat.le_of_ble_eq_true rfl) dn_Tokens_shut_30 (fun H locs hP hD hS => ?_)
  have hP : va_P (dC, dI) xcl [(h0, .inr (2, xo_Tokens (va_up f0 8 (.int (-1)))))] H := hP
  have hD : va_D A [(h0, .inr (2, xo_Tokens (va_up f0 8 (.int (-1)))))] := hD
  have hP9 := hP.sub (ws' := [(h0, .inr (2, xo_Tokens (va_up f0 8 (.int (-1)))))]) [0] rfl
  have hD9 := hD.sub (ws' := [(h0, .inr (2, xo_Tokens (va_up f0 8 (.int (-1)))))]) [0] (by decide) rfl
  exact xk_vret (w1 := fun u : Unit => [(h0, .inr (2, xo_Tokens (va_up f0 8 (.int (-1)))))]) () hx hb hr hlocks hK hS dn_Tokens_shut_33 hP9 hD9 trivial (Nat.le_refl _) (Nat.le_refl _)
set_option maxHeartbeats 4000000 in
set_option maxRecDepth 100000 in
theorem ct_Tokens_need_2 (l : Launch) (dC : Nat → ClassId) (dI : Nat → Nat → Nat) (cI cB cJ cZ cQ : ClassId) (sz : Nat) (h0 : Nat) (f0 : Nat → Value) (hf0_3 : f0 3 = .int (-1)) (hf0_6 : f0 6 = .int 2) : Met l yn_Tokens_need (xw yn_Tokens_need bn_Tokens_need 2 none) ({ frames := 1, cells := 0, slots := 0, locals := 21 }) (xk_P (dC, dI) xcl (xt cI cB cJ cZ cQ) [.ref h0, .int 59] sz [(h0, .inr (2, xo_Tokens f0))]) (xk_Qv (dC, dI) xcl (xt cI cB cJ cZ cQ) (fun u : Unit => True) (fun u : Unit => [(h0, .inr (2, xo_Tokens f0))]) (va_A [(h0, .inr (2, xo_Tokens f0))] sz)) 0 0 (va_A [(h0, .inr (2, xo_Tokens f0))] sz) := by
  refine xk_of (QA := xk_Qv (dC, dI) xcl (xt cI cB cJ cZ cQ) (fun u : Unit => True) (fun u : Unit => [(h0, .inr (2, xo_Tokens f0))])) (by decide) (Nat.le_of_ble_eq_true rfl) ?_
  intro p e s m below meth c hx hb hml hown hg hr hlocks hin hP hK hN A hA hD hS ls hl
  have hown : s.vm.findClass rn_Tokens = some m.cls := hown
  have hl : lv_has ls 2 [(0, .ref h0), (1, .int 59)] := hl
  obtain ⟨H, hH⟩ : ∃ z, z = s.heap := ⟨_, rfl⟩
  rw [← hH] at hP
  have hS : va_S A s.heap H [] := by rw [hH]; exact va_S.rf
  suffices kk : W p l e ({ frames := 1, cells := 0, slots := 0, locals := 21 }) s m [.ref h0, .int 59].toArray below meth c H [] 0 0 (MQ below (xk_Qv (dC, dI) xcl (xt cI cB cJ cZ cQ) (fun u : Unit => True) (fun u : Unit => [(h0, .inr (2, xo_Tokens f0))]) A) [.ref h0, .int 59].toArray s 0 0 A) (F0 m 0 ls []) by rw [hH] at kk; exact kk
  refine lv_aload_n hx hb dn_Tokens_need_0 rfl (lv_at hl 0 rfl) ?_
  refine va_get (D := (dC, dI)) (ci := 2) (v := .int (-1)) (C := rn_Tokens) (T := fn_Tokens) (N := 9) hx hb hg in_Tokens hown hK hP 0 rfl rfl 3 (by decide) (hg _ wn_1_51) (fun _ h9 => h9) (congrArg some hf0_3) dn_Tokens_need_1 ?_
  refine lv_iload_n hx hb dn_Tokens_need_4 rfl (lv_at hl 1 rfl) ?_
  refine lv_icmp_ne (tgt := 15) hx hb dn_Tokens_need_5 (by decide) (fun _ => ?_) (fun h9 => absurd h9 (by decide))
  refine lv_aload_n hx hb dn_Tokens_need_15 rfl (lv_at hl 0 rfl) ?_
  refine lv_aload_n hx hb dn_Tokens_need_16 rfl (lv_at hl 0 rfl) ?_
  have hPc := hP.sub (ws' := [(h0, .inr (2, xo_Tokens f0))]) [0] rfl
  have hDc := hD.sub (ws' := [(h0, .inr (2, xo_Tokens f0))]) [0] (by decide) rfl
  refine xk_calli (wr := []) (xk_runV (ar := 0) (As := []) (rest := [.ref h0]) (ci := 2) (q0 := 0) ⟨hx, hb, hml, hown, hg⟩ hK hN (ct_Tokens_misfit_1 l dC dI cI cB cJ cZ cQ H.size h0 f0 hf0_3) hPc hDc rfl rfl wn_4_177 wn_4_179 sn_Tokens_misfit wn_1_2 wn_4_180 rfl rfl (by decide +kernel) ⟨Nat.le_of_ble_eq_true rfl, Nat.le_of_ble_eq_true rfl⟩ rfl hl.1 rfl (Nat.le_of_ble_eq_true rfl) dn_Tokens_need_17 ⟨Nat.le_of_ble_eq_true rfl, Nat.le_of_ble_eq_true rfl⟩) hP hD hS hA [0] [] rfl rfl (by decide) (by decide) (fun r_1 _ H locs hw hP hD hS => ?_)
  have hP : va_P (dC, dI) xcl [(h0, .inr (2, xo_Tokens f0))] H := hP
  have hD : va_D A [(h0, .inr (2, xo_Tokens f0))] := hD
  have hw : r_1 = 2 := hw
  subst hw
  have hPc := hP.sub (ws' := [(h0, .inr (2, xo_Tokens f0))]) [0] rfl
  have hDc := hD.sub (ws' := [(h0, .inr (2, xo_Tokens f0))]) [0] (by decide) rfl
  refine xk_callv (wr := []) (xk_runV (ar := 1) (As := [.int 2]) (rest := []) (ci := 2) (q0 := 0) ⟨hx, hb, hml, hown, hg⟩ hK hN (ct_Tokens_stop_1 l dC dI cI cB cJ cZ cQ H.size h0 f0 hf0_6) hPc hDc rfl rfl wn_4_181 wn_4_183 sn_Tokens_stop wn_1_2 wn_4_184 rfl rfl (by decide +kernel) ⟨Nat.le_of_ble_eq_true rfl, Nat.le_of_ble_eq_true rfl⟩ rfl hl.1 rfl (Nat.le_of_ble_eq_true rfl) dn_Tokens_need_20 ⟨Nat.le_of_ble_eq_true rfl, Nat.le_of_ble_eq_true rfl⟩) hP hD hS hA [0] [] rfl rfl (by decide) (by decide) (fun _ H locs hw hP hD hS => ?_)
  have hP : va_P (dC, dI) xcl [(h0, .inr (2, xo_Tokens f0))] H := hP
  have hD : va_D A [(h0, .inr (2, xo_Tokens f0))] := hD
  have hP9 := hP.sub (ws' := [(h0, .inr (2, xo_Tokens f0))]) [0] rfl
  have hD9 := hD.sub (ws' := [(h0, .inr (2, xo_Tokens f0))]) [0] (by decide) rfl
  exact xk_vret (w1 := fun u : Unit => [(h0, .inr (2, xo_Tokens f0))]) () hx hb hr hlocks hK hS dn_Tokens_need_23 hP9 hD9 trivial (Nat.le_refl _) (Nat.le_refl _)
set_option maxHeartbeats 4000000 in
set_option maxRecDepth 100000 in
theorem ct_Checker_isOff_0 (l : Launch) (dC : Nat → ClassId) (dI : Nat → Nat → Nat) (cI cB cJ cZ cQ : ClassId) (sz : Nat) (h0 : Nat) (h1 : Nat) (f0 : Nat → Value) (f1 : Nat → Value) (hf0_0 : f0 0 = .ref h1) (hf0_13 : f0 13 = .int 0) (hf1_6 : f1 6 = .int 2) : Met l yn_Checker_isOff (xw yn_Checker_isOff bn_Checker_isOff 1 (some .boolean)) ({ frames := 0, cells := 0, slots := 0, locals := 0 }) (xk_P (dC, dI) xcl (xt cI cB cJ cZ cQ) [.ref h0] sz [(h0, .inr (4, xo_Checker f0)), (h1, .inr (2, xo_Tokens f1))]) (xk_Qi (dC, dI) xcl (xt cI cB cJ cZ cQ) (fun (r : Int32) (u : Unit) => r = 1) (fun u : Unit => [(h0, .inr (4, xo_Checker f0)), (h1, .inr (2, xo_Tokens f1))]) (va_A [(h0, .inr (4, xo_Checker f0)), (h1, .inr (2, xo_Tokens f1))] sz)) 0 0 (va_A [(h0, .inr (4, xo_Checker f0)), (h1, .inr (2, xo_Tokens f1))] sz) := by
  refine xk_of (QA := xk_Qi (dC, dI) xcl (xt cI cB cJ cZ cQ) (fun (r : Int32) (u : Unit) => r = 1) (fun u : Unit => [(h0, .inr (4, xo_Checker f0)), (h1, .inr (2, xo_Tokens f1))])) (by decide) (Nat.le_of_ble_eq_true rfl) ?_
  intro p e s m below meth c hx hb hml hown hg hr hlocks hin hP hK hN A hA hD hS ls hl
  have hown : s.vm.findClass rn_Checker = some m.cls := hown
  have hl : lv_has ls 1 [(0, .ref h0)] := hl
  obtain ⟨H, hH⟩ : ∃ z, z = s.heap := ⟨_, rfl⟩
  rw [← hH] at hP
  have hS : va_S A s.heap H [] := by rw [hH]; exact va_S.rf
  suffices kk : W p l e ({ frames := 0, cells := 0, slots := 0, locals := 0 }) s m [.ref h0].toArray below meth c H [] 0 0 (MQ below (xk_Qi (dC, dI) xcl (xt cI cB cJ cZ cQ) (fun (r : Int32) (u : Unit) => r = 1) (fun u : Unit => [(h0, .inr (4, xo_Checker f0)), (h1, .inr (2, xo_Tokens f1))]) A) [.ref h0].toArray s 0 0 A) (F0 m 0 ls []) by rw [hH] at kk; exact kk
  refine lv_aload_n hx hb dn_Checker_isOff_0 rfl (lv_at hl 0 rfl) ?_
  refine va_get (D := (dC, dI)) (ci := 4) (v := .int 0) (C := rn_Checker) (T := fn_Checker) (N := 15) hx hb hg in_Checker hown hK hP 0 rfl rfl 13 (by decide) (hg _ wn_1_141) (fun _ h9 => h9) (congrArg some hf0_13) dn_Checker_isOff_1 ?_
  refine lv_if_ne (tgt := 17) hx hb dn_Checker_isOff_4 (by decide) (fun h9 => absurd h9 (by decide)) (fun _ => ?_)
  refine lv_aload_n hx hb dn_Checker_isOff_7 rfl (lv_at hl 0 rfl) ?_
  refine va_get (D := (dC, dI)) (ci := 4) (v := .ref h1) (C := rn_Checker) (T := fn_Checker) (N := 15) hx hb hg in_Checker hown hK hP 0 rfl rfl 0 (by decide) (hg _ wn_1_126) (fun _ h9 => h9) (congrArg some hf0_0) dn_Checker_isOff_8 ?_
  refine va_get (D := (dC, dI)) (ci := 2) (v := .int 2) (C := rn_Tokens) (T := fn_Tokens) (N := 9) hx hb hg in_Tokens hown hK hP 1 rfl rfl 6 (by decide) (hg _ wn_1_57) (fun _ h9 => h9) (congrArg some hf1_6) dn_Checker_isOff_11 ?_
  refine lv_if_eq (tgt := 21) hx hb dn_Checker_isOff_14 (by decide) (fun h9 => absurd h9 (by decide)) (fun _ => ?_)
  refine lv_iconst (v := 1) hx hb dn_Checker_isOff_17 (by decide) ?_
  refine lv_goto (tgt := 22) hx hb dn_Checker_isOff_18 (by decide) ?_
  have hP9 := hP.sub (ws' := [(h0, .inr (4, xo_Checker f0)), (h1, .inr (2, xo_Tokens f1))]) [0, 1] rfl
  have hD9 := hD.sub (ws' := [(h0, .inr (4, xo_Checker f0)), (h1, .inr (2, xo_Tokens f1))]) [0, 1] (by decide) rfl
  exact xk_zret (w1 := fun u : Unit => [(h0, .inr (4, xo_Checker f0)), (h1, .inr (2, xo_Tokens f1))]) () hx hb hr rfl hlocks hK hS dn_Checker_isOff_22 hP9 hD9 rfl (Nat.le_refl _) (Nat.le_refl _)
set_option maxHeartbeats 4000000 in
set_option maxRecDepth 100000 in
theorem ct_Meaning_portsEnd_0 (l : Launch) (dC : Nat → ClassId) (dI : Nat → Nat → Nat) (cI cB cJ cZ cQ : ClassId) (sz : Nat) (h0 : Nat) (h1 : Nat) (h2 : Nat) (f0 : Nat → Value) (f1 : Nat → Value) (f2 : Nat → Value) (hf0_0 : f0 0 = .ref h2) (hf0_13 : f0 13 = .int 0) (hf1_0 : f1 0 = .ref h0) (hf2_6 : f2 6 = .int 2) : Met l yn_Meaning_portsEnd (xw yn_Meaning_portsEnd bn_Meaning_portsEnd 1 none) ({ frames := 1, cells := 0, slots := 0, locals := 20 }) (xk_P (dC, dI) xcl (xt cI cB cJ cZ cQ) [.ref h1] sz [(h0, .inr (4, xo_Checker f0)), (h1, .inr (5, xo_Meaning f1)), (h2, .inr (2, xo_Tokens f2))]) (xk_Qv (dC, dI) xcl (xt cI cB cJ cZ cQ) (fun u : Unit => True) (fun u : Unit => [(h1, .inr (5, xo_Meaning f1)), (h0, .inr (4, xo_Checker f0)), (h2, .inr (2, xo_Tokens f2))]) (va_A [(h0, .inr (4, xo_Checker f0)), (h1, .inr (5, xo_Meaning f1)), (h2, .inr (2, xo_Tokens f2))] sz)) 0 0 (va_A [(h0, .inr (4, xo_Checker f0)), (h1, .inr (5, xo_Meaning f1)), (h2, .inr (2, xo_Tokens f2))] sz) := by
  refine xk_of (QA := xk_Qv (dC, dI) xcl (xt cI cB cJ cZ cQ) (fun u : Unit => True) (fun u : Unit => [(h1, .inr (5, xo_Meaning f1)), (h0, .inr (4, xo_Checker f0)), (h2, .inr (2, xo_Tokens f2))])) (by decide) (Nat.le_of_ble_eq_true rfl) ?_
  intro p e s m below meth c hx hb hml hown hg hr hlocks hin hP hK hN A hA hD hS ls hl
  have hown : s.vm.findClass rn_Meaning = some m.cls := hown
  have hl : lv_has ls 1 [(0, .ref h1)] := hl
  obtain ⟨H, hH⟩ : ∃ z, z = s.heap := ⟨_, rfl⟩
  rw [← hH] at hP
  have hS : va_S A s.heap H [] := by rw [hH]; exact va_S.rf
  suffices kk : W p l e ({ frames := 1, cells := 0, slots := 0, locals := 20 }) s m [.ref h1].toArray below meth c H [] 0 0 (MQ below (xk_Qv (dC, dI) xcl (xt cI cB cJ cZ cQ) (fun u : Unit => True) (fun u : Unit => [(h1, .inr (5, xo_Meaning f1)), (h0, .inr (4, xo_Checker f0)), (h2, .inr (2, xo_Tokens f2))]) A) [.ref h1].toArray s 0 0 A) (F0 m 0 ls []) by rw [hH] at kk; exact kk
  refine lv_aload_n hx hb dn_Meaning_portsEnd_0 rfl (lv_at hl 0 rfl) ?_
  refine va_get (D := (dC, dI)) (ci := 5) (v := .ref h0) (C := rn_Meaning) (T := fn_Meaning) (N := 17) hx hb hg in_Meaning hown hK hP 1 rfl rfl 0 (by decide) (hg _ wn_1_184) (fun _ h9 => h9) (congrArg some hf1_0) dn_Meaning_portsEnd_1 ?_
  have hPc := hP.sub (ws' := [(h0, .inr (4, xo_Checker f0)), (h2, .inr (2, xo_Tokens f2))]) [0, 2] rfl
  have hDc := hD.sub (ws' := [(h0, .inr (4, xo_Checker f0)), (h2, .inr (2, xo_Tokens f2))]) [0, 2] (by decide) rfl
  refine xk_calli (wr := [(h1, .inr (5, xo_Meaning f1))]) (xk_runV (ar := 0) (As := []) (rest := []) (ci := 4) (q0 := 0) ⟨hx, hb, hml, hown, hg⟩ hK hN (ct_Checker_isOff_0 l dC dI cI cB cJ cZ cQ H.size h0 h2 f0 f2 hf0_0 hf0_13 hf2_6) hPc hDc rfl rfl wn_4_193 wn_4_194 wn_4_195 wn_1_4 wn_4_196 rfl rfl (by decide +kernel) ⟨Nat.le_of_ble_eq_true rfl, Nat.le_of_ble_eq_true rfl⟩ rfl hl.1 rfl (Nat.le_of_ble_eq_true rfl) dn_Meaning_portsEnd_4 ⟨Nat.le_of_ble_eq_true rfl, Nat.le_of_ble_eq_true rfl⟩) hP hD hS hA [0, 2] [1] rfl rfl (by decide) (by decide) (fun r_1 _ H locs hw hP hD hS => ?_)
  have hP : va_P (dC, dI) xcl [(h1, .inr (5, xo_Meaning f1)), (h0, .inr (4, xo_Checker f0)), (h2, .inr (2, xo_Tokens f2))] H := hP
  have hD : va_D A [(h1, .inr (5, xo_Meaning f1)), (h0, .inr (4, xo_Checker f0)), (h2, .inr (2, xo_Tokens f2))] := hD
  have hw : r_1 = 1 := hw
  subst hw
  refine lv_if_eq (tgt := 11) hx hb dn_Meaning_portsEnd_7 (by decide) (fun h9 => absurd h9 (by decide)) (fun _ => ?_)
  have hP9 := hP.sub (ws' := [(h1, .inr (5, xo_Meaning f1)), (h0, .inr (4, xo_Checker f0)), (h2, .inr (2, xo_Tokens f2))]) [0, 1, 2] rfl
  have hD9 := hD.sub (ws' := [(h1, .inr (5, xo_Meaning f1)), (h0, .inr (4, xo_Checker f0)), (h2, .inr (2, xo_Tokens f2))]) [0, 1, 2] (by decide) rfl
  exact xk_vret (w1 := fun u : Unit => [(h1, .inr (5, xo_Meaning f1)), (h0, .inr (4, xo_Checker f0)), (h2, .inr (2, xo_Tokens f2))]) () hx hb hr hlocks hK hS dn_Meaning_portsEnd_10 hP9 hD9 trivial (Nat.le_refl _) (Nat.le_refl _)
set_option maxHeartbeats 4000000 in
set_option maxRecDepth 100000 in
theorem ct_Grammar_moduleHead_0 (l : Launch) (dC : Nat → ClassId) (dI : Nat → Nat → Nat) (cI cB cJ cZ cQ : ClassId) (sz : Nat) (h0 : Nat) (h1 : Nat) (h2 : Nat) (h3 : Nat) (f0 : Nat → Value) (f1 : Nat → Value) (f2 : Nat → Value) (f3 : Nat → Value) (hf0_0 : f0 0 = .ref h1) (hf0_2 : f0 2 = .ref h3) (hf1_1 : f1 1 = .int 1) (hf1_3 : f1 3 = .int 0) (hf1_4 : f1 4 = .int 0) (hf1_6 : f1 6 = .int 0) (hf1_8 : f1 8 = .int 0) (hf2_0 : f2 0 = .ref h1) (hf2_13 : f2 13 = .int 0) (hf3_0 : f3 0 = .ref h2) : Met l yn_Grammar_moduleHead (xw yn_Grammar_moduleHead bn_Grammar_moduleHead 2 none) ({ frames := 4, cells := 0, slots := 0, locals := 86 }) (xk_P (dC, dI) xcl (xt cI cB cJ cZ cQ) [.ref h0] sz [(h0, .inr (6, xo_Grammar f0)), (h1, .inr (2, xo_Tokens f1)), (h2, .inr (4, xo_Checker f2)), (h3, .inr (5, xo_Meaning f3))]) (xk_Qv (dC, dI) xcl (xt cI cB cJ cZ cQ) (fun u : Unit => True) (fun u : Unit => [(h0, .inr (6, xo_Grammar (va_up f0 3 (.int 2)))), (h3, .inr (5, xo_Meaning f3)), (h2, .inr (4, xo_Checker f2)), (h1, .inr (2, xo_Tokens (((va_up (((((va_up (va_up (va_up f1 6 (.int 2)) 7 (.int 0)) 3 (.int (-1))))))) 8 (.int (-1)))))))]) (va_A [(h0, .inr (6, xo_Grammar f0)), (h1, .inr (2, xo_Tokens f1)), (h2, .inr (4, xo_Checker f2)), (h3, .inr (5, xo_Meaning f3))] sz)) 0 0 (va_A [(h0, .inr (6, xo_Grammar f0)), (h1, .inr (2, xo_Tokens f1)), (h2, .inr (4, xo_Checker f2)), (h3, .inr (5, xo_Meaning f3))] sz) := by
  refine xk_of (QA := xk_Qv (dC, dI) xcl (xt cI cB cJ cZ cQ) (fun u : Unit => True) (fun u : Unit => [(h0, .inr (6, xo_Grammar (va_up f0 3 (.int 2)))), (h3, .inr (5, xo_Meaning f3)), (h2, .inr (4, xo_Checker f2)), (h1, .inr (2, xo_Tokens (((va_up (((((va_up (va_up (va_up f1 6 (.int 2)) 7 (.int 0)) 3 (.int (-1))))))) 8 (.int (-1)))))))])) (by decide) (Nat.le_of_ble_eq_true rfl) ?_
  intro p e s m below meth c hx hb hml hown hg hr hlocks hin hP hK hN A hA hD hS ls hl
  have hown : s.vm.findClass rn_Grammar = some m.cls := hown
  have hl : lv_has ls 2 [(0, .ref h0)] := hl
  obtain ⟨H, hH⟩ : ∃ z, z = s.heap := ⟨_, rfl⟩
  rw [← hH] at hP
  have hS : va_S A s.heap H [] := by rw [hH]; exact va_S.rf
  suffices kk : W p l e ({ frames := 4, cells := 0, slots := 0, locals := 86 }) s m [.ref h0].toArray below meth c H [] 0 0 (MQ below (xk_Qv (dC, dI) xcl (xt cI cB cJ cZ cQ) (fun u : Unit => True) (fun u : Unit => [(h0, .inr (6, xo_Grammar (va_up f0 3 (.int 2)))), (h3, .inr (5, xo_Meaning f3)), (h2, .inr (4, xo_Checker f2)), (h1, .inr (2, xo_Tokens (((va_up (((((va_up (va_up (va_up f1 6 (.int 2)) 7 (.int 0)) 3 (.int (-1))))))) 8 (.int (-1)))))))]) A) [.ref h0].toArray s 0 0 A) (F0 m 0 ls []) by rw [hH] at kk; exact kk
  refine lv_aload_n hx hb dn_Grammar_moduleHead_0 rfl (lv_at hl 0 rfl) ?_
  refine va_get (D := (dC, dI)) (ci := 6) (v := .ref h1) (C := rn_Grammar) (T := fn_Grammar) (N := 15) hx hb hg in_Grammar hown hK hP 0 rfl rfl 0 (by decide) (hg _ wn_2_0) (fun _ h9 => h9) (congrArg some hf0_0) dn_Grammar_moduleHead_1 ?_
  refine lv_sipush (v := 128) hx hb dn_Grammar_moduleHead_4 (by decide) ?_
  have hPc := hP.sub (ws' := [(h1, .inr (2, xo_Tokens f1))]) [1] rfl
  have hDc := hD.sub (ws' := [(h1, .inr (2, xo_Tokens f1))]) [1] (by decide) rfl
  refine xk_callv (wr := [(h0, .inr (6, xo_Grammar f0)), (h2, .inr (4, xo_Checker f2)), (h3, .inr (5, xo_Meaning f3))]) (xk_runV (ar := 1) (As := [.int 128]) (rest := []) (ci := 2) (q0 := 0) ⟨hx, hb, hml, hown, hg⟩ hK hN (ct_Tokens_need_0 l dC dI cI cB cJ cZ cQ H.size h1 f1 hf1_3 hf1_4 hf1_6) hPc hDc rfl rfl wn_4_173 wn_4_174 wn_4_175 wn_1_2 wn_4_176 rfl rfl (by decide +kernel) ⟨Nat.le_of_ble_eq_true rfl, Nat.le_of_ble_eq_true rfl⟩ rfl hl.1 rfl (Nat.le_of_ble_eq_true rfl) dn_Grammar_moduleHead_7 ⟨Nat.le_of_ble_eq_true rfl, Nat.le_of_ble_eq_true rfl⟩) hP hD hS hA [1] [0, 2, 3] rfl rfl (by decide) (by decide) (fun _ H locs hw hP hD hS => ?_)
  have hP : va_P (dC, dI) xcl [(h0, .inr (6, xo_Grammar f0)), (h2, .inr (4, xo_Checker f2)), (h3, .inr (5, xo_Meaning f3)), (h1, .inr (2, xo_Tokens (va_up (va_up (va_up f1 6 (.int 2)) 7 (.int 0)) 3 (.int (-1)))))] H := hP
  have hD : va_D A [(h0, .inr (6, xo_Grammar f0)), (h2, .inr (4, xo_Checker f2)), (h3, .inr (5, xo_Meaning f3)), (h1, .inr (2, xo_Tokens (va_up (va_up (va_up f1 6 (.int 2)) 7 (.int 0)) 3 (.int (-1)))))] := hD
  refine lv_aload_n hx hb dn_Grammar_moduleHead_10 rfl (lv_at hl 0 rfl) ?_
  refine va_get (D := (dC, dI)) (ci := 6) (v := .ref h1) (C := rn_Grammar) (T := fn_Grammar) (N := 15) hx hb hg in_Grammar hown hK hP 0 rfl rfl 0 (by decide) (hg _ wn_2_0) (fun _ h9 => h9) (congrArg some hf0_0) dn_Grammar_moduleHead_11 ?_
  refine lv_iconst (v := 2) hx hb dn_Grammar_moduleHead_14 (by decide) ?_
  have hPc := hP.sub (ws' := [(h1, .inr (2, xo_Tokens (va_up (va_up (va_up f1 6 (.int 2)) 7 (.int 0)) 3 (.int (-1)))))]) [3] rfl
  have hDc := hD.sub (ws' := [(h1, .inr (2, xo_Tokens (va_up (va_up (va_up f1 6 (.int 2)) 7 (.int 0)) 3 (.int (-1)))))]) [3] (by decide) rfl
  refine xk_calli (wr := [(h0, .inr (6, xo_Grammar f0)), (h2, .inr (4, xo_Checker f2)), (h3, .inr (5, xo_Meaning f3))]) (xk_runV (ar := 1) (As := [.int 2]) (rest := []) (ci := 2) (q0 := 0) ⟨hx, hb, hml, hown, hg⟩ hK hN (ct_Tokens_due_0 l dC dI cI cB cJ cZ cQ H.size h1 (va_up (va_up (va_up f1 6 (.int 2)) 7 (.int 0)) 3 (.int (-1))) (show (va_up (va_up (va_up f1 6 (.int 2)) 7 (.int 0)) 3 (.int (-1))) 3 = .int (-1) from rfl) (show (va_up (va_up (va_up f1 6 (.int 2)) 7 (.int 0)) 3 (.int (-1))) 6 = .int 2 from rfl)) hPc hDc rfl rfl wn_4_185 wn_4_186 wn_4_187 wn_1_2 wn_4_188 rfl rfl (by decide +kernel) ⟨Nat.le_of_ble_eq_true rfl, Nat.le_of_ble_eq_true rfl⟩ rfl hl.1 rfl (Nat.le_of_ble_eq_true rfl) dn_Grammar_moduleHead_15 ⟨Nat.le_of_ble_eq_true rfl, Nat.le_of_ble_eq_true rfl⟩) hP hD hS hA [3] [0, 1, 2] rfl rfl (by decide) (by decide) (fun r_1 _ H locs hw hP hD hS => ?_)
  have hP : va_P (dC, dI) xcl [(h0, .inr (6, xo_Grammar f0)), (h2, .inr (4, xo_Checker f2)), (h3, .inr (5, xo_Meaning f3)), (h1, .inr (2, xo_Tokens ((va_up (va_up (va_up f1 6 (.int 2)) 7 (.int 0)) 3 (.int (-1))))))] H := hP
  have hD : va_D A [(h0, .inr (6, xo_Grammar f0)), (h2, .inr (4, xo_Checker f2)), (h3, .inr (5, xo_Meaning f3)), (h1, .inr (2, xo_Tokens ((va_up (va_up (va_up f1 6 (.int 2)) 7 (.int 0)) 3 (.int (-1))))))] := hD
  have hw : r_1 = 0 := hw
  subst hw
  refine lv_if_eq (tgt := 42) hx hb dn_Grammar_moduleHead_18 (by decide) (fun _ => ?_) (fun h9 => absurd h9 (by decide))
  refine lv_aload_n hx hb dn_Grammar_moduleHead_42 rfl (lv_at hl 0 rfl) ?_
  refine va_get (D := (dC, dI)) (ci := 6) (v := .ref h1) (C := rn_Grammar) (T := fn_Grammar) (N := 15) hx hb hg in_Grammar hown hK hP 0 rfl rfl 0 (by decide) (hg _ wn_2_0) (fun _ h9 => h9) (congrArg some hf0_0) dn_Grammar_moduleHead_43 ?_
  have hPc := hP.sub (ws' := [(h1, .inr (2, xo_Tokens ((va_up (va_up (va_up f1 6 (.int 2)) 7 (.int 0)) 3 (.int (-1))))))]) [3] rfl
  have hDc := hD.sub (ws' := [(h1, .inr (2, xo_Tokens ((va_up (va_up (va_up f1 6 (.int 2)) 7 (.int 0)) 3 (.int (-1))))))]) [3] (by decide) rfl
  refine xk_callv (wr := [(h0, .inr (6, xo_Grammar f0)), (h2, .inr (4, xo_Checker f2)), (h3, .inr (5, xo_Meaning f3))]) (xk_runV (ar := 0) (As := []) (rest := []) (ci := 2) (q0 := 0) ⟨hx, hb, hml, hown, hg⟩ hK hN (ct_Tokens_take_1 l dC dI cI cB cJ cZ cQ H.size h1 ((va_up (va_up (va_up f1 6 (.int 2)) 7 (.int 0)) 3 (.int (-1)))) (show ((va_up (va_up (va_up f1 6 (.int 2)) 7 (.int 0)) 3 (.int (-1)))) 6 = .int 2 from rfl)) hPc hDc rfl rfl wn_4_213 wn_4_149 wn_4_150 wn_1_2 wn_4_151 rfl rfl (by decide +kernel) ⟨Nat.le_of_ble_eq_true rfl, Nat.le_of_ble_eq_true rfl⟩ rfl hl.1 rfl (Nat.le_of_ble_eq_true rfl) dn_Grammar_moduleHead_46 ⟨Nat.le_of_ble_eq_true rfl, Nat.le_of_ble_eq_true rfl⟩) hP hD hS hA [3] [0, 1, 2] rfl rfl (by decide) (by decide) (fun _ H locs hw hP hD hS => ?_)
  have hP : va_P (dC, dI) xcl [(h0, .inr (6, xo_Grammar f0)), (h2, .inr (4, xo_Checker f2)), (h3, .inr (5, xo_Meaning f3)), (h1, .inr (2, xo_Tokens (((va_up (va_up (va_up f1 6 (.int 2)) 7 (.int 0)) 3 (.int (-1)))))))] H := hP
  have hD : va_D A [(h0, .inr (6, xo_Grammar f0)), (h2, .inr (4, xo_Checker f2)), (h3, .inr (5, xo_Meaning f3)), (h1, .inr (2, xo_Tokens (((va_up (va_up (va_up f1 6 (.int 2)) 7 (.int 0)) 3 (.int (-1)))))))] := hD
  refine lv_aload_n hx hb dn_Grammar_moduleHead_49 rfl (lv_at hl 0 rfl) ?_
  refine va_get (D := (dC, dI)) (ci := 6) (v := .ref h1) (C := rn_Grammar) (T := fn_Grammar) (N := 15) hx hb hg in_Grammar hown hK hP 0 rfl rfl 0 (by decide) (hg _ wn_2_0) (fun _ h9 => h9) (congrArg some hf0_0) dn_Grammar_moduleHead_50 ?_
  refine lv_bipush (v := 40) hx hb dn_Grammar_moduleHead_53 (by decide) ?_
  have hPc := hP.sub (ws' := [(h1, .inr (2, xo_Tokens (((va_up (va_up (va_up f1 6 (.int 2)) 7 (.int 0)) 3 (.int (-1)))))))]) [3] rfl
  have hDc := hD.sub (ws' := [(h1, .inr (2, xo_Tokens (((va_up (va_up (va_up f1 6 (.int 2)) 7 (.int 0)) 3 (.int (-1)))))))]) [3] (by decide) rfl
  refine xk_callv (wr := [(h0, .inr (6, xo_Grammar f0)), (h2, .inr (4, xo_Checker f2)), (h3, .inr (5, xo_Meaning f3))]) (xk_runV (ar := 1) (As := [.int 40]) (rest := []) (ci := 2) (q0 := 0) ⟨hx, hb, hml, hown, hg⟩ hK hN (ct_Tokens_open_0 l dC dI cI cB cJ cZ cQ H.size h1 (((va_up (va_up (va_up f1 6 (.int 2)) 7 (.int 0)) 3 (.int (-1))))) (show (((va_up (va_up (va_up f1 6 (.int 2)) 7 (.int 0)) 3 (.int (-1))))) 3 = .int (-1) from rfl) (show (((va_up (va_up (va_up f1 6 (.int 2)) 7 (.int 0)) 3 (.int (-1))))) 6 = .int 2 from rfl)) hPc hDc rfl rfl wn_4_214 wn_4_215 wn_4_216 wn_1_2 wn_4_217 rfl rfl (by decide +kernel) ⟨Nat.le_of_ble_eq_true rfl, Nat.le_of_ble_eq_true rfl⟩ rfl hl.1 rfl (Nat.le_of_ble_eq_true rfl) dn_Grammar_moduleHead_55 ⟨Nat.le_of_ble_eq_true rfl, Nat.le_of_ble_eq_true rfl⟩) hP hD hS hA [3] [0, 1, 2] rfl rfl (by decide) (by decide) (fun _ H locs hw hP hD hS => ?_)
  have hP : va_P (dC, dI) xcl [(h0, .inr (6, xo_Grammar f0)), (h2, .inr (4, xo_Checker f2)), (h3, .inr (5, xo_Meaning f3)), (h1, .inr (2, xo_Tokens ((((va_up (va_up (va_up f1 6 (.int 2)) 7 (.int 0)) 3 (.int (-1))))))))] H := hP
  have hD : va_D A [(h0, .inr (6, xo_Grammar f0)), (h2, .inr (4, xo_Checker f2)), (h3, .inr (5, xo_Meaning f3)), (h1, .inr (2, xo_Tokens ((((va_up (va_up (va_up f1 6 (.int 2)) 7 (.int 0)) 3 (.int (-1))))))))] := hD
  refine lv_aload_n hx hb dn_Grammar_moduleHead_58 rfl (lv_at hl 0 rfl) ?_
  refine va_get (D := (dC, dI)) (ci := 6) (v := .ref h1) (C := rn_Grammar) (T := fn_Grammar) (N := 15) hx hb hg in_Grammar hown hK hP 0 rfl rfl 0 (by decide) (hg _ wn_2_0) (fun _ h9 => h9) (congrArg some hf0_0) dn_Grammar_moduleHead_59 ?_
  refine va_get (D := (dC, dI)) (ci := 2) (v := .int (-1)) (C := rn_Tokens) (T := fn_Tokens) (N := 9) hx hb hg in_Tokens hown hK hP 3 rfl rfl 3 (by decide) (hg _ wn_1_50) (fun _ h9 => h9) rfl dn_Grammar_moduleHead_62 ?_
  refine lv_bipush (v := 41) hx hb dn_Grammar_moduleHead_65 (by decide) ?_
  refine lv_icmp_eq (tgt := 116) hx hb dn_Grammar_moduleHead_67 (by decide) (fun h9 => absurd h9 (by decide)) (fun _ => ?_)
  refine lv_aload_n hx hb dn_Grammar_moduleHead_70 rfl (lv_at hl 0 rfl) ?_
  have hPc := hP.sub (ws' := [(h0, .inr (6, xo_Grammar f0)), (h1, .inr (2, xo_Tokens ((((va_up (va_up (va_up f1 6 (.int 2)) 7 (.int 0)) 3 (.int (-1))))))))]) [0, 3] rfl
  have hDc := hD.sub (ws' := [(h0, .inr (6, xo_Grammar f0)), (h1, .inr (2, xo_Tokens ((((va_up (va_up (va_up f1 6 (.int 2)) 7 (.int 0)) 3 (.int (-1))))))))]) [0, 3] (by decide) rfl
  refine xk_callv (wr := [(h2, .inr (4, xo_Checker f2)), (h3, .inr (5, xo_Meaning f3))]) (xk_runV (ar := 0) (As := []) (rest := []) (ci := 6) (q0 := 0) ⟨hx, hb, hml, hown, hg⟩ hK hN (ct_Grammar_port_0 l dC dI cI cB cJ cZ cQ H.size h0 h1 f0 ((((va_up (va_up (va_up f1 6 (.int 2)) 7 (.int 0)) 3 (.int (-1)))))) hf0_0 (show ((((va_up (va_up (va_up f1 6 (.int 2)) 7 (.int 0)) 3 (.int (-1)))))) 3 = .int (-1) from rfl) (show ((((va_up (va_up (va_up f1 6 (.int 2)) 7 (.int 0)) 3 (.int (-1)))))) 6 = .int 2 from rfl)) hPc hDc rfl rfl wn_4_218 wn_4_220 sn_Grammar_port wn_1_5 wn_4_221 rfl rfl (by decide +kernel) ⟨Nat.le_of_ble_eq_true rfl, Nat.le_of_ble_eq_true rfl⟩ rfl hl.1 rfl (Nat.le_of_ble_eq_true rfl) dn_Grammar_moduleHead_71 ⟨Nat.le_of_ble_eq_true rfl, Nat.le_of_ble_eq_true rfl⟩) hP hD hS hA [0, 3] [1, 2] rfl rfl (by decide) (by decide) (fun _ H locs hw hP hD hS => ?_)
  have hP : va_P (dC, dI) xcl [(h2, .inr (4, xo_Checker f2)), (h3, .inr (5, xo_Meaning f3)), (h0, .inr (6, xo_Grammar f0)), (h1, .inr (2, xo_Tokens (((((va_up (va_up (va_up f1 6 (.int 2)) 7 (.int 0)) 3 (.int (-1)))))))))] H := hP
  have hD : va_D A [(h2, .inr (4, xo_Checker f2)), (h3, .inr (5, xo_Meaning f3)), (h0, .inr (6, xo_Grammar f0)), (h1, .inr (2, xo_Tokens (((((va_up (va_up (va_up f1 6 (.int 2)) 7 (.int 0)) 3 (.int (-1)))))))))] := hD
  refine lv_iconst (v := 0) hx hb dn_Grammar_moduleHead_74 (by decide) ?_
  refine lv_istore_n (lv' := [(1, .int 0), (0, .ref h0)]) hx hb dn_Grammar_moduleHead_75 rfl hl (by decide) rfl (fun ls hl => ?_)
  refine lv_iload_n hx hb dn_Grammar_moduleHead_76 rfl (lv_at hl 0 rfl) ?_
  refine lv_aload_n hx hb dn_Grammar_moduleHead_77 rfl (lv_at hl 1 rfl) ?_
  refine va_get (D := (dC, dI)) (ci := 6) (v := .ref h1) (C := rn_Grammar) (T := fn_Grammar) (N := 15) hx hb hg in_Grammar hown hK hP 2 rfl rfl 0 (by decide) (hg _ wn_2_0) (fun _ h9 => h9) (congrArg some hf0_0) dn_Grammar_moduleHead_78 ?_
  refine va_get (D := (dC, dI)) (ci := 2) (v := .int 1) (C := rn_Tokens) (T := fn_Tokens) (N := 9) hx hb hg in_Tokens hown hK hP 3 rfl rfl 1 (by decide) (hg _ wn_1_47) (fun _ h9 => h9) (congrArg some hf1_1) dn_Grammar_moduleHead_81 ?_
  refine lv_icmp_ge (tgt := 116) hx hb dn_Grammar_moduleHead_84 (by decide) (fun h9 => absurd h9 (by decide)) (fun _ => ?_)
  refine lv_aload_n hx hb dn_Grammar_moduleHead_87 rfl (lv_at hl 1 rfl) ?_
  refine va_get (D := (dC, dI)) (ci := 6) (v := .ref h1) (C := rn_Grammar) (T := fn_Grammar) (N := 15) hx hb hg in_Grammar hown hK hP 2 rfl rfl 0 (by decide) (hg _ wn_2_0) (fun _ h9 => h9) (congrArg some hf0_0) dn_Grammar_moduleHead_88 ?_
  refine va_get (D := (dC, dI)) (ci := 2) (v := .int (-1)) (C := rn_Tokens) (T := fn_Tokens) (N := 9) hx hb hg in_Tokens hown hK hP 3 rfl rfl 3 (by decide) (hg _ wn_1_50) (fun _ h9 => h9) rfl dn_Grammar_moduleHead_91 ?_
  refine lv_bipush (v := 44) hx hb dn_Grammar_moduleHead_94 (by decide) ?_
  refine lv_icmp_ne (tgt := 116) hx hb dn_Grammar_moduleHead_96 (by decide) (fun _ => ?_) (fun h9 => absurd h9 (by decide))
  refine lv_aload_n hx hb dn_Grammar_moduleHead_116 rfl (lv_at hl 1 rfl) ?_
  refine va_get (D := (dC, dI)) (ci := 6) (v := .ref h1) (C := rn_Grammar) (T := fn_Grammar) (N := 15) hx hb hg in_Grammar hown hK hP 2 rfl rfl 0 (by decide) (hg _ wn_2_0) (fun _ h9 => h9) (congrArg some hf0_0) dn_Grammar_moduleHead_117 ?_
  refine lv_bipush (v := 41) hx hb dn_Grammar_moduleHead_120 (by decide) ?_
  have hPc := hP.sub (ws' := [(h1, .inr (2, xo_Tokens (((((va_up (va_up (va_up f1 6 (.int 2)) 7 (.int 0)) 3 (.int (-1)))))))))]) [3] rfl
  have hDc := hD.sub (ws' := [(h1, .inr (2, xo_Tokens (((((va_up (va_up (va_up f1 6 (.int 2)) 7 (.int 0)) 3 (.int (-1)))))))))]) [3] (by decide) rfl
  refine xk_callv (wr := [(h2, .inr (4, xo_Checker f2)), (h3, .inr (5, xo_Meaning f3)), (h0, .inr (6, xo_Grammar f0))]) (xk_runV (ar := 1) (As := [.int 41]) (rest := []) (ci := 2) (q0 := 0) ⟨hx, hb, hml, hown, hg⟩ hK hN (ct_Tokens_shut_0 l dC dI cI cB cJ cZ cQ H.size h1 (((((va_up (va_up (va_up f1 6 (.int 2)) 7 (.int 0)) 3 (.int (-1))))))) (show (((((va_up (va_up (va_up f1 6 (.int 2)) 7 (.int 0)) 3 (.int (-1))))))) 3 = .int (-1) from rfl) (show (((((va_up (va_up (va_up f1 6 (.int 2)) 7 (.int 0)) 3 (.int (-1))))))) 6 = .int 2 from rfl) hf1_8) hPc hDc rfl rfl wn_4_226 wn_4_227 wn_4_228 wn_1_2 wn_4_229 rfl rfl (by decide +kernel) ⟨Nat.le_of_ble_eq_true rfl, Nat.le_of_ble_eq_true rfl⟩ rfl hl.1 rfl (Nat.le_of_ble_eq_true rfl) dn_Grammar_moduleHead_122 ⟨Nat.le_of_ble_eq_true rfl, Nat.le_of_ble_eq_true rfl⟩) hP hD hS hA [3] [0, 1, 2] rfl rfl (by decide) (by decide) (fun _ H locs hw hP hD hS => ?_)
  have hP : va_P (dC, dI) xcl [(h2, .inr (4, xo_Checker f2)), (h3, .inr (5, xo_Meaning f3)), (h0, .inr (6, xo_Grammar f0)), (h1, .inr (2, xo_Tokens (va_up (((((va_up (va_up (va_up f1 6 (.int 2)) 7 (.int 0)) 3 (.int (-1))))))) 8 (.int (-1)))))] H := hP
  have hD : va_D A [(h2, .inr (4, xo_Checker f2)), (h3, .inr (5, xo_Meaning f3)), (h0, .inr (6, xo_Grammar f0)), (h1, .inr (2, xo_Tokens (va_up (((((va_up (va_up (va_up f1 6 (.int 2)) 7 (.int 0)) 3 (.int (-1))))))) 8 (.int (-1)))))] := hD
  refine lv_aload_n hx hb dn_Grammar_moduleHead_125 rfl (lv_at hl 1 rfl) ?_
  refine va_get (D := (dC, dI)) (ci := 6) (v := .ref h1) (C := rn_Grammar) (T := fn_Grammar) (N := 15) hx hb hg in_Grammar hown hK hP 2 rfl rfl 0 (by decide) (hg _ wn_2_0) (fun _ h9 => h9) (congrArg some hf0_0) dn_Grammar_moduleHead_126 ?_
  refine lv_bipush (v := 59) hx hb dn_Grammar_moduleHead_129 (by decide) ?_
  have hPc := hP.sub (ws' := [(h1, .inr (2, xo_Tokens (va_up (((((va_up (va_up (va_up f1 6 (.int 2)) 7 (.int 0)) 3 (.int (-1))))))) 8 (.int (-1)))))]) [3] rfl
  have hDc := hD.sub (ws' := [(h1, .inr (2, xo_Tokens (va_up (((((va_up (va_up (va_up f1 6 (.int 2)) 7 (.int 0)) 3 (.int (-1))))))) 8 (.int (-1)))))]) [3] (by decide) rfl
  refine xk_callv (wr := [(h2, .inr (4, xo_Checker f2)), (h3, .inr (5, xo_Meaning f3)), (h0, .inr (6, xo_Grammar f0))]) (xk_runV (ar := 1) (As := [.int 59]) (rest := []) (ci := 2) (q0 := 0) ⟨hx, hb, hml, hown, hg⟩ hK hN (ct_Tokens_need_2 l dC dI cI cB cJ cZ cQ H.size h1 (va_up (((((va_up (va_up (va_up f1 6 (.int 2)) 7 (.int 0)) 3 (.int (-1))))))) 8 (.int (-1))) (show (va_up (((((va_up (va_up (va_up f1 6 (.int 2)) 7 (.int 0)) 3 (.int (-1))))))) 8 (.int (-1))) 3 = .int (-1) from rfl) (show (va_up (((((va_up (va_up (va_up f1 6 (.int 2)) 7 (.int 0)) 3 (.int (-1))))))) 8 (.int (-1))) 6 = .int 2 from rfl)) hPc hDc rfl rfl wn_4_173 wn_4_174 wn_4_175 wn_1_2 wn_4_176 rfl rfl (by decide +kernel) ⟨Nat.le_of_ble_eq_true rfl, Nat.le_of_ble_eq_true rfl⟩ rfl hl.1 rfl (Nat.le_of_ble_eq_true rfl) dn_Grammar_moduleHead_131 ⟨Nat.le_of_ble_eq_true rfl, Nat.le_of_ble_eq_true rfl⟩) hP hD hS hA [3] [0, 1, 2] rfl rfl (by decide) (by decide) (fun _ H locs hw hP hD hS => ?_)
  have hP : va_P (dC, dI) xcl [(h2, .inr (4, xo_Checker f2)), (h3, .inr (5, xo_Meaning f3)), (h0, .inr (6, xo_Grammar f0)), (h1, .inr (2, xo_Tokens ((va_up (((((va_up (va_up (va_up f1 6 (.int 2)) 7 (.int 0)) 3 (.int (-1))))))) 8 (.int (-1))))))] H := hP
  have hD : va_D A [(h2, .inr (4, xo_Checker f2)), (h3, .inr (5, xo_Meaning f3)), (h0, .inr (6, xo_Grammar f0)), (h1, .inr (2, xo_Tokens ((va_up (((((va_up (va_up (va_up f1 6 (.int 2)) 7 (.int 0)) 3 (.int (-1))))))) 8 (.int (-1))))))] := hD
  refine lv_aload_n hx hb dn_Grammar_moduleHead_134 rfl (lv_at hl 1 rfl) ?_
  refine va_get (D := (dC, dI)) (ci := 6) (v := .ref h3) (C := rn_Grammar) (T := fn_Grammar) (N := 15) hx hb hg in_Grammar hown hK hP 2 rfl rfl 2 (by decide) (hg _ wn_2_2) (fun _ h9 => h9) (congrArg some hf0_2) dn_Grammar_moduleHead_135 ?_
  have hPc := hP.sub (ws' := [(h2, .inr (4, xo_Checker f2)), (h3, .inr (5, xo_Meaning f3)), (h1, .inr (2, xo_Tokens ((va_up (((((va_up (va_up (va_up f1 6 (.int 2)) 7 (.int 0)) 3 (.int (-1))))))) 8 (.int (-1))))))]) [0, 1, 3] rfl
  have hDc := hD.sub (ws' := [(h2, .inr (4, xo_Checker f2)), (h3, .inr (5, xo_Meaning f3)), (h1, .inr (2, xo_Tokens ((va_up (((((va_up (va_up (va_up f1 6 (.int 2)) 7 (.int 0)) 3 (.int (-1))))))) 8 (.int (-1))))))]) [0, 1, 3] (by decide) rfl
  refine xk_callv (wr := [(h0, .inr (6, xo_Grammar f0))]) (xk_runV (ar := 0) (As := []) (rest := []) (ci := 5) (q0 := 1) ⟨hx, hb, hml, hown, hg⟩ hK hN (ct_Meaning_portsEnd_0 l dC dI cI cB cJ cZ cQ H.size h2 h3 h1 f2 f3 ((va_up (((((va_up (va_up (va_up f1 6 (.int 2)) 7 (.int 0)) 3 (.int (-1))))))) 8 (.int (-1)))) hf2_0 hf2_13 hf3_0 (show ((va_up (((((va_up (va_up (va_up f1 6 (.int 2)) 7 (.int 0)) 3 (.int (-1))))))) 8 (.int (-1)))) 6 = .int 2 from rfl)) hPc hDc rfl rfl wn_5_22 wn_5_23 wn_5_24 wn_1_6 wn_5_25 rfl rfl (by decide +kernel) ⟨Nat.le_of_ble_eq_true rfl, Nat.le_of_ble_eq_true rfl⟩ rfl hl.1 rfl (Nat.le_of_ble_eq_true rfl) dn_Grammar_moduleHead_138 ⟨Nat.le_of_ble_eq_true rfl, Nat.le_of_ble_eq_true rfl⟩) hP hD hS hA [0, 1, 3] [2] rfl rfl (by decide) (by decide) (fun _ H locs hw hP hD hS => ?_)
  have hP : va_P (dC, dI) xcl [(h0, .inr (6, xo_Grammar f0)), (h3, .inr (5, xo_Meaning f3)), (h2, .inr (4, xo_Checker f2)), (h1, .inr (2, xo_Tokens (((va_up (((((va_up (va_up (va_up f1 6 (.int 2)) 7 (.int 0)) 3 (.int (-1))))))) 8 (.int (-1)))))))] H := hP
  have hD : va_D A [(h0, .inr (6, xo_Grammar f0)), (h3, .inr (5, xo_Meaning f3)), (h2, .inr (4, xo_Checker f2)), (h1, .inr (2, xo_Tokens (((va_up (((((va_up (va_up (va_up f1 6 (.int 2)) 7 (.int 0)) 3 (.int (-1))))))) 8 (.int (-1)))))))] := hD
  refine lv_aload_n hx hb dn_Grammar_moduleHead_141 rfl (lv_at hl 1 rfl) ?_
  refine lv_iconst (v := 2) hx hb dn_Grammar_moduleHead_142 (by decide) ?_
  refine va_put (D := (dC, dI)) (ci := 6) (v := .int 2) (ty := .int) (C := rn_Grammar) (T := fn_Grammar) (N := 15) hx hb hg in_Grammar tn_Grammar tk_Grammar nn_Grammar hown hK hP hD hS 0 rfl rfl 3 (by decide) (hg _ wn_2_3) (fun _ h9 => h9) rfl (tk_Grammar 3 (by decide)) rfl rfl (Nat.le_of_ble_eq_true rfl) dn_Grammar_moduleHead_143 (fun H locs hP hD hS => ?_)
  have hP : va_P (dC, dI) xcl [(h0, .inr (6, xo_Grammar (va_up f0 3 (.int 2)))), (h3, .inr (5, xo_Meaning f3)), (h2, .inr (4, xo_Checker f2)), (h1, .inr (2, xo_Tokens (((va_up (((((va_up (va_up (va_up f1 6 (.int 2)) 7 (.int 0)) 3 (.int (-1))))))) 8 (.int (-1)))))))] H := hP
  have hD : va_D A [(h0, .inr (6, xo_Grammar (va_up f0 3 (.int 2)))), (h3, .inr (5, xo_Meaning f3)), (h2, .inr (4, xo_Checker f2)), (h1, .inr (2, xo_Tokens (((va_up (((((va_up (va_up (va_up f1 6 (.int 2)) 7 (.int 0)) 3 (.int (-1))))))) 8 (.int (-1)))))))] := hD
  have hP9 := hP.sub (ws' := [(h0, .inr (6, xo_Grammar (va_up f0 3 (.int 2)))), (h3, .inr (5, xo_Meaning f3)), (h2, .inr (4, xo_Checker f2)), (h1, .inr (2, xo_Tokens (((va_up (((((va_up (va_up (va_up f1 6 (.int 2)) 7 (.int 0)) 3 (.int (-1))))))) 8 (.int (-1)))))))]) [0, 1, 2, 3] rfl
  have hD9 := hD.sub (ws' := [(h0, .inr (6, xo_Grammar (va_up f0 3 (.int 2)))), (h3, .inr (5, xo_Meaning f3)), (h2, .inr (4, xo_Checker f2)), (h1, .inr (2, xo_Tokens (((va_up (((((va_up (va_up (va_up f1 6 (.int 2)) 7 (.int 0)) 3 (.int (-1))))))) 8 (.int (-1)))))))]) [0, 1, 2, 3] (by decide) rfl
  exact xk_vret (w1 := fun u : Unit => [(h0, .inr (6, xo_Grammar (va_up f0 3 (.int 2)))), (h3, .inr (5, xo_Meaning f3)), (h2, .inr (4, xo_Checker f2)), (h1, .inr (2, xo_Tokens (((va_up (((((va_up (va_up (va_up f1 6 (.int 2)) 7 (.int 0)) 3 (.int (-1))))))) 8 (.int (-1)))))))]) () hx hb hr hlocks hK hS dn_Grammar_moduleHead_146 hP9 hD9 trivial (Nat.le_refl _) (Nat.le_refl _)
set_option maxHeartbeats 4000000 in
set_option maxRecDepth 100000 in
theorem ct_Grammar_parse_0 (l : Launch) (dC : Nat → ClassId) (dI : Nat → Nat → Nat) (cI cB cJ cZ cQ : ClassId) (sz : Nat) (h0 : Nat) (h1 : Nat) (h2 : Nat) (h3 : Nat) (h4 : Nat) (h5 : Nat) (f0 : Nat → Value) (f1 : Nat → Value) (f2 : Nat → Value) (f3 : Nat → Value) (h6 : Nat) (h7 : Nat) (g0 : Nat → Int64) (f4 : Nat → Value) (hf0_0 : f0 0 = .ref h5) (hf1_0 : f1 0 = .ref h0) (hf2_0 : f2 0 = .ref h5) (hf2_1 : f2 1 = .ref h0) (hf2_2 : f2 2 = .ref h1) (hf3_0 : f3 0 = .ref h6) (hf3_1 : f3 1 = .ref h7) (he0_0 : g0 0 = 0) (hf4_0 : f4 0 = .ref h4) (hf4_1 : f4 1 = .int 1) : Met l yn_Grammar_parse (xw yn_Grammar_parse bn_Grammar_parse 5 none) ({ frames := 5, cells := 0, slots := 0, locals := 107 }) (xk_P (dC, dI) xcl (xt cI cB cJ cZ cQ) [.ref h2, .ref h3, .int 0] sz [(h0, .inr (4, xo_Checker f0)), (h1, .inr (5, xo_Meaning f1)), (h2, .inr (6, xo_Grammar f2)), (h3, .inr (10, xo_Design f3)), (h4, .inl (cJ, 65537, .inr (.inl g0))), (h5, .inr (2, xo_Tokens f4))]) (xk_Qv (dC, dI) xcl (xt cI cB cJ cZ cQ) (fun u : Unit => True) (fun u : Unit => [(h4, .inl (cJ, 65537, .inr (.inl g0))), (h3, .inr (10, xo_Design f3)), (h2, .inr (6, xo_Grammar (va_up (va_up (va_up (va_up f2 14 (.int 0)) 10 (.int 0)) 3 (.int 0)) 3 (.int 2)))), (h1, .inr (5, xo_Meaning ((va_up (va_up (va_up (va_up (va_up (va_up f1 1 (.ref h3)) 2 (.ref h6)) 3 (.ref h7)) 4 (.int 1)) 9 (.int 0)) 16 (.int 0))))), (h0, .inr (4, xo_Checker ((va_up (va_up (va_up (va_up (va_up (va_up f0 1 (.ref h6)) 2 (.ref h7)) 3 (.int (-1))) 13 (.int 0)) 14 (.int (-1))) 10 (.int 0))))), (h5, .inr (2, xo_Tokens (((va_up (((((va_up (va_up (va_up (va_up ((va_up (va_up ((va_up (va_up (va_up (va_up (va_up f4 2 (.int (-1))) 8 (.int 0)) 6 (.int 0)) 7 (.int (-1))) 2 (.int 0))) 3 (.int 0)) 4 (.int 0))) 5 (.int (-1))) 6 (.int 2)) 7 (.int 0)) 3 (.int (-1))))))) 8 (.int (-1)))))))]) (va_A [(h0, .inr (4, xo_Checker f0)), (h1, .inr (5, xo_Meaning f1)), (h2, .inr (6, xo_Grammar f2)), (h3, .inr (10, xo_Design f3)), (h4, .inl (cJ, 65537, .inr (.inl g0))), (h5, .inr (2, xo_Tokens f4))] sz)) 0 0 (va_A [(h0, .inr (4, xo_Checker f0)), (h1, .inr (5, xo_Meaning f1)), (h2, .inr (6, xo_Grammar f2)), (h3, .inr (10, xo_Design f3)), (h4, .inl (cJ, 65537, .inr (.inl g0))), (h5, .inr (2, xo_Tokens f4))] sz) := by
  refine xk_of (QA := xk_Qv (dC, dI) xcl (xt cI cB cJ cZ cQ) (fun u : Unit => True) (fun u : Unit => [(h4, .inl (cJ, 65537, .inr (.inl g0))), (h3, .inr (10, xo_Design f3)), (h2, .inr (6, xo_Grammar (va_up (va_up (va_up (va_up f2 14 (.int 0)) 10 (.int 0)) 3 (.int 0)) 3 (.int 2)))), (h1, .inr (5, xo_Meaning ((va_up (va_up (va_up (va_up (va_up (va_up f1 1 (.ref h3)) 2 (.ref h6)) 3 (.ref h7)) 4 (.int 1)) 9 (.int 0)) 16 (.int 0))))), (h0, .inr (4, xo_Checker ((va_up (va_up (va_up (va_up (va_up (va_up f0 1 (.ref h6)) 2 (.ref h7)) 3 (.int (-1))) 13 (.int 0)) 14 (.int (-1))) 10 (.int 0))))), (h5, .inr (2, xo_Tokens (((va_up (((((va_up (va_up (va_up (va_up ((va_up (va_up ((va_up (va_up (va_up (va_up (va_up f4 2 (.int (-1))) 8 (.int 0)) 6 (.int 0)) 7 (.int (-1))) 2 (.int 0))) 3 (.int 0)) 4 (.int 0))) 5 (.int (-1))) 6 (.int 2)) 7 (.int 0)) 3 (.int (-1))))))) 8 (.int (-1)))))))])) (by decide) (Nat.le_of_ble_eq_true rfl) ?_
  intro p e s m below meth c hx hb hml hown hg hr hlocks hin hP hK hN A hA hD hS ls hl
  have hown : s.vm.findClass rn_Grammar = some m.cls := hown
  have hl : lv_has ls 5 [(0, .ref h2), (1, .ref h3), (2, .int 0)] := hl
  obtain ⟨H, hH⟩ : ∃ z, z = s.heap := ⟨_, rfl⟩
  rw [← hH] at hP
  have hS : va_S A s.heap H [] := by rw [hH]; exact va_S.rf
  suffices kk : W p l e ({ frames := 5, cells := 0, slots := 0, locals := 107 }) s m [.ref h2, .ref h3, .int 0].toArray below meth c H [] 0 0 (MQ below (xk_Qv (dC, dI) xcl (xt cI cB cJ cZ cQ) (fun u : Unit => True) (fun u : Unit => [(h4, .inl (cJ, 65537, .inr (.inl g0))), (h3, .inr (10, xo_Design f3)), (h2, .inr (6, xo_Grammar (va_up (va_up (va_up (va_up f2 14 (.int 0)) 10 (.int 0)) 3 (.int 0)) 3 (.int 2)))), (h1, .inr (5, xo_Meaning ((va_up (va_up (va_up (va_up (va_up (va_up f1 1 (.ref h3)) 2 (.ref h6)) 3 (.ref h7)) 4 (.int 1)) 9 (.int 0)) 16 (.int 0))))), (h0, .inr (4, xo_Checker ((va_up (va_up (va_up (va_up (va_up (va_up f0 1 (.ref h6)) 2 (.ref h7)) 3 (.int (-1))) 13 (.int 0)) 14 (.int (-1))) 10 (.int 0))))), (h5, .inr (2, xo_Tokens (((va_up (((((va_up (va_up (va_up (va_up ((va_up (va_up ((va_up (va_up (va_up (va_up (va_up f4 2 (.int (-1))) 8 (.int 0)) 6 (.int 0)) 7 (.int (-1))) 2 (.int 0))) 3 (.int 0)) 4 (.int 0))) 5 (.int (-1))) 6 (.int 2)) 7 (.int 0)) 3 (.int (-1))))))) 8 (.int (-1)))))))]) A) [.ref h2, .ref h3, .int 0].toArray s 0 0 A) (F0 m 0 ls []) by rw [hH] at kk; exact kk
  refine lv_aload_n hx hb dn_Grammar_parse_0 rfl (lv_at hl 0 rfl) ?_
  refine va_get (D := (dC, dI)) (ci := 6) (v := .ref h5) (C := rn_Grammar) (T := fn_Grammar) (N := 15) hx hb hg in_Grammar hown hK hP 2 rfl rfl 0 (by decide) (hg _ wn_2_0) (fun _ h9 => h9) (congrArg some hf2_0) dn_Grammar_parse_1 ?_
  have hPc := hP.sub (ws' := [(h4, .inl (cJ, 65537, .inr (.inl g0))), (h5, .inr (2, xo_Tokens f4))]) [4, 5] rfl
  have hDc := hD.sub (ws' := [(h4, .inl (cJ, 65537, .inr (.inl g0))), (h5, .inr (2, xo_Tokens f4))]) [4, 5] (by decide) rfl
  refine xk_callv (wr := [(h0, .inr (4, xo_Checker f0)), (h1, .inr (5, xo_Meaning f1)), (h2, .inr (6, xo_Grammar f2)), (h3, .inr (10, xo_Design f3))]) (xk_runV (ar := 0) (As := []) (rest := []) (ci := 2) (q0 := 1) ⟨hx, hb, hml, hown, hg⟩ hK hN (ct_Tokens_start_0 l dC dI cI cB cJ cZ cQ H.size h4 h5 g0 f4 he0_0 hf4_0 hf4_1) hPc hDc rfl rfl wn_4_144 wn_4_145 wn_4_146 wn_1_2 wn_4_147 rfl rfl (by decide +kernel) ⟨Nat.le_of_ble_eq_true rfl, Nat.le_of_ble_eq_true rfl⟩ rfl hl.1 rfl (Nat.le_of_ble_eq_true rfl) dn_Grammar_parse_4 ⟨Nat.le_of_ble_eq_true rfl, Nat.le_of_ble_eq_true rfl⟩) hP hD hS hA [4, 5] [0, 1, 2, 3] rfl rfl (by decide) (by decide) (fun _ H locs hw hP hD hS => ?_)
  have hP : va_P (dC, dI) xcl [(h0, .inr (4, xo_Checker f0)), (h1, .inr (5, xo_Meaning f1)), (h2, .inr (6, xo_Grammar f2)), (h3, .inr (10, xo_Design f3)), (h4, .inl (cJ, 65537, .inr (.inl g0))), (h5, .inr (2, xo_Tokens (va_up ((va_up (va_up ((va_up (va_up (va_up (va_up (va_up f4 2 (.int (-1))) 8 (.int 0)) 6 (.int 0)) 7 (.int (-1))) 2 (.int 0))) 3 (.int 0)) 4 (.int 0))) 5 (.int (-1)))))] H := hP
  have hD : va_D A [(h0, .inr (4, xo_Checker f0)), (h1, .inr (5, xo_Meaning f1)), (h2, .inr (6, xo_Grammar f2)), (h3, .inr (10, xo_Design f3)), (h4, .inl (cJ, 65537, .inr (.inl g0))), (h5, .inr (2, xo_Tokens (va_up ((va_up (va_up ((va_up (va_up (va_up (va_up (va_up f4 2 (.int (-1))) 8 (.int 0)) 6 (.int 0)) 7 (.int (-1))) 2 (.int 0))) 3 (.int 0)) 4 (.int 0))) 5 (.int (-1)))))] := hD
  refine lv_aload_n hx hb dn_Grammar_parse_7 rfl (lv_at hl 0 rfl) ?_
  refine va_get (D := (dC, dI)) (ci := 6) (v := .ref h0) (C := rn_Grammar) (T := fn_Grammar) (N := 15) hx hb hg in_Grammar hown hK hP 2 rfl rfl 1 (by decide) (hg _ wn_2_1) (fun _ h9 => h9) (congrArg some hf2_1) dn_Grammar_parse_8 ?_
  refine lv_aload_n hx hb dn_Grammar_parse_11 rfl (lv_at hl 1 rfl) ?_
  refine lv_iload_n hx hb dn_Grammar_parse_12 rfl (lv_at hl 2 rfl) ?_
  have hPc := hP.sub (ws' := [(h0, .inr (4, xo_Checker f0)), (h3, .inr (10, xo_Design f3))]) [0, 3] rfl
  have hDc := hD.sub (ws' := [(h0, .inr (4, xo_Checker f0)), (h3, .inr (10, xo_Design f3))]) [0, 3] (by decide) rfl
  refine xk_callv (wr := [(h1, .inr (5, xo_Meaning f1)), (h2, .inr (6, xo_Grammar f2)), (h4, .inl (cJ, 65537, .inr (.inl g0))), (h5, .inr (2, xo_Tokens (va_up ((va_up (va_up ((va_up (va_up (va_up (va_up (va_up f4 2 (.int (-1))) 8 (.int 0)) 6 (.int 0)) 7 (.int (-1))) 2 (.int 0))) 3 (.int 0)) 4 (.int 0))) 5 (.int (-1)))))]) (xk_runV (ar := 2) (As := [.ref h3, .int 0]) (rest := []) (ci := 4) (q0 := 0) ⟨hx, hb, hml, hown, hg⟩ hK hN (ct_Checker_start_0 l dC dI cI cB cJ cZ cQ H.size h0 h3 f0 f3 h6 h7 hf3_0 hf3_1) hPc hDc rfl rfl wn_4_161 wn_4_162 wn_4_163 wn_1_4 wn_4_164 rfl rfl (by decide +kernel) ⟨Nat.le_of_ble_eq_true rfl, Nat.le_of_ble_eq_true rfl⟩ rfl hl.1 rfl (Nat.le_of_ble_eq_true rfl) dn_Grammar_parse_13 ⟨Nat.le_of_ble_eq_true rfl, Nat.le_of_ble_eq_true rfl⟩) hP hD hS hA [0, 3] [1, 2, 4, 5] rfl rfl (by decide) (by decide) (fun _ H locs hw hP hD hS => ?_)
  have hP : va_P (dC, dI) xcl [(h1, .inr (5, xo_Meaning f1)), (h2, .inr (6, xo_Grammar f2)), (h4, .inl (cJ, 65537, .inr (.inl g0))), (h5, .inr (2, xo_Tokens (va_up ((va_up (va_up ((va_up (va_up (va_up (va_up (va_up f4 2 (.int (-1))) 8 (.int 0)) 6 (.int 0)) 7 (.int (-1))) 2 (.int 0))) 3 (.int 0)) 4 (.int 0))) 5 (.int (-1))))), (h0, .inr (4, xo_Checker (va_up (va_up (va_up (va_up (va_up (va_up f0 1 (.ref h6)) 2 (.ref h7)) 3 (.int (-1))) 13 (.int 0)) 14 (.int (-1))) 10 (.int 0)))), (h3, .inr (10, xo_Design f3))] H := hP
  have hD : va_D A [(h1, .inr (5, xo_Meaning f1)), (h2, .inr (6, xo_Grammar f2)), (h4, .inl (cJ, 65537, .inr (.inl g0))), (h5, .inr (2, xo_Tokens (va_up ((va_up (va_up ((va_up (va_up (va_up (va_up (va_up f4 2 (.int (-1))) 8 (.int 0)) 6 (.int 0)) 7 (.int (-1))) 2 (.int 0))) 3 (.int 0)) 4 (.int 0))) 5 (.int (-1))))), (h0, .inr (4, xo_Checker (va_up (va_up (va_up (va_up (va_up (va_up f0 1 (.ref h6)) 2 (.ref h7)) 3 (.int (-1))) 13 (.int 0)) 14 (.int (-1))) 10 (.int 0)))), (h3, .inr (10, xo_Design f3))] := hD
  refine lv_aload_n hx hb dn_Grammar_parse_16 rfl (lv_at hl 0 rfl) ?_
  refine va_get (D := (dC, dI)) (ci := 6) (v := .ref h1) (C := rn_Grammar) (T := fn_Grammar) (N := 15) hx hb hg in_Grammar hown hK hP 1 rfl rfl 2 (by decide) (hg _ wn_2_2) (fun _ h9 => h9) (congrArg some hf2_2) dn_Grammar_parse_17 ?_
  refine lv_aload_n hx hb dn_Grammar_parse_20 rfl (lv_at hl 1 rfl) ?_
  have hPc := hP.sub (ws' := [(h1, .inr (5, xo_Meaning f1)), (h3, .inr (10, xo_Design f3))]) [0, 5] rfl
  have hDc := hD.sub (ws' := [(h1, .inr (5, xo_Meaning f1)), (h3, .inr (10, xo_Design f3))]) [0, 5] (by decide) rfl
  refine xk_callv (wr := [(h2, .inr (6, xo_Grammar f2)), (h4, .inl (cJ, 65537, .inr (.inl g0))), (h5, .inr (2, xo_Tokens (va_up ((va_up (va_up ((va_up (va_up (va_up (va_up (va_up f4 2 (.int (-1))) 8 (.int 0)) 6 (.int 0)) 7 (.int (-1))) 2 (.int 0))) 3 (.int 0)) 4 (.int 0))) 5 (.int (-1))))), (h0, .inr (4, xo_Checker (va_up (va_up (va_up (va_up (va_up (va_up f0 1 (.ref h6)) 2 (.ref h7)) 3 (.int (-1))) 13 (.int 0)) 14 (.int (-1))) 10 (.int 0))))]) (xk_runV (ar := 1) (As := [.ref h3]) (rest := []) (ci := 5) (q0 := 0) ⟨hx, hb, hml, hown, hg⟩ hK hN (ct_Meaning_start_0 l dC dI cI cB cJ cZ cQ H.size h1 h3 f1 f3 h6 h7 hf3_0 hf3_1) hPc hDc rfl rfl wn_4_165 wn_4_166 wn_4_167 wn_1_6 wn_4_168 rfl rfl (by decide +kernel) ⟨Nat.le_of_ble_eq_true rfl, Nat.le_of_ble_eq_true rfl⟩ rfl hl.1 rfl (Nat.le_of_ble_eq_true rfl) dn_Grammar_parse_21 ⟨Nat.le_of_ble_eq_true rfl, Nat.le_of_ble_eq_true rfl⟩) hP hD hS hA [0, 5] [1, 2, 3, 4] rfl rfl (by decide) (by decide) (fun _ H locs hw hP hD hS => ?_)
  have hP : va_P (dC, dI) xcl [(h2, .inr (6, xo_Grammar f2)), (h4, .inl (cJ, 65537, .inr (.inl g0))), (h5, .inr (2, xo_Tokens (va_up ((va_up (va_up ((va_up (va_up (va_up (va_up (va_up f4 2 (.int (-1))) 8 (.int 0)) 6 (.int 0)) 7 (.int (-1))) 2 (.int 0))) 3 (.int 0)) 4 (.int 0))) 5 (.int (-1))))), (h0, .inr (4, xo_Checker (va_up (va_up (va_up (va_up (va_up (va_up f0 1 (.ref h6)) 2 (.ref h7)) 3 (.int (-1))) 13 (.int 0)) 14 (.int (-1))) 10 (.int 0)))), (h1, .inr (5, xo_Meaning (va_up (va_up (va_up (va_up (va_up (va_up f1 1 (.ref h3)) 2 (.ref h6)) 3 (.ref h7)) 4 (.int 1)) 9 (.int 0)) 16 (.int 0)))), (h3, .inr (10, xo_Design f3))] H := hP
  have hD : va_D A [(h2, .inr (6, xo_Grammar f2)), (h4, .inl (cJ, 65537, .inr (.inl g0))), (h5, .inr (2, xo_Tokens (va_up ((va_up (va_up ((va_up (va_up (va_up (va_up (va_up f4 2 (.int (-1))) 8 (.int 0)) 6 (.int 0)) 7 (.int (-1))) 2 (.int 0))) 3 (.int 0)) 4 (.int 0))) 5 (.int (-1))))), (h0, .inr (4, xo_Checker (va_up (va_up (va_up (va_up (va_up (va_up f0 1 (.ref h6)) 2 (.ref h7)) 3 (.int (-1))) 13 (.int 0)) 14 (.int (-1))) 10 (.int 0)))), (h1, .inr (5, xo_Meaning (va_up (va_up (va_up (va_up (va_up (va_up f1 1 (.ref h3)) 2 (.ref h6)) 3 (.ref h7)) 4 (.int 1)) 9 (.int 0)) 16 (.int 0)))), (h3, .inr (10, xo_Design f3))] := hD
  refine lv_aload_n hx hb dn_Grammar_parse_24 rfl (lv_at hl 0 rfl) ?_
  refine lv_iconst (v := 0) hx hb dn_Grammar_parse_25 (by decide) ?_
  refine va_put (D := (dC, dI)) (ci := 6) (v := .int 0) (ty := .int) (C := rn_Grammar) (T := fn_Grammar) (N := 15) hx hb hg in_Grammar tn_Grammar tk_Grammar nn_Grammar hown hK hP hD hS 0 rfl rfl 14 (by decide) (hg _ wn_2_14) (fun _ h9 => h9) rfl (tk_Grammar 14 (by decide)) rfl rfl (Nat.le_of_ble_eq_true rfl) dn_Grammar_parse_26 (fun H locs hP hD hS => ?_)
  have hP : va_P (dC, dI) xcl [(h2, .inr (6, xo_Grammar (va_up f2 14 (.int 0)))), (h4, .inl (cJ, 65537, .inr (.inl g0))), (h5, .inr (2, xo_Tokens (va_up ((va_up (va_up ((va_up (va_up (va_up (va_up (va_up f4 2 (.int (-1))) 8 (.int 0)) 6 (.int 0)) 7 (.int (-1))) 2 (.int 0))) 3 (.int 0)) 4 (.int 0))) 5 (.int (-1))))), (h0, .inr (4, xo_Checker (va_up (va_up (va_up (va_up (va_up (va_up f0 1 (.ref h6)) 2 (.ref h7)) 3 (.int (-1))) 13 (.int 0)) 14 (.int (-1))) 10 (.int 0)))), (h1, .inr (5, xo_Meaning (va_up (va_up (va_up (va_up (va_up (va_up f1 1 (.ref h3)) 2 (.ref h6)) 3 (.ref h7)) 4 (.int 1)) 9 (.int 0)) 16 (.int 0)))), (h3, .inr (10, xo_Design f3))] H := hP
  have hD : va_D A [(h2, .inr (6, xo_Grammar (va_up f2 14 (.int 0)))), (h4, .inl (cJ, 65537, .inr (.inl g0))), (h5, .inr (2, xo_Tokens (va_up ((va_up (va_up ((va_up (va_up (va_up (va_up (va_up f4 2 (.int (-1))) 8 (.int 0)) 6 (.int 0)) 7 (.int (-1))) 2 (.int 0))) 3 (.int 0)) 4 (.int 0))) 5 (.int (-1))))), (h0, .inr (4, xo_Checker (va_up (va_up (va_up (va_up (va_up (va_up f0 1 (.ref h6)) 2 (.ref h7)) 3 (.int (-1))) 13 (.int 0)) 14 (.int (-1))) 10 (.int 0)))), (h1, .inr (5, xo_Meaning (va_up (va_up (va_up (va_up (va_up (va_up f1 1 (.ref h3)) 2 (.ref h6)) 3 (.ref h7)) 4 (.int 1)) 9 (.int 0)) 16 (.int 0)))), (h3, .inr (10, xo_Design f3))] := hD
  refine lv_aload_n hx hb dn_Grammar_parse_29 rfl (lv_at hl 0 rfl) ?_
  refine lv_iconst (v := 0) hx hb dn_Grammar_parse_30 (by decide) ?_
  refine va_put (D := (dC, dI)) (ci := 6) (v := .int 0) (ty := .int) (C := rn_Grammar) (T := fn_Grammar) (N := 15) hx hb hg in_Grammar tn_Grammar tk_Grammar nn_Grammar hown hK hP hD hS 0 rfl rfl 10 (by decide) (hg _ wn_2_10) (fun _ h9 => h9) rfl (tk_Grammar 10 (by decide)) rfl rfl (Nat.le_of_ble_eq_true rfl) dn_Grammar_parse_31 (fun H locs hP hD hS => ?_)
  have hP : va_P (dC, dI) xcl [(h2, .inr (6, xo_Grammar (va_up (va_up f2 14 (.int 0)) 10 (.int 0)))), (h4, .inl (cJ, 65537, .inr (.inl g0))), (h5, .inr (2, xo_Tokens (va_up ((va_up (va_up ((va_up (va_up (va_up (va_up (va_up f4 2 (.int (-1))) 8 (.int 0)) 6 (.int 0)) 7 (.int (-1))) 2 (.int 0))) 3 (.int 0)) 4 (.int 0))) 5 (.int (-1))))), (h0, .inr (4, xo_Checker (va_up (va_up (va_up (va_up (va_up (va_up f0 1 (.ref h6)) 2 (.ref h7)) 3 (.int (-1))) 13 (.int 0)) 14 (.int (-1))) 10 (.int 0)))), (h1, .inr (5, xo_Meaning (va_up (va_up (va_up (va_up (va_up (va_up f1 1 (.ref h3)) 2 (.ref h6)) 3 (.ref h7)) 4 (.int 1)) 9 (.int 0)) 16 (.int 0)))), (h3, .inr (10, xo_Design f3))] H := hP
  have hD : va_D A [(h2, .inr (6, xo_Grammar (va_up (va_up f2 14 (.int 0)) 10 (.int 0)))), (h4, .inl (cJ, 65537, .inr (.inl g0))), (h5, .inr (2, xo_Tokens (va_up ((va_up (va_up ((va_up (va_up (va_up (va_up (va_up f4 2 (.int (-1))) 8 (.int 0)) 6 (.int 0)) 7 (.int (-1))) 2 (.int 0))) 3 (.int 0)) 4 (.int 0))) 5 (.int (-1))))), (h0, .inr (4, xo_Checker (va_up (va_up (va_up (va_up (va_up (va_up f0 1 (.ref h6)) 2 (.ref h7)) 3 (.int (-1))) 13 (.int 0)) 14 (.int (-1))) 10 (.int 0)))), (h1, .inr (5, xo_Meaning (va_up (va_up (va_up (va_up (va_up (va_up f1 1 (.ref h3)) 2 (.ref h6)) 3 (.ref h7)) 4 (.int 1)) 9 (.int 0)) 16 (.int 0)))), (h3, .inr (10, xo_Design f3))] := hD
  refine lv_aload_n hx hb dn_Grammar_parse_34 rfl (lv_at hl 0 rfl) ?_
  refine lv_iconst (v := 0) hx hb dn_Grammar_parse_35 (by decide) ?_
  refine va_put (D := (dC, dI)) (ci := 6) (v := .int 0) (ty := .int) (C := rn_Grammar) (T := fn_Grammar) (N := 15) hx hb hg in_Grammar tn_Grammar tk_Grammar nn_Grammar hown hK hP hD hS 0 rfl rfl 3 (by decide) (hg _ wn_2_3) (fun _ h9 => h9) rfl (tk_Grammar 3 (by decide)) rfl rfl (Nat.le_of_ble_eq_true rfl) dn_Grammar_parse_36 (fun H locs hP hD hS => ?_)
  have hP : va_P (dC, dI) xcl [(h2, .inr (6, xo_Grammar (va_up (va_up (va_up f2 14 (.int 0)) 10 (.int 0)) 3 (.int 0)))), (h4, .inl (cJ, 65537, .inr (.inl g0))), (h5, .inr (2, xo_Tokens (va_up ((va_up (va_up ((va_up (va_up (va_up (va_up (va_up f4 2 (.int (-1))) 8 (.int 0)) 6 (.int 0)) 7 (.int (-1))) 2 (.int 0))) 3 (.int 0)) 4 (.int 0))) 5 (.int (-1))))), (h0, .inr (4, xo_Checker (va_up (va_up (va_up (va_up (va_up (va_up f0 1 (.ref h6)) 2 (.ref h7)) 3 (.int (-1))) 13 (.int 0)) 14 (.int (-1))) 10 (.int 0)))), (h1, .inr (5, xo_Meaning (va_up (va_up (va_up (va_up (va_up (va_up f1 1 (.ref h3)) 2 (.ref h6)) 3 (.ref h7)) 4 (.int 1)) 9 (.int 0)) 16 (.int 0)))), (h3, .inr (10, xo_Design f3))] H := hP
  have hD : va_D A [(h2, .inr (6, xo_Grammar (va_up (va_up (va_up f2 14 (.int 0)) 10 (.int 0)) 3 (.int 0)))), (h4, .inl (cJ, 65537, .inr (.inl g0))), (h5, .inr (2, xo_Tokens (va_up ((va_up (va_up ((va_up (va_up (va_up (va_up (va_up f4 2 (.int (-1))) 8 (.int 0)) 6 (.int 0)) 7 (.int (-1))) 2 (.int 0))) 3 (.int 0)) 4 (.int 0))) 5 (.int (-1))))), (h0, .inr (4, xo_Checker (va_up (va_up (va_up (va_up (va_up (va_up f0 1 (.ref h6)) 2 (.ref h7)) 3 (.int (-1))) 13 (.int 0)) 14 (.int (-1))) 10 (.int 0)))), (h1, .inr (5, xo_Meaning (va_up (va_up (va_up (va_up (va_up (va_up f1 1 (.ref h3)) 2 (.ref h6)) 3 (.ref h7)) 4 (.int 1)) 9 (.int 0)) 16 (.int 0)))), (h3, .inr (10, xo_Design f3))] := hD
  refine lv_bipush (v := 8) hx hb dn_Grammar_parse_39 (by decide) ?_
  refine lv_aload_n hx hb dn_Grammar_parse_41 rfl (lv_at hl 0 rfl) ?_
  refine va_get (D := (dC, dI)) (ci := 6) (v := .ref h5) (C := rn_Grammar) (T := fn_Grammar) (N := 15) hx hb hg in_Grammar hown hK hP 0 rfl rfl 0 (by decide) (hg _ wn_2_0) (fun _ h9 => h9) (congrArg some hf2_0) dn_Grammar_parse_42 ?_
  refine va_get (D := (dC, dI)) (ci := 2) (v := .int 1) (C := rn_Tokens) (T := fn_Tokens) (N := 9) hx hb hg in_Tokens hown hK hP 2 rfl rfl 1 (by decide) (hg _ wn_1_47) (fun _ h9 => h9) (congrArg some hf4_1) dn_Grammar_parse_45 ?_
  refine lv_imul hx hb dn_Grammar_parse_48 ?_
  refine xk_ti (y := 8) (by decide) ?_
  refine lv_bipush (v := 8) hx hb dn_Grammar_parse_49 (by decide) ?_
  refine lv_iadd hx hb dn_Grammar_parse_51 ?_
  refine xk_ti (y := 16) (by decide) ?_
  refine lv_istore_n (lv' := [(3, .int 16), (0, .ref h2), (1, .ref h3), (2, .int 0)]) hx hb dn_Grammar_parse_52 rfl hl (by decide) rfl (fun ls hl => ?_)
  refine lv_iconst (v := 0) hx hb dn_Grammar_parse_53 (by decide) ?_
  refine lv_istore (lv' := [(4, .int 0), (3, .int 16), (0, .ref h2), (1, .ref h3), (2, .int 0)]) hx hb dn_Grammar_parse_54 hl (by decide) rfl (fun ls hl => ?_)
  refine lv_iload hx hb dn_Grammar_parse_56 (lv_at hl 0 rfl) ?_
  refine lv_iload_n hx hb dn_Grammar_parse_58 rfl (lv_at hl 1 rfl) ?_
  refine lv_icmp_ge (tgt := 214) hx hb dn_Grammar_parse_59 (by decide) (fun h9 => absurd h9 (by decide)) (fun _ => ?_)
  refine lv_aload_n hx hb dn_Grammar_parse_62 rfl (lv_at hl 2 rfl) ?_
  refine va_get (D := (dC, dI)) (ci := 6) (v := .int 0) (C := rn_Grammar) (T := fn_Grammar) (N := 15) hx hb hg in_Grammar hown hK hP 0 rfl rfl 3 (by decide) (hg _ wn_2_3) (fun _ h9 => h9) rfl dn_Grammar_parse_63 ?_
  refine lv_bipush (v := 9) hx hb dn_Grammar_parse_66 (by decide) ?_
  refine lv_icmp_eq (tgt := 214) hx hb dn_Grammar_parse_68 (by decide) (fun h9 => absurd h9 (by decide)) (fun _ => ?_)
  refine lv_aload_n hx hb dn_Grammar_parse_71 rfl (lv_at hl 2 rfl) ?_
  refine va_get (D := (dC, dI)) (ci := 6) (v := .ref h5) (C := rn_Grammar) (T := fn_Grammar) (N := 15) hx hb hg in_Grammar hown hK hP 0 rfl rfl 0 (by decide) (hg _ wn_2_0) (fun _ h9 => h9) (congrArg some hf2_0) dn_Grammar_parse_72 ?_
  refine va_get (D := (dC, dI)) (ci := 2) (v := .int 0) (C := rn_Tokens) (T := fn_Tokens) (N := 9) hx hb hg in_Tokens hown hK hP 2 rfl rfl 6 (by decide) (hg _ wn_1_56) (fun _ h9 => h9) rfl dn_Grammar_parse_75 ?_
  refine lv_if_ne (tgt := 214) hx hb dn_Grammar_parse_78 (by decide) (fun h9 => absurd h9 (by decide)) (fun _ => ?_)
  refine lv_aload_n hx hb dn_Grammar_parse_81 rfl (lv_at hl 2 rfl) ?_
  refine va_get (D := (dC, dI)) (ci := 6) (v := .int 0) (C := rn_Grammar) (T := fn_Grammar) (N := 15) hx hb hg in_Grammar hown hK hP 0 rfl rfl 3 (by decide) (hg _ wn_2_3) (fun _ h9 => h9) rfl dn_Grammar_parse_82 ?_
  refine lv_tableIn (tgt := 132) hx hb dn_Grammar_parse_85 (by decide) (by decide) rfl (by decide) ?_
  refine lv_aload_n hx hb dn_Grammar_parse_132 rfl (lv_at hl 2 rfl) ?_
  have hPc := hP.sub (ws' := [(h2, .inr (6, xo_Grammar (va_up (va_up (va_up f2 14 (.int 0)) 10 (.int 0)) 3 (.int 0)))), (h5, .inr (2, xo_Tokens (va_up ((va_up (va_up ((va_up (va_up (va_up (va_up (va_up f4 2 (.int (-1))) 8 (.int 0)) 6 (.int 0)) 7 (.int (-1))) 2 (.int 0))) 3 (.int 0)) 4 (.int 0))) 5 (.int (-1))))), (h0, .inr (4, xo_Checker (va_up (va_up (va_up (va_up (va_up (va_up f0 1 (.ref h6)) 2 (.ref h7)) 3 (.int (-1))) 13 (.int 0)) 14 (.int (-1))) 10 (.int 0)))), (h1, .inr (5, xo_Meaning (va_up (va_up (va_up (va_up (va_up (va_up f1 1 (.ref h3)) 2 (.ref h6)) 3 (.ref h7)) 4 (.int 1)) 9 (.int 0)) 16 (.int 0))))]) [0, 2, 3, 4] rfl
  have hDc := hD.sub (ws' := [(h2, .inr (6, xo_Grammar (va_up (va_up (va_up f2 14 (.int 0)) 10 (.int 0)) 3 (.int 0)))), (h5, .inr (2, xo_Tokens (va_up ((va_up (va_up ((va_up (va_up (va_up (va_up (va_up f4 2 (.int (-1))) 8 (.int 0)) 6 (.int 0)) 7 (.int (-1))) 2 (.int 0))) 3 (.int 0)) 4 (.int 0))) 5 (.int (-1))))), (h0, .inr (4, xo_Checker (va_up (va_up (va_up (va_up (va_up (va_up f0 1 (.ref h6)) 2 (.ref h7)) 3 (.int (-1))) 13 (.int 0)) 14 (.int (-1))) 10 (.int 0)))), (h1, .inr (5, xo_Meaning (va_up (va_up (va_up (va_up (va_up (va_up f1 1 (.ref h3)) 2 (.ref h6)) 3 (.ref h7)) 4 (.int 1)) 9 (.int 0)) 16 (.int 0))))]) [0, 2, 3, 4] (by decide) rfl
  refine xk_callv (wr := [(h4, .inl (cJ, 65537, .inr (.inl g0))), (h3, .inr (10, xo_Design f3))]) (xk_runV (ar := 0) (As := []) (rest := []) (ci := 6) (q0 := 0) ⟨hx, hb, hml, hown, hg⟩ hK hN (ct_Grammar_moduleHead_0 l dC dI cI cB cJ cZ cQ H.size h2 h5 h0 h1 (va_up (va_up (va_up f2 14 (.int 0)) 10 (.int 0)) 3 (.int 0)) (va_up ((va_up (va_up ((va_up (va_up (va_up (va_up (va_up f4 2 (.int (-1))) 8 (.int 0)) 6 (.int 0)) 7 (.int (-1))) 2 (.int 0))) 3 (.int 0)) 4 (.int 0))) 5 (.int (-1))) (va_up (va_up (va_up (va_up (va_up (va_up f0 1 (.ref h6)) 2 (.ref h7)) 3 (.int (-1))) 13 (.int 0)) 14 (.int (-1))) 10 (.int 0)) (va_up (va_up (va_up (va_up (va_up (va_up f1 1 (.ref h3)) 2 (.ref h6)) 3 (.ref h7)) 4 (.int 1)) 9 (.int 0)) 16 (.int 0)) hf2_0 hf2_2 hf4_1 (show (va_up ((va_up (va_up ((va_up (va_up (va_up (va_up (va_up f4 2 (.int (-1))) 8 (.int 0)) 6 (.int 0)) 7 (.int (-1))) 2 (.int 0))) 3 (.int 0)) 4 (.int 0))) 5 (.int (-1))) 3 = .int 0 from rfl) (show (va_up ((va_up (va_up ((va_up (va_up (va_up (va_up (va_up f4 2 (.int (-1))) 8 (.int 0)) 6 (.int 0)) 7 (.int (-1))) 2 (.int 0))) 3 (.int 0)) 4 (.int 0))) 5 (.int (-1))) 4 = .int 0 from rfl) (show (va_up ((va_up (va_up ((va_up (va_up (va_up (va_up (va_up f4 2 (.int (-1))) 8 (.int 0)) 6 (.int 0)) 7 (.int (-1))) 2 (.int 0))) 3 (.int 0)) 4 (.int 0))) 5 (.int (-1))) 6 = .int 0 from rfl) (show (va_up ((va_up (va_up ((va_up (va_up (va_up (va_up (va_up f4 2 (.int (-1))) 8 (.int 0)) 6 (.int 0)) 7 (.int (-1))) 2 (.int 0))) 3 (.int 0)) 4 (.int 0))) 5 (.int (-1))) 8 = .int 0 from rfl) hf0_0 (show (va_up (va_up (va_up (va_up (va_up (va_up f0 1 (.ref h6)) 2 (.ref h7)) 3 (.int (-1))) 13 (.int 0)) 14 (.int (-1))) 10 (.int 0)) 13 = .int 0 from rfl) hf1_0) hPc hDc rfl rfl wn_4_169 wn_4_171 sn_Grammar_moduleHead wn_1_5 wn_4_172 rfl rfl (by decide +kernel) ⟨Nat.le_of_ble_eq_true rfl, Nat.le_of_ble_eq_true rfl⟩ rfl hl.1 rfl (Nat.le_of_ble_eq_true rfl) dn_Grammar_parse_133 ⟨Nat.le_of_ble_eq_true rfl, Nat.le_of_ble_eq_true rfl⟩) hP hD hS hA [0, 2, 3, 4] [1, 5] rfl rfl (by decide) (by decide) (fun _ H locs hw hP hD hS => ?_)
  have hP : va_P (dC, dI) xcl [(h4, .inl (cJ, 65537, .inr (.inl g0))), (h3, .inr (10, xo_Design f3)), (h2, .inr (6, xo_Grammar (va_up (va_up (va_up (va_up f2 14 (.int 0)) 10 (.int 0)) 3 (.int 0)) 3 (.int 2)))), (h1, .inr (5, xo_Meaning ((va_up (va_up (va_up (va_up (va_up (va_up f1 1 (.ref h3)) 2 (.ref h6)) 3 (.ref h7)) 4 (.int 1)) 9 (.int 0)) 16 (.int 0))))), (h0, .inr (4, xo_Checker ((va_up (va_up (va_up (va_up (va_up (va_up f0 1 (.ref h6)) 2 (.ref h7)) 3 (.int (-1))) 13 (.int 0)) 14 (.int (-1))) 10 (.int 0))))), (h5, .inr (2, xo_Tokens (((va_up (((((va_up (va_up (va_up (va_up ((va_up (va_up ((va_up (va_up (va_up (va_up (va_up f4 2 (.int (-1))) 8 (.int 0)) 6 (.int 0)) 7 (.int (-1))) 2 (.int 0))) 3 (.int 0)) 4 (.int 0))) 5 (.int (-1))) 6 (.int 2)) 7 (.int 0)) 3 (.int (-1))))))) 8 (.int (-1)))))))] H := hP
  have hD : va_D A [(h4, .inl (cJ, 65537, .inr (.inl g0))), (h3, .inr (10, xo_Design f3)), (h2, .inr (6, xo_Grammar (va_up (va_up (va_up (va_up f2 14 (.int 0)) 10 (.int 0)) 3 (.int 0)) 3 (.int 2)))), (h1, .inr (5, xo_Meaning ((va_up (va_up (va_up (va_up (va_up (va_up f1 1 (.ref h3)) 2 (.ref h6)) 3 (.ref h7)) 4 (.int 1)) 9 (.int 0)) 16 (.int 0))))), (h0, .inr (4, xo_Checker ((va_up (va_up (va_up (va_up (va_up (va_up f0 1 (.ref h6)) 2 (.ref h7)) 3 (.int (-1))) 13 (.int 0)) 14 (.int (-1))) 10 (.int 0))))), (h5, .inr (2, xo_Tokens (((va_up (((((va_up (va_up (va_up (va_up ((va_up (va_up ((va_up (va_up (va_up (va_up (va_up f4 2 (.int (-1))) 8 (.int 0)) 6 (.int 0)) 7 (.int (-1))) 2 (.int 0))) 3 (.int 0)) 4 (.int 0))) 5 (.int (-1))) 6 (.int 2)) 7 (.int 0)) 3 (.int (-1))))))) 8 (.int (-1)))))))] := hD
  refine lv_goto (tgt := 208) hx hb dn_Grammar_parse_136 (by decide) ?_
  refine lv_iinc (v := 1) (lv' := [(4, .int 1), (3, .int 16), (0, .ref h2), (1, .ref h3), (2, .int 0)]) hx hb dn_Grammar_parse_208 hl (k := 0) rfl (by decide) (by decide) rfl (fun ls hl => ?_)
  refine lv_goto (tgt := 56) hx hb dn_Grammar_parse_211 (by decide) ?_
  refine lv_iload hx hb dn_Grammar_parse_56 (lv_at hl 0 rfl) ?_
  refine lv_iload_n hx hb dn_Grammar_parse_58 rfl (lv_at hl 1 rfl) ?_
  refine lv_icmp_ge (tgt := 214) hx hb dn_Grammar_parse_59 (by decide) (fun h9 => absurd h9 (by decide)) (fun _ => ?_)
  refine lv_aload_n hx hb dn_Grammar_parse_62 rfl (lv_at hl 2 rfl) ?_
  refine va_get (D := (dC, dI)) (ci := 6) (v := .int 2) (C := rn_Grammar) (T := fn_Grammar) (N := 15) hx hb hg in_Grammar hown hK hP 2 rfl rfl 3 (by decide) (hg _ wn_2_3) (fun _ h9 => h9) rfl dn_Grammar_parse_63 ?_
  refine lv_bipush (v := 9) hx hb dn_Grammar_parse_66 (by decide) ?_
  refine lv_icmp_eq (tgt := 214) hx hb dn_Grammar_parse_68 (by decide) (fun h9 => absurd h9 (by decide)) (fun _ => ?_)
  refine lv_aload_n hx hb dn_Grammar_parse_71 rfl (lv_at hl 2 rfl) ?_
  refine va_get (D := (dC, dI)) (ci := 6) (v := .ref h5) (C := rn_Grammar) (T := fn_Grammar) (N := 15) hx hb hg in_Grammar hown hK hP 2 rfl rfl 0 (by decide) (hg _ wn_2_0) (fun _ h9 => h9) (congrArg some hf2_0) dn_Grammar_parse_72 ?_
  refine va_get (D := (dC, dI)) (ci := 2) (v := .int 2) (C := rn_Tokens) (T := fn_Tokens) (N := 9) hx hb hg in_Tokens hown hK hP 5 rfl rfl 6 (by decide) (hg _ wn_1_56) (fun _ h9 => h9) rfl dn_Grammar_parse_75 ?_
  refine lv_if_ne (tgt := 214) hx hb dn_Grammar_parse_78 (by decide) (fun _ => ?_) (fun h9 => absurd h9 (by decide))
  have hP9 := hP.sub (ws' := [(h4, .inl (cJ, 65537, .inr (.inl g0))), (h3, .inr (10, xo_Design f3)), (h2, .inr (6, xo_Grammar (va_up (va_up (va_up (va_up f2 14 (.int 0)) 10 (.int 0)) 3 (.int 0)) 3 (.int 2)))), (h1, .inr (5, xo_Meaning ((va_up (va_up (va_up (va_up (va_up (va_up f1 1 (.ref h3)) 2 (.ref h6)) 3 (.ref h7)) 4 (.int 1)) 9 (.int 0)) 16 (.int 0))))), (h0, .inr (4, xo_Checker ((va_up (va_up (va_up (va_up (va_up (va_up f0 1 (.ref h6)) 2 (.ref h7)) 3 (.int (-1))) 13 (.int 0)) 14 (.int (-1))) 10 (.int 0))))), (h5, .inr (2, xo_Tokens (((va_up (((((va_up (va_up (va_up (va_up ((va_up (va_up ((va_up (va_up (va_up (va_up (va_up f4 2 (.int (-1))) 8 (.int 0)) 6 (.int 0)) 7 (.int (-1))) 2 (.int 0))) 3 (.int 0)) 4 (.int 0))) 5 (.int (-1))) 6 (.int 2)) 7 (.int 0)) 3 (.int (-1))))))) 8 (.int (-1)))))))]) [0, 1, 2, 3, 4, 5] rfl
  have hD9 := hD.sub (ws' := [(h4, .inl (cJ, 65537, .inr (.inl g0))), (h3, .inr (10, xo_Design f3)), (h2, .inr (6, xo_Grammar (va_up (va_up (va_up (va_up f2 14 (.int 0)) 10 (.int 0)) 3 (.int 0)) 3 (.int 2)))), (h1, .inr (5, xo_Meaning ((va_up (va_up (va_up (va_up (va_up (va_up f1 1 (.ref h3)) 2 (.ref h6)) 3 (.ref h7)) 4 (.int 1)) 9 (.int 0)) 16 (.int 0))))), (h0, .inr (4, xo_Checker ((va_up (va_up (va_up (va_up (va_up (va_up f0 1 (.ref h6)) 2 (.ref h7)) 3 (.int (-1))) 13 (.int 0)) 14 (.int (-1))) 10 (.int 0))))), (h5, .inr (2, xo_Tokens (((va_up (((((va_up (va_up (va_up (va_up ((va_up (va_up ((va_up (va_up (va_up (va_up (va_up f4 2 (.int (-1))) 8 (.int 0)) 6 (.int 0)) 7 (.int (-1))) 2 (.int 0))) 3 (.int 0)) 4 (.int 0))) 5 (.int (-1))) 6 (.int 2)) 7 (.int 0)) 3 (.int (-1))))))) 8 (.int (-1)))))))]) [0, 1, 2, 3, 4, 5] (by decide) rfl
  exact xk_vret (w1 := fun u : Unit => [(h4, .inl (cJ, 65537, .inr (.inl g0))), (h3, .inr (10, xo_Design f3)), (h2, .inr (6, xo_Grammar (va_up (va_up (va_up (va_up f2 14 (.int 0)) 10 (.int 0)) 3 (.int 0)) 3 (.int 2)))), (h1, .inr (5, xo_Meaning ((va_up (va_up (va_up (va_up (va_up (va_up f1 1 (.ref h3)) 2 (.ref h6)) 3 (.ref h7)) 4 (.int 1)) 9 (.int 0)) 16 (.int 0))))), (h0, .inr (4, xo_Checker ((va_up (va_up (va_up (va_up (va_up (va_up f0 1 (.ref h6)) 2 (.ref h7)) 3 (.int (-1))) 13 (.int 0)) 14 (.int (-1))) 10 (.int 0))))), (h5, .inr (2, xo_Tokens (((va_up (((((va_up (va_up (va_up (va_up ((va_up (va_up ((va_up (va_up (va_up (va_up (va_up f4 2 (.int (-1))) 8 (.int 0)) 6 (.int 0)) 7 (.int (-1))) 2 (.int 0))) 3 (.int 0)) 4 (.int 0))) 5 (.int (-1))) 6 (.int 2)) 7 (.int 0)) 3 (.int (-1))))))) 8 (.int (-1)))))))]) () hx hb hr hlocks hK hS dn_Grammar_parse_214 hP9 hD9 trivial (Nat.le_refl _) (Nat.le_refl _)
set_option maxHeartbeats 4000000 in
set_option maxRecDepth 100000 in
theorem ct_C_read_0 (l : Launch) (dC : Nat → ClassId) (dI : Nat → Nat → Nat) (cI cB cJ cZ cQ : ClassId) (sz : Nat) (h0 : Nat) (h1 : Nat) (h2 : Nat) (h3 : Nat) (h4 : Nat) (h5 : Nat) (h6 : Nat) (h7 : Nat) (h8 : Nat) (h9 : Nat) (h10 : Nat) (h11 : Nat) (h12 : Nat) (f0 : Nat → Value) (f1 : Nat → Value) (f2 : Nat → Value) (f3 : Nat → Value) (f4 : Nat → Value) (f5 : Nat → Value) (f6 : Nat → Value) (f7 : Nat → Value) (f8 : Nat → Value) (f9 : Nat → Value) (hf0_0 : f0 0 = .int 0) (hf0_2 : f0 2 = .ref h1) (hf0_3 : f0 3 = .ref h3) (hf0_5 : f0 5 = .ref h7) (hf0_10 : f0 10 = .ref h8) (hf1_0 : f1 0 = .ref h2) (hf2_0 : f2 0 = .ref h1) (hf2_4 : f2 4 = .ref h4) (hf3_0 : f3 0 = .ref h1) (hf4_0 : f4 0 = .ref h5) (hf5_0 : f5 0 = .ref h1) (hf5_1 : f5 1 = .ref h5) (hf5_2 : f5 2 = .ref h6) (hf6_0 : f6 0 = .ref h9) (hf7_0 : f7 0 = .ref h10) (hf7_1 : f7 1 = .ref h11) (hf7_2 : f7 2 = .ref h12) : Met l yn_C_read (xw yn_C_read bn_C_read 4 (some .int)) ({ frames := 6, cells := 0, slots := 0, locals := 131 }) (xk_P (dC, dI) xcl (xt cI cB cJ cZ cQ) [.ref h0] sz [(h0, .inr (1, xo_C f0)), (h1, .inr (2, xo_Tokens f1)), (h2, .inl (cJ, 65537, .inr (.inl (fun _ => 0)))), (h3, .inr (3, xo_Scanner f2)), (h4, .inl (cI, 256, .inl (fun _ => 0))), (h5, .inr (4, xo_Checker f3)), (h6, .inr (5, xo_Meaning f4)), (h7, .inr (6, xo_Grammar f5)), (h8, .inr (9, xo_Circuit f6)), (h9, .inr (10, xo_Design f7)), (h10, .inr (11, xo_Parts f8)), (h11, .inr (12, xo_Code f9)), (h12, .inl (cB, 65536, .inl (fun _ => 0)))]) (xk_Qi (dC, dI) xcl (xt cI cB cJ cZ cQ) (fun (r : Int32) (u : Unit) => r = 0) (fun u : Unit => [(h0, .inr (1, xo_C (va_up (va_up f0 0 (.int 0)) 1 (.int 2)))), (h8, .inr (9, xo_Circuit f6)), (h10, .inr (11, xo_Parts (va_up (va_up (va_up f8 0 (.int 0)) 7 (.int 0)) 11 (.int 0)))), (h11, .inr (12, xo_Code (va_up (va_up f9 1 (.int 0)) 4 (.int 0)))), (h3, .inr (3, xo_Scanner (va_up (va_up (va_up (va_up f2 1 (.ref h12)) 2 (.int 0)) 3 (.ref h11)) 8 (.int 0)))), (h12, .inl (cB, 65536, .inl (fun _ => 0))), (h4, .inl (cI, 256, .inl (xk_fillv 256 ((-1)) (fun _ => 0)))), (h2, .inl (cJ, 65537, .inr (.inl ((vp_updL (fun _ => 0) 0 0))))), (h9, .inr (10, xo_Design (((va_up (va_up (va_up (va_up f7 3 (.int 0)) 4 (.int 0)) 12 (.int 0)) 5 (.int 0)))))), (h7, .inr (6, xo_Grammar (va_up (va_up (va_up (va_up f5 14 (.int 0)) 10 (.int 0)) 3 (.int 0)) 3 (.int 2)))), (h6, .inr (5, xo_Meaning ((va_up (va_up (va_up (va_up (va_up (va_up f4 1 (.ref h9)) 2 (.ref h10)) 3 (.ref h11)) 4 (.int 1)) 9 (.int 0)) 16 (.int 0))))), (h5, .inr (4, xo_Checker ((va_up (va_up (va_up (va_up (va_up (va_up f3 1 (.ref h10)) 2 (.ref h11)) 3 (.int (-1))) 13 (.int 0)) 14 (.int (-1))) 10 (.int 0))))), (h1, .inr (2, xo_Tokens (((va_up (((((va_up (va_up (va_up (va_up ((va_up (va_up ((va_up (va_up (va_up (va_up (va_up (va_up (va_up f1 1 (.int 0)) 1 (.int 1)) 2 (.int (-1))) 8 (.int 0)) 6 (.int 0)) 7 (.int (-1))) 2 (.int 0))) 3 (.int 0)) 4 (.int 0))) 5 (.int (-1))) 6 (.int 2)) 7 (.int 0)) 3 (.int (-1))))))) 8 (.int (-1)))))))]) (va_A [(h0, .inr (1, xo_C f0)), (h1, .inr (2, xo_Tokens f1)), (h2, .inl (cJ, 65537, .inr (.inl (fun _ => 0)))), (h3, .inr (3, xo_Scanner f2)), (h4, .inl (cI, 256, .inl (fun _ => 0))), (h5, .inr (4, xo_Checker f3)), (h6, .inr (5, xo_Meaning f4)), (h7, .inr (6, xo_Grammar f5)), (h8, .inr (9, xo_Circuit f6)), (h9, .inr (10, xo_Design f7)), (h10, .inr (11, xo_Parts f8)), (h11, .inr (12, xo_Code f9)), (h12, .inl (cB, 65536, .inl (fun _ => 0)))] sz)) 0 0 (va_A [(h0, .inr (1, xo_C f0)), (h1, .inr (2, xo_Tokens f1)), (h2, .inl (cJ, 65537, .inr (.inl (fun _ => 0)))), (h3, .inr (3, xo_Scanner f2)), (h4, .inl (cI, 256, .inl (fun _ => 0))), (h5, .inr (4, xo_Checker f3)), (h6, .inr (5, xo_Meaning f4)), (h7, .inr (6, xo_Grammar f5)), (h8, .inr (9, xo_Circuit f6)), (h9, .inr (10, xo_Design f7)), (h10, .inr (11, xo_Parts f8)), (h11, .inr (12, xo_Code f9)), (h12, .inl (cB, 65536, .inl (fun _ => 0)))] sz) := by
  refine xk_of (QA := xk_Qi (dC, dI) xcl (xt cI cB cJ cZ cQ) (fun (r : Int32) (u : Unit) => r = 0) (fun u : Unit => [(h0, .inr (1, xo_C (va_up (va_up f0 0 (.int 0)) 1 (.int 2)))), (h8, .inr (9, xo_Circuit f6)), (h10, .inr (11, xo_Parts (va_up (va_up (va_up f8 0 (.int 0)) 7 (.int 0)) 11 (.int 0)))), (h11, .inr (12, xo_Code (va_up (va_up f9 1 (.int 0)) 4 (.int 0)))), (h3, .inr (3, xo_Scanner (va_up (va_up (va_up (va_up f2 1 (.ref h12)) 2 (.int 0)) 3 (.ref h11)) 8 (.int 0)))), (h12, .inl (cB, 65536, .inl (fun _ => 0))), (h4, .inl (cI, 256, .inl (xk_fillv 256 ((-1)) (fun _ => 0)))), (h2, .inl (cJ, 65537, .inr (.inl ((vp_updL (fun _ => 0) 0 0))))), (h9, .inr (10, xo_Design (((va_up (va_up (va_up (va_up f7 3 (.int 0)) 4 (.int 0)) 12 (.int 0)) 5 (.int 0)))))), (h7, .inr (6, xo_Grammar (va_up (va_up (va_up (va_up f5 14 (.int 0)) 10 (.int 0)) 3 (.int 0)) 3 (.int 2)))), (h6, .inr (5, xo_Meaning ((va_up (va_up (va_up (va_up (va_up (va_up f4 1 (.ref h9)) 2 (.ref h10)) 3 (.ref h11)) 4 (.int 1)) 9 (.int 0)) 16 (.int 0))))), (h5, .inr (4, xo_Checker ((va_up (va_up (va_up (va_up (va_up (va_up f3 1 (.ref h10)) 2 (.ref h11)) 3 (.int (-1))) 13 (.int 0)) 14 (.int (-1))) 10 (.int 0))))), (h1, .inr (2, xo_Tokens (((va_up (((((va_up (va_up (va_up (va_up ((va_up (va_up ((va_up (va_up (va_up (va_up (va_up (va_up (va_up f1 1 (.int 0)) 1 (.int 1)) 2 (.int (-1))) 8 (.int 0)) 6 (.int 0)) 7 (.int (-1))) 2 (.int 0))) 3 (.int 0)) 4 (.int 0))) 5 (.int (-1))) 6 (.int 2)) 7 (.int 0)) 3 (.int (-1))))))) 8 (.int (-1)))))))])) (by decide) (Nat.le_of_ble_eq_true rfl) ?_
  intro p e s m below meth c hx hb hml hown hg hr hlocks hin hP hK hN A hA hD hS ls hl
  have hown : s.vm.findClass rn_C = some m.cls := hown
  have hl : lv_has ls 4 [(0, .ref h0)] := hl
  obtain ⟨H, hH⟩ : ∃ z, z = s.heap := ⟨_, rfl⟩
  rw [← hH] at hP
  have hS : va_S A s.heap H [] := by rw [hH]; exact va_S.rf
  suffices kk : W p l e ({ frames := 6, cells := 0, slots := 0, locals := 131 }) s m [.ref h0].toArray below meth c H [] 0 0 (MQ below (xk_Qi (dC, dI) xcl (xt cI cB cJ cZ cQ) (fun (r : Int32) (u : Unit) => r = 0) (fun u : Unit => [(h0, .inr (1, xo_C (va_up (va_up f0 0 (.int 0)) 1 (.int 2)))), (h8, .inr (9, xo_Circuit f6)), (h10, .inr (11, xo_Parts (va_up (va_up (va_up f8 0 (.int 0)) 7 (.int 0)) 11 (.int 0)))), (h11, .inr (12, xo_Code (va_up (va_up f9 1 (.int 0)) 4 (.int 0)))), (h3, .inr (3, xo_Scanner (va_up (va_up (va_up (va_up f2 1 (.ref h12)) 2 (.int 0)) 3 (.ref h11)) 8 (.int 0)))), (h12, .inl (cB, 65536, .inl (fun _ => 0))), (h4, .inl (cI, 256, .inl (xk_fillv 256 ((-1)) (fun _ => 0)))), (h2, .inl (cJ, 65537, .inr (.inl ((vp_updL (fun _ => 0) 0 0))))), (h9, .inr (10, xo_Design (((va_up (va_up (va_up (va_up f7 3 (.int 0)) 4 (.int 0)) 12 (.int 0)) 5 (.int 0)))))), (h7, .inr (6, xo_Grammar (va_up (va_up (va_up (va_up f5 14 (.int 0)) 10 (.int 0)) 3 (.int 0)) 3 (.int 2)))), (h6, .inr (5, xo_Meaning ((va_up (va_up (va_up (va_up (va_up (va_up f4 1 (.ref h9)) 2 (.ref h10)) 3 (.ref h11)) 4 (.int 1)) 9 (.int 0)) 16 (.int 0))))), (h5, .inr (4, xo_Checker ((va_up (va_up (va_up (va_up (va_up (va_up f3 1 (.ref h10)) 2 (.ref h11)) 3 (.int (-1))) 13 (.int 0)) 14 (.int (-1))) 10 (.int 0))))), (h1, .inr (2, xo_Tokens (((va_up (((((va_up (va_up (va_up (va_up ((va_up (va_up ((va_up (va_up (va_up (va_up (va_up (va_up (va_up f1 1 (.int 0)) 1 (.int 1)) 2 (.int (-1))) 8 (.int 0)) 6 (.int 0)) 7 (.int (-1))) 2 (.int 0))) 3 (.int 0)) 4 (.int 0))) 5 (.int (-1))) 6 (.int 2)) 7 (.int 0)) 3 (.int (-1))))))) 8 (.int (-1)))))))]) A) [.ref h0].toArray s 0 0 A) (F0 m 0 ls []) by rw [hH] at kk; exact kk
  refine lv_aload_n hx hb dn_C_read_0 rfl (lv_at hl 0 rfl) ?_
  refine va_get (D := (dC, dI)) (ci := 1) (v := .ref h8) (C := rn_C) (T := fn_C) (N := 11) hx hb hg in_C hown hK hP 0 rfl rfl 10 (by decide) (hg _ wn_3_135) (fun _ h9 => h9) (congrArg some hf0_10) dn_C_read_1 ?_
  refine va_get (D := (dC, dI)) (ci := 9) (v := .ref h9) (C := rn_Circuit) (T := fn_Circuit) (N := 14) hx hb hg in_Circuit hown hK hP 8 rfl rfl 0 (by decide) (hg _ wn_3_62) (fun _ h9 => h9) (congrArg some hf6_0) dn_C_read_4 ?_
  refine lv_astore_n (lv' := [(1, .ref h9), (0, .ref h0)]) hx hb dn_C_read_7 rfl hl (by decide) rfl (fun ls hl => ?_)
  refine lv_aload_n hx hb dn_C_read_8 rfl (lv_at hl 0 rfl) ?_
  refine lv_aload_n hx hb dn_C_read_9 rfl (lv_at hl 1 rfl) ?_
  refine va_get (D := (dC, dI)) (ci := 1) (v := .int 0) (C := rn_C) (T := fn_C) (N := 11) hx hb hg in_C hown hK hP 0 rfl rfl 0 (by decide) (hg _ wn_3_125) (fun _ h9 => h9) (congrArg some hf0_0) dn_C_read_10 ?_
  have hPc := hP.sub (ws' := [(h9, .inr (10, xo_Design f7)), (h10, .inr (11, xo_Parts f8)), (h11, .inr (12, xo_Code f9)), (h12, .inl (cB, 65536, .inl (fun _ => 0)))]) [9, 10, 11, 12] rfl
  have hDc := hD.sub (ws' := [(h9, .inr (10, xo_Design f7)), (h10, .inr (11, xo_Parts f8)), (h11, .inr (12, xo_Code f9)), (h12, .inl (cB, 65536, .inl (fun _ => 0)))]) [9, 10, 11, 12] (by decide) rfl
  refine xk_callv (wr := [(h0, .inr (1, xo_C f0)), (h1, .inr (2, xo_Tokens f1)), (h2, .inl (cJ, 65537, .inr (.inl (fun _ => 0)))), (h3, .inr (3, xo_Scanner f2)), (h4, .inl (cI, 256, .inl (fun _ => 0))), (h5, .inr (4, xo_Checker f3)), (h6, .inr (5, xo_Meaning f4)), (h7, .inr (6, xo_Grammar f5)), (h8, .inr (9, xo_Circuit f6))]) (xk_runV (ar := 1) (As := [.int 0]) (rest := []) (ci := 10) (q0 := 0) ⟨hx, hb, hml, hown, hg⟩ hK hN (ct_Design_clear_0 l dC dI cI cB cJ cZ cQ H.size h9 h10 h11 h12 f7 f8 f9 hf7_0 hf7_1 hf7_2) hPc hDc rfl rfl wn_3_163 wn_3_164 wn_3_165 wn_1_10 wn_3_166 rfl rfl (by decide +kernel) ⟨Nat.le_of_ble_eq_true rfl, Nat.le_of_ble_eq_true rfl⟩ rfl hl.1 rfl (Nat.le_of_ble_eq_true rfl) dn_C_read_13 ⟨Nat.le_of_ble_eq_true rfl, Nat.le_of_ble_eq_true rfl⟩) hP hD hS hA [9, 10, 11, 12] [0, 1, 2, 3, 4, 5, 6, 7, 8] rfl rfl (by decide) (by decide) (fun _ H locs hw hP hD hS => ?_)
  have hP : va_P (dC, dI) xcl [(h0, .inr (1, xo_C f0)), (h1, .inr (2, xo_Tokens f1)), (h2, .inl (cJ, 65537, .inr (.inl (fun _ => 0)))), (h3, .inr (3, xo_Scanner f2)), (h4, .inl (cI, 256, .inl (fun _ => 0))), (h5, .inr (4, xo_Checker f3)), (h6, .inr (5, xo_Meaning f4)), (h7, .inr (6, xo_Grammar f5)), (h8, .inr (9, xo_Circuit f6)), (h9, .inr (10, xo_Design (va_up (va_up (va_up (va_up f7 3 (.int 0)) 4 (.int 0)) 12 (.int 0)) 5 (.int 0)))), (h12, .inl (cB, 65536, .inl (fun _ => 0))), (h10, .inr (11, xo_Parts (va_up (va_up (va_up f8 0 (.int 0)) 7 (.int 0)) 11 (.int 0)))), (h11, .inr (12, xo_Code (va_up (va_up f9 1 (.int 0)) 4 (.int 0))))] H := hP
  have hD : va_D A [(h0, .inr (1, xo_C f0)), (h1, .inr (2, xo_Tokens f1)), (h2, .inl (cJ, 65537, .inr (.inl (fun _ => 0)))), (h3, .inr (3, xo_Scanner f2)), (h4, .inl (cI, 256, .inl (fun _ => 0))), (h5, .inr (4, xo_Checker f3)), (h6, .inr (5, xo_Meaning f4)), (h7, .inr (6, xo_Grammar f5)), (h8, .inr (9, xo_Circuit f6)), (h9, .inr (10, xo_Design (va_up (va_up (va_up (va_up f7 3 (.int 0)) 4 (.int 0)) 12 (.int 0)) 5 (.int 0)))), (h12, .inl (cB, 65536, .inl (fun _ => 0))), (h10, .inr (11, xo_Parts (va_up (va_up (va_up f8 0 (.int 0)) 7 (.int 0)) 11 (.int 0)))), (h11, .inr (12, xo_Code (va_up (va_up f9 1 (.int 0)) 4 (.int 0))))] := hD
  refine lv_aload_n hx hb dn_C_read_16 rfl (lv_at hl 1 rfl) ?_
  refine lv_iconst (v := 0) hx hb dn_C_read_17 (by decide) ?_
  refine va_put (D := (dC, dI)) (ci := 1) (v := .int 0) (ty := .int) (C := rn_C) (T := fn_C) (N := 11) hx hb hg in_C tn_C tk_C nn_C hown hK hP hD hS 0 rfl rfl 0 (by decide) (hg _ wn_3_125) (fun _ h9 => h9) rfl (tk_C 0 (by decide)) rfl rfl (Nat.le_of_ble_eq_true rfl) dn_C_read_18 (fun H locs hP hD hS => ?_)
  have hP : va_P (dC, dI) xcl [(h0, .inr (1, xo_C (va_up f0 0 (.int 0)))), (h1, .inr (2, xo_Tokens f1)), (h2, .inl (cJ, 65537, .inr (.inl (fun _ => 0)))), (h3, .inr (3, xo_Scanner f2)), (h4, .inl (cI, 256, .inl (fun _ => 0))), (h5, .inr (4, xo_Checker f3)), (h6, .inr (5, xo_Meaning f4)), (h7, .inr (6, xo_Grammar f5)), (h8, .inr (9, xo_Circuit f6)), (h9, .inr (10, xo_Design (va_up (va_up (va_up (va_up f7 3 (.int 0)) 4 (.int 0)) 12 (.int 0)) 5 (.int 0)))), (h12, .inl (cB, 65536, .inl (fun _ => 0))), (h10, .inr (11, xo_Parts (va_up (va_up (va_up f8 0 (.int 0)) 7 (.int 0)) 11 (.int 0)))), (h11, .inr (12, xo_Code (va_up (va_up f9 1 (.int 0)) 4 (.int 0))))] H := hP
  have hD : va_D A [(h0, .inr (1, xo_C (va_up f0 0 (.int 0)))), (h1, .inr (2, xo_Tokens f1)), (h2, .inl (cJ, 65537, .inr (.inl (fun _ => 0)))), (h3, .inr (3, xo_Scanner f2)), (h4, .inl (cI, 256, .inl (fun _ => 0))), (h5, .inr (4, xo_Checker f3)), (h6, .inr (5, xo_Meaning f4)), (h7, .inr (6, xo_Grammar f5)), (h8, .inr (9, xo_Circuit f6)), (h9, .inr (10, xo_Design (va_up (va_up (va_up (va_up f7 3 (.int 0)) 4 (.int 0)) 12 (.int 0)) 5 (.int 0)))), (h12, .inl (cB, 65536, .inl (fun _ => 0))), (h10, .inr (11, xo_Parts (va_up (va_up (va_up f8 0 (.int 0)) 7 (.int 0)) 11 (.int 0)))), (h11, .inr (12, xo_Code (va_up (va_up f9 1 (.int 0)) 4 (.int 0))))] := hD
  refine lv_aload_n hx hb dn_C_read_21 rfl (lv_at hl 1 rfl) ?_
  refine va_get (D := (dC, dI)) (ci := 1) (v := .ref h3) (C := rn_C) (T := fn_C) (N := 11) hx hb hg in_C hown hK hP 0 rfl rfl 3 (by decide) (hg _ wn_3_128) (fun _ h9 => h9) (congrArg some hf0_3) dn_C_read_22 ?_
  refine lv_aload_n hx hb dn_C_read_25 rfl (lv_at hl 0 rfl) ?_
  have hPc := hP.sub (ws' := [(h1, .inr (2, xo_Tokens f1)), (h2, .inl (cJ, 65537, .inr (.inl (fun _ => 0)))), (h3, .inr (3, xo_Scanner f2)), (h4, .inl (cI, 256, .inl (fun _ => 0))), (h9, .inr (10, xo_Design (va_up (va_up (va_up (va_up f7 3 (.int 0)) 4 (.int 0)) 12 (.int 0)) 5 (.int 0)))), (h12, .inl (cB, 65536, .inl (fun _ => 0)))]) [1, 2, 3, 4, 9, 10] rfl
  have hDc := hD.sub (ws' := [(h1, .inr (2, xo_Tokens f1)), (h2, .inl (cJ, 65537, .inr (.inl (fun _ => 0)))), (h3, .inr (3, xo_Scanner f2)), (h4, .inl (cI, 256, .inl (fun _ => 0))), (h9, .inr (10, xo_Design (va_up (va_up (va_up (va_up f7 3 (.int 0)) 4 (.int 0)) 12 (.int 0)) 5 (.int 0)))), (h12, .inl (cB, 65536, .inl (fun _ => 0)))]) [1, 2, 3, 4, 9, 10] (by decide) rfl
  refine xk_callv (wr := [(h0, .inr (1, xo_C (va_up f0 0 (.int 0)))), (h5, .inr (4, xo_Checker f3)), (h6, .inr (5, xo_Meaning f4)), (h7, .inr (6, xo_Grammar f5)), (h8, .inr (9, xo_Circuit f6)), (h10, .inr (11, xo_Parts (va_up (va_up (va_up f8 0 (.int 0)) 7 (.int 0)) 11 (.int 0)))), (h11, .inr (12, xo_Code (va_up (va_up f9 1 (.int 0)) 4 (.int 0))))]) (xk_runV (ar := 1) (As := [.ref h9]) (rest := []) (ci := 3) (q0 := 2) ⟨hx, hb, hml, hown, hg⟩ hK hN (ct_Scanner_scan_0 l dC dI cI cB cJ cZ cQ H.size h1 h2 h3 h4 h9 h12 f1 f2 (va_up (va_up (va_up (va_up f7 3 (.int 0)) 4 (.int 0)) 12 (.int 0)) 5 (.int 0)) h11 hf1_0 hf2_0 hf2_4 hf7_1 hf7_2 (show (va_up (va_up (va_up (va_up f7 3 (.int 0)) 4 (.int 0)) 12 (.int 0)) 5 (.int 0)) 3 = .int 0 from rfl)) hPc hDc rfl rfl wn_3_178 wn_3_179 wn_3_180 wn_1_3 wn_3_181 rfl rfl (by decide +kernel) ⟨Nat.le_of_ble_eq_true rfl, Nat.le_of_ble_eq_true rfl⟩ rfl hl.1 rfl (Nat.le_of_ble_eq_true rfl) dn_C_read_26 ⟨Nat.le_of_ble_eq_true rfl, Nat.le_of_ble_eq_true rfl⟩) hP hD hS hA [1, 2, 3, 4, 9, 10] [0, 5, 6, 7, 8, 11, 12] rfl rfl (by decide) (by decide) (fun _ H locs hw hP hD hS => ?_)
  have hP : va_P (dC, dI) xcl [(h0, .inr (1, xo_C (va_up f0 0 (.int 0)))), (h5, .inr (4, xo_Checker f3)), (h6, .inr (5, xo_Meaning f4)), (h7, .inr (6, xo_Grammar f5)), (h8, .inr (9, xo_Circuit f6)), (h10, .inr (11, xo_Parts (va_up (va_up (va_up f8 0 (.int 0)) 7 (.int 0)) 11 (.int 0)))), (h11, .inr (12, xo_Code (va_up (va_up f9 1 (.int 0)) 4 (.int 0)))), (h3, .inr (3, xo_Scanner (va_up (va_up (va_up (va_up f2 1 (.ref h12)) 2 (.int 0)) 3 (.ref h11)) 8 (.int 0)))), (h9, .inr (10, xo_Design ((va_up (va_up (va_up (va_up f7 3 (.int 0)) 4 (.int 0)) 12 (.int 0)) 5 (.int 0))))), (h12, .inl (cB, 65536, .inl (fun _ => 0))), (h4, .inl (cI, 256, .inl (xk_fillv 256 ((-1)) (fun _ => 0)))), (h2, .inl (cJ, 65537, .inr (.inl (vp_updL (fun _ => 0) 0 0)))), (h1, .inr (2, xo_Tokens (va_up (va_up f1 1 (.int 0)) 1 (.int 1))))] H := hP
  have hD : va_D A [(h0, .inr (1, xo_C (va_up f0 0 (.int 0)))), (h5, .inr (4, xo_Checker f3)), (h6, .inr (5, xo_Meaning f4)), (h7, .inr (6, xo_Grammar f5)), (h8, .inr (9, xo_Circuit f6)), (h10, .inr (11, xo_Parts (va_up (va_up (va_up f8 0 (.int 0)) 7 (.int 0)) 11 (.int 0)))), (h11, .inr (12, xo_Code (va_up (va_up f9 1 (.int 0)) 4 (.int 0)))), (h3, .inr (3, xo_Scanner (va_up (va_up (va_up (va_up f2 1 (.ref h12)) 2 (.int 0)) 3 (.ref h11)) 8 (.int 0)))), (h9, .inr (10, xo_Design ((va_up (va_up (va_up (va_up f7 3 (.int 0)) 4 (.int 0)) 12 (.int 0)) 5 (.int 0))))), (h12, .inl (cB, 65536, .inl (fun _ => 0))), (h4, .inl (cI, 256, .inl (xk_fillv 256 ((-1)) (fun _ => 0)))), (h2, .inl (cJ, 65537, .inr (.inl (vp_updL (fun _ => 0) 0 0)))), (h1, .inr (2, xo_Tokens (va_up (va_up f1 1 (.int 0)) 1 (.int 1))))] := hD
  refine lv_aload_n hx hb dn_C_read_29 rfl (lv_at hl 1 rfl) ?_
  refine va_get (D := (dC, dI)) (ci := 1) (v := .ref h7) (C := rn_C) (T := fn_C) (N := 11) hx hb hg in_C hown hK hP 0 rfl rfl 5 (by decide) (hg _ wn_3_130) (fun _ h9 => h9) (congrArg some hf0_5) dn_C_read_30 ?_
  refine lv_aload_n hx hb dn_C_read_33 rfl (lv_at hl 0 rfl) ?_
  refine lv_aload_n hx hb dn_C_read_34 rfl (lv_at hl 1 rfl) ?_
  refine va_get (D := (dC, dI)) (ci := 1) (v := .ref h3) (C := rn_C) (T := fn_C) (N := 11) hx hb hg in_C hown hK hP 0 rfl rfl 3 (by decide) (hg _ wn_3_128) (fun _ h9 => h9) (congrArg some hf0_3) dn_C_read_35 ?_
  refine va_get (D := (dC, dI)) (ci := 3) (v := .int 0) (C := rn_Scanner) (T := fn_Scanner) (N := 9) hx hb hg in_Scanner hown hK hP 7 rfl rfl 8 (by decide) (hg _ wn_1_98) (fun _ h9 => h9) rfl dn_C_read_38 ?_
  have hPc := hP.sub (ws' := [(h5, .inr (4, xo_Checker f3)), (h6, .inr (5, xo_Meaning f4)), (h7, .inr (6, xo_Grammar f5)), (h9, .inr (10, xo_Design ((va_up (va_up (va_up (va_up f7 3 (.int 0)) 4 (.int 0)) 12 (.int 0)) 5 (.int 0))))), (h2, .inl (cJ, 65537, .inr (.inl (vp_updL (fun _ => 0) 0 0)))), (h1, .inr (2, xo_Tokens (va_up (va_up f1 1 (.int 0)) 1 (.int 1))))]) [1, 2, 3, 8, 11, 12] rfl
  have hDc := hD.sub (ws' := [(h5, .inr (4, xo_Checker f3)), (h6, .inr (5, xo_Meaning f4)), (h7, .inr (6, xo_Grammar f5)), (h9, .inr (10, xo_Design ((va_up (va_up (va_up (va_up f7 3 (.int 0)) 4 (.int 0)) 12 (.int 0)) 5 (.int 0))))), (h2, .inl (cJ, 65537, .inr (.inl (vp_updL (fun _ => 0) 0 0)))), (h1, .inr (2, xo_Tokens (va_up (va_up f1 1 (.int 0)) 1 (.int 1))))]) [1, 2, 3, 8, 11, 12] (by decide) rfl
  refine xk_callv (wr := [(h0, .inr (1, xo_C (va_up f0 0 (.int 0)))), (h8, .inr (9, xo_Circuit f6)), (h10, .inr (11, xo_Parts (va_up (va_up (va_up f8 0 (.int 0)) 7 (.int 0)) 11 (.int 0)))), (h11, .inr (12, xo_Code (va_up (va_up f9 1 (.int 0)) 4 (.int 0)))), (h3, .inr (3, xo_Scanner (va_up (va_up (va_up (va_up f2 1 (.ref h12)) 2 (.int 0)) 3 (.ref h11)) 8 (.int 0)))), (h12, .inl (cB, 65536, .inl (fun _ => 0))), (h4, .inl (cI, 256, .inl (xk_fillv 256 ((-1)) (fun _ => 0))))]) (xk_runV (ar := 2) (As := [.ref h9, .int 0]) (rest := []) (ci := 6) (q0 := 2) ⟨hx, hb, hml, hown, hg⟩ hK hN (ct_Grammar_parse_0 l dC dI cI cB cJ cZ cQ H.size h5 h6 h7 h9 h2 h1 f3 f4 f5 ((va_up (va_up (va_up (va_up f7 3 (.int 0)) 4 (.int 0)) 12 (.int 0)) 5 (.int 0))) h10 h11 (vp_updL (fun _ => 0) 0 0) (va_up (va_up f1 1 (.int 0)) 1 (.int 1)) hf3_0 hf4_0 hf5_0 hf5_1 hf5_2 hf7_0 hf7_1 (show (vp_updL (fun _ => 0) 0 0) 0 = 0 from rfl) hf1_0 (show (va_up (va_up f1 1 (.int 0)) 1 (.int 1)) 1 = .int 1 from rfl)) hPc hDc rfl rfl wn_4_140 wn_4_141 wn_4_142 wn_1_5 wn_4_143 rfl rfl (by decide +kernel) ⟨Nat.le_of_ble_eq_true rfl, Nat.le_of_ble_eq_true rfl⟩ rfl hl.1 rfl (Nat.le_of_ble_eq_true rfl) dn_C_read_41 ⟨Nat.le_of_ble_eq_true rfl, Nat.le_of_ble_eq_true rfl⟩) hP hD hS hA [1, 2, 3, 8, 11, 12] [0, 4, 5, 6, 7, 9, 10] rfl rfl (by decide) (by decide) (fun _ H locs hw hP hD hS => ?_)
  have hP : va_P (dC, dI) xcl [(h0, .inr (1, xo_C (va_up f0 0 (.int 0)))), (h8, .inr (9, xo_Circuit f6)), (h10, .inr (11, xo_Parts (va_up (va_up (va_up f8 0 (.int 0)) 7 (.int 0)) 11 (.int 0)))), (h11, .inr (12, xo_Code (va_up (va_up f9 1 (.int 0)) 4 (.int 0)))), (h3, .inr (3, xo_Scanner (va_up (va_up (va_up (va_up f2 1 (.ref h12)) 2 (.int 0)) 3 (.ref h11)) 8 (.int 0)))), (h12, .inl (cB, 65536, .inl (fun _ => 0))), (h4, .inl (cI, 256, .inl (xk_fillv 256 ((-1)) (fun _ => 0)))), (h2, .inl (cJ, 65537, .inr (.inl ((vp_updL (fun _ => 0) 0 0))))), (h9, .inr (10, xo_Design (((va_up (va_up (va_up (va_up f7 3 (.int 0)) 4 (.int 0)) 12 (.int 0)) 5 (.int 0)))))), (h7, .inr (6, xo_Grammar (va_up (va_up (va_up (va_up f5 14 (.int 0)) 10 (.int 0)) 3 (.int 0)) 3 (.int 2)))), (h6, .inr (5, xo_Meaning ((va_up (va_up (va_up (va_up (va_up (va_up f4 1 (.ref h9)) 2 (.ref h10)) 3 (.ref h11)) 4 (.int 1)) 9 (.int 0)) 16 (.int 0))))), (h5, .inr (4, xo_Checker ((va_up (va_up (va_up (va_up (va_up (va_up f3 1 (.ref h10)) 2 (.ref h11)) 3 (.int (-1))) 13 (.int 0)) 14 (.int (-1))) 10 (.int 0))))), (h1, .inr (2, xo_Tokens (((va_up (((((va_up (va_up (va_up (va_up ((va_up (va_up ((va_up (va_up (va_up (va_up (va_up (va_up (va_up f1 1 (.int 0)) 1 (.int 1)) 2 (.int (-1))) 8 (.int 0)) 6 (.int 0)) 7 (.int (-1))) 2 (.int 0))) 3 (.int 0)) 4 (.int 0))) 5 (.int (-1))) 6 (.int 2)) 7 (.int 0)) 3 (.int (-1))))))) 8 (.int (-1)))))))] H := hP
  have hD : va_D A [(h0, .inr (1, xo_C (va_up f0 0 (.int 0)))), (h8, .inr (9, xo_Circuit f6)), (h10, .inr (11, xo_Parts (va_up (va_up (va_up f8 0 (.int 0)) 7 (.int 0)) 11 (.int 0)))), (h11, .inr (12, xo_Code (va_up (va_up f9 1 (.int 0)) 4 (.int 0)))), (h3, .inr (3, xo_Scanner (va_up (va_up (va_up (va_up f2 1 (.ref h12)) 2 (.int 0)) 3 (.ref h11)) 8 (.int 0)))), (h12, .inl (cB, 65536, .inl (fun _ => 0))), (h4, .inl (cI, 256, .inl (xk_fillv 256 ((-1)) (fun _ => 0)))), (h2, .inl (cJ, 65537, .inr (.inl ((vp_updL (fun _ => 0) 0 0))))), (h9, .inr (10, xo_Design (((va_up (va_up (va_up (va_up f7 3 (.int 0)) 4 (.int 0)) 12 (.int 0)) 5 (.int 0)))))), (h7, .inr (6, xo_Grammar (va_up (va_up (va_up (va_up f5 14 (.int 0)) 10 (.int 0)) 3 (.int 0)) 3 (.int 2)))), (h6, .inr (5, xo_Meaning ((va_up (va_up (va_up (va_up (va_up (va_up f4 1 (.ref h9)) 2 (.ref h10)) 3 (.ref h11)) 4 (.int 1)) 9 (.int 0)) 16 (.int 0))))), (h5, .inr (4, xo_Checker ((va_up (va_up (va_up (va_up (va_up (va_up f3 1 (.ref h10)) 2 (.ref h11)) 3 (.int (-1))) 13 (.int 0)) 14 (.int (-1))) 10 (.int 0))))), (h1, .inr (2, xo_Tokens (((va_up (((((va_up (va_up (va_up (va_up ((va_up (va_up ((va_up (va_up (va_up (va_up (va_up (va_up (va_up f1 1 (.int 0)) 1 (.int 1)) 2 (.int (-1))) 8 (.int 0)) 6 (.int 0)) 7 (.int (-1))) 2 (.int 0))) 3 (.int 0)) 4 (.int 0))) 5 (.int (-1))) 6 (.int 2)) 7 (.int 0)) 3 (.int (-1))))))) 8 (.int (-1)))))))] := hD
  refine lv_aload_n hx hb dn_C_read_44 rfl (lv_at hl 1 rfl) ?_
  refine va_get (D := (dC, dI)) (ci := 1) (v := .ref h1) (C := rn_C) (T := fn_C) (N := 11) hx hb hg in_C hown hK hP 0 rfl rfl 2 (by decide) (hg _ wn_3_127) (fun _ h9 => h9) (congrArg some hf0_2) dn_C_read_45 ?_
  refine va_get (D := (dC, dI)) (ci := 2) (v := .int 0) (C := rn_Tokens) (T := fn_Tokens) (N := 9) hx hb hg in_Tokens hown hK hP 12 rfl rfl 7 (by decide) (hg _ wn_1_61) (fun _ h9 => h9) rfl dn_C_read_48 ?_
  refine lv_istore_n (lv' := [(2, .int 0), (1, .ref h9), (0, .ref h0)]) hx hb dn_C_read_51 rfl hl (by decide) rfl (fun ls hl => ?_)
  refine lv_aload_n hx hb dn_C_read_52 rfl (lv_at hl 2 rfl) ?_
  refine lv_aload_n hx hb dn_C_read_53 rfl (lv_at hl 2 rfl) ?_
  refine va_get (D := (dC, dI)) (ci := 1) (v := .ref h1) (C := rn_C) (T := fn_C) (N := 11) hx hb hg in_C hown hK hP 0 rfl rfl 2 (by decide) (hg _ wn_3_127) (fun _ h9 => h9) (congrArg some hf0_2) dn_C_read_54 ?_
  refine va_get (D := (dC, dI)) (ci := 2) (v := .int 2) (C := rn_Tokens) (T := fn_Tokens) (N := 9) hx hb hg in_Tokens hown hK hP 12 rfl rfl 6 (by decide) (hg _ wn_1_59) (fun _ h9 => h9) rfl dn_C_read_57 ?_
  refine va_put (D := (dC, dI)) (ci := 1) (v := .int 2) (ty := .int) (C := rn_C) (T := fn_C) (N := 11) hx hb hg in_C tn_C tk_C nn_C hown hK hP hD hS 0 rfl rfl 1 (by decide) (hg _ wn_3_126) (fun _ h9 => h9) rfl (tk_C 1 (by decide)) rfl rfl (Nat.le_of_ble_eq_true rfl) dn_C_read_60 (fun H locs hP hD hS => ?_)
  have hP : va_P (dC, dI) xcl [(h0, .inr (1, xo_C (va_up (va_up f0 0 (.int 0)) 1 (.int 2)))), (h8, .inr (9, xo_Circuit f6)), (h10, .inr (11, xo_Parts (va_up (va_up (va_up f8 0 (.int 0)) 7 (.int 0)) 11 (.int 0)))), (h11, .inr (12, xo_Code (va_up (va_up f9 1 (.int 0)) 4 (.int 0)))), (h3, .inr (3, xo_Scanner (va_up (va_up (va_up (va_up f2 1 (.ref h12)) 2 (.int 0)) 3 (.ref h11)) 8 (.int 0)))), (h12, .inl (cB, 65536, .inl (fun _ => 0))), (h4, .inl (cI, 256, .inl (xk_fillv 256 ((-1)) (fun _ => 0)))), (h2, .inl (cJ, 65537, .inr (.inl ((vp_updL (fun _ => 0) 0 0))))), (h9, .inr (10, xo_Design (((va_up (va_up (va_up (va_up f7 3 (.int 0)) 4 (.int 0)) 12 (.int 0)) 5 (.int 0)))))), (h7, .inr (6, xo_Grammar (va_up (va_up (va_up (va_up f5 14 (.int 0)) 10 (.int 0)) 3 (.int 0)) 3 (.int 2)))), (h6, .inr (5, xo_Meaning ((va_up (va_up (va_up (va_up (va_up (va_up f4 1 (.ref h9)) 2 (.ref h10)) 3 (.ref h11)) 4 (.int 1)) 9 (.int 0)) 16 (.int 0))))), (h5, .inr (4, xo_Checker ((va_up (va_up (va_up (va_up (va_up (va_up f3 1 (.ref h10)) 2 (.ref h11)) 3 (.int (-1))) 13 (.int 0)) 14 (.int (-1))) 10 (.int 0))))), (h1, .inr (2, xo_Tokens (((va_up (((((va_up (va_up (va_up (va_up ((va_up (va_up ((va_up (va_up (va_up (va_up (va_up (va_up (va_up f1 1 (.int 0)) 1 (.int 1)) 2 (.int (-1))) 8 (.int 0)) 6 (.int 0)) 7 (.int (-1))) 2 (.int 0))) 3 (.int 0)) 4 (.int 0))) 5 (.int (-1))) 6 (.int 2)) 7 (.int 0)) 3 (.int (-1))))))) 8 (.int (-1)))))))] H := hP
  have hD : va_D A [(h0, .inr (1, xo_C (va_up (va_up f0 0 (.int 0)) 1 (.int 2)))), (h8, .inr (9, xo_Circuit f6)), (h10, .inr (11, xo_Parts (va_up (va_up (va_up f8 0 (.int 0)) 7 (.int 0)) 11 (.int 0)))), (h11, .inr (12, xo_Code (va_up (va_up f9 1 (.int 0)) 4 (.int 0)))), (h3, .inr (3, xo_Scanner (va_up (va_up (va_up (va_up f2 1 (.ref h12)) 2 (.int 0)) 3 (.ref h11)) 8 (.int 0)))), (h12, .inl (cB, 65536, .inl (fun _ => 0))), (h4, .inl (cI, 256, .inl (xk_fillv 256 ((-1)) (fun _ => 0)))), (h2, .inl (cJ, 65537, .inr (.inl ((vp_updL (fun _ => 0) 0 0))))), (h9, .inr (10, xo_Design (((va_up (va_up (va_up (va_up f7 3 (.int 0)) 4 (.int 0)) 12 (.int 0)) 5 (.int 0)))))), (h7, .inr (6, xo_Grammar (va_up (va_up (va_up (va_up f5 14 (.int 0)) 10 (.int 0)) 3 (.int 0)) 3 (.int 2)))), (h6, .inr (5, xo_Meaning ((va_up (va_up (va_up (va_up (va_up (va_up f4 1 (.ref h9)) 2 (.ref h10)) 3 (.ref h11)) 4 (.int 1)) 9 (.int 0)) 16 (.int 0))))), (h5, .inr (4, xo_Checker ((va_up (va_up (va_up (va_up (va_up (va_up f3 1 (.ref h10)) 2 (.ref h11)) 3 (.int (-1))) 13 (.int 0)) 14 (.int (-1))) 10 (.int 0))))), (h1, .inr (2, xo_Tokens (((va_up (((((va_up (va_up (va_up (va_up ((va_up (va_up ((va_up (va_up (va_up (va_up (va_up (va_up (va_up f1 1 (.int 0)) 1 (.int 1)) 2 (.int (-1))) 8 (.int 0)) 6 (.int 0)) 7 (.int (-1))) 2 (.int 0))) 3 (.int 0)) 4 (.int 0))) 5 (.int (-1))) 6 (.int 2)) 7 (.int 0)) 3 (.int (-1))))))) 8 (.int (-1)))))))] := hD
  refine lv_aload_n hx hb dn_C_read_63 rfl (lv_at hl 2 rfl) ?_
  refine va_get (D := (dC, dI)) (ci := 1) (v := .int 2) (C := rn_C) (T := fn_C) (N := 11) hx hb hg in_C hown hK hP 0 rfl rfl 1 (by decide) (hg _ wn_3_126) (fun _ h9 => h9) rfl dn_C_read_64 ?_
  refine lv_if_ne (tgt := 89) hx hb dn_C_read_67 (by decide) (fun _ => ?_) (fun h9 => absurd h9 (by decide))
  refine lv_aload_n hx hb dn_C_read_89 rfl (lv_at hl 2 rfl) ?_
  refine va_get (D := (dC, dI)) (ci := 1) (v := .int 2) (C := rn_C) (T := fn_C) (N := 11) hx hb hg in_C hown hK hP 0 rfl rfl 1 (by decide) (hg _ wn_3_126) (fun _ h9 => h9) rfl dn_C_read_90 ?_
  refine lv_if_ne (tgt := 109) hx hb dn_C_read_93 (by decide) (fun _ => ?_) (fun h9 => absurd h9 (by decide))
  refine lv_aload_n hx hb dn_C_read_109 rfl (lv_at hl 2 rfl) ?_
  refine va_get (D := (dC, dI)) (ci := 1) (v := .int 2) (C := rn_C) (T := fn_C) (N := 11) hx hb hg in_C hown hK hP 0 rfl rfl 1 (by decide) (hg _ wn_3_126) (fun _ h9 => h9) rfl dn_C_read_110 ?_
  refine lv_if_ne (tgt := 159) hx hb dn_C_read_113 (by decide) (fun _ => ?_) (fun h9 => absurd h9 (by decide))
  refine lv_aload_n hx hb dn_C_read_159 rfl (lv_at hl 2 rfl) ?_
  refine va_get (D := (dC, dI)) (ci := 1) (v := .int 2) (C := rn_C) (T := fn_C) (N := 11) hx hb hg in_C hown hK hP 0 rfl rfl 1 (by decide) (hg _ wn_3_126) (fun _ h9 => h9) rfl dn_C_read_160 ?_
  refine lv_if_eq (tgt := 168) hx hb dn_C_read_163 (by decide) (fun h9 => absurd h9 (by decide)) (fun _ => ?_)
  refine lv_iload_n hx hb dn_C_read_166 rfl (lv_at hl 0 rfl) ?_
  have hP9 := hP.sub (ws' := [(h0, .inr (1, xo_C (va_up (va_up f0 0 (.int 0)) 1 (.int 2)))), (h8, .inr (9, xo_Circuit f6)), (h10, .inr (11, xo_Parts (va_up (va_up (va_up f8 0 (.int 0)) 7 (.int 0)) 11 (.int 0)))), (h11, .inr (12, xo_Code (va_up (va_up f9 1 (.int 0)) 4 (.int 0)))), (h3, .inr (3, xo_Scanner (va_up (va_up (va_up (va_up f2 1 (.ref h12)) 2 (.int 0)) 3 (.ref h11)) 8 (.int 0)))), (h12, .inl (cB, 65536, .inl (fun _ => 0))), (h4, .inl (cI, 256, .inl (xk_fillv 256 ((-1)) (fun _ => 0)))), (h2, .inl (cJ, 65537, .inr (.inl ((vp_updL (fun _ => 0) 0 0))))), (h9, .inr (10, xo_Design (((va_up (va_up (va_up (va_up f7 3 (.int 0)) 4 (.int 0)) 12 (.int 0)) 5 (.int 0)))))), (h7, .inr (6, xo_Grammar (va_up (va_up (va_up (va_up f5 14 (.int 0)) 10 (.int 0)) 3 (.int 0)) 3 (.int 2)))), (h6, .inr (5, xo_Meaning ((va_up (va_up (va_up (va_up (va_up (va_up f4 1 (.ref h9)) 2 (.ref h10)) 3 (.ref h11)) 4 (.int 1)) 9 (.int 0)) 16 (.int 0))))), (h5, .inr (4, xo_Checker ((va_up (va_up (va_up (va_up (va_up (va_up f3 1 (.ref h10)) 2 (.ref h11)) 3 (.int (-1))) 13 (.int 0)) 14 (.int (-1))) 10 (.int 0))))), (h1, .inr (2, xo_Tokens (((va_up (((((va_up (va_up (va_up (va_up ((va_up (va_up ((va_up (va_up (va_up (va_up (va_up (va_up (va_up f1 1 (.int 0)) 1 (.int 1)) 2 (.int (-1))) 8 (.int 0)) 6 (.int 0)) 7 (.int (-1))) 2 (.int 0))) 3 (.int 0)) 4 (.int 0))) 5 (.int (-1))) 6 (.int 2)) 7 (.int 0)) 3 (.int (-1))))))) 8 (.int (-1)))))))]) [0, 1, 2, 3, 4, 5, 6, 7, 8, 9, 10, 11, 12] rfl
  have hD9 := hD.sub (ws' := [(h0, .inr (1, xo_C (va_up (va_up f0 0 (.int 0)) 1 (.int 2)))), (h8, .inr (9, xo_Circuit f6)), (h10, .inr (11, xo_Parts (va_up (va_up (va_up f8 0 (.int 0)) 7 (.int 0)) 11 (.int 0)))), (h11, .inr (12, xo_Code (va_up (va_up f9 1 (.int 0)) 4 (.int 0)))), (h3, .inr (3, xo_Scanner (va_up (va_up (va_up (va_up f2 1 (.ref h12)) 2 (.int 0)) 3 (.ref h11)) 8 (.int 0)))), (h12, .inl (cB, 65536, .inl (fun _ => 0))), (h4, .inl (cI, 256, .inl (xk_fillv 256 ((-1)) (fun _ => 0)))), (h2, .inl (cJ, 65537, .inr (.inl ((vp_updL (fun _ => 0) 0 0))))), (h9, .inr (10, xo_Design (((va_up (va_up (va_up (va_up f7 3 (.int 0)) 4 (.int 0)) 12 (.int 0)) 5 (.int 0)))))), (h7, .inr (6, xo_Grammar (va_up (va_up (va_up (va_up f5 14 (.int 0)) 10 (.int 0)) 3 (.int 0)) 3 (.int 2)))), (h6, .inr (5, xo_Meaning ((va_up (va_up (va_up (va_up (va_up (va_up f4 1 (.ref h9)) 2 (.ref h10)) 3 (.ref h11)) 4 (.int 1)) 9 (.int 0)) 16 (.int 0))))), (h5, .inr (4, xo_Checker ((va_up (va_up (va_up (va_up (va_up (va_up f3 1 (.ref h10)) 2 (.ref h11)) 3 (.int (-1))) 13 (.int 0)) 14 (.int (-1))) 10 (.int 0))))), (h1, .inr (2, xo_Tokens (((va_up (((((va_up (va_up (va_up (va_up ((va_up (va_up ((va_up (va_up (va_up (va_up (va_up (va_up (va_up f1 1 (.int 0)) 1 (.int 1)) 2 (.int (-1))) 8 (.int 0)) 6 (.int 0)) 7 (.int (-1))) 2 (.int 0))) 3 (.int 0)) 4 (.int 0))) 5 (.int (-1))) 6 (.int 2)) 7 (.int 0)) 3 (.int (-1))))))) 8 (.int (-1)))))))]) [0, 1, 2, 3, 4, 5, 6, 7, 8, 9, 10, 11, 12] (by decide) rfl
  exact xk_iret (w1 := fun u : Unit => [(h0, .inr (1, xo_C (va_up (va_up f0 0 (.int 0)) 1 (.int 2)))), (h8, .inr (9, xo_Circuit f6)), (h10, .inr (11, xo_Parts (va_up (va_up (va_up f8 0 (.int 0)) 7 (.int 0)) 11 (.int 0)))), (h11, .inr (12, xo_Code (va_up (va_up f9 1 (.int 0)) 4 (.int 0)))), (h3, .inr (3, xo_Scanner (va_up (va_up (va_up (va_up f2 1 (.ref h12)) 2 (.int 0)) 3 (.ref h11)) 8 (.int 0)))), (h12, .inl (cB, 65536, .inl (fun _ => 0))), (h4, .inl (cI, 256, .inl (xk_fillv 256 ((-1)) (fun _ => 0)))), (h2, .inl (cJ, 65537, .inr (.inl ((vp_updL (fun _ => 0) 0 0))))), (h9, .inr (10, xo_Design (((va_up (va_up (va_up (va_up f7 3 (.int 0)) 4 (.int 0)) 12 (.int 0)) 5 (.int 0)))))), (h7, .inr (6, xo_Grammar (va_up (va_up (va_up (va_up f5 14 (.int 0)) 10 (.int 0)) 3 (.int 0)) 3 (.int 2)))), (h6, .inr (5, xo_Meaning ((va_up (va_up (va_up (va_up (va_up (va_up f4 1 (.ref h9)) 2 (.ref h10)) 3 (.ref h11)) 4 (.int 1)) 9 (.int 0)) 16 (.int 0))))), (h5, .inr (4, xo_Checker ((va_up (va_up (va_up (va_up (va_up (va_up f3 1 (.ref h10)) 2 (.ref h11)) 3 (.int (-1))) 13 (.int 0)) 14 (.int (-1))) 10 (.int 0))))), (h1, .inr (2, xo_Tokens (((va_up (((((va_up (va_up (va_up (va_up ((va_up (va_up ((va_up (va_up (va_up (va_up (va_up (va_up (va_up f1 1 (.int 0)) 1 (.int 1)) 2 (.int (-1))) 8 (.int 0)) 6 (.int 0)) 7 (.int (-1))) 2 (.int 0))) 3 (.int 0)) 4 (.int 0))) 5 (.int (-1))) 6 (.int 2)) 7 (.int 0)) 3 (.int (-1))))))) 8 (.int (-1)))))))]) () hx hb hr hlocks hK hS dn_C_read_167 hP9 hD9 rfl (Nat.le_refl _) (Nat.le_refl _)
set_option maxHeartbeats 4000000 in
set_option maxRecDepth 100000 in
theorem ct_C_fault_0 (l : Launch) (dC : Nat → ClassId) (dI : Nat → Nat → Nat) (cI cB cJ cZ cQ : ClassId) (sz : Nat) (h0 : Nat) (f0 : Nat → Value) (hf0_1 : f0 1 = .int 0) : Met l yn_C_fault (xw yn_C_fault bn_C_fault 1 (some .int)) ({ frames := 0, cells := 0, slots := 0, locals := 0 }) (xk_P (dC, dI) xcl (xt cI cB cJ cZ cQ) [.ref h0] sz [(h0, .inr (1, xo_C f0))]) (xk_Qi (dC, dI) xcl (xt cI cB cJ cZ cQ) (fun (r : Int32) (u : Unit) => r = 0) (fun u : Unit => [(h0, .inr (1, xo_C f0))]) (va_A [(h0, .inr (1, xo_C f0))] sz)) 0 0 (va_A [(h0, .inr (1, xo_C f0))] sz) := by
  refine xk_of (QA := xk_Qi (dC, dI) xcl (xt cI cB cJ cZ cQ) (fun (r : Int32) (u : Unit) => r = 0) (fun u : Unit => [(h0, .inr (1, xo_C f0))])) (by decide) (Nat.le_of_ble_eq_true rfl) ?_
  intro p e s m below meth c hx hb hml hown hg hr hlocks hin hP hK hN A hA hD hS ls hl
  have hown : s.vm.findClass rn_C = some m.cls := hown
  have hl : lv_has ls 1 [(0, .ref h0)] := hl
  obtain ⟨H, hH⟩ : ∃ z, z = s.heap := ⟨_, rfl⟩
  rw [← hH] at hP
  have hS : va_S A s.heap H [] := by rw [hH]; exact va_S.rf
  suffices kk : W p l e ({ frames := 0, cells := 0, slots := 0, locals := 0 }) s m [.ref h0].toArray below meth c H [] 0 0 (MQ below (xk_Qi (dC, dI) xcl (xt cI cB cJ cZ cQ) (fun (r : Int32) (u : Unit) => r = 0) (fun u : Unit => [(h0, .inr (1, xo_C f0))]) A) [.ref h0].toArray s 0 0 A) (F0 m 0 ls []) by rw [hH] at kk; exact kk
  refine lv_aload_n hx hb dn_C_fault_0 rfl (lv_at hl 0 rfl) ?_
  refine va_get (D := (dC, dI)) (ci := 1) (v := .int 0) (C := rn_C) (T := fn_C) (N := 11) hx hb hg in_C hown hK hP 0 rfl rfl 1 (by decide) (hg _ wn_3_126) (fun _ h9 => h9) (congrArg some hf0_1) dn_C_fault_1 ?_
  have hP9 := hP.sub (ws' := [(h0, .inr (1, xo_C f0))]) [0] rfl
  have hD9 := hD.sub (ws' := [(h0, .inr (1, xo_C f0))]) [0] (by decide) rfl
  exact xk_iret (w1 := fun u : Unit => [(h0, .inr (1, xo_C f0))]) () hx hb hr hlocks hK hS dn_C_fault_4 hP9 hD9 rfl (Nat.le_refl _) (Nat.le_refl _)
set_option maxHeartbeats 4000000 in
set_option maxRecDepth 100000 in
theorem ct_M_thrown_3 (l : Launch) (dC : Nat → ClassId) (dI : Nat → Nat → Nat) (cI cB cJ cZ cQ : ClassId) (sz : Nat) (h0 : Nat) (f0 : Nat → Value) (hf0_0 : f0 0 = .int 1) : Met l yn_M_thrown (xw yn_M_thrown bn_M_thrown 1 (some .int)) ({ frames := 0, cells := 0, slots := 0, locals := 0 }) (xk_P (dC, dI) xcl (xt cI cB cJ cZ cQ) [.ref h0] sz [(h0, .inr (0, xo_M f0))]) (xk_Qi (dC, dI) xcl (xt cI cB cJ cZ cQ) (fun (r : Int32) (u : Unit) => r = 1) (fun u : Unit => [(h0, .inr (0, xo_M f0))]) (va_A [(h0, .inr (0, xo_M f0))] sz)) 0 0 (va_A [(h0, .inr (0, xo_M f0))] sz) := by
  refine xk_of (QA := xk_Qi (dC, dI) xcl (xt cI cB cJ cZ cQ) (fun (r : Int32) (u : Unit) => r = 1) (fun u : Unit => [(h0, .inr (0, xo_M f0))])) (by decide) (Nat.le_of_ble_eq_true rfl) ?_
  intro p e s m below meth c hx hb hml hown hg hr hlocks hin hP hK hN A hA hD hS ls hl
  have hown : s.vm.findClass rn_M = some m.cls := hown
  have hl : lv_has ls 1 [(0, .ref h0)] := hl
  obtain ⟨H, hH⟩ : ∃ z, z = s.heap := ⟨_, rfl⟩
  rw [← hH] at hP
  have hS : va_S A s.heap H [] := by rw [hH]; exact va_S.rf
  suffices kk : W p l e ({ frames := 0, cells := 0, slots := 0, locals := 0 }) s m [.ref h0].toArray below meth c H [] 0 0 (MQ below (xk_Qi (dC, dI) xcl (xt cI cB cJ cZ cQ) (fun (r : Int32) (u : Unit) => r = 1) (fun u : Unit => [(h0, .inr (0, xo_M f0))]) A) [.ref h0].toArray s 0 0 A) (F0 m 0 ls []) by rw [hH] at kk; exact kk
  refine lv_aload_n hx hb dn_M_thrown_0 rfl (lv_at hl 0 rfl) ?_
  refine va_get (D := (dC, dI)) (ci := 0) (v := .int 1) (C := rn_M) (T := fn_M) (N := 91) hx hb hg in_M hown hK hP 0 rfl rfl 0 (by decide) (hg _ wn_8_68) (fun _ h9 => h9) (congrArg some hf0_0) dn_M_thrown_1 ?_
  have hP9 := hP.sub (ws' := [(h0, .inr (0, xo_M f0))]) [0] rfl
  have hD9 := hD.sub (ws' := [(h0, .inr (0, xo_M f0))]) [0] (by decide) rfl
  exact xk_iret (w1 := fun u : Unit => [(h0, .inr (0, xo_M f0))]) () hx hb hr hlocks hK hS dn_M_thrown_4 hP9 hD9 rfl (Nat.le_refl _) (Nat.le_refl _)
