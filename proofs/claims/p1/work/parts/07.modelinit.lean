set_option maxHeartbeats 4000000 in
set_option maxRecDepth 100000 in
theorem ct_M_init (l : Launch) (dC : Nat → ClassId) (dI : Nat → Nat → Nat) (cI cB cJ cZ cQ : ClassId) (sz : Nat) (h0 : Nat) (f0 : Nat → Value) (hfk : fk_M f0) : Met l yn_M_init (xw yn_M_init bn_M_init 1 none) ({ frames := 1, cells := 59, slots := 643729, locals := 20 }) (xk_P (dC, dI) xcl (xt cI cB cJ cZ cQ) [.ref h0] sz [(h0, .inr (0, xo_M f0))]) (xk_Qv (dC, dI) xcl (xt cI cB cJ cZ cQ) (fun u : Nat × Nat × Nat × Nat × Nat × (Nat → Value) => fk_M (u.2.2.2.2.2) ∧ u.2.2.2.2.2 1 = .ref u.1 ∧ u.2.2.2.2.2 4 = .ref u.2.1 ∧ u.2.2.2.2.2 5 = .ref u.2.2.1 ∧ u.2.2.2.2.2 6 = .ref u.2.2.2.1 ∧ u.2.2.2.2.2 90 = .ref u.2.2.2.2.1) (fun u : Nat × Nat × Nat × Nat × Nat × (Nat → Value) => [(h0, .inr (0, xo_M u.2.2.2.2.2)), (u.1, .inl (cB, 65536, .inl (fun _ => 0))), (u.2.1, .inl (cI, 65540, .inl (fun _ => 0))), (u.2.2.1, .inl (cI, 65540, .inl (fun _ => 0))), (u.2.2.2.1, .inl (cI, 65540, .inl (fun _ => 0))), (u.2.2.2.2.1, .inl (cB, 65536, .inl (fun _ => 0)))]) (va_A [(h0, .inr (0, xo_M f0))] sz)) 59 643729 (va_A [(h0, .inr (0, xo_M f0))] sz) := by
  refine xk_of (QA := xk_Qv (dC, dI) xcl (xt cI cB cJ cZ cQ) (fun u : Nat × Nat × Nat × Nat × Nat × (Nat → Value) => fk_M (u.2.2.2.2.2) ∧ u.2.2.2.2.2 1 = .ref u.1 ∧ u.2.2.2.2.2 4 = .ref u.2.1 ∧ u.2.2.2.2.2 5 = .ref u.2.2.1 ∧ u.2.2.2.2.2 6 = .ref u.2.2.2.1 ∧ u.2.2.2.2.2 90 = .ref u.2.2.2.2.1) (fun u : Nat × Nat × Nat × Nat × Nat × (Nat → Value) => [(h0, .inr (0, xo_M u.2.2.2.2.2)), (u.1, .inl (cB, 65536, .inl (fun _ => 0))), (u.2.1, .inl (cI, 65540, .inl (fun _ => 0))), (u.2.2.1, .inl (cI, 65540, .inl (fun _ => 0))), (u.2.2.2.1, .inl (cI, 65540, .inl (fun _ => 0))), (u.2.2.2.2.1, .inl (cB, 65536, .inl (fun _ => 0)))])) (by decide) (Nat.le_of_ble_eq_true rfl) ?_
  intro p e s m below meth c hx hb hml hown hg hr hlocks hin hP hK hN A hA hD hS ls hl
  have hown : s.vm.findClass rn_M = some m.cls := hown
  have hl : lv_has ls 1 [(0, .ref h0)] := hl
  obtain ⟨H, hH⟩ : ∃ z, z = s.heap := ⟨_, rfl⟩
  rw [← hH] at hP
  have hS : va_S A s.heap H [] := by rw [hH]; exact va_S.rf
  suffices kk : W p l e ({ frames := 1, cells := 59, slots := 643729, locals := 20 }) s m [.ref h0].toArray below meth c H [] 0 0 (MQ below (xk_Qv (dC, dI) xcl (xt cI cB cJ cZ cQ) (fun u : Nat × Nat × Nat × Nat × Nat × (Nat → Value) => fk_M (u.2.2.2.2.2) ∧ u.2.2.2.2.2 1 = .ref u.1 ∧ u.2.2.2.2.2 4 = .ref u.2.1 ∧ u.2.2.2.2.2 5 = .ref u.2.2.1 ∧ u.2.2.2.2.2 6 = .ref u.2.2.2.1 ∧ u.2.2.2.2.2 90 = .ref u.2.2.2.2.1) (fun u : Nat × Nat × Nat × Nat × Nat × (Nat → Value) => [(h0, .inr (0, xo_M u.2.2.2.2.2)), (u.1, .inl (cB, 65536, .inl (fun _ => 0))), (u.2.1, .inl (cI, 65540, .inl (fun _ => 0))), (u.2.2.1, .inl (cI, 65540, .inl (fun _ => 0))), (u.2.2.2.1, .inl (cI, 65540, .inl (fun _ => 0))), (u.2.2.2.2.1, .inl (cB, 65536, .inl (fun _ => 0)))]) A) [.ref h0].toArray s 59 643729 A) (F0 m 0 ls []) by rw [hH] at kk; exact kk
  refine lv_aload_n hx hb dn_M_init_0 rfl (lv_at hl 0 rfl) ?_
  refine W.objInit hx hb hown (hg _ wn_8_65) (hg _ wn_1_36) (hg _ wn_1_37) rfl (by rw [hml]; exact hl.1) rfl dn_M_init_1 (Nat.le_of_ble_eq_true rfl) (Nat.le_of_ble_eq_true rfl) ?_
  refine W.eq (g2 := F0 m 4 ls []) rfl ?_
  refine lv_aload_n hx hb dn_M_init_4 rfl (lv_at hl 0 rfl) ?_
  refine lv_ldc hx hb hown (hg _ wn_8_66) dn_M_init_5 ?_
  refine xk_newB 65536 hx hb (hg _ wn_1_118) hK hP hD hS hA 1 rfl rfl (Nat.le_of_ble_eq_true rfl) (Nat.le_of_ble_eq_true rfl) (Nat.le_of_ble_eq_true rfl) dn_M_init_7 (fun q_1 H hP hD hS => ?_)
  have hP : va_P (dC, dI) xcl [(h0, .inr (0, xo_M f0)), (q_1, .inl (cB, 65536, .inl (fun _ => 0)))] H := hP
  have hD : va_D A [(h0, .inr (0, xo_M f0)), (q_1, .inl (cB, 65536, .inl (fun _ => 0)))] := hD
  refine va_putF (D := (dC, dI)) (ci := 0) (v := .ref q_1) (ty := (.array .byte)) (C := rn_M) (T := fn_M) (N := 91) hx hb hg in_M tn_M tk_M nn_M hown hK hP hD hS 0 rfl rfl 1 (by decide) (hg _ wn_8_69) (fun _ h9 => h9) rfl hin rfl (tk_M 1 (by decide)) rfl rfl (Nat.le_of_ble_eq_true rfl) dn_M_init_9 (fun H locs hP hD hS => ?_)
  have hP : va_P (dC, dI) xcl [(h0, .inr (0, xo_M (va_up f0 1 (.ref q_1)))), (q_1, .inl (cB, 65536, .inl (fun _ => 0)))] H := hP
  have hD : va_D A [(h0, .inr (0, xo_M (va_up f0 1 (.ref q_1)))), (q_1, .inl (cB, 65536, .inl (fun _ => 0)))] := hD
  have hf1 : (va_up f0 1 (.ref q_1)) 1 = .ref q_1 := rfl
  have hfk : fk_M (va_up f0 1 (.ref q_1)) := hfk
  generalize va_up f0 1 (.ref q_1) = f0 at hP hD hf1 hfk
  refine lv_aload_n hx hb dn_M_init_12 rfl (lv_at hl 0 rfl) ?_
  refine lv_ldc hx hb hown (hg _ wn_8_67) dn_M_init_13 ?_
  refine xk_newI 65540 hx hb (hg _ wn_1_119) hK hP hD hS hA 0 rfl rfl (Nat.le_of_ble_eq_true rfl) (Nat.le_of_ble_eq_true rfl) (Nat.le_of_ble_eq_true rfl) dn_M_init_15 (fun q_2 H hP hD hS => ?_)
  have hP : va_P (dC, dI) xcl [(h0, .inr (0, xo_M f0)), (q_1, .inl (cB, 65536, .inl (fun _ => 0))), (q_2, .inl (cI, 65540, .inl (fun _ => 0)))] H := hP
  have hD : va_D A [(h0, .inr (0, xo_M f0)), (q_1, .inl (cB, 65536, .inl (fun _ => 0))), (q_2, .inl (cI, 65540, .inl (fun _ => 0)))] := hD
  refine va_putF (D := (dC, dI)) (ci := 0) (v := .ref q_2) (ty := (.array .int)) (C := rn_M) (T := fn_M) (N := 91) hx hb hg in_M tn_M tk_M nn_M hown hK hP hD hS 0 rfl rfl 4 (by decide) (hg _ wn_8_72) (fun _ h9 => h9) rfl hin rfl (tk_M 4 (by decide)) rfl rfl (Nat.le_of_ble_eq_true rfl) dn_M_init_17 (fun H locs hP hD hS => ?_)
  have hP : va_P (dC, dI) xcl [(h0, .inr (0, xo_M (va_up f0 4 (.ref q_2)))), (q_1, .inl (cB, 65536, .inl (fun _ => 0))), (q_2, .inl (cI, 65540, .inl (fun _ => 0)))] H := hP
  have hD : va_D A [(h0, .inr (0, xo_M (va_up f0 4 (.ref q_2)))), (q_1, .inl (cB, 65536, .inl (fun _ => 0))), (q_2, .inl (cI, 65540, .inl (fun _ => 0)))] := hD
  have hf1 : (va_up f0 4 (.ref q_2)) 1 = .ref q_1 := hf1
  have hf4 : (va_up f0 4 (.ref q_2)) 4 = .ref q_2 := rfl
  have hfk : fk_M (va_up f0 4 (.ref q_2)) := hfk
  generalize va_up f0 4 (.ref q_2) = f0 at hP hD hf1 hf4 hfk
  refine lv_aload_n hx hb dn_M_init_20 rfl (lv_at hl 0 rfl) ?_
  refine lv_ldc hx hb hown (hg _ wn_8_67) dn_M_init_21 ?_
  refine xk_newI 65540 hx hb (hg _ wn_1_119) hK hP hD hS hA 0 rfl rfl (Nat.le_of_ble_eq_true rfl) (Nat.le_of_ble_eq_true rfl) (Nat.le_of_ble_eq_true rfl) dn_M_init_23 (fun q_3 H hP hD hS => ?_)
  have hP : va_P (dC, dI) xcl [(h0, .inr (0, xo_M f0)), (q_1, .inl (cB, 65536, .inl (fun _ => 0))), (q_2, .inl (cI, 65540, .inl (fun _ => 0))), (q_3, .inl (cI, 65540, .inl (fun _ => 0)))] H := hP
  have hD : va_D A [(h0, .inr (0, xo_M f0)), (q_1, .inl (cB, 65536, .inl (fun _ => 0))), (q_2, .inl (cI, 65540, .inl (fun _ => 0))), (q_3, .inl (cI, 65540, .inl (fun _ => 0)))] := hD
  refine va_putF (D := (dC, dI)) (ci := 0) (v := .ref q_3) (ty := (.array .int)) (C := rn_M) (T := fn_M) (N := 91) hx hb hg in_M tn_M tk_M nn_M hown hK hP hD hS 0 rfl rfl 5 (by decide) (hg _ wn_8_73) (fun _ h9 => h9) rfl hin rfl (tk_M 5 (by decide)) rfl rfl (Nat.le_of_ble_eq_true rfl) dn_M_init_25 (fun H locs hP hD hS => ?_)
  have hP : va_P (dC, dI) xcl [(h0, .inr (0, xo_M (va_up f0 5 (.ref q_3)))), (q_1, .inl (cB, 65536, .inl (fun _ => 0))), (q_2, .inl (cI, 65540, .inl (fun _ => 0))), (q_3, .inl (cI, 65540, .inl (fun _ => 0)))] H := hP
  have hD : va_D A [(h0, .inr (0, xo_M (va_up f0 5 (.ref q_3)))), (q_1, .inl (cB, 65536, .inl (fun _ => 0))), (q_2, .inl (cI, 65540, .inl (fun _ => 0))), (q_3, .inl (cI, 65540, .inl (fun _ => 0)))] := hD
  have hf1 : (va_up f0 5 (.ref q_3)) 1 = .ref q_1 := hf1
  have hf4 : (va_up f0 5 (.ref q_3)) 4 = .ref q_2 := hf4
  have hf5 : (va_up f0 5 (.ref q_3)) 5 = .ref q_3 := rfl
  have hfk : fk_M (va_up f0 5 (.ref q_3)) := hfk
  generalize va_up f0 5 (.ref q_3) = f0 at hP hD hf1 hf4 hf5 hfk
  refine lv_aload_n hx hb dn_M_init_28 rfl (lv_at hl 0 rfl) ?_
  refine lv_ldc hx hb hown (hg _ wn_8_67) dn_M_init_29 ?_
  refine xk_newI 65540 hx hb (hg _ wn_1_119) hK hP hD hS hA 0 rfl rfl (Nat.le_of_ble_eq_true rfl) (Nat.le_of_ble_eq_true rfl) (Nat.le_of_ble_eq_true rfl) dn_M_init_31 (fun q_4 H hP hD hS => ?_)
  have hP : va_P (dC, dI) xcl [(h0, .inr (0, xo_M f0)), (q_1, .inl (cB, 65536, .inl (fun _ => 0))), (q_2, .inl (cI, 65540, .inl (fun _ => 0))), (q_3, .inl (cI, 65540, .inl (fun _ => 0))), (q_4, .inl (cI, 65540, .inl (fun _ => 0)))] H := hP
  have hD : va_D A [(h0, .inr (0, xo_M f0)), (q_1, .inl (cB, 65536, .inl (fun _ => 0))), (q_2, .inl (cI, 65540, .inl (fun _ => 0))), (q_3, .inl (cI, 65540, .inl (fun _ => 0))), (q_4, .inl (cI, 65540, .inl (fun _ => 0)))] := hD
  refine va_putF (D := (dC, dI)) (ci := 0) (v := .ref q_4) (ty := (.array .int)) (C := rn_M) (T := fn_M) (N := 91) hx hb hg in_M tn_M tk_M nn_M hown hK hP hD hS 0 rfl rfl 6 (by decide) (hg _ wn_8_74) (fun _ h9 => h9) rfl hin rfl (tk_M 6 (by decide)) rfl rfl (Nat.le_of_ble_eq_true rfl) dn_M_init_33 (fun H locs hP hD hS => ?_)
  have hP : va_P (dC, dI) xcl [(h0, .inr (0, xo_M (va_up f0 6 (.ref q_4)))), (q_1, .inl (cB, 65536, .inl (fun _ => 0))), (q_2, .inl (cI, 65540, .inl (fun _ => 0))), (q_3, .inl (cI, 65540, .inl (fun _ => 0))), (q_4, .inl (cI, 65540, .inl (fun _ => 0)))] H := hP
  have hD : va_D A [(h0, .inr (0, xo_M (va_up f0 6 (.ref q_4)))), (q_1, .inl (cB, 65536, .inl (fun _ => 0))), (q_2, .inl (cI, 65540, .inl (fun _ => 0))), (q_3, .inl (cI, 65540, .inl (fun _ => 0))), (q_4, .inl (cI, 65540, .inl (fun _ => 0)))] := hD
  have hf1 : (va_up f0 6 (.ref q_4)) 1 = .ref q_1 := hf1
  have hf4 : (va_up f0 6 (.ref q_4)) 4 = .ref q_2 := hf4
  have hf5 : (va_up f0 6 (.ref q_4)) 5 = .ref q_3 := hf5
  have hf6 : (va_up f0 6 (.ref q_4)) 6 = .ref q_4 := rfl
  have hfk : fk_M (va_up f0 6 (.ref q_4)) := hfk
  generalize va_up f0 6 (.ref q_4) = f0 at hP hD hf1 hf4 hf5 hf6 hfk
  refine lv_aload_n hx hb dn_M_init_36 rfl (lv_at hl 0 rfl) ?_
  refine lv_sipush (v := 3600) hx hb dn_M_init_37 (by decide) ?_
  refine xk_newI 3600 hx hb (hg _ wn_1_119) hK hP hD hS hA 0 rfl rfl (Nat.le_of_ble_eq_true rfl) (Nat.le_of_ble_eq_true rfl) (Nat.le_of_ble_eq_true rfl) dn_M_init_40 (fun q_5 H hP hD hS => ?_)
  have hP : va_P (dC, dI) xcl [(h0, .inr (0, xo_M f0)), (q_1, .inl (cB, 65536, .inl (fun _ => 0))), (q_2, .inl (cI, 65540, .inl (fun _ => 0))), (q_3, .inl (cI, 65540, .inl (fun _ => 0))), (q_4, .inl (cI, 65540, .inl (fun _ => 0))), (q_5, .inl (cI, 3600, .inl (fun _ => 0)))] H := hP
  have hD : va_D A [(h0, .inr (0, xo_M f0)), (q_1, .inl (cB, 65536, .inl (fun _ => 0))), (q_2, .inl (cI, 65540, .inl (fun _ => 0))), (q_3, .inl (cI, 65540, .inl (fun _ => 0))), (q_4, .inl (cI, 65540, .inl (fun _ => 0))), (q_5, .inl (cI, 3600, .inl (fun _ => 0)))] := hD
  refine va_putF (D := (dC, dI)) (ci := 0) (v := .ref q_5) (ty := (.array .int)) (C := rn_M) (T := fn_M) (N := 91) hx hb hg in_M tn_M tk_M nn_M hown hK hP hD hS 0 rfl rfl 13 (by decide) (hg _ wn_8_81) (fun _ h9 => h9) rfl hin rfl (tk_M 13 (by decide)) rfl rfl (Nat.le_of_ble_eq_true rfl) dn_M_init_42 (fun H locs hP hD hS => ?_)
  have hP : va_P (dC, dI) xcl [(h0, .inr (0, xo_M (va_up f0 13 (.ref q_5)))), (q_1, .inl (cB, 65536, .inl (fun _ => 0))), (q_2, .inl (cI, 65540, .inl (fun _ => 0))), (q_3, .inl (cI, 65540, .inl (fun _ => 0))), (q_4, .inl (cI, 65540, .inl (fun _ => 0))), (q_5, .inl (cI, 3600, .inl (fun _ => 0)))] H := hP
  have hD : va_D A [(h0, .inr (0, xo_M (va_up f0 13 (.ref q_5)))), (q_1, .inl (cB, 65536, .inl (fun _ => 0))), (q_2, .inl (cI, 65540, .inl (fun _ => 0))), (q_3, .inl (cI, 65540, .inl (fun _ => 0))), (q_4, .inl (cI, 65540, .inl (fun _ => 0))), (q_5, .inl (cI, 3600, .inl (fun _ => 0)))] := hD
  have hf1 : (va_up f0 13 (.ref q_5)) 1 = .ref q_1 := hf1
  have hf4 : (va_up f0 13 (.ref q_5)) 4 = .ref q_2 := hf4
  have hf5 : (va_up f0 13 (.ref q_5)) 5 = .ref q_3 := hf5
  have hf6 : (va_up f0 13 (.ref q_5)) 6 = .ref q_4 := hf6
  have hfk : fk_M (va_up f0 13 (.ref q_5)) := hfk
  generalize va_up f0 13 (.ref q_5) = f0 at hP hD hf1 hf4 hf5 hf6 hfk
  have hP := hP.sub (ws' := [(h0, .inr (0, xo_M f0)), (q_1, .inl (cB, 65536, .inl (fun _ => 0))), (q_2, .inl (cI, 65540, .inl (fun _ => 0))), (q_3, .inl (cI, 65540, .inl (fun _ => 0))), (q_4, .inl (cI, 65540, .inl (fun _ => 0)))]) [0, 1, 2, 3, 4] rfl
  have hD := hD.sub (ws' := [(h0, .inr (0, xo_M f0)), (q_1, .inl (cB, 65536, .inl (fun _ => 0))), (q_2, .inl (cI, 65540, .inl (fun _ => 0))), (q_3, .inl (cI, 65540, .inl (fun _ => 0))), (q_4, .inl (cI, 65540, .inl (fun _ => 0)))]) [0, 1, 2, 3, 4] (by decide) rfl
  refine lv_aload_n hx hb dn_M_init_45 rfl (lv_at hl 0 rfl) ?_
  refine lv_sipush (v := 3601) hx hb dn_M_init_46 (by decide) ?_
  refine xk_newI 3601 hx hb (hg _ wn_1_119) hK hP hD hS hA 0 rfl rfl (Nat.le_of_ble_eq_true rfl) (Nat.le_of_ble_eq_true rfl) (Nat.le_of_ble_eq_true rfl) dn_M_init_49 (fun q_6 H hP hD hS => ?_)
  have hP : va_P (dC, dI) xcl [(h0, .inr (0, xo_M f0)), (q_1, .inl (cB, 65536, .inl (fun _ => 0))), (q_2, .inl (cI, 65540, .inl (fun _ => 0))), (q_3, .inl (cI, 65540, .inl (fun _ => 0))), (q_4, .inl (cI, 65540, .inl (fun _ => 0))), (q_6, .inl (cI, 3601, .inl (fun _ => 0)))] H := hP
  have hD : va_D A [(h0, .inr (0, xo_M f0)), (q_1, .inl (cB, 65536, .inl (fun _ => 0))), (q_2, .inl (cI, 65540, .inl (fun _ => 0))), (q_3, .inl (cI, 65540, .inl (fun _ => 0))), (q_4, .inl (cI, 65540, .inl (fun _ => 0))), (q_6, .inl (cI, 3601, .inl (fun _ => 0)))] := hD
  refine va_putF (D := (dC, dI)) (ci := 0) (v := .ref q_6) (ty := (.array .int)) (C := rn_M) (T := fn_M) (N := 91) hx hb hg in_M tn_M tk_M nn_M hown hK hP hD hS 0 rfl rfl 14 (by decide) (hg _ wn_8_82) (fun _ h9 => h9) rfl hin rfl (tk_M 14 (by decide)) rfl rfl (Nat.le_of_ble_eq_true rfl) dn_M_init_51 (fun H locs hP hD hS => ?_)
  have hP : va_P (dC, dI) xcl [(h0, .inr (0, xo_M (va_up f0 14 (.ref q_6)))), (q_1, .inl (cB, 65536, .inl (fun _ => 0))), (q_2, .inl (cI, 65540, .inl (fun _ => 0))), (q_3, .inl (cI, 65540, .inl (fun _ => 0))), (q_4, .inl (cI, 65540, .inl (fun _ => 0))), (q_6, .inl (cI, 3601, .inl (fun _ => 0)))] H := hP
  have hD : va_D A [(h0, .inr (0, xo_M (va_up f0 14 (.ref q_6)))), (q_1, .inl (cB, 65536, .inl (fun _ => 0))), (q_2, .inl (cI, 65540, .inl (fun _ => 0))), (q_3, .inl (cI, 65540, .inl (fun _ => 0))), (q_4, .inl (cI, 65540, .inl (fun _ => 0))), (q_6, .inl (cI, 3601, .inl (fun _ => 0)))] := hD
  have hf1 : (va_up f0 14 (.ref q_6)) 1 = .ref q_1 := hf1
  have hf4 : (va_up f0 14 (.ref q_6)) 4 = .ref q_2 := hf4
  have hf5 : (va_up f0 14 (.ref q_6)) 5 = .ref q_3 := hf5
  have hf6 : (va_up f0 14 (.ref q_6)) 6 = .ref q_4 := hf6
  have hfk : fk_M (va_up f0 14 (.ref q_6)) := hfk
  generalize va_up f0 14 (.ref q_6) = f0 at hP hD hf1 hf4 hf5 hf6 hfk
  have hP := hP.sub (ws' := [(h0, .inr (0, xo_M f0)), (q_1, .inl (cB, 65536, .inl (fun _ => 0))), (q_2, .inl (cI, 65540, .inl (fun _ => 0))), (q_3, .inl (cI, 65540, .inl (fun _ => 0))), (q_4, .inl (cI, 65540, .inl (fun _ => 0)))]) [0, 1, 2, 3, 4] rfl
  have hD := hD.sub (ws' := [(h0, .inr (0, xo_M f0)), (q_1, .inl (cB, 65536, .inl (fun _ => 0))), (q_2, .inl (cI, 65540, .inl (fun _ => 0))), (q_3, .inl (cI, 65540, .inl (fun _ => 0))), (q_4, .inl (cI, 65540, .inl (fun _ => 0)))]) [0, 1, 2, 3, 4] (by decide) rfl
  refine lv_aload_n hx hb dn_M_init_54 rfl (lv_at hl 0 rfl) ?_
  refine lv_sipush (v := 3601) hx hb dn_M_init_55 (by decide) ?_
  refine xk_newI 3601 hx hb (hg _ wn_1_119) hK hP hD hS hA 0 rfl rfl (Nat.le_of_ble_eq_true rfl) (Nat.le_of_ble_eq_true rfl) (Nat.le_of_ble_eq_true rfl) dn_M_init_58 (fun q_7 H hP hD hS => ?_)
  have hP : va_P (dC, dI) xcl [(h0, .inr (0, xo_M f0)), (q_1, .inl (cB, 65536, .inl (fun _ => 0))), (q_2, .inl (cI, 65540, .inl (fun _ => 0))), (q_3, .inl (cI, 65540, .inl (fun _ => 0))), (q_4, .inl (cI, 65540, .inl (fun _ => 0))), (q_7, .inl (cI, 3601, .inl (fun _ => 0)))] H := hP
  have hD : va_D A [(h0, .inr (0, xo_M f0)), (q_1, .inl (cB, 65536, .inl (fun _ => 0))), (q_2, .inl (cI, 65540, .inl (fun _ => 0))), (q_3, .inl (cI, 65540, .inl (fun _ => 0))), (q_4, .inl (cI, 65540, .inl (fun _ => 0))), (q_7, .inl (cI, 3601, .inl (fun _ => 0)))] := hD
  refine va_putF (D := (dC, dI)) (ci := 0) (v := .ref q_7) (ty := (.array .int)) (C := rn_M) (T := fn_M) (N := 91) hx hb hg in_M tn_M tk_M nn_M hown hK hP hD hS 0 rfl rfl 15 (by decide) (hg _ wn_8_83) (fun _ h9 => h9) rfl hin rfl (tk_M 15 (by decide)) rfl rfl (Nat.le_of_ble_eq_true rfl) dn_M_init_60 (fun H locs hP hD hS => ?_)
  have hP : va_P (dC, dI) xcl [(h0, .inr (0, xo_M (va_up f0 15 (.ref q_7)))), (q_1, .inl (cB, 65536, .inl (fun _ => 0))), (q_2, .inl (cI, 65540, .inl (fun _ => 0))), (q_3, .inl (cI, 65540, .inl (fun _ => 0))), (q_4, .inl (cI, 65540, .inl (fun _ => 0))), (q_7, .inl (cI, 3601, .inl (fun _ => 0)))] H := hP
  have hD : va_D A [(h0, .inr (0, xo_M (va_up f0 15 (.ref q_7)))), (q_1, .inl (cB, 65536, .inl (fun _ => 0))), (q_2, .inl (cI, 65540, .inl (fun _ => 0))), (q_3, .inl (cI, 65540, .inl (fun _ => 0))), (q_4, .inl (cI, 65540, .inl (fun _ => 0))), (q_7, .inl (cI, 3601, .inl (fun _ => 0)))] := hD
  have hf1 : (va_up f0 15 (.ref q_7)) 1 = .ref q_1 := hf1
  have hf4 : (va_up f0 15 (.ref q_7)) 4 = .ref q_2 := hf4
  have hf5 : (va_up f0 15 (.ref q_7)) 5 = .ref q_3 := hf5
  have hf6 : (va_up f0 15 (.ref q_7)) 6 = .ref q_4 := hf6
  have hfk : fk_M (va_up f0 15 (.ref q_7)) := hfk
  generalize va_up f0 15 (.ref q_7) = f0 at hP hD hf1 hf4 hf5 hf6 hfk
  have hP := hP.sub (ws' := [(h0, .inr (0, xo_M f0)), (q_1, .inl (cB, 65536, .inl (fun _ => 0))), (q_2, .inl (cI, 65540, .inl (fun _ => 0))), (q_3, .inl (cI, 65540, .inl (fun _ => 0))), (q_4, .inl (cI, 65540, .inl (fun _ => 0)))]) [0, 1, 2, 3, 4] rfl
  have hD := hD.sub (ws' := [(h0, .inr (0, xo_M f0)), (q_1, .inl (cB, 65536, .inl (fun _ => 0))), (q_2, .inl (cI, 65540, .inl (fun _ => 0))), (q_3, .inl (cI, 65540, .inl (fun _ => 0))), (q_4, .inl (cI, 65540, .inl (fun _ => 0)))]) [0, 1, 2, 3, 4] (by decide) rfl
  refine lv_aload_n hx hb dn_M_init_63 rfl (lv_at hl 0 rfl) ?_
  refine lv_sipush (v := 3601) hx hb dn_M_init_64 (by decide) ?_
  refine xk_newI 3601 hx hb (hg _ wn_1_119) hK hP hD hS hA 0 rfl rfl (Nat.le_of_ble_eq_true rfl) (Nat.le_of_ble_eq_true rfl) (Nat.le_of_ble_eq_true rfl) dn_M_init_67 (fun q_8 H hP hD hS => ?_)
  have hP : va_P (dC, dI) xcl [(h0, .inr (0, xo_M f0)), (q_1, .inl (cB, 65536, .inl (fun _ => 0))), (q_2, .inl (cI, 65540, .inl (fun _ => 0))), (q_3, .inl (cI, 65540, .inl (fun _ => 0))), (q_4, .inl (cI, 65540, .inl (fun _ => 0))), (q_8, .inl (cI, 3601, .inl (fun _ => 0)))] H := hP
  have hD : va_D A [(h0, .inr (0, xo_M f0)), (q_1, .inl (cB, 65536, .inl (fun _ => 0))), (q_2, .inl (cI, 65540, .inl (fun _ => 0))), (q_3, .inl (cI, 65540, .inl (fun _ => 0))), (q_4, .inl (cI, 65540, .inl (fun _ => 0))), (q_8, .inl (cI, 3601, .inl (fun _ => 0)))] := hD
  refine va_putF (D := (dC, dI)) (ci := 0) (v := .ref q_8) (ty := (.array .int)) (C := rn_M) (T := fn_M) (N := 91) hx hb hg in_M tn_M tk_M nn_M hown hK hP hD hS 0 rfl rfl 16 (by decide) (hg _ wn_8_84) (fun _ h9 => h9) rfl hin rfl (tk_M 16 (by decide)) rfl rfl (Nat.le_of_ble_eq_true rfl) dn_M_init_69 (fun H locs hP hD hS => ?_)
  have hP : va_P (dC, dI) xcl [(h0, .inr (0, xo_M (va_up f0 16 (.ref q_8)))), (q_1, .inl (cB, 65536, .inl (fun _ => 0))), (q_2, .inl (cI, 65540, .inl (fun _ => 0))), (q_3, .inl (cI, 65540, .inl (fun _ => 0))), (q_4, .inl (cI, 65540, .inl (fun _ => 0))), (q_8, .inl (cI, 3601, .inl (fun _ => 0)))] H := hP
  have hD : va_D A [(h0, .inr (0, xo_M (va_up f0 16 (.ref q_8)))), (q_1, .inl (cB, 65536, .inl (fun _ => 0))), (q_2, .inl (cI, 65540, .inl (fun _ => 0))), (q_3, .inl (cI, 65540, .inl (fun _ => 0))), (q_4, .inl (cI, 65540, .inl (fun _ => 0))), (q_8, .inl (cI, 3601, .inl (fun _ => 0)))] := hD
  have hf1 : (va_up f0 16 (.ref q_8)) 1 = .ref q_1 := hf1
  have hf4 : (va_up f0 16 (.ref q_8)) 4 = .ref q_2 := hf4
  have hf5 : (va_up f0 16 (.ref q_8)) 5 = .ref q_3 := hf5
  have hf6 : (va_up f0 16 (.ref q_8)) 6 = .ref q_4 := hf6
  have hfk : fk_M (va_up f0 16 (.ref q_8)) := hfk
  generalize va_up f0 16 (.ref q_8) = f0 at hP hD hf1 hf4 hf5 hf6 hfk
  have hP := hP.sub (ws' := [(h0, .inr (0, xo_M f0)), (q_1, .inl (cB, 65536, .inl (fun _ => 0))), (q_2, .inl (cI, 65540, .inl (fun _ => 0))), (q_3, .inl (cI, 65540, .inl (fun _ => 0))), (q_4, .inl (cI, 65540, .inl (fun _ => 0)))]) [0, 1, 2, 3, 4] rfl
  have hD := hD.sub (ws' := [(h0, .inr (0, xo_M f0)), (q_1, .inl (cB, 65536, .inl (fun _ => 0))), (q_2, .inl (cI, 65540, .inl (fun _ => 0))), (q_3, .inl (cI, 65540, .inl (fun _ => 0))), (q_4, .inl (cI, 65540, .inl (fun _ => 0)))]) [0, 1, 2, 3, 4] (by decide) rfl
  refine lv_aload_n hx hb dn_M_init_72 rfl (lv_at hl 0 rfl) ?_
  refine lv_sipush (v := 3601) hx hb dn_M_init_73 (by decide) ?_
  refine xk_newI 3601 hx hb (hg _ wn_1_119) hK hP hD hS hA 0 rfl rfl (Nat.le_of_ble_eq_true rfl) (Nat.le_of_ble_eq_true rfl) (Nat.le_of_ble_eq_true rfl) dn_M_init_76 (fun q_9 H hP hD hS => ?_)
  have hP : va_P (dC, dI) xcl [(h0, .inr (0, xo_M f0)), (q_1, .inl (cB, 65536, .inl (fun _ => 0))), (q_2, .inl (cI, 65540, .inl (fun _ => 0))), (q_3, .inl (cI, 65540, .inl (fun _ => 0))), (q_4, .inl (cI, 65540, .inl (fun _ => 0))), (q_9, .inl (cI, 3601, .inl (fun _ => 0)))] H := hP
  have hD : va_D A [(h0, .inr (0, xo_M f0)), (q_1, .inl (cB, 65536, .inl (fun _ => 0))), (q_2, .inl (cI, 65540, .inl (fun _ => 0))), (q_3, .inl (cI, 65540, .inl (fun _ => 0))), (q_4, .inl (cI, 65540, .inl (fun _ => 0))), (q_9, .inl (cI, 3601, .inl (fun _ => 0)))] := hD
  refine va_putF (D := (dC, dI)) (ci := 0) (v := .ref q_9) (ty := (.array .int)) (C := rn_M) (T := fn_M) (N := 91) hx hb hg in_M tn_M tk_M nn_M hown hK hP hD hS 0 rfl rfl 17 (by decide) (hg _ wn_8_85) (fun _ h9 => h9) rfl hin rfl (tk_M 17 (by decide)) rfl rfl (Nat.le_of_ble_eq_true rfl) dn_M_init_78 (fun H locs hP hD hS => ?_)
  have hP : va_P (dC, dI) xcl [(h0, .inr (0, xo_M (va_up f0 17 (.ref q_9)))), (q_1, .inl (cB, 65536, .inl (fun _ => 0))), (q_2, .inl (cI, 65540, .inl (fun _ => 0))), (q_3, .inl (cI, 65540, .inl (fun _ => 0))), (q_4, .inl (cI, 65540, .inl (fun _ => 0))), (q_9, .inl (cI, 3601, .inl (fun _ => 0)))] H := hP
  have hD : va_D A [(h0, .inr (0, xo_M (va_up f0 17 (.ref q_9)))), (q_1, .inl (cB, 65536, .inl (fun _ => 0))), (q_2, .inl (cI, 65540, .inl (fun _ => 0))), (q_3, .inl (cI, 65540, .inl (fun _ => 0))), (q_4, .inl (cI, 65540, .inl (fun _ => 0))), (q_9, .inl (cI, 3601, .inl (fun _ => 0)))] := hD
  have hf1 : (va_up f0 17 (.ref q_9)) 1 = .ref q_1 := hf1
  have hf4 : (va_up f0 17 (.ref q_9)) 4 = .ref q_2 := hf4
  have hf5 : (va_up f0 17 (.ref q_9)) 5 = .ref q_3 := hf5
  have hf6 : (va_up f0 17 (.ref q_9)) 6 = .ref q_4 := hf6
  have hfk : fk_M (va_up f0 17 (.ref q_9)) := hfk
  generalize va_up f0 17 (.ref q_9) = f0 at hP hD hf1 hf4 hf5 hf6 hfk
  have hP := hP.sub (ws' := [(h0, .inr (0, xo_M f0)), (q_1, .inl (cB, 65536, .inl (fun _ => 0))), (q_2, .inl (cI, 65540, .inl (fun _ => 0))), (q_3, .inl (cI, 65540, .inl (fun _ => 0))), (q_4, .inl (cI, 65540, .inl (fun _ => 0)))]) [0, 1, 2, 3, 4] rfl
  have hD := hD.sub (ws' := [(h0, .inr (0, xo_M f0)), (q_1, .inl (cB, 65536, .inl (fun _ => 0))), (q_2, .inl (cI, 65540, .inl (fun _ => 0))), (q_3, .inl (cI, 65540, .inl (fun _ => 0))), (q_4, .inl (cI, 65540, .inl (fun _ => 0)))]) [0, 1, 2, 3, 4] (by decide) rfl
  refine lv_aload_n hx hb dn_M_init_81 rfl (lv_at hl 0 rfl) ?_
  refine lv_sipush (v := 11000) hx hb dn_M_init_82 (by decide) ?_
  refine xk_newI 11000 hx hb (hg _ wn_1_119) hK hP hD hS hA 0 rfl rfl (Nat.le_of_ble_eq_true rfl) (Nat.le_of_ble_eq_true rfl) (Nat.le_of_ble_eq_true rfl) dn_M_init_85 (fun q_10 H hP hD hS => ?_)
  have hP : va_P (dC, dI) xcl [(h0, .inr (0, xo_M f0)), (q_1, .inl (cB, 65536, .inl (fun _ => 0))), (q_2, .inl (cI, 65540, .inl (fun _ => 0))), (q_3, .inl (cI, 65540, .inl (fun _ => 0))), (q_4, .inl (cI, 65540, .inl (fun _ => 0))), (q_10, .inl (cI, 11000, .inl (fun _ => 0)))] H := hP
  have hD : va_D A [(h0, .inr (0, xo_M f0)), (q_1, .inl (cB, 65536, .inl (fun _ => 0))), (q_2, .inl (cI, 65540, .inl (fun _ => 0))), (q_3, .inl (cI, 65540, .inl (fun _ => 0))), (q_4, .inl (cI, 65540, .inl (fun _ => 0))), (q_10, .inl (cI, 11000, .inl (fun _ => 0)))] := hD
  refine va_putF (D := (dC, dI)) (ci := 0) (v := .ref q_10) (ty := (.array .int)) (C := rn_M) (T := fn_M) (N := 91) hx hb hg in_M tn_M tk_M nn_M hown hK hP hD hS 0 rfl rfl 19 (by decide) (hg _ wn_8_87) (fun _ h9 => h9) rfl hin rfl (tk_M 19 (by decide)) rfl rfl (Nat.le_of_ble_eq_true rfl) dn_M_init_87 (fun H locs hP hD hS => ?_)
  have hP : va_P (dC, dI) xcl [(h0, .inr (0, xo_M (va_up f0 19 (.ref q_10)))), (q_1, .inl (cB, 65536, .inl (fun _ => 0))), (q_2, .inl (cI, 65540, .inl (fun _ => 0))), (q_3, .inl (cI, 65540, .inl (fun _ => 0))), (q_4, .inl (cI, 65540, .inl (fun _ => 0))), (q_10, .inl (cI, 11000, .inl (fun _ => 0)))] H := hP
  have hD : va_D A [(h0, .inr (0, xo_M (va_up f0 19 (.ref q_10)))), (q_1, .inl (cB, 65536, .inl (fun _ => 0))), (q_2, .inl (cI, 65540, .inl (fun _ => 0))), (q_3, .inl (cI, 65540, .inl (fun _ => 0))), (q_4, .inl (cI, 65540, .inl (fun _ => 0))), (q_10, .inl (cI, 11000, .inl (fun _ => 0)))] := hD
  have hf1 : (va_up f0 19 (.ref q_10)) 1 = .ref q_1 := hf1
  have hf4 : (va_up f0 19 (.ref q_10)) 4 = .ref q_2 := hf4
  have hf5 : (va_up f0 19 (.ref q_10)) 5 = .ref q_3 := hf5
  have hf6 : (va_up f0 19 (.ref q_10)) 6 = .ref q_4 := hf6
  have hfk : fk_M (va_up f0 19 (.ref q_10)) := hfk
  generalize va_up f0 19 (.ref q_10) = f0 at hP hD hf1 hf4 hf5 hf6 hfk
  have hP := hP.sub (ws' := [(h0, .inr (0, xo_M f0)), (q_1, .inl (cB, 65536, .inl (fun _ => 0))), (q_2, .inl (cI, 65540, .inl (fun _ => 0))), (q_3, .inl (cI, 65540, .inl (fun _ => 0))), (q_4, .inl (cI, 65540, .inl (fun _ => 0)))]) [0, 1, 2, 3, 4] rfl
  have hD := hD.sub (ws' := [(h0, .inr (0, xo_M f0)), (q_1, .inl (cB, 65536, .inl (fun _ => 0))), (q_2, .inl (cI, 65540, .inl (fun _ => 0))), (q_3, .inl (cI, 65540, .inl (fun _ => 0))), (q_4, .inl (cI, 65540, .inl (fun _ => 0)))]) [0, 1, 2, 3, 4] (by decide) rfl
  refine lv_aload_n hx hb dn_M_init_90 rfl (lv_at hl 0 rfl) ?_
  refine lv_sipush (v := 11000) hx hb dn_M_init_91 (by decide) ?_
  refine xk_newI 11000 hx hb (hg _ wn_1_119) hK hP hD hS hA 0 rfl rfl (Nat.le_of_ble_eq_true rfl) (Nat.le_of_ble_eq_true rfl) (Nat.le_of_ble_eq_true rfl) dn_M_init_94 (fun q_11 H hP hD hS => ?_)
  have hP : va_P (dC, dI) xcl [(h0, .inr (0, xo_M f0)), (q_1, .inl (cB, 65536, .inl (fun _ => 0))), (q_2, .inl (cI, 65540, .inl (fun _ => 0))), (q_3, .inl (cI, 65540, .inl (fun _ => 0))), (q_4, .inl (cI, 65540, .inl (fun _ => 0))), (q_11, .inl (cI, 11000, .inl (fun _ => 0)))] H := hP
  have hD : va_D A [(h0, .inr (0, xo_M f0)), (q_1, .inl (cB, 65536, .inl (fun _ => 0))), (q_2, .inl (cI, 65540, .inl (fun _ => 0))), (q_3, .inl (cI, 65540, .inl (fun _ => 0))), (q_4, .inl (cI, 65540, .inl (fun _ => 0))), (q_11, .inl (cI, 11000, .inl (fun _ => 0)))] := hD
  refine va_putF (D := (dC, dI)) (ci := 0) (v := .ref q_11) (ty := (.array .int)) (C := rn_M) (T := fn_M) (N := 91) hx hb hg in_M tn_M tk_M nn_M hown hK hP hD hS 0 rfl rfl 20 (by decide) (hg _ wn_8_88) (fun _ h9 => h9) rfl hin rfl (tk_M 20 (by decide)) rfl rfl (Nat.le_of_ble_eq_true rfl) dn_M_init_96 (fun H locs hP hD hS => ?_)
  have hP : va_P (dC, dI) xcl [(h0, .inr (0, xo_M (va_up f0 20 (.ref q_11)))), (q_1, .inl (cB, 65536, .inl (fun _ => 0))), (q_2, .inl (cI, 65540, .inl (fun _ => 0))), (q_3, .inl (cI, 65540, .inl (fun _ => 0))), (q_4, .inl (cI, 65540, .inl (fun _ => 0))), (q_11, .inl (cI, 11000, .inl (fun _ => 0)))] H := hP
  have hD : va_D A [(h0, .inr (0, xo_M (va_up f0 20 (.ref q_11)))), (q_1, .inl (cB, 65536, .inl (fun _ => 0))), (q_2, .inl (cI, 65540, .inl (fun _ => 0))), (q_3, .inl (cI, 65540, .inl (fun _ => 0))), (q_4, .inl (cI, 65540, .inl (fun _ => 0))), (q_11, .inl (cI, 11000, .inl (fun _ => 0)))] := hD
  have hf1 : (va_up f0 20 (.ref q_11)) 1 = .ref q_1 := hf1
  have hf4 : (va_up f0 20 (.ref q_11)) 4 = .ref q_2 := hf4
  have hf5 : (va_up f0 20 (.ref q_11)) 5 = .ref q_3 := hf5
  have hf6 : (va_up f0 20 (.ref q_11)) 6 = .ref q_4 := hf6
  have hfk : fk_M (va_up f0 20 (.ref q_11)) := hfk
  generalize va_up f0 20 (.ref q_11) = f0 at hP hD hf1 hf4 hf5 hf6 hfk
  have hP := hP.sub (ws' := [(h0, .inr (0, xo_M f0)), (q_1, .inl (cB, 65536, .inl (fun _ => 0))), (q_2, .inl (cI, 65540, .inl (fun _ => 0))), (q_3, .inl (cI, 65540, .inl (fun _ => 0))), (q_4, .inl (cI, 65540, .inl (fun _ => 0)))]) [0, 1, 2, 3, 4] rfl
  have hD := hD.sub (ws' := [(h0, .inr (0, xo_M f0)), (q_1, .inl (cB, 65536, .inl (fun _ => 0))), (q_2, .inl (cI, 65540, .inl (fun _ => 0))), (q_3, .inl (cI, 65540, .inl (fun _ => 0))), (q_4, .inl (cI, 65540, .inl (fun _ => 0)))]) [0, 1, 2, 3, 4] (by decide) rfl
  refine lv_aload_n hx hb dn_M_init_99 rfl (lv_at hl 0 rfl) ?_
  refine lv_sipush (v := 11000) hx hb dn_M_init_100 (by decide) ?_
  refine xk_newI 11000 hx hb (hg _ wn_1_119) hK hP hD hS hA 0 rfl rfl (Nat.le_of_ble_eq_true rfl) (Nat.le_of_ble_eq_true rfl) (Nat.le_of_ble_eq_true rfl) dn_M_init_103 (fun q_12 H hP hD hS => ?_)
  have hP : va_P (dC, dI) xcl [(h0, .inr (0, xo_M f0)), (q_1, .inl (cB, 65536, .inl (fun _ => 0))), (q_2, .inl (cI, 65540, .inl (fun _ => 0))), (q_3, .inl (cI, 65540, .inl (fun _ => 0))), (q_4, .inl (cI, 65540, .inl (fun _ => 0))), (q_12, .inl (cI, 11000, .inl (fun _ => 0)))] H := hP
  have hD : va_D A [(h0, .inr (0, xo_M f0)), (q_1, .inl (cB, 65536, .inl (fun _ => 0))), (q_2, .inl (cI, 65540, .inl (fun _ => 0))), (q_3, .inl (cI, 65540, .inl (fun _ => 0))), (q_4, .inl (cI, 65540, .inl (fun _ => 0))), (q_12, .inl (cI, 11000, .inl (fun _ => 0)))] := hD
  refine va_putF (D := (dC, dI)) (ci := 0) (v := .ref q_12) (ty := (.array .int)) (C := rn_M) (T := fn_M) (N := 91) hx hb hg in_M tn_M tk_M nn_M hown hK hP hD hS 0 rfl rfl 21 (by decide) (hg _ wn_8_89) (fun _ h9 => h9) rfl hin rfl (tk_M 21 (by decide)) rfl rfl (Nat.le_of_ble_eq_true rfl) dn_M_init_105 (fun H locs hP hD hS => ?_)
  have hP : va_P (dC, dI) xcl [(h0, .inr (0, xo_M (va_up f0 21 (.ref q_12)))), (q_1, .inl (cB, 65536, .inl (fun _ => 0))), (q_2, .inl (cI, 65540, .inl (fun _ => 0))), (q_3, .inl (cI, 65540, .inl (fun _ => 0))), (q_4, .inl (cI, 65540, .inl (fun _ => 0))), (q_12, .inl (cI, 11000, .inl (fun _ => 0)))] H := hP
  have hD : va_D A [(h0, .inr (0, xo_M (va_up f0 21 (.ref q_12)))), (q_1, .inl (cB, 65536, .inl (fun _ => 0))), (q_2, .inl (cI, 65540, .inl (fun _ => 0))), (q_3, .inl (cI, 65540, .inl (fun _ => 0))), (q_4, .inl (cI, 65540, .inl (fun _ => 0))), (q_12, .inl (cI, 11000, .inl (fun _ => 0)))] := hD
  have hf1 : (va_up f0 21 (.ref q_12)) 1 = .ref q_1 := hf1
  have hf4 : (va_up f0 21 (.ref q_12)) 4 = .ref q_2 := hf4
  have hf5 : (va_up f0 21 (.ref q_12)) 5 = .ref q_3 := hf5
  have hf6 : (va_up f0 21 (.ref q_12)) 6 = .ref q_4 := hf6
  have hfk : fk_M (va_up f0 21 (.ref q_12)) := hfk
  generalize va_up f0 21 (.ref q_12) = f0 at hP hD hf1 hf4 hf5 hf6 hfk
  have hP := hP.sub (ws' := [(h0, .inr (0, xo_M f0)), (q_1, .inl (cB, 65536, .inl (fun _ => 0))), (q_2, .inl (cI, 65540, .inl (fun _ => 0))), (q_3, .inl (cI, 65540, .inl (fun _ => 0))), (q_4, .inl (cI, 65540, .inl (fun _ => 0)))]) [0, 1, 2, 3, 4] rfl
  have hD := hD.sub (ws' := [(h0, .inr (0, xo_M f0)), (q_1, .inl (cB, 65536, .inl (fun _ => 0))), (q_2, .inl (cI, 65540, .inl (fun _ => 0))), (q_3, .inl (cI, 65540, .inl (fun _ => 0))), (q_4, .inl (cI, 65540, .inl (fun _ => 0)))]) [0, 1, 2, 3, 4] (by decide) rfl
  refine lv_aload_n hx hb dn_M_init_108 rfl (lv_at hl 0 rfl) ?_
  refine lv_sipush (v := 11000) hx hb dn_M_init_109 (by decide) ?_
  refine xk_newJ 11000 hx hb (hg _ wn_1_82) hK hP hD hS hA 2 rfl rfl (Nat.le_of_ble_eq_true rfl) (Nat.le_of_ble_eq_true rfl) (Nat.le_of_ble_eq_true rfl) dn_M_init_112 (fun q_13 H hP hD hS => ?_)
  have hP : va_P (dC, dI) xcl [(h0, .inr (0, xo_M f0)), (q_1, .inl (cB, 65536, .inl (fun _ => 0))), (q_2, .inl (cI, 65540, .inl (fun _ => 0))), (q_3, .inl (cI, 65540, .inl (fun _ => 0))), (q_4, .inl (cI, 65540, .inl (fun _ => 0))), (q_13, .inl (cJ, 11000, .inr (.inl (fun _ => 0))))] H := hP
  have hD : va_D A [(h0, .inr (0, xo_M f0)), (q_1, .inl (cB, 65536, .inl (fun _ => 0))), (q_2, .inl (cI, 65540, .inl (fun _ => 0))), (q_3, .inl (cI, 65540, .inl (fun _ => 0))), (q_4, .inl (cI, 65540, .inl (fun _ => 0))), (q_13, .inl (cJ, 11000, .inr (.inl (fun _ => 0))))] := hD
  refine va_putF (D := (dC, dI)) (ci := 0) (v := .ref q_13) (ty := (.array .long)) (C := rn_M) (T := fn_M) (N := 91) hx hb hg in_M tn_M tk_M nn_M hown hK hP hD hS 0 rfl rfl 22 (by decide) (hg _ wn_8_90) (fun _ h9 => h9) rfl hin rfl (tk_M 22 (by decide)) rfl rfl (Nat.le_of_ble_eq_true rfl) dn_M_init_114 (fun H locs hP hD hS => ?_)
  have hP : va_P (dC, dI) xcl [(h0, .inr (0, xo_M (va_up f0 22 (.ref q_13)))), (q_1, .inl (cB, 65536, .inl (fun _ => 0))), (q_2, .inl (cI, 65540, .inl (fun _ => 0))), (q_3, .inl (cI, 65540, .inl (fun _ => 0))), (q_4, .inl (cI, 65540, .inl (fun _ => 0))), (q_13, .inl (cJ, 11000, .inr (.inl (fun _ => 0))))] H := hP
  have hD : va_D A [(h0, .inr (0, xo_M (va_up f0 22 (.ref q_13)))), (q_1, .inl (cB, 65536, .inl (fun _ => 0))), (q_2, .inl (cI, 65540, .inl (fun _ => 0))), (q_3, .inl (cI, 65540, .inl (fun _ => 0))), (q_4, .inl (cI, 65540, .inl (fun _ => 0))), (q_13, .inl (cJ, 11000, .inr (.inl (fun _ => 0))))] := hD
  have hf1 : (va_up f0 22 (.ref q_13)) 1 = .ref q_1 := hf1
  have hf4 : (va_up f0 22 (.ref q_13)) 4 = .ref q_2 := hf4
  have hf5 : (va_up f0 22 (.ref q_13)) 5 = .ref q_3 := hf5
  have hf6 : (va_up f0 22 (.ref q_13)) 6 = .ref q_4 := hf6
  have hfk : fk_M (va_up f0 22 (.ref q_13)) := hfk
  generalize va_up f0 22 (.ref q_13) = f0 at hP hD hf1 hf4 hf5 hf6 hfk
  have hP := hP.sub (ws' := [(h0, .inr (0, xo_M f0)), (q_1, .inl (cB, 65536, .inl (fun _ => 0))), (q_2, .inl (cI, 65540, .inl (fun _ => 0))), (q_3, .inl (cI, 65540, .inl (fun _ => 0))), (q_4, .inl (cI, 65540, .inl (fun _ => 0)))]) [0, 1, 2, 3, 4] rfl
  have hD := hD.sub (ws' := [(h0, .inr (0, xo_M f0)), (q_1, .inl (cB, 65536, .inl (fun _ => 0))), (q_2, .inl (cI, 65540, .inl (fun _ => 0))), (q_3, .inl (cI, 65540, .inl (fun _ => 0))), (q_4, .inl (cI, 65540, .inl (fun _ => 0)))]) [0, 1, 2, 3, 4] (by decide) rfl
  refine lv_aload_n hx hb dn_M_init_117 rfl (lv_at hl 0 rfl) ?_
  refine lv_sipush (v := 11000) hx hb dn_M_init_118 (by decide) ?_
  refine xk_newI 11000 hx hb (hg _ wn_1_119) hK hP hD hS hA 0 rfl rfl (Nat.le_of_ble_eq_true rfl) (Nat.le_of_ble_eq_true rfl) (Nat.le_of_ble_eq_true rfl) dn_M_init_121 (fun q_14 H hP hD hS => ?_)
  have hP : va_P (dC, dI) xcl [(h0, .inr (0, xo_M f0)), (q_1, .inl (cB, 65536, .inl (fun _ => 0))), (q_2, .inl (cI, 65540, .inl (fun _ => 0))), (q_3, .inl (cI, 65540, .inl (fun _ => 0))), (q_4, .inl (cI, 65540, .inl (fun _ => 0))), (q_14, .inl (cI, 11000, .inl (fun _ => 0)))] H := hP
  have hD : va_D A [(h0, .inr (0, xo_M f0)), (q_1, .inl (cB, 65536, .inl (fun _ => 0))), (q_2, .inl (cI, 65540, .inl (fun _ => 0))), (q_3, .inl (cI, 65540, .inl (fun _ => 0))), (q_4, .inl (cI, 65540, .inl (fun _ => 0))), (q_14, .inl (cI, 11000, .inl (fun _ => 0)))] := hD
  refine va_putF (D := (dC, dI)) (ci := 0) (v := .ref q_14) (ty := (.array .int)) (C := rn_M) (T := fn_M) (N := 91) hx hb hg in_M tn_M tk_M nn_M hown hK hP hD hS 0 rfl rfl 23 (by decide) (hg _ wn_8_91) (fun _ h9 => h9) rfl hin rfl (tk_M 23 (by decide)) rfl rfl (Nat.le_of_ble_eq_true rfl) dn_M_init_123 (fun H locs hP hD hS => ?_)
  have hP : va_P (dC, dI) xcl [(h0, .inr (0, xo_M (va_up f0 23 (.ref q_14)))), (q_1, .inl (cB, 65536, .inl (fun _ => 0))), (q_2, .inl (cI, 65540, .inl (fun _ => 0))), (q_3, .inl (cI, 65540, .inl (fun _ => 0))), (q_4, .inl (cI, 65540, .inl (fun _ => 0))), (q_14, .inl (cI, 11000, .inl (fun _ => 0)))] H := hP
  have hD : va_D A [(h0, .inr (0, xo_M (va_up f0 23 (.ref q_14)))), (q_1, .inl (cB, 65536, .inl (fun _ => 0))), (q_2, .inl (cI, 65540, .inl (fun _ => 0))), (q_3, .inl (cI, 65540, .inl (fun _ => 0))), (q_4, .inl (cI, 65540, .inl (fun _ => 0))), (q_14, .inl (cI, 11000, .inl (fun _ => 0)))] := hD
  have hf1 : (va_up f0 23 (.ref q_14)) 1 = .ref q_1 := hf1
  have hf4 : (va_up f0 23 (.ref q_14)) 4 = .ref q_2 := hf4
  have hf5 : (va_up f0 23 (.ref q_14)) 5 = .ref q_3 := hf5
  have hf6 : (va_up f0 23 (.ref q_14)) 6 = .ref q_4 := hf6
  have hfk : fk_M (va_up f0 23 (.ref q_14)) := hfk
  generalize va_up f0 23 (.ref q_14) = f0 at hP hD hf1 hf4 hf5 hf6 hfk
  have hP := hP.sub (ws' := [(h0, .inr (0, xo_M f0)), (q_1, .inl (cB, 65536, .inl (fun _ => 0))), (q_2, .inl (cI, 65540, .inl (fun _ => 0))), (q_3, .inl (cI, 65540, .inl (fun _ => 0))), (q_4, .inl (cI, 65540, .inl (fun _ => 0)))]) [0, 1, 2, 3, 4] rfl
  have hD := hD.sub (ws' := [(h0, .inr (0, xo_M f0)), (q_1, .inl (cB, 65536, .inl (fun _ => 0))), (q_2, .inl (cI, 65540, .inl (fun _ => 0))), (q_3, .inl (cI, 65540, .inl (fun _ => 0))), (q_4, .inl (cI, 65540, .inl (fun _ => 0)))]) [0, 1, 2, 3, 4] (by decide) rfl
  refine lv_aload_n hx hb dn_M_init_126 rfl (lv_at hl 0 rfl) ?_
  refine lv_sipush (v := 11000) hx hb dn_M_init_127 (by decide) ?_
  refine xk_newI 11000 hx hb (hg _ wn_1_119) hK hP hD hS hA 0 rfl rfl (Nat.le_of_ble_eq_true rfl) (Nat.le_of_ble_eq_true rfl) (Nat.le_of_ble_eq_true rfl) dn_M_init_130 (fun q_15 H hP hD hS => ?_)
  have hP : va_P (dC, dI) xcl [(h0, .inr (0, xo_M f0)), (q_1, .inl (cB, 65536, .inl (fun _ => 0))), (q_2, .inl (cI, 65540, .inl (fun _ => 0))), (q_3, .inl (cI, 65540, .inl (fun _ => 0))), (q_4, .inl (cI, 65540, .inl (fun _ => 0))), (q_15, .inl (cI, 11000, .inl (fun _ => 0)))] H := hP
  have hD : va_D A [(h0, .inr (0, xo_M f0)), (q_1, .inl (cB, 65536, .inl (fun _ => 0))), (q_2, .inl (cI, 65540, .inl (fun _ => 0))), (q_3, .inl (cI, 65540, .inl (fun _ => 0))), (q_4, .inl (cI, 65540, .inl (fun _ => 0))), (q_15, .inl (cI, 11000, .inl (fun _ => 0)))] := hD
  refine va_putF (D := (dC, dI)) (ci := 0) (v := .ref q_15) (ty := (.array .int)) (C := rn_M) (T := fn_M) (N := 91) hx hb hg in_M tn_M tk_M nn_M hown hK hP hD hS 0 rfl rfl 24 (by decide) (hg _ wn_8_92) (fun _ h9 => h9) rfl hin rfl (tk_M 24 (by decide)) rfl rfl (Nat.le_of_ble_eq_true rfl) dn_M_init_132 (fun H locs hP hD hS => ?_)
  have hP : va_P (dC, dI) xcl [(h0, .inr (0, xo_M (va_up f0 24 (.ref q_15)))), (q_1, .inl (cB, 65536, .inl (fun _ => 0))), (q_2, .inl (cI, 65540, .inl (fun _ => 0))), (q_3, .inl (cI, 65540, .inl (fun _ => 0))), (q_4, .inl (cI, 65540, .inl (fun _ => 0))), (q_15, .inl (cI, 11000, .inl (fun _ => 0)))] H := hP
  have hD : va_D A [(h0, .inr (0, xo_M (va_up f0 24 (.ref q_15)))), (q_1, .inl (cB, 65536, .inl (fun _ => 0))), (q_2, .inl (cI, 65540, .inl (fun _ => 0))), (q_3, .inl (cI, 65540, .inl (fun _ => 0))), (q_4, .inl (cI, 65540, .inl (fun _ => 0))), (q_15, .inl (cI, 11000, .inl (fun _ => 0)))] := hD
  have hf1 : (va_up f0 24 (.ref q_15)) 1 = .ref q_1 := hf1
  have hf4 : (va_up f0 24 (.ref q_15)) 4 = .ref q_2 := hf4
  have hf5 : (va_up f0 24 (.ref q_15)) 5 = .ref q_3 := hf5
  have hf6 : (va_up f0 24 (.ref q_15)) 6 = .ref q_4 := hf6
  have hfk : fk_M (va_up f0 24 (.ref q_15)) := hfk
  generalize va_up f0 24 (.ref q_15) = f0 at hP hD hf1 hf4 hf5 hf6 hfk
  have hP := hP.sub (ws' := [(h0, .inr (0, xo_M f0)), (q_1, .inl (cB, 65536, .inl (fun _ => 0))), (q_2, .inl (cI, 65540, .inl (fun _ => 0))), (q_3, .inl (cI, 65540, .inl (fun _ => 0))), (q_4, .inl (cI, 65540, .inl (fun _ => 0)))]) [0, 1, 2, 3, 4] rfl
  have hD := hD.sub (ws' := [(h0, .inr (0, xo_M f0)), (q_1, .inl (cB, 65536, .inl (fun _ => 0))), (q_2, .inl (cI, 65540, .inl (fun _ => 0))), (q_3, .inl (cI, 65540, .inl (fun _ => 0))), (q_4, .inl (cI, 65540, .inl (fun _ => 0)))]) [0, 1, 2, 3, 4] (by decide) rfl
  refine lv_aload_n hx hb dn_M_init_135 rfl (lv_at hl 0 rfl) ?_
  refine lv_sipush (v := 11000) hx hb dn_M_init_136 (by decide) ?_
  refine xk_newI 11000 hx hb (hg _ wn_1_119) hK hP hD hS hA 0 rfl rfl (Nat.le_of_ble_eq_true rfl) (Nat.le_of_ble_eq_true rfl) (Nat.le_of_ble_eq_true rfl) dn_M_init_139 (fun q_16 H hP hD hS => ?_)
  have hP : va_P (dC, dI) xcl [(h0, .inr (0, xo_M f0)), (q_1, .inl (cB, 65536, .inl (fun _ => 0))), (q_2, .inl (cI, 65540, .inl (fun _ => 0))), (q_3, .inl (cI, 65540, .inl (fun _ => 0))), (q_4, .inl (cI, 65540, .inl (fun _ => 0))), (q_16, .inl (cI, 11000, .inl (fun _ => 0)))] H := hP
  have hD : va_D A [(h0, .inr (0, xo_M f0)), (q_1, .inl (cB, 65536, .inl (fun _ => 0))), (q_2, .inl (cI, 65540, .inl (fun _ => 0))), (q_3, .inl (cI, 65540, .inl (fun _ => 0))), (q_4, .inl (cI, 65540, .inl (fun _ => 0))), (q_16, .inl (cI, 11000, .inl (fun _ => 0)))] := hD
  refine va_putF (D := (dC, dI)) (ci := 0) (v := .ref q_16) (ty := (.array .int)) (C := rn_M) (T := fn_M) (N := 91) hx hb hg in_M tn_M tk_M nn_M hown hK hP hD hS 0 rfl rfl 25 (by decide) (hg _ wn_8_93) (fun _ h9 => h9) rfl hin rfl (tk_M 25 (by decide)) rfl rfl (Nat.le_of_ble_eq_true rfl) dn_M_init_141 (fun H locs hP hD hS => ?_)
  have hP : va_P (dC, dI) xcl [(h0, .inr (0, xo_M (va_up f0 25 (.ref q_16)))), (q_1, .inl (cB, 65536, .inl (fun _ => 0))), (q_2, .inl (cI, 65540, .inl (fun _ => 0))), (q_3, .inl (cI, 65540, .inl (fun _ => 0))), (q_4, .inl (cI, 65540, .inl (fun _ => 0))), (q_16, .inl (cI, 11000, .inl (fun _ => 0)))] H := hP
  have hD : va_D A [(h0, .inr (0, xo_M (va_up f0 25 (.ref q_16)))), (q_1, .inl (cB, 65536, .inl (fun _ => 0))), (q_2, .inl (cI, 65540, .inl (fun _ => 0))), (q_3, .inl (cI, 65540, .inl (fun _ => 0))), (q_4, .inl (cI, 65540, .inl (fun _ => 0))), (q_16, .inl (cI, 11000, .inl (fun _ => 0)))] := hD
  have hf1 : (va_up f0 25 (.ref q_16)) 1 = .ref q_1 := hf1
  have hf4 : (va_up f0 25 (.ref q_16)) 4 = .ref q_2 := hf4
  have hf5 : (va_up f0 25 (.ref q_16)) 5 = .ref q_3 := hf5
  have hf6 : (va_up f0 25 (.ref q_16)) 6 = .ref q_4 := hf6
  have hfk : fk_M (va_up f0 25 (.ref q_16)) := hfk
  generalize va_up f0 25 (.ref q_16) = f0 at hP hD hf1 hf4 hf5 hf6 hfk
  have hP := hP.sub (ws' := [(h0, .inr (0, xo_M f0)), (q_1, .inl (cB, 65536, .inl (fun _ => 0))), (q_2, .inl (cI, 65540, .inl (fun _ => 0))), (q_3, .inl (cI, 65540, .inl (fun _ => 0))), (q_4, .inl (cI, 65540, .inl (fun _ => 0)))]) [0, 1, 2, 3, 4] rfl
  have hD := hD.sub (ws' := [(h0, .inr (0, xo_M f0)), (q_1, .inl (cB, 65536, .inl (fun _ => 0))), (q_2, .inl (cI, 65540, .inl (fun _ => 0))), (q_3, .inl (cI, 65540, .inl (fun _ => 0))), (q_4, .inl (cI, 65540, .inl (fun _ => 0)))]) [0, 1, 2, 3, 4] (by decide) rfl
  refine lv_aload_n hx hb dn_M_init_144 rfl (lv_at hl 0 rfl) ?_
  refine lv_sipush (v := 11000) hx hb dn_M_init_145 (by decide) ?_
  refine xk_newI 11000 hx hb (hg _ wn_1_119) hK hP hD hS hA 0 rfl rfl (Nat.le_of_ble_eq_true rfl) (Nat.le_of_ble_eq_true rfl) (Nat.le_of_ble_eq_true rfl) dn_M_init_148 (fun q_17 H hP hD hS => ?_)
  have hP : va_P (dC, dI) xcl [(h0, .inr (0, xo_M f0)), (q_1, .inl (cB, 65536, .inl (fun _ => 0))), (q_2, .inl (cI, 65540, .inl (fun _ => 0))), (q_3, .inl (cI, 65540, .inl (fun _ => 0))), (q_4, .inl (cI, 65540, .inl (fun _ => 0))), (q_17, .inl (cI, 11000, .inl (fun _ => 0)))] H := hP
  have hD : va_D A [(h0, .inr (0, xo_M f0)), (q_1, .inl (cB, 65536, .inl (fun _ => 0))), (q_2, .inl (cI, 65540, .inl (fun _ => 0))), (q_3, .inl (cI, 65540, .inl (fun _ => 0))), (q_4, .inl (cI, 65540, .inl (fun _ => 0))), (q_17, .inl (cI, 11000, .inl (fun _ => 0)))] := hD
  refine va_putF (D := (dC, dI)) (ci := 0) (v := .ref q_17) (ty := (.array .int)) (C := rn_M) (T := fn_M) (N := 91) hx hb hg in_M tn_M tk_M nn_M hown hK hP hD hS 0 rfl rfl 26 (by decide) (hg _ wn_8_94) (fun _ h9 => h9) rfl hin rfl (tk_M 26 (by decide)) rfl rfl (Nat.le_of_ble_eq_true rfl) dn_M_init_150 (fun H locs hP hD hS => ?_)
  have hP : va_P (dC, dI) xcl [(h0, .inr (0, xo_M (va_up f0 26 (.ref q_17)))), (q_1, .inl (cB, 65536, .inl (fun _ => 0))), (q_2, .inl (cI, 65540, .inl (fun _ => 0))), (q_3, .inl (cI, 65540, .inl (fun _ => 0))), (q_4, .inl (cI, 65540, .inl (fun _ => 0))), (q_17, .inl (cI, 11000, .inl (fun _ => 0)))] H := hP
  have hD : va_D A [(h0, .inr (0, xo_M (va_up f0 26 (.ref q_17)))), (q_1, .inl (cB, 65536, .inl (fun _ => 0))), (q_2, .inl (cI, 65540, .inl (fun _ => 0))), (q_3, .inl (cI, 65540, .inl (fun _ => 0))), (q_4, .inl (cI, 65540, .inl (fun _ => 0))), (q_17, .inl (cI, 11000, .inl (fun _ => 0)))] := hD
  have hf1 : (va_up f0 26 (.ref q_17)) 1 = .ref q_1 := hf1
  have hf4 : (va_up f0 26 (.ref q_17)) 4 = .ref q_2 := hf4
  have hf5 : (va_up f0 26 (.ref q_17)) 5 = .ref q_3 := hf5
  have hf6 : (va_up f0 26 (.ref q_17)) 6 = .ref q_4 := hf6
  have hfk : fk_M (va_up f0 26 (.ref q_17)) := hfk
  generalize va_up f0 26 (.ref q_17) = f0 at hP hD hf1 hf4 hf5 hf6 hfk
  have hP := hP.sub (ws' := [(h0, .inr (0, xo_M f0)), (q_1, .inl (cB, 65536, .inl (fun _ => 0))), (q_2, .inl (cI, 65540, .inl (fun _ => 0))), (q_3, .inl (cI, 65540, .inl (fun _ => 0))), (q_4, .inl (cI, 65540, .inl (fun _ => 0)))]) [0, 1, 2, 3, 4] rfl
  have hD := hD.sub (ws' := [(h0, .inr (0, xo_M f0)), (q_1, .inl (cB, 65536, .inl (fun _ => 0))), (q_2, .inl (cI, 65540, .inl (fun _ => 0))), (q_3, .inl (cI, 65540, .inl (fun _ => 0))), (q_4, .inl (cI, 65540, .inl (fun _ => 0)))]) [0, 1, 2, 3, 4] (by decide) rfl
  refine lv_aload_n hx hb dn_M_init_153 rfl (lv_at hl 0 rfl) ?_
  refine lv_sipush (v := 11000) hx hb dn_M_init_154 (by decide) ?_
  refine xk_newI 11000 hx hb (hg _ wn_1_119) hK hP hD hS hA 0 rfl rfl (Nat.le_of_ble_eq_true rfl) (Nat.le_of_ble_eq_true rfl) (Nat.le_of_ble_eq_true rfl) dn_M_init_157 (fun q_18 H hP hD hS => ?_)
  have hP : va_P (dC, dI) xcl [(h0, .inr (0, xo_M f0)), (q_1, .inl (cB, 65536, .inl (fun _ => 0))), (q_2, .inl (cI, 65540, .inl (fun _ => 0))), (q_3, .inl (cI, 65540, .inl (fun _ => 0))), (q_4, .inl (cI, 65540, .inl (fun _ => 0))), (q_18, .inl (cI, 11000, .inl (fun _ => 0)))] H := hP
  have hD : va_D A [(h0, .inr (0, xo_M f0)), (q_1, .inl (cB, 65536, .inl (fun _ => 0))), (q_2, .inl (cI, 65540, .inl (fun _ => 0))), (q_3, .inl (cI, 65540, .inl (fun _ => 0))), (q_4, .inl (cI, 65540, .inl (fun _ => 0))), (q_18, .inl (cI, 11000, .inl (fun _ => 0)))] := hD
  refine va_putF (D := (dC, dI)) (ci := 0) (v := .ref q_18) (ty := (.array .int)) (C := rn_M) (T := fn_M) (N := 91) hx hb hg in_M tn_M tk_M nn_M hown hK hP hD hS 0 rfl rfl 28 (by decide) (hg _ wn_8_96) (fun _ h9 => h9) rfl hin rfl (tk_M 28 (by decide)) rfl rfl (Nat.le_of_ble_eq_true rfl) dn_M_init_159 (fun H locs hP hD hS => ?_)
  have hP : va_P (dC, dI) xcl [(h0, .inr (0, xo_M (va_up f0 28 (.ref q_18)))), (q_1, .inl (cB, 65536, .inl (fun _ => 0))), (q_2, .inl (cI, 65540, .inl (fun _ => 0))), (q_3, .inl (cI, 65540, .inl (fun _ => 0))), (q_4, .inl (cI, 65540, .inl (fun _ => 0))), (q_18, .inl (cI, 11000, .inl (fun _ => 0)))] H := hP
  have hD : va_D A [(h0, .inr (0, xo_M (va_up f0 28 (.ref q_18)))), (q_1, .inl (cB, 65536, .inl (fun _ => 0))), (q_2, .inl (cI, 65540, .inl (fun _ => 0))), (q_3, .inl (cI, 65540, .inl (fun _ => 0))), (q_4, .inl (cI, 65540, .inl (fun _ => 0))), (q_18, .inl (cI, 11000, .inl (fun _ => 0)))] := hD
  have hf1 : (va_up f0 28 (.ref q_18)) 1 = .ref q_1 := hf1
  have hf4 : (va_up f0 28 (.ref q_18)) 4 = .ref q_2 := hf4
  have hf5 : (va_up f0 28 (.ref q_18)) 5 = .ref q_3 := hf5
  have hf6 : (va_up f0 28 (.ref q_18)) 6 = .ref q_4 := hf6
  have hfk : fk_M (va_up f0 28 (.ref q_18)) := hfk
  generalize va_up f0 28 (.ref q_18) = f0 at hP hD hf1 hf4 hf5 hf6 hfk
  have hP := hP.sub (ws' := [(h0, .inr (0, xo_M f0)), (q_1, .inl (cB, 65536, .inl (fun _ => 0))), (q_2, .inl (cI, 65540, .inl (fun _ => 0))), (q_3, .inl (cI, 65540, .inl (fun _ => 0))), (q_4, .inl (cI, 65540, .inl (fun _ => 0)))]) [0, 1, 2, 3, 4] rfl
  have hD := hD.sub (ws' := [(h0, .inr (0, xo_M f0)), (q_1, .inl (cB, 65536, .inl (fun _ => 0))), (q_2, .inl (cI, 65540, .inl (fun _ => 0))), (q_3, .inl (cI, 65540, .inl (fun _ => 0))), (q_4, .inl (cI, 65540, .inl (fun _ => 0)))]) [0, 1, 2, 3, 4] (by decide) rfl
  refine lv_aload_n hx hb dn_M_init_162 rfl (lv_at hl 0 rfl) ?_
  refine lv_sipush (v := 11000) hx hb dn_M_init_163 (by decide) ?_
  refine xk_newI 11000 hx hb (hg _ wn_1_119) hK hP hD hS hA 0 rfl rfl (Nat.le_of_ble_eq_true rfl) (Nat.le_of_ble_eq_true rfl) (Nat.le_of_ble_eq_true rfl) dn_M_init_166 (fun q_19 H hP hD hS => ?_)
  have hP : va_P (dC, dI) xcl [(h0, .inr (0, xo_M f0)), (q_1, .inl (cB, 65536, .inl (fun _ => 0))), (q_2, .inl (cI, 65540, .inl (fun _ => 0))), (q_3, .inl (cI, 65540, .inl (fun _ => 0))), (q_4, .inl (cI, 65540, .inl (fun _ => 0))), (q_19, .inl (cI, 11000, .inl (fun _ => 0)))] H := hP
  have hD : va_D A [(h0, .inr (0, xo_M f0)), (q_1, .inl (cB, 65536, .inl (fun _ => 0))), (q_2, .inl (cI, 65540, .inl (fun _ => 0))), (q_3, .inl (cI, 65540, .inl (fun _ => 0))), (q_4, .inl (cI, 65540, .inl (fun _ => 0))), (q_19, .inl (cI, 11000, .inl (fun _ => 0)))] := hD
  refine va_putF (D := (dC, dI)) (ci := 0) (v := .ref q_19) (ty := (.array .int)) (C := rn_M) (T := fn_M) (N := 91) hx hb hg in_M tn_M tk_M nn_M hown hK hP hD hS 0 rfl rfl 29 (by decide) (hg _ wn_8_97) (fun _ h9 => h9) rfl hin rfl (tk_M 29 (by decide)) rfl rfl (Nat.le_of_ble_eq_true rfl) dn_M_init_168 (fun H locs hP hD hS => ?_)
  have hP : va_P (dC, dI) xcl [(h0, .inr (0, xo_M (va_up f0 29 (.ref q_19)))), (q_1, .inl (cB, 65536, .inl (fun _ => 0))), (q_2, .inl (cI, 65540, .inl (fun _ => 0))), (q_3, .inl (cI, 65540, .inl (fun _ => 0))), (q_4, .inl (cI, 65540, .inl (fun _ => 0))), (q_19, .inl (cI, 11000, .inl (fun _ => 0)))] H := hP
  have hD : va_D A [(h0, .inr (0, xo_M (va_up f0 29 (.ref q_19)))), (q_1, .inl (cB, 65536, .inl (fun _ => 0))), (q_2, .inl (cI, 65540, .inl (fun _ => 0))), (q_3, .inl (cI, 65540, .inl (fun _ => 0))), (q_4, .inl (cI, 65540, .inl (fun _ => 0))), (q_19, .inl (cI, 11000, .inl (fun _ => 0)))] := hD
  have hf1 : (va_up f0 29 (.ref q_19)) 1 = .ref q_1 := hf1
  have hf4 : (va_up f0 29 (.ref q_19)) 4 = .ref q_2 := hf4
  have hf5 : (va_up f0 29 (.ref q_19)) 5 = .ref q_3 := hf5
  have hf6 : (va_up f0 29 (.ref q_19)) 6 = .ref q_4 := hf6
  have hfk : fk_M (va_up f0 29 (.ref q_19)) := hfk
  generalize va_up f0 29 (.ref q_19) = f0 at hP hD hf1 hf4 hf5 hf6 hfk
  have hP := hP.sub (ws' := [(h0, .inr (0, xo_M f0)), (q_1, .inl (cB, 65536, .inl (fun _ => 0))), (q_2, .inl (cI, 65540, .inl (fun _ => 0))), (q_3, .inl (cI, 65540, .inl (fun _ => 0))), (q_4, .inl (cI, 65540, .inl (fun _ => 0)))]) [0, 1, 2, 3, 4] rfl
  have hD := hD.sub (ws' := [(h0, .inr (0, xo_M f0)), (q_1, .inl (cB, 65536, .inl (fun _ => 0))), (q_2, .inl (cI, 65540, .inl (fun _ => 0))), (q_3, .inl (cI, 65540, .inl (fun _ => 0))), (q_4, .inl (cI, 65540, .inl (fun _ => 0)))]) [0, 1, 2, 3, 4] (by decide) rfl
  refine lv_aload_n hx hb dn_M_init_171 rfl (lv_at hl 0 rfl) ?_
  refine lv_sipush (v := 11001) hx hb dn_M_init_172 (by decide) ?_
  refine xk_newI 11001 hx hb (hg _ wn_1_119) hK hP hD hS hA 0 rfl rfl (Nat.le_of_ble_eq_true rfl) (Nat.le_of_ble_eq_true rfl) (Nat.le_of_ble_eq_true rfl) dn_M_init_175 (fun q_20 H hP hD hS => ?_)
  have hP : va_P (dC, dI) xcl [(h0, .inr (0, xo_M f0)), (q_1, .inl (cB, 65536, .inl (fun _ => 0))), (q_2, .inl (cI, 65540, .inl (fun _ => 0))), (q_3, .inl (cI, 65540, .inl (fun _ => 0))), (q_4, .inl (cI, 65540, .inl (fun _ => 0))), (q_20, .inl (cI, 11001, .inl (fun _ => 0)))] H := hP
  have hD : va_D A [(h0, .inr (0, xo_M f0)), (q_1, .inl (cB, 65536, .inl (fun _ => 0))), (q_2, .inl (cI, 65540, .inl (fun _ => 0))), (q_3, .inl (cI, 65540, .inl (fun _ => 0))), (q_4, .inl (cI, 65540, .inl (fun _ => 0))), (q_20, .inl (cI, 11001, .inl (fun _ => 0)))] := hD
  refine va_putF (D := (dC, dI)) (ci := 0) (v := .ref q_20) (ty := (.array .int)) (C := rn_M) (T := fn_M) (N := 91) hx hb hg in_M tn_M tk_M nn_M hown hK hP hD hS 0 rfl rfl 30 (by decide) (hg _ wn_8_98) (fun _ h9 => h9) rfl hin rfl (tk_M 30 (by decide)) rfl rfl (Nat.le_of_ble_eq_true rfl) dn_M_init_177 (fun H locs hP hD hS => ?_)
  have hP : va_P (dC, dI) xcl [(h0, .inr (0, xo_M (va_up f0 30 (.ref q_20)))), (q_1, .inl (cB, 65536, .inl (fun _ => 0))), (q_2, .inl (cI, 65540, .inl (fun _ => 0))), (q_3, .inl (cI, 65540, .inl (fun _ => 0))), (q_4, .inl (cI, 65540, .inl (fun _ => 0))), (q_20, .inl (cI, 11001, .inl (fun _ => 0)))] H := hP
  have hD : va_D A [(h0, .inr (0, xo_M (va_up f0 30 (.ref q_20)))), (q_1, .inl (cB, 65536, .inl (fun _ => 0))), (q_2, .inl (cI, 65540, .inl (fun _ => 0))), (q_3, .inl (cI, 65540, .inl (fun _ => 0))), (q_4, .inl (cI, 65540, .inl (fun _ => 0))), (q_20, .inl (cI, 11001, .inl (fun _ => 0)))] := hD
  have hf1 : (va_up f0 30 (.ref q_20)) 1 = .ref q_1 := hf1
  have hf4 : (va_up f0 30 (.ref q_20)) 4 = .ref q_2 := hf4
  have hf5 : (va_up f0 30 (.ref q_20)) 5 = .ref q_3 := hf5
  have hf6 : (va_up f0 30 (.ref q_20)) 6 = .ref q_4 := hf6
  have hfk : fk_M (va_up f0 30 (.ref q_20)) := hfk
  generalize va_up f0 30 (.ref q_20) = f0 at hP hD hf1 hf4 hf5 hf6 hfk
  have hP := hP.sub (ws' := [(h0, .inr (0, xo_M f0)), (q_1, .inl (cB, 65536, .inl (fun _ => 0))), (q_2, .inl (cI, 65540, .inl (fun _ => 0))), (q_3, .inl (cI, 65540, .inl (fun _ => 0))), (q_4, .inl (cI, 65540, .inl (fun _ => 0)))]) [0, 1, 2, 3, 4] rfl
  have hD := hD.sub (ws' := [(h0, .inr (0, xo_M f0)), (q_1, .inl (cB, 65536, .inl (fun _ => 0))), (q_2, .inl (cI, 65540, .inl (fun _ => 0))), (q_3, .inl (cI, 65540, .inl (fun _ => 0))), (q_4, .inl (cI, 65540, .inl (fun _ => 0)))]) [0, 1, 2, 3, 4] (by decide) rfl
  refine lv_aload_n hx hb dn_M_init_180 rfl (lv_at hl 0 rfl) ?_
  refine lv_sipush (v := 11000) hx hb dn_M_init_181 (by decide) ?_
  refine xk_newI 11000 hx hb (hg _ wn_1_119) hK hP hD hS hA 0 rfl rfl (Nat.le_of_ble_eq_true rfl) (Nat.le_of_ble_eq_true rfl) (Nat.le_of_ble_eq_true rfl) dn_M_init_184 (fun q_21 H hP hD hS => ?_)
  have hP : va_P (dC, dI) xcl [(h0, .inr (0, xo_M f0)), (q_1, .inl (cB, 65536, .inl (fun _ => 0))), (q_2, .inl (cI, 65540, .inl (fun _ => 0))), (q_3, .inl (cI, 65540, .inl (fun _ => 0))), (q_4, .inl (cI, 65540, .inl (fun _ => 0))), (q_21, .inl (cI, 11000, .inl (fun _ => 0)))] H := hP
  have hD : va_D A [(h0, .inr (0, xo_M f0)), (q_1, .inl (cB, 65536, .inl (fun _ => 0))), (q_2, .inl (cI, 65540, .inl (fun _ => 0))), (q_3, .inl (cI, 65540, .inl (fun _ => 0))), (q_4, .inl (cI, 65540, .inl (fun _ => 0))), (q_21, .inl (cI, 11000, .inl (fun _ => 0)))] := hD
  refine va_putF (D := (dC, dI)) (ci := 0) (v := .ref q_21) (ty := (.array .int)) (C := rn_M) (T := fn_M) (N := 91) hx hb hg in_M tn_M tk_M nn_M hown hK hP hD hS 0 rfl rfl 32 (by decide) (hg _ wn_8_100) (fun _ h9 => h9) rfl hin rfl (tk_M 32 (by decide)) rfl rfl (Nat.le_of_ble_eq_true rfl) dn_M_init_186 (fun H locs hP hD hS => ?_)
  have hP : va_P (dC, dI) xcl [(h0, .inr (0, xo_M (va_up f0 32 (.ref q_21)))), (q_1, .inl (cB, 65536, .inl (fun _ => 0))), (q_2, .inl (cI, 65540, .inl (fun _ => 0))), (q_3, .inl (cI, 65540, .inl (fun _ => 0))), (q_4, .inl (cI, 65540, .inl (fun _ => 0))), (q_21, .inl (cI, 11000, .inl (fun _ => 0)))] H := hP
  have hD : va_D A [(h0, .inr (0, xo_M (va_up f0 32 (.ref q_21)))), (q_1, .inl (cB, 65536, .inl (fun _ => 0))), (q_2, .inl (cI, 65540, .inl (fun _ => 0))), (q_3, .inl (cI, 65540, .inl (fun _ => 0))), (q_4, .inl (cI, 65540, .inl (fun _ => 0))), (q_21, .inl (cI, 11000, .inl (fun _ => 0)))] := hD
  have hf1 : (va_up f0 32 (.ref q_21)) 1 = .ref q_1 := hf1
  have hf4 : (va_up f0 32 (.ref q_21)) 4 = .ref q_2 := hf4
  have hf5 : (va_up f0 32 (.ref q_21)) 5 = .ref q_3 := hf5
  have hf6 : (va_up f0 32 (.ref q_21)) 6 = .ref q_4 := hf6
  have hfk : fk_M (va_up f0 32 (.ref q_21)) := hfk
  generalize va_up f0 32 (.ref q_21) = f0 at hP hD hf1 hf4 hf5 hf6 hfk
  have hP := hP.sub (ws' := [(h0, .inr (0, xo_M f0)), (q_1, .inl (cB, 65536, .inl (fun _ => 0))), (q_2, .inl (cI, 65540, .inl (fun _ => 0))), (q_3, .inl (cI, 65540, .inl (fun _ => 0))), (q_4, .inl (cI, 65540, .inl (fun _ => 0)))]) [0, 1, 2, 3, 4] rfl
  have hD := hD.sub (ws' := [(h0, .inr (0, xo_M f0)), (q_1, .inl (cB, 65536, .inl (fun _ => 0))), (q_2, .inl (cI, 65540, .inl (fun _ => 0))), (q_3, .inl (cI, 65540, .inl (fun _ => 0))), (q_4, .inl (cI, 65540, .inl (fun _ => 0)))]) [0, 1, 2, 3, 4] (by decide) rfl
  refine lv_aload_n hx hb dn_M_init_189 rfl (lv_at hl 0 rfl) ?_
  refine lv_sipush (v := 11000) hx hb dn_M_init_190 (by decide) ?_
  refine xk_newI 11000 hx hb (hg _ wn_1_119) hK hP hD hS hA 0 rfl rfl (Nat.le_of_ble_eq_true rfl) (Nat.le_of_ble_eq_true rfl) (Nat.le_of_ble_eq_true rfl) dn_M_init_193 (fun q_22 H hP hD hS => ?_)
  have hP : va_P (dC, dI) xcl [(h0, .inr (0, xo_M f0)), (q_1, .inl (cB, 65536, .inl (fun _ => 0))), (q_2, .inl (cI, 65540, .inl (fun _ => 0))), (q_3, .inl (cI, 65540, .inl (fun _ => 0))), (q_4, .inl (cI, 65540, .inl (fun _ => 0))), (q_22, .inl (cI, 11000, .inl (fun _ => 0)))] H := hP
  have hD : va_D A [(h0, .inr (0, xo_M f0)), (q_1, .inl (cB, 65536, .inl (fun _ => 0))), (q_2, .inl (cI, 65540, .inl (fun _ => 0))), (q_3, .inl (cI, 65540, .inl (fun _ => 0))), (q_4, .inl (cI, 65540, .inl (fun _ => 0))), (q_22, .inl (cI, 11000, .inl (fun _ => 0)))] := hD
  refine va_putF (D := (dC, dI)) (ci := 0) (v := .ref q_22) (ty := (.array .int)) (C := rn_M) (T := fn_M) (N := 91) hx hb hg in_M tn_M tk_M nn_M hown hK hP hD hS 0 rfl rfl 33 (by decide) (hg _ wn_8_101) (fun _ h9 => h9) rfl hin rfl (tk_M 33 (by decide)) rfl rfl (Nat.le_of_ble_eq_true rfl) dn_M_init_195 (fun H locs hP hD hS => ?_)
  have hP : va_P (dC, dI) xcl [(h0, .inr (0, xo_M (va_up f0 33 (.ref q_22)))), (q_1, .inl (cB, 65536, .inl (fun _ => 0))), (q_2, .inl (cI, 65540, .inl (fun _ => 0))), (q_3, .inl (cI, 65540, .inl (fun _ => 0))), (q_4, .inl (cI, 65540, .inl (fun _ => 0))), (q_22, .inl (cI, 11000, .inl (fun _ => 0)))] H := hP
  have hD : va_D A [(h0, .inr (0, xo_M (va_up f0 33 (.ref q_22)))), (q_1, .inl (cB, 65536, .inl (fun _ => 0))), (q_2, .inl (cI, 65540, .inl (fun _ => 0))), (q_3, .inl (cI, 65540, .inl (fun _ => 0))), (q_4, .inl (cI, 65540, .inl (fun _ => 0))), (q_22, .inl (cI, 11000, .inl (fun _ => 0)))] := hD
  have hf1 : (va_up f0 33 (.ref q_22)) 1 = .ref q_1 := hf1
  have hf4 : (va_up f0 33 (.ref q_22)) 4 = .ref q_2 := hf4
  have hf5 : (va_up f0 33 (.ref q_22)) 5 = .ref q_3 := hf5
  have hf6 : (va_up f0 33 (.ref q_22)) 6 = .ref q_4 := hf6
  have hfk : fk_M (va_up f0 33 (.ref q_22)) := hfk
  generalize va_up f0 33 (.ref q_22) = f0 at hP hD hf1 hf4 hf5 hf6 hfk
  have hP := hP.sub (ws' := [(h0, .inr (0, xo_M f0)), (q_1, .inl (cB, 65536, .inl (fun _ => 0))), (q_2, .inl (cI, 65540, .inl (fun _ => 0))), (q_3, .inl (cI, 65540, .inl (fun _ => 0))), (q_4, .inl (cI, 65540, .inl (fun _ => 0)))]) [0, 1, 2, 3, 4] rfl
  have hD := hD.sub (ws' := [(h0, .inr (0, xo_M f0)), (q_1, .inl (cB, 65536, .inl (fun _ => 0))), (q_2, .inl (cI, 65540, .inl (fun _ => 0))), (q_3, .inl (cI, 65540, .inl (fun _ => 0))), (q_4, .inl (cI, 65540, .inl (fun _ => 0)))]) [0, 1, 2, 3, 4] (by decide) rfl
  refine lv_aload_n hx hb dn_M_init_198 rfl (lv_at hl 0 rfl) ?_
  refine lv_sipush (v := 11000) hx hb dn_M_init_199 (by decide) ?_
  refine xk_newI 11000 hx hb (hg _ wn_1_119) hK hP hD hS hA 0 rfl rfl (Nat.le_of_ble_eq_true rfl) (Nat.le_of_ble_eq_true rfl) (Nat.le_of_ble_eq_true rfl) dn_M_init_202 (fun q_23 H hP hD hS => ?_)
  have hP : va_P (dC, dI) xcl [(h0, .inr (0, xo_M f0)), (q_1, .inl (cB, 65536, .inl (fun _ => 0))), (q_2, .inl (cI, 65540, .inl (fun _ => 0))), (q_3, .inl (cI, 65540, .inl (fun _ => 0))), (q_4, .inl (cI, 65540, .inl (fun _ => 0))), (q_23, .inl (cI, 11000, .inl (fun _ => 0)))] H := hP
  have hD : va_D A [(h0, .inr (0, xo_M f0)), (q_1, .inl (cB, 65536, .inl (fun _ => 0))), (q_2, .inl (cI, 65540, .inl (fun _ => 0))), (q_3, .inl (cI, 65540, .inl (fun _ => 0))), (q_4, .inl (cI, 65540, .inl (fun _ => 0))), (q_23, .inl (cI, 11000, .inl (fun _ => 0)))] := hD
  refine va_putF (D := (dC, dI)) (ci := 0) (v := .ref q_23) (ty := (.array .int)) (C := rn_M) (T := fn_M) (N := 91) hx hb hg in_M tn_M tk_M nn_M hown hK hP hD hS 0 rfl rfl 34 (by decide) (hg _ wn_8_102) (fun _ h9 => h9) rfl hin rfl (tk_M 34 (by decide)) rfl rfl (Nat.le_of_ble_eq_true rfl) dn_M_init_204 (fun H locs hP hD hS => ?_)
  have hP : va_P (dC, dI) xcl [(h0, .inr (0, xo_M (va_up f0 34 (.ref q_23)))), (q_1, .inl (cB, 65536, .inl (fun _ => 0))), (q_2, .inl (cI, 65540, .inl (fun _ => 0))), (q_3, .inl (cI, 65540, .inl (fun _ => 0))), (q_4, .inl (cI, 65540, .inl (fun _ => 0))), (q_23, .inl (cI, 11000, .inl (fun _ => 0)))] H := hP
  have hD : va_D A [(h0, .inr (0, xo_M (va_up f0 34 (.ref q_23)))), (q_1, .inl (cB, 65536, .inl (fun _ => 0))), (q_2, .inl (cI, 65540, .inl (fun _ => 0))), (q_3, .inl (cI, 65540, .inl (fun _ => 0))), (q_4, .inl (cI, 65540, .inl (fun _ => 0))), (q_23, .inl (cI, 11000, .inl (fun _ => 0)))] := hD
  have hf1 : (va_up f0 34 (.ref q_23)) 1 = .ref q_1 := hf1
  have hf4 : (va_up f0 34 (.ref q_23)) 4 = .ref q_2 := hf4
  have hf5 : (va_up f0 34 (.ref q_23)) 5 = .ref q_3 := hf5
  have hf6 : (va_up f0 34 (.ref q_23)) 6 = .ref q_4 := hf6
  have hfk : fk_M (va_up f0 34 (.ref q_23)) := hfk
  generalize va_up f0 34 (.ref q_23) = f0 at hP hD hf1 hf4 hf5 hf6 hfk
  have hP := hP.sub (ws' := [(h0, .inr (0, xo_M f0)), (q_1, .inl (cB, 65536, .inl (fun _ => 0))), (q_2, .inl (cI, 65540, .inl (fun _ => 0))), (q_3, .inl (cI, 65540, .inl (fun _ => 0))), (q_4, .inl (cI, 65540, .inl (fun _ => 0)))]) [0, 1, 2, 3, 4] rfl
  have hD := hD.sub (ws' := [(h0, .inr (0, xo_M f0)), (q_1, .inl (cB, 65536, .inl (fun _ => 0))), (q_2, .inl (cI, 65540, .inl (fun _ => 0))), (q_3, .inl (cI, 65540, .inl (fun _ => 0))), (q_4, .inl (cI, 65540, .inl (fun _ => 0)))]) [0, 1, 2, 3, 4] (by decide) rfl
  refine lv_aload_n hx hb dn_M_init_207 rfl (lv_at hl 0 rfl) ?_
  refine lv_sipush (v := 6600) hx hb dn_M_init_208 (by decide) ?_
  refine xk_newI 6600 hx hb (hg _ wn_1_119) hK hP hD hS hA 0 rfl rfl (Nat.le_of_ble_eq_true rfl) (Nat.le_of_ble_eq_true rfl) (Nat.le_of_ble_eq_true rfl) dn_M_init_211 (fun q_24 H hP hD hS => ?_)
  have hP : va_P (dC, dI) xcl [(h0, .inr (0, xo_M f0)), (q_1, .inl (cB, 65536, .inl (fun _ => 0))), (q_2, .inl (cI, 65540, .inl (fun _ => 0))), (q_3, .inl (cI, 65540, .inl (fun _ => 0))), (q_4, .inl (cI, 65540, .inl (fun _ => 0))), (q_24, .inl (cI, 6600, .inl (fun _ => 0)))] H := hP
  have hD : va_D A [(h0, .inr (0, xo_M f0)), (q_1, .inl (cB, 65536, .inl (fun _ => 0))), (q_2, .inl (cI, 65540, .inl (fun _ => 0))), (q_3, .inl (cI, 65540, .inl (fun _ => 0))), (q_4, .inl (cI, 65540, .inl (fun _ => 0))), (q_24, .inl (cI, 6600, .inl (fun _ => 0)))] := hD
  refine va_putF (D := (dC, dI)) (ci := 0) (v := .ref q_24) (ty := (.array .int)) (C := rn_M) (T := fn_M) (N := 91) hx hb hg in_M tn_M tk_M nn_M hown hK hP hD hS 0 rfl rfl 36 (by decide) (hg _ wn_8_104) (fun _ h9 => h9) rfl hin rfl (tk_M 36 (by decide)) rfl rfl (Nat.le_of_ble_eq_true rfl) dn_M_init_213 (fun H locs hP hD hS => ?_)
  have hP : va_P (dC, dI) xcl [(h0, .inr (0, xo_M (va_up f0 36 (.ref q_24)))), (q_1, .inl (cB, 65536, .inl (fun _ => 0))), (q_2, .inl (cI, 65540, .inl (fun _ => 0))), (q_3, .inl (cI, 65540, .inl (fun _ => 0))), (q_4, .inl (cI, 65540, .inl (fun _ => 0))), (q_24, .inl (cI, 6600, .inl (fun _ => 0)))] H := hP
  have hD : va_D A [(h0, .inr (0, xo_M (va_up f0 36 (.ref q_24)))), (q_1, .inl (cB, 65536, .inl (fun _ => 0))), (q_2, .inl (cI, 65540, .inl (fun _ => 0))), (q_3, .inl (cI, 65540, .inl (fun _ => 0))), (q_4, .inl (cI, 65540, .inl (fun _ => 0))), (q_24, .inl (cI, 6600, .inl (fun _ => 0)))] := hD
  have hf1 : (va_up f0 36 (.ref q_24)) 1 = .ref q_1 := hf1
  have hf4 : (va_up f0 36 (.ref q_24)) 4 = .ref q_2 := hf4
  have hf5 : (va_up f0 36 (.ref q_24)) 5 = .ref q_3 := hf5
  have hf6 : (va_up f0 36 (.ref q_24)) 6 = .ref q_4 := hf6
  have hfk : fk_M (va_up f0 36 (.ref q_24)) := hfk
  generalize va_up f0 36 (.ref q_24) = f0 at hP hD hf1 hf4 hf5 hf6 hfk
  have hP := hP.sub (ws' := [(h0, .inr (0, xo_M f0)), (q_1, .inl (cB, 65536, .inl (fun _ => 0))), (q_2, .inl (cI, 65540, .inl (fun _ => 0))), (q_3, .inl (cI, 65540, .inl (fun _ => 0))), (q_4, .inl (cI, 65540, .inl (fun _ => 0)))]) [0, 1, 2, 3, 4] rfl
  have hD := hD.sub (ws' := [(h0, .inr (0, xo_M f0)), (q_1, .inl (cB, 65536, .inl (fun _ => 0))), (q_2, .inl (cI, 65540, .inl (fun _ => 0))), (q_3, .inl (cI, 65540, .inl (fun _ => 0))), (q_4, .inl (cI, 65540, .inl (fun _ => 0)))]) [0, 1, 2, 3, 4] (by decide) rfl
  refine lv_aload_n hx hb dn_M_init_216 rfl (lv_at hl 0 rfl) ?_
  refine lv_sipush (v := 6600) hx hb dn_M_init_217 (by decide) ?_
  refine xk_newI 6600 hx hb (hg _ wn_1_119) hK hP hD hS hA 0 rfl rfl (Nat.le_of_ble_eq_true rfl) (Nat.le_of_ble_eq_true rfl) (Nat.le_of_ble_eq_true rfl) dn_M_init_220 (fun q_25 H hP hD hS => ?_)
  have hP : va_P (dC, dI) xcl [(h0, .inr (0, xo_M f0)), (q_1, .inl (cB, 65536, .inl (fun _ => 0))), (q_2, .inl (cI, 65540, .inl (fun _ => 0))), (q_3, .inl (cI, 65540, .inl (fun _ => 0))), (q_4, .inl (cI, 65540, .inl (fun _ => 0))), (q_25, .inl (cI, 6600, .inl (fun _ => 0)))] H := hP
  have hD : va_D A [(h0, .inr (0, xo_M f0)), (q_1, .inl (cB, 65536, .inl (fun _ => 0))), (q_2, .inl (cI, 65540, .inl (fun _ => 0))), (q_3, .inl (cI, 65540, .inl (fun _ => 0))), (q_4, .inl (cI, 65540, .inl (fun _ => 0))), (q_25, .inl (cI, 6600, .inl (fun _ => 0)))] := hD
  refine va_putF (D := (dC, dI)) (ci := 0) (v := .ref q_25) (ty := (.array .int)) (C := rn_M) (T := fn_M) (N := 91) hx hb hg in_M tn_M tk_M nn_M hown hK hP hD hS 0 rfl rfl 37 (by decide) (hg _ wn_8_105) (fun _ h9 => h9) rfl hin rfl (tk_M 37 (by decide)) rfl rfl (Nat.le_of_ble_eq_true rfl) dn_M_init_222 (fun H locs hP hD hS => ?_)
  have hP : va_P (dC, dI) xcl [(h0, .inr (0, xo_M (va_up f0 37 (.ref q_25)))), (q_1, .inl (cB, 65536, .inl (fun _ => 0))), (q_2, .inl (cI, 65540, .inl (fun _ => 0))), (q_3, .inl (cI, 65540, .inl (fun _ => 0))), (q_4, .inl (cI, 65540, .inl (fun _ => 0))), (q_25, .inl (cI, 6600, .inl (fun _ => 0)))] H := hP
  have hD : va_D A [(h0, .inr (0, xo_M (va_up f0 37 (.ref q_25)))), (q_1, .inl (cB, 65536, .inl (fun _ => 0))), (q_2, .inl (cI, 65540, .inl (fun _ => 0))), (q_3, .inl (cI, 65540, .inl (fun _ => 0))), (q_4, .inl (cI, 65540, .inl (fun _ => 0))), (q_25, .inl (cI, 6600, .inl (fun _ => 0)))] := hD
  have hf1 : (va_up f0 37 (.ref q_25)) 1 = .ref q_1 := hf1
  have hf4 : (va_up f0 37 (.ref q_25)) 4 = .ref q_2 := hf4
  have hf5 : (va_up f0 37 (.ref q_25)) 5 = .ref q_3 := hf5
  have hf6 : (va_up f0 37 (.ref q_25)) 6 = .ref q_4 := hf6
  have hfk : fk_M (va_up f0 37 (.ref q_25)) := hfk
  generalize va_up f0 37 (.ref q_25) = f0 at hP hD hf1 hf4 hf5 hf6 hfk
  have hP := hP.sub (ws' := [(h0, .inr (0, xo_M f0)), (q_1, .inl (cB, 65536, .inl (fun _ => 0))), (q_2, .inl (cI, 65540, .inl (fun _ => 0))), (q_3, .inl (cI, 65540, .inl (fun _ => 0))), (q_4, .inl (cI, 65540, .inl (fun _ => 0)))]) [0, 1, 2, 3, 4] rfl
  have hD := hD.sub (ws' := [(h0, .inr (0, xo_M f0)), (q_1, .inl (cB, 65536, .inl (fun _ => 0))), (q_2, .inl (cI, 65540, .inl (fun _ => 0))), (q_3, .inl (cI, 65540, .inl (fun _ => 0))), (q_4, .inl (cI, 65540, .inl (fun _ => 0)))]) [0, 1, 2, 3, 4] (by decide) rfl
  refine lv_aload_n hx hb dn_M_init_225 rfl (lv_at hl 0 rfl) ?_
  refine lv_sipush (v := 6600) hx hb dn_M_init_226 (by decide) ?_
  refine xk_newI 6600 hx hb (hg _ wn_1_119) hK hP hD hS hA 0 rfl rfl (Nat.le_of_ble_eq_true rfl) (Nat.le_of_ble_eq_true rfl) (Nat.le_of_ble_eq_true rfl) dn_M_init_229 (fun q_26 H hP hD hS => ?_)
  have hP : va_P (dC, dI) xcl [(h0, .inr (0, xo_M f0)), (q_1, .inl (cB, 65536, .inl (fun _ => 0))), (q_2, .inl (cI, 65540, .inl (fun _ => 0))), (q_3, .inl (cI, 65540, .inl (fun _ => 0))), (q_4, .inl (cI, 65540, .inl (fun _ => 0))), (q_26, .inl (cI, 6600, .inl (fun _ => 0)))] H := hP
  have hD : va_D A [(h0, .inr (0, xo_M f0)), (q_1, .inl (cB, 65536, .inl (fun _ => 0))), (q_2, .inl (cI, 65540, .inl (fun _ => 0))), (q_3, .inl (cI, 65540, .inl (fun _ => 0))), (q_4, .inl (cI, 65540, .inl (fun _ => 0))), (q_26, .inl (cI, 6600, .inl (fun _ => 0)))] := hD
  refine va_putF (D := (dC, dI)) (ci := 0) (v := .ref q_26) (ty := (.array .int)) (C := rn_M) (T := fn_M) (N := 91) hx hb hg in_M tn_M tk_M nn_M hown hK hP hD hS 0 rfl rfl 39 (by decide) (hg _ wn_8_107) (fun _ h9 => h9) rfl hin rfl (tk_M 39 (by decide)) rfl rfl (Nat.le_of_ble_eq_true rfl) dn_M_init_231 (fun H locs hP hD hS => ?_)
  have hP : va_P (dC, dI) xcl [(h0, .inr (0, xo_M (va_up f0 39 (.ref q_26)))), (q_1, .inl (cB, 65536, .inl (fun _ => 0))), (q_2, .inl (cI, 65540, .inl (fun _ => 0))), (q_3, .inl (cI, 65540, .inl (fun _ => 0))), (q_4, .inl (cI, 65540, .inl (fun _ => 0))), (q_26, .inl (cI, 6600, .inl (fun _ => 0)))] H := hP
  have hD : va_D A [(h0, .inr (0, xo_M (va_up f0 39 (.ref q_26)))), (q_1, .inl (cB, 65536, .inl (fun _ => 0))), (q_2, .inl (cI, 65540, .inl (fun _ => 0))), (q_3, .inl (cI, 65540, .inl (fun _ => 0))), (q_4, .inl (cI, 65540, .inl (fun _ => 0))), (q_26, .inl (cI, 6600, .inl (fun _ => 0)))] := hD
  have hf1 : (va_up f0 39 (.ref q_26)) 1 = .ref q_1 := hf1
  have hf4 : (va_up f0 39 (.ref q_26)) 4 = .ref q_2 := hf4
  have hf5 : (va_up f0 39 (.ref q_26)) 5 = .ref q_3 := hf5
  have hf6 : (va_up f0 39 (.ref q_26)) 6 = .ref q_4 := hf6
  have hfk : fk_M (va_up f0 39 (.ref q_26)) := hfk
  generalize va_up f0 39 (.ref q_26) = f0 at hP hD hf1 hf4 hf5 hf6 hfk
  have hP := hP.sub (ws' := [(h0, .inr (0, xo_M f0)), (q_1, .inl (cB, 65536, .inl (fun _ => 0))), (q_2, .inl (cI, 65540, .inl (fun _ => 0))), (q_3, .inl (cI, 65540, .inl (fun _ => 0))), (q_4, .inl (cI, 65540, .inl (fun _ => 0)))]) [0, 1, 2, 3, 4] rfl
  have hD := hD.sub (ws' := [(h0, .inr (0, xo_M f0)), (q_1, .inl (cB, 65536, .inl (fun _ => 0))), (q_2, .inl (cI, 65540, .inl (fun _ => 0))), (q_3, .inl (cI, 65540, .inl (fun _ => 0))), (q_4, .inl (cI, 65540, .inl (fun _ => 0)))]) [0, 1, 2, 3, 4] (by decide) rfl
  refine lv_aload_n hx hb dn_M_init_234 rfl (lv_at hl 0 rfl) ?_
  refine lv_sipush (v := 6600) hx hb dn_M_init_235 (by decide) ?_
  refine xk_newI 6600 hx hb (hg _ wn_1_119) hK hP hD hS hA 0 rfl rfl (Nat.le_of_ble_eq_true rfl) (Nat.le_of_ble_eq_true rfl) (Nat.le_of_ble_eq_true rfl) dn_M_init_238 (fun q_27 H hP hD hS => ?_)
  have hP : va_P (dC, dI) xcl [(h0, .inr (0, xo_M f0)), (q_1, .inl (cB, 65536, .inl (fun _ => 0))), (q_2, .inl (cI, 65540, .inl (fun _ => 0))), (q_3, .inl (cI, 65540, .inl (fun _ => 0))), (q_4, .inl (cI, 65540, .inl (fun _ => 0))), (q_27, .inl (cI, 6600, .inl (fun _ => 0)))] H := hP
  have hD : va_D A [(h0, .inr (0, xo_M f0)), (q_1, .inl (cB, 65536, .inl (fun _ => 0))), (q_2, .inl (cI, 65540, .inl (fun _ => 0))), (q_3, .inl (cI, 65540, .inl (fun _ => 0))), (q_4, .inl (cI, 65540, .inl (fun _ => 0))), (q_27, .inl (cI, 6600, .inl (fun _ => 0)))] := hD
  refine va_putF (D := (dC, dI)) (ci := 0) (v := .ref q_27) (ty := (.array .int)) (C := rn_M) (T := fn_M) (N := 91) hx hb hg in_M tn_M tk_M nn_M hown hK hP hD hS 0 rfl rfl 40 (by decide) (hg _ wn_8_108) (fun _ h9 => h9) rfl hin rfl (tk_M 40 (by decide)) rfl rfl (Nat.le_of_ble_eq_true rfl) dn_M_init_240 (fun H locs hP hD hS => ?_)
  have hP : va_P (dC, dI) xcl [(h0, .inr (0, xo_M (va_up f0 40 (.ref q_27)))), (q_1, .inl (cB, 65536, .inl (fun _ => 0))), (q_2, .inl (cI, 65540, .inl (fun _ => 0))), (q_3, .inl (cI, 65540, .inl (fun _ => 0))), (q_4, .inl (cI, 65540, .inl (fun _ => 0))), (q_27, .inl (cI, 6600, .inl (fun _ => 0)))] H := hP
  have hD : va_D A [(h0, .inr (0, xo_M (va_up f0 40 (.ref q_27)))), (q_1, .inl (cB, 65536, .inl (fun _ => 0))), (q_2, .inl (cI, 65540, .inl (fun _ => 0))), (q_3, .inl (cI, 65540, .inl (fun _ => 0))), (q_4, .inl (cI, 65540, .inl (fun _ => 0))), (q_27, .inl (cI, 6600, .inl (fun _ => 0)))] := hD
  have hf1 : (va_up f0 40 (.ref q_27)) 1 = .ref q_1 := hf1
  have hf4 : (va_up f0 40 (.ref q_27)) 4 = .ref q_2 := hf4
  have hf5 : (va_up f0 40 (.ref q_27)) 5 = .ref q_3 := hf5
  have hf6 : (va_up f0 40 (.ref q_27)) 6 = .ref q_4 := hf6
  have hfk : fk_M (va_up f0 40 (.ref q_27)) := hfk
  generalize va_up f0 40 (.ref q_27) = f0 at hP hD hf1 hf4 hf5 hf6 hfk
  have hP := hP.sub (ws' := [(h0, .inr (0, xo_M f0)), (q_1, .inl (cB, 65536, .inl (fun _ => 0))), (q_2, .inl (cI, 65540, .inl (fun _ => 0))), (q_3, .inl (cI, 65540, .inl (fun _ => 0))), (q_4, .inl (cI, 65540, .inl (fun _ => 0)))]) [0, 1, 2, 3, 4] rfl
  have hD := hD.sub (ws' := [(h0, .inr (0, xo_M f0)), (q_1, .inl (cB, 65536, .inl (fun _ => 0))), (q_2, .inl (cI, 65540, .inl (fun _ => 0))), (q_3, .inl (cI, 65540, .inl (fun _ => 0))), (q_4, .inl (cI, 65540, .inl (fun _ => 0)))]) [0, 1, 2, 3, 4] (by decide) rfl
  refine lv_aload_n hx hb dn_M_init_243 rfl (lv_at hl 0 rfl) ?_
  refine lv_sipush (v := 4096) hx hb dn_M_init_244 (by decide) ?_
  refine xk_newI 4096 hx hb (hg _ wn_1_119) hK hP hD hS hA 0 rfl rfl (Nat.le_of_ble_eq_true rfl) (Nat.le_of_ble_eq_true rfl) (Nat.le_of_ble_eq_true rfl) dn_M_init_247 (fun q_28 H hP hD hS => ?_)
  have hP : va_P (dC, dI) xcl [(h0, .inr (0, xo_M f0)), (q_1, .inl (cB, 65536, .inl (fun _ => 0))), (q_2, .inl (cI, 65540, .inl (fun _ => 0))), (q_3, .inl (cI, 65540, .inl (fun _ => 0))), (q_4, .inl (cI, 65540, .inl (fun _ => 0))), (q_28, .inl (cI, 4096, .inl (fun _ => 0)))] H := hP
  have hD : va_D A [(h0, .inr (0, xo_M f0)), (q_1, .inl (cB, 65536, .inl (fun _ => 0))), (q_2, .inl (cI, 65540, .inl (fun _ => 0))), (q_3, .inl (cI, 65540, .inl (fun _ => 0))), (q_4, .inl (cI, 65540, .inl (fun _ => 0))), (q_28, .inl (cI, 4096, .inl (fun _ => 0)))] := hD
  refine va_put (D := (dC, dI)) (ci := 0) (v := .ref q_28) (ty := (.array .int)) (C := rn_M) (T := fn_M) (N := 91) hx hb hg in_M tn_M tk_M nn_M hown hK hP hD hS 0 rfl rfl 41 (by decide) (hg _ wn_8_109) (fun _ h9 => h9) rfl (tk_M 41 (by decide)) rfl rfl (Nat.le_of_ble_eq_true rfl) dn_M_init_249 (fun H locs hP hD hS => ?_)
  have hP : va_P (dC, dI) xcl [(h0, .inr (0, xo_M (va_up f0 41 (.ref q_28)))), (q_1, .inl (cB, 65536, .inl (fun _ => 0))), (q_2, .inl (cI, 65540, .inl (fun _ => 0))), (q_3, .inl (cI, 65540, .inl (fun _ => 0))), (q_4, .inl (cI, 65540, .inl (fun _ => 0))), (q_28, .inl (cI, 4096, .inl (fun _ => 0)))] H := hP
  have hD : va_D A [(h0, .inr (0, xo_M (va_up f0 41 (.ref q_28)))), (q_1, .inl (cB, 65536, .inl (fun _ => 0))), (q_2, .inl (cI, 65540, .inl (fun _ => 0))), (q_3, .inl (cI, 65540, .inl (fun _ => 0))), (q_4, .inl (cI, 65540, .inl (fun _ => 0))), (q_28, .inl (cI, 4096, .inl (fun _ => 0)))] := hD
  have hf1 : (va_up f0 41 (.ref q_28)) 1 = .ref q_1 := hf1
  have hf4 : (va_up f0 41 (.ref q_28)) 4 = .ref q_2 := hf4
  have hf5 : (va_up f0 41 (.ref q_28)) 5 = .ref q_3 := hf5
  have hf6 : (va_up f0 41 (.ref q_28)) 6 = .ref q_4 := hf6
  have hfk : fk_M (va_up f0 41 (.ref q_28)) := hfk
  generalize va_up f0 41 (.ref q_28) = f0 at hP hD hf1 hf4 hf5 hf6 hfk
  have hP := hP.sub (ws' := [(h0, .inr (0, xo_M f0)), (q_1, .inl (cB, 65536, .inl (fun _ => 0))), (q_2, .inl (cI, 65540, .inl (fun _ => 0))), (q_3, .inl (cI, 65540, .inl (fun _ => 0))), (q_4, .inl (cI, 65540, .inl (fun _ => 0)))]) [0, 1, 2, 3, 4] rfl
  have hD := hD.sub (ws' := [(h0, .inr (0, xo_M f0)), (q_1, .inl (cB, 65536, .inl (fun _ => 0))), (q_2, .inl (cI, 65540, .inl (fun _ => 0))), (q_3, .inl (cI, 65540, .inl (fun _ => 0))), (q_4, .inl (cI, 65540, .inl (fun _ => 0)))]) [0, 1, 2, 3, 4] (by decide) rfl
  refine lv_aload_n hx hb dn_M_init_252 rfl (lv_at hl 0 rfl) ?_
  refine lv_sipush (v := 256) hx hb dn_M_init_253 (by decide) ?_
  refine xk_newJ 256 hx hb (hg _ wn_1_82) hK hP hD hS hA 2 rfl rfl (Nat.le_of_ble_eq_true rfl) (Nat.le_of_ble_eq_true rfl) (Nat.le_of_ble_eq_true rfl) dn_M_init_256 (fun q_29 H hP hD hS => ?_)
  have hP : va_P (dC, dI) xcl [(h0, .inr (0, xo_M f0)), (q_1, .inl (cB, 65536, .inl (fun _ => 0))), (q_2, .inl (cI, 65540, .inl (fun _ => 0))), (q_3, .inl (cI, 65540, .inl (fun _ => 0))), (q_4, .inl (cI, 65540, .inl (fun _ => 0))), (q_29, .inl (cJ, 256, .inr (.inl (fun _ => 0))))] H := hP
  have hD : va_D A [(h0, .inr (0, xo_M f0)), (q_1, .inl (cB, 65536, .inl (fun _ => 0))), (q_2, .inl (cI, 65540, .inl (fun _ => 0))), (q_3, .inl (cI, 65540, .inl (fun _ => 0))), (q_4, .inl (cI, 65540, .inl (fun _ => 0))), (q_29, .inl (cJ, 256, .inr (.inl (fun _ => 0))))] := hD
  refine va_put (D := (dC, dI)) (ci := 0) (v := .ref q_29) (ty := (.array .long)) (C := rn_M) (T := fn_M) (N := 91) hx hb hg in_M tn_M tk_M nn_M hown hK hP hD hS 0 rfl rfl 43 (by decide) (hg _ wn_8_111) (fun _ h9 => h9) rfl (tk_M 43 (by decide)) rfl rfl (Nat.le_of_ble_eq_true rfl) dn_M_init_258 (fun H locs hP hD hS => ?_)
  have hP : va_P (dC, dI) xcl [(h0, .inr (0, xo_M (va_up f0 43 (.ref q_29)))), (q_1, .inl (cB, 65536, .inl (fun _ => 0))), (q_2, .inl (cI, 65540, .inl (fun _ => 0))), (q_3, .inl (cI, 65540, .inl (fun _ => 0))), (q_4, .inl (cI, 65540, .inl (fun _ => 0))), (q_29, .inl (cJ, 256, .inr (.inl (fun _ => 0))))] H := hP
  have hD : va_D A [(h0, .inr (0, xo_M (va_up f0 43 (.ref q_29)))), (q_1, .inl (cB, 65536, .inl (fun _ => 0))), (q_2, .inl (cI, 65540, .inl (fun _ => 0))), (q_3, .inl (cI, 65540, .inl (fun _ => 0))), (q_4, .inl (cI, 65540, .inl (fun _ => 0))), (q_29, .inl (cJ, 256, .inr (.inl (fun _ => 0))))] := hD
  have hf1 : (va_up f0 43 (.ref q_29)) 1 = .ref q_1 := hf1
  have hf4 : (va_up f0 43 (.ref q_29)) 4 = .ref q_2 := hf4
  have hf5 : (va_up f0 43 (.ref q_29)) 5 = .ref q_3 := hf5
  have hf6 : (va_up f0 43 (.ref q_29)) 6 = .ref q_4 := hf6
  have hfk : fk_M (va_up f0 43 (.ref q_29)) := hfk
  generalize va_up f0 43 (.ref q_29) = f0 at hP hD hf1 hf4 hf5 hf6 hfk
  have hP := hP.sub (ws' := [(h0, .inr (0, xo_M f0)), (q_1, .inl (cB, 65536, .inl (fun _ => 0))), (q_2, .inl (cI, 65540, .inl (fun _ => 0))), (q_3, .inl (cI, 65540, .inl (fun _ => 0))), (q_4, .inl (cI, 65540, .inl (fun _ => 0)))]) [0, 1, 2, 3, 4] rfl
  have hD := hD.sub (ws' := [(h0, .inr (0, xo_M f0)), (q_1, .inl (cB, 65536, .inl (fun _ => 0))), (q_2, .inl (cI, 65540, .inl (fun _ => 0))), (q_3, .inl (cI, 65540, .inl (fun _ => 0))), (q_4, .inl (cI, 65540, .inl (fun _ => 0)))]) [0, 1, 2, 3, 4] (by decide) rfl
  refine lv_aload_n hx hb dn_M_init_261 rfl (lv_at hl 0 rfl) ?_
  refine lv_sipush (v := 3600) hx hb dn_M_init_262 (by decide) ?_
  refine xk_newJ 3600 hx hb (hg _ wn_1_82) hK hP hD hS hA 2 rfl rfl (Nat.le_of_ble_eq_true rfl) (Nat.le_of_ble_eq_true rfl) (Nat.le_of_ble_eq_true rfl) dn_M_init_265 (fun q_30 H hP hD hS => ?_)
  have hP : va_P (dC, dI) xcl [(h0, .inr (0, xo_M f0)), (q_1, .inl (cB, 65536, .inl (fun _ => 0))), (q_2, .inl (cI, 65540, .inl (fun _ => 0))), (q_3, .inl (cI, 65540, .inl (fun _ => 0))), (q_4, .inl (cI, 65540, .inl (fun _ => 0))), (q_30, .inl (cJ, 3600, .inr (.inl (fun _ => 0))))] H := hP
  have hD : va_D A [(h0, .inr (0, xo_M f0)), (q_1, .inl (cB, 65536, .inl (fun _ => 0))), (q_2, .inl (cI, 65540, .inl (fun _ => 0))), (q_3, .inl (cI, 65540, .inl (fun _ => 0))), (q_4, .inl (cI, 65540, .inl (fun _ => 0))), (q_30, .inl (cJ, 3600, .inr (.inl (fun _ => 0))))] := hD
  refine va_putF (D := (dC, dI)) (ci := 0) (v := .ref q_30) (ty := (.array .long)) (C := rn_M) (T := fn_M) (N := 91) hx hb hg in_M tn_M tk_M nn_M hown hK hP hD hS 0 rfl rfl 45 (by decide) (hg _ wn_8_113) (fun _ h9 => h9) rfl hin rfl (tk_M 45 (by decide)) rfl rfl (Nat.le_of_ble_eq_true rfl) dn_M_init_267 (fun H locs hP hD hS => ?_)
  have hP : va_P (dC, dI) xcl [(h0, .inr (0, xo_M (va_up f0 45 (.ref q_30)))), (q_1, .inl (cB, 65536, .inl (fun _ => 0))), (q_2, .inl (cI, 65540, .inl (fun _ => 0))), (q_3, .inl (cI, 65540, .inl (fun _ => 0))), (q_4, .inl (cI, 65540, .inl (fun _ => 0))), (q_30, .inl (cJ, 3600, .inr (.inl (fun _ => 0))))] H := hP
  have hD : va_D A [(h0, .inr (0, xo_M (va_up f0 45 (.ref q_30)))), (q_1, .inl (cB, 65536, .inl (fun _ => 0))), (q_2, .inl (cI, 65540, .inl (fun _ => 0))), (q_3, .inl (cI, 65540, .inl (fun _ => 0))), (q_4, .inl (cI, 65540, .inl (fun _ => 0))), (q_30, .inl (cJ, 3600, .inr (.inl (fun _ => 0))))] := hD
  have hf1 : (va_up f0 45 (.ref q_30)) 1 = .ref q_1 := hf1
  have hf4 : (va_up f0 45 (.ref q_30)) 4 = .ref q_2 := hf4
  have hf5 : (va_up f0 45 (.ref q_30)) 5 = .ref q_3 := hf5
  have hf6 : (va_up f0 45 (.ref q_30)) 6 = .ref q_4 := hf6
  have hfk : fk_M (va_up f0 45 (.ref q_30)) := hfk
  generalize va_up f0 45 (.ref q_30) = f0 at hP hD hf1 hf4 hf5 hf6 hfk
  have hP := hP.sub (ws' := [(h0, .inr (0, xo_M f0)), (q_1, .inl (cB, 65536, .inl (fun _ => 0))), (q_2, .inl (cI, 65540, .inl (fun _ => 0))), (q_3, .inl (cI, 65540, .inl (fun _ => 0))), (q_4, .inl (cI, 65540, .inl (fun _ => 0)))]) [0, 1, 2, 3, 4] rfl
  have hD := hD.sub (ws' := [(h0, .inr (0, xo_M f0)), (q_1, .inl (cB, 65536, .inl (fun _ => 0))), (q_2, .inl (cI, 65540, .inl (fun _ => 0))), (q_3, .inl (cI, 65540, .inl (fun _ => 0))), (q_4, .inl (cI, 65540, .inl (fun _ => 0)))]) [0, 1, 2, 3, 4] (by decide) rfl
  refine lv_aload_n hx hb dn_M_init_270 rfl (lv_at hl 0 rfl) ?_
  refine lv_sipush (v := 3600) hx hb dn_M_init_271 (by decide) ?_
  refine xk_newJ 3600 hx hb (hg _ wn_1_82) hK hP hD hS hA 2 rfl rfl (Nat.le_of_ble_eq_true rfl) (Nat.le_of_ble_eq_true rfl) (Nat.le_of_ble_eq_true rfl) dn_M_init_274 (fun q_31 H hP hD hS => ?_)
  have hP : va_P (dC, dI) xcl [(h0, .inr (0, xo_M f0)), (q_1, .inl (cB, 65536, .inl (fun _ => 0))), (q_2, .inl (cI, 65540, .inl (fun _ => 0))), (q_3, .inl (cI, 65540, .inl (fun _ => 0))), (q_4, .inl (cI, 65540, .inl (fun _ => 0))), (q_31, .inl (cJ, 3600, .inr (.inl (fun _ => 0))))] H := hP
  have hD : va_D A [(h0, .inr (0, xo_M f0)), (q_1, .inl (cB, 65536, .inl (fun _ => 0))), (q_2, .inl (cI, 65540, .inl (fun _ => 0))), (q_3, .inl (cI, 65540, .inl (fun _ => 0))), (q_4, .inl (cI, 65540, .inl (fun _ => 0))), (q_31, .inl (cJ, 3600, .inr (.inl (fun _ => 0))))] := hD
  refine va_putF (D := (dC, dI)) (ci := 0) (v := .ref q_31) (ty := (.array .long)) (C := rn_M) (T := fn_M) (N := 91) hx hb hg in_M tn_M tk_M nn_M hown hK hP hD hS 0 rfl rfl 46 (by decide) (hg _ wn_8_114) (fun _ h9 => h9) rfl hin rfl (tk_M 46 (by decide)) rfl rfl (Nat.le_of_ble_eq_true rfl) dn_M_init_276 (fun H locs hP hD hS => ?_)
  have hP : va_P (dC, dI) xcl [(h0, .inr (0, xo_M (va_up f0 46 (.ref q_31)))), (q_1, .inl (cB, 65536, .inl (fun _ => 0))), (q_2, .inl (cI, 65540, .inl (fun _ => 0))), (q_3, .inl (cI, 65540, .inl (fun _ => 0))), (q_4, .inl (cI, 65540, .inl (fun _ => 0))), (q_31, .inl (cJ, 3600, .inr (.inl (fun _ => 0))))] H := hP
  have hD : va_D A [(h0, .inr (0, xo_M (va_up f0 46 (.ref q_31)))), (q_1, .inl (cB, 65536, .inl (fun _ => 0))), (q_2, .inl (cI, 65540, .inl (fun _ => 0))), (q_3, .inl (cI, 65540, .inl (fun _ => 0))), (q_4, .inl (cI, 65540, .inl (fun _ => 0))), (q_31, .inl (cJ, 3600, .inr (.inl (fun _ => 0))))] := hD
  have hf1 : (va_up f0 46 (.ref q_31)) 1 = .ref q_1 := hf1
  have hf4 : (va_up f0 46 (.ref q_31)) 4 = .ref q_2 := hf4
  have hf5 : (va_up f0 46 (.ref q_31)) 5 = .ref q_3 := hf5
  have hf6 : (va_up f0 46 (.ref q_31)) 6 = .ref q_4 := hf6
  have hfk : fk_M (va_up f0 46 (.ref q_31)) := hfk
  generalize va_up f0 46 (.ref q_31) = f0 at hP hD hf1 hf4 hf5 hf6 hfk
  have hP := hP.sub (ws' := [(h0, .inr (0, xo_M f0)), (q_1, .inl (cB, 65536, .inl (fun _ => 0))), (q_2, .inl (cI, 65540, .inl (fun _ => 0))), (q_3, .inl (cI, 65540, .inl (fun _ => 0))), (q_4, .inl (cI, 65540, .inl (fun _ => 0)))]) [0, 1, 2, 3, 4] rfl
  have hD := hD.sub (ws' := [(h0, .inr (0, xo_M f0)), (q_1, .inl (cB, 65536, .inl (fun _ => 0))), (q_2, .inl (cI, 65540, .inl (fun _ => 0))), (q_3, .inl (cI, 65540, .inl (fun _ => 0))), (q_4, .inl (cI, 65540, .inl (fun _ => 0)))]) [0, 1, 2, 3, 4] (by decide) rfl
  refine lv_aload_n hx hb dn_M_init_279 rfl (lv_at hl 0 rfl) ?_
  refine lv_sipush (v := 3600) hx hb dn_M_init_280 (by decide) ?_
  refine xk_newJ 3600 hx hb (hg _ wn_1_82) hK hP hD hS hA 2 rfl rfl (Nat.le_of_ble_eq_true rfl) (Nat.le_of_ble_eq_true rfl) (Nat.le_of_ble_eq_true rfl) dn_M_init_283 (fun q_32 H hP hD hS => ?_)
  have hP : va_P (dC, dI) xcl [(h0, .inr (0, xo_M f0)), (q_1, .inl (cB, 65536, .inl (fun _ => 0))), (q_2, .inl (cI, 65540, .inl (fun _ => 0))), (q_3, .inl (cI, 65540, .inl (fun _ => 0))), (q_4, .inl (cI, 65540, .inl (fun _ => 0))), (q_32, .inl (cJ, 3600, .inr (.inl (fun _ => 0))))] H := hP
  have hD : va_D A [(h0, .inr (0, xo_M f0)), (q_1, .inl (cB, 65536, .inl (fun _ => 0))), (q_2, .inl (cI, 65540, .inl (fun _ => 0))), (q_3, .inl (cI, 65540, .inl (fun _ => 0))), (q_4, .inl (cI, 65540, .inl (fun _ => 0))), (q_32, .inl (cJ, 3600, .inr (.inl (fun _ => 0))))] := hD
  refine va_putF (D := (dC, dI)) (ci := 0) (v := .ref q_32) (ty := (.array .long)) (C := rn_M) (T := fn_M) (N := 91) hx hb hg in_M tn_M tk_M nn_M hown hK hP hD hS 0 rfl rfl 47 (by decide) (hg _ wn_8_115) (fun _ h9 => h9) rfl hin rfl (tk_M 47 (by decide)) rfl rfl (Nat.le_of_ble_eq_true rfl) dn_M_init_285 (fun H locs hP hD hS => ?_)
  have hP : va_P (dC, dI) xcl [(h0, .inr (0, xo_M (va_up f0 47 (.ref q_32)))), (q_1, .inl (cB, 65536, .inl (fun _ => 0))), (q_2, .inl (cI, 65540, .inl (fun _ => 0))), (q_3, .inl (cI, 65540, .inl (fun _ => 0))), (q_4, .inl (cI, 65540, .inl (fun _ => 0))), (q_32, .inl (cJ, 3600, .inr (.inl (fun _ => 0))))] H := hP
  have hD : va_D A [(h0, .inr (0, xo_M (va_up f0 47 (.ref q_32)))), (q_1, .inl (cB, 65536, .inl (fun _ => 0))), (q_2, .inl (cI, 65540, .inl (fun _ => 0))), (q_3, .inl (cI, 65540, .inl (fun _ => 0))), (q_4, .inl (cI, 65540, .inl (fun _ => 0))), (q_32, .inl (cJ, 3600, .inr (.inl (fun _ => 0))))] := hD
  have hf1 : (va_up f0 47 (.ref q_32)) 1 = .ref q_1 := hf1
  have hf4 : (va_up f0 47 (.ref q_32)) 4 = .ref q_2 := hf4
  have hf5 : (va_up f0 47 (.ref q_32)) 5 = .ref q_3 := hf5
  have hf6 : (va_up f0 47 (.ref q_32)) 6 = .ref q_4 := hf6
  have hfk : fk_M (va_up f0 47 (.ref q_32)) := hfk
  generalize va_up f0 47 (.ref q_32) = f0 at hP hD hf1 hf4 hf5 hf6 hfk
  have hP := hP.sub (ws' := [(h0, .inr (0, xo_M f0)), (q_1, .inl (cB, 65536, .inl (fun _ => 0))), (q_2, .inl (cI, 65540, .inl (fun _ => 0))), (q_3, .inl (cI, 65540, .inl (fun _ => 0))), (q_4, .inl (cI, 65540, .inl (fun _ => 0)))]) [0, 1, 2, 3, 4] rfl
  have hD := hD.sub (ws' := [(h0, .inr (0, xo_M f0)), (q_1, .inl (cB, 65536, .inl (fun _ => 0))), (q_2, .inl (cI, 65540, .inl (fun _ => 0))), (q_3, .inl (cI, 65540, .inl (fun _ => 0))), (q_4, .inl (cI, 65540, .inl (fun _ => 0)))]) [0, 1, 2, 3, 4] (by decide) rfl
  refine lv_aload_n hx hb dn_M_init_288 rfl (lv_at hl 0 rfl) ?_
  refine lv_sipush (v := 3600) hx hb dn_M_init_289 (by decide) ?_
  refine xk_newJ 3600 hx hb (hg _ wn_1_82) hK hP hD hS hA 2 rfl rfl (Nat.le_of_ble_eq_true rfl) (Nat.le_of_ble_eq_true rfl) (Nat.le_of_ble_eq_true rfl) dn_M_init_292 (fun q_33 H hP hD hS => ?_)
  have hP : va_P (dC, dI) xcl [(h0, .inr (0, xo_M f0)), (q_1, .inl (cB, 65536, .inl (fun _ => 0))), (q_2, .inl (cI, 65540, .inl (fun _ => 0))), (q_3, .inl (cI, 65540, .inl (fun _ => 0))), (q_4, .inl (cI, 65540, .inl (fun _ => 0))), (q_33, .inl (cJ, 3600, .inr (.inl (fun _ => 0))))] H := hP
  have hD : va_D A [(h0, .inr (0, xo_M f0)), (q_1, .inl (cB, 65536, .inl (fun _ => 0))), (q_2, .inl (cI, 65540, .inl (fun _ => 0))), (q_3, .inl (cI, 65540, .inl (fun _ => 0))), (q_4, .inl (cI, 65540, .inl (fun _ => 0))), (q_33, .inl (cJ, 3600, .inr (.inl (fun _ => 0))))] := hD
  refine va_putF (D := (dC, dI)) (ci := 0) (v := .ref q_33) (ty := (.array .long)) (C := rn_M) (T := fn_M) (N := 91) hx hb hg in_M tn_M tk_M nn_M hown hK hP hD hS 0 rfl rfl 48 (by decide) (hg _ wn_8_116) (fun _ h9 => h9) rfl hin rfl (tk_M 48 (by decide)) rfl rfl (Nat.le_of_ble_eq_true rfl) dn_M_init_294 (fun H locs hP hD hS => ?_)
  have hP : va_P (dC, dI) xcl [(h0, .inr (0, xo_M (va_up f0 48 (.ref q_33)))), (q_1, .inl (cB, 65536, .inl (fun _ => 0))), (q_2, .inl (cI, 65540, .inl (fun _ => 0))), (q_3, .inl (cI, 65540, .inl (fun _ => 0))), (q_4, .inl (cI, 65540, .inl (fun _ => 0))), (q_33, .inl (cJ, 3600, .inr (.inl (fun _ => 0))))] H := hP
  have hD : va_D A [(h0, .inr (0, xo_M (va_up f0 48 (.ref q_33)))), (q_1, .inl (cB, 65536, .inl (fun _ => 0))), (q_2, .inl (cI, 65540, .inl (fun _ => 0))), (q_3, .inl (cI, 65540, .inl (fun _ => 0))), (q_4, .inl (cI, 65540, .inl (fun _ => 0))), (q_33, .inl (cJ, 3600, .inr (.inl (fun _ => 0))))] := hD
  have hf1 : (va_up f0 48 (.ref q_33)) 1 = .ref q_1 := hf1
  have hf4 : (va_up f0 48 (.ref q_33)) 4 = .ref q_2 := hf4
  have hf5 : (va_up f0 48 (.ref q_33)) 5 = .ref q_3 := hf5
  have hf6 : (va_up f0 48 (.ref q_33)) 6 = .ref q_4 := hf6
  have hfk : fk_M (va_up f0 48 (.ref q_33)) := hfk
  generalize va_up f0 48 (.ref q_33) = f0 at hP hD hf1 hf4 hf5 hf6 hfk
  have hP := hP.sub (ws' := [(h0, .inr (0, xo_M f0)), (q_1, .inl (cB, 65536, .inl (fun _ => 0))), (q_2, .inl (cI, 65540, .inl (fun _ => 0))), (q_3, .inl (cI, 65540, .inl (fun _ => 0))), (q_4, .inl (cI, 65540, .inl (fun _ => 0)))]) [0, 1, 2, 3, 4] rfl
  have hD := hD.sub (ws' := [(h0, .inr (0, xo_M f0)), (q_1, .inl (cB, 65536, .inl (fun _ => 0))), (q_2, .inl (cI, 65540, .inl (fun _ => 0))), (q_3, .inl (cI, 65540, .inl (fun _ => 0))), (q_4, .inl (cI, 65540, .inl (fun _ => 0)))]) [0, 1, 2, 3, 4] (by decide) rfl
  refine lv_aload_n hx hb dn_M_init_297 rfl (lv_at hl 0 rfl) ?_
  refine lv_sipush (v := 4096) hx hb dn_M_init_298 (by decide) ?_
  refine xk_newI 4096 hx hb (hg _ wn_1_119) hK hP hD hS hA 0 rfl rfl (Nat.le_of_ble_eq_true rfl) (Nat.le_of_ble_eq_true rfl) (Nat.le_of_ble_eq_true rfl) dn_M_init_301 (fun q_34 H hP hD hS => ?_)
  have hP : va_P (dC, dI) xcl [(h0, .inr (0, xo_M f0)), (q_1, .inl (cB, 65536, .inl (fun _ => 0))), (q_2, .inl (cI, 65540, .inl (fun _ => 0))), (q_3, .inl (cI, 65540, .inl (fun _ => 0))), (q_4, .inl (cI, 65540, .inl (fun _ => 0))), (q_34, .inl (cI, 4096, .inl (fun _ => 0)))] H := hP
  have hD : va_D A [(h0, .inr (0, xo_M f0)), (q_1, .inl (cB, 65536, .inl (fun _ => 0))), (q_2, .inl (cI, 65540, .inl (fun _ => 0))), (q_3, .inl (cI, 65540, .inl (fun _ => 0))), (q_4, .inl (cI, 65540, .inl (fun _ => 0))), (q_34, .inl (cI, 4096, .inl (fun _ => 0)))] := hD
  refine va_putF (D := (dC, dI)) (ci := 0) (v := .ref q_34) (ty := (.array .int)) (C := rn_M) (T := fn_M) (N := 91) hx hb hg in_M tn_M tk_M nn_M hown hK hP hD hS 0 rfl rfl 49 (by decide) (hg _ wn_8_117) (fun _ h9 => h9) rfl hin rfl (tk_M 49 (by decide)) rfl rfl (Nat.le_of_ble_eq_true rfl) dn_M_init_303 (fun H locs hP hD hS => ?_)
  have hP : va_P (dC, dI) xcl [(h0, .inr (0, xo_M (va_up f0 49 (.ref q_34)))), (q_1, .inl (cB, 65536, .inl (fun _ => 0))), (q_2, .inl (cI, 65540, .inl (fun _ => 0))), (q_3, .inl (cI, 65540, .inl (fun _ => 0))), (q_4, .inl (cI, 65540, .inl (fun _ => 0))), (q_34, .inl (cI, 4096, .inl (fun _ => 0)))] H := hP
  have hD : va_D A [(h0, .inr (0, xo_M (va_up f0 49 (.ref q_34)))), (q_1, .inl (cB, 65536, .inl (fun _ => 0))), (q_2, .inl (cI, 65540, .inl (fun _ => 0))), (q_3, .inl (cI, 65540, .inl (fun _ => 0))), (q_4, .inl (cI, 65540, .inl (fun _ => 0))), (q_34, .inl (cI, 4096, .inl (fun _ => 0)))] := hD
  have hf1 : (va_up f0 49 (.ref q_34)) 1 = .ref q_1 := hf1
  have hf4 : (va_up f0 49 (.ref q_34)) 4 = .ref q_2 := hf4
  have hf5 : (va_up f0 49 (.ref q_34)) 5 = .ref q_3 := hf5
  have hf6 : (va_up f0 49 (.ref q_34)) 6 = .ref q_4 := hf6
  have hfk : fk_M (va_up f0 49 (.ref q_34)) := hfk
  generalize va_up f0 49 (.ref q_34) = f0 at hP hD hf1 hf4 hf5 hf6 hfk
  have hP := hP.sub (ws' := [(h0, .inr (0, xo_M f0)), (q_1, .inl (cB, 65536, .inl (fun _ => 0))), (q_2, .inl (cI, 65540, .inl (fun _ => 0))), (q_3, .inl (cI, 65540, .inl (fun _ => 0))), (q_4, .inl (cI, 65540, .inl (fun _ => 0)))]) [0, 1, 2, 3, 4] rfl
  have hD := hD.sub (ws' := [(h0, .inr (0, xo_M f0)), (q_1, .inl (cB, 65536, .inl (fun _ => 0))), (q_2, .inl (cI, 65540, .inl (fun _ => 0))), (q_3, .inl (cI, 65540, .inl (fun _ => 0))), (q_4, .inl (cI, 65540, .inl (fun _ => 0)))]) [0, 1, 2, 3, 4] (by decide) rfl
  refine lv_aload_n hx hb dn_M_init_306 rfl (lv_at hl 0 rfl) ?_
  refine lv_sipush (v := 4096) hx hb dn_M_init_307 (by decide) ?_
  refine xk_newI 4096 hx hb (hg _ wn_1_119) hK hP hD hS hA 0 rfl rfl (Nat.le_of_ble_eq_true rfl) (Nat.le_of_ble_eq_true rfl) (Nat.le_of_ble_eq_true rfl) dn_M_init_310 (fun q_35 H hP hD hS => ?_)
  have hP : va_P (dC, dI) xcl [(h0, .inr (0, xo_M f0)), (q_1, .inl (cB, 65536, .inl (fun _ => 0))), (q_2, .inl (cI, 65540, .inl (fun _ => 0))), (q_3, .inl (cI, 65540, .inl (fun _ => 0))), (q_4, .inl (cI, 65540, .inl (fun _ => 0))), (q_35, .inl (cI, 4096, .inl (fun _ => 0)))] H := hP
  have hD : va_D A [(h0, .inr (0, xo_M f0)), (q_1, .inl (cB, 65536, .inl (fun _ => 0))), (q_2, .inl (cI, 65540, .inl (fun _ => 0))), (q_3, .inl (cI, 65540, .inl (fun _ => 0))), (q_4, .inl (cI, 65540, .inl (fun _ => 0))), (q_35, .inl (cI, 4096, .inl (fun _ => 0)))] := hD
  refine va_putF (D := (dC, dI)) (ci := 0) (v := .ref q_35) (ty := (.array .int)) (C := rn_M) (T := fn_M) (N := 91) hx hb hg in_M tn_M tk_M nn_M hown hK hP hD hS 0 rfl rfl 50 (by decide) (hg _ wn_8_118) (fun _ h9 => h9) rfl hin rfl (tk_M 50 (by decide)) rfl rfl (Nat.le_of_ble_eq_true rfl) dn_M_init_312 (fun H locs hP hD hS => ?_)
  have hP : va_P (dC, dI) xcl [(h0, .inr (0, xo_M (va_up f0 50 (.ref q_35)))), (q_1, .inl (cB, 65536, .inl (fun _ => 0))), (q_2, .inl (cI, 65540, .inl (fun _ => 0))), (q_3, .inl (cI, 65540, .inl (fun _ => 0))), (q_4, .inl (cI, 65540, .inl (fun _ => 0))), (q_35, .inl (cI, 4096, .inl (fun _ => 0)))] H := hP
  have hD : va_D A [(h0, .inr (0, xo_M (va_up f0 50 (.ref q_35)))), (q_1, .inl (cB, 65536, .inl (fun _ => 0))), (q_2, .inl (cI, 65540, .inl (fun _ => 0))), (q_3, .inl (cI, 65540, .inl (fun _ => 0))), (q_4, .inl (cI, 65540, .inl (fun _ => 0))), (q_35, .inl (cI, 4096, .inl (fun _ => 0)))] := hD
  have hf1 : (va_up f0 50 (.ref q_35)) 1 = .ref q_1 := hf1
  have hf4 : (va_up f0 50 (.ref q_35)) 4 = .ref q_2 := hf4
  have hf5 : (va_up f0 50 (.ref q_35)) 5 = .ref q_3 := hf5
  have hf6 : (va_up f0 50 (.ref q_35)) 6 = .ref q_4 := hf6
  have hfk : fk_M (va_up f0 50 (.ref q_35)) := hfk
  generalize va_up f0 50 (.ref q_35) = f0 at hP hD hf1 hf4 hf5 hf6 hfk
  have hP := hP.sub (ws' := [(h0, .inr (0, xo_M f0)), (q_1, .inl (cB, 65536, .inl (fun _ => 0))), (q_2, .inl (cI, 65540, .inl (fun _ => 0))), (q_3, .inl (cI, 65540, .inl (fun _ => 0))), (q_4, .inl (cI, 65540, .inl (fun _ => 0)))]) [0, 1, 2, 3, 4] rfl
  have hD := hD.sub (ws' := [(h0, .inr (0, xo_M f0)), (q_1, .inl (cB, 65536, .inl (fun _ => 0))), (q_2, .inl (cI, 65540, .inl (fun _ => 0))), (q_3, .inl (cI, 65540, .inl (fun _ => 0))), (q_4, .inl (cI, 65540, .inl (fun _ => 0)))]) [0, 1, 2, 3, 4] (by decide) rfl
  refine lv_aload_n hx hb dn_M_init_315 rfl (lv_at hl 0 rfl) ?_
  refine lv_sipush (v := 4096) hx hb dn_M_init_316 (by decide) ?_
  refine xk_newI 4096 hx hb (hg _ wn_1_119) hK hP hD hS hA 0 rfl rfl (Nat.le_of_ble_eq_true rfl) (Nat.le_of_ble_eq_true rfl) (Nat.le_of_ble_eq_true rfl) dn_M_init_319 (fun q_36 H hP hD hS => ?_)
  have hP : va_P (dC, dI) xcl [(h0, .inr (0, xo_M f0)), (q_1, .inl (cB, 65536, .inl (fun _ => 0))), (q_2, .inl (cI, 65540, .inl (fun _ => 0))), (q_3, .inl (cI, 65540, .inl (fun _ => 0))), (q_4, .inl (cI, 65540, .inl (fun _ => 0))), (q_36, .inl (cI, 4096, .inl (fun _ => 0)))] H := hP
  have hD : va_D A [(h0, .inr (0, xo_M f0)), (q_1, .inl (cB, 65536, .inl (fun _ => 0))), (q_2, .inl (cI, 65540, .inl (fun _ => 0))), (q_3, .inl (cI, 65540, .inl (fun _ => 0))), (q_4, .inl (cI, 65540, .inl (fun _ => 0))), (q_36, .inl (cI, 4096, .inl (fun _ => 0)))] := hD
  refine va_putF (D := (dC, dI)) (ci := 0) (v := .ref q_36) (ty := (.array .int)) (C := rn_M) (T := fn_M) (N := 91) hx hb hg in_M tn_M tk_M nn_M hown hK hP hD hS 0 rfl rfl 52 (by decide) (hg _ wn_8_120) (fun _ h9 => h9) rfl hin rfl (tk_M 52 (by decide)) rfl rfl (Nat.le_of_ble_eq_true rfl) dn_M_init_321 (fun H locs hP hD hS => ?_)
  have hP : va_P (dC, dI) xcl [(h0, .inr (0, xo_M (va_up f0 52 (.ref q_36)))), (q_1, .inl (cB, 65536, .inl (fun _ => 0))), (q_2, .inl (cI, 65540, .inl (fun _ => 0))), (q_3, .inl (cI, 65540, .inl (fun _ => 0))), (q_4, .inl (cI, 65540, .inl (fun _ => 0))), (q_36, .inl (cI, 4096, .inl (fun _ => 0)))] H := hP
  have hD : va_D A [(h0, .inr (0, xo_M (va_up f0 52 (.ref q_36)))), (q_1, .inl (cB, 65536, .inl (fun _ => 0))), (q_2, .inl (cI, 65540, .inl (fun _ => 0))), (q_3, .inl (cI, 65540, .inl (fun _ => 0))), (q_4, .inl (cI, 65540, .inl (fun _ => 0))), (q_36, .inl (cI, 4096, .inl (fun _ => 0)))] := hD
  have hf1 : (va_up f0 52 (.ref q_36)) 1 = .ref q_1 := hf1
  have hf4 : (va_up f0 52 (.ref q_36)) 4 = .ref q_2 := hf4
  have hf5 : (va_up f0 52 (.ref q_36)) 5 = .ref q_3 := hf5
  have hf6 : (va_up f0 52 (.ref q_36)) 6 = .ref q_4 := hf6
  have hfk : fk_M (va_up f0 52 (.ref q_36)) := hfk
  generalize va_up f0 52 (.ref q_36) = f0 at hP hD hf1 hf4 hf5 hf6 hfk
  have hP := hP.sub (ws' := [(h0, .inr (0, xo_M f0)), (q_1, .inl (cB, 65536, .inl (fun _ => 0))), (q_2, .inl (cI, 65540, .inl (fun _ => 0))), (q_3, .inl (cI, 65540, .inl (fun _ => 0))), (q_4, .inl (cI, 65540, .inl (fun _ => 0)))]) [0, 1, 2, 3, 4] rfl
  have hD := hD.sub (ws' := [(h0, .inr (0, xo_M f0)), (q_1, .inl (cB, 65536, .inl (fun _ => 0))), (q_2, .inl (cI, 65540, .inl (fun _ => 0))), (q_3, .inl (cI, 65540, .inl (fun _ => 0))), (q_4, .inl (cI, 65540, .inl (fun _ => 0)))]) [0, 1, 2, 3, 4] (by decide) rfl
  refine lv_aload_n hx hb dn_M_init_324 rfl (lv_at hl 0 rfl) ?_
  refine lv_ldc hx hb hown (hg _ wn_8_66) dn_M_init_325 ?_
  refine xk_newB 65536 hx hb (hg _ wn_1_118) hK hP hD hS hA 1 rfl rfl (Nat.le_of_ble_eq_true rfl) (Nat.le_of_ble_eq_true rfl) (Nat.le_of_ble_eq_true rfl) dn_M_init_327 (fun q_37 H hP hD hS => ?_)
  have hP : va_P (dC, dI) xcl [(h0, .inr (0, xo_M f0)), (q_1, .inl (cB, 65536, .inl (fun _ => 0))), (q_2, .inl (cI, 65540, .inl (fun _ => 0))), (q_3, .inl (cI, 65540, .inl (fun _ => 0))), (q_4, .inl (cI, 65540, .inl (fun _ => 0))), (q_37, .inl (cB, 65536, .inl (fun _ => 0)))] H := hP
  have hD : va_D A [(h0, .inr (0, xo_M f0)), (q_1, .inl (cB, 65536, .inl (fun _ => 0))), (q_2, .inl (cI, 65540, .inl (fun _ => 0))), (q_3, .inl (cI, 65540, .inl (fun _ => 0))), (q_4, .inl (cI, 65540, .inl (fun _ => 0))), (q_37, .inl (cB, 65536, .inl (fun _ => 0)))] := hD
  refine va_putF (D := (dC, dI)) (ci := 0) (v := .ref q_37) (ty := (.array .byte)) (C := rn_M) (T := fn_M) (N := 91) hx hb hg in_M tn_M tk_M nn_M hown hK hP hD hS 0 rfl rfl 55 (by decide) (hg _ wn_8_123) (fun _ h9 => h9) rfl hin rfl (tk_M 55 (by decide)) rfl rfl (Nat.le_of_ble_eq_true rfl) dn_M_init_329 (fun H locs hP hD hS => ?_)
  have hP : va_P (dC, dI) xcl [(h0, .inr (0, xo_M (va_up f0 55 (.ref q_37)))), (q_1, .inl (cB, 65536, .inl (fun _ => 0))), (q_2, .inl (cI, 65540, .inl (fun _ => 0))), (q_3, .inl (cI, 65540, .inl (fun _ => 0))), (q_4, .inl (cI, 65540, .inl (fun _ => 0))), (q_37, .inl (cB, 65536, .inl (fun _ => 0)))] H := hP
  have hD : va_D A [(h0, .inr (0, xo_M (va_up f0 55 (.ref q_37)))), (q_1, .inl (cB, 65536, .inl (fun _ => 0))), (q_2, .inl (cI, 65540, .inl (fun _ => 0))), (q_3, .inl (cI, 65540, .inl (fun _ => 0))), (q_4, .inl (cI, 65540, .inl (fun _ => 0))), (q_37, .inl (cB, 65536, .inl (fun _ => 0)))] := hD
  have hf1 : (va_up f0 55 (.ref q_37)) 1 = .ref q_1 := hf1
  have hf4 : (va_up f0 55 (.ref q_37)) 4 = .ref q_2 := hf4
  have hf5 : (va_up f0 55 (.ref q_37)) 5 = .ref q_3 := hf5
  have hf6 : (va_up f0 55 (.ref q_37)) 6 = .ref q_4 := hf6
  have hfk : fk_M (va_up f0 55 (.ref q_37)) := hfk
  generalize va_up f0 55 (.ref q_37) = f0 at hP hD hf1 hf4 hf5 hf6 hfk
  have hP := hP.sub (ws' := [(h0, .inr (0, xo_M f0)), (q_1, .inl (cB, 65536, .inl (fun _ => 0))), (q_2, .inl (cI, 65540, .inl (fun _ => 0))), (q_3, .inl (cI, 65540, .inl (fun _ => 0))), (q_4, .inl (cI, 65540, .inl (fun _ => 0)))]) [0, 1, 2, 3, 4] rfl
  have hD := hD.sub (ws' := [(h0, .inr (0, xo_M f0)), (q_1, .inl (cB, 65536, .inl (fun _ => 0))), (q_2, .inl (cI, 65540, .inl (fun _ => 0))), (q_3, .inl (cI, 65540, .inl (fun _ => 0))), (q_4, .inl (cI, 65540, .inl (fun _ => 0)))]) [0, 1, 2, 3, 4] (by decide) rfl
  refine lv_aload_n hx hb dn_M_init_332 rfl (lv_at hl 0 rfl) ?_
  refine lv_sipush (v := 260) hx hb dn_M_init_333 (by decide) ?_
  refine xk_newI 260 hx hb (hg _ wn_1_119) hK hP hD hS hA 0 rfl rfl (Nat.le_of_ble_eq_true rfl) (Nat.le_of_ble_eq_true rfl) (Nat.le_of_ble_eq_true rfl) dn_M_init_336 (fun q_38 H hP hD hS => ?_)
  have hP : va_P (dC, dI) xcl [(h0, .inr (0, xo_M f0)), (q_1, .inl (cB, 65536, .inl (fun _ => 0))), (q_2, .inl (cI, 65540, .inl (fun _ => 0))), (q_3, .inl (cI, 65540, .inl (fun _ => 0))), (q_4, .inl (cI, 65540, .inl (fun _ => 0))), (q_38, .inl (cI, 260, .inl (fun _ => 0)))] H := hP
  have hD : va_D A [(h0, .inr (0, xo_M f0)), (q_1, .inl (cB, 65536, .inl (fun _ => 0))), (q_2, .inl (cI, 65540, .inl (fun _ => 0))), (q_3, .inl (cI, 65540, .inl (fun _ => 0))), (q_4, .inl (cI, 65540, .inl (fun _ => 0))), (q_38, .inl (cI, 260, .inl (fun _ => 0)))] := hD
  refine va_putF (D := (dC, dI)) (ci := 0) (v := .ref q_38) (ty := (.array .int)) (C := rn_M) (T := fn_M) (N := 91) hx hb hg in_M tn_M tk_M nn_M hown hK hP hD hS 0 rfl rfl 57 (by decide) (hg _ wn_8_125) (fun _ h9 => h9) rfl hin rfl (tk_M 57 (by decide)) rfl rfl (Nat.le_of_ble_eq_true rfl) dn_M_init_338 (fun H locs hP hD hS => ?_)
  have hP : va_P (dC, dI) xcl [(h0, .inr (0, xo_M (va_up f0 57 (.ref q_38)))), (q_1, .inl (cB, 65536, .inl (fun _ => 0))), (q_2, .inl (cI, 65540, .inl (fun _ => 0))), (q_3, .inl (cI, 65540, .inl (fun _ => 0))), (q_4, .inl (cI, 65540, .inl (fun _ => 0))), (q_38, .inl (cI, 260, .inl (fun _ => 0)))] H := hP
  have hD : va_D A [(h0, .inr (0, xo_M (va_up f0 57 (.ref q_38)))), (q_1, .inl (cB, 65536, .inl (fun _ => 0))), (q_2, .inl (cI, 65540, .inl (fun _ => 0))), (q_3, .inl (cI, 65540, .inl (fun _ => 0))), (q_4, .inl (cI, 65540, .inl (fun _ => 0))), (q_38, .inl (cI, 260, .inl (fun _ => 0)))] := hD
  have hf1 : (va_up f0 57 (.ref q_38)) 1 = .ref q_1 := hf1
  have hf4 : (va_up f0 57 (.ref q_38)) 4 = .ref q_2 := hf4
  have hf5 : (va_up f0 57 (.ref q_38)) 5 = .ref q_3 := hf5
  have hf6 : (va_up f0 57 (.ref q_38)) 6 = .ref q_4 := hf6
  have hfk : fk_M (va_up f0 57 (.ref q_38)) := hfk
  generalize va_up f0 57 (.ref q_38) = f0 at hP hD hf1 hf4 hf5 hf6 hfk
  have hP := hP.sub (ws' := [(h0, .inr (0, xo_M f0)), (q_1, .inl (cB, 65536, .inl (fun _ => 0))), (q_2, .inl (cI, 65540, .inl (fun _ => 0))), (q_3, .inl (cI, 65540, .inl (fun _ => 0))), (q_4, .inl (cI, 65540, .inl (fun _ => 0)))]) [0, 1, 2, 3, 4] rfl
  have hD := hD.sub (ws' := [(h0, .inr (0, xo_M f0)), (q_1, .inl (cB, 65536, .inl (fun _ => 0))), (q_2, .inl (cI, 65540, .inl (fun _ => 0))), (q_3, .inl (cI, 65540, .inl (fun _ => 0))), (q_4, .inl (cI, 65540, .inl (fun _ => 0)))]) [0, 1, 2, 3, 4] (by decide) rfl
  refine lv_aload_n hx hb dn_M_init_341 rfl (lv_at hl 0 rfl) ?_
  refine lv_sipush (v := 260) hx hb dn_M_init_342 (by decide) ?_
  refine xk_newI 260 hx hb (hg _ wn_1_119) hK hP hD hS hA 0 rfl rfl (Nat.le_of_ble_eq_true rfl) (Nat.le_of_ble_eq_true rfl) (Nat.le_of_ble_eq_true rfl) dn_M_init_345 (fun q_39 H hP hD hS => ?_)
  have hP : va_P (dC, dI) xcl [(h0, .inr (0, xo_M f0)), (q_1, .inl (cB, 65536, .inl (fun _ => 0))), (q_2, .inl (cI, 65540, .inl (fun _ => 0))), (q_3, .inl (cI, 65540, .inl (fun _ => 0))), (q_4, .inl (cI, 65540, .inl (fun _ => 0))), (q_39, .inl (cI, 260, .inl (fun _ => 0)))] H := hP
  have hD : va_D A [(h0, .inr (0, xo_M f0)), (q_1, .inl (cB, 65536, .inl (fun _ => 0))), (q_2, .inl (cI, 65540, .inl (fun _ => 0))), (q_3, .inl (cI, 65540, .inl (fun _ => 0))), (q_4, .inl (cI, 65540, .inl (fun _ => 0))), (q_39, .inl (cI, 260, .inl (fun _ => 0)))] := hD
  refine va_putF (D := (dC, dI)) (ci := 0) (v := .ref q_39) (ty := (.array .int)) (C := rn_M) (T := fn_M) (N := 91) hx hb hg in_M tn_M tk_M nn_M hown hK hP hD hS 0 rfl rfl 58 (by decide) (hg _ wn_8_126) (fun _ h9 => h9) rfl hin rfl (tk_M 58 (by decide)) rfl rfl (Nat.le_of_ble_eq_true rfl) dn_M_init_347 (fun H locs hP hD hS => ?_)
  have hP : va_P (dC, dI) xcl [(h0, .inr (0, xo_M (va_up f0 58 (.ref q_39)))), (q_1, .inl (cB, 65536, .inl (fun _ => 0))), (q_2, .inl (cI, 65540, .inl (fun _ => 0))), (q_3, .inl (cI, 65540, .inl (fun _ => 0))), (q_4, .inl (cI, 65540, .inl (fun _ => 0))), (q_39, .inl (cI, 260, .inl (fun _ => 0)))] H := hP
  have hD : va_D A [(h0, .inr (0, xo_M (va_up f0 58 (.ref q_39)))), (q_1, .inl (cB, 65536, .inl (fun _ => 0))), (q_2, .inl (cI, 65540, .inl (fun _ => 0))), (q_3, .inl (cI, 65540, .inl (fun _ => 0))), (q_4, .inl (cI, 65540, .inl (fun _ => 0))), (q_39, .inl (cI, 260, .inl (fun _ => 0)))] := hD
  have hf1 : (va_up f0 58 (.ref q_39)) 1 = .ref q_1 := hf1
  have hf4 : (va_up f0 58 (.ref q_39)) 4 = .ref q_2 := hf4
  have hf5 : (va_up f0 58 (.ref q_39)) 5 = .ref q_3 := hf5
  have hf6 : (va_up f0 58 (.ref q_39)) 6 = .ref q_4 := hf6
  have hfk : fk_M (va_up f0 58 (.ref q_39)) := hfk
  generalize va_up f0 58 (.ref q_39) = f0 at hP hD hf1 hf4 hf5 hf6 hfk
  have hP := hP.sub (ws' := [(h0, .inr (0, xo_M f0)), (q_1, .inl (cB, 65536, .inl (fun _ => 0))), (q_2, .inl (cI, 65540, .inl (fun _ => 0))), (q_3, .inl (cI, 65540, .inl (fun _ => 0))), (q_4, .inl (cI, 65540, .inl (fun _ => 0)))]) [0, 1, 2, 3, 4] rfl
  have hD := hD.sub (ws' := [(h0, .inr (0, xo_M f0)), (q_1, .inl (cB, 65536, .inl (fun _ => 0))), (q_2, .inl (cI, 65540, .inl (fun _ => 0))), (q_3, .inl (cI, 65540, .inl (fun _ => 0))), (q_4, .inl (cI, 65540, .inl (fun _ => 0)))]) [0, 1, 2, 3, 4] (by decide) rfl
  refine lv_aload_n hx hb dn_M_init_350 rfl (lv_at hl 0 rfl) ?_
  refine lv_sipush (v := 260) hx hb dn_M_init_351 (by decide) ?_
  refine xk_newI 260 hx hb (hg _ wn_1_119) hK hP hD hS hA 0 rfl rfl (Nat.le_of_ble_eq_true rfl) (Nat.le_of_ble_eq_true rfl) (Nat.le_of_ble_eq_true rfl) dn_M_init_354 (fun q_40 H hP hD hS => ?_)
  have hP : va_P (dC, dI) xcl [(h0, .inr (0, xo_M f0)), (q_1, .inl (cB, 65536, .inl (fun _ => 0))), (q_2, .inl (cI, 65540, .inl (fun _ => 0))), (q_3, .inl (cI, 65540, .inl (fun _ => 0))), (q_4, .inl (cI, 65540, .inl (fun _ => 0))), (q_40, .inl (cI, 260, .inl (fun _ => 0)))] H := hP
  have hD : va_D A [(h0, .inr (0, xo_M f0)), (q_1, .inl (cB, 65536, .inl (fun _ => 0))), (q_2, .inl (cI, 65540, .inl (fun _ => 0))), (q_3, .inl (cI, 65540, .inl (fun _ => 0))), (q_4, .inl (cI, 65540, .inl (fun _ => 0))), (q_40, .inl (cI, 260, .inl (fun _ => 0)))] := hD
  refine va_putF (D := (dC, dI)) (ci := 0) (v := .ref q_40) (ty := (.array .int)) (C := rn_M) (T := fn_M) (N := 91) hx hb hg in_M tn_M tk_M nn_M hown hK hP hD hS 0 rfl rfl 59 (by decide) (hg _ wn_8_127) (fun _ h9 => h9) rfl hin rfl (tk_M 59 (by decide)) rfl rfl (Nat.le_of_ble_eq_true rfl) dn_M_init_356 (fun H locs hP hD hS => ?_)
  have hP : va_P (dC, dI) xcl [(h0, .inr (0, xo_M (va_up f0 59 (.ref q_40)))), (q_1, .inl (cB, 65536, .inl (fun _ => 0))), (q_2, .inl (cI, 65540, .inl (fun _ => 0))), (q_3, .inl (cI, 65540, .inl (fun _ => 0))), (q_4, .inl (cI, 65540, .inl (fun _ => 0))), (q_40, .inl (cI, 260, .inl (fun _ => 0)))] H := hP
  have hD : va_D A [(h0, .inr (0, xo_M (va_up f0 59 (.ref q_40)))), (q_1, .inl (cB, 65536, .inl (fun _ => 0))), (q_2, .inl (cI, 65540, .inl (fun _ => 0))), (q_3, .inl (cI, 65540, .inl (fun _ => 0))), (q_4, .inl (cI, 65540, .inl (fun _ => 0))), (q_40, .inl (cI, 260, .inl (fun _ => 0)))] := hD
  have hf1 : (va_up f0 59 (.ref q_40)) 1 = .ref q_1 := hf1
  have hf4 : (va_up f0 59 (.ref q_40)) 4 = .ref q_2 := hf4
  have hf5 : (va_up f0 59 (.ref q_40)) 5 = .ref q_3 := hf5
  have hf6 : (va_up f0 59 (.ref q_40)) 6 = .ref q_4 := hf6
  have hfk : fk_M (va_up f0 59 (.ref q_40)) := hfk
  generalize va_up f0 59 (.ref q_40) = f0 at hP hD hf1 hf4 hf5 hf6 hfk
  have hP := hP.sub (ws' := [(h0, .inr (0, xo_M f0)), (q_1, .inl (cB, 65536, .inl (fun _ => 0))), (q_2, .inl (cI, 65540, .inl (fun _ => 0))), (q_3, .inl (cI, 65540, .inl (fun _ => 0))), (q_4, .inl (cI, 65540, .inl (fun _ => 0)))]) [0, 1, 2, 3, 4] rfl
  have hD := hD.sub (ws' := [(h0, .inr (0, xo_M f0)), (q_1, .inl (cB, 65536, .inl (fun _ => 0))), (q_2, .inl (cI, 65540, .inl (fun _ => 0))), (q_3, .inl (cI, 65540, .inl (fun _ => 0))), (q_4, .inl (cI, 65540, .inl (fun _ => 0)))]) [0, 1, 2, 3, 4] (by decide) rfl
  refine lv_aload_n hx hb dn_M_init_359 rfl (lv_at hl 0 rfl) ?_
  refine lv_sipush (v := 260) hx hb dn_M_init_360 (by decide) ?_
  refine xk_newI 260 hx hb (hg _ wn_1_119) hK hP hD hS hA 0 rfl rfl (Nat.le_of_ble_eq_true rfl) (Nat.le_of_ble_eq_true rfl) (Nat.le_of_ble_eq_true rfl) dn_M_init_363 (fun q_41 H hP hD hS => ?_)
  have hP : va_P (dC, dI) xcl [(h0, .inr (0, xo_M f0)), (q_1, .inl (cB, 65536, .inl (fun _ => 0))), (q_2, .inl (cI, 65540, .inl (fun _ => 0))), (q_3, .inl (cI, 65540, .inl (fun _ => 0))), (q_4, .inl (cI, 65540, .inl (fun _ => 0))), (q_41, .inl (cI, 260, .inl (fun _ => 0)))] H := hP
  have hD : va_D A [(h0, .inr (0, xo_M f0)), (q_1, .inl (cB, 65536, .inl (fun _ => 0))), (q_2, .inl (cI, 65540, .inl (fun _ => 0))), (q_3, .inl (cI, 65540, .inl (fun _ => 0))), (q_4, .inl (cI, 65540, .inl (fun _ => 0))), (q_41, .inl (cI, 260, .inl (fun _ => 0)))] := hD
  refine va_putF (D := (dC, dI)) (ci := 0) (v := .ref q_41) (ty := (.array .int)) (C := rn_M) (T := fn_M) (N := 91) hx hb hg in_M tn_M tk_M nn_M hown hK hP hD hS 0 rfl rfl 60 (by decide) (hg _ wn_8_128) (fun _ h9 => h9) rfl hin rfl (tk_M 60 (by decide)) rfl rfl (Nat.le_of_ble_eq_true rfl) dn_M_init_365 (fun H locs hP hD hS => ?_)
  have hP : va_P (dC, dI) xcl [(h0, .inr (0, xo_M (va_up f0 60 (.ref q_41)))), (q_1, .inl (cB, 65536, .inl (fun _ => 0))), (q_2, .inl (cI, 65540, .inl (fun _ => 0))), (q_3, .inl (cI, 65540, .inl (fun _ => 0))), (q_4, .inl (cI, 65540, .inl (fun _ => 0))), (q_41, .inl (cI, 260, .inl (fun _ => 0)))] H := hP
  have hD : va_D A [(h0, .inr (0, xo_M (va_up f0 60 (.ref q_41)))), (q_1, .inl (cB, 65536, .inl (fun _ => 0))), (q_2, .inl (cI, 65540, .inl (fun _ => 0))), (q_3, .inl (cI, 65540, .inl (fun _ => 0))), (q_4, .inl (cI, 65540, .inl (fun _ => 0))), (q_41, .inl (cI, 260, .inl (fun _ => 0)))] := hD
  have hf1 : (va_up f0 60 (.ref q_41)) 1 = .ref q_1 := hf1
  have hf4 : (va_up f0 60 (.ref q_41)) 4 = .ref q_2 := hf4
  have hf5 : (va_up f0 60 (.ref q_41)) 5 = .ref q_3 := hf5
  have hf6 : (va_up f0 60 (.ref q_41)) 6 = .ref q_4 := hf6
  have hfk : fk_M (va_up f0 60 (.ref q_41)) := hfk
  generalize va_up f0 60 (.ref q_41) = f0 at hP hD hf1 hf4 hf5 hf6 hfk
  have hP := hP.sub (ws' := [(h0, .inr (0, xo_M f0)), (q_1, .inl (cB, 65536, .inl (fun _ => 0))), (q_2, .inl (cI, 65540, .inl (fun _ => 0))), (q_3, .inl (cI, 65540, .inl (fun _ => 0))), (q_4, .inl (cI, 65540, .inl (fun _ => 0)))]) [0, 1, 2, 3, 4] rfl
  have hD := hD.sub (ws' := [(h0, .inr (0, xo_M f0)), (q_1, .inl (cB, 65536, .inl (fun _ => 0))), (q_2, .inl (cI, 65540, .inl (fun _ => 0))), (q_3, .inl (cI, 65540, .inl (fun _ => 0))), (q_4, .inl (cI, 65540, .inl (fun _ => 0)))]) [0, 1, 2, 3, 4] (by decide) rfl
  refine lv_aload_n hx hb dn_M_init_368 rfl (lv_at hl 0 rfl) ?_
  refine lv_sipush (v := 260) hx hb dn_M_init_369 (by decide) ?_
  refine xk_newI 260 hx hb (hg _ wn_1_119) hK hP hD hS hA 0 rfl rfl (Nat.le_of_ble_eq_true rfl) (Nat.le_of_ble_eq_true rfl) (Nat.le_of_ble_eq_true rfl) dn_M_init_372 (fun q_42 H hP hD hS => ?_)
  have hP : va_P (dC, dI) xcl [(h0, .inr (0, xo_M f0)), (q_1, .inl (cB, 65536, .inl (fun _ => 0))), (q_2, .inl (cI, 65540, .inl (fun _ => 0))), (q_3, .inl (cI, 65540, .inl (fun _ => 0))), (q_4, .inl (cI, 65540, .inl (fun _ => 0))), (q_42, .inl (cI, 260, .inl (fun _ => 0)))] H := hP
  have hD : va_D A [(h0, .inr (0, xo_M f0)), (q_1, .inl (cB, 65536, .inl (fun _ => 0))), (q_2, .inl (cI, 65540, .inl (fun _ => 0))), (q_3, .inl (cI, 65540, .inl (fun _ => 0))), (q_4, .inl (cI, 65540, .inl (fun _ => 0))), (q_42, .inl (cI, 260, .inl (fun _ => 0)))] := hD
  refine va_putF (D := (dC, dI)) (ci := 0) (v := .ref q_42) (ty := (.array .int)) (C := rn_M) (T := fn_M) (N := 91) hx hb hg in_M tn_M tk_M nn_M hown hK hP hD hS 0 rfl rfl 61 (by decide) (hg _ wn_8_129) (fun _ h9 => h9) rfl hin rfl (tk_M 61 (by decide)) rfl rfl (Nat.le_of_ble_eq_true rfl) dn_M_init_374 (fun H locs hP hD hS => ?_)
  have hP : va_P (dC, dI) xcl [(h0, .inr (0, xo_M (va_up f0 61 (.ref q_42)))), (q_1, .inl (cB, 65536, .inl (fun _ => 0))), (q_2, .inl (cI, 65540, .inl (fun _ => 0))), (q_3, .inl (cI, 65540, .inl (fun _ => 0))), (q_4, .inl (cI, 65540, .inl (fun _ => 0))), (q_42, .inl (cI, 260, .inl (fun _ => 0)))] H := hP
  have hD : va_D A [(h0, .inr (0, xo_M (va_up f0 61 (.ref q_42)))), (q_1, .inl (cB, 65536, .inl (fun _ => 0))), (q_2, .inl (cI, 65540, .inl (fun _ => 0))), (q_3, .inl (cI, 65540, .inl (fun _ => 0))), (q_4, .inl (cI, 65540, .inl (fun _ => 0))), (q_42, .inl (cI, 260, .inl (fun _ => 0)))] := hD
  have hf1 : (va_up f0 61 (.ref q_42)) 1 = .ref q_1 := hf1
  have hf4 : (va_up f0 61 (.ref q_42)) 4 = .ref q_2 := hf4
  have hf5 : (va_up f0 61 (.ref q_42)) 5 = .ref q_3 := hf5
  have hf6 : (va_up f0 61 (.ref q_42)) 6 = .ref q_4 := hf6
  have hfk : fk_M (va_up f0 61 (.ref q_42)) := hfk
  generalize va_up f0 61 (.ref q_42) = f0 at hP hD hf1 hf4 hf5 hf6 hfk
  have hP := hP.sub (ws' := [(h0, .inr (0, xo_M f0)), (q_1, .inl (cB, 65536, .inl (fun _ => 0))), (q_2, .inl (cI, 65540, .inl (fun _ => 0))), (q_3, .inl (cI, 65540, .inl (fun _ => 0))), (q_4, .inl (cI, 65540, .inl (fun _ => 0)))]) [0, 1, 2, 3, 4] rfl
  have hD := hD.sub (ws' := [(h0, .inr (0, xo_M f0)), (q_1, .inl (cB, 65536, .inl (fun _ => 0))), (q_2, .inl (cI, 65540, .inl (fun _ => 0))), (q_3, .inl (cI, 65540, .inl (fun _ => 0))), (q_4, .inl (cI, 65540, .inl (fun _ => 0)))]) [0, 1, 2, 3, 4] (by decide) rfl
  refine lv_aload_n hx hb dn_M_init_377 rfl (lv_at hl 0 rfl) ?_
  refine lv_sipush (v := 260) hx hb dn_M_init_378 (by decide) ?_
  refine xk_newI 260 hx hb (hg _ wn_1_119) hK hP hD hS hA 0 rfl rfl (Nat.le_of_ble_eq_true rfl) (Nat.le_of_ble_eq_true rfl) (Nat.le_of_ble_eq_true rfl) dn_M_init_381 (fun q_43 H hP hD hS => ?_)
  have hP : va_P (dC, dI) xcl [(h0, .inr (0, xo_M f0)), (q_1, .inl (cB, 65536, .inl (fun _ => 0))), (q_2, .inl (cI, 65540, .inl (fun _ => 0))), (q_3, .inl (cI, 65540, .inl (fun _ => 0))), (q_4, .inl (cI, 65540, .inl (fun _ => 0))), (q_43, .inl (cI, 260, .inl (fun _ => 0)))] H := hP
  have hD : va_D A [(h0, .inr (0, xo_M f0)), (q_1, .inl (cB, 65536, .inl (fun _ => 0))), (q_2, .inl (cI, 65540, .inl (fun _ => 0))), (q_3, .inl (cI, 65540, .inl (fun _ => 0))), (q_4, .inl (cI, 65540, .inl (fun _ => 0))), (q_43, .inl (cI, 260, .inl (fun _ => 0)))] := hD
  refine va_putF (D := (dC, dI)) (ci := 0) (v := .ref q_43) (ty := (.array .int)) (C := rn_M) (T := fn_M) (N := 91) hx hb hg in_M tn_M tk_M nn_M hown hK hP hD hS 0 rfl rfl 62 (by decide) (hg _ wn_8_130) (fun _ h9 => h9) rfl hin rfl (tk_M 62 (by decide)) rfl rfl (Nat.le_of_ble_eq_true rfl) dn_M_init_383 (fun H locs hP hD hS => ?_)
  have hP : va_P (dC, dI) xcl [(h0, .inr (0, xo_M (va_up f0 62 (.ref q_43)))), (q_1, .inl (cB, 65536, .inl (fun _ => 0))), (q_2, .inl (cI, 65540, .inl (fun _ => 0))), (q_3, .inl (cI, 65540, .inl (fun _ => 0))), (q_4, .inl (cI, 65540, .inl (fun _ => 0))), (q_43, .inl (cI, 260, .inl (fun _ => 0)))] H := hP
  have hD : va_D A [(h0, .inr (0, xo_M (va_up f0 62 (.ref q_43)))), (q_1, .inl (cB, 65536, .inl (fun _ => 0))), (q_2, .inl (cI, 65540, .inl (fun _ => 0))), (q_3, .inl (cI, 65540, .inl (fun _ => 0))), (q_4, .inl (cI, 65540, .inl (fun _ => 0))), (q_43, .inl (cI, 260, .inl (fun _ => 0)))] := hD
  have hf1 : (va_up f0 62 (.ref q_43)) 1 = .ref q_1 := hf1
  have hf4 : (va_up f0 62 (.ref q_43)) 4 = .ref q_2 := hf4
  have hf5 : (va_up f0 62 (.ref q_43)) 5 = .ref q_3 := hf5
  have hf6 : (va_up f0 62 (.ref q_43)) 6 = .ref q_4 := hf6
  have hfk : fk_M (va_up f0 62 (.ref q_43)) := hfk
  generalize va_up f0 62 (.ref q_43) = f0 at hP hD hf1 hf4 hf5 hf6 hfk
  have hP := hP.sub (ws' := [(h0, .inr (0, xo_M f0)), (q_1, .inl (cB, 65536, .inl (fun _ => 0))), (q_2, .inl (cI, 65540, .inl (fun _ => 0))), (q_3, .inl (cI, 65540, .inl (fun _ => 0))), (q_4, .inl (cI, 65540, .inl (fun _ => 0)))]) [0, 1, 2, 3, 4] rfl
  have hD := hD.sub (ws' := [(h0, .inr (0, xo_M f0)), (q_1, .inl (cB, 65536, .inl (fun _ => 0))), (q_2, .inl (cI, 65540, .inl (fun _ => 0))), (q_3, .inl (cI, 65540, .inl (fun _ => 0))), (q_4, .inl (cI, 65540, .inl (fun _ => 0)))]) [0, 1, 2, 3, 4] (by decide) rfl
  refine lv_aload_n hx hb dn_M_init_386 rfl (lv_at hl 0 rfl) ?_
  refine lv_sipush (v := 1100) hx hb dn_M_init_387 (by decide) ?_
  refine xk_newI 1100 hx hb (hg _ wn_1_119) hK hP hD hS hA 0 rfl rfl (Nat.le_of_ble_eq_true rfl) (Nat.le_of_ble_eq_true rfl) (Nat.le_of_ble_eq_true rfl) dn_M_init_390 (fun q_44 H hP hD hS => ?_)
  have hP : va_P (dC, dI) xcl [(h0, .inr (0, xo_M f0)), (q_1, .inl (cB, 65536, .inl (fun _ => 0))), (q_2, .inl (cI, 65540, .inl (fun _ => 0))), (q_3, .inl (cI, 65540, .inl (fun _ => 0))), (q_4, .inl (cI, 65540, .inl (fun _ => 0))), (q_44, .inl (cI, 1100, .inl (fun _ => 0)))] H := hP
  have hD : va_D A [(h0, .inr (0, xo_M f0)), (q_1, .inl (cB, 65536, .inl (fun _ => 0))), (q_2, .inl (cI, 65540, .inl (fun _ => 0))), (q_3, .inl (cI, 65540, .inl (fun _ => 0))), (q_4, .inl (cI, 65540, .inl (fun _ => 0))), (q_44, .inl (cI, 1100, .inl (fun _ => 0)))] := hD
  refine va_putF (D := (dC, dI)) (ci := 0) (v := .ref q_44) (ty := (.array .int)) (C := rn_M) (T := fn_M) (N := 91) hx hb hg in_M tn_M tk_M nn_M hown hK hP hD hS 0 rfl rfl 64 (by decide) (hg _ wn_8_132) (fun _ h9 => h9) rfl hin rfl (tk_M 64 (by decide)) rfl rfl (Nat.le_of_ble_eq_true rfl) dn_M_init_392 (fun H locs hP hD hS => ?_)
  have hP : va_P (dC, dI) xcl [(h0, .inr (0, xo_M (va_up f0 64 (.ref q_44)))), (q_1, .inl (cB, 65536, .inl (fun _ => 0))), (q_2, .inl (cI, 65540, .inl (fun _ => 0))), (q_3, .inl (cI, 65540, .inl (fun _ => 0))), (q_4, .inl (cI, 65540, .inl (fun _ => 0))), (q_44, .inl (cI, 1100, .inl (fun _ => 0)))] H := hP
  have hD : va_D A [(h0, .inr (0, xo_M (va_up f0 64 (.ref q_44)))), (q_1, .inl (cB, 65536, .inl (fun _ => 0))), (q_2, .inl (cI, 65540, .inl (fun _ => 0))), (q_3, .inl (cI, 65540, .inl (fun _ => 0))), (q_4, .inl (cI, 65540, .inl (fun _ => 0))), (q_44, .inl (cI, 1100, .inl (fun _ => 0)))] := hD
  have hf1 : (va_up f0 64 (.ref q_44)) 1 = .ref q_1 := hf1
  have hf4 : (va_up f0 64 (.ref q_44)) 4 = .ref q_2 := hf4
  have hf5 : (va_up f0 64 (.ref q_44)) 5 = .ref q_3 := hf5
  have hf6 : (va_up f0 64 (.ref q_44)) 6 = .ref q_4 := hf6
  have hfk : fk_M (va_up f0 64 (.ref q_44)) := hfk
  generalize va_up f0 64 (.ref q_44) = f0 at hP hD hf1 hf4 hf5 hf6 hfk
  have hP := hP.sub (ws' := [(h0, .inr (0, xo_M f0)), (q_1, .inl (cB, 65536, .inl (fun _ => 0))), (q_2, .inl (cI, 65540, .inl (fun _ => 0))), (q_3, .inl (cI, 65540, .inl (fun _ => 0))), (q_4, .inl (cI, 65540, .inl (fun _ => 0)))]) [0, 1, 2, 3, 4] rfl
  have hD := hD.sub (ws' := [(h0, .inr (0, xo_M f0)), (q_1, .inl (cB, 65536, .inl (fun _ => 0))), (q_2, .inl (cI, 65540, .inl (fun _ => 0))), (q_3, .inl (cI, 65540, .inl (fun _ => 0))), (q_4, .inl (cI, 65540, .inl (fun _ => 0)))]) [0, 1, 2, 3, 4] (by decide) rfl
  refine lv_aload_n hx hb dn_M_init_395 rfl (lv_at hl 0 rfl) ?_
  refine lv_sipush (v := 1100) hx hb dn_M_init_396 (by decide) ?_
  refine xk_newI 1100 hx hb (hg _ wn_1_119) hK hP hD hS hA 0 rfl rfl (Nat.le_of_ble_eq_true rfl) (Nat.le_of_ble_eq_true rfl) (Nat.le_of_ble_eq_true rfl) dn_M_init_399 (fun q_45 H hP hD hS => ?_)
  have hP : va_P (dC, dI) xcl [(h0, .inr (0, xo_M f0)), (q_1, .inl (cB, 65536, .inl (fun _ => 0))), (q_2, .inl (cI, 65540, .inl (fun _ => 0))), (q_3, .inl (cI, 65540, .inl (fun _ => 0))), (q_4, .inl (cI, 65540, .inl (fun _ => 0))), (q_45, .inl (cI, 1100, .inl (fun _ => 0)))] H := hP
  have hD : va_D A [(h0, .inr (0, xo_M f0)), (q_1, .inl (cB, 65536, .inl (fun _ => 0))), (q_2, .inl (cI, 65540, .inl (fun _ => 0))), (q_3, .inl (cI, 65540, .inl (fun _ => 0))), (q_4, .inl (cI, 65540, .inl (fun _ => 0))), (q_45, .inl (cI, 1100, .inl (fun _ => 0)))] := hD
  refine va_putF (D := (dC, dI)) (ci := 0) (v := .ref q_45) (ty := (.array .int)) (C := rn_M) (T := fn_M) (N := 91) hx hb hg in_M tn_M tk_M nn_M hown hK hP hD hS 0 rfl rfl 65 (by decide) (hg _ wn_8_133) (fun _ h9 => h9) rfl hin rfl (tk_M 65 (by decide)) rfl rfl (Nat.le_of_ble_eq_true rfl) dn_M_init_401 (fun H locs hP hD hS => ?_)
  have hP : va_P (dC, dI) xcl [(h0, .inr (0, xo_M (va_up f0 65 (.ref q_45)))), (q_1, .inl (cB, 65536, .inl (fun _ => 0))), (q_2, .inl (cI, 65540, .inl (fun _ => 0))), (q_3, .inl (cI, 65540, .inl (fun _ => 0))), (q_4, .inl (cI, 65540, .inl (fun _ => 0))), (q_45, .inl (cI, 1100, .inl (fun _ => 0)))] H := hP
  have hD : va_D A [(h0, .inr (0, xo_M (va_up f0 65 (.ref q_45)))), (q_1, .inl (cB, 65536, .inl (fun _ => 0))), (q_2, .inl (cI, 65540, .inl (fun _ => 0))), (q_3, .inl (cI, 65540, .inl (fun _ => 0))), (q_4, .inl (cI, 65540, .inl (fun _ => 0))), (q_45, .inl (cI, 1100, .inl (fun _ => 0)))] := hD
  have hf1 : (va_up f0 65 (.ref q_45)) 1 = .ref q_1 := hf1
  have hf4 : (va_up f0 65 (.ref q_45)) 4 = .ref q_2 := hf4
  have hf5 : (va_up f0 65 (.ref q_45)) 5 = .ref q_3 := hf5
  have hf6 : (va_up f0 65 (.ref q_45)) 6 = .ref q_4 := hf6
  have hfk : fk_M (va_up f0 65 (.ref q_45)) := hfk
  generalize va_up f0 65 (.ref q_45) = f0 at hP hD hf1 hf4 hf5 hf6 hfk
  have hP := hP.sub (ws' := [(h0, .inr (0, xo_M f0)), (q_1, .inl (cB, 65536, .inl (fun _ => 0))), (q_2, .inl (cI, 65540, .inl (fun _ => 0))), (q_3, .inl (cI, 65540, .inl (fun _ => 0))), (q_4, .inl (cI, 65540, .inl (fun _ => 0)))]) [0, 1, 2, 3, 4] rfl
  have hD := hD.sub (ws' := [(h0, .inr (0, xo_M f0)), (q_1, .inl (cB, 65536, .inl (fun _ => 0))), (q_2, .inl (cI, 65540, .inl (fun _ => 0))), (q_3, .inl (cI, 65540, .inl (fun _ => 0))), (q_4, .inl (cI, 65540, .inl (fun _ => 0)))]) [0, 1, 2, 3, 4] (by decide) rfl
  refine lv_aload_n hx hb dn_M_init_404 rfl (lv_at hl 0 rfl) ?_
  refine lv_sipush (v := 1100) hx hb dn_M_init_405 (by decide) ?_
  refine xk_newI 1100 hx hb (hg _ wn_1_119) hK hP hD hS hA 0 rfl rfl (Nat.le_of_ble_eq_true rfl) (Nat.le_of_ble_eq_true rfl) (Nat.le_of_ble_eq_true rfl) dn_M_init_408 (fun q_46 H hP hD hS => ?_)
  have hP : va_P (dC, dI) xcl [(h0, .inr (0, xo_M f0)), (q_1, .inl (cB, 65536, .inl (fun _ => 0))), (q_2, .inl (cI, 65540, .inl (fun _ => 0))), (q_3, .inl (cI, 65540, .inl (fun _ => 0))), (q_4, .inl (cI, 65540, .inl (fun _ => 0))), (q_46, .inl (cI, 1100, .inl (fun _ => 0)))] H := hP
  have hD : va_D A [(h0, .inr (0, xo_M f0)), (q_1, .inl (cB, 65536, .inl (fun _ => 0))), (q_2, .inl (cI, 65540, .inl (fun _ => 0))), (q_3, .inl (cI, 65540, .inl (fun _ => 0))), (q_4, .inl (cI, 65540, .inl (fun _ => 0))), (q_46, .inl (cI, 1100, .inl (fun _ => 0)))] := hD
  refine va_putF (D := (dC, dI)) (ci := 0) (v := .ref q_46) (ty := (.array .int)) (C := rn_M) (T := fn_M) (N := 91) hx hb hg in_M tn_M tk_M nn_M hown hK hP hD hS 0 rfl rfl 66 (by decide) (hg _ wn_8_134) (fun _ h9 => h9) rfl hin rfl (tk_M 66 (by decide)) rfl rfl (Nat.le_of_ble_eq_true rfl) dn_M_init_410 (fun H locs hP hD hS => ?_)
  have hP : va_P (dC, dI) xcl [(h0, .inr (0, xo_M (va_up f0 66 (.ref q_46)))), (q_1, .inl (cB, 65536, .inl (fun _ => 0))), (q_2, .inl (cI, 65540, .inl (fun _ => 0))), (q_3, .inl (cI, 65540, .inl (fun _ => 0))), (q_4, .inl (cI, 65540, .inl (fun _ => 0))), (q_46, .inl (cI, 1100, .inl (fun _ => 0)))] H := hP
  have hD : va_D A [(h0, .inr (0, xo_M (va_up f0 66 (.ref q_46)))), (q_1, .inl (cB, 65536, .inl (fun _ => 0))), (q_2, .inl (cI, 65540, .inl (fun _ => 0))), (q_3, .inl (cI, 65540, .inl (fun _ => 0))), (q_4, .inl (cI, 65540, .inl (fun _ => 0))), (q_46, .inl (cI, 1100, .inl (fun _ => 0)))] := hD
  have hf1 : (va_up f0 66 (.ref q_46)) 1 = .ref q_1 := hf1
  have hf4 : (va_up f0 66 (.ref q_46)) 4 = .ref q_2 := hf4
  have hf5 : (va_up f0 66 (.ref q_46)) 5 = .ref q_3 := hf5
  have hf6 : (va_up f0 66 (.ref q_46)) 6 = .ref q_4 := hf6
  have hfk : fk_M (va_up f0 66 (.ref q_46)) := hfk
  generalize va_up f0 66 (.ref q_46) = f0 at hP hD hf1 hf4 hf5 hf6 hfk
  have hP := hP.sub (ws' := [(h0, .inr (0, xo_M f0)), (q_1, .inl (cB, 65536, .inl (fun _ => 0))), (q_2, .inl (cI, 65540, .inl (fun _ => 0))), (q_3, .inl (cI, 65540, .inl (fun _ => 0))), (q_4, .inl (cI, 65540, .inl (fun _ => 0)))]) [0, 1, 2, 3, 4] rfl
  have hD := hD.sub (ws' := [(h0, .inr (0, xo_M f0)), (q_1, .inl (cB, 65536, .inl (fun _ => 0))), (q_2, .inl (cI, 65540, .inl (fun _ => 0))), (q_3, .inl (cI, 65540, .inl (fun _ => 0))), (q_4, .inl (cI, 65540, .inl (fun _ => 0)))]) [0, 1, 2, 3, 4] (by decide) rfl
  refine lv_aload_n hx hb dn_M_init_413 rfl (lv_at hl 0 rfl) ?_
  refine lv_sipush (v := 1100) hx hb dn_M_init_414 (by decide) ?_
  refine xk_newI 1100 hx hb (hg _ wn_1_119) hK hP hD hS hA 0 rfl rfl (Nat.le_of_ble_eq_true rfl) (Nat.le_of_ble_eq_true rfl) (Nat.le_of_ble_eq_true rfl) dn_M_init_417 (fun q_47 H hP hD hS => ?_)
  have hP : va_P (dC, dI) xcl [(h0, .inr (0, xo_M f0)), (q_1, .inl (cB, 65536, .inl (fun _ => 0))), (q_2, .inl (cI, 65540, .inl (fun _ => 0))), (q_3, .inl (cI, 65540, .inl (fun _ => 0))), (q_4, .inl (cI, 65540, .inl (fun _ => 0))), (q_47, .inl (cI, 1100, .inl (fun _ => 0)))] H := hP
  have hD : va_D A [(h0, .inr (0, xo_M f0)), (q_1, .inl (cB, 65536, .inl (fun _ => 0))), (q_2, .inl (cI, 65540, .inl (fun _ => 0))), (q_3, .inl (cI, 65540, .inl (fun _ => 0))), (q_4, .inl (cI, 65540, .inl (fun _ => 0))), (q_47, .inl (cI, 1100, .inl (fun _ => 0)))] := hD
  refine va_putF (D := (dC, dI)) (ci := 0) (v := .ref q_47) (ty := (.array .int)) (C := rn_M) (T := fn_M) (N := 91) hx hb hg in_M tn_M tk_M nn_M hown hK hP hD hS 0 rfl rfl 67 (by decide) (hg _ wn_8_135) (fun _ h9 => h9) rfl hin rfl (tk_M 67 (by decide)) rfl rfl (Nat.le_of_ble_eq_true rfl) dn_M_init_419 (fun H locs hP hD hS => ?_)
  have hP : va_P (dC, dI) xcl [(h0, .inr (0, xo_M (va_up f0 67 (.ref q_47)))), (q_1, .inl (cB, 65536, .inl (fun _ => 0))), (q_2, .inl (cI, 65540, .inl (fun _ => 0))), (q_3, .inl (cI, 65540, .inl (fun _ => 0))), (q_4, .inl (cI, 65540, .inl (fun _ => 0))), (q_47, .inl (cI, 1100, .inl (fun _ => 0)))] H := hP
  have hD : va_D A [(h0, .inr (0, xo_M (va_up f0 67 (.ref q_47)))), (q_1, .inl (cB, 65536, .inl (fun _ => 0))), (q_2, .inl (cI, 65540, .inl (fun _ => 0))), (q_3, .inl (cI, 65540, .inl (fun _ => 0))), (q_4, .inl (cI, 65540, .inl (fun _ => 0))), (q_47, .inl (cI, 1100, .inl (fun _ => 0)))] := hD
  have hf1 : (va_up f0 67 (.ref q_47)) 1 = .ref q_1 := hf1
  have hf4 : (va_up f0 67 (.ref q_47)) 4 = .ref q_2 := hf4
  have hf5 : (va_up f0 67 (.ref q_47)) 5 = .ref q_3 := hf5
  have hf6 : (va_up f0 67 (.ref q_47)) 6 = .ref q_4 := hf6
  have hfk : fk_M (va_up f0 67 (.ref q_47)) := hfk
  generalize va_up f0 67 (.ref q_47) = f0 at hP hD hf1 hf4 hf5 hf6 hfk
  have hP := hP.sub (ws' := [(h0, .inr (0, xo_M f0)), (q_1, .inl (cB, 65536, .inl (fun _ => 0))), (q_2, .inl (cI, 65540, .inl (fun _ => 0))), (q_3, .inl (cI, 65540, .inl (fun _ => 0))), (q_4, .inl (cI, 65540, .inl (fun _ => 0)))]) [0, 1, 2, 3, 4] rfl
  have hD := hD.sub (ws' := [(h0, .inr (0, xo_M f0)), (q_1, .inl (cB, 65536, .inl (fun _ => 0))), (q_2, .inl (cI, 65540, .inl (fun _ => 0))), (q_3, .inl (cI, 65540, .inl (fun _ => 0))), (q_4, .inl (cI, 65540, .inl (fun _ => 0)))]) [0, 1, 2, 3, 4] (by decide) rfl
  refine lv_aload_n hx hb dn_M_init_422 rfl (lv_at hl 0 rfl) ?_
  refine lv_sipush (v := 1100) hx hb dn_M_init_423 (by decide) ?_
  refine xk_newI 1100 hx hb (hg _ wn_1_119) hK hP hD hS hA 0 rfl rfl (Nat.le_of_ble_eq_true rfl) (Nat.le_of_ble_eq_true rfl) (Nat.le_of_ble_eq_true rfl) dn_M_init_426 (fun q_48 H hP hD hS => ?_)
  have hP : va_P (dC, dI) xcl [(h0, .inr (0, xo_M f0)), (q_1, .inl (cB, 65536, .inl (fun _ => 0))), (q_2, .inl (cI, 65540, .inl (fun _ => 0))), (q_3, .inl (cI, 65540, .inl (fun _ => 0))), (q_4, .inl (cI, 65540, .inl (fun _ => 0))), (q_48, .inl (cI, 1100, .inl (fun _ => 0)))] H := hP
  have hD : va_D A [(h0, .inr (0, xo_M f0)), (q_1, .inl (cB, 65536, .inl (fun _ => 0))), (q_2, .inl (cI, 65540, .inl (fun _ => 0))), (q_3, .inl (cI, 65540, .inl (fun _ => 0))), (q_4, .inl (cI, 65540, .inl (fun _ => 0))), (q_48, .inl (cI, 1100, .inl (fun _ => 0)))] := hD
  refine va_putF (D := (dC, dI)) (ci := 0) (v := .ref q_48) (ty := (.array .int)) (C := rn_M) (T := fn_M) (N := 91) hx hb hg in_M tn_M tk_M nn_M hown hK hP hD hS 0 rfl rfl 68 (by decide) (hg _ wn_8_136) (fun _ h9 => h9) rfl hin rfl (tk_M 68 (by decide)) rfl rfl (Nat.le_of_ble_eq_true rfl) dn_M_init_428 (fun H locs hP hD hS => ?_)
  have hP : va_P (dC, dI) xcl [(h0, .inr (0, xo_M (va_up f0 68 (.ref q_48)))), (q_1, .inl (cB, 65536, .inl (fun _ => 0))), (q_2, .inl (cI, 65540, .inl (fun _ => 0))), (q_3, .inl (cI, 65540, .inl (fun _ => 0))), (q_4, .inl (cI, 65540, .inl (fun _ => 0))), (q_48, .inl (cI, 1100, .inl (fun _ => 0)))] H := hP
  have hD : va_D A [(h0, .inr (0, xo_M (va_up f0 68 (.ref q_48)))), (q_1, .inl (cB, 65536, .inl (fun _ => 0))), (q_2, .inl (cI, 65540, .inl (fun _ => 0))), (q_3, .inl (cI, 65540, .inl (fun _ => 0))), (q_4, .inl (cI, 65540, .inl (fun _ => 0))), (q_48, .inl (cI, 1100, .inl (fun _ => 0)))] := hD
  have hf1 : (va_up f0 68 (.ref q_48)) 1 = .ref q_1 := hf1
  have hf4 : (va_up f0 68 (.ref q_48)) 4 = .ref q_2 := hf4
  have hf5 : (va_up f0 68 (.ref q_48)) 5 = .ref q_3 := hf5
  have hf6 : (va_up f0 68 (.ref q_48)) 6 = .ref q_4 := hf6
  have hfk : fk_M (va_up f0 68 (.ref q_48)) := hfk
  generalize va_up f0 68 (.ref q_48) = f0 at hP hD hf1 hf4 hf5 hf6 hfk
  have hP := hP.sub (ws' := [(h0, .inr (0, xo_M f0)), (q_1, .inl (cB, 65536, .inl (fun _ => 0))), (q_2, .inl (cI, 65540, .inl (fun _ => 0))), (q_3, .inl (cI, 65540, .inl (fun _ => 0))), (q_4, .inl (cI, 65540, .inl (fun _ => 0)))]) [0, 1, 2, 3, 4] rfl
  have hD := hD.sub (ws' := [(h0, .inr (0, xo_M f0)), (q_1, .inl (cB, 65536, .inl (fun _ => 0))), (q_2, .inl (cI, 65540, .inl (fun _ => 0))), (q_3, .inl (cI, 65540, .inl (fun _ => 0))), (q_4, .inl (cI, 65540, .inl (fun _ => 0)))]) [0, 1, 2, 3, 4] (by decide) rfl
  refine lv_aload_n hx hb dn_M_init_431 rfl (lv_at hl 0 rfl) ?_
  refine lv_sipush (v := 1100) hx hb dn_M_init_432 (by decide) ?_
  refine xk_newI 1100 hx hb (hg _ wn_1_119) hK hP hD hS hA 0 rfl rfl (Nat.le_of_ble_eq_true rfl) (Nat.le_of_ble_eq_true rfl) (Nat.le_of_ble_eq_true rfl) dn_M_init_435 (fun q_49 H hP hD hS => ?_)
  have hP : va_P (dC, dI) xcl [(h0, .inr (0, xo_M f0)), (q_1, .inl (cB, 65536, .inl (fun _ => 0))), (q_2, .inl (cI, 65540, .inl (fun _ => 0))), (q_3, .inl (cI, 65540, .inl (fun _ => 0))), (q_4, .inl (cI, 65540, .inl (fun _ => 0))), (q_49, .inl (cI, 1100, .inl (fun _ => 0)))] H := hP
  have hD : va_D A [(h0, .inr (0, xo_M f0)), (q_1, .inl (cB, 65536, .inl (fun _ => 0))), (q_2, .inl (cI, 65540, .inl (fun _ => 0))), (q_3, .inl (cI, 65540, .inl (fun _ => 0))), (q_4, .inl (cI, 65540, .inl (fun _ => 0))), (q_49, .inl (cI, 1100, .inl (fun _ => 0)))] := hD
  refine va_putF (D := (dC, dI)) (ci := 0) (v := .ref q_49) (ty := (.array .int)) (C := rn_M) (T := fn_M) (N := 91) hx hb hg in_M tn_M tk_M nn_M hown hK hP hD hS 0 rfl rfl 69 (by decide) (hg _ wn_8_137) (fun _ h9 => h9) rfl hin rfl (tk_M 69 (by decide)) rfl rfl (Nat.le_of_ble_eq_true rfl) dn_M_init_437 (fun H locs hP hD hS => ?_)
  have hP : va_P (dC, dI) xcl [(h0, .inr (0, xo_M (va_up f0 69 (.ref q_49)))), (q_1, .inl (cB, 65536, .inl (fun _ => 0))), (q_2, .inl (cI, 65540, .inl (fun _ => 0))), (q_3, .inl (cI, 65540, .inl (fun _ => 0))), (q_4, .inl (cI, 65540, .inl (fun _ => 0))), (q_49, .inl (cI, 1100, .inl (fun _ => 0)))] H := hP
  have hD : va_D A [(h0, .inr (0, xo_M (va_up f0 69 (.ref q_49)))), (q_1, .inl (cB, 65536, .inl (fun _ => 0))), (q_2, .inl (cI, 65540, .inl (fun _ => 0))), (q_3, .inl (cI, 65540, .inl (fun _ => 0))), (q_4, .inl (cI, 65540, .inl (fun _ => 0))), (q_49, .inl (cI, 1100, .inl (fun _ => 0)))] := hD
  have hf1 : (va_up f0 69 (.ref q_49)) 1 = .ref q_1 := hf1
  have hf4 : (va_up f0 69 (.ref q_49)) 4 = .ref q_2 := hf4
  have hf5 : (va_up f0 69 (.ref q_49)) 5 = .ref q_3 := hf5
  have hf6 : (va_up f0 69 (.ref q_49)) 6 = .ref q_4 := hf6
  have hfk : fk_M (va_up f0 69 (.ref q_49)) := hfk
  generalize va_up f0 69 (.ref q_49) = f0 at hP hD hf1 hf4 hf5 hf6 hfk
  have hP := hP.sub (ws' := [(h0, .inr (0, xo_M f0)), (q_1, .inl (cB, 65536, .inl (fun _ => 0))), (q_2, .inl (cI, 65540, .inl (fun _ => 0))), (q_3, .inl (cI, 65540, .inl (fun _ => 0))), (q_4, .inl (cI, 65540, .inl (fun _ => 0)))]) [0, 1, 2, 3, 4] rfl
  have hD := hD.sub (ws' := [(h0, .inr (0, xo_M f0)), (q_1, .inl (cB, 65536, .inl (fun _ => 0))), (q_2, .inl (cI, 65540, .inl (fun _ => 0))), (q_3, .inl (cI, 65540, .inl (fun _ => 0))), (q_4, .inl (cI, 65540, .inl (fun _ => 0)))]) [0, 1, 2, 3, 4] (by decide) rfl
  refine lv_aload_n hx hb dn_M_init_440 rfl (lv_at hl 0 rfl) ?_
  refine lv_sipush (v := 1100) hx hb dn_M_init_441 (by decide) ?_
  refine xk_newI 1100 hx hb (hg _ wn_1_119) hK hP hD hS hA 0 rfl rfl (Nat.le_of_ble_eq_true rfl) (Nat.le_of_ble_eq_true rfl) (Nat.le_of_ble_eq_true rfl) dn_M_init_444 (fun q_50 H hP hD hS => ?_)
  have hP : va_P (dC, dI) xcl [(h0, .inr (0, xo_M f0)), (q_1, .inl (cB, 65536, .inl (fun _ => 0))), (q_2, .inl (cI, 65540, .inl (fun _ => 0))), (q_3, .inl (cI, 65540, .inl (fun _ => 0))), (q_4, .inl (cI, 65540, .inl (fun _ => 0))), (q_50, .inl (cI, 1100, .inl (fun _ => 0)))] H := hP
  have hD : va_D A [(h0, .inr (0, xo_M f0)), (q_1, .inl (cB, 65536, .inl (fun _ => 0))), (q_2, .inl (cI, 65540, .inl (fun _ => 0))), (q_3, .inl (cI, 65540, .inl (fun _ => 0))), (q_4, .inl (cI, 65540, .inl (fun _ => 0))), (q_50, .inl (cI, 1100, .inl (fun _ => 0)))] := hD
  refine va_putF (D := (dC, dI)) (ci := 0) (v := .ref q_50) (ty := (.array .int)) (C := rn_M) (T := fn_M) (N := 91) hx hb hg in_M tn_M tk_M nn_M hown hK hP hD hS 0 rfl rfl 70 (by decide) (hg _ wn_8_138) (fun _ h9 => h9) rfl hin rfl (tk_M 70 (by decide)) rfl rfl (Nat.le_of_ble_eq_true rfl) dn_M_init_446 (fun H locs hP hD hS => ?_)
  have hP : va_P (dC, dI) xcl [(h0, .inr (0, xo_M (va_up f0 70 (.ref q_50)))), (q_1, .inl (cB, 65536, .inl (fun _ => 0))), (q_2, .inl (cI, 65540, .inl (fun _ => 0))), (q_3, .inl (cI, 65540, .inl (fun _ => 0))), (q_4, .inl (cI, 65540, .inl (fun _ => 0))), (q_50, .inl (cI, 1100, .inl (fun _ => 0)))] H := hP
  have hD : va_D A [(h0, .inr (0, xo_M (va_up f0 70 (.ref q_50)))), (q_1, .inl (cB, 65536, .inl (fun _ => 0))), (q_2, .inl (cI, 65540, .inl (fun _ => 0))), (q_3, .inl (cI, 65540, .inl (fun _ => 0))), (q_4, .inl (cI, 65540, .inl (fun _ => 0))), (q_50, .inl (cI, 1100, .inl (fun _ => 0)))] := hD
  have hf1 : (va_up f0 70 (.ref q_50)) 1 = .ref q_1 := hf1
  have hf4 : (va_up f0 70 (.ref q_50)) 4 = .ref q_2 := hf4
  have hf5 : (va_up f0 70 (.ref q_50)) 5 = .ref q_3 := hf5
  have hf6 : (va_up f0 70 (.ref q_50)) 6 = .ref q_4 := hf6
  have hfk : fk_M (va_up f0 70 (.ref q_50)) := hfk
  generalize va_up f0 70 (.ref q_50) = f0 at hP hD hf1 hf4 hf5 hf6 hfk
  have hP := hP.sub (ws' := [(h0, .inr (0, xo_M f0)), (q_1, .inl (cB, 65536, .inl (fun _ => 0))), (q_2, .inl (cI, 65540, .inl (fun _ => 0))), (q_3, .inl (cI, 65540, .inl (fun _ => 0))), (q_4, .inl (cI, 65540, .inl (fun _ => 0)))]) [0, 1, 2, 3, 4] rfl
  have hD := hD.sub (ws' := [(h0, .inr (0, xo_M f0)), (q_1, .inl (cB, 65536, .inl (fun _ => 0))), (q_2, .inl (cI, 65540, .inl (fun _ => 0))), (q_3, .inl (cI, 65540, .inl (fun _ => 0))), (q_4, .inl (cI, 65540, .inl (fun _ => 0)))]) [0, 1, 2, 3, 4] (by decide) rfl
  refine lv_aload_n hx hb dn_M_init_449 rfl (lv_at hl 0 rfl) ?_
  refine lv_sipush (v := 1100) hx hb dn_M_init_450 (by decide) ?_
  refine xk_newZ 1100 hx hb (hg _ wn_9_102) hK hP hD hS hA 3 rfl rfl (Nat.le_of_ble_eq_true rfl) (Nat.le_of_ble_eq_true rfl) (Nat.le_of_ble_eq_true rfl) dn_M_init_453 (fun q_51 H hP hD hS => ?_)
  have hP : va_P (dC, dI) xcl [(h0, .inr (0, xo_M f0)), (q_1, .inl (cB, 65536, .inl (fun _ => 0))), (q_2, .inl (cI, 65540, .inl (fun _ => 0))), (q_3, .inl (cI, 65540, .inl (fun _ => 0))), (q_4, .inl (cI, 65540, .inl (fun _ => 0))), (q_51, .inl (cZ, 1100, .inl (fun _ => 0)))] H := hP
  have hD : va_D A [(h0, .inr (0, xo_M f0)), (q_1, .inl (cB, 65536, .inl (fun _ => 0))), (q_2, .inl (cI, 65540, .inl (fun _ => 0))), (q_3, .inl (cI, 65540, .inl (fun _ => 0))), (q_4, .inl (cI, 65540, .inl (fun _ => 0))), (q_51, .inl (cZ, 1100, .inl (fun _ => 0)))] := hD
  refine va_putF (D := (dC, dI)) (ci := 0) (v := .ref q_51) (ty := (.array .boolean)) (C := rn_M) (T := fn_M) (N := 91) hx hb hg in_M tn_M tk_M nn_M hown hK hP hD hS 0 rfl rfl 72 (by decide) (hg _ wn_8_140) (fun _ h9 => h9) rfl hin rfl (tk_M 72 (by decide)) rfl rfl (Nat.le_of_ble_eq_true rfl) dn_M_init_455 (fun H locs hP hD hS => ?_)
  have hP : va_P (dC, dI) xcl [(h0, .inr (0, xo_M (va_up f0 72 (.ref q_51)))), (q_1, .inl (cB, 65536, .inl (fun _ => 0))), (q_2, .inl (cI, 65540, .inl (fun _ => 0))), (q_3, .inl (cI, 65540, .inl (fun _ => 0))), (q_4, .inl (cI, 65540, .inl (fun _ => 0))), (q_51, .inl (cZ, 1100, .inl (fun _ => 0)))] H := hP
  have hD : va_D A [(h0, .inr (0, xo_M (va_up f0 72 (.ref q_51)))), (q_1, .inl (cB, 65536, .inl (fun _ => 0))), (q_2, .inl (cI, 65540, .inl (fun _ => 0))), (q_3, .inl (cI, 65540, .inl (fun _ => 0))), (q_4, .inl (cI, 65540, .inl (fun _ => 0))), (q_51, .inl (cZ, 1100, .inl (fun _ => 0)))] := hD
  have hf1 : (va_up f0 72 (.ref q_51)) 1 = .ref q_1 := hf1
  have hf4 : (va_up f0 72 (.ref q_51)) 4 = .ref q_2 := hf4
  have hf5 : (va_up f0 72 (.ref q_51)) 5 = .ref q_3 := hf5
  have hf6 : (va_up f0 72 (.ref q_51)) 6 = .ref q_4 := hf6
  have hfk : fk_M (va_up f0 72 (.ref q_51)) := hfk
  generalize va_up f0 72 (.ref q_51) = f0 at hP hD hf1 hf4 hf5 hf6 hfk
  have hP := hP.sub (ws' := [(h0, .inr (0, xo_M f0)), (q_1, .inl (cB, 65536, .inl (fun _ => 0))), (q_2, .inl (cI, 65540, .inl (fun _ => 0))), (q_3, .inl (cI, 65540, .inl (fun _ => 0))), (q_4, .inl (cI, 65540, .inl (fun _ => 0)))]) [0, 1, 2, 3, 4] rfl
  have hD := hD.sub (ws' := [(h0, .inr (0, xo_M f0)), (q_1, .inl (cB, 65536, .inl (fun _ => 0))), (q_2, .inl (cI, 65540, .inl (fun _ => 0))), (q_3, .inl (cI, 65540, .inl (fun _ => 0))), (q_4, .inl (cI, 65540, .inl (fun _ => 0)))]) [0, 1, 2, 3, 4] (by decide) rfl
  refine lv_aload_n hx hb dn_M_init_458 rfl (lv_at hl 0 rfl) ?_
  refine lv_sipush (v := 1100) hx hb dn_M_init_459 (by decide) ?_
  refine xk_newZ 1100 hx hb (hg _ wn_9_102) hK hP hD hS hA 3 rfl rfl (Nat.le_of_ble_eq_true rfl) (Nat.le_of_ble_eq_true rfl) (Nat.le_of_ble_eq_true rfl) dn_M_init_462 (fun q_52 H hP hD hS => ?_)
  have hP : va_P (dC, dI) xcl [(h0, .inr (0, xo_M f0)), (q_1, .inl (cB, 65536, .inl (fun _ => 0))), (q_2, .inl (cI, 65540, .inl (fun _ => 0))), (q_3, .inl (cI, 65540, .inl (fun _ => 0))), (q_4, .inl (cI, 65540, .inl (fun _ => 0))), (q_52, .inl (cZ, 1100, .inl (fun _ => 0)))] H := hP
  have hD : va_D A [(h0, .inr (0, xo_M f0)), (q_1, .inl (cB, 65536, .inl (fun _ => 0))), (q_2, .inl (cI, 65540, .inl (fun _ => 0))), (q_3, .inl (cI, 65540, .inl (fun _ => 0))), (q_4, .inl (cI, 65540, .inl (fun _ => 0))), (q_52, .inl (cZ, 1100, .inl (fun _ => 0)))] := hD
  refine va_putF (D := (dC, dI)) (ci := 0) (v := .ref q_52) (ty := (.array .boolean)) (C := rn_M) (T := fn_M) (N := 91) hx hb hg in_M tn_M tk_M nn_M hown hK hP hD hS 0 rfl rfl 73 (by decide) (hg _ wn_8_141) (fun _ h9 => h9) rfl hin rfl (tk_M 73 (by decide)) rfl rfl (Nat.le_of_ble_eq_true rfl) dn_M_init_464 (fun H locs hP hD hS => ?_)
  have hP : va_P (dC, dI) xcl [(h0, .inr (0, xo_M (va_up f0 73 (.ref q_52)))), (q_1, .inl (cB, 65536, .inl (fun _ => 0))), (q_2, .inl (cI, 65540, .inl (fun _ => 0))), (q_3, .inl (cI, 65540, .inl (fun _ => 0))), (q_4, .inl (cI, 65540, .inl (fun _ => 0))), (q_52, .inl (cZ, 1100, .inl (fun _ => 0)))] H := hP
  have hD : va_D A [(h0, .inr (0, xo_M (va_up f0 73 (.ref q_52)))), (q_1, .inl (cB, 65536, .inl (fun _ => 0))), (q_2, .inl (cI, 65540, .inl (fun _ => 0))), (q_3, .inl (cI, 65540, .inl (fun _ => 0))), (q_4, .inl (cI, 65540, .inl (fun _ => 0))), (q_52, .inl (cZ, 1100, .inl (fun _ => 0)))] := hD
  have hf1 : (va_up f0 73 (.ref q_52)) 1 = .ref q_1 := hf1
  have hf4 : (va_up f0 73 (.ref q_52)) 4 = .ref q_2 := hf4
  have hf5 : (va_up f0 73 (.ref q_52)) 5 = .ref q_3 := hf5
  have hf6 : (va_up f0 73 (.ref q_52)) 6 = .ref q_4 := hf6
  have hfk : fk_M (va_up f0 73 (.ref q_52)) := hfk
  generalize va_up f0 73 (.ref q_52) = f0 at hP hD hf1 hf4 hf5 hf6 hfk
  have hP := hP.sub (ws' := [(h0, .inr (0, xo_M f0)), (q_1, .inl (cB, 65536, .inl (fun _ => 0))), (q_2, .inl (cI, 65540, .inl (fun _ => 0))), (q_3, .inl (cI, 65540, .inl (fun _ => 0))), (q_4, .inl (cI, 65540, .inl (fun _ => 0)))]) [0, 1, 2, 3, 4] rfl
  have hD := hD.sub (ws' := [(h0, .inr (0, xo_M f0)), (q_1, .inl (cB, 65536, .inl (fun _ => 0))), (q_2, .inl (cI, 65540, .inl (fun _ => 0))), (q_3, .inl (cI, 65540, .inl (fun _ => 0))), (q_4, .inl (cI, 65540, .inl (fun _ => 0)))]) [0, 1, 2, 3, 4] (by decide) rfl
  refine lv_aload_n hx hb dn_M_init_467 rfl (lv_at hl 0 rfl) ?_
  refine lv_sipush (v := 1100) hx hb dn_M_init_468 (by decide) ?_
  refine xk_newI 1100 hx hb (hg _ wn_1_119) hK hP hD hS hA 0 rfl rfl (Nat.le_of_ble_eq_true rfl) (Nat.le_of_ble_eq_true rfl) (Nat.le_of_ble_eq_true rfl) dn_M_init_471 (fun q_53 H hP hD hS => ?_)
  have hP : va_P (dC, dI) xcl [(h0, .inr (0, xo_M f0)), (q_1, .inl (cB, 65536, .inl (fun _ => 0))), (q_2, .inl (cI, 65540, .inl (fun _ => 0))), (q_3, .inl (cI, 65540, .inl (fun _ => 0))), (q_4, .inl (cI, 65540, .inl (fun _ => 0))), (q_53, .inl (cI, 1100, .inl (fun _ => 0)))] H := hP
  have hD : va_D A [(h0, .inr (0, xo_M f0)), (q_1, .inl (cB, 65536, .inl (fun _ => 0))), (q_2, .inl (cI, 65540, .inl (fun _ => 0))), (q_3, .inl (cI, 65540, .inl (fun _ => 0))), (q_4, .inl (cI, 65540, .inl (fun _ => 0))), (q_53, .inl (cI, 1100, .inl (fun _ => 0)))] := hD
  refine va_putF (D := (dC, dI)) (ci := 0) (v := .ref q_53) (ty := (.array .int)) (C := rn_M) (T := fn_M) (N := 91) hx hb hg in_M tn_M tk_M nn_M hown hK hP hD hS 0 rfl rfl 74 (by decide) (hg _ wn_8_142) (fun _ h9 => h9) rfl hin rfl (tk_M 74 (by decide)) rfl rfl (Nat.le_of_ble_eq_true rfl) dn_M_init_473 (fun H locs hP hD hS => ?_)
  have hP : va_P (dC, dI) xcl [(h0, .inr (0, xo_M (va_up f0 74 (.ref q_53)))), (q_1, .inl (cB, 65536, .inl (fun _ => 0))), (q_2, .inl (cI, 65540, .inl (fun _ => 0))), (q_3, .inl (cI, 65540, .inl (fun _ => 0))), (q_4, .inl (cI, 65540, .inl (fun _ => 0))), (q_53, .inl (cI, 1100, .inl (fun _ => 0)))] H := hP
  have hD : va_D A [(h0, .inr (0, xo_M (va_up f0 74 (.ref q_53)))), (q_1, .inl (cB, 65536, .inl (fun _ => 0))), (q_2, .inl (cI, 65540, .inl (fun _ => 0))), (q_3, .inl (cI, 65540, .inl (fun _ => 0))), (q_4, .inl (cI, 65540, .inl (fun _ => 0))), (q_53, .inl (cI, 1100, .inl (fun _ => 0)))] := hD
  have hf1 : (va_up f0 74 (.ref q_53)) 1 = .ref q_1 := hf1
  have hf4 : (va_up f0 74 (.ref q_53)) 4 = .ref q_2 := hf4
  have hf5 : (va_up f0 74 (.ref q_53)) 5 = .ref q_3 := hf5
  have hf6 : (va_up f0 74 (.ref q_53)) 6 = .ref q_4 := hf6
  have hfk : fk_M (va_up f0 74 (.ref q_53)) := hfk
  generalize va_up f0 74 (.ref q_53) = f0 at hP hD hf1 hf4 hf5 hf6 hfk
  have hP := hP.sub (ws' := [(h0, .inr (0, xo_M f0)), (q_1, .inl (cB, 65536, .inl (fun _ => 0))), (q_2, .inl (cI, 65540, .inl (fun _ => 0))), (q_3, .inl (cI, 65540, .inl (fun _ => 0))), (q_4, .inl (cI, 65540, .inl (fun _ => 0)))]) [0, 1, 2, 3, 4] rfl
  have hD := hD.sub (ws' := [(h0, .inr (0, xo_M f0)), (q_1, .inl (cB, 65536, .inl (fun _ => 0))), (q_2, .inl (cI, 65540, .inl (fun _ => 0))), (q_3, .inl (cI, 65540, .inl (fun _ => 0))), (q_4, .inl (cI, 65540, .inl (fun _ => 0)))]) [0, 1, 2, 3, 4] (by decide) rfl
  refine lv_aload_n hx hb dn_M_init_476 rfl (lv_at hl 0 rfl) ?_
  refine lv_sipush (v := 1100) hx hb dn_M_init_477 (by decide) ?_
  refine xk_newJ 1100 hx hb (hg _ wn_1_82) hK hP hD hS hA 2 rfl rfl (Nat.le_of_ble_eq_true rfl) (Nat.le_of_ble_eq_true rfl) (Nat.le_of_ble_eq_true rfl) dn_M_init_480 (fun q_54 H hP hD hS => ?_)
  have hP : va_P (dC, dI) xcl [(h0, .inr (0, xo_M f0)), (q_1, .inl (cB, 65536, .inl (fun _ => 0))), (q_2, .inl (cI, 65540, .inl (fun _ => 0))), (q_3, .inl (cI, 65540, .inl (fun _ => 0))), (q_4, .inl (cI, 65540, .inl (fun _ => 0))), (q_54, .inl (cJ, 1100, .inr (.inl (fun _ => 0))))] H := hP
  have hD : va_D A [(h0, .inr (0, xo_M f0)), (q_1, .inl (cB, 65536, .inl (fun _ => 0))), (q_2, .inl (cI, 65540, .inl (fun _ => 0))), (q_3, .inl (cI, 65540, .inl (fun _ => 0))), (q_4, .inl (cI, 65540, .inl (fun _ => 0))), (q_54, .inl (cJ, 1100, .inr (.inl (fun _ => 0))))] := hD
  refine va_putF (D := (dC, dI)) (ci := 0) (v := .ref q_54) (ty := (.array .long)) (C := rn_M) (T := fn_M) (N := 91) hx hb hg in_M tn_M tk_M nn_M hown hK hP hD hS 0 rfl rfl 80 (by decide) (hg _ wn_8_148) (fun _ h9 => h9) rfl hin rfl (tk_M 80 (by decide)) rfl rfl (Nat.le_of_ble_eq_true rfl) dn_M_init_482 (fun H locs hP hD hS => ?_)
  have hP : va_P (dC, dI) xcl [(h0, .inr (0, xo_M (va_up f0 80 (.ref q_54)))), (q_1, .inl (cB, 65536, .inl (fun _ => 0))), (q_2, .inl (cI, 65540, .inl (fun _ => 0))), (q_3, .inl (cI, 65540, .inl (fun _ => 0))), (q_4, .inl (cI, 65540, .inl (fun _ => 0))), (q_54, .inl (cJ, 1100, .inr (.inl (fun _ => 0))))] H := hP
  have hD : va_D A [(h0, .inr (0, xo_M (va_up f0 80 (.ref q_54)))), (q_1, .inl (cB, 65536, .inl (fun _ => 0))), (q_2, .inl (cI, 65540, .inl (fun _ => 0))), (q_3, .inl (cI, 65540, .inl (fun _ => 0))), (q_4, .inl (cI, 65540, .inl (fun _ => 0))), (q_54, .inl (cJ, 1100, .inr (.inl (fun _ => 0))))] := hD
  have hf1 : (va_up f0 80 (.ref q_54)) 1 = .ref q_1 := hf1
  have hf4 : (va_up f0 80 (.ref q_54)) 4 = .ref q_2 := hf4
  have hf5 : (va_up f0 80 (.ref q_54)) 5 = .ref q_3 := hf5
  have hf6 : (va_up f0 80 (.ref q_54)) 6 = .ref q_4 := hf6
  have hfk : fk_M (va_up f0 80 (.ref q_54)) := hfk
  generalize va_up f0 80 (.ref q_54) = f0 at hP hD hf1 hf4 hf5 hf6 hfk
  have hP := hP.sub (ws' := [(h0, .inr (0, xo_M f0)), (q_1, .inl (cB, 65536, .inl (fun _ => 0))), (q_2, .inl (cI, 65540, .inl (fun _ => 0))), (q_3, .inl (cI, 65540, .inl (fun _ => 0))), (q_4, .inl (cI, 65540, .inl (fun _ => 0)))]) [0, 1, 2, 3, 4] rfl
  have hD := hD.sub (ws' := [(h0, .inr (0, xo_M f0)), (q_1, .inl (cB, 65536, .inl (fun _ => 0))), (q_2, .inl (cI, 65540, .inl (fun _ => 0))), (q_3, .inl (cI, 65540, .inl (fun _ => 0))), (q_4, .inl (cI, 65540, .inl (fun _ => 0)))]) [0, 1, 2, 3, 4] (by decide) rfl
  refine lv_aload_n hx hb dn_M_init_485 rfl (lv_at hl 0 rfl) ?_
  refine lv_sipush (v := 1100) hx hb dn_M_init_486 (by decide) ?_
  refine xk_newJ 1100 hx hb (hg _ wn_1_82) hK hP hD hS hA 2 rfl rfl (Nat.le_of_ble_eq_true rfl) (Nat.le_of_ble_eq_true rfl) (Nat.le_of_ble_eq_true rfl) dn_M_init_489 (fun q_55 H hP hD hS => ?_)
  have hP : va_P (dC, dI) xcl [(h0, .inr (0, xo_M f0)), (q_1, .inl (cB, 65536, .inl (fun _ => 0))), (q_2, .inl (cI, 65540, .inl (fun _ => 0))), (q_3, .inl (cI, 65540, .inl (fun _ => 0))), (q_4, .inl (cI, 65540, .inl (fun _ => 0))), (q_55, .inl (cJ, 1100, .inr (.inl (fun _ => 0))))] H := hP
  have hD : va_D A [(h0, .inr (0, xo_M f0)), (q_1, .inl (cB, 65536, .inl (fun _ => 0))), (q_2, .inl (cI, 65540, .inl (fun _ => 0))), (q_3, .inl (cI, 65540, .inl (fun _ => 0))), (q_4, .inl (cI, 65540, .inl (fun _ => 0))), (q_55, .inl (cJ, 1100, .inr (.inl (fun _ => 0))))] := hD
  refine va_putF (D := (dC, dI)) (ci := 0) (v := .ref q_55) (ty := (.array .long)) (C := rn_M) (T := fn_M) (N := 91) hx hb hg in_M tn_M tk_M nn_M hown hK hP hD hS 0 rfl rfl 81 (by decide) (hg _ wn_8_149) (fun _ h9 => h9) rfl hin rfl (tk_M 81 (by decide)) rfl rfl (Nat.le_of_ble_eq_true rfl) dn_M_init_491 (fun H locs hP hD hS => ?_)
  have hP : va_P (dC, dI) xcl [(h0, .inr (0, xo_M (va_up f0 81 (.ref q_55)))), (q_1, .inl (cB, 65536, .inl (fun _ => 0))), (q_2, .inl (cI, 65540, .inl (fun _ => 0))), (q_3, .inl (cI, 65540, .inl (fun _ => 0))), (q_4, .inl (cI, 65540, .inl (fun _ => 0))), (q_55, .inl (cJ, 1100, .inr (.inl (fun _ => 0))))] H := hP
  have hD : va_D A [(h0, .inr (0, xo_M (va_up f0 81 (.ref q_55)))), (q_1, .inl (cB, 65536, .inl (fun _ => 0))), (q_2, .inl (cI, 65540, .inl (fun _ => 0))), (q_3, .inl (cI, 65540, .inl (fun _ => 0))), (q_4, .inl (cI, 65540, .inl (fun _ => 0))), (q_55, .inl (cJ, 1100, .inr (.inl (fun _ => 0))))] := hD
  have hf1 : (va_up f0 81 (.ref q_55)) 1 = .ref q_1 := hf1
  have hf4 : (va_up f0 81 (.ref q_55)) 4 = .ref q_2 := hf4
  have hf5 : (va_up f0 81 (.ref q_55)) 5 = .ref q_3 := hf5
  have hf6 : (va_up f0 81 (.ref q_55)) 6 = .ref q_4 := hf6
  have hfk : fk_M (va_up f0 81 (.ref q_55)) := hfk
  generalize va_up f0 81 (.ref q_55) = f0 at hP hD hf1 hf4 hf5 hf6 hfk
  have hP := hP.sub (ws' := [(h0, .inr (0, xo_M f0)), (q_1, .inl (cB, 65536, .inl (fun _ => 0))), (q_2, .inl (cI, 65540, .inl (fun _ => 0))), (q_3, .inl (cI, 65540, .inl (fun _ => 0))), (q_4, .inl (cI, 65540, .inl (fun _ => 0)))]) [0, 1, 2, 3, 4] rfl
  have hD := hD.sub (ws' := [(h0, .inr (0, xo_M f0)), (q_1, .inl (cB, 65536, .inl (fun _ => 0))), (q_2, .inl (cI, 65540, .inl (fun _ => 0))), (q_3, .inl (cI, 65540, .inl (fun _ => 0))), (q_4, .inl (cI, 65540, .inl (fun _ => 0)))]) [0, 1, 2, 3, 4] (by decide) rfl
  refine lv_aload_n hx hb dn_M_init_494 rfl (lv_at hl 0 rfl) ?_
  refine lv_sipush (v := 1100) hx hb dn_M_init_495 (by decide) ?_
  refine xk_newJ 1100 hx hb (hg _ wn_1_82) hK hP hD hS hA 2 rfl rfl (Nat.le_of_ble_eq_true rfl) (Nat.le_of_ble_eq_true rfl) (Nat.le_of_ble_eq_true rfl) dn_M_init_498 (fun q_56 H hP hD hS => ?_)
  have hP : va_P (dC, dI) xcl [(h0, .inr (0, xo_M f0)), (q_1, .inl (cB, 65536, .inl (fun _ => 0))), (q_2, .inl (cI, 65540, .inl (fun _ => 0))), (q_3, .inl (cI, 65540, .inl (fun _ => 0))), (q_4, .inl (cI, 65540, .inl (fun _ => 0))), (q_56, .inl (cJ, 1100, .inr (.inl (fun _ => 0))))] H := hP
  have hD : va_D A [(h0, .inr (0, xo_M f0)), (q_1, .inl (cB, 65536, .inl (fun _ => 0))), (q_2, .inl (cI, 65540, .inl (fun _ => 0))), (q_3, .inl (cI, 65540, .inl (fun _ => 0))), (q_4, .inl (cI, 65540, .inl (fun _ => 0))), (q_56, .inl (cJ, 1100, .inr (.inl (fun _ => 0))))] := hD
  refine va_putF (D := (dC, dI)) (ci := 0) (v := .ref q_56) (ty := (.array .long)) (C := rn_M) (T := fn_M) (N := 91) hx hb hg in_M tn_M tk_M nn_M hown hK hP hD hS 0 rfl rfl 82 (by decide) (hg _ wn_8_150) (fun _ h9 => h9) rfl hin rfl (tk_M 82 (by decide)) rfl rfl (Nat.le_of_ble_eq_true rfl) dn_M_init_500 (fun H locs hP hD hS => ?_)
  have hP : va_P (dC, dI) xcl [(h0, .inr (0, xo_M (va_up f0 82 (.ref q_56)))), (q_1, .inl (cB, 65536, .inl (fun _ => 0))), (q_2, .inl (cI, 65540, .inl (fun _ => 0))), (q_3, .inl (cI, 65540, .inl (fun _ => 0))), (q_4, .inl (cI, 65540, .inl (fun _ => 0))), (q_56, .inl (cJ, 1100, .inr (.inl (fun _ => 0))))] H := hP
  have hD : va_D A [(h0, .inr (0, xo_M (va_up f0 82 (.ref q_56)))), (q_1, .inl (cB, 65536, .inl (fun _ => 0))), (q_2, .inl (cI, 65540, .inl (fun _ => 0))), (q_3, .inl (cI, 65540, .inl (fun _ => 0))), (q_4, .inl (cI, 65540, .inl (fun _ => 0))), (q_56, .inl (cJ, 1100, .inr (.inl (fun _ => 0))))] := hD
  have hf1 : (va_up f0 82 (.ref q_56)) 1 = .ref q_1 := hf1
  have hf4 : (va_up f0 82 (.ref q_56)) 4 = .ref q_2 := hf4
  have hf5 : (va_up f0 82 (.ref q_56)) 5 = .ref q_3 := hf5
  have hf6 : (va_up f0 82 (.ref q_56)) 6 = .ref q_4 := hf6
  have hfk : fk_M (va_up f0 82 (.ref q_56)) := hfk
  generalize va_up f0 82 (.ref q_56) = f0 at hP hD hf1 hf4 hf5 hf6 hfk
  have hP := hP.sub (ws' := [(h0, .inr (0, xo_M f0)), (q_1, .inl (cB, 65536, .inl (fun _ => 0))), (q_2, .inl (cI, 65540, .inl (fun _ => 0))), (q_3, .inl (cI, 65540, .inl (fun _ => 0))), (q_4, .inl (cI, 65540, .inl (fun _ => 0)))]) [0, 1, 2, 3, 4] rfl
  have hD := hD.sub (ws' := [(h0, .inr (0, xo_M f0)), (q_1, .inl (cB, 65536, .inl (fun _ => 0))), (q_2, .inl (cI, 65540, .inl (fun _ => 0))), (q_3, .inl (cI, 65540, .inl (fun _ => 0))), (q_4, .inl (cI, 65540, .inl (fun _ => 0)))]) [0, 1, 2, 3, 4] (by decide) rfl
  refine lv_aload_n hx hb dn_M_init_503 rfl (lv_at hl 0 rfl) ?_
  refine lv_sipush (v := 1100) hx hb dn_M_init_504 (by decide) ?_
  refine xk_newJ 1100 hx hb (hg _ wn_1_82) hK hP hD hS hA 2 rfl rfl (Nat.le_of_ble_eq_true rfl) (Nat.le_of_ble_eq_true rfl) (Nat.le_of_ble_eq_true rfl) dn_M_init_507 (fun q_57 H hP hD hS => ?_)
  have hP : va_P (dC, dI) xcl [(h0, .inr (0, xo_M f0)), (q_1, .inl (cB, 65536, .inl (fun _ => 0))), (q_2, .inl (cI, 65540, .inl (fun _ => 0))), (q_3, .inl (cI, 65540, .inl (fun _ => 0))), (q_4, .inl (cI, 65540, .inl (fun _ => 0))), (q_57, .inl (cJ, 1100, .inr (.inl (fun _ => 0))))] H := hP
  have hD : va_D A [(h0, .inr (0, xo_M f0)), (q_1, .inl (cB, 65536, .inl (fun _ => 0))), (q_2, .inl (cI, 65540, .inl (fun _ => 0))), (q_3, .inl (cI, 65540, .inl (fun _ => 0))), (q_4, .inl (cI, 65540, .inl (fun _ => 0))), (q_57, .inl (cJ, 1100, .inr (.inl (fun _ => 0))))] := hD
  refine va_putF (D := (dC, dI)) (ci := 0) (v := .ref q_57) (ty := (.array .long)) (C := rn_M) (T := fn_M) (N := 91) hx hb hg in_M tn_M tk_M nn_M hown hK hP hD hS 0 rfl rfl 83 (by decide) (hg _ wn_8_151) (fun _ h9 => h9) rfl hin rfl (tk_M 83 (by decide)) rfl rfl (Nat.le_of_ble_eq_true rfl) dn_M_init_509 (fun H locs hP hD hS => ?_)
  have hP : va_P (dC, dI) xcl [(h0, .inr (0, xo_M (va_up f0 83 (.ref q_57)))), (q_1, .inl (cB, 65536, .inl (fun _ => 0))), (q_2, .inl (cI, 65540, .inl (fun _ => 0))), (q_3, .inl (cI, 65540, .inl (fun _ => 0))), (q_4, .inl (cI, 65540, .inl (fun _ => 0))), (q_57, .inl (cJ, 1100, .inr (.inl (fun _ => 0))))] H := hP
  have hD : va_D A [(h0, .inr (0, xo_M (va_up f0 83 (.ref q_57)))), (q_1, .inl (cB, 65536, .inl (fun _ => 0))), (q_2, .inl (cI, 65540, .inl (fun _ => 0))), (q_3, .inl (cI, 65540, .inl (fun _ => 0))), (q_4, .inl (cI, 65540, .inl (fun _ => 0))), (q_57, .inl (cJ, 1100, .inr (.inl (fun _ => 0))))] := hD
  have hf1 : (va_up f0 83 (.ref q_57)) 1 = .ref q_1 := hf1
  have hf4 : (va_up f0 83 (.ref q_57)) 4 = .ref q_2 := hf4
  have hf5 : (va_up f0 83 (.ref q_57)) 5 = .ref q_3 := hf5
  have hf6 : (va_up f0 83 (.ref q_57)) 6 = .ref q_4 := hf6
  have hfk : fk_M (va_up f0 83 (.ref q_57)) := hfk
  generalize va_up f0 83 (.ref q_57) = f0 at hP hD hf1 hf4 hf5 hf6 hfk
  have hP := hP.sub (ws' := [(h0, .inr (0, xo_M f0)), (q_1, .inl (cB, 65536, .inl (fun _ => 0))), (q_2, .inl (cI, 65540, .inl (fun _ => 0))), (q_3, .inl (cI, 65540, .inl (fun _ => 0))), (q_4, .inl (cI, 65540, .inl (fun _ => 0)))]) [0, 1, 2, 3, 4] rfl
  have hD := hD.sub (ws' := [(h0, .inr (0, xo_M f0)), (q_1, .inl (cB, 65536, .inl (fun _ => 0))), (q_2, .inl (cI, 65540, .inl (fun _ => 0))), (q_3, .inl (cI, 65540, .inl (fun _ => 0))), (q_4, .inl (cI, 65540, .inl (fun _ => 0)))]) [0, 1, 2, 3, 4] (by decide) rfl
  refine lv_aload_n hx hb dn_M_init_512 rfl (lv_at hl 0 rfl) ?_
  refine lv_sipush (v := 4096) hx hb dn_M_init_513 (by decide) ?_
  refine xk_newJ 4096 hx hb (hg _ wn_1_82) hK hP hD hS hA 2 rfl rfl (Nat.le_of_ble_eq_true rfl) (Nat.le_of_ble_eq_true rfl) (Nat.le_of_ble_eq_true rfl) dn_M_init_516 (fun q_58 H hP hD hS => ?_)
  have hP : va_P (dC, dI) xcl [(h0, .inr (0, xo_M f0)), (q_1, .inl (cB, 65536, .inl (fun _ => 0))), (q_2, .inl (cI, 65540, .inl (fun _ => 0))), (q_3, .inl (cI, 65540, .inl (fun _ => 0))), (q_4, .inl (cI, 65540, .inl (fun _ => 0))), (q_58, .inl (cJ, 4096, .inr (.inl (fun _ => 0))))] H := hP
  have hD : va_D A [(h0, .inr (0, xo_M f0)), (q_1, .inl (cB, 65536, .inl (fun _ => 0))), (q_2, .inl (cI, 65540, .inl (fun _ => 0))), (q_3, .inl (cI, 65540, .inl (fun _ => 0))), (q_4, .inl (cI, 65540, .inl (fun _ => 0))), (q_58, .inl (cJ, 4096, .inr (.inl (fun _ => 0))))] := hD
  refine va_putF (D := (dC, dI)) (ci := 0) (v := .ref q_58) (ty := (.array .long)) (C := rn_M) (T := fn_M) (N := 91) hx hb hg in_M tn_M tk_M nn_M hown hK hP hD hS 0 rfl rfl 84 (by decide) (hg _ wn_8_152) (fun _ h9 => h9) rfl hin rfl (tk_M 84 (by decide)) rfl rfl (Nat.le_of_ble_eq_true rfl) dn_M_init_518 (fun H locs hP hD hS => ?_)
  have hP : va_P (dC, dI) xcl [(h0, .inr (0, xo_M (va_up f0 84 (.ref q_58)))), (q_1, .inl (cB, 65536, .inl (fun _ => 0))), (q_2, .inl (cI, 65540, .inl (fun _ => 0))), (q_3, .inl (cI, 65540, .inl (fun _ => 0))), (q_4, .inl (cI, 65540, .inl (fun _ => 0))), (q_58, .inl (cJ, 4096, .inr (.inl (fun _ => 0))))] H := hP
  have hD : va_D A [(h0, .inr (0, xo_M (va_up f0 84 (.ref q_58)))), (q_1, .inl (cB, 65536, .inl (fun _ => 0))), (q_2, .inl (cI, 65540, .inl (fun _ => 0))), (q_3, .inl (cI, 65540, .inl (fun _ => 0))), (q_4, .inl (cI, 65540, .inl (fun _ => 0))), (q_58, .inl (cJ, 4096, .inr (.inl (fun _ => 0))))] := hD
  have hf1 : (va_up f0 84 (.ref q_58)) 1 = .ref q_1 := hf1
  have hf4 : (va_up f0 84 (.ref q_58)) 4 = .ref q_2 := hf4
  have hf5 : (va_up f0 84 (.ref q_58)) 5 = .ref q_3 := hf5
  have hf6 : (va_up f0 84 (.ref q_58)) 6 = .ref q_4 := hf6
  have hfk : fk_M (va_up f0 84 (.ref q_58)) := hfk
  generalize va_up f0 84 (.ref q_58) = f0 at hP hD hf1 hf4 hf5 hf6 hfk
  have hP := hP.sub (ws' := [(h0, .inr (0, xo_M f0)), (q_1, .inl (cB, 65536, .inl (fun _ => 0))), (q_2, .inl (cI, 65540, .inl (fun _ => 0))), (q_3, .inl (cI, 65540, .inl (fun _ => 0))), (q_4, .inl (cI, 65540, .inl (fun _ => 0)))]) [0, 1, 2, 3, 4] rfl
  have hD := hD.sub (ws' := [(h0, .inr (0, xo_M f0)), (q_1, .inl (cB, 65536, .inl (fun _ => 0))), (q_2, .inl (cI, 65540, .inl (fun _ => 0))), (q_3, .inl (cI, 65540, .inl (fun _ => 0))), (q_4, .inl (cI, 65540, .inl (fun _ => 0)))]) [0, 1, 2, 3, 4] (by decide) rfl
  refine lv_aload_n hx hb dn_M_init_521 rfl (lv_at hl 0 rfl) ?_
  refine lv_ldc hx hb hown (hg _ wn_8_66) dn_M_init_522 ?_
  refine xk_newB 65536 hx hb (hg _ wn_1_118) hK hP hD hS hA 1 rfl rfl (Nat.le_of_ble_eq_true rfl) (Nat.le_of_ble_eq_true rfl) (Nat.le_of_ble_eq_true rfl) dn_M_init_524 (fun q_59 H hP hD hS => ?_)
  have hP : va_P (dC, dI) xcl [(h0, .inr (0, xo_M f0)), (q_1, .inl (cB, 65536, .inl (fun _ => 0))), (q_2, .inl (cI, 65540, .inl (fun _ => 0))), (q_3, .inl (cI, 65540, .inl (fun _ => 0))), (q_4, .inl (cI, 65540, .inl (fun _ => 0))), (q_59, .inl (cB, 65536, .inl (fun _ => 0)))] H := hP
  have hD : va_D A [(h0, .inr (0, xo_M f0)), (q_1, .inl (cB, 65536, .inl (fun _ => 0))), (q_2, .inl (cI, 65540, .inl (fun _ => 0))), (q_3, .inl (cI, 65540, .inl (fun _ => 0))), (q_4, .inl (cI, 65540, .inl (fun _ => 0))), (q_59, .inl (cB, 65536, .inl (fun _ => 0)))] := hD
  refine va_putF (D := (dC, dI)) (ci := 0) (v := .ref q_59) (ty := (.array .byte)) (C := rn_M) (T := fn_M) (N := 91) hx hb hg in_M tn_M tk_M nn_M hown hK hP hD hS 0 rfl rfl 90 (by decide) (hg _ wn_8_158) (fun _ h9 => h9) rfl hin rfl (tk_M 90 (by decide)) rfl rfl (Nat.le_of_ble_eq_true rfl) dn_M_init_526 (fun H locs hP hD hS => ?_)
  have hP : va_P (dC, dI) xcl [(h0, .inr (0, xo_M (va_up f0 90 (.ref q_59)))), (q_1, .inl (cB, 65536, .inl (fun _ => 0))), (q_2, .inl (cI, 65540, .inl (fun _ => 0))), (q_3, .inl (cI, 65540, .inl (fun _ => 0))), (q_4, .inl (cI, 65540, .inl (fun _ => 0))), (q_59, .inl (cB, 65536, .inl (fun _ => 0)))] H := hP
  have hD : va_D A [(h0, .inr (0, xo_M (va_up f0 90 (.ref q_59)))), (q_1, .inl (cB, 65536, .inl (fun _ => 0))), (q_2, .inl (cI, 65540, .inl (fun _ => 0))), (q_3, .inl (cI, 65540, .inl (fun _ => 0))), (q_4, .inl (cI, 65540, .inl (fun _ => 0))), (q_59, .inl (cB, 65536, .inl (fun _ => 0)))] := hD
  have hf1 : (va_up f0 90 (.ref q_59)) 1 = .ref q_1 := hf1
  have hf4 : (va_up f0 90 (.ref q_59)) 4 = .ref q_2 := hf4
  have hf5 : (va_up f0 90 (.ref q_59)) 5 = .ref q_3 := hf5
  have hf6 : (va_up f0 90 (.ref q_59)) 6 = .ref q_4 := hf6
  have hf90 : (va_up f0 90 (.ref q_59)) 90 = .ref q_59 := rfl
  have hfk : fk_M (va_up f0 90 (.ref q_59)) := hfk
  generalize va_up f0 90 (.ref q_59) = f0 at hP hD hf1 hf4 hf5 hf6 hf90 hfk
  have hP9 := hP.sub (ws' := [(h0, .inr (0, xo_M f0)), (q_1, .inl (cB, 65536, .inl (fun _ => 0))), (q_2, .inl (cI, 65540, .inl (fun _ => 0))), (q_3, .inl (cI, 65540, .inl (fun _ => 0))), (q_4, .inl (cI, 65540, .inl (fun _ => 0))), (q_59, .inl (cB, 65536, .inl (fun _ => 0)))]) [0, 1, 2, 3, 4, 5] rfl
  have hD9 := hD.sub (ws' := [(h0, .inr (0, xo_M f0)), (q_1, .inl (cB, 65536, .inl (fun _ => 0))), (q_2, .inl (cI, 65540, .inl (fun _ => 0))), (q_3, .inl (cI, 65540, .inl (fun _ => 0))), (q_4, .inl (cI, 65540, .inl (fun _ => 0))), (q_59, .inl (cB, 65536, .inl (fun _ => 0)))]) [0, 1, 2, 3, 4, 5] (by decide) rfl
  exact xk_vret (w1 := fun u : Nat × Nat × Nat × Nat × Nat × (Nat → Value) => [(h0, .inr (0, xo_M u.2.2.2.2.2)), (u.1, .inl (cB, 65536, .inl (fun _ => 0))), (u.2.1, .inl (cI, 65540, .inl (fun _ => 0))), (u.2.2.1, .inl (cI, 65540, .inl (fun _ => 0))), (u.2.2.2.1, .inl (cI, 65540, .inl (fun _ => 0))), (u.2.2.2.2.1, .inl (cB, 65536, .inl (fun _ => 0)))]) (q_1, q_2, q_3, q_4, q_59, f0) hx hb hr hlocks hK hS dn_M_init_529 hP9 hD9 ⟨hfk, hf1, hf4, hf5, hf6, hf90⟩ (Nat.le_refl _) (Nat.le_refl _)
