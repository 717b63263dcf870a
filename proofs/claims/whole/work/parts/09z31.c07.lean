set_option maxHeartbeats 8000000 in
set_option maxRecDepth 100000 in
theorem ct_Parts_isLinked_Pc (l : Launch) (dC : Nat → ClassId) (dI : Nat → Nat → Nat) (cI cB cJ cZ cQ : ClassId) (N sz : Nat) (a : Nat → Nat) (v : Nat → Value) (v1 : Int32) (v2 : Int32) (s : ms) (y : (Int32 × ms)) (hf : fn_Parts_isLinked_Pc N v1 v2 s = some y) : Met l yn_Parts_isLinked (xw yn_Parts_isLinked bn_Parts_isLinked 4 (some .boolean)) ({ frames := 0, cells := 0, slots := 0, locals := 0 }) (dc_P (dC, dI) xcl (xt cI cB cJ cZ cQ) [.ref ((a 114)), .int v1, .int v2] sz (wC a v cI cB cJ cZ cQ s)) (xk_Qi (dC, dI) xcl (xt cI cB cJ cZ cQ) (fun (r : Int32) (_ : Unit) => r = y.1) (fun u : Unit => (wC a v cI cB cJ cZ cQ y.2)) (va_A (wC a v cI cB cJ cZ cQ s) sz)) 0 0 (va_A (wC a v cI cB cJ cZ cQ s) sz) := by
  refine dc_of (QA := xk_Qi (dC, dI) xcl (xt cI cB cJ cZ cQ) (fun (r : Int32) (_ : Unit) => r = y.1) (fun u : Unit => (wC a v cI cB cJ cZ cQ y.2))) (by decide) (Nat.le_of_ble_eq_true rfl) ?_
  intro p e s0 m below meth c hx hb hml hown hg hr hlocks hin hP hK hN A hA hD hT ls hl
  have hown : s0.vm.findClass rn_Parts = some m.cls := hown
  obtain ⟨H, hH⟩ : ∃ z, z = s0.heap := ⟨_, rfl⟩
  rw [← hH] at hP
  have hS : va_S A s0.heap H [] := by rw [hH]; exact va_S.rf
  suffices kk : ∀ QQ : State → Prop, QQ = MQ below (xk_Qi (dC, dI) xcl (xt cI cB cJ cZ cQ) (fun (r : Int32) (_ : Unit) => r = y.1) (fun u : Unit => (wC a v cI cB cJ cZ cQ y.2)) A) [.ref ((a 114)), .int v1, .int v2].toArray s0 0 0 A → dcC p l e ({ frames := 0, cells := 0, slots := 0, locals := 0 }) s0 m [.ref ((a 114)), .int v1, .int v2].toArray below meth c QQ (dC, dI) A (wC a v cI cB cJ cZ cQ s) 0 4 [(0, .ref ((a 114))), (1, .int v1), (2, .int v2)] [] by
    have k9 := kk _ rfl H [] ls hP hD hS hl
    rw [hH] at k9; exact k9
  clear hP hD hS hl hH H ls
  intro QQ hQQ
  have hd_7 : ∀ (n : Nat) (x2 : Int32) (x3 : Int32) (s : ms), hd_Parts_isLinked_Pc_7 N n x2 x3 s = some y → dcC p l e ({ frames := 0, cells := 0, slots := 0, locals := 0 }) s0 m [.ref ((a 114)), .int v1, .int v2].toArray below meth c QQ (dC, dI) A (wC a v cI cB cJ cZ cQ s) 7 4 [(0, .ref ((a 114))), (2, .int x2), (3, .int x3)] [] := by
    intro n
    induction n with
    | zero => intro x2 x3 s hf; cases hf
    | succ n ih =>
      intro x2 x3 s hf H locs ls hP hD hS hl
      have hf : bd_Parts_isLinked_Pc_7 N (hd_Parts_isLinked_Pc_7 N n) x2 x3 s = some y := hf
      have hk_7 := ih
      generalize hd_Parts_isLinked_Pc_7 N n = k_7 at hf hk_7
      unfold bd_Parts_isLinked_Pc_7 at hf
      refine lv_iload_n hx hb dn_Parts_isLinked_7 rfl (lv_at hl 2 rfl) ?_
      refine lv_aload_n hx hb dn_Parts_isLinked_8 rfl (lv_at hl 0 rfl) ?_
      refine va_get (D := (dC, dI)) (ci := 11) (v := .int ((s.1 382 0))) (C := rn_Parts) (T := fn_Parts) (N := 15) hx hb hg in_Parts hown hK hP 14 rfl rfl 11 (by decide) (hg _ wn_2_162) (fun _ h9 => h9) rfl dn_Parts_isLinked_9 ?_
      refine lv_icmp_ge (tgt := 33) hx hb dn_Parts_isLinked_12 (by decide) (fun h => ?_) (fun h => ?_)
      · have hf := (if_pos h).symm.trans hf
        refine lv_iconst (v := 0) hx hb dn_Parts_isLinked_33 (by decide) ?_
        rw [hQQ, ← Option.some.inj hf]
        exact xk_zret (w1 := fun u : Unit => (wC a v cI cB cJ cZ cQ s)) () hx hb hr rfl hlocks hK hS dn_Parts_isLinked_34 hP hD rfl (Nat.le_refl _) (Nat.le_refl _)
      · have hf := (if_neg h).symm.trans hf
        refine lv_aload_n hx hb dn_Parts_isLinked_15 rfl (lv_at hl 0 rfl) ?_
        refine va_get (D := (dC, dI)) (ci := 11) (v := .ref ((a 383))) (C := rn_Parts) (T := fn_Parts) (N := 15) hx hb hg in_Parts hown hK hP 14 rfl rfl 12 (by decide) (hg _ wn_2_164) (fun _ h9 => h9) rfl dn_Parts_isLinked_16 ?_
        refine lv_iload_n hx hb dn_Parts_isLinked_19 rfl (lv_at hl 2 rfl) ?_
        obtain ⟨hg_1, hf⟩ := dc_g hf
        refine va_iald hx hb hK hP 104 0 rfl rfl hg_1 dn_Parts_isLinked_20 ?_
        refine xk_ti (y := ((s.1 383) (Int32.toNatClampNeg x3))) rfl ?_
        refine lv_iload_n hx hb dn_Parts_isLinked_21 rfl (lv_at hl 1 rfl) ?_
        refine lv_icmp_ne (tgt := 27) hx hb dn_Parts_isLinked_22 (by decide) (fun h => ?_) (fun h => ?_)
        · have hf := (if_neg h).symm.trans hf
          refine lv_iinc (v := (x3 + 1)) (lv' := [(3, .int ((x3 + 1))), (0, .ref ((a 114))), (2, .int x2)]) hx hb dn_Parts_isLinked_27 hl (k := 2) rfl (dc_inc (by decide)) (by decide) rfl (fun ls hl => ?_)
          refine lv_goto (tgt := 7) hx hb dn_Parts_isLinked_30 (by decide) ?_
          exact hk_7 x2 ((x3 + 1)) s hf H locs ls hP hD hS (lv_sub hl [1, 2, 0] rfl)
        · have hf := (if_pos h).symm.trans hf
          refine lv_iconst (v := 1) hx hb dn_Parts_isLinked_25 (by decide) ?_
          rw [hQQ, ← Option.some.inj hf]
          exact xk_zret (w1 := fun u : Unit => (wC a v cI cB cJ cZ cQ s)) () hx hb hr rfl hlocks hK hS dn_Parts_isLinked_26 hP hD rfl (Nat.le_refl _) (Nat.le_refl _)
  intro H locs ls hP hD hS hl
  unfold fn_Parts_isLinked_Pc at hf
  refine lv_aload_n hx hb dn_Parts_isLinked_0 rfl (lv_at hl 0 rfl) ?_
  refine va_get (D := (dC, dI)) (ci := 11) (v := .ref ((a 381))) (C := rn_Parts) (T := fn_Parts) (N := 15) hx hb hg in_Parts hown hK hP 14 rfl rfl 10 (by decide) (hg _ wn_2_159) (fun _ h9 => h9) rfl dn_Parts_isLinked_1 ?_
  refine lv_iload_n hx hb dn_Parts_isLinked_4 rfl (lv_at hl 1 rfl) ?_
  obtain ⟨hg_1, hf⟩ := dc_g hf
  refine va_iald hx hb hK hP 103 0 rfl rfl hg_1 dn_Parts_isLinked_5 ?_
  refine xk_ti (y := ((s.1 381) (Int32.toNatClampNeg v1))) rfl ?_
  refine lv_istore_n (lv' := [(3, .int (((s.1 381) (Int32.toNatClampNeg v1)))), (0, .ref ((a 114))), (1, .int v1), (2, .int v2)]) hx hb dn_Parts_isLinked_6 rfl hl (by decide) rfl (fun ls hl => ?_)
  exact hd_7 N v2 (((s.1 381) (Int32.toNatClampNeg v1))) s hf H locs ls hP hD hS (lv_sub hl [1, 3, 0] rfl)
set_option maxHeartbeats 8000000 in
set_option maxRecDepth 100000 in
theorem ct_Parts_addLink_Pc (l : Launch) (dC : Nat → ClassId) (dI : Nat → Nat → Nat) (cI cB cJ cZ cQ : ClassId) (N sz : Nat) (a : Nat → Nat) (v : Nat → Value) (v1 : Int32) (s : ms) (y : (Unit × ms)) (hf : fn_Parts_addLink_Pc N v1 s = some y) : Met l yn_Parts_addLink (xw yn_Parts_addLink bn_Parts_addLink 2 none) ({ frames := 0, cells := 0, slots := 0, locals := 0 }) (dc_P (dC, dI) xcl (xt cI cB cJ cZ cQ) [.ref ((a 114)), .int v1] sz (wC a v cI cB cJ cZ cQ s)) (xk_Qv (dC, dI) xcl (xt cI cB cJ cZ cQ) (fun _ : Unit => True) (fun u : Unit => (wC a v cI cB cJ cZ cQ y.2)) (va_A (wC a v cI cB cJ cZ cQ s) sz)) 0 0 (va_A (wC a v cI cB cJ cZ cQ s) sz) := by
  refine dc_of (QA := xk_Qv (dC, dI) xcl (xt cI cB cJ cZ cQ) (fun _ : Unit => True) (fun u : Unit => (wC a v cI cB cJ cZ cQ y.2))) (by decide) (Nat.le_of_ble_eq_true rfl) ?_
  intro p e s0 m below meth c hx hb hml hown hg hr hlocks hin hP hK hN A hA hD hT ls hl
  have hown : s0.vm.findClass rn_Parts = some m.cls := hown
  obtain ⟨H, hH⟩ : ∃ z, z = s0.heap := ⟨_, rfl⟩
  rw [← hH] at hP
  have hS : va_S A s0.heap H [] := by rw [hH]; exact va_S.rf
  suffices kk : ∀ QQ : State → Prop, QQ = MQ below (xk_Qv (dC, dI) xcl (xt cI cB cJ cZ cQ) (fun _ : Unit => True) (fun u : Unit => (wC a v cI cB cJ cZ cQ y.2)) A) [.ref ((a 114)), .int v1].toArray s0 0 0 A → dcC p l e ({ frames := 0, cells := 0, slots := 0, locals := 0 }) s0 m [.ref ((a 114)), .int v1].toArray below meth c QQ (dC, dI) A (wC a v cI cB cJ cZ cQ s) 0 2 [(0, .ref ((a 114))), (1, .int v1)] [] by
    have k9 := kk _ rfl H [] ls hP hD hS hl
    rw [hH] at k9; exact k9
  clear hP hD hS hl hH H ls
  intro QQ hQQ
  intro H locs ls hP hD hS hl
  unfold fn_Parts_addLink_Pc at hf
  refine lv_aload_n hx hb dn_Parts_addLink_0 rfl (lv_at hl 0 rfl) ?_
  refine va_get (D := (dC, dI)) (ci := 11) (v := .int ((s.1 382 0))) (C := rn_Parts) (T := fn_Parts) (N := 15) hx hb hg in_Parts hown hK hP 14 rfl rfl 11 (by decide) (hg _ wn_2_162) (fun _ h9 => h9) rfl dn_Parts_addLink_1 ?_
  refine lv_sipush (v := 10923) hx hb dn_Parts_addLink_4 (by decide) ?_
  refine lv_icmp_lt (tgt := 11) hx hb dn_Parts_addLink_7 (by decide) (fun h => ?_) (fun h => ?_)
  · have hf := (if_pos h).symm.trans hf
    refine lv_aload_n hx hb dn_Parts_addLink_11 rfl (lv_at hl 0 rfl) ?_
    refine va_get (D := (dC, dI)) (ci := 11) (v := .ref ((a 383))) (C := rn_Parts) (T := fn_Parts) (N := 15) hx hb hg in_Parts hown hK hP 14 rfl rfl 12 (by decide) (hg _ wn_2_164) (fun _ h9 => h9) rfl dn_Parts_addLink_12 ?_
    refine lv_aload_n hx hb dn_Parts_addLink_15 rfl (lv_at hl 0 rfl) ?_
    refine va_get (D := (dC, dI)) (ci := 11) (v := .int ((s.1 382 0))) (C := rn_Parts) (T := fn_Parts) (N := 15) hx hb hg in_Parts hown hK hP 14 rfl rfl 11 (by decide) (hg _ wn_2_162) (fun _ h9 => h9) rfl dn_Parts_addLink_16 ?_
    refine lv_iload_n hx hb dn_Parts_addLink_19 rfl (lv_at hl 1 rfl) ?_
    obtain ⟨hg_1, hf⟩ := dc_g hf
    refine va_iast hx hb hK hP hD hS 104 0 rfl rfl hg_1 dn_Parts_addLink_20 (fun H locs hP hD hS => ?_)
    have hP : va_P (dC, dI) xcl ((wC a v cI cB cJ cZ cQ s).set 104 ((a 383), .inl (cI, 10923, .inl (upd (s.1 383) (Int32.toNatClampNeg ((s.1 382 0))) v1)))) H := hP
    have hD : va_D A ((wC a v cI cB cJ cZ cQ s).set 104 ((a 383), .inl (cI, 10923, .inl (upd (s.1 383) (Int32.toNatClampNeg ((s.1 382 0))) v1)))) := hD
    have hP := wC_P_383 hP
    have hD := wC_D_383 hD
    refine lv_aload_n hx hb dn_Parts_addLink_21 rfl (lv_at hl 0 rfl) ?_
    refine va_get (D := (dC, dI)) (ci := 11) (v := .ref ((a 384))) (C := rn_Parts) (T := fn_Parts) (N := 15) hx hb hg in_Parts hown hK hP 14 rfl rfl 13 (by decide) (hg _ wn_2_166) (fun _ h9 => h9) rfl dn_Parts_addLink_22 ?_
    refine lv_aload_n hx hb dn_Parts_addLink_25 rfl (lv_at hl 0 rfl) ?_
    refine va_get (D := (dC, dI)) (ci := 11) (v := .int ((s.1 382 0))) (C := rn_Parts) (T := fn_Parts) (N := 15) hx hb hg in_Parts hown hK hP 14 rfl rfl 11 (by decide) (hg _ wn_2_162) (fun _ h9 => h9) rfl dn_Parts_addLink_26 ?_
    refine lv_iconst (v := (-1)) hx hb dn_Parts_addLink_29 (by decide) ?_
    obtain ⟨hg_2, hf⟩ := dc_g hf
    refine va_iast hx hb hK hP hD hS 105 0 rfl rfl hg_2 dn_Parts_addLink_30 (fun H locs hP hD hS => ?_)
    have hP : va_P (dC, dI) xcl ((wC a v cI cB cJ cZ cQ (upI s 383 (upd (s.1 383) (Int32.toNatClampNeg ((s.1 382 0))) v1))).set 105 ((a 384), .inl (cI, 10923, .inl (upd (s.1 384) (Int32.toNatClampNeg ((s.1 382 0))) ((-1)))))) H := hP
    have hD : va_D A ((wC a v cI cB cJ cZ cQ (upI s 383 (upd (s.1 383) (Int32.toNatClampNeg ((s.1 382 0))) v1))).set 105 ((a 384), .inl (cI, 10923, .inl (upd (s.1 384) (Int32.toNatClampNeg ((s.1 382 0))) ((-1)))))) := hD
    have hP := wC_P_384 hP
    have hD := wC_D_384 hD
    refine lv_aload_n hx hb dn_Parts_addLink_31 rfl (lv_at hl 0 rfl) ?_
    refine va_get (D := (dC, dI)) (ci := 11) (v := .ref ((a 385))) (C := rn_Parts) (T := fn_Parts) (N := 15) hx hb hg in_Parts hown hK hP 14 rfl rfl 14 (by decide) (hg _ wn_2_169) (fun _ h9 => h9) rfl dn_Parts_addLink_32 ?_
    refine lv_aload_n hx hb dn_Parts_addLink_35 rfl (lv_at hl 0 rfl) ?_
    refine va_get (D := (dC, dI)) (ci := 11) (v := .int ((s.1 382 0))) (C := rn_Parts) (T := fn_Parts) (N := 15) hx hb hg in_Parts hown hK hP 14 rfl rfl 11 (by decide) (hg _ wn_2_162) (fun _ h9 => h9) rfl dn_Parts_addLink_36 ?_
    refine lv_iconst (v := (-1)) hx hb dn_Parts_addLink_39 (by decide) ?_
    obtain ⟨hg_3, hf⟩ := dc_g hf
    refine va_iast hx hb hK hP hD hS 106 0 rfl rfl hg_3 dn_Parts_addLink_40 (fun H locs hP hD hS => ?_)
    have hP : va_P (dC, dI) xcl ((wC a v cI cB cJ cZ cQ (upI (upI s 383 (upd (s.1 383) (Int32.toNatClampNeg ((s.1 382 0))) v1)) 384 (upd (s.1 384) (Int32.toNatClampNeg ((s.1 382 0))) ((-1))))).set 106 ((a 385), .inl (cI, 10923, .inl (upd (s.1 385) (Int32.toNatClampNeg ((s.1 382 0))) ((-1)))))) H := hP
    have hD : va_D A ((wC a v cI cB cJ cZ cQ (upI (upI s 383 (upd (s.1 383) (Int32.toNatClampNeg ((s.1 382 0))) v1)) 384 (upd (s.1 384) (Int32.toNatClampNeg ((s.1 382 0))) ((-1))))).set 106 ((a 385), .inl (cI, 10923, .inl (upd (s.1 385) (Int32.toNatClampNeg ((s.1 382 0))) ((-1)))))) := hD
    have hP := wC_P_385 hP
    have hD := wC_D_385 hD
    refine lv_aload_n hx hb dn_Parts_addLink_41 rfl (lv_at hl 0 rfl) ?_
    refine lv_dup hx hb dn_Parts_addLink_42 rfl ?_
    refine va_get (D := (dC, dI)) (ci := 11) (v := .int ((s.1 382 0))) (C := rn_Parts) (T := fn_Parts) (N := 15) hx hb hg in_Parts hown hK hP 14 rfl rfl 11 (by decide) (hg _ wn_2_162) (fun _ h9 => h9) rfl dn_Parts_addLink_43 ?_
    refine lv_iconst (v := 1) hx hb dn_Parts_addLink_46 (by decide) ?_
    refine lv_iadd hx hb dn_Parts_addLink_47 ?_
    refine va_put (D := (dC, dI)) (ci := 11) (v := .int (((s.1 382 0) + 1))) (ty := .int) (C := rn_Parts) (T := fn_Parts) (N := 15) hx hb hg in_Parts tn_Parts tk_Parts nn_Parts hown hK hP hD hS 14 rfl rfl 11 (by decide) (hg _ wn_2_162) (fun _ h9 => h9) rfl (tk_Parts 11 (by decide)) rfl rfl (Nat.le_of_ble_eq_true rfl) dn_Parts_addLink_48 (fun H locs hP hD hS => ?_)
    have hP := wC_P_382 hP
    have hD := wC_D_382 hD
    rw [hQQ, ← Option.some.inj hf]
    exact xk_vret (w1 := fun u : Unit => (wC a v cI cB cJ cZ cQ (upI (upI (upI (upI s 383 (upd (s.1 383) (Int32.toNatClampNeg ((s.1 382 0))) v1)) 384 (upd (s.1 384) (Int32.toNatClampNeg ((s.1 382 0))) ((-1)))) 385 (upd (s.1 385) (Int32.toNatClampNeg ((s.1 382 0))) ((-1)))) 382 (fun _ => ((s.1 382 0) + 1))))) () hx hb hr hlocks hK hS dn_Parts_addLink_51 hP hD trivial (Nat.le_refl _) (Nat.le_refl _)
  · have hf := (if_neg h).symm.trans hf
    rw [hQQ, ← Option.some.inj hf]
    exact xk_vret (w1 := fun u : Unit => (wC a v cI cB cJ cZ cQ s)) () hx hb hr hlocks hK hS dn_Parts_addLink_10 hP hD trivial (Nat.le_refl _) (Nat.le_refl _)
set_option maxHeartbeats 8000000 in
set_option maxRecDepth 100000 in
theorem ct_Meaning_storeTo_Me (l : Launch) (dC : Nat → ClassId) (dI : Nat → Nat → Nat) (cI cB cJ cZ cQ : ClassId) (N sz : Nat) (a : Nat → Nat) (v : Nat → Value) (hv_2 : v 2 = .ref (a 110)) (hv_5 : v 5 = .ref (a 110)) (v1 : Int32) (v2 : Int32) (s : ms) (y : (Unit × ms)) (hf : fn_Meaning_storeTo_Me N v1 v2 s = some y) : Met l yn_Meaning_storeTo (xw yn_Meaning_storeTo bn_Meaning_storeTo 4 none) ({ frames := 1, cells := 0, slots := 0, locals := 22 }) (dc_P (dC, dI) xcl (xt cI cB cJ cZ cQ) [.ref ((a 104)), .int v1, .int v2] sz (wC a v cI cB cJ cZ cQ s)) (xk_Qv (dC, dI) xcl (xt cI cB cJ cZ cQ) (fun _ : Unit => True) (fun u : Unit => (wC a v cI cB cJ cZ cQ y.2)) (va_A (wC a v cI cB cJ cZ cQ s) sz)) 0 0 (va_A (wC a v cI cB cJ cZ cQ s) sz) := by
  refine dc_of (QA := xk_Qv (dC, dI) xcl (xt cI cB cJ cZ cQ) (fun _ : Unit => True) (fun u : Unit => (wC a v cI cB cJ cZ cQ y.2))) (by decide) (Nat.le_of_ble_eq_true rfl) ?_
  intro p e s0 m below meth c hx hb hml hown hg hr hlocks hin hP hK hN A hA hD hT ls hl
  have hown : s0.vm.findClass rn_Meaning = some m.cls := hown
  obtain ⟨H, hH⟩ : ∃ z, z = s0.heap := ⟨_, rfl⟩
  rw [← hH] at hP
  have hS : va_S A s0.heap H [] := by rw [hH]; exact va_S.rf
  suffices kk : ∀ QQ : State → Prop, QQ = MQ below (xk_Qv (dC, dI) xcl (xt cI cB cJ cZ cQ) (fun _ : Unit => True) (fun u : Unit => (wC a v cI cB cJ cZ cQ y.2)) A) [.ref ((a 104)), .int v1, .int v2].toArray s0 0 0 A → dcC p l e ({ frames := 1, cells := 0, slots := 0, locals := 22 }) s0 m [.ref ((a 104)), .int v1, .int v2].toArray below meth c QQ (dC, dI) A (wC a v cI cB cJ cZ cQ s) 0 4 [(0, .ref ((a 104))), (1, .int v1), (2, .int v2)] [] by
    have k9 := kk _ rfl H [] ls hP hD hS hl
    rw [hH] at k9; exact k9
  clear hP hD hS hl hH H ls
  intro QQ hQQ
  have bl_87 : ∀ (x3 : Int32) (s : ms), bk_Meaning_storeTo_Me_87 N x3 s = some y → dcC p l e ({ frames := 1, cells := 0, slots := 0, locals := 22 }) s0 m [.ref ((a 104)), .int v1, .int v2].toArray below meth c QQ (dC, dI) A (wC a v cI cB cJ cZ cQ s) 87 4 [(0, .ref ((a 104))), (3, .int x3)] [] := by
    intro x3 s hf H locs ls hP hD hS hl
    unfold bk_Meaning_storeTo_Me_87 at hf
    refine lv_aload_n hx hb dn_Meaning_storeTo_87 rfl (lv_at hl 0 rfl) ?_
    refine va_get (D := (dC, dI)) (ci := 5) (v := .ref ((a 110))) (C := rn_Meaning) (T := fn_Meaning) (N := 17) hx hb hg in_Meaning hown hK hP 4 rfl rfl 2 (by decide) (hg _ wn_1_186) (fun _ h9 => h9) (congrArg some hv_5) dn_Meaning_storeTo_88 ?_
    refine va_get (D := (dC, dI)) (ci := 11) (v := .ref ((a 326))) (C := rn_Parts) (T := fn_Parts) (N := 15) hx hb hg in_Parts hown hK hP 10 rfl rfl 5 (by decide) (hg _ wn_2_145) (fun _ h9 => h9) rfl dn_Meaning_storeTo_91 ?_
    refine lv_iload_n hx hb dn_Meaning_storeTo_94 rfl (lv_at hl 1 rfl) ?_
    refine lv_aload_n hx hb dn_Meaning_storeTo_95 rfl (lv_at hl 0 rfl) ?_
    refine va_get (D := (dC, dI)) (ci := 5) (v := .int ((s.1 253 0))) (C := rn_Meaning) (T := fn_Meaning) (N := 17) hx hb hg in_Meaning hown hK hP 4 rfl rfl 9 (by decide) (hg _ wn_1_193) (fun _ h9 => h9) rfl dn_Meaning_storeTo_96 ?_
    obtain ⟨hg_1, hf⟩ := dc_g hf
    refine va_iast hx hb hK hP hD hS 65 0 rfl rfl hg_1 dn_Meaning_storeTo_99 (fun H locs hP hD hS => ?_)
    have hP : va_P (dC, dI) xcl ((wC a v cI cB cJ cZ cQ s).set 65 ((a 326), .inl (cI, 10923, .inl (upd (s.1 326) (Int32.toNatClampNeg x3) ((s.1 253 0)))))) H := hP
    have hD : va_D A ((wC a v cI cB cJ cZ cQ s).set 65 ((a 326), .inl (cI, 10923, .inl (upd (s.1 326) (Int32.toNatClampNeg x3) ((s.1 253 0)))))) := hD
    have hP := wC_P_326 hP
    have hD := wC_D_326 hD
    refine lv_aload_n hx hb dn_Meaning_storeTo_100 rfl (lv_at hl 0 rfl) ?_
    refine lv_iload_n hx hb dn_Meaning_storeTo_101 rfl (lv_at hl 1 rfl) ?_
    refine va_put (D := (dC, dI)) (ci := 5) (v := .int x3) (ty := .int) (C := rn_Meaning) (T := fn_Meaning) (N := 17) hx hb hg in_Meaning tn_Meaning tk_Meaning nn_Meaning hown hK hP hD hS 4 rfl rfl 5 (by decide) (hg _ wn_1_189) (fun _ h9 => h9) rfl (tk_Meaning 5 (by decide)) rfl rfl (Nat.le_of_ble_eq_true rfl) dn_Meaning_storeTo_102 (fun H locs hP hD hS => ?_)
    have hP := wC_P_249 hP
    have hD := wC_D_249 hD
    refine lv_aload_n hx hb dn_Meaning_storeTo_105 rfl (lv_at hl 0 rfl) ?_
    refine lv_iconst (v := 0) hx hb dn_Meaning_storeTo_106 (by decide) ?_
    refine va_put (D := (dC, dI)) (ci := 5) (v := .int 0) (ty := .int) (C := rn_Meaning) (T := fn_Meaning) (N := 17) hx hb hg in_Meaning tn_Meaning tk_Meaning nn_Meaning hown hK hP hD hS 4 rfl rfl 6 (by decide) (hg _ wn_1_190) (fun _ h9 => h9) rfl (tk_Meaning 6 (by decide)) rfl rfl (Nat.le_of_ble_eq_true rfl) dn_Meaning_storeTo_107 (fun H locs hP hD hS => ?_)
    have hP := wC_P_250 hP
    have hD := wC_D_250 hD
    refine lv_aload_n hx hb dn_Meaning_storeTo_110 rfl (lv_at hl 0 rfl) ?_
    refine lv_aload_n hx hb dn_Meaning_storeTo_111 rfl (lv_at hl 0 rfl) ?_
    refine va_get (D := (dC, dI)) (ci := 5) (v := .ref ((a 110))) (C := rn_Meaning) (T := fn_Meaning) (N := 17) hx hb hg in_Meaning hown hK hP 4 rfl rfl 2 (by decide) (hg _ wn_1_186) (fun _ h9 => h9) (congrArg some hv_5) dn_Meaning_storeTo_112 ?_
    refine va_get (D := (dC, dI)) (ci := 11) (v := .ref ((a 323))) (C := rn_Parts) (T := fn_Parts) (N := 15) hx hb hg in_Parts hown hK hP 10 rfl rfl 2 (by decide) (hg _ wn_2_131) (fun _ h9 => h9) rfl dn_Meaning_storeTo_115 ?_
    refine lv_iload_n hx hb dn_Meaning_storeTo_118 rfl (lv_at hl 1 rfl) ?_
    obtain ⟨hg_2, hf⟩ := dc_g hf
    refine va_iald hx hb hK hP 62 0 rfl rfl hg_2 dn_Meaning_storeTo_119 ?_
    refine xk_ti (y := ((s.1 323) (Int32.toNatClampNeg x3))) rfl ?_
    refine va_put (D := (dC, dI)) (ci := 5) (v := .int (((s.1 323) (Int32.toNatClampNeg x3)))) (ty := .int) (C := rn_Meaning) (T := fn_Meaning) (N := 17) hx hb hg in_Meaning tn_Meaning tk_Meaning nn_Meaning hown hK hP hD hS 4 rfl rfl 7 (by decide) (hg _ wn_1_191) (fun _ h9 => h9) rfl (tk_Meaning 7 (by decide)) rfl rfl (Nat.le_of_ble_eq_true rfl) dn_Meaning_storeTo_120 (fun H locs hP hD hS => ?_)
    have hP := wC_P_251 hP
    have hD := wC_D_251 hD
    rw [hQQ, ← Option.some.inj hf]
    exact xk_vret (w1 := fun u : Unit => (wC a v cI cB cJ cZ cQ (upI (upI (upI (upI s 326 (upd (s.1 326) (Int32.toNatClampNeg x3) ((s.1 253 0)))) 249 (fun _ => x3)) 250 (fun _ => 0)) 251 (fun _ => ((s.1 323) (Int32.toNatClampNeg x3)))))) () hx hb hr hlocks hK hS dn_Meaning_storeTo_123 hP hD trivial (Nat.le_refl _) (Nat.le_refl _)
  intro H locs ls hP hD hS hl
  unfold fn_Meaning_storeTo_Me at hf
  refine lv_aload_n hx hb dn_Meaning_storeTo_0 rfl (lv_at hl 0 rfl) ?_
  refine va_get (D := (dC, dI)) (ci := 5) (v := .ref ((a 103))) (C := rn_Meaning) (T := fn_Meaning) (N := 17) hx hb hg in_Meaning hown hK hP 4 rfl rfl 0 (by decide) (hg _ wn_1_184) (fun _ h9 => h9) rfl dn_Meaning_storeTo_1 ?_
  obtain ⟨q_1, hc_2, hf⟩ := dc_b hf
  refine dc_calli (dc_runV (ar := 0) (As := []) (rest := []) (ci := 4) (q0 := 3) ⟨hx, hb, hml, hown, hg⟩ hK hN hT hS hA (ct_Checker_isOff_Ch l dC dI cI cB cJ cZ cQ N H.size a v s q_1 hc_2) hP hD rfl rfl wn_4_193 wn_4_194 wn_4_195 wn_1_4 wn_4_196 rfl rfl (by decide +kernel) ⟨Nat.le_of_ble_eq_true rfl, Nat.le_of_ble_eq_true rfl⟩ rfl hl.1 rfl (Nat.le_of_ble_eq_true rfl) dn_Meaning_storeTo_4 ⟨Nat.le_of_ble_eq_true rfl, Nat.le_of_ble_eq_true rfl⟩) hP hD hS hA (fun r_3 _ H locs hw hP hD hS => ?_)
  have hw : r_3 = q_1.1 := hw
  subst hw
  refine lv_if_eq (tgt := 11) hx hb dn_Meaning_storeTo_7 (by decide) (fun h => ?_) (fun h => ?_)
  · have hf := (if_pos h).symm.trans hf
    refine lv_aload_n hx hb dn_Meaning_storeTo_11 rfl (lv_at hl 0 rfl) ?_
    refine va_get (D := (dC, dI)) (ci := 5) (v := .ref ((a 103))) (C := rn_Meaning) (T := fn_Meaning) (N := 17) hx hb hg in_Meaning hown hK hP 4 rfl rfl 0 (by decide) (hg _ wn_1_184) (fun _ h9 => h9) rfl dn_Meaning_storeTo_12 ?_
    refine lv_iload_n hx hb dn_Meaning_storeTo_15 rfl (lv_at hl 1 rfl) ?_
    obtain ⟨q_4, hc_5, hf⟩ := dc_b hf
    refine dc_calli (dc_runV (ar := 1) (As := [.int v1]) (rest := []) (ci := 4) (q0 := 3) ⟨hx, hb, hml, hown, hg⟩ hK hN hT hS hA (ct_Checker_meantBy_Ch l dC dI cI cB cJ cZ cQ N H.size a v v1 q_1.2 q_4 hc_5) hP hD rfl rfl wn_4_238 wn_4_239 wn_5_0 wn_1_4 wn_5_1 rfl rfl (by decide +kernel) ⟨Nat.le_of_ble_eq_true rfl, Nat.le_of_ble_eq_true rfl⟩ rfl hl.1 rfl (Nat.le_of_ble_eq_true rfl) dn_Meaning_storeTo_16 ⟨Nat.le_of_ble_eq_true rfl, Nat.le_of_ble_eq_true rfl⟩) hP hD hS hA (fun r_6 _ H locs hw hP hD hS => ?_)
    have hw : r_6 = q_4.1 := hw
    subst hw
    refine lv_istore_n (lv' := [(3, .int q_4.1), (0, .ref ((a 104))), (1, .int v1), (2, .int v2)]) hx hb dn_Meaning_storeTo_19 rfl hl (by decide) rfl (fun ls hl => ?_)
    refine lv_aload_n hx hb dn_Meaning_storeTo_20 rfl (lv_at hl 1 rfl) ?_
    refine va_get (D := (dC, dI)) (ci := 5) (v := .ref ((a 103))) (C := rn_Meaning) (T := fn_Meaning) (N := 17) hx hb hg in_Meaning hown hK hP 4 rfl rfl 0 (by decide) (hg _ wn_1_184) (fun _ h9 => h9) rfl dn_Meaning_storeTo_21 ?_
    refine lv_iload_n hx hb dn_Meaning_storeTo_24 rfl (lv_at hl 0 rfl) ?_
    obtain ⟨q_7, hc_8, hf⟩ := dc_b hf
    refine dc_calli (dc_runV (ar := 1) (As := [.int q_4.1]) (rest := []) (ci := 4) (q0 := 3) ⟨hx, hb, hml, hown, hg⟩ hK hN hT hS hA (ct_Checker_sortOf_Ch l dC dI cI cB cJ cZ cQ N H.size a v hv_2 q_4.1 q_4.2 q_7 hc_8) hP hD rfl rfl wn_5_42 wn_5_43 wn_5_44 wn_1_4 wn_5_45 rfl rfl (by decide +kernel) ⟨Nat.le_of_ble_eq_true rfl, Nat.le_of_ble_eq_true rfl⟩ rfl hl.1 rfl (Nat.le_of_ble_eq_true rfl) dn_Meaning_storeTo_25 ⟨Nat.le_of_ble_eq_true rfl, Nat.le_of_ble_eq_true rfl⟩) hP hD hS hA (fun r_9 _ H locs hw hP hD hS => ?_)
    have hw : r_9 = q_7.1 := hw
    subst hw
    refine lv_iconst (v := 2) hx hb dn_Meaning_storeTo_28 (by decide) ?_
    refine lv_icmp_eq (tgt := 45) hx hb dn_Meaning_storeTo_29 (by decide) (fun h => ?_) (fun h => ?_)
    · have hf := (if_pos h).symm.trans hf
      refine lv_aload_n hx hb dn_Meaning_storeTo_45 rfl (lv_at hl 1 rfl) ?_
      refine va_get (D := (dC, dI)) (ci := 5) (v := .ref ((a 110))) (C := rn_Meaning) (T := fn_Meaning) (N := 17) hx hb hg in_Meaning hown hK hP 4 rfl rfl 2 (by decide) (hg _ wn_1_186) (fun _ h9 => h9) (congrArg some hv_5) dn_Meaning_storeTo_46 ?_
      refine va_get (D := (dC, dI)) (ci := 11) (v := .ref ((a 326))) (C := rn_Parts) (T := fn_Parts) (N := 15) hx hb hg in_Parts hown hK hP 10 rfl rfl 5 (by decide) (hg _ wn_2_145) (fun _ h9 => h9) rfl dn_Meaning_storeTo_49 ?_
      refine lv_iload_n hx hb dn_Meaning_storeTo_52 rfl (lv_at hl 0 rfl) ?_
      obtain ⟨hg_10, hf⟩ := dc_g hf
      refine va_iald hx hb hK hP 65 0 rfl rfl hg_10 dn_Meaning_storeTo_53 ?_
      refine xk_ti (y := ((q_7.2.1 326) (Int32.toNatClampNeg q_4.1))) rfl ?_
      refine lv_iconst (v := (-1)) hx hb dn_Meaning_storeTo_54 (by decide) ?_
      refine lv_icmp_eq (tgt := 87) hx hb dn_Meaning_storeTo_55 (by decide) (fun h => ?_) (fun h => ?_)
      · have hf := (if_pos h).symm.trans hf
        exact bl_87 q_4.1 q_7.2 hf H locs ls hP hD hS (lv_sub hl [1, 0] rfl)
      · have hf := (if_neg h).symm.trans hf
        refine lv_aload_n hx hb dn_Meaning_storeTo_58 rfl (lv_at hl 1 rfl) ?_
        refine va_get (D := (dC, dI)) (ci := 5) (v := .ref ((a 110))) (C := rn_Meaning) (T := fn_Meaning) (N := 17) hx hb hg in_Meaning hown hK hP 4 rfl rfl 2 (by decide) (hg _ wn_1_186) (fun _ h9 => h9) (congrArg some hv_5) dn_Meaning_storeTo_59 ?_
        refine va_get (D := (dC, dI)) (ci := 11) (v := .ref ((a 326))) (C := rn_Parts) (T := fn_Parts) (N := 15) hx hb hg in_Parts hown hK hP 10 rfl rfl 5 (by decide) (hg _ wn_2_145) (fun _ h9 => h9) rfl dn_Meaning_storeTo_62 ?_
        refine lv_iload_n hx hb dn_Meaning_storeTo_65 rfl (lv_at hl 0 rfl) ?_
        obtain ⟨hg_11, hf⟩ := dc_g hf
        refine va_iald hx hb hK hP 65 0 rfl rfl hg_11 dn_Meaning_storeTo_66 ?_
        refine xk_ti (y := ((q_7.2.1 326) (Int32.toNatClampNeg q_4.1))) rfl ?_
        refine lv_aload_n hx hb dn_Meaning_storeTo_67 rfl (lv_at hl 1 rfl) ?_
        refine va_get (D := (dC, dI)) (ci := 5) (v := .int ((q_7.2.1 253 0))) (C := rn_Meaning) (T := fn_Meaning) (N := 17) hx hb hg in_Meaning hown hK hP 4 rfl rfl 9 (by decide) (hg _ wn_1_193) (fun _ h9 => h9) rfl dn_Meaning_storeTo_68 ?_
        refine lv_icmp_eq (tgt := 87) hx hb dn_Meaning_storeTo_71 (by decide) (fun h => ?_) (fun h => ?_)
        · have hf := (if_pos h).symm.trans hf
          exact bl_87 q_4.1 q_7.2 hf H locs ls hP hD hS (lv_sub hl [1, 0] rfl)
        · have hf := (if_neg h).symm.trans hf
          refine lv_aload_n hx hb dn_Meaning_storeTo_74 rfl (lv_at hl 1 rfl) ?_
          refine va_get (D := (dC, dI)) (ci := 5) (v := .ref ((a 103))) (C := rn_Meaning) (T := fn_Meaning) (N := 17) hx hb hg in_Meaning hown hK hP 4 rfl rfl 0 (by decide) (hg _ wn_1_184) (fun _ h9 => h9) rfl dn_Meaning_storeTo_75 ?_
          refine lv_bipush (v := 32) hx hb dn_Meaning_storeTo_78 (by decide) ?_
          refine lv_iload_n hx hb dn_Meaning_storeTo_80 rfl (lv_at hl 3 rfl) ?_
          obtain ⟨q_12, hc_13, hf⟩ := dc_b hf
          refine dc_callv (dc_runV (ar := 2) (As := [.int 32, .int v2]) (rest := []) (ci := 4) (q0 := 3) ⟨hx, hb, hml, hown, hg⟩ hK hN hT hS hA (ct_Checker_refuse_Ch l dC dI cI cB cJ cZ cQ N H.size a v 32 v2 q_7.2 q_12 hc_13) hP hD rfl rfl wn_4_201 wn_4_202 wn_4_203 wn_1_4 wn_4_204 rfl rfl (by decide +kernel) ⟨Nat.le_of_ble_eq_true rfl, Nat.le_of_ble_eq_true rfl⟩ rfl hl.1 rfl (Nat.le_of_ble_eq_true rfl) dn_Meaning_storeTo_81 ⟨Nat.le_of_ble_eq_true rfl, Nat.le_of_ble_eq_true rfl⟩) hP hD hS hA (fun _ H locs hw hP hD hS => ?_)
          refine lv_goto (tgt := 123) hx hb dn_Meaning_storeTo_84 (by decide) ?_
          rw [hQQ, ← Option.some.inj hf]
          exact xk_vret (w1 := fun u : Unit => (wC a v cI cB cJ cZ cQ q_12.2)) () hx hb hr hlocks hK hS dn_Meaning_storeTo_123 hP hD trivial (Nat.le_refl _) (Nat.le_refl _)
    · have hf := (if_neg h).symm.trans hf
      refine lv_aload_n hx hb dn_Meaning_storeTo_32 rfl (lv_at hl 1 rfl) ?_
      refine va_get (D := (dC, dI)) (ci := 5) (v := .ref ((a 103))) (C := rn_Meaning) (T := fn_Meaning) (N := 17) hx hb hg in_Meaning hown hK hP 4 rfl rfl 0 (by decide) (hg _ wn_1_184) (fun _ h9 => h9) rfl dn_Meaning_storeTo_33 ?_
      refine lv_bipush (v := 22) hx hb dn_Meaning_storeTo_36 (by decide) ?_
      refine lv_iload_n hx hb dn_Meaning_storeTo_38 rfl (lv_at hl 3 rfl) ?_
      obtain ⟨q_10, hc_11, hf⟩ := dc_b hf
      refine dc_callv (dc_runV (ar := 2) (As := [.int 22, .int v2]) (rest := []) (ci := 4) (q0 := 3) ⟨hx, hb, hml, hown, hg⟩ hK hN hT hS hA (ct_Checker_refuse_Ch l dC dI cI cB cJ cZ cQ N H.size a v 22 v2 q_7.2 q_10 hc_11) hP hD rfl rfl wn_4_201 wn_4_202 wn_4_203 wn_1_4 wn_4_204 rfl rfl (by decide +kernel) ⟨Nat.le_of_ble_eq_true rfl, Nat.le_of_ble_eq_true rfl⟩ rfl hl.1 rfl (Nat.le_of_ble_eq_true rfl) dn_Meaning_storeTo_39 ⟨Nat.le_of_ble_eq_true rfl, Nat.le_of_ble_eq_true rfl⟩) hP hD hS hA (fun _ H locs hw hP hD hS => ?_)
      refine lv_goto (tgt := 123) hx hb dn_Meaning_storeTo_42 (by decide) ?_
      rw [hQQ, ← Option.some.inj hf]
      exact xk_vret (w1 := fun u : Unit => (wC a v cI cB cJ cZ cQ q_10.2)) () hx hb hr hlocks hK hS dn_Meaning_storeTo_123 hP hD trivial (Nat.le_refl _) (Nat.le_refl _)
  · have hf := (if_neg h).symm.trans hf
    rw [hQQ, ← Option.some.inj hf]
    exact xk_vret (w1 := fun u : Unit => (wC a v cI cB cJ cZ cQ q_1.2)) () hx hb hr hlocks hK hS dn_Meaning_storeTo_10 hP hD trivial (Nat.le_refl _) (Nat.le_refl _)
set_option maxHeartbeats 8000000 in
set_option maxRecDepth 100000 in
theorem ct_Grammar_part_Gr (l : Launch) (dC : Nat → ClassId) (dI : Nat → Nat → Nat) (cI cB cJ cZ cQ : ClassId) (N sz : Nat) (a : Nat → Nat) (v : Nat → Value) (s : ms) (y : (Int32 × ms)) (hf : fn_Grammar_part_Gr N s = some y) : Met l yn_Grammar_part (xw yn_Grammar_part bn_Grammar_part 3 (some .int)) ({ frames := 3, cells := 0, slots := 0, locals := 62 }) (dc_P (dC, dI) xcl (xt cI cB cJ cZ cQ) [.ref ((a 105))] sz (wC a v cI cB cJ cZ cQ s)) (xk_Qi (dC, dI) xcl (xt cI cB cJ cZ cQ) (fun (r : Int32) (_ : Unit) => r = y.1) (fun u : Unit => (wC a v cI cB cJ cZ cQ y.2)) (va_A (wC a v cI cB cJ cZ cQ s) sz)) 0 0 (va_A (wC a v cI cB cJ cZ cQ s) sz) := by
  refine dc_of (QA := xk_Qi (dC, dI) xcl (xt cI cB cJ cZ cQ) (fun (r : Int32) (_ : Unit) => r = y.1) (fun u : Unit => (wC a v cI cB cJ cZ cQ y.2))) (by decide) (Nat.le_of_ble_eq_true rfl) ?_
  intro p e s0 m below meth c hx hb hml hown hg hr hlocks hin hP hK hN A hA hD hT ls hl
  have hown : s0.vm.findClass rn_Grammar = some m.cls := hown
  obtain ⟨H, hH⟩ : ∃ z, z = s0.heap := ⟨_, rfl⟩
  rw [← hH] at hP
  have hS : va_S A s0.heap H [] := by rw [hH]; exact va_S.rf
  suffices kk : ∀ QQ : State → Prop, QQ = MQ below (xk_Qi (dC, dI) xcl (xt cI cB cJ cZ cQ) (fun (r : Int32) (_ : Unit) => r = y.1) (fun u : Unit => (wC a v cI cB cJ cZ cQ y.2)) A) [.ref ((a 105))].toArray s0 0 0 A → dcC p l e ({ frames := 3, cells := 0, slots := 0, locals := 62 }) s0 m [.ref ((a 105))].toArray below meth c QQ (dC, dI) A (wC a v cI cB cJ cZ cQ s) 0 3 [(0, .ref ((a 105)))] [] by
    have k9 := kk _ rfl H [] ls hP hD hS hl
    rw [hH] at k9; exact k9
  clear hP hD hS hl hH H ls
  intro QQ hQQ
  have bl_53 : ∀ (x1 : Int32) (x2 : Int32) (s : ms), bk_Grammar_part_Gr_53 N x1 x2 s = some y → dcC p l e ({ frames := 3, cells := 0, slots := 0, locals := 62 }) s0 m [.ref ((a 105))].toArray below meth c QQ (dC, dI) A (wC a v cI cB cJ cZ cQ s) 53 3 [(0, .ref ((a 105))), (1, .int x1), (2, .int x2)] [] := by
    intro x1 x2 s hf H locs ls hP hD hS hl
    unfold bk_Grammar_part_Gr_53 at hf
    refine lv_aload_n hx hb dn_Grammar_part_53 rfl (lv_at hl 0 rfl) ?_
    refine va_get (D := (dC, dI)) (ci := 6) (v := .ref ((a 101))) (C := rn_Grammar) (T := fn_Grammar) (N := 15) hx hb hg in_Grammar hown hK hP 5 rfl rfl 0 (by decide) (hg _ wn_2_0) (fun _ h9 => h9) rfl dn_Grammar_part_54 ?_
    refine lv_bipush (v := 93) hx hb dn_Grammar_part_57 (by decide) ?_
    obtain ⟨q_1, hc_2, hf⟩ := dc_b hf
    refine dc_callv (dc_runV (ar := 1) (As := [.int 93]) (rest := []) (ci := 2) (q0 := 1) ⟨hx, hb, hml, hown, hg⟩ hK hN hT hS hA (ct_Tokens_shut_Tk l dC dI cI cB cJ cZ cQ N H.size a v 93 s q_1 hc_2) hP hD rfl rfl wn_4_226 wn_4_227 wn_4_228 wn_1_2 wn_4_229 rfl rfl (by decide +kernel) ⟨Nat.le_of_ble_eq_true rfl, Nat.le_of_ble_eq_true rfl⟩ rfl hl.1 rfl (Nat.le_of_ble_eq_true rfl) dn_Grammar_part_59 ⟨Nat.le_of_ble_eq_true rfl, Nat.le_of_ble_eq_true rfl⟩) hP hD hS hA (fun _ H locs hw hP hD hS => ?_)
    refine lv_iload_n hx hb dn_Grammar_part_62 rfl (lv_at hl 1 rfl) ?_
    refine lv_bipush (v := 16) hx hb dn_Grammar_part_63 (by decide) ?_
    refine lv_ishl hx hb dn_Grammar_part_65 ?_
    refine lv_iload_n hx hb dn_Grammar_part_66 rfl (lv_at hl 2 rfl) ?_
    refine lv_ldc hx hb hown (hg _ wn_5_165) dn_Grammar_part_67 ?_
    refine lv_iand hx hb dn_Grammar_part_69 ?_
    refine lv_ior hx hb dn_Grammar_part_70 ?_
    rw [hQQ, ← Option.some.inj hf]
    exact xk_iret (w1 := fun u : Unit => (wC a v cI cB cJ cZ cQ q_1.2)) () hx hb hr hlocks hK hS dn_Grammar_part_71 hP hD rfl (Nat.le_refl _) (Nat.le_refl _)
  intro H locs ls hP hD hS hl
  unfold fn_Grammar_part_Gr at hf
  refine lv_aload_n hx hb dn_Grammar_part_0 rfl (lv_at hl 0 rfl) ?_
  refine va_get (D := (dC, dI)) (ci := 6) (v := .ref ((a 101))) (C := rn_Grammar) (T := fn_Grammar) (N := 15) hx hb hg in_Grammar hown hK hP 5 rfl rfl 0 (by decide) (hg _ wn_2_0) (fun _ h9 => h9) rfl dn_Grammar_part_1 ?_
  refine va_get (D := (dC, dI)) (ci := 2) (v := .int ((s.1 216 0))) (C := rn_Tokens) (T := fn_Tokens) (N := 9) hx hb hg in_Tokens hown hK hP 1 rfl rfl 5 (by decide) (hg _ wn_1_54) (fun _ h9 => h9) rfl dn_Grammar_part_4 ?_
  refine lv_istore_n (lv' := [(1, .int ((s.1 216 0))), (0, .ref ((a 105)))]) hx hb dn_Grammar_part_7 rfl hl (by decide) rfl (fun ls hl => ?_)
  refine lv_aload_n hx hb dn_Grammar_part_8 rfl (lv_at hl 1 rfl) ?_
  refine va_get (D := (dC, dI)) (ci := 6) (v := .ref ((a 101))) (C := rn_Grammar) (T := fn_Grammar) (N := 15) hx hb hg in_Grammar hown hK hP 5 rfl rfl 0 (by decide) (hg _ wn_2_0) (fun _ h9 => h9) rfl dn_Grammar_part_9 ?_
  refine lv_iconst (v := 3) hx hb dn_Grammar_part_12 (by decide) ?_
  obtain ⟨q_1, hc_2, hf⟩ := dc_b hf
  refine dc_callv (dc_runV (ar := 1) (As := [.int 3]) (rest := []) (ci := 2) (q0 := 1) ⟨hx, hb, hml, hown, hg⟩ hK hN hT hS hA (ct_Tokens_need_Tk l dC dI cI cB cJ cZ cQ N H.size a v 3 s q_1 hc_2) hP hD rfl rfl wn_4_173 wn_4_174 wn_4_175 wn_1_2 wn_4_176 rfl rfl (by decide +kernel) ⟨Nat.le_of_ble_eq_true rfl, Nat.le_of_ble_eq_true rfl⟩ rfl hl.1 rfl (Nat.le_of_ble_eq_true rfl) dn_Grammar_part_13 ⟨Nat.le_of_ble_eq_true rfl, Nat.le_of_ble_eq_true rfl⟩) hP hD hS hA (fun _ H locs hw hP hD hS => ?_)
  refine lv_iload_n hx hb dn_Grammar_part_16 rfl (lv_at hl 0 rfl) ?_
  refine lv_istore_n (lv' := [(2, .int ((s.1 216 0))), (1, .int ((s.1 216 0))), (0, .ref ((a 105)))]) hx hb dn_Grammar_part_17 rfl hl (by decide) rfl (fun ls hl => ?_)
  refine lv_aload_n hx hb dn_Grammar_part_18 rfl (lv_at hl 2 rfl) ?_
  refine va_get (D := (dC, dI)) (ci := 6) (v := .ref ((a 101))) (C := rn_Grammar) (T := fn_Grammar) (N := 15) hx hb hg in_Grammar hown hK hP 5 rfl rfl 0 (by decide) (hg _ wn_2_0) (fun _ h9 => h9) rfl dn_Grammar_part_19 ?_
  refine va_get (D := (dC, dI)) (ci := 2) (v := .int ((q_1.2.1 214 0))) (C := rn_Tokens) (T := fn_Tokens) (N := 9) hx hb hg in_Tokens hown hK hP 1 rfl rfl 3 (by decide) (hg _ wn_1_50) (fun _ h9 => h9) rfl dn_Grammar_part_22 ?_
  refine lv_bipush (v := 58) hx hb dn_Grammar_part_25 (by decide) ?_
  refine lv_icmp_ne (tgt := 53) hx hb dn_Grammar_part_27 (by decide) (fun h => ?_) (fun h => ?_)
  · have hf := (if_neg h).symm.trans hf
    exact bl_53 ((s.1 216 0)) ((s.1 216 0)) q_1.2 hf H locs ls hP hD hS (lv_sub hl [2, 1, 0] rfl)
  · have hf := (if_pos h).symm.trans hf
    refine lv_aload_n hx hb dn_Grammar_part_30 rfl (lv_at hl 2 rfl) ?_
    refine va_get (D := (dC, dI)) (ci := 6) (v := .ref ((a 101))) (C := rn_Grammar) (T := fn_Grammar) (N := 15) hx hb hg in_Grammar hown hK hP 5 rfl rfl 0 (by decide) (hg _ wn_2_0) (fun _ h9 => h9) rfl dn_Grammar_part_31 ?_
    obtain ⟨q_3, hc_4, hf⟩ := dc_b hf
    refine dc_callv (dc_runV (ar := 0) (As := []) (rest := []) (ci := 2) (q0 := 1) ⟨hx, hb, hml, hown, hg⟩ hK hN hT hS hA (ct_Tokens_take_Tk l dC dI cI cB cJ cZ cQ N H.size a v q_1.2 q_3 hc_4) hP hD rfl rfl wn_4_213 wn_4_149 wn_4_150 wn_1_2 wn_4_151 rfl rfl (by decide +kernel) ⟨Nat.le_of_ble_eq_true rfl, Nat.le_of_ble_eq_true rfl⟩ rfl hl.1 rfl (Nat.le_of_ble_eq_true rfl) dn_Grammar_part_34 ⟨Nat.le_of_ble_eq_true rfl, Nat.le_of_ble_eq_true rfl⟩) hP hD hS hA (fun _ H locs hw hP hD hS => ?_)
    refine lv_aload_n hx hb dn_Grammar_part_37 rfl (lv_at hl 2 rfl) ?_
    refine va_get (D := (dC, dI)) (ci := 6) (v := .ref ((a 101))) (C := rn_Grammar) (T := fn_Grammar) (N := 15) hx hb hg in_Grammar hown hK hP 5 rfl rfl 0 (by decide) (hg _ wn_2_0) (fun _ h9 => h9) rfl dn_Grammar_part_38 ?_
    refine va_get (D := (dC, dI)) (ci := 2) (v := .int ((q_3.2.1 216 0))) (C := rn_Tokens) (T := fn_Tokens) (N := 9) hx hb hg in_Tokens hown hK hP 1 rfl rfl 5 (by decide) (hg _ wn_1_54) (fun _ h9 => h9) rfl dn_Grammar_part_41 ?_
    refine lv_istore_n (lv' := [(2, .int ((q_3.2.1 216 0))), (1, .int ((s.1 216 0))), (0, .ref ((a 105)))]) hx hb dn_Grammar_part_44 rfl hl (by decide) rfl (fun ls hl => ?_)
    refine lv_aload_n hx hb dn_Grammar_part_45 rfl (lv_at hl 2 rfl) ?_
    refine va_get (D := (dC, dI)) (ci := 6) (v := .ref ((a 101))) (C := rn_Grammar) (T := fn_Grammar) (N := 15) hx hb hg in_Grammar hown hK hP 5 rfl rfl 0 (by decide) (hg _ wn_2_0) (fun _ h9 => h9) rfl dn_Grammar_part_46 ?_
    refine lv_iconst (v := 3) hx hb dn_Grammar_part_49 (by decide) ?_
    obtain ⟨q_5, hc_6, hf⟩ := dc_b hf
    refine dc_callv (dc_runV (ar := 1) (As := [.int 3]) (rest := []) (ci := 2) (q0 := 1) ⟨hx, hb, hml, hown, hg⟩ hK hN hT hS hA (ct_Tokens_need_Tk l dC dI cI cB cJ cZ cQ N H.size a v 3 q_3.2 q_5 hc_6) hP hD rfl rfl wn_4_173 wn_4_174 wn_4_175 wn_1_2 wn_4_176 rfl rfl (by decide +kernel) ⟨Nat.le_of_ble_eq_true rfl, Nat.le_of_ble_eq_true rfl⟩ rfl hl.1 rfl (Nat.le_of_ble_eq_true rfl) dn_Grammar_part_50 ⟨Nat.le_of_ble_eq_true rfl, Nat.le_of_ble_eq_true rfl⟩) hP hD hS hA (fun _ H locs hw hP hD hS => ?_)
    exact bl_53 ((s.1 216 0)) ((q_3.2.1 216 0)) q_5.2 hf H locs ls hP hD hS (lv_sub hl [2, 1, 0] rfl)
set_option maxHeartbeats 8000000 in
set_option maxRecDepth 100000 in
theorem ct_Checker_partWidth (l : Launch) (dC : Nat → ClassId) (dI : Nat → Nat → Nat) (cI cB cJ cZ cQ : ClassId) (N sz : Nat) (a : Nat → Nat) (v : Nat → Value) (v0 : Int32) (v1 : Int32) (s : ms) (y : (Int32 × ms)) (hf : fn_Checker_partWidth N v0 v1 s = some y) : Met l yn_Checker_partWidth (xw yn_Checker_partWidth bn_Checker_partWidth 4 (some .int)) ({ frames := 0, cells := 0, slots := 0, locals := 0 }) (dc_P (dC, dI) xcl (xt cI cB cJ cZ cQ) [.int v0, .int v1] sz (wC a v cI cB cJ cZ cQ s)) (xk_Qi (dC, dI) xcl (xt cI cB cJ cZ cQ) (fun (r : Int32) (_ : Unit) => r = y.1) (fun u : Unit => (wC a v cI cB cJ cZ cQ y.2)) (va_A (wC a v cI cB cJ cZ cQ s) sz)) 0 0 (va_A (wC a v cI cB cJ cZ cQ s) sz) := by
  refine dc_of (QA := xk_Qi (dC, dI) xcl (xt cI cB cJ cZ cQ) (fun (r : Int32) (_ : Unit) => r = y.1) (fun u : Unit => (wC a v cI cB cJ cZ cQ y.2))) (by decide) (Nat.le_of_ble_eq_true rfl) ?_
  intro p e s0 m below meth c hx hb hml hown hg hr hlocks hin hP hK hN A hA hD hT ls hl
  have hown : s0.vm.findClass rn_Checker = some m.cls := hown
  obtain ⟨H, hH⟩ : ∃ z, z = s0.heap := ⟨_, rfl⟩
  rw [← hH] at hP
  have hS : va_S A s0.heap H [] := by rw [hH]; exact va_S.rf
  suffices kk : ∀ QQ : State → Prop, QQ = MQ below (xk_Qi (dC, dI) xcl (xt cI cB cJ cZ cQ) (fun (r : Int32) (_ : Unit) => r = y.1) (fun u : Unit => (wC a v cI cB cJ cZ cQ y.2)) A) [.int v0, .int v1].toArray s0 0 0 A → dcC p l e ({ frames := 0, cells := 0, slots := 0, locals := 0 }) s0 m [.int v0, .int v1].toArray below meth c QQ (dC, dI) A (wC a v cI cB cJ cZ cQ s) 0 4 [(0, .int v0), (1, .int v1)] [] by
    have k9 := kk _ rfl H [] ls hP hD hS hl
    rw [hH] at k9; exact k9
  clear hP hD hS hl hH H ls
  intro QQ hQQ
  intro H locs ls hP hD hS hl
  unfold fn_Checker_partWidth at hf
  refine lv_iload_n hx hb dn_Checker_partWidth_0 rfl (lv_at hl 0 rfl) ?_
  refine lv_bipush (v := 16) hx hb dn_Checker_partWidth_1 (by decide) ?_
  refine lv_iushr (v := (Int32.toUInt32 v0 >>> (Int32.toUInt32 16 &&& Int32.toUInt32 31)).toInt32) hx hb dn_Checker_partWidth_3 rfl ?_
  refine lv_istore_n (lv' := [(2, .int (((Int32.toUInt32 v0 >>> (Int32.toUInt32 16 &&& Int32.toUInt32 31)).toInt32))), (0, .int v0), (1, .int v1)]) hx hb dn_Checker_partWidth_4 rfl hl (by decide) rfl (fun ls hl => ?_)
  refine lv_iload_n hx hb dn_Checker_partWidth_5 rfl (lv_at hl 1 rfl) ?_
  refine lv_ldc hx hb hown (hg _ wn_5_173) dn_Checker_partWidth_6 ?_
  refine lv_iand hx hb dn_Checker_partWidth_8 ?_
  refine lv_istore_n (lv' := [(3, .int ((v0 &&& 65535))), (2, .int (((Int32.toUInt32 v0 >>> (Int32.toUInt32 16 &&& Int32.toUInt32 31)).toInt32))), (0, .int v0), (1, .int v1)]) hx hb dn_Checker_partWidth_9 rfl hl (by decide) rfl (fun ls hl => ?_)
  refine lv_iload_n hx hb dn_Checker_partWidth_10 rfl (lv_at hl 1 rfl) ?_
  refine lv_iload_n hx hb dn_Checker_partWidth_11 rfl (lv_at hl 0 rfl) ?_
  refine lv_icmp_lt (tgt := 20) hx hb dn_Checker_partWidth_12 (by decide) (fun h => ?_) (fun h => ?_)
  · have hf := (if_pos h).symm.trans hf
    refine lv_iconst (v := (-1)) hx hb dn_Checker_partWidth_20 (by decide) ?_
    refine lv_goto (tgt := 29) hx hb dn_Checker_partWidth_21 (by decide) ?_
    rw [hQQ, ← Option.some.inj hf]
    exact xk_iret (w1 := fun u : Unit => (wC a v cI cB cJ cZ cQ s)) () hx hb hr hlocks hK hS dn_Checker_partWidth_29 hP hD rfl (Nat.le_refl _) (Nat.le_refl _)
  · have hf := (if_neg h).symm.trans hf
    refine lv_iload_n hx hb dn_Checker_partWidth_15 rfl (lv_at hl 1 rfl) ?_
    refine lv_iload_n hx hb dn_Checker_partWidth_16 rfl (lv_at hl 3 rfl) ?_
    refine lv_icmp_lt (tgt := 24) hx hb dn_Checker_partWidth_17 (by decide) (fun h => ?_) (fun h => ?_)
    · have hf := (if_pos h).symm.trans hf
      refine lv_iload_n hx hb dn_Checker_partWidth_24 rfl (lv_at hl 1 rfl) ?_
      refine lv_iload_n hx hb dn_Checker_partWidth_25 rfl (lv_at hl 0 rfl) ?_
      refine lv_isub hx hb dn_Checker_partWidth_26 ?_
      refine lv_iconst (v := 1) hx hb dn_Checker_partWidth_27 (by decide) ?_
      refine lv_iadd hx hb dn_Checker_partWidth_28 ?_
      rw [hQQ, ← Option.some.inj hf]
      exact xk_iret (w1 := fun u : Unit => (wC a v cI cB cJ cZ cQ s)) () hx hb hr hlocks hK hS dn_Checker_partWidth_29 hP hD rfl (Nat.le_refl _) (Nat.le_refl _)
    · have hf := (if_neg h).symm.trans hf
      refine lv_iconst (v := (-1)) hx hb dn_Checker_partWidth_20 (by decide) ?_
      refine lv_goto (tgt := 29) hx hb dn_Checker_partWidth_21 (by decide) ?_
      rw [hQQ, ← Option.some.inj hf]
      exact xk_iret (w1 := fun u : Unit => (wC a v cI cB cJ cZ cQ s)) () hx hb hr hlocks hK hS dn_Checker_partWidth_29 hP hD rfl (Nat.le_refl _) (Nat.le_refl _)
set_option maxHeartbeats 8000000 in
set_option maxRecDepth 100000 in
theorem ct_Checker_lowOf (l : Launch) (dC : Nat → ClassId) (dI : Nat → Nat → Nat) (cI cB cJ cZ cQ : ClassId) (N sz : Nat) (a : Nat → Nat) (v : Nat → Value) (v0 : Int32) (s : ms) (y : (Int32 × ms)) (hf : fn_Checker_lowOf N v0 s = some y) : Met l yn_Checker_lowOf (xw yn_Checker_lowOf bn_Checker_lowOf 1 (some .int)) ({ frames := 0, cells := 0, slots := 0, locals := 0 }) (dc_P (dC, dI) xcl (xt cI cB cJ cZ cQ) [.int v0] sz (wC a v cI cB cJ cZ cQ s)) (xk_Qi (dC, dI) xcl (xt cI cB cJ cZ cQ) (fun (r : Int32) (_ : Unit) => r = y.1) (fun u : Unit => (wC a v cI cB cJ cZ cQ y.2)) (va_A (wC a v cI cB cJ cZ cQ s) sz)) 0 0 (va_A (wC a v cI cB cJ cZ cQ s) sz) := by
  refine dc_of (QA := xk_Qi (dC, dI) xcl (xt cI cB cJ cZ cQ) (fun (r : Int32) (_ : Unit) => r = y.1) (fun u : Unit => (wC a v cI cB cJ cZ cQ y.2))) (by decide) (Nat.le_of_ble_eq_true rfl) ?_
  intro p e s0 m below meth c hx hb hml hown hg hr hlocks hin hP hK hN A hA hD hT ls hl
  have hown : s0.vm.findClass rn_Checker = some m.cls := hown
  obtain ⟨H, hH⟩ : ∃ z, z = s0.heap := ⟨_, rfl⟩
  rw [← hH] at hP
  have hS : va_S A s0.heap H [] := by rw [hH]; exact va_S.rf
  suffices kk : ∀ QQ : State → Prop, QQ = MQ below (xk_Qi (dC, dI) xcl (xt cI cB cJ cZ cQ) (fun (r : Int32) (_ : Unit) => r = y.1) (fun u : Unit => (wC a v cI cB cJ cZ cQ y.2)) A) [.int v0].toArray s0 0 0 A → dcC p l e ({ frames := 0, cells := 0, slots := 0, locals := 0 }) s0 m [.int v0].toArray below meth c QQ (dC, dI) A (wC a v cI cB cJ cZ cQ s) 0 1 [(0, .int v0)] [] by
    have k9 := kk _ rfl H [] ls hP hD hS hl
    rw [hH] at k9; exact k9
  clear hP hD hS hl hH H ls
  intro QQ hQQ
  intro H locs ls hP hD hS hl
  unfold fn_Checker_lowOf at hf
  refine lv_iload_n hx hb dn_Checker_lowOf_0 rfl (lv_at hl 0 rfl) ?_
  refine lv_ldc hx hb hown (hg _ wn_5_173) dn_Checker_lowOf_1 ?_
  refine lv_iand hx hb dn_Checker_lowOf_3 ?_
  rw [hQQ, ← Option.some.inj hf]
  exact xk_iret (w1 := fun u : Unit => (wC a v cI cB cJ cZ cQ s)) () hx hb hr hlocks hK hS dn_Checker_lowOf_4 hP hD rfl (Nat.le_refl _) (Nat.le_refl _)
set_option maxHeartbeats 8000000 in
set_option maxRecDepth 100000 in
theorem ct_Meaning_storePart_Me (l : Launch) (dC : Nat → ClassId) (dI : Nat → Nat → Nat) (cI cB cJ cZ cQ : ClassId) (N sz : Nat) (a : Nat → Nat) (v : Nat → Value) (v1 : Int32) (v2 : Int32) (s : ms) (y : (Unit × ms)) (hf : fn_Meaning_storePart_Me N v1 v2 s = some y) : Met l yn_Meaning_storePart (xw yn_Meaning_storePart bn_Meaning_storePart 3 none) ({ frames := 1, cells := 0, slots := 0, locals := 23 }) (dc_P (dC, dI) xcl (xt cI cB cJ cZ cQ) [.ref ((a 104)), .int v1, .int v2] sz (wC a v cI cB cJ cZ cQ s)) (xk_Qv (dC, dI) xcl (xt cI cB cJ cZ cQ) (fun _ : Unit => True) (fun u : Unit => (wC a v cI cB cJ cZ cQ y.2)) (va_A (wC a v cI cB cJ cZ cQ s) sz)) 0 0 (va_A (wC a v cI cB cJ cZ cQ s) sz) := by
  refine dc_of (QA := xk_Qv (dC, dI) xcl (xt cI cB cJ cZ cQ) (fun _ : Unit => True) (fun u : Unit => (wC a v cI cB cJ cZ cQ y.2))) (by decide) (Nat.le_of_ble_eq_true rfl) ?_
  intro p e s0 m below meth c hx hb hml hown hg hr hlocks hin hP hK hN A hA hD hT ls hl
  have hown : s0.vm.findClass rn_Meaning = some m.cls := hown
  obtain ⟨H, hH⟩ : ∃ z, z = s0.heap := ⟨_, rfl⟩
  rw [← hH] at hP
  have hS : va_S A s0.heap H [] := by rw [hH]; exact va_S.rf
  suffices kk : ∀ QQ : State → Prop, QQ = MQ below (xk_Qv (dC, dI) xcl (xt cI cB cJ cZ cQ) (fun _ : Unit => True) (fun u : Unit => (wC a v cI cB cJ cZ cQ y.2)) A) [.ref ((a 104)), .int v1, .int v2].toArray s0 0 0 A → dcC p l e ({ frames := 1, cells := 0, slots := 0, locals := 23 }) s0 m [.ref ((a 104)), .int v1, .int v2].toArray below meth c QQ (dC, dI) A (wC a v cI cB cJ cZ cQ s) 0 3 [(0, .ref ((a 104))), (1, .int v1), (2, .int v2)] [] by
    have k9 := kk _ rfl H [] ls hP hD hS hl
    rw [hH] at k9; exact k9
  clear hP hD hS hl hH H ls
  intro QQ hQQ
  intro H locs ls hP hD hS hl
  unfold fn_Meaning_storePart_Me at hf
  refine lv_aload_n hx hb dn_Meaning_storePart_0 rfl (lv_at hl 0 rfl) ?_
  refine va_get (D := (dC, dI)) (ci := 5) (v := .ref ((a 103))) (C := rn_Meaning) (T := fn_Meaning) (N := 17) hx hb hg in_Meaning hown hK hP 4 rfl rfl 0 (by decide) (hg _ wn_1_184) (fun _ h9 => h9) rfl dn_Meaning_storePart_1 ?_
  obtain ⟨q_1, hc_2, hf⟩ := dc_b hf
  refine dc_calli (dc_runV (ar := 0) (As := []) (rest := []) (ci := 4) (q0 := 3) ⟨hx, hb, hml, hown, hg⟩ hK hN hT hS hA (ct_Checker_isOff_Ch l dC dI cI cB cJ cZ cQ N H.size a v s q_1 hc_2) hP hD rfl rfl wn_4_193 wn_4_194 wn_4_195 wn_1_4 wn_4_196 rfl rfl (by decide +kernel) ⟨Nat.le_of_ble_eq_true rfl, Nat.le_of_ble_eq_true rfl⟩ rfl hl.1 rfl (Nat.le_of_ble_eq_true rfl) dn_Meaning_storePart_4 ⟨Nat.le_of_ble_eq_true rfl, Nat.le_of_ble_eq_true rfl⟩) hP hD hS hA (fun r_3 _ H locs hw hP hD hS => ?_)
  have hw : r_3 = q_1.1 := hw
  subst hw
  refine lv_if_eq (tgt := 11) hx hb dn_Meaning_storePart_7 (by decide) (fun h => ?_) (fun h => ?_)
  · have hf := (if_pos h).symm.trans hf
    refine lv_aload_n hx hb dn_Meaning_storePart_11 rfl (lv_at hl 0 rfl) ?_
    refine lv_iload_n hx hb dn_Meaning_storePart_12 rfl (lv_at hl 1 rfl) ?_
    refine lv_aload_n hx hb dn_Meaning_storePart_13 rfl (lv_at hl 0 rfl) ?_
    refine va_get (D := (dC, dI)) (ci := 5) (v := .int ((q_1.2.1 251 0))) (C := rn_Meaning) (T := fn_Meaning) (N := 17) hx hb hg in_Meaning hown hK hP 4 rfl rfl 7 (by decide) (hg _ wn_1_191) (fun _ h9 => h9) rfl dn_Meaning_storePart_14 ?_
    obtain ⟨q_4, hc_5, hf⟩ := dc_b hf
    refine dc_calli (dc_runS (ar := 2) (As := [.int v1, .int ((q_1.2.1 251 0))]) (rest := [.ref ((a 104))]) ⟨hx, hb, hml, hown, hg⟩ hK hN hT hS hA (ct_Checker_partWidth l dC dI cI cB cJ cZ cQ N H.size a v v1 ((q_1.2.1 251 0)) q_1.2 q_4 hc_5) hP hD wn_5_170 wn_5_171 wn_1_4 wn_5_172 rfl rfl (by decide +kernel) ⟨Nat.le_of_ble_eq_true rfl, Nat.le_of_ble_eq_true rfl⟩ rfl hl.1 rfl (Nat.le_of_ble_eq_true rfl) dn_Meaning_storePart_17 ⟨Nat.le_of_ble_eq_true rfl, Nat.le_of_ble_eq_true rfl⟩) hP hD hS hA (fun r_6 _ H locs hw hP hD hS => ?_)
    have hw : r_6 = q_4.1 := hw
    subst hw
    refine va_put (D := (dC, dI)) (ci := 5) (v := .int q_4.1) (ty := .int) (C := rn_Meaning) (T := fn_Meaning) (N := 17) hx hb hg in_Meaning tn_Meaning tk_Meaning nn_Meaning hown hK hP hD hS 4 rfl rfl 7 (by decide) (hg _ wn_1_191) (fun _ h9 => h9) rfl (tk_Meaning 7 (by decide)) rfl rfl (Nat.le_of_ble_eq_true rfl) dn_Meaning_storePart_20 (fun H locs hP hD hS => ?_)
    have hP := wC_P_251 hP
    have hD := wC_D_251 hD
    refine lv_aload_n hx hb dn_Meaning_storePart_23 rfl (lv_at hl 0 rfl) ?_
    refine lv_iload_n hx hb dn_Meaning_storePart_24 rfl (lv_at hl 1 rfl) ?_
    obtain ⟨q_7, hc_8, hf⟩ := dc_b hf
    refine dc_calli (dc_runS (ar := 1) (As := [.int v1]) (rest := [.ref ((a 104))]) ⟨hx, hb, hml, hown, hg⟩ hK hN hT hS hA (ct_Checker_lowOf l dC dI cI cB cJ cZ cQ N H.size a v v1 (upI q_4.2 251 (fun _ => q_4.1)) q_7 hc_8) hP hD wn_5_174 wn_5_175 wn_1_4 wn_5_176 rfl rfl (by decide +kernel) ⟨Nat.le_of_ble_eq_true rfl, Nat.le_of_ble_eq_true rfl⟩ rfl hl.1 rfl (Nat.le_of_ble_eq_true rfl) dn_Meaning_storePart_25 ⟨Nat.le_of_ble_eq_true rfl, Nat.le_of_ble_eq_true rfl⟩) hP hD hS hA (fun r_9 _ H locs hw hP hD hS => ?_)
    have hw : r_9 = q_7.1 := hw
    subst hw
    refine va_put (D := (dC, dI)) (ci := 5) (v := .int q_7.1) (ty := .int) (C := rn_Meaning) (T := fn_Meaning) (N := 17) hx hb hg in_Meaning tn_Meaning tk_Meaning nn_Meaning hown hK hP hD hS 4 rfl rfl 6 (by decide) (hg _ wn_1_190) (fun _ h9 => h9) rfl (tk_Meaning 6 (by decide)) rfl rfl (Nat.le_of_ble_eq_true rfl) dn_Meaning_storePart_28 (fun H locs hP hD hS => ?_)
    have hP := wC_P_250 hP
    have hD := wC_D_250 hD
    refine lv_aload_n hx hb dn_Meaning_storePart_31 rfl (lv_at hl 0 rfl) ?_
    refine va_get (D := (dC, dI)) (ci := 5) (v := .int ((q_7.2.1 251 0))) (C := rn_Meaning) (T := fn_Meaning) (N := 17) hx hb hg in_Meaning hown hK hP 4 rfl rfl 7 (by decide) (hg _ wn_1_191) (fun _ h9 => h9) rfl dn_Meaning_storePart_32 ?_
    refine lv_iconst (v := (-1)) hx hb dn_Meaning_storePart_35 (by decide) ?_
    refine lv_icmp_ne (tgt := 49) hx hb dn_Meaning_storePart_36 (by decide) (fun h => ?_) (fun h => ?_)
    · have hf := (if_neg h).symm.trans hf
      rw [hQQ, ← Option.some.inj hf]
      exact xk_vret (w1 := fun u : Unit => (wC a v cI cB cJ cZ cQ (upI q_7.2 250 (fun _ => q_7.1)))) () hx hb hr hlocks hK hS dn_Meaning_storePart_49 hP hD trivial (Nat.le_refl _) (Nat.le_refl _)
    · have hf := (if_pos h).symm.trans hf
      refine lv_aload_n hx hb dn_Meaning_storePart_39 rfl (lv_at hl 0 rfl) ?_
      refine va_get (D := (dC, dI)) (ci := 5) (v := .ref ((a 103))) (C := rn_Meaning) (T := fn_Meaning) (N := 17) hx hb hg in_Meaning hown hK hP 4 rfl rfl 0 (by decide) (hg _ wn_1_184) (fun _ h9 => h9) rfl dn_Meaning_storePart_40 ?_
      refine lv_bipush (v := 30) hx hb dn_Meaning_storePart_43 (by decide) ?_
      refine lv_iload_n hx hb dn_Meaning_storePart_45 rfl (lv_at hl 2 rfl) ?_
      obtain ⟨q_10, hc_11, hf⟩ := dc_b hf
      refine dc_callv (dc_runV (ar := 2) (As := [.int 30, .int v2]) (rest := []) (ci := 4) (q0 := 3) ⟨hx, hb, hml, hown, hg⟩ hK hN hT hS hA (ct_Checker_refuse_Ch l dC dI cI cB cJ cZ cQ N H.size a v 30 v2 (upI q_7.2 250 (fun _ => q_7.1)) q_10 hc_11) hP hD rfl rfl wn_4_201 wn_4_202 wn_4_203 wn_1_4 wn_4_204 rfl rfl (by decide +kernel) ⟨Nat.le_of_ble_eq_true rfl, Nat.le_of_ble_eq_true rfl⟩ rfl hl.1 rfl (Nat.le_of_ble_eq_true rfl) dn_Meaning_storePart_46 ⟨Nat.le_of_ble_eq_true rfl, Nat.le_of_ble_eq_true rfl⟩) hP hD hS hA (fun _ H locs hw hP hD hS => ?_)
      rw [hQQ, ← Option.some.inj hf]
      exact xk_vret (w1 := fun u : Unit => (wC a v cI cB cJ cZ cQ q_10.2)) () hx hb hr hlocks hK hS dn_Meaning_storePart_49 hP hD trivial (Nat.le_refl _) (Nat.le_refl _)
  · have hf := (if_neg h).symm.trans hf
    rw [hQQ, ← Option.some.inj hf]
    exact xk_vret (w1 := fun u : Unit => (wC a v cI cB cJ cZ cQ q_1.2)) () hx hb hr hlocks hK hS dn_Meaning_storePart_10 hP hD trivial (Nat.le_refl _) (Nat.le_refl _)
set_option maxHeartbeats 8000000 in
set_option maxRecDepth 100000 in
theorem ct_Grammar_store_Gr (l : Launch) (dC : Nat → ClassId) (dI : Nat → Nat → Nat) (cI cB cJ cZ cQ : ClassId) (N sz : Nat) (a : Nat → Nat) (v : Nat → Value) (hv_2 : v 2 = .ref (a 110)) (hv_3 : v 3 = .ref (a 111)) (hv_5 : v 5 = .ref (a 110)) (s : ms) (y : (Unit × ms)) (hf : fn_Grammar_store_Gr N s = some y) : Met l yn_Grammar_store (xw yn_Grammar_store bn_Grammar_store 2 none) ({ frames := 4, cells := 0, slots := 0, locals := 84 }) (dc_P (dC, dI) xcl (xt cI cB cJ cZ cQ) [.ref ((a 105))] sz (wC a v cI cB cJ cZ cQ s)) (xk_Qv (dC, dI) xcl (xt cI cB cJ cZ cQ) (fun _ : Unit => True) (fun u : Unit => (wC a v cI cB cJ cZ cQ y.2)) (va_A (wC a v cI cB cJ cZ cQ s) sz)) 0 0 (va_A (wC a v cI cB cJ cZ cQ s) sz) := by
  refine dc_of (QA := xk_Qv (dC, dI) xcl (xt cI cB cJ cZ cQ) (fun _ : Unit => True) (fun u : Unit => (wC a v cI cB cJ cZ cQ y.2))) (by decide) (Nat.le_of_ble_eq_true rfl) ?_
  intro p e s0 m below meth c hx hb hml hown hg hr hlocks hin hP hK hN A hA hD hT ls hl
  have hown : s0.vm.findClass rn_Grammar = some m.cls := hown
  obtain ⟨H, hH⟩ : ∃ z, z = s0.heap := ⟨_, rfl⟩
  rw [← hH] at hP
  have hS : va_S A s0.heap H [] := by rw [hH]; exact va_S.rf
  suffices kk : ∀ QQ : State → Prop, QQ = MQ below (xk_Qv (dC, dI) xcl (xt cI cB cJ cZ cQ) (fun _ : Unit => True) (fun u : Unit => (wC a v cI cB cJ cZ cQ y.2)) A) [.ref ((a 105))].toArray s0 0 0 A → dcC p l e ({ frames := 4, cells := 0, slots := 0, locals := 84 }) s0 m [.ref ((a 105))].toArray below meth c QQ (dC, dI) A (wC a v cI cB cJ cZ cQ s) 0 2 [(0, .ref ((a 105)))] [] by
    have k9 := kk _ rfl H [] ls hP hD hS hl
    rw [hH] at k9; exact k9
  clear hP hD hS hl hH H ls
  intro QQ hQQ
  have bl_69 : ∀ (s : ms), bk_Grammar_store_Gr_69 N s = some y → dcC p l e ({ frames := 4, cells := 0, slots := 0, locals := 84 }) s0 m [.ref ((a 105))].toArray below meth c QQ (dC, dI) A (wC a v cI cB cJ cZ cQ s) 69 2 [(0, .ref ((a 105)))] [] := by
    intro s hf H locs ls hP hD hS hl
    unfold bk_Grammar_store_Gr_69 at hf
    refine lv_aload_n hx hb dn_Grammar_store_69 rfl (lv_at hl 0 rfl) ?_
    refine lv_aload_n hx hb dn_Grammar_store_70 rfl (lv_at hl 0 rfl) ?_
    refine va_get (D := (dC, dI)) (ci := 6) (v := .ref ((a 101))) (C := rn_Grammar) (T := fn_Grammar) (N := 15) hx hb hg in_Grammar hown hK hP 5 rfl rfl 0 (by decide) (hg _ wn_2_0) (fun _ h9 => h9) rfl dn_Grammar_store_71 ?_
    refine va_get (D := (dC, dI)) (ci := 2) (v := .int ((s.1 215 0))) (C := rn_Tokens) (T := fn_Tokens) (N := 9) hx hb hg in_Tokens hown hK hP 1 rfl rfl 4 (by decide) (hg _ wn_1_52) (fun _ h9 => h9) rfl dn_Grammar_store_74 ?_
    refine va_put (D := (dC, dI)) (ci := 6) (v := .int ((s.1 215 0))) (ty := .int) (C := rn_Grammar) (T := fn_Grammar) (N := 15) hx hb hg in_Grammar tn_Grammar tk_Grammar nn_Grammar hown hK hP hD hS 5 rfl rfl 5 (by decide) (hg _ wn_2_5) (fun _ h9 => h9) rfl (tk_Grammar 5 (by decide)) rfl rfl (Nat.le_of_ble_eq_true rfl) dn_Grammar_store_77 (fun H locs hP hD hS => ?_)
    have hP := wC_P_266 hP
    have hD := wC_D_266 hD
    refine lv_aload_n hx hb dn_Grammar_store_80 rfl (lv_at hl 0 rfl) ?_
    refine va_get (D := (dC, dI)) (ci := 6) (v := .ref ((a 101))) (C := rn_Grammar) (T := fn_Grammar) (N := 15) hx hb hg in_Grammar hown hK hP 5 rfl rfl 0 (by decide) (hg _ wn_2_0) (fun _ h9 => h9) rfl dn_Grammar_store_81 ?_
    refine lv_bipush (v := 9) hx hb dn_Grammar_store_84 (by decide) ?_
    obtain ⟨q_1, hc_2, hf⟩ := dc_b hf
    refine dc_callv (dc_runV (ar := 1) (As := [.int 9]) (rest := []) (ci := 2) (q0 := 1) ⟨hx, hb, hml, hown, hg⟩ hK hN hT hS hA (ct_Tokens_need_Tk l dC dI cI cB cJ cZ cQ N H.size a v 9 (upI s 266 (fun _ => (s.1 215 0))) q_1 hc_2) hP hD rfl rfl wn_4_173 wn_4_174 wn_4_175 wn_1_2 wn_4_176 rfl rfl (by decide +kernel) ⟨Nat.le_of_ble_eq_true rfl, Nat.le_of_ble_eq_true rfl⟩ rfl hl.1 rfl (Nat.le_of_ble_eq_true rfl) dn_Grammar_store_86 ⟨Nat.le_of_ble_eq_true rfl, Nat.le_of_ble_eq_true rfl⟩) hP hD hS hA (fun _ H locs hw hP hD hS => ?_)
    refine lv_aload_n hx hb dn_Grammar_store_89 rfl (lv_at hl 0 rfl) ?_
    refine lv_bipush (v := 9) hx hb dn_Grammar_store_90 (by decide) ?_
    obtain ⟨q_3, hc_4, hf⟩ := dc_b hf
    refine dc_callv (dc_runV (ar := 1) (As := [.int 9]) (rest := []) (ci := 6) (q0 := 5) ⟨hx, hb, hml, hown, hg⟩ hK hN hT hS hA (ct_Grammar_expFor_Gr l dC dI cI cB cJ cZ cQ N H.size a v hv_3 9 q_1.2 q_3 hc_4) hP hD rfl rfl wn_5_46 wn_5_48 sn_Grammar_expFor wn_1_5 wn_5_49 rfl rfl (by decide +kernel) ⟨Nat.le_of_ble_eq_true rfl, Nat.le_of_ble_eq_true rfl⟩ rfl hl.1 rfl (Nat.le_of_ble_eq_true rfl) dn_Grammar_store_92 ⟨Nat.le_of_ble_eq_true rfl, Nat.le_of_ble_eq_true rfl⟩) hP hD hS hA (fun _ H locs hw hP hD hS => ?_)
    rw [hQQ, ← Option.some.inj hf]
    exact xk_vret (w1 := fun u : Unit => (wC a v cI cB cJ cZ cQ q_3.2)) () hx hb hr hlocks hK hS dn_Grammar_store_95 hP hD trivial (Nat.le_refl _) (Nat.le_refl _)
  intro H locs ls hP hD hS hl
  unfold fn_Grammar_store_Gr at hf
  refine lv_aload_n hx hb dn_Grammar_store_0 rfl (lv_at hl 0 rfl) ?_
  refine va_get (D := (dC, dI)) (ci := 6) (v := .ref ((a 104))) (C := rn_Grammar) (T := fn_Grammar) (N := 15) hx hb hg in_Grammar hown hK hP 5 rfl rfl 2 (by decide) (hg _ wn_2_2) (fun _ h9 => h9) rfl dn_Grammar_store_1 ?_
  refine lv_aload_n hx hb dn_Grammar_store_4 rfl (lv_at hl 0 rfl) ?_
  refine va_get (D := (dC, dI)) (ci := 6) (v := .ref ((a 101))) (C := rn_Grammar) (T := fn_Grammar) (N := 15) hx hb hg in_Grammar hown hK hP 5 rfl rfl 0 (by decide) (hg _ wn_2_0) (fun _ h9 => h9) rfl dn_Grammar_store_5 ?_
  refine va_get (D := (dC, dI)) (ci := 2) (v := .int ((s.1 216 0))) (C := rn_Tokens) (T := fn_Tokens) (N := 9) hx hb hg in_Tokens hown hK hP 1 rfl rfl 5 (by decide) (hg _ wn_1_54) (fun _ h9 => h9) rfl dn_Grammar_store_8 ?_
  refine lv_aload_n hx hb dn_Grammar_store_11 rfl (lv_at hl 0 rfl) ?_
  refine va_get (D := (dC, dI)) (ci := 6) (v := .ref ((a 101))) (C := rn_Grammar) (T := fn_Grammar) (N := 15) hx hb hg in_Grammar hown hK hP 5 rfl rfl 0 (by decide) (hg _ wn_2_0) (fun _ h9 => h9) rfl dn_Grammar_store_12 ?_
  refine va_get (D := (dC, dI)) (ci := 2) (v := .int ((s.1 215 0))) (C := rn_Tokens) (T := fn_Tokens) (N := 9) hx hb hg in_Tokens hown hK hP 1 rfl rfl 4 (by decide) (hg _ wn_1_52) (fun _ h9 => h9) rfl dn_Grammar_store_15 ?_
  obtain ⟨q_1, hc_2, hf⟩ := dc_b hf
  refine dc_callv (dc_runV (ar := 2) (As := [.int ((s.1 216 0)), .int ((s.1 215 0))]) (rest := []) (ci := 5) (q0 := 4) ⟨hx, hb, hml, hown, hg⟩ hK hN hT hS hA (ct_Meaning_storeTo_Me l dC dI cI cB cJ cZ cQ N H.size a v hv_2 hv_5 ((s.1 216 0)) ((s.1 215 0)) s q_1 hc_2) hP hD rfl rfl wn_5_157 wn_5_158 wn_5_159 wn_1_6 wn_5_160 rfl rfl (by decide +kernel) ⟨Nat.le_of_ble_eq_true rfl, Nat.le_of_ble_eq_true rfl⟩ rfl hl.1 rfl (Nat.le_of_ble_eq_true rfl) dn_Grammar_store_18 ⟨Nat.le_of_ble_eq_true rfl, Nat.le_of_ble_eq_true rfl⟩) hP hD hS hA (fun _ H locs hw hP hD hS => ?_)
  refine lv_aload_n hx hb dn_Grammar_store_21 rfl (lv_at hl 0 rfl) ?_
  refine va_get (D := (dC, dI)) (ci := 6) (v := .ref ((a 101))) (C := rn_Grammar) (T := fn_Grammar) (N := 15) hx hb hg in_Grammar hown hK hP 5 rfl rfl 0 (by decide) (hg _ wn_2_0) (fun _ h9 => h9) rfl dn_Grammar_store_22 ?_
  obtain ⟨q_3, hc_4, hf⟩ := dc_b hf
  refine dc_callv (dc_runV (ar := 0) (As := []) (rest := []) (ci := 2) (q0 := 1) ⟨hx, hb, hml, hown, hg⟩ hK hN hT hS hA (ct_Tokens_take_Tk l dC dI cI cB cJ cZ cQ N H.size a v q_1.2 q_3 hc_4) hP hD rfl rfl wn_4_213 wn_4_149 wn_4_150 wn_1_2 wn_4_151 rfl rfl (by decide +kernel) ⟨Nat.le_of_ble_eq_true rfl, Nat.le_of_ble_eq_true rfl⟩ rfl hl.1 rfl (Nat.le_of_ble_eq_true rfl) dn_Grammar_store_25 ⟨Nat.le_of_ble_eq_true rfl, Nat.le_of_ble_eq_true rfl⟩) hP hD hS hA (fun _ H locs hw hP hD hS => ?_)
  refine lv_aload_n hx hb dn_Grammar_store_28 rfl (lv_at hl 0 rfl) ?_
  refine va_get (D := (dC, dI)) (ci := 6) (v := .ref ((a 101))) (C := rn_Grammar) (T := fn_Grammar) (N := 15) hx hb hg in_Grammar hown hK hP 5 rfl rfl 0 (by decide) (hg _ wn_2_0) (fun _ h9 => h9) rfl dn_Grammar_store_29 ?_
  refine va_get (D := (dC, dI)) (ci := 2) (v := .int ((q_3.2.1 214 0))) (C := rn_Tokens) (T := fn_Tokens) (N := 9) hx hb hg in_Tokens hown hK hP 1 rfl rfl 3 (by decide) (hg _ wn_1_50) (fun _ h9 => h9) rfl dn_Grammar_store_32 ?_
  refine lv_bipush (v := 91) hx hb dn_Grammar_store_35 (by decide) ?_
  refine lv_icmp_ne (tgt := 69) hx hb dn_Grammar_store_37 (by decide) (fun h => ?_) (fun h => ?_)
  · have hf := (if_neg h).symm.trans hf
    exact bl_69 q_3.2 hf H locs ls hP hD hS hl
  · have hf := (if_pos h).symm.trans hf
    refine lv_aload_n hx hb dn_Grammar_store_40 rfl (lv_at hl 0 rfl) ?_
    refine va_get (D := (dC, dI)) (ci := 6) (v := .ref ((a 101))) (C := rn_Grammar) (T := fn_Grammar) (N := 15) hx hb hg in_Grammar hown hK hP 5 rfl rfl 0 (by decide) (hg _ wn_2_0) (fun _ h9 => h9) rfl dn_Grammar_store_41 ?_
    refine va_get (D := (dC, dI)) (ci := 2) (v := .int ((q_3.2.1 215 0))) (C := rn_Tokens) (T := fn_Tokens) (N := 9) hx hb hg in_Tokens hown hK hP 1 rfl rfl 4 (by decide) (hg _ wn_1_52) (fun _ h9 => h9) rfl dn_Grammar_store_44 ?_
    refine lv_istore_n (lv' := [(1, .int ((q_3.2.1 215 0))), (0, .ref ((a 105)))]) hx hb dn_Grammar_store_47 rfl hl (by decide) rfl (fun ls hl => ?_)
    refine lv_aload_n hx hb dn_Grammar_store_48 rfl (lv_at hl 1 rfl) ?_
    refine va_get (D := (dC, dI)) (ci := 6) (v := .ref ((a 101))) (C := rn_Grammar) (T := fn_Grammar) (N := 15) hx hb hg in_Grammar hown hK hP 5 rfl rfl 0 (by decide) (hg _ wn_2_0) (fun _ h9 => h9) rfl dn_Grammar_store_49 ?_
    refine lv_bipush (v := 91) hx hb dn_Grammar_store_52 (by decide) ?_
    obtain ⟨q_5, hc_6, hf⟩ := dc_b hf
    refine dc_callv (dc_runV (ar := 1) (As := [.int 91]) (rest := []) (ci := 2) (q0 := 1) ⟨hx, hb, hml, hown, hg⟩ hK hN hT hS hA (ct_Tokens_open_Tk l dC dI cI cB cJ cZ cQ N H.size a v 91 q_3.2 q_5 hc_6) hP hD rfl rfl wn_4_214 wn_4_215 wn_4_216 wn_1_2 wn_4_217 rfl rfl (by decide +kernel) ⟨Nat.le_of_ble_eq_true rfl, Nat.le_of_ble_eq_true rfl⟩ rfl hl.1 rfl (Nat.le_of_ble_eq_true rfl) dn_Grammar_store_54 ⟨Nat.le_of_ble_eq_true rfl, Nat.le_of_ble_eq_true rfl⟩) hP hD hS hA (fun _ H locs hw hP hD hS => ?_)
    refine lv_aload_n hx hb dn_Grammar_store_57 rfl (lv_at hl 1 rfl) ?_
    refine va_get (D := (dC, dI)) (ci := 6) (v := .ref ((a 104))) (C := rn_Grammar) (T := fn_Grammar) (N := 15) hx hb hg in_Grammar hown hK hP 5 rfl rfl 2 (by decide) (hg _ wn_2_2) (fun _ h9 => h9) rfl dn_Grammar_store_58 ?_
    refine lv_aload_n hx hb dn_Grammar_store_61 rfl (lv_at hl 1 rfl) ?_
    obtain ⟨q_7, hc_8, hf⟩ := dc_b hf
    refine dc_calli (dc_runV (ar := 0) (As := []) (rest := [.ref ((a 104))]) (ci := 6) (q0 := 5) ⟨hx, hb, hml, hown, hg⟩ hK hN hT hS hA (ct_Grammar_part_Gr l dC dI cI cB cJ cZ cQ N H.size a v q_5.2 q_7 hc_8) hP hD rfl rfl wn_5_161 wn_5_163 sn_Grammar_part wn_1_5 wn_5_164 rfl rfl (by decide +kernel) ⟨Nat.le_of_ble_eq_true rfl, Nat.le_of_ble_eq_true rfl⟩ rfl hl.1 rfl (Nat.le_of_ble_eq_true rfl) dn_Grammar_store_62 ⟨Nat.le_of_ble_eq_true rfl, Nat.le_of_ble_eq_true rfl⟩) hP hD hS hA (fun r_9 _ H locs hw hP hD hS => ?_)
    have hw : r_9 = q_7.1 := hw
    subst hw
    refine lv_iload_n hx hb dn_Grammar_store_65 rfl (lv_at hl 0 rfl) ?_
    obtain ⟨q_10, hc_11, hf⟩ := dc_b hf
    refine dc_callv (dc_runV (ar := 2) (As := [.int q_7.1, .int ((q_3.2.1 215 0))]) (rest := []) (ci := 5) (q0 := 4) ⟨hx, hb, hml, hown, hg⟩ hK hN hT hS hA (ct_Meaning_storePart_Me l dC dI cI cB cJ cZ cQ N H.size a v q_7.1 ((q_3.2.1 215 0)) q_7.2 q_10 hc_11) hP hD rfl rfl wn_5_166 wn_5_167 wn_5_168 wn_1_6 wn_5_169 rfl rfl (by decide +kernel) ⟨Nat.le_of_ble_eq_true rfl, Nat.le_of_ble_eq_true rfl⟩ rfl hl.1 rfl (Nat.le_of_ble_eq_true rfl) dn_Grammar_store_66 ⟨Nat.le_of_ble_eq_true rfl, Nat.le_of_ble_eq_true rfl⟩) hP hD hS hA (fun _ H locs hw hP hD hS => ?_)
    exact bl_69 q_10.2 hf H locs ls hP hD hS (lv_sub hl [1] rfl)
set_option maxHeartbeats 8000000 in
set_option maxRecDepth 100000 in
theorem ct_Grammar_goOnIn_Gr (l : Launch) (dC : Nat → ClassId) (dI : Nat → Nat → Nat) (cI cB cJ cZ cQ : ClassId) (N sz : Nat) (a : Nat → Nat) (v : Nat → Value) (v1 : Int32) (s : ms) (y : (Unit × ms)) (hf : fn_Grammar_goOnIn_Gr N v1 s = some y) : Met l yn_Grammar_goOnIn (xw yn_Grammar_goOnIn bn_Grammar_goOnIn 2 none) ({ frames := 0, cells := 0, slots := 0, locals := 0 }) (dc_P (dC, dI) xcl (xt cI cB cJ cZ cQ) [.ref ((a 105)), .int v1] sz (wC a v cI cB cJ cZ cQ s)) (xk_Qv (dC, dI) xcl (xt cI cB cJ cZ cQ) (fun _ : Unit => True) (fun u : Unit => (wC a v cI cB cJ cZ cQ y.2)) (va_A (wC a v cI cB cJ cZ cQ s) sz)) 0 0 (va_A (wC a v cI cB cJ cZ cQ s) sz) := by
  refine dc_of (QA := xk_Qv (dC, dI) xcl (xt cI cB cJ cZ cQ) (fun _ : Unit => True) (fun u : Unit => (wC a v cI cB cJ cZ cQ y.2))) (by decide) (Nat.le_of_ble_eq_true rfl) ?_
  intro p e s0 m below meth c hx hb hml hown hg hr hlocks hin hP hK hN A hA hD hT ls hl
  have hown : s0.vm.findClass rn_Grammar = some m.cls := hown
  obtain ⟨H, hH⟩ : ∃ z, z = s0.heap := ⟨_, rfl⟩
  rw [← hH] at hP
  have hS : va_S A s0.heap H [] := by rw [hH]; exact va_S.rf
  suffices kk : ∀ QQ : State → Prop, QQ = MQ below (xk_Qv (dC, dI) xcl (xt cI cB cJ cZ cQ) (fun _ : Unit => True) (fun u : Unit => (wC a v cI cB cJ cZ cQ y.2)) A) [.ref ((a 105)), .int v1].toArray s0 0 0 A → dcC p l e ({ frames := 0, cells := 0, slots := 0, locals := 0 }) s0 m [.ref ((a 105)), .int v1].toArray below meth c QQ (dC, dI) A (wC a v cI cB cJ cZ cQ s) 0 2 [(0, .ref ((a 105))), (1, .int v1)] [] by
    have k9 := kk _ rfl H [] ls hP hD hS hl
    rw [hH] at k9; exact k9
  clear hP hD hS hl hH H ls
  intro QQ hQQ
  intro H locs ls hP hD hS hl
  unfold fn_Grammar_goOnIn_Gr at hf
  refine lv_aload_n hx hb dn_Grammar_goOnIn_0 rfl (lv_at hl 0 rfl) ?_
  refine va_get (D := (dC, dI)) (ci := 6) (v := .int ((s.1 271 0))) (C := rn_Grammar) (T := fn_Grammar) (N := 15) hx hb hg in_Grammar hown hK hP 5 rfl rfl 10 (by decide) (hg _ wn_2_10) (fun _ h9 => h9) rfl dn_Grammar_goOnIn_1 ?_
  refine lv_if_le (tgt := 19) hx hb dn_Grammar_goOnIn_4 (by decide) (fun h => ?_) (fun h => ?_)
  · have hf := (if_pos h).symm.trans hf
    rw [hQQ, ← Option.some.inj hf]
    exact xk_vret (w1 := fun u : Unit => (wC a v cI cB cJ cZ cQ s)) () hx hb hr hlocks hK hS dn_Grammar_goOnIn_19 hP hD trivial (Nat.le_refl _) (Nat.le_refl _)
  · have hf := (if_neg h).symm.trans hf
    refine lv_aload_n hx hb dn_Grammar_goOnIn_7 rfl (lv_at hl 0 rfl) ?_
    refine va_get (D := (dC, dI)) (ci := 6) (v := .ref ((a 270))) (C := rn_Grammar) (T := fn_Grammar) (N := 15) hx hb hg in_Grammar hown hK hP 5 rfl rfl 9 (by decide) (hg _ wn_2_9) (fun _ h9 => h9) rfl dn_Grammar_goOnIn_8 ?_
    refine lv_aload_n hx hb dn_Grammar_goOnIn_11 rfl (lv_at hl 0 rfl) ?_
    refine va_get (D := (dC, dI)) (ci := 6) (v := .int ((s.1 271 0))) (C := rn_Grammar) (T := fn_Grammar) (N := 15) hx hb hg in_Grammar hown hK hP 5 rfl rfl 10 (by decide) (hg _ wn_2_10) (fun _ h9 => h9) rfl dn_Grammar_goOnIn_12 ?_
    refine lv_iconst (v := 1) hx hb dn_Grammar_goOnIn_15 (by decide) ?_
    refine lv_isub hx hb dn_Grammar_goOnIn_16 ?_
    refine lv_iload_n hx hb dn_Grammar_goOnIn_17 rfl (lv_at hl 1 rfl) ?_
    obtain ⟨hg_1, hf⟩ := dc_g hf
    refine va_iast hx hb hK hP hD hS 30 0 rfl rfl hg_1 dn_Grammar_goOnIn_18 (fun H locs hP hD hS => ?_)
    have hP : va_P (dC, dI) xcl ((wC a v cI cB cJ cZ cQ s).set 30 ((a 270), .inl (cI, 60, .inl (upd (s.1 270) (Int32.toNatClampNeg (((s.1 271 0) - 1))) v1)))) H := hP
    have hD : va_D A ((wC a v cI cB cJ cZ cQ s).set 30 ((a 270), .inl (cI, 60, .inl (upd (s.1 270) (Int32.toNatClampNeg (((s.1 271 0) - 1))) v1)))) := hD
    have hP := wC_P_270 hP
    have hD := wC_D_270 hD
    rw [hQQ, ← Option.some.inj hf]
    exact xk_vret (w1 := fun u : Unit => (wC a v cI cB cJ cZ cQ (upI s 270 (upd (s.1 270) (Int32.toNatClampNeg (((s.1 271 0) - 1))) v1)))) () hx hb hr hlocks hK hS dn_Grammar_goOnIn_19 hP hD trivial (Nat.le_refl _) (Nat.le_refl _)
set_option maxHeartbeats 8000000 in
set_option maxRecDepth 100000 in
theorem ct_Grammar_enter_Gr (l : Launch) (dC : Nat → ClassId) (dI : Nat → Nat → Nat) (cI cB cJ cZ cQ : ClassId) (N sz : Nat) (a : Nat → Nat) (v : Nat → Value) (v1 : Int32) (s : ms) (y : (Unit × ms)) (hf : fn_Grammar_enter_Gr N v1 s = some y) : Met l yn_Grammar_enter (xw yn_Grammar_enter bn_Grammar_enter 2 none) ({ frames := 1, cells := 0, slots := 0, locals := 21 }) (dc_P (dC, dI) xcl (xt cI cB cJ cZ cQ) [.ref ((a 105)), .int v1] sz (wC a v cI cB cJ cZ cQ s)) (xk_Qv (dC, dI) xcl (xt cI cB cJ cZ cQ) (fun _ : Unit => True) (fun u : Unit => (wC a v cI cB cJ cZ cQ y.2)) (va_A (wC a v cI cB cJ cZ cQ s) sz)) 0 0 (va_A (wC a v cI cB cJ cZ cQ s) sz) := by
  refine dc_of (QA := xk_Qv (dC, dI) xcl (xt cI cB cJ cZ cQ) (fun _ : Unit => True) (fun u : Unit => (wC a v cI cB cJ cZ cQ y.2))) (by decide) (Nat.le_of_ble_eq_true rfl) ?_
  intro p e s0 m below meth c hx hb hml hown hg hr hlocks hin hP hK hN A hA hD hT ls hl
  have hown : s0.vm.findClass rn_Grammar = some m.cls := hown
  obtain ⟨H, hH⟩ : ∃ z, z = s0.heap := ⟨_, rfl⟩
  rw [← hH] at hP
  have hS : va_S A s0.heap H [] := by rw [hH]; exact va_S.rf
  suffices kk : ∀ QQ : State → Prop, QQ = MQ below (xk_Qv (dC, dI) xcl (xt cI cB cJ cZ cQ) (fun _ : Unit => True) (fun u : Unit => (wC a v cI cB cJ cZ cQ y.2)) A) [.ref ((a 105)), .int v1].toArray s0 0 0 A → dcC p l e ({ frames := 1, cells := 0, slots := 0, locals := 21 }) s0 m [.ref ((a 105)), .int v1].toArray below meth c QQ (dC, dI) A (wC a v cI cB cJ cZ cQ s) 0 2 [(0, .ref ((a 105))), (1, .int v1)] [] by
    have k9 := kk _ rfl H [] ls hP hD hS hl
    rw [hH] at k9; exact k9
  clear hP hD hS hl hH H ls
  intro QQ hQQ
  intro H locs ls hP hD hS hl
  unfold fn_Grammar_enter_Gr at hf
  refine lv_aload_n hx hb dn_Grammar_enter_0 rfl (lv_at hl 0 rfl) ?_
  refine va_get (D := (dC, dI)) (ci := 6) (v := .int ((s.1 271 0))) (C := rn_Grammar) (T := fn_Grammar) (N := 15) hx hb hg in_Grammar hown hK hP 5 rfl rfl 10 (by decide) (hg _ wn_2_10) (fun _ h9 => h9) rfl dn_Grammar_enter_1 ?_
  refine lv_aload_n hx hb dn_Grammar_enter_4 rfl (lv_at hl 0 rfl) ?_
  refine va_get (D := (dC, dI)) (ci := 6) (v := .ref ((a 270))) (C := rn_Grammar) (T := fn_Grammar) (N := 15) hx hb hg in_Grammar hown hK hP 5 rfl rfl 9 (by decide) (hg _ wn_2_9) (fun _ h9 => h9) rfl dn_Grammar_enter_5 ?_
  refine va_alen (v := 60) hx hb hK hP 30 0 rfl rfl rfl dn_Grammar_enter_8 ?_
  refine lv_icmp_lt (tgt := 13) hx hb dn_Grammar_enter_9 (by decide) (fun h => ?_) (fun h => ?_)
  · have hf := (if_pos h).symm.trans hf
    refine lv_aload_n hx hb dn_Grammar_enter_13 rfl (lv_at hl 0 rfl) ?_
    refine lv_dup hx hb dn_Grammar_enter_14 rfl ?_
    refine va_get (D := (dC, dI)) (ci := 6) (v := .int ((s.1 271 0))) (C := rn_Grammar) (T := fn_Grammar) (N := 15) hx hb hg in_Grammar hown hK hP 5 rfl rfl 10 (by decide) (hg _ wn_2_10) (fun _ h9 => h9) rfl dn_Grammar_enter_15 ?_
    refine lv_iconst (v := 1) hx hb dn_Grammar_enter_18 (by decide) ?_
    refine lv_iadd hx hb dn_Grammar_enter_19 ?_
    refine va_put (D := (dC, dI)) (ci := 6) (v := .int (((s.1 271 0) + 1))) (ty := .int) (C := rn_Grammar) (T := fn_Grammar) (N := 15) hx hb hg in_Grammar tn_Grammar tk_Grammar nn_Grammar hown hK hP hD hS 5 rfl rfl 10 (by decide) (hg _ wn_2_10) (fun _ h9 => h9) rfl (tk_Grammar 10 (by decide)) rfl rfl (Nat.le_of_ble_eq_true rfl) dn_Grammar_enter_20 (fun H locs hP hD hS => ?_)
    have hP := wC_P_271 hP
    have hD := wC_D_271 hD
    refine lv_aload_n hx hb dn_Grammar_enter_23 rfl (lv_at hl 0 rfl) ?_
    refine lv_iload_n hx hb dn_Grammar_enter_24 rfl (lv_at hl 1 rfl) ?_
    obtain ⟨q_1, hc_2, hf⟩ := dc_b hf
    refine dc_callv (dc_runV (ar := 1) (As := [.int v1]) (rest := []) (ci := 6) (q0 := 5) ⟨hx, hb, hml, hown, hg⟩ hK hN hT hS hA (ct_Grammar_goOnIn_Gr l dC dI cI cB cJ cZ cQ N H.size a v v1 (upI s 271 (fun _ => ((s.1 271 0) + 1))) q_1 hc_2) hP hD rfl rfl wn_5_149 wn_5_151 sn_Grammar_goOnIn wn_1_5 wn_5_152 rfl rfl (by decide +kernel) ⟨Nat.le_of_ble_eq_true rfl, Nat.le_of_ble_eq_true rfl⟩ rfl hl.1 rfl (Nat.le_of_ble_eq_true rfl) dn_Grammar_enter_25 ⟨Nat.le_of_ble_eq_true rfl, Nat.le_of_ble_eq_true rfl⟩) hP hD hS hA (fun _ H locs hw hP hD hS => ?_)
    rw [hQQ, ← Option.some.inj hf]
    exact xk_vret (w1 := fun u : Unit => (wC a v cI cB cJ cZ cQ q_1.2)) () hx hb hr hlocks hK hS dn_Grammar_enter_28 hP hD trivial (Nat.le_refl _) (Nat.le_refl _)
  · have hf := (if_neg h).symm.trans hf
    rw [hQQ, ← Option.some.inj hf]
    exact xk_vret (w1 := fun u : Unit => (wC a v cI cB cJ cZ cQ s)) () hx hb hr hlocks hK hS dn_Grammar_enter_12 hP hD trivial (Nat.le_refl _) (Nat.le_refl _)
set_option maxHeartbeats 8000000 in
set_option maxRecDepth 100000 in
theorem ct_Grammar_statement_Gr (l : Launch) (dC : Nat → ClassId) (dI : Nat → Nat → Nat) (cI cB cJ cZ cQ : ClassId) (N sz : Nat) (a : Nat → Nat) (v : Nat → Value) (hv_2 : v 2 = .ref (a 110)) (hv_3 : v 3 = .ref (a 111)) (hv_5 : v 5 = .ref (a 110)) (s : ms) (y : (Unit × ms)) (hf : fn_Grammar_statement_Gr N s = some y) : Met l yn_Grammar_statement (xw yn_Grammar_statement bn_Grammar_statement 1 none) ({ frames := 5, cells := 0, slots := 0, locals := 105 }) (dc_P (dC, dI) xcl (xt cI cB cJ cZ cQ) [.ref ((a 105))] sz (wC a v cI cB cJ cZ cQ s)) (xk_Qv (dC, dI) xcl (xt cI cB cJ cZ cQ) (fun _ : Unit => True) (fun u : Unit => (wC a v cI cB cJ cZ cQ y.2)) (va_A (wC a v cI cB cJ cZ cQ s) sz)) 0 0 (va_A (wC a v cI cB cJ cZ cQ s) sz) := by
  refine dc_of (QA := xk_Qv (dC, dI) xcl (xt cI cB cJ cZ cQ) (fun _ : Unit => True) (fun u : Unit => (wC a v cI cB cJ cZ cQ y.2))) (by decide) (Nat.le_of_ble_eq_true rfl) ?_
  intro p e s0 m below meth c hx hb hml hown hg hr hlocks hin hP hK hN A hA hD hT ls hl
  have hown : s0.vm.findClass rn_Grammar = some m.cls := hown
  obtain ⟨H, hH⟩ : ∃ z, z = s0.heap := ⟨_, rfl⟩
  rw [← hH] at hP
  have hS : va_S A s0.heap H [] := by rw [hH]; exact va_S.rf
  suffices kk : ∀ QQ : State → Prop, QQ = MQ below (xk_Qv (dC, dI) xcl (xt cI cB cJ cZ cQ) (fun _ : Unit => True) (fun u : Unit => (wC a v cI cB cJ cZ cQ y.2)) A) [.ref ((a 105))].toArray s0 0 0 A → dcC p l e ({ frames := 5, cells := 0, slots := 0, locals := 105 }) s0 m [.ref ((a 105))].toArray below meth c QQ (dC, dI) A (wC a v cI cB cJ cZ cQ s) 0 1 [(0, .ref ((a 105)))] [] by
    have k9 := kk _ rfl H [] ls hP hD hS hl
    rw [hH] at k9; exact k9
  clear hP hD hS hl hH H ls
  intro QQ hQQ
  intro H locs ls hP hD hS hl
  unfold fn_Grammar_statement_Gr at hf
  refine lv_aload_n hx hb dn_Grammar_statement_0 rfl (lv_at hl 0 rfl) ?_
  refine va_get (D := (dC, dI)) (ci := 6) (v := .ref ((a 101))) (C := rn_Grammar) (T := fn_Grammar) (N := 15) hx hb hg in_Grammar hown hK hP 5 rfl rfl 0 (by decide) (hg _ wn_2_0) (fun _ h9 => h9) rfl dn_Grammar_statement_1 ?_
  refine va_get (D := (dC, dI)) (ci := 2) (v := .int ((s.1 214 0))) (C := rn_Tokens) (T := fn_Tokens) (N := 9) hx hb hg in_Tokens hown hK hP 1 rfl rfl 3 (by decide) (hg _ wn_1_50) (fun _ h9 => h9) rfl dn_Grammar_statement_4 ?_
  by_cases h_0 : (s.1 214 0) = 2
  · have hf := (if_pos h_0).symm.trans hf
    refine xk_ti (y := 2) h_0 ?_
    refine lv_lookup (off := 124) (tgt := 131) hx hb dn_Grammar_statement_7 (by decide) (by decide) (by decide) ?_
    refine lv_aload_n hx hb dn_Grammar_statement_131 rfl (lv_at hl 0 rfl) ?_
    obtain ⟨q_1, hc_2, hf⟩ := dc_b hf
    refine dc_callv (dc_runV (ar := 0) (As := []) (rest := []) (ci := 6) (q0 := 5) ⟨hx, hb, hml, hown, hg⟩ hK hN hT hS hA (ct_Grammar_store_Gr l dC dI cI cB cJ cZ cQ N H.size a v hv_2 hv_3 hv_5 s q_1 hc_2) hP hD rfl rfl wn_5_153 wn_5_155 sn_Grammar_store wn_1_5 wn_5_156 rfl rfl (by decide +kernel) ⟨Nat.le_of_ble_eq_true rfl, Nat.le_of_ble_eq_true rfl⟩ rfl hl.1 rfl (Nat.le_of_ble_eq_true rfl) dn_Grammar_statement_132 ⟨Nat.le_of_ble_eq_true rfl, Nat.le_of_ble_eq_true rfl⟩) hP hD hS hA (fun _ H locs hw hP hD hS => ?_)
    refine lv_goto (tgt := 145) hx hb dn_Grammar_statement_135 (by decide) ?_
    rw [hQQ, ← Option.some.inj hf]
    exact xk_vret (w1 := fun u : Unit => (wC a v cI cB cJ cZ cQ q_1.2)) () hx hb hr hlocks hK hS dn_Grammar_statement_145 hP hD trivial (Nat.le_refl _) (Nat.le_refl _)
  have hf := (if_neg h_0).symm.trans hf
  by_cases h_1 : (s.1 214 0) = 138
  · have hf := (if_pos h_1).symm.trans hf
    refine xk_ti (y := 138) h_1 ?_
    refine lv_lookup (off := 41) (tgt := 48) hx hb dn_Grammar_statement_7 (by decide) (by decide) (by decide) ?_
    refine lv_aload_n hx hb dn_Grammar_statement_48 rfl (lv_at hl 0 rfl) ?_
    refine va_get (D := (dC, dI)) (ci := 6) (v := .ref ((a 101))) (C := rn_Grammar) (T := fn_Grammar) (N := 15) hx hb hg in_Grammar hown hK hP 5 rfl rfl 0 (by decide) (hg _ wn_2_0) (fun _ h9 => h9) rfl dn_Grammar_statement_49 ?_
    refine lv_sipush (v := 138) hx hb dn_Grammar_statement_52 (by decide) ?_
    obtain ⟨q_1, hc_2, hf⟩ := dc_b hf
    refine dc_callv (dc_runV (ar := 1) (As := [.int 138]) (rest := []) (ci := 2) (q0 := 1) ⟨hx, hb, hml, hown, hg⟩ hK hN hT hS hA (ct_Tokens_open_Tk l dC dI cI cB cJ cZ cQ N H.size a v 138 s q_1 hc_2) hP hD rfl rfl wn_4_214 wn_4_215 wn_4_216 wn_1_2 wn_4_217 rfl rfl (by decide +kernel) ⟨Nat.le_of_ble_eq_true rfl, Nat.le_of_ble_eq_true rfl⟩ rfl hl.1 rfl (Nat.le_of_ble_eq_true rfl) dn_Grammar_statement_55 ⟨Nat.le_of_ble_eq_true rfl, Nat.le_of_ble_eq_true rfl⟩) hP hD hS hA (fun _ H locs hw hP hD hS => ?_)
    refine lv_aload_n hx hb dn_Grammar_statement_58 rfl (lv_at hl 0 rfl) ?_
    refine lv_sipush (v := 138) hx hb dn_Grammar_statement_59 (by decide) ?_
    obtain ⟨q_3, hc_4, hf⟩ := dc_b hf
    refine dc_callv (dc_runV (ar := 1) (As := [.int 138]) (rest := []) (ci := 6) (q0 := 5) ⟨hx, hb, hml, hown, hg⟩ hK hN hT hS hA (ct_Grammar_enter_Gr l dC dI cI cB cJ cZ cQ N H.size a v 138 q_1.2 q_3 hc_4) hP hD rfl rfl wn_5_145 wn_5_147 sn_Grammar_enter wn_1_5 wn_5_148 rfl rfl (by decide +kernel) ⟨Nat.le_of_ble_eq_true rfl, Nat.le_of_ble_eq_true rfl⟩ rfl hl.1 rfl (Nat.le_of_ble_eq_true rfl) dn_Grammar_statement_62 ⟨Nat.le_of_ble_eq_true rfl, Nat.le_of_ble_eq_true rfl⟩) hP hD hS hA (fun _ H locs hw hP hD hS => ?_)
    refine lv_aload_n hx hb dn_Grammar_statement_65 rfl (lv_at hl 0 rfl) ?_
    refine lv_iconst (v := 5) hx hb dn_Grammar_statement_66 (by decide) ?_
    refine va_put (D := (dC, dI)) (ci := 6) (v := .int 5) (ty := .int) (C := rn_Grammar) (T := fn_Grammar) (N := 15) hx hb hg in_Grammar tn_Grammar tk_Grammar nn_Grammar hown hK hP hD hS 5 rfl rfl 3 (by decide) (hg _ wn_2_3) (fun _ h9 => h9) rfl (tk_Grammar 3 (by decide)) rfl rfl (Nat.le_of_ble_eq_true rfl) dn_Grammar_statement_67 (fun H locs hP hD hS => ?_)
    have hP := wC_P_264 hP
    have hD := wC_D_264 hD
    refine lv_goto (tgt := 145) hx hb dn_Grammar_statement_70 (by decide) ?_
    rw [hQQ, ← Option.some.inj hf]
    exact xk_vret (w1 := fun u : Unit => (wC a v cI cB cJ cZ cQ (upI q_3.2 264 (fun _ => 5)))) () hx hb hr hlocks hK hS dn_Grammar_statement_145 hP hD trivial (Nat.le_refl _) (Nat.le_refl _)
  have hf := (if_neg h_1).symm.trans hf
  by_cases h_2 : (s.1 214 0) = 140
  · have hf := (if_pos h_2).symm.trans hf
    refine xk_ti (y := 140) h_2 ?_
    refine lv_lookup (off := 66) (tgt := 73) hx hb dn_Grammar_statement_7 (by decide) (by decide) (by decide) ?_
    refine lv_aload_n hx hb dn_Grammar_statement_73 rfl (lv_at hl 0 rfl) ?_
    refine va_get (D := (dC, dI)) (ci := 6) (v := .ref ((a 101))) (C := rn_Grammar) (T := fn_Grammar) (N := 15) hx hb hg in_Grammar hown hK hP 5 rfl rfl 0 (by decide) (hg _ wn_2_0) (fun _ h9 => h9) rfl dn_Grammar_statement_74 ?_
    refine lv_sipush (v := 140) hx hb dn_Grammar_statement_77 (by decide) ?_
    obtain ⟨q_1, hc_2, hf⟩ := dc_b hf
    refine dc_callv (dc_runV (ar := 1) (As := [.int 140]) (rest := []) (ci := 2) (q0 := 1) ⟨hx, hb, hml, hown, hg⟩ hK hN hT hS hA (ct_Tokens_open_Tk l dC dI cI cB cJ cZ cQ N H.size a v 140 s q_1 hc_2) hP hD rfl rfl wn_4_214 wn_4_215 wn_4_216 wn_1_2 wn_4_217 rfl rfl (by decide +kernel) ⟨Nat.le_of_ble_eq_true rfl, Nat.le_of_ble_eq_true rfl⟩ rfl hl.1 rfl (Nat.le_of_ble_eq_true rfl) dn_Grammar_statement_80 ⟨Nat.le_of_ble_eq_true rfl, Nat.le_of_ble_eq_true rfl⟩) hP hD hS hA (fun _ H locs hw hP hD hS => ?_)
    refine lv_aload_n hx hb dn_Grammar_statement_83 rfl (lv_at hl 0 rfl) ?_
    refine va_get (D := (dC, dI)) (ci := 6) (v := .ref ((a 101))) (C := rn_Grammar) (T := fn_Grammar) (N := 15) hx hb hg in_Grammar hown hK hP 5 rfl rfl 0 (by decide) (hg _ wn_2_0) (fun _ h9 => h9) rfl dn_Grammar_statement_84 ?_
    refine lv_bipush (v := 40) hx hb dn_Grammar_statement_87 (by decide) ?_
    obtain ⟨q_3, hc_4, hf⟩ := dc_b hf
    refine dc_callv (dc_runV (ar := 1) (As := [.int 40]) (rest := []) (ci := 2) (q0 := 1) ⟨hx, hb, hml, hown, hg⟩ hK hN hT hS hA (ct_Tokens_open_Tk l dC dI cI cB cJ cZ cQ N H.size a v 40 q_1.2 q_3 hc_4) hP hD rfl rfl wn_4_214 wn_4_215 wn_4_216 wn_1_2 wn_4_217 rfl rfl (by decide +kernel) ⟨Nat.le_of_ble_eq_true rfl, Nat.le_of_ble_eq_true rfl⟩ rfl hl.1 rfl (Nat.le_of_ble_eq_true rfl) dn_Grammar_statement_89 ⟨Nat.le_of_ble_eq_true rfl, Nat.le_of_ble_eq_true rfl⟩) hP hD hS hA (fun _ H locs hw hP hD hS => ?_)
    refine lv_aload_n hx hb dn_Grammar_statement_92 rfl (lv_at hl 0 rfl) ?_
    refine lv_sipush (v := 140) hx hb dn_Grammar_statement_93 (by decide) ?_
    obtain ⟨q_5, hc_6, hf⟩ := dc_b hf
    refine dc_callv (dc_runV (ar := 1) (As := [.int 140]) (rest := []) (ci := 6) (q0 := 5) ⟨hx, hb, hml, hown, hg⟩ hK hN hT hS hA (ct_Grammar_expFor_Gr l dC dI cI cB cJ cZ cQ N H.size a v hv_3 140 q_3.2 q_5 hc_6) hP hD rfl rfl wn_5_46 wn_5_48 sn_Grammar_expFor wn_1_5 wn_5_49 rfl rfl (by decide +kernel) ⟨Nat.le_of_ble_eq_true rfl, Nat.le_of_ble_eq_true rfl⟩ rfl hl.1 rfl (Nat.le_of_ble_eq_true rfl) dn_Grammar_statement_96 ⟨Nat.le_of_ble_eq_true rfl, Nat.le_of_ble_eq_true rfl⟩) hP hD hS hA (fun _ H locs hw hP hD hS => ?_)
    refine lv_goto (tgt := 145) hx hb dn_Grammar_statement_99 (by decide) ?_
    rw [hQQ, ← Option.some.inj hf]
    exact xk_vret (w1 := fun u : Unit => (wC a v cI cB cJ cZ cQ q_5.2)) () hx hb hr hlocks hK hS dn_Grammar_statement_145 hP hD trivial (Nat.le_refl _) (Nat.le_refl _)
  have hf := (if_neg h_2).symm.trans hf
  by_cases h_3 : (s.1 214 0) = 142
  · have hf := (if_pos h_3).symm.trans hf
    refine xk_ti (y := 142) h_3 ?_
    refine lv_lookup (off := 95) (tgt := 102) hx hb dn_Grammar_statement_7 (by decide) (by decide) (by decide) ?_
    refine lv_aload_n hx hb dn_Grammar_statement_102 rfl (lv_at hl 0 rfl) ?_
    refine va_get (D := (dC, dI)) (ci := 6) (v := .ref ((a 101))) (C := rn_Grammar) (T := fn_Grammar) (N := 15) hx hb hg in_Grammar hown hK hP 5 rfl rfl 0 (by decide) (hg _ wn_2_0) (fun _ h9 => h9) rfl dn_Grammar_statement_103 ?_
    refine lv_sipush (v := 142) hx hb dn_Grammar_statement_106 (by decide) ?_
    obtain ⟨q_1, hc_2, hf⟩ := dc_b hf
    refine dc_callv (dc_runV (ar := 1) (As := [.int 142]) (rest := []) (ci := 2) (q0 := 1) ⟨hx, hb, hml, hown, hg⟩ hK hN hT hS hA (ct_Tokens_open_Tk l dC dI cI cB cJ cZ cQ N H.size a v 142 s q_1 hc_2) hP hD rfl rfl wn_4_214 wn_4_215 wn_4_216 wn_1_2 wn_4_217 rfl rfl (by decide +kernel) ⟨Nat.le_of_ble_eq_true rfl, Nat.le_of_ble_eq_true rfl⟩ rfl hl.1 rfl (Nat.le_of_ble_eq_true rfl) dn_Grammar_statement_109 ⟨Nat.le_of_ble_eq_true rfl, Nat.le_of_ble_eq_true rfl⟩) hP hD hS hA (fun _ H locs hw hP hD hS => ?_)
    refine lv_aload_n hx hb dn_Grammar_statement_112 rfl (lv_at hl 0 rfl) ?_
    refine va_get (D := (dC, dI)) (ci := 6) (v := .ref ((a 101))) (C := rn_Grammar) (T := fn_Grammar) (N := 15) hx hb hg in_Grammar hown hK hP 5 rfl rfl 0 (by decide) (hg _ wn_2_0) (fun _ h9 => h9) rfl dn_Grammar_statement_113 ?_
    refine lv_bipush (v := 40) hx hb dn_Grammar_statement_116 (by decide) ?_
    obtain ⟨q_3, hc_4, hf⟩ := dc_b hf
    refine dc_callv (dc_runV (ar := 1) (As := [.int 40]) (rest := []) (ci := 2) (q0 := 1) ⟨hx, hb, hml, hown, hg⟩ hK hN hT hS hA (ct_Tokens_open_Tk l dC dI cI cB cJ cZ cQ N H.size a v 40 q_1.2 q_3 hc_4) hP hD rfl rfl wn_4_214 wn_4_215 wn_4_216 wn_1_2 wn_4_217 rfl rfl (by decide +kernel) ⟨Nat.le_of_ble_eq_true rfl, Nat.le_of_ble_eq_true rfl⟩ rfl hl.1 rfl (Nat.le_of_ble_eq_true rfl) dn_Grammar_statement_118 ⟨Nat.le_of_ble_eq_true rfl, Nat.le_of_ble_eq_true rfl⟩) hP hD hS hA (fun _ H locs hw hP hD hS => ?_)
    refine lv_aload_n hx hb dn_Grammar_statement_121 rfl (lv_at hl 0 rfl) ?_
    refine lv_sipush (v := 142) hx hb dn_Grammar_statement_122 (by decide) ?_
    obtain ⟨q_5, hc_6, hf⟩ := dc_b hf
    refine dc_callv (dc_runV (ar := 1) (As := [.int 142]) (rest := []) (ci := 6) (q0 := 5) ⟨hx, hb, hml, hown, hg⟩ hK hN hT hS hA (ct_Grammar_expFor_Gr l dC dI cI cB cJ cZ cQ N H.size a v hv_3 142 q_3.2 q_5 hc_6) hP hD rfl rfl wn_5_46 wn_5_48 sn_Grammar_expFor wn_1_5 wn_5_49 rfl rfl (by decide +kernel) ⟨Nat.le_of_ble_eq_true rfl, Nat.le_of_ble_eq_true rfl⟩ rfl hl.1 rfl (Nat.le_of_ble_eq_true rfl) dn_Grammar_statement_125 ⟨Nat.le_of_ble_eq_true rfl, Nat.le_of_ble_eq_true rfl⟩) hP hD hS hA (fun _ H locs hw hP hD hS => ?_)
    refine lv_goto (tgt := 145) hx hb dn_Grammar_statement_128 (by decide) ?_
    rw [hQQ, ← Option.some.inj hf]
    exact xk_vret (w1 := fun u : Unit => (wC a v cI cB cJ cZ cQ q_5.2)) () hx hb hr hlocks hK hS dn_Grammar_statement_145 hP hD trivial (Nat.le_refl _) (Nat.le_refl _)
  have hf := (if_neg h_3).symm.trans hf
  refine lv_lookup (off := 131) (tgt := 138) hx hb dn_Grammar_statement_7 (by decide) (by rw [lv_osw h_0 (by decide)]; rw [lv_osw h_1 (by decide)]; rw [lv_osw h_2 (by decide)]; rw [lv_osw h_3 (by decide)]; rfl) (by decide) ?_
  refine lv_aload_n hx hb dn_Grammar_statement_138 rfl (lv_at hl 0 rfl) ?_
  refine va_get (D := (dC, dI)) (ci := 6) (v := .ref ((a 101))) (C := rn_Grammar) (T := fn_Grammar) (N := 15) hx hb hg in_Grammar hown hK hP 5 rfl rfl 0 (by decide) (hg _ wn_2_0) (fun _ h9 => h9) rfl dn_Grammar_statement_139 ?_
  obtain ⟨q_1, hc_2, hf⟩ := dc_b hf
  refine dc_callv (dc_runV (ar := 0) (As := []) (rest := []) (ci := 2) (q0 := 1) ⟨hx, hb, hml, hown, hg⟩ hK hN hT hS hA (ct_Tokens_refuse_Tk l dC dI cI cB cJ cZ cQ N H.size a v s q_1 hc_2) hP hD rfl rfl wn_5_116 wn_5_117 wn_5_118 wn_1_2 wn_5_119 rfl rfl (by decide +kernel) ⟨Nat.le_of_ble_eq_true rfl, Nat.le_of_ble_eq_true rfl⟩ rfl hl.1 rfl (Nat.le_of_ble_eq_true rfl) dn_Grammar_statement_142 ⟨Nat.le_of_ble_eq_true rfl, Nat.le_of_ble_eq_true rfl⟩) hP hD hS hA (fun _ H locs hw hP hD hS => ?_)
  rw [hQQ, ← Option.some.inj hf]
  exact xk_vret (w1 := fun u : Unit => (wC a v cI cB cJ cZ cQ q_1.2)) () hx hb hr hlocks hK hS dn_Grammar_statement_145 hP hD trivial (Nat.le_refl _) (Nat.le_refl _)
set_option maxHeartbeats 8000000 in
set_option maxRecDepth 100000 in
theorem ct_Tokens_shutQuietly_Tk (l : Launch) (dC : Nat → ClassId) (dI : Nat → Nat → Nat) (cI cB cJ cZ cQ : ClassId) (N sz : Nat) (a : Nat → Nat) (v : Nat → Value) (s : ms) (y : (Unit × ms)) (hf : fn_Tokens_shutQuietly_Tk N s = some y) : Met l yn_Tokens_shutQuietly (xw yn_Tokens_shutQuietly bn_Tokens_shutQuietly 1 none) ({ frames := 0, cells := 0, slots := 0, locals := 0 }) (dc_P (dC, dI) xcl (xt cI cB cJ cZ cQ) [.ref ((a 101))] sz (wC a v cI cB cJ cZ cQ s)) (xk_Qv (dC, dI) xcl (xt cI cB cJ cZ cQ) (fun _ : Unit => True) (fun u : Unit => (wC a v cI cB cJ cZ cQ y.2)) (va_A (wC a v cI cB cJ cZ cQ s) sz)) 0 0 (va_A (wC a v cI cB cJ cZ cQ s) sz) := by
  refine dc_of (QA := xk_Qv (dC, dI) xcl (xt cI cB cJ cZ cQ) (fun _ : Unit => True) (fun u : Unit => (wC a v cI cB cJ cZ cQ y.2))) (by decide) (Nat.le_of_ble_eq_true rfl) ?_
  intro p e s0 m below meth c hx hb hml hown hg hr hlocks hin hP hK hN A hA hD hT ls hl
  have hown : s0.vm.findClass rn_Tokens = some m.cls := hown
  obtain ⟨H, hH⟩ : ∃ z, z = s0.heap := ⟨_, rfl⟩
  rw [← hH] at hP
  have hS : va_S A s0.heap H [] := by rw [hH]; exact va_S.rf
  suffices kk : ∀ QQ : State → Prop, QQ = MQ below (xk_Qv (dC, dI) xcl (xt cI cB cJ cZ cQ) (fun _ : Unit => True) (fun u : Unit => (wC a v cI cB cJ cZ cQ y.2)) A) [.ref ((a 101))].toArray s0 0 0 A → dcC p l e ({ frames := 0, cells := 0, slots := 0, locals := 0 }) s0 m [.ref ((a 101))].toArray below meth c QQ (dC, dI) A (wC a v cI cB cJ cZ cQ s) 0 1 [(0, .ref ((a 101)))] [] by
    have k9 := kk _ rfl H [] ls hP hD hS hl
    rw [hH] at k9; exact k9
  clear hP hD hS hl hH H ls
  intro QQ hQQ
  intro H locs ls hP hD hS hl
  unfold fn_Tokens_shutQuietly_Tk at hf
  refine lv_aload_n hx hb dn_Tokens_shutQuietly_0 rfl (lv_at hl 0 rfl) ?_
  refine lv_dup hx hb dn_Tokens_shutQuietly_1 rfl ?_
  refine va_get (D := (dC, dI)) (ci := 2) (v := .int ((s.1 219 0))) (C := rn_Tokens) (T := fn_Tokens) (N := 9) hx hb hg in_Tokens hown hK hP 1 rfl rfl 8 (by decide) (hg _ wn_1_62) (fun _ h9 => h9) rfl dn_Tokens_shutQuietly_2 ?_
  refine lv_iconst (v := 1) hx hb dn_Tokens_shutQuietly_5 (by decide) ?_
  refine lv_isub hx hb dn_Tokens_shutQuietly_6 ?_
  refine va_put (D := (dC, dI)) (ci := 2) (v := .int (((s.1 219 0) - 1))) (ty := .int) (C := rn_Tokens) (T := fn_Tokens) (N := 9) hx hb hg in_Tokens tn_Tokens tk_Tokens nn_Tokens hown hK hP hD hS 1 rfl rfl 8 (by decide) (hg _ wn_1_62) (fun _ h9 => h9) rfl (tk_Tokens 8 (by decide)) rfl rfl (Nat.le_of_ble_eq_true rfl) dn_Tokens_shutQuietly_7 (fun H locs hP hD hS => ?_)
  have hP := wC_P_219 hP
  have hD := wC_D_219 hD
  rw [hQQ, ← Option.some.inj hf]
  exact xk_vret (w1 := fun u : Unit => (wC a v cI cB cJ cZ cQ (upI s 219 (fun _ => ((s.1 219 0) - 1))))) () hx hb hr hlocks hK hS dn_Tokens_shutQuietly_10 hP hD trivial (Nat.le_refl _) (Nat.le_refl _)
set_option maxHeartbeats 8000000 in
set_option maxRecDepth 100000 in
theorem ct_Code_aim_Ks (l : Launch) (dC : Nat → ClassId) (dI : Nat → Nat → Nat) (cI cB cJ cZ cQ : ClassId) (N sz : Nat) (a : Nat → Nat) (v : Nat → Value) (v1 : Int32) (s : ms) (y : (Unit × ms)) (hf : fn_Code_aim_Ks N v1 s = some y) : Met l yn_Code_aim (xw yn_Code_aim bn_Code_aim 2 none) ({ frames := 0, cells := 0, slots := 0, locals := 0 }) (dc_P (dC, dI) xcl (xt cI cB cJ cZ cQ) [.ref ((a 111)), .int v1] sz (wC a v cI cB cJ cZ cQ s)) (xk_Qv (dC, dI) xcl (xt cI cB cJ cZ cQ) (fun _ : Unit => True) (fun u : Unit => (wC a v cI cB cJ cZ cQ y.2)) (va_A (wC a v cI cB cJ cZ cQ s) sz)) 0 0 (va_A (wC a v cI cB cJ cZ cQ s) sz) := by
  refine dc_of (QA := xk_Qv (dC, dI) xcl (xt cI cB cJ cZ cQ) (fun _ : Unit => True) (fun u : Unit => (wC a v cI cB cJ cZ cQ y.2))) (by decide) (Nat.le_of_ble_eq_true rfl) ?_
  intro p e s0 m below meth c hx hb hml hown hg hr hlocks hin hP hK hN A hA hD hT ls hl
  have hown : s0.vm.findClass rn_Code = some m.cls := hown
  obtain ⟨H, hH⟩ : ∃ z, z = s0.heap := ⟨_, rfl⟩
  rw [← hH] at hP
  have hS : va_S A s0.heap H [] := by rw [hH]; exact va_S.rf
  suffices kk : ∀ QQ : State → Prop, QQ = MQ below (xk_Qv (dC, dI) xcl (xt cI cB cJ cZ cQ) (fun _ : Unit => True) (fun u : Unit => (wC a v cI cB cJ cZ cQ y.2)) A) [.ref ((a 111)), .int v1].toArray s0 0 0 A → dcC p l e ({ frames := 0, cells := 0, slots := 0, locals := 0 }) s0 m [.ref ((a 111)), .int v1].toArray below meth c QQ (dC, dI) A (wC a v cI cB cJ cZ cQ s) 0 2 [(0, .ref ((a 111))), (1, .int v1)] [] by
    have k9 := kk _ rfl H [] ls hP hD hS hl
    rw [hH] at k9; exact k9
  clear hP hD hS hl hH H ls
  intro QQ hQQ
  intro H locs ls hP hD hS hl
  unfold fn_Code_aim_Ks at hf
  refine lv_iload_n hx hb dn_Code_aim_0 rfl (lv_at hl 1 rfl) ?_
  refine lv_if_lt (tgt := 34) hx hb dn_Code_aim_1 (by decide) (fun h => ?_) (fun h => ?_)
  · have hf := (if_pos h).symm.trans hf
    rw [hQQ, ← Option.some.inj hf]
    exact xk_vret (w1 := fun u : Unit => (wC a v cI cB cJ cZ cQ s)) () hx hb hr hlocks hK hS dn_Code_aim_34 hP hD trivial (Nat.le_refl _) (Nat.le_refl _)
  · have hf := (if_neg h).symm.trans hf
    refine lv_iload_n hx hb dn_Code_aim_4 rfl (lv_at hl 1 rfl) ?_
    refine lv_aload_n hx hb dn_Code_aim_5 rfl (lv_at hl 0 rfl) ?_
    refine va_get (D := (dC, dI)) (ci := 12) (v := .int ((s.1 337 0))) (C := rn_Code) (T := fn_Code) (N := 5) hx hb hg in_Code hown hK hP 11 rfl rfl 1 (by decide) (hg _ wn_2_211) (fun _ h9 => h9) rfl dn_Code_aim_6 ?_
    refine lv_icmp_ge (tgt := 34) hx hb dn_Code_aim_9 (by decide) (fun h => ?_) (fun h => ?_)
    · have hf := (if_pos h).symm.trans hf
      rw [hQQ, ← Option.some.inj hf]
      exact xk_vret (w1 := fun u : Unit => (wC a v cI cB cJ cZ cQ s)) () hx hb hr hlocks hK hS dn_Code_aim_34 hP hD trivial (Nat.le_refl _) (Nat.le_refl _)
    · have hf := (if_neg h).symm.trans hf
      refine lv_aload_n hx hb dn_Code_aim_12 rfl (lv_at hl 0 rfl) ?_
      refine va_get (D := (dC, dI)) (ci := 12) (v := .ref ((a 336))) (C := rn_Code) (T := fn_Code) (N := 5) hx hb hg in_Code hown hK hP 11 rfl rfl 0 (by decide) (hg _ wn_2_210) (fun _ h9 => h9) rfl dn_Code_aim_13 ?_
      refine lv_iload_n hx hb dn_Code_aim_16 rfl (lv_at hl 1 rfl) ?_
      refine lv_aload_n hx hb dn_Code_aim_17 rfl (lv_at hl 0 rfl) ?_
      refine va_get (D := (dC, dI)) (ci := 12) (v := .ref ((a 336))) (C := rn_Code) (T := fn_Code) (N := 5) hx hb hg in_Code hown hK hP 11 rfl rfl 0 (by decide) (hg _ wn_2_210) (fun _ h9 => h9) rfl dn_Code_aim_18 ?_
      refine lv_iload_n hx hb dn_Code_aim_21 rfl (lv_at hl 1 rfl) ?_
      obtain ⟨hg_1, hf⟩ := dc_g hf
      refine va_lald hx hb hK hP 73 2 rfl rfl hg_1 dn_Code_aim_22 ?_
      refine xk_tl (y := ((s.2 336) (Int32.toNatClampNeg v1))) rfl ?_
      refine lv_ldc2 hx hb hown (hg _ wn_5_206) dn_Code_aim_23 ?_
      refine lv_land hx hb dn_Code_aim_26 ?_
      refine lv_aload_n hx hb dn_Code_aim_27 rfl (lv_at hl 0 rfl) ?_
      refine va_get (D := (dC, dI)) (ci := 12) (v := .int ((s.1 337 0))) (C := rn_Code) (T := fn_Code) (N := 5) hx hb hg in_Code hown hK hP 11 rfl rfl 1 (by decide) (hg _ wn_2_211) (fun _ h9 => h9) rfl dn_Code_aim_28 ?_
      refine lv_i2l (v := Int32.toInt64 ((s.1 337 0))) hx hb dn_Code_aim_31 rfl ?_
      refine lv_lor hx hb dn_Code_aim_32 ?_
      obtain ⟨hg_2, hf⟩ := dc_g hf
      refine va_last hx hb hK hP hD hS 73 2 rfl rfl hg_2 dn_Code_aim_33 (fun H locs hP hD hS => ?_)
      have hP : va_P (dC, dI) xcl ((wC a v cI cB cJ cZ cQ s).set 73 ((a 336), .inl (cJ, 65537, .inr (.inl (vp_updL (s.2 336) (Int32.toNatClampNeg v1) (((((s.2 336) (Int32.toNatClampNeg v1)) &&& (-4294967296)) ||| (Int32.toInt64 ((s.1 337 0)))))))))) H := hP
      have hD : va_D A ((wC a v cI cB cJ cZ cQ s).set 73 ((a 336), .inl (cJ, 65537, .inr (.inl (vp_updL (s.2 336) (Int32.toNatClampNeg v1) (((((s.2 336) (Int32.toNatClampNeg v1)) &&& (-4294967296)) ||| (Int32.toInt64 ((s.1 337 0)))))))))) := hD
      have hP := wC_P_336 hP
      have hD := wC_D_336 hD
      rw [hQQ, ← Option.some.inj hf]
      exact xk_vret (w1 := fun u : Unit => (wC a v cI cB cJ cZ cQ (upJ s 336 (vp_updL (s.2 336) (Int32.toNatClampNeg v1) (((((s.2 336) (Int32.toNatClampNeg v1)) &&& (-4294967296)) ||| (Int32.toInt64 ((s.1 337 0))))))))) () hx hb hr hlocks hK hS dn_Code_aim_34 hP hD trivial (Nat.le_refl _) (Nat.le_refl _)
set_option maxHeartbeats 8000000 in
set_option maxRecDepth 100000 in
theorem ct_Meaning_ifEnd_Me (l : Launch) (dC : Nat → ClassId) (dI : Nat → Nat → Nat) (cI cB cJ cZ cQ : ClassId) (N sz : Nat) (a : Nat → Nat) (v : Nat → Value) (hv_6 : v 6 = .ref (a 111)) (s : ms) (y : (Unit × ms)) (hf : fn_Meaning_ifEnd_Me N s = some y) : Met l yn_Meaning_ifEnd (xw yn_Meaning_ifEnd bn_Meaning_ifEnd 1 none) ({ frames := 1, cells := 0, slots := 0, locals := 21 }) (dc_P (dC, dI) xcl (xt cI cB cJ cZ cQ) [.ref ((a 104))] sz (wC a v cI cB cJ cZ cQ s)) (xk_Qv (dC, dI) xcl (xt cI cB cJ cZ cQ) (fun _ : Unit => True) (fun u : Unit => (wC a v cI cB cJ cZ cQ y.2)) (va_A (wC a v cI cB cJ cZ cQ s) sz)) 0 0 (va_A (wC a v cI cB cJ cZ cQ s) sz) := by
  refine dc_of (QA := xk_Qv (dC, dI) xcl (xt cI cB cJ cZ cQ) (fun _ : Unit => True) (fun u : Unit => (wC a v cI cB cJ cZ cQ y.2))) (by decide) (Nat.le_of_ble_eq_true rfl) ?_
  intro p e s0 m below meth c hx hb hml hown hg hr hlocks hin hP hK hN A hA hD hT ls hl
  have hown : s0.vm.findClass rn_Meaning = some m.cls := hown
  obtain ⟨H, hH⟩ : ∃ z, z = s0.heap := ⟨_, rfl⟩
  rw [← hH] at hP
  have hS : va_S A s0.heap H [] := by rw [hH]; exact va_S.rf
  suffices kk : ∀ QQ : State → Prop, QQ = MQ below (xk_Qv (dC, dI) xcl (xt cI cB cJ cZ cQ) (fun _ : Unit => True) (fun u : Unit => (wC a v cI cB cJ cZ cQ y.2)) A) [.ref ((a 104))].toArray s0 0 0 A → dcC p l e ({ frames := 1, cells := 0, slots := 0, locals := 21 }) s0 m [.ref ((a 104))].toArray below meth c QQ (dC, dI) A (wC a v cI cB cJ cZ cQ s) 0 1 [(0, .ref ((a 104)))] [] by
    have k9 := kk _ rfl H [] ls hP hD hS hl
    rw [hH] at k9; exact k9
  clear hP hD hS hl hH H ls
  intro QQ hQQ
  intro H locs ls hP hD hS hl
  unfold fn_Meaning_ifEnd_Me at hf
  refine lv_aload_n hx hb dn_Meaning_ifEnd_0 rfl (lv_at hl 0 rfl) ?_
  refine va_get (D := (dC, dI)) (ci := 5) (v := .ref ((a 103))) (C := rn_Meaning) (T := fn_Meaning) (N := 17) hx hb hg in_Meaning hown hK hP 4 rfl rfl 0 (by decide) (hg _ wn_1_184) (fun _ h9 => h9) rfl dn_Meaning_ifEnd_1 ?_
  obtain ⟨q_1, hc_2, hf⟩ := dc_b hf
  refine dc_calli (dc_runV (ar := 0) (As := []) (rest := []) (ci := 4) (q0 := 3) ⟨hx, hb, hml, hown, hg⟩ hK hN hT hS hA (ct_Checker_isOff_Ch l dC dI cI cB cJ cZ cQ N H.size a v s q_1 hc_2) hP hD rfl rfl wn_4_193 wn_4_194 wn_4_195 wn_1_4 wn_4_196 rfl rfl (by decide +kernel) ⟨Nat.le_of_ble_eq_true rfl, Nat.le_of_ble_eq_true rfl⟩ rfl hl.1 rfl (Nat.le_of_ble_eq_true rfl) dn_Meaning_ifEnd_4 ⟨Nat.le_of_ble_eq_true rfl, Nat.le_of_ble_eq_true rfl⟩) hP hD hS hA (fun r_3 _ H locs hw hP hD hS => ?_)
  have hw : r_3 = q_1.1 := hw
  subst hw
  refine lv_if_ne (tgt := 17) hx hb dn_Meaning_ifEnd_7 (by decide) (fun h => ?_) (fun h => ?_)
  · have hf := (if_neg h).symm.trans hf
    rw [hQQ, ← Option.some.inj hf]
    exact xk_vret (w1 := fun u : Unit => (wC a v cI cB cJ cZ cQ q_1.2)) () hx hb hr hlocks hK hS dn_Meaning_ifEnd_17 hP hD trivial (Nat.le_refl _) (Nat.le_refl _)
  · have hf := (if_pos h).symm.trans hf
    refine lv_aload_n hx hb dn_Meaning_ifEnd_10 rfl (lv_at hl 0 rfl) ?_
    refine va_get (D := (dC, dI)) (ci := 5) (v := .int ((q_1.2.1 260 0))) (C := rn_Meaning) (T := fn_Meaning) (N := 17) hx hb hg in_Meaning hown hK hP 4 rfl rfl 16 (by decide) (hg _ wn_1_200) (fun _ h9 => h9) rfl dn_Meaning_ifEnd_11 ?_
    refine lv_if_ne (tgt := 18) hx hb dn_Meaning_ifEnd_14 (by decide) (fun h => ?_) (fun h => ?_)
    · have hf := (if_neg h).symm.trans hf
      refine lv_aload_n hx hb dn_Meaning_ifEnd_18 rfl (lv_at hl 0 rfl) ?_
      refine lv_dup hx hb dn_Meaning_ifEnd_19 rfl ?_
      refine va_get (D := (dC, dI)) (ci := 5) (v := .int ((q_1.2.1 260 0))) (C := rn_Meaning) (T := fn_Meaning) (N := 17) hx hb hg in_Meaning hown hK hP 4 rfl rfl 16 (by decide) (hg _ wn_1_200) (fun _ h9 => h9) rfl dn_Meaning_ifEnd_20 ?_
      refine lv_iconst (v := 1) hx hb dn_Meaning_ifEnd_23 (by decide) ?_
      refine lv_isub hx hb dn_Meaning_ifEnd_24 ?_
      refine va_put (D := (dC, dI)) (ci := 5) (v := .int (((q_1.2.1 260 0) - 1))) (ty := .int) (C := rn_Meaning) (T := fn_Meaning) (N := 17) hx hb hg in_Meaning tn_Meaning tk_Meaning nn_Meaning hown hK hP hD hS 4 rfl rfl 16 (by decide) (hg _ wn_1_200) (fun _ h9 => h9) rfl (tk_Meaning 16 (by decide)) rfl rfl (Nat.le_of_ble_eq_true rfl) dn_Meaning_ifEnd_25 (fun H locs hP hD hS => ?_)
      have hP := wC_P_260 hP
      have hD := wC_D_260 hD
      refine lv_aload_n hx hb dn_Meaning_ifEnd_28 rfl (lv_at hl 0 rfl) ?_
      refine va_get (D := (dC, dI)) (ci := 5) (v := .ref ((a 111))) (C := rn_Meaning) (T := fn_Meaning) (N := 17) hx hb hg in_Meaning hown hK hP 4 rfl rfl 3 (by decide) (hg _ wn_1_187) (fun _ h9 => h9) (congrArg some hv_6) dn_Meaning_ifEnd_29 ?_
      refine lv_aload_n hx hb dn_Meaning_ifEnd_32 rfl (lv_at hl 0 rfl) ?_
      refine va_get (D := (dC, dI)) (ci := 5) (v := .ref ((a 256))) (C := rn_Meaning) (T := fn_Meaning) (N := 17) hx hb hg in_Meaning hown hK hP 4 rfl rfl 12 (by decide) (hg _ wn_1_196) (fun _ h9 => h9) rfl dn_Meaning_ifEnd_33 ?_
      refine lv_aload_n hx hb dn_Meaning_ifEnd_36 rfl (lv_at hl 0 rfl) ?_
      refine va_get (D := (dC, dI)) (ci := 5) (v := .int (((q_1.2.1 260 0) - 1))) (C := rn_Meaning) (T := fn_Meaning) (N := 17) hx hb hg in_Meaning hown hK hP 4 rfl rfl 16 (by decide) (hg _ wn_1_200) (fun _ h9 => h9) rfl dn_Meaning_ifEnd_37 ?_
      obtain ⟨hg_4, hf⟩ := dc_g hf
      refine va_iald hx hb hK hP 26 0 rfl rfl hg_4 dn_Meaning_ifEnd_40 ?_
      refine xk_ti (y := ((q_1.2.1 256) (Int32.toNatClampNeg (((q_1.2.1 260 0) - 1))))) rfl ?_
      obtain ⟨q_5, hc_6, hf⟩ := dc_b hf
      refine dc_callv (dc_runV (ar := 1) (As := [.int (((q_1.2.1 256) (Int32.toNatClampNeg (((q_1.2.1 260 0) - 1)))))]) (rest := []) (ci := 12) (q0 := 11) ⟨hx, hb, hml, hown, hg⟩ hK hN hT hS hA (ct_Code_aim_Ks l dC dI cI cB cJ cZ cQ N H.size a v (((q_1.2.1 256) (Int32.toNatClampNeg (((q_1.2.1 260 0) - 1))))) (upI q_1.2 260 (fun _ => ((q_1.2.1 260 0) - 1))) q_5 hc_6) hP hD rfl rfl wn_5_202 wn_5_203 wn_5_204 wn_1_12 wn_5_205 rfl rfl (by decide +kernel) ⟨Nat.le_of_ble_eq_true rfl, Nat.le_of_ble_eq_true rfl⟩ rfl hl.1 rfl (Nat.le_of_ble_eq_true rfl) dn_Meaning_ifEnd_41 ⟨Nat.le_of_ble_eq_true rfl, Nat.le_of_ble_eq_true rfl⟩) hP hD hS hA (fun _ H locs hw hP hD hS => ?_)
      rw [hQQ, ← Option.some.inj hf]
      exact xk_vret (w1 := fun u : Unit => (wC a v cI cB cJ cZ cQ q_5.2)) () hx hb hr hlocks hK hS dn_Meaning_ifEnd_44 hP hD trivial (Nat.le_refl _) (Nat.le_refl _)
    · have hf := (if_pos h).symm.trans hf
      rw [hQQ, ← Option.some.inj hf]
      exact xk_vret (w1 := fun u : Unit => (wC a v cI cB cJ cZ cQ q_1.2)) () hx hb hr hlocks hK hS dn_Meaning_ifEnd_17 hP hD trivial (Nat.le_refl _) (Nat.le_refl _)
set_option maxHeartbeats 8000000 in
set_option maxRecDepth 100000 in
theorem ct_Grammar_ifEnd_Gr (l : Launch) (dC : Nat → ClassId) (dI : Nat → Nat → Nat) (cI cB cJ cZ cQ : ClassId) (N sz : Nat) (a : Nat → Nat) (v : Nat → Value) (hv_6 : v 6 = .ref (a 111)) (s : ms) (y : (Unit × ms)) (hf : fn_Grammar_ifEnd_Gr N s = some y) : Met l yn_Grammar_ifEnd (xw yn_Grammar_ifEnd bn_Grammar_ifEnd 1 none) ({ frames := 2, cells := 0, slots := 0, locals := 41 }) (dc_P (dC, dI) xcl (xt cI cB cJ cZ cQ) [.ref ((a 105))] sz (wC a v cI cB cJ cZ cQ s)) (xk_Qv (dC, dI) xcl (xt cI cB cJ cZ cQ) (fun _ : Unit => True) (fun u : Unit => (wC a v cI cB cJ cZ cQ y.2)) (va_A (wC a v cI cB cJ cZ cQ s) sz)) 0 0 (va_A (wC a v cI cB cJ cZ cQ s) sz) := by
  refine dc_of (QA := xk_Qv (dC, dI) xcl (xt cI cB cJ cZ cQ) (fun _ : Unit => True) (fun u : Unit => (wC a v cI cB cJ cZ cQ y.2))) (by decide) (Nat.le_of_ble_eq_true rfl) ?_
  intro p e s0 m below meth c hx hb hml hown hg hr hlocks hin hP hK hN A hA hD hT ls hl
  have hown : s0.vm.findClass rn_Grammar = some m.cls := hown
  obtain ⟨H, hH⟩ : ∃ z, z = s0.heap := ⟨_, rfl⟩
  rw [← hH] at hP
  have hS : va_S A s0.heap H [] := by rw [hH]; exact va_S.rf
  suffices kk : ∀ QQ : State → Prop, QQ = MQ below (xk_Qv (dC, dI) xcl (xt cI cB cJ cZ cQ) (fun _ : Unit => True) (fun u : Unit => (wC a v cI cB cJ cZ cQ y.2)) A) [.ref ((a 105))].toArray s0 0 0 A → dcC p l e ({ frames := 2, cells := 0, slots := 0, locals := 41 }) s0 m [.ref ((a 105))].toArray below meth c QQ (dC, dI) A (wC a v cI cB cJ cZ cQ s) 0 1 [(0, .ref ((a 105)))] [] by
    have k9 := kk _ rfl H [] ls hP hD hS hl
    rw [hH] at k9; exact k9
  clear hP hD hS hl hH H ls
  intro QQ hQQ
  intro H locs ls hP hD hS hl
  unfold fn_Grammar_ifEnd_Gr at hf
  refine lv_aload_n hx hb dn_Grammar_ifEnd_0 rfl (lv_at hl 0 rfl) ?_
  refine va_get (D := (dC, dI)) (ci := 6) (v := .ref ((a 101))) (C := rn_Grammar) (T := fn_Grammar) (N := 15) hx hb hg in_Grammar hown hK hP 5 rfl rfl 0 (by decide) (hg _ wn_2_0) (fun _ h9 => h9) rfl dn_Grammar_ifEnd_1 ?_
  obtain ⟨q_1, hc_2, hf⟩ := dc_b hf
  refine dc_callv (dc_runV (ar := 0) (As := []) (rest := []) (ci := 2) (q0 := 1) ⟨hx, hb, hml, hown, hg⟩ hK hN hT hS hA (ct_Tokens_shutQuietly_Tk l dC dI cI cB cJ cZ cQ N H.size a v s q_1 hc_2) hP hD rfl rfl wn_5_211 wn_5_212 wn_5_213 wn_1_2 wn_5_214 rfl rfl (by decide +kernel) ⟨Nat.le_of_ble_eq_true rfl, Nat.le_of_ble_eq_true rfl⟩ rfl hl.1 rfl (Nat.le_of_ble_eq_true rfl) dn_Grammar_ifEnd_4 ⟨Nat.le_of_ble_eq_true rfl, Nat.le_of_ble_eq_true rfl⟩) hP hD hS hA (fun _ H locs hw hP hD hS => ?_)
  refine lv_aload_n hx hb dn_Grammar_ifEnd_7 rfl (lv_at hl 0 rfl) ?_
  refine va_get (D := (dC, dI)) (ci := 6) (v := .ref ((a 104))) (C := rn_Grammar) (T := fn_Grammar) (N := 15) hx hb hg in_Grammar hown hK hP 5 rfl rfl 2 (by decide) (hg _ wn_2_2) (fun _ h9 => h9) rfl dn_Grammar_ifEnd_8 ?_
  obtain ⟨q_3, hc_4, hf⟩ := dc_b hf
  refine dc_callv (dc_runV (ar := 0) (As := []) (rest := []) (ci := 5) (q0 := 4) ⟨hx, hb, hml, hown, hg⟩ hK hN hT hS hA (ct_Meaning_ifEnd_Me l dC dI cI cB cJ cZ cQ N H.size a v hv_6 q_1.2 q_3 hc_4) hP hD rfl rfl wn_5_215 wn_5_216 wn_5_217 wn_1_6 wn_5_218 rfl rfl (by decide +kernel) ⟨Nat.le_of_ble_eq_true rfl, Nat.le_of_ble_eq_true rfl⟩ rfl hl.1 rfl (Nat.le_of_ble_eq_true rfl) dn_Grammar_ifEnd_11 ⟨Nat.le_of_ble_eq_true rfl, Nat.le_of_ble_eq_true rfl⟩) hP hD hS hA (fun _ H locs hw hP hD hS => ?_)
  refine lv_aload_n hx hb dn_Grammar_ifEnd_14 rfl (lv_at hl 0 rfl) ?_
  refine lv_dup hx hb dn_Grammar_ifEnd_15 rfl ?_
  refine va_get (D := (dC, dI)) (ci := 6) (v := .int ((q_3.2.1 271 0))) (C := rn_Grammar) (T := fn_Grammar) (N := 15) hx hb hg in_Grammar hown hK hP 5 rfl rfl 10 (by decide) (hg _ wn_2_10) (fun _ h9 => h9) rfl dn_Grammar_ifEnd_16 ?_
  refine lv_iconst (v := 1) hx hb dn_Grammar_ifEnd_19 (by decide) ?_
  refine lv_isub hx hb dn_Grammar_ifEnd_20 ?_
  refine va_put (D := (dC, dI)) (ci := 6) (v := .int (((q_3.2.1 271 0) - 1))) (ty := .int) (C := rn_Grammar) (T := fn_Grammar) (N := 15) hx hb hg in_Grammar tn_Grammar tk_Grammar nn_Grammar hown hK hP hD hS 5 rfl rfl 10 (by decide) (hg _ wn_2_10) (fun _ h9 => h9) rfl (tk_Grammar 10 (by decide)) rfl rfl (Nat.le_of_ble_eq_true rfl) dn_Grammar_ifEnd_21 (fun H locs hP hD hS => ?_)
  have hP := wC_P_271 hP
  have hD := wC_D_271 hD
  rw [hQQ, ← Option.some.inj hf]
  exact xk_vret (w1 := fun u : Unit => (wC a v cI cB cJ cZ cQ (upI q_3.2 271 (fun _ => ((q_3.2.1 271 0) - 1))))) () hx hb hr hlocks hK hS dn_Grammar_ifEnd_24 hP hD trivial (Nat.le_refl _) (Nat.le_refl _)
