set_option maxHeartbeats 8000000 in
set_option maxRecDepth 100000 in
theorem ct_Code_valueOf_Kc (l : Launch) (dC : Nat → ClassId) (dI : Nat → Nat → Nat) (cI cB cJ cZ cQ : ClassId) (N sz : Nat) (a : Nat → Nat) (v : Nat → Value) (v1 : Int32) (s : ms) (y : (Int64 × ms)) (hf : fn_Code_valueOf_Kc N v1 s = some y) : Met l yn_Code_valueOf (xw yn_Code_valueOf bn_Code_valueOf 2 (some .long)) ({ frames := 0, cells := 0, slots := 0, locals := 0 }) (dc_P (dC, dI) xcl (xt cI cB cJ cZ cQ) [.ref ((a 115)), .int v1] sz (wC a v cI cB cJ cZ cQ s)) (xk_Ql (dC, dI) xcl (xt cI cB cJ cZ cQ) (fun (r : Int64) (_ : Unit) => r = y.1) (fun u : Unit => (wC a v cI cB cJ cZ cQ y.2)) (va_A (wC a v cI cB cJ cZ cQ s) sz)) 0 0 (va_A (wC a v cI cB cJ cZ cQ s) sz) := by
  refine dc_of (QA := xk_Ql (dC, dI) xcl (xt cI cB cJ cZ cQ) (fun (r : Int64) (_ : Unit) => r = y.1) (fun u : Unit => (wC a v cI cB cJ cZ cQ y.2))) (by decide) (Nat.le_of_ble_eq_true rfl) ?_
  intro p e s0 m below meth c hx hb hml hown hg hr hlocks hin hP hK hN A hA hD hT ls hl
  have hown : s0.vm.findClass rn_Code = some m.cls := hown
  obtain ⟨H, hH⟩ : ∃ z, z = s0.heap := ⟨_, rfl⟩
  rw [← hH] at hP
  have hS : va_S A s0.heap H [] := by rw [hH]; exact va_S.rf
  suffices kk : ∀ QQ : State → Prop, QQ = MQ below (xk_Ql (dC, dI) xcl (xt cI cB cJ cZ cQ) (fun (r : Int64) (_ : Unit) => r = y.1) (fun u : Unit => (wC a v cI cB cJ cZ cQ y.2)) A) [.ref ((a 115)), .int v1].toArray s0 0 0 A → dcC p l e ({ frames := 0, cells := 0, slots := 0, locals := 0 }) s0 m [.ref ((a 115)), .int v1].toArray below meth c QQ (dC, dI) A (wC a v cI cB cJ cZ cQ s) 0 2 [(0, .ref ((a 115))), (1, .int v1)] [] by
    have k9 := kk _ rfl H [] ls hP hD hS hl
    rw [hH] at k9; exact k9
  clear hP hD hS hl hH H ls
  intro QQ hQQ
  intro H locs ls hP hD hS hl
  unfold fn_Code_valueOf_Kc at hf
  refine lv_iload_n hx hb dn_Code_valueOf_0 rfl (lv_at hl 1 rfl) ?_
  refine lv_if_lt (tgt := 21) hx hb dn_Code_valueOf_1 (by decide) (fun h => ?_) (fun h => ?_)
  · have hf := (if_pos h).symm.trans hf
    refine lv_lconst (v := 0) hx hb dn_Code_valueOf_21 (by decide) ?_
    rw [hQQ, ← Option.some.inj hf]
    exact xk_lret (w1 := fun u : Unit => (wC a v cI cB cJ cZ cQ s)) () hx hb hr hlocks hK hS dn_Code_valueOf_22 hP hD rfl (Nat.le_refl _) (Nat.le_refl _)
  · have hf := (if_neg h).symm.trans hf
    refine lv_iload_n hx hb dn_Code_valueOf_4 rfl (lv_at hl 1 rfl) ?_
    refine lv_aload_n hx hb dn_Code_valueOf_5 rfl (lv_at hl 0 rfl) ?_
    refine va_get (D := (dC, dI)) (ci := 12) (v := .int ((s.1 390 0))) (C := rn_Code) (T := fn_Code) (N := 5) hx hb hg in_Code hown hK hP 15 rfl rfl 4 (by decide) (hg _ wn_2_219) (fun _ h9 => h9) rfl dn_Code_valueOf_6 ?_
    refine lv_icmp_ge (tgt := 21) hx hb dn_Code_valueOf_9 (by decide) (fun h => ?_) (fun h => ?_)
    · have hf := (if_pos h).symm.trans hf
      refine lv_lconst (v := 0) hx hb dn_Code_valueOf_21 (by decide) ?_
      rw [hQQ, ← Option.some.inj hf]
      exact xk_lret (w1 := fun u : Unit => (wC a v cI cB cJ cZ cQ s)) () hx hb hr hlocks hK hS dn_Code_valueOf_22 hP hD rfl (Nat.le_refl _) (Nat.le_refl _)
    · have hf := (if_neg h).symm.trans hf
      refine lv_aload_n hx hb dn_Code_valueOf_12 rfl (lv_at hl 0 rfl) ?_
      refine va_get (D := (dC, dI)) (ci := 12) (v := .ref ((a 389))) (C := rn_Code) (T := fn_Code) (N := 5) hx hb hg in_Code hown hK hP 15 rfl rfl 3 (by decide) (hg _ wn_2_218) (fun _ h9 => h9) rfl dn_Code_valueOf_13 ?_
      refine lv_iload_n hx hb dn_Code_valueOf_16 rfl (lv_at hl 1 rfl) ?_
      obtain ⟨hg_1, hf⟩ := dc_g hf
      refine va_lald hx hb hK hP 109 2 rfl rfl hg_1 dn_Code_valueOf_17 ?_
      refine xk_tl (y := ((s.2 389) (Int32.toNatClampNeg v1))) rfl ?_
      refine lv_goto (tgt := 22) hx hb dn_Code_valueOf_18 (by decide) ?_
      rw [hQQ, ← Option.some.inj hf]
      exact xk_lret (w1 := fun u : Unit => (wC a v cI cB cJ cZ cQ s)) () hx hb hr hlocks hK hS dn_Code_valueOf_22 hP hD rfl (Nat.le_refl _) (Nat.le_refl _)
set_option maxHeartbeats 8000000 in
set_option maxRecDepth 100000 in
theorem ct_Design_setPorts_Dc (l : Launch) (dC : Nat → ClassId) (dI : Nat → Nat → Nat) (cI cB cJ cZ cQ : ClassId) (N sz : Nat) (a : Nat → Nat) (v : Nat → Value) (s : ms) (y : (Unit × ms)) (hf : fn_Design_setPorts_Dc N s = some y) : Met l yn_Design_setPorts (xw yn_Design_setPorts bn_Design_setPorts 1 none) ({ frames := 0, cells := 0, slots := 0, locals := 0 }) (dc_P (dC, dI) xcl (xt cI cB cJ cZ cQ) [.ref ((a 113))] sz (wC a v cI cB cJ cZ cQ s)) (xk_Qv (dC, dI) xcl (xt cI cB cJ cZ cQ) (fun _ : Unit => True) (fun u : Unit => (wC a v cI cB cJ cZ cQ y.2)) (va_A (wC a v cI cB cJ cZ cQ s) sz)) 0 0 (va_A (wC a v cI cB cJ cZ cQ s) sz) := by
  refine dc_of (QA := xk_Qv (dC, dI) xcl (xt cI cB cJ cZ cQ) (fun _ : Unit => True) (fun u : Unit => (wC a v cI cB cJ cZ cQ y.2))) (by decide) (Nat.le_of_ble_eq_true rfl) ?_
  intro p e s0 m below meth c hx hb hml hown hg hr hlocks hin hP hK hN A hA hD hT ls hl
  have hown : s0.vm.findClass rn_Design = some m.cls := hown
  obtain ⟨H, hH⟩ : ∃ z, z = s0.heap := ⟨_, rfl⟩
  rw [← hH] at hP
  have hS : va_S A s0.heap H [] := by rw [hH]; exact va_S.rf
  suffices kk : ∀ QQ : State → Prop, QQ = MQ below (xk_Qv (dC, dI) xcl (xt cI cB cJ cZ cQ) (fun _ : Unit => True) (fun u : Unit => (wC a v cI cB cJ cZ cQ y.2)) A) [.ref ((a 113))].toArray s0 0 0 A → dcC p l e ({ frames := 0, cells := 0, slots := 0, locals := 0 }) s0 m [.ref ((a 113))].toArray below meth c QQ (dC, dI) A (wC a v cI cB cJ cZ cQ s) 0 1 [(0, .ref ((a 113)))] [] by
    have k9 := kk _ rfl H [] ls hP hD hS hl
    rw [hH] at k9; exact k9
  clear hP hD hS hl hH H ls
  intro QQ hQQ
  intro H locs ls hP hD hS hl
  unfold fn_Design_setPorts_Dc at hf
  refine lv_aload_n hx hb dn_Design_setPorts_0 rfl (lv_at hl 0 rfl) ?_
  refine va_get (D := (dC, dI)) (ci := 10) (v := .int ((s.1 359 0))) (C := rn_Design) (T := fn_Design) (N := 16) hx hb hg in_Design hown hK hP 13 rfl rfl 4 (by decide) (hg _ wn_3_10) (fun _ h9 => h9) rfl dn_Design_setPorts_1 ?_
  refine lv_if_ne (tgt := 8) hx hb dn_Design_setPorts_4 (by decide) (fun h => ?_) (fun h => ?_)
  · have hf := (if_neg h).symm.trans hf
    refine lv_aload_n hx hb dn_Design_setPorts_8 rfl (lv_at hl 0 rfl) ?_
    refine va_get (D := (dC, dI)) (ci := 10) (v := .ref ((a 363))) (C := rn_Design) (T := fn_Design) (N := 16) hx hb hg in_Design hown hK hP 13 rfl rfl 8 (by decide) (hg _ wn_3_17) (fun _ h9 => h9) rfl dn_Design_setPorts_9 ?_
    refine lv_aload_n hx hb dn_Design_setPorts_12 rfl (lv_at hl 0 rfl) ?_
    refine va_get (D := (dC, dI)) (ci := 10) (v := .int ((s.1 359 0))) (C := rn_Design) (T := fn_Design) (N := 16) hx hb hg in_Design hown hK hP 13 rfl rfl 4 (by decide) (hg _ wn_3_10) (fun _ h9 => h9) rfl dn_Design_setPorts_13 ?_
    refine lv_iconst (v := 1) hx hb dn_Design_setPorts_16 (by decide) ?_
    refine lv_isub hx hb dn_Design_setPorts_17 ?_
    refine lv_aload_n hx hb dn_Design_setPorts_18 rfl (lv_at hl 0 rfl) ?_
    refine va_get (D := (dC, dI)) (ci := 10) (v := .ref ((a 114))) (C := rn_Design) (T := fn_Design) (N := 16) hx hb hg in_Design hown hK hP 13 rfl rfl 0 (by decide) (hg _ wn_2_234) (fun _ h9 => h9) rfl dn_Design_setPorts_19 ?_
    refine va_get (D := (dC, dI)) (ci := 11) (v := .int ((s.1 371 0))) (C := rn_Parts) (T := fn_Parts) (N := 15) hx hb hg in_Parts hown hK hP 14 rfl rfl 0 (by decide) (hg _ wn_2_124) (fun _ h9 => h9) rfl dn_Design_setPorts_22 ?_
    refine lv_aload_n hx hb dn_Design_setPorts_25 rfl (lv_at hl 0 rfl) ?_
    refine va_get (D := (dC, dI)) (ci := 10) (v := .ref ((a 362))) (C := rn_Design) (T := fn_Design) (N := 16) hx hb hg in_Design hown hK hP 13 rfl rfl 7 (by decide) (hg _ wn_3_16) (fun _ h9 => h9) rfl dn_Design_setPorts_26 ?_
    refine lv_aload_n hx hb dn_Design_setPorts_29 rfl (lv_at hl 0 rfl) ?_
    refine va_get (D := (dC, dI)) (ci := 10) (v := .int ((s.1 359 0))) (C := rn_Design) (T := fn_Design) (N := 16) hx hb hg in_Design hown hK hP 13 rfl rfl 4 (by decide) (hg _ wn_3_10) (fun _ h9 => h9) rfl dn_Design_setPorts_30 ?_
    refine lv_iconst (v := 1) hx hb dn_Design_setPorts_33 (by decide) ?_
    refine lv_isub hx hb dn_Design_setPorts_34 ?_
    obtain ⟨hg_1, hf⟩ := dc_g hf
    refine va_iald hx hb hK hP 88 0 rfl rfl hg_1 dn_Design_setPorts_35 ?_
    refine xk_ti (y := ((s.1 362) (Int32.toNatClampNeg (((s.1 359 0) - 1))))) rfl ?_
    refine lv_isub hx hb dn_Design_setPorts_36 ?_
    obtain ⟨hg_2, hf⟩ := dc_g hf
    refine va_iast hx hb hK hP hD hS 89 0 rfl rfl hg_2 dn_Design_setPorts_37 (fun H locs hP hD hS => ?_)
    have hP : va_P (dC, dI) xcl ((wC a v cI cB cJ cZ cQ s).set 89 ((a 363), .inl (cI, 3277, .inl (upd (s.1 363) (Int32.toNatClampNeg (((s.1 359 0) - 1))) (((s.1 371 0) - ((s.1 362) (Int32.toNatClampNeg (((s.1 359 0) - 1)))))))))) H := hP
    have hD : va_D A ((wC a v cI cB cJ cZ cQ s).set 89 ((a 363), .inl (cI, 3277, .inl (upd (s.1 363) (Int32.toNatClampNeg (((s.1 359 0) - 1))) (((s.1 371 0) - ((s.1 362) (Int32.toNatClampNeg (((s.1 359 0) - 1)))))))))) := hD
    have hP := wC_P_363 hP
    have hD := wC_D_363 hD
    rw [hQQ, ← Option.some.inj hf]
    exact xk_vret (w1 := fun u : Unit => (wC a v cI cB cJ cZ cQ (upI s 363 (upd (s.1 363) (Int32.toNatClampNeg (((s.1 359 0) - 1))) (((s.1 371 0) - ((s.1 362) (Int32.toNatClampNeg (((s.1 359 0) - 1)))))))))) () hx hb hr hlocks hK hS dn_Design_setPorts_38 hP hD trivial (Nat.le_refl _) (Nat.le_refl _)
  · have hf := (if_pos h).symm.trans hf
    rw [hQQ, ← Option.some.inj hf]
    exact xk_vret (w1 := fun u : Unit => (wC a v cI cB cJ cZ cQ s)) () hx hb hr hlocks hK hS dn_Design_setPorts_7 hP hD trivial (Nat.le_refl _) (Nat.le_refl _)
set_option maxHeartbeats 8000000 in
set_option maxRecDepth 100000 in
theorem ct_Parts_addChild_Ps (l : Launch) (dC : Nat → ClassId) (dI : Nat → Nat → Nat) (cI cB cJ cZ cQ : ClassId) (N sz : Nat) (a : Nat → Nat) (v : Nat → Value) (v1 : Int32) (s : ms) (y : (Unit × ms)) (hf : fn_Parts_addChild_Ps N v1 s = some y) : Met l yn_Parts_addChild (xw yn_Parts_addChild bn_Parts_addChild 2 none) ({ frames := 0, cells := 0, slots := 0, locals := 0 }) (dc_P (dC, dI) xcl (xt cI cB cJ cZ cQ) [.ref ((a 110)), .int v1] sz (wC a v cI cB cJ cZ cQ s)) (xk_Qv (dC, dI) xcl (xt cI cB cJ cZ cQ) (fun _ : Unit => True) (fun u : Unit => (wC a v cI cB cJ cZ cQ y.2)) (va_A (wC a v cI cB cJ cZ cQ s) sz)) 0 0 (va_A (wC a v cI cB cJ cZ cQ s) sz) := by
  refine dc_of (QA := xk_Qv (dC, dI) xcl (xt cI cB cJ cZ cQ) (fun _ : Unit => True) (fun u : Unit => (wC a v cI cB cJ cZ cQ y.2))) (by decide) (Nat.le_of_ble_eq_true rfl) ?_
  intro p e s0 m below meth c hx hb hml hown hg hr hlocks hin hP hK hN A hA hD hT ls hl
  have hown : s0.vm.findClass rn_Parts = some m.cls := hown
  obtain ⟨H, hH⟩ : ∃ z, z = s0.heap := ⟨_, rfl⟩
  rw [← hH] at hP
  have hS : va_S A s0.heap H [] := by rw [hH]; exact va_S.rf
  suffices kk : ∀ QQ : State → Prop, QQ = MQ below (xk_Qv (dC, dI) xcl (xt cI cB cJ cZ cQ) (fun _ : Unit => True) (fun u : Unit => (wC a v cI cB cJ cZ cQ y.2)) A) [.ref ((a 110)), .int v1].toArray s0 0 0 A → dcC p l e ({ frames := 0, cells := 0, slots := 0, locals := 0 }) s0 m [.ref ((a 110)), .int v1].toArray below meth c QQ (dC, dI) A (wC a v cI cB cJ cZ cQ s) 0 2 [(0, .ref ((a 110))), (1, .int v1)] [] by
    have k9 := kk _ rfl H [] ls hP hD hS hl
    rw [hH] at k9; exact k9
  clear hP hD hS hl hH H ls
  intro QQ hQQ
  intro H locs ls hP hD hS hl
  unfold fn_Parts_addChild_Ps at hf
  refine lv_aload_n hx hb dn_Parts_addChild_0 rfl (lv_at hl 0 rfl) ?_
  refine va_get (D := (dC, dI)) (ci := 11) (v := .int ((s.1 328 0))) (C := rn_Parts) (T := fn_Parts) (N := 15) hx hb hg in_Parts hown hK hP 10 rfl rfl 7 (by decide) (hg _ wn_2_149) (fun _ h9 => h9) rfl dn_Parts_addChild_1 ?_
  refine lv_sipush (v := 10923) hx hb dn_Parts_addChild_4 (by decide) ?_
  refine lv_icmp_lt (tgt := 11) hx hb dn_Parts_addChild_7 (by decide) (fun h => ?_) (fun h => ?_)
  · have hf := (if_pos h).symm.trans hf
    refine lv_aload_n hx hb dn_Parts_addChild_11 rfl (lv_at hl 0 rfl) ?_
    refine va_get (D := (dC, dI)) (ci := 11) (v := .ref ((a 329))) (C := rn_Parts) (T := fn_Parts) (N := 15) hx hb hg in_Parts hown hK hP 10 rfl rfl 8 (by decide) (hg _ wn_2_152) (fun _ h9 => h9) rfl dn_Parts_addChild_12 ?_
    refine lv_aload_n hx hb dn_Parts_addChild_15 rfl (lv_at hl 0 rfl) ?_
    refine va_get (D := (dC, dI)) (ci := 11) (v := .int ((s.1 328 0))) (C := rn_Parts) (T := fn_Parts) (N := 15) hx hb hg in_Parts hown hK hP 10 rfl rfl 7 (by decide) (hg _ wn_2_149) (fun _ h9 => h9) rfl dn_Parts_addChild_16 ?_
    refine lv_iload_n hx hb dn_Parts_addChild_19 rfl (lv_at hl 1 rfl) ?_
    obtain ⟨hg_1, hf⟩ := dc_g hf
    refine va_iast hx hb hK hP hD hS 67 0 rfl rfl hg_1 dn_Parts_addChild_20 (fun H locs hP hD hS => ?_)
    have hP : va_P (dC, dI) xcl ((wC a v cI cB cJ cZ cQ s).set 67 ((a 329), .inl (cI, 10923, .inl (upd (s.1 329) (Int32.toNatClampNeg ((s.1 328 0))) v1)))) H := hP
    have hD : va_D A ((wC a v cI cB cJ cZ cQ s).set 67 ((a 329), .inl (cI, 10923, .inl (upd (s.1 329) (Int32.toNatClampNeg ((s.1 328 0))) v1)))) := hD
    have hP := wC_P_329 hP
    have hD := wC_D_329 hD
    refine lv_aload_n hx hb dn_Parts_addChild_21 rfl (lv_at hl 0 rfl) ?_
    refine va_get (D := (dC, dI)) (ci := 11) (v := .ref ((a 330))) (C := rn_Parts) (T := fn_Parts) (N := 15) hx hb hg in_Parts hown hK hP 10 rfl rfl 9 (by decide) (hg _ wn_2_156) (fun _ h9 => h9) rfl dn_Parts_addChild_22 ?_
    refine lv_aload_n hx hb dn_Parts_addChild_25 rfl (lv_at hl 0 rfl) ?_
    refine va_get (D := (dC, dI)) (ci := 11) (v := .int ((s.1 328 0))) (C := rn_Parts) (T := fn_Parts) (N := 15) hx hb hg in_Parts hown hK hP 10 rfl rfl 7 (by decide) (hg _ wn_2_149) (fun _ h9 => h9) rfl dn_Parts_addChild_26 ?_
    refine lv_iconst (v := (-1)) hx hb dn_Parts_addChild_29 (by decide) ?_
    obtain ⟨hg_2, hf⟩ := dc_g hf
    refine va_iast hx hb hK hP hD hS 68 0 rfl rfl hg_2 dn_Parts_addChild_30 (fun H locs hP hD hS => ?_)
    have hP : va_P (dC, dI) xcl ((wC a v cI cB cJ cZ cQ (upI s 329 (upd (s.1 329) (Int32.toNatClampNeg ((s.1 328 0))) v1))).set 68 ((a 330), .inl (cI, 10923, .inl (upd (s.1 330) (Int32.toNatClampNeg ((s.1 328 0))) ((-1)))))) H := hP
    have hD : va_D A ((wC a v cI cB cJ cZ cQ (upI s 329 (upd (s.1 329) (Int32.toNatClampNeg ((s.1 328 0))) v1))).set 68 ((a 330), .inl (cI, 10923, .inl (upd (s.1 330) (Int32.toNatClampNeg ((s.1 328 0))) ((-1)))))) := hD
    have hP := wC_P_330 hP
    have hD := wC_D_330 hD
    refine lv_aload_n hx hb dn_Parts_addChild_31 rfl (lv_at hl 0 rfl) ?_
    refine va_get (D := (dC, dI)) (ci := 11) (v := .ref ((a 331))) (C := rn_Parts) (T := fn_Parts) (N := 15) hx hb hg in_Parts hown hK hP 10 rfl rfl 10 (by decide) (hg _ wn_2_159) (fun _ h9 => h9) rfl dn_Parts_addChild_32 ?_
    refine lv_aload_n hx hb dn_Parts_addChild_35 rfl (lv_at hl 0 rfl) ?_
    refine va_get (D := (dC, dI)) (ci := 11) (v := .int ((s.1 328 0))) (C := rn_Parts) (T := fn_Parts) (N := 15) hx hb hg in_Parts hown hK hP 10 rfl rfl 7 (by decide) (hg _ wn_2_149) (fun _ h9 => h9) rfl dn_Parts_addChild_36 ?_
    refine lv_aload_n hx hb dn_Parts_addChild_39 rfl (lv_at hl 0 rfl) ?_
    refine va_get (D := (dC, dI)) (ci := 11) (v := .int ((s.1 332 0))) (C := rn_Parts) (T := fn_Parts) (N := 15) hx hb hg in_Parts hown hK hP 10 rfl rfl 11 (by decide) (hg _ wn_2_162) (fun _ h9 => h9) rfl dn_Parts_addChild_40 ?_
    obtain ⟨hg_3, hf⟩ := dc_g hf
    refine va_iast hx hb hK hP hD hS 69 0 rfl rfl hg_3 dn_Parts_addChild_43 (fun H locs hP hD hS => ?_)
    have hP : va_P (dC, dI) xcl ((wC a v cI cB cJ cZ cQ (upI (upI s 329 (upd (s.1 329) (Int32.toNatClampNeg ((s.1 328 0))) v1)) 330 (upd (s.1 330) (Int32.toNatClampNeg ((s.1 328 0))) ((-1))))).set 69 ((a 331), .inl (cI, 10923, .inl (upd (s.1 331) (Int32.toNatClampNeg ((s.1 328 0))) ((s.1 332 0)))))) H := hP
    have hD : va_D A ((wC a v cI cB cJ cZ cQ (upI (upI s 329 (upd (s.1 329) (Int32.toNatClampNeg ((s.1 328 0))) v1)) 330 (upd (s.1 330) (Int32.toNatClampNeg ((s.1 328 0))) ((-1))))).set 69 ((a 331), .inl (cI, 10923, .inl (upd (s.1 331) (Int32.toNatClampNeg ((s.1 328 0))) ((s.1 332 0)))))) := hD
    have hP := wC_P_331 hP
    have hD := wC_D_331 hD
    refine lv_aload_n hx hb dn_Parts_addChild_44 rfl (lv_at hl 0 rfl) ?_
    refine lv_dup hx hb dn_Parts_addChild_45 rfl ?_
    refine va_get (D := (dC, dI)) (ci := 11) (v := .int ((s.1 328 0))) (C := rn_Parts) (T := fn_Parts) (N := 15) hx hb hg in_Parts hown hK hP 10 rfl rfl 7 (by decide) (hg _ wn_2_149) (fun _ h9 => h9) rfl dn_Parts_addChild_46 ?_
    refine lv_iconst (v := 1) hx hb dn_Parts_addChild_49 (by decide) ?_
    refine lv_iadd hx hb dn_Parts_addChild_50 ?_
    refine va_put (D := (dC, dI)) (ci := 11) (v := .int (((s.1 328 0) + 1))) (ty := .int) (C := rn_Parts) (T := fn_Parts) (N := 15) hx hb hg in_Parts tn_Parts tk_Parts nn_Parts hown hK hP hD hS 10 rfl rfl 7 (by decide) (hg _ wn_2_149) (fun _ h9 => h9) rfl (tk_Parts 7 (by decide)) rfl rfl (Nat.le_of_ble_eq_true rfl) dn_Parts_addChild_51 (fun H locs hP hD hS => ?_)
    have hP := wC_P_328 hP
    have hD := wC_D_328 hD
    rw [hQQ, ← Option.some.inj hf]
    exact xk_vret (w1 := fun u : Unit => (wC a v cI cB cJ cZ cQ (upI (upI (upI (upI s 329 (upd (s.1 329) (Int32.toNatClampNeg ((s.1 328 0))) v1)) 330 (upd (s.1 330) (Int32.toNatClampNeg ((s.1 328 0))) ((-1)))) 331 (upd (s.1 331) (Int32.toNatClampNeg ((s.1 328 0))) ((s.1 332 0)))) 328 (fun _ => ((s.1 328 0) + 1))))) () hx hb hr hlocks hK hS dn_Parts_addChild_54 hP hD trivial (Nat.le_refl _) (Nat.le_refl _)
  · have hf := (if_neg h).symm.trans hf
    rw [hQQ, ← Option.some.inj hf]
    exact xk_vret (w1 := fun u : Unit => (wC a v cI cB cJ cZ cQ s)) () hx hb hr hlocks hK hS dn_Parts_addChild_10 hP hD trivial (Nat.le_refl _) (Nat.le_refl _)
set_option maxHeartbeats 8000000 in
set_option maxRecDepth 100000 in
theorem ct_Meaning_instance_Me (l : Launch) (dC : Nat → ClassId) (dI : Nat → Nat → Nat) (cI cB cJ cZ cQ : ClassId) (N sz : Nat) (a : Nat → Nat) (v : Nat → Value) (hv_4 : v 4 = .ref (a 109)) (hv_5 : v 5 = .ref (a 110)) (v1 : Int32) (v2 : Int32) (s : ms) (y : (Unit × ms)) (hf : fn_Meaning_instance_Me N v1 v2 s = some y) : Met l yn_Meaning_instance (xw yn_Meaning_instance bn_Meaning_instance 4 none) ({ frames := 1, cells := 0, slots := 0, locals := 22 }) (dc_P (dC, dI) xcl (xt cI cB cJ cZ cQ) [.ref ((a 104)), .int v1, .int v2] sz (wC a v cI cB cJ cZ cQ s)) (xk_Qv (dC, dI) xcl (xt cI cB cJ cZ cQ) (fun _ : Unit => True) (fun u : Unit => (wC a v cI cB cJ cZ cQ y.2)) (va_A (wC a v cI cB cJ cZ cQ s) sz)) 0 0 (va_A (wC a v cI cB cJ cZ cQ s) sz) := by
  refine dc_of (QA := xk_Qv (dC, dI) xcl (xt cI cB cJ cZ cQ) (fun _ : Unit => True) (fun u : Unit => (wC a v cI cB cJ cZ cQ y.2))) (by decide) (Nat.le_of_ble_eq_true rfl) ?_
  intro p e s0 m below meth c hx hb hml hown hg hr hlocks hin hP hK hN A hA hD hT ls hl
  have hown : s0.vm.findClass rn_Meaning = some m.cls := hown
  obtain ⟨H, hH⟩ : ∃ z, z = s0.heap := ⟨_, rfl⟩
  rw [← hH] at hP
  have hS : va_S A s0.heap H [] := by rw [hH]; exact va_S.rf
  suffices kk : ∀ QQ : State → Prop, QQ = MQ below (xk_Qv (dC, dI) xcl (xt cI cB cJ cZ cQ) (fun _ : Unit => True) (fun u : Unit => (wC a v cI cB cJ cZ cQ y.2)) A) [.ref ((a 104)), .int v1, .int v2].toArray s0 0 0 A → dcC p l e ({ frames := 1, cells := 0, slots := 0, locals := 22 }) s0 m [.ref ((a 104)), .int v1, .int v2].toArray below meth c QQ (dC, dI) A (wC a v cI cB cJ cZ cQ s) 0 4 [(0, .ref ((a 104))), (1, .int v1), (2, .int v2)] [] by
    have k9 := kk _ rfl H [] ls hP hD hS hl
    rw [hH] at k9; exact k9
  clear hP hD hS hl hH H ls
  intro QQ hQQ
  have bl_38 : ∀ (x2 : Int32) (s : ms), bk_Meaning_instance_Me_38 N x2 s = some y → dcC p l e ({ frames := 1, cells := 0, slots := 0, locals := 22 }) s0 m [.ref ((a 104)), .int v1, .int v2].toArray below meth c QQ (dC, dI) A (wC a v cI cB cJ cZ cQ s) 38 4 [(0, .ref ((a 104))), (2, .int x2)] [] := by
    intro x2 s hf H locs ls hP hD hS hl
    unfold bk_Meaning_instance_Me_38 at hf
    refine lv_aload_n hx hb dn_Meaning_instance_38 rfl (lv_at hl 0 rfl) ?_
    refine va_get (D := (dC, dI)) (ci := 5) (v := .ref ((a 103))) (C := rn_Meaning) (T := fn_Meaning) (N := 17) hx hb hg in_Meaning hown hK hP 4 rfl rfl 0 (by decide) (hg _ wn_1_184) (fun _ h9 => h9) rfl dn_Meaning_instance_39 ?_
    refine lv_bipush (v := 22) hx hb dn_Meaning_instance_42 (by decide) ?_
    refine lv_iload_n hx hb dn_Meaning_instance_44 rfl (lv_at hl 1 rfl) ?_
    obtain ⟨q_1, hc_2, hf⟩ := dc_b hf
    refine dc_callv (dc_runV (ar := 2) (As := [.int 22, .int x2]) (rest := []) (ci := 4) (q0 := 3) ⟨hx, hb, hml, hown, hg⟩ hK hN hT hS hA (ct_Checker_refuse_Ch l dC dI cI cB cJ cZ cQ N H.size a v 22 x2 s q_1 hc_2) hP hD rfl rfl wn_4_201 wn_4_202 wn_4_203 wn_1_4 wn_4_204 rfl rfl (by decide +kernel) ⟨Nat.le_of_ble_eq_true rfl, Nat.le_of_ble_eq_true rfl⟩ rfl hl.1 rfl (Nat.le_of_ble_eq_true rfl) dn_Meaning_instance_45 ⟨Nat.le_of_ble_eq_true rfl, Nat.le_of_ble_eq_true rfl⟩) hP hD hS hA (fun _ H locs hw hP hD hS => ?_)
    refine lv_goto (tgt := 59) hx hb dn_Meaning_instance_48 (by decide) ?_
    rw [hQQ, ← Option.some.inj hf]
    exact xk_vret (w1 := fun u : Unit => (wC a v cI cB cJ cZ cQ q_1.2)) () hx hb hr hlocks hK hS dn_Meaning_instance_59 hP hD trivial (Nat.le_refl _) (Nat.le_refl _)
  intro H locs ls hP hD hS hl
  unfold fn_Meaning_instance_Me at hf
  refine lv_aload_n hx hb dn_Meaning_instance_0 rfl (lv_at hl 0 rfl) ?_
  refine va_get (D := (dC, dI)) (ci := 5) (v := .ref ((a 103))) (C := rn_Meaning) (T := fn_Meaning) (N := 17) hx hb hg in_Meaning hown hK hP 4 rfl rfl 0 (by decide) (hg _ wn_1_184) (fun _ h9 => h9) rfl dn_Meaning_instance_1 ?_
  obtain ⟨q_1, hc_2, hf⟩ := dc_b hf
  refine dc_calli (dc_runV (ar := 0) (As := []) (rest := []) (ci := 4) (q0 := 3) ⟨hx, hb, hml, hown, hg⟩ hK hN hT hS hA (ct_Checker_isOff_Ch l dC dI cI cB cJ cZ cQ N H.size a v s q_1 hc_2) hP hD rfl rfl wn_4_193 wn_4_194 wn_4_195 wn_1_4 wn_4_196 rfl rfl (by decide +kernel) ⟨Nat.le_of_ble_eq_true rfl, Nat.le_of_ble_eq_true rfl⟩ rfl hl.1 rfl (Nat.le_of_ble_eq_true rfl) dn_Meaning_instance_4 ⟨Nat.le_of_ble_eq_true rfl, Nat.le_of_ble_eq_true rfl⟩) hP hD hS hA (fun r_3 _ H locs hw hP hD hS => ?_)
  have hw : r_3 = q_1.1 := hw
  subst hw
  refine lv_if_eq (tgt := 11) hx hb dn_Meaning_instance_7 (by decide) (fun h => ?_) (fun h => ?_)
  · have hf := (if_pos h).symm.trans hf
    refine lv_aload_n hx hb dn_Meaning_instance_11 rfl (lv_at hl 0 rfl) ?_
    refine va_get (D := (dC, dI)) (ci := 5) (v := .ref ((a 103))) (C := rn_Meaning) (T := fn_Meaning) (N := 17) hx hb hg in_Meaning hown hK hP 4 rfl rfl 0 (by decide) (hg _ wn_1_184) (fun _ h9 => h9) rfl dn_Meaning_instance_12 ?_
    refine lv_iload_n hx hb dn_Meaning_instance_15 rfl (lv_at hl 1 rfl) ?_
    obtain ⟨q_4, hc_5, hf⟩ := dc_b hf
    refine dc_calli (dc_runV (ar := 1) (As := [.int v1]) (rest := []) (ci := 4) (q0 := 3) ⟨hx, hb, hml, hown, hg⟩ hK hN hT hS hA (ct_Checker_moduleOf_Ch l dC dI cI cB cJ cZ cQ N H.size a v v1 q_1.2 q_4 hc_5) hP hD rfl rfl wn_4_197 wn_4_198 wn_4_199 wn_1_4 wn_4_200 rfl rfl (by decide +kernel) ⟨Nat.le_of_ble_eq_true rfl, Nat.le_of_ble_eq_true rfl⟩ rfl hl.1 rfl (Nat.le_of_ble_eq_true rfl) dn_Meaning_instance_16 ⟨Nat.le_of_ble_eq_true rfl, Nat.le_of_ble_eq_true rfl⟩) hP hD hS hA (fun r_6 _ H locs hw hP hD hS => ?_)
    have hw : r_6 = q_4.1 := hw
    subst hw
    refine lv_istore_n (lv' := [(3, .int q_4.1), (0, .ref ((a 104))), (1, .int v1), (2, .int v2)]) hx hb dn_Meaning_instance_19 rfl hl (by decide) rfl (fun ls hl => ?_)
    refine lv_iload_n hx hb dn_Meaning_instance_20 rfl (lv_at hl 0 rfl) ?_
    refine lv_iconst (v := (-1)) hx hb dn_Meaning_instance_21 (by decide) ?_
    refine lv_icmp_eq (tgt := 38) hx hb dn_Meaning_instance_22 (by decide) (fun h => ?_) (fun h => ?_)
    · have hf := (if_pos h).symm.trans hf
      exact bl_38 v2 q_4.2 hf H locs ls hP hD hS (lv_sub hl [1, 3] rfl)
    · have hf := (if_neg h).symm.trans hf
      refine lv_iload_n hx hb dn_Meaning_instance_25 rfl (lv_at hl 0 rfl) ?_
      refine lv_aload_n hx hb dn_Meaning_instance_26 rfl (lv_at hl 1 rfl) ?_
      refine va_get (D := (dC, dI)) (ci := 5) (v := .ref ((a 109))) (C := rn_Meaning) (T := fn_Meaning) (N := 17) hx hb hg in_Meaning hown hK hP 4 rfl rfl 1 (by decide) (hg _ wn_1_185) (fun _ h9 => h9) (congrArg some hv_4) dn_Meaning_instance_27 ?_
      refine va_get (D := (dC, dI)) (ci := 10) (v := .int ((q_4.2.1 309 0))) (C := rn_Design) (T := fn_Design) (N := 16) hx hb hg in_Design hown hK hP 9 rfl rfl 4 (by decide) (hg _ wn_3_12) (fun _ h9 => h9) rfl dn_Meaning_instance_30 ?_
      refine lv_iconst (v := 1) hx hb dn_Meaning_instance_33 (by decide) ?_
      refine lv_isub hx hb dn_Meaning_instance_34 ?_
      refine lv_icmp_lt (tgt := 51) hx hb dn_Meaning_instance_35 (by decide) (fun h => ?_) (fun h => ?_)
      · have hf := (if_pos h).symm.trans hf
        refine lv_aload_n hx hb dn_Meaning_instance_51 rfl (lv_at hl 1 rfl) ?_
        refine va_get (D := (dC, dI)) (ci := 5) (v := .ref ((a 110))) (C := rn_Meaning) (T := fn_Meaning) (N := 17) hx hb hg in_Meaning hown hK hP 4 rfl rfl 2 (by decide) (hg _ wn_1_186) (fun _ h9 => h9) (congrArg some hv_5) dn_Meaning_instance_52 ?_
        refine lv_iload_n hx hb dn_Meaning_instance_55 rfl (lv_at hl 0 rfl) ?_
        obtain ⟨q_7, hc_8, hf⟩ := dc_b hf
        refine dc_callv (dc_runV (ar := 1) (As := [.int q_4.1]) (rest := []) (ci := 11) (q0 := 10) ⟨hx, hb, hml, hown, hg⟩ hK hN hT hS hA (ct_Parts_addChild_Ps l dC dI cI cB cJ cZ cQ N H.size a v q_4.1 q_4.2 q_7 hc_8) hP hD rfl rfl wn_5_71 wn_5_72 wn_5_73 wn_1_11 wn_5_74 rfl rfl (by decide +kernel) ⟨Nat.le_of_ble_eq_true rfl, Nat.le_of_ble_eq_true rfl⟩ rfl hl.1 rfl (Nat.le_of_ble_eq_true rfl) dn_Meaning_instance_56 ⟨Nat.le_of_ble_eq_true rfl, Nat.le_of_ble_eq_true rfl⟩) hP hD hS hA (fun _ H locs hw hP hD hS => ?_)
        rw [hQQ, ← Option.some.inj hf]
        exact xk_vret (w1 := fun u : Unit => (wC a v cI cB cJ cZ cQ q_7.2)) () hx hb hr hlocks hK hS dn_Meaning_instance_59 hP hD trivial (Nat.le_refl _) (Nat.le_refl _)
      · have hf := (if_neg h).symm.trans hf
        exact bl_38 v2 q_4.2 hf H locs ls hP hD hS (lv_sub hl [1, 3] rfl)
  · have hf := (if_neg h).symm.trans hf
    rw [hQQ, ← Option.some.inj hf]
    exact xk_vret (w1 := fun u : Unit => (wC a v cI cB cJ cZ cQ q_1.2)) () hx hb hr hlocks hK hS dn_Meaning_instance_10 hP hD trivial (Nat.le_refl _) (Nat.le_refl _)
set_option maxHeartbeats 8000000 in
set_option maxRecDepth 100000 in
theorem ct_Meaning_instanceName_Me (l : Launch) (dC : Nat → ClassId) (dI : Nat → Nat → Nat) (cI cB cJ cZ cQ : ClassId) (N sz : Nat) (a : Nat → Nat) (v : Nat → Value) (hv_5 : v 5 = .ref (a 110)) (v1 : Int32) (v2 : Int32) (s : ms) (y : (Unit × ms)) (hf : fn_Meaning_instanceName_Me N v1 v2 s = some y) : Met l yn_Meaning_instanceName (xw yn_Meaning_instanceName bn_Meaning_instanceName 4 none) ({ frames := 1, cells := 0, slots := 0, locals := 22 }) (dc_P (dC, dI) xcl (xt cI cB cJ cZ cQ) [.ref ((a 104)), .int v1, .int v2] sz (wC a v cI cB cJ cZ cQ s)) (xk_Qv (dC, dI) xcl (xt cI cB cJ cZ cQ) (fun _ : Unit => True) (fun u : Unit => (wC a v cI cB cJ cZ cQ y.2)) (va_A (wC a v cI cB cJ cZ cQ s) sz)) 0 0 (va_A (wC a v cI cB cJ cZ cQ s) sz) := by
  refine dc_of (QA := xk_Qv (dC, dI) xcl (xt cI cB cJ cZ cQ) (fun _ : Unit => True) (fun u : Unit => (wC a v cI cB cJ cZ cQ y.2))) (by decide) (Nat.le_of_ble_eq_true rfl) ?_
  intro p e s0 m below meth c hx hb hml hown hg hr hlocks hin hP hK hN A hA hD hT ls hl
  have hown : s0.vm.findClass rn_Meaning = some m.cls := hown
  obtain ⟨H, hH⟩ : ∃ z, z = s0.heap := ⟨_, rfl⟩
  rw [← hH] at hP
  have hS : va_S A s0.heap H [] := by rw [hH]; exact va_S.rf
  suffices kk : ∀ QQ : State → Prop, QQ = MQ below (xk_Qv (dC, dI) xcl (xt cI cB cJ cZ cQ) (fun _ : Unit => True) (fun u : Unit => (wC a v cI cB cJ cZ cQ y.2)) A) [.ref ((a 104)), .int v1, .int v2].toArray s0 0 0 A → dcC p l e ({ frames := 1, cells := 0, slots := 0, locals := 22 }) s0 m [.ref ((a 104)), .int v1, .int v2].toArray below meth c QQ (dC, dI) A (wC a v cI cB cJ cZ cQ s) 0 4 [(0, .ref ((a 104))), (1, .int v1), (2, .int v2)] [] by
    have k9 := kk _ rfl H [] ls hP hD hS hl
    rw [hH] at k9; exact k9
  clear hP hD hS hl hH H ls
  intro QQ hQQ
  intro H locs ls hP hD hS hl
  unfold fn_Meaning_instanceName_Me at hf
  refine lv_aload_n hx hb dn_Meaning_instanceName_0 rfl (lv_at hl 0 rfl) ?_
  refine va_get (D := (dC, dI)) (ci := 5) (v := .ref ((a 103))) (C := rn_Meaning) (T := fn_Meaning) (N := 17) hx hb hg in_Meaning hown hK hP 4 rfl rfl 0 (by decide) (hg _ wn_1_184) (fun _ h9 => h9) rfl dn_Meaning_instanceName_1 ?_
  obtain ⟨q_1, hc_2, hf⟩ := dc_b hf
  refine dc_calli (dc_runV (ar := 0) (As := []) (rest := []) (ci := 4) (q0 := 3) ⟨hx, hb, hml, hown, hg⟩ hK hN hT hS hA (ct_Checker_isOff_Ch l dC dI cI cB cJ cZ cQ N H.size a v s q_1 hc_2) hP hD rfl rfl wn_4_193 wn_4_194 wn_4_195 wn_1_4 wn_4_196 rfl rfl (by decide +kernel) ⟨Nat.le_of_ble_eq_true rfl, Nat.le_of_ble_eq_true rfl⟩ rfl hl.1 rfl (Nat.le_of_ble_eq_true rfl) dn_Meaning_instanceName_4 ⟨Nat.le_of_ble_eq_true rfl, Nat.le_of_ble_eq_true rfl⟩) hP hD hS hA (fun r_3 _ H locs hw hP hD hS => ?_)
  have hw : r_3 = q_1.1 := hw
  subst hw
  refine lv_if_eq (tgt := 11) hx hb dn_Meaning_instanceName_7 (by decide) (fun h => ?_) (fun h => ?_)
  · have hf := (if_pos h).symm.trans hf
    refine lv_aload_n hx hb dn_Meaning_instanceName_11 rfl (lv_at hl 0 rfl) ?_
    refine va_get (D := (dC, dI)) (ci := 5) (v := .ref ((a 110))) (C := rn_Meaning) (T := fn_Meaning) (N := 17) hx hb hg in_Meaning hown hK hP 4 rfl rfl 2 (by decide) (hg _ wn_1_186) (fun _ h9 => h9) (congrArg some hv_5) dn_Meaning_instanceName_12 ?_
    refine va_get (D := (dC, dI)) (ci := 11) (v := .int ((q_1.2.1 328 0))) (C := rn_Parts) (T := fn_Parts) (N := 15) hx hb hg in_Parts hown hK hP 10 rfl rfl 7 (by decide) (hg _ wn_2_151) (fun _ h9 => h9) rfl dn_Meaning_instanceName_15 ?_
    refine lv_iconst (v := 1) hx hb dn_Meaning_instanceName_18 (by decide) ?_
    refine lv_isub hx hb dn_Meaning_instanceName_19 ?_
    refine lv_istore_n (lv' := [(3, .int (((q_1.2.1 328 0) - 1))), (0, .ref ((a 104))), (1, .int v1), (2, .int v2)]) hx hb dn_Meaning_instanceName_20 rfl hl (by decide) rfl (fun ls hl => ?_)
    refine lv_iload_n hx hb dn_Meaning_instanceName_21 rfl (lv_at hl 0 rfl) ?_
    refine lv_if_ge (tgt := 26) hx hb dn_Meaning_instanceName_22 (by decide) (fun h => ?_) (fun h => ?_)
    · have hf := (if_pos h).symm.trans hf
      refine lv_aload_n hx hb dn_Meaning_instanceName_26 rfl (lv_at hl 1 rfl) ?_
      refine va_get (D := (dC, dI)) (ci := 5) (v := .ref ((a 110))) (C := rn_Meaning) (T := fn_Meaning) (N := 17) hx hb hg in_Meaning hown hK hP 4 rfl rfl 2 (by decide) (hg _ wn_1_186) (fun _ h9 => h9) (congrArg some hv_5) dn_Meaning_instanceName_27 ?_
      refine va_get (D := (dC, dI)) (ci := 11) (v := .ref ((a 330))) (C := rn_Parts) (T := fn_Parts) (N := 15) hx hb hg in_Parts hown hK hP 10 rfl rfl 9 (by decide) (hg _ wn_2_157) (fun _ h9 => h9) rfl dn_Meaning_instanceName_30 ?_
      refine lv_iload_n hx hb dn_Meaning_instanceName_33 rfl (lv_at hl 0 rfl) ?_
      refine lv_iload_n hx hb dn_Meaning_instanceName_34 rfl (lv_at hl 3 rfl) ?_
      obtain ⟨hg_4, hf⟩ := dc_g hf
      refine va_iast hx hb hK hP hD hS 68 0 rfl rfl hg_4 dn_Meaning_instanceName_35 (fun H locs hP hD hS => ?_)
      have hP : va_P (dC, dI) xcl ((wC a v cI cB cJ cZ cQ q_1.2).set 68 ((a 330), .inl (cI, 10923, .inl (upd (q_1.2.1 330) (Int32.toNatClampNeg (((q_1.2.1 328 0) - 1))) v2)))) H := hP
      have hD : va_D A ((wC a v cI cB cJ cZ cQ q_1.2).set 68 ((a 330), .inl (cI, 10923, .inl (upd (q_1.2.1 330) (Int32.toNatClampNeg (((q_1.2.1 328 0) - 1))) v2)))) := hD
      have hP := wC_P_330 hP
      have hD := wC_D_330 hD
      refine lv_aload_n hx hb dn_Meaning_instanceName_36 rfl (lv_at hl 1 rfl) ?_
      refine va_get (D := (dC, dI)) (ci := 5) (v := .ref ((a 103))) (C := rn_Meaning) (T := fn_Meaning) (N := 17) hx hb hg in_Meaning hown hK hP 4 rfl rfl 0 (by decide) (hg _ wn_1_184) (fun _ h9 => h9) rfl dn_Meaning_instanceName_37 ?_
      refine lv_iload_n hx hb dn_Meaning_instanceName_40 rfl (lv_at hl 2 rfl) ?_
      obtain ⟨q_5, hc_6, hf⟩ := dc_b hf
      refine dc_calli (dc_runV (ar := 1) (As := [.int v1]) (rest := []) (ci := 4) (q0 := 3) ⟨hx, hb, hml, hown, hg⟩ hK hN hT hS hA (ct_Checker_meantBy_Ch l dC dI cI cB cJ cZ cQ N H.size a v v1 (upI q_1.2 330 (upd (q_1.2.1 330) (Int32.toNatClampNeg (((q_1.2.1 328 0) - 1))) v2)) q_5 hc_6) hP hD rfl rfl wn_4_238 wn_4_239 wn_5_0 wn_1_4 wn_5_1 rfl rfl (by decide +kernel) ⟨Nat.le_of_ble_eq_true rfl, Nat.le_of_ble_eq_true rfl⟩ rfl hl.1 rfl (Nat.le_of_ble_eq_true rfl) dn_Meaning_instanceName_41 ⟨Nat.le_of_ble_eq_true rfl, Nat.le_of_ble_eq_true rfl⟩) hP hD hS hA (fun r_7 _ H locs hw hP hD hS => ?_)
      have hw : r_7 = q_5.1 := hw
      subst hw
      refine lv_iconst (v := (-1)) hx hb dn_Meaning_instanceName_44 (by decide) ?_
      refine lv_icmp_eq (tgt := 61) hx hb dn_Meaning_instanceName_45 (by decide) (fun h => ?_) (fun h => ?_)
      · have hf := (if_pos h).symm.trans hf
        refine lv_aload_n hx hb dn_Meaning_instanceName_61 rfl (lv_at hl 1 rfl) ?_
        refine va_get (D := (dC, dI)) (ci := 5) (v := .ref ((a 103))) (C := rn_Meaning) (T := fn_Meaning) (N := 17) hx hb hg in_Meaning hown hK hP 4 rfl rfl 0 (by decide) (hg _ wn_1_184) (fun _ h9 => h9) rfl dn_Meaning_instanceName_62 ?_
        refine lv_iload_n hx hb dn_Meaning_instanceName_65 rfl (lv_at hl 2 rfl) ?_
        refine lv_bipush (v := (-2)) hx hb dn_Meaning_instanceName_66 (by decide) ?_
        obtain ⟨q_8, hc_9, hf⟩ := dc_b hf
        refine dc_callv (dc_runV (ar := 2) (As := [.int v1, .int ((-2))]) (rest := []) (ci := 4) (q0 := 3) ⟨hx, hb, hml, hown, hg⟩ hK hN hT hS hA (ct_Checker_mean_Ch l dC dI cI cB cJ cZ cQ N H.size a v v1 ((-2)) q_5.2 q_8 hc_9) hP hD rfl rfl wn_5_2 wn_5_3 wn_5_4 wn_1_4 wn_5_5 rfl rfl (by decide +kernel) ⟨Nat.le_of_ble_eq_true rfl, Nat.le_of_ble_eq_true rfl⟩ rfl hl.1 rfl (Nat.le_of_ble_eq_true rfl) dn_Meaning_instanceName_68 ⟨Nat.le_of_ble_eq_true rfl, Nat.le_of_ble_eq_true rfl⟩) hP hD hS hA (fun _ H locs hw hP hD hS => ?_)
        rw [hQQ, ← Option.some.inj hf]
        exact xk_vret (w1 := fun u : Unit => (wC a v cI cB cJ cZ cQ q_8.2)) () hx hb hr hlocks hK hS dn_Meaning_instanceName_71 hP hD trivial (Nat.le_refl _) (Nat.le_refl _)
      · have hf := (if_neg h).symm.trans hf
        refine lv_aload_n hx hb dn_Meaning_instanceName_48 rfl (lv_at hl 1 rfl) ?_
        refine va_get (D := (dC, dI)) (ci := 5) (v := .ref ((a 103))) (C := rn_Meaning) (T := fn_Meaning) (N := 17) hx hb hg in_Meaning hown hK hP 4 rfl rfl 0 (by decide) (hg _ wn_1_184) (fun _ h9 => h9) rfl dn_Meaning_instanceName_49 ?_
        refine lv_bipush (v := 21) hx hb dn_Meaning_instanceName_52 (by decide) ?_
        refine lv_iload_n hx hb dn_Meaning_instanceName_54 rfl (lv_at hl 3 rfl) ?_
        obtain ⟨q_8, hc_9, hf⟩ := dc_b hf
        refine dc_callv (dc_runV (ar := 2) (As := [.int 21, .int v2]) (rest := []) (ci := 4) (q0 := 3) ⟨hx, hb, hml, hown, hg⟩ hK hN hT hS hA (ct_Checker_refuse_Ch l dC dI cI cB cJ cZ cQ N H.size a v 21 v2 q_5.2 q_8 hc_9) hP hD rfl rfl wn_4_201 wn_4_202 wn_4_203 wn_1_4 wn_4_204 rfl rfl (by decide +kernel) ⟨Nat.le_of_ble_eq_true rfl, Nat.le_of_ble_eq_true rfl⟩ rfl hl.1 rfl (Nat.le_of_ble_eq_true rfl) dn_Meaning_instanceName_55 ⟨Nat.le_of_ble_eq_true rfl, Nat.le_of_ble_eq_true rfl⟩) hP hD hS hA (fun _ H locs hw hP hD hS => ?_)
        refine lv_goto (tgt := 71) hx hb dn_Meaning_instanceName_58 (by decide) ?_
        rw [hQQ, ← Option.some.inj hf]
        exact xk_vret (w1 := fun u : Unit => (wC a v cI cB cJ cZ cQ q_8.2)) () hx hb hr hlocks hK hS dn_Meaning_instanceName_71 hP hD trivial (Nat.le_refl _) (Nat.le_refl _)
    · have hf := (if_neg h).symm.trans hf
      rw [hQQ, ← Option.some.inj hf]
      exact xk_vret (w1 := fun u : Unit => (wC a v cI cB cJ cZ cQ q_1.2)) () hx hb hr hlocks hK hS dn_Meaning_instanceName_25 hP hD trivial (Nat.le_refl _) (Nat.le_refl _)
  · have hf := (if_neg h).symm.trans hf
    rw [hQQ, ← Option.some.inj hf]
    exact xk_vret (w1 := fun u : Unit => (wC a v cI cB cJ cZ cQ q_1.2)) () hx hb hr hlocks hK hS dn_Meaning_instanceName_10 hP hD trivial (Nat.le_refl _) (Nat.le_refl _)
set_option maxHeartbeats 8000000 in
set_option maxRecDepth 100000 in
theorem ct_Design_isModule_Ds (l : Launch) (dC : Nat → ClassId) (dI : Nat → Nat → Nat) (cI cB cJ cZ cQ : ClassId) (N sz : Nat) (a : Nat → Nat) (v : Nat → Value) (v1 : Int32) (s : ms) (y : (Int32 × ms)) (hf : fn_Design_isModule_Ds N v1 s = some y) : Met l yn_Design_isModule (xw yn_Design_isModule bn_Design_isModule 2 (some .boolean)) ({ frames := 0, cells := 0, slots := 0, locals := 0 }) (dc_P (dC, dI) xcl (xt cI cB cJ cZ cQ) [.ref ((a 109)), .int v1] sz (wC a v cI cB cJ cZ cQ s)) (xk_Qi (dC, dI) xcl (xt cI cB cJ cZ cQ) (fun (r : Int32) (_ : Unit) => r = y.1) (fun u : Unit => (wC a v cI cB cJ cZ cQ y.2)) (va_A (wC a v cI cB cJ cZ cQ s) sz)) 0 0 (va_A (wC a v cI cB cJ cZ cQ s) sz) := by
  refine dc_of (QA := xk_Qi (dC, dI) xcl (xt cI cB cJ cZ cQ) (fun (r : Int32) (_ : Unit) => r = y.1) (fun u : Unit => (wC a v cI cB cJ cZ cQ y.2))) (by decide) (Nat.le_of_ble_eq_true rfl) ?_
  intro p e s0 m below meth c hx hb hml hown hg hr hlocks hin hP hK hN A hA hD hT ls hl
  have hown : s0.vm.findClass rn_Design = some m.cls := hown
  obtain ⟨H, hH⟩ : ∃ z, z = s0.heap := ⟨_, rfl⟩
  rw [← hH] at hP
  have hS : va_S A s0.heap H [] := by rw [hH]; exact va_S.rf
  suffices kk : ∀ QQ : State → Prop, QQ = MQ below (xk_Qi (dC, dI) xcl (xt cI cB cJ cZ cQ) (fun (r : Int32) (_ : Unit) => r = y.1) (fun u : Unit => (wC a v cI cB cJ cZ cQ y.2)) A) [.ref ((a 109)), .int v1].toArray s0 0 0 A → dcC p l e ({ frames := 0, cells := 0, slots := 0, locals := 0 }) s0 m [.ref ((a 109)), .int v1].toArray below meth c QQ (dC, dI) A (wC a v cI cB cJ cZ cQ s) 0 2 [(0, .ref ((a 109))), (1, .int v1)] [] by
    have k9 := kk _ rfl H [] ls hP hD hS hl
    rw [hH] at k9; exact k9
  clear hP hD hS hl hH H ls
  intro QQ hQQ
  intro H locs ls hP hD hS hl
  unfold fn_Design_isModule_Ds at hf
  refine lv_iload_n hx hb dn_Design_isModule_0 rfl (lv_at hl 1 rfl) ?_
  refine lv_if_lt (tgt := 16) hx hb dn_Design_isModule_1 (by decide) (fun h => ?_) (fun h => ?_)
  · have hf := (if_pos h).symm.trans hf
    refine lv_iconst (v := 0) hx hb dn_Design_isModule_16 (by decide) ?_
    rw [hQQ, ← Option.some.inj hf]
    exact xk_zret (w1 := fun u : Unit => (wC a v cI cB cJ cZ cQ s)) () hx hb hr rfl hlocks hK hS dn_Design_isModule_17 hP hD rfl (Nat.le_refl _) (Nat.le_refl _)
  · have hf := (if_neg h).symm.trans hf
    refine lv_iload_n hx hb dn_Design_isModule_4 rfl (lv_at hl 1 rfl) ?_
    refine lv_aload_n hx hb dn_Design_isModule_5 rfl (lv_at hl 0 rfl) ?_
    refine va_get (D := (dC, dI)) (ci := 10) (v := .int ((s.1 309 0))) (C := rn_Design) (T := fn_Design) (N := 16) hx hb hg in_Design hown hK hP 9 rfl rfl 4 (by decide) (hg _ wn_3_10) (fun _ h9 => h9) rfl dn_Design_isModule_6 ?_
    refine lv_icmp_ge (tgt := 16) hx hb dn_Design_isModule_9 (by decide) (fun h => ?_) (fun h => ?_)
    · have hf := (if_pos h).symm.trans hf
      refine lv_iconst (v := 0) hx hb dn_Design_isModule_16 (by decide) ?_
      rw [hQQ, ← Option.some.inj hf]
      exact xk_zret (w1 := fun u : Unit => (wC a v cI cB cJ cZ cQ s)) () hx hb hr rfl hlocks hK hS dn_Design_isModule_17 hP hD rfl (Nat.le_refl _) (Nat.le_refl _)
    · have hf := (if_neg h).symm.trans hf
      refine lv_iconst (v := 1) hx hb dn_Design_isModule_12 (by decide) ?_
      refine lv_goto (tgt := 17) hx hb dn_Design_isModule_13 (by decide) ?_
      rw [hQQ, ← Option.some.inj hf]
      exact xk_zret (w1 := fun u : Unit => (wC a v cI cB cJ cZ cQ s)) () hx hb hr rfl hlocks hK hS dn_Design_isModule_17 hP hD rfl (Nat.le_refl _) (Nat.le_refl _)
set_option maxHeartbeats 8000000 in
set_option maxRecDepth 100000 in
theorem ct_Design_portCount_Ds (l : Launch) (dC : Nat → ClassId) (dI : Nat → Nat → Nat) (cI cB cJ cZ cQ : ClassId) (N sz : Nat) (a : Nat → Nat) (v : Nat → Value) (v1 : Int32) (s : ms) (y : (Int32 × ms)) (hf : fn_Design_portCount_Ds N v1 s = some y) : Met l yn_Design_portCount (xw yn_Design_portCount bn_Design_portCount 2 (some .int)) ({ frames := 1, cells := 0, slots := 0, locals := 21 }) (dc_P (dC, dI) xcl (xt cI cB cJ cZ cQ) [.ref ((a 109)), .int v1] sz (wC a v cI cB cJ cZ cQ s)) (xk_Qi (dC, dI) xcl (xt cI cB cJ cZ cQ) (fun (r : Int32) (_ : Unit) => r = y.1) (fun u : Unit => (wC a v cI cB cJ cZ cQ y.2)) (va_A (wC a v cI cB cJ cZ cQ s) sz)) 0 0 (va_A (wC a v cI cB cJ cZ cQ s) sz) := by
  refine dc_of (QA := xk_Qi (dC, dI) xcl (xt cI cB cJ cZ cQ) (fun (r : Int32) (_ : Unit) => r = y.1) (fun u : Unit => (wC a v cI cB cJ cZ cQ y.2))) (by decide) (Nat.le_of_ble_eq_true rfl) ?_
  intro p e s0 m below meth c hx hb hml hown hg hr hlocks hin hP hK hN A hA hD hT ls hl
  have hown : s0.vm.findClass rn_Design = some m.cls := hown
  obtain ⟨H, hH⟩ : ∃ z, z = s0.heap := ⟨_, rfl⟩
  rw [← hH] at hP
  have hS : va_S A s0.heap H [] := by rw [hH]; exact va_S.rf
  suffices kk : ∀ QQ : State → Prop, QQ = MQ below (xk_Qi (dC, dI) xcl (xt cI cB cJ cZ cQ) (fun (r : Int32) (_ : Unit) => r = y.1) (fun u : Unit => (wC a v cI cB cJ cZ cQ y.2)) A) [.ref ((a 109)), .int v1].toArray s0 0 0 A → dcC p l e ({ frames := 1, cells := 0, slots := 0, locals := 21 }) s0 m [.ref ((a 109)), .int v1].toArray below meth c QQ (dC, dI) A (wC a v cI cB cJ cZ cQ s) 0 2 [(0, .ref ((a 109))), (1, .int v1)] [] by
    have k9 := kk _ rfl H [] ls hP hD hS hl
    rw [hH] at k9; exact k9
  clear hP hD hS hl hH H ls
  intro QQ hQQ
  intro H locs ls hP hD hS hl
  unfold fn_Design_portCount_Ds at hf
  refine lv_aload_n hx hb dn_Design_portCount_0 rfl (lv_at hl 0 rfl) ?_
  refine lv_iload_n hx hb dn_Design_portCount_1 rfl (lv_at hl 1 rfl) ?_
  obtain ⟨q_1, hc_2, hf⟩ := dc_b hf
  refine dc_calli (dc_runV (ar := 1) (As := [.int v1]) (rest := []) (ci := 10) (q0 := 9) ⟨hx, hb, hml, hown, hg⟩ hK hN hT hS hA (ct_Design_isModule_Ds l dC dI cI cB cJ cZ cQ N H.size a v v1 s q_1 hc_2) hP hD rfl rfl wn_5_91 wn_5_93 sn_Design_isModule wn_1_10 wn_5_94 rfl rfl (by decide +kernel) ⟨Nat.le_of_ble_eq_true rfl, Nat.le_of_ble_eq_true rfl⟩ rfl hl.1 rfl (Nat.le_of_ble_eq_true rfl) dn_Design_portCount_2 ⟨Nat.le_of_ble_eq_true rfl, Nat.le_of_ble_eq_true rfl⟩) hP hD hS hA (fun r_3 _ H locs hw hP hD hS => ?_)
  have hw : r_3 = q_1.1 := hw
  subst hw
  refine lv_if_eq (tgt := 17) hx hb dn_Design_portCount_5 (by decide) (fun h => ?_) (fun h => ?_)
  · have hf := (if_pos h).symm.trans hf
    refine lv_iconst (v := 0) hx hb dn_Design_portCount_17 (by decide) ?_
    rw [hQQ, ← Option.some.inj hf]
    exact xk_iret (w1 := fun u : Unit => (wC a v cI cB cJ cZ cQ q_1.2)) () hx hb hr hlocks hK hS dn_Design_portCount_18 hP hD rfl (Nat.le_refl _) (Nat.le_refl _)
  · have hf := (if_neg h).symm.trans hf
    refine lv_aload_n hx hb dn_Design_portCount_8 rfl (lv_at hl 0 rfl) ?_
    refine va_get (D := (dC, dI)) (ci := 10) (v := .ref ((a 313))) (C := rn_Design) (T := fn_Design) (N := 16) hx hb hg in_Design hown hK hP 9 rfl rfl 8 (by decide) (hg _ wn_3_17) (fun _ h9 => h9) rfl dn_Design_portCount_9 ?_
    refine lv_iload_n hx hb dn_Design_portCount_12 rfl (lv_at hl 1 rfl) ?_
    obtain ⟨hg_4, hf⟩ := dc_g hf
    refine va_iald hx hb hK hP 55 0 rfl rfl hg_4 dn_Design_portCount_13 ?_
    refine xk_ti (y := ((q_1.2.1 313) (Int32.toNatClampNeg v1))) rfl ?_
    refine lv_goto (tgt := 18) hx hb dn_Design_portCount_14 (by decide) ?_
    rw [hQQ, ← Option.some.inj hf]
    exact xk_iret (w1 := fun u : Unit => (wC a v cI cB cJ cZ cQ q_1.2)) () hx hb hr hlocks hK hS dn_Design_portCount_18 hP hD rfl (Nat.le_refl _) (Nat.le_refl _)
set_option maxHeartbeats 8000000 in
set_option maxRecDepth 100000 in
theorem ct_Meaning_instanceEnd_Me (l : Launch) (dC : Nat → ClassId) (dI : Nat → Nat → Nat) (cI cB cJ cZ cQ : ClassId) (N sz : Nat) (a : Nat → Nat) (v : Nat → Value) (hv_4 : v 4 = .ref (a 109)) (hv_5 : v 5 = .ref (a 110)) (s : ms) (y : (Unit × ms)) (hf : fn_Meaning_instanceEnd_Me N s = some y) : Met l yn_Meaning_instanceEnd (xw yn_Meaning_instanceEnd bn_Meaning_instanceEnd 3 none) ({ frames := 2, cells := 0, slots := 0, locals := 42 }) (dc_P (dC, dI) xcl (xt cI cB cJ cZ cQ) [.ref ((a 104))] sz (wC a v cI cB cJ cZ cQ s)) (xk_Qv (dC, dI) xcl (xt cI cB cJ cZ cQ) (fun _ : Unit => True) (fun u : Unit => (wC a v cI cB cJ cZ cQ y.2)) (va_A (wC a v cI cB cJ cZ cQ s) sz)) 0 0 (va_A (wC a v cI cB cJ cZ cQ s) sz) := by
  refine dc_of (QA := xk_Qv (dC, dI) xcl (xt cI cB cJ cZ cQ) (fun _ : Unit => True) (fun u : Unit => (wC a v cI cB cJ cZ cQ y.2))) (by decide) (Nat.le_of_ble_eq_true rfl) ?_
  intro p e s0 m below meth c hx hb hml hown hg hr hlocks hin hP hK hN A hA hD hT ls hl
  have hown : s0.vm.findClass rn_Meaning = some m.cls := hown
  obtain ⟨H, hH⟩ : ∃ z, z = s0.heap := ⟨_, rfl⟩
  rw [← hH] at hP
  have hS : va_S A s0.heap H [] := by rw [hH]; exact va_S.rf
  suffices kk : ∀ QQ : State → Prop, QQ = MQ below (xk_Qv (dC, dI) xcl (xt cI cB cJ cZ cQ) (fun _ : Unit => True) (fun u : Unit => (wC a v cI cB cJ cZ cQ y.2)) A) [.ref ((a 104))].toArray s0 0 0 A → dcC p l e ({ frames := 2, cells := 0, slots := 0, locals := 42 }) s0 m [.ref ((a 104))].toArray below meth c QQ (dC, dI) A (wC a v cI cB cJ cZ cQ s) 0 3 [(0, .ref ((a 104)))] [] by
    have k9 := kk _ rfl H [] ls hP hD hS hl
    rw [hH] at k9; exact k9
  clear hP hD hS hl hH H ls
  intro QQ hQQ
  intro H locs ls hP hD hS hl
  unfold fn_Meaning_instanceEnd_Me at hf
  refine lv_aload_n hx hb dn_Meaning_instanceEnd_0 rfl (lv_at hl 0 rfl) ?_
  refine va_get (D := (dC, dI)) (ci := 5) (v := .ref ((a 103))) (C := rn_Meaning) (T := fn_Meaning) (N := 17) hx hb hg in_Meaning hown hK hP 4 rfl rfl 0 (by decide) (hg _ wn_1_184) (fun _ h9 => h9) rfl dn_Meaning_instanceEnd_1 ?_
  obtain ⟨q_1, hc_2, hf⟩ := dc_b hf
  refine dc_calli (dc_runV (ar := 0) (As := []) (rest := []) (ci := 4) (q0 := 3) ⟨hx, hb, hml, hown, hg⟩ hK hN hT hS hA (ct_Checker_isOff_Ch l dC dI cI cB cJ cZ cQ N H.size a v s q_1 hc_2) hP hD rfl rfl wn_4_193 wn_4_194 wn_4_195 wn_1_4 wn_4_196 rfl rfl (by decide +kernel) ⟨Nat.le_of_ble_eq_true rfl, Nat.le_of_ble_eq_true rfl⟩ rfl hl.1 rfl (Nat.le_of_ble_eq_true rfl) dn_Meaning_instanceEnd_4 ⟨Nat.le_of_ble_eq_true rfl, Nat.le_of_ble_eq_true rfl⟩) hP hD hS hA (fun r_3 _ H locs hw hP hD hS => ?_)
  have hw : r_3 = q_1.1 := hw
  subst hw
  refine lv_if_eq (tgt := 11) hx hb dn_Meaning_instanceEnd_7 (by decide) (fun h => ?_) (fun h => ?_)
  · have hf := (if_pos h).symm.trans hf
    refine lv_aload_n hx hb dn_Meaning_instanceEnd_11 rfl (lv_at hl 0 rfl) ?_
    refine va_get (D := (dC, dI)) (ci := 5) (v := .ref ((a 110))) (C := rn_Meaning) (T := fn_Meaning) (N := 17) hx hb hg in_Meaning hown hK hP 4 rfl rfl 2 (by decide) (hg _ wn_1_186) (fun _ h9 => h9) (congrArg some hv_5) dn_Meaning_instanceEnd_12 ?_
    refine va_get (D := (dC, dI)) (ci := 11) (v := .int ((q_1.2.1 328 0))) (C := rn_Parts) (T := fn_Parts) (N := 15) hx hb hg in_Parts hown hK hP 10 rfl rfl 7 (by decide) (hg _ wn_2_151) (fun _ h9 => h9) rfl dn_Meaning_instanceEnd_15 ?_
    refine lv_iconst (v := 1) hx hb dn_Meaning_instanceEnd_18 (by decide) ?_
    refine lv_isub hx hb dn_Meaning_instanceEnd_19 ?_
    refine lv_istore_n (lv' := [(1, .int (((q_1.2.1 328 0) - 1))), (0, .ref ((a 104)))]) hx hb dn_Meaning_instanceEnd_20 rfl hl (by decide) rfl (fun ls hl => ?_)
    refine lv_iload_n hx hb dn_Meaning_instanceEnd_21 rfl (lv_at hl 0 rfl) ?_
    refine lv_if_ge (tgt := 26) hx hb dn_Meaning_instanceEnd_22 (by decide) (fun h => ?_) (fun h => ?_)
    · have hf := (if_pos h).symm.trans hf
      refine lv_aload_n hx hb dn_Meaning_instanceEnd_26 rfl (lv_at hl 1 rfl) ?_
      refine va_get (D := (dC, dI)) (ci := 5) (v := .ref ((a 110))) (C := rn_Meaning) (T := fn_Meaning) (N := 17) hx hb hg in_Meaning hown hK hP 4 rfl rfl 2 (by decide) (hg _ wn_1_186) (fun _ h9 => h9) (congrArg some hv_5) dn_Meaning_instanceEnd_27 ?_
      refine va_get (D := (dC, dI)) (ci := 11) (v := .int ((q_1.2.1 332 0))) (C := rn_Parts) (T := fn_Parts) (N := 15) hx hb hg in_Parts hown hK hP 10 rfl rfl 11 (by decide) (hg _ wn_2_163) (fun _ h9 => h9) rfl dn_Meaning_instanceEnd_30 ?_
      refine lv_aload_n hx hb dn_Meaning_instanceEnd_33 rfl (lv_at hl 1 rfl) ?_
      refine va_get (D := (dC, dI)) (ci := 5) (v := .ref ((a 110))) (C := rn_Meaning) (T := fn_Meaning) (N := 17) hx hb hg in_Meaning hown hK hP 4 rfl rfl 2 (by decide) (hg _ wn_1_186) (fun _ h9 => h9) (congrArg some hv_5) dn_Meaning_instanceEnd_34 ?_
      refine va_get (D := (dC, dI)) (ci := 11) (v := .ref ((a 331))) (C := rn_Parts) (T := fn_Parts) (N := 15) hx hb hg in_Parts hown hK hP 10 rfl rfl 10 (by decide) (hg _ wn_2_161) (fun _ h9 => h9) rfl dn_Meaning_instanceEnd_37 ?_
      refine lv_iload_n hx hb dn_Meaning_instanceEnd_40 rfl (lv_at hl 0 rfl) ?_
      obtain ⟨hg_4, hf⟩ := dc_g hf
      refine va_iald hx hb hK hP 69 0 rfl rfl hg_4 dn_Meaning_instanceEnd_41 ?_
      refine xk_ti (y := ((q_1.2.1 331) (Int32.toNatClampNeg (((q_1.2.1 328 0) - 1))))) rfl ?_
      refine lv_isub hx hb dn_Meaning_instanceEnd_42 ?_
      refine lv_istore_n (lv' := [(2, .int (((q_1.2.1 332 0) - ((q_1.2.1 331) (Int32.toNatClampNeg (((q_1.2.1 328 0) - 1))))))), (1, .int (((q_1.2.1 328 0) - 1))), (0, .ref ((a 104)))]) hx hb dn_Meaning_instanceEnd_43 rfl hl (by decide) rfl (fun ls hl => ?_)
      refine lv_iload_n hx hb dn_Meaning_instanceEnd_44 rfl (lv_at hl 0 rfl) ?_
      refine lv_aload_n hx hb dn_Meaning_instanceEnd_45 rfl (lv_at hl 2 rfl) ?_
      refine va_get (D := (dC, dI)) (ci := 5) (v := .ref ((a 109))) (C := rn_Meaning) (T := fn_Meaning) (N := 17) hx hb hg in_Meaning hown hK hP 4 rfl rfl 1 (by decide) (hg _ wn_1_185) (fun _ h9 => h9) (congrArg some hv_4) dn_Meaning_instanceEnd_46 ?_
      refine lv_aload_n hx hb dn_Meaning_instanceEnd_49 rfl (lv_at hl 2 rfl) ?_
      refine va_get (D := (dC, dI)) (ci := 5) (v := .ref ((a 110))) (C := rn_Meaning) (T := fn_Meaning) (N := 17) hx hb hg in_Meaning hown hK hP 4 rfl rfl 2 (by decide) (hg _ wn_1_186) (fun _ h9 => h9) (congrArg some hv_5) dn_Meaning_instanceEnd_50 ?_
      refine va_get (D := (dC, dI)) (ci := 11) (v := .ref ((a 329))) (C := rn_Parts) (T := fn_Parts) (N := 15) hx hb hg in_Parts hown hK hP 10 rfl rfl 8 (by decide) (hg _ wn_2_154) (fun _ h9 => h9) rfl dn_Meaning_instanceEnd_53 ?_
      refine lv_iload_n hx hb dn_Meaning_instanceEnd_56 rfl (lv_at hl 1 rfl) ?_
      obtain ⟨hg_5, hf⟩ := dc_g hf
      refine va_iald hx hb hK hP 67 0 rfl rfl hg_5 dn_Meaning_instanceEnd_57 ?_
      refine xk_ti (y := ((q_1.2.1 329) (Int32.toNatClampNeg (((q_1.2.1 328 0) - 1))))) rfl ?_
      obtain ⟨q_6, hc_7, hf⟩ := dc_b hf
      refine dc_calli (dc_runV (ar := 1) (As := [.int (((q_1.2.1 329) (Int32.toNatClampNeg (((q_1.2.1 328 0) - 1)))))]) (rest := [.int (((q_1.2.1 332 0) - ((q_1.2.1 331) (Int32.toNatClampNeg (((q_1.2.1 328 0) - 1))))))]) (ci := 10) (q0 := 9) ⟨hx, hb, hml, hown, hg⟩ hK hN hT hS hA (ct_Design_portCount_Ds l dC dI cI cB cJ cZ cQ N H.size a v (((q_1.2.1 329) (Int32.toNatClampNeg (((q_1.2.1 328 0) - 1))))) q_1.2 q_6 hc_7) hP hD rfl rfl wn_5_87 wn_5_88 wn_5_89 wn_1_10 wn_5_90 rfl rfl (by decide +kernel) ⟨Nat.le_of_ble_eq_true rfl, Nat.le_of_ble_eq_true rfl⟩ rfl hl.1 rfl (Nat.le_of_ble_eq_true rfl) dn_Meaning_instanceEnd_58 ⟨Nat.le_of_ble_eq_true rfl, Nat.le_of_ble_eq_true rfl⟩) hP hD hS hA (fun r_8 _ H locs hw hP hD hS => ?_)
      have hw : r_8 = q_6.1 := hw
      subst hw
      refine lv_icmp_eq (tgt := 82) hx hb dn_Meaning_instanceEnd_61 (by decide) (fun h => ?_) (fun h => ?_)
      · have hf := (if_pos h).symm.trans hf
        rw [hQQ, ← Option.some.inj hf]
        exact xk_vret (w1 := fun u : Unit => (wC a v cI cB cJ cZ cQ q_6.2)) () hx hb hr hlocks hK hS dn_Meaning_instanceEnd_82 hP hD trivial (Nat.le_refl _) (Nat.le_refl _)
      · have hf := (if_neg h).symm.trans hf
        refine lv_aload_n hx hb dn_Meaning_instanceEnd_64 rfl (lv_at hl 2 rfl) ?_
        refine va_get (D := (dC, dI)) (ci := 5) (v := .ref ((a 103))) (C := rn_Meaning) (T := fn_Meaning) (N := 17) hx hb hg in_Meaning hown hK hP 4 rfl rfl 0 (by decide) (hg _ wn_1_184) (fun _ h9 => h9) rfl dn_Meaning_instanceEnd_65 ?_
        refine lv_bipush (v := 24) hx hb dn_Meaning_instanceEnd_68 (by decide) ?_
        refine lv_aload_n hx hb dn_Meaning_instanceEnd_70 rfl (lv_at hl 2 rfl) ?_
        refine va_get (D := (dC, dI)) (ci := 5) (v := .ref ((a 110))) (C := rn_Meaning) (T := fn_Meaning) (N := 17) hx hb hg in_Meaning hown hK hP 4 rfl rfl 2 (by decide) (hg _ wn_1_186) (fun _ h9 => h9) (congrArg some hv_5) dn_Meaning_instanceEnd_71 ?_
        refine va_get (D := (dC, dI)) (ci := 11) (v := .ref ((a 330))) (C := rn_Parts) (T := fn_Parts) (N := 15) hx hb hg in_Parts hown hK hP 10 rfl rfl 9 (by decide) (hg _ wn_2_157) (fun _ h9 => h9) rfl dn_Meaning_instanceEnd_74 ?_
        refine lv_iload_n hx hb dn_Meaning_instanceEnd_77 rfl (lv_at hl 1 rfl) ?_
        obtain ⟨hg_9, hf⟩ := dc_g hf
        refine va_iald hx hb hK hP 68 0 rfl rfl hg_9 dn_Meaning_instanceEnd_78 ?_
        refine xk_ti (y := ((q_6.2.1 330) (Int32.toNatClampNeg (((q_1.2.1 328 0) - 1))))) rfl ?_
        obtain ⟨q_10, hc_11, hf⟩ := dc_b hf
        refine dc_callv (dc_runV (ar := 2) (As := [.int 24, .int (((q_6.2.1 330) (Int32.toNatClampNeg (((q_1.2.1 328 0) - 1)))))]) (rest := []) (ci := 4) (q0 := 3) ⟨hx, hb, hml, hown, hg⟩ hK hN hT hS hA (ct_Checker_refuse_Ch l dC dI cI cB cJ cZ cQ N H.size a v 24 (((q_6.2.1 330) (Int32.toNatClampNeg (((q_1.2.1 328 0) - 1))))) q_6.2 q_10 hc_11) hP hD rfl rfl wn_4_201 wn_4_202 wn_4_203 wn_1_4 wn_4_204 rfl rfl (by decide +kernel) ⟨Nat.le_of_ble_eq_true rfl, Nat.le_of_ble_eq_true rfl⟩ rfl hl.1 rfl (Nat.le_of_ble_eq_true rfl) dn_Meaning_instanceEnd_79 ⟨Nat.le_of_ble_eq_true rfl, Nat.le_of_ble_eq_true rfl⟩) hP hD hS hA (fun _ H locs hw hP hD hS => ?_)
        rw [hQQ, ← Option.some.inj hf]
        exact xk_vret (w1 := fun u : Unit => (wC a v cI cB cJ cZ cQ q_10.2)) () hx hb hr hlocks hK hS dn_Meaning_instanceEnd_82 hP hD trivial (Nat.le_refl _) (Nat.le_refl _)
    · have hf := (if_neg h).symm.trans hf
      rw [hQQ, ← Option.some.inj hf]
      exact xk_vret (w1 := fun u : Unit => (wC a v cI cB cJ cZ cQ q_1.2)) () hx hb hr hlocks hK hS dn_Meaning_instanceEnd_25 hP hD trivial (Nat.le_refl _) (Nat.le_refl _)
  · have hf := (if_neg h).symm.trans hf
    rw [hQQ, ← Option.some.inj hf]
    exact xk_vret (w1 := fun u : Unit => (wC a v cI cB cJ cZ cQ q_1.2)) () hx hb hr hlocks hK hS dn_Meaning_instanceEnd_10 hP hD trivial (Nat.le_refl _) (Nat.le_refl _)
set_option maxHeartbeats 8000000 in
set_option maxRecDepth 100000 in
theorem ct_Grammar_instanceEnd_Gr (l : Launch) (dC : Nat → ClassId) (dI : Nat → Nat → Nat) (cI cB cJ cZ cQ : ClassId) (N sz : Nat) (a : Nat → Nat) (v : Nat → Value) (hv_4 : v 4 = .ref (a 109)) (hv_5 : v 5 = .ref (a 110)) (s : ms) (y : (Unit × ms)) (hf : fn_Grammar_instanceEnd_Gr N s = some y) : Met l yn_Grammar_instanceEnd (xw yn_Grammar_instanceEnd bn_Grammar_instanceEnd 1 none) ({ frames := 3, cells := 0, slots := 0, locals := 64 }) (dc_P (dC, dI) xcl (xt cI cB cJ cZ cQ) [.ref ((a 105))] sz (wC a v cI cB cJ cZ cQ s)) (xk_Qv (dC, dI) xcl (xt cI cB cJ cZ cQ) (fun _ : Unit => True) (fun u : Unit => (wC a v cI cB cJ cZ cQ y.2)) (va_A (wC a v cI cB cJ cZ cQ s) sz)) 0 0 (va_A (wC a v cI cB cJ cZ cQ s) sz) := by
  refine dc_of (QA := xk_Qv (dC, dI) xcl (xt cI cB cJ cZ cQ) (fun _ : Unit => True) (fun u : Unit => (wC a v cI cB cJ cZ cQ y.2))) (by decide) (Nat.le_of_ble_eq_true rfl) ?_
  intro p e s0 m below meth c hx hb hml hown hg hr hlocks hin hP hK hN A hA hD hT ls hl
  have hown : s0.vm.findClass rn_Grammar = some m.cls := hown
  obtain ⟨H, hH⟩ : ∃ z, z = s0.heap := ⟨_, rfl⟩
  rw [← hH] at hP
  have hS : va_S A s0.heap H [] := by rw [hH]; exact va_S.rf
  suffices kk : ∀ QQ : State → Prop, QQ = MQ below (xk_Qv (dC, dI) xcl (xt cI cB cJ cZ cQ) (fun _ : Unit => True) (fun u : Unit => (wC a v cI cB cJ cZ cQ y.2)) A) [.ref ((a 105))].toArray s0 0 0 A → dcC p l e ({ frames := 3, cells := 0, slots := 0, locals := 64 }) s0 m [.ref ((a 105))].toArray below meth c QQ (dC, dI) A (wC a v cI cB cJ cZ cQ s) 0 1 [(0, .ref ((a 105)))] [] by
    have k9 := kk _ rfl H [] ls hP hD hS hl
    rw [hH] at k9; exact k9
  clear hP hD hS hl hH H ls
  intro QQ hQQ
  intro H locs ls hP hD hS hl
  unfold fn_Grammar_instanceEnd_Gr at hf
  refine lv_aload_n hx hb dn_Grammar_instanceEnd_0 rfl (lv_at hl 0 rfl) ?_
  refine va_get (D := (dC, dI)) (ci := 6) (v := .ref ((a 101))) (C := rn_Grammar) (T := fn_Grammar) (N := 15) hx hb hg in_Grammar hown hK hP 5 rfl rfl 0 (by decide) (hg _ wn_2_0) (fun _ h9 => h9) rfl dn_Grammar_instanceEnd_1 ?_
  refine lv_bipush (v := 41) hx hb dn_Grammar_instanceEnd_4 (by decide) ?_
  obtain ⟨q_1, hc_2, hf⟩ := dc_b hf
  refine dc_callv (dc_runV (ar := 1) (As := [.int 41]) (rest := []) (ci := 2) (q0 := 1) ⟨hx, hb, hml, hown, hg⟩ hK hN hT hS hA (ct_Tokens_shut_Tk l dC dI cI cB cJ cZ cQ N H.size a v 41 s q_1 hc_2) hP hD rfl rfl wn_4_226 wn_4_227 wn_4_228 wn_1_2 wn_4_229 rfl rfl (by decide +kernel) ⟨Nat.le_of_ble_eq_true rfl, Nat.le_of_ble_eq_true rfl⟩ rfl hl.1 rfl (Nat.le_of_ble_eq_true rfl) dn_Grammar_instanceEnd_6 ⟨Nat.le_of_ble_eq_true rfl, Nat.le_of_ble_eq_true rfl⟩) hP hD hS hA (fun _ H locs hw hP hD hS => ?_)
  refine lv_aload_n hx hb dn_Grammar_instanceEnd_9 rfl (lv_at hl 0 rfl) ?_
  refine va_get (D := (dC, dI)) (ci := 6) (v := .ref ((a 101))) (C := rn_Grammar) (T := fn_Grammar) (N := 15) hx hb hg in_Grammar hown hK hP 5 rfl rfl 0 (by decide) (hg _ wn_2_0) (fun _ h9 => h9) rfl dn_Grammar_instanceEnd_10 ?_
  refine lv_bipush (v := 59) hx hb dn_Grammar_instanceEnd_13 (by decide) ?_
  obtain ⟨q_3, hc_4, hf⟩ := dc_b hf
  refine dc_callv (dc_runV (ar := 1) (As := [.int 59]) (rest := []) (ci := 2) (q0 := 1) ⟨hx, hb, hml, hown, hg⟩ hK hN hT hS hA (ct_Tokens_need_Tk l dC dI cI cB cJ cZ cQ N H.size a v 59 q_1.2 q_3 hc_4) hP hD rfl rfl wn_4_173 wn_4_174 wn_4_175 wn_1_2 wn_4_176 rfl rfl (by decide +kernel) ⟨Nat.le_of_ble_eq_true rfl, Nat.le_of_ble_eq_true rfl⟩ rfl hl.1 rfl (Nat.le_of_ble_eq_true rfl) dn_Grammar_instanceEnd_15 ⟨Nat.le_of_ble_eq_true rfl, Nat.le_of_ble_eq_true rfl⟩) hP hD hS hA (fun _ H locs hw hP hD hS => ?_)
  refine lv_aload_n hx hb dn_Grammar_instanceEnd_18 rfl (lv_at hl 0 rfl) ?_
  refine va_get (D := (dC, dI)) (ci := 6) (v := .ref ((a 104))) (C := rn_Grammar) (T := fn_Grammar) (N := 15) hx hb hg in_Grammar hown hK hP 5 rfl rfl 2 (by decide) (hg _ wn_2_2) (fun _ h9 => h9) rfl dn_Grammar_instanceEnd_19 ?_
  obtain ⟨q_5, hc_6, hf⟩ := dc_b hf
  refine dc_callv (dc_runV (ar := 0) (As := []) (rest := []) (ci := 5) (q0 := 4) ⟨hx, hb, hml, hown, hg⟩ hK hN hT hS hA (ct_Meaning_instanceEnd_Me l dC dI cI cB cJ cZ cQ N H.size a v hv_4 hv_5 q_3.2 q_5 hc_6) hP hD rfl rfl wn_5_83 wn_5_84 wn_5_85 wn_1_6 wn_5_86 rfl rfl (by decide +kernel) ⟨Nat.le_of_ble_eq_true rfl, Nat.le_of_ble_eq_true rfl⟩ rfl hl.1 rfl (Nat.le_of_ble_eq_true rfl) dn_Grammar_instanceEnd_22 ⟨Nat.le_of_ble_eq_true rfl, Nat.le_of_ble_eq_true rfl⟩) hP hD hS hA (fun _ H locs hw hP hD hS => ?_)
  refine lv_aload_n hx hb dn_Grammar_instanceEnd_25 rfl (lv_at hl 0 rfl) ?_
  refine lv_iconst (v := 2) hx hb dn_Grammar_instanceEnd_26 (by decide) ?_
  refine va_put (D := (dC, dI)) (ci := 6) (v := .int 2) (ty := .int) (C := rn_Grammar) (T := fn_Grammar) (N := 15) hx hb hg in_Grammar tn_Grammar tk_Grammar nn_Grammar hown hK hP hD hS 5 rfl rfl 3 (by decide) (hg _ wn_2_3) (fun _ h9 => h9) rfl (tk_Grammar 3 (by decide)) rfl rfl (Nat.le_of_ble_eq_true rfl) dn_Grammar_instanceEnd_27 (fun H locs hP hD hS => ?_)
  have hP := wC_P_264 hP
  have hD := wC_D_264 hD
  rw [hQQ, ← Option.some.inj hf]
  exact xk_vret (w1 := fun u : Unit => (wC a v cI cB cJ cZ cQ (upI q_5.2 264 (fun _ => 2)))) () hx hb hr hlocks hK hS dn_Grammar_instanceEnd_30 hP hD trivial (Nat.le_refl _) (Nat.le_refl _)
set_option maxHeartbeats 8000000 in
set_option maxRecDepth 100000 in
theorem ct_Grammar_instance_Gr (l : Launch) (dC : Nat → ClassId) (dI : Nat → Nat → Nat) (cI cB cJ cZ cQ : ClassId) (N sz : Nat) (a : Nat → Nat) (v : Nat → Value) (hv_4 : v 4 = .ref (a 109)) (hv_5 : v 5 = .ref (a 110)) (s : ms) (y : (Unit × ms)) (hf : fn_Grammar_instance_Gr N s = some y) : Met l yn_Grammar_instance (xw yn_Grammar_instance bn_Grammar_instance 1 none) ({ frames := 4, cells := 0, slots := 0, locals := 84 }) (dc_P (dC, dI) xcl (xt cI cB cJ cZ cQ) [.ref ((a 105))] sz (wC a v cI cB cJ cZ cQ s)) (xk_Qv (dC, dI) xcl (xt cI cB cJ cZ cQ) (fun _ : Unit => True) (fun u : Unit => (wC a v cI cB cJ cZ cQ y.2)) (va_A (wC a v cI cB cJ cZ cQ s) sz)) 0 0 (va_A (wC a v cI cB cJ cZ cQ s) sz) := by
  refine dc_of (QA := xk_Qv (dC, dI) xcl (xt cI cB cJ cZ cQ) (fun _ : Unit => True) (fun u : Unit => (wC a v cI cB cJ cZ cQ y.2))) (by decide) (Nat.le_of_ble_eq_true rfl) ?_
  intro p e s0 m below meth c hx hb hml hown hg hr hlocks hin hP hK hN A hA hD hT ls hl
  have hown : s0.vm.findClass rn_Grammar = some m.cls := hown
  obtain ⟨H, hH⟩ : ∃ z, z = s0.heap := ⟨_, rfl⟩
  rw [← hH] at hP
  have hS : va_S A s0.heap H [] := by rw [hH]; exact va_S.rf
  suffices kk : ∀ QQ : State → Prop, QQ = MQ below (xk_Qv (dC, dI) xcl (xt cI cB cJ cZ cQ) (fun _ : Unit => True) (fun u : Unit => (wC a v cI cB cJ cZ cQ y.2)) A) [.ref ((a 105))].toArray s0 0 0 A → dcC p l e ({ frames := 4, cells := 0, slots := 0, locals := 84 }) s0 m [.ref ((a 105))].toArray below meth c QQ (dC, dI) A (wC a v cI cB cJ cZ cQ s) 0 1 [(0, .ref ((a 105)))] [] by
    have k9 := kk _ rfl H [] ls hP hD hS hl
    rw [hH] at k9; exact k9
  clear hP hD hS hl hH H ls
  intro QQ hQQ
  have bl_60 : ∀ (s : ms), bk_Grammar_instance_Gr_60 N s = some y → dcC p l e ({ frames := 4, cells := 0, slots := 0, locals := 84 }) s0 m [.ref ((a 105))].toArray below meth c QQ (dC, dI) A (wC a v cI cB cJ cZ cQ s) 60 1 [(0, .ref ((a 105)))] [] := by
    intro s hf H locs ls hP hD hS hl
    unfold bk_Grammar_instance_Gr_60 at hf
    refine lv_aload_n hx hb dn_Grammar_instance_60 rfl (lv_at hl 0 rfl) ?_
    refine va_get (D := (dC, dI)) (ci := 6) (v := .ref ((a 101))) (C := rn_Grammar) (T := fn_Grammar) (N := 15) hx hb hg in_Grammar hown hK hP 5 rfl rfl 0 (by decide) (hg _ wn_2_0) (fun _ h9 => h9) rfl dn_Grammar_instance_61 ?_
    obtain ⟨q_1, hc_2, hf⟩ := dc_b hf
    refine dc_callv (dc_runV (ar := 0) (As := []) (rest := []) (ci := 2) (q0 := 1) ⟨hx, hb, hml, hown, hg⟩ hK hN hT hS hA (ct_Tokens_take_Tk l dC dI cI cB cJ cZ cQ N H.size a v s q_1 hc_2) hP hD rfl rfl wn_4_213 wn_4_149 wn_4_150 wn_1_2 wn_4_151 rfl rfl (by decide +kernel) ⟨Nat.le_of_ble_eq_true rfl, Nat.le_of_ble_eq_true rfl⟩ rfl hl.1 rfl (Nat.le_of_ble_eq_true rfl) dn_Grammar_instance_64 ⟨Nat.le_of_ble_eq_true rfl, Nat.le_of_ble_eq_true rfl⟩) hP hD hS hA (fun _ H locs hw hP hD hS => ?_)
    refine lv_aload_n hx hb dn_Grammar_instance_67 rfl (lv_at hl 0 rfl) ?_
    refine va_get (D := (dC, dI)) (ci := 6) (v := .ref ((a 101))) (C := rn_Grammar) (T := fn_Grammar) (N := 15) hx hb hg in_Grammar hown hK hP 5 rfl rfl 0 (by decide) (hg _ wn_2_0) (fun _ h9 => h9) rfl dn_Grammar_instance_68 ?_
    refine lv_bipush (v := 40) hx hb dn_Grammar_instance_71 (by decide) ?_
    obtain ⟨q_3, hc_4, hf⟩ := dc_b hf
    refine dc_callv (dc_runV (ar := 1) (As := [.int 40]) (rest := []) (ci := 2) (q0 := 1) ⟨hx, hb, hml, hown, hg⟩ hK hN hT hS hA (ct_Tokens_open_Tk l dC dI cI cB cJ cZ cQ N H.size a v 40 q_1.2 q_3 hc_4) hP hD rfl rfl wn_4_214 wn_4_215 wn_4_216 wn_1_2 wn_4_217 rfl rfl (by decide +kernel) ⟨Nat.le_of_ble_eq_true rfl, Nat.le_of_ble_eq_true rfl⟩ rfl hl.1 rfl (Nat.le_of_ble_eq_true rfl) dn_Grammar_instance_73 ⟨Nat.le_of_ble_eq_true rfl, Nat.le_of_ble_eq_true rfl⟩) hP hD hS hA (fun _ H locs hw hP hD hS => ?_)
    refine lv_aload_n hx hb dn_Grammar_instance_76 rfl (lv_at hl 0 rfl) ?_
    refine va_get (D := (dC, dI)) (ci := 6) (v := .ref ((a 101))) (C := rn_Grammar) (T := fn_Grammar) (N := 15) hx hb hg in_Grammar hown hK hP 5 rfl rfl 0 (by decide) (hg _ wn_2_0) (fun _ h9 => h9) rfl dn_Grammar_instance_77 ?_
    refine va_get (D := (dC, dI)) (ci := 2) (v := .int ((q_3.2.1 214 0))) (C := rn_Tokens) (T := fn_Tokens) (N := 9) hx hb hg in_Tokens hown hK hP 1 rfl rfl 3 (by decide) (hg _ wn_1_50) (fun _ h9 => h9) rfl dn_Grammar_instance_80 ?_
    refine lv_bipush (v := 41) hx hb dn_Grammar_instance_83 (by decide) ?_
    refine lv_icmp_ne (tgt := 95) hx hb dn_Grammar_instance_85 (by decide) (fun h => ?_) (fun h => ?_)
    · have hf := (if_neg h).symm.trans hf
      refine lv_aload_n hx hb dn_Grammar_instance_95 rfl (lv_at hl 0 rfl) ?_
      refine lv_iconst (v := 3) hx hb dn_Grammar_instance_96 (by decide) ?_
      refine va_put (D := (dC, dI)) (ci := 6) (v := .int 3) (ty := .int) (C := rn_Grammar) (T := fn_Grammar) (N := 15) hx hb hg in_Grammar tn_Grammar tk_Grammar nn_Grammar hown hK hP hD hS 5 rfl rfl 3 (by decide) (hg _ wn_2_3) (fun _ h9 => h9) rfl (tk_Grammar 3 (by decide)) rfl rfl (Nat.le_of_ble_eq_true rfl) dn_Grammar_instance_97 (fun H locs hP hD hS => ?_)
      have hP := wC_P_264 hP
      have hD := wC_D_264 hD
      rw [hQQ, ← Option.some.inj hf]
      exact xk_vret (w1 := fun u : Unit => (wC a v cI cB cJ cZ cQ (upI q_3.2 264 (fun _ => 3)))) () hx hb hr hlocks hK hS dn_Grammar_instance_100 hP hD trivial (Nat.le_refl _) (Nat.le_refl _)
    · have hf := (if_pos h).symm.trans hf
      refine lv_aload_n hx hb dn_Grammar_instance_88 rfl (lv_at hl 0 rfl) ?_
      obtain ⟨q_5, hc_6, hf⟩ := dc_b hf
      refine dc_callv (dc_runV (ar := 0) (As := []) (rest := []) (ci := 6) (q0 := 5) ⟨hx, hb, hml, hown, hg⟩ hK hN hT hS hA (ct_Grammar_instanceEnd_Gr l dC dI cI cB cJ cZ cQ N H.size a v hv_4 hv_5 q_3.2 q_5 hc_6) hP hD rfl rfl wn_5_79 wn_5_81 sn_Grammar_instanceEnd wn_1_5 wn_5_82 rfl rfl (by decide +kernel) ⟨Nat.le_of_ble_eq_true rfl, Nat.le_of_ble_eq_true rfl⟩ rfl hl.1 rfl (Nat.le_of_ble_eq_true rfl) dn_Grammar_instance_89 ⟨Nat.le_of_ble_eq_true rfl, Nat.le_of_ble_eq_true rfl⟩) hP hD hS hA (fun _ H locs hw hP hD hS => ?_)
      refine lv_goto (tgt := 100) hx hb dn_Grammar_instance_92 (by decide) ?_
      rw [hQQ, ← Option.some.inj hf]
      exact xk_vret (w1 := fun u : Unit => (wC a v cI cB cJ cZ cQ q_5.2)) () hx hb hr hlocks hK hS dn_Grammar_instance_100 hP hD trivial (Nat.le_refl _) (Nat.le_refl _)
  intro H locs ls hP hD hS hl
  unfold fn_Grammar_instance_Gr at hf
  refine lv_aload_n hx hb dn_Grammar_instance_0 rfl (lv_at hl 0 rfl) ?_
  refine va_get (D := (dC, dI)) (ci := 6) (v := .ref ((a 104))) (C := rn_Grammar) (T := fn_Grammar) (N := 15) hx hb hg in_Grammar hown hK hP 5 rfl rfl 2 (by decide) (hg _ wn_2_2) (fun _ h9 => h9) rfl dn_Grammar_instance_1 ?_
  refine lv_aload_n hx hb dn_Grammar_instance_4 rfl (lv_at hl 0 rfl) ?_
  refine va_get (D := (dC, dI)) (ci := 6) (v := .ref ((a 101))) (C := rn_Grammar) (T := fn_Grammar) (N := 15) hx hb hg in_Grammar hown hK hP 5 rfl rfl 0 (by decide) (hg _ wn_2_0) (fun _ h9 => h9) rfl dn_Grammar_instance_5 ?_
  refine va_get (D := (dC, dI)) (ci := 2) (v := .int ((s.1 216 0))) (C := rn_Tokens) (T := fn_Tokens) (N := 9) hx hb hg in_Tokens hown hK hP 1 rfl rfl 5 (by decide) (hg _ wn_1_54) (fun _ h9 => h9) rfl dn_Grammar_instance_8 ?_
  refine lv_aload_n hx hb dn_Grammar_instance_11 rfl (lv_at hl 0 rfl) ?_
  refine va_get (D := (dC, dI)) (ci := 6) (v := .ref ((a 101))) (C := rn_Grammar) (T := fn_Grammar) (N := 15) hx hb hg in_Grammar hown hK hP 5 rfl rfl 0 (by decide) (hg _ wn_2_0) (fun _ h9 => h9) rfl dn_Grammar_instance_12 ?_
  refine va_get (D := (dC, dI)) (ci := 2) (v := .int ((s.1 215 0))) (C := rn_Tokens) (T := fn_Tokens) (N := 9) hx hb hg in_Tokens hown hK hP 1 rfl rfl 4 (by decide) (hg _ wn_1_52) (fun _ h9 => h9) rfl dn_Grammar_instance_15 ?_
  obtain ⟨q_1, hc_2, hf⟩ := dc_b hf
  refine dc_callv (dc_runV (ar := 2) (As := [.int ((s.1 216 0)), .int ((s.1 215 0))]) (rest := []) (ci := 5) (q0 := 4) ⟨hx, hb, hml, hown, hg⟩ hK hN hT hS hA (ct_Meaning_instance_Me l dC dI cI cB cJ cZ cQ N H.size a v hv_4 hv_5 ((s.1 216 0)) ((s.1 215 0)) s q_1 hc_2) hP hD rfl rfl wn_5_67 wn_5_68 wn_5_69 wn_1_6 wn_5_70 rfl rfl (by decide +kernel) ⟨Nat.le_of_ble_eq_true rfl, Nat.le_of_ble_eq_true rfl⟩ rfl hl.1 rfl (Nat.le_of_ble_eq_true rfl) dn_Grammar_instance_18 ⟨Nat.le_of_ble_eq_true rfl, Nat.le_of_ble_eq_true rfl⟩) hP hD hS hA (fun _ H locs hw hP hD hS => ?_)
  refine lv_aload_n hx hb dn_Grammar_instance_21 rfl (lv_at hl 0 rfl) ?_
  refine va_get (D := (dC, dI)) (ci := 6) (v := .ref ((a 101))) (C := rn_Grammar) (T := fn_Grammar) (N := 15) hx hb hg in_Grammar hown hK hP 5 rfl rfl 0 (by decide) (hg _ wn_2_0) (fun _ h9 => h9) rfl dn_Grammar_instance_22 ?_
  obtain ⟨q_3, hc_4, hf⟩ := dc_b hf
  refine dc_callv (dc_runV (ar := 0) (As := []) (rest := []) (ci := 2) (q0 := 1) ⟨hx, hb, hml, hown, hg⟩ hK hN hT hS hA (ct_Tokens_take_Tk l dC dI cI cB cJ cZ cQ N H.size a v q_1.2 q_3 hc_4) hP hD rfl rfl wn_4_213 wn_4_149 wn_4_150 wn_1_2 wn_4_151 rfl rfl (by decide +kernel) ⟨Nat.le_of_ble_eq_true rfl, Nat.le_of_ble_eq_true rfl⟩ rfl hl.1 rfl (Nat.le_of_ble_eq_true rfl) dn_Grammar_instance_25 ⟨Nat.le_of_ble_eq_true rfl, Nat.le_of_ble_eq_true rfl⟩) hP hD hS hA (fun _ H locs hw hP hD hS => ?_)
  refine lv_aload_n hx hb dn_Grammar_instance_28 rfl (lv_at hl 0 rfl) ?_
  refine va_get (D := (dC, dI)) (ci := 6) (v := .ref ((a 101))) (C := rn_Grammar) (T := fn_Grammar) (N := 15) hx hb hg in_Grammar hown hK hP 5 rfl rfl 0 (by decide) (hg _ wn_2_0) (fun _ h9 => h9) rfl dn_Grammar_instance_29 ?_
  refine lv_iconst (v := 2) hx hb dn_Grammar_instance_32 (by decide) ?_
  obtain ⟨q_5, hc_6, hf⟩ := dc_b hf
  refine dc_calli (dc_runV (ar := 1) (As := [.int 2]) (rest := []) (ci := 2) (q0 := 1) ⟨hx, hb, hml, hown, hg⟩ hK hN hT hS hA (ct_Tokens_due_Tk l dC dI cI cB cJ cZ cQ N H.size a v 2 q_3.2 q_5 hc_6) hP hD rfl rfl wn_4_185 wn_4_186 wn_4_187 wn_1_2 wn_4_188 rfl rfl (by decide +kernel) ⟨Nat.le_of_ble_eq_true rfl, Nat.le_of_ble_eq_true rfl⟩ rfl hl.1 rfl (Nat.le_of_ble_eq_true rfl) dn_Grammar_instance_33 ⟨Nat.le_of_ble_eq_true rfl, Nat.le_of_ble_eq_true rfl⟩) hP hD hS hA (fun r_7 _ H locs hw hP hD hS => ?_)
  have hw : r_7 = q_5.1 := hw
  subst hw
  refine lv_if_eq (tgt := 60) hx hb dn_Grammar_instance_36 (by decide) (fun h => ?_) (fun h => ?_)
  · have hf := (if_pos h).symm.trans hf
    exact bl_60 q_5.2 hf H locs ls hP hD hS hl
  · have hf := (if_neg h).symm.trans hf
    refine lv_aload_n hx hb dn_Grammar_instance_39 rfl (lv_at hl 0 rfl) ?_
    refine va_get (D := (dC, dI)) (ci := 6) (v := .ref ((a 104))) (C := rn_Grammar) (T := fn_Grammar) (N := 15) hx hb hg in_Grammar hown hK hP 5 rfl rfl 2 (by decide) (hg _ wn_2_2) (fun _ h9 => h9) rfl dn_Grammar_instance_40 ?_
    refine lv_aload_n hx hb dn_Grammar_instance_43 rfl (lv_at hl 0 rfl) ?_
    refine va_get (D := (dC, dI)) (ci := 6) (v := .ref ((a 101))) (C := rn_Grammar) (T := fn_Grammar) (N := 15) hx hb hg in_Grammar hown hK hP 5 rfl rfl 0 (by decide) (hg _ wn_2_0) (fun _ h9 => h9) rfl dn_Grammar_instance_44 ?_
    refine va_get (D := (dC, dI)) (ci := 2) (v := .int ((q_5.2.1 216 0))) (C := rn_Tokens) (T := fn_Tokens) (N := 9) hx hb hg in_Tokens hown hK hP 1 rfl rfl 5 (by decide) (hg _ wn_1_54) (fun _ h9 => h9) rfl dn_Grammar_instance_47 ?_
    refine lv_aload_n hx hb dn_Grammar_instance_50 rfl (lv_at hl 0 rfl) ?_
    refine va_get (D := (dC, dI)) (ci := 6) (v := .ref ((a 101))) (C := rn_Grammar) (T := fn_Grammar) (N := 15) hx hb hg in_Grammar hown hK hP 5 rfl rfl 0 (by decide) (hg _ wn_2_0) (fun _ h9 => h9) rfl dn_Grammar_instance_51 ?_
    refine va_get (D := (dC, dI)) (ci := 2) (v := .int ((q_5.2.1 215 0))) (C := rn_Tokens) (T := fn_Tokens) (N := 9) hx hb hg in_Tokens hown hK hP 1 rfl rfl 4 (by decide) (hg _ wn_1_52) (fun _ h9 => h9) rfl dn_Grammar_instance_54 ?_
    obtain ⟨q_8, hc_9, hf⟩ := dc_b hf
    refine dc_callv (dc_runV (ar := 2) (As := [.int ((q_5.2.1 216 0)), .int ((q_5.2.1 215 0))]) (rest := []) (ci := 5) (q0 := 4) ⟨hx, hb, hml, hown, hg⟩ hK hN hT hS hA (ct_Meaning_instanceName_Me l dC dI cI cB cJ cZ cQ N H.size a v hv_5 ((q_5.2.1 216 0)) ((q_5.2.1 215 0)) q_5.2 q_8 hc_9) hP hD rfl rfl wn_5_75 wn_5_76 wn_5_77 wn_1_6 wn_5_78 rfl rfl (by decide +kernel) ⟨Nat.le_of_ble_eq_true rfl, Nat.le_of_ble_eq_true rfl⟩ rfl hl.1 rfl (Nat.le_of_ble_eq_true rfl) dn_Grammar_instance_57 ⟨Nat.le_of_ble_eq_true rfl, Nat.le_of_ble_eq_true rfl⟩) hP hD hS hA (fun _ H locs hw hP hD hS => ?_)
    exact bl_60 q_8.2 hf H locs ls hP hD hS hl
set_option maxHeartbeats 8000000 in
set_option maxRecDepth 100000 in
theorem ct_Design_firstDecl_Ds (l : Launch) (dC : Nat → ClassId) (dI : Nat → Nat → Nat) (cI cB cJ cZ cQ : ClassId) (N sz : Nat) (a : Nat → Nat) (v : Nat → Value) (v1 : Int32) (s : ms) (y : (Int32 × ms)) (hf : fn_Design_firstDecl_Ds N v1 s = some y) : Met l yn_Design_firstDecl (xw yn_Design_firstDecl bn_Design_firstDecl 2 (some .int)) ({ frames := 1, cells := 0, slots := 0, locals := 21 }) (dc_P (dC, dI) xcl (xt cI cB cJ cZ cQ) [.ref ((a 109)), .int v1] sz (wC a v cI cB cJ cZ cQ s)) (xk_Qi (dC, dI) xcl (xt cI cB cJ cZ cQ) (fun (r : Int32) (_ : Unit) => r = y.1) (fun u : Unit => (wC a v cI cB cJ cZ cQ y.2)) (va_A (wC a v cI cB cJ cZ cQ s) sz)) 0 0 (va_A (wC a v cI cB cJ cZ cQ s) sz) := by
  refine dc_of (QA := xk_Qi (dC, dI) xcl (xt cI cB cJ cZ cQ) (fun (r : Int32) (_ : Unit) => r = y.1) (fun u : Unit => (wC a v cI cB cJ cZ cQ y.2))) (by decide) (Nat.le_of_ble_eq_true rfl) ?_
  intro p e s0 m below meth c hx hb hml hown hg hr hlocks hin hP hK hN A hA hD hT ls hl
  have hown : s0.vm.findClass rn_Design = some m.cls := hown
  obtain ⟨H, hH⟩ : ∃ z, z = s0.heap := ⟨_, rfl⟩
  rw [← hH] at hP
  have hS : va_S A s0.heap H [] := by rw [hH]; exact va_S.rf
  suffices kk : ∀ QQ : State → Prop, QQ = MQ below (xk_Qi (dC, dI) xcl (xt cI cB cJ cZ cQ) (fun (r : Int32) (_ : Unit) => r = y.1) (fun u : Unit => (wC a v cI cB cJ cZ cQ y.2)) A) [.ref ((a 109)), .int v1].toArray s0 0 0 A → dcC p l e ({ frames := 1, cells := 0, slots := 0, locals := 21 }) s0 m [.ref ((a 109)), .int v1].toArray below meth c QQ (dC, dI) A (wC a v cI cB cJ cZ cQ s) 0 2 [(0, .ref ((a 109))), (1, .int v1)] [] by
    have k9 := kk _ rfl H [] ls hP hD hS hl
    rw [hH] at k9; exact k9
  clear hP hD hS hl hH H ls
  intro QQ hQQ
  intro H locs ls hP hD hS hl
  unfold fn_Design_firstDecl_Ds at hf
  refine lv_aload_n hx hb dn_Design_firstDecl_0 rfl (lv_at hl 0 rfl) ?_
  refine lv_iload_n hx hb dn_Design_firstDecl_1 rfl (lv_at hl 1 rfl) ?_
  obtain ⟨q_1, hc_2, hf⟩ := dc_b hf
  refine dc_calli (dc_runV (ar := 1) (As := [.int v1]) (rest := []) (ci := 10) (q0 := 9) ⟨hx, hb, hml, hown, hg⟩ hK hN hT hS hA (ct_Design_isModule_Ds l dC dI cI cB cJ cZ cQ N H.size a v v1 s q_1 hc_2) hP hD rfl rfl wn_5_91 wn_5_93 sn_Design_isModule wn_1_10 wn_5_94 rfl rfl (by decide +kernel) ⟨Nat.le_of_ble_eq_true rfl, Nat.le_of_ble_eq_true rfl⟩ rfl hl.1 rfl (Nat.le_of_ble_eq_true rfl) dn_Design_firstDecl_2 ⟨Nat.le_of_ble_eq_true rfl, Nat.le_of_ble_eq_true rfl⟩) hP hD hS hA (fun r_3 _ H locs hw hP hD hS => ?_)
  have hw : r_3 = q_1.1 := hw
  subst hw
  refine lv_if_eq (tgt := 17) hx hb dn_Design_firstDecl_5 (by decide) (fun h => ?_) (fun h => ?_)
  · have hf := (if_pos h).symm.trans hf
    refine lv_aload_n hx hb dn_Design_firstDecl_17 rfl (lv_at hl 0 rfl) ?_
    refine va_get (D := (dC, dI)) (ci := 10) (v := .ref ((a 110))) (C := rn_Design) (T := fn_Design) (N := 16) hx hb hg in_Design hown hK hP 9 rfl rfl 0 (by decide) (hg _ wn_2_234) (fun _ h9 => h9) rfl dn_Design_firstDecl_18 ?_
    refine va_get (D := (dC, dI)) (ci := 11) (v := .int ((q_1.2.1 321 0))) (C := rn_Parts) (T := fn_Parts) (N := 15) hx hb hg in_Parts hown hK hP 10 rfl rfl 0 (by decide) (hg _ wn_2_124) (fun _ h9 => h9) rfl dn_Design_firstDecl_21 ?_
    rw [hQQ, ← Option.some.inj hf]
    exact xk_iret (w1 := fun u : Unit => (wC a v cI cB cJ cZ cQ q_1.2)) () hx hb hr hlocks hK hS dn_Design_firstDecl_24 hP hD rfl (Nat.le_refl _) (Nat.le_refl _)
  · have hf := (if_neg h).symm.trans hf
    refine lv_aload_n hx hb dn_Design_firstDecl_8 rfl (lv_at hl 0 rfl) ?_
    refine va_get (D := (dC, dI)) (ci := 10) (v := .ref ((a 312))) (C := rn_Design) (T := fn_Design) (N := 16) hx hb hg in_Design hown hK hP 9 rfl rfl 7 (by decide) (hg _ wn_3_16) (fun _ h9 => h9) rfl dn_Design_firstDecl_9 ?_
    refine lv_iload_n hx hb dn_Design_firstDecl_12 rfl (lv_at hl 1 rfl) ?_
    obtain ⟨hg_4, hf⟩ := dc_g hf
    refine va_iald hx hb hK hP 54 0 rfl rfl hg_4 dn_Design_firstDecl_13 ?_
    refine xk_ti (y := ((q_1.2.1 312) (Int32.toNatClampNeg v1))) rfl ?_
    refine lv_goto (tgt := 24) hx hb dn_Design_firstDecl_14 (by decide) ?_
    rw [hQQ, ← Option.some.inj hf]
    exact xk_iret (w1 := fun u : Unit => (wC a v cI cB cJ cZ cQ q_1.2)) () hx hb hr hlocks hK hS dn_Design_firstDecl_24 hP hD rfl (Nat.le_refl _) (Nat.le_refl _)
set_option maxHeartbeats 8000000 in
set_option maxRecDepth 100000 in
theorem ct_C_capped (l : Launch) (dC : Nat → ClassId) (dI : Nat → Nat → Nat) (cI cB cJ cZ cQ : ClassId) (N sz : Nat) (a : Nat → Nat) (v : Nat → Value) (v0 : Int32) (v1 : Int32) (s : ms) (y : (Int32 × ms)) (hf : fn_C_capped N v0 v1 s = some y) : Met l yn_C_capped (xw yn_C_capped bn_C_capped 2 (some .int)) ({ frames := 1, cells := 0, slots := 0, locals := 40 }) (dc_P (dC, dI) xcl (xt cI cB cJ cZ cQ) [.int v0, .int v1] sz (wC a v cI cB cJ cZ cQ s)) (xk_Qi (dC, dI) xcl (xt cI cB cJ cZ cQ) (fun (r : Int32) (_ : Unit) => r = y.1) (fun u : Unit => (wC a v cI cB cJ cZ cQ y.2)) (va_A (wC a v cI cB cJ cZ cQ s) sz)) 0 0 (va_A (wC a v cI cB cJ cZ cQ s) sz) := by
  refine dc_of (QA := xk_Qi (dC, dI) xcl (xt cI cB cJ cZ cQ) (fun (r : Int32) (_ : Unit) => r = y.1) (fun u : Unit => (wC a v cI cB cJ cZ cQ y.2))) (by decide) (Nat.le_of_ble_eq_true rfl) ?_
  intro p e s0 m below meth c hx hb hml hown hg hr hlocks hin hP hK hN A hA hD hT ls hl
  have hown : s0.vm.findClass rn_C = some m.cls := hown
  obtain ⟨H, hH⟩ : ∃ z, z = s0.heap := ⟨_, rfl⟩
  rw [← hH] at hP
  have hS : va_S A s0.heap H [] := by rw [hH]; exact va_S.rf
  suffices kk : ∀ QQ : State → Prop, QQ = MQ below (xk_Qi (dC, dI) xcl (xt cI cB cJ cZ cQ) (fun (r : Int32) (_ : Unit) => r = y.1) (fun u : Unit => (wC a v cI cB cJ cZ cQ y.2)) A) [.int v0, .int v1].toArray s0 0 0 A → dcC p l e ({ frames := 1, cells := 0, slots := 0, locals := 40 }) s0 m [.int v0, .int v1].toArray below meth c QQ (dC, dI) A (wC a v cI cB cJ cZ cQ s) 0 2 [(0, .int v0), (1, .int v1)] [] by
    have k9 := kk _ rfl H [] ls hP hD hS hl
    rw [hH] at k9; exact k9
  clear hP hD hS hl hH H ls
  intro QQ hQQ
  intro H locs ls hP hD hS hl
  unfold fn_C_capped at hf
  refine lv_ldc hx hb hown (hg _ wn_5_110) dn_C_capped_0 ?_
  refine lv_iload_n hx hb dn_C_capped_2 rfl (lv_at hl 0 rfl) ?_
  refine lv_ldc hx hb hown (hg _ wn_5_110) dn_C_capped_3 ?_
  refine lv_iload_n hx hb dn_C_capped_5 rfl (lv_at hl 1 rfl) ?_
  refine va_mmin (x := 268435456) (y := v1) (rest := [.int v0, .int 268435456]) hx hb (by rw [hml]; exact hl.1.symm) hown (hg _ wn_5_111) (hg _ wn_3_168) (hg _ wn_1_19) (hg _ wn_3_169) (Nat.le_of_ble_eq_true rfl) (Nat.le_of_ble_eq_true rfl) (Nat.zero_le _) (Nat.zero_le _) dn_C_capped_6 ?_
  refine lv_iadd hx hb dn_C_capped_9 ?_
  refine va_mmin (x := 268435456) (y := (v0 + (if v1 < 268435456 then v1 else 268435456))) (rest := []) hx hb (by rw [hml]; exact hl.1.symm) hown (hg _ wn_5_111) (hg _ wn_3_168) (hg _ wn_1_19) (hg _ wn_3_169) (Nat.le_of_ble_eq_true rfl) (Nat.le_of_ble_eq_true rfl) (Nat.zero_le _) (Nat.zero_le _) dn_C_capped_10 ?_
  rw [hQQ, ← Option.some.inj hf]
  exact xk_iret (w1 := fun u : Unit => (wC a v cI cB cJ cZ cQ s)) () hx hb hr hlocks hK hS dn_C_capped_13 hP hD rfl (Nat.le_refl _) (Nat.le_refl _)
set_option maxHeartbeats 8000000 in
set_option maxRecDepth 100000 in
theorem ct_Design_sumOf_Ds (l : Launch) (dC : Nat → ClassId) (dI : Nat → Nat → Nat) (cI cB cJ cZ cQ : ClassId) (N sz : Nat) (a : Nat → Nat) (v : Nat → Value) (v1 : Int32) (v2 : Int32) (s : ms) (y : (Int32 × ms)) (hf : fn_Design_sumOf_Ds N v1 v2 s = some y) : Met l yn_Design_sumOf (xw yn_Design_sumOf bn_Design_sumOf 3 (some .int)) ({ frames := 1, cells := 0, slots := 0, locals := 21 }) (dc_P (dC, dI) xcl (xt cI cB cJ cZ cQ) [.ref ((a 109)), .int v1, .int v2] sz (wC a v cI cB cJ cZ cQ s)) (xk_Qi (dC, dI) xcl (xt cI cB cJ cZ cQ) (fun (r : Int32) (_ : Unit) => r = y.1) (fun u : Unit => (wC a v cI cB cJ cZ cQ y.2)) (va_A (wC a v cI cB cJ cZ cQ s) sz)) 0 0 (va_A (wC a v cI cB cJ cZ cQ s) sz) := by
  refine dc_of (QA := xk_Qi (dC, dI) xcl (xt cI cB cJ cZ cQ) (fun (r : Int32) (_ : Unit) => r = y.1) (fun u : Unit => (wC a v cI cB cJ cZ cQ y.2))) (by decide) (Nat.le_of_ble_eq_true rfl) ?_
  intro p e s0 m below meth c hx hb hml hown hg hr hlocks hin hP hK hN A hA hD hT ls hl
  have hown : s0.vm.findClass rn_Design = some m.cls := hown
  obtain ⟨H, hH⟩ : ∃ z, z = s0.heap := ⟨_, rfl⟩
  rw [← hH] at hP
  have hS : va_S A s0.heap H [] := by rw [hH]; exact va_S.rf
  suffices kk : ∀ QQ : State → Prop, QQ = MQ below (xk_Qi (dC, dI) xcl (xt cI cB cJ cZ cQ) (fun (r : Int32) (_ : Unit) => r = y.1) (fun u : Unit => (wC a v cI cB cJ cZ cQ y.2)) A) [.ref ((a 109)), .int v1, .int v2].toArray s0 0 0 A → dcC p l e ({ frames := 1, cells := 0, slots := 0, locals := 21 }) s0 m [.ref ((a 109)), .int v1, .int v2].toArray below meth c QQ (dC, dI) A (wC a v cI cB cJ cZ cQ s) 0 3 [(0, .ref ((a 109))), (1, .int v1), (2, .int v2)] [] by
    have k9 := kk _ rfl H [] ls hP hD hS hl
    rw [hH] at k9; exact k9
  clear hP hD hS hl hH H ls
  intro QQ hQQ
  intro H locs ls hP hD hS hl
  unfold fn_Design_sumOf_Ds at hf
  refine lv_aload_n hx hb dn_Design_sumOf_0 rfl (lv_at hl 0 rfl) ?_
  refine lv_iload_n hx hb dn_Design_sumOf_1 rfl (lv_at hl 2 rfl) ?_
  obtain ⟨q_1, hc_2, hf⟩ := dc_b hf
  refine dc_calli (dc_runV (ar := 1) (As := [.int v2]) (rest := []) (ci := 10) (q0 := 9) ⟨hx, hb, hml, hown, hg⟩ hK hN hT hS hA (ct_Design_isModule_Ds l dC dI cI cB cJ cZ cQ N H.size a v v2 s q_1 hc_2) hP hD rfl rfl wn_5_91 wn_5_93 sn_Design_isModule wn_1_10 wn_5_94 rfl rfl (by decide +kernel) ⟨Nat.le_of_ble_eq_true rfl, Nat.le_of_ble_eq_true rfl⟩ rfl hl.1 rfl (Nat.le_of_ble_eq_true rfl) dn_Design_sumOf_2 ⟨Nat.le_of_ble_eq_true rfl, Nat.le_of_ble_eq_true rfl⟩) hP hD hS hA (fun r_3 _ H locs hw hP hD hS => ?_)
  have hw : r_3 = q_1.1 := hw
  subst hw
  refine lv_if_eq (tgt := 19) hx hb dn_Design_sumOf_5 (by decide) (fun h => ?_) (fun h => ?_)
  · have hf := (if_pos h).symm.trans hf
    refine lv_iconst (v := 0) hx hb dn_Design_sumOf_19 (by decide) ?_
    rw [hQQ, ← Option.some.inj hf]
    exact xk_iret (w1 := fun u : Unit => (wC a v cI cB cJ cZ cQ q_1.2)) () hx hb hr hlocks hK hS dn_Design_sumOf_20 hP hD rfl (Nat.le_refl _) (Nat.le_refl _)
  · have hf := (if_neg h).symm.trans hf
    refine lv_aload_n hx hb dn_Design_sumOf_8 rfl (lv_at hl 0 rfl) ?_
    refine va_get (D := (dC, dI)) (ci := 10) (v := .ref ((a 316))) (C := rn_Design) (T := fn_Design) (N := 16) hx hb hg in_Design hown hK hP 9 rfl rfl 11 (by decide) (hg _ wn_3_20) (fun _ h9 => h9) rfl dn_Design_sumOf_9 ?_
    refine lv_iload_n hx hb dn_Design_sumOf_12 rfl (lv_at hl 1 rfl) ?_
    by_cases hs13_0 : v1 = 0
    · have hf := (if_pos hs13_0).symm.trans hf
      refine xk_ti (y := 0) hs13_0 ?_
      refine dc_aald hx hb hK hP 115 4 rfl rfl (show ¬ (_ ∨ _) by decide) dn_Design_sumOf_13 ?_
      refine W.eq (g2 := F0 m 14 _ (.ref ((a 600)) :: [])) rfl ?_
      refine lv_iload_n hx hb dn_Design_sumOf_14 rfl (lv_at hl 2 rfl) ?_
      obtain ⟨hg_4, hf⟩ := dc_g hf
      refine va_iald hx hb hK hP 110 0 rfl rfl hg_4 dn_Design_sumOf_15 ?_
      refine xk_ti (y := ((q_1.2.1 600) (Int32.toNatClampNeg v2))) rfl ?_
      refine lv_goto (tgt := 20) hx hb dn_Design_sumOf_16 (by decide) ?_
      rw [hQQ, ← Option.some.inj hf]
      exact xk_iret (w1 := fun u : Unit => (wC a v cI cB cJ cZ cQ q_1.2)) () hx hb hr hlocks hK hS dn_Design_sumOf_20 hP hD rfl (Nat.le_refl _) (Nat.le_refl _)
    have hf := (if_neg hs13_0).symm.trans hf
    by_cases hs13_1 : v1 = 1
    · have hf := (if_pos hs13_1).symm.trans hf
      refine xk_ti (y := 1) hs13_1 ?_
      refine dc_aald hx hb hK hP 115 4 rfl rfl (show ¬ (_ ∨ _) by decide) dn_Design_sumOf_13 ?_
      refine W.eq (g2 := F0 m 14 _ (.ref ((a 601)) :: [])) rfl ?_
      refine lv_iload_n hx hb dn_Design_sumOf_14 rfl (lv_at hl 2 rfl) ?_
      obtain ⟨hg_4, hf⟩ := dc_g hf
      refine va_iald hx hb hK hP 111 0 rfl rfl hg_4 dn_Design_sumOf_15 ?_
      refine xk_ti (y := ((q_1.2.1 601) (Int32.toNatClampNeg v2))) rfl ?_
      refine lv_goto (tgt := 20) hx hb dn_Design_sumOf_16 (by decide) ?_
      rw [hQQ, ← Option.some.inj hf]
      exact xk_iret (w1 := fun u : Unit => (wC a v cI cB cJ cZ cQ q_1.2)) () hx hb hr hlocks hK hS dn_Design_sumOf_20 hP hD rfl (Nat.le_refl _) (Nat.le_refl _)
    have hf := (if_neg hs13_1).symm.trans hf
    by_cases hs13_2 : v1 = 2
    · have hf := (if_pos hs13_2).symm.trans hf
      refine xk_ti (y := 2) hs13_2 ?_
      refine dc_aald hx hb hK hP 115 4 rfl rfl (show ¬ (_ ∨ _) by decide) dn_Design_sumOf_13 ?_
      refine W.eq (g2 := F0 m 14 _ (.ref ((a 602)) :: [])) rfl ?_
      refine lv_iload_n hx hb dn_Design_sumOf_14 rfl (lv_at hl 2 rfl) ?_
      obtain ⟨hg_4, hf⟩ := dc_g hf
      refine va_iald hx hb hK hP 112 0 rfl rfl hg_4 dn_Design_sumOf_15 ?_
      refine xk_ti (y := ((q_1.2.1 602) (Int32.toNatClampNeg v2))) rfl ?_
      refine lv_goto (tgt := 20) hx hb dn_Design_sumOf_16 (by decide) ?_
      rw [hQQ, ← Option.some.inj hf]
      exact xk_iret (w1 := fun u : Unit => (wC a v cI cB cJ cZ cQ q_1.2)) () hx hb hr hlocks hK hS dn_Design_sumOf_20 hP hD rfl (Nat.le_refl _) (Nat.le_refl _)
    have hf := (if_neg hs13_2).symm.trans hf
    by_cases hs13_3 : v1 = 3
    · have hf := (if_pos hs13_3).symm.trans hf
      refine xk_ti (y := 3) hs13_3 ?_
      refine dc_aald hx hb hK hP 115 4 rfl rfl (show ¬ (_ ∨ _) by decide) dn_Design_sumOf_13 ?_
      refine W.eq (g2 := F0 m 14 _ (.ref ((a 603)) :: [])) rfl ?_
      refine lv_iload_n hx hb dn_Design_sumOf_14 rfl (lv_at hl 2 rfl) ?_
      obtain ⟨hg_4, hf⟩ := dc_g hf
      refine va_iald hx hb hK hP 113 0 rfl rfl hg_4 dn_Design_sumOf_15 ?_
      refine xk_ti (y := ((q_1.2.1 603) (Int32.toNatClampNeg v2))) rfl ?_
      refine lv_goto (tgt := 20) hx hb dn_Design_sumOf_16 (by decide) ?_
      rw [hQQ, ← Option.some.inj hf]
      exact xk_iret (w1 := fun u : Unit => (wC a v cI cB cJ cZ cQ q_1.2)) () hx hb hr hlocks hK hS dn_Design_sumOf_20 hP hD rfl (Nat.le_refl _) (Nat.le_refl _)
    have hf := (if_neg hs13_3).symm.trans hf
    by_cases hs13_4 : v1 = 4
    · have hf := (if_pos hs13_4).symm.trans hf
      refine xk_ti (y := 4) hs13_4 ?_
      refine dc_aald hx hb hK hP 115 4 rfl rfl (show ¬ (_ ∨ _) by decide) dn_Design_sumOf_13 ?_
      refine W.eq (g2 := F0 m 14 _ (.ref ((a 604)) :: [])) rfl ?_
      refine lv_iload_n hx hb dn_Design_sumOf_14 rfl (lv_at hl 2 rfl) ?_
      obtain ⟨hg_4, hf⟩ := dc_g hf
      refine va_iald hx hb hK hP 114 0 rfl rfl hg_4 dn_Design_sumOf_15 ?_
      refine xk_ti (y := ((q_1.2.1 604) (Int32.toNatClampNeg v2))) rfl ?_
      refine lv_goto (tgt := 20) hx hb dn_Design_sumOf_16 (by decide) ?_
      rw [hQQ, ← Option.some.inj hf]
      exact xk_iret (w1 := fun u : Unit => (wC a v cI cB cJ cZ cQ q_1.2)) () hx hb hr hlocks hK hS dn_Design_sumOf_20 hP hD rfl (Nat.le_refl _) (Nat.le_refl _)
    have hf := (if_neg hs13_4).symm.trans hf
    cases hf
set_option maxHeartbeats 8000000 in
set_option maxRecDepth 100000 in
theorem ct_Design_sumUp_Ds (l : Launch) (dC : Nat → ClassId) (dI : Nat → Nat → Nat) (cI cB cJ cZ cQ : ClassId) (N sz : Nat) (a : Nat → Nat) (v : Nat → Value) (v1 : Int32) (s : ms) (y : (Unit × ms)) (hf : fn_Design_sumUp_Ds N v1 s = some y) : Met l yn_Design_sumUp (xw yn_Design_sumUp bn_Design_sumUp 8 none) ({ frames := 2, cells := 0, slots := 0, locals := 61 }) (dc_P (dC, dI) xcl (xt cI cB cJ cZ cQ) [.ref ((a 109)), .int v1] sz (wC a v cI cB cJ cZ cQ s)) (xk_Qv (dC, dI) xcl (xt cI cB cJ cZ cQ) (fun _ : Unit => True) (fun u : Unit => (wC a v cI cB cJ cZ cQ y.2)) (va_A (wC a v cI cB cJ cZ cQ s) sz)) 0 0 (va_A (wC a v cI cB cJ cZ cQ s) sz) := by
  refine dc_of (QA := xk_Qv (dC, dI) xcl (xt cI cB cJ cZ cQ) (fun _ : Unit => True) (fun u : Unit => (wC a v cI cB cJ cZ cQ y.2))) (by decide) (Nat.le_of_ble_eq_true rfl) ?_
  intro p e s0 m below meth c hx hb hml hown hg hr hlocks hin hP hK hN A hA hD hT ls hl
  have hown : s0.vm.findClass rn_Design = some m.cls := hown
  obtain ⟨H, hH⟩ : ∃ z, z = s0.heap := ⟨_, rfl⟩
  rw [← hH] at hP
  have hS : va_S A s0.heap H [] := by rw [hH]; exact va_S.rf
  suffices kk : ∀ QQ : State → Prop, QQ = MQ below (xk_Qv (dC, dI) xcl (xt cI cB cJ cZ cQ) (fun _ : Unit => True) (fun u : Unit => (wC a v cI cB cJ cZ cQ y.2)) A) [.ref ((a 109)), .int v1].toArray s0 0 0 A → dcC p l e ({ frames := 2, cells := 0, slots := 0, locals := 61 }) s0 m [.ref ((a 109)), .int v1].toArray below meth c QQ (dC, dI) A (wC a v cI cB cJ cZ cQ s) 0 8 [(0, .ref ((a 109))), (1, .int v1)] [] by
    have k9 := kk _ rfl H [] ls hP hD hS hl
    rw [hH] at k9; exact k9
  clear hP hD hS hl hH H ls
  intro QQ hQQ
  have hd_201 : ∀ (k_174 : Int32 → Int32 → ms → Option (Unit × ms)) (hk_174 : ∀ (x2 : Int32) (x5 : Int32) (s : ms), k_174 x2 x5 s = some y → dcC p l e ({ frames := 2, cells := 0, slots := 0, locals := 61 }) s0 m [.ref ((a 109)), .int v1].toArray below meth c QQ (dC, dI) A (wC a v cI cB cJ cZ cQ s) 174 8 [(0, .ref ((a 109))), (2, .int x2), (5, .int x5)] []) (n : Nat) (x2 : Int32) (x5 : Int32) (x6 : Int32) (x7 : Int32) (s : ms), hd_Design_sumUp_Ds_201 N k_174 n x2 x5 x6 x7 s = some y → dcC p l e ({ frames := 2, cells := 0, slots := 0, locals := 61 }) s0 m [.ref ((a 109)), .int v1].toArray below meth c QQ (dC, dI) A (wC a v cI cB cJ cZ cQ s) 201 8 [(0, .ref ((a 109))), (2, .int x2), (5, .int x5), (6, .int x6), (7, .int x7)] [] := by
    intro k_174 hk_174 n
    induction n with
    | zero => intro x2 x5 x6 x7 s hf; cases hf
    | succ n ih =>
      intro x2 x5 x6 x7 s hf H locs ls hP hD hS hl
      have hf : bd_Design_sumUp_Ds_201 N k_174 (hd_Design_sumUp_Ds_201 N k_174 n) x2 x5 x6 x7 s = some y := hf
      have hk_201 := ih
      generalize hd_Design_sumUp_Ds_201 N k_174 n = k_201 at hf hk_201
      unfold bd_Design_sumUp_Ds_201 at hf
      refine lv_iload hx hb dn_Design_sumUp_201 (lv_at hl 4 rfl) ?_
      refine lv_iconst (v := 5) hx hb dn_Design_sumUp_203 (by decide) ?_
      refine lv_icmp_ge (tgt := 242) hx hb dn_Design_sumUp_204 (by decide) (fun h => ?_) (fun h => ?_)
      · have hf := (if_pos h).symm.trans hf
        refine lv_iinc (v := (x5 + 1)) (lv' := [(5, .int ((x5 + 1))), (0, .ref ((a 109))), (2, .int x2), (6, .int x6), (7, .int x7)]) hx hb dn_Design_sumUp_242 hl (k := 2) rfl (dc_inc (by decide)) (by decide) rfl (fun ls hl => ?_)
        refine lv_goto (tgt := 174) hx hb dn_Design_sumUp_245 (by decide) ?_
        exact hk_174 x2 ((x5 + 1)) s hf H locs ls hP hD hS (lv_sub hl [1, 2, 0] rfl)
      · have hf := (if_neg h).symm.trans hf
        refine lv_aload_n hx hb dn_Design_sumUp_207 rfl (lv_at hl 0 rfl) ?_
        refine va_get (D := (dC, dI)) (ci := 10) (v := .ref ((a 316))) (C := rn_Design) (T := fn_Design) (N := 16) hx hb hg in_Design hown hK hP 9 rfl rfl 11 (by decide) (hg _ wn_3_20) (fun _ h9 => h9) rfl dn_Design_sumUp_208 ?_
        refine lv_iload hx hb dn_Design_sumUp_211 (lv_at hl 4 rfl) ?_
        by_cases hs213_0 : x7 = 0
        · have hf := (if_pos hs213_0).symm.trans hf
          refine xk_ti (y := 0) hs213_0 ?_
          refine dc_aald hx hb hK hP 115 4 rfl rfl (show ¬ (_ ∨ _) by decide) dn_Design_sumUp_213 ?_
          refine W.eq (g2 := F0 m 214 _ (.ref ((a 600)) :: [])) rfl ?_
          refine lv_iload_n hx hb dn_Design_sumUp_214 rfl (lv_at hl 1 rfl) ?_
          refine lv_aload_n hx hb dn_Design_sumUp_215 rfl (lv_at hl 0 rfl) ?_
          refine va_get (D := (dC, dI)) (ci := 10) (v := .ref ((a 316))) (C := rn_Design) (T := fn_Design) (N := 16) hx hb hg in_Design hown hK hP 9 rfl rfl 11 (by decide) (hg _ wn_3_20) (fun _ h9 => h9) rfl dn_Design_sumUp_216 ?_
          refine lv_iload hx hb dn_Design_sumUp_219 (lv_at hl 4 rfl) ?_
          refine xk_ti (y := 0) hs213_0 ?_
          refine dc_aald hx hb hK hP 115 4 rfl rfl (show ¬ (_ ∨ _) by decide) dn_Design_sumUp_221 ?_
          refine W.eq (g2 := F0 m 222 _ (.ref ((a 600)) :: [.int x2, .ref ((a 600))])) rfl ?_
          refine lv_iload_n hx hb dn_Design_sumUp_222 rfl (lv_at hl 1 rfl) ?_
          obtain ⟨hg_1, hf⟩ := dc_g hf
          refine va_iald hx hb hK hP 110 0 rfl rfl hg_1 dn_Design_sumUp_223 ?_
          refine xk_ti (y := ((s.1 600) (Int32.toNatClampNeg x2))) rfl ?_
          refine lv_aload_n hx hb dn_Design_sumUp_224 rfl (lv_at hl 0 rfl) ?_
          refine lv_iload hx hb dn_Design_sumUp_225 (lv_at hl 4 rfl) ?_
          refine lv_iload hx hb dn_Design_sumUp_227 (lv_at hl 3 rfl) ?_
          obtain ⟨q_2, hc_3, hf⟩ := dc_b hf
          refine dc_calli (dc_runV (ar := 2) (As := [.int x7, .int x6]) (rest := [.int (((s.1 600) (Int32.toNatClampNeg x2))), .int x2, .ref ((a 600))]) (ci := 10) (q0 := 9) ⟨hx, hb, hml, hown, hg⟩ hK hN hT hS hA (ct_Design_sumOf_Ds l dC dI cI cB cJ cZ cQ N H.size a v x7 x6 s q_2 hc_3) hP hD rfl rfl wn_5_112 wn_5_113 wn_5_114 wn_1_10 wn_5_115 rfl rfl (by decide +kernel) ⟨Nat.le_of_ble_eq_true rfl, Nat.le_of_ble_eq_true rfl⟩ rfl hl.1 rfl (Nat.le_of_ble_eq_true rfl) dn_Design_sumUp_229 ⟨Nat.le_of_ble_eq_true rfl, Nat.le_of_ble_eq_true rfl⟩) hP hD hS hA (fun r_4 _ H locs hw hP hD hS => ?_)
          have hw : r_4 = q_2.1 := hw
          subst hw
          obtain ⟨q_5, hc_6, hf⟩ := dc_b hf
          refine dc_calli (dc_runSN (ar := 2) (As := [.int (((s.1 600) (Int32.toNatClampNeg x2))), .int q_2.1]) (rest := [.int x2, .ref ((a 600))]) (host := "CircuitCycles") ⟨hx, hb, hml, hown, hg⟩ hK hN hT hS hA (ct_C_capped l dC dI cI cB cJ cZ cQ N H.size a v (((s.1 600) (Int32.toNatClampNeg x2))) q_2.1 q_2.2 q_5 hc_6) hP hD nl_Design_105 wn_5_108 wn_1_1 wn_5_109 rfl rfl (by decide +kernel) ⟨Nat.le_of_ble_eq_true rfl, Nat.le_of_ble_eq_true rfl⟩ rfl hl.1 rfl (Nat.le_of_ble_eq_true rfl) dn_Design_sumUp_232 ⟨Nat.le_of_ble_eq_true rfl, Nat.le_of_ble_eq_true rfl⟩) hP hD hS hA (fun r_7 _ H locs hw hP hD hS => ?_)
          have hw : r_7 = q_5.1 := hw
          subst hw
          obtain ⟨hg_8, hf⟩ := dc_g hf
          refine va_iast hx hb hK hP hD hS 110 0 rfl rfl hg_8 dn_Design_sumUp_235 (fun H locs hP hD hS => ?_)
          have hP : va_P (dC, dI) xcl ((wC a v cI cB cJ cZ cQ q_5.2).set 110 ((a 600), .inl (cI, 3277, .inl (upd (q_5.2.1 600) (Int32.toNatClampNeg x2) q_5.1)))) H := hP
          have hD : va_D A ((wC a v cI cB cJ cZ cQ q_5.2).set 110 ((a 600), .inl (cI, 3277, .inl (upd (q_5.2.1 600) (Int32.toNatClampNeg x2) q_5.1)))) := hD
          have hP := wC_P_600 hP
          have hD := wC_D_600 hD
          refine lv_iinc (v := (x7 + 1)) (lv' := [(7, .int ((x7 + 1))), (0, .ref ((a 109))), (2, .int x2), (5, .int x5), (6, .int x6)]) hx hb dn_Design_sumUp_236 hl (k := 4) rfl (dc_inc (by decide)) (by decide) rfl (fun ls hl => ?_)
          refine lv_goto (tgt := 201) hx hb dn_Design_sumUp_239 (by decide) ?_
          exact hk_201 x2 x5 x6 ((x7 + 1)) (upI q_5.2 600 (upd (q_5.2.1 600) (Int32.toNatClampNeg x2) q_5.1)) hf H locs ls hP hD hS (lv_sub hl [1, 2, 3, 4, 0] rfl)
        have hf := (if_neg hs213_0).symm.trans hf
        by_cases hs213_1 : x7 = 1
        · have hf := (if_pos hs213_1).symm.trans hf
          refine xk_ti (y := 1) hs213_1 ?_
          refine dc_aald hx hb hK hP 115 4 rfl rfl (show ¬ (_ ∨ _) by decide) dn_Design_sumUp_213 ?_
          refine W.eq (g2 := F0 m 214 _ (.ref ((a 601)) :: [])) rfl ?_
          refine lv_iload_n hx hb dn_Design_sumUp_214 rfl (lv_at hl 1 rfl) ?_
          refine lv_aload_n hx hb dn_Design_sumUp_215 rfl (lv_at hl 0 rfl) ?_
          refine va_get (D := (dC, dI)) (ci := 10) (v := .ref ((a 316))) (C := rn_Design) (T := fn_Design) (N := 16) hx hb hg in_Design hown hK hP 9 rfl rfl 11 (by decide) (hg _ wn_3_20) (fun _ h9 => h9) rfl dn_Design_sumUp_216 ?_
          refine lv_iload hx hb dn_Design_sumUp_219 (lv_at hl 4 rfl) ?_
          refine xk_ti (y := 1) hs213_1 ?_
          refine dc_aald hx hb hK hP 115 4 rfl rfl (show ¬ (_ ∨ _) by decide) dn_Design_sumUp_221 ?_
          refine W.eq (g2 := F0 m 222 _ (.ref ((a 601)) :: [.int x2, .ref ((a 601))])) rfl ?_
          refine lv_iload_n hx hb dn_Design_sumUp_222 rfl (lv_at hl 1 rfl) ?_
          obtain ⟨hg_1, hf⟩ := dc_g hf
          refine va_iald hx hb hK hP 111 0 rfl rfl hg_1 dn_Design_sumUp_223 ?_
          refine xk_ti (y := ((s.1 601) (Int32.toNatClampNeg x2))) rfl ?_
          refine lv_aload_n hx hb dn_Design_sumUp_224 rfl (lv_at hl 0 rfl) ?_
          refine lv_iload hx hb dn_Design_sumUp_225 (lv_at hl 4 rfl) ?_
          refine lv_iload hx hb dn_Design_sumUp_227 (lv_at hl 3 rfl) ?_
          obtain ⟨q_2, hc_3, hf⟩ := dc_b hf
          refine dc_calli (dc_runV (ar := 2) (As := [.int x7, .int x6]) (rest := [.int (((s.1 601) (Int32.toNatClampNeg x2))), .int x2, .ref ((a 601))]) (ci := 10) (q0 := 9) ⟨hx, hb, hml, hown, hg⟩ hK hN hT hS hA (ct_Design_sumOf_Ds l dC dI cI cB cJ cZ cQ N H.size a v x7 x6 s q_2 hc_3) hP hD rfl rfl wn_5_112 wn_5_113 wn_5_114 wn_1_10 wn_5_115 rfl rfl (by decide +kernel) ⟨Nat.le_of_ble_eq_true rfl, Nat.le_of_ble_eq_true rfl⟩ rfl hl.1 rfl (Nat.le_of_ble_eq_true rfl) dn_Design_sumUp_229 ⟨Nat.le_of_ble_eq_true rfl, Nat.le_of_ble_eq_true rfl⟩) hP hD hS hA (fun r_4 _ H locs hw hP hD hS => ?_)
          have hw : r_4 = q_2.1 := hw
          subst hw
          obtain ⟨q_5, hc_6, hf⟩ := dc_b hf
          refine dc_calli (dc_runSN (ar := 2) (As := [.int (((s.1 601) (Int32.toNatClampNeg x2))), .int q_2.1]) (rest := [.int x2, .ref ((a 601))]) (host := "CircuitCycles") ⟨hx, hb, hml, hown, hg⟩ hK hN hT hS hA (ct_C_capped l dC dI cI cB cJ cZ cQ N H.size a v (((s.1 601) (Int32.toNatClampNeg x2))) q_2.1 q_2.2 q_5 hc_6) hP hD nl_Design_105 wn_5_108 wn_1_1 wn_5_109 rfl rfl (by decide +kernel) ⟨Nat.le_of_ble_eq_true rfl, Nat.le_of_ble_eq_true rfl⟩ rfl hl.1 rfl (Nat.le_of_ble_eq_true rfl) dn_Design_sumUp_232 ⟨Nat.le_of_ble_eq_true rfl, Nat.le_of_ble_eq_true rfl⟩) hP hD hS hA (fun r_7 _ H locs hw hP hD hS => ?_)
          have hw : r_7 = q_5.1 := hw
          subst hw
          obtain ⟨hg_8, hf⟩ := dc_g hf
          refine va_iast hx hb hK hP hD hS 111 0 rfl rfl hg_8 dn_Design_sumUp_235 (fun H locs hP hD hS => ?_)
          have hP : va_P (dC, dI) xcl ((wC a v cI cB cJ cZ cQ q_5.2).set 111 ((a 601), .inl (cI, 3277, .inl (upd (q_5.2.1 601) (Int32.toNatClampNeg x2) q_5.1)))) H := hP
          have hD : va_D A ((wC a v cI cB cJ cZ cQ q_5.2).set 111 ((a 601), .inl (cI, 3277, .inl (upd (q_5.2.1 601) (Int32.toNatClampNeg x2) q_5.1)))) := hD
          have hP := wC_P_601 hP
          have hD := wC_D_601 hD
          refine lv_iinc (v := (x7 + 1)) (lv' := [(7, .int ((x7 + 1))), (0, .ref ((a 109))), (2, .int x2), (5, .int x5), (6, .int x6)]) hx hb dn_Design_sumUp_236 hl (k := 4) rfl (dc_inc (by decide)) (by decide) rfl (fun ls hl => ?_)
          refine lv_goto (tgt := 201) hx hb dn_Design_sumUp_239 (by decide) ?_
          exact hk_201 x2 x5 x6 ((x7 + 1)) (upI q_5.2 601 (upd (q_5.2.1 601) (Int32.toNatClampNeg x2) q_5.1)) hf H locs ls hP hD hS (lv_sub hl [1, 2, 3, 4, 0] rfl)
        have hf := (if_neg hs213_1).symm.trans hf
        by_cases hs213_2 : x7 = 2
        · have hf := (if_pos hs213_2).symm.trans hf
          refine xk_ti (y := 2) hs213_2 ?_
          refine dc_aald hx hb hK hP 115 4 rfl rfl (show ¬ (_ ∨ _) by decide) dn_Design_sumUp_213 ?_
          refine W.eq (g2 := F0 m 214 _ (.ref ((a 602)) :: [])) rfl ?_
          refine lv_iload_n hx hb dn_Design_sumUp_214 rfl (lv_at hl 1 rfl) ?_
          refine lv_aload_n hx hb dn_Design_sumUp_215 rfl (lv_at hl 0 rfl) ?_
          refine va_get (D := (dC, dI)) (ci := 10) (v := .ref ((a 316))) (C := rn_Design) (T := fn_Design) (N := 16) hx hb hg in_Design hown hK hP 9 rfl rfl 11 (by decide) (hg _ wn_3_20) (fun _ h9 => h9) rfl dn_Design_sumUp_216 ?_
          refine lv_iload hx hb dn_Design_sumUp_219 (lv_at hl 4 rfl) ?_
          refine xk_ti (y := 2) hs213_2 ?_
          refine dc_aald hx hb hK hP 115 4 rfl rfl (show ¬ (_ ∨ _) by decide) dn_Design_sumUp_221 ?_
          refine W.eq (g2 := F0 m 222 _ (.ref ((a 602)) :: [.int x2, .ref ((a 602))])) rfl ?_
          refine lv_iload_n hx hb dn_Design_sumUp_222 rfl (lv_at hl 1 rfl) ?_
          obtain ⟨hg_1, hf⟩ := dc_g hf
          refine va_iald hx hb hK hP 112 0 rfl rfl hg_1 dn_Design_sumUp_223 ?_
          refine xk_ti (y := ((s.1 602) (Int32.toNatClampNeg x2))) rfl ?_
          refine lv_aload_n hx hb dn_Design_sumUp_224 rfl (lv_at hl 0 rfl) ?_
          refine lv_iload hx hb dn_Design_sumUp_225 (lv_at hl 4 rfl) ?_
          refine lv_iload hx hb dn_Design_sumUp_227 (lv_at hl 3 rfl) ?_
          obtain ⟨q_2, hc_3, hf⟩ := dc_b hf
          refine dc_calli (dc_runV (ar := 2) (As := [.int x7, .int x6]) (rest := [.int (((s.1 602) (Int32.toNatClampNeg x2))), .int x2, .ref ((a 602))]) (ci := 10) (q0 := 9) ⟨hx, hb, hml, hown, hg⟩ hK hN hT hS hA (ct_Design_sumOf_Ds l dC dI cI cB cJ cZ cQ N H.size a v x7 x6 s q_2 hc_3) hP hD rfl rfl wn_5_112 wn_5_113 wn_5_114 wn_1_10 wn_5_115 rfl rfl (by decide +kernel) ⟨Nat.le_of_ble_eq_true rfl, Nat.le_of_ble_eq_true rfl⟩ rfl hl.1 rfl (Nat.le_of_ble_eq_true rfl) dn_Design_sumUp_229 ⟨Nat.le_of_ble_eq_true rfl, Nat.le_of_ble_eq_true rfl⟩) hP hD hS hA (fun r_4 _ H locs hw hP hD hS => ?_)
          have hw : r_4 = q_2.1 := hw
          subst hw
          obtain ⟨q_5, hc_6, hf⟩ := dc_b hf
          refine dc_calli (dc_runSN (ar := 2) (As := [.int (((s.1 602) (Int32.toNatClampNeg x2))), .int q_2.1]) (rest := [.int x2, .ref ((a 602))]) (host := "CircuitCycles") ⟨hx, hb, hml, hown, hg⟩ hK hN hT hS hA (ct_C_capped l dC dI cI cB cJ cZ cQ N H.size a v (((s.1 602) (Int32.toNatClampNeg x2))) q_2.1 q_2.2 q_5 hc_6) hP hD nl_Design_105 wn_5_108 wn_1_1 wn_5_109 rfl rfl (by decide +kernel) ⟨Nat.le_of_ble_eq_true rfl, Nat.le_of_ble_eq_true rfl⟩ rfl hl.1 rfl (Nat.le_of_ble_eq_true rfl) dn_Design_sumUp_232 ⟨Nat.le_of_ble_eq_true rfl, Nat.le_of_ble_eq_true rfl⟩) hP hD hS hA (fun r_7 _ H locs hw hP hD hS => ?_)
          have hw : r_7 = q_5.1 := hw
          subst hw
          obtain ⟨hg_8, hf⟩ := dc_g hf
          refine va_iast hx hb hK hP hD hS 112 0 rfl rfl hg_8 dn_Design_sumUp_235 (fun H locs hP hD hS => ?_)
          have hP : va_P (dC, dI) xcl ((wC a v cI cB cJ cZ cQ q_5.2).set 112 ((a 602), .inl (cI, 3277, .inl (upd (q_5.2.1 602) (Int32.toNatClampNeg x2) q_5.1)))) H := hP
          have hD : va_D A ((wC a v cI cB cJ cZ cQ q_5.2).set 112 ((a 602), .inl (cI, 3277, .inl (upd (q_5.2.1 602) (Int32.toNatClampNeg x2) q_5.1)))) := hD
          have hP := wC_P_602 hP
          have hD := wC_D_602 hD
          refine lv_iinc (v := (x7 + 1)) (lv' := [(7, .int ((x7 + 1))), (0, .ref ((a 109))), (2, .int x2), (5, .int x5), (6, .int x6)]) hx hb dn_Design_sumUp_236 hl (k := 4) rfl (dc_inc (by decide)) (by decide) rfl (fun ls hl => ?_)
          refine lv_goto (tgt := 201) hx hb dn_Design_sumUp_239 (by decide) ?_
          exact hk_201 x2 x5 x6 ((x7 + 1)) (upI q_5.2 602 (upd (q_5.2.1 602) (Int32.toNatClampNeg x2) q_5.1)) hf H locs ls hP hD hS (lv_sub hl [1, 2, 3, 4, 0] rfl)
        have hf := (if_neg hs213_2).symm.trans hf
        by_cases hs213_3 : x7 = 3
        · have hf := (if_pos hs213_3).symm.trans hf
          refine xk_ti (y := 3) hs213_3 ?_
          refine dc_aald hx hb hK hP 115 4 rfl rfl (show ¬ (_ ∨ _) by decide) dn_Design_sumUp_213 ?_
          refine W.eq (g2 := F0 m 214 _ (.ref ((a 603)) :: [])) rfl ?_
          refine lv_iload_n hx hb dn_Design_sumUp_214 rfl (lv_at hl 1 rfl) ?_
          refine lv_aload_n hx hb dn_Design_sumUp_215 rfl (lv_at hl 0 rfl) ?_
          refine va_get (D := (dC, dI)) (ci := 10) (v := .ref ((a 316))) (C := rn_Design) (T := fn_Design) (N := 16) hx hb hg in_Design hown hK hP 9 rfl rfl 11 (by decide) (hg _ wn_3_20) (fun _ h9 => h9) rfl dn_Design_sumUp_216 ?_
          refine lv_iload hx hb dn_Design_sumUp_219 (lv_at hl 4 rfl) ?_
          refine xk_ti (y := 3) hs213_3 ?_
          refine dc_aald hx hb hK hP 115 4 rfl rfl (show ¬ (_ ∨ _) by decide) dn_Design_sumUp_221 ?_
          refine W.eq (g2 := F0 m 222 _ (.ref ((a 603)) :: [.int x2, .ref ((a 603))])) rfl ?_
          refine lv_iload_n hx hb dn_Design_sumUp_222 rfl (lv_at hl 1 rfl) ?_
          obtain ⟨hg_1, hf⟩ := dc_g hf
          refine va_iald hx hb hK hP 113 0 rfl rfl hg_1 dn_Design_sumUp_223 ?_
          refine xk_ti (y := ((s.1 603) (Int32.toNatClampNeg x2))) rfl ?_
          refine lv_aload_n hx hb dn_Design_sumUp_224 rfl (lv_at hl 0 rfl) ?_
          refine lv_iload hx hb dn_Design_sumUp_225 (lv_at hl 4 rfl) ?_
          refine lv_iload hx hb dn_Design_sumUp_227 (lv_at hl 3 rfl) ?_
          obtain ⟨q_2, hc_3, hf⟩ := dc_b hf
          refine dc_calli (dc_runV (ar := 2) (As := [.int x7, .int x6]) (rest := [.int (((s.1 603) (Int32.toNatClampNeg x2))), .int x2, .ref ((a 603))]) (ci := 10) (q0 := 9) ⟨hx, hb, hml, hown, hg⟩ hK hN hT hS hA (ct_Design_sumOf_Ds l dC dI cI cB cJ cZ cQ N H.size a v x7 x6 s q_2 hc_3) hP hD rfl rfl wn_5_112 wn_5_113 wn_5_114 wn_1_10 wn_5_115 rfl rfl (by decide +kernel) ⟨Nat.le_of_ble_eq_true rfl, Nat.le_of_ble_eq_true rfl⟩ rfl hl.1 rfl (Nat.le_of_ble_eq_true rfl) dn_Design_sumUp_229 ⟨Nat.le_of_ble_eq_true rfl, Nat.le_of_ble_eq_true rfl⟩) hP hD hS hA (fun r_4 _ H locs hw hP hD hS => ?_)
          have hw : r_4 = q_2.1 := hw
          subst hw
          obtain ⟨q_5, hc_6, hf⟩ := dc_b hf
          refine dc_calli (dc_runSN (ar := 2) (As := [.int (((s.1 603) (Int32.toNatClampNeg x2))), .int q_2.1]) (rest := [.int x2, .ref ((a 603))]) (host := "CircuitCycles") ⟨hx, hb, hml, hown, hg⟩ hK hN hT hS hA (ct_C_capped l dC dI cI cB cJ cZ cQ N H.size a v (((s.1 603) (Int32.toNatClampNeg x2))) q_2.1 q_2.2 q_5 hc_6) hP hD nl_Design_105 wn_5_108 wn_1_1 wn_5_109 rfl rfl (by decide +kernel) ⟨Nat.le_of_ble_eq_true rfl, Nat.le_of_ble_eq_true rfl⟩ rfl hl.1 rfl (Nat.le_of_ble_eq_true rfl) dn_Design_sumUp_232 ⟨Nat.le_of_ble_eq_true rfl, Nat.le_of_ble_eq_true rfl⟩) hP hD hS hA (fun r_7 _ H locs hw hP hD hS => ?_)
          have hw : r_7 = q_5.1 := hw
          subst hw
          obtain ⟨hg_8, hf⟩ := dc_g hf
          refine va_iast hx hb hK hP hD hS 113 0 rfl rfl hg_8 dn_Design_sumUp_235 (fun H locs hP hD hS => ?_)
          have hP : va_P (dC, dI) xcl ((wC a v cI cB cJ cZ cQ q_5.2).set 113 ((a 603), .inl (cI, 3277, .inl (upd (q_5.2.1 603) (Int32.toNatClampNeg x2) q_5.1)))) H := hP
          have hD : va_D A ((wC a v cI cB cJ cZ cQ q_5.2).set 113 ((a 603), .inl (cI, 3277, .inl (upd (q_5.2.1 603) (Int32.toNatClampNeg x2) q_5.1)))) := hD
          have hP := wC_P_603 hP
          have hD := wC_D_603 hD
          refine lv_iinc (v := (x7 + 1)) (lv' := [(7, .int ((x7 + 1))), (0, .ref ((a 109))), (2, .int x2), (5, .int x5), (6, .int x6)]) hx hb dn_Design_sumUp_236 hl (k := 4) rfl (dc_inc (by decide)) (by decide) rfl (fun ls hl => ?_)
          refine lv_goto (tgt := 201) hx hb dn_Design_sumUp_239 (by decide) ?_
          exact hk_201 x2 x5 x6 ((x7 + 1)) (upI q_5.2 603 (upd (q_5.2.1 603) (Int32.toNatClampNeg x2) q_5.1)) hf H locs ls hP hD hS (lv_sub hl [1, 2, 3, 4, 0] rfl)
        have hf := (if_neg hs213_3).symm.trans hf
        by_cases hs213_4 : x7 = 4
        · have hf := (if_pos hs213_4).symm.trans hf
          refine xk_ti (y := 4) hs213_4 ?_
          refine dc_aald hx hb hK hP 115 4 rfl rfl (show ¬ (_ ∨ _) by decide) dn_Design_sumUp_213 ?_
          refine W.eq (g2 := F0 m 214 _ (.ref ((a 604)) :: [])) rfl ?_
          refine lv_iload_n hx hb dn_Design_sumUp_214 rfl (lv_at hl 1 rfl) ?_
          refine lv_aload_n hx hb dn_Design_sumUp_215 rfl (lv_at hl 0 rfl) ?_
          refine va_get (D := (dC, dI)) (ci := 10) (v := .ref ((a 316))) (C := rn_Design) (T := fn_Design) (N := 16) hx hb hg in_Design hown hK hP 9 rfl rfl 11 (by decide) (hg _ wn_3_20) (fun _ h9 => h9) rfl dn_Design_sumUp_216 ?_
          refine lv_iload hx hb dn_Design_sumUp_219 (lv_at hl 4 rfl) ?_
          refine xk_ti (y := 4) hs213_4 ?_
          refine dc_aald hx hb hK hP 115 4 rfl rfl (show ¬ (_ ∨ _) by decide) dn_Design_sumUp_221 ?_
          refine W.eq (g2 := F0 m 222 _ (.ref ((a 604)) :: [.int x2, .ref ((a 604))])) rfl ?_
          refine lv_iload_n hx hb dn_Design_sumUp_222 rfl (lv_at hl 1 rfl) ?_
          obtain ⟨hg_1, hf⟩ := dc_g hf
          refine va_iald hx hb hK hP 114 0 rfl rfl hg_1 dn_Design_sumUp_223 ?_
          refine xk_ti (y := ((s.1 604) (Int32.toNatClampNeg x2))) rfl ?_
          refine lv_aload_n hx hb dn_Design_sumUp_224 rfl (lv_at hl 0 rfl) ?_
          refine lv_iload hx hb dn_Design_sumUp_225 (lv_at hl 4 rfl) ?_
          refine lv_iload hx hb dn_Design_sumUp_227 (lv_at hl 3 rfl) ?_
          obtain ⟨q_2, hc_3, hf⟩ := dc_b hf
          refine dc_calli (dc_runV (ar := 2) (As := [.int x7, .int x6]) (rest := [.int (((s.1 604) (Int32.toNatClampNeg x2))), .int x2, .ref ((a 604))]) (ci := 10) (q0 := 9) ⟨hx, hb, hml, hown, hg⟩ hK hN hT hS hA (ct_Design_sumOf_Ds l dC dI cI cB cJ cZ cQ N H.size a v x7 x6 s q_2 hc_3) hP hD rfl rfl wn_5_112 wn_5_113 wn_5_114 wn_1_10 wn_5_115 rfl rfl (by decide +kernel) ⟨Nat.le_of_ble_eq_true rfl, Nat.le_of_ble_eq_true rfl⟩ rfl hl.1 rfl (Nat.le_of_ble_eq_true rfl) dn_Design_sumUp_229 ⟨Nat.le_of_ble_eq_true rfl, Nat.le_of_ble_eq_true rfl⟩) hP hD hS hA (fun r_4 _ H locs hw hP hD hS => ?_)
          have hw : r_4 = q_2.1 := hw
          subst hw
          obtain ⟨q_5, hc_6, hf⟩ := dc_b hf
          refine dc_calli (dc_runSN (ar := 2) (As := [.int (((s.1 604) (Int32.toNatClampNeg x2))), .int q_2.1]) (rest := [.int x2, .ref ((a 604))]) (host := "CircuitCycles") ⟨hx, hb, hml, hown, hg⟩ hK hN hT hS hA (ct_C_capped l dC dI cI cB cJ cZ cQ N H.size a v (((s.1 604) (Int32.toNatClampNeg x2))) q_2.1 q_2.2 q_5 hc_6) hP hD nl_Design_105 wn_5_108 wn_1_1 wn_5_109 rfl rfl (by decide +kernel) ⟨Nat.le_of_ble_eq_true rfl, Nat.le_of_ble_eq_true rfl⟩ rfl hl.1 rfl (Nat.le_of_ble_eq_true rfl) dn_Design_sumUp_232 ⟨Nat.le_of_ble_eq_true rfl, Nat.le_of_ble_eq_true rfl⟩) hP hD hS hA (fun r_7 _ H locs hw hP hD hS => ?_)
          have hw : r_7 = q_5.1 := hw
          subst hw
          obtain ⟨hg_8, hf⟩ := dc_g hf
          refine va_iast hx hb hK hP hD hS 114 0 rfl rfl hg_8 dn_Design_sumUp_235 (fun H locs hP hD hS => ?_)
          have hP : va_P (dC, dI) xcl ((wC a v cI cB cJ cZ cQ q_5.2).set 114 ((a 604), .inl (cI, 3277, .inl (upd (q_5.2.1 604) (Int32.toNatClampNeg x2) q_5.1)))) H := hP
          have hD : va_D A ((wC a v cI cB cJ cZ cQ q_5.2).set 114 ((a 604), .inl (cI, 3277, .inl (upd (q_5.2.1 604) (Int32.toNatClampNeg x2) q_5.1)))) := hD
          have hP := wC_P_604 hP
          have hD := wC_D_604 hD
          refine lv_iinc (v := (x7 + 1)) (lv' := [(7, .int ((x7 + 1))), (0, .ref ((a 109))), (2, .int x2), (5, .int x5), (6, .int x6)]) hx hb dn_Design_sumUp_236 hl (k := 4) rfl (dc_inc (by decide)) (by decide) rfl (fun ls hl => ?_)
          refine lv_goto (tgt := 201) hx hb dn_Design_sumUp_239 (by decide) ?_
          exact hk_201 x2 x5 x6 ((x7 + 1)) (upI q_5.2 604 (upd (q_5.2.1 604) (Int32.toNatClampNeg x2) q_5.1)) hf H locs ls hP hD hS (lv_sub hl [1, 2, 3, 4, 0] rfl)
        have hf := (if_neg hs213_4).symm.trans hf
        cases hf
  have hd_174 : ∀ (n : Nat) (x2 : Int32) (x5 : Int32) (s : ms), hd_Design_sumUp_Ds_174 N n x2 x5 s = some y → dcC p l e ({ frames := 2, cells := 0, slots := 0, locals := 61 }) s0 m [.ref ((a 109)), .int v1].toArray below meth c QQ (dC, dI) A (wC a v cI cB cJ cZ cQ s) 174 8 [(0, .ref ((a 109))), (2, .int x2), (5, .int x5)] [] := by
    intro n
    induction n with
    | zero => intro x2 x5 s hf; cases hf
    | succ n ih =>
      intro x2 x5 s hf H locs ls hP hD hS hl
      have hf : bd_Design_sumUp_Ds_174 N (hd_Design_sumUp_Ds_174 N n) x2 x5 s = some y := hf
      have hk_174 := ih
      generalize hd_Design_sumUp_Ds_174 N n = k_174 at hf hk_174
      unfold bd_Design_sumUp_Ds_174 at hf
      refine lv_iload hx hb dn_Design_sumUp_174 (lv_at hl 2 rfl) ?_
      refine lv_aload_n hx hb dn_Design_sumUp_176 rfl (lv_at hl 0 rfl) ?_
      refine va_get (D := (dC, dI)) (ci := 10) (v := .ref ((a 110))) (C := rn_Design) (T := fn_Design) (N := 16) hx hb hg in_Design hown hK hP 9 rfl rfl 0 (by decide) (hg _ wn_2_234) (fun _ h9 => h9) rfl dn_Design_sumUp_177 ?_
      refine va_get (D := (dC, dI)) (ci := 11) (v := .int ((s.1 328 0))) (C := rn_Parts) (T := fn_Parts) (N := 15) hx hb hg in_Parts hown hK hP 10 rfl rfl 7 (by decide) (hg _ wn_2_150) (fun _ h9 => h9) rfl dn_Design_sumUp_180 ?_
      refine lv_icmp_ge (tgt := 248) hx hb dn_Design_sumUp_183 (by decide) (fun h => ?_) (fun h => ?_)
      · have hf := (if_pos h).symm.trans hf
        rw [hQQ, ← Option.some.inj hf]
        exact xk_vret (w1 := fun u : Unit => (wC a v cI cB cJ cZ cQ s)) () hx hb hr hlocks hK hS dn_Design_sumUp_248 hP hD trivial (Nat.le_refl _) (Nat.le_refl _)
      · have hf := (if_neg h).symm.trans hf
        refine lv_aload_n hx hb dn_Design_sumUp_186 rfl (lv_at hl 0 rfl) ?_
        refine va_get (D := (dC, dI)) (ci := 10) (v := .ref ((a 110))) (C := rn_Design) (T := fn_Design) (N := 16) hx hb hg in_Design hown hK hP 9 rfl rfl 0 (by decide) (hg _ wn_2_234) (fun _ h9 => h9) rfl dn_Design_sumUp_187 ?_
        refine va_get (D := (dC, dI)) (ci := 11) (v := .ref ((a 329))) (C := rn_Parts) (T := fn_Parts) (N := 15) hx hb hg in_Parts hown hK hP 10 rfl rfl 8 (by decide) (hg _ wn_2_155) (fun _ h9 => h9) rfl dn_Design_sumUp_190 ?_
        refine lv_iload hx hb dn_Design_sumUp_193 (lv_at hl 2 rfl) ?_
        obtain ⟨hg_1, hf⟩ := dc_g hf
        refine va_iald hx hb hK hP 67 0 rfl rfl hg_1 dn_Design_sumUp_195 ?_
        refine xk_ti (y := ((s.1 329) (Int32.toNatClampNeg x5))) rfl ?_
        refine lv_istore (lv' := [(6, .int (((s.1 329) (Int32.toNatClampNeg x5)))), (0, .ref ((a 109))), (2, .int x2), (5, .int x5)]) hx hb dn_Design_sumUp_196 hl (by decide) rfl (fun ls hl => ?_)
        refine lv_iconst (v := 0) hx hb dn_Design_sumUp_198 (by decide) ?_
        refine lv_istore (lv' := [(7, .int 0), (6, .int (((s.1 329) (Int32.toNatClampNeg x5)))), (0, .ref ((a 109))), (2, .int x2), (5, .int x5)]) hx hb dn_Design_sumUp_199 hl (by decide) rfl (fun ls hl => ?_)
        exact hd_201 k_174 hk_174 N x2 x5 (((s.1 329) (Int32.toNatClampNeg x5))) 0 s hf H locs ls hP hD hS (lv_sub hl [2, 3, 4, 1, 0] rfl)
  have hd_80 : ∀ (n : Nat) (x1 : Int32) (x2 : Int32) (x3 : Int32) (x4 : Int32) (x5 : Int32) (s : ms), hd_Design_sumUp_Ds_80 N n x1 x2 x3 x4 x5 s = some y → dcC p l e ({ frames := 2, cells := 0, slots := 0, locals := 61 }) s0 m [.ref ((a 109)), .int v1].toArray below meth c QQ (dC, dI) A (wC a v cI cB cJ cZ cQ s) 80 8 [(0, .ref ((a 109))), (1, .int x1), (2, .int x2), (3, .int x3), (4, .int x4), (5, .int x5)] [] := by
    intro n
    induction n with
    | zero => intro x1 x2 x3 x4 x5 s hf; cases hf
    | succ n ih =>
      intro x1 x2 x3 x4 x5 s hf H locs ls hP hD hS hl
      have hf : bd_Design_sumUp_Ds_80 N (hd_Design_sumUp_Ds_80 N n) x1 x2 x3 x4 x5 s = some y := hf
      have hk_80 := ih
      generalize hd_Design_sumUp_Ds_80 N n = k_80 at hf hk_80
      unfold bd_Design_sumUp_Ds_80 at hf
      refine lv_iload hx hb dn_Design_sumUp_80 (lv_at hl 5 rfl) ?_
      refine lv_aload_n hx hb dn_Design_sumUp_82 rfl (lv_at hl 0 rfl) ?_
      refine va_get (D := (dC, dI)) (ci := 10) (v := .int ((s.1 317 0))) (C := rn_Design) (T := fn_Design) (N := 16) hx hb hg in_Design hown hK hP 9 rfl rfl 12 (by decide) (hg _ wn_3_21) (fun _ h9 => h9) rfl dn_Design_sumUp_83 ?_
      refine lv_icmp_ge (tgt := 107) hx hb dn_Design_sumUp_86 (by decide) (fun h => ?_) (fun h => ?_)
      · have hf := (if_pos h).symm.trans hf
        refine lv_aload_n hx hb dn_Design_sumUp_107 rfl (lv_at hl 0 rfl) ?_
        refine va_get (D := (dC, dI)) (ci := 10) (v := .ref ((a 316))) (C := rn_Design) (T := fn_Design) (N := 16) hx hb hg in_Design hown hK hP 9 rfl rfl 11 (by decide) (hg _ wn_3_20) (fun _ h9 => h9) rfl dn_Design_sumUp_108 ?_
        refine lv_iconst (v := 0) hx hb dn_Design_sumUp_111 (by decide) ?_
        refine dc_aald hx hb hK hP 115 4 rfl rfl (show ¬ (_ ∨ _) by decide) dn_Design_sumUp_112 ?_
        refine W.eq (g2 := F0 m 113 _ (.ref ((a 600)) :: [])) rfl ?_
        refine lv_iload_n hx hb dn_Design_sumUp_113 rfl (lv_at hl 2 rfl) ?_
        refine lv_iconst (v := 1) hx hb dn_Design_sumUp_114 (by decide) ?_
        obtain ⟨hg_1, hf⟩ := dc_g hf
        refine va_iast hx hb hK hP hD hS 110 0 rfl rfl hg_1 dn_Design_sumUp_115 (fun H locs hP hD hS => ?_)
        have hP : va_P (dC, dI) xcl ((wC a v cI cB cJ cZ cQ s).set 110 ((a 600), .inl (cI, 3277, .inl (upd (s.1 600) (Int32.toNatClampNeg x2) 1)))) H := hP
        have hD : va_D A ((wC a v cI cB cJ cZ cQ s).set 110 ((a 600), .inl (cI, 3277, .inl (upd (s.1 600) (Int32.toNatClampNeg x2) 1)))) := hD
        have hP := wC_P_600 hP
        have hD := wC_D_600 hD
        refine lv_aload_n hx hb dn_Design_sumUp_116 rfl (lv_at hl 0 rfl) ?_
        refine va_get (D := (dC, dI)) (ci := 10) (v := .ref ((a 316))) (C := rn_Design) (T := fn_Design) (N := 16) hx hb hg in_Design hown hK hP 9 rfl rfl 11 (by decide) (hg _ wn_3_20) (fun _ h9 => h9) rfl dn_Design_sumUp_117 ?_
        refine lv_iconst (v := 1) hx hb dn_Design_sumUp_120 (by decide) ?_
        refine dc_aald hx hb hK hP 115 4 rfl rfl (show ¬ (_ ∨ _) by decide) dn_Design_sumUp_121 ?_
        refine W.eq (g2 := F0 m 122 _ (.ref ((a 601)) :: [])) rfl ?_
        refine lv_iload_n hx hb dn_Design_sumUp_122 rfl (lv_at hl 2 rfl) ?_
        refine lv_aload_n hx hb dn_Design_sumUp_123 rfl (lv_at hl 0 rfl) ?_
        refine va_get (D := (dC, dI)) (ci := 10) (v := .ref ((a 110))) (C := rn_Design) (T := fn_Design) (N := 16) hx hb hg in_Design hown hK hP 9 rfl rfl 0 (by decide) (hg _ wn_2_234) (fun _ h9 => h9) rfl dn_Design_sumUp_124 ?_
        refine va_get (D := (dC, dI)) (ci := 11) (v := .int ((s.1 321 0))) (C := rn_Parts) (T := fn_Parts) (N := 15) hx hb hg in_Parts hown hK hP 10 rfl rfl 0 (by decide) (hg _ wn_2_124) (fun _ h9 => h9) rfl dn_Design_sumUp_127 ?_
        refine lv_aload_n hx hb dn_Design_sumUp_130 rfl (lv_at hl 0 rfl) ?_
        refine va_get (D := (dC, dI)) (ci := 10) (v := .ref ((a 312))) (C := rn_Design) (T := fn_Design) (N := 16) hx hb hg in_Design hown hK hP 9 rfl rfl 7 (by decide) (hg _ wn_3_16) (fun _ h9 => h9) rfl dn_Design_sumUp_131 ?_
        refine lv_iload_n hx hb dn_Design_sumUp_134 rfl (lv_at hl 2 rfl) ?_
        obtain ⟨hg_2, hf⟩ := dc_g hf
        refine va_iald hx hb hK hP 54 0 rfl rfl hg_2 dn_Design_sumUp_135 ?_
        refine xk_ti (y := ((s.1 312) (Int32.toNatClampNeg x2))) rfl ?_
        refine lv_isub hx hb dn_Design_sumUp_136 ?_
        obtain ⟨hg_3, hf⟩ := dc_g hf
        refine va_iast hx hb hK hP hD hS 111 0 rfl rfl hg_3 dn_Design_sumUp_137 (fun H locs hP hD hS => ?_)
        have hP : va_P (dC, dI) xcl ((wC a v cI cB cJ cZ cQ (upI s 600 (upd (s.1 600) (Int32.toNatClampNeg x2) 1))).set 111 ((a 601), .inl (cI, 3277, .inl (upd (s.1 601) (Int32.toNatClampNeg x2) (((s.1 321 0) - ((s.1 312) (Int32.toNatClampNeg x2)))))))) H := hP
        have hD : va_D A ((wC a v cI cB cJ cZ cQ (upI s 600 (upd (s.1 600) (Int32.toNatClampNeg x2) 1))).set 111 ((a 601), .inl (cI, 3277, .inl (upd (s.1 601) (Int32.toNatClampNeg x2) (((s.1 321 0) - ((s.1 312) (Int32.toNatClampNeg x2)))))))) := hD
        have hP := wC_P_601 hP
        have hD := wC_D_601 hD
        refine lv_aload_n hx hb dn_Design_sumUp_138 rfl (lv_at hl 0 rfl) ?_
        refine va_get (D := (dC, dI)) (ci := 10) (v := .ref ((a 316))) (C := rn_Design) (T := fn_Design) (N := 16) hx hb hg in_Design hown hK hP 9 rfl rfl 11 (by decide) (hg _ wn_3_20) (fun _ h9 => h9) rfl dn_Design_sumUp_139 ?_
        refine lv_iconst (v := 2) hx hb dn_Design_sumUp_142 (by decide) ?_
        refine dc_aald hx hb hK hP 115 4 rfl rfl (show ¬ (_ ∨ _) by decide) dn_Design_sumUp_143 ?_
        refine W.eq (g2 := F0 m 144 _ (.ref ((a 602)) :: [])) rfl ?_
        refine lv_iload_n hx hb dn_Design_sumUp_144 rfl (lv_at hl 2 rfl) ?_
        refine lv_iload_n hx hb dn_Design_sumUp_145 rfl (lv_at hl 3 rfl) ?_
        obtain ⟨hg_4, hf⟩ := dc_g hf
        refine va_iast hx hb hK hP hD hS 112 0 rfl rfl hg_4 dn_Design_sumUp_146 (fun H locs hP hD hS => ?_)
        have hP : va_P (dC, dI) xcl ((wC a v cI cB cJ cZ cQ (upI (upI s 600 (upd (s.1 600) (Int32.toNatClampNeg x2) 1)) 601 (upd (s.1 601) (Int32.toNatClampNeg x2) (((s.1 321 0) - ((s.1 312) (Int32.toNatClampNeg x2))))))).set 112 ((a 602), .inl (cI, 3277, .inl (upd (s.1 602) (Int32.toNatClampNeg x2) x3)))) H := hP
        have hD : va_D A ((wC a v cI cB cJ cZ cQ (upI (upI s 600 (upd (s.1 600) (Int32.toNatClampNeg x2) 1)) 601 (upd (s.1 601) (Int32.toNatClampNeg x2) (((s.1 321 0) - ((s.1 312) (Int32.toNatClampNeg x2))))))).set 112 ((a 602), .inl (cI, 3277, .inl (upd (s.1 602) (Int32.toNatClampNeg x2) x3)))) := hD
        have hP := wC_P_602 hP
        have hD := wC_D_602 hD
        refine lv_aload_n hx hb dn_Design_sumUp_147 rfl (lv_at hl 0 rfl) ?_
        refine va_get (D := (dC, dI)) (ci := 10) (v := .ref ((a 316))) (C := rn_Design) (T := fn_Design) (N := 16) hx hb hg in_Design hown hK hP 9 rfl rfl 11 (by decide) (hg _ wn_3_20) (fun _ h9 => h9) rfl dn_Design_sumUp_148 ?_
        refine lv_iconst (v := 3) hx hb dn_Design_sumUp_151 (by decide) ?_
        refine dc_aald hx hb hK hP 115 4 rfl rfl (show ¬ (_ ∨ _) by decide) dn_Design_sumUp_152 ?_
        refine W.eq (g2 := F0 m 153 _ (.ref ((a 603)) :: [])) rfl ?_
        refine lv_iload_n hx hb dn_Design_sumUp_153 rfl (lv_at hl 2 rfl) ?_
        refine lv_iload hx hb dn_Design_sumUp_154 (lv_at hl 4 rfl) ?_
        obtain ⟨hg_5, hf⟩ := dc_g hf
        refine va_iast hx hb hK hP hD hS 113 0 rfl rfl hg_5 dn_Design_sumUp_156 (fun H locs hP hD hS => ?_)
        have hP : va_P (dC, dI) xcl ((wC a v cI cB cJ cZ cQ (upI (upI (upI s 600 (upd (s.1 600) (Int32.toNatClampNeg x2) 1)) 601 (upd (s.1 601) (Int32.toNatClampNeg x2) (((s.1 321 0) - ((s.1 312) (Int32.toNatClampNeg x2)))))) 602 (upd (s.1 602) (Int32.toNatClampNeg x2) x3))).set 113 ((a 603), .inl (cI, 3277, .inl (upd (s.1 603) (Int32.toNatClampNeg x2) x4)))) H := hP
        have hD : va_D A ((wC a v cI cB cJ cZ cQ (upI (upI (upI s 600 (upd (s.1 600) (Int32.toNatClampNeg x2) 1)) 601 (upd (s.1 601) (Int32.toNatClampNeg x2) (((s.1 321 0) - ((s.1 312) (Int32.toNatClampNeg x2)))))) 602 (upd (s.1 602) (Int32.toNatClampNeg x2) x3))).set 113 ((a 603), .inl (cI, 3277, .inl (upd (s.1 603) (Int32.toNatClampNeg x2) x4)))) := hD
        have hP := wC_P_603 hP
        have hD := wC_D_603 hD
        refine lv_aload_n hx hb dn_Design_sumUp_157 rfl (lv_at hl 0 rfl) ?_
        refine va_get (D := (dC, dI)) (ci := 10) (v := .ref ((a 316))) (C := rn_Design) (T := fn_Design) (N := 16) hx hb hg in_Design hown hK hP 9 rfl rfl 11 (by decide) (hg _ wn_3_20) (fun _ h9 => h9) rfl dn_Design_sumUp_158 ?_
        refine lv_iconst (v := 4) hx hb dn_Design_sumUp_161 (by decide) ?_
        refine dc_aald hx hb hK hP 115 4 rfl rfl (show ¬ (_ ∨ _) by decide) dn_Design_sumUp_162 ?_
        refine W.eq (g2 := F0 m 163 _ (.ref ((a 604)) :: [])) rfl ?_
        refine lv_iload_n hx hb dn_Design_sumUp_163 rfl (lv_at hl 2 rfl) ?_
        refine lv_iload_n hx hb dn_Design_sumUp_164 rfl (lv_at hl 1 rfl) ?_
        obtain ⟨hg_6, hf⟩ := dc_g hf
        refine va_iast hx hb hK hP hD hS 114 0 rfl rfl hg_6 dn_Design_sumUp_165 (fun H locs hP hD hS => ?_)
        have hP : va_P (dC, dI) xcl ((wC a v cI cB cJ cZ cQ (upI (upI (upI (upI s 600 (upd (s.1 600) (Int32.toNatClampNeg x2) 1)) 601 (upd (s.1 601) (Int32.toNatClampNeg x2) (((s.1 321 0) - ((s.1 312) (Int32.toNatClampNeg x2)))))) 602 (upd (s.1 602) (Int32.toNatClampNeg x2) x3)) 603 (upd (s.1 603) (Int32.toNatClampNeg x2) x4))).set 114 ((a 604), .inl (cI, 3277, .inl (upd (s.1 604) (Int32.toNatClampNeg x2) x1)))) H := hP
        have hD : va_D A ((wC a v cI cB cJ cZ cQ (upI (upI (upI (upI s 600 (upd (s.1 600) (Int32.toNatClampNeg x2) 1)) 601 (upd (s.1 601) (Int32.toNatClampNeg x2) (((s.1 321 0) - ((s.1 312) (Int32.toNatClampNeg x2)))))) 602 (upd (s.1 602) (Int32.toNatClampNeg x2) x3)) 603 (upd (s.1 603) (Int32.toNatClampNeg x2) x4))).set 114 ((a 604), .inl (cI, 3277, .inl (upd (s.1 604) (Int32.toNatClampNeg x2) x1)))) := hD
        have hP := wC_P_604 hP
        have hD := wC_D_604 hD
        refine lv_aload_n hx hb dn_Design_sumUp_166 rfl (lv_at hl 0 rfl) ?_
        refine va_get (D := (dC, dI)) (ci := 10) (v := .ref ((a 314))) (C := rn_Design) (T := fn_Design) (N := 16) hx hb hg in_Design hown hK hP 9 rfl rfl 9 (by decide) (hg _ wn_3_18) (fun _ h9 => h9) rfl dn_Design_sumUp_167 ?_
        refine lv_iload_n hx hb dn_Design_sumUp_170 rfl (lv_at hl 2 rfl) ?_
        obtain ⟨hg_7, hf⟩ := dc_g hf
        refine va_iald hx hb hK hP 56 0 rfl rfl hg_7 dn_Design_sumUp_171 ?_
        refine xk_ti (y := ((s.1 314) (Int32.toNatClampNeg x2))) rfl ?_
        refine lv_istore (lv' := [(5, .int (((s.1 314) (Int32.toNatClampNeg x2)))), (0, .ref ((a 109))), (1, .int x1), (2, .int x2), (3, .int x3), (4, .int x4)]) hx hb dn_Design_sumUp_172 hl (by decide) rfl (fun ls hl => ?_)
        exact hd_174 N x2 (((s.1 314) (Int32.toNatClampNeg x2))) (upI (upI (upI (upI (upI s 600 (upd (s.1 600) (Int32.toNatClampNeg x2) 1)) 601 (upd (s.1 601) (Int32.toNatClampNeg x2) (((s.1 321 0) - ((s.1 312) (Int32.toNatClampNeg x2)))))) 602 (upd (s.1 602) (Int32.toNatClampNeg x2) x3)) 603 (upd (s.1 603) (Int32.toNatClampNeg x2) x4)) 604 (upd (s.1 604) (Int32.toNatClampNeg x2) x1)) hf H locs ls hP hD hS (lv_sub hl [1, 3, 0] rfl)
      · have hf := (if_neg h).symm.trans hf
        refine lv_iload hx hb dn_Design_sumUp_89 (lv_at hl 4 rfl) ?_
        refine lv_aload_n hx hb dn_Design_sumUp_91 rfl (lv_at hl 0 rfl) ?_
        refine va_get (D := (dC, dI)) (ci := 10) (v := .ref ((a 320))) (C := rn_Design) (T := fn_Design) (N := 16) hx hb hg in_Design hown hK hP 9 rfl rfl 15 (by decide) (hg _ wn_3_26) (fun _ h9 => h9) rfl dn_Design_sumUp_92 ?_
        refine lv_iload hx hb dn_Design_sumUp_95 (lv_at hl 5 rfl) ?_
        obtain ⟨hg_1, hf⟩ := dc_g hf
        refine va_iald hx hb hK hP 60 0 rfl rfl hg_1 dn_Design_sumUp_97 ?_
        refine xk_ti (y := ((s.1 320) (Int32.toNatClampNeg x5))) rfl ?_
        refine lv_iadd hx hb dn_Design_sumUp_98 ?_
        refine lv_istore (lv' := [(4, .int ((x4 + ((s.1 320) (Int32.toNatClampNeg x5))))), (0, .ref ((a 109))), (1, .int x1), (2, .int x2), (3, .int x3), (5, .int x5)]) hx hb dn_Design_sumUp_99 hl (by decide) rfl (fun ls hl => ?_)
        refine lv_iinc (v := (x5 + 1)) (lv' := [(5, .int ((x5 + 1))), (4, .int ((x4 + ((s.1 320) (Int32.toNatClampNeg x5))))), (0, .ref ((a 109))), (1, .int x1), (2, .int x2), (3, .int x3)]) hx hb dn_Design_sumUp_101 hl (k := 5) rfl (dc_inc (by decide)) (by decide) rfl (fun ls hl => ?_)
        refine lv_goto (tgt := 80) hx hb dn_Design_sumUp_104 (by decide) ?_
        exact hk_80 x1 x2 x3 ((x4 + ((s.1 320) (Int32.toNatClampNeg x5)))) ((x5 + 1)) s hf H locs ls hP hD hS (lv_sub hl [2, 3, 4, 5, 1, 0] rfl)
  have hd_22 : ∀ (n : Nat) (x1 : Int32) (x2 : Int32) (x3 : Int32) (x4 : Int32) (s : ms), hd_Design_sumUp_Ds_22 N n x1 x2 x3 x4 s = some y → dcC p l e ({ frames := 2, cells := 0, slots := 0, locals := 61 }) s0 m [.ref ((a 109)), .int v1].toArray below meth c QQ (dC, dI) A (wC a v cI cB cJ cZ cQ s) 22 8 [(0, .ref ((a 109))), (1, .int x1), (2, .int x2), (3, .int x3), (4, .int x4)] [] := by
    intro n
    induction n with
    | zero => intro x1 x2 x3 x4 s hf; cases hf
    | succ n ih =>
      intro x1 x2 x3 x4 s hf H locs ls hP hD hS hl
      have hf : bd_Design_sumUp_Ds_22 N (hd_Design_sumUp_Ds_22 N n) x1 x2 x3 x4 s = some y := hf
      have hk_22 := ih
      generalize hd_Design_sumUp_Ds_22 N n = k_22 at hf hk_22
      unfold bd_Design_sumUp_Ds_22 at hf
      refine lv_iload hx hb dn_Design_sumUp_22 (lv_at hl 4 rfl) ?_
      refine lv_aload_n hx hb dn_Design_sumUp_24 rfl (lv_at hl 0 rfl) ?_
      refine va_get (D := (dC, dI)) (ci := 10) (v := .ref ((a 110))) (C := rn_Design) (T := fn_Design) (N := 16) hx hb hg in_Design hown hK hP 9 rfl rfl 0 (by decide) (hg _ wn_2_234) (fun _ h9 => h9) rfl dn_Design_sumUp_25 ?_
      refine va_get (D := (dC, dI)) (ci := 11) (v := .int ((s.1 321 0))) (C := rn_Parts) (T := fn_Parts) (N := 15) hx hb hg in_Parts hown hK hP 10 rfl rfl 0 (by decide) (hg _ wn_2_124) (fun _ h9 => h9) rfl dn_Design_sumUp_28 ?_
      refine lv_icmp_ge (tgt := 69) hx hb dn_Design_sumUp_31 (by decide) (fun h => ?_) (fun h => ?_)
      · have hf := (if_pos h).symm.trans hf
        refine lv_iconst (v := 0) hx hb dn_Design_sumUp_69 (by decide) ?_
        refine lv_istore (lv' := [(4, .int 0), (0, .ref ((a 109))), (1, .int x1), (2, .int x2), (3, .int x3)]) hx hb dn_Design_sumUp_70 hl (by decide) rfl (fun ls hl => ?_)
        refine lv_aload_n hx hb dn_Design_sumUp_72 rfl (lv_at hl 1 rfl) ?_
        refine va_get (D := (dC, dI)) (ci := 10) (v := .ref ((a 315))) (C := rn_Design) (T := fn_Design) (N := 16) hx hb hg in_Design hown hK hP 9 rfl rfl 10 (by decide) (hg _ wn_3_19) (fun _ h9 => h9) rfl dn_Design_sumUp_73 ?_
        refine lv_iload_n hx hb dn_Design_sumUp_76 rfl (lv_at hl 3 rfl) ?_
        obtain ⟨hg_1, hf⟩ := dc_g hf
        refine va_iald hx hb hK hP 57 0 rfl rfl hg_1 dn_Design_sumUp_77 ?_
        refine xk_ti (y := ((s.1 315) (Int32.toNatClampNeg x2))) rfl ?_
        refine lv_istore (lv' := [(5, .int (((s.1 315) (Int32.toNatClampNeg x2)))), (4, .int 0), (0, .ref ((a 109))), (1, .int x1), (2, .int x2), (3, .int x3)]) hx hb dn_Design_sumUp_78 hl (by decide) rfl (fun ls hl => ?_)
        exact hd_80 N x1 x2 x3 0 (((s.1 315) (Int32.toNatClampNeg x2))) s hf H locs ls hP hD hS (lv_sub hl [2, 3, 4, 5, 1, 0] rfl)
      · have hf := (if_neg h).symm.trans hf
        refine lv_aload_n hx hb dn_Design_sumUp_34 rfl (lv_at hl 0 rfl) ?_
        refine va_get (D := (dC, dI)) (ci := 10) (v := .ref ((a 110))) (C := rn_Design) (T := fn_Design) (N := 16) hx hb hg in_Design hown hK hP 9 rfl rfl 0 (by decide) (hg _ wn_2_234) (fun _ h9 => h9) rfl dn_Design_sumUp_35 ?_
        refine va_get (D := (dC, dI)) (ci := 11) (v := .ref ((a 324))) (C := rn_Parts) (T := fn_Parts) (N := 15) hx hb hg in_Parts hown hK hP 10 rfl rfl 3 (by decide) (hg _ wn_2_138) (fun _ h9 => h9) rfl dn_Design_sumUp_38 ?_
        refine lv_iload hx hb dn_Design_sumUp_41 (lv_at hl 4 rfl) ?_
        obtain ⟨hg_1, hf⟩ := dc_g hf
        refine va_iald hx hb hK hP 63 0 rfl rfl hg_1 dn_Design_sumUp_43 ?_
        refine xk_ti (y := ((s.1 324) (Int32.toNatClampNeg x4))) rfl ?_
        refine lv_iconst (v := 2) hx hb dn_Design_sumUp_44 (by decide) ?_
        refine lv_icmp_ne (tgt := 63) hx hb dn_Design_sumUp_45 (by decide) (fun h => ?_) (fun h => ?_)
        · have hf := (if_neg h).symm.trans hf
          refine lv_iinc (v := (x4 + 1)) (lv' := [(4, .int ((x4 + 1))), (0, .ref ((a 109))), (1, .int x1), (2, .int x2), (3, .int x3)]) hx hb dn_Design_sumUp_63 hl (k := 4) rfl (dc_inc (by decide)) (by decide) rfl (fun ls hl => ?_)
          refine lv_goto (tgt := 22) hx hb dn_Design_sumUp_66 (by decide) ?_
          exact hk_22 x1 x2 x3 ((x4 + 1)) s hf H locs ls hP hD hS (lv_sub hl [1, 2, 3, 4, 0] rfl)
        · have hf := (if_pos h).symm.trans hf
          refine lv_iload_n hx hb dn_Design_sumUp_48 rfl (lv_at hl 3 rfl) ?_
          refine lv_aload_n hx hb dn_Design_sumUp_49 rfl (lv_at hl 0 rfl) ?_
          refine va_get (D := (dC, dI)) (ci := 10) (v := .ref ((a 110))) (C := rn_Design) (T := fn_Design) (N := 16) hx hb hg in_Design hown hK hP 9 rfl rfl 0 (by decide) (hg _ wn_2_234) (fun _ h9 => h9) rfl dn_Design_sumUp_50 ?_
          refine va_get (D := (dC, dI)) (ci := 11) (v := .ref ((a 323))) (C := rn_Parts) (T := fn_Parts) (N := 15) hx hb hg in_Parts hown hK hP 10 rfl rfl 2 (by decide) (hg _ wn_2_133) (fun _ h9 => h9) rfl dn_Design_sumUp_53 ?_
          refine lv_iload hx hb dn_Design_sumUp_56 (lv_at hl 4 rfl) ?_
          obtain ⟨hg_2, hf⟩ := dc_g hf
          refine va_iald hx hb hK hP 62 0 rfl rfl hg_2 dn_Design_sumUp_58 ?_
          refine xk_ti (y := ((s.1 323) (Int32.toNatClampNeg x4))) rfl ?_
          obtain ⟨q_3, hc_4, hf⟩ := dc_b hf
          refine dc_calli (dc_runSN (ar := 2) (As := [.int x3, .int (((s.1 323) (Int32.toNatClampNeg x4)))]) (rest := []) (host := "CircuitCycles") ⟨hx, hb, hml, hown, hg⟩ hK hN hT hS hA (ct_C_capped l dC dI cI cB cJ cZ cQ N H.size a v x3 (((s.1 323) (Int32.toNatClampNeg x4))) s q_3 hc_4) hP hD nl_Design_105 wn_5_108 wn_1_1 wn_5_109 rfl rfl (by decide +kernel) ⟨Nat.le_of_ble_eq_true rfl, Nat.le_of_ble_eq_true rfl⟩ rfl hl.1 rfl (Nat.le_of_ble_eq_true rfl) dn_Design_sumUp_59 ⟨Nat.le_of_ble_eq_true rfl, Nat.le_of_ble_eq_true rfl⟩) hP hD hS hA (fun r_5 _ H locs hw hP hD hS => ?_)
          have hw : r_5 = q_3.1 := hw
          subst hw
          refine lv_istore_n (lv' := [(3, .int q_3.1), (0, .ref ((a 109))), (1, .int x1), (2, .int x2), (4, .int x4)]) hx hb dn_Design_sumUp_62 rfl hl (by decide) rfl (fun ls hl => ?_)
          refine lv_iinc (v := (x4 + 1)) (lv' := [(4, .int ((x4 + 1))), (3, .int q_3.1), (0, .ref ((a 109))), (1, .int x1), (2, .int x2)]) hx hb dn_Design_sumUp_63 hl (k := 4) rfl (dc_inc (by decide)) (by decide) rfl (fun ls hl => ?_)
          refine lv_goto (tgt := 22) hx hb dn_Design_sumUp_66 (by decide) ?_
          exact hk_22 x1 x2 q_3.1 ((x4 + 1)) q_3.2 hf H locs ls hP hD hS (lv_sub hl [2, 3, 4, 1, 0] rfl)
  intro H locs ls hP hD hS hl
  unfold fn_Design_sumUp_Ds at hf
  refine lv_aload_n hx hb dn_Design_sumUp_0 rfl (lv_at hl 0 rfl) ?_
  refine va_get (D := (dC, dI)) (ci := 10) (v := .int ((s.1 309 0))) (C := rn_Design) (T := fn_Design) (N := 16) hx hb hg in_Design hown hK hP 9 rfl rfl 4 (by decide) (hg _ wn_3_10) (fun _ h9 => h9) rfl dn_Design_sumUp_1 ?_
  refine lv_iconst (v := 1) hx hb dn_Design_sumUp_4 (by decide) ?_
  refine lv_isub hx hb dn_Design_sumUp_5 ?_
  refine lv_istore_n (lv' := [(2, .int (((s.1 309 0) - 1))), (0, .ref ((a 109))), (1, .int v1)]) hx hb dn_Design_sumUp_6 rfl hl (by decide) rfl (fun ls hl => ?_)
  refine lv_iload_n hx hb dn_Design_sumUp_7 rfl (lv_at hl 0 rfl) ?_
  refine lv_if_ge (tgt := 12) hx hb dn_Design_sumUp_8 (by decide) (fun h => ?_) (fun h => ?_)
  · have hf := (if_pos h).symm.trans hf
    refine lv_iconst (v := 0) hx hb dn_Design_sumUp_12 (by decide) ?_
    refine lv_istore_n (lv' := [(3, .int 0), (2, .int (((s.1 309 0) - 1))), (0, .ref ((a 109))), (1, .int v1)]) hx hb dn_Design_sumUp_13 rfl hl (by decide) rfl (fun ls hl => ?_)
    refine lv_aload_n hx hb dn_Design_sumUp_14 rfl (lv_at hl 2 rfl) ?_
    refine va_get (D := (dC, dI)) (ci := 10) (v := .ref ((a 312))) (C := rn_Design) (T := fn_Design) (N := 16) hx hb hg in_Design hown hK hP 9 rfl rfl 7 (by decide) (hg _ wn_3_16) (fun _ h9 => h9) rfl dn_Design_sumUp_15 ?_
    refine lv_iload_n hx hb dn_Design_sumUp_18 rfl (lv_at hl 1 rfl) ?_
    obtain ⟨hg_1, hf⟩ := dc_g hf
    refine va_iald hx hb hK hP 54 0 rfl rfl hg_1 dn_Design_sumUp_19 ?_
    refine xk_ti (y := ((s.1 312) (Int32.toNatClampNeg (((s.1 309 0) - 1))))) rfl ?_
    refine lv_istore (lv' := [(4, .int (((s.1 312) (Int32.toNatClampNeg (((s.1 309 0) - 1)))))), (3, .int 0), (2, .int (((s.1 309 0) - 1))), (0, .ref ((a 109))), (1, .int v1)]) hx hb dn_Design_sumUp_20 hl (by decide) rfl (fun ls hl => ?_)
    exact hd_22 N v1 (((s.1 309 0) - 1)) 0 (((s.1 312) (Int32.toNatClampNeg (((s.1 309 0) - 1))))) s hf H locs ls hP hD hS (lv_sub hl [3, 4, 2, 1, 0] rfl)
  · have hf := (if_neg h).symm.trans hf
    rw [hQQ, ← Option.some.inj hf]
    exact xk_vret (w1 := fun u : Unit => (wC a v cI cB cJ cZ cQ s)) () hx hb hr hlocks hK hS dn_Design_sumUp_11 hP hD trivial (Nat.le_refl _) (Nat.le_refl _)
