set_option maxHeartbeats 8000000 in
set_option maxRecDepth 100000 in
theorem ct_Design_addPiece_Ds (l : Launch) (dC : Nat → ClassId) (dI : Nat → Nat → Nat) (cI cB cJ cZ cQ : ClassId) (N sz : Nat) (a : Nat → Nat) (v : Nat → Value) (v1 : Int32) (v2 : Int32) (s : ms) (y : (Unit × ms)) (hf : fn_Design_addPiece_Ds N v1 v2 s = some y) : Met l yn_Design_addPiece (xw yn_Design_addPiece bn_Design_addPiece 3 none) ({ frames := 0, cells := 0, slots := 0, locals := 0 }) (dc_P (dC, dI) xcl (xt cI cB cJ cZ cQ) [.ref ((a 109)), .int v1, .int v2] sz (wC a v cI cB cJ cZ cQ s)) (xk_Qv (dC, dI) xcl (xt cI cB cJ cZ cQ) (fun _ : Unit => True) (fun u : Unit => (wC a v cI cB cJ cZ cQ y.2)) (va_A (wC a v cI cB cJ cZ cQ s) sz)) 0 0 (va_A (wC a v cI cB cJ cZ cQ s) sz) := by
  refine dc_of (QA := xk_Qv (dC, dI) xcl (xt cI cB cJ cZ cQ) (fun _ : Unit => True) (fun u : Unit => (wC a v cI cB cJ cZ cQ y.2))) (by decide) (Nat.le_of_ble_eq_true rfl) ?_
  intro p e s0 m below meth c hx hb hml hown hg hr hlocks hin hP hK hN A hA hD hT ls hl
  have hown : s0.vm.findClass rn_Design = some m.cls := hown
  obtain ⟨H, hH⟩ : ∃ z, z = s0.heap := ⟨_, rfl⟩
  rw [← hH] at hP
  have hS : va_S A s0.heap H [] := by rw [hH]; exact va_S.rf
  suffices kk : ∀ QQ : State → Prop, QQ = MQ below (xk_Qv (dC, dI) xcl (xt cI cB cJ cZ cQ) (fun _ : Unit => True) (fun u : Unit => (wC a v cI cB cJ cZ cQ y.2)) A) [.ref ((a 109)), .int v1, .int v2].toArray s0 0 0 A → dcC p l e ({ frames := 0, cells := 0, slots := 0, locals := 0 }) s0 m [.ref ((a 109)), .int v1, .int v2].toArray below meth c QQ (dC, dI) A (wC a v cI cB cJ cZ cQ s) 0 3 [(0, .ref ((a 109))), (1, .int v1), (2, .int v2)] [] by
    have k9 := kk _ rfl H [] ls hP hD hS hl
    rw [hH] at k9; exact k9
  clear hP hD hS hl hH H ls
  intro QQ hQQ
  have bl_54 : ∀ (t0 : Int32) (t1 : Int32) (s : ms), bk_Design_addPiece_Ds_54 N t0 t1 s = some y → dcC p l e ({ frames := 0, cells := 0, slots := 0, locals := 0 }) s0 m [.ref ((a 109)), .int v1, .int v2].toArray below meth c QQ (dC, dI) A (wC a v cI cB cJ cZ cQ s) 54 3 [(0, .ref ((a 109)))] [.int t0, .int t1, .ref ((a 320))] := by
    intro t0 t1 s hf H locs ls hP hD hS hl
    unfold bk_Design_addPiece_Ds_54 at hf
    obtain ⟨hg_1, hf⟩ := dc_g hf
    refine va_iast hx hb hK hP hD hS 60 0 rfl rfl hg_1 dn_Design_addPiece_54 (fun H locs hP hD hS => ?_)
    have hP : va_P (dC, dI) xcl ((wC a v cI cB cJ cZ cQ s).set 60 ((a 320), .inl (cI, 6554, .inl (upd (s.1 320) (Int32.toNatClampNeg t1) t0)))) H := hP
    have hD : va_D A ((wC a v cI cB cJ cZ cQ s).set 60 ((a 320), .inl (cI, 6554, .inl (upd (s.1 320) (Int32.toNatClampNeg t1) t0)))) := hD
    have hP := wC_P_320 hP
    have hD := wC_D_320 hD
    refine lv_aload_n hx hb dn_Design_addPiece_55 rfl (lv_at hl 0 rfl) ?_
    refine lv_dup hx hb dn_Design_addPiece_56 rfl ?_
    refine va_get (D := (dC, dI)) (ci := 10) (v := .int ((s.1 317 0))) (C := rn_Design) (T := fn_Design) (N := 16) hx hb hg in_Design hown hK hP 9 rfl rfl 12 (by decide) (hg _ wn_3_21) (fun _ h9 => h9) rfl dn_Design_addPiece_57 ?_
    refine lv_iconst (v := 1) hx hb dn_Design_addPiece_60 (by decide) ?_
    refine lv_iadd hx hb dn_Design_addPiece_61 ?_
    refine va_put (D := (dC, dI)) (ci := 10) (v := .int (((s.1 317 0) + 1))) (ty := .int) (C := rn_Design) (T := fn_Design) (N := 16) hx hb hg in_Design tn_Design tk_Design nn_Design hown hK hP hD hS 9 rfl rfl 12 (by decide) (hg _ wn_3_21) (fun _ h9 => h9) rfl (tk_Design 12 (by decide)) rfl rfl (Nat.le_of_ble_eq_true rfl) dn_Design_addPiece_62 (fun H locs hP hD hS => ?_)
    have hP := wC_P_317 hP
    have hD := wC_D_317 hD
    rw [hQQ, ← Option.some.inj hf]
    exact xk_vret (w1 := fun u : Unit => (wC a v cI cB cJ cZ cQ (upI (upI s 320 (upd (s.1 320) (Int32.toNatClampNeg t1) t0)) 317 (fun _ => ((s.1 317 0) + 1))))) () hx hb hr hlocks hK hS dn_Design_addPiece_65 hP hD trivial (Nat.le_refl _) (Nat.le_refl _)
  intro H locs ls hP hD hS hl
  unfold fn_Design_addPiece_Ds at hf
  refine lv_aload_n hx hb dn_Design_addPiece_0 rfl (lv_at hl 0 rfl) ?_
  refine va_get (D := (dC, dI)) (ci := 10) (v := .int ((s.1 317 0))) (C := rn_Design) (T := fn_Design) (N := 16) hx hb hg in_Design hown hK hP 9 rfl rfl 12 (by decide) (hg _ wn_3_21) (fun _ h9 => h9) rfl dn_Design_addPiece_1 ?_
  refine lv_sipush (v := 6554) hx hb dn_Design_addPiece_4 (by decide) ?_
  refine lv_icmp_lt (tgt := 11) hx hb dn_Design_addPiece_7 (by decide) (fun h => ?_) (fun h => ?_)
  · have hf := (if_pos h).symm.trans hf
    refine lv_aload_n hx hb dn_Design_addPiece_11 rfl (lv_at hl 0 rfl) ?_
    refine va_get (D := (dC, dI)) (ci := 10) (v := .ref ((a 318))) (C := rn_Design) (T := fn_Design) (N := 16) hx hb hg in_Design hown hK hP 9 rfl rfl 13 (by decide) (hg _ wn_3_22) (fun _ h9 => h9) rfl dn_Design_addPiece_12 ?_
    refine lv_aload_n hx hb dn_Design_addPiece_15 rfl (lv_at hl 0 rfl) ?_
    refine va_get (D := (dC, dI)) (ci := 10) (v := .int ((s.1 317 0))) (C := rn_Design) (T := fn_Design) (N := 16) hx hb hg in_Design hown hK hP 9 rfl rfl 12 (by decide) (hg _ wn_3_21) (fun _ h9 => h9) rfl dn_Design_addPiece_16 ?_
    refine lv_iload_n hx hb dn_Design_addPiece_19 rfl (lv_at hl 2 rfl) ?_
    obtain ⟨hg_1, hf⟩ := dc_g hf
    refine va_iast hx hb hK hP hD hS 58 0 rfl rfl hg_1 dn_Design_addPiece_20 (fun H locs hP hD hS => ?_)
    have hP : va_P (dC, dI) xcl ((wC a v cI cB cJ cZ cQ s).set 58 ((a 318), .inl (cI, 6554, .inl (upd (s.1 318) (Int32.toNatClampNeg ((s.1 317 0))) v2)))) H := hP
    have hD : va_D A ((wC a v cI cB cJ cZ cQ s).set 58 ((a 318), .inl (cI, 6554, .inl (upd (s.1 318) (Int32.toNatClampNeg ((s.1 317 0))) v2)))) := hD
    have hP := wC_P_318 hP
    have hD := wC_D_318 hD
    refine lv_aload_n hx hb dn_Design_addPiece_21 rfl (lv_at hl 0 rfl) ?_
    refine va_get (D := (dC, dI)) (ci := 10) (v := .ref ((a 319))) (C := rn_Design) (T := fn_Design) (N := 16) hx hb hg in_Design hown hK hP 9 rfl rfl 14 (by decide) (hg _ wn_3_24) (fun _ h9 => h9) rfl dn_Design_addPiece_22 ?_
    refine lv_aload_n hx hb dn_Design_addPiece_25 rfl (lv_at hl 0 rfl) ?_
    refine va_get (D := (dC, dI)) (ci := 10) (v := .int ((s.1 317 0))) (C := rn_Design) (T := fn_Design) (N := 16) hx hb hg in_Design hown hK hP 9 rfl rfl 12 (by decide) (hg _ wn_3_21) (fun _ h9 => h9) rfl dn_Design_addPiece_26 ?_
    refine lv_aload_n hx hb dn_Design_addPiece_29 rfl (lv_at hl 0 rfl) ?_
    refine va_get (D := (dC, dI)) (ci := 10) (v := .ref ((a 111))) (C := rn_Design) (T := fn_Design) (N := 16) hx hb hg in_Design hown hK hP 9 rfl rfl 1 (by decide) (hg _ wn_2_238) (fun _ h9 => h9) rfl dn_Design_addPiece_30 ?_
    refine va_get (D := (dC, dI)) (ci := 12) (v := .int ((s.1 337 0))) (C := rn_Code) (T := fn_Code) (N := 5) hx hb hg in_Code hown hK hP 11 rfl rfl 1 (by decide) (hg _ wn_2_212) (fun _ h9 => h9) rfl dn_Design_addPiece_33 ?_
    obtain ⟨hg_2, hf⟩ := dc_g hf
    refine va_iast hx hb hK hP hD hS 59 0 rfl rfl hg_2 dn_Design_addPiece_36 (fun H locs hP hD hS => ?_)
    have hP : va_P (dC, dI) xcl ((wC a v cI cB cJ cZ cQ (upI s 318 (upd (s.1 318) (Int32.toNatClampNeg ((s.1 317 0))) v2))).set 59 ((a 319), .inl (cI, 6554, .inl (upd (s.1 319) (Int32.toNatClampNeg ((s.1 317 0))) ((s.1 337 0)))))) H := hP
    have hD : va_D A ((wC a v cI cB cJ cZ cQ (upI s 318 (upd (s.1 318) (Int32.toNatClampNeg ((s.1 317 0))) v2))).set 59 ((a 319), .inl (cI, 6554, .inl (upd (s.1 319) (Int32.toNatClampNeg ((s.1 317 0))) ((s.1 337 0)))))) := hD
    have hP := wC_P_319 hP
    have hD := wC_D_319 hD
    refine lv_aload_n hx hb dn_Design_addPiece_37 rfl (lv_at hl 0 rfl) ?_
    refine va_get (D := (dC, dI)) (ci := 10) (v := .ref ((a 320))) (C := rn_Design) (T := fn_Design) (N := 16) hx hb hg in_Design hown hK hP 9 rfl rfl 15 (by decide) (hg _ wn_3_26) (fun _ h9 => h9) rfl dn_Design_addPiece_38 ?_
    refine lv_aload_n hx hb dn_Design_addPiece_41 rfl (lv_at hl 0 rfl) ?_
    refine va_get (D := (dC, dI)) (ci := 10) (v := .int ((s.1 317 0))) (C := rn_Design) (T := fn_Design) (N := 16) hx hb hg in_Design hown hK hP 9 rfl rfl 12 (by decide) (hg _ wn_3_21) (fun _ h9 => h9) rfl dn_Design_addPiece_42 ?_
    refine lv_iload_n hx hb dn_Design_addPiece_45 rfl (lv_at hl 1 rfl) ?_
    refine lv_if_eq (tgt := 53) hx hb dn_Design_addPiece_46 (by decide) (fun h => ?_) (fun h => ?_)
    · have hf := (if_pos h).symm.trans hf
      refine lv_iconst (v := 0) hx hb dn_Design_addPiece_53 (by decide) ?_
      exact bl_54 0 ((s.1 317 0)) (upI (upI s 318 (upd (s.1 318) (Int32.toNatClampNeg ((s.1 317 0))) v2)) 319 (upd (s.1 319) (Int32.toNatClampNeg ((s.1 317 0))) ((s.1 337 0)))) hf H locs ls hP hD hS (lv_sub hl [0] rfl)
    · have hf := (if_neg h).symm.trans hf
      refine lv_iconst (v := 1) hx hb dn_Design_addPiece_49 (by decide) ?_
      refine lv_goto (tgt := 54) hx hb dn_Design_addPiece_50 (by decide) ?_
      exact bl_54 1 ((s.1 317 0)) (upI (upI s 318 (upd (s.1 318) (Int32.toNatClampNeg ((s.1 317 0))) v2)) 319 (upd (s.1 319) (Int32.toNatClampNeg ((s.1 317 0))) ((s.1 337 0)))) hf H locs ls hP hD hS (lv_sub hl [0] rfl)
  · have hf := (if_neg h).symm.trans hf
    rw [hQQ, ← Option.some.inj hf]
    exact xk_vret (w1 := fun u : Unit => (wC a v cI cB cJ cZ cQ s)) () hx hb hr hlocks hK hS dn_Design_addPiece_10 hP hD trivial (Nat.le_refl _) (Nat.le_refl _)
set_option maxHeartbeats 8000000 in
set_option maxRecDepth 100000 in
theorem ct_Meaning_alwaysEnd_Me (l : Launch) (dC : Nat → ClassId) (dI : Nat → Nat → Nat) (cI cB cJ cZ cQ : ClassId) (N sz : Nat) (a : Nat → Nat) (v : Nat → Value) (hv_4 : v 4 = .ref (a 109)) (hv_6 : v 6 = .ref (a 111)) (s : ms) (y : (Unit × ms)) (hf : fn_Meaning_alwaysEnd_Me N s = some y) : Met l yn_Meaning_alwaysEnd (xw yn_Meaning_alwaysEnd bn_Meaning_alwaysEnd 1 none) ({ frames := 1, cells := 0, slots := 0, locals := 22 }) (dc_P (dC, dI) xcl (xt cI cB cJ cZ cQ) [.ref ((a 104))] sz (wC a v cI cB cJ cZ cQ s)) (xk_Qv (dC, dI) xcl (xt cI cB cJ cZ cQ) (fun _ : Unit => True) (fun u : Unit => (wC a v cI cB cJ cZ cQ y.2)) (va_A (wC a v cI cB cJ cZ cQ s) sz)) 0 0 (va_A (wC a v cI cB cJ cZ cQ s) sz) := by
  refine dc_of (QA := xk_Qv (dC, dI) xcl (xt cI cB cJ cZ cQ) (fun _ : Unit => True) (fun u : Unit => (wC a v cI cB cJ cZ cQ y.2))) (by decide) (Nat.le_of_ble_eq_true rfl) ?_
  intro p e s0 m below meth c hx hb hml hown hg hr hlocks hin hP hK hN A hA hD hT ls hl
  have hown : s0.vm.findClass rn_Meaning = some m.cls := hown
  obtain ⟨H, hH⟩ : ∃ z, z = s0.heap := ⟨_, rfl⟩
  rw [← hH] at hP
  have hS : va_S A s0.heap H [] := by rw [hH]; exact va_S.rf
  suffices kk : ∀ QQ : State → Prop, QQ = MQ below (xk_Qv (dC, dI) xcl (xt cI cB cJ cZ cQ) (fun _ : Unit => True) (fun u : Unit => (wC a v cI cB cJ cZ cQ y.2)) A) [.ref ((a 104))].toArray s0 0 0 A → dcC p l e ({ frames := 1, cells := 0, slots := 0, locals := 22 }) s0 m [.ref ((a 104))].toArray below meth c QQ (dC, dI) A (wC a v cI cB cJ cZ cQ s) 0 1 [(0, .ref ((a 104)))] [] by
    have k9 := kk _ rfl H [] ls hP hD hS hl
    rw [hH] at k9; exact k9
  clear hP hD hS hl hH H ls
  intro QQ hQQ
  intro H locs ls hP hD hS hl
  unfold fn_Meaning_alwaysEnd_Me at hf
  refine lv_aload_n hx hb dn_Meaning_alwaysEnd_0 rfl (lv_at hl 0 rfl) ?_
  refine va_get (D := (dC, dI)) (ci := 5) (v := .ref ((a 103))) (C := rn_Meaning) (T := fn_Meaning) (N := 17) hx hb hg in_Meaning hown hK hP 4 rfl rfl 0 (by decide) (hg _ wn_1_184) (fun _ h9 => h9) rfl dn_Meaning_alwaysEnd_1 ?_
  obtain ⟨q_1, hc_2, hf⟩ := dc_b hf
  refine dc_calli (dc_runV (ar := 0) (As := []) (rest := []) (ci := 4) (q0 := 3) ⟨hx, hb, hml, hown, hg⟩ hK hN hT hS hA (ct_Checker_isOff_Ch l dC dI cI cB cJ cZ cQ N H.size a v s q_1 hc_2) hP hD rfl rfl wn_4_193 wn_4_194 wn_4_195 wn_1_4 wn_4_196 rfl rfl (by decide +kernel) ⟨Nat.le_of_ble_eq_true rfl, Nat.le_of_ble_eq_true rfl⟩ rfl hl.1 rfl (Nat.le_of_ble_eq_true rfl) dn_Meaning_alwaysEnd_4 ⟨Nat.le_of_ble_eq_true rfl, Nat.le_of_ble_eq_true rfl⟩) hP hD hS hA (fun r_3 _ H locs hw hP hD hS => ?_)
  have hw : r_3 = q_1.1 := hw
  subst hw
  refine lv_if_eq (tgt := 11) hx hb dn_Meaning_alwaysEnd_7 (by decide) (fun h => ?_) (fun h => ?_)
  · have hf := (if_pos h).symm.trans hf
    refine lv_aload_n hx hb dn_Meaning_alwaysEnd_11 rfl (lv_at hl 0 rfl) ?_
    refine va_get (D := (dC, dI)) (ci := 5) (v := .int ((q_1.2.1 255 0))) (C := rn_Meaning) (T := fn_Meaning) (N := 17) hx hb hg in_Meaning hown hK hP 4 rfl rfl 11 (by decide) (hg _ wn_1_195) (fun _ h9 => h9) rfl dn_Meaning_alwaysEnd_12 ?_
    refine lv_if_eq (tgt := 33) hx hb dn_Meaning_alwaysEnd_15 (by decide) (fun h => ?_) (fun h => ?_)
    · have hf := (if_pos h).symm.trans hf
      refine lv_aload_n hx hb dn_Meaning_alwaysEnd_33 rfl (lv_at hl 0 rfl) ?_
      refine va_get (D := (dC, dI)) (ci := 5) (v := .ref ((a 111))) (C := rn_Meaning) (T := fn_Meaning) (N := 17) hx hb hg in_Meaning hown hK hP 4 rfl rfl 3 (by decide) (hg _ wn_1_187) (fun _ h9 => h9) (congrArg some hv_6) dn_Meaning_alwaysEnd_34 ?_
      refine lv_aload_n hx hb dn_Meaning_alwaysEnd_37 rfl (lv_at hl 0 rfl) ?_
      refine va_get (D := (dC, dI)) (ci := 5) (v := .int ((q_1.2.1 254 0))) (C := rn_Meaning) (T := fn_Meaning) (N := 17) hx hb hg in_Meaning hown hK hP 4 rfl rfl 10 (by decide) (hg _ wn_1_194) (fun _ h9 => h9) rfl dn_Meaning_alwaysEnd_38 ?_
      refine va_put (D := (dC, dI)) (ci := 12) (v := .int ((q_1.2.1 254 0))) (ty := .int) (C := rn_Code) (T := fn_Code) (N := 5) hx hb hg in_Code tn_Code tk_Code nn_Code hown hK hP hD hS 11 rfl rfl 1 (by decide) (hg _ wn_2_214) (fun _ h9 => h9) rfl (tk_Code 1 (by decide)) rfl rfl (Nat.le_of_ble_eq_true rfl) dn_Meaning_alwaysEnd_41 (fun H locs hP hD hS => ?_)
      have hP := wC_P_337 hP
      have hD := wC_D_337 hD
      rw [hQQ, ← Option.some.inj hf]
      exact xk_vret (w1 := fun u : Unit => (wC a v cI cB cJ cZ cQ (upI q_1.2 337 (fun _ => (q_1.2.1 254 0))))) () hx hb hr hlocks hK hS dn_Meaning_alwaysEnd_44 hP hD trivial (Nat.le_refl _) (Nat.le_refl _)
    · have hf := (if_neg h).symm.trans hf
      refine lv_aload_n hx hb dn_Meaning_alwaysEnd_18 rfl (lv_at hl 0 rfl) ?_
      refine va_get (D := (dC, dI)) (ci := 5) (v := .ref ((a 109))) (C := rn_Meaning) (T := fn_Meaning) (N := 17) hx hb hg in_Meaning hown hK hP 4 rfl rfl 1 (by decide) (hg _ wn_1_185) (fun _ h9 => h9) (congrArg some hv_4) dn_Meaning_alwaysEnd_19 ?_
      refine lv_iconst (v := 0) hx hb dn_Meaning_alwaysEnd_22 (by decide) ?_
      refine lv_aload_n hx hb dn_Meaning_alwaysEnd_23 rfl (lv_at hl 0 rfl) ?_
      refine va_get (D := (dC, dI)) (ci := 5) (v := .int ((q_1.2.1 254 0))) (C := rn_Meaning) (T := fn_Meaning) (N := 17) hx hb hg in_Meaning hown hK hP 4 rfl rfl 10 (by decide) (hg _ wn_1_194) (fun _ h9 => h9) rfl dn_Meaning_alwaysEnd_24 ?_
      obtain ⟨q_4, hc_5, hf⟩ := dc_b hf
      refine dc_callv (dc_runV (ar := 2) (As := [.int 0, .int ((q_1.2.1 254 0))]) (rest := []) (ci := 10) (q0 := 9) ⟨hx, hb, hml, hown, hg⟩ hK hN hT hS hA (ct_Design_addPiece_Ds l dC dI cI cB cJ cZ cQ N H.size a v 0 ((q_1.2.1 254 0)) q_1.2 q_4 hc_5) hP hD rfl rfl wn_5_185 wn_5_186 wn_5_187 wn_1_10 wn_5_188 rfl rfl (by decide +kernel) ⟨Nat.le_of_ble_eq_true rfl, Nat.le_of_ble_eq_true rfl⟩ rfl hl.1 rfl (Nat.le_of_ble_eq_true rfl) dn_Meaning_alwaysEnd_27 ⟨Nat.le_of_ble_eq_true rfl, Nat.le_of_ble_eq_true rfl⟩) hP hD hS hA (fun _ H locs hw hP hD hS => ?_)
      refine lv_goto (tgt := 44) hx hb dn_Meaning_alwaysEnd_30 (by decide) ?_
      rw [hQQ, ← Option.some.inj hf]
      exact xk_vret (w1 := fun u : Unit => (wC a v cI cB cJ cZ cQ q_4.2)) () hx hb hr hlocks hK hS dn_Meaning_alwaysEnd_44 hP hD trivial (Nat.le_refl _) (Nat.le_refl _)
  · have hf := (if_neg h).symm.trans hf
    rw [hQQ, ← Option.some.inj hf]
    exact xk_vret (w1 := fun u : Unit => (wC a v cI cB cJ cZ cQ q_1.2)) () hx hb hr hlocks hK hS dn_Meaning_alwaysEnd_10 hP hD trivial (Nat.le_refl _) (Nat.le_refl _)
set_option maxHeartbeats 8000000 in
set_option maxRecDepth 100000 in
theorem ct_Grammar_behindStatement_Gr (l : Launch) (dC : Nat → ClassId) (dI : Nat → Nat → Nat) (cI cB cJ cZ cQ : ClassId) (N sz : Nat) (a : Nat → Nat) (v : Nat → Value) (hv_4 : v 4 = .ref (a 109)) (hv_6 : v 6 = .ref (a 111)) (s : ms) (y : (Unit × ms)) (hf : fn_Grammar_behindStatement_Gr N s = some y) : Met l yn_Grammar_behindStatement (xw yn_Grammar_behindStatement bn_Grammar_behindStatement 1 none) ({ frames := 5, cells := 0, slots := 0, locals := 126 }) (dc_P (dC, dI) xcl (xt cI cB cJ cZ cQ) [.ref ((a 105))] sz (wC a v cI cB cJ cZ cQ s)) (xk_Qv (dC, dI) xcl (xt cI cB cJ cZ cQ) (fun _ : Unit => True) (fun u : Unit => (wC a v cI cB cJ cZ cQ y.2)) (va_A (wC a v cI cB cJ cZ cQ s) sz)) 0 0 (va_A (wC a v cI cB cJ cZ cQ s) sz) := by
  refine dc_of (QA := xk_Qv (dC, dI) xcl (xt cI cB cJ cZ cQ) (fun _ : Unit => True) (fun u : Unit => (wC a v cI cB cJ cZ cQ y.2))) (by decide) (Nat.le_of_ble_eq_true rfl) ?_
  intro p e s0 m below meth c hx hb hml hown hg hr hlocks hin hP hK hN A hA hD hT ls hl
  have hown : s0.vm.findClass rn_Grammar = some m.cls := hown
  obtain ⟨H, hH⟩ : ∃ z, z = s0.heap := ⟨_, rfl⟩
  rw [← hH] at hP
  have hS : va_S A s0.heap H [] := by rw [hH]; exact va_S.rf
  suffices kk : ∀ QQ : State → Prop, QQ = MQ below (xk_Qv (dC, dI) xcl (xt cI cB cJ cZ cQ) (fun _ : Unit => True) (fun u : Unit => (wC a v cI cB cJ cZ cQ y.2)) A) [.ref ((a 105))].toArray s0 0 0 A → dcC p l e ({ frames := 5, cells := 0, slots := 0, locals := 126 }) s0 m [.ref ((a 105))].toArray below meth c QQ (dC, dI) A (wC a v cI cB cJ cZ cQ s) 0 1 [(0, .ref ((a 105)))] [] by
    have k9 := kk _ rfl H [] ls hP hD hS hl
    rw [hH] at k9; exact k9
  clear hP hD hS hl hH H ls
  intro QQ hQQ
  intro H locs ls hP hD hS hl
  unfold fn_Grammar_behindStatement_Gr at hf
  refine lv_aload_n hx hb dn_Grammar_behindStatement_0 rfl (lv_at hl 0 rfl) ?_
  refine va_get (D := (dC, dI)) (ci := 6) (v := .int ((s.1 271 0))) (C := rn_Grammar) (T := fn_Grammar) (N := 15) hx hb hg in_Grammar hown hK hP 5 rfl rfl 10 (by decide) (hg _ wn_2_10) (fun _ h9 => h9) rfl dn_Grammar_behindStatement_1 ?_
  refine lv_if_ne (tgt := 20) hx hb dn_Grammar_behindStatement_4 (by decide) (fun h => ?_) (fun h => ?_)
  · have hf := (if_neg h).symm.trans hf
    refine lv_aload_n hx hb dn_Grammar_behindStatement_20 rfl (lv_at hl 0 rfl) ?_
    refine va_get (D := (dC, dI)) (ci := 6) (v := .ref ((a 270))) (C := rn_Grammar) (T := fn_Grammar) (N := 15) hx hb hg in_Grammar hown hK hP 5 rfl rfl 9 (by decide) (hg _ wn_2_9) (fun _ h9 => h9) rfl dn_Grammar_behindStatement_21 ?_
    refine lv_aload_n hx hb dn_Grammar_behindStatement_24 rfl (lv_at hl 0 rfl) ?_
    refine va_get (D := (dC, dI)) (ci := 6) (v := .int ((s.1 271 0))) (C := rn_Grammar) (T := fn_Grammar) (N := 15) hx hb hg in_Grammar hown hK hP 5 rfl rfl 10 (by decide) (hg _ wn_2_10) (fun _ h9 => h9) rfl dn_Grammar_behindStatement_25 ?_
    refine lv_iconst (v := 1) hx hb dn_Grammar_behindStatement_28 (by decide) ?_
    refine lv_isub hx hb dn_Grammar_behindStatement_29 ?_
    obtain ⟨hg_1, hf⟩ := dc_g hf
    refine va_iald hx hb hK hP 30 0 rfl rfl hg_1 dn_Grammar_behindStatement_30 ?_
    refine xk_ti (y := ((s.1 270) (Int32.toNatClampNeg (((s.1 271 0) - 1))))) rfl ?_
    by_cases h_0 : ((s.1 270) (Int32.toNatClampNeg (((s.1 271 0) - 1)))) = 138
    · have hf := (if_pos h_0).symm.trans hf
      refine xk_ti (y := 138) h_0 ?_
      refine lv_lookup (off := 49) (tgt := 80) hx hb dn_Grammar_behindStatement_31 (by decide) (by decide) (by decide) ?_
      refine lv_aload_n hx hb dn_Grammar_behindStatement_80 rfl (lv_at hl 0 rfl) ?_
      refine va_get (D := (dC, dI)) (ci := 6) (v := .ref ((a 101))) (C := rn_Grammar) (T := fn_Grammar) (N := 15) hx hb hg in_Grammar hown hK hP 5 rfl rfl 0 (by decide) (hg _ wn_2_0) (fun _ h9 => h9) rfl dn_Grammar_behindStatement_81 ?_
      refine va_get (D := (dC, dI)) (ci := 2) (v := .int ((s.1 214 0))) (C := rn_Tokens) (T := fn_Tokens) (N := 9) hx hb hg in_Tokens hown hK hP 1 rfl rfl 3 (by decide) (hg _ wn_1_50) (fun _ h9 => h9) rfl dn_Grammar_behindStatement_84 ?_
      refine lv_sipush (v := 139) hx hb dn_Grammar_behindStatement_87 (by decide) ?_
      refine lv_icmp_ne (tgt := 116) hx hb dn_Grammar_behindStatement_90 (by decide) (fun h => ?_) (fun h => ?_)
      · have hf := (if_neg h).symm.trans hf
        refine lv_aload_n hx hb dn_Grammar_behindStatement_116 rfl (lv_at hl 0 rfl) ?_
        refine lv_iconst (v := 4) hx hb dn_Grammar_behindStatement_117 (by decide) ?_
        refine va_put (D := (dC, dI)) (ci := 6) (v := .int 4) (ty := .int) (C := rn_Grammar) (T := fn_Grammar) (N := 15) hx hb hg in_Grammar tn_Grammar tk_Grammar nn_Grammar hown hK hP hD hS 5 rfl rfl 3 (by decide) (hg _ wn_2_3) (fun _ h9 => h9) rfl (tk_Grammar 3 (by decide)) rfl rfl (Nat.le_of_ble_eq_true rfl) dn_Grammar_behindStatement_118 (fun H locs hP hD hS => ?_)
        have hP := wC_P_264 hP
        have hD := wC_D_264 hD
        refine lv_goto (tgt := 186) hx hb dn_Grammar_behindStatement_121 (by decide) ?_
        rw [hQQ, ← Option.some.inj hf]
        exact xk_vret (w1 := fun u : Unit => (wC a v cI cB cJ cZ cQ (upI s 264 (fun _ => 4)))) () hx hb hr hlocks hK hS dn_Grammar_behindStatement_186 hP hD trivial (Nat.le_refl _) (Nat.le_refl _)
      · have hf := (if_pos h).symm.trans hf
        refine lv_aload_n hx hb dn_Grammar_behindStatement_93 rfl (lv_at hl 0 rfl) ?_
        refine va_get (D := (dC, dI)) (ci := 6) (v := .ref ((a 101))) (C := rn_Grammar) (T := fn_Grammar) (N := 15) hx hb hg in_Grammar hown hK hP 5 rfl rfl 0 (by decide) (hg _ wn_2_0) (fun _ h9 => h9) rfl dn_Grammar_behindStatement_94 ?_
        refine lv_sipush (v := 139) hx hb dn_Grammar_behindStatement_97 (by decide) ?_
        obtain ⟨q_2, hc_3, hf⟩ := dc_b hf
        refine dc_callv (dc_runV (ar := 1) (As := [.int 139]) (rest := []) (ci := 2) (q0 := 1) ⟨hx, hb, hml, hown, hg⟩ hK hN hT hS hA (ct_Tokens_shut_Tk l dC dI cI cB cJ cZ cQ N H.size a v 139 s q_2 hc_3) hP hD rfl rfl wn_4_226 wn_4_227 wn_4_228 wn_1_2 wn_4_229 rfl rfl (by decide +kernel) ⟨Nat.le_of_ble_eq_true rfl, Nat.le_of_ble_eq_true rfl⟩ rfl hl.1 rfl (Nat.le_of_ble_eq_true rfl) dn_Grammar_behindStatement_100 ⟨Nat.le_of_ble_eq_true rfl, Nat.le_of_ble_eq_true rfl⟩) hP hD hS hA (fun _ H locs hw hP hD hS => ?_)
        refine lv_aload_n hx hb dn_Grammar_behindStatement_103 rfl (lv_at hl 0 rfl) ?_
        refine lv_dup hx hb dn_Grammar_behindStatement_104 rfl ?_
        refine va_get (D := (dC, dI)) (ci := 6) (v := .int ((q_2.2.1 271 0))) (C := rn_Grammar) (T := fn_Grammar) (N := 15) hx hb hg in_Grammar hown hK hP 5 rfl rfl 10 (by decide) (hg _ wn_2_10) (fun _ h9 => h9) rfl dn_Grammar_behindStatement_105 ?_
        refine lv_iconst (v := 1) hx hb dn_Grammar_behindStatement_108 (by decide) ?_
        refine lv_isub hx hb dn_Grammar_behindStatement_109 ?_
        refine va_put (D := (dC, dI)) (ci := 6) (v := .int (((q_2.2.1 271 0) - 1))) (ty := .int) (C := rn_Grammar) (T := fn_Grammar) (N := 15) hx hb hg in_Grammar tn_Grammar tk_Grammar nn_Grammar hown hK hP hD hS 5 rfl rfl 10 (by decide) (hg _ wn_2_10) (fun _ h9 => h9) rfl (tk_Grammar 10 (by decide)) rfl rfl (Nat.le_of_ble_eq_true rfl) dn_Grammar_behindStatement_110 (fun H locs hP hD hS => ?_)
        have hP := wC_P_271 hP
        have hD := wC_D_271 hD
        refine lv_goto (tgt := 186) hx hb dn_Grammar_behindStatement_113 (by decide) ?_
        rw [hQQ, ← Option.some.inj hf]
        exact xk_vret (w1 := fun u : Unit => (wC a v cI cB cJ cZ cQ (upI q_2.2 271 (fun _ => ((q_2.2.1 271 0) - 1))))) () hx hb hr hlocks hK hS dn_Grammar_behindStatement_186 hP hD trivial (Nat.le_refl _) (Nat.le_refl _)
    have hf := (if_neg h_0).symm.trans hf
    by_cases h_1 : ((s.1 270) (Int32.toNatClampNeg (((s.1 271 0) - 1)))) = 140
    · have hf := (if_pos h_1).symm.trans hf
      refine xk_ti (y := 140) h_1 ?_
      refine lv_lookup (off := 93) (tgt := 124) hx hb dn_Grammar_behindStatement_31 (by decide) (by decide) (by decide) ?_
      refine lv_aload_n hx hb dn_Grammar_behindStatement_124 rfl (lv_at hl 0 rfl) ?_
      refine va_get (D := (dC, dI)) (ci := 6) (v := .ref ((a 101))) (C := rn_Grammar) (T := fn_Grammar) (N := 15) hx hb hg in_Grammar hown hK hP 5 rfl rfl 0 (by decide) (hg _ wn_2_0) (fun _ h9 => h9) rfl dn_Grammar_behindStatement_125 ?_
      refine va_get (D := (dC, dI)) (ci := 2) (v := .int ((s.1 214 0))) (C := rn_Tokens) (T := fn_Tokens) (N := 9) hx hb hg in_Tokens hown hK hP 1 rfl rfl 3 (by decide) (hg _ wn_1_50) (fun _ h9 => h9) rfl dn_Grammar_behindStatement_128 ?_
      refine lv_sipush (v := 141) hx hb dn_Grammar_behindStatement_131 (by decide) ?_
      refine lv_icmp_ne (tgt := 144) hx hb dn_Grammar_behindStatement_134 (by decide) (fun h => ?_) (fun h => ?_)
      · have hf := (if_neg h).symm.trans hf
        refine lv_aload_n hx hb dn_Grammar_behindStatement_144 rfl (lv_at hl 0 rfl) ?_
        obtain ⟨q_2, hc_3, hf⟩ := dc_b hf
        refine dc_callv (dc_runV (ar := 0) (As := []) (rest := []) (ci := 6) (q0 := 5) ⟨hx, hb, hml, hown, hg⟩ hK hN hT hS hA (ct_Grammar_ifEnd_Gr l dC dI cI cB cJ cZ cQ N H.size a v hv_6 s q_2 hc_3) hP hD rfl rfl wn_5_207 wn_5_209 sn_Grammar_ifEnd wn_1_5 wn_5_210 rfl rfl (by decide +kernel) ⟨Nat.le_of_ble_eq_true rfl, Nat.le_of_ble_eq_true rfl⟩ rfl hl.1 rfl (Nat.le_of_ble_eq_true rfl) dn_Grammar_behindStatement_145 ⟨Nat.le_of_ble_eq_true rfl, Nat.le_of_ble_eq_true rfl⟩) hP hD hS hA (fun _ H locs hw hP hD hS => ?_)
        refine lv_goto (tgt := 186) hx hb dn_Grammar_behindStatement_148 (by decide) ?_
        rw [hQQ, ← Option.some.inj hf]
        exact xk_vret (w1 := fun u : Unit => (wC a v cI cB cJ cZ cQ q_2.2)) () hx hb hr hlocks hK hS dn_Grammar_behindStatement_186 hP hD trivial (Nat.le_refl _) (Nat.le_refl _)
      · have hf := (if_pos h).symm.trans hf
        refine lv_aload_n hx hb dn_Grammar_behindStatement_137 rfl (lv_at hl 0 rfl) ?_
        obtain ⟨q_2, hc_3, hf⟩ := dc_b hf
        refine dc_callv (dc_runV (ar := 0) (As := []) (rest := []) (ci := 6) (q0 := 5) ⟨hx, hb, hml, hown, hg⟩ hK hN hT hS hA (ct_Grammar_otherwise_Gr l dC dI cI cB cJ cZ cQ N H.size a v hv_6 s q_2 hc_3) hP hD rfl rfl wn_5_189 wn_5_191 sn_Grammar_otherwise wn_1_5 wn_5_192 rfl rfl (by decide +kernel) ⟨Nat.le_of_ble_eq_true rfl, Nat.le_of_ble_eq_true rfl⟩ rfl hl.1 rfl (Nat.le_of_ble_eq_true rfl) dn_Grammar_behindStatement_138 ⟨Nat.le_of_ble_eq_true rfl, Nat.le_of_ble_eq_true rfl⟩) hP hD hS hA (fun _ H locs hw hP hD hS => ?_)
        refine lv_goto (tgt := 186) hx hb dn_Grammar_behindStatement_141 (by decide) ?_
        rw [hQQ, ← Option.some.inj hf]
        exact xk_vret (w1 := fun u : Unit => (wC a v cI cB cJ cZ cQ q_2.2)) () hx hb hr hlocks hK hS dn_Grammar_behindStatement_186 hP hD trivial (Nat.le_refl _) (Nat.le_refl _)
    have hf := (if_neg h_1).symm.trans hf
    by_cases h_2 : ((s.1 270) (Int32.toNatClampNeg (((s.1 271 0) - 1)))) = 141
    · have hf := (if_pos h_2).symm.trans hf
      refine xk_ti (y := 141) h_2 ?_
      refine lv_lookup (off := 120) (tgt := 151) hx hb dn_Grammar_behindStatement_31 (by decide) (by decide) (by decide) ?_
      refine lv_aload_n hx hb dn_Grammar_behindStatement_151 rfl (lv_at hl 0 rfl) ?_
      obtain ⟨q_2, hc_3, hf⟩ := dc_b hf
      refine dc_callv (dc_runV (ar := 0) (As := []) (rest := []) (ci := 6) (q0 := 5) ⟨hx, hb, hml, hown, hg⟩ hK hN hT hS hA (ct_Grammar_ifEnd_Gr l dC dI cI cB cJ cZ cQ N H.size a v hv_6 s q_2 hc_3) hP hD rfl rfl wn_5_207 wn_5_209 sn_Grammar_ifEnd wn_1_5 wn_5_210 rfl rfl (by decide +kernel) ⟨Nat.le_of_ble_eq_true rfl, Nat.le_of_ble_eq_true rfl⟩ rfl hl.1 rfl (Nat.le_of_ble_eq_true rfl) dn_Grammar_behindStatement_152 ⟨Nat.le_of_ble_eq_true rfl, Nat.le_of_ble_eq_true rfl⟩) hP hD hS hA (fun _ H locs hw hP hD hS => ?_)
      refine lv_goto (tgt := 186) hx hb dn_Grammar_behindStatement_155 (by decide) ?_
      rw [hQQ, ← Option.some.inj hf]
      exact xk_vret (w1 := fun u : Unit => (wC a v cI cB cJ cZ cQ q_2.2)) () hx hb hr hlocks hK hS dn_Grammar_behindStatement_186 hP hD trivial (Nat.le_refl _) (Nat.le_refl _)
    have hf := (if_neg h_2).symm.trans hf
    by_cases h_3 : ((s.1 270) (Int32.toNatClampNeg (((s.1 271 0) - 1)))) = 142
    · have hf := (if_pos h_3).symm.trans hf
      refine xk_ti (y := 142) h_3 ?_
      refine lv_lookup (off := 127) (tgt := 158) hx hb dn_Grammar_behindStatement_31 (by decide) (by decide) (by decide) ?_
      refine lv_aload_n hx hb dn_Grammar_behindStatement_158 rfl (lv_at hl 0 rfl) ?_
      obtain ⟨q_2, hc_3, hf⟩ := dc_b hf
      refine dc_callv (dc_runV (ar := 0) (As := []) (rest := []) (ci := 6) (q0 := 5) ⟨hx, hb, hml, hown, hg⟩ hK hN hT hS hA (ct_Grammar_arm_Gr l dC dI cI cB cJ cZ cQ N H.size a v hv_6 s q_2 hc_3) hP hD rfl rfl wn_5_219 wn_5_221 sn_Grammar_arm wn_1_5 wn_5_222 rfl rfl (by decide +kernel) ⟨Nat.le_of_ble_eq_true rfl, Nat.le_of_ble_eq_true rfl⟩ rfl hl.1 rfl (Nat.le_of_ble_eq_true rfl) dn_Grammar_behindStatement_159 ⟨Nat.le_of_ble_eq_true rfl, Nat.le_of_ble_eq_true rfl⟩) hP hD hS hA (fun _ H locs hw hP hD hS => ?_)
      refine lv_goto (tgt := 186) hx hb dn_Grammar_behindStatement_162 (by decide) ?_
      rw [hQQ, ← Option.some.inj hf]
      exact xk_vret (w1 := fun u : Unit => (wC a v cI cB cJ cZ cQ q_2.2)) () hx hb hr hlocks hK hS dn_Grammar_behindStatement_186 hP hD trivial (Nat.le_refl _) (Nat.le_refl _)
    have hf := (if_neg h_3).symm.trans hf
    by_cases h_4 : ((s.1 270) (Int32.toNatClampNeg (((s.1 271 0) - 1)))) = 201
    · have hf := (if_pos h_4).symm.trans hf
      refine xk_ti (y := 201) h_4 ?_
      refine lv_lookup (off := 134) (tgt := 165) hx hb dn_Grammar_behindStatement_31 (by decide) (by decide) (by decide) ?_
      refine lv_aload_n hx hb dn_Grammar_behindStatement_165 rfl (lv_at hl 0 rfl) ?_
      refine va_get (D := (dC, dI)) (ci := 6) (v := .ref ((a 104))) (C := rn_Grammar) (T := fn_Grammar) (N := 15) hx hb hg in_Grammar hown hK hP 5 rfl rfl 2 (by decide) (hg _ wn_2_2) (fun _ h9 => h9) rfl dn_Grammar_behindStatement_166 ?_
      obtain ⟨q_2, hc_3, hf⟩ := dc_b hf
      refine dc_callv (dc_runV (ar := 0) (As := []) (rest := []) (ci := 5) (q0 := 4) ⟨hx, hb, hml, hown, hg⟩ hK hN hT hS hA (ct_Meaning_armEnd_Me l dC dI cI cB cJ cZ cQ N H.size a v hv_6 s q_2 hc_3) hP hD rfl rfl wn_6_13 wn_6_14 wn_6_15 wn_1_6 wn_6_16 rfl rfl (by decide +kernel) ⟨Nat.le_of_ble_eq_true rfl, Nat.le_of_ble_eq_true rfl⟩ rfl hl.1 rfl (Nat.le_of_ble_eq_true rfl) dn_Grammar_behindStatement_169 ⟨Nat.le_of_ble_eq_true rfl, Nat.le_of_ble_eq_true rfl⟩) hP hD hS hA (fun _ H locs hw hP hD hS => ?_)
      refine lv_aload_n hx hb dn_Grammar_behindStatement_172 rfl (lv_at hl 0 rfl) ?_
      refine lv_sipush (v := 142) hx hb dn_Grammar_behindStatement_173 (by decide) ?_
      obtain ⟨q_4, hc_5, hf⟩ := dc_b hf
      refine dc_callv (dc_runV (ar := 1) (As := [.int 142]) (rest := []) (ci := 6) (q0 := 5) ⟨hx, hb, hml, hown, hg⟩ hK hN hT hS hA (ct_Grammar_goOnIn_Gr l dC dI cI cB cJ cZ cQ N H.size a v 142 q_2.2 q_4 hc_5) hP hD rfl rfl wn_5_149 wn_5_151 sn_Grammar_goOnIn wn_1_5 wn_5_152 rfl rfl (by decide +kernel) ⟨Nat.le_of_ble_eq_true rfl, Nat.le_of_ble_eq_true rfl⟩ rfl hl.1 rfl (Nat.le_of_ble_eq_true rfl) dn_Grammar_behindStatement_176 ⟨Nat.le_of_ble_eq_true rfl, Nat.le_of_ble_eq_true rfl⟩) hP hD hS hA (fun _ H locs hw hP hD hS => ?_)
      refine lv_goto (tgt := 186) hx hb dn_Grammar_behindStatement_179 (by decide) ?_
      rw [hQQ, ← Option.some.inj hf]
      exact xk_vret (w1 := fun u : Unit => (wC a v cI cB cJ cZ cQ q_4.2)) () hx hb hr hlocks hK hS dn_Grammar_behindStatement_186 hP hD trivial (Nat.le_refl _) (Nat.le_refl _)
    have hf := (if_neg h_4).symm.trans hf
    refine lv_lookup (off := 151) (tgt := 182) hx hb dn_Grammar_behindStatement_31 (by decide) (by rw [lv_osw h_0 (by decide)]; rw [lv_osw h_1 (by decide)]; rw [lv_osw h_2 (by decide)]; rw [lv_osw h_3 (by decide)]; rw [lv_osw h_4 (by decide)]; rfl) (by decide) ?_
    refine lv_aload_n hx hb dn_Grammar_behindStatement_182 rfl (lv_at hl 0 rfl) ?_
    obtain ⟨q_2, hc_3, hf⟩ := dc_b hf
    refine dc_callv (dc_runV (ar := 0) (As := []) (rest := []) (ci := 6) (q0 := 5) ⟨hx, hb, hml, hown, hg⟩ hK hN hT hS hA (ct_Grammar_caseEnd_Gr l dC dI cI cB cJ cZ cQ N H.size a v hv_6 s q_2 hc_3) hP hD rfl rfl wn_6_5 wn_6_7 sn_Grammar_caseEnd wn_1_5 wn_6_8 rfl rfl (by decide +kernel) ⟨Nat.le_of_ble_eq_true rfl, Nat.le_of_ble_eq_true rfl⟩ rfl hl.1 rfl (Nat.le_of_ble_eq_true rfl) dn_Grammar_behindStatement_183 ⟨Nat.le_of_ble_eq_true rfl, Nat.le_of_ble_eq_true rfl⟩) hP hD hS hA (fun _ H locs hw hP hD hS => ?_)
    rw [hQQ, ← Option.some.inj hf]
    exact xk_vret (w1 := fun u : Unit => (wC a v cI cB cJ cZ cQ q_2.2)) () hx hb hr hlocks hK hS dn_Grammar_behindStatement_186 hP hD trivial (Nat.le_refl _) (Nat.le_refl _)
  · have hf := (if_pos h).symm.trans hf
    refine lv_aload_n hx hb dn_Grammar_behindStatement_7 rfl (lv_at hl 0 rfl) ?_
    refine va_get (D := (dC, dI)) (ci := 6) (v := .ref ((a 104))) (C := rn_Grammar) (T := fn_Grammar) (N := 15) hx hb hg in_Grammar hown hK hP 5 rfl rfl 2 (by decide) (hg _ wn_2_2) (fun _ h9 => h9) rfl dn_Grammar_behindStatement_8 ?_
    obtain ⟨q_1, hc_2, hf⟩ := dc_b hf
    refine dc_callv (dc_runV (ar := 0) (As := []) (rest := []) (ci := 5) (q0 := 4) ⟨hx, hb, hml, hown, hg⟩ hK hN hT hS hA (ct_Meaning_alwaysEnd_Me l dC dI cI cB cJ cZ cQ N H.size a v hv_4 hv_6 s q_1 hc_2) hP hD rfl rfl wn_5_181 wn_5_182 wn_5_183 wn_1_6 wn_5_184 rfl rfl (by decide +kernel) ⟨Nat.le_of_ble_eq_true rfl, Nat.le_of_ble_eq_true rfl⟩ rfl hl.1 rfl (Nat.le_of_ble_eq_true rfl) dn_Grammar_behindStatement_11 ⟨Nat.le_of_ble_eq_true rfl, Nat.le_of_ble_eq_true rfl⟩) hP hD hS hA (fun _ H locs hw hP hD hS => ?_)
    refine lv_aload_n hx hb dn_Grammar_behindStatement_14 rfl (lv_at hl 0 rfl) ?_
    refine lv_iconst (v := 2) hx hb dn_Grammar_behindStatement_15 (by decide) ?_
    refine va_put (D := (dC, dI)) (ci := 6) (v := .int 2) (ty := .int) (C := rn_Grammar) (T := fn_Grammar) (N := 15) hx hb hg in_Grammar tn_Grammar tk_Grammar nn_Grammar hown hK hP hD hS 5 rfl rfl 3 (by decide) (hg _ wn_2_3) (fun _ h9 => h9) rfl (tk_Grammar 3 (by decide)) rfl rfl (Nat.le_of_ble_eq_true rfl) dn_Grammar_behindStatement_16 (fun H locs hP hD hS => ?_)
    have hP := wC_P_264 hP
    have hD := wC_D_264 hD
    rw [hQQ, ← Option.some.inj hf]
    exact xk_vret (w1 := fun u : Unit => (wC a v cI cB cJ cZ cQ (upI q_1.2 264 (fun _ => 2)))) () hx hb hr hlocks hK hS dn_Grammar_behindStatement_19 hP hD trivial (Nat.le_refl _) (Nat.le_refl _)
set_option maxHeartbeats 8000000 in
set_option maxRecDepth 100000 in
theorem ct_Design_addPiece_Dc (l : Launch) (dC : Nat → ClassId) (dI : Nat → Nat → Nat) (cI cB cJ cZ cQ : ClassId) (N sz : Nat) (a : Nat → Nat) (v : Nat → Value) (v1 : Int32) (v2 : Int32) (s : ms) (y : (Unit × ms)) (hf : fn_Design_addPiece_Dc N v1 v2 s = some y) : Met l yn_Design_addPiece (xw yn_Design_addPiece bn_Design_addPiece 3 none) ({ frames := 0, cells := 0, slots := 0, locals := 0 }) (dc_P (dC, dI) xcl (xt cI cB cJ cZ cQ) [.ref ((a 113)), .int v1, .int v2] sz (wC a v cI cB cJ cZ cQ s)) (xk_Qv (dC, dI) xcl (xt cI cB cJ cZ cQ) (fun _ : Unit => True) (fun u : Unit => (wC a v cI cB cJ cZ cQ y.2)) (va_A (wC a v cI cB cJ cZ cQ s) sz)) 0 0 (va_A (wC a v cI cB cJ cZ cQ s) sz) := by
  refine dc_of (QA := xk_Qv (dC, dI) xcl (xt cI cB cJ cZ cQ) (fun _ : Unit => True) (fun u : Unit => (wC a v cI cB cJ cZ cQ y.2))) (by decide) (Nat.le_of_ble_eq_true rfl) ?_
  intro p e s0 m below meth c hx hb hml hown hg hr hlocks hin hP hK hN A hA hD hT ls hl
  have hown : s0.vm.findClass rn_Design = some m.cls := hown
  obtain ⟨H, hH⟩ : ∃ z, z = s0.heap := ⟨_, rfl⟩
  rw [← hH] at hP
  have hS : va_S A s0.heap H [] := by rw [hH]; exact va_S.rf
  suffices kk : ∀ QQ : State → Prop, QQ = MQ below (xk_Qv (dC, dI) xcl (xt cI cB cJ cZ cQ) (fun _ : Unit => True) (fun u : Unit => (wC a v cI cB cJ cZ cQ y.2)) A) [.ref ((a 113)), .int v1, .int v2].toArray s0 0 0 A → dcC p l e ({ frames := 0, cells := 0, slots := 0, locals := 0 }) s0 m [.ref ((a 113)), .int v1, .int v2].toArray below meth c QQ (dC, dI) A (wC a v cI cB cJ cZ cQ s) 0 3 [(0, .ref ((a 113))), (1, .int v1), (2, .int v2)] [] by
    have k9 := kk _ rfl H [] ls hP hD hS hl
    rw [hH] at k9; exact k9
  clear hP hD hS hl hH H ls
  intro QQ hQQ
  have bl_54 : ∀ (t0 : Int32) (t1 : Int32) (s : ms), bk_Design_addPiece_Dc_54 N t0 t1 s = some y → dcC p l e ({ frames := 0, cells := 0, slots := 0, locals := 0 }) s0 m [.ref ((a 113)), .int v1, .int v2].toArray below meth c QQ (dC, dI) A (wC a v cI cB cJ cZ cQ s) 54 3 [(0, .ref ((a 113)))] [.int t0, .int t1, .ref ((a 370))] := by
    intro t0 t1 s hf H locs ls hP hD hS hl
    unfold bk_Design_addPiece_Dc_54 at hf
    obtain ⟨hg_1, hf⟩ := dc_g hf
    refine va_iast hx hb hK hP hD hS 94 0 rfl rfl hg_1 dn_Design_addPiece_54 (fun H locs hP hD hS => ?_)
    have hP : va_P (dC, dI) xcl ((wC a v cI cB cJ cZ cQ s).set 94 ((a 370), .inl (cI, 6554, .inl (upd (s.1 370) (Int32.toNatClampNeg t1) t0)))) H := hP
    have hD : va_D A ((wC a v cI cB cJ cZ cQ s).set 94 ((a 370), .inl (cI, 6554, .inl (upd (s.1 370) (Int32.toNatClampNeg t1) t0)))) := hD
    have hP := wC_P_370 hP
    have hD := wC_D_370 hD
    refine lv_aload_n hx hb dn_Design_addPiece_55 rfl (lv_at hl 0 rfl) ?_
    refine lv_dup hx hb dn_Design_addPiece_56 rfl ?_
    refine va_get (D := (dC, dI)) (ci := 10) (v := .int ((s.1 367 0))) (C := rn_Design) (T := fn_Design) (N := 16) hx hb hg in_Design hown hK hP 13 rfl rfl 12 (by decide) (hg _ wn_3_21) (fun _ h9 => h9) rfl dn_Design_addPiece_57 ?_
    refine lv_iconst (v := 1) hx hb dn_Design_addPiece_60 (by decide) ?_
    refine lv_iadd hx hb dn_Design_addPiece_61 ?_
    refine va_put (D := (dC, dI)) (ci := 10) (v := .int (((s.1 367 0) + 1))) (ty := .int) (C := rn_Design) (T := fn_Design) (N := 16) hx hb hg in_Design tn_Design tk_Design nn_Design hown hK hP hD hS 13 rfl rfl 12 (by decide) (hg _ wn_3_21) (fun _ h9 => h9) rfl (tk_Design 12 (by decide)) rfl rfl (Nat.le_of_ble_eq_true rfl) dn_Design_addPiece_62 (fun H locs hP hD hS => ?_)
    have hP := wC_P_367 hP
    have hD := wC_D_367 hD
    rw [hQQ, ← Option.some.inj hf]
    exact xk_vret (w1 := fun u : Unit => (wC a v cI cB cJ cZ cQ (upI (upI s 370 (upd (s.1 370) (Int32.toNatClampNeg t1) t0)) 367 (fun _ => ((s.1 367 0) + 1))))) () hx hb hr hlocks hK hS dn_Design_addPiece_65 hP hD trivial (Nat.le_refl _) (Nat.le_refl _)
  intro H locs ls hP hD hS hl
  unfold fn_Design_addPiece_Dc at hf
  refine lv_aload_n hx hb dn_Design_addPiece_0 rfl (lv_at hl 0 rfl) ?_
  refine va_get (D := (dC, dI)) (ci := 10) (v := .int ((s.1 367 0))) (C := rn_Design) (T := fn_Design) (N := 16) hx hb hg in_Design hown hK hP 13 rfl rfl 12 (by decide) (hg _ wn_3_21) (fun _ h9 => h9) rfl dn_Design_addPiece_1 ?_
  refine lv_sipush (v := 6554) hx hb dn_Design_addPiece_4 (by decide) ?_
  refine lv_icmp_lt (tgt := 11) hx hb dn_Design_addPiece_7 (by decide) (fun h => ?_) (fun h => ?_)
  · have hf := (if_pos h).symm.trans hf
    refine lv_aload_n hx hb dn_Design_addPiece_11 rfl (lv_at hl 0 rfl) ?_
    refine va_get (D := (dC, dI)) (ci := 10) (v := .ref ((a 368))) (C := rn_Design) (T := fn_Design) (N := 16) hx hb hg in_Design hown hK hP 13 rfl rfl 13 (by decide) (hg _ wn_3_22) (fun _ h9 => h9) rfl dn_Design_addPiece_12 ?_
    refine lv_aload_n hx hb dn_Design_addPiece_15 rfl (lv_at hl 0 rfl) ?_
    refine va_get (D := (dC, dI)) (ci := 10) (v := .int ((s.1 367 0))) (C := rn_Design) (T := fn_Design) (N := 16) hx hb hg in_Design hown hK hP 13 rfl rfl 12 (by decide) (hg _ wn_3_21) (fun _ h9 => h9) rfl dn_Design_addPiece_16 ?_
    refine lv_iload_n hx hb dn_Design_addPiece_19 rfl (lv_at hl 2 rfl) ?_
    obtain ⟨hg_1, hf⟩ := dc_g hf
    refine va_iast hx hb hK hP hD hS 92 0 rfl rfl hg_1 dn_Design_addPiece_20 (fun H locs hP hD hS => ?_)
    have hP : va_P (dC, dI) xcl ((wC a v cI cB cJ cZ cQ s).set 92 ((a 368), .inl (cI, 6554, .inl (upd (s.1 368) (Int32.toNatClampNeg ((s.1 367 0))) v2)))) H := hP
    have hD : va_D A ((wC a v cI cB cJ cZ cQ s).set 92 ((a 368), .inl (cI, 6554, .inl (upd (s.1 368) (Int32.toNatClampNeg ((s.1 367 0))) v2)))) := hD
    have hP := wC_P_368 hP
    have hD := wC_D_368 hD
    refine lv_aload_n hx hb dn_Design_addPiece_21 rfl (lv_at hl 0 rfl) ?_
    refine va_get (D := (dC, dI)) (ci := 10) (v := .ref ((a 369))) (C := rn_Design) (T := fn_Design) (N := 16) hx hb hg in_Design hown hK hP 13 rfl rfl 14 (by decide) (hg _ wn_3_24) (fun _ h9 => h9) rfl dn_Design_addPiece_22 ?_
    refine lv_aload_n hx hb dn_Design_addPiece_25 rfl (lv_at hl 0 rfl) ?_
    refine va_get (D := (dC, dI)) (ci := 10) (v := .int ((s.1 367 0))) (C := rn_Design) (T := fn_Design) (N := 16) hx hb hg in_Design hown hK hP 13 rfl rfl 12 (by decide) (hg _ wn_3_21) (fun _ h9 => h9) rfl dn_Design_addPiece_26 ?_
    refine lv_aload_n hx hb dn_Design_addPiece_29 rfl (lv_at hl 0 rfl) ?_
    refine va_get (D := (dC, dI)) (ci := 10) (v := .ref ((a 115))) (C := rn_Design) (T := fn_Design) (N := 16) hx hb hg in_Design hown hK hP 13 rfl rfl 1 (by decide) (hg _ wn_2_238) (fun _ h9 => h9) rfl dn_Design_addPiece_30 ?_
    refine va_get (D := (dC, dI)) (ci := 12) (v := .int ((s.1 387 0))) (C := rn_Code) (T := fn_Code) (N := 5) hx hb hg in_Code hown hK hP 15 rfl rfl 1 (by decide) (hg _ wn_2_212) (fun _ h9 => h9) rfl dn_Design_addPiece_33 ?_
    obtain ⟨hg_2, hf⟩ := dc_g hf
    refine va_iast hx hb hK hP hD hS 93 0 rfl rfl hg_2 dn_Design_addPiece_36 (fun H locs hP hD hS => ?_)
    have hP : va_P (dC, dI) xcl ((wC a v cI cB cJ cZ cQ (upI s 368 (upd (s.1 368) (Int32.toNatClampNeg ((s.1 367 0))) v2))).set 93 ((a 369), .inl (cI, 6554, .inl (upd (s.1 369) (Int32.toNatClampNeg ((s.1 367 0))) ((s.1 387 0)))))) H := hP
    have hD : va_D A ((wC a v cI cB cJ cZ cQ (upI s 368 (upd (s.1 368) (Int32.toNatClampNeg ((s.1 367 0))) v2))).set 93 ((a 369), .inl (cI, 6554, .inl (upd (s.1 369) (Int32.toNatClampNeg ((s.1 367 0))) ((s.1 387 0)))))) := hD
    have hP := wC_P_369 hP
    have hD := wC_D_369 hD
    refine lv_aload_n hx hb dn_Design_addPiece_37 rfl (lv_at hl 0 rfl) ?_
    refine va_get (D := (dC, dI)) (ci := 10) (v := .ref ((a 370))) (C := rn_Design) (T := fn_Design) (N := 16) hx hb hg in_Design hown hK hP 13 rfl rfl 15 (by decide) (hg _ wn_3_26) (fun _ h9 => h9) rfl dn_Design_addPiece_38 ?_
    refine lv_aload_n hx hb dn_Design_addPiece_41 rfl (lv_at hl 0 rfl) ?_
    refine va_get (D := (dC, dI)) (ci := 10) (v := .int ((s.1 367 0))) (C := rn_Design) (T := fn_Design) (N := 16) hx hb hg in_Design hown hK hP 13 rfl rfl 12 (by decide) (hg _ wn_3_21) (fun _ h9 => h9) rfl dn_Design_addPiece_42 ?_
    refine lv_iload_n hx hb dn_Design_addPiece_45 rfl (lv_at hl 1 rfl) ?_
    refine lv_if_eq (tgt := 53) hx hb dn_Design_addPiece_46 (by decide) (fun h => ?_) (fun h => ?_)
    · have hf := (if_pos h).symm.trans hf
      refine lv_iconst (v := 0) hx hb dn_Design_addPiece_53 (by decide) ?_
      exact bl_54 0 ((s.1 367 0)) (upI (upI s 368 (upd (s.1 368) (Int32.toNatClampNeg ((s.1 367 0))) v2)) 369 (upd (s.1 369) (Int32.toNatClampNeg ((s.1 367 0))) ((s.1 387 0)))) hf H locs ls hP hD hS (lv_sub hl [0] rfl)
    · have hf := (if_neg h).symm.trans hf
      refine lv_iconst (v := 1) hx hb dn_Design_addPiece_49 (by decide) ?_
      refine lv_goto (tgt := 54) hx hb dn_Design_addPiece_50 (by decide) ?_
      exact bl_54 1 ((s.1 367 0)) (upI (upI s 368 (upd (s.1 368) (Int32.toNatClampNeg ((s.1 367 0))) v2)) 369 (upd (s.1 369) (Int32.toNatClampNeg ((s.1 367 0))) ((s.1 387 0)))) hf H locs ls hP hD hS (lv_sub hl [0] rfl)
  · have hf := (if_neg h).symm.trans hf
    rw [hQQ, ← Option.some.inj hf]
    exact xk_vret (w1 := fun u : Unit => (wC a v cI cB cJ cZ cQ s)) () hx hb hr hlocks hK hS dn_Design_addPiece_10 hP hD trivial (Nat.le_refl _) (Nat.le_refl _)
set_option maxHeartbeats 8000000 in
set_option maxRecDepth 100000 in
theorem ct_Code_emit_Kc (l : Launch) (dC : Nat → ClassId) (dI : Nat → Nat → Nat) (cI cB cJ cZ cQ : ClassId) (N sz : Nat) (a : Nat → Nat) (v : Nat → Value) (v1 : Int32) (v2 : Int32) (s : ms) (y : (Int32 × ms)) (hf : fn_Code_emit_Kc N v1 v2 s = some y) : Met l yn_Code_emit (xw yn_Code_emit bn_Code_emit 3 (some .int)) ({ frames := 0, cells := 0, slots := 0, locals := 0 }) (dc_P (dC, dI) xcl (xt cI cB cJ cZ cQ) [.ref ((a 115)), .int v1, .int v2] sz (wC a v cI cB cJ cZ cQ s)) (xk_Qi (dC, dI) xcl (xt cI cB cJ cZ cQ) (fun (r : Int32) (_ : Unit) => r = y.1) (fun u : Unit => (wC a v cI cB cJ cZ cQ y.2)) (va_A (wC a v cI cB cJ cZ cQ s) sz)) 0 0 (va_A (wC a v cI cB cJ cZ cQ s) sz) := by
  refine dc_of (QA := xk_Qi (dC, dI) xcl (xt cI cB cJ cZ cQ) (fun (r : Int32) (_ : Unit) => r = y.1) (fun u : Unit => (wC a v cI cB cJ cZ cQ y.2))) (by decide) (Nat.le_of_ble_eq_true rfl) ?_
  intro p e s0 m below meth c hx hb hml hown hg hr hlocks hin hP hK hN A hA hD hT ls hl
  have hown : s0.vm.findClass rn_Code = some m.cls := hown
  obtain ⟨H, hH⟩ : ∃ z, z = s0.heap := ⟨_, rfl⟩
  rw [← hH] at hP
  have hS : va_S A s0.heap H [] := by rw [hH]; exact va_S.rf
  suffices kk : ∀ QQ : State → Prop, QQ = MQ below (xk_Qi (dC, dI) xcl (xt cI cB cJ cZ cQ) (fun (r : Int32) (_ : Unit) => r = y.1) (fun u : Unit => (wC a v cI cB cJ cZ cQ y.2)) A) [.ref ((a 115)), .int v1, .int v2].toArray s0 0 0 A → dcC p l e ({ frames := 0, cells := 0, slots := 0, locals := 0 }) s0 m [.ref ((a 115)), .int v1, .int v2].toArray below meth c QQ (dC, dI) A (wC a v cI cB cJ cZ cQ s) 0 3 [(0, .ref ((a 115))), (1, .int v1), (2, .int v2)] [] by
    have k9 := kk _ rfl H [] ls hP hD hS hl
    rw [hH] at k9; exact k9
  clear hP hD hS hl hH H ls
  intro QQ hQQ
  intro H locs ls hP hD hS hl
  unfold fn_Code_emit_Kc at hf
  refine lv_aload_n hx hb dn_Code_emit_0 rfl (lv_at hl 0 rfl) ?_
  refine va_get (D := (dC, dI)) (ci := 12) (v := .int ((s.1 387 0))) (C := rn_Code) (T := fn_Code) (N := 5) hx hb hg in_Code hown hK hP 15 rfl rfl 1 (by decide) (hg _ wn_2_211) (fun _ h9 => h9) rfl dn_Code_emit_1 ?_
  refine lv_ldc hx hb hown (hg _ wn_2_209) dn_Code_emit_4 ?_
  refine lv_icmp_lt (tgt := 11) hx hb dn_Code_emit_6 (by decide) (fun h => ?_) (fun h => ?_)
  · have hf := (if_pos h).symm.trans hf
    refine lv_aload_n hx hb dn_Code_emit_11 rfl (lv_at hl 0 rfl) ?_
    refine va_get (D := (dC, dI)) (ci := 12) (v := .ref ((a 386))) (C := rn_Code) (T := fn_Code) (N := 5) hx hb hg in_Code hown hK hP 15 rfl rfl 0 (by decide) (hg _ wn_2_210) (fun _ h9 => h9) rfl dn_Code_emit_12 ?_
    refine lv_aload_n hx hb dn_Code_emit_15 rfl (lv_at hl 0 rfl) ?_
    refine va_get (D := (dC, dI)) (ci := 12) (v := .int ((s.1 387 0))) (C := rn_Code) (T := fn_Code) (N := 5) hx hb hg in_Code hown hK hP 15 rfl rfl 1 (by decide) (hg _ wn_2_211) (fun _ h9 => h9) rfl dn_Code_emit_16 ?_
    refine lv_iload_n hx hb dn_Code_emit_19 rfl (lv_at hl 1 rfl) ?_
    refine lv_i2l (v := Int32.toInt64 v1) hx hb dn_Code_emit_20 rfl ?_
    refine lv_bipush (v := 32) hx hb dn_Code_emit_21 (by decide) ?_
    refine lv_lshl (v := ((Int32.toInt64 v1) : Int64) <<< ((Int32.toInt64 32) &&& 63)) hx hb dn_Code_emit_23 rfl ?_
    refine lv_iload_n hx hb dn_Code_emit_24 rfl (lv_at hl 2 rfl) ?_
    refine lv_i2l (v := Int32.toInt64 v2) hx hb dn_Code_emit_25 rfl ?_
    refine lv_ldc2 hx hb hown (hg _ wn_5_201) dn_Code_emit_26 ?_
    refine lv_land hx hb dn_Code_emit_29 ?_
    refine lv_lor hx hb dn_Code_emit_30 ?_
    obtain ⟨hg_1, hf⟩ := dc_g hf
    refine va_last hx hb hK hP hD hS 107 2 rfl rfl hg_1 dn_Code_emit_31 (fun H locs hP hD hS => ?_)
    have hP : va_P (dC, dI) xcl ((wC a v cI cB cJ cZ cQ s).set 107 ((a 386), .inl (cJ, 65537, .inr (.inl (vp_updL (s.2 386) (Int32.toNatClampNeg ((s.1 387 0))) (((((Int32.toInt64 v1) : Int64) <<< ((Int32.toInt64 32) &&& 63)) ||| ((Int32.toInt64 v2) &&& 4294967295)))))))) H := hP
    have hD : va_D A ((wC a v cI cB cJ cZ cQ s).set 107 ((a 386), .inl (cJ, 65537, .inr (.inl (vp_updL (s.2 386) (Int32.toNatClampNeg ((s.1 387 0))) (((((Int32.toInt64 v1) : Int64) <<< ((Int32.toInt64 32) &&& 63)) ||| ((Int32.toInt64 v2) &&& 4294967295)))))))) := hD
    have hP := wC_P_386 hP
    have hD := wC_D_386 hD
    refine lv_aload_n hx hb dn_Code_emit_32 rfl (lv_at hl 0 rfl) ?_
    refine lv_dup hx hb dn_Code_emit_33 rfl ?_
    refine va_get (D := (dC, dI)) (ci := 12) (v := .int ((s.1 387 0))) (C := rn_Code) (T := fn_Code) (N := 5) hx hb hg in_Code hown hK hP 15 rfl rfl 1 (by decide) (hg _ wn_2_211) (fun _ h9 => h9) rfl dn_Code_emit_34 ?_
    refine lv_iconst (v := 1) hx hb dn_Code_emit_37 (by decide) ?_
    refine lv_iadd hx hb dn_Code_emit_38 ?_
    refine va_put (D := (dC, dI)) (ci := 12) (v := .int (((s.1 387 0) + 1))) (ty := .int) (C := rn_Code) (T := fn_Code) (N := 5) hx hb hg in_Code tn_Code tk_Code nn_Code hown hK hP hD hS 15 rfl rfl 1 (by decide) (hg _ wn_2_211) (fun _ h9 => h9) rfl (tk_Code 1 (by decide)) rfl rfl (Nat.le_of_ble_eq_true rfl) dn_Code_emit_39 (fun H locs hP hD hS => ?_)
    have hP := wC_P_387 hP
    have hD := wC_D_387 hD
    refine lv_aload_n hx hb dn_Code_emit_42 rfl (lv_at hl 0 rfl) ?_
    refine va_get (D := (dC, dI)) (ci := 12) (v := .int (((s.1 387 0) + 1))) (C := rn_Code) (T := fn_Code) (N := 5) hx hb hg in_Code hown hK hP 15 rfl rfl 1 (by decide) (hg _ wn_2_211) (fun _ h9 => h9) rfl dn_Code_emit_43 ?_
    refine lv_iconst (v := 1) hx hb dn_Code_emit_46 (by decide) ?_
    refine lv_isub hx hb dn_Code_emit_47 ?_
    rw [hQQ, ← Option.some.inj hf]
    exact xk_iret (w1 := fun u : Unit => (wC a v cI cB cJ cZ cQ (upI (upJ s 386 (vp_updL (s.2 386) (Int32.toNatClampNeg ((s.1 387 0))) (((((Int32.toInt64 v1) : Int64) <<< ((Int32.toInt64 32) &&& 63)) ||| ((Int32.toInt64 v2) &&& 4294967295))))) 387 (fun _ => ((s.1 387 0) + 1))))) () hx hb hr hlocks hK hS dn_Code_emit_48 hP hD rfl (Nat.le_refl _) (Nat.le_refl _)
  · have hf := (if_neg h).symm.trans hf
    refine lv_iconst (v := (-1)) hx hb dn_Code_emit_9 (by decide) ?_
    rw [hQQ, ← Option.some.inj hf]
    exact xk_iret (w1 := fun u : Unit => (wC a v cI cB cJ cZ cQ s)) () hx hb hr hlocks hK hS dn_Code_emit_10 hP hD rfl (Nat.le_refl _) (Nat.le_refl _)
set_option maxHeartbeats 8000000 in
set_option maxRecDepth 100000 in
theorem ct_Code_aim_Kc (l : Launch) (dC : Nat → ClassId) (dI : Nat → Nat → Nat) (cI cB cJ cZ cQ : ClassId) (N sz : Nat) (a : Nat → Nat) (v : Nat → Value) (v1 : Int32) (s : ms) (y : (Unit × ms)) (hf : fn_Code_aim_Kc N v1 s = some y) : Met l yn_Code_aim (xw yn_Code_aim bn_Code_aim 2 none) ({ frames := 0, cells := 0, slots := 0, locals := 0 }) (dc_P (dC, dI) xcl (xt cI cB cJ cZ cQ) [.ref ((a 115)), .int v1] sz (wC a v cI cB cJ cZ cQ s)) (xk_Qv (dC, dI) xcl (xt cI cB cJ cZ cQ) (fun _ : Unit => True) (fun u : Unit => (wC a v cI cB cJ cZ cQ y.2)) (va_A (wC a v cI cB cJ cZ cQ s) sz)) 0 0 (va_A (wC a v cI cB cJ cZ cQ s) sz) := by
  refine dc_of (QA := xk_Qv (dC, dI) xcl (xt cI cB cJ cZ cQ) (fun _ : Unit => True) (fun u : Unit => (wC a v cI cB cJ cZ cQ y.2))) (by decide) (Nat.le_of_ble_eq_true rfl) ?_
  intro p e s0 m below meth c hx hb hml hown hg hr hlocks hin hP hK hN A hA hD hT ls hl
  have hown : s0.vm.findClass rn_Code = some m.cls := hown
  obtain ⟨H, hH⟩ : ∃ z, z = s0.heap := ⟨_, rfl⟩
  rw [← hH] at hP
  have hS : va_S A s0.heap H [] := by rw [hH]; exact va_S.rf
  suffices kk : ∀ QQ : State → Prop, QQ = MQ below (xk_Qv (dC, dI) xcl (xt cI cB cJ cZ cQ) (fun _ : Unit => True) (fun u : Unit => (wC a v cI cB cJ cZ cQ y.2)) A) [.ref ((a 115)), .int v1].toArray s0 0 0 A → dcC p l e ({ frames := 0, cells := 0, slots := 0, locals := 0 }) s0 m [.ref ((a 115)), .int v1].toArray below meth c QQ (dC, dI) A (wC a v cI cB cJ cZ cQ s) 0 2 [(0, .ref ((a 115))), (1, .int v1)] [] by
    have k9 := kk _ rfl H [] ls hP hD hS hl
    rw [hH] at k9; exact k9
  clear hP hD hS hl hH H ls
  intro QQ hQQ
  intro H locs ls hP hD hS hl
  unfold fn_Code_aim_Kc at hf
  refine lv_iload_n hx hb dn_Code_aim_0 rfl (lv_at hl 1 rfl) ?_
  refine lv_if_lt (tgt := 34) hx hb dn_Code_aim_1 (by decide) (fun h => ?_) (fun h => ?_)
  · have hf := (if_pos h).symm.trans hf
    rw [hQQ, ← Option.some.inj hf]
    exact xk_vret (w1 := fun u : Unit => (wC a v cI cB cJ cZ cQ s)) () hx hb hr hlocks hK hS dn_Code_aim_34 hP hD trivial (Nat.le_refl _) (Nat.le_refl _)
  · have hf := (if_neg h).symm.trans hf
    refine lv_iload_n hx hb dn_Code_aim_4 rfl (lv_at hl 1 rfl) ?_
    refine lv_aload_n hx hb dn_Code_aim_5 rfl (lv_at hl 0 rfl) ?_
    refine va_get (D := (dC, dI)) (ci := 12) (v := .int ((s.1 387 0))) (C := rn_Code) (T := fn_Code) (N := 5) hx hb hg in_Code hown hK hP 15 rfl rfl 1 (by decide) (hg _ wn_2_211) (fun _ h9 => h9) rfl dn_Code_aim_6 ?_
    refine lv_icmp_ge (tgt := 34) hx hb dn_Code_aim_9 (by decide) (fun h => ?_) (fun h => ?_)
    · have hf := (if_pos h).symm.trans hf
      rw [hQQ, ← Option.some.inj hf]
      exact xk_vret (w1 := fun u : Unit => (wC a v cI cB cJ cZ cQ s)) () hx hb hr hlocks hK hS dn_Code_aim_34 hP hD trivial (Nat.le_refl _) (Nat.le_refl _)
    · have hf := (if_neg h).symm.trans hf
      refine lv_aload_n hx hb dn_Code_aim_12 rfl (lv_at hl 0 rfl) ?_
      refine va_get (D := (dC, dI)) (ci := 12) (v := .ref ((a 386))) (C := rn_Code) (T := fn_Code) (N := 5) hx hb hg in_Code hown hK hP 15 rfl rfl 0 (by decide) (hg _ wn_2_210) (fun _ h9 => h9) rfl dn_Code_aim_13 ?_
      refine lv_iload_n hx hb dn_Code_aim_16 rfl (lv_at hl 1 rfl) ?_
      refine lv_aload_n hx hb dn_Code_aim_17 rfl (lv_at hl 0 rfl) ?_
      refine va_get (D := (dC, dI)) (ci := 12) (v := .ref ((a 386))) (C := rn_Code) (T := fn_Code) (N := 5) hx hb hg in_Code hown hK hP 15 rfl rfl 0 (by decide) (hg _ wn_2_210) (fun _ h9 => h9) rfl dn_Code_aim_18 ?_
      refine lv_iload_n hx hb dn_Code_aim_21 rfl (lv_at hl 1 rfl) ?_
      obtain ⟨hg_1, hf⟩ := dc_g hf
      refine va_lald hx hb hK hP 107 2 rfl rfl hg_1 dn_Code_aim_22 ?_
      refine xk_tl (y := ((s.2 386) (Int32.toNatClampNeg v1))) rfl ?_
      refine lv_ldc2 hx hb hown (hg _ wn_5_206) dn_Code_aim_23 ?_
      refine lv_land hx hb dn_Code_aim_26 ?_
      refine lv_aload_n hx hb dn_Code_aim_27 rfl (lv_at hl 0 rfl) ?_
      refine va_get (D := (dC, dI)) (ci := 12) (v := .int ((s.1 387 0))) (C := rn_Code) (T := fn_Code) (N := 5) hx hb hg in_Code hown hK hP 15 rfl rfl 1 (by decide) (hg _ wn_2_211) (fun _ h9 => h9) rfl dn_Code_aim_28 ?_
      refine lv_i2l (v := Int32.toInt64 ((s.1 387 0))) hx hb dn_Code_aim_31 rfl ?_
      refine lv_lor hx hb dn_Code_aim_32 ?_
      obtain ⟨hg_2, hf⟩ := dc_g hf
      refine va_last hx hb hK hP hD hS 107 2 rfl rfl hg_2 dn_Code_aim_33 (fun H locs hP hD hS => ?_)
      have hP : va_P (dC, dI) xcl ((wC a v cI cB cJ cZ cQ s).set 107 ((a 386), .inl (cJ, 65537, .inr (.inl (vp_updL (s.2 386) (Int32.toNatClampNeg v1) (((((s.2 386) (Int32.toNatClampNeg v1)) &&& (-4294967296)) ||| (Int32.toInt64 ((s.1 387 0)))))))))) H := hP
      have hD : va_D A ((wC a v cI cB cJ cZ cQ s).set 107 ((a 386), .inl (cJ, 65537, .inr (.inl (vp_updL (s.2 386) (Int32.toNatClampNeg v1) (((((s.2 386) (Int32.toNatClampNeg v1)) &&& (-4294967296)) ||| (Int32.toInt64 ((s.1 387 0)))))))))) := hD
      have hP := wC_P_386 hP
      have hD := wC_D_386 hD
      rw [hQQ, ← Option.some.inj hf]
      exact xk_vret (w1 := fun u : Unit => (wC a v cI cB cJ cZ cQ (upJ s 386 (vp_updL (s.2 386) (Int32.toNatClampNeg v1) (((((s.2 386) (Int32.toNatClampNeg v1)) &&& (-4294967296)) ||| (Int32.toInt64 ((s.1 387 0))))))))) () hx hb hr hlocks hK hS dn_Code_aim_34 hP hD trivial (Nat.le_refl _) (Nat.le_refl _)
set_option maxHeartbeats 8000000 in
set_option maxRecDepth 100000 in
theorem ct_Code_argAt_Kc (l : Launch) (dC : Nat → ClassId) (dI : Nat → Nat → Nat) (cI cB cJ cZ cQ : ClassId) (N sz : Nat) (a : Nat → Nat) (v : Nat → Value) (v1 : Int32) (s : ms) (y : (Int32 × ms)) (hf : fn_Code_argAt_Kc N v1 s = some y) : Met l yn_Code_argAt (xw yn_Code_argAt bn_Code_argAt 2 (some .int)) ({ frames := 0, cells := 0, slots := 0, locals := 0 }) (dc_P (dC, dI) xcl (xt cI cB cJ cZ cQ) [.ref ((a 115)), .int v1] sz (wC a v cI cB cJ cZ cQ s)) (xk_Qi (dC, dI) xcl (xt cI cB cJ cZ cQ) (fun (r : Int32) (_ : Unit) => r = y.1) (fun u : Unit => (wC a v cI cB cJ cZ cQ y.2)) (va_A (wC a v cI cB cJ cZ cQ s) sz)) 0 0 (va_A (wC a v cI cB cJ cZ cQ s) sz) := by
  refine dc_of (QA := xk_Qi (dC, dI) xcl (xt cI cB cJ cZ cQ) (fun (r : Int32) (_ : Unit) => r = y.1) (fun u : Unit => (wC a v cI cB cJ cZ cQ y.2))) (by decide) (Nat.le_of_ble_eq_true rfl) ?_
  intro p e s0 m below meth c hx hb hml hown hg hr hlocks hin hP hK hN A hA hD hT ls hl
  have hown : s0.vm.findClass rn_Code = some m.cls := hown
  obtain ⟨H, hH⟩ : ∃ z, z = s0.heap := ⟨_, rfl⟩
  rw [← hH] at hP
  have hS : va_S A s0.heap H [] := by rw [hH]; exact va_S.rf
  suffices kk : ∀ QQ : State → Prop, QQ = MQ below (xk_Qi (dC, dI) xcl (xt cI cB cJ cZ cQ) (fun (r : Int32) (_ : Unit) => r = y.1) (fun u : Unit => (wC a v cI cB cJ cZ cQ y.2)) A) [.ref ((a 115)), .int v1].toArray s0 0 0 A → dcC p l e ({ frames := 0, cells := 0, slots := 0, locals := 0 }) s0 m [.ref ((a 115)), .int v1].toArray below meth c QQ (dC, dI) A (wC a v cI cB cJ cZ cQ s) 0 2 [(0, .ref ((a 115))), (1, .int v1)] [] by
    have k9 := kk _ rfl H [] ls hP hD hS hl
    rw [hH] at k9; exact k9
  clear hP hD hS hl hH H ls
  intro QQ hQQ
  intro H locs ls hP hD hS hl
  unfold fn_Code_argAt_Kc at hf
  refine lv_iload_n hx hb dn_Code_argAt_0 rfl (lv_at hl 1 rfl) ?_
  refine lv_if_lt (tgt := 22) hx hb dn_Code_argAt_1 (by decide) (fun h => ?_) (fun h => ?_)
  · have hf := (if_pos h).symm.trans hf
    refine lv_iconst (v := (-1)) hx hb dn_Code_argAt_22 (by decide) ?_
    rw [hQQ, ← Option.some.inj hf]
    exact xk_iret (w1 := fun u : Unit => (wC a v cI cB cJ cZ cQ s)) () hx hb hr hlocks hK hS dn_Code_argAt_23 hP hD rfl (Nat.le_refl _) (Nat.le_refl _)
  · have hf := (if_neg h).symm.trans hf
    refine lv_iload_n hx hb dn_Code_argAt_4 rfl (lv_at hl 1 rfl) ?_
    refine lv_aload_n hx hb dn_Code_argAt_5 rfl (lv_at hl 0 rfl) ?_
    refine va_get (D := (dC, dI)) (ci := 12) (v := .int ((s.1 387 0))) (C := rn_Code) (T := fn_Code) (N := 5) hx hb hg in_Code hown hK hP 15 rfl rfl 1 (by decide) (hg _ wn_2_211) (fun _ h9 => h9) rfl dn_Code_argAt_6 ?_
    refine lv_icmp_ge (tgt := 22) hx hb dn_Code_argAt_9 (by decide) (fun h => ?_) (fun h => ?_)
    · have hf := (if_pos h).symm.trans hf
      refine lv_iconst (v := (-1)) hx hb dn_Code_argAt_22 (by decide) ?_
      rw [hQQ, ← Option.some.inj hf]
      exact xk_iret (w1 := fun u : Unit => (wC a v cI cB cJ cZ cQ s)) () hx hb hr hlocks hK hS dn_Code_argAt_23 hP hD rfl (Nat.le_refl _) (Nat.le_refl _)
    · have hf := (if_neg h).symm.trans hf
      refine lv_aload_n hx hb dn_Code_argAt_12 rfl (lv_at hl 0 rfl) ?_
      refine va_get (D := (dC, dI)) (ci := 12) (v := .ref ((a 386))) (C := rn_Code) (T := fn_Code) (N := 5) hx hb hg in_Code hown hK hP 15 rfl rfl 0 (by decide) (hg _ wn_2_210) (fun _ h9 => h9) rfl dn_Code_argAt_13 ?_
      refine lv_iload_n hx hb dn_Code_argAt_16 rfl (lv_at hl 1 rfl) ?_
      obtain ⟨hg_1, hf⟩ := dc_g hf
      refine va_lald hx hb hK hP 107 2 rfl rfl hg_1 dn_Code_argAt_17 ?_
      refine xk_tl (y := ((s.2 386) (Int32.toNatClampNeg v1))) rfl ?_
      refine lv_l2i (v := Int64.toInt32 (((s.2 386) (Int32.toNatClampNeg v1)))) hx hb dn_Code_argAt_18 rfl ?_
      refine lv_goto (tgt := 23) hx hb dn_Code_argAt_19 (by decide) ?_
      rw [hQQ, ← Option.some.inj hf]
      exact xk_iret (w1 := fun u : Unit => (wC a v cI cB cJ cZ cQ s)) () hx hb hr hlocks hK hS dn_Code_argAt_23 hP hD rfl (Nat.le_refl _) (Nat.le_refl _)
set_option maxHeartbeats 8000000 in
set_option maxRecDepth 100000 in
theorem ct_Code_aimAll_Kc (l : Launch) (dC : Nat → ClassId) (dI : Nat → Nat → Nat) (cI cB cJ cZ cQ : ClassId) (N sz : Nat) (a : Nat → Nat) (v : Nat → Value) (v1 : Int32) (s : ms) (y : (Unit × ms)) (hf : fn_Code_aimAll_Kc N v1 s = some y) : Met l yn_Code_aimAll (xw yn_Code_aimAll bn_Code_aimAll 5 none) ({ frames := 1, cells := 0, slots := 0, locals := 21 }) (dc_P (dC, dI) xcl (xt cI cB cJ cZ cQ) [.ref ((a 115)), .int v1] sz (wC a v cI cB cJ cZ cQ s)) (xk_Qv (dC, dI) xcl (xt cI cB cJ cZ cQ) (fun _ : Unit => True) (fun u : Unit => (wC a v cI cB cJ cZ cQ y.2)) (va_A (wC a v cI cB cJ cZ cQ s) sz)) 0 0 (va_A (wC a v cI cB cJ cZ cQ s) sz) := by
  refine dc_of (QA := xk_Qv (dC, dI) xcl (xt cI cB cJ cZ cQ) (fun _ : Unit => True) (fun u : Unit => (wC a v cI cB cJ cZ cQ y.2))) (by decide) (Nat.le_of_ble_eq_true rfl) ?_
  intro p e s0 m below meth c hx hb hml hown hg hr hlocks hin hP hK hN A hA hD hT ls hl
  have hown : s0.vm.findClass rn_Code = some m.cls := hown
  obtain ⟨H, hH⟩ : ∃ z, z = s0.heap := ⟨_, rfl⟩
  rw [← hH] at hP
  have hS : va_S A s0.heap H [] := by rw [hH]; exact va_S.rf
  suffices kk : ∀ QQ : State → Prop, QQ = MQ below (xk_Qv (dC, dI) xcl (xt cI cB cJ cZ cQ) (fun _ : Unit => True) (fun u : Unit => (wC a v cI cB cJ cZ cQ y.2)) A) [.ref ((a 115)), .int v1].toArray s0 0 0 A → dcC p l e ({ frames := 1, cells := 0, slots := 0, locals := 21 }) s0 m [.ref ((a 115)), .int v1].toArray below meth c QQ (dC, dI) A (wC a v cI cB cJ cZ cQ s) 0 5 [(0, .ref ((a 115))), (1, .int v1)] [] by
    have k9 := kk _ rfl H [] ls hP hD hS hl
    rw [hH] at k9; exact k9
  clear hP hD hS hl hH H ls
  intro QQ hQQ
  have hd_4 : ∀ (n : Nat) (x2 : Int32) (x3 : Int32) (s : ms), hd_Code_aimAll_Kc_4 N n x2 x3 s = some y → dcC p l e ({ frames := 1, cells := 0, slots := 0, locals := 21 }) s0 m [.ref ((a 115)), .int v1].toArray below meth c QQ (dC, dI) A (wC a v cI cB cJ cZ cQ s) 4 5 [(0, .ref ((a 115))), (2, .int x2), (3, .int x3)] [] := by
    intro n
    induction n with
    | zero => intro x2 x3 s hf; cases hf
    | succ n ih =>
      intro x2 x3 s hf H locs ls hP hD hS hl
      have hf : bd_Code_aimAll_Kc_4 N (hd_Code_aimAll_Kc_4 N n) x2 x3 s = some y := hf
      have hk_4 := ih
      generalize hd_Code_aimAll_Kc_4 N n = k_4 at hf hk_4
      unfold bd_Code_aimAll_Kc_4 at hf
      refine lv_iload_n hx hb dn_Code_aimAll_4 rfl (lv_at hl 2 rfl) ?_
      refine lv_aload_n hx hb dn_Code_aimAll_5 rfl (lv_at hl 0 rfl) ?_
      refine va_get (D := (dC, dI)) (ci := 12) (v := .int ((s.1 387 0))) (C := rn_Code) (T := fn_Code) (N := 5) hx hb hg in_Code hown hK hP 15 rfl rfl 1 (by decide) (hg _ wn_2_211) (fun _ h9 => h9) rfl dn_Code_aimAll_6 ?_
      refine lv_icmp_ge (tgt := 45) hx hb dn_Code_aimAll_9 (by decide) (fun h => ?_) (fun h => ?_)
      · have hf := (if_pos h).symm.trans hf
        rw [hQQ, ← Option.some.inj hf]
        exact xk_vret (w1 := fun u : Unit => (wC a v cI cB cJ cZ cQ s)) () hx hb hr hlocks hK hS dn_Code_aimAll_45 hP hD trivial (Nat.le_refl _) (Nat.le_refl _)
      · have hf := (if_neg h).symm.trans hf
        refine lv_iload_n hx hb dn_Code_aimAll_12 rfl (lv_at hl 1 rfl) ?_
        refine lv_if_lt (tgt := 45) hx hb dn_Code_aimAll_13 (by decide) (fun h => ?_) (fun h => ?_)
        · have hf := (if_pos h).symm.trans hf
          rw [hQQ, ← Option.some.inj hf]
          exact xk_vret (w1 := fun u : Unit => (wC a v cI cB cJ cZ cQ s)) () hx hb hr hlocks hK hS dn_Code_aimAll_45 hP hD trivial (Nat.le_refl _) (Nat.le_refl _)
        · have hf := (if_neg h).symm.trans hf
          refine lv_iload_n hx hb dn_Code_aimAll_16 rfl (lv_at hl 1 rfl) ?_
          refine lv_aload_n hx hb dn_Code_aimAll_17 rfl (lv_at hl 0 rfl) ?_
          refine va_get (D := (dC, dI)) (ci := 12) (v := .int ((s.1 387 0))) (C := rn_Code) (T := fn_Code) (N := 5) hx hb hg in_Code hown hK hP 15 rfl rfl 1 (by decide) (hg _ wn_2_211) (fun _ h9 => h9) rfl dn_Code_aimAll_18 ?_
          refine lv_icmp_ge (tgt := 45) hx hb dn_Code_aimAll_21 (by decide) (fun h => ?_) (fun h => ?_)
          · have hf := (if_pos h).symm.trans hf
            rw [hQQ, ← Option.some.inj hf]
            exact xk_vret (w1 := fun u : Unit => (wC a v cI cB cJ cZ cQ s)) () hx hb hr hlocks hK hS dn_Code_aimAll_45 hP hD trivial (Nat.le_refl _) (Nat.le_refl _)
          · have hf := (if_neg h).symm.trans hf
            refine lv_aload_n hx hb dn_Code_aimAll_24 rfl (lv_at hl 0 rfl) ?_
            refine lv_iload_n hx hb dn_Code_aimAll_25 rfl (lv_at hl 1 rfl) ?_
            obtain ⟨q_1, hc_2, hf⟩ := dc_b hf
            refine dc_calli (dc_runV (ar := 1) (As := [.int x2]) (rest := []) (ci := 12) (q0 := 15) ⟨hx, hb, hml, hown, hg⟩ hK hN hT hS hA (ct_Code_argAt_Kc l dC dI cI cB cJ cZ cQ N H.size a v x2 s q_1 hc_2) hP hD rfl rfl wn_6_0 wn_6_1 wn_6_2 wn_1_12 wn_6_3 rfl rfl (by decide +kernel) ⟨Nat.le_of_ble_eq_true rfl, Nat.le_of_ble_eq_true rfl⟩ rfl hl.1 rfl (Nat.le_of_ble_eq_true rfl) dn_Code_aimAll_26 ⟨Nat.le_of_ble_eq_true rfl, Nat.le_of_ble_eq_true rfl⟩) hP hD hS hA (fun r_3 _ H locs hw hP hD hS => ?_)
            have hw : r_3 = q_1.1 := hw
            subst hw
            refine lv_istore (lv' := [(4, .int q_1.1), (0, .ref ((a 115))), (2, .int x2), (3, .int x3)]) hx hb dn_Code_aimAll_29 hl (by decide) rfl (fun ls hl => ?_)
            refine lv_aload_n hx hb dn_Code_aimAll_31 rfl (lv_at hl 1 rfl) ?_
            refine lv_iload_n hx hb dn_Code_aimAll_32 rfl (lv_at hl 2 rfl) ?_
            obtain ⟨q_4, hc_5, hf⟩ := dc_b hf
            refine dc_callv (dc_runV (ar := 1) (As := [.int x2]) (rest := []) (ci := 12) (q0 := 15) ⟨hx, hb, hml, hown, hg⟩ hK hN hT hS hA (ct_Code_aim_Kc l dC dI cI cB cJ cZ cQ N H.size a v x2 q_1.2 q_4 hc_5) hP hD rfl rfl wn_6_4 wn_5_203 wn_5_204 wn_1_12 wn_5_205 rfl rfl (by decide +kernel) ⟨Nat.le_of_ble_eq_true rfl, Nat.le_of_ble_eq_true rfl⟩ rfl hl.1 rfl (Nat.le_of_ble_eq_true rfl) dn_Code_aimAll_33 ⟨Nat.le_of_ble_eq_true rfl, Nat.le_of_ble_eq_true rfl⟩) hP hD hS hA (fun _ H locs hw hP hD hS => ?_)
            refine lv_iload hx hb dn_Code_aimAll_36 (lv_at hl 0 rfl) ?_
            refine lv_istore_n (lv' := [(2, .int q_1.1), (4, .int q_1.1), (0, .ref ((a 115))), (3, .int x3)]) hx hb dn_Code_aimAll_38 rfl hl (by decide) rfl (fun ls hl => ?_)
            refine lv_iinc (v := (x3 + 1)) (lv' := [(3, .int ((x3 + 1))), (2, .int q_1.1), (4, .int q_1.1), (0, .ref ((a 115)))]) hx hb dn_Code_aimAll_39 hl (k := 3) rfl (dc_inc (by decide)) (by decide) rfl (fun ls hl => ?_)
            refine lv_goto (tgt := 4) hx hb dn_Code_aimAll_42 (by decide) ?_
            exact hk_4 q_1.1 ((x3 + 1)) q_4.2 hf H locs ls hP hD hS (lv_sub hl [3, 1, 0] rfl)
  intro H locs ls hP hD hS hl
  unfold fn_Code_aimAll_Kc at hf
  refine lv_iload_n hx hb dn_Code_aimAll_0 rfl (lv_at hl 1 rfl) ?_
  refine lv_istore_n (lv' := [(2, .int v1), (0, .ref ((a 115))), (1, .int v1)]) hx hb dn_Code_aimAll_1 rfl hl (by decide) rfl (fun ls hl => ?_)
  refine lv_iconst (v := 0) hx hb dn_Code_aimAll_2 (by decide) ?_
  refine lv_istore_n (lv' := [(3, .int 0), (2, .int v1), (0, .ref ((a 115))), (1, .int v1)]) hx hb dn_Code_aimAll_3 rfl hl (by decide) rfl (fun ls hl => ?_)
  exact hd_4 N v1 0 s hf H locs ls hP hD hS (lv_sub hl [2, 1, 0] rfl)
set_option maxHeartbeats 8000000 in
set_option maxRecDepth 100000 in
theorem ct_Checker_push_Ch (l : Launch) (dC : Nat → ClassId) (dI : Nat → Nat → Nat) (cI cB cJ cZ cQ : ClassId) (N sz : Nat) (a : Nat → Nat) (v : Nat → Value) (v1 : Int32) (s : ms) (y : (Unit × ms)) (hf : fn_Checker_push_Ch N v1 s = some y) : Met l yn_Checker_push (xw yn_Checker_push bn_Checker_push 2 none) ({ frames := 0, cells := 0, slots := 0, locals := 0 }) (dc_P (dC, dI) xcl (xt cI cB cJ cZ cQ) [.ref ((a 103)), .int v1] sz (wC a v cI cB cJ cZ cQ s)) (xk_Qv (dC, dI) xcl (xt cI cB cJ cZ cQ) (fun _ : Unit => True) (fun u : Unit => (wC a v cI cB cJ cZ cQ y.2)) (va_A (wC a v cI cB cJ cZ cQ s) sz)) 0 0 (va_A (wC a v cI cB cJ cZ cQ s) sz) := by
  refine dc_of (QA := xk_Qv (dC, dI) xcl (xt cI cB cJ cZ cQ) (fun _ : Unit => True) (fun u : Unit => (wC a v cI cB cJ cZ cQ y.2))) (by decide) (Nat.le_of_ble_eq_true rfl) ?_
  intro p e s0 m below meth c hx hb hml hown hg hr hlocks hin hP hK hN A hA hD hT ls hl
  have hown : s0.vm.findClass rn_Checker = some m.cls := hown
  obtain ⟨H, hH⟩ : ∃ z, z = s0.heap := ⟨_, rfl⟩
  rw [← hH] at hP
  have hS : va_S A s0.heap H [] := by rw [hH]; exact va_S.rf
  suffices kk : ∀ QQ : State → Prop, QQ = MQ below (xk_Qv (dC, dI) xcl (xt cI cB cJ cZ cQ) (fun _ : Unit => True) (fun u : Unit => (wC a v cI cB cJ cZ cQ y.2)) A) [.ref ((a 103)), .int v1].toArray s0 0 0 A → dcC p l e ({ frames := 0, cells := 0, slots := 0, locals := 0 }) s0 m [.ref ((a 103)), .int v1].toArray below meth c QQ (dC, dI) A (wC a v cI cB cJ cZ cQ s) 0 2 [(0, .ref ((a 103))), (1, .int v1)] [] by
    have k9 := kk _ rfl H [] ls hP hD hS hl
    rw [hH] at k9; exact k9
  clear hP hD hS hl hH H ls
  intro QQ hQQ
  intro H locs ls hP hD hS hl
  unfold fn_Checker_push_Ch at hf
  refine lv_aload_n hx hb dn_Checker_push_0 rfl (lv_at hl 0 rfl) ?_
  refine va_get (D := (dC, dI)) (ci := 4) (v := .int ((s.1 239 0))) (C := rn_Checker) (T := fn_Checker) (N := 15) hx hb hg in_Checker hown hK hP 3 rfl rfl 10 (by decide) (hg _ wn_1_136) (fun _ h9 => h9) rfl dn_Checker_push_1 ?_
  refine lv_aload_n hx hb dn_Checker_push_4 rfl (lv_at hl 0 rfl) ?_
  refine va_get (D := (dC, dI)) (ci := 4) (v := .ref ((a 238))) (C := rn_Checker) (T := fn_Checker) (N := 15) hx hb hg in_Checker hown hK hP 3 rfl rfl 9 (by decide) (hg _ wn_1_135) (fun _ h9 => h9) rfl dn_Checker_push_5 ?_
  refine va_alen (v := 1024) hx hb hK hP 25 0 rfl rfl rfl dn_Checker_push_8 ?_
  refine lv_icmp_lt (tgt := 13) hx hb dn_Checker_push_9 (by decide) (fun h => ?_) (fun h => ?_)
  · have hf := (if_pos h).symm.trans hf
    refine lv_aload_n hx hb dn_Checker_push_13 rfl (lv_at hl 0 rfl) ?_
    refine va_get (D := (dC, dI)) (ci := 4) (v := .ref ((a 238))) (C := rn_Checker) (T := fn_Checker) (N := 15) hx hb hg in_Checker hown hK hP 3 rfl rfl 9 (by decide) (hg _ wn_1_135) (fun _ h9 => h9) rfl dn_Checker_push_14 ?_
    refine lv_aload_n hx hb dn_Checker_push_17 rfl (lv_at hl 0 rfl) ?_
    refine va_get (D := (dC, dI)) (ci := 4) (v := .int ((s.1 239 0))) (C := rn_Checker) (T := fn_Checker) (N := 15) hx hb hg in_Checker hown hK hP 3 rfl rfl 10 (by decide) (hg _ wn_1_136) (fun _ h9 => h9) rfl dn_Checker_push_18 ?_
    refine lv_iload_n hx hb dn_Checker_push_21 rfl (lv_at hl 1 rfl) ?_
    obtain ⟨hg_1, hf⟩ := dc_g hf
    refine va_iast hx hb hK hP hD hS 25 0 rfl rfl hg_1 dn_Checker_push_22 (fun H locs hP hD hS => ?_)
    have hP : va_P (dC, dI) xcl ((wC a v cI cB cJ cZ cQ s).set 25 ((a 238), .inl (cI, 1024, .inl (upd (s.1 238) (Int32.toNatClampNeg ((s.1 239 0))) v1)))) H := hP
    have hD : va_D A ((wC a v cI cB cJ cZ cQ s).set 25 ((a 238), .inl (cI, 1024, .inl (upd (s.1 238) (Int32.toNatClampNeg ((s.1 239 0))) v1)))) := hD
    have hP := wC_P_238 hP
    have hD := wC_D_238 hD
    refine lv_aload_n hx hb dn_Checker_push_23 rfl (lv_at hl 0 rfl) ?_
    refine lv_dup hx hb dn_Checker_push_24 rfl ?_
    refine va_get (D := (dC, dI)) (ci := 4) (v := .int ((s.1 239 0))) (C := rn_Checker) (T := fn_Checker) (N := 15) hx hb hg in_Checker hown hK hP 3 rfl rfl 10 (by decide) (hg _ wn_1_136) (fun _ h9 => h9) rfl dn_Checker_push_25 ?_
    refine lv_iconst (v := 1) hx hb dn_Checker_push_28 (by decide) ?_
    refine lv_iadd hx hb dn_Checker_push_29 ?_
    refine va_put (D := (dC, dI)) (ci := 4) (v := .int (((s.1 239 0) + 1))) (ty := .int) (C := rn_Checker) (T := fn_Checker) (N := 15) hx hb hg in_Checker tn_Checker tk_Checker nn_Checker hown hK hP hD hS 3 rfl rfl 10 (by decide) (hg _ wn_1_136) (fun _ h9 => h9) rfl (tk_Checker 10 (by decide)) rfl rfl (Nat.le_of_ble_eq_true rfl) dn_Checker_push_30 (fun H locs hP hD hS => ?_)
    have hP := wC_P_239 hP
    have hD := wC_D_239 hD
    rw [hQQ, ← Option.some.inj hf]
    exact xk_vret (w1 := fun u : Unit => (wC a v cI cB cJ cZ cQ (upI (upI s 238 (upd (s.1 238) (Int32.toNatClampNeg ((s.1 239 0))) v1)) 239 (fun _ => ((s.1 239 0) + 1))))) () hx hb hr hlocks hK hS dn_Checker_push_33 hP hD trivial (Nat.le_refl _) (Nat.le_refl _)
  · have hf := (if_neg h).symm.trans hf
    rw [hQQ, ← Option.some.inj hf]
    exact xk_vret (w1 := fun u : Unit => (wC a v cI cB cJ cZ cQ s)) () hx hb hr hlocks hK hS dn_Checker_push_12 hP hD trivial (Nat.le_refl _) (Nat.le_refl _)
set_option maxHeartbeats 8000000 in
set_option maxRecDepth 100000 in
theorem ct_Checker_localOf_Ch (l : Launch) (dC : Nat → ClassId) (dI : Nat → Nat → Nat) (cI cB cJ cZ cQ : ClassId) (N sz : Nat) (a : Nat → Nat) (v : Nat → Value) (v1 : Int32) (s : ms) (y : (Int32 × ms)) (hf : fn_Checker_localOf_Ch N v1 s = some y) : Met l yn_Checker_localOf (xw yn_Checker_localOf bn_Checker_localOf 2 (some .int)) ({ frames := 0, cells := 0, slots := 0, locals := 0 }) (dc_P (dC, dI) xcl (xt cI cB cJ cZ cQ) [.ref ((a 103)), .int v1] sz (wC a v cI cB cJ cZ cQ s)) (xk_Qi (dC, dI) xcl (xt cI cB cJ cZ cQ) (fun (r : Int32) (_ : Unit) => r = y.1) (fun u : Unit => (wC a v cI cB cJ cZ cQ y.2)) (va_A (wC a v cI cB cJ cZ cQ s) sz)) 0 0 (va_A (wC a v cI cB cJ cZ cQ s) sz) := by
  refine dc_of (QA := xk_Qi (dC, dI) xcl (xt cI cB cJ cZ cQ) (fun (r : Int32) (_ : Unit) => r = y.1) (fun u : Unit => (wC a v cI cB cJ cZ cQ y.2))) (by decide) (Nat.le_of_ble_eq_true rfl) ?_
  intro p e s0 m below meth c hx hb hml hown hg hr hlocks hin hP hK hN A hA hD hT ls hl
  have hown : s0.vm.findClass rn_Checker = some m.cls := hown
  obtain ⟨H, hH⟩ : ∃ z, z = s0.heap := ⟨_, rfl⟩
  rw [← hH] at hP
  have hS : va_S A s0.heap H [] := by rw [hH]; exact va_S.rf
  suffices kk : ∀ QQ : State → Prop, QQ = MQ below (xk_Qi (dC, dI) xcl (xt cI cB cJ cZ cQ) (fun (r : Int32) (_ : Unit) => r = y.1) (fun u : Unit => (wC a v cI cB cJ cZ cQ y.2)) A) [.ref ((a 103)), .int v1].toArray s0 0 0 A → dcC p l e ({ frames := 0, cells := 0, slots := 0, locals := 0 }) s0 m [.ref ((a 103)), .int v1].toArray below meth c QQ (dC, dI) A (wC a v cI cB cJ cZ cQ s) 0 2 [(0, .ref ((a 103))), (1, .int v1)] [] by
    have k9 := kk _ rfl H [] ls hP hD hS hl
    rw [hH] at k9; exact k9
  clear hP hD hS hl hH H ls
  intro QQ hQQ
  intro H locs ls hP hD hS hl
  unfold fn_Checker_localOf_Ch at hf
  refine lv_iload_n hx hb dn_Checker_localOf_0 rfl (lv_at hl 1 rfl) ?_
  refine lv_aload_n hx hb dn_Checker_localOf_1 rfl (lv_at hl 0 rfl) ?_
  refine va_get (D := (dC, dI)) (ci := 4) (v := .int ((s.1 233 0))) (C := rn_Checker) (T := fn_Checker) (N := 15) hx hb hg in_Checker hown hK hP 3 rfl rfl 4 (by decide) (hg _ wn_1_130) (fun _ h9 => h9) rfl dn_Checker_localOf_2 ?_
  refine lv_isub hx hb dn_Checker_localOf_5 ?_
  rw [hQQ, ← Option.some.inj hf]
  exact xk_iret (w1 := fun u : Unit => (wC a v cI cB cJ cZ cQ s)) () hx hb hr hlocks hK hS dn_Checker_localOf_6 hP hD rfl (Nat.le_refl _) (Nat.le_refl _)
set_option maxHeartbeats 8000000 in
set_option maxRecDepth 100000 in
theorem ct_Checker_name_Ch (l : Launch) (dC : Nat → ClassId) (dI : Nat → Nat → Nat) (cI cB cJ cZ cQ : ClassId) (N sz : Nat) (a : Nat → Nat) (v : Nat → Value) (hv_2 : v 2 = .ref (a 110)) (hv_3 : v 3 = .ref (a 111)) (v1 : Int32) (v2 : Int32) (s : ms) (y : (Unit × ms)) (hf : fn_Checker_name_Ch N v1 v2 s = some y) : Met l yn_Checker_name (xw yn_Checker_name bn_Checker_name 4 none) ({ frames := 1, cells := 0, slots := 0, locals := 22 }) (dc_P (dC, dI) xcl (xt cI cB cJ cZ cQ) [.ref ((a 103)), .int v1, .int v2] sz (wC a v cI cB cJ cZ cQ s)) (xk_Qv (dC, dI) xcl (xt cI cB cJ cZ cQ) (fun _ : Unit => True) (fun u : Unit => (wC a v cI cB cJ cZ cQ y.2)) (va_A (wC a v cI cB cJ cZ cQ s) sz)) 0 0 (va_A (wC a v cI cB cJ cZ cQ s) sz) := by
  refine dc_of (QA := xk_Qv (dC, dI) xcl (xt cI cB cJ cZ cQ) (fun _ : Unit => True) (fun u : Unit => (wC a v cI cB cJ cZ cQ y.2))) (by decide) (Nat.le_of_ble_eq_true rfl) ?_
  intro p e s0 m below meth c hx hb hml hown hg hr hlocks hin hP hK hN A hA hD hT ls hl
  have hown : s0.vm.findClass rn_Checker = some m.cls := hown
  obtain ⟨H, hH⟩ : ∃ z, z = s0.heap := ⟨_, rfl⟩
  rw [← hH] at hP
  have hS : va_S A s0.heap H [] := by rw [hH]; exact va_S.rf
  suffices kk : ∀ QQ : State → Prop, QQ = MQ below (xk_Qv (dC, dI) xcl (xt cI cB cJ cZ cQ) (fun _ : Unit => True) (fun u : Unit => (wC a v cI cB cJ cZ cQ y.2)) A) [.ref ((a 103)), .int v1, .int v2].toArray s0 0 0 A → dcC p l e ({ frames := 1, cells := 0, slots := 0, locals := 22 }) s0 m [.ref ((a 103)), .int v1, .int v2].toArray below meth c QQ (dC, dI) A (wC a v cI cB cJ cZ cQ s) 0 4 [(0, .ref ((a 103))), (1, .int v1), (2, .int v2)] [] by
    have k9 := kk _ rfl H [] ls hP hD hS hl
    rw [hH] at k9; exact k9
  clear hP hD hS hl hH H ls
  intro QQ hQQ
  intro H locs ls hP hD hS hl
  unfold fn_Checker_name_Ch at hf
  refine lv_aload_n hx hb dn_Checker_name_0 rfl (lv_at hl 0 rfl) ?_
  obtain ⟨q_1, hc_2, hf⟩ := dc_b hf
  refine dc_calli (dc_runV (ar := 0) (As := []) (rest := []) (ci := 4) (q0 := 3) ⟨hx, hb, hml, hown, hg⟩ hK hN hT hS hA (ct_Checker_isOff_Ch l dC dI cI cB cJ cZ cQ N H.size a v s q_1 hc_2) hP hD rfl rfl wn_5_54 wn_4_194 wn_4_195 wn_1_4 wn_4_196 rfl rfl (by decide +kernel) ⟨Nat.le_of_ble_eq_true rfl, Nat.le_of_ble_eq_true rfl⟩ rfl hl.1 rfl (Nat.le_of_ble_eq_true rfl) dn_Checker_name_1 ⟨Nat.le_of_ble_eq_true rfl, Nat.le_of_ble_eq_true rfl⟩) hP hD hS hA (fun r_3 _ H locs hw hP hD hS => ?_)
  have hw : r_3 = q_1.1 := hw
  subst hw
  refine lv_if_eq (tgt := 8) hx hb dn_Checker_name_4 (by decide) (fun h => ?_) (fun h => ?_)
  · have hf := (if_pos h).symm.trans hf
    refine lv_aload_n hx hb dn_Checker_name_8 rfl (lv_at hl 0 rfl) ?_
    refine lv_iload_n hx hb dn_Checker_name_9 rfl (lv_at hl 1 rfl) ?_
    obtain ⟨q_4, hc_5, hf⟩ := dc_b hf
    refine dc_calli (dc_runV (ar := 1) (As := [.int v1]) (rest := []) (ci := 4) (q0 := 3) ⟨hx, hb, hml, hown, hg⟩ hK hN hT hS hA (ct_Checker_meantBy_Ch l dC dI cI cB cJ cZ cQ N H.size a v v1 q_1.2 q_4 hc_5) hP hD rfl rfl wn_6_54 wn_4_239 wn_5_0 wn_1_4 wn_5_1 rfl rfl (by decide +kernel) ⟨Nat.le_of_ble_eq_true rfl, Nat.le_of_ble_eq_true rfl⟩ rfl hl.1 rfl (Nat.le_of_ble_eq_true rfl) dn_Checker_name_10 ⟨Nat.le_of_ble_eq_true rfl, Nat.le_of_ble_eq_true rfl⟩) hP hD hS hA (fun r_6 _ H locs hw hP hD hS => ?_)
    have hw : r_6 = q_4.1 := hw
    subst hw
    refine lv_istore_n (lv' := [(3, .int q_4.1), (0, .ref ((a 103))), (1, .int v1), (2, .int v2)]) hx hb dn_Checker_name_13 rfl hl (by decide) rfl (fun ls hl => ?_)
    refine lv_aload_n hx hb dn_Checker_name_14 rfl (lv_at hl 1 rfl) ?_
    refine lv_iload_n hx hb dn_Checker_name_15 rfl (lv_at hl 0 rfl) ?_
    obtain ⟨q_7, hc_8, hf⟩ := dc_b hf
    refine dc_calli (dc_runV (ar := 1) (As := [.int q_4.1]) (rest := []) (ci := 4) (q0 := 3) ⟨hx, hb, hml, hown, hg⟩ hK hN hT hS hA (ct_Checker_sortOf_Ch l dC dI cI cB cJ cZ cQ N H.size a v hv_2 q_4.1 q_4.2 q_7 hc_8) hP hD rfl rfl wn_6_55 wn_5_43 wn_5_44 wn_1_4 wn_5_45 rfl rfl (by decide +kernel) ⟨Nat.le_of_ble_eq_true rfl, Nat.le_of_ble_eq_true rfl⟩ rfl hl.1 rfl (Nat.le_of_ble_eq_true rfl) dn_Checker_name_16 ⟨Nat.le_of_ble_eq_true rfl, Nat.le_of_ble_eq_true rfl⟩) hP hD hS hA (fun r_9 _ H locs hw hP hD hS => ?_)
    have hw : r_9 = q_7.1 := hw
    subst hw
    refine lv_iconst (v := (-1)) hx hb dn_Checker_name_19 (by decide) ?_
    refine lv_icmp_ne (tgt := 31) hx hb dn_Checker_name_20 (by decide) (fun h => ?_) (fun h => ?_)
    · have hf := (if_neg h).symm.trans hf
      refine lv_aload_n hx hb dn_Checker_name_31 rfl (lv_at hl 1 rfl) ?_
      refine lv_aload_n hx hb dn_Checker_name_32 rfl (lv_at hl 1 rfl) ?_
      refine va_get (D := (dC, dI)) (ci := 4) (v := .ref ((a 110))) (C := rn_Checker) (T := fn_Checker) (N := 15) hx hb hg in_Checker hown hK hP 3 rfl rfl 1 (by decide) (hg _ wn_1_127) (fun _ h9 => h9) (congrArg some hv_2) dn_Checker_name_33 ?_
      refine va_get (D := (dC, dI)) (ci := 11) (v := .ref ((a 323))) (C := rn_Parts) (T := fn_Parts) (N := 15) hx hb hg in_Parts hown hK hP 10 rfl rfl 2 (by decide) (hg _ wn_2_134) (fun _ h9 => h9) rfl dn_Checker_name_36 ?_
      refine lv_iload_n hx hb dn_Checker_name_39 rfl (lv_at hl 0 rfl) ?_
      obtain ⟨hg_10, hf⟩ := dc_g hf
      refine va_iald hx hb hK hP 62 0 rfl rfl hg_10 dn_Checker_name_40 ?_
      refine xk_ti (y := ((q_7.2.1 323) (Int32.toNatClampNeg q_4.1))) rfl ?_
      obtain ⟨q_11, hc_12, hf⟩ := dc_b hf
      refine dc_callv (dc_runV (ar := 1) (As := [.int (((q_7.2.1 323) (Int32.toNatClampNeg q_4.1)))]) (rest := []) (ci := 4) (q0 := 3) ⟨hx, hb, hml, hown, hg⟩ hK hN hT hS hA (ct_Checker_push_Ch l dC dI cI cB cJ cZ cQ N H.size a v (((q_7.2.1 323) (Int32.toNatClampNeg q_4.1))) q_7.2 q_11 hc_12) hP hD rfl rfl wn_6_41 wn_6_43 sn_Checker_push wn_1_4 wn_6_44 rfl rfl (by decide +kernel) ⟨Nat.le_of_ble_eq_true rfl, Nat.le_of_ble_eq_true rfl⟩ rfl hl.1 rfl (Nat.le_of_ble_eq_true rfl) dn_Checker_name_41 ⟨Nat.le_of_ble_eq_true rfl, Nat.le_of_ble_eq_true rfl⟩) hP hD hS hA (fun _ H locs hw hP hD hS => ?_)
      refine lv_aload_n hx hb dn_Checker_name_44 rfl (lv_at hl 1 rfl) ?_
      refine va_get (D := (dC, dI)) (ci := 4) (v := .ref ((a 111))) (C := rn_Checker) (T := fn_Checker) (N := 15) hx hb hg in_Checker hown hK hP 3 rfl rfl 2 (by decide) (hg _ wn_1_128) (fun _ h9 => h9) (congrArg some hv_3) dn_Checker_name_45 ?_
      refine lv_sipush (v := 514) hx hb dn_Checker_name_48 (by decide) ?_
      refine lv_aload_n hx hb dn_Checker_name_51 rfl (lv_at hl 1 rfl) ?_
      refine lv_iload_n hx hb dn_Checker_name_52 rfl (lv_at hl 0 rfl) ?_
      obtain ⟨q_13, hc_14, hf⟩ := dc_b hf
      refine dc_calli (dc_runV (ar := 1) (As := [.int q_4.1]) (rest := [.int 514, .ref ((a 111))]) (ci := 4) (q0 := 3) ⟨hx, hb, hml, hown, hg⟩ hK hN hT hS hA (ct_Checker_localOf_Ch l dC dI cI cB cJ cZ cQ N H.size a v q_4.1 q_11.2 q_13 hc_14) hP hD rfl rfl wn_6_57 wn_6_58 wn_6_59 wn_1_4 wn_6_60 rfl rfl (by decide +kernel) ⟨Nat.le_of_ble_eq_true rfl, Nat.le_of_ble_eq_true rfl⟩ rfl hl.1 rfl (Nat.le_of_ble_eq_true rfl) dn_Checker_name_53 ⟨Nat.le_of_ble_eq_true rfl, Nat.le_of_ble_eq_true rfl⟩) hP hD hS hA (fun r_15 _ H locs hw hP hD hS => ?_)
      have hw : r_15 = q_13.1 := hw
      subst hw
      obtain ⟨q_16, hc_17, hf⟩ := dc_b hf
      refine dc_calli (dc_runV (ar := 2) (As := [.int 514, .int q_13.1]) (rest := []) (ci := 12) (q0 := 11) ⟨hx, hb, hml, hown, hg⟩ hK hN hT hS hA (ct_Code_emit_Ks l dC dI cI cB cJ cZ cQ N H.size a v 514 q_13.1 q_13.2 q_16 hc_17) hP hD rfl rfl wn_6_45 wn_5_198 wn_5_199 wn_1_12 wn_5_200 rfl rfl (by decide +kernel) ⟨Nat.le_of_ble_eq_true rfl, Nat.le_of_ble_eq_true rfl⟩ rfl hl.1 rfl (Nat.le_of_ble_eq_true rfl) dn_Checker_name_56 ⟨Nat.le_of_ble_eq_true rfl, Nat.le_of_ble_eq_true rfl⟩) hP hD hS hA (fun r_18 _ H locs hw hP hD hS => ?_)
      have hw : r_18 = q_16.1 := hw
      subst hw
      refine lv_pop hx hb dn_Checker_name_59 rfl ?_
      rw [hQQ, ← Option.some.inj hf]
      exact xk_vret (w1 := fun u : Unit => (wC a v cI cB cJ cZ cQ q_16.2)) () hx hb hr hlocks hK hS dn_Checker_name_60 hP hD trivial (Nat.le_refl _) (Nat.le_refl _)
    · have hf := (if_pos h).symm.trans hf
      refine lv_aload_n hx hb dn_Checker_name_23 rfl (lv_at hl 1 rfl) ?_
      refine lv_bipush (v := 22) hx hb dn_Checker_name_24 (by decide) ?_
      refine lv_iload_n hx hb dn_Checker_name_26 rfl (lv_at hl 3 rfl) ?_
      obtain ⟨q_10, hc_11, hf⟩ := dc_b hf
      refine dc_callv (dc_runV (ar := 2) (As := [.int 22, .int v2]) (rest := []) (ci := 4) (q0 := 3) ⟨hx, hb, hml, hown, hg⟩ hK hN hT hS hA (ct_Checker_refuse_Ch l dC dI cI cB cJ cZ cQ N H.size a v 22 v2 q_7.2 q_10 hc_11) hP hD rfl rfl wn_6_56 wn_4_202 wn_4_203 wn_1_4 wn_4_204 rfl rfl (by decide +kernel) ⟨Nat.le_of_ble_eq_true rfl, Nat.le_of_ble_eq_true rfl⟩ rfl hl.1 rfl (Nat.le_of_ble_eq_true rfl) dn_Checker_name_27 ⟨Nat.le_of_ble_eq_true rfl, Nat.le_of_ble_eq_true rfl⟩) hP hD hS hA (fun _ H locs hw hP hD hS => ?_)
      rw [hQQ, ← Option.some.inj hf]
      exact xk_vret (w1 := fun u : Unit => (wC a v cI cB cJ cZ cQ q_10.2)) () hx hb hr hlocks hK hS dn_Checker_name_30 hP hD trivial (Nat.le_refl _) (Nat.le_refl _)
  · have hf := (if_neg h).symm.trans hf
    rw [hQQ, ← Option.some.inj hf]
    exact xk_vret (w1 := fun u : Unit => (wC a v cI cB cJ cZ cQ q_1.2)) () hx hb hr hlocks hK hS dn_Checker_name_7 hP hD trivial (Nat.le_refl _) (Nat.le_refl _)
set_option maxHeartbeats 8000000 in
set_option maxRecDepth 100000 in
theorem ct_Grammar_hold_Gr (l : Launch) (dC : Nat → ClassId) (dI : Nat → Nat → Nat) (cI cB cJ cZ cQ : ClassId) (N sz : Nat) (a : Nat → Nat) (v : Nat → Value) (v1 : Int32) (v2 : Int32) (v3 : Int32) (s : ms) (y : (Unit × ms)) (hf : fn_Grammar_hold_Gr N v1 v2 v3 s = some y) : Met l yn_Grammar_hold (xw yn_Grammar_hold bn_Grammar_hold 4 none) ({ frames := 0, cells := 0, slots := 0, locals := 0 }) (dc_P (dC, dI) xcl (xt cI cB cJ cZ cQ) [.ref ((a 105)), .int v1, .int v2, .int v3] sz (wC a v cI cB cJ cZ cQ s)) (xk_Qv (dC, dI) xcl (xt cI cB cJ cZ cQ) (fun _ : Unit => True) (fun u : Unit => (wC a v cI cB cJ cZ cQ y.2)) (va_A (wC a v cI cB cJ cZ cQ s) sz)) 0 0 (va_A (wC a v cI cB cJ cZ cQ s) sz) := by
  refine dc_of (QA := xk_Qv (dC, dI) xcl (xt cI cB cJ cZ cQ) (fun _ : Unit => True) (fun u : Unit => (wC a v cI cB cJ cZ cQ y.2))) (by decide) (Nat.le_of_ble_eq_true rfl) ?_
  intro p e s0 m below meth c hx hb hml hown hg hr hlocks hin hP hK hN A hA hD hT ls hl
  have hown : s0.vm.findClass rn_Grammar = some m.cls := hown
  obtain ⟨H, hH⟩ : ∃ z, z = s0.heap := ⟨_, rfl⟩
  rw [← hH] at hP
  have hS : va_S A s0.heap H [] := by rw [hH]; exact va_S.rf
  suffices kk : ∀ QQ : State → Prop, QQ = MQ below (xk_Qv (dC, dI) xcl (xt cI cB cJ cZ cQ) (fun _ : Unit => True) (fun u : Unit => (wC a v cI cB cJ cZ cQ y.2)) A) [.ref ((a 105)), .int v1, .int v2, .int v3].toArray s0 0 0 A → dcC p l e ({ frames := 0, cells := 0, slots := 0, locals := 0 }) s0 m [.ref ((a 105)), .int v1, .int v2, .int v3].toArray below meth c QQ (dC, dI) A (wC a v cI cB cJ cZ cQ s) 0 4 [(0, .ref ((a 105))), (1, .int v1), (2, .int v2), (3, .int v3)] [] by
    have k9 := kk _ rfl H [] ls hP hD hS hl
    rw [hH] at k9; exact k9
  clear hP hD hS hl hH H ls
  intro QQ hQQ
  intro H locs ls hP hD hS hl
  unfold fn_Grammar_hold_Gr at hf
  refine lv_aload_n hx hb dn_Grammar_hold_0 rfl (lv_at hl 0 rfl) ?_
  refine va_get (D := (dC, dI)) (ci := 6) (v := .int ((s.1 275 0))) (C := rn_Grammar) (T := fn_Grammar) (N := 15) hx hb hg in_Grammar hown hK hP 5 rfl rfl 14 (by decide) (hg _ wn_2_14) (fun _ h9 => h9) rfl dn_Grammar_hold_1 ?_
  refine lv_sipush (v := 1024) hx hb dn_Grammar_hold_4 (by decide) ?_
  refine lv_icmp_lt (tgt := 11) hx hb dn_Grammar_hold_7 (by decide) (fun h => ?_) (fun h => ?_)
  · have hf := (if_pos h).symm.trans hf
    refine lv_aload_n hx hb dn_Grammar_hold_11 rfl (lv_at hl 0 rfl) ?_
    refine va_get (D := (dC, dI)) (ci := 6) (v := .ref ((a 272))) (C := rn_Grammar) (T := fn_Grammar) (N := 15) hx hb hg in_Grammar hown hK hP 5 rfl rfl 11 (by decide) (hg _ wn_2_11) (fun _ h9 => h9) rfl dn_Grammar_hold_12 ?_
    refine lv_aload_n hx hb dn_Grammar_hold_15 rfl (lv_at hl 0 rfl) ?_
    refine va_get (D := (dC, dI)) (ci := 6) (v := .int ((s.1 275 0))) (C := rn_Grammar) (T := fn_Grammar) (N := 15) hx hb hg in_Grammar hown hK hP 5 rfl rfl 14 (by decide) (hg _ wn_2_14) (fun _ h9 => h9) rfl dn_Grammar_hold_16 ?_
    refine lv_iload_n hx hb dn_Grammar_hold_19 rfl (lv_at hl 1 rfl) ?_
    obtain ⟨hg_1, hf⟩ := dc_g hf
    refine va_iast hx hb hK hP hD hS 31 0 rfl rfl hg_1 dn_Grammar_hold_20 (fun H locs hP hD hS => ?_)
    have hP : va_P (dC, dI) xcl ((wC a v cI cB cJ cZ cQ s).set 31 ((a 272), .inl (cI, 1024, .inl (upd (s.1 272) (Int32.toNatClampNeg ((s.1 275 0))) v1)))) H := hP
    have hD : va_D A ((wC a v cI cB cJ cZ cQ s).set 31 ((a 272), .inl (cI, 1024, .inl (upd (s.1 272) (Int32.toNatClampNeg ((s.1 275 0))) v1)))) := hD
    have hP := wC_P_272 hP
    have hD := wC_D_272 hD
    refine lv_aload_n hx hb dn_Grammar_hold_21 rfl (lv_at hl 0 rfl) ?_
    refine va_get (D := (dC, dI)) (ci := 6) (v := .ref ((a 273))) (C := rn_Grammar) (T := fn_Grammar) (N := 15) hx hb hg in_Grammar hown hK hP 5 rfl rfl 12 (by decide) (hg _ wn_2_12) (fun _ h9 => h9) rfl dn_Grammar_hold_22 ?_
    refine lv_aload_n hx hb dn_Grammar_hold_25 rfl (lv_at hl 0 rfl) ?_
    refine va_get (D := (dC, dI)) (ci := 6) (v := .int ((s.1 275 0))) (C := rn_Grammar) (T := fn_Grammar) (N := 15) hx hb hg in_Grammar hown hK hP 5 rfl rfl 14 (by decide) (hg _ wn_2_14) (fun _ h9 => h9) rfl dn_Grammar_hold_26 ?_
    refine lv_iload_n hx hb dn_Grammar_hold_29 rfl (lv_at hl 2 rfl) ?_
    obtain ⟨hg_2, hf⟩ := dc_g hf
    refine va_iast hx hb hK hP hD hS 32 0 rfl rfl hg_2 dn_Grammar_hold_30 (fun H locs hP hD hS => ?_)
    have hP : va_P (dC, dI) xcl ((wC a v cI cB cJ cZ cQ (upI s 272 (upd (s.1 272) (Int32.toNatClampNeg ((s.1 275 0))) v1))).set 32 ((a 273), .inl (cI, 1024, .inl (upd (s.1 273) (Int32.toNatClampNeg ((s.1 275 0))) v2)))) H := hP
    have hD : va_D A ((wC a v cI cB cJ cZ cQ (upI s 272 (upd (s.1 272) (Int32.toNatClampNeg ((s.1 275 0))) v1))).set 32 ((a 273), .inl (cI, 1024, .inl (upd (s.1 273) (Int32.toNatClampNeg ((s.1 275 0))) v2)))) := hD
    have hP := wC_P_273 hP
    have hD := wC_D_273 hD
    refine lv_aload_n hx hb dn_Grammar_hold_31 rfl (lv_at hl 0 rfl) ?_
    refine va_get (D := (dC, dI)) (ci := 6) (v := .ref ((a 274))) (C := rn_Grammar) (T := fn_Grammar) (N := 15) hx hb hg in_Grammar hown hK hP 5 rfl rfl 13 (by decide) (hg _ wn_2_13) (fun _ h9 => h9) rfl dn_Grammar_hold_32 ?_
    refine lv_aload_n hx hb dn_Grammar_hold_35 rfl (lv_at hl 0 rfl) ?_
    refine va_get (D := (dC, dI)) (ci := 6) (v := .int ((s.1 275 0))) (C := rn_Grammar) (T := fn_Grammar) (N := 15) hx hb hg in_Grammar hown hK hP 5 rfl rfl 14 (by decide) (hg _ wn_2_14) (fun _ h9 => h9) rfl dn_Grammar_hold_36 ?_
    refine lv_iload_n hx hb dn_Grammar_hold_39 rfl (lv_at hl 3 rfl) ?_
    obtain ⟨hg_3, hf⟩ := dc_g hf
    refine va_iast hx hb hK hP hD hS 33 0 rfl rfl hg_3 dn_Grammar_hold_40 (fun H locs hP hD hS => ?_)
    have hP : va_P (dC, dI) xcl ((wC a v cI cB cJ cZ cQ (upI (upI s 272 (upd (s.1 272) (Int32.toNatClampNeg ((s.1 275 0))) v1)) 273 (upd (s.1 273) (Int32.toNatClampNeg ((s.1 275 0))) v2))).set 33 ((a 274), .inl (cI, 1024, .inl (upd (s.1 274) (Int32.toNatClampNeg ((s.1 275 0))) v3)))) H := hP
    have hD : va_D A ((wC a v cI cB cJ cZ cQ (upI (upI s 272 (upd (s.1 272) (Int32.toNatClampNeg ((s.1 275 0))) v1)) 273 (upd (s.1 273) (Int32.toNatClampNeg ((s.1 275 0))) v2))).set 33 ((a 274), .inl (cI, 1024, .inl (upd (s.1 274) (Int32.toNatClampNeg ((s.1 275 0))) v3)))) := hD
    have hP := wC_P_274 hP
    have hD := wC_D_274 hD
    refine lv_aload_n hx hb dn_Grammar_hold_41 rfl (lv_at hl 0 rfl) ?_
    refine lv_dup hx hb dn_Grammar_hold_42 rfl ?_
    refine va_get (D := (dC, dI)) (ci := 6) (v := .int ((s.1 275 0))) (C := rn_Grammar) (T := fn_Grammar) (N := 15) hx hb hg in_Grammar hown hK hP 5 rfl rfl 14 (by decide) (hg _ wn_2_14) (fun _ h9 => h9) rfl dn_Grammar_hold_43 ?_
    refine lv_iconst (v := 1) hx hb dn_Grammar_hold_46 (by decide) ?_
    refine lv_iadd hx hb dn_Grammar_hold_47 ?_
    refine va_put (D := (dC, dI)) (ci := 6) (v := .int (((s.1 275 0) + 1))) (ty := .int) (C := rn_Grammar) (T := fn_Grammar) (N := 15) hx hb hg in_Grammar tn_Grammar tk_Grammar nn_Grammar hown hK hP hD hS 5 rfl rfl 14 (by decide) (hg _ wn_2_14) (fun _ h9 => h9) rfl (tk_Grammar 14 (by decide)) rfl rfl (Nat.le_of_ble_eq_true rfl) dn_Grammar_hold_48 (fun H locs hP hD hS => ?_)
    have hP := wC_P_275 hP
    have hD := wC_D_275 hD
    rw [hQQ, ← Option.some.inj hf]
    exact xk_vret (w1 := fun u : Unit => (wC a v cI cB cJ cZ cQ (upI (upI (upI (upI s 272 (upd (s.1 272) (Int32.toNatClampNeg ((s.1 275 0))) v1)) 273 (upd (s.1 273) (Int32.toNatClampNeg ((s.1 275 0))) v2)) 274 (upd (s.1 274) (Int32.toNatClampNeg ((s.1 275 0))) v3)) 275 (fun _ => ((s.1 275 0) + 1))))) () hx hb hr hlocks hK hS dn_Grammar_hold_51 hP hD trivial (Nat.le_refl _) (Nat.le_refl _)
  · have hf := (if_neg h).symm.trans hf
    rw [hQQ, ← Option.some.inj hf]
    exact xk_vret (w1 := fun u : Unit => (wC a v cI cB cJ cZ cQ s)) () hx hb hr hlocks hK hS dn_Grammar_hold_10 hP hD trivial (Nat.le_refl _) (Nat.le_refl _)
set_option maxHeartbeats 8000000 in
set_option maxRecDepth 100000 in
theorem ct_Checker_pop_Ch (l : Launch) (dC : Nat → ClassId) (dI : Nat → Nat → Nat) (cI cB cJ cZ cQ : ClassId) (N sz : Nat) (a : Nat → Nat) (v : Nat → Value) (s : ms) (y : (Int32 × ms)) (hf : fn_Checker_pop_Ch N s = some y) : Met l yn_Checker_pop (xw yn_Checker_pop bn_Checker_pop 1 (some .int)) ({ frames := 0, cells := 0, slots := 0, locals := 0 }) (dc_P (dC, dI) xcl (xt cI cB cJ cZ cQ) [.ref ((a 103))] sz (wC a v cI cB cJ cZ cQ s)) (xk_Qi (dC, dI) xcl (xt cI cB cJ cZ cQ) (fun (r : Int32) (_ : Unit) => r = y.1) (fun u : Unit => (wC a v cI cB cJ cZ cQ y.2)) (va_A (wC a v cI cB cJ cZ cQ s) sz)) 0 0 (va_A (wC a v cI cB cJ cZ cQ s) sz) := by
  refine dc_of (QA := xk_Qi (dC, dI) xcl (xt cI cB cJ cZ cQ) (fun (r : Int32) (_ : Unit) => r = y.1) (fun u : Unit => (wC a v cI cB cJ cZ cQ y.2))) (by decide) (Nat.le_of_ble_eq_true rfl) ?_
  intro p e s0 m below meth c hx hb hml hown hg hr hlocks hin hP hK hN A hA hD hT ls hl
  have hown : s0.vm.findClass rn_Checker = some m.cls := hown
  obtain ⟨H, hH⟩ : ∃ z, z = s0.heap := ⟨_, rfl⟩
  rw [← hH] at hP
  have hS : va_S A s0.heap H [] := by rw [hH]; exact va_S.rf
  suffices kk : ∀ QQ : State → Prop, QQ = MQ below (xk_Qi (dC, dI) xcl (xt cI cB cJ cZ cQ) (fun (r : Int32) (_ : Unit) => r = y.1) (fun u : Unit => (wC a v cI cB cJ cZ cQ y.2)) A) [.ref ((a 103))].toArray s0 0 0 A → dcC p l e ({ frames := 0, cells := 0, slots := 0, locals := 0 }) s0 m [.ref ((a 103))].toArray below meth c QQ (dC, dI) A (wC a v cI cB cJ cZ cQ s) 0 1 [(0, .ref ((a 103)))] [] by
    have k9 := kk _ rfl H [] ls hP hD hS hl
    rw [hH] at k9; exact k9
  clear hP hD hS hl hH H ls
  intro QQ hQQ
  intro H locs ls hP hD hS hl
  unfold fn_Checker_pop_Ch at hf
  refine lv_aload_n hx hb dn_Checker_pop_0 rfl (lv_at hl 0 rfl) ?_
  refine va_get (D := (dC, dI)) (ci := 4) (v := .int ((s.1 239 0))) (C := rn_Checker) (T := fn_Checker) (N := 15) hx hb hg in_Checker hown hK hP 3 rfl rfl 10 (by decide) (hg _ wn_1_136) (fun _ h9 => h9) rfl dn_Checker_pop_1 ?_
  refine lv_if_ne (tgt := 9) hx hb dn_Checker_pop_4 (by decide) (fun h => ?_) (fun h => ?_)
  · have hf := (if_neg h).symm.trans hf
    refine lv_aload_n hx hb dn_Checker_pop_9 rfl (lv_at hl 0 rfl) ?_
    refine lv_dup hx hb dn_Checker_pop_10 rfl ?_
    refine va_get (D := (dC, dI)) (ci := 4) (v := .int ((s.1 239 0))) (C := rn_Checker) (T := fn_Checker) (N := 15) hx hb hg in_Checker hown hK hP 3 rfl rfl 10 (by decide) (hg _ wn_1_136) (fun _ h9 => h9) rfl dn_Checker_pop_11 ?_
    refine lv_iconst (v := 1) hx hb dn_Checker_pop_14 (by decide) ?_
    refine lv_isub hx hb dn_Checker_pop_15 ?_
    refine va_put (D := (dC, dI)) (ci := 4) (v := .int (((s.1 239 0) - 1))) (ty := .int) (C := rn_Checker) (T := fn_Checker) (N := 15) hx hb hg in_Checker tn_Checker tk_Checker nn_Checker hown hK hP hD hS 3 rfl rfl 10 (by decide) (hg _ wn_1_136) (fun _ h9 => h9) rfl (tk_Checker 10 (by decide)) rfl rfl (Nat.le_of_ble_eq_true rfl) dn_Checker_pop_16 (fun H locs hP hD hS => ?_)
    have hP := wC_P_239 hP
    have hD := wC_D_239 hD
    refine lv_aload_n hx hb dn_Checker_pop_19 rfl (lv_at hl 0 rfl) ?_
    refine va_get (D := (dC, dI)) (ci := 4) (v := .ref ((a 238))) (C := rn_Checker) (T := fn_Checker) (N := 15) hx hb hg in_Checker hown hK hP 3 rfl rfl 9 (by decide) (hg _ wn_1_135) (fun _ h9 => h9) rfl dn_Checker_pop_20 ?_
    refine lv_aload_n hx hb dn_Checker_pop_23 rfl (lv_at hl 0 rfl) ?_
    refine va_get (D := (dC, dI)) (ci := 4) (v := .int (((s.1 239 0) - 1))) (C := rn_Checker) (T := fn_Checker) (N := 15) hx hb hg in_Checker hown hK hP 3 rfl rfl 10 (by decide) (hg _ wn_1_136) (fun _ h9 => h9) rfl dn_Checker_pop_24 ?_
    obtain ⟨hg_1, hf⟩ := dc_g hf
    refine va_iald hx hb hK hP 25 0 rfl rfl hg_1 dn_Checker_pop_27 ?_
    refine xk_ti (y := ((s.1 238) (Int32.toNatClampNeg (((s.1 239 0) - 1))))) rfl ?_
    rw [hQQ, ← Option.some.inj hf]
    exact xk_iret (w1 := fun u : Unit => (wC a v cI cB cJ cZ cQ (upI s 239 (fun _ => ((s.1 239 0) - 1))))) () hx hb hr hlocks hK hS dn_Checker_pop_28 hP hD rfl (Nat.le_refl _) (Nat.le_refl _)
  · have hf := (if_pos h).symm.trans hf
    refine lv_iconst (v := 1) hx hb dn_Checker_pop_7 (by decide) ?_
    rw [hQQ, ← Option.some.inj hf]
    exact xk_iret (w1 := fun u : Unit => (wC a v cI cB cJ cZ cQ s)) () hx hb hr hlocks hK hS dn_Checker_pop_8 hP hD rfl (Nat.le_refl _) (Nat.le_refl _)
set_option maxHeartbeats 8000000 in
set_option maxRecDepth 100000 in
theorem ct_Checker_part_Ch (l : Launch) (dC : Nat → ClassId) (dI : Nat → Nat → Nat) (cI cB cJ cZ cQ : ClassId) (N sz : Nat) (a : Nat → Nat) (v : Nat → Value) (hv_3 : v 3 = .ref (a 111)) (v1 : Int32) (v2 : Int32) (s : ms) (y : (Unit × ms)) (hf : fn_Checker_part_Ch N v1 v2 s = some y) : Met l yn_Checker_part (xw yn_Checker_part bn_Checker_part 4 none) ({ frames := 1, cells := 0, slots := 0, locals := 23 }) (dc_P (dC, dI) xcl (xt cI cB cJ cZ cQ) [.ref ((a 103)), .int v1, .int v2] sz (wC a v cI cB cJ cZ cQ s)) (xk_Qv (dC, dI) xcl (xt cI cB cJ cZ cQ) (fun _ : Unit => True) (fun u : Unit => (wC a v cI cB cJ cZ cQ y.2)) (va_A (wC a v cI cB cJ cZ cQ s) sz)) 0 0 (va_A (wC a v cI cB cJ cZ cQ s) sz) := by
  refine dc_of (QA := xk_Qv (dC, dI) xcl (xt cI cB cJ cZ cQ) (fun _ : Unit => True) (fun u : Unit => (wC a v cI cB cJ cZ cQ y.2))) (by decide) (Nat.le_of_ble_eq_true rfl) ?_
  intro p e s0 m below meth c hx hb hml hown hg hr hlocks hin hP hK hN A hA hD hT ls hl
  have hown : s0.vm.findClass rn_Checker = some m.cls := hown
  obtain ⟨H, hH⟩ : ∃ z, z = s0.heap := ⟨_, rfl⟩
  rw [← hH] at hP
  have hS : va_S A s0.heap H [] := by rw [hH]; exact va_S.rf
  suffices kk : ∀ QQ : State → Prop, QQ = MQ below (xk_Qv (dC, dI) xcl (xt cI cB cJ cZ cQ) (fun _ : Unit => True) (fun u : Unit => (wC a v cI cB cJ cZ cQ y.2)) A) [.ref ((a 103)), .int v1, .int v2].toArray s0 0 0 A → dcC p l e ({ frames := 1, cells := 0, slots := 0, locals := 23 }) s0 m [.ref ((a 103)), .int v1, .int v2].toArray below meth c QQ (dC, dI) A (wC a v cI cB cJ cZ cQ s) 0 4 [(0, .ref ((a 103))), (1, .int v1), (2, .int v2)] [] by
    have k9 := kk _ rfl H [] ls hP hD hS hl
    rw [hH] at k9; exact k9
  clear hP hD hS hl hH H ls
  intro QQ hQQ
  intro H locs ls hP hD hS hl
  unfold fn_Checker_part_Ch at hf
  refine lv_aload_n hx hb dn_Checker_part_0 rfl (lv_at hl 0 rfl) ?_
  obtain ⟨q_1, hc_2, hf⟩ := dc_b hf
  refine dc_calli (dc_runV (ar := 0) (As := []) (rest := []) (ci := 4) (q0 := 3) ⟨hx, hb, hml, hown, hg⟩ hK hN hT hS hA (ct_Checker_isOff_Ch l dC dI cI cB cJ cZ cQ N H.size a v s q_1 hc_2) hP hD rfl rfl wn_5_54 wn_4_194 wn_4_195 wn_1_4 wn_4_196 rfl rfl (by decide +kernel) ⟨Nat.le_of_ble_eq_true rfl, Nat.le_of_ble_eq_true rfl⟩ rfl hl.1 rfl (Nat.le_of_ble_eq_true rfl) dn_Checker_part_1 ⟨Nat.le_of_ble_eq_true rfl, Nat.le_of_ble_eq_true rfl⟩) hP hD hS hA (fun r_3 _ H locs hw hP hD hS => ?_)
  have hw : r_3 = q_1.1 := hw
  subst hw
  refine lv_if_eq (tgt := 8) hx hb dn_Checker_part_4 (by decide) (fun h => ?_) (fun h => ?_)
  · have hf := (if_pos h).symm.trans hf
    refine lv_iload_n hx hb dn_Checker_part_8 rfl (lv_at hl 1 rfl) ?_
    refine lv_aload_n hx hb dn_Checker_part_9 rfl (lv_at hl 0 rfl) ?_
    obtain ⟨q_4, hc_5, hf⟩ := dc_b hf
    refine dc_calli (dc_runV (ar := 0) (As := []) (rest := [.int v1]) (ci := 4) (q0 := 3) ⟨hx, hb, hml, hown, hg⟩ hK hN hT hS hA (ct_Checker_pop_Ch l dC dI cI cB cJ cZ cQ N H.size a v q_1.2 q_4 hc_5) hP hD rfl rfl wn_6_65 wn_6_67 sn_Checker_pop wn_1_4 wn_6_68 rfl rfl (by decide +kernel) ⟨Nat.le_of_ble_eq_true rfl, Nat.le_of_ble_eq_true rfl⟩ rfl hl.1 rfl (Nat.le_of_ble_eq_true rfl) dn_Checker_part_10 ⟨Nat.le_of_ble_eq_true rfl, Nat.le_of_ble_eq_true rfl⟩) hP hD hS hA (fun r_6 _ H locs hw hP hD hS => ?_)
    have hw : r_6 = q_4.1 := hw
    subst hw
    obtain ⟨q_7, hc_8, hf⟩ := dc_b hf
    refine dc_calli (dc_runS (ar := 2) (As := [.int v1, .int q_4.1]) (rest := []) ⟨hx, hb, hml, hown, hg⟩ hK hN hT hS hA (ct_Checker_partWidth l dC dI cI cB cJ cZ cQ N H.size a v v1 q_4.1 q_4.2 q_7 hc_8) hP hD wn_6_69 wn_5_171 wn_1_4 wn_5_172 rfl rfl (by decide +kernel) ⟨Nat.le_of_ble_eq_true rfl, Nat.le_of_ble_eq_true rfl⟩ rfl hl.1 rfl (Nat.le_of_ble_eq_true rfl) dn_Checker_part_13 ⟨Nat.le_of_ble_eq_true rfl, Nat.le_of_ble_eq_true rfl⟩) hP hD hS hA (fun r_9 _ H locs hw hP hD hS => ?_)
    have hw : r_9 = q_7.1 := hw
    subst hw
    refine lv_istore_n (lv' := [(3, .int q_7.1), (0, .ref ((a 103))), (1, .int v1), (2, .int v2)]) hx hb dn_Checker_part_16 rfl hl (by decide) rfl (fun ls hl => ?_)
    refine lv_iload_n hx hb dn_Checker_part_17 rfl (lv_at hl 0 rfl) ?_
    refine lv_iconst (v := (-1)) hx hb dn_Checker_part_18 (by decide) ?_
    refine lv_icmp_ne (tgt := 30) hx hb dn_Checker_part_19 (by decide) (fun h => ?_) (fun h => ?_)
    · have hf := (if_neg h).symm.trans hf
      refine lv_aload_n hx hb dn_Checker_part_30 rfl (lv_at hl 1 rfl) ?_
      refine lv_iload_n hx hb dn_Checker_part_31 rfl (lv_at hl 0 rfl) ?_
      obtain ⟨q_10, hc_11, hf⟩ := dc_b hf
      refine dc_callv (dc_runV (ar := 1) (As := [.int q_7.1]) (rest := []) (ci := 4) (q0 := 3) ⟨hx, hb, hml, hown, hg⟩ hK hN hT hS hA (ct_Checker_push_Ch l dC dI cI cB cJ cZ cQ N H.size a v q_7.1 q_7.2 q_10 hc_11) hP hD rfl rfl wn_6_41 wn_6_43 sn_Checker_push wn_1_4 wn_6_44 rfl rfl (by decide +kernel) ⟨Nat.le_of_ble_eq_true rfl, Nat.le_of_ble_eq_true rfl⟩ rfl hl.1 rfl (Nat.le_of_ble_eq_true rfl) dn_Checker_part_32 ⟨Nat.le_of_ble_eq_true rfl, Nat.le_of_ble_eq_true rfl⟩) hP hD hS hA (fun _ H locs hw hP hD hS => ?_)
      refine lv_aload_n hx hb dn_Checker_part_35 rfl (lv_at hl 1 rfl) ?_
      refine va_get (D := (dC, dI)) (ci := 4) (v := .ref ((a 111))) (C := rn_Checker) (T := fn_Checker) (N := 15) hx hb hg in_Checker hown hK hP 3 rfl rfl 2 (by decide) (hg _ wn_1_128) (fun _ h9 => h9) (congrArg some hv_3) dn_Checker_part_36 ?_
      refine lv_sipush (v := 347) hx hb dn_Checker_part_39 (by decide) ?_
      refine lv_iload_n hx hb dn_Checker_part_42 rfl (lv_at hl 2 rfl) ?_
      obtain ⟨q_12, hc_13, hf⟩ := dc_b hf
      refine dc_calli (dc_runS (ar := 1) (As := [.int v1]) (rest := [.int 347, .ref ((a 111))]) ⟨hx, hb, hml, hown, hg⟩ hK hN hT hS hA (ct_Checker_lowOf l dC dI cI cB cJ cZ cQ N H.size a v v1 q_10.2 q_12 hc_13) hP hD wn_6_70 wn_5_175 wn_1_4 wn_5_176 rfl rfl (by decide +kernel) ⟨Nat.le_of_ble_eq_true rfl, Nat.le_of_ble_eq_true rfl⟩ rfl hl.1 rfl (Nat.le_of_ble_eq_true rfl) dn_Checker_part_43 ⟨Nat.le_of_ble_eq_true rfl, Nat.le_of_ble_eq_true rfl⟩) hP hD hS hA (fun r_14 _ H locs hw hP hD hS => ?_)
      have hw : r_14 = q_12.1 := hw
      subst hw
      refine lv_bipush (v := 8) hx hb dn_Checker_part_46 (by decide) ?_
      refine lv_ishl hx hb dn_Checker_part_48 ?_
      refine lv_iload_n hx hb dn_Checker_part_49 rfl (lv_at hl 0 rfl) ?_
      refine lv_ior hx hb dn_Checker_part_50 ?_
      obtain ⟨q_15, hc_16, hf⟩ := dc_b hf
      refine dc_calli (dc_runV (ar := 2) (As := [.int 347, .int ((((q_12.1 : Int32) <<< (8 &&& 31)) ||| q_7.1))]) (rest := []) (ci := 12) (q0 := 11) ⟨hx, hb, hml, hown, hg⟩ hK hN hT hS hA (ct_Code_emit_Ks l dC dI cI cB cJ cZ cQ N H.size a v 347 ((((q_12.1 : Int32) <<< (8 &&& 31)) ||| q_7.1)) q_12.2 q_15 hc_16) hP hD rfl rfl wn_6_45 wn_5_198 wn_5_199 wn_1_12 wn_5_200 rfl rfl (by decide +kernel) ⟨Nat.le_of_ble_eq_true rfl, Nat.le_of_ble_eq_true rfl⟩ rfl hl.1 rfl (Nat.le_of_ble_eq_true rfl) dn_Checker_part_51 ⟨Nat.le_of_ble_eq_true rfl, Nat.le_of_ble_eq_true rfl⟩) hP hD hS hA (fun r_17 _ H locs hw hP hD hS => ?_)
      have hw : r_17 = q_15.1 := hw
      subst hw
      refine lv_pop hx hb dn_Checker_part_54 rfl ?_
      rw [hQQ, ← Option.some.inj hf]
      exact xk_vret (w1 := fun u : Unit => (wC a v cI cB cJ cZ cQ q_15.2)) () hx hb hr hlocks hK hS dn_Checker_part_55 hP hD trivial (Nat.le_refl _) (Nat.le_refl _)
    · have hf := (if_pos h).symm.trans hf
      refine lv_aload_n hx hb dn_Checker_part_22 rfl (lv_at hl 1 rfl) ?_
      refine lv_bipush (v := 30) hx hb dn_Checker_part_23 (by decide) ?_
      refine lv_iload_n hx hb dn_Checker_part_25 rfl (lv_at hl 3 rfl) ?_
      obtain ⟨q_10, hc_11, hf⟩ := dc_b hf
      refine dc_callv (dc_runV (ar := 2) (As := [.int 30, .int v2]) (rest := []) (ci := 4) (q0 := 3) ⟨hx, hb, hml, hown, hg⟩ hK hN hT hS hA (ct_Checker_refuse_Ch l dC dI cI cB cJ cZ cQ N H.size a v 30 v2 q_7.2 q_10 hc_11) hP hD rfl rfl wn_6_56 wn_4_202 wn_4_203 wn_1_4 wn_4_204 rfl rfl (by decide +kernel) ⟨Nat.le_of_ble_eq_true rfl, Nat.le_of_ble_eq_true rfl⟩ rfl hl.1 rfl (Nat.le_of_ble_eq_true rfl) dn_Checker_part_26 ⟨Nat.le_of_ble_eq_true rfl, Nat.le_of_ble_eq_true rfl⟩) hP hD hS hA (fun _ H locs hw hP hD hS => ?_)
      rw [hQQ, ← Option.some.inj hf]
      exact xk_vret (w1 := fun u : Unit => (wC a v cI cB cJ cZ cQ q_10.2)) () hx hb hr hlocks hK hS dn_Checker_part_29 hP hD trivial (Nat.le_refl _) (Nat.le_refl _)
  · have hf := (if_neg h).symm.trans hf
    rw [hQQ, ← Option.some.inj hf]
    exact xk_vret (w1 := fun u : Unit => (wC a v cI cB cJ cZ cQ q_1.2)) () hx hb hr hlocks hK hS dn_Checker_part_7 hP hD trivial (Nat.le_refl _) (Nat.le_refl _)
