set_option maxHeartbeats 8000000 in
set_option maxRecDepth 100000 in
theorem ct_Code_valueOf_Ks (l : Launch) (dC : Nat → ClassId) (dI : Nat → Nat → Nat) (cI cB cJ cZ cQ : ClassId) (N sz : Nat) (a : Nat → Nat) (v : Nat → Value) (v1 : Int32) (s : ms) (y : (Int64 × ms)) (hf : fn_Code_valueOf_Ks N v1 s = some y) : Met l yn_Code_valueOf (xw yn_Code_valueOf bn_Code_valueOf 2 (some .long)) ({ frames := 0, cells := 0, slots := 0, locals := 0 }) (dc_P (dC, dI) xcl (xt cI cB cJ cZ cQ) [.ref ((a 111)), .int v1] sz (wC a v cI cB cJ cZ cQ s)) (xk_Ql (dC, dI) xcl (xt cI cB cJ cZ cQ) (fun (r : Int64) (_ : Unit) => r = y.1) (fun u : Unit => (wC a v cI cB cJ cZ cQ y.2)) (va_A (wC a v cI cB cJ cZ cQ s) sz)) 0 0 (va_A (wC a v cI cB cJ cZ cQ s) sz) := by
  refine dc_of (QA := xk_Ql (dC, dI) xcl (xt cI cB cJ cZ cQ) (fun (r : Int64) (_ : Unit) => r = y.1) (fun u : Unit => (wC a v cI cB cJ cZ cQ y.2))) (by decide) (Nat.le_of_ble_eq_true rfl) ?_
  intro p e s0 m below meth c hx hb hml hown hg hr hlocks hin hP hK hN A hA hD hT ls hl
  have hown : s0.vm.findClass rn_Code = some m.cls := hown
  obtain ⟨H, hH⟩ : ∃ z, z = s0.heap := ⟨_, rfl⟩
  rw [← hH] at hP
  have hS : va_S A s0.heap H [] := by rw [hH]; exact va_S.rf
  suffices kk : ∀ QQ : State → Prop, QQ = MQ below (xk_Ql (dC, dI) xcl (xt cI cB cJ cZ cQ) (fun (r : Int64) (_ : Unit) => r = y.1) (fun u : Unit => (wC a v cI cB cJ cZ cQ y.2)) A) [.ref ((a 111)), .int v1].toArray s0 0 0 A → dcC p l e ({ frames := 0, cells := 0, slots := 0, locals := 0 }) s0 m [.ref ((a 111)), .int v1].toArray below meth c QQ (dC, dI) A (wC a v cI cB cJ cZ cQ s) 0 2 [(0, .ref ((a 111))), (1, .int v1)] [] by
    have k9 := kk _ rfl H [] ls hP hD hS hl
    rw [hH] at k9; exact k9
  clear hP hD hS hl hH H ls
  intro QQ hQQ
  intro H locs ls hP hD hS hl
  unfold fn_Code_valueOf_Ks at hf
  refine lv_iload_n hx hb dn_Code_valueOf_0 rfl (lv_at hl 1 rfl) ?_
  refine lv_if_lt (tgt := 21) hx hb dn_Code_valueOf_1 (by decide) (fun h => ?_) (fun h => ?_)
  · have hf := (if_pos h).symm.trans hf
    refine lv_lconst (v := 0) hx hb dn_Code_valueOf_21 (by decide) ?_
    rw [hQQ, ← Option.some.inj hf]
    exact xk_lret (w1 := fun u : Unit => (wC a v cI cB cJ cZ cQ s)) () hx hb hr hlocks hK hS dn_Code_valueOf_22 hP hD rfl (Nat.le_refl _) (Nat.le_refl _)
  · have hf := (if_neg h).symm.trans hf
    refine lv_iload_n hx hb dn_Code_valueOf_4 rfl (lv_at hl 1 rfl) ?_
    refine lv_aload_n hx hb dn_Code_valueOf_5 rfl (lv_at hl 0 rfl) ?_
    refine va_get (D := (dC, dI)) (ci := 12) (v := .int ((s.1 340 0))) (C := rn_Code) (T := fn_Code) (N := 5) hx hb hg in_Code hown hK hP 11 rfl rfl 4 (by decide) (hg _ wn_2_219) (fun _ h9 => h9) rfl dn_Code_valueOf_6 ?_
    refine lv_icmp_ge (tgt := 21) hx hb dn_Code_valueOf_9 (by decide) (fun h => ?_) (fun h => ?_)
    · have hf := (if_pos h).symm.trans hf
      refine lv_lconst (v := 0) hx hb dn_Code_valueOf_21 (by decide) ?_
      rw [hQQ, ← Option.some.inj hf]
      exact xk_lret (w1 := fun u : Unit => (wC a v cI cB cJ cZ cQ s)) () hx hb hr hlocks hK hS dn_Code_valueOf_22 hP hD rfl (Nat.le_refl _) (Nat.le_refl _)
    · have hf := (if_neg h).symm.trans hf
      refine lv_aload_n hx hb dn_Code_valueOf_12 rfl (lv_at hl 0 rfl) ?_
      refine va_get (D := (dC, dI)) (ci := 12) (v := .ref ((a 339))) (C := rn_Code) (T := fn_Code) (N := 5) hx hb hg in_Code hown hK hP 11 rfl rfl 3 (by decide) (hg _ wn_2_218) (fun _ h9 => h9) rfl dn_Code_valueOf_13 ?_
      refine lv_iload_n hx hb dn_Code_valueOf_16 rfl (lv_at hl 1 rfl) ?_
      obtain ⟨hg_1, hf⟩ := dc_g hf
      refine va_lald hx hb hK hP 75 2 rfl rfl hg_1 dn_Code_valueOf_17 ?_
      refine xk_tl (y := ((s.2 339) (Int32.toNatClampNeg v1))) rfl ?_
      refine lv_goto (tgt := 22) hx hb dn_Code_valueOf_18 (by decide) ?_
      rw [hQQ, ← Option.some.inj hf]
      exact xk_lret (w1 := fun u : Unit => (wC a v cI cB cJ cZ cQ s)) () hx hb hr hlocks hK hS dn_Code_valueOf_22 hP hD rfl (Nat.le_refl _) (Nat.le_refl _)
set_option maxHeartbeats 8000000 in
set_option maxRecDepth 100000 in
theorem ct_Meaning_beginsWith_Me (l : Launch) (dC : Nat → ClassId) (dI : Nat → Nat → Nat) (cI cB cJ cZ cQ : ClassId) (N sz : Nat) (a : Nat → Nat) (v : Nat → Value) (hv_5 : v 5 = .ref (a 110)) (hv_6 : v 6 = .ref (a 111)) (v1 : Int32) (v2 : Int32) (s : ms) (y : (Unit × ms)) (hf : fn_Meaning_beginsWith_Me N v1 v2 s = some y) : Met l yn_Meaning_beginsWith (xw yn_Meaning_beginsWith bn_Meaning_beginsWith 4 none) ({ frames := 1, cells := 0, slots := 0, locals := 22 }) (dc_P (dC, dI) xcl (xt cI cB cJ cZ cQ) [.ref ((a 104)), .int v1, .int v2] sz (wC a v cI cB cJ cZ cQ s)) (xk_Qv (dC, dI) xcl (xt cI cB cJ cZ cQ) (fun _ : Unit => True) (fun u : Unit => (wC a v cI cB cJ cZ cQ y.2)) (va_A (wC a v cI cB cJ cZ cQ s) sz)) 0 0 (va_A (wC a v cI cB cJ cZ cQ s) sz) := by
  refine dc_of (QA := xk_Qv (dC, dI) xcl (xt cI cB cJ cZ cQ) (fun _ : Unit => True) (fun u : Unit => (wC a v cI cB cJ cZ cQ y.2))) (by decide) (Nat.le_of_ble_eq_true rfl) ?_
  intro p e s0 m below meth c hx hb hml hown hg hr hlocks hin hP hK hN A hA hD hT ls hl
  have hown : s0.vm.findClass rn_Meaning = some m.cls := hown
  obtain ⟨H, hH⟩ : ∃ z, z = s0.heap := ⟨_, rfl⟩
  rw [← hH] at hP
  have hS : va_S A s0.heap H [] := by rw [hH]; exact va_S.rf
  suffices kk : ∀ QQ : State → Prop, QQ = MQ below (xk_Qv (dC, dI) xcl (xt cI cB cJ cZ cQ) (fun _ : Unit => True) (fun u : Unit => (wC a v cI cB cJ cZ cQ y.2)) A) [.ref ((a 104)), .int v1, .int v2].toArray s0 0 0 A → dcC p l e ({ frames := 1, cells := 0, slots := 0, locals := 22 }) s0 m [.ref ((a 104)), .int v1, .int v2].toArray below meth c QQ (dC, dI) A (wC a v cI cB cJ cZ cQ s) 0 4 [(0, .ref ((a 104))), (1, .int v1), (2, .int v2)] [] by
    have k9 := kk _ rfl H [] ls hP hD hS hl
    rw [hH] at k9; exact k9
  clear hP hD hS hl hH H ls
  intro QQ hQQ
  have bl_56 : ∀ (x1 : Int32) (x3 : Int32) (s : ms), bk_Meaning_beginsWith_Me_56 N x1 x3 s = some y → dcC p l e ({ frames := 1, cells := 0, slots := 0, locals := 22 }) s0 m [.ref ((a 104)), .int v1, .int v2].toArray below meth c QQ (dC, dI) A (wC a v cI cB cJ cZ cQ s) 56 4 [(0, .ref ((a 104))), (1, .int x1), (3, .int x3)] [] := by
    intro x1 x3 s hf H locs ls hP hD hS hl
    unfold bk_Meaning_beginsWith_Me_56 at hf
    refine lv_aload_n hx hb dn_Meaning_beginsWith_56 rfl (lv_at hl 0 rfl) ?_
    refine va_get (D := (dC, dI)) (ci := 5) (v := .ref ((a 110))) (C := rn_Meaning) (T := fn_Meaning) (N := 17) hx hb hg in_Meaning hown hK hP 4 rfl rfl 2 (by decide) (hg _ wn_1_186) (fun _ h9 => h9) (congrArg some hv_5) dn_Meaning_beginsWith_57 ?_
    refine va_get (D := (dC, dI)) (ci := 11) (v := .ref ((a 325))) (C := rn_Parts) (T := fn_Parts) (N := 15) hx hb hg in_Parts hown hK hP 10 rfl rfl 4 (by decide) (hg _ wn_2_141) (fun _ h9 => h9) rfl dn_Meaning_beginsWith_60 ?_
    refine lv_iload_n hx hb dn_Meaning_beginsWith_63 rfl (lv_at hl 2 rfl) ?_
    refine lv_aload_n hx hb dn_Meaning_beginsWith_64 rfl (lv_at hl 0 rfl) ?_
    refine va_get (D := (dC, dI)) (ci := 5) (v := .ref ((a 111))) (C := rn_Meaning) (T := fn_Meaning) (N := 17) hx hb hg in_Meaning hown hK hP 4 rfl rfl 3 (by decide) (hg _ wn_1_187) (fun _ h9 => h9) (congrArg some hv_6) dn_Meaning_beginsWith_65 ?_
    refine lv_iload_n hx hb dn_Meaning_beginsWith_68 rfl (lv_at hl 1 rfl) ?_
    obtain ⟨q_1, hc_2, hf⟩ := dc_b hf
    refine dc_calll (dc_runV (ar := 1) (As := [.int x1]) (rest := [.int x3, .ref ((a 325))]) (ci := 12) (q0 := 11) ⟨hx, hb, hml, hown, hg⟩ hK hN hT hS hA (ct_Code_valueOf_Ks l dC dI cI cB cJ cZ cQ N H.size a v x1 s q_1 hc_2) hP hD rfl rfl wn_5_18 wn_5_19 wn_5_20 wn_1_12 wn_5_21 rfl rfl (by decide +kernel) ⟨Nat.le_of_ble_eq_true rfl, Nat.le_of_ble_eq_true rfl⟩ rfl hl.1 rfl (Nat.le_of_ble_eq_true rfl) dn_Meaning_beginsWith_69 ⟨Nat.le_of_ble_eq_true rfl, Nat.le_of_ble_eq_true rfl⟩) hP hD hS hA (fun r_3 _ H locs hw hP hD hS => ?_)
    have hw : r_3 = q_1.1 := hw
    subst hw
    obtain ⟨hg_4, hf⟩ := dc_g hf
    refine va_last hx hb hK hP hD hS 64 2 rfl rfl hg_4 dn_Meaning_beginsWith_72 (fun H locs hP hD hS => ?_)
    have hP : va_P (dC, dI) xcl ((wC a v cI cB cJ cZ cQ q_1.2).set 64 ((a 325), .inl (cJ, 10923, .inr (.inl (vp_updL (q_1.2.2 325) (Int32.toNatClampNeg x3) q_1.1))))) H := hP
    have hD : va_D A ((wC a v cI cB cJ cZ cQ q_1.2).set 64 ((a 325), .inl (cJ, 10923, .inr (.inl (vp_updL (q_1.2.2 325) (Int32.toNatClampNeg x3) q_1.1))))) := hD
    have hP := wC_P_325 hP
    have hD := wC_D_325 hD
    rw [hQQ, ← Option.some.inj hf]
    exact xk_vret (w1 := fun u : Unit => (wC a v cI cB cJ cZ cQ (upJ q_1.2 325 (vp_updL (q_1.2.2 325) (Int32.toNatClampNeg x3) q_1.1)))) () hx hb hr hlocks hK hS dn_Meaning_beginsWith_73 hP hD trivial (Nat.le_refl _) (Nat.le_refl _)
  intro H locs ls hP hD hS hl
  unfold fn_Meaning_beginsWith_Me at hf
  refine lv_aload_n hx hb dn_Meaning_beginsWith_0 rfl (lv_at hl 0 rfl) ?_
  refine va_get (D := (dC, dI)) (ci := 5) (v := .ref ((a 103))) (C := rn_Meaning) (T := fn_Meaning) (N := 17) hx hb hg in_Meaning hown hK hP 4 rfl rfl 0 (by decide) (hg _ wn_1_184) (fun _ h9 => h9) rfl dn_Meaning_beginsWith_1 ?_
  obtain ⟨q_1, hc_2, hf⟩ := dc_b hf
  refine dc_calli (dc_runV (ar := 0) (As := []) (rest := []) (ci := 4) (q0 := 3) ⟨hx, hb, hml, hown, hg⟩ hK hN hT hS hA (ct_Checker_isOff_Ch l dC dI cI cB cJ cZ cQ N H.size a v s q_1 hc_2) hP hD rfl rfl wn_4_193 wn_4_194 wn_4_195 wn_1_4 wn_4_196 rfl rfl (by decide +kernel) ⟨Nat.le_of_ble_eq_true rfl, Nat.le_of_ble_eq_true rfl⟩ rfl hl.1 rfl (Nat.le_of_ble_eq_true rfl) dn_Meaning_beginsWith_4 ⟨Nat.le_of_ble_eq_true rfl, Nat.le_of_ble_eq_true rfl⟩) hP hD hS hA (fun r_3 _ H locs hw hP hD hS => ?_)
  have hw : r_3 = q_1.1 := hw
  subst hw
  refine lv_if_eq (tgt := 11) hx hb dn_Meaning_beginsWith_7 (by decide) (fun h => ?_) (fun h => ?_)
  · have hf := (if_pos h).symm.trans hf
    refine lv_aload_n hx hb dn_Meaning_beginsWith_11 rfl (lv_at hl 0 rfl) ?_
    refine va_get (D := (dC, dI)) (ci := 5) (v := .ref ((a 110))) (C := rn_Meaning) (T := fn_Meaning) (N := 17) hx hb hg in_Meaning hown hK hP 4 rfl rfl 2 (by decide) (hg _ wn_1_186) (fun _ h9 => h9) (congrArg some hv_5) dn_Meaning_beginsWith_12 ?_
    refine va_get (D := (dC, dI)) (ci := 11) (v := .int ((q_1.2.1 321 0))) (C := rn_Parts) (T := fn_Parts) (N := 15) hx hb hg in_Parts hown hK hP 10 rfl rfl 0 (by decide) (hg _ wn_2_126) (fun _ h9 => h9) rfl dn_Meaning_beginsWith_15 ?_
    refine lv_iconst (v := 1) hx hb dn_Meaning_beginsWith_18 (by decide) ?_
    refine lv_isub hx hb dn_Meaning_beginsWith_19 ?_
    refine lv_istore_n (lv' := [(3, .int (((q_1.2.1 321 0) - 1))), (0, .ref ((a 104))), (1, .int v1), (2, .int v2)]) hx hb dn_Meaning_beginsWith_20 rfl hl (by decide) rfl (fun ls hl => ?_)
    refine lv_iload_n hx hb dn_Meaning_beginsWith_21 rfl (lv_at hl 0 rfl) ?_
    refine lv_if_ge (tgt := 26) hx hb dn_Meaning_beginsWith_22 (by decide) (fun h => ?_) (fun h => ?_)
    · have hf := (if_pos h).symm.trans hf
      refine lv_aload_n hx hb dn_Meaning_beginsWith_26 rfl (lv_at hl 1 rfl) ?_
      refine va_get (D := (dC, dI)) (ci := 5) (v := .ref ((a 111))) (C := rn_Meaning) (T := fn_Meaning) (N := 17) hx hb hg in_Meaning hown hK hP 4 rfl rfl 3 (by decide) (hg _ wn_1_187) (fun _ h9 => h9) (congrArg some hv_6) dn_Meaning_beginsWith_27 ?_
      refine lv_iload_n hx hb dn_Meaning_beginsWith_30 rfl (lv_at hl 2 rfl) ?_
      obtain ⟨q_4, hc_5, hf⟩ := dc_b hf
      refine dc_calli (dc_runV (ar := 1) (As := [.int v1]) (rest := []) (ci := 12) (q0 := 11) ⟨hx, hb, hml, hown, hg⟩ hK hN hT hS hA (ct_Code_widthOf_Ks l dC dI cI cB cJ cZ cQ N H.size a v v1 q_1.2 q_4 hc_5) hP hD rfl rfl wn_5_14 wn_5_15 wn_5_16 wn_1_12 wn_5_17 rfl rfl (by decide +kernel) ⟨Nat.le_of_ble_eq_true rfl, Nat.le_of_ble_eq_true rfl⟩ rfl hl.1 rfl (Nat.le_of_ble_eq_true rfl) dn_Meaning_beginsWith_31 ⟨Nat.le_of_ble_eq_true rfl, Nat.le_of_ble_eq_true rfl⟩) hP hD hS hA (fun r_6 _ H locs hw hP hD hS => ?_)
      have hw : r_6 = q_4.1 := hw
      subst hw
      refine lv_aload_n hx hb dn_Meaning_beginsWith_34 rfl (lv_at hl 1 rfl) ?_
      refine va_get (D := (dC, dI)) (ci := 5) (v := .ref ((a 110))) (C := rn_Meaning) (T := fn_Meaning) (N := 17) hx hb hg in_Meaning hown hK hP 4 rfl rfl 2 (by decide) (hg _ wn_1_186) (fun _ h9 => h9) (congrArg some hv_5) dn_Meaning_beginsWith_35 ?_
      refine va_get (D := (dC, dI)) (ci := 11) (v := .ref ((a 323))) (C := rn_Parts) (T := fn_Parts) (N := 15) hx hb hg in_Parts hown hK hP 10 rfl rfl 2 (by decide) (hg _ wn_2_131) (fun _ h9 => h9) rfl dn_Meaning_beginsWith_38 ?_
      refine lv_iload_n hx hb dn_Meaning_beginsWith_41 rfl (lv_at hl 0 rfl) ?_
      obtain ⟨hg_7, hf⟩ := dc_g hf
      refine va_iald hx hb hK hP 62 0 rfl rfl hg_7 dn_Meaning_beginsWith_42 ?_
      refine xk_ti (y := ((q_4.2.1 323) (Int32.toNatClampNeg (((q_1.2.1 321 0) - 1))))) rfl ?_
      refine lv_icmp_eq (tgt := 56) hx hb dn_Meaning_beginsWith_43 (by decide) (fun h => ?_) (fun h => ?_)
      · have hf := (if_pos h).symm.trans hf
        exact bl_56 v1 (((q_1.2.1 321 0) - 1)) q_4.2 hf H locs ls hP hD hS (lv_sub hl [1, 2, 0] rfl)
      · have hf := (if_neg h).symm.trans hf
        refine lv_aload_n hx hb dn_Meaning_beginsWith_46 rfl (lv_at hl 1 rfl) ?_
        refine va_get (D := (dC, dI)) (ci := 5) (v := .ref ((a 103))) (C := rn_Meaning) (T := fn_Meaning) (N := 17) hx hb hg in_Meaning hown hK hP 4 rfl rfl 0 (by decide) (hg _ wn_1_184) (fun _ h9 => h9) rfl dn_Meaning_beginsWith_47 ?_
        refine lv_bipush (v := 30) hx hb dn_Meaning_beginsWith_50 (by decide) ?_
        refine lv_iload_n hx hb dn_Meaning_beginsWith_52 rfl (lv_at hl 3 rfl) ?_
        obtain ⟨q_8, hc_9, hf⟩ := dc_b hf
        refine dc_callv (dc_runV (ar := 2) (As := [.int 30, .int v2]) (rest := []) (ci := 4) (q0 := 3) ⟨hx, hb, hml, hown, hg⟩ hK hN hT hS hA (ct_Checker_refuse_Ch l dC dI cI cB cJ cZ cQ N H.size a v 30 v2 q_4.2 q_8 hc_9) hP hD rfl rfl wn_4_201 wn_4_202 wn_4_203 wn_1_4 wn_4_204 rfl rfl (by decide +kernel) ⟨Nat.le_of_ble_eq_true rfl, Nat.le_of_ble_eq_true rfl⟩ rfl hl.1 rfl (Nat.le_of_ble_eq_true rfl) dn_Meaning_beginsWith_53 ⟨Nat.le_of_ble_eq_true rfl, Nat.le_of_ble_eq_true rfl⟩) hP hD hS hA (fun _ H locs hw hP hD hS => ?_)
        exact bl_56 v1 (((q_1.2.1 321 0) - 1)) q_8.2 hf H locs ls hP hD hS (lv_sub hl [1, 2, 0] rfl)
    · have hf := (if_neg h).symm.trans hf
      rw [hQQ, ← Option.some.inj hf]
      exact xk_vret (w1 := fun u : Unit => (wC a v cI cB cJ cZ cQ q_1.2)) () hx hb hr hlocks hK hS dn_Meaning_beginsWith_25 hP hD trivial (Nat.le_refl _) (Nat.le_refl _)
  · have hf := (if_neg h).symm.trans hf
    rw [hQQ, ← Option.some.inj hf]
    exact xk_vret (w1 := fun u : Unit => (wC a v cI cB cJ cZ cQ q_1.2)) () hx hb hr hlocks hK hS dn_Meaning_beginsWith_10 hP hD trivial (Nat.le_refl _) (Nat.le_refl _)
set_option maxHeartbeats 8000000 in
set_option maxRecDepth 100000 in
theorem ct_Grammar_declaration_Gr (l : Launch) (dC : Nat → ClassId) (dI : Nat → Nat → Nat) (cI cB cJ cZ cQ : ClassId) (N sz : Nat) (a : Nat → Nat) (v : Nat → Value) (hv_5 : v 5 = .ref (a 110)) (hv_6 : v 6 = .ref (a 111)) (v1 : Int32) (s : ms) (y : (Unit × ms)) (hf : fn_Grammar_declaration_Gr N v1 s = some y) : Met l yn_Grammar_declaration (xw yn_Grammar_declaration bn_Grammar_declaration 5 none) ({ frames := 3, cells := 0, slots := 0, locals := 62 }) (dc_P (dC, dI) xcl (xt cI cB cJ cZ cQ) [.ref ((a 105)), .int v1] sz (wC a v cI cB cJ cZ cQ s)) (xk_Qv (dC, dI) xcl (xt cI cB cJ cZ cQ) (fun _ : Unit => True) (fun u : Unit => (wC a v cI cB cJ cZ cQ y.2)) (va_A (wC a v cI cB cJ cZ cQ s) sz)) 0 0 (va_A (wC a v cI cB cJ cZ cQ s) sz) := by
  refine dc_of (QA := xk_Qv (dC, dI) xcl (xt cI cB cJ cZ cQ) (fun _ : Unit => True) (fun u : Unit => (wC a v cI cB cJ cZ cQ y.2))) (by decide) (Nat.le_of_ble_eq_true rfl) ?_
  intro p e s0 m below meth c hx hb hml hown hg hr hlocks hin hP hK hN A hA hD hT ls hl
  have hown : s0.vm.findClass rn_Grammar = some m.cls := hown
  obtain ⟨H, hH⟩ : ∃ z, z = s0.heap := ⟨_, rfl⟩
  rw [← hH] at hP
  have hS : va_S A s0.heap H [] := by rw [hH]; exact va_S.rf
  suffices kk : ∀ QQ : State → Prop, QQ = MQ below (xk_Qv (dC, dI) xcl (xt cI cB cJ cZ cQ) (fun _ : Unit => True) (fun u : Unit => (wC a v cI cB cJ cZ cQ y.2)) A) [.ref ((a 105)), .int v1].toArray s0 0 0 A → dcC p l e ({ frames := 3, cells := 0, slots := 0, locals := 62 }) s0 m [.ref ((a 105)), .int v1].toArray below meth c QQ (dC, dI) A (wC a v cI cB cJ cZ cQ s) 0 5 [(0, .ref ((a 105))), (1, .int v1)] [] by
    have k9 := kk _ rfl H [] ls hP hD hS hl
    rw [hH] at k9; exact k9
  clear hP hD hS hl hH H ls
  intro QQ hQQ
  have bl_188 : ∀ (s : ms), bk_Grammar_declaration_Gr_188 N s = some y → dcC p l e ({ frames := 3, cells := 0, slots := 0, locals := 62 }) s0 m [.ref ((a 105)), .int v1].toArray below meth c QQ (dC, dI) A (wC a v cI cB cJ cZ cQ s) 188 5 [(0, .ref ((a 105)))] [] := by
    intro s hf H locs ls hP hD hS hl
    unfold bk_Grammar_declaration_Gr_188 at hf
    refine lv_aload_n hx hb dn_Grammar_declaration_188 rfl (lv_at hl 0 rfl) ?_
    refine va_get (D := (dC, dI)) (ci := 6) (v := .ref ((a 101))) (C := rn_Grammar) (T := fn_Grammar) (N := 15) hx hb hg in_Grammar hown hK hP 5 rfl rfl 0 (by decide) (hg _ wn_2_0) (fun _ h9 => h9) rfl dn_Grammar_declaration_189 ?_
    obtain ⟨q_1, hc_2, hf⟩ := dc_b hf
    refine dc_callv (dc_runV (ar := 0) (As := []) (rest := []) (ci := 2) (q0 := 1) ⟨hx, hb, hml, hown, hg⟩ hK hN hT hS hA (ct_Tokens_take_Tk l dC dI cI cB cJ cZ cQ N H.size a v s q_1 hc_2) hP hD rfl rfl wn_4_213 wn_4_149 wn_4_150 wn_1_2 wn_4_151 rfl rfl (by decide +kernel) ⟨Nat.le_of_ble_eq_true rfl, Nat.le_of_ble_eq_true rfl⟩ rfl hl.1 rfl (Nat.le_of_ble_eq_true rfl) dn_Grammar_declaration_192 ⟨Nat.le_of_ble_eq_true rfl, Nat.le_of_ble_eq_true rfl⟩) hP hD hS hA (fun _ H locs hw hP hD hS => ?_)
    rw [hQQ, ← Option.some.inj hf]
    exact xk_vret (w1 := fun u : Unit => (wC a v cI cB cJ cZ cQ q_1.2)) () hx hb hr hlocks hK hS dn_Grammar_declaration_195 hP hD trivial (Nat.le_refl _) (Nat.le_refl _)
  have bl_124 : ∀ (x1 : Int32) (s : ms), bk_Grammar_declaration_Gr_124 N x1 s = some y → dcC p l e ({ frames := 3, cells := 0, slots := 0, locals := 62 }) s0 m [.ref ((a 105)), .int v1].toArray below meth c QQ (dC, dI) A (wC a v cI cB cJ cZ cQ s) 124 5 [(0, .ref ((a 105))), (1, .int x1)] [] := by
    intro x1 s hf H locs ls hP hD hS hl
    unfold bk_Grammar_declaration_Gr_124 at hf
    refine lv_aload_n hx hb dn_Grammar_declaration_124 rfl (lv_at hl 0 rfl) ?_
    refine va_get (D := (dC, dI)) (ci := 6) (v := .ref ((a 101))) (C := rn_Grammar) (T := fn_Grammar) (N := 15) hx hb hg in_Grammar hown hK hP 5 rfl rfl 0 (by decide) (hg _ wn_2_0) (fun _ h9 => h9) rfl dn_Grammar_declaration_125 ?_
    obtain ⟨q_1, hc_2, hf⟩ := dc_b hf
    refine dc_callv (dc_runV (ar := 0) (As := []) (rest := []) (ci := 2) (q0 := 1) ⟨hx, hb, hml, hown, hg⟩ hK hN hT hS hA (ct_Tokens_take_Tk l dC dI cI cB cJ cZ cQ N H.size a v s q_1 hc_2) hP hD rfl rfl wn_4_213 wn_4_149 wn_4_150 wn_1_2 wn_4_151 rfl rfl (by decide +kernel) ⟨Nat.le_of_ble_eq_true rfl, Nat.le_of_ble_eq_true rfl⟩ rfl hl.1 rfl (Nat.le_of_ble_eq_true rfl) dn_Grammar_declaration_128 ⟨Nat.le_of_ble_eq_true rfl, Nat.le_of_ble_eq_true rfl⟩) hP hD hS hA (fun _ H locs hw hP hD hS => ?_)
    refine lv_iload_n hx hb dn_Grammar_declaration_131 rfl (lv_at hl 1 rfl) ?_
    refine lv_iconst (v := 2) hx hb dn_Grammar_declaration_132 (by decide) ?_
    refine lv_icmp_ne (tgt := 148) hx hb dn_Grammar_declaration_133 (by decide) (fun h => ?_) (fun h => ?_)
    · have hf := (if_neg h).symm.trans hf
      rw [hQQ, ← Option.some.inj hf]
      exact xk_vret (w1 := fun u : Unit => (wC a v cI cB cJ cZ cQ q_1.2)) () hx hb hr hlocks hK hS dn_Grammar_declaration_148 hP hD trivial (Nat.le_refl _) (Nat.le_refl _)
    · have hf := (if_pos h).symm.trans hf
      refine lv_aload_n hx hb dn_Grammar_declaration_136 rfl (lv_at hl 0 rfl) ?_
      refine va_get (D := (dC, dI)) (ci := 6) (v := .ref ((a 101))) (C := rn_Grammar) (T := fn_Grammar) (N := 15) hx hb hg in_Grammar hown hK hP 5 rfl rfl 0 (by decide) (hg _ wn_2_0) (fun _ h9 => h9) rfl dn_Grammar_declaration_137 ?_
      refine va_get (D := (dC, dI)) (ci := 2) (v := .int ((q_1.2.1 214 0))) (C := rn_Tokens) (T := fn_Tokens) (N := 9) hx hb hg in_Tokens hown hK hP 1 rfl rfl 3 (by decide) (hg _ wn_1_50) (fun _ h9 => h9) rfl dn_Grammar_declaration_140 ?_
      refine lv_bipush (v := 61) hx hb dn_Grammar_declaration_143 (by decide) ?_
      refine lv_icmp_eq (tgt := 149) hx hb dn_Grammar_declaration_145 (by decide) (fun h => ?_) (fun h => ?_)
      · have hf := (if_pos h).symm.trans hf
        refine lv_aload_n hx hb dn_Grammar_declaration_149 rfl (lv_at hl 0 rfl) ?_
        refine va_get (D := (dC, dI)) (ci := 6) (v := .ref ((a 101))) (C := rn_Grammar) (T := fn_Grammar) (N := 15) hx hb hg in_Grammar hown hK hP 5 rfl rfl 0 (by decide) (hg _ wn_2_0) (fun _ h9 => h9) rfl dn_Grammar_declaration_150 ?_
        obtain ⟨q_3, hc_4, hf⟩ := dc_b hf
        refine dc_callv (dc_runV (ar := 0) (As := []) (rest := []) (ci := 2) (q0 := 1) ⟨hx, hb, hml, hown, hg⟩ hK hN hT hS hA (ct_Tokens_take_Tk l dC dI cI cB cJ cZ cQ N H.size a v q_1.2 q_3 hc_4) hP hD rfl rfl wn_4_213 wn_4_149 wn_4_150 wn_1_2 wn_4_151 rfl rfl (by decide +kernel) ⟨Nat.le_of_ble_eq_true rfl, Nat.le_of_ble_eq_true rfl⟩ rfl hl.1 rfl (Nat.le_of_ble_eq_true rfl) dn_Grammar_declaration_153 ⟨Nat.le_of_ble_eq_true rfl, Nat.le_of_ble_eq_true rfl⟩) hP hD hS hA (fun _ H locs hw hP hD hS => ?_)
        refine lv_aload_n hx hb dn_Grammar_declaration_156 rfl (lv_at hl 0 rfl) ?_
        refine va_get (D := (dC, dI)) (ci := 6) (v := .ref ((a 101))) (C := rn_Grammar) (T := fn_Grammar) (N := 15) hx hb hg in_Grammar hown hK hP 5 rfl rfl 0 (by decide) (hg _ wn_2_0) (fun _ h9 => h9) rfl dn_Grammar_declaration_157 ?_
        refine lv_iconst (v := 4) hx hb dn_Grammar_declaration_160 (by decide) ?_
        obtain ⟨q_5, hc_6, hf⟩ := dc_b hf
        refine dc_calli (dc_runV (ar := 1) (As := [.int 4]) (rest := []) (ci := 2) (q0 := 1) ⟨hx, hb, hml, hown, hg⟩ hK hN hT hS hA (ct_Tokens_due_Tk l dC dI cI cB cJ cZ cQ N H.size a v 4 q_3.2 q_5 hc_6) hP hD rfl rfl wn_4_185 wn_4_186 wn_4_187 wn_1_2 wn_4_188 rfl rfl (by decide +kernel) ⟨Nat.le_of_ble_eq_true rfl, Nat.le_of_ble_eq_true rfl⟩ rfl hl.1 rfl (Nat.le_of_ble_eq_true rfl) dn_Grammar_declaration_161 ⟨Nat.le_of_ble_eq_true rfl, Nat.le_of_ble_eq_true rfl⟩) hP hD hS hA (fun r_7 _ H locs hw hP hD hS => ?_)
        have hw : r_7 = q_5.1 := hw
        subst hw
        refine lv_if_eq (tgt := 188) hx hb dn_Grammar_declaration_164 (by decide) (fun h => ?_) (fun h => ?_)
        · have hf := (if_pos h).symm.trans hf
          exact bl_188 q_5.2 hf H locs ls hP hD hS (lv_sub hl [0] rfl)
        · have hf := (if_neg h).symm.trans hf
          refine lv_aload_n hx hb dn_Grammar_declaration_167 rfl (lv_at hl 0 rfl) ?_
          refine va_get (D := (dC, dI)) (ci := 6) (v := .ref ((a 104))) (C := rn_Grammar) (T := fn_Grammar) (N := 15) hx hb hg in_Grammar hown hK hP 5 rfl rfl 2 (by decide) (hg _ wn_2_2) (fun _ h9 => h9) rfl dn_Grammar_declaration_168 ?_
          refine lv_aload_n hx hb dn_Grammar_declaration_171 rfl (lv_at hl 0 rfl) ?_
          refine va_get (D := (dC, dI)) (ci := 6) (v := .ref ((a 101))) (C := rn_Grammar) (T := fn_Grammar) (N := 15) hx hb hg in_Grammar hown hK hP 5 rfl rfl 0 (by decide) (hg _ wn_2_0) (fun _ h9 => h9) rfl dn_Grammar_declaration_172 ?_
          refine va_get (D := (dC, dI)) (ci := 2) (v := .int ((q_5.2.1 216 0))) (C := rn_Tokens) (T := fn_Tokens) (N := 9) hx hb hg in_Tokens hown hK hP 1 rfl rfl 5 (by decide) (hg _ wn_1_54) (fun _ h9 => h9) rfl dn_Grammar_declaration_175 ?_
          refine lv_aload_n hx hb dn_Grammar_declaration_178 rfl (lv_at hl 0 rfl) ?_
          refine va_get (D := (dC, dI)) (ci := 6) (v := .ref ((a 101))) (C := rn_Grammar) (T := fn_Grammar) (N := 15) hx hb hg in_Grammar hown hK hP 5 rfl rfl 0 (by decide) (hg _ wn_2_0) (fun _ h9 => h9) rfl dn_Grammar_declaration_179 ?_
          refine va_get (D := (dC, dI)) (ci := 2) (v := .int ((q_5.2.1 215 0))) (C := rn_Tokens) (T := fn_Tokens) (N := 9) hx hb hg in_Tokens hown hK hP 1 rfl rfl 4 (by decide) (hg _ wn_1_52) (fun _ h9 => h9) rfl dn_Grammar_declaration_182 ?_
          obtain ⟨q_8, hc_9, hf⟩ := dc_b hf
          refine dc_callv (dc_runV (ar := 2) (As := [.int ((q_5.2.1 216 0)), .int ((q_5.2.1 215 0))]) (rest := []) (ci := 5) (q0 := 4) ⟨hx, hb, hml, hown, hg⟩ hK hN hT hS hA (ct_Meaning_beginsWith_Me l dC dI cI cB cJ cZ cQ N H.size a v hv_5 hv_6 ((q_5.2.1 216 0)) ((q_5.2.1 215 0)) q_5.2 q_8 hc_9) hP hD rfl rfl wn_5_10 wn_5_11 wn_5_12 wn_1_6 wn_5_13 rfl rfl (by decide +kernel) ⟨Nat.le_of_ble_eq_true rfl, Nat.le_of_ble_eq_true rfl⟩ rfl hl.1 rfl (Nat.le_of_ble_eq_true rfl) dn_Grammar_declaration_185 ⟨Nat.le_of_ble_eq_true rfl, Nat.le_of_ble_eq_true rfl⟩) hP hD hS hA (fun _ H locs hw hP hD hS => ?_)
          exact bl_188 q_8.2 hf H locs ls hP hD hS (lv_sub hl [0] rfl)
      · have hf := (if_neg h).symm.trans hf
        rw [hQQ, ← Option.some.inj hf]
        exact xk_vret (w1 := fun u : Unit => (wC a v cI cB cJ cZ cQ q_1.2)) () hx hb hr hlocks hK hS dn_Grammar_declaration_148 hP hD trivial (Nat.le_refl _) (Nat.le_refl _)
  have bl_91 : ∀ (x1 : Int32) (s : ms), bk_Grammar_declaration_Gr_91 N x1 s = some y → dcC p l e ({ frames := 3, cells := 0, slots := 0, locals := 62 }) s0 m [.ref ((a 105)), .int v1].toArray below meth c QQ (dC, dI) A (wC a v cI cB cJ cZ cQ s) 91 5 [(0, .ref ((a 105))), (1, .int x1)] [] := by
    intro x1 s hf H locs ls hP hD hS hl
    unfold bk_Grammar_declaration_Gr_91 at hf
    refine lv_aload_n hx hb dn_Grammar_declaration_91 rfl (lv_at hl 0 rfl) ?_
    refine va_get (D := (dC, dI)) (ci := 6) (v := .ref ((a 101))) (C := rn_Grammar) (T := fn_Grammar) (N := 15) hx hb hg in_Grammar hown hK hP 5 rfl rfl 0 (by decide) (hg _ wn_2_0) (fun _ h9 => h9) rfl dn_Grammar_declaration_92 ?_
    refine lv_iconst (v := 2) hx hb dn_Grammar_declaration_95 (by decide) ?_
    obtain ⟨q_1, hc_2, hf⟩ := dc_b hf
    refine dc_calli (dc_runV (ar := 1) (As := [.int 2]) (rest := []) (ci := 2) (q0 := 1) ⟨hx, hb, hml, hown, hg⟩ hK hN hT hS hA (ct_Tokens_due_Tk l dC dI cI cB cJ cZ cQ N H.size a v 2 s q_1 hc_2) hP hD rfl rfl wn_4_185 wn_4_186 wn_4_187 wn_1_2 wn_4_188 rfl rfl (by decide +kernel) ⟨Nat.le_of_ble_eq_true rfl, Nat.le_of_ble_eq_true rfl⟩ rfl hl.1 rfl (Nat.le_of_ble_eq_true rfl) dn_Grammar_declaration_96 ⟨Nat.le_of_ble_eq_true rfl, Nat.le_of_ble_eq_true rfl⟩) hP hD hS hA (fun r_3 _ H locs hw hP hD hS => ?_)
    have hw : r_3 = q_1.1 := hw
    subst hw
    refine lv_if_eq (tgt := 124) hx hb dn_Grammar_declaration_99 (by decide) (fun h => ?_) (fun h => ?_)
    · have hf := (if_pos h).symm.trans hf
      exact bl_124 x1 q_1.2 hf H locs ls hP hD hS hl
    · have hf := (if_neg h).symm.trans hf
      refine lv_aload_n hx hb dn_Grammar_declaration_102 rfl (lv_at hl 0 rfl) ?_
      refine va_get (D := (dC, dI)) (ci := 6) (v := .ref ((a 104))) (C := rn_Grammar) (T := fn_Grammar) (N := 15) hx hb hg in_Grammar hown hK hP 5 rfl rfl 2 (by decide) (hg _ wn_2_2) (fun _ h9 => h9) rfl dn_Grammar_declaration_103 ?_
      refine lv_iload_n hx hb dn_Grammar_declaration_106 rfl (lv_at hl 1 rfl) ?_
      refine lv_aload_n hx hb dn_Grammar_declaration_107 rfl (lv_at hl 0 rfl) ?_
      refine va_get (D := (dC, dI)) (ci := 6) (v := .ref ((a 101))) (C := rn_Grammar) (T := fn_Grammar) (N := 15) hx hb hg in_Grammar hown hK hP 5 rfl rfl 0 (by decide) (hg _ wn_2_0) (fun _ h9 => h9) rfl dn_Grammar_declaration_108 ?_
      refine va_get (D := (dC, dI)) (ci := 2) (v := .int ((q_1.2.1 216 0))) (C := rn_Tokens) (T := fn_Tokens) (N := 9) hx hb hg in_Tokens hown hK hP 1 rfl rfl 5 (by decide) (hg _ wn_1_54) (fun _ h9 => h9) rfl dn_Grammar_declaration_111 ?_
      refine lv_aload_n hx hb dn_Grammar_declaration_114 rfl (lv_at hl 0 rfl) ?_
      refine va_get (D := (dC, dI)) (ci := 6) (v := .ref ((a 101))) (C := rn_Grammar) (T := fn_Grammar) (N := 15) hx hb hg in_Grammar hown hK hP 5 rfl rfl 0 (by decide) (hg _ wn_2_0) (fun _ h9 => h9) rfl dn_Grammar_declaration_115 ?_
      refine va_get (D := (dC, dI)) (ci := 2) (v := .int ((q_1.2.1 215 0))) (C := rn_Tokens) (T := fn_Tokens) (N := 9) hx hb hg in_Tokens hown hK hP 1 rfl rfl 4 (by decide) (hg _ wn_1_52) (fun _ h9 => h9) rfl dn_Grammar_declaration_118 ?_
      obtain ⟨q_4, hc_5, hf⟩ := dc_b hf
      refine dc_callv (dc_runV (ar := 3) (As := [.int x1, .int ((q_1.2.1 216 0)), .int ((q_1.2.1 215 0))]) (rest := []) (ci := 5) (q0 := 4) ⟨hx, hb, hml, hown, hg⟩ hK hN hT hS hA (ct_Meaning_declare_Me l dC dI cI cB cJ cZ cQ N H.size a v hv_5 x1 ((q_1.2.1 216 0)) ((q_1.2.1 215 0)) q_1.2 q_4 hc_5) hP hD rfl rfl wn_4_234 wn_4_235 wn_4_236 wn_1_6 wn_4_237 rfl rfl (by decide +kernel) ⟨Nat.le_of_ble_eq_true rfl, Nat.le_of_ble_eq_true rfl⟩ rfl hl.1 rfl (Nat.le_of_ble_eq_true rfl) dn_Grammar_declaration_121 ⟨Nat.le_of_ble_eq_true rfl, Nat.le_of_ble_eq_true rfl⟩) hP hD hS hA (fun _ H locs hw hP hD hS => ?_)
      exact bl_124 x1 q_4.2 hf H locs ls hP hD hS hl
  intro H locs ls hP hD hS hl
  unfold fn_Grammar_declaration_Gr at hf
  refine lv_aload_n hx hb dn_Grammar_declaration_0 rfl (lv_at hl 0 rfl) ?_
  refine va_get (D := (dC, dI)) (ci := 6) (v := .ref ((a 101))) (C := rn_Grammar) (T := fn_Grammar) (N := 15) hx hb hg in_Grammar hown hK hP 5 rfl rfl 0 (by decide) (hg _ wn_2_0) (fun _ h9 => h9) rfl dn_Grammar_declaration_1 ?_
  refine va_get (D := (dC, dI)) (ci := 2) (v := .int ((s.1 214 0))) (C := rn_Tokens) (T := fn_Tokens) (N := 9) hx hb hg in_Tokens hown hK hP 1 rfl rfl 3 (by decide) (hg _ wn_1_50) (fun _ h9 => h9) rfl dn_Grammar_declaration_4 ?_
  refine lv_bipush (v := 91) hx hb dn_Grammar_declaration_7 (by decide) ?_
  refine lv_icmp_ne (tgt := 91) hx hb dn_Grammar_declaration_9 (by decide) (fun h => ?_) (fun h => ?_)
  · have hf := (if_neg h).symm.trans hf
    exact bl_91 v1 s hf H locs ls hP hD hS hl
  · have hf := (if_pos h).symm.trans hf
    refine lv_aload_n hx hb dn_Grammar_declaration_12 rfl (lv_at hl 0 rfl) ?_
    refine va_get (D := (dC, dI)) (ci := 6) (v := .ref ((a 101))) (C := rn_Grammar) (T := fn_Grammar) (N := 15) hx hb hg in_Grammar hown hK hP 5 rfl rfl 0 (by decide) (hg _ wn_2_0) (fun _ h9 => h9) rfl dn_Grammar_declaration_13 ?_
    refine va_get (D := (dC, dI)) (ci := 2) (v := .int ((s.1 215 0))) (C := rn_Tokens) (T := fn_Tokens) (N := 9) hx hb hg in_Tokens hown hK hP 1 rfl rfl 4 (by decide) (hg _ wn_1_52) (fun _ h9 => h9) rfl dn_Grammar_declaration_16 ?_
    refine lv_istore_n (lv' := [(2, .int ((s.1 215 0))), (0, .ref ((a 105))), (1, .int v1)]) hx hb dn_Grammar_declaration_19 rfl hl (by decide) rfl (fun ls hl => ?_)
    refine lv_aload_n hx hb dn_Grammar_declaration_20 rfl (lv_at hl 1 rfl) ?_
    refine va_get (D := (dC, dI)) (ci := 6) (v := .ref ((a 101))) (C := rn_Grammar) (T := fn_Grammar) (N := 15) hx hb hg in_Grammar hown hK hP 5 rfl rfl 0 (by decide) (hg _ wn_2_0) (fun _ h9 => h9) rfl dn_Grammar_declaration_21 ?_
    refine lv_bipush (v := 91) hx hb dn_Grammar_declaration_24 (by decide) ?_
    obtain ⟨q_1, hc_2, hf⟩ := dc_b hf
    refine dc_callv (dc_runV (ar := 1) (As := [.int 91]) (rest := []) (ci := 2) (q0 := 1) ⟨hx, hb, hml, hown, hg⟩ hK hN hT hS hA (ct_Tokens_open_Tk l dC dI cI cB cJ cZ cQ N H.size a v 91 s q_1 hc_2) hP hD rfl rfl wn_4_214 wn_4_215 wn_4_216 wn_1_2 wn_4_217 rfl rfl (by decide +kernel) ⟨Nat.le_of_ble_eq_true rfl, Nat.le_of_ble_eq_true rfl⟩ rfl hl.1 rfl (Nat.le_of_ble_eq_true rfl) dn_Grammar_declaration_26 ⟨Nat.le_of_ble_eq_true rfl, Nat.le_of_ble_eq_true rfl⟩) hP hD hS hA (fun _ H locs hw hP hD hS => ?_)
    refine lv_aload_n hx hb dn_Grammar_declaration_29 rfl (lv_at hl 1 rfl) ?_
    refine va_get (D := (dC, dI)) (ci := 6) (v := .ref ((a 101))) (C := rn_Grammar) (T := fn_Grammar) (N := 15) hx hb hg in_Grammar hown hK hP 5 rfl rfl 0 (by decide) (hg _ wn_2_0) (fun _ h9 => h9) rfl dn_Grammar_declaration_30 ?_
    refine va_get (D := (dC, dI)) (ci := 2) (v := .int ((q_1.2.1 216 0))) (C := rn_Tokens) (T := fn_Tokens) (N := 9) hx hb hg in_Tokens hown hK hP 1 rfl rfl 5 (by decide) (hg _ wn_1_54) (fun _ h9 => h9) rfl dn_Grammar_declaration_33 ?_
    refine lv_istore_n (lv' := [(3, .int ((q_1.2.1 216 0))), (2, .int ((s.1 215 0))), (0, .ref ((a 105))), (1, .int v1)]) hx hb dn_Grammar_declaration_36 rfl hl (by decide) rfl (fun ls hl => ?_)
    refine lv_aload_n hx hb dn_Grammar_declaration_37 rfl (lv_at hl 2 rfl) ?_
    refine va_get (D := (dC, dI)) (ci := 6) (v := .ref ((a 101))) (C := rn_Grammar) (T := fn_Grammar) (N := 15) hx hb hg in_Grammar hown hK hP 5 rfl rfl 0 (by decide) (hg _ wn_2_0) (fun _ h9 => h9) rfl dn_Grammar_declaration_38 ?_
    refine lv_iconst (v := 3) hx hb dn_Grammar_declaration_41 (by decide) ?_
    obtain ⟨q_3, hc_4, hf⟩ := dc_b hf
    refine dc_callv (dc_runV (ar := 1) (As := [.int 3]) (rest := []) (ci := 2) (q0 := 1) ⟨hx, hb, hml, hown, hg⟩ hK hN hT hS hA (ct_Tokens_need_Tk l dC dI cI cB cJ cZ cQ N H.size a v 3 q_1.2 q_3 hc_4) hP hD rfl rfl wn_4_173 wn_4_174 wn_4_175 wn_1_2 wn_4_176 rfl rfl (by decide +kernel) ⟨Nat.le_of_ble_eq_true rfl, Nat.le_of_ble_eq_true rfl⟩ rfl hl.1 rfl (Nat.le_of_ble_eq_true rfl) dn_Grammar_declaration_42 ⟨Nat.le_of_ble_eq_true rfl, Nat.le_of_ble_eq_true rfl⟩) hP hD hS hA (fun _ H locs hw hP hD hS => ?_)
    refine lv_aload_n hx hb dn_Grammar_declaration_45 rfl (lv_at hl 2 rfl) ?_
    refine va_get (D := (dC, dI)) (ci := 6) (v := .ref ((a 101))) (C := rn_Grammar) (T := fn_Grammar) (N := 15) hx hb hg in_Grammar hown hK hP 5 rfl rfl 0 (by decide) (hg _ wn_2_0) (fun _ h9 => h9) rfl dn_Grammar_declaration_46 ?_
    refine lv_bipush (v := 58) hx hb dn_Grammar_declaration_49 (by decide) ?_
    obtain ⟨q_5, hc_6, hf⟩ := dc_b hf
    refine dc_callv (dc_runV (ar := 1) (As := [.int 58]) (rest := []) (ci := 2) (q0 := 1) ⟨hx, hb, hml, hown, hg⟩ hK hN hT hS hA (ct_Tokens_need_Tk l dC dI cI cB cJ cZ cQ N H.size a v 58 q_3.2 q_5 hc_6) hP hD rfl rfl wn_4_173 wn_4_174 wn_4_175 wn_1_2 wn_4_176 rfl rfl (by decide +kernel) ⟨Nat.le_of_ble_eq_true rfl, Nat.le_of_ble_eq_true rfl⟩ rfl hl.1 rfl (Nat.le_of_ble_eq_true rfl) dn_Grammar_declaration_51 ⟨Nat.le_of_ble_eq_true rfl, Nat.le_of_ble_eq_true rfl⟩) hP hD hS hA (fun _ H locs hw hP hD hS => ?_)
    refine lv_aload_n hx hb dn_Grammar_declaration_54 rfl (lv_at hl 2 rfl) ?_
    refine va_get (D := (dC, dI)) (ci := 6) (v := .ref ((a 101))) (C := rn_Grammar) (T := fn_Grammar) (N := 15) hx hb hg in_Grammar hown hK hP 5 rfl rfl 0 (by decide) (hg _ wn_2_0) (fun _ h9 => h9) rfl dn_Grammar_declaration_55 ?_
    refine va_get (D := (dC, dI)) (ci := 2) (v := .int ((q_5.2.1 216 0))) (C := rn_Tokens) (T := fn_Tokens) (N := 9) hx hb hg in_Tokens hown hK hP 1 rfl rfl 5 (by decide) (hg _ wn_1_54) (fun _ h9 => h9) rfl dn_Grammar_declaration_58 ?_
    refine lv_istore (lv' := [(4, .int ((q_5.2.1 216 0))), (3, .int ((q_1.2.1 216 0))), (2, .int ((s.1 215 0))), (0, .ref ((a 105))), (1, .int v1)]) hx hb dn_Grammar_declaration_61 hl (by decide) rfl (fun ls hl => ?_)
    refine lv_aload_n hx hb dn_Grammar_declaration_63 rfl (lv_at hl 3 rfl) ?_
    refine va_get (D := (dC, dI)) (ci := 6) (v := .ref ((a 101))) (C := rn_Grammar) (T := fn_Grammar) (N := 15) hx hb hg in_Grammar hown hK hP 5 rfl rfl 0 (by decide) (hg _ wn_2_0) (fun _ h9 => h9) rfl dn_Grammar_declaration_64 ?_
    refine lv_iconst (v := 3) hx hb dn_Grammar_declaration_67 (by decide) ?_
    obtain ⟨q_7, hc_8, hf⟩ := dc_b hf
    refine dc_callv (dc_runV (ar := 1) (As := [.int 3]) (rest := []) (ci := 2) (q0 := 1) ⟨hx, hb, hml, hown, hg⟩ hK hN hT hS hA (ct_Tokens_need_Tk l dC dI cI cB cJ cZ cQ N H.size a v 3 q_5.2 q_7 hc_8) hP hD rfl rfl wn_4_173 wn_4_174 wn_4_175 wn_1_2 wn_4_176 rfl rfl (by decide +kernel) ⟨Nat.le_of_ble_eq_true rfl, Nat.le_of_ble_eq_true rfl⟩ rfl hl.1 rfl (Nat.le_of_ble_eq_true rfl) dn_Grammar_declaration_68 ⟨Nat.le_of_ble_eq_true rfl, Nat.le_of_ble_eq_true rfl⟩) hP hD hS hA (fun _ H locs hw hP hD hS => ?_)
    refine lv_aload_n hx hb dn_Grammar_declaration_71 rfl (lv_at hl 3 rfl) ?_
    refine va_get (D := (dC, dI)) (ci := 6) (v := .ref ((a 101))) (C := rn_Grammar) (T := fn_Grammar) (N := 15) hx hb hg in_Grammar hown hK hP 5 rfl rfl 0 (by decide) (hg _ wn_2_0) (fun _ h9 => h9) rfl dn_Grammar_declaration_72 ?_
    refine lv_bipush (v := 93) hx hb dn_Grammar_declaration_75 (by decide) ?_
    obtain ⟨q_9, hc_10, hf⟩ := dc_b hf
    refine dc_callv (dc_runV (ar := 1) (As := [.int 93]) (rest := []) (ci := 2) (q0 := 1) ⟨hx, hb, hml, hown, hg⟩ hK hN hT hS hA (ct_Tokens_shut_Tk l dC dI cI cB cJ cZ cQ N H.size a v 93 q_7.2 q_9 hc_10) hP hD rfl rfl wn_4_226 wn_4_227 wn_4_228 wn_1_2 wn_4_229 rfl rfl (by decide +kernel) ⟨Nat.le_of_ble_eq_true rfl, Nat.le_of_ble_eq_true rfl⟩ rfl hl.1 rfl (Nat.le_of_ble_eq_true rfl) dn_Grammar_declaration_77 ⟨Nat.le_of_ble_eq_true rfl, Nat.le_of_ble_eq_true rfl⟩) hP hD hS hA (fun _ H locs hw hP hD hS => ?_)
    refine lv_aload_n hx hb dn_Grammar_declaration_80 rfl (lv_at hl 3 rfl) ?_
    refine va_get (D := (dC, dI)) (ci := 6) (v := .ref ((a 104))) (C := rn_Grammar) (T := fn_Grammar) (N := 15) hx hb hg in_Grammar hown hK hP 5 rfl rfl 2 (by decide) (hg _ wn_2_2) (fun _ h9 => h9) rfl dn_Grammar_declaration_81 ?_
    refine lv_iload_n hx hb dn_Grammar_declaration_84 rfl (lv_at hl 2 rfl) ?_
    refine lv_iload_n hx hb dn_Grammar_declaration_85 rfl (lv_at hl 1 rfl) ?_
    refine lv_iload hx hb dn_Grammar_declaration_86 (lv_at hl 0 rfl) ?_
    obtain ⟨q_11, hc_12, hf⟩ := dc_b hf
    refine dc_callv (dc_runV (ar := 3) (As := [.int ((s.1 215 0)), .int ((q_1.2.1 216 0)), .int ((q_5.2.1 216 0))]) (rest := []) (ci := 5) (q0 := 4) ⟨hx, hb, hml, hown, hg⟩ hK hN hT hS hA (ct_Meaning_range_Me l dC dI cI cB cJ cZ cQ N H.size a v ((s.1 215 0)) ((q_1.2.1 216 0)) ((q_5.2.1 216 0)) q_9.2 q_11 hc_12) hP hD rfl rfl wn_4_230 wn_4_231 wn_4_232 wn_1_6 wn_4_233 rfl rfl (by decide +kernel) ⟨Nat.le_of_ble_eq_true rfl, Nat.le_of_ble_eq_true rfl⟩ rfl hl.1 rfl (Nat.le_of_ble_eq_true rfl) dn_Grammar_declaration_88 ⟨Nat.le_of_ble_eq_true rfl, Nat.le_of_ble_eq_true rfl⟩) hP hD hS hA (fun _ H locs hw hP hD hS => ?_)
    exact bl_91 v1 q_11.2 hf H locs ls hP hD hS (lv_sub hl [3, 4] rfl)
set_option maxHeartbeats 8000000 in
set_option maxRecDepth 100000 in
theorem ct_Grammar_port_Gr (l : Launch) (dC : Nat → ClassId) (dI : Nat → Nat → Nat) (cI cB cJ cZ cQ : ClassId) (N sz : Nat) (a : Nat → Nat) (v : Nat → Value) (hv_5 : v 5 = .ref (a 110)) (hv_6 : v 6 = .ref (a 111)) (s : ms) (y : (Unit × ms)) (hf : fn_Grammar_port_Gr N s = some y) : Met l yn_Grammar_port (xw yn_Grammar_port bn_Grammar_port 1 none) ({ frames := 4, cells := 0, slots := 0, locals := 86 }) (dc_P (dC, dI) xcl (xt cI cB cJ cZ cQ) [.ref ((a 105))] sz (wC a v cI cB cJ cZ cQ s)) (xk_Qv (dC, dI) xcl (xt cI cB cJ cZ cQ) (fun _ : Unit => True) (fun u : Unit => (wC a v cI cB cJ cZ cQ y.2)) (va_A (wC a v cI cB cJ cZ cQ s) sz)) 0 0 (va_A (wC a v cI cB cJ cZ cQ s) sz) := by
  refine dc_of (QA := xk_Qv (dC, dI) xcl (xt cI cB cJ cZ cQ) (fun _ : Unit => True) (fun u : Unit => (wC a v cI cB cJ cZ cQ y.2))) (by decide) (Nat.le_of_ble_eq_true rfl) ?_
  intro p e s0 m below meth c hx hb hml hown hg hr hlocks hin hP hK hN A hA hD hT ls hl
  have hown : s0.vm.findClass rn_Grammar = some m.cls := hown
  obtain ⟨H, hH⟩ : ∃ z, z = s0.heap := ⟨_, rfl⟩
  rw [← hH] at hP
  have hS : va_S A s0.heap H [] := by rw [hH]; exact va_S.rf
  suffices kk : ∀ QQ : State → Prop, QQ = MQ below (xk_Qv (dC, dI) xcl (xt cI cB cJ cZ cQ) (fun _ : Unit => True) (fun u : Unit => (wC a v cI cB cJ cZ cQ y.2)) A) [.ref ((a 105))].toArray s0 0 0 A → dcC p l e ({ frames := 4, cells := 0, slots := 0, locals := 86 }) s0 m [.ref ((a 105))].toArray below meth c QQ (dC, dI) A (wC a v cI cB cJ cZ cQ s) 0 1 [(0, .ref ((a 105)))] [] by
    have k9 := kk _ rfl H [] ls hP hD hS hl
    rw [hH] at k9; exact k9
  clear hP hD hS hl hH H ls
  intro QQ hQQ
  intro H locs ls hP hD hS hl
  unfold fn_Grammar_port_Gr at hf
  refine lv_aload_n hx hb dn_Grammar_port_0 rfl (lv_at hl 0 rfl) ?_
  refine va_get (D := (dC, dI)) (ci := 6) (v := .ref ((a 101))) (C := rn_Grammar) (T := fn_Grammar) (N := 15) hx hb hg in_Grammar hown hK hP 5 rfl rfl 0 (by decide) (hg _ wn_2_0) (fun _ h9 => h9) rfl dn_Grammar_port_1 ?_
  refine va_get (D := (dC, dI)) (ci := 2) (v := .int ((s.1 214 0))) (C := rn_Tokens) (T := fn_Tokens) (N := 9) hx hb hg in_Tokens hown hK hP 1 rfl rfl 3 (by decide) (hg _ wn_1_50) (fun _ h9 => h9) rfl dn_Grammar_port_4 ?_
  refine lv_sipush (v := 130) hx hb dn_Grammar_port_7 (by decide) ?_
  refine lv_icmp_ne (tgt := 26) hx hb dn_Grammar_port_10 (by decide) (fun h => ?_) (fun h => ?_)
  · have hf := (if_neg h).symm.trans hf
    refine lv_aload_n hx hb dn_Grammar_port_26 rfl (lv_at hl 0 rfl) ?_
    refine va_get (D := (dC, dI)) (ci := 6) (v := .ref ((a 101))) (C := rn_Grammar) (T := fn_Grammar) (N := 15) hx hb hg in_Grammar hown hK hP 5 rfl rfl 0 (by decide) (hg _ wn_2_0) (fun _ h9 => h9) rfl dn_Grammar_port_27 ?_
    refine lv_sipush (v := 131) hx hb dn_Grammar_port_30 (by decide) ?_
    obtain ⟨q_1, hc_2, hf⟩ := dc_b hf
    refine dc_callv (dc_runV (ar := 1) (As := [.int 131]) (rest := []) (ci := 2) (q0 := 1) ⟨hx, hb, hml, hown, hg⟩ hK hN hT hS hA (ct_Tokens_need_Tk l dC dI cI cB cJ cZ cQ N H.size a v 131 s q_1 hc_2) hP hD rfl rfl wn_4_173 wn_4_174 wn_4_175 wn_1_2 wn_4_176 rfl rfl (by decide +kernel) ⟨Nat.le_of_ble_eq_true rfl, Nat.le_of_ble_eq_true rfl⟩ rfl hl.1 rfl (Nat.le_of_ble_eq_true rfl) dn_Grammar_port_33 ⟨Nat.le_of_ble_eq_true rfl, Nat.le_of_ble_eq_true rfl⟩) hP hD hS hA (fun _ H locs hw hP hD hS => ?_)
    refine lv_aload_n hx hb dn_Grammar_port_36 rfl (lv_at hl 0 rfl) ?_
    refine va_get (D := (dC, dI)) (ci := 6) (v := .ref ((a 101))) (C := rn_Grammar) (T := fn_Grammar) (N := 15) hx hb hg in_Grammar hown hK hP 5 rfl rfl 0 (by decide) (hg _ wn_2_0) (fun _ h9 => h9) rfl dn_Grammar_port_37 ?_
    refine va_get (D := (dC, dI)) (ci := 2) (v := .int ((q_1.2.1 214 0))) (C := rn_Tokens) (T := fn_Tokens) (N := 9) hx hb hg in_Tokens hown hK hP 1 rfl rfl 3 (by decide) (hg _ wn_1_50) (fun _ h9 => h9) rfl dn_Grammar_port_40 ?_
    refine lv_sipush (v := 133) hx hb dn_Grammar_port_43 (by decide) ?_
    refine lv_icmp_ne (tgt := 64) hx hb dn_Grammar_port_46 (by decide) (fun h => ?_) (fun h => ?_)
    · have hf := (if_neg h).symm.trans hf
      refine lv_aload_n hx hb dn_Grammar_port_64 rfl (lv_at hl 0 rfl) ?_
      refine lv_iconst (v := 1) hx hb dn_Grammar_port_65 (by decide) ?_
      obtain ⟨q_3, hc_4, hf⟩ := dc_b hf
      refine dc_callv (dc_runV (ar := 1) (As := [.int 1]) (rest := []) (ci := 6) (q0 := 5) ⟨hx, hb, hml, hown, hg⟩ hK hN hT hS hA (ct_Grammar_declaration_Gr l dC dI cI cB cJ cZ cQ N H.size a v hv_5 hv_6 1 q_1.2 q_3 hc_4) hP hD rfl rfl wn_4_222 wn_4_224 sn_Grammar_declaration wn_1_5 wn_4_225 rfl rfl (by decide +kernel) ⟨Nat.le_of_ble_eq_true rfl, Nat.le_of_ble_eq_true rfl⟩ rfl hl.1 rfl (Nat.le_of_ble_eq_true rfl) dn_Grammar_port_66 ⟨Nat.le_of_ble_eq_true rfl, Nat.le_of_ble_eq_true rfl⟩) hP hD hS hA (fun _ H locs hw hP hD hS => ?_)
      rw [hQQ, ← Option.some.inj hf]
      exact xk_vret (w1 := fun u : Unit => (wC a v cI cB cJ cZ cQ q_3.2)) () hx hb hr hlocks hK hS dn_Grammar_port_69 hP hD trivial (Nat.le_refl _) (Nat.le_refl _)
    · have hf := (if_pos h).symm.trans hf
      refine lv_aload_n hx hb dn_Grammar_port_49 rfl (lv_at hl 0 rfl) ?_
      refine va_get (D := (dC, dI)) (ci := 6) (v := .ref ((a 101))) (C := rn_Grammar) (T := fn_Grammar) (N := 15) hx hb hg in_Grammar hown hK hP 5 rfl rfl 0 (by decide) (hg _ wn_2_0) (fun _ h9 => h9) rfl dn_Grammar_port_50 ?_
      obtain ⟨q_3, hc_4, hf⟩ := dc_b hf
      refine dc_callv (dc_runV (ar := 0) (As := []) (rest := []) (ci := 2) (q0 := 1) ⟨hx, hb, hml, hown, hg⟩ hK hN hT hS hA (ct_Tokens_take_Tk l dC dI cI cB cJ cZ cQ N H.size a v q_1.2 q_3 hc_4) hP hD rfl rfl wn_4_213 wn_4_149 wn_4_150 wn_1_2 wn_4_151 rfl rfl (by decide +kernel) ⟨Nat.le_of_ble_eq_true rfl, Nat.le_of_ble_eq_true rfl⟩ rfl hl.1 rfl (Nat.le_of_ble_eq_true rfl) dn_Grammar_port_53 ⟨Nat.le_of_ble_eq_true rfl, Nat.le_of_ble_eq_true rfl⟩) hP hD hS hA (fun _ H locs hw hP hD hS => ?_)
      refine lv_aload_n hx hb dn_Grammar_port_56 rfl (lv_at hl 0 rfl) ?_
      refine lv_iconst (v := 2) hx hb dn_Grammar_port_57 (by decide) ?_
      obtain ⟨q_5, hc_6, hf⟩ := dc_b hf
      refine dc_callv (dc_runV (ar := 1) (As := [.int 2]) (rest := []) (ci := 6) (q0 := 5) ⟨hx, hb, hml, hown, hg⟩ hK hN hT hS hA (ct_Grammar_declaration_Gr l dC dI cI cB cJ cZ cQ N H.size a v hv_5 hv_6 2 q_3.2 q_5 hc_6) hP hD rfl rfl wn_4_222 wn_4_224 sn_Grammar_declaration wn_1_5 wn_4_225 rfl rfl (by decide +kernel) ⟨Nat.le_of_ble_eq_true rfl, Nat.le_of_ble_eq_true rfl⟩ rfl hl.1 rfl (Nat.le_of_ble_eq_true rfl) dn_Grammar_port_58 ⟨Nat.le_of_ble_eq_true rfl, Nat.le_of_ble_eq_true rfl⟩) hP hD hS hA (fun _ H locs hw hP hD hS => ?_)
      refine lv_goto (tgt := 69) hx hb dn_Grammar_port_61 (by decide) ?_
      rw [hQQ, ← Option.some.inj hf]
      exact xk_vret (w1 := fun u : Unit => (wC a v cI cB cJ cZ cQ q_5.2)) () hx hb hr hlocks hK hS dn_Grammar_port_69 hP hD trivial (Nat.le_refl _) (Nat.le_refl _)
  · have hf := (if_pos h).symm.trans hf
    refine lv_aload_n hx hb dn_Grammar_port_13 rfl (lv_at hl 0 rfl) ?_
    refine va_get (D := (dC, dI)) (ci := 6) (v := .ref ((a 101))) (C := rn_Grammar) (T := fn_Grammar) (N := 15) hx hb hg in_Grammar hown hK hP 5 rfl rfl 0 (by decide) (hg _ wn_2_0) (fun _ h9 => h9) rfl dn_Grammar_port_14 ?_
    obtain ⟨q_1, hc_2, hf⟩ := dc_b hf
    refine dc_callv (dc_runV (ar := 0) (As := []) (rest := []) (ci := 2) (q0 := 1) ⟨hx, hb, hml, hown, hg⟩ hK hN hT hS hA (ct_Tokens_take_Tk l dC dI cI cB cJ cZ cQ N H.size a v s q_1 hc_2) hP hD rfl rfl wn_4_213 wn_4_149 wn_4_150 wn_1_2 wn_4_151 rfl rfl (by decide +kernel) ⟨Nat.le_of_ble_eq_true rfl, Nat.le_of_ble_eq_true rfl⟩ rfl hl.1 rfl (Nat.le_of_ble_eq_true rfl) dn_Grammar_port_17 ⟨Nat.le_of_ble_eq_true rfl, Nat.le_of_ble_eq_true rfl⟩) hP hD hS hA (fun _ H locs hw hP hD hS => ?_)
    refine lv_aload_n hx hb dn_Grammar_port_20 rfl (lv_at hl 0 rfl) ?_
    refine lv_iconst (v := 0) hx hb dn_Grammar_port_21 (by decide) ?_
    obtain ⟨q_3, hc_4, hf⟩ := dc_b hf
    refine dc_callv (dc_runV (ar := 1) (As := [.int 0]) (rest := []) (ci := 6) (q0 := 5) ⟨hx, hb, hml, hown, hg⟩ hK hN hT hS hA (ct_Grammar_declaration_Gr l dC dI cI cB cJ cZ cQ N H.size a v hv_5 hv_6 0 q_1.2 q_3 hc_4) hP hD rfl rfl wn_4_222 wn_4_224 sn_Grammar_declaration wn_1_5 wn_4_225 rfl rfl (by decide +kernel) ⟨Nat.le_of_ble_eq_true rfl, Nat.le_of_ble_eq_true rfl⟩ rfl hl.1 rfl (Nat.le_of_ble_eq_true rfl) dn_Grammar_port_22 ⟨Nat.le_of_ble_eq_true rfl, Nat.le_of_ble_eq_true rfl⟩) hP hD hS hA (fun _ H locs hw hP hD hS => ?_)
    rw [hQQ, ← Option.some.inj hf]
    exact xk_vret (w1 := fun u : Unit => (wC a v cI cB cJ cZ cQ q_3.2)) () hx hb hr hlocks hK hS dn_Grammar_port_25 hP hD trivial (Nat.le_refl _) (Nat.le_refl _)
set_option maxHeartbeats 8000000 in
set_option maxRecDepth 100000 in
theorem ct_Design_setPorts_Ds (l : Launch) (dC : Nat → ClassId) (dI : Nat → Nat → Nat) (cI cB cJ cZ cQ : ClassId) (N sz : Nat) (a : Nat → Nat) (v : Nat → Value) (s : ms) (y : (Unit × ms)) (hf : fn_Design_setPorts_Ds N s = some y) : Met l yn_Design_setPorts (xw yn_Design_setPorts bn_Design_setPorts 1 none) ({ frames := 0, cells := 0, slots := 0, locals := 0 }) (dc_P (dC, dI) xcl (xt cI cB cJ cZ cQ) [.ref ((a 109))] sz (wC a v cI cB cJ cZ cQ s)) (xk_Qv (dC, dI) xcl (xt cI cB cJ cZ cQ) (fun _ : Unit => True) (fun u : Unit => (wC a v cI cB cJ cZ cQ y.2)) (va_A (wC a v cI cB cJ cZ cQ s) sz)) 0 0 (va_A (wC a v cI cB cJ cZ cQ s) sz) := by
  refine dc_of (QA := xk_Qv (dC, dI) xcl (xt cI cB cJ cZ cQ) (fun _ : Unit => True) (fun u : Unit => (wC a v cI cB cJ cZ cQ y.2))) (by decide) (Nat.le_of_ble_eq_true rfl) ?_
  intro p e s0 m below meth c hx hb hml hown hg hr hlocks hin hP hK hN A hA hD hT ls hl
  have hown : s0.vm.findClass rn_Design = some m.cls := hown
  obtain ⟨H, hH⟩ : ∃ z, z = s0.heap := ⟨_, rfl⟩
  rw [← hH] at hP
  have hS : va_S A s0.heap H [] := by rw [hH]; exact va_S.rf
  suffices kk : ∀ QQ : State → Prop, QQ = MQ below (xk_Qv (dC, dI) xcl (xt cI cB cJ cZ cQ) (fun _ : Unit => True) (fun u : Unit => (wC a v cI cB cJ cZ cQ y.2)) A) [.ref ((a 109))].toArray s0 0 0 A → dcC p l e ({ frames := 0, cells := 0, slots := 0, locals := 0 }) s0 m [.ref ((a 109))].toArray below meth c QQ (dC, dI) A (wC a v cI cB cJ cZ cQ s) 0 1 [(0, .ref ((a 109)))] [] by
    have k9 := kk _ rfl H [] ls hP hD hS hl
    rw [hH] at k9; exact k9
  clear hP hD hS hl hH H ls
  intro QQ hQQ
  intro H locs ls hP hD hS hl
  unfold fn_Design_setPorts_Ds at hf
  refine lv_aload_n hx hb dn_Design_setPorts_0 rfl (lv_at hl 0 rfl) ?_
  refine va_get (D := (dC, dI)) (ci := 10) (v := .int ((s.1 309 0))) (C := rn_Design) (T := fn_Design) (N := 16) hx hb hg in_Design hown hK hP 9 rfl rfl 4 (by decide) (hg _ wn_3_10) (fun _ h9 => h9) rfl dn_Design_setPorts_1 ?_
  refine lv_if_ne (tgt := 8) hx hb dn_Design_setPorts_4 (by decide) (fun h => ?_) (fun h => ?_)
  · have hf := (if_neg h).symm.trans hf
    refine lv_aload_n hx hb dn_Design_setPorts_8 rfl (lv_at hl 0 rfl) ?_
    refine va_get (D := (dC, dI)) (ci := 10) (v := .ref ((a 313))) (C := rn_Design) (T := fn_Design) (N := 16) hx hb hg in_Design hown hK hP 9 rfl rfl 8 (by decide) (hg _ wn_3_17) (fun _ h9 => h9) rfl dn_Design_setPorts_9 ?_
    refine lv_aload_n hx hb dn_Design_setPorts_12 rfl (lv_at hl 0 rfl) ?_
    refine va_get (D := (dC, dI)) (ci := 10) (v := .int ((s.1 309 0))) (C := rn_Design) (T := fn_Design) (N := 16) hx hb hg in_Design hown hK hP 9 rfl rfl 4 (by decide) (hg _ wn_3_10) (fun _ h9 => h9) rfl dn_Design_setPorts_13 ?_
    refine lv_iconst (v := 1) hx hb dn_Design_setPorts_16 (by decide) ?_
    refine lv_isub hx hb dn_Design_setPorts_17 ?_
    refine lv_aload_n hx hb dn_Design_setPorts_18 rfl (lv_at hl 0 rfl) ?_
    refine va_get (D := (dC, dI)) (ci := 10) (v := .ref ((a 110))) (C := rn_Design) (T := fn_Design) (N := 16) hx hb hg in_Design hown hK hP 9 rfl rfl 0 (by decide) (hg _ wn_2_234) (fun _ h9 => h9) rfl dn_Design_setPorts_19 ?_
    refine va_get (D := (dC, dI)) (ci := 11) (v := .int ((s.1 321 0))) (C := rn_Parts) (T := fn_Parts) (N := 15) hx hb hg in_Parts hown hK hP 10 rfl rfl 0 (by decide) (hg _ wn_2_124) (fun _ h9 => h9) rfl dn_Design_setPorts_22 ?_
    refine lv_aload_n hx hb dn_Design_setPorts_25 rfl (lv_at hl 0 rfl) ?_
    refine va_get (D := (dC, dI)) (ci := 10) (v := .ref ((a 312))) (C := rn_Design) (T := fn_Design) (N := 16) hx hb hg in_Design hown hK hP 9 rfl rfl 7 (by decide) (hg _ wn_3_16) (fun _ h9 => h9) rfl dn_Design_setPorts_26 ?_
    refine lv_aload_n hx hb dn_Design_setPorts_29 rfl (lv_at hl 0 rfl) ?_
    refine va_get (D := (dC, dI)) (ci := 10) (v := .int ((s.1 309 0))) (C := rn_Design) (T := fn_Design) (N := 16) hx hb hg in_Design hown hK hP 9 rfl rfl 4 (by decide) (hg _ wn_3_10) (fun _ h9 => h9) rfl dn_Design_setPorts_30 ?_
    refine lv_iconst (v := 1) hx hb dn_Design_setPorts_33 (by decide) ?_
    refine lv_isub hx hb dn_Design_setPorts_34 ?_
    obtain ⟨hg_1, hf⟩ := dc_g hf
    refine va_iald hx hb hK hP 54 0 rfl rfl hg_1 dn_Design_setPorts_35 ?_
    refine xk_ti (y := ((s.1 312) (Int32.toNatClampNeg (((s.1 309 0) - 1))))) rfl ?_
    refine lv_isub hx hb dn_Design_setPorts_36 ?_
    obtain ⟨hg_2, hf⟩ := dc_g hf
    refine va_iast hx hb hK hP hD hS 55 0 rfl rfl hg_2 dn_Design_setPorts_37 (fun H locs hP hD hS => ?_)
    have hP : va_P (dC, dI) xcl ((wC a v cI cB cJ cZ cQ s).set 55 ((a 313), .inl (cI, 3277, .inl (upd (s.1 313) (Int32.toNatClampNeg (((s.1 309 0) - 1))) (((s.1 321 0) - ((s.1 312) (Int32.toNatClampNeg (((s.1 309 0) - 1)))))))))) H := hP
    have hD : va_D A ((wC a v cI cB cJ cZ cQ s).set 55 ((a 313), .inl (cI, 3277, .inl (upd (s.1 313) (Int32.toNatClampNeg (((s.1 309 0) - 1))) (((s.1 321 0) - ((s.1 312) (Int32.toNatClampNeg (((s.1 309 0) - 1)))))))))) := hD
    have hP := wC_P_313 hP
    have hD := wC_D_313 hD
    rw [hQQ, ← Option.some.inj hf]
    exact xk_vret (w1 := fun u : Unit => (wC a v cI cB cJ cZ cQ (upI s 313 (upd (s.1 313) (Int32.toNatClampNeg (((s.1 309 0) - 1))) (((s.1 321 0) - ((s.1 312) (Int32.toNatClampNeg (((s.1 309 0) - 1)))))))))) () hx hb hr hlocks hK hS dn_Design_setPorts_38 hP hD trivial (Nat.le_refl _) (Nat.le_refl _)
  · have hf := (if_pos h).symm.trans hf
    rw [hQQ, ← Option.some.inj hf]
    exact xk_vret (w1 := fun u : Unit => (wC a v cI cB cJ cZ cQ s)) () hx hb hr hlocks hK hS dn_Design_setPorts_7 hP hD trivial (Nat.le_refl _) (Nat.le_refl _)
set_option maxHeartbeats 8000000 in
set_option maxRecDepth 100000 in
theorem ct_Meaning_portsEnd_Me (l : Launch) (dC : Nat → ClassId) (dI : Nat → Nat → Nat) (cI cB cJ cZ cQ : ClassId) (N sz : Nat) (a : Nat → Nat) (v : Nat → Value) (hv_4 : v 4 = .ref (a 109)) (s : ms) (y : (Unit × ms)) (hf : fn_Meaning_portsEnd_Me N s = some y) : Met l yn_Meaning_portsEnd (xw yn_Meaning_portsEnd bn_Meaning_portsEnd 1 none) ({ frames := 1, cells := 0, slots := 0, locals := 20 }) (dc_P (dC, dI) xcl (xt cI cB cJ cZ cQ) [.ref ((a 104))] sz (wC a v cI cB cJ cZ cQ s)) (xk_Qv (dC, dI) xcl (xt cI cB cJ cZ cQ) (fun _ : Unit => True) (fun u : Unit => (wC a v cI cB cJ cZ cQ y.2)) (va_A (wC a v cI cB cJ cZ cQ s) sz)) 0 0 (va_A (wC a v cI cB cJ cZ cQ s) sz) := by
  refine dc_of (QA := xk_Qv (dC, dI) xcl (xt cI cB cJ cZ cQ) (fun _ : Unit => True) (fun u : Unit => (wC a v cI cB cJ cZ cQ y.2))) (by decide) (Nat.le_of_ble_eq_true rfl) ?_
  intro p e s0 m below meth c hx hb hml hown hg hr hlocks hin hP hK hN A hA hD hT ls hl
  have hown : s0.vm.findClass rn_Meaning = some m.cls := hown
  obtain ⟨H, hH⟩ : ∃ z, z = s0.heap := ⟨_, rfl⟩
  rw [← hH] at hP
  have hS : va_S A s0.heap H [] := by rw [hH]; exact va_S.rf
  suffices kk : ∀ QQ : State → Prop, QQ = MQ below (xk_Qv (dC, dI) xcl (xt cI cB cJ cZ cQ) (fun _ : Unit => True) (fun u : Unit => (wC a v cI cB cJ cZ cQ y.2)) A) [.ref ((a 104))].toArray s0 0 0 A → dcC p l e ({ frames := 1, cells := 0, slots := 0, locals := 20 }) s0 m [.ref ((a 104))].toArray below meth c QQ (dC, dI) A (wC a v cI cB cJ cZ cQ s) 0 1 [(0, .ref ((a 104)))] [] by
    have k9 := kk _ rfl H [] ls hP hD hS hl
    rw [hH] at k9; exact k9
  clear hP hD hS hl hH H ls
  intro QQ hQQ
  intro H locs ls hP hD hS hl
  unfold fn_Meaning_portsEnd_Me at hf
  refine lv_aload_n hx hb dn_Meaning_portsEnd_0 rfl (lv_at hl 0 rfl) ?_
  refine va_get (D := (dC, dI)) (ci := 5) (v := .ref ((a 103))) (C := rn_Meaning) (T := fn_Meaning) (N := 17) hx hb hg in_Meaning hown hK hP 4 rfl rfl 0 (by decide) (hg _ wn_1_184) (fun _ h9 => h9) rfl dn_Meaning_portsEnd_1 ?_
  obtain ⟨q_1, hc_2, hf⟩ := dc_b hf
  refine dc_calli (dc_runV (ar := 0) (As := []) (rest := []) (ci := 4) (q0 := 3) ⟨hx, hb, hml, hown, hg⟩ hK hN hT hS hA (ct_Checker_isOff_Ch l dC dI cI cB cJ cZ cQ N H.size a v s q_1 hc_2) hP hD rfl rfl wn_4_193 wn_4_194 wn_4_195 wn_1_4 wn_4_196 rfl rfl (by decide +kernel) ⟨Nat.le_of_ble_eq_true rfl, Nat.le_of_ble_eq_true rfl⟩ rfl hl.1 rfl (Nat.le_of_ble_eq_true rfl) dn_Meaning_portsEnd_4 ⟨Nat.le_of_ble_eq_true rfl, Nat.le_of_ble_eq_true rfl⟩) hP hD hS hA (fun r_3 _ H locs hw hP hD hS => ?_)
  have hw : r_3 = q_1.1 := hw
  subst hw
  refine lv_if_eq (tgt := 11) hx hb dn_Meaning_portsEnd_7 (by decide) (fun h => ?_) (fun h => ?_)
  · have hf := (if_pos h).symm.trans hf
    refine lv_aload_n hx hb dn_Meaning_portsEnd_11 rfl (lv_at hl 0 rfl) ?_
    refine va_get (D := (dC, dI)) (ci := 5) (v := .ref ((a 109))) (C := rn_Meaning) (T := fn_Meaning) (N := 17) hx hb hg in_Meaning hown hK hP 4 rfl rfl 1 (by decide) (hg _ wn_1_185) (fun _ h9 => h9) (congrArg some hv_4) dn_Meaning_portsEnd_12 ?_
    obtain ⟨q_4, hc_5, hf⟩ := dc_b hf
    refine dc_callv (dc_runV (ar := 0) (As := []) (rest := []) (ci := 10) (q0 := 9) ⟨hx, hb, hml, hown, hg⟩ hK hN hT hS hA (ct_Design_setPorts_Ds l dC dI cI cB cJ cZ cQ N H.size a v q_1.2 q_4 hc_5) hP hD rfl rfl wn_5_26 wn_5_27 wn_5_28 wn_1_10 wn_5_29 rfl rfl (by decide +kernel) ⟨Nat.le_of_ble_eq_true rfl, Nat.le_of_ble_eq_true rfl⟩ rfl hl.1 rfl (Nat.le_of_ble_eq_true rfl) dn_Meaning_portsEnd_15 ⟨Nat.le_of_ble_eq_true rfl, Nat.le_of_ble_eq_true rfl⟩) hP hD hS hA (fun _ H locs hw hP hD hS => ?_)
    rw [hQQ, ← Option.some.inj hf]
    exact xk_vret (w1 := fun u : Unit => (wC a v cI cB cJ cZ cQ q_4.2)) () hx hb hr hlocks hK hS dn_Meaning_portsEnd_18 hP hD trivial (Nat.le_refl _) (Nat.le_refl _)
  · have hf := (if_neg h).symm.trans hf
    rw [hQQ, ← Option.some.inj hf]
    exact xk_vret (w1 := fun u : Unit => (wC a v cI cB cJ cZ cQ q_1.2)) () hx hb hr hlocks hK hS dn_Meaning_portsEnd_10 hP hD trivial (Nat.le_refl _) (Nat.le_refl _)
set_option maxHeartbeats 8000000 in
set_option maxRecDepth 100000 in
theorem ct_Grammar_moduleHead_Gr (l : Launch) (dC : Nat → ClassId) (dI : Nat → Nat → Nat) (cI cB cJ cZ cQ : ClassId) (N sz : Nat) (a : Nat → Nat) (v : Nat → Value) (hv_2 : v 2 = .ref (a 110)) (hv_4 : v 4 = .ref (a 109)) (hv_5 : v 5 = .ref (a 110)) (hv_6 : v 6 = .ref (a 111)) (s : ms) (y : (Unit × ms)) (hf : fn_Grammar_moduleHead_Gr N s = some y) : Met l yn_Grammar_moduleHead (xw yn_Grammar_moduleHead bn_Grammar_moduleHead 2 none) ({ frames := 5, cells := 0, slots := 0, locals := 106 }) (dc_P (dC, dI) xcl (xt cI cB cJ cZ cQ) [.ref ((a 105))] sz (wC a v cI cB cJ cZ cQ s)) (xk_Qv (dC, dI) xcl (xt cI cB cJ cZ cQ) (fun _ : Unit => True) (fun u : Unit => (wC a v cI cB cJ cZ cQ y.2)) (va_A (wC a v cI cB cJ cZ cQ s) sz)) 0 0 (va_A (wC a v cI cB cJ cZ cQ s) sz) := by
  refine dc_of (QA := xk_Qv (dC, dI) xcl (xt cI cB cJ cZ cQ) (fun _ : Unit => True) (fun u : Unit => (wC a v cI cB cJ cZ cQ y.2))) (by decide) (Nat.le_of_ble_eq_true rfl) ?_
  intro p e s0 m below meth c hx hb hml hown hg hr hlocks hin hP hK hN A hA hD hT ls hl
  have hown : s0.vm.findClass rn_Grammar = some m.cls := hown
  obtain ⟨H, hH⟩ : ∃ z, z = s0.heap := ⟨_, rfl⟩
  rw [← hH] at hP
  have hS : va_S A s0.heap H [] := by rw [hH]; exact va_S.rf
  suffices kk : ∀ QQ : State → Prop, QQ = MQ below (xk_Qv (dC, dI) xcl (xt cI cB cJ cZ cQ) (fun _ : Unit => True) (fun u : Unit => (wC a v cI cB cJ cZ cQ y.2)) A) [.ref ((a 105))].toArray s0 0 0 A → dcC p l e ({ frames := 5, cells := 0, slots := 0, locals := 106 }) s0 m [.ref ((a 105))].toArray below meth c QQ (dC, dI) A (wC a v cI cB cJ cZ cQ s) 0 2 [(0, .ref ((a 105)))] [] by
    have k9 := kk _ rfl H [] ls hP hD hS hl
    rw [hH] at k9; exact k9
  clear hP hD hS hl hH H ls
  intro QQ hQQ
  have bl_116 : ∀ (s : ms), bk_Grammar_moduleHead_Gr_116 N s = some y → dcC p l e ({ frames := 5, cells := 0, slots := 0, locals := 106 }) s0 m [.ref ((a 105))].toArray below meth c QQ (dC, dI) A (wC a v cI cB cJ cZ cQ s) 116 2 [(0, .ref ((a 105)))] [] := by
    intro s hf H locs ls hP hD hS hl
    unfold bk_Grammar_moduleHead_Gr_116 at hf
    refine lv_aload_n hx hb dn_Grammar_moduleHead_116 rfl (lv_at hl 0 rfl) ?_
    refine va_get (D := (dC, dI)) (ci := 6) (v := .ref ((a 101))) (C := rn_Grammar) (T := fn_Grammar) (N := 15) hx hb hg in_Grammar hown hK hP 5 rfl rfl 0 (by decide) (hg _ wn_2_0) (fun _ h9 => h9) rfl dn_Grammar_moduleHead_117 ?_
    refine lv_bipush (v := 41) hx hb dn_Grammar_moduleHead_120 (by decide) ?_
    obtain ⟨q_1, hc_2, hf⟩ := dc_b hf
    refine dc_callv (dc_runV (ar := 1) (As := [.int 41]) (rest := []) (ci := 2) (q0 := 1) ⟨hx, hb, hml, hown, hg⟩ hK hN hT hS hA (ct_Tokens_shut_Tk l dC dI cI cB cJ cZ cQ N H.size a v 41 s q_1 hc_2) hP hD rfl rfl wn_4_226 wn_4_227 wn_4_228 wn_1_2 wn_4_229 rfl rfl (by decide +kernel) ⟨Nat.le_of_ble_eq_true rfl, Nat.le_of_ble_eq_true rfl⟩ rfl hl.1 rfl (Nat.le_of_ble_eq_true rfl) dn_Grammar_moduleHead_122 ⟨Nat.le_of_ble_eq_true rfl, Nat.le_of_ble_eq_true rfl⟩) hP hD hS hA (fun _ H locs hw hP hD hS => ?_)
    refine lv_aload_n hx hb dn_Grammar_moduleHead_125 rfl (lv_at hl 0 rfl) ?_
    refine va_get (D := (dC, dI)) (ci := 6) (v := .ref ((a 101))) (C := rn_Grammar) (T := fn_Grammar) (N := 15) hx hb hg in_Grammar hown hK hP 5 rfl rfl 0 (by decide) (hg _ wn_2_0) (fun _ h9 => h9) rfl dn_Grammar_moduleHead_126 ?_
    refine lv_bipush (v := 59) hx hb dn_Grammar_moduleHead_129 (by decide) ?_
    obtain ⟨q_3, hc_4, hf⟩ := dc_b hf
    refine dc_callv (dc_runV (ar := 1) (As := [.int 59]) (rest := []) (ci := 2) (q0 := 1) ⟨hx, hb, hml, hown, hg⟩ hK hN hT hS hA (ct_Tokens_need_Tk l dC dI cI cB cJ cZ cQ N H.size a v 59 q_1.2 q_3 hc_4) hP hD rfl rfl wn_4_173 wn_4_174 wn_4_175 wn_1_2 wn_4_176 rfl rfl (by decide +kernel) ⟨Nat.le_of_ble_eq_true rfl, Nat.le_of_ble_eq_true rfl⟩ rfl hl.1 rfl (Nat.le_of_ble_eq_true rfl) dn_Grammar_moduleHead_131 ⟨Nat.le_of_ble_eq_true rfl, Nat.le_of_ble_eq_true rfl⟩) hP hD hS hA (fun _ H locs hw hP hD hS => ?_)
    refine lv_aload_n hx hb dn_Grammar_moduleHead_134 rfl (lv_at hl 0 rfl) ?_
    refine va_get (D := (dC, dI)) (ci := 6) (v := .ref ((a 104))) (C := rn_Grammar) (T := fn_Grammar) (N := 15) hx hb hg in_Grammar hown hK hP 5 rfl rfl 2 (by decide) (hg _ wn_2_2) (fun _ h9 => h9) rfl dn_Grammar_moduleHead_135 ?_
    obtain ⟨q_5, hc_6, hf⟩ := dc_b hf
    refine dc_callv (dc_runV (ar := 0) (As := []) (rest := []) (ci := 5) (q0 := 4) ⟨hx, hb, hml, hown, hg⟩ hK hN hT hS hA (ct_Meaning_portsEnd_Me l dC dI cI cB cJ cZ cQ N H.size a v hv_4 q_3.2 q_5 hc_6) hP hD rfl rfl wn_5_22 wn_5_23 wn_5_24 wn_1_6 wn_5_25 rfl rfl (by decide +kernel) ⟨Nat.le_of_ble_eq_true rfl, Nat.le_of_ble_eq_true rfl⟩ rfl hl.1 rfl (Nat.le_of_ble_eq_true rfl) dn_Grammar_moduleHead_138 ⟨Nat.le_of_ble_eq_true rfl, Nat.le_of_ble_eq_true rfl⟩) hP hD hS hA (fun _ H locs hw hP hD hS => ?_)
    refine lv_aload_n hx hb dn_Grammar_moduleHead_141 rfl (lv_at hl 0 rfl) ?_
    refine lv_iconst (v := 2) hx hb dn_Grammar_moduleHead_142 (by decide) ?_
    refine va_put (D := (dC, dI)) (ci := 6) (v := .int 2) (ty := .int) (C := rn_Grammar) (T := fn_Grammar) (N := 15) hx hb hg in_Grammar tn_Grammar tk_Grammar nn_Grammar hown hK hP hD hS 5 rfl rfl 3 (by decide) (hg _ wn_2_3) (fun _ h9 => h9) rfl (tk_Grammar 3 (by decide)) rfl rfl (Nat.le_of_ble_eq_true rfl) dn_Grammar_moduleHead_143 (fun H locs hP hD hS => ?_)
    have hP := wC_P_264 hP
    have hD := wC_D_264 hD
    rw [hQQ, ← Option.some.inj hf]
    exact xk_vret (w1 := fun u : Unit => (wC a v cI cB cJ cZ cQ (upI q_5.2 264 (fun _ => 2)))) () hx hb hr hlocks hK hS dn_Grammar_moduleHead_146 hP hD trivial (Nat.le_refl _) (Nat.le_refl _)
  have hd_76 : ∀ (n : Nat) (x1 : Int32) (s : ms), hd_Grammar_moduleHead_Gr_76 N n x1 s = some y → dcC p l e ({ frames := 5, cells := 0, slots := 0, locals := 106 }) s0 m [.ref ((a 105))].toArray below meth c QQ (dC, dI) A (wC a v cI cB cJ cZ cQ s) 76 2 [(0, .ref ((a 105))), (1, .int x1)] [] := by
    intro n
    induction n with
    | zero => intro x1 s hf; cases hf
    | succ n ih =>
      intro x1 s hf H locs ls hP hD hS hl
      have hf : bd_Grammar_moduleHead_Gr_76 N (hd_Grammar_moduleHead_Gr_76 N n) x1 s = some y := hf
      have hk_76 := ih
      generalize hd_Grammar_moduleHead_Gr_76 N n = k_76 at hf hk_76
      unfold bd_Grammar_moduleHead_Gr_76 at hf
      refine lv_iload_n hx hb dn_Grammar_moduleHead_76 rfl (lv_at hl 1 rfl) ?_
      refine lv_aload_n hx hb dn_Grammar_moduleHead_77 rfl (lv_at hl 0 rfl) ?_
      refine va_get (D := (dC, dI)) (ci := 6) (v := .ref ((a 101))) (C := rn_Grammar) (T := fn_Grammar) (N := 15) hx hb hg in_Grammar hown hK hP 5 rfl rfl 0 (by decide) (hg _ wn_2_0) (fun _ h9 => h9) rfl dn_Grammar_moduleHead_78 ?_
      refine va_get (D := (dC, dI)) (ci := 2) (v := .int ((s.1 212 0))) (C := rn_Tokens) (T := fn_Tokens) (N := 9) hx hb hg in_Tokens hown hK hP 1 rfl rfl 1 (by decide) (hg _ wn_1_47) (fun _ h9 => h9) rfl dn_Grammar_moduleHead_81 ?_
      refine lv_icmp_ge (tgt := 116) hx hb dn_Grammar_moduleHead_84 (by decide) (fun h => ?_) (fun h => ?_)
      · have hf := (if_pos h).symm.trans hf
        exact bl_116 s hf H locs ls hP hD hS (lv_sub hl [0] rfl)
      · have hf := (if_neg h).symm.trans hf
        refine lv_aload_n hx hb dn_Grammar_moduleHead_87 rfl (lv_at hl 0 rfl) ?_
        refine va_get (D := (dC, dI)) (ci := 6) (v := .ref ((a 101))) (C := rn_Grammar) (T := fn_Grammar) (N := 15) hx hb hg in_Grammar hown hK hP 5 rfl rfl 0 (by decide) (hg _ wn_2_0) (fun _ h9 => h9) rfl dn_Grammar_moduleHead_88 ?_
        refine va_get (D := (dC, dI)) (ci := 2) (v := .int ((s.1 214 0))) (C := rn_Tokens) (T := fn_Tokens) (N := 9) hx hb hg in_Tokens hown hK hP 1 rfl rfl 3 (by decide) (hg _ wn_1_50) (fun _ h9 => h9) rfl dn_Grammar_moduleHead_91 ?_
        refine lv_bipush (v := 44) hx hb dn_Grammar_moduleHead_94 (by decide) ?_
        refine lv_icmp_ne (tgt := 116) hx hb dn_Grammar_moduleHead_96 (by decide) (fun h => ?_) (fun h => ?_)
        · have hf := (if_neg h).symm.trans hf
          exact bl_116 s hf H locs ls hP hD hS (lv_sub hl [0] rfl)
        · have hf := (if_pos h).symm.trans hf
          refine lv_aload_n hx hb dn_Grammar_moduleHead_99 rfl (lv_at hl 0 rfl) ?_
          refine va_get (D := (dC, dI)) (ci := 6) (v := .ref ((a 101))) (C := rn_Grammar) (T := fn_Grammar) (N := 15) hx hb hg in_Grammar hown hK hP 5 rfl rfl 0 (by decide) (hg _ wn_2_0) (fun _ h9 => h9) rfl dn_Grammar_moduleHead_100 ?_
          obtain ⟨q_1, hc_2, hf⟩ := dc_b hf
          refine dc_callv (dc_runV (ar := 0) (As := []) (rest := []) (ci := 2) (q0 := 1) ⟨hx, hb, hml, hown, hg⟩ hK hN hT hS hA (ct_Tokens_take_Tk l dC dI cI cB cJ cZ cQ N H.size a v s q_1 hc_2) hP hD rfl rfl wn_4_213 wn_4_149 wn_4_150 wn_1_2 wn_4_151 rfl rfl (by decide +kernel) ⟨Nat.le_of_ble_eq_true rfl, Nat.le_of_ble_eq_true rfl⟩ rfl hl.1 rfl (Nat.le_of_ble_eq_true rfl) dn_Grammar_moduleHead_103 ⟨Nat.le_of_ble_eq_true rfl, Nat.le_of_ble_eq_true rfl⟩) hP hD hS hA (fun _ H locs hw hP hD hS => ?_)
          refine lv_aload_n hx hb dn_Grammar_moduleHead_106 rfl (lv_at hl 0 rfl) ?_
          obtain ⟨q_3, hc_4, hf⟩ := dc_b hf
          refine dc_callv (dc_runV (ar := 0) (As := []) (rest := []) (ci := 6) (q0 := 5) ⟨hx, hb, hml, hown, hg⟩ hK hN hT hS hA (ct_Grammar_port_Gr l dC dI cI cB cJ cZ cQ N H.size a v hv_5 hv_6 q_1.2 q_3 hc_4) hP hD rfl rfl wn_4_218 wn_4_220 sn_Grammar_port wn_1_5 wn_4_221 rfl rfl (by decide +kernel) ⟨Nat.le_of_ble_eq_true rfl, Nat.le_of_ble_eq_true rfl⟩ rfl hl.1 rfl (Nat.le_of_ble_eq_true rfl) dn_Grammar_moduleHead_107 ⟨Nat.le_of_ble_eq_true rfl, Nat.le_of_ble_eq_true rfl⟩) hP hD hS hA (fun _ H locs hw hP hD hS => ?_)
          refine lv_iinc (v := (x1 + 1)) (lv' := [(1, .int ((x1 + 1))), (0, .ref ((a 105)))]) hx hb dn_Grammar_moduleHead_110 hl (k := 1) rfl (dc_inc (by decide)) (by decide) rfl (fun ls hl => ?_)
          refine lv_goto (tgt := 76) hx hb dn_Grammar_moduleHead_113 (by decide) ?_
          exact hk_76 ((x1 + 1)) q_3.2 hf H locs ls hP hD hS (lv_sub hl [1, 0] rfl)
  have bl_42 : ∀ (s : ms), bk_Grammar_moduleHead_Gr_42 N s = some y → dcC p l e ({ frames := 5, cells := 0, slots := 0, locals := 106 }) s0 m [.ref ((a 105))].toArray below meth c QQ (dC, dI) A (wC a v cI cB cJ cZ cQ s) 42 2 [(0, .ref ((a 105)))] [] := by
    intro s hf H locs ls hP hD hS hl
    unfold bk_Grammar_moduleHead_Gr_42 at hf
    refine lv_aload_n hx hb dn_Grammar_moduleHead_42 rfl (lv_at hl 0 rfl) ?_
    refine va_get (D := (dC, dI)) (ci := 6) (v := .ref ((a 101))) (C := rn_Grammar) (T := fn_Grammar) (N := 15) hx hb hg in_Grammar hown hK hP 5 rfl rfl 0 (by decide) (hg _ wn_2_0) (fun _ h9 => h9) rfl dn_Grammar_moduleHead_43 ?_
    obtain ⟨q_1, hc_2, hf⟩ := dc_b hf
    refine dc_callv (dc_runV (ar := 0) (As := []) (rest := []) (ci := 2) (q0 := 1) ⟨hx, hb, hml, hown, hg⟩ hK hN hT hS hA (ct_Tokens_take_Tk l dC dI cI cB cJ cZ cQ N H.size a v s q_1 hc_2) hP hD rfl rfl wn_4_213 wn_4_149 wn_4_150 wn_1_2 wn_4_151 rfl rfl (by decide +kernel) ⟨Nat.le_of_ble_eq_true rfl, Nat.le_of_ble_eq_true rfl⟩ rfl hl.1 rfl (Nat.le_of_ble_eq_true rfl) dn_Grammar_moduleHead_46 ⟨Nat.le_of_ble_eq_true rfl, Nat.le_of_ble_eq_true rfl⟩) hP hD hS hA (fun _ H locs hw hP hD hS => ?_)
    refine lv_aload_n hx hb dn_Grammar_moduleHead_49 rfl (lv_at hl 0 rfl) ?_
    refine va_get (D := (dC, dI)) (ci := 6) (v := .ref ((a 101))) (C := rn_Grammar) (T := fn_Grammar) (N := 15) hx hb hg in_Grammar hown hK hP 5 rfl rfl 0 (by decide) (hg _ wn_2_0) (fun _ h9 => h9) rfl dn_Grammar_moduleHead_50 ?_
    refine lv_bipush (v := 40) hx hb dn_Grammar_moduleHead_53 (by decide) ?_
    obtain ⟨q_3, hc_4, hf⟩ := dc_b hf
    refine dc_callv (dc_runV (ar := 1) (As := [.int 40]) (rest := []) (ci := 2) (q0 := 1) ⟨hx, hb, hml, hown, hg⟩ hK hN hT hS hA (ct_Tokens_open_Tk l dC dI cI cB cJ cZ cQ N H.size a v 40 q_1.2 q_3 hc_4) hP hD rfl rfl wn_4_214 wn_4_215 wn_4_216 wn_1_2 wn_4_217 rfl rfl (by decide +kernel) ⟨Nat.le_of_ble_eq_true rfl, Nat.le_of_ble_eq_true rfl⟩ rfl hl.1 rfl (Nat.le_of_ble_eq_true rfl) dn_Grammar_moduleHead_55 ⟨Nat.le_of_ble_eq_true rfl, Nat.le_of_ble_eq_true rfl⟩) hP hD hS hA (fun _ H locs hw hP hD hS => ?_)
    refine lv_aload_n hx hb dn_Grammar_moduleHead_58 rfl (lv_at hl 0 rfl) ?_
    refine va_get (D := (dC, dI)) (ci := 6) (v := .ref ((a 101))) (C := rn_Grammar) (T := fn_Grammar) (N := 15) hx hb hg in_Grammar hown hK hP 5 rfl rfl 0 (by decide) (hg _ wn_2_0) (fun _ h9 => h9) rfl dn_Grammar_moduleHead_59 ?_
    refine va_get (D := (dC, dI)) (ci := 2) (v := .int ((q_3.2.1 214 0))) (C := rn_Tokens) (T := fn_Tokens) (N := 9) hx hb hg in_Tokens hown hK hP 1 rfl rfl 3 (by decide) (hg _ wn_1_50) (fun _ h9 => h9) rfl dn_Grammar_moduleHead_62 ?_
    refine lv_bipush (v := 41) hx hb dn_Grammar_moduleHead_65 (by decide) ?_
    refine lv_icmp_eq (tgt := 116) hx hb dn_Grammar_moduleHead_67 (by decide) (fun h => ?_) (fun h => ?_)
    · have hf := (if_pos h).symm.trans hf
      exact bl_116 q_3.2 hf H locs ls hP hD hS hl
    · have hf := (if_neg h).symm.trans hf
      refine lv_aload_n hx hb dn_Grammar_moduleHead_70 rfl (lv_at hl 0 rfl) ?_
      obtain ⟨q_5, hc_6, hf⟩ := dc_b hf
      refine dc_callv (dc_runV (ar := 0) (As := []) (rest := []) (ci := 6) (q0 := 5) ⟨hx, hb, hml, hown, hg⟩ hK hN hT hS hA (ct_Grammar_port_Gr l dC dI cI cB cJ cZ cQ N H.size a v hv_5 hv_6 q_3.2 q_5 hc_6) hP hD rfl rfl wn_4_218 wn_4_220 sn_Grammar_port wn_1_5 wn_4_221 rfl rfl (by decide +kernel) ⟨Nat.le_of_ble_eq_true rfl, Nat.le_of_ble_eq_true rfl⟩ rfl hl.1 rfl (Nat.le_of_ble_eq_true rfl) dn_Grammar_moduleHead_71 ⟨Nat.le_of_ble_eq_true rfl, Nat.le_of_ble_eq_true rfl⟩) hP hD hS hA (fun _ H locs hw hP hD hS => ?_)
      refine lv_iconst (v := 0) hx hb dn_Grammar_moduleHead_74 (by decide) ?_
      refine lv_istore_n (lv' := [(1, .int 0), (0, .ref ((a 105)))]) hx hb dn_Grammar_moduleHead_75 rfl hl (by decide) rfl (fun ls hl => ?_)
      exact hd_76 N 0 q_5.2 hf H locs ls hP hD hS (lv_sub hl [1, 0] rfl)
  intro H locs ls hP hD hS hl
  unfold fn_Grammar_moduleHead_Gr at hf
  refine lv_aload_n hx hb dn_Grammar_moduleHead_0 rfl (lv_at hl 0 rfl) ?_
  refine va_get (D := (dC, dI)) (ci := 6) (v := .ref ((a 101))) (C := rn_Grammar) (T := fn_Grammar) (N := 15) hx hb hg in_Grammar hown hK hP 5 rfl rfl 0 (by decide) (hg _ wn_2_0) (fun _ h9 => h9) rfl dn_Grammar_moduleHead_1 ?_
  refine lv_sipush (v := 128) hx hb dn_Grammar_moduleHead_4 (by decide) ?_
  obtain ⟨q_1, hc_2, hf⟩ := dc_b hf
  refine dc_callv (dc_runV (ar := 1) (As := [.int 128]) (rest := []) (ci := 2) (q0 := 1) ⟨hx, hb, hml, hown, hg⟩ hK hN hT hS hA (ct_Tokens_need_Tk l dC dI cI cB cJ cZ cQ N H.size a v 128 s q_1 hc_2) hP hD rfl rfl wn_4_173 wn_4_174 wn_4_175 wn_1_2 wn_4_176 rfl rfl (by decide +kernel) ⟨Nat.le_of_ble_eq_true rfl, Nat.le_of_ble_eq_true rfl⟩ rfl hl.1 rfl (Nat.le_of_ble_eq_true rfl) dn_Grammar_moduleHead_7 ⟨Nat.le_of_ble_eq_true rfl, Nat.le_of_ble_eq_true rfl⟩) hP hD hS hA (fun _ H locs hw hP hD hS => ?_)
  refine lv_aload_n hx hb dn_Grammar_moduleHead_10 rfl (lv_at hl 0 rfl) ?_
  refine va_get (D := (dC, dI)) (ci := 6) (v := .ref ((a 101))) (C := rn_Grammar) (T := fn_Grammar) (N := 15) hx hb hg in_Grammar hown hK hP 5 rfl rfl 0 (by decide) (hg _ wn_2_0) (fun _ h9 => h9) rfl dn_Grammar_moduleHead_11 ?_
  refine lv_iconst (v := 2) hx hb dn_Grammar_moduleHead_14 (by decide) ?_
  obtain ⟨q_3, hc_4, hf⟩ := dc_b hf
  refine dc_calli (dc_runV (ar := 1) (As := [.int 2]) (rest := []) (ci := 2) (q0 := 1) ⟨hx, hb, hml, hown, hg⟩ hK hN hT hS hA (ct_Tokens_due_Tk l dC dI cI cB cJ cZ cQ N H.size a v 2 q_1.2 q_3 hc_4) hP hD rfl rfl wn_4_185 wn_4_186 wn_4_187 wn_1_2 wn_4_188 rfl rfl (by decide +kernel) ⟨Nat.le_of_ble_eq_true rfl, Nat.le_of_ble_eq_true rfl⟩ rfl hl.1 rfl (Nat.le_of_ble_eq_true rfl) dn_Grammar_moduleHead_15 ⟨Nat.le_of_ble_eq_true rfl, Nat.le_of_ble_eq_true rfl⟩) hP hD hS hA (fun r_5 _ H locs hw hP hD hS => ?_)
  have hw : r_5 = q_3.1 := hw
  subst hw
  refine lv_if_eq (tgt := 42) hx hb dn_Grammar_moduleHead_18 (by decide) (fun h => ?_) (fun h => ?_)
  · have hf := (if_pos h).symm.trans hf
    exact bl_42 q_3.2 hf H locs ls hP hD hS hl
  · have hf := (if_neg h).symm.trans hf
    refine lv_aload_n hx hb dn_Grammar_moduleHead_21 rfl (lv_at hl 0 rfl) ?_
    refine va_get (D := (dC, dI)) (ci := 6) (v := .ref ((a 104))) (C := rn_Grammar) (T := fn_Grammar) (N := 15) hx hb hg in_Grammar hown hK hP 5 rfl rfl 2 (by decide) (hg _ wn_2_2) (fun _ h9 => h9) rfl dn_Grammar_moduleHead_22 ?_
    refine lv_aload_n hx hb dn_Grammar_moduleHead_25 rfl (lv_at hl 0 rfl) ?_
    refine va_get (D := (dC, dI)) (ci := 6) (v := .ref ((a 101))) (C := rn_Grammar) (T := fn_Grammar) (N := 15) hx hb hg in_Grammar hown hK hP 5 rfl rfl 0 (by decide) (hg _ wn_2_0) (fun _ h9 => h9) rfl dn_Grammar_moduleHead_26 ?_
    refine va_get (D := (dC, dI)) (ci := 2) (v := .int ((q_3.2.1 216 0))) (C := rn_Tokens) (T := fn_Tokens) (N := 9) hx hb hg in_Tokens hown hK hP 1 rfl rfl 5 (by decide) (hg _ wn_1_54) (fun _ h9 => h9) rfl dn_Grammar_moduleHead_29 ?_
    refine lv_aload_n hx hb dn_Grammar_moduleHead_32 rfl (lv_at hl 0 rfl) ?_
    refine va_get (D := (dC, dI)) (ci := 6) (v := .ref ((a 101))) (C := rn_Grammar) (T := fn_Grammar) (N := 15) hx hb hg in_Grammar hown hK hP 5 rfl rfl 0 (by decide) (hg _ wn_2_0) (fun _ h9 => h9) rfl dn_Grammar_moduleHead_33 ?_
    refine va_get (D := (dC, dI)) (ci := 2) (v := .int ((q_3.2.1 215 0))) (C := rn_Tokens) (T := fn_Tokens) (N := 9) hx hb hg in_Tokens hown hK hP 1 rfl rfl 4 (by decide) (hg _ wn_1_52) (fun _ h9 => h9) rfl dn_Grammar_moduleHead_36 ?_
    obtain ⟨q_6, hc_7, hf⟩ := dc_b hf
    refine dc_callv (dc_runV (ar := 2) (As := [.int ((q_3.2.1 216 0)), .int ((q_3.2.1 215 0))]) (rest := []) (ci := 5) (q0 := 4) ⟨hx, hb, hml, hown, hg⟩ hK hN hT hS hA (ct_Meaning_module_Me l dC dI cI cB cJ cZ cQ N H.size a v hv_2 hv_4 ((q_3.2.1 216 0)) ((q_3.2.1 215 0)) q_3.2 q_6 hc_7) hP hD rfl rfl wn_4_189 wn_4_190 wn_4_191 wn_1_6 wn_4_192 rfl rfl (by decide +kernel) ⟨Nat.le_of_ble_eq_true rfl, Nat.le_of_ble_eq_true rfl⟩ rfl hl.1 rfl (Nat.le_of_ble_eq_true rfl) dn_Grammar_moduleHead_39 ⟨Nat.le_of_ble_eq_true rfl, Nat.le_of_ble_eq_true rfl⟩) hP hD hS hA (fun _ H locs hw hP hD hS => ?_)
    exact bl_42 q_6.2 hf H locs ls hP hD hS hl
set_option maxHeartbeats 8000000 in
set_option maxRecDepth 100000 in
theorem ct_Design_addModule_Dc (l : Launch) (dC : Nat → ClassId) (dI : Nat → Nat → Nat) (cI cB cJ cZ cQ : ClassId) (N sz : Nat) (a : Nat → Nat) (v : Nat → Value) (v1 : Int32) (s : ms) (y : (Unit × ms)) (hf : fn_Design_addModule_Dc N v1 s = some y) : Met l yn_Design_addModule (xw yn_Design_addModule bn_Design_addModule 2 none) ({ frames := 0, cells := 0, slots := 0, locals := 0 }) (dc_P (dC, dI) xcl (xt cI cB cJ cZ cQ) [.ref ((a 113)), .int v1] sz (wC a v cI cB cJ cZ cQ s)) (xk_Qv (dC, dI) xcl (xt cI cB cJ cZ cQ) (fun _ : Unit => True) (fun u : Unit => (wC a v cI cB cJ cZ cQ y.2)) (va_A (wC a v cI cB cJ cZ cQ s) sz)) 0 0 (va_A (wC a v cI cB cJ cZ cQ s) sz) := by
  refine dc_of (QA := xk_Qv (dC, dI) xcl (xt cI cB cJ cZ cQ) (fun _ : Unit => True) (fun u : Unit => (wC a v cI cB cJ cZ cQ y.2))) (by decide) (Nat.le_of_ble_eq_true rfl) ?_
  intro p e s0 m below meth c hx hb hml hown hg hr hlocks hin hP hK hN A hA hD hT ls hl
  have hown : s0.vm.findClass rn_Design = some m.cls := hown
  obtain ⟨H, hH⟩ : ∃ z, z = s0.heap := ⟨_, rfl⟩
  rw [← hH] at hP
  have hS : va_S A s0.heap H [] := by rw [hH]; exact va_S.rf
  suffices kk : ∀ QQ : State → Prop, QQ = MQ below (xk_Qv (dC, dI) xcl (xt cI cB cJ cZ cQ) (fun _ : Unit => True) (fun u : Unit => (wC a v cI cB cJ cZ cQ y.2)) A) [.ref ((a 113)), .int v1].toArray s0 0 0 A → dcC p l e ({ frames := 0, cells := 0, slots := 0, locals := 0 }) s0 m [.ref ((a 113)), .int v1].toArray below meth c QQ (dC, dI) A (wC a v cI cB cJ cZ cQ s) 0 2 [(0, .ref ((a 113))), (1, .int v1)] [] by
    have k9 := kk _ rfl H [] ls hP hD hS hl
    rw [hH] at k9; exact k9
  clear hP hD hS hl hH H ls
  intro QQ hQQ
  intro H locs ls hP hD hS hl
  unfold fn_Design_addModule_Dc at hf
  refine lv_aload_n hx hb dn_Design_addModule_0 rfl (lv_at hl 0 rfl) ?_
  refine va_get (D := (dC, dI)) (ci := 10) (v := .int ((s.1 359 0))) (C := rn_Design) (T := fn_Design) (N := 16) hx hb hg in_Design hown hK hP 13 rfl rfl 4 (by decide) (hg _ wn_3_10) (fun _ h9 => h9) rfl dn_Design_addModule_1 ?_
  refine lv_sipush (v := 3277) hx hb dn_Design_addModule_4 (by decide) ?_
  refine lv_icmp_lt (tgt := 11) hx hb dn_Design_addModule_7 (by decide) (fun h => ?_) (fun h => ?_)
  · have hf := (if_pos h).symm.trans hf
    refine lv_aload_n hx hb dn_Design_addModule_11 rfl (lv_at hl 0 rfl) ?_
    refine va_get (D := (dC, dI)) (ci := 10) (v := .ref ((a 361))) (C := rn_Design) (T := fn_Design) (N := 16) hx hb hg in_Design hown hK hP 13 rfl rfl 6 (by decide) (hg _ wn_3_15) (fun _ h9 => h9) rfl dn_Design_addModule_12 ?_
    refine lv_aload_n hx hb dn_Design_addModule_15 rfl (lv_at hl 0 rfl) ?_
    refine va_get (D := (dC, dI)) (ci := 10) (v := .int ((s.1 359 0))) (C := rn_Design) (T := fn_Design) (N := 16) hx hb hg in_Design hown hK hP 13 rfl rfl 4 (by decide) (hg _ wn_3_10) (fun _ h9 => h9) rfl dn_Design_addModule_16 ?_
    refine lv_iload_n hx hb dn_Design_addModule_19 rfl (lv_at hl 1 rfl) ?_
    obtain ⟨hg_1, hf⟩ := dc_g hf
    refine va_iast hx hb hK hP hD hS 87 0 rfl rfl hg_1 dn_Design_addModule_20 (fun H locs hP hD hS => ?_)
    have hP : va_P (dC, dI) xcl ((wC a v cI cB cJ cZ cQ s).set 87 ((a 361), .inl (cI, 3277, .inl (upd (s.1 361) (Int32.toNatClampNeg ((s.1 359 0))) v1)))) H := hP
    have hD : va_D A ((wC a v cI cB cJ cZ cQ s).set 87 ((a 361), .inl (cI, 3277, .inl (upd (s.1 361) (Int32.toNatClampNeg ((s.1 359 0))) v1)))) := hD
    have hP := wC_P_361 hP
    have hD := wC_D_361 hD
    refine lv_aload_n hx hb dn_Design_addModule_21 rfl (lv_at hl 0 rfl) ?_
    refine va_get (D := (dC, dI)) (ci := 10) (v := .ref ((a 362))) (C := rn_Design) (T := fn_Design) (N := 16) hx hb hg in_Design hown hK hP 13 rfl rfl 7 (by decide) (hg _ wn_3_16) (fun _ h9 => h9) rfl dn_Design_addModule_22 ?_
    refine lv_aload_n hx hb dn_Design_addModule_25 rfl (lv_at hl 0 rfl) ?_
    refine va_get (D := (dC, dI)) (ci := 10) (v := .int ((s.1 359 0))) (C := rn_Design) (T := fn_Design) (N := 16) hx hb hg in_Design hown hK hP 13 rfl rfl 4 (by decide) (hg _ wn_3_10) (fun _ h9 => h9) rfl dn_Design_addModule_26 ?_
    refine lv_aload_n hx hb dn_Design_addModule_29 rfl (lv_at hl 0 rfl) ?_
    refine va_get (D := (dC, dI)) (ci := 10) (v := .ref ((a 114))) (C := rn_Design) (T := fn_Design) (N := 16) hx hb hg in_Design hown hK hP 13 rfl rfl 0 (by decide) (hg _ wn_2_234) (fun _ h9 => h9) rfl dn_Design_addModule_30 ?_
    refine va_get (D := (dC, dI)) (ci := 11) (v := .int ((s.1 371 0))) (C := rn_Parts) (T := fn_Parts) (N := 15) hx hb hg in_Parts hown hK hP 14 rfl rfl 0 (by decide) (hg _ wn_2_124) (fun _ h9 => h9) rfl dn_Design_addModule_33 ?_
    obtain ⟨hg_2, hf⟩ := dc_g hf
    refine va_iast hx hb hK hP hD hS 88 0 rfl rfl hg_2 dn_Design_addModule_36 (fun H locs hP hD hS => ?_)
    have hP : va_P (dC, dI) xcl ((wC a v cI cB cJ cZ cQ (upI s 361 (upd (s.1 361) (Int32.toNatClampNeg ((s.1 359 0))) v1))).set 88 ((a 362), .inl (cI, 3277, .inl (upd (s.1 362) (Int32.toNatClampNeg ((s.1 359 0))) ((s.1 371 0)))))) H := hP
    have hD : va_D A ((wC a v cI cB cJ cZ cQ (upI s 361 (upd (s.1 361) (Int32.toNatClampNeg ((s.1 359 0))) v1))).set 88 ((a 362), .inl (cI, 3277, .inl (upd (s.1 362) (Int32.toNatClampNeg ((s.1 359 0))) ((s.1 371 0)))))) := hD
    have hP := wC_P_362 hP
    have hD := wC_D_362 hD
    refine lv_aload_n hx hb dn_Design_addModule_37 rfl (lv_at hl 0 rfl) ?_
    refine va_get (D := (dC, dI)) (ci := 10) (v := .ref ((a 363))) (C := rn_Design) (T := fn_Design) (N := 16) hx hb hg in_Design hown hK hP 13 rfl rfl 8 (by decide) (hg _ wn_3_17) (fun _ h9 => h9) rfl dn_Design_addModule_38 ?_
    refine lv_aload_n hx hb dn_Design_addModule_41 rfl (lv_at hl 0 rfl) ?_
    refine va_get (D := (dC, dI)) (ci := 10) (v := .int ((s.1 359 0))) (C := rn_Design) (T := fn_Design) (N := 16) hx hb hg in_Design hown hK hP 13 rfl rfl 4 (by decide) (hg _ wn_3_10) (fun _ h9 => h9) rfl dn_Design_addModule_42 ?_
    refine lv_iconst (v := 0) hx hb dn_Design_addModule_45 (by decide) ?_
    obtain ⟨hg_3, hf⟩ := dc_g hf
    refine va_iast hx hb hK hP hD hS 89 0 rfl rfl hg_3 dn_Design_addModule_46 (fun H locs hP hD hS => ?_)
    have hP : va_P (dC, dI) xcl ((wC a v cI cB cJ cZ cQ (upI (upI s 361 (upd (s.1 361) (Int32.toNatClampNeg ((s.1 359 0))) v1)) 362 (upd (s.1 362) (Int32.toNatClampNeg ((s.1 359 0))) ((s.1 371 0))))).set 89 ((a 363), .inl (cI, 3277, .inl (upd (s.1 363) (Int32.toNatClampNeg ((s.1 359 0))) 0)))) H := hP
    have hD : va_D A ((wC a v cI cB cJ cZ cQ (upI (upI s 361 (upd (s.1 361) (Int32.toNatClampNeg ((s.1 359 0))) v1)) 362 (upd (s.1 362) (Int32.toNatClampNeg ((s.1 359 0))) ((s.1 371 0))))).set 89 ((a 363), .inl (cI, 3277, .inl (upd (s.1 363) (Int32.toNatClampNeg ((s.1 359 0))) 0)))) := hD
    have hP := wC_P_363 hP
    have hD := wC_D_363 hD
    refine lv_aload_n hx hb dn_Design_addModule_47 rfl (lv_at hl 0 rfl) ?_
    refine va_get (D := (dC, dI)) (ci := 10) (v := .ref ((a 364))) (C := rn_Design) (T := fn_Design) (N := 16) hx hb hg in_Design hown hK hP 13 rfl rfl 9 (by decide) (hg _ wn_3_18) (fun _ h9 => h9) rfl dn_Design_addModule_48 ?_
    refine lv_aload_n hx hb dn_Design_addModule_51 rfl (lv_at hl 0 rfl) ?_
    refine va_get (D := (dC, dI)) (ci := 10) (v := .int ((s.1 359 0))) (C := rn_Design) (T := fn_Design) (N := 16) hx hb hg in_Design hown hK hP 13 rfl rfl 4 (by decide) (hg _ wn_3_10) (fun _ h9 => h9) rfl dn_Design_addModule_52 ?_
    refine lv_aload_n hx hb dn_Design_addModule_55 rfl (lv_at hl 0 rfl) ?_
    refine va_get (D := (dC, dI)) (ci := 10) (v := .ref ((a 114))) (C := rn_Design) (T := fn_Design) (N := 16) hx hb hg in_Design hown hK hP 13 rfl rfl 0 (by decide) (hg _ wn_2_234) (fun _ h9 => h9) rfl dn_Design_addModule_56 ?_
    refine va_get (D := (dC, dI)) (ci := 11) (v := .int ((s.1 378 0))) (C := rn_Parts) (T := fn_Parts) (N := 15) hx hb hg in_Parts hown hK hP 14 rfl rfl 7 (by decide) (hg _ wn_2_150) (fun _ h9 => h9) rfl dn_Design_addModule_59 ?_
    obtain ⟨hg_4, hf⟩ := dc_g hf
    refine va_iast hx hb hK hP hD hS 90 0 rfl rfl hg_4 dn_Design_addModule_62 (fun H locs hP hD hS => ?_)
    have hP : va_P (dC, dI) xcl ((wC a v cI cB cJ cZ cQ (upI (upI (upI s 361 (upd (s.1 361) (Int32.toNatClampNeg ((s.1 359 0))) v1)) 362 (upd (s.1 362) (Int32.toNatClampNeg ((s.1 359 0))) ((s.1 371 0)))) 363 (upd (s.1 363) (Int32.toNatClampNeg ((s.1 359 0))) 0))).set 90 ((a 364), .inl (cI, 3277, .inl (upd (s.1 364) (Int32.toNatClampNeg ((s.1 359 0))) ((s.1 378 0)))))) H := hP
    have hD : va_D A ((wC a v cI cB cJ cZ cQ (upI (upI (upI s 361 (upd (s.1 361) (Int32.toNatClampNeg ((s.1 359 0))) v1)) 362 (upd (s.1 362) (Int32.toNatClampNeg ((s.1 359 0))) ((s.1 371 0)))) 363 (upd (s.1 363) (Int32.toNatClampNeg ((s.1 359 0))) 0))).set 90 ((a 364), .inl (cI, 3277, .inl (upd (s.1 364) (Int32.toNatClampNeg ((s.1 359 0))) ((s.1 378 0)))))) := hD
    have hP := wC_P_364 hP
    have hD := wC_D_364 hD
    refine lv_aload_n hx hb dn_Design_addModule_63 rfl (lv_at hl 0 rfl) ?_
    refine va_get (D := (dC, dI)) (ci := 10) (v := .ref ((a 365))) (C := rn_Design) (T := fn_Design) (N := 16) hx hb hg in_Design hown hK hP 13 rfl rfl 10 (by decide) (hg _ wn_3_19) (fun _ h9 => h9) rfl dn_Design_addModule_64 ?_
    refine lv_aload_n hx hb dn_Design_addModule_67 rfl (lv_at hl 0 rfl) ?_
    refine va_get (D := (dC, dI)) (ci := 10) (v := .int ((s.1 359 0))) (C := rn_Design) (T := fn_Design) (N := 16) hx hb hg in_Design hown hK hP 13 rfl rfl 4 (by decide) (hg _ wn_3_10) (fun _ h9 => h9) rfl dn_Design_addModule_68 ?_
    refine lv_aload_n hx hb dn_Design_addModule_71 rfl (lv_at hl 0 rfl) ?_
    refine va_get (D := (dC, dI)) (ci := 10) (v := .int ((s.1 367 0))) (C := rn_Design) (T := fn_Design) (N := 16) hx hb hg in_Design hown hK hP 13 rfl rfl 12 (by decide) (hg _ wn_3_21) (fun _ h9 => h9) rfl dn_Design_addModule_72 ?_
    obtain ⟨hg_5, hf⟩ := dc_g hf
    refine va_iast hx hb hK hP hD hS 91 0 rfl rfl hg_5 dn_Design_addModule_75 (fun H locs hP hD hS => ?_)
    have hP : va_P (dC, dI) xcl ((wC a v cI cB cJ cZ cQ (upI (upI (upI (upI s 361 (upd (s.1 361) (Int32.toNatClampNeg ((s.1 359 0))) v1)) 362 (upd (s.1 362) (Int32.toNatClampNeg ((s.1 359 0))) ((s.1 371 0)))) 363 (upd (s.1 363) (Int32.toNatClampNeg ((s.1 359 0))) 0)) 364 (upd (s.1 364) (Int32.toNatClampNeg ((s.1 359 0))) ((s.1 378 0))))).set 91 ((a 365), .inl (cI, 3277, .inl (upd (s.1 365) (Int32.toNatClampNeg ((s.1 359 0))) ((s.1 367 0)))))) H := hP
    have hD : va_D A ((wC a v cI cB cJ cZ cQ (upI (upI (upI (upI s 361 (upd (s.1 361) (Int32.toNatClampNeg ((s.1 359 0))) v1)) 362 (upd (s.1 362) (Int32.toNatClampNeg ((s.1 359 0))) ((s.1 371 0)))) 363 (upd (s.1 363) (Int32.toNatClampNeg ((s.1 359 0))) 0)) 364 (upd (s.1 364) (Int32.toNatClampNeg ((s.1 359 0))) ((s.1 378 0))))).set 91 ((a 365), .inl (cI, 3277, .inl (upd (s.1 365) (Int32.toNatClampNeg ((s.1 359 0))) ((s.1 367 0)))))) := hD
    have hP := wC_P_365 hP
    have hD := wC_D_365 hD
    refine lv_aload_n hx hb dn_Design_addModule_76 rfl (lv_at hl 0 rfl) ?_
    refine lv_dup hx hb dn_Design_addModule_77 rfl ?_
    refine va_get (D := (dC, dI)) (ci := 10) (v := .int ((s.1 359 0))) (C := rn_Design) (T := fn_Design) (N := 16) hx hb hg in_Design hown hK hP 13 rfl rfl 4 (by decide) (hg _ wn_3_10) (fun _ h9 => h9) rfl dn_Design_addModule_78 ?_
    refine lv_iconst (v := 1) hx hb dn_Design_addModule_81 (by decide) ?_
    refine lv_iadd hx hb dn_Design_addModule_82 ?_
    refine va_put (D := (dC, dI)) (ci := 10) (v := .int (((s.1 359 0) + 1))) (ty := .int) (C := rn_Design) (T := fn_Design) (N := 16) hx hb hg in_Design tn_Design tk_Design nn_Design hown hK hP hD hS 13 rfl rfl 4 (by decide) (hg _ wn_3_10) (fun _ h9 => h9) rfl (tk_Design 4 (by decide)) rfl rfl (Nat.le_of_ble_eq_true rfl) dn_Design_addModule_83 (fun H locs hP hD hS => ?_)
    have hP := wC_P_359 hP
    have hD := wC_D_359 hD
    rw [hQQ, ← Option.some.inj hf]
    exact xk_vret (w1 := fun u : Unit => (wC a v cI cB cJ cZ cQ (upI (upI (upI (upI (upI (upI s 361 (upd (s.1 361) (Int32.toNatClampNeg ((s.1 359 0))) v1)) 362 (upd (s.1 362) (Int32.toNatClampNeg ((s.1 359 0))) ((s.1 371 0)))) 363 (upd (s.1 363) (Int32.toNatClampNeg ((s.1 359 0))) 0)) 364 (upd (s.1 364) (Int32.toNatClampNeg ((s.1 359 0))) ((s.1 378 0)))) 365 (upd (s.1 365) (Int32.toNatClampNeg ((s.1 359 0))) ((s.1 367 0)))) 359 (fun _ => ((s.1 359 0) + 1))))) () hx hb hr hlocks hK hS dn_Design_addModule_86 hP hD trivial (Nat.le_refl _) (Nat.le_refl _)
  · have hf := (if_neg h).symm.trans hf
    rw [hQQ, ← Option.some.inj hf]
    exact xk_vret (w1 := fun u : Unit => (wC a v cI cB cJ cZ cQ s)) () hx hb hr hlocks hK hS dn_Design_addModule_10 hP hD trivial (Nat.le_refl _) (Nat.le_refl _)
set_option maxHeartbeats 8000000 in
set_option maxRecDepth 100000 in
theorem ct_Parts_addDecl_Pc (l : Launch) (dC : Nat → ClassId) (dI : Nat → Nat → Nat) (cI cB cJ cZ cQ : ClassId) (N sz : Nat) (a : Nat → Nat) (v : Nat → Value) (v1 : Int32) (v2 : Int32) (v3 : Int32) (s : ms) (y : (Unit × ms)) (hf : fn_Parts_addDecl_Pc N v1 v2 v3 s = some y) : Met l yn_Parts_addDecl (xw yn_Parts_addDecl bn_Parts_addDecl 4 none) ({ frames := 0, cells := 0, slots := 0, locals := 0 }) (dc_P (dC, dI) xcl (xt cI cB cJ cZ cQ) [.ref ((a 114)), .int v1, .int v2, .int v3] sz (wC a v cI cB cJ cZ cQ s)) (xk_Qv (dC, dI) xcl (xt cI cB cJ cZ cQ) (fun _ : Unit => True) (fun u : Unit => (wC a v cI cB cJ cZ cQ y.2)) (va_A (wC a v cI cB cJ cZ cQ s) sz)) 0 0 (va_A (wC a v cI cB cJ cZ cQ s) sz) := by
  refine dc_of (QA := xk_Qv (dC, dI) xcl (xt cI cB cJ cZ cQ) (fun _ : Unit => True) (fun u : Unit => (wC a v cI cB cJ cZ cQ y.2))) (by decide) (Nat.le_of_ble_eq_true rfl) ?_
  intro p e s0 m below meth c hx hb hml hown hg hr hlocks hin hP hK hN A hA hD hT ls hl
  have hown : s0.vm.findClass rn_Parts = some m.cls := hown
  obtain ⟨H, hH⟩ : ∃ z, z = s0.heap := ⟨_, rfl⟩
  rw [← hH] at hP
  have hS : va_S A s0.heap H [] := by rw [hH]; exact va_S.rf
  suffices kk : ∀ QQ : State → Prop, QQ = MQ below (xk_Qv (dC, dI) xcl (xt cI cB cJ cZ cQ) (fun _ : Unit => True) (fun u : Unit => (wC a v cI cB cJ cZ cQ y.2)) A) [.ref ((a 114)), .int v1, .int v2, .int v3].toArray s0 0 0 A → dcC p l e ({ frames := 0, cells := 0, slots := 0, locals := 0 }) s0 m [.ref ((a 114)), .int v1, .int v2, .int v3].toArray below meth c QQ (dC, dI) A (wC a v cI cB cJ cZ cQ s) 0 4 [(0, .ref ((a 114))), (1, .int v1), (2, .int v2), (3, .int v3)] [] by
    have k9 := kk _ rfl H [] ls hP hD hS hl
    rw [hH] at k9; exact k9
  clear hP hD hS hl hH H ls
  intro QQ hQQ
  intro H locs ls hP hD hS hl
  unfold fn_Parts_addDecl_Pc at hf
  refine lv_aload_n hx hb dn_Parts_addDecl_0 rfl (lv_at hl 0 rfl) ?_
  refine va_get (D := (dC, dI)) (ci := 11) (v := .int ((s.1 371 0))) (C := rn_Parts) (T := fn_Parts) (N := 15) hx hb hg in_Parts hown hK hP 14 rfl rfl 0 (by decide) (hg _ wn_2_123) (fun _ h9 => h9) rfl dn_Parts_addDecl_1 ?_
  refine lv_sipush (v := 10923) hx hb dn_Parts_addDecl_4 (by decide) ?_
  refine lv_icmp_lt (tgt := 11) hx hb dn_Parts_addDecl_7 (by decide) (fun h => ?_) (fun h => ?_)
  · have hf := (if_pos h).symm.trans hf
    refine lv_aload_n hx hb dn_Parts_addDecl_11 rfl (lv_at hl 0 rfl) ?_
    refine va_get (D := (dC, dI)) (ci := 11) (v := .ref ((a 374))) (C := rn_Parts) (T := fn_Parts) (N := 15) hx hb hg in_Parts hown hK hP 14 rfl rfl 3 (by decide) (hg _ wn_2_135) (fun _ h9 => h9) rfl dn_Parts_addDecl_12 ?_
    refine lv_aload_n hx hb dn_Parts_addDecl_15 rfl (lv_at hl 0 rfl) ?_
    refine va_get (D := (dC, dI)) (ci := 11) (v := .int ((s.1 371 0))) (C := rn_Parts) (T := fn_Parts) (N := 15) hx hb hg in_Parts hown hK hP 14 rfl rfl 0 (by decide) (hg _ wn_2_123) (fun _ h9 => h9) rfl dn_Parts_addDecl_16 ?_
    refine lv_iload_n hx hb dn_Parts_addDecl_19 rfl (lv_at hl 1 rfl) ?_
    obtain ⟨hg_1, hf⟩ := dc_g hf
    refine va_iast hx hb hK hP hD hS 97 0 rfl rfl hg_1 dn_Parts_addDecl_20 (fun H locs hP hD hS => ?_)
    have hP : va_P (dC, dI) xcl ((wC a v cI cB cJ cZ cQ s).set 97 ((a 374), .inl (cI, 10923, .inl (upd (s.1 374) (Int32.toNatClampNeg ((s.1 371 0))) v1)))) H := hP
    have hD : va_D A ((wC a v cI cB cJ cZ cQ s).set 97 ((a 374), .inl (cI, 10923, .inl (upd (s.1 374) (Int32.toNatClampNeg ((s.1 371 0))) v1)))) := hD
    have hP := wC_P_374 hP
    have hD := wC_D_374 hD
    refine lv_aload_n hx hb dn_Parts_addDecl_21 rfl (lv_at hl 0 rfl) ?_
    refine va_get (D := (dC, dI)) (ci := 11) (v := .ref ((a 372))) (C := rn_Parts) (T := fn_Parts) (N := 15) hx hb hg in_Parts hown hK hP 14 rfl rfl 1 (by decide) (hg _ wn_2_127) (fun _ h9 => h9) rfl dn_Parts_addDecl_22 ?_
    refine lv_aload_n hx hb dn_Parts_addDecl_25 rfl (lv_at hl 0 rfl) ?_
    refine va_get (D := (dC, dI)) (ci := 11) (v := .int ((s.1 371 0))) (C := rn_Parts) (T := fn_Parts) (N := 15) hx hb hg in_Parts hown hK hP 14 rfl rfl 0 (by decide) (hg _ wn_2_123) (fun _ h9 => h9) rfl dn_Parts_addDecl_26 ?_
    refine lv_iload_n hx hb dn_Parts_addDecl_29 rfl (lv_at hl 2 rfl) ?_
    obtain ⟨hg_2, hf⟩ := dc_g hf
    refine va_iast hx hb hK hP hD hS 95 0 rfl rfl hg_2 dn_Parts_addDecl_30 (fun H locs hP hD hS => ?_)
    have hP : va_P (dC, dI) xcl ((wC a v cI cB cJ cZ cQ (upI s 374 (upd (s.1 374) (Int32.toNatClampNeg ((s.1 371 0))) v1))).set 95 ((a 372), .inl (cI, 10923, .inl (upd (s.1 372) (Int32.toNatClampNeg ((s.1 371 0))) v2)))) H := hP
    have hD : va_D A ((wC a v cI cB cJ cZ cQ (upI s 374 (upd (s.1 374) (Int32.toNatClampNeg ((s.1 371 0))) v1))).set 95 ((a 372), .inl (cI, 10923, .inl (upd (s.1 372) (Int32.toNatClampNeg ((s.1 371 0))) v2)))) := hD
    have hP := wC_P_372 hP
    have hD := wC_D_372 hD
    refine lv_aload_n hx hb dn_Parts_addDecl_31 rfl (lv_at hl 0 rfl) ?_
    refine va_get (D := (dC, dI)) (ci := 11) (v := .ref ((a 373))) (C := rn_Parts) (T := fn_Parts) (N := 15) hx hb hg in_Parts hown hK hP 14 rfl rfl 2 (by decide) (hg _ wn_2_130) (fun _ h9 => h9) rfl dn_Parts_addDecl_32 ?_
    refine lv_aload_n hx hb dn_Parts_addDecl_35 rfl (lv_at hl 0 rfl) ?_
    refine va_get (D := (dC, dI)) (ci := 11) (v := .int ((s.1 371 0))) (C := rn_Parts) (T := fn_Parts) (N := 15) hx hb hg in_Parts hown hK hP 14 rfl rfl 0 (by decide) (hg _ wn_2_123) (fun _ h9 => h9) rfl dn_Parts_addDecl_36 ?_
    refine lv_iload_n hx hb dn_Parts_addDecl_39 rfl (lv_at hl 3 rfl) ?_
    obtain ⟨hg_3, hf⟩ := dc_g hf
    refine va_iast hx hb hK hP hD hS 96 0 rfl rfl hg_3 dn_Parts_addDecl_40 (fun H locs hP hD hS => ?_)
    have hP : va_P (dC, dI) xcl ((wC a v cI cB cJ cZ cQ (upI (upI s 374 (upd (s.1 374) (Int32.toNatClampNeg ((s.1 371 0))) v1)) 372 (upd (s.1 372) (Int32.toNatClampNeg ((s.1 371 0))) v2))).set 96 ((a 373), .inl (cI, 10923, .inl (upd (s.1 373) (Int32.toNatClampNeg ((s.1 371 0))) v3)))) H := hP
    have hD : va_D A ((wC a v cI cB cJ cZ cQ (upI (upI s 374 (upd (s.1 374) (Int32.toNatClampNeg ((s.1 371 0))) v1)) 372 (upd (s.1 372) (Int32.toNatClampNeg ((s.1 371 0))) v2))).set 96 ((a 373), .inl (cI, 10923, .inl (upd (s.1 373) (Int32.toNatClampNeg ((s.1 371 0))) v3)))) := hD
    have hP := wC_P_373 hP
    have hD := wC_D_373 hD
    refine lv_aload_n hx hb dn_Parts_addDecl_41 rfl (lv_at hl 0 rfl) ?_
    refine va_get (D := (dC, dI)) (ci := 11) (v := .ref ((a 375))) (C := rn_Parts) (T := fn_Parts) (N := 15) hx hb hg in_Parts hown hK hP 14 rfl rfl 4 (by decide) (hg _ wn_2_140) (fun _ h9 => h9) rfl dn_Parts_addDecl_42 ?_
    refine lv_aload_n hx hb dn_Parts_addDecl_45 rfl (lv_at hl 0 rfl) ?_
    refine va_get (D := (dC, dI)) (ci := 11) (v := .int ((s.1 371 0))) (C := rn_Parts) (T := fn_Parts) (N := 15) hx hb hg in_Parts hown hK hP 14 rfl rfl 0 (by decide) (hg _ wn_2_123) (fun _ h9 => h9) rfl dn_Parts_addDecl_46 ?_
    refine lv_lconst (v := 0) hx hb dn_Parts_addDecl_49 (by decide) ?_
    obtain ⟨hg_4, hf⟩ := dc_g hf
    refine va_last hx hb hK hP hD hS 98 2 rfl rfl hg_4 dn_Parts_addDecl_50 (fun H locs hP hD hS => ?_)
    have hP : va_P (dC, dI) xcl ((wC a v cI cB cJ cZ cQ (upI (upI (upI s 374 (upd (s.1 374) (Int32.toNatClampNeg ((s.1 371 0))) v1)) 372 (upd (s.1 372) (Int32.toNatClampNeg ((s.1 371 0))) v2)) 373 (upd (s.1 373) (Int32.toNatClampNeg ((s.1 371 0))) v3))).set 98 ((a 375), .inl (cJ, 10923, .inr (.inl (vp_updL (s.2 375) (Int32.toNatClampNeg ((s.1 371 0))) 0))))) H := hP
    have hD : va_D A ((wC a v cI cB cJ cZ cQ (upI (upI (upI s 374 (upd (s.1 374) (Int32.toNatClampNeg ((s.1 371 0))) v1)) 372 (upd (s.1 372) (Int32.toNatClampNeg ((s.1 371 0))) v2)) 373 (upd (s.1 373) (Int32.toNatClampNeg ((s.1 371 0))) v3))).set 98 ((a 375), .inl (cJ, 10923, .inr (.inl (vp_updL (s.2 375) (Int32.toNatClampNeg ((s.1 371 0))) 0))))) := hD
    have hP := wC_P_375 hP
    have hD := wC_D_375 hD
    refine lv_aload_n hx hb dn_Parts_addDecl_51 rfl (lv_at hl 0 rfl) ?_
    refine va_get (D := (dC, dI)) (ci := 11) (v := .ref ((a 376))) (C := rn_Parts) (T := fn_Parts) (N := 15) hx hb hg in_Parts hown hK hP 14 rfl rfl 5 (by decide) (hg _ wn_2_143) (fun _ h9 => h9) rfl dn_Parts_addDecl_52 ?_
    refine lv_aload_n hx hb dn_Parts_addDecl_55 rfl (lv_at hl 0 rfl) ?_
    refine va_get (D := (dC, dI)) (ci := 11) (v := .int ((s.1 371 0))) (C := rn_Parts) (T := fn_Parts) (N := 15) hx hb hg in_Parts hown hK hP 14 rfl rfl 0 (by decide) (hg _ wn_2_123) (fun _ h9 => h9) rfl dn_Parts_addDecl_56 ?_
    refine lv_iconst (v := (-1)) hx hb dn_Parts_addDecl_59 (by decide) ?_
    obtain ⟨hg_5, hf⟩ := dc_g hf
    refine va_iast hx hb hK hP hD hS 99 0 rfl rfl hg_5 dn_Parts_addDecl_60 (fun H locs hP hD hS => ?_)
    have hP : va_P (dC, dI) xcl ((wC a v cI cB cJ cZ cQ (upJ (upI (upI (upI s 374 (upd (s.1 374) (Int32.toNatClampNeg ((s.1 371 0))) v1)) 372 (upd (s.1 372) (Int32.toNatClampNeg ((s.1 371 0))) v2)) 373 (upd (s.1 373) (Int32.toNatClampNeg ((s.1 371 0))) v3)) 375 (vp_updL (s.2 375) (Int32.toNatClampNeg ((s.1 371 0))) 0))).set 99 ((a 376), .inl (cI, 10923, .inl (upd (s.1 376) (Int32.toNatClampNeg ((s.1 371 0))) ((-1)))))) H := hP
    have hD : va_D A ((wC a v cI cB cJ cZ cQ (upJ (upI (upI (upI s 374 (upd (s.1 374) (Int32.toNatClampNeg ((s.1 371 0))) v1)) 372 (upd (s.1 372) (Int32.toNatClampNeg ((s.1 371 0))) v2)) 373 (upd (s.1 373) (Int32.toNatClampNeg ((s.1 371 0))) v3)) 375 (vp_updL (s.2 375) (Int32.toNatClampNeg ((s.1 371 0))) 0))).set 99 ((a 376), .inl (cI, 10923, .inl (upd (s.1 376) (Int32.toNatClampNeg ((s.1 371 0))) ((-1)))))) := hD
    have hP := wC_P_376 hP
    have hD := wC_D_376 hD
    refine lv_aload_n hx hb dn_Parts_addDecl_61 rfl (lv_at hl 0 rfl) ?_
    refine va_get (D := (dC, dI)) (ci := 11) (v := .ref ((a 377))) (C := rn_Parts) (T := fn_Parts) (N := 15) hx hb hg in_Parts hown hK hP 14 rfl rfl 6 (by decide) (hg _ wn_2_146) (fun _ h9 => h9) rfl dn_Parts_addDecl_62 ?_
    refine lv_aload_n hx hb dn_Parts_addDecl_65 rfl (lv_at hl 0 rfl) ?_
    refine va_get (D := (dC, dI)) (ci := 11) (v := .int ((s.1 371 0))) (C := rn_Parts) (T := fn_Parts) (N := 15) hx hb hg in_Parts hown hK hP 14 rfl rfl 0 (by decide) (hg _ wn_2_123) (fun _ h9 => h9) rfl dn_Parts_addDecl_66 ?_
    refine lv_iconst (v := (-1)) hx hb dn_Parts_addDecl_69 (by decide) ?_
    obtain ⟨hg_6, hf⟩ := dc_g hf
    refine va_iast hx hb hK hP hD hS 100 0 rfl rfl hg_6 dn_Parts_addDecl_70 (fun H locs hP hD hS => ?_)
    have hP : va_P (dC, dI) xcl ((wC a v cI cB cJ cZ cQ (upI (upJ (upI (upI (upI s 374 (upd (s.1 374) (Int32.toNatClampNeg ((s.1 371 0))) v1)) 372 (upd (s.1 372) (Int32.toNatClampNeg ((s.1 371 0))) v2)) 373 (upd (s.1 373) (Int32.toNatClampNeg ((s.1 371 0))) v3)) 375 (vp_updL (s.2 375) (Int32.toNatClampNeg ((s.1 371 0))) 0)) 376 (upd (s.1 376) (Int32.toNatClampNeg ((s.1 371 0))) ((-1))))).set 100 ((a 377), .inl (cI, 10923, .inl (upd (s.1 377) (Int32.toNatClampNeg ((s.1 371 0))) ((-1)))))) H := hP
    have hD : va_D A ((wC a v cI cB cJ cZ cQ (upI (upJ (upI (upI (upI s 374 (upd (s.1 374) (Int32.toNatClampNeg ((s.1 371 0))) v1)) 372 (upd (s.1 372) (Int32.toNatClampNeg ((s.1 371 0))) v2)) 373 (upd (s.1 373) (Int32.toNatClampNeg ((s.1 371 0))) v3)) 375 (vp_updL (s.2 375) (Int32.toNatClampNeg ((s.1 371 0))) 0)) 376 (upd (s.1 376) (Int32.toNatClampNeg ((s.1 371 0))) ((-1))))).set 100 ((a 377), .inl (cI, 10923, .inl (upd (s.1 377) (Int32.toNatClampNeg ((s.1 371 0))) ((-1)))))) := hD
    have hP := wC_P_377 hP
    have hD := wC_D_377 hD
    refine lv_aload_n hx hb dn_Parts_addDecl_71 rfl (lv_at hl 0 rfl) ?_
    refine lv_dup hx hb dn_Parts_addDecl_72 rfl ?_
    refine va_get (D := (dC, dI)) (ci := 11) (v := .int ((s.1 371 0))) (C := rn_Parts) (T := fn_Parts) (N := 15) hx hb hg in_Parts hown hK hP 14 rfl rfl 0 (by decide) (hg _ wn_2_123) (fun _ h9 => h9) rfl dn_Parts_addDecl_73 ?_
    refine lv_iconst (v := 1) hx hb dn_Parts_addDecl_76 (by decide) ?_
    refine lv_iadd hx hb dn_Parts_addDecl_77 ?_
    refine va_put (D := (dC, dI)) (ci := 11) (v := .int (((s.1 371 0) + 1))) (ty := .int) (C := rn_Parts) (T := fn_Parts) (N := 15) hx hb hg in_Parts tn_Parts tk_Parts nn_Parts hown hK hP hD hS 14 rfl rfl 0 (by decide) (hg _ wn_2_123) (fun _ h9 => h9) rfl (tk_Parts 0 (by decide)) rfl rfl (Nat.le_of_ble_eq_true rfl) dn_Parts_addDecl_78 (fun H locs hP hD hS => ?_)
    have hP := wC_P_371 hP
    have hD := wC_D_371 hD
    rw [hQQ, ← Option.some.inj hf]
    exact xk_vret (w1 := fun u : Unit => (wC a v cI cB cJ cZ cQ (upI (upI (upI (upJ (upI (upI (upI s 374 (upd (s.1 374) (Int32.toNatClampNeg ((s.1 371 0))) v1)) 372 (upd (s.1 372) (Int32.toNatClampNeg ((s.1 371 0))) v2)) 373 (upd (s.1 373) (Int32.toNatClampNeg ((s.1 371 0))) v3)) 375 (vp_updL (s.2 375) (Int32.toNatClampNeg ((s.1 371 0))) 0)) 376 (upd (s.1 376) (Int32.toNatClampNeg ((s.1 371 0))) ((-1)))) 377 (upd (s.1 377) (Int32.toNatClampNeg ((s.1 371 0))) ((-1)))) 371 (fun _ => ((s.1 371 0) + 1))))) () hx hb hr hlocks hK hS dn_Parts_addDecl_81 hP hD trivial (Nat.le_refl _) (Nat.le_refl _)
  · have hf := (if_neg h).symm.trans hf
    rw [hQQ, ← Option.some.inj hf]
    exact xk_vret (w1 := fun u : Unit => (wC a v cI cB cJ cZ cQ s)) () hx hb hr hlocks hK hS dn_Parts_addDecl_10 hP hD trivial (Nat.le_refl _) (Nat.le_refl _)
set_option maxHeartbeats 8000000 in
set_option maxRecDepth 100000 in
theorem ct_Code_widthOf_Kc (l : Launch) (dC : Nat → ClassId) (dI : Nat → Nat → Nat) (cI cB cJ cZ cQ : ClassId) (N sz : Nat) (a : Nat → Nat) (v : Nat → Value) (v1 : Int32) (s : ms) (y : (Int32 × ms)) (hf : fn_Code_widthOf_Kc N v1 s = some y) : Met l yn_Code_widthOf (xw yn_Code_widthOf bn_Code_widthOf 2 (some .int)) ({ frames := 0, cells := 0, slots := 0, locals := 0 }) (dc_P (dC, dI) xcl (xt cI cB cJ cZ cQ) [.ref ((a 115)), .int v1] sz (wC a v cI cB cJ cZ cQ s)) (xk_Qi (dC, dI) xcl (xt cI cB cJ cZ cQ) (fun (r : Int32) (_ : Unit) => r = y.1) (fun u : Unit => (wC a v cI cB cJ cZ cQ y.2)) (va_A (wC a v cI cB cJ cZ cQ s) sz)) 0 0 (va_A (wC a v cI cB cJ cZ cQ s) sz) := by
  refine dc_of (QA := xk_Qi (dC, dI) xcl (xt cI cB cJ cZ cQ) (fun (r : Int32) (_ : Unit) => r = y.1) (fun u : Unit => (wC a v cI cB cJ cZ cQ y.2))) (by decide) (Nat.le_of_ble_eq_true rfl) ?_
  intro p e s0 m below meth c hx hb hml hown hg hr hlocks hin hP hK hN A hA hD hT ls hl
  have hown : s0.vm.findClass rn_Code = some m.cls := hown
  obtain ⟨H, hH⟩ : ∃ z, z = s0.heap := ⟨_, rfl⟩
  rw [← hH] at hP
  have hS : va_S A s0.heap H [] := by rw [hH]; exact va_S.rf
  suffices kk : ∀ QQ : State → Prop, QQ = MQ below (xk_Qi (dC, dI) xcl (xt cI cB cJ cZ cQ) (fun (r : Int32) (_ : Unit) => r = y.1) (fun u : Unit => (wC a v cI cB cJ cZ cQ y.2)) A) [.ref ((a 115)), .int v1].toArray s0 0 0 A → dcC p l e ({ frames := 0, cells := 0, slots := 0, locals := 0 }) s0 m [.ref ((a 115)), .int v1].toArray below meth c QQ (dC, dI) A (wC a v cI cB cJ cZ cQ s) 0 2 [(0, .ref ((a 115))), (1, .int v1)] [] by
    have k9 := kk _ rfl H [] ls hP hD hS hl
    rw [hH] at k9; exact k9
  clear hP hD hS hl hH H ls
  intro QQ hQQ
  intro H locs ls hP hD hS hl
  unfold fn_Code_widthOf_Kc at hf
  refine lv_iload_n hx hb dn_Code_widthOf_0 rfl (lv_at hl 1 rfl) ?_
  refine lv_if_lt (tgt := 21) hx hb dn_Code_widthOf_1 (by decide) (fun h => ?_) (fun h => ?_)
  · have hf := (if_pos h).symm.trans hf
    refine lv_iconst (v := 1) hx hb dn_Code_widthOf_21 (by decide) ?_
    rw [hQQ, ← Option.some.inj hf]
    exact xk_iret (w1 := fun u : Unit => (wC a v cI cB cJ cZ cQ s)) () hx hb hr hlocks hK hS dn_Code_widthOf_22 hP hD rfl (Nat.le_refl _) (Nat.le_refl _)
  · have hf := (if_neg h).symm.trans hf
    refine lv_iload_n hx hb dn_Code_widthOf_4 rfl (lv_at hl 1 rfl) ?_
    refine lv_aload_n hx hb dn_Code_widthOf_5 rfl (lv_at hl 0 rfl) ?_
    refine va_get (D := (dC, dI)) (ci := 12) (v := .int ((s.1 390 0))) (C := rn_Code) (T := fn_Code) (N := 5) hx hb hg in_Code hown hK hP 15 rfl rfl 4 (by decide) (hg _ wn_2_219) (fun _ h9 => h9) rfl dn_Code_widthOf_6 ?_
    refine lv_icmp_ge (tgt := 21) hx hb dn_Code_widthOf_9 (by decide) (fun h => ?_) (fun h => ?_)
    · have hf := (if_pos h).symm.trans hf
      refine lv_iconst (v := 1) hx hb dn_Code_widthOf_21 (by decide) ?_
      rw [hQQ, ← Option.some.inj hf]
      exact xk_iret (w1 := fun u : Unit => (wC a v cI cB cJ cZ cQ s)) () hx hb hr hlocks hK hS dn_Code_widthOf_22 hP hD rfl (Nat.le_refl _) (Nat.le_refl _)
    · have hf := (if_neg h).symm.trans hf
      refine lv_aload_n hx hb dn_Code_widthOf_12 rfl (lv_at hl 0 rfl) ?_
      refine va_get (D := (dC, dI)) (ci := 12) (v := .ref ((a 388))) (C := rn_Code) (T := fn_Code) (N := 5) hx hb hg in_Code hown hK hP 15 rfl rfl 2 (by decide) (hg _ wn_2_217) (fun _ h9 => h9) rfl dn_Code_widthOf_13 ?_
      refine lv_iload_n hx hb dn_Code_widthOf_16 rfl (lv_at hl 1 rfl) ?_
      obtain ⟨hg_1, hf⟩ := dc_g hf
      refine va_iald hx hb hK hP 108 0 rfl rfl hg_1 dn_Code_widthOf_17 ?_
      refine xk_ti (y := ((s.1 388) (Int32.toNatClampNeg v1))) rfl ?_
      refine lv_goto (tgt := 22) hx hb dn_Code_widthOf_18 (by decide) ?_
      rw [hQQ, ← Option.some.inj hf]
      exact xk_iret (w1 := fun u : Unit => (wC a v cI cB cJ cZ cQ s)) () hx hb hr hlocks hK hS dn_Code_widthOf_22 hP hD rfl (Nat.le_refl _) (Nat.le_refl _)
