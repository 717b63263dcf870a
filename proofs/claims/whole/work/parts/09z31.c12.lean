set_option maxHeartbeats 8000000 in
set_option maxRecDepth 100000 in
theorem ct_Checker_expWidth_Ch (l : Launch) (dC : Nat → ClassId) (dI : Nat → Nat → Nat) (cI cB cJ cZ cQ : ClassId) (N sz : Nat) (a : Nat → Nat) (v : Nat → Value) (s : ms) (y : (Int32 × ms)) (hf : fn_Checker_expWidth_Ch N s = some y) : Met l yn_Checker_expWidth (xw yn_Checker_expWidth bn_Checker_expWidth 1 (some .int)) ({ frames := 1, cells := 0, slots := 0, locals := 20 }) (dc_P (dC, dI) xcl (xt cI cB cJ cZ cQ) [.ref ((a 103))] sz (wC a v cI cB cJ cZ cQ s)) (xk_Qi (dC, dI) xcl (xt cI cB cJ cZ cQ) (fun (r : Int32) (_ : Unit) => r = y.1) (fun u : Unit => (wC a v cI cB cJ cZ cQ y.2)) (va_A (wC a v cI cB cJ cZ cQ s) sz)) 0 0 (va_A (wC a v cI cB cJ cZ cQ s) sz) := by
  refine dc_of (QA := xk_Qi (dC, dI) xcl (xt cI cB cJ cZ cQ) (fun (r : Int32) (_ : Unit) => r = y.1) (fun u : Unit => (wC a v cI cB cJ cZ cQ y.2))) (by decide) (Nat.le_of_ble_eq_true rfl) ?_
  intro p e s0 m below meth c hx hb hml hown hg hr hlocks hin hP hK hN A hA hD hT ls hl
  have hown : s0.vm.findClass rn_Checker = some m.cls := hown
  obtain ⟨H, hH⟩ : ∃ z, z = s0.heap := ⟨_, rfl⟩
  rw [← hH] at hP
  have hS : va_S A s0.heap H [] := by rw [hH]; exact va_S.rf
  suffices kk : ∀ QQ : State → Prop, QQ = MQ below (xk_Qi (dC, dI) xcl (xt cI cB cJ cZ cQ) (fun (r : Int32) (_ : Unit) => r = y.1) (fun u : Unit => (wC a v cI cB cJ cZ cQ y.2)) A) [.ref ((a 103))].toArray s0 0 0 A → dcC p l e ({ frames := 1, cells := 0, slots := 0, locals := 20 }) s0 m [.ref ((a 103))].toArray below meth c QQ (dC, dI) A (wC a v cI cB cJ cZ cQ s) 0 1 [(0, .ref ((a 103)))] [] by
    have k9 := kk _ rfl H [] ls hP hD hS hl
    rw [hH] at k9; exact k9
  clear hP hD hS hl hH H ls
  intro QQ hQQ
  intro H locs ls hP hD hS hl
  unfold fn_Checker_expWidth_Ch at hf
  refine lv_aload_n hx hb dn_Checker_expWidth_0 rfl (lv_at hl 0 rfl) ?_
  obtain ⟨q_1, hc_2, hf⟩ := dc_b hf
  refine dc_calli (dc_runV (ar := 0) (As := []) (rest := []) (ci := 4) (q0 := 3) ⟨hx, hb, hml, hown, hg⟩ hK hN hT hS hA (ct_Checker_pop_Ch l dC dI cI cB cJ cZ cQ N H.size a v s q_1 hc_2) hP hD rfl rfl wn_6_65 wn_6_67 sn_Checker_pop wn_1_4 wn_6_68 rfl rfl (by decide +kernel) ⟨Nat.le_of_ble_eq_true rfl, Nat.le_of_ble_eq_true rfl⟩ rfl hl.1 rfl (Nat.le_of_ble_eq_true rfl) dn_Checker_expWidth_1 ⟨Nat.le_of_ble_eq_true rfl, Nat.le_of_ble_eq_true rfl⟩) hP hD hS hA (fun r_3 _ H locs hw hP hD hS => ?_)
  have hw : r_3 = q_1.1 := hw
  subst hw
  rw [hQQ, ← Option.some.inj hf]
  exact xk_iret (w1 := fun u : Unit => (wC a v cI cB cJ cZ cQ q_1.2)) () hx hb hr hlocks hK hS dn_Checker_expWidth_4 hP hD rfl (Nat.le_refl _) (Nat.le_refl _)
set_option maxHeartbeats 8000000 in
set_option maxRecDepth 100000 in
theorem ct_Meaning_stored_Me (l : Launch) (dC : Nat → ClassId) (dI : Nat → Nat → Nat) (cI cB cJ cZ cQ : ClassId) (N sz : Nat) (a : Nat → Nat) (v : Nat → Value) (hv_6 : v 6 = .ref (a 111)) (v1 : Int32) (s : ms) (y : (Unit × ms)) (hf : fn_Meaning_stored_Me N v1 s = some y) : Met l yn_Meaning_stored (xw yn_Meaning_stored bn_Meaning_stored 2 none) ({ frames := 3, cells := 0, slots := 0, locals := 82 }) (dc_P (dC, dI) xcl (xt cI cB cJ cZ cQ) [.ref ((a 104)), .int v1] sz (wC a v cI cB cJ cZ cQ s)) (xk_Qv (dC, dI) xcl (xt cI cB cJ cZ cQ) (fun _ : Unit => True) (fun u : Unit => (wC a v cI cB cJ cZ cQ y.2)) (va_A (wC a v cI cB cJ cZ cQ s) sz)) 0 0 (va_A (wC a v cI cB cJ cZ cQ s) sz) := by
  refine dc_of (QA := xk_Qv (dC, dI) xcl (xt cI cB cJ cZ cQ) (fun _ : Unit => True) (fun u : Unit => (wC a v cI cB cJ cZ cQ y.2))) (by decide) (Nat.le_of_ble_eq_true rfl) ?_
  intro p e s0 m below meth c hx hb hml hown hg hr hlocks hin hP hK hN A hA hD hT ls hl
  have hown : s0.vm.findClass rn_Meaning = some m.cls := hown
  obtain ⟨H, hH⟩ : ∃ z, z = s0.heap := ⟨_, rfl⟩
  rw [← hH] at hP
  have hS : va_S A s0.heap H [] := by rw [hH]; exact va_S.rf
  suffices kk : ∀ QQ : State → Prop, QQ = MQ below (xk_Qv (dC, dI) xcl (xt cI cB cJ cZ cQ) (fun _ : Unit => True) (fun u : Unit => (wC a v cI cB cJ cZ cQ y.2)) A) [.ref ((a 104)), .int v1].toArray s0 0 0 A → dcC p l e ({ frames := 3, cells := 0, slots := 0, locals := 82 }) s0 m [.ref ((a 104)), .int v1].toArray below meth c QQ (dC, dI) A (wC a v cI cB cJ cZ cQ s) 0 2 [(0, .ref ((a 104))), (1, .int v1)] [] by
    have k9 := kk _ rfl H [] ls hP hD hS hl
    rw [hH] at k9; exact k9
  clear hP hD hS hl hH H ls
  intro QQ hQQ
  have bl_35 : ∀ (s : ms), bk_Meaning_stored_Me_35 N s = some y → dcC p l e ({ frames := 3, cells := 0, slots := 0, locals := 82 }) s0 m [.ref ((a 104)), .int v1].toArray below meth c QQ (dC, dI) A (wC a v cI cB cJ cZ cQ s) 35 2 [(0, .ref ((a 104)))] [] := by
    intro s hf H locs ls hP hD hS hl
    unfold bk_Meaning_stored_Me_35 at hf
    refine lv_aload_n hx hb dn_Meaning_stored_35 rfl (lv_at hl 0 rfl) ?_
    refine va_get (D := (dC, dI)) (ci := 5) (v := .ref ((a 103))) (C := rn_Meaning) (T := fn_Meaning) (N := 17) hx hb hg in_Meaning hown hK hP 4 rfl rfl 0 (by decide) (hg _ wn_1_184) (fun _ h9 => h9) rfl dn_Meaning_stored_36 ?_
    refine lv_aload_n hx hb dn_Meaning_stored_39 rfl (lv_at hl 0 rfl) ?_
    refine va_get (D := (dC, dI)) (ci := 5) (v := .int ((s.1 251 0))) (C := rn_Meaning) (T := fn_Meaning) (N := 17) hx hb hg in_Meaning hown hK hP 4 rfl rfl 7 (by decide) (hg _ wn_1_191) (fun _ h9 => h9) rfl dn_Meaning_stored_40 ?_
    obtain ⟨q_1, hc_2, hf⟩ := dc_b hf
    refine dc_callv (dc_runV (ar := 1) (As := [.int ((s.1 251 0))]) (rest := []) (ci := 4) (q0 := 3) ⟨hx, hb, hml, hown, hg⟩ hK hN hT hS hA (ct_Checker_spend_Ch l dC dI cI cB cJ cZ cQ N H.size a v ((s.1 251 0)) s q_1 hc_2) hP hD rfl rfl wn_5_227 wn_5_228 wn_5_229 wn_1_4 wn_5_230 rfl rfl (by decide +kernel) ⟨Nat.le_of_ble_eq_true rfl, Nat.le_of_ble_eq_true rfl⟩ rfl hl.1 rfl (Nat.le_of_ble_eq_true rfl) dn_Meaning_stored_43 ⟨Nat.le_of_ble_eq_true rfl, Nat.le_of_ble_eq_true rfl⟩) hP hD hS hA (fun _ H locs hw hP hD hS => ?_)
    refine lv_aload_n hx hb dn_Meaning_stored_46 rfl (lv_at hl 0 rfl) ?_
    refine va_get (D := (dC, dI)) (ci := 5) (v := .ref ((a 111))) (C := rn_Meaning) (T := fn_Meaning) (N := 17) hx hb hg in_Meaning hown hK hP 4 rfl rfl 3 (by decide) (hg _ wn_1_187) (fun _ h9 => h9) (congrArg some hv_6) dn_Meaning_stored_47 ?_
    refine lv_sipush (v := 515) hx hb dn_Meaning_stored_50 (by decide) ?_
    refine lv_aload_n hx hb dn_Meaning_stored_53 rfl (lv_at hl 0 rfl) ?_
    refine va_get (D := (dC, dI)) (ci := 5) (v := .ref ((a 103))) (C := rn_Meaning) (T := fn_Meaning) (N := 17) hx hb hg in_Meaning hown hK hP 4 rfl rfl 0 (by decide) (hg _ wn_1_184) (fun _ h9 => h9) rfl dn_Meaning_stored_54 ?_
    refine lv_aload_n hx hb dn_Meaning_stored_57 rfl (lv_at hl 0 rfl) ?_
    refine va_get (D := (dC, dI)) (ci := 5) (v := .int ((q_1.2.1 249 0))) (C := rn_Meaning) (T := fn_Meaning) (N := 17) hx hb hg in_Meaning hown hK hP 4 rfl rfl 5 (by decide) (hg _ wn_1_189) (fun _ h9 => h9) rfl dn_Meaning_stored_58 ?_
    obtain ⟨q_3, hc_4, hf⟩ := dc_b hf
    refine dc_calli (dc_runV (ar := 1) (As := [.int ((q_1.2.1 249 0))]) (rest := [.int 515, .ref ((a 111))]) (ci := 4) (q0 := 3) ⟨hx, hb, hml, hown, hg⟩ hK hN hT hS hA (ct_Checker_localOf_Ch l dC dI cI cB cJ cZ cQ N H.size a v ((q_1.2.1 249 0)) q_1.2 q_3 hc_4) hP hD rfl rfl wn_6_139 wn_6_58 wn_6_59 wn_1_4 wn_6_60 rfl rfl (by decide +kernel) ⟨Nat.le_of_ble_eq_true rfl, Nat.le_of_ble_eq_true rfl⟩ rfl hl.1 rfl (Nat.le_of_ble_eq_true rfl) dn_Meaning_stored_61 ⟨Nat.le_of_ble_eq_true rfl, Nat.le_of_ble_eq_true rfl⟩) hP hD hS hA (fun r_5 _ H locs hw hP hD hS => ?_)
    have hw : r_5 = q_3.1 := hw
    subst hw
    refine lv_bipush (v := 14) hx hb dn_Meaning_stored_64 (by decide) ?_
    refine lv_ishl hx hb dn_Meaning_stored_66 ?_
    refine lv_aload_n hx hb dn_Meaning_stored_67 rfl (lv_at hl 0 rfl) ?_
    refine va_get (D := (dC, dI)) (ci := 5) (v := .int ((q_3.2.1 250 0))) (C := rn_Meaning) (T := fn_Meaning) (N := 17) hx hb hg in_Meaning hown hK hP 4 rfl rfl 6 (by decide) (hg _ wn_1_190) (fun _ h9 => h9) rfl dn_Meaning_stored_68 ?_
    refine lv_bipush (v := 7) hx hb dn_Meaning_stored_71 (by decide) ?_
    refine lv_ishl hx hb dn_Meaning_stored_73 ?_
    refine lv_ior hx hb dn_Meaning_stored_74 ?_
    refine lv_aload_n hx hb dn_Meaning_stored_75 rfl (lv_at hl 0 rfl) ?_
    refine va_get (D := (dC, dI)) (ci := 5) (v := .int ((q_3.2.1 251 0))) (C := rn_Meaning) (T := fn_Meaning) (N := 17) hx hb hg in_Meaning hown hK hP 4 rfl rfl 7 (by decide) (hg _ wn_1_191) (fun _ h9 => h9) rfl dn_Meaning_stored_76 ?_
    refine lv_ior hx hb dn_Meaning_stored_79 ?_
    obtain ⟨q_6, hc_7, hf⟩ := dc_b hf
    refine dc_calli (dc_runV (ar := 2) (As := [.int 515, .int (((((q_3.1 : Int32) <<< (14 &&& 31)) ||| (((q_3.2.1 250 0) : Int32) <<< (7 &&& 31))) ||| (q_3.2.1 251 0)))]) (rest := []) (ci := 12) (q0 := 11) ⟨hx, hb, hml, hown, hg⟩ hK hN hT hS hA (ct_Code_emit_Ks l dC dI cI cB cJ cZ cQ N H.size a v 515 (((((q_3.1 : Int32) <<< (14 &&& 31)) ||| (((q_3.2.1 250 0) : Int32) <<< (7 &&& 31))) ||| (q_3.2.1 251 0))) q_3.2 q_6 hc_7) hP hD rfl rfl wn_5_197 wn_5_198 wn_5_199 wn_1_12 wn_5_200 rfl rfl (by decide +kernel) ⟨Nat.le_of_ble_eq_true rfl, Nat.le_of_ble_eq_true rfl⟩ rfl hl.1 rfl (Nat.le_of_ble_eq_true rfl) dn_Meaning_stored_80 ⟨Nat.le_of_ble_eq_true rfl, Nat.le_of_ble_eq_true rfl⟩) hP hD hS hA (fun r_8 _ H locs hw hP hD hS => ?_)
    have hw : r_8 = q_6.1 := hw
    subst hw
    refine lv_pop hx hb dn_Meaning_stored_83 rfl ?_
    refine lv_aload_n hx hb dn_Meaning_stored_84 rfl (lv_at hl 0 rfl) ?_
    refine lv_iconst (v := 1) hx hb dn_Meaning_stored_85 (by decide) ?_
    refine va_put (D := (dC, dI)) (ci := 5) (v := .int 1) (ty := .boolean) (C := rn_Meaning) (T := fn_Meaning) (N := 17) hx hb hg in_Meaning tn_Meaning tk_Meaning nn_Meaning hown hK hP hD hS 4 rfl rfl 11 (by decide) (hg _ wn_1_195) (fun _ h9 => h9) rfl (tk_Meaning 11 (by decide)) rfl rfl (Nat.le_of_ble_eq_true rfl) dn_Meaning_stored_86 (fun H locs hP hD hS => ?_)
    have hP := wC_P_255 hP
    have hD := wC_D_255 hD
    rw [hQQ, ← Option.some.inj hf]
    exact xk_vret (w1 := fun u : Unit => (wC a v cI cB cJ cZ cQ (upI q_6.2 255 (fun _ => 1)))) () hx hb hr hlocks hK hS dn_Meaning_stored_89 hP hD trivial (Nat.le_refl _) (Nat.le_refl _)
  intro H locs ls hP hD hS hl
  unfold fn_Meaning_stored_Me at hf
  refine lv_aload_n hx hb dn_Meaning_stored_0 rfl (lv_at hl 0 rfl) ?_
  refine va_get (D := (dC, dI)) (ci := 5) (v := .ref ((a 103))) (C := rn_Meaning) (T := fn_Meaning) (N := 17) hx hb hg in_Meaning hown hK hP 4 rfl rfl 0 (by decide) (hg _ wn_1_184) (fun _ h9 => h9) rfl dn_Meaning_stored_1 ?_
  obtain ⟨q_1, hc_2, hf⟩ := dc_b hf
  refine dc_calli (dc_runV (ar := 0) (As := []) (rest := []) (ci := 4) (q0 := 3) ⟨hx, hb, hml, hown, hg⟩ hK hN hT hS hA (ct_Checker_isOff_Ch l dC dI cI cB cJ cZ cQ N H.size a v s q_1 hc_2) hP hD rfl rfl wn_4_193 wn_4_194 wn_4_195 wn_1_4 wn_4_196 rfl rfl (by decide +kernel) ⟨Nat.le_of_ble_eq_true rfl, Nat.le_of_ble_eq_true rfl⟩ rfl hl.1 rfl (Nat.le_of_ble_eq_true rfl) dn_Meaning_stored_4 ⟨Nat.le_of_ble_eq_true rfl, Nat.le_of_ble_eq_true rfl⟩) hP hD hS hA (fun r_3 _ H locs hw hP hD hS => ?_)
  have hw : r_3 = q_1.1 := hw
  subst hw
  refine lv_if_eq (tgt := 11) hx hb dn_Meaning_stored_7 (by decide) (fun h => ?_) (fun h => ?_)
  · have hf := (if_pos h).symm.trans hf
    refine lv_aload_n hx hb dn_Meaning_stored_11 rfl (lv_at hl 0 rfl) ?_
    refine va_get (D := (dC, dI)) (ci := 5) (v := .ref ((a 103))) (C := rn_Meaning) (T := fn_Meaning) (N := 17) hx hb hg in_Meaning hown hK hP 4 rfl rfl 0 (by decide) (hg _ wn_1_184) (fun _ h9 => h9) rfl dn_Meaning_stored_12 ?_
    obtain ⟨q_4, hc_5, hf⟩ := dc_b hf
    refine dc_calli (dc_runV (ar := 0) (As := []) (rest := []) (ci := 4) (q0 := 3) ⟨hx, hb, hml, hown, hg⟩ hK hN hT hS hA (ct_Checker_expWidth_Ch l dC dI cI cB cJ cZ cQ N H.size a v q_1.2 q_4 hc_5) hP hD rfl rfl wn_6_131 wn_6_132 wn_6_133 wn_1_4 wn_6_134 rfl rfl (by decide +kernel) ⟨Nat.le_of_ble_eq_true rfl, Nat.le_of_ble_eq_true rfl⟩ rfl hl.1 rfl (Nat.le_of_ble_eq_true rfl) dn_Meaning_stored_15 ⟨Nat.le_of_ble_eq_true rfl, Nat.le_of_ble_eq_true rfl⟩) hP hD hS hA (fun r_6 _ H locs hw hP hD hS => ?_)
    have hw : r_6 = q_4.1 := hw
    subst hw
    refine lv_aload_n hx hb dn_Meaning_stored_18 rfl (lv_at hl 0 rfl) ?_
    refine va_get (D := (dC, dI)) (ci := 5) (v := .int ((q_4.2.1 251 0))) (C := rn_Meaning) (T := fn_Meaning) (N := 17) hx hb hg in_Meaning hown hK hP 4 rfl rfl 7 (by decide) (hg _ wn_1_191) (fun _ h9 => h9) rfl dn_Meaning_stored_19 ?_
    refine lv_icmp_eq (tgt := 35) hx hb dn_Meaning_stored_22 (by decide) (fun h => ?_) (fun h => ?_)
    · have hf := (if_pos h).symm.trans hf
      exact bl_35 q_4.2 hf H locs ls hP hD hS (lv_sub hl [0] rfl)
    · have hf := (if_neg h).symm.trans hf
      refine lv_aload_n hx hb dn_Meaning_stored_25 rfl (lv_at hl 0 rfl) ?_
      refine va_get (D := (dC, dI)) (ci := 5) (v := .ref ((a 103))) (C := rn_Meaning) (T := fn_Meaning) (N := 17) hx hb hg in_Meaning hown hK hP 4 rfl rfl 0 (by decide) (hg _ wn_1_184) (fun _ h9 => h9) rfl dn_Meaning_stored_26 ?_
      refine lv_bipush (v := 30) hx hb dn_Meaning_stored_29 (by decide) ?_
      refine lv_iload_n hx hb dn_Meaning_stored_31 rfl (lv_at hl 1 rfl) ?_
      obtain ⟨q_7, hc_8, hf⟩ := dc_b hf
      refine dc_callv (dc_runV (ar := 2) (As := [.int 30, .int v1]) (rest := []) (ci := 4) (q0 := 3) ⟨hx, hb, hml, hown, hg⟩ hK hN hT hS hA (ct_Checker_refuse_Ch l dC dI cI cB cJ cZ cQ N H.size a v 30 v1 q_4.2 q_7 hc_8) hP hD rfl rfl wn_4_201 wn_4_202 wn_4_203 wn_1_4 wn_4_204 rfl rfl (by decide +kernel) ⟨Nat.le_of_ble_eq_true rfl, Nat.le_of_ble_eq_true rfl⟩ rfl hl.1 rfl (Nat.le_of_ble_eq_true rfl) dn_Meaning_stored_32 ⟨Nat.le_of_ble_eq_true rfl, Nat.le_of_ble_eq_true rfl⟩) hP hD hS hA (fun _ H locs hw hP hD hS => ?_)
      exact bl_35 q_7.2 hf H locs ls hP hD hS (lv_sub hl [0] rfl)
  · have hf := (if_neg h).symm.trans hf
    rw [hQQ, ← Option.some.inj hf]
    exact xk_vret (w1 := fun u : Unit => (wC a v cI cB cJ cZ cQ q_1.2)) () hx hb hr hlocks hK hS dn_Meaning_stored_10 hP hD trivial (Nat.le_refl _) (Nat.le_refl _)
set_option maxHeartbeats 8000000 in
set_option maxRecDepth 100000 in
theorem ct_Meaning_assigned_Me (l : Launch) (dC : Nat → ClassId) (dI : Nat → Nat → Nat) (cI cB cJ cZ cQ : ClassId) (N sz : Nat) (a : Nat → Nat) (v : Nat → Value) (hv_2 : v 2 = .ref (a 110)) (hv_5 : v 5 = .ref (a 110)) (hv_6 : v 6 = .ref (a 111)) (v1 : Int32) (s : ms) (y : (Unit × ms)) (hf : fn_Meaning_assigned_Me N v1 s = some y) : Met l yn_Meaning_assigned (xw yn_Meaning_assigned bn_Meaning_assigned 2 none) ({ frames := 2, cells := 0, slots := 0, locals := 40 }) (dc_P (dC, dI) xcl (xt cI cB cJ cZ cQ) [.ref ((a 104)), .int v1] sz (wC a v cI cB cJ cZ cQ s)) (xk_Qv (dC, dI) xcl (xt cI cB cJ cZ cQ) (fun _ : Unit => True) (fun u : Unit => (wC a v cI cB cJ cZ cQ y.2)) (va_A (wC a v cI cB cJ cZ cQ s) sz)) 0 0 (va_A (wC a v cI cB cJ cZ cQ s) sz) := by
  refine dc_of (QA := xk_Qv (dC, dI) xcl (xt cI cB cJ cZ cQ) (fun _ : Unit => True) (fun u : Unit => (wC a v cI cB cJ cZ cQ y.2))) (by decide) (Nat.le_of_ble_eq_true rfl) ?_
  intro p e s0 m below meth c hx hb hml hown hg hr hlocks hin hP hK hN A hA hD hT ls hl
  have hown : s0.vm.findClass rn_Meaning = some m.cls := hown
  obtain ⟨H, hH⟩ : ∃ z, z = s0.heap := ⟨_, rfl⟩
  rw [← hH] at hP
  have hS : va_S A s0.heap H [] := by rw [hH]; exact va_S.rf
  suffices kk : ∀ QQ : State → Prop, QQ = MQ below (xk_Qv (dC, dI) xcl (xt cI cB cJ cZ cQ) (fun _ : Unit => True) (fun u : Unit => (wC a v cI cB cJ cZ cQ y.2)) A) [.ref ((a 104)), .int v1].toArray s0 0 0 A → dcC p l e ({ frames := 2, cells := 0, slots := 0, locals := 40 }) s0 m [.ref ((a 104)), .int v1].toArray below meth c QQ (dC, dI) A (wC a v cI cB cJ cZ cQ s) 0 2 [(0, .ref ((a 104))), (1, .int v1)] [] by
    have k9 := kk _ rfl H [] ls hP hD hS hl
    rw [hH] at k9; exact k9
  clear hP hD hS hl hH H ls
  intro QQ hQQ
  have bl_58 : ∀ (s : ms), bk_Meaning_assigned_Me_58 N s = some y → dcC p l e ({ frames := 2, cells := 0, slots := 0, locals := 40 }) s0 m [.ref ((a 104)), .int v1].toArray below meth c QQ (dC, dI) A (wC a v cI cB cJ cZ cQ s) 58 2 [(0, .ref ((a 104)))] [] := by
    intro s hf H locs ls hP hD hS hl
    unfold bk_Meaning_assigned_Me_58 at hf
    refine lv_aload_n hx hb dn_Meaning_assigned_58 rfl (lv_at hl 0 rfl) ?_
    refine va_get (D := (dC, dI)) (ci := 5) (v := .ref ((a 110))) (C := rn_Meaning) (T := fn_Meaning) (N := 17) hx hb hg in_Meaning hown hK hP 4 rfl rfl 2 (by decide) (hg _ wn_1_186) (fun _ h9 => h9) (congrArg some hv_5) dn_Meaning_assigned_59 ?_
    refine va_get (D := (dC, dI)) (ci := 11) (v := .ref ((a 327))) (C := rn_Parts) (T := fn_Parts) (N := 15) hx hb hg in_Parts hown hK hP 10 rfl rfl 6 (by decide) (hg _ wn_2_148) (fun _ h9 => h9) rfl dn_Meaning_assigned_62 ?_
    refine lv_aload_n hx hb dn_Meaning_assigned_65 rfl (lv_at hl 0 rfl) ?_
    refine va_get (D := (dC, dI)) (ci := 5) (v := .int ((s.1 249 0))) (C := rn_Meaning) (T := fn_Meaning) (N := 17) hx hb hg in_Meaning hown hK hP 4 rfl rfl 5 (by decide) (hg _ wn_1_189) (fun _ h9 => h9) rfl dn_Meaning_assigned_66 ?_
    refine lv_aload_n hx hb dn_Meaning_assigned_69 rfl (lv_at hl 0 rfl) ?_
    refine va_get (D := (dC, dI)) (ci := 5) (v := .ref ((a 111))) (C := rn_Meaning) (T := fn_Meaning) (N := 17) hx hb hg in_Meaning hown hK hP 4 rfl rfl 3 (by decide) (hg _ wn_1_187) (fun _ h9 => h9) (congrArg some hv_6) dn_Meaning_assigned_70 ?_
    refine va_get (D := (dC, dI)) (ci := 12) (v := .int ((s.1 337 0))) (C := rn_Code) (T := fn_Code) (N := 5) hx hb hg in_Code hown hK hP 11 rfl rfl 1 (by decide) (hg _ wn_2_214) (fun _ h9 => h9) rfl dn_Meaning_assigned_73 ?_
    obtain ⟨hg_1, hf⟩ := dc_g hf
    refine va_iast hx hb hK hP hD hS 66 0 rfl rfl hg_1 dn_Meaning_assigned_76 (fun H locs hP hD hS => ?_)
    have hP : va_P (dC, dI) xcl ((wC a v cI cB cJ cZ cQ s).set 66 ((a 327), .inl (cI, 10923, .inl (upd (s.1 327) (Int32.toNatClampNeg ((s.1 249 0))) ((s.1 337 0)))))) H := hP
    have hD : va_D A ((wC a v cI cB cJ cZ cQ s).set 66 ((a 327), .inl (cI, 10923, .inl (upd (s.1 327) (Int32.toNatClampNeg ((s.1 249 0))) ((s.1 337 0)))))) := hD
    have hP := wC_P_327 hP
    have hD := wC_D_327 hD
    rw [hQQ, ← Option.some.inj hf]
    exact xk_vret (w1 := fun u : Unit => (wC a v cI cB cJ cZ cQ (upI s 327 (upd (s.1 327) (Int32.toNatClampNeg ((s.1 249 0))) ((s.1 337 0)))))) () hx hb hr hlocks hK hS dn_Meaning_assigned_77 hP hD trivial (Nat.le_refl _) (Nat.le_refl _)
  intro H locs ls hP hD hS hl
  unfold fn_Meaning_assigned_Me at hf
  refine lv_aload_n hx hb dn_Meaning_assigned_0 rfl (lv_at hl 0 rfl) ?_
  refine va_get (D := (dC, dI)) (ci := 5) (v := .ref ((a 103))) (C := rn_Meaning) (T := fn_Meaning) (N := 17) hx hb hg in_Meaning hown hK hP 4 rfl rfl 0 (by decide) (hg _ wn_1_184) (fun _ h9 => h9) rfl dn_Meaning_assigned_1 ?_
  obtain ⟨q_1, hc_2, hf⟩ := dc_b hf
  refine dc_calli (dc_runV (ar := 0) (As := []) (rest := []) (ci := 4) (q0 := 3) ⟨hx, hb, hml, hown, hg⟩ hK hN hT hS hA (ct_Checker_isOff_Ch l dC dI cI cB cJ cZ cQ N H.size a v s q_1 hc_2) hP hD rfl rfl wn_4_193 wn_4_194 wn_4_195 wn_1_4 wn_4_196 rfl rfl (by decide +kernel) ⟨Nat.le_of_ble_eq_true rfl, Nat.le_of_ble_eq_true rfl⟩ rfl hl.1 rfl (Nat.le_of_ble_eq_true rfl) dn_Meaning_assigned_4 ⟨Nat.le_of_ble_eq_true rfl, Nat.le_of_ble_eq_true rfl⟩) hP hD hS hA (fun r_3 _ H locs hw hP hD hS => ?_)
  have hw : r_3 = q_1.1 := hw
  subst hw
  refine lv_if_ne (tgt := 25) hx hb dn_Meaning_assigned_7 (by decide) (fun h => ?_) (fun h => ?_)
  · have hf := (if_neg h).symm.trans hf
    rw [hQQ, ← Option.some.inj hf]
    exact xk_vret (w1 := fun u : Unit => (wC a v cI cB cJ cZ cQ q_1.2)) () hx hb hr hlocks hK hS dn_Meaning_assigned_25 hP hD trivial (Nat.le_refl _) (Nat.le_refl _)
  · have hf := (if_pos h).symm.trans hf
    refine lv_aload_n hx hb dn_Meaning_assigned_10 rfl (lv_at hl 0 rfl) ?_
    refine va_get (D := (dC, dI)) (ci := 5) (v := .ref ((a 103))) (C := rn_Meaning) (T := fn_Meaning) (N := 17) hx hb hg in_Meaning hown hK hP 4 rfl rfl 0 (by decide) (hg _ wn_1_184) (fun _ h9 => h9) rfl dn_Meaning_assigned_11 ?_
    refine lv_aload_n hx hb dn_Meaning_assigned_14 rfl (lv_at hl 0 rfl) ?_
    refine va_get (D := (dC, dI)) (ci := 5) (v := .int ((q_1.2.1 249 0))) (C := rn_Meaning) (T := fn_Meaning) (N := 17) hx hb hg in_Meaning hown hK hP 4 rfl rfl 5 (by decide) (hg _ wn_1_189) (fun _ h9 => h9) rfl dn_Meaning_assigned_15 ?_
    obtain ⟨q_4, hc_5, hf⟩ := dc_b hf
    refine dc_calli (dc_runV (ar := 1) (As := [.int ((q_1.2.1 249 0))]) (rest := []) (ci := 4) (q0 := 3) ⟨hx, hb, hml, hown, hg⟩ hK hN hT hS hA (ct_Checker_sortOf_Ch l dC dI cI cB cJ cZ cQ N H.size a v hv_2 ((q_1.2.1 249 0)) q_1.2 q_4 hc_5) hP hD rfl rfl wn_5_42 wn_5_43 wn_5_44 wn_1_4 wn_5_45 rfl rfl (by decide +kernel) ⟨Nat.le_of_ble_eq_true rfl, Nat.le_of_ble_eq_true rfl⟩ rfl hl.1 rfl (Nat.le_of_ble_eq_true rfl) dn_Meaning_assigned_18 ⟨Nat.le_of_ble_eq_true rfl, Nat.le_of_ble_eq_true rfl⟩) hP hD hS hA (fun r_6 _ H locs hw hP hD hS => ?_)
    have hw : r_6 = q_4.1 := hw
    subst hw
    refine lv_iconst (v := (-1)) hx hb dn_Meaning_assigned_21 (by decide) ?_
    refine lv_icmp_ne (tgt := 26) hx hb dn_Meaning_assigned_22 (by decide) (fun h => ?_) (fun h => ?_)
    · have hf := (if_neg h).symm.trans hf
      refine lv_aload_n hx hb dn_Meaning_assigned_26 rfl (lv_at hl 0 rfl) ?_
      refine va_get (D := (dC, dI)) (ci := 5) (v := .ref ((a 103))) (C := rn_Meaning) (T := fn_Meaning) (N := 17) hx hb hg in_Meaning hown hK hP 4 rfl rfl 0 (by decide) (hg _ wn_1_184) (fun _ h9 => h9) rfl dn_Meaning_assigned_27 ?_
      obtain ⟨q_7, hc_8, hf⟩ := dc_b hf
      refine dc_calli (dc_runV (ar := 0) (As := []) (rest := []) (ci := 4) (q0 := 3) ⟨hx, hb, hml, hown, hg⟩ hK hN hT hS hA (ct_Checker_expWidth_Ch l dC dI cI cB cJ cZ cQ N H.size a v q_4.2 q_7 hc_8) hP hD rfl rfl wn_6_131 wn_6_132 wn_6_133 wn_1_4 wn_6_134 rfl rfl (by decide +kernel) ⟨Nat.le_of_ble_eq_true rfl, Nat.le_of_ble_eq_true rfl⟩ rfl hl.1 rfl (Nat.le_of_ble_eq_true rfl) dn_Meaning_assigned_30 ⟨Nat.le_of_ble_eq_true rfl, Nat.le_of_ble_eq_true rfl⟩) hP hD hS hA (fun r_9 _ H locs hw hP hD hS => ?_)
      have hw : r_9 = q_7.1 := hw
      subst hw
      refine lv_aload_n hx hb dn_Meaning_assigned_33 rfl (lv_at hl 0 rfl) ?_
      refine va_get (D := (dC, dI)) (ci := 5) (v := .ref ((a 110))) (C := rn_Meaning) (T := fn_Meaning) (N := 17) hx hb hg in_Meaning hown hK hP 4 rfl rfl 2 (by decide) (hg _ wn_1_186) (fun _ h9 => h9) (congrArg some hv_5) dn_Meaning_assigned_34 ?_
      refine va_get (D := (dC, dI)) (ci := 11) (v := .ref ((a 323))) (C := rn_Parts) (T := fn_Parts) (N := 15) hx hb hg in_Parts hown hK hP 10 rfl rfl 2 (by decide) (hg _ wn_2_131) (fun _ h9 => h9) rfl dn_Meaning_assigned_37 ?_
      refine lv_aload_n hx hb dn_Meaning_assigned_40 rfl (lv_at hl 0 rfl) ?_
      refine va_get (D := (dC, dI)) (ci := 5) (v := .int ((q_7.2.1 249 0))) (C := rn_Meaning) (T := fn_Meaning) (N := 17) hx hb hg in_Meaning hown hK hP 4 rfl rfl 5 (by decide) (hg _ wn_1_189) (fun _ h9 => h9) rfl dn_Meaning_assigned_41 ?_
      obtain ⟨hg_10, hf⟩ := dc_g hf
      refine va_iald hx hb hK hP 62 0 rfl rfl hg_10 dn_Meaning_assigned_44 ?_
      refine xk_ti (y := ((q_7.2.1 323) (Int32.toNatClampNeg ((q_7.2.1 249 0))))) rfl ?_
      refine lv_icmp_eq (tgt := 58) hx hb dn_Meaning_assigned_45 (by decide) (fun h => ?_) (fun h => ?_)
      · have hf := (if_pos h).symm.trans hf
        exact bl_58 q_7.2 hf H locs ls hP hD hS (lv_sub hl [0] rfl)
      · have hf := (if_neg h).symm.trans hf
        refine lv_aload_n hx hb dn_Meaning_assigned_48 rfl (lv_at hl 0 rfl) ?_
        refine va_get (D := (dC, dI)) (ci := 5) (v := .ref ((a 103))) (C := rn_Meaning) (T := fn_Meaning) (N := 17) hx hb hg in_Meaning hown hK hP 4 rfl rfl 0 (by decide) (hg _ wn_1_184) (fun _ h9 => h9) rfl dn_Meaning_assigned_49 ?_
        refine lv_bipush (v := 30) hx hb dn_Meaning_assigned_52 (by decide) ?_
        refine lv_iload_n hx hb dn_Meaning_assigned_54 rfl (lv_at hl 1 rfl) ?_
        obtain ⟨q_11, hc_12, hf⟩ := dc_b hf
        refine dc_callv (dc_runV (ar := 2) (As := [.int 30, .int v1]) (rest := []) (ci := 4) (q0 := 3) ⟨hx, hb, hml, hown, hg⟩ hK hN hT hS hA (ct_Checker_refuse_Ch l dC dI cI cB cJ cZ cQ N H.size a v 30 v1 q_7.2 q_11 hc_12) hP hD rfl rfl wn_4_201 wn_4_202 wn_4_203 wn_1_4 wn_4_204 rfl rfl (by decide +kernel) ⟨Nat.le_of_ble_eq_true rfl, Nat.le_of_ble_eq_true rfl⟩ rfl hl.1 rfl (Nat.le_of_ble_eq_true rfl) dn_Meaning_assigned_55 ⟨Nat.le_of_ble_eq_true rfl, Nat.le_of_ble_eq_true rfl⟩) hP hD hS hA (fun _ H locs hw hP hD hS => ?_)
        exact bl_58 q_11.2 hf H locs ls hP hD hS (lv_sub hl [0] rfl)
    · have hf := (if_pos h).symm.trans hf
      rw [hQQ, ← Option.some.inj hf]
      exact xk_vret (w1 := fun u : Unit => (wC a v cI cB cJ cZ cQ q_4.2)) () hx hb hr hlocks hK hS dn_Meaning_assigned_25 hP hD trivial (Nat.le_refl _) (Nat.le_refl _)
set_option maxHeartbeats 8000000 in
set_option maxRecDepth 100000 in
theorem ct_Meaning_condition_Me (l : Launch) (dC : Nat → ClassId) (dI : Nat → Nat → Nat) (cI cB cJ cZ cQ : ClassId) (N sz : Nat) (a : Nat → Nat) (v : Nat → Value) (hv_6 : v 6 = .ref (a 111)) (s : ms) (y : (Unit × ms)) (hf : fn_Meaning_condition_Me N s = some y) : Met l yn_Meaning_condition (xw yn_Meaning_condition bn_Meaning_condition 1 none) ({ frames := 3, cells := 0, slots := 0, locals := 82 }) (dc_P (dC, dI) xcl (xt cI cB cJ cZ cQ) [.ref ((a 104))] sz (wC a v cI cB cJ cZ cQ s)) (xk_Qv (dC, dI) xcl (xt cI cB cJ cZ cQ) (fun _ : Unit => True) (fun u : Unit => (wC a v cI cB cJ cZ cQ y.2)) (va_A (wC a v cI cB cJ cZ cQ s) sz)) 0 0 (va_A (wC a v cI cB cJ cZ cQ s) sz) := by
  refine dc_of (QA := xk_Qv (dC, dI) xcl (xt cI cB cJ cZ cQ) (fun _ : Unit => True) (fun u : Unit => (wC a v cI cB cJ cZ cQ y.2))) (by decide) (Nat.le_of_ble_eq_true rfl) ?_
  intro p e s0 m below meth c hx hb hml hown hg hr hlocks hin hP hK hN A hA hD hT ls hl
  have hown : s0.vm.findClass rn_Meaning = some m.cls := hown
  obtain ⟨H, hH⟩ : ∃ z, z = s0.heap := ⟨_, rfl⟩
  rw [← hH] at hP
  have hS : va_S A s0.heap H [] := by rw [hH]; exact va_S.rf
  suffices kk : ∀ QQ : State → Prop, QQ = MQ below (xk_Qv (dC, dI) xcl (xt cI cB cJ cZ cQ) (fun _ : Unit => True) (fun u : Unit => (wC a v cI cB cJ cZ cQ y.2)) A) [.ref ((a 104))].toArray s0 0 0 A → dcC p l e ({ frames := 3, cells := 0, slots := 0, locals := 82 }) s0 m [.ref ((a 104))].toArray below meth c QQ (dC, dI) A (wC a v cI cB cJ cZ cQ s) 0 1 [(0, .ref ((a 104)))] [] by
    have k9 := kk _ rfl H [] ls hP hD hS hl
    rw [hH] at k9; exact k9
  clear hP hD hS hl hH H ls
  intro QQ hQQ
  intro H locs ls hP hD hS hl
  unfold fn_Meaning_condition_Me at hf
  refine lv_aload_n hx hb dn_Meaning_condition_0 rfl (lv_at hl 0 rfl) ?_
  refine va_get (D := (dC, dI)) (ci := 5) (v := .ref ((a 103))) (C := rn_Meaning) (T := fn_Meaning) (N := 17) hx hb hg in_Meaning hown hK hP 4 rfl rfl 0 (by decide) (hg _ wn_1_184) (fun _ h9 => h9) rfl dn_Meaning_condition_1 ?_
  obtain ⟨q_1, hc_2, hf⟩ := dc_b hf
  refine dc_calli (dc_runV (ar := 0) (As := []) (rest := []) (ci := 4) (q0 := 3) ⟨hx, hb, hml, hown, hg⟩ hK hN hT hS hA (ct_Checker_isOff_Ch l dC dI cI cB cJ cZ cQ N H.size a v s q_1 hc_2) hP hD rfl rfl wn_4_193 wn_4_194 wn_4_195 wn_1_4 wn_4_196 rfl rfl (by decide +kernel) ⟨Nat.le_of_ble_eq_true rfl, Nat.le_of_ble_eq_true rfl⟩ rfl hl.1 rfl (Nat.le_of_ble_eq_true rfl) dn_Meaning_condition_4 ⟨Nat.le_of_ble_eq_true rfl, Nat.le_of_ble_eq_true rfl⟩) hP hD hS hA (fun r_3 _ H locs hw hP hD hS => ?_)
  have hw : r_3 = q_1.1 := hw
  subst hw
  refine lv_if_ne (tgt := 19) hx hb dn_Meaning_condition_7 (by decide) (fun h => ?_) (fun h => ?_)
  · have hf := (if_neg h).symm.trans hf
    rw [hQQ, ← Option.some.inj hf]
    exact xk_vret (w1 := fun u : Unit => (wC a v cI cB cJ cZ cQ q_1.2)) () hx hb hr hlocks hK hS dn_Meaning_condition_19 hP hD trivial (Nat.le_refl _) (Nat.le_refl _)
  · have hf := (if_pos h).symm.trans hf
    refine lv_aload_n hx hb dn_Meaning_condition_10 rfl (lv_at hl 0 rfl) ?_
    refine va_get (D := (dC, dI)) (ci := 5) (v := .int ((q_1.2.1 260 0))) (C := rn_Meaning) (T := fn_Meaning) (N := 17) hx hb hg in_Meaning hown hK hP 4 rfl rfl 16 (by decide) (hg _ wn_1_200) (fun _ h9 => h9) rfl dn_Meaning_condition_11 ?_
    refine lv_bipush (v := 60) hx hb dn_Meaning_condition_14 (by decide) ?_
    refine lv_icmp_lt (tgt := 20) hx hb dn_Meaning_condition_16 (by decide) (fun h => ?_) (fun h => ?_)
    · have hf := (if_pos h).symm.trans hf
      refine lv_aload_n hx hb dn_Meaning_condition_20 rfl (lv_at hl 0 rfl) ?_
      refine va_get (D := (dC, dI)) (ci := 5) (v := .ref ((a 103))) (C := rn_Meaning) (T := fn_Meaning) (N := 17) hx hb hg in_Meaning hown hK hP 4 rfl rfl 0 (by decide) (hg _ wn_1_184) (fun _ h9 => h9) rfl dn_Meaning_condition_21 ?_
      refine lv_aload_n hx hb dn_Meaning_condition_24 rfl (lv_at hl 0 rfl) ?_
      refine va_get (D := (dC, dI)) (ci := 5) (v := .ref ((a 103))) (C := rn_Meaning) (T := fn_Meaning) (N := 17) hx hb hg in_Meaning hown hK hP 4 rfl rfl 0 (by decide) (hg _ wn_1_184) (fun _ h9 => h9) rfl dn_Meaning_condition_25 ?_
      obtain ⟨q_4, hc_5, hf⟩ := dc_b hf
      refine dc_calli (dc_runV (ar := 0) (As := []) (rest := [.ref ((a 103))]) (ci := 4) (q0 := 3) ⟨hx, hb, hml, hown, hg⟩ hK hN hT hS hA (ct_Checker_expWidth_Ch l dC dI cI cB cJ cZ cQ N H.size a v q_1.2 q_4 hc_5) hP hD rfl rfl wn_6_131 wn_6_132 wn_6_133 wn_1_4 wn_6_134 rfl rfl (by decide +kernel) ⟨Nat.le_of_ble_eq_true rfl, Nat.le_of_ble_eq_true rfl⟩ rfl hl.1 rfl (Nat.le_of_ble_eq_true rfl) dn_Meaning_condition_28 ⟨Nat.le_of_ble_eq_true rfl, Nat.le_of_ble_eq_true rfl⟩) hP hD hS hA (fun r_6 _ H locs hw hP hD hS => ?_)
      have hw : r_6 = q_4.1 := hw
      subst hw
      obtain ⟨q_7, hc_8, hf⟩ := dc_b hf
      refine dc_callv (dc_runV (ar := 1) (As := [.int q_4.1]) (rest := []) (ci := 4) (q0 := 3) ⟨hx, hb, hml, hown, hg⟩ hK hN hT hS hA (ct_Checker_spend_Ch l dC dI cI cB cJ cZ cQ N H.size a v q_4.1 q_4.2 q_7 hc_8) hP hD rfl rfl wn_5_227 wn_5_228 wn_5_229 wn_1_4 wn_5_230 rfl rfl (by decide +kernel) ⟨Nat.le_of_ble_eq_true rfl, Nat.le_of_ble_eq_true rfl⟩ rfl hl.1 rfl (Nat.le_of_ble_eq_true rfl) dn_Meaning_condition_31 ⟨Nat.le_of_ble_eq_true rfl, Nat.le_of_ble_eq_true rfl⟩) hP hD hS hA (fun _ H locs hw hP hD hS => ?_)
      refine lv_aload_n hx hb dn_Meaning_condition_34 rfl (lv_at hl 0 rfl) ?_
      refine va_get (D := (dC, dI)) (ci := 5) (v := .ref ((a 256))) (C := rn_Meaning) (T := fn_Meaning) (N := 17) hx hb hg in_Meaning hown hK hP 4 rfl rfl 12 (by decide) (hg _ wn_1_196) (fun _ h9 => h9) rfl dn_Meaning_condition_35 ?_
      refine lv_aload_n hx hb dn_Meaning_condition_38 rfl (lv_at hl 0 rfl) ?_
      refine va_get (D := (dC, dI)) (ci := 5) (v := .int ((q_7.2.1 260 0))) (C := rn_Meaning) (T := fn_Meaning) (N := 17) hx hb hg in_Meaning hown hK hP 4 rfl rfl 16 (by decide) (hg _ wn_1_200) (fun _ h9 => h9) rfl dn_Meaning_condition_39 ?_
      refine lv_aload_n hx hb dn_Meaning_condition_42 rfl (lv_at hl 0 rfl) ?_
      refine va_get (D := (dC, dI)) (ci := 5) (v := .ref ((a 111))) (C := rn_Meaning) (T := fn_Meaning) (N := 17) hx hb hg in_Meaning hown hK hP 4 rfl rfl 3 (by decide) (hg _ wn_1_187) (fun _ h9 => h9) (congrArg some hv_6) dn_Meaning_condition_43 ?_
      refine lv_sipush (v := 518) hx hb dn_Meaning_condition_46 (by decide) ?_
      refine lv_iconst (v := (-1)) hx hb dn_Meaning_condition_49 (by decide) ?_
      obtain ⟨q_9, hc_10, hf⟩ := dc_b hf
      refine dc_calli (dc_runV (ar := 2) (As := [.int 518, .int ((-1))]) (rest := [.int ((q_7.2.1 260 0)), .ref ((a 256))]) (ci := 12) (q0 := 11) ⟨hx, hb, hml, hown, hg⟩ hK hN hT hS hA (ct_Code_emit_Ks l dC dI cI cB cJ cZ cQ N H.size a v 518 ((-1)) q_7.2 q_9 hc_10) hP hD rfl rfl wn_5_197 wn_5_198 wn_5_199 wn_1_12 wn_5_200 rfl rfl (by decide +kernel) ⟨Nat.le_of_ble_eq_true rfl, Nat.le_of_ble_eq_true rfl⟩ rfl hl.1 rfl (Nat.le_of_ble_eq_true rfl) dn_Meaning_condition_50 ⟨Nat.le_of_ble_eq_true rfl, Nat.le_of_ble_eq_true rfl⟩) hP hD hS hA (fun r_11 _ H locs hw hP hD hS => ?_)
      have hw : r_11 = q_9.1 := hw
      subst hw
      obtain ⟨hg_12, hf⟩ := dc_g hf
      refine va_iast hx hb hK hP hD hS 26 0 rfl rfl hg_12 dn_Meaning_condition_53 (fun H locs hP hD hS => ?_)
      have hP : va_P (dC, dI) xcl ((wC a v cI cB cJ cZ cQ q_9.2).set 26 ((a 256), .inl (cI, 60, .inl (upd (q_9.2.1 256) (Int32.toNatClampNeg ((q_7.2.1 260 0))) q_9.1)))) H := hP
      have hD : va_D A ((wC a v cI cB cJ cZ cQ q_9.2).set 26 ((a 256), .inl (cI, 60, .inl (upd (q_9.2.1 256) (Int32.toNatClampNeg ((q_7.2.1 260 0))) q_9.1)))) := hD
      have hP := wC_P_256 hP
      have hD := wC_D_256 hD
      refine lv_aload_n hx hb dn_Meaning_condition_54 rfl (lv_at hl 0 rfl) ?_
      refine lv_dup hx hb dn_Meaning_condition_55 rfl ?_
      refine va_get (D := (dC, dI)) (ci := 5) (v := .int ((q_9.2.1 260 0))) (C := rn_Meaning) (T := fn_Meaning) (N := 17) hx hb hg in_Meaning hown hK hP 4 rfl rfl 16 (by decide) (hg _ wn_1_200) (fun _ h9 => h9) rfl dn_Meaning_condition_56 ?_
      refine lv_iconst (v := 1) hx hb dn_Meaning_condition_59 (by decide) ?_
      refine lv_iadd hx hb dn_Meaning_condition_60 ?_
      refine va_put (D := (dC, dI)) (ci := 5) (v := .int (((q_9.2.1 260 0) + 1))) (ty := .int) (C := rn_Meaning) (T := fn_Meaning) (N := 17) hx hb hg in_Meaning tn_Meaning tk_Meaning nn_Meaning hown hK hP hD hS 4 rfl rfl 16 (by decide) (hg _ wn_1_200) (fun _ h9 => h9) rfl (tk_Meaning 16 (by decide)) rfl rfl (Nat.le_of_ble_eq_true rfl) dn_Meaning_condition_61 (fun H locs hP hD hS => ?_)
      have hP := wC_P_260 hP
      have hD := wC_D_260 hD
      rw [hQQ, ← Option.some.inj hf]
      exact xk_vret (w1 := fun u : Unit => (wC a v cI cB cJ cZ cQ (upI (upI q_9.2 256 (upd (q_9.2.1 256) (Int32.toNatClampNeg ((q_7.2.1 260 0))) q_9.1)) 260 (fun _ => ((q_9.2.1 260 0) + 1))))) () hx hb hr hlocks hK hS dn_Meaning_condition_64 hP hD trivial (Nat.le_refl _) (Nat.le_refl _)
    · have hf := (if_neg h).symm.trans hf
      rw [hQQ, ← Option.some.inj hf]
      exact xk_vret (w1 := fun u : Unit => (wC a v cI cB cJ cZ cQ q_1.2)) () hx hb hr hlocks hK hS dn_Meaning_condition_19 hP hD trivial (Nat.le_refl _) (Nat.le_refl _)
set_option maxHeartbeats 8000000 in
set_option maxRecDepth 100000 in
theorem ct_Meaning_choice_Me (l : Launch) (dC : Nat → ClassId) (dI : Nat → Nat → Nat) (cI cB cJ cZ cQ : ClassId) (N sz : Nat) (a : Nat → Nat) (v : Nat → Value) (s : ms) (y : (Unit × ms)) (hf : fn_Meaning_choice_Me N s = some y) : Met l yn_Meaning_choice (xw yn_Meaning_choice bn_Meaning_choice 1 none) ({ frames := 2, cells := 0, slots := 0, locals := 40 }) (dc_P (dC, dI) xcl (xt cI cB cJ cZ cQ) [.ref ((a 104))] sz (wC a v cI cB cJ cZ cQ s)) (xk_Qv (dC, dI) xcl (xt cI cB cJ cZ cQ) (fun _ : Unit => True) (fun u : Unit => (wC a v cI cB cJ cZ cQ y.2)) (va_A (wC a v cI cB cJ cZ cQ s) sz)) 0 0 (va_A (wC a v cI cB cJ cZ cQ s) sz) := by
  refine dc_of (QA := xk_Qv (dC, dI) xcl (xt cI cB cJ cZ cQ) (fun _ : Unit => True) (fun u : Unit => (wC a v cI cB cJ cZ cQ y.2))) (by decide) (Nat.le_of_ble_eq_true rfl) ?_
  intro p e s0 m below meth c hx hb hml hown hg hr hlocks hin hP hK hN A hA hD hT ls hl
  have hown : s0.vm.findClass rn_Meaning = some m.cls := hown
  obtain ⟨H, hH⟩ : ∃ z, z = s0.heap := ⟨_, rfl⟩
  rw [← hH] at hP
  have hS : va_S A s0.heap H [] := by rw [hH]; exact va_S.rf
  suffices kk : ∀ QQ : State → Prop, QQ = MQ below (xk_Qv (dC, dI) xcl (xt cI cB cJ cZ cQ) (fun _ : Unit => True) (fun u : Unit => (wC a v cI cB cJ cZ cQ y.2)) A) [.ref ((a 104))].toArray s0 0 0 A → dcC p l e ({ frames := 2, cells := 0, slots := 0, locals := 40 }) s0 m [.ref ((a 104))].toArray below meth c QQ (dC, dI) A (wC a v cI cB cJ cZ cQ s) 0 1 [(0, .ref ((a 104)))] [] by
    have k9 := kk _ rfl H [] ls hP hD hS hl
    rw [hH] at k9; exact k9
  clear hP hD hS hl hH H ls
  intro QQ hQQ
  intro H locs ls hP hD hS hl
  unfold fn_Meaning_choice_Me at hf
  refine lv_aload_n hx hb dn_Meaning_choice_0 rfl (lv_at hl 0 rfl) ?_
  refine va_get (D := (dC, dI)) (ci := 5) (v := .ref ((a 103))) (C := rn_Meaning) (T := fn_Meaning) (N := 17) hx hb hg in_Meaning hown hK hP 4 rfl rfl 0 (by decide) (hg _ wn_1_184) (fun _ h9 => h9) rfl dn_Meaning_choice_1 ?_
  obtain ⟨q_1, hc_2, hf⟩ := dc_b hf
  refine dc_calli (dc_runV (ar := 0) (As := []) (rest := []) (ci := 4) (q0 := 3) ⟨hx, hb, hml, hown, hg⟩ hK hN hT hS hA (ct_Checker_isOff_Ch l dC dI cI cB cJ cZ cQ N H.size a v s q_1 hc_2) hP hD rfl rfl wn_4_193 wn_4_194 wn_4_195 wn_1_4 wn_4_196 rfl rfl (by decide +kernel) ⟨Nat.le_of_ble_eq_true rfl, Nat.le_of_ble_eq_true rfl⟩ rfl hl.1 rfl (Nat.le_of_ble_eq_true rfl) dn_Meaning_choice_4 ⟨Nat.le_of_ble_eq_true rfl, Nat.le_of_ble_eq_true rfl⟩) hP hD hS hA (fun r_3 _ H locs hw hP hD hS => ?_)
  have hw : r_3 = q_1.1 := hw
  subst hw
  refine lv_if_ne (tgt := 19) hx hb dn_Meaning_choice_7 (by decide) (fun h => ?_) (fun h => ?_)
  · have hf := (if_neg h).symm.trans hf
    rw [hQQ, ← Option.some.inj hf]
    exact xk_vret (w1 := fun u : Unit => (wC a v cI cB cJ cZ cQ q_1.2)) () hx hb hr hlocks hK hS dn_Meaning_choice_19 hP hD trivial (Nat.le_refl _) (Nat.le_refl _)
  · have hf := (if_pos h).symm.trans hf
    refine lv_aload_n hx hb dn_Meaning_choice_10 rfl (lv_at hl 0 rfl) ?_
    refine va_get (D := (dC, dI)) (ci := 5) (v := .int ((q_1.2.1 260 0))) (C := rn_Meaning) (T := fn_Meaning) (N := 17) hx hb hg in_Meaning hown hK hP 4 rfl rfl 16 (by decide) (hg _ wn_1_200) (fun _ h9 => h9) rfl dn_Meaning_choice_11 ?_
    refine lv_bipush (v := 60) hx hb dn_Meaning_choice_14 (by decide) ?_
    refine lv_icmp_lt (tgt := 20) hx hb dn_Meaning_choice_16 (by decide) (fun h => ?_) (fun h => ?_)
    · have hf := (if_pos h).symm.trans hf
      refine lv_aload_n hx hb dn_Meaning_choice_20 rfl (lv_at hl 0 rfl) ?_
      refine va_get (D := (dC, dI)) (ci := 5) (v := .ref ((a 259))) (C := rn_Meaning) (T := fn_Meaning) (N := 17) hx hb hg in_Meaning hown hK hP 4 rfl rfl 15 (by decide) (hg _ wn_1_199) (fun _ h9 => h9) rfl dn_Meaning_choice_21 ?_
      refine lv_aload_n hx hb dn_Meaning_choice_24 rfl (lv_at hl 0 rfl) ?_
      refine va_get (D := (dC, dI)) (ci := 5) (v := .int ((q_1.2.1 260 0))) (C := rn_Meaning) (T := fn_Meaning) (N := 17) hx hb hg in_Meaning hown hK hP 4 rfl rfl 16 (by decide) (hg _ wn_1_200) (fun _ h9 => h9) rfl dn_Meaning_choice_25 ?_
      refine lv_aload_n hx hb dn_Meaning_choice_28 rfl (lv_at hl 0 rfl) ?_
      refine va_get (D := (dC, dI)) (ci := 5) (v := .ref ((a 103))) (C := rn_Meaning) (T := fn_Meaning) (N := 17) hx hb hg in_Meaning hown hK hP 4 rfl rfl 0 (by decide) (hg _ wn_1_184) (fun _ h9 => h9) rfl dn_Meaning_choice_29 ?_
      obtain ⟨q_4, hc_5, hf⟩ := dc_b hf
      refine dc_calli (dc_runV (ar := 0) (As := []) (rest := [.int ((q_1.2.1 260 0)), .ref ((a 259))]) (ci := 4) (q0 := 3) ⟨hx, hb, hml, hown, hg⟩ hK hN hT hS hA (ct_Checker_expWidth_Ch l dC dI cI cB cJ cZ cQ N H.size a v q_1.2 q_4 hc_5) hP hD rfl rfl wn_6_131 wn_6_132 wn_6_133 wn_1_4 wn_6_134 rfl rfl (by decide +kernel) ⟨Nat.le_of_ble_eq_true rfl, Nat.le_of_ble_eq_true rfl⟩ rfl hl.1 rfl (Nat.le_of_ble_eq_true rfl) dn_Meaning_choice_32 ⟨Nat.le_of_ble_eq_true rfl, Nat.le_of_ble_eq_true rfl⟩) hP hD hS hA (fun r_6 _ H locs hw hP hD hS => ?_)
      have hw : r_6 = q_4.1 := hw
      subst hw
      obtain ⟨hg_7, hf⟩ := dc_g hf
      refine va_iast hx hb hK hP hD hS 29 0 rfl rfl hg_7 dn_Meaning_choice_35 (fun H locs hP hD hS => ?_)
      have hP : va_P (dC, dI) xcl ((wC a v cI cB cJ cZ cQ q_4.2).set 29 ((a 259), .inl (cI, 60, .inl (upd (q_4.2.1 259) (Int32.toNatClampNeg ((q_1.2.1 260 0))) q_4.1)))) H := hP
      have hD : va_D A ((wC a v cI cB cJ cZ cQ q_4.2).set 29 ((a 259), .inl (cI, 60, .inl (upd (q_4.2.1 259) (Int32.toNatClampNeg ((q_1.2.1 260 0))) q_4.1)))) := hD
      have hP := wC_P_259 hP
      have hD := wC_D_259 hD
      refine lv_aload_n hx hb dn_Meaning_choice_36 rfl (lv_at hl 0 rfl) ?_
      refine va_get (D := (dC, dI)) (ci := 5) (v := .ref ((a 256))) (C := rn_Meaning) (T := fn_Meaning) (N := 17) hx hb hg in_Meaning hown hK hP 4 rfl rfl 12 (by decide) (hg _ wn_1_196) (fun _ h9 => h9) rfl dn_Meaning_choice_37 ?_
      refine lv_aload_n hx hb dn_Meaning_choice_40 rfl (lv_at hl 0 rfl) ?_
      refine va_get (D := (dC, dI)) (ci := 5) (v := .int ((q_4.2.1 260 0))) (C := rn_Meaning) (T := fn_Meaning) (N := 17) hx hb hg in_Meaning hown hK hP 4 rfl rfl 16 (by decide) (hg _ wn_1_200) (fun _ h9 => h9) rfl dn_Meaning_choice_41 ?_
      refine lv_iconst (v := (-1)) hx hb dn_Meaning_choice_44 (by decide) ?_
      obtain ⟨hg_8, hf⟩ := dc_g hf
      refine va_iast hx hb hK hP hD hS 26 0 rfl rfl hg_8 dn_Meaning_choice_45 (fun H locs hP hD hS => ?_)
      have hP : va_P (dC, dI) xcl ((wC a v cI cB cJ cZ cQ (upI q_4.2 259 (upd (q_4.2.1 259) (Int32.toNatClampNeg ((q_1.2.1 260 0))) q_4.1))).set 26 ((a 256), .inl (cI, 60, .inl (upd (q_4.2.1 256) (Int32.toNatClampNeg ((q_4.2.1 260 0))) ((-1)))))) H := hP
      have hD : va_D A ((wC a v cI cB cJ cZ cQ (upI q_4.2 259 (upd (q_4.2.1 259) (Int32.toNatClampNeg ((q_1.2.1 260 0))) q_4.1))).set 26 ((a 256), .inl (cI, 60, .inl (upd (q_4.2.1 256) (Int32.toNatClampNeg ((q_4.2.1 260 0))) ((-1)))))) := hD
      have hP := wC_P_256 hP
      have hD := wC_D_256 hD
      refine lv_aload_n hx hb dn_Meaning_choice_46 rfl (lv_at hl 0 rfl) ?_
      refine va_get (D := (dC, dI)) (ci := 5) (v := .ref ((a 257))) (C := rn_Meaning) (T := fn_Meaning) (N := 17) hx hb hg in_Meaning hown hK hP 4 rfl rfl 13 (by decide) (hg _ wn_1_197) (fun _ h9 => h9) rfl dn_Meaning_choice_47 ?_
      refine lv_aload_n hx hb dn_Meaning_choice_50 rfl (lv_at hl 0 rfl) ?_
      refine va_get (D := (dC, dI)) (ci := 5) (v := .int ((q_4.2.1 260 0))) (C := rn_Meaning) (T := fn_Meaning) (N := 17) hx hb hg in_Meaning hown hK hP 4 rfl rfl 16 (by decide) (hg _ wn_1_200) (fun _ h9 => h9) rfl dn_Meaning_choice_51 ?_
      refine lv_iconst (v := (-1)) hx hb dn_Meaning_choice_54 (by decide) ?_
      obtain ⟨hg_9, hf⟩ := dc_g hf
      refine va_iast hx hb hK hP hD hS 27 0 rfl rfl hg_9 dn_Meaning_choice_55 (fun H locs hP hD hS => ?_)
      have hP : va_P (dC, dI) xcl ((wC a v cI cB cJ cZ cQ (upI (upI q_4.2 259 (upd (q_4.2.1 259) (Int32.toNatClampNeg ((q_1.2.1 260 0))) q_4.1)) 256 (upd (q_4.2.1 256) (Int32.toNatClampNeg ((q_4.2.1 260 0))) ((-1))))).set 27 ((a 257), .inl (cI, 60, .inl (upd (q_4.2.1 257) (Int32.toNatClampNeg ((q_4.2.1 260 0))) ((-1)))))) H := hP
      have hD : va_D A ((wC a v cI cB cJ cZ cQ (upI (upI q_4.2 259 (upd (q_4.2.1 259) (Int32.toNatClampNeg ((q_1.2.1 260 0))) q_4.1)) 256 (upd (q_4.2.1 256) (Int32.toNatClampNeg ((q_4.2.1 260 0))) ((-1))))).set 27 ((a 257), .inl (cI, 60, .inl (upd (q_4.2.1 257) (Int32.toNatClampNeg ((q_4.2.1 260 0))) ((-1)))))) := hD
      have hP := wC_P_257 hP
      have hD := wC_D_257 hD
      refine lv_aload_n hx hb dn_Meaning_choice_56 rfl (lv_at hl 0 rfl) ?_
      refine va_get (D := (dC, dI)) (ci := 5) (v := .ref ((a 258))) (C := rn_Meaning) (T := fn_Meaning) (N := 17) hx hb hg in_Meaning hown hK hP 4 rfl rfl 14 (by decide) (hg _ wn_1_198) (fun _ h9 => h9) rfl dn_Meaning_choice_57 ?_
      refine lv_aload_n hx hb dn_Meaning_choice_60 rfl (lv_at hl 0 rfl) ?_
      refine va_get (D := (dC, dI)) (ci := 5) (v := .int ((q_4.2.1 260 0))) (C := rn_Meaning) (T := fn_Meaning) (N := 17) hx hb hg in_Meaning hown hK hP 4 rfl rfl 16 (by decide) (hg _ wn_1_200) (fun _ h9 => h9) rfl dn_Meaning_choice_61 ?_
      refine lv_iconst (v := (-1)) hx hb dn_Meaning_choice_64 (by decide) ?_
      obtain ⟨hg_10, hf⟩ := dc_g hf
      refine va_iast hx hb hK hP hD hS 28 0 rfl rfl hg_10 dn_Meaning_choice_65 (fun H locs hP hD hS => ?_)
      have hP : va_P (dC, dI) xcl ((wC a v cI cB cJ cZ cQ (upI (upI (upI q_4.2 259 (upd (q_4.2.1 259) (Int32.toNatClampNeg ((q_1.2.1 260 0))) q_4.1)) 256 (upd (q_4.2.1 256) (Int32.toNatClampNeg ((q_4.2.1 260 0))) ((-1)))) 257 (upd (q_4.2.1 257) (Int32.toNatClampNeg ((q_4.2.1 260 0))) ((-1))))).set 28 ((a 258), .inl (cI, 60, .inl (upd (q_4.2.1 258) (Int32.toNatClampNeg ((q_4.2.1 260 0))) ((-1)))))) H := hP
      have hD : va_D A ((wC a v cI cB cJ cZ cQ (upI (upI (upI q_4.2 259 (upd (q_4.2.1 259) (Int32.toNatClampNeg ((q_1.2.1 260 0))) q_4.1)) 256 (upd (q_4.2.1 256) (Int32.toNatClampNeg ((q_4.2.1 260 0))) ((-1)))) 257 (upd (q_4.2.1 257) (Int32.toNatClampNeg ((q_4.2.1 260 0))) ((-1))))).set 28 ((a 258), .inl (cI, 60, .inl (upd (q_4.2.1 258) (Int32.toNatClampNeg ((q_4.2.1 260 0))) ((-1)))))) := hD
      have hP := wC_P_258 hP
      have hD := wC_D_258 hD
      refine lv_aload_n hx hb dn_Meaning_choice_66 rfl (lv_at hl 0 rfl) ?_
      refine lv_dup hx hb dn_Meaning_choice_67 rfl ?_
      refine va_get (D := (dC, dI)) (ci := 5) (v := .int ((q_4.2.1 260 0))) (C := rn_Meaning) (T := fn_Meaning) (N := 17) hx hb hg in_Meaning hown hK hP 4 rfl rfl 16 (by decide) (hg _ wn_1_200) (fun _ h9 => h9) rfl dn_Meaning_choice_68 ?_
      refine lv_iconst (v := 1) hx hb dn_Meaning_choice_71 (by decide) ?_
      refine lv_iadd hx hb dn_Meaning_choice_72 ?_
      refine va_put (D := (dC, dI)) (ci := 5) (v := .int (((q_4.2.1 260 0) + 1))) (ty := .int) (C := rn_Meaning) (T := fn_Meaning) (N := 17) hx hb hg in_Meaning tn_Meaning tk_Meaning nn_Meaning hown hK hP hD hS 4 rfl rfl 16 (by decide) (hg _ wn_1_200) (fun _ h9 => h9) rfl (tk_Meaning 16 (by decide)) rfl rfl (Nat.le_of_ble_eq_true rfl) dn_Meaning_choice_73 (fun H locs hP hD hS => ?_)
      have hP := wC_P_260 hP
      have hD := wC_D_260 hD
      rw [hQQ, ← Option.some.inj hf]
      exact xk_vret (w1 := fun u : Unit => (wC a v cI cB cJ cZ cQ (upI (upI (upI (upI (upI q_4.2 259 (upd (q_4.2.1 259) (Int32.toNatClampNeg ((q_1.2.1 260 0))) q_4.1)) 256 (upd (q_4.2.1 256) (Int32.toNatClampNeg ((q_4.2.1 260 0))) ((-1)))) 257 (upd (q_4.2.1 257) (Int32.toNatClampNeg ((q_4.2.1 260 0))) ((-1)))) 258 (upd (q_4.2.1 258) (Int32.toNatClampNeg ((q_4.2.1 260 0))) ((-1)))) 260 (fun _ => ((q_4.2.1 260 0) + 1))))) () hx hb hr hlocks hK hS dn_Meaning_choice_76 hP hD trivial (Nat.le_refl _) (Nat.le_refl _)
    · have hf := (if_neg h).symm.trans hf
      rw [hQQ, ← Option.some.inj hf]
      exact xk_vret (w1 := fun u : Unit => (wC a v cI cB cJ cZ cQ q_1.2)) () hx hb hr hlocks hK hS dn_Meaning_choice_19 hP hD trivial (Nat.le_refl _) (Nat.le_refl _)
set_option maxHeartbeats 8000000 in
set_option maxRecDepth 100000 in
theorem ct_Meaning_asserted_Me (l : Launch) (dC : Nat → ClassId) (dI : Nat → Nat → Nat) (cI cB cJ cZ cQ : ClassId) (N sz : Nat) (a : Nat → Nat) (v : Nat → Value) (hv_4 : v 4 = .ref (a 109)) (s : ms) (y : (Unit × ms)) (hf : fn_Meaning_asserted_Me N s = some y) : Met l yn_Meaning_asserted (xw yn_Meaning_asserted bn_Meaning_asserted 1 none) ({ frames := 3, cells := 0, slots := 0, locals := 82 }) (dc_P (dC, dI) xcl (xt cI cB cJ cZ cQ) [.ref ((a 104))] sz (wC a v cI cB cJ cZ cQ s)) (xk_Qv (dC, dI) xcl (xt cI cB cJ cZ cQ) (fun _ : Unit => True) (fun u : Unit => (wC a v cI cB cJ cZ cQ y.2)) (va_A (wC a v cI cB cJ cZ cQ s) sz)) 0 0 (va_A (wC a v cI cB cJ cZ cQ s) sz) := by
  refine dc_of (QA := xk_Qv (dC, dI) xcl (xt cI cB cJ cZ cQ) (fun _ : Unit => True) (fun u : Unit => (wC a v cI cB cJ cZ cQ y.2))) (by decide) (Nat.le_of_ble_eq_true rfl) ?_
  intro p e s0 m below meth c hx hb hml hown hg hr hlocks hin hP hK hN A hA hD hT ls hl
  have hown : s0.vm.findClass rn_Meaning = some m.cls := hown
  obtain ⟨H, hH⟩ : ∃ z, z = s0.heap := ⟨_, rfl⟩
  rw [← hH] at hP
  have hS : va_S A s0.heap H [] := by rw [hH]; exact va_S.rf
  suffices kk : ∀ QQ : State → Prop, QQ = MQ below (xk_Qv (dC, dI) xcl (xt cI cB cJ cZ cQ) (fun _ : Unit => True) (fun u : Unit => (wC a v cI cB cJ cZ cQ y.2)) A) [.ref ((a 104))].toArray s0 0 0 A → dcC p l e ({ frames := 3, cells := 0, slots := 0, locals := 82 }) s0 m [.ref ((a 104))].toArray below meth c QQ (dC, dI) A (wC a v cI cB cJ cZ cQ s) 0 1 [(0, .ref ((a 104)))] [] by
    have k9 := kk _ rfl H [] ls hP hD hS hl
    rw [hH] at k9; exact k9
  clear hP hD hS hl hH H ls
  intro QQ hQQ
  intro H locs ls hP hD hS hl
  unfold fn_Meaning_asserted_Me at hf
  refine lv_aload_n hx hb dn_Meaning_asserted_0 rfl (lv_at hl 0 rfl) ?_
  refine va_get (D := (dC, dI)) (ci := 5) (v := .ref ((a 103))) (C := rn_Meaning) (T := fn_Meaning) (N := 17) hx hb hg in_Meaning hown hK hP 4 rfl rfl 0 (by decide) (hg _ wn_1_184) (fun _ h9 => h9) rfl dn_Meaning_asserted_1 ?_
  obtain ⟨q_1, hc_2, hf⟩ := dc_b hf
  refine dc_calli (dc_runV (ar := 0) (As := []) (rest := []) (ci := 4) (q0 := 3) ⟨hx, hb, hml, hown, hg⟩ hK hN hT hS hA (ct_Checker_isOff_Ch l dC dI cI cB cJ cZ cQ N H.size a v s q_1 hc_2) hP hD rfl rfl wn_4_193 wn_4_194 wn_4_195 wn_1_4 wn_4_196 rfl rfl (by decide +kernel) ⟨Nat.le_of_ble_eq_true rfl, Nat.le_of_ble_eq_true rfl⟩ rfl hl.1 rfl (Nat.le_of_ble_eq_true rfl) dn_Meaning_asserted_4 ⟨Nat.le_of_ble_eq_true rfl, Nat.le_of_ble_eq_true rfl⟩) hP hD hS hA (fun r_3 _ H locs hw hP hD hS => ?_)
  have hw : r_3 = q_1.1 := hw
  subst hw
  refine lv_if_eq (tgt := 11) hx hb dn_Meaning_asserted_7 (by decide) (fun h => ?_) (fun h => ?_)
  · have hf := (if_pos h).symm.trans hf
    refine lv_aload_n hx hb dn_Meaning_asserted_11 rfl (lv_at hl 0 rfl) ?_
    refine va_get (D := (dC, dI)) (ci := 5) (v := .ref ((a 103))) (C := rn_Meaning) (T := fn_Meaning) (N := 17) hx hb hg in_Meaning hown hK hP 4 rfl rfl 0 (by decide) (hg _ wn_1_184) (fun _ h9 => h9) rfl dn_Meaning_asserted_12 ?_
    refine lv_aload_n hx hb dn_Meaning_asserted_15 rfl (lv_at hl 0 rfl) ?_
    refine va_get (D := (dC, dI)) (ci := 5) (v := .ref ((a 103))) (C := rn_Meaning) (T := fn_Meaning) (N := 17) hx hb hg in_Meaning hown hK hP 4 rfl rfl 0 (by decide) (hg _ wn_1_184) (fun _ h9 => h9) rfl dn_Meaning_asserted_16 ?_
    obtain ⟨q_4, hc_5, hf⟩ := dc_b hf
    refine dc_calli (dc_runV (ar := 0) (As := []) (rest := [.ref ((a 103))]) (ci := 4) (q0 := 3) ⟨hx, hb, hml, hown, hg⟩ hK hN hT hS hA (ct_Checker_expWidth_Ch l dC dI cI cB cJ cZ cQ N H.size a v q_1.2 q_4 hc_5) hP hD rfl rfl wn_6_131 wn_6_132 wn_6_133 wn_1_4 wn_6_134 rfl rfl (by decide +kernel) ⟨Nat.le_of_ble_eq_true rfl, Nat.le_of_ble_eq_true rfl⟩ rfl hl.1 rfl (Nat.le_of_ble_eq_true rfl) dn_Meaning_asserted_19 ⟨Nat.le_of_ble_eq_true rfl, Nat.le_of_ble_eq_true rfl⟩) hP hD hS hA (fun r_6 _ H locs hw hP hD hS => ?_)
    have hw : r_6 = q_4.1 := hw
    subst hw
    obtain ⟨q_7, hc_8, hf⟩ := dc_b hf
    refine dc_callv (dc_runV (ar := 1) (As := [.int q_4.1]) (rest := []) (ci := 4) (q0 := 3) ⟨hx, hb, hml, hown, hg⟩ hK hN hT hS hA (ct_Checker_spend_Ch l dC dI cI cB cJ cZ cQ N H.size a v q_4.1 q_4.2 q_7 hc_8) hP hD rfl rfl wn_5_227 wn_5_228 wn_5_229 wn_1_4 wn_5_230 rfl rfl (by decide +kernel) ⟨Nat.le_of_ble_eq_true rfl, Nat.le_of_ble_eq_true rfl⟩ rfl hl.1 rfl (Nat.le_of_ble_eq_true rfl) dn_Meaning_asserted_22 ⟨Nat.le_of_ble_eq_true rfl, Nat.le_of_ble_eq_true rfl⟩) hP hD hS hA (fun _ H locs hw hP hD hS => ?_)
    refine lv_aload_n hx hb dn_Meaning_asserted_25 rfl (lv_at hl 0 rfl) ?_
    refine va_get (D := (dC, dI)) (ci := 5) (v := .ref ((a 109))) (C := rn_Meaning) (T := fn_Meaning) (N := 17) hx hb hg in_Meaning hown hK hP 4 rfl rfl 1 (by decide) (hg _ wn_1_185) (fun _ h9 => h9) (congrArg some hv_4) dn_Meaning_asserted_26 ?_
    refine lv_iconst (v := 1) hx hb dn_Meaning_asserted_29 (by decide) ?_
    refine lv_aload_n hx hb dn_Meaning_asserted_30 rfl (lv_at hl 0 rfl) ?_
    refine va_get (D := (dC, dI)) (ci := 5) (v := .ref ((a 103))) (C := rn_Meaning) (T := fn_Meaning) (N := 17) hx hb hg in_Meaning hown hK hP 4 rfl rfl 0 (by decide) (hg _ wn_1_184) (fun _ h9 => h9) rfl dn_Meaning_asserted_31 ?_
    refine va_get (D := (dC, dI)) (ci := 4) (v := .int ((q_7.2.1 240 0))) (C := rn_Checker) (T := fn_Checker) (N := 15) hx hb hg in_Checker hown hK hP 3 rfl rfl 11 (by decide) (hg _ wn_1_137) (fun _ h9 => h9) rfl dn_Meaning_asserted_34 ?_
    obtain ⟨q_9, hc_10, hf⟩ := dc_b hf
    refine dc_callv (dc_runV (ar := 2) (As := [.int 1, .int ((q_7.2.1 240 0))]) (rest := []) (ci := 10) (q0 := 9) ⟨hx, hb, hml, hown, hg⟩ hK hN hT hS hA (ct_Design_addPiece_Ds l dC dI cI cB cJ cZ cQ N H.size a v 1 ((q_7.2.1 240 0)) q_7.2 q_9 hc_10) hP hD rfl rfl wn_5_185 wn_5_186 wn_5_187 wn_1_10 wn_5_188 rfl rfl (by decide +kernel) ⟨Nat.le_of_ble_eq_true rfl, Nat.le_of_ble_eq_true rfl⟩ rfl hl.1 rfl (Nat.le_of_ble_eq_true rfl) dn_Meaning_asserted_37 ⟨Nat.le_of_ble_eq_true rfl, Nat.le_of_ble_eq_true rfl⟩) hP hD hS hA (fun _ H locs hw hP hD hS => ?_)
    rw [hQQ, ← Option.some.inj hf]
    exact xk_vret (w1 := fun u : Unit => (wC a v cI cB cJ cZ cQ q_9.2)) () hx hb hr hlocks hK hS dn_Meaning_asserted_40 hP hD trivial (Nat.le_refl _) (Nat.le_refl _)
  · have hf := (if_neg h).symm.trans hf
    rw [hQQ, ← Option.some.inj hf]
    exact xk_vret (w1 := fun u : Unit => (wC a v cI cB cJ cZ cQ q_1.2)) () hx hb hr hlocks hK hS dn_Meaning_asserted_10 hP hD trivial (Nat.le_refl _) (Nat.le_refl _)
set_option maxHeartbeats 8000000 in
set_option maxRecDepth 100000 in
theorem ct_Meaning_linked_Me (l : Launch) (dC : Nat → ClassId) (dI : Nat → Nat → Nat) (cI cB cJ cZ cQ : ClassId) (N sz : Nat) (a : Nat → Nat) (v : Nat → Value) (hv_2 : v 2 = .ref (a 110)) (hv_5 : v 5 = .ref (a 110)) (hv_6 : v 6 = .ref (a 111)) (v1 : Int32) (v2 : Int32) (v3 : Int32) (s : ms) (y : (Unit × ms)) (hf : fn_Meaning_linked_Me N v1 v2 v3 s = some y) : Met l yn_Meaning_linked (xw yn_Meaning_linked bn_Meaning_linked 9 none) ({ frames := 2, cells := 0, slots := 0, locals := 40 }) (dc_P (dC, dI) xcl (xt cI cB cJ cZ cQ) [.ref ((a 104)), .int v1, .int v2, .int v3] sz (wC a v cI cB cJ cZ cQ s)) (xk_Qv (dC, dI) xcl (xt cI cB cJ cZ cQ) (fun _ : Unit => True) (fun u : Unit => (wC a v cI cB cJ cZ cQ y.2)) (va_A (wC a v cI cB cJ cZ cQ s) sz)) 0 0 (va_A (wC a v cI cB cJ cZ cQ s) sz) := by
  refine dc_of (QA := xk_Qv (dC, dI) xcl (xt cI cB cJ cZ cQ) (fun _ : Unit => True) (fun u : Unit => (wC a v cI cB cJ cZ cQ y.2))) (by decide) (Nat.le_of_ble_eq_true rfl) ?_
  intro p e s0 m below meth c hx hb hml hown hg hr hlocks hin hP hK hN A hA hD hT ls hl
  have hown : s0.vm.findClass rn_Meaning = some m.cls := hown
  obtain ⟨H, hH⟩ : ∃ z, z = s0.heap := ⟨_, rfl⟩
  rw [← hH] at hP
  have hS : va_S A s0.heap H [] := by rw [hH]; exact va_S.rf
  suffices kk : ∀ QQ : State → Prop, QQ = MQ below (xk_Qv (dC, dI) xcl (xt cI cB cJ cZ cQ) (fun _ : Unit => True) (fun u : Unit => (wC a v cI cB cJ cZ cQ y.2)) A) [.ref ((a 104)), .int v1, .int v2, .int v3].toArray s0 0 0 A → dcC p l e ({ frames := 2, cells := 0, slots := 0, locals := 40 }) s0 m [.ref ((a 104)), .int v1, .int v2, .int v3].toArray below meth c QQ (dC, dI) A (wC a v cI cB cJ cZ cQ s) 0 9 [(0, .ref ((a 104))), (1, .int v1), (2, .int v2), (3, .int v3)] [] by
    have k9 := kk _ rfl H [] ls hP hD hS hl
    rw [hH] at k9; exact k9
  clear hP hD hS hl hH H ls
  intro QQ hQQ
  have bl_109 : ∀ (x1 : Int32) (x2 : Int32) (x4 : Int32) (x5 : Int32) (x7 : Int32) (x8 : Int32) (s : ms), bk_Meaning_linked_Me_109 N x1 x2 x4 x5 x7 x8 s = some y → dcC p l e ({ frames := 2, cells := 0, slots := 0, locals := 40 }) s0 m [.ref ((a 104)), .int v1, .int v2, .int v3].toArray below meth c QQ (dC, dI) A (wC a v cI cB cJ cZ cQ s) 109 9 [(0, .ref ((a 104))), (1, .int x1), (2, .int x2), (4, .int x4), (5, .int x5), (7, .int x7), (8, .int x8)] [] := by
    intro x1 x2 x4 x5 x7 x8 s hf H locs ls hP hD hS hl
    unfold bk_Meaning_linked_Me_109 at hf
    refine lv_iload hx hb dn_Meaning_linked_109 (lv_at hl 3 rfl) ?_
    refine lv_aload_n hx hb dn_Meaning_linked_111 rfl (lv_at hl 0 rfl) ?_
    refine va_get (D := (dC, dI)) (ci := 5) (v := .ref ((a 110))) (C := rn_Meaning) (T := fn_Meaning) (N := 17) hx hb hg in_Meaning hown hK hP 4 rfl rfl 2 (by decide) (hg _ wn_1_186) (fun _ h9 => h9) (congrArg some hv_5) dn_Meaning_linked_112 ?_
    refine va_get (D := (dC, dI)) (ci := 11) (v := .ref ((a 323))) (C := rn_Parts) (T := fn_Parts) (N := 15) hx hb hg in_Parts hown hK hP 10 rfl rfl 2 (by decide) (hg _ wn_2_131) (fun _ h9 => h9) rfl dn_Meaning_linked_115 ?_
    refine lv_aload_n hx hb dn_Meaning_linked_118 rfl (lv_at hl 0 rfl) ?_
    refine va_get (D := (dC, dI)) (ci := 5) (v := .int ((s.1 252 0))) (C := rn_Meaning) (T := fn_Meaning) (N := 17) hx hb hg in_Meaning hown hK hP 4 rfl rfl 8 (by decide) (hg _ wn_1_192) (fun _ h9 => h9) rfl dn_Meaning_linked_119 ?_
    obtain ⟨hg_1, hf⟩ := dc_g hf
    refine va_iald hx hb hK hP 62 0 rfl rfl hg_1 dn_Meaning_linked_122 ?_
    refine xk_ti (y := ((s.1 323) (Int32.toNatClampNeg ((s.1 252 0))))) rfl ?_
    refine lv_icmp_eq (tgt := 139) hx hb dn_Meaning_linked_123 (by decide) (fun h => ?_) (fun h => ?_)
    · have hf := (if_pos h).symm.trans hf
      refine lv_iload hx hb dn_Meaning_linked_139 (lv_at hl 5 rfl) ?_
      refine lv_if_ne (tgt := 181) hx hb dn_Meaning_linked_141 (by decide) (fun h => ?_) (fun h => ?_)
      · have hf := (if_neg h).symm.trans hf
        refine lv_aload_n hx hb dn_Meaning_linked_181 rfl (lv_at hl 0 rfl) ?_
        refine va_get (D := (dC, dI)) (ci := 5) (v := .ref ((a 110))) (C := rn_Meaning) (T := fn_Meaning) (N := 17) hx hb hg in_Meaning hown hK hP 4 rfl rfl 2 (by decide) (hg _ wn_1_186) (fun _ h9 => h9) (congrArg some hv_5) dn_Meaning_linked_182 ?_
        refine va_get (D := (dC, dI)) (ci := 11) (v := .ref ((a 326))) (C := rn_Parts) (T := fn_Parts) (N := 15) hx hb hg in_Parts hown hK hP 10 rfl rfl 5 (by decide) (hg _ wn_2_145) (fun _ h9 => h9) rfl dn_Meaning_linked_185 ?_
        refine lv_iload hx hb dn_Meaning_linked_188 (lv_at hl 6 rfl) ?_
        obtain ⟨hg_2, hf⟩ := dc_g hf
        refine va_iald hx hb hK hP 65 0 rfl rfl hg_2 dn_Meaning_linked_190 ?_
        refine xk_ti (y := ((s.1 326) (Int32.toNatClampNeg x8))) rfl ?_
        refine lv_iconst (v := (-1)) hx hb dn_Meaning_linked_191 (by decide) ?_
        refine lv_icmp_eq (tgt := 208) hx hb dn_Meaning_linked_192 (by decide) (fun h => ?_) (fun h => ?_)
        · have hf := (if_pos h).symm.trans hf
          refine lv_aload_n hx hb dn_Meaning_linked_208 rfl (lv_at hl 0 rfl) ?_
          refine va_get (D := (dC, dI)) (ci := 5) (v := .ref ((a 111))) (C := rn_Meaning) (T := fn_Meaning) (N := 17) hx hb hg in_Meaning hown hK hP 4 rfl rfl 3 (by decide) (hg _ wn_1_187) (fun _ h9 => h9) (congrArg some hv_6) dn_Meaning_linked_209 ?_
          refine lv_aload_n hx hb dn_Meaning_linked_212 rfl (lv_at hl 0 rfl) ?_
          refine va_get (D := (dC, dI)) (ci := 5) (v := .ref ((a 103))) (C := rn_Meaning) (T := fn_Meaning) (N := 17) hx hb hg in_Meaning hown hK hP 4 rfl rfl 0 (by decide) (hg _ wn_1_184) (fun _ h9 => h9) rfl dn_Meaning_linked_213 ?_
          refine va_get (D := (dC, dI)) (ci := 4) (v := .int ((s.1 240 0))) (C := rn_Checker) (T := fn_Checker) (N := 15) hx hb hg in_Checker hown hK hP 3 rfl rfl 11 (by decide) (hg _ wn_1_137) (fun _ h9 => h9) rfl dn_Meaning_linked_216 ?_
          refine va_put (D := (dC, dI)) (ci := 12) (v := .int ((s.1 240 0))) (ty := .int) (C := rn_Code) (T := fn_Code) (N := 5) hx hb hg in_Code tn_Code tk_Code nn_Code hown hK hP hD hS 11 rfl rfl 1 (by decide) (hg _ wn_2_214) (fun _ h9 => h9) rfl (tk_Code 1 (by decide)) rfl rfl (Nat.le_of_ble_eq_true rfl) dn_Meaning_linked_219 (fun H locs hP hD hS => ?_)
          have hP := wC_P_337 hP
          have hD := wC_D_337 hD
          refine lv_aload_n hx hb dn_Meaning_linked_222 rfl (lv_at hl 0 rfl) ?_
          refine va_get (D := (dC, dI)) (ci := 5) (v := .ref ((a 110))) (C := rn_Meaning) (T := fn_Meaning) (N := 17) hx hb hg in_Meaning hown hK hP 4 rfl rfl 2 (by decide) (hg _ wn_1_186) (fun _ h9 => h9) (congrArg some hv_5) dn_Meaning_linked_223 ?_
          refine va_get (D := (dC, dI)) (ci := 11) (v := .ref ((a 326))) (C := rn_Parts) (T := fn_Parts) (N := 15) hx hb hg in_Parts hown hK hP 10 rfl rfl 5 (by decide) (hg _ wn_2_145) (fun _ h9 => h9) rfl dn_Meaning_linked_226 ?_
          refine lv_iload hx hb dn_Meaning_linked_229 (lv_at hl 6 rfl) ?_
          refine lv_aload_n hx hb dn_Meaning_linked_231 rfl (lv_at hl 0 rfl) ?_
          refine va_get (D := (dC, dI)) (ci := 5) (v := .ref ((a 111))) (C := rn_Meaning) (T := fn_Meaning) (N := 17) hx hb hg in_Meaning hown hK hP 4 rfl rfl 3 (by decide) (hg _ wn_1_187) (fun _ h9 => h9) (congrArg some hv_6) dn_Meaning_linked_232 ?_
          refine va_get (D := (dC, dI)) (ci := 12) (v := .int ((s.1 240 0))) (C := rn_Code) (T := fn_Code) (N := 5) hx hb hg in_Code hown hK hP 11 rfl rfl 1 (by decide) (hg _ wn_2_214) (fun _ h9 => h9) rfl dn_Meaning_linked_235 ?_
          obtain ⟨hg_3, hf⟩ := dc_g hf
          refine va_iast hx hb hK hP hD hS 65 0 rfl rfl hg_3 dn_Meaning_linked_238 (fun H locs hP hD hS => ?_)
          have hP : va_P (dC, dI) xcl ((wC a v cI cB cJ cZ cQ (upI s 337 (fun _ => (s.1 240 0)))).set 65 ((a 326), .inl (cI, 10923, .inl (upd (s.1 326) (Int32.toNatClampNeg x8) ((s.1 240 0)))))) H := hP
          have hD : va_D A ((wC a v cI cB cJ cZ cQ (upI s 337 (fun _ => (s.1 240 0)))).set 65 ((a 326), .inl (cI, 10923, .inl (upd (s.1 326) (Int32.toNatClampNeg x8) ((s.1 240 0)))))) := hD
          have hP := wC_P_326 hP
          have hD := wC_D_326 hD
          refine lv_aload_n hx hb dn_Meaning_linked_239 rfl (lv_at hl 0 rfl) ?_
          refine va_get (D := (dC, dI)) (ci := 5) (v := .ref ((a 110))) (C := rn_Meaning) (T := fn_Meaning) (N := 17) hx hb hg in_Meaning hown hK hP 4 rfl rfl 2 (by decide) (hg _ wn_1_186) (fun _ h9 => h9) (congrArg some hv_5) dn_Meaning_linked_240 ?_
          refine va_get (D := (dC, dI)) (ci := 11) (v := .ref ((a 327))) (C := rn_Parts) (T := fn_Parts) (N := 15) hx hb hg in_Parts hown hK hP 10 rfl rfl 6 (by decide) (hg _ wn_2_148) (fun _ h9 => h9) rfl dn_Meaning_linked_243 ?_
          refine lv_iload hx hb dn_Meaning_linked_246 (lv_at hl 6 rfl) ?_
          refine lv_aload_n hx hb dn_Meaning_linked_248 rfl (lv_at hl 0 rfl) ?_
          refine va_get (D := (dC, dI)) (ci := 5) (v := .ref ((a 111))) (C := rn_Meaning) (T := fn_Meaning) (N := 17) hx hb hg in_Meaning hown hK hP 4 rfl rfl 3 (by decide) (hg _ wn_1_187) (fun _ h9 => h9) (congrArg some hv_6) dn_Meaning_linked_249 ?_
          refine va_get (D := (dC, dI)) (ci := 12) (v := .int ((s.1 240 0))) (C := rn_Code) (T := fn_Code) (N := 5) hx hb hg in_Code hown hK hP 11 rfl rfl 1 (by decide) (hg _ wn_2_214) (fun _ h9 => h9) rfl dn_Meaning_linked_252 ?_
          obtain ⟨hg_4, hf⟩ := dc_g hf
          refine va_iast hx hb hK hP hD hS 66 0 rfl rfl hg_4 dn_Meaning_linked_255 (fun H locs hP hD hS => ?_)
          have hP : va_P (dC, dI) xcl ((wC a v cI cB cJ cZ cQ (upI (upI s 337 (fun _ => (s.1 240 0))) 326 (upd (s.1 326) (Int32.toNatClampNeg x8) ((s.1 240 0))))).set 66 ((a 327), .inl (cI, 10923, .inl (upd (s.1 327) (Int32.toNatClampNeg x8) ((s.1 240 0)))))) H := hP
          have hD : va_D A ((wC a v cI cB cJ cZ cQ (upI (upI s 337 (fun _ => (s.1 240 0))) 326 (upd (s.1 326) (Int32.toNatClampNeg x8) ((s.1 240 0))))).set 66 ((a 327), .inl (cI, 10923, .inl (upd (s.1 327) (Int32.toNatClampNeg x8) ((s.1 240 0)))))) := hD
          have hP := wC_P_327 hP
          have hD := wC_D_327 hD
          refine lv_aload_n hx hb dn_Meaning_linked_256 rfl (lv_at hl 0 rfl) ?_
          refine va_get (D := (dC, dI)) (ci := 5) (v := .ref ((a 110))) (C := rn_Meaning) (T := fn_Meaning) (N := 17) hx hb hg in_Meaning hown hK hP 4 rfl rfl 2 (by decide) (hg _ wn_1_186) (fun _ h9 => h9) (congrArg some hv_5) dn_Meaning_linked_257 ?_
          refine va_get (D := (dC, dI)) (ci := 11) (v := .ref ((a 334))) (C := rn_Parts) (T := fn_Parts) (N := 15) hx hb hg in_Parts hown hK hP 10 rfl rfl 13 (by decide) (hg _ wn_2_168) (fun _ h9 => h9) rfl dn_Meaning_linked_260 ?_
          refine lv_iload hx hb dn_Meaning_linked_263 (lv_at hl 4 rfl) ?_
          refine lv_aload_n hx hb dn_Meaning_linked_265 rfl (lv_at hl 0 rfl) ?_
          refine va_get (D := (dC, dI)) (ci := 5) (v := .ref ((a 103))) (C := rn_Meaning) (T := fn_Meaning) (N := 17) hx hb hg in_Meaning hown hK hP 4 rfl rfl 0 (by decide) (hg _ wn_1_184) (fun _ h9 => h9) rfl dn_Meaning_linked_266 ?_
          refine lv_iload hx hb dn_Meaning_linked_269 (lv_at hl 6 rfl) ?_
          obtain ⟨q_5, hc_6, hf⟩ := dc_b hf
          refine dc_calli (dc_runV (ar := 1) (As := [.int x8]) (rest := [.int x5, .ref ((a 334))]) (ci := 4) (q0 := 3) ⟨hx, hb, hml, hown, hg⟩ hK hN hT hS hA (ct_Checker_localOf_Ch l dC dI cI cB cJ cZ cQ N H.size a v x8 (upI (upI (upI s 337 (fun _ => (s.1 240 0))) 326 (upd (s.1 326) (Int32.toNatClampNeg x8) ((s.1 240 0)))) 327 (upd (s.1 327) (Int32.toNatClampNeg x8) ((s.1 240 0)))) q_5 hc_6) hP hD rfl rfl wn_6_139 wn_6_58 wn_6_59 wn_1_4 wn_6_60 rfl rfl (by decide +kernel) ⟨Nat.le_of_ble_eq_true rfl, Nat.le_of_ble_eq_true rfl⟩ rfl hl.1 rfl (Nat.le_of_ble_eq_true rfl) dn_Meaning_linked_271 ⟨Nat.le_of_ble_eq_true rfl, Nat.le_of_ble_eq_true rfl⟩) hP hD hS hA (fun r_7 _ H locs hw hP hD hS => ?_)
          have hw : r_7 = q_5.1 := hw
          subst hw
          obtain ⟨hg_8, hf⟩ := dc_g hf
          refine va_iast hx hb hK hP hD hS 71 0 rfl rfl hg_8 dn_Meaning_linked_274 (fun H locs hP hD hS => ?_)
          have hP : va_P (dC, dI) xcl ((wC a v cI cB cJ cZ cQ q_5.2).set 71 ((a 334), .inl (cI, 10923, .inl (upd (q_5.2.1 334) (Int32.toNatClampNeg x5) q_5.1)))) H := hP
          have hD : va_D A ((wC a v cI cB cJ cZ cQ q_5.2).set 71 ((a 334), .inl (cI, 10923, .inl (upd (q_5.2.1 334) (Int32.toNatClampNeg x5) q_5.1)))) := hD
          have hP := wC_P_334 hP
          have hD := wC_D_334 hD
          rw [hQQ, ← Option.some.inj hf]
          exact xk_vret (w1 := fun u : Unit => (wC a v cI cB cJ cZ cQ (upI q_5.2 334 (upd (q_5.2.1 334) (Int32.toNatClampNeg x5) q_5.1)))) () hx hb hr hlocks hK hS dn_Meaning_linked_275 hP hD trivial (Nat.le_refl _) (Nat.le_refl _)
        · have hf := (if_neg h).symm.trans hf
          refine lv_aload_n hx hb dn_Meaning_linked_195 rfl (lv_at hl 0 rfl) ?_
          refine va_get (D := (dC, dI)) (ci := 5) (v := .ref ((a 103))) (C := rn_Meaning) (T := fn_Meaning) (N := 17) hx hb hg in_Meaning hown hK hP 4 rfl rfl 0 (by decide) (hg _ wn_1_184) (fun _ h9 => h9) rfl dn_Meaning_linked_196 ?_
          refine lv_bipush (v := 31) hx hb dn_Meaning_linked_199 (by decide) ?_
          refine lv_iload_n hx hb dn_Meaning_linked_201 rfl (lv_at hl 2 rfl) ?_
          obtain ⟨q_3, hc_4, hf⟩ := dc_b hf
          refine dc_callv (dc_runV (ar := 2) (As := [.int 31, .int x2]) (rest := []) (ci := 4) (q0 := 3) ⟨hx, hb, hml, hown, hg⟩ hK hN hT hS hA (ct_Checker_refuse_Ch l dC dI cI cB cJ cZ cQ N H.size a v 31 x2 s q_3 hc_4) hP hD rfl rfl wn_4_201 wn_4_202 wn_4_203 wn_1_4 wn_4_204 rfl rfl (by decide +kernel) ⟨Nat.le_of_ble_eq_true rfl, Nat.le_of_ble_eq_true rfl⟩ rfl hl.1 rfl (Nat.le_of_ble_eq_true rfl) dn_Meaning_linked_202 ⟨Nat.le_of_ble_eq_true rfl, Nat.le_of_ble_eq_true rfl⟩) hP hD hS hA (fun _ H locs hw hP hD hS => ?_)
          refine lv_goto (tgt := 275) hx hb dn_Meaning_linked_205 (by decide) ?_
          rw [hQQ, ← Option.some.inj hf]
          exact xk_vret (w1 := fun u : Unit => (wC a v cI cB cJ cZ cQ q_3.2)) () hx hb hr hlocks hK hS dn_Meaning_linked_275 hP hD trivial (Nat.le_refl _) (Nat.le_refl _)
      · have hf := (if_pos h).symm.trans hf
        refine lv_aload_n hx hb dn_Meaning_linked_144 rfl (lv_at hl 0 rfl) ?_
        refine va_get (D := (dC, dI)) (ci := 5) (v := .ref ((a 110))) (C := rn_Meaning) (T := fn_Meaning) (N := 17) hx hb hg in_Meaning hown hK hP 4 rfl rfl 2 (by decide) (hg _ wn_1_186) (fun _ h9 => h9) (congrArg some hv_5) dn_Meaning_linked_145 ?_
        refine va_get (D := (dC, dI)) (ci := 11) (v := .ref ((a 334))) (C := rn_Parts) (T := fn_Parts) (N := 15) hx hb hg in_Parts hown hK hP 10 rfl rfl 13 (by decide) (hg _ wn_2_168) (fun _ h9 => h9) rfl dn_Meaning_linked_148 ?_
        refine lv_iload hx hb dn_Meaning_linked_151 (lv_at hl 4 rfl) ?_
        refine lv_aload_n hx hb dn_Meaning_linked_153 rfl (lv_at hl 0 rfl) ?_
        refine va_get (D := (dC, dI)) (ci := 5) (v := .ref ((a 103))) (C := rn_Meaning) (T := fn_Meaning) (N := 17) hx hb hg in_Meaning hown hK hP 4 rfl rfl 0 (by decide) (hg _ wn_1_184) (fun _ h9 => h9) rfl dn_Meaning_linked_154 ?_
        refine va_get (D := (dC, dI)) (ci := 4) (v := .int ((s.1 240 0))) (C := rn_Checker) (T := fn_Checker) (N := 15) hx hb hg in_Checker hown hK hP 3 rfl rfl 11 (by decide) (hg _ wn_1_137) (fun _ h9 => h9) rfl dn_Meaning_linked_157 ?_
        obtain ⟨hg_2, hf⟩ := dc_g hf
        refine va_iast hx hb hK hP hD hS 71 0 rfl rfl hg_2 dn_Meaning_linked_160 (fun H locs hP hD hS => ?_)
        have hP : va_P (dC, dI) xcl ((wC a v cI cB cJ cZ cQ s).set 71 ((a 334), .inl (cI, 10923, .inl (upd (s.1 334) (Int32.toNatClampNeg x5) ((s.1 240 0)))))) H := hP
        have hD : va_D A ((wC a v cI cB cJ cZ cQ s).set 71 ((a 334), .inl (cI, 10923, .inl (upd (s.1 334) (Int32.toNatClampNeg x5) ((s.1 240 0)))))) := hD
        have hP := wC_P_334 hP
        have hD := wC_D_334 hD
        refine lv_aload_n hx hb dn_Meaning_linked_161 rfl (lv_at hl 0 rfl) ?_
        refine va_get (D := (dC, dI)) (ci := 5) (v := .ref ((a 110))) (C := rn_Meaning) (T := fn_Meaning) (N := 17) hx hb hg in_Meaning hown hK hP 4 rfl rfl 2 (by decide) (hg _ wn_1_186) (fun _ h9 => h9) (congrArg some hv_5) dn_Meaning_linked_162 ?_
        refine va_get (D := (dC, dI)) (ci := 11) (v := .ref ((a 335))) (C := rn_Parts) (T := fn_Parts) (N := 15) hx hb hg in_Parts hown hK hP 10 rfl rfl 14 (by decide) (hg _ wn_2_171) (fun _ h9 => h9) rfl dn_Meaning_linked_165 ?_
        refine lv_iload hx hb dn_Meaning_linked_168 (lv_at hl 4 rfl) ?_
        refine lv_aload_n hx hb dn_Meaning_linked_170 rfl (lv_at hl 0 rfl) ?_
        refine va_get (D := (dC, dI)) (ci := 5) (v := .ref ((a 111))) (C := rn_Meaning) (T := fn_Meaning) (N := 17) hx hb hg in_Meaning hown hK hP 4 rfl rfl 3 (by decide) (hg _ wn_1_187) (fun _ h9 => h9) (congrArg some hv_6) dn_Meaning_linked_171 ?_
        refine va_get (D := (dC, dI)) (ci := 12) (v := .int ((s.1 337 0))) (C := rn_Code) (T := fn_Code) (N := 5) hx hb hg in_Code hown hK hP 11 rfl rfl 1 (by decide) (hg _ wn_2_214) (fun _ h9 => h9) rfl dn_Meaning_linked_174 ?_
        obtain ⟨hg_3, hf⟩ := dc_g hf
        refine va_iast hx hb hK hP hD hS 72 0 rfl rfl hg_3 dn_Meaning_linked_177 (fun H locs hP hD hS => ?_)
        have hP : va_P (dC, dI) xcl ((wC a v cI cB cJ cZ cQ (upI s 334 (upd (s.1 334) (Int32.toNatClampNeg x5) ((s.1 240 0))))).set 72 ((a 335), .inl (cI, 10923, .inl (upd (s.1 335) (Int32.toNatClampNeg x5) ((s.1 337 0)))))) H := hP
        have hD : va_D A ((wC a v cI cB cJ cZ cQ (upI s 334 (upd (s.1 334) (Int32.toNatClampNeg x5) ((s.1 240 0))))).set 72 ((a 335), .inl (cI, 10923, .inl (upd (s.1 335) (Int32.toNatClampNeg x5) ((s.1 337 0)))))) := hD
        have hP := wC_P_335 hP
        have hD := wC_D_335 hD
        refine lv_goto (tgt := 275) hx hb dn_Meaning_linked_178 (by decide) ?_
        rw [hQQ, ← Option.some.inj hf]
        exact xk_vret (w1 := fun u : Unit => (wC a v cI cB cJ cZ cQ (upI (upI s 334 (upd (s.1 334) (Int32.toNatClampNeg x5) ((s.1 240 0)))) 335 (upd (s.1 335) (Int32.toNatClampNeg x5) ((s.1 337 0)))))) () hx hb hr hlocks hK hS dn_Meaning_linked_275 hP hD trivial (Nat.le_refl _) (Nat.le_refl _)
    · have hf := (if_neg h).symm.trans hf
      refine lv_aload_n hx hb dn_Meaning_linked_126 rfl (lv_at hl 0 rfl) ?_
      refine va_get (D := (dC, dI)) (ci := 5) (v := .ref ((a 103))) (C := rn_Meaning) (T := fn_Meaning) (N := 17) hx hb hg in_Meaning hown hK hP 4 rfl rfl 0 (by decide) (hg _ wn_1_184) (fun _ h9 => h9) rfl dn_Meaning_linked_127 ?_
      refine lv_bipush (v := 30) hx hb dn_Meaning_linked_130 (by decide) ?_
      refine lv_iload_n hx hb dn_Meaning_linked_132 rfl (lv_at hl 1 rfl) ?_
      obtain ⟨q_2, hc_3, hf⟩ := dc_b hf
      refine dc_callv (dc_runV (ar := 2) (As := [.int 30, .int x1]) (rest := []) (ci := 4) (q0 := 3) ⟨hx, hb, hml, hown, hg⟩ hK hN hT hS hA (ct_Checker_refuse_Ch l dC dI cI cB cJ cZ cQ N H.size a v 30 x1 s q_2 hc_3) hP hD rfl rfl wn_4_201 wn_4_202 wn_4_203 wn_1_4 wn_4_204 rfl rfl (by decide +kernel) ⟨Nat.le_of_ble_eq_true rfl, Nat.le_of_ble_eq_true rfl⟩ rfl hl.1 rfl (Nat.le_of_ble_eq_true rfl) dn_Meaning_linked_133 ⟨Nat.le_of_ble_eq_true rfl, Nat.le_of_ble_eq_true rfl⟩) hP hD hS hA (fun _ H locs hw hP hD hS => ?_)
      refine lv_goto (tgt := 275) hx hb dn_Meaning_linked_136 (by decide) ?_
      rw [hQQ, ← Option.some.inj hf]
      exact xk_vret (w1 := fun u : Unit => (wC a v cI cB cJ cZ cQ q_2.2)) () hx hb hr hlocks hK hS dn_Meaning_linked_275 hP hD trivial (Nat.le_refl _) (Nat.le_refl _)
  have bl_66 : ∀ (x1 : Int32) (x2 : Int32) (x3 : Int32) (x4 : Int32) (x5 : Int32) (t0 : Int32) (s : ms), bk_Meaning_linked_Me_66 N x1 x2 x3 x4 x5 t0 s = some y → dcC p l e ({ frames := 2, cells := 0, slots := 0, locals := 40 }) s0 m [.ref ((a 104)), .int v1, .int v2, .int v3].toArray below meth c QQ (dC, dI) A (wC a v cI cB cJ cZ cQ s) 66 9 [(0, .ref ((a 104))), (1, .int x1), (2, .int x2), (3, .int x3), (4, .int x4), (5, .int x5)] [.int t0] := by
    intro x1 x2 x3 x4 x5 t0 s hf H locs ls hP hD hS hl
    unfold bk_Meaning_linked_Me_66 at hf
    refine lv_istore (lv' := [(7, .int t0), (0, .ref ((a 104))), (1, .int x1), (2, .int x2), (3, .int x3), (4, .int x4), (5, .int x5)]) hx hb dn_Meaning_linked_66 hl (by decide) rfl (fun ls hl => ?_)
    refine lv_aload_n hx hb dn_Meaning_linked_68 rfl (lv_at hl 1 rfl) ?_
    refine va_get (D := (dC, dI)) (ci := 5) (v := .ref ((a 103))) (C := rn_Meaning) (T := fn_Meaning) (N := 17) hx hb hg in_Meaning hown hK hP 4 rfl rfl 0 (by decide) (hg _ wn_1_184) (fun _ h9 => h9) rfl dn_Meaning_linked_69 ?_
    refine lv_iload_n hx hb dn_Meaning_linked_72 rfl (lv_at hl 4 rfl) ?_
    obtain ⟨q_1, hc_2, hf⟩ := dc_b hf
    refine dc_calli (dc_runV (ar := 1) (As := [.int x3]) (rest := []) (ci := 4) (q0 := 3) ⟨hx, hb, hml, hown, hg⟩ hK hN hT hS hA (ct_Checker_meantBy_Ch l dC dI cI cB cJ cZ cQ N H.size a v x3 s q_1 hc_2) hP hD rfl rfl wn_4_238 wn_4_239 wn_5_0 wn_1_4 wn_5_1 rfl rfl (by decide +kernel) ⟨Nat.le_of_ble_eq_true rfl, Nat.le_of_ble_eq_true rfl⟩ rfl hl.1 rfl (Nat.le_of_ble_eq_true rfl) dn_Meaning_linked_73 ⟨Nat.le_of_ble_eq_true rfl, Nat.le_of_ble_eq_true rfl⟩) hP hD hS hA (fun r_3 _ H locs hw hP hD hS => ?_)
    have hw : r_3 = q_1.1 := hw
    subst hw
    refine lv_istore (lv' := [(8, .int q_1.1), (7, .int t0), (0, .ref ((a 104))), (1, .int x1), (2, .int x2), (3, .int x3), (4, .int x4), (5, .int x5)]) hx hb dn_Meaning_linked_76 hl (by decide) rfl (fun ls hl => ?_)
    refine lv_iload hx hb dn_Meaning_linked_78 (lv_at hl 1 rfl) ?_
    refine lv_if_eq (tgt := 109) hx hb dn_Meaning_linked_80 (by decide) (fun h => ?_) (fun h => ?_)
    · have hf := (if_pos h).symm.trans hf
      exact bl_109 x1 x2 x4 x5 t0 q_1.1 q_1.2 hf H locs ls hP hD hS (lv_sub hl [2, 3, 4, 6, 7, 1, 0] rfl)
    · have hf := (if_neg h).symm.trans hf
      refine lv_aload_n hx hb dn_Meaning_linked_83 rfl (lv_at hl 2 rfl) ?_
      refine va_get (D := (dC, dI)) (ci := 5) (v := .ref ((a 103))) (C := rn_Meaning) (T := fn_Meaning) (N := 17) hx hb hg in_Meaning hown hK hP 4 rfl rfl 0 (by decide) (hg _ wn_1_184) (fun _ h9 => h9) rfl dn_Meaning_linked_84 ?_
      refine lv_iload hx hb dn_Meaning_linked_87 (lv_at hl 0 rfl) ?_
      obtain ⟨q_4, hc_5, hf⟩ := dc_b hf
      refine dc_calli (dc_runV (ar := 1) (As := [.int q_1.1]) (rest := []) (ci := 4) (q0 := 3) ⟨hx, hb, hml, hown, hg⟩ hK hN hT hS hA (ct_Checker_sortOf_Ch l dC dI cI cB cJ cZ cQ N H.size a v hv_2 q_1.1 q_1.2 q_4 hc_5) hP hD rfl rfl wn_5_42 wn_5_43 wn_5_44 wn_1_4 wn_5_45 rfl rfl (by decide +kernel) ⟨Nat.le_of_ble_eq_true rfl, Nat.le_of_ble_eq_true rfl⟩ rfl hl.1 rfl (Nat.le_of_ble_eq_true rfl) dn_Meaning_linked_89 ⟨Nat.le_of_ble_eq_true rfl, Nat.le_of_ble_eq_true rfl⟩) hP hD hS hA (fun r_6 _ H locs hw hP hD hS => ?_)
      have hw : r_6 = q_4.1 := hw
      subst hw
      refine lv_iconst (v := 1) hx hb dn_Meaning_linked_92 (by decide) ?_
      refine lv_icmp_eq (tgt := 109) hx hb dn_Meaning_linked_93 (by decide) (fun h => ?_) (fun h => ?_)
      · have hf := (if_pos h).symm.trans hf
        exact bl_109 x1 x2 x4 x5 t0 q_1.1 q_4.2 hf H locs ls hP hD hS (lv_sub hl [2, 3, 4, 6, 7, 1, 0] rfl)
      · have hf := (if_neg h).symm.trans hf
        refine lv_aload_n hx hb dn_Meaning_linked_96 rfl (lv_at hl 2 rfl) ?_
        refine va_get (D := (dC, dI)) (ci := 5) (v := .ref ((a 103))) (C := rn_Meaning) (T := fn_Meaning) (N := 17) hx hb hg in_Meaning hown hK hP 4 rfl rfl 0 (by decide) (hg _ wn_1_184) (fun _ h9 => h9) rfl dn_Meaning_linked_97 ?_
        refine lv_bipush (v := 25) hx hb dn_Meaning_linked_100 (by decide) ?_
        refine lv_iload_n hx hb dn_Meaning_linked_102 rfl (lv_at hl 4 rfl) ?_
        obtain ⟨q_7, hc_8, hf⟩ := dc_b hf
        refine dc_callv (dc_runV (ar := 2) (As := [.int 25, .int x2]) (rest := []) (ci := 4) (q0 := 3) ⟨hx, hb, hml, hown, hg⟩ hK hN hT hS hA (ct_Checker_refuse_Ch l dC dI cI cB cJ cZ cQ N H.size a v 25 x2 q_4.2 q_7 hc_8) hP hD rfl rfl wn_4_201 wn_4_202 wn_4_203 wn_1_4 wn_4_204 rfl rfl (by decide +kernel) ⟨Nat.le_of_ble_eq_true rfl, Nat.le_of_ble_eq_true rfl⟩ rfl hl.1 rfl (Nat.le_of_ble_eq_true rfl) dn_Meaning_linked_103 ⟨Nat.le_of_ble_eq_true rfl, Nat.le_of_ble_eq_true rfl⟩) hP hD hS hA (fun _ H locs hw hP hD hS => ?_)
        refine lv_goto (tgt := 275) hx hb dn_Meaning_linked_106 (by decide) ?_
        rw [hQQ, ← Option.some.inj hf]
        exact xk_vret (w1 := fun u : Unit => (wC a v cI cB cJ cZ cQ q_7.2)) () hx hb hr hlocks hK hS dn_Meaning_linked_275 hP hD trivial (Nat.le_refl _) (Nat.le_refl _)
  intro H locs ls hP hD hS hl
  unfold fn_Meaning_linked_Me at hf
  refine lv_aload_n hx hb dn_Meaning_linked_0 rfl (lv_at hl 0 rfl) ?_
  refine va_get (D := (dC, dI)) (ci := 5) (v := .ref ((a 103))) (C := rn_Meaning) (T := fn_Meaning) (N := 17) hx hb hg in_Meaning hown hK hP 4 rfl rfl 0 (by decide) (hg _ wn_1_184) (fun _ h9 => h9) rfl dn_Meaning_linked_1 ?_
  obtain ⟨q_1, hc_2, hf⟩ := dc_b hf
  refine dc_calli (dc_runV (ar := 0) (As := []) (rest := []) (ci := 4) (q0 := 3) ⟨hx, hb, hml, hown, hg⟩ hK hN hT hS hA (ct_Checker_isOff_Ch l dC dI cI cB cJ cZ cQ N H.size a v s q_1 hc_2) hP hD rfl rfl wn_4_193 wn_4_194 wn_4_195 wn_1_4 wn_4_196 rfl rfl (by decide +kernel) ⟨Nat.le_of_ble_eq_true rfl, Nat.le_of_ble_eq_true rfl⟩ rfl hl.1 rfl (Nat.le_of_ble_eq_true rfl) dn_Meaning_linked_4 ⟨Nat.le_of_ble_eq_true rfl, Nat.le_of_ble_eq_true rfl⟩) hP hD hS hA (fun r_3 _ H locs hw hP hD hS => ?_)
  have hw : r_3 = q_1.1 := hw
  subst hw
  refine lv_if_eq (tgt := 11) hx hb dn_Meaning_linked_7 (by decide) (fun h => ?_) (fun h => ?_)
  · have hf := (if_pos h).symm.trans hf
    refine lv_aload_n hx hb dn_Meaning_linked_11 rfl (lv_at hl 0 rfl) ?_
    refine va_get (D := (dC, dI)) (ci := 5) (v := .ref ((a 103))) (C := rn_Meaning) (T := fn_Meaning) (N := 17) hx hb hg in_Meaning hown hK hP 4 rfl rfl 0 (by decide) (hg _ wn_1_184) (fun _ h9 => h9) rfl dn_Meaning_linked_12 ?_
    obtain ⟨q_4, hc_5, hf⟩ := dc_b hf
    refine dc_calli (dc_runV (ar := 0) (As := []) (rest := []) (ci := 4) (q0 := 3) ⟨hx, hb, hml, hown, hg⟩ hK hN hT hS hA (ct_Checker_expWidth_Ch l dC dI cI cB cJ cZ cQ N H.size a v q_1.2 q_4 hc_5) hP hD rfl rfl wn_6_131 wn_6_132 wn_6_133 wn_1_4 wn_6_134 rfl rfl (by decide +kernel) ⟨Nat.le_of_ble_eq_true rfl, Nat.le_of_ble_eq_true rfl⟩ rfl hl.1 rfl (Nat.le_of_ble_eq_true rfl) dn_Meaning_linked_15 ⟨Nat.le_of_ble_eq_true rfl, Nat.le_of_ble_eq_true rfl⟩) hP hD hS hA (fun r_6 _ H locs hw hP hD hS => ?_)
    have hw : r_6 = q_4.1 := hw
    subst hw
    refine lv_istore (lv' := [(4, .int q_4.1), (0, .ref ((a 104))), (1, .int v1), (2, .int v2), (3, .int v3)]) hx hb dn_Meaning_linked_18 hl (by decide) rfl (fun ls hl => ?_)
    refine lv_aload_n hx hb dn_Meaning_linked_20 rfl (lv_at hl 1 rfl) ?_
    refine va_get (D := (dC, dI)) (ci := 5) (v := .ref ((a 110))) (C := rn_Meaning) (T := fn_Meaning) (N := 17) hx hb hg in_Meaning hown hK hP 4 rfl rfl 2 (by decide) (hg _ wn_1_186) (fun _ h9 => h9) (congrArg some hv_5) dn_Meaning_linked_21 ?_
    refine va_get (D := (dC, dI)) (ci := 11) (v := .int ((q_4.2.1 332 0))) (C := rn_Parts) (T := fn_Parts) (N := 15) hx hb hg in_Parts hown hK hP 10 rfl rfl 11 (by decide) (hg _ wn_2_163) (fun _ h9 => h9) rfl dn_Meaning_linked_24 ?_
    refine lv_iconst (v := 1) hx hb dn_Meaning_linked_27 (by decide) ?_
    refine lv_isub hx hb dn_Meaning_linked_28 ?_
    refine lv_istore (lv' := [(5, .int (((q_4.2.1 332 0) - 1))), (4, .int q_4.1), (0, .ref ((a 104))), (1, .int v1), (2, .int v2), (3, .int v3)]) hx hb dn_Meaning_linked_29 hl (by decide) rfl (fun ls hl => ?_)
    refine lv_aload_n hx hb dn_Meaning_linked_31 rfl (lv_at hl 2 rfl) ?_
    refine va_get (D := (dC, dI)) (ci := 5) (v := .ref ((a 103))) (C := rn_Meaning) (T := fn_Meaning) (N := 17) hx hb hg in_Meaning hown hK hP 4 rfl rfl 0 (by decide) (hg _ wn_1_184) (fun _ h9 => h9) rfl dn_Meaning_linked_32 ?_
    refine lv_aload_n hx hb dn_Meaning_linked_35 rfl (lv_at hl 2 rfl) ?_
    refine va_get (D := (dC, dI)) (ci := 5) (v := .int ((q_4.2.1 252 0))) (C := rn_Meaning) (T := fn_Meaning) (N := 17) hx hb hg in_Meaning hown hK hP 4 rfl rfl 8 (by decide) (hg _ wn_1_192) (fun _ h9 => h9) rfl dn_Meaning_linked_36 ?_
    obtain ⟨q_7, hc_8, hf⟩ := dc_b hf
    refine dc_calli (dc_runV (ar := 1) (As := [.int ((q_4.2.1 252 0))]) (rest := []) (ci := 4) (q0 := 3) ⟨hx, hb, hml, hown, hg⟩ hK hN hT hS hA (ct_Checker_sortOf_Ch l dC dI cI cB cJ cZ cQ N H.size a v hv_2 ((q_4.2.1 252 0)) q_4.2 q_7 hc_8) hP hD rfl rfl wn_5_42 wn_5_43 wn_5_44 wn_1_4 wn_5_45 rfl rfl (by decide +kernel) ⟨Nat.le_of_ble_eq_true rfl, Nat.le_of_ble_eq_true rfl⟩ rfl hl.1 rfl (Nat.le_of_ble_eq_true rfl) dn_Meaning_linked_39 ⟨Nat.le_of_ble_eq_true rfl, Nat.le_of_ble_eq_true rfl⟩) hP hD hS hA (fun r_9 _ H locs hw hP hD hS => ?_)
    have hw : r_9 = q_7.1 := hw
    subst hw
    refine lv_istore (lv' := [(6, .int q_7.1), (5, .int (((q_4.2.1 332 0) - 1))), (4, .int q_4.1), (0, .ref ((a 104))), (1, .int v1), (2, .int v2), (3, .int v3)]) hx hb dn_Meaning_linked_42 hl (by decide) rfl (fun ls hl => ?_)
    refine lv_iload hx hb dn_Meaning_linked_44 (lv_at hl 1 rfl) ?_
    refine lv_if_lt (tgt := 55) hx hb dn_Meaning_linked_46 (by decide) (fun h => ?_) (fun h => ?_)
    · have hf := (if_pos h).symm.trans hf
      rw [hQQ, ← Option.some.inj hf]
      exact xk_vret (w1 := fun u : Unit => (wC a v cI cB cJ cZ cQ q_7.2)) () hx hb hr hlocks hK hS dn_Meaning_linked_55 hP hD trivial (Nat.le_refl _) (Nat.le_refl _)
    · have hf := (if_neg h).symm.trans hf
      refine lv_iload hx hb dn_Meaning_linked_49 (lv_at hl 0 rfl) ?_
      refine lv_iconst (v := (-1)) hx hb dn_Meaning_linked_51 (by decide) ?_
      refine lv_icmp_ne (tgt := 56) hx hb dn_Meaning_linked_52 (by decide) (fun h => ?_) (fun h => ?_)
      · have hf := (if_neg h).symm.trans hf
        refine lv_iload hx hb dn_Meaning_linked_56 (lv_at hl 0 rfl) ?_
        refine lv_if_eq (tgt := 65) hx hb dn_Meaning_linked_58 (by decide) (fun h => ?_) (fun h => ?_)
        · have hf := (if_pos h).symm.trans hf
          refine lv_iconst (v := 0) hx hb dn_Meaning_linked_65 (by decide) ?_
          exact bl_66 v1 v2 v3 q_4.1 (((q_4.2.1 332 0) - 1)) 0 q_7.2 hf H locs ls hP hD hS (lv_sub hl [3, 4, 5, 6, 2, 1] rfl)
        · have hf := (if_neg h).symm.trans hf
          refine lv_iconst (v := 1) hx hb dn_Meaning_linked_61 (by decide) ?_
          refine lv_goto (tgt := 66) hx hb dn_Meaning_linked_62 (by decide) ?_
          exact bl_66 v1 v2 v3 q_4.1 (((q_4.2.1 332 0) - 1)) 1 q_7.2 hf H locs ls hP hD hS (lv_sub hl [3, 4, 5, 6, 2, 1] rfl)
      · have hf := (if_pos h).symm.trans hf
        rw [hQQ, ← Option.some.inj hf]
        exact xk_vret (w1 := fun u : Unit => (wC a v cI cB cJ cZ cQ q_7.2)) () hx hb hr hlocks hK hS dn_Meaning_linked_55 hP hD trivial (Nat.le_refl _) (Nat.le_refl _)
  · have hf := (if_neg h).symm.trans hf
    rw [hQQ, ← Option.some.inj hf]
    exact xk_vret (w1 := fun u : Unit => (wC a v cI cB cJ cZ cQ q_1.2)) () hx hb hr hlocks hK hS dn_Meaning_linked_10 hP hD trivial (Nat.le_refl _) (Nat.le_refl _)
set_option maxHeartbeats 8000000 in
set_option maxRecDepth 100000 in
theorem ct_Grammar_linkEnd_Gr (l : Launch) (dC : Nat → ClassId) (dI : Nat → Nat → Nat) (cI cB cJ cZ cQ : ClassId) (N sz : Nat) (a : Nat → Nat) (v : Nat → Value) (hv_2 : v 2 = .ref (a 110)) (hv_4 : v 4 = .ref (a 109)) (hv_5 : v 5 = .ref (a 110)) (hv_6 : v 6 = .ref (a 111)) (s : ms) (y : (Unit × ms)) (hf : fn_Grammar_linkEnd_Gr N s = some y) : Met l yn_Grammar_linkEnd (xw yn_Grammar_linkEnd bn_Grammar_linkEnd 2 none) ({ frames := 4, cells := 0, slots := 0, locals := 84 }) (dc_P (dC, dI) xcl (xt cI cB cJ cZ cQ) [.ref ((a 105))] sz (wC a v cI cB cJ cZ cQ s)) (xk_Qv (dC, dI) xcl (xt cI cB cJ cZ cQ) (fun _ : Unit => True) (fun u : Unit => (wC a v cI cB cJ cZ cQ y.2)) (va_A (wC a v cI cB cJ cZ cQ s) sz)) 0 0 (va_A (wC a v cI cB cJ cZ cQ s) sz) := by
  refine dc_of (QA := xk_Qv (dC, dI) xcl (xt cI cB cJ cZ cQ) (fun _ : Unit => True) (fun u : Unit => (wC a v cI cB cJ cZ cQ y.2))) (by decide) (Nat.le_of_ble_eq_true rfl) ?_
  intro p e s0 m below meth c hx hb hml hown hg hr hlocks hin hP hK hN A hA hD hT ls hl
  have hown : s0.vm.findClass rn_Grammar = some m.cls := hown
  obtain ⟨H, hH⟩ : ∃ z, z = s0.heap := ⟨_, rfl⟩
  rw [← hH] at hP
  have hS : va_S A s0.heap H [] := by rw [hH]; exact va_S.rf
  suffices kk : ∀ QQ : State → Prop, QQ = MQ below (xk_Qv (dC, dI) xcl (xt cI cB cJ cZ cQ) (fun _ : Unit => True) (fun u : Unit => (wC a v cI cB cJ cZ cQ y.2)) A) [.ref ((a 105))].toArray s0 0 0 A → dcC p l e ({ frames := 4, cells := 0, slots := 0, locals := 84 }) s0 m [.ref ((a 105))].toArray below meth c QQ (dC, dI) A (wC a v cI cB cJ cZ cQ s) 0 2 [(0, .ref ((a 105)))] [] by
    have k9 := kk _ rfl H [] ls hP hD hS hl
    rw [hH] at k9; exact k9
  clear hP hD hS hl hH H ls
  intro QQ hQQ
  have bl_77 : ∀ (t0 : Int32) (t1 : Int32) (t2 : Int32) (s : ms), bk_Grammar_linkEnd_Gr_77 N t0 t1 t2 s = some y → dcC p l e ({ frames := 4, cells := 0, slots := 0, locals := 84 }) s0 m [.ref ((a 105))].toArray below meth c QQ (dC, dI) A (wC a v cI cB cJ cZ cQ s) 77 2 [(0, .ref ((a 105)))] [.int t0, .int t1, .int t2, .ref ((a 104))] := by
    intro t0 t1 t2 s hf H locs ls hP hD hS hl
    unfold bk_Grammar_linkEnd_Gr_77 at hf
    obtain ⟨q_1, hc_2, hf⟩ := dc_b hf
    refine dc_callv (dc_runV (ar := 3) (As := [.int t2, .int t1, .int t0]) (rest := []) (ci := 5) (q0 := 4) ⟨hx, hb, hml, hown, hg⟩ hK hN hT hS hA (ct_Meaning_linked_Me l dC dI cI cB cJ cZ cQ N H.size a v hv_2 hv_5 hv_6 t2 t1 t0 s q_1 hc_2) hP hD rfl rfl wn_6_157 wn_6_158 wn_6_159 wn_1_6 wn_6_160 rfl rfl (by decide +kernel) ⟨Nat.le_of_ble_eq_true rfl, Nat.le_of_ble_eq_true rfl⟩ rfl hl.1 rfl (Nat.le_of_ble_eq_true rfl) dn_Grammar_linkEnd_77 ⟨Nat.le_of_ble_eq_true rfl, Nat.le_of_ble_eq_true rfl⟩) hP hD hS hA (fun _ H locs hw hP hD hS => ?_)
    refine lv_aload_n hx hb dn_Grammar_linkEnd_80 rfl (lv_at hl 0 rfl) ?_
    refine va_get (D := (dC, dI)) (ci := 6) (v := .ref ((a 101))) (C := rn_Grammar) (T := fn_Grammar) (N := 15) hx hb hg in_Grammar hown hK hP 5 rfl rfl 0 (by decide) (hg _ wn_2_0) (fun _ h9 => h9) rfl dn_Grammar_linkEnd_81 ?_
    refine va_get (D := (dC, dI)) (ci := 2) (v := .int ((q_1.2.1 214 0))) (C := rn_Tokens) (T := fn_Tokens) (N := 9) hx hb hg in_Tokens hown hK hP 1 rfl rfl 3 (by decide) (hg _ wn_1_50) (fun _ h9 => h9) rfl dn_Grammar_linkEnd_84 ?_
    refine lv_bipush (v := 44) hx hb dn_Grammar_linkEnd_87 (by decide) ?_
    refine lv_icmp_ne (tgt := 107) hx hb dn_Grammar_linkEnd_89 (by decide) (fun h => ?_) (fun h => ?_)
    · have hf := (if_neg h).symm.trans hf
      refine lv_aload_n hx hb dn_Grammar_linkEnd_107 rfl (lv_at hl 0 rfl) ?_
      obtain ⟨q_3, hc_4, hf⟩ := dc_b hf
      refine dc_callv (dc_runV (ar := 0) (As := []) (rest := []) (ci := 6) (q0 := 5) ⟨hx, hb, hml, hown, hg⟩ hK hN hT hS hA (ct_Grammar_instanceEnd_Gr l dC dI cI cB cJ cZ cQ N H.size a v hv_4 hv_5 q_1.2 q_3 hc_4) hP hD rfl rfl wn_5_79 wn_5_81 sn_Grammar_instanceEnd wn_1_5 wn_5_82 rfl rfl (by decide +kernel) ⟨Nat.le_of_ble_eq_true rfl, Nat.le_of_ble_eq_true rfl⟩ rfl hl.1 rfl (Nat.le_of_ble_eq_true rfl) dn_Grammar_linkEnd_108 ⟨Nat.le_of_ble_eq_true rfl, Nat.le_of_ble_eq_true rfl⟩) hP hD hS hA (fun _ H locs hw hP hD hS => ?_)
      rw [hQQ, ← Option.some.inj hf]
      exact xk_vret (w1 := fun u : Unit => (wC a v cI cB cJ cZ cQ q_3.2)) () hx hb hr hlocks hK hS dn_Grammar_linkEnd_111 hP hD trivial (Nat.le_refl _) (Nat.le_refl _)
    · have hf := (if_pos h).symm.trans hf
      refine lv_aload_n hx hb dn_Grammar_linkEnd_92 rfl (lv_at hl 0 rfl) ?_
      refine va_get (D := (dC, dI)) (ci := 6) (v := .ref ((a 101))) (C := rn_Grammar) (T := fn_Grammar) (N := 15) hx hb hg in_Grammar hown hK hP 5 rfl rfl 0 (by decide) (hg _ wn_2_0) (fun _ h9 => h9) rfl dn_Grammar_linkEnd_93 ?_
      obtain ⟨q_3, hc_4, hf⟩ := dc_b hf
      refine dc_callv (dc_runV (ar := 0) (As := []) (rest := []) (ci := 2) (q0 := 1) ⟨hx, hb, hml, hown, hg⟩ hK hN hT hS hA (ct_Tokens_take_Tk l dC dI cI cB cJ cZ cQ N H.size a v q_1.2 q_3 hc_4) hP hD rfl rfl wn_4_213 wn_4_149 wn_4_150 wn_1_2 wn_4_151 rfl rfl (by decide +kernel) ⟨Nat.le_of_ble_eq_true rfl, Nat.le_of_ble_eq_true rfl⟩ rfl hl.1 rfl (Nat.le_of_ble_eq_true rfl) dn_Grammar_linkEnd_96 ⟨Nat.le_of_ble_eq_true rfl, Nat.le_of_ble_eq_true rfl⟩) hP hD hS hA (fun _ H locs hw hP hD hS => ?_)
      refine lv_aload_n hx hb dn_Grammar_linkEnd_99 rfl (lv_at hl 0 rfl) ?_
      refine lv_iconst (v := 3) hx hb dn_Grammar_linkEnd_100 (by decide) ?_
      refine va_put (D := (dC, dI)) (ci := 6) (v := .int 3) (ty := .int) (C := rn_Grammar) (T := fn_Grammar) (N := 15) hx hb hg in_Grammar tn_Grammar tk_Grammar nn_Grammar hown hK hP hD hS 5 rfl rfl 3 (by decide) (hg _ wn_2_3) (fun _ h9 => h9) rfl (tk_Grammar 3 (by decide)) rfl rfl (Nat.le_of_ble_eq_true rfl) dn_Grammar_linkEnd_101 (fun H locs hP hD hS => ?_)
      have hP := wC_P_264 hP
      have hD := wC_D_264 hD
      refine lv_goto (tgt := 111) hx hb dn_Grammar_linkEnd_104 (by decide) ?_
      rw [hQQ, ← Option.some.inj hf]
      exact xk_vret (w1 := fun u : Unit => (wC a v cI cB cJ cZ cQ (upI q_3.2 264 (fun _ => 3)))) () hx hb hr hlocks hK hS dn_Grammar_linkEnd_111 hP hD trivial (Nat.le_refl _) (Nat.le_refl _)
  have bl_36 : ∀ (t0 : Int32) (s : ms), bk_Grammar_linkEnd_Gr_36 N t0 s = some y → dcC p l e ({ frames := 4, cells := 0, slots := 0, locals := 84 }) s0 m [.ref ((a 105))].toArray below meth c QQ (dC, dI) A (wC a v cI cB cJ cZ cQ s) 36 2 [(0, .ref ((a 105)))] [.int t0] := by
    intro t0 s hf H locs ls hP hD hS hl
    unfold bk_Grammar_linkEnd_Gr_36 at hf
    refine lv_istore_n (lv' := [(1, .int t0), (0, .ref ((a 105)))]) hx hb dn_Grammar_linkEnd_36 rfl hl (by decide) rfl (fun ls hl => ?_)
    refine lv_aload_n hx hb dn_Grammar_linkEnd_37 rfl (lv_at hl 1 rfl) ?_
    refine va_get (D := (dC, dI)) (ci := 6) (v := .ref ((a 101))) (C := rn_Grammar) (T := fn_Grammar) (N := 15) hx hb hg in_Grammar hown hK hP 5 rfl rfl 0 (by decide) (hg _ wn_2_0) (fun _ h9 => h9) rfl dn_Grammar_linkEnd_38 ?_
    refine lv_bipush (v := 41) hx hb dn_Grammar_linkEnd_41 (by decide) ?_
    obtain ⟨q_1, hc_2, hf⟩ := dc_b hf
    refine dc_callv (dc_runV (ar := 1) (As := [.int 41]) (rest := []) (ci := 2) (q0 := 1) ⟨hx, hb, hml, hown, hg⟩ hK hN hT hS hA (ct_Tokens_shut_Tk l dC dI cI cB cJ cZ cQ N H.size a v 41 s q_1 hc_2) hP hD rfl rfl wn_4_226 wn_4_227 wn_4_228 wn_1_2 wn_4_229 rfl rfl (by decide +kernel) ⟨Nat.le_of_ble_eq_true rfl, Nat.le_of_ble_eq_true rfl⟩ rfl hl.1 rfl (Nat.le_of_ble_eq_true rfl) dn_Grammar_linkEnd_43 ⟨Nat.le_of_ble_eq_true rfl, Nat.le_of_ble_eq_true rfl⟩) hP hD hS hA (fun _ H locs hw hP hD hS => ?_)
    refine lv_aload_n hx hb dn_Grammar_linkEnd_46 rfl (lv_at hl 1 rfl) ?_
    refine va_get (D := (dC, dI)) (ci := 6) (v := .ref ((a 104))) (C := rn_Grammar) (T := fn_Grammar) (N := 15) hx hb hg in_Grammar hown hK hP 5 rfl rfl 2 (by decide) (hg _ wn_2_2) (fun _ h9 => h9) rfl dn_Grammar_linkEnd_47 ?_
    refine lv_aload_n hx hb dn_Grammar_linkEnd_50 rfl (lv_at hl 1 rfl) ?_
    refine va_get (D := (dC, dI)) (ci := 6) (v := .int ((q_1.2.1 267 0))) (C := rn_Grammar) (T := fn_Grammar) (N := 15) hx hb hg in_Grammar hown hK hP 5 rfl rfl 6 (by decide) (hg _ wn_2_6) (fun _ h9 => h9) rfl dn_Grammar_linkEnd_51 ?_
    refine lv_aload_n hx hb dn_Grammar_linkEnd_54 rfl (lv_at hl 1 rfl) ?_
    refine va_get (D := (dC, dI)) (ci := 6) (v := .int ((q_1.2.1 268 0))) (C := rn_Grammar) (T := fn_Grammar) (N := 15) hx hb hg in_Grammar hown hK hP 5 rfl rfl 7 (by decide) (hg _ wn_2_7) (fun _ h9 => h9) rfl dn_Grammar_linkEnd_55 ?_
    refine lv_iload_n hx hb dn_Grammar_linkEnd_58 rfl (lv_at hl 0 rfl) ?_
    refine lv_if_eq (tgt := 76) hx hb dn_Grammar_linkEnd_59 (by decide) (fun h => ?_) (fun h => ?_)
    · have hf := (if_pos h).symm.trans hf
      refine lv_iconst (v := (-1)) hx hb dn_Grammar_linkEnd_76 (by decide) ?_
      exact bl_77 ((-1)) ((q_1.2.1 268 0)) ((q_1.2.1 267 0)) q_1.2 hf H locs ls hP hD hS (lv_sub hl [1] rfl)
    · have hf := (if_neg h).symm.trans hf
      refine lv_aload_n hx hb dn_Grammar_linkEnd_62 rfl (lv_at hl 1 rfl) ?_
      refine va_get (D := (dC, dI)) (ci := 6) (v := .ref ((a 101))) (C := rn_Grammar) (T := fn_Grammar) (N := 15) hx hb hg in_Grammar hown hK hP 5 rfl rfl 0 (by decide) (hg _ wn_2_0) (fun _ h9 => h9) rfl dn_Grammar_linkEnd_63 ?_
      refine lv_aload_n hx hb dn_Grammar_linkEnd_66 rfl (lv_at hl 1 rfl) ?_
      refine va_get (D := (dC, dI)) (ci := 6) (v := .int ((q_1.2.1 269 0))) (C := rn_Grammar) (T := fn_Grammar) (N := 15) hx hb hg in_Grammar hown hK hP 5 rfl rfl 8 (by decide) (hg _ wn_2_8) (fun _ h9 => h9) rfl dn_Grammar_linkEnd_67 ?_
      obtain ⟨q_3, hc_4, hf⟩ := dc_b hf
      refine dc_calli (dc_runV (ar := 1) (As := [.int ((q_1.2.1 269 0))]) (rest := [.int ((q_1.2.1 268 0)), .int ((q_1.2.1 267 0)), .ref ((a 104))]) (ci := 2) (q0 := 1) ⟨hx, hb, hml, hown, hg⟩ hK hN hT hS hA (ct_Tokens_extraAt_Tk l dC dI cI cB cJ cZ cQ N H.size a v ((q_1.2.1 269 0)) q_1.2 q_3 hc_4) hP hD rfl rfl wn_6_156 wn_4_158 wn_4_159 wn_1_2 wn_4_160 rfl rfl (by decide +kernel) ⟨Nat.le_of_ble_eq_true rfl, Nat.le_of_ble_eq_true rfl⟩ rfl hl.1 rfl (Nat.le_of_ble_eq_true rfl) dn_Grammar_linkEnd_70 ⟨Nat.le_of_ble_eq_true rfl, Nat.le_of_ble_eq_true rfl⟩) hP hD hS hA (fun r_5 _ H locs hw hP hD hS => ?_)
      have hw : r_5 = q_3.1 := hw
      subst hw
      refine lv_goto (tgt := 77) hx hb dn_Grammar_linkEnd_73 (by decide) ?_
      exact bl_77 q_3.1 ((q_1.2.1 268 0)) ((q_1.2.1 267 0)) q_3.2 hf H locs ls hP hD hS (lv_sub hl [1] rfl)
  have bl_35 : ∀ (s : ms), bk_Grammar_linkEnd_Gr_35 N s = some y → dcC p l e ({ frames := 4, cells := 0, slots := 0, locals := 84 }) s0 m [.ref ((a 105))].toArray below meth c QQ (dC, dI) A (wC a v cI cB cJ cZ cQ s) 35 2 [(0, .ref ((a 105)))] [] := by
    intro s hf H locs ls hP hD hS hl
    unfold bk_Grammar_linkEnd_Gr_35 at hf
    refine lv_iconst (v := 0) hx hb dn_Grammar_linkEnd_35 (by decide) ?_
    exact bl_36 0 s hf H locs ls hP hD hS hl
  intro H locs ls hP hD hS hl
  unfold fn_Grammar_linkEnd_Gr at hf
  refine lv_aload_n hx hb dn_Grammar_linkEnd_0 rfl (lv_at hl 0 rfl) ?_
  refine va_get (D := (dC, dI)) (ci := 6) (v := .ref ((a 101))) (C := rn_Grammar) (T := fn_Grammar) (N := 15) hx hb hg in_Grammar hown hK hP 5 rfl rfl 0 (by decide) (hg _ wn_2_0) (fun _ h9 => h9) rfl dn_Grammar_linkEnd_1 ?_
  refine va_get (D := (dC, dI)) (ci := 2) (v := .int ((s.1 213 0))) (C := rn_Tokens) (T := fn_Tokens) (N := 9) hx hb hg in_Tokens hown hK hP 1 rfl rfl 2 (by decide) (hg _ wn_1_49) (fun _ h9 => h9) rfl dn_Grammar_linkEnd_4 ?_
  refine lv_aload_n hx hb dn_Grammar_linkEnd_7 rfl (lv_at hl 0 rfl) ?_
  refine va_get (D := (dC, dI)) (ci := 6) (v := .int ((s.1 269 0))) (C := rn_Grammar) (T := fn_Grammar) (N := 15) hx hb hg in_Grammar hown hK hP 5 rfl rfl 8 (by decide) (hg _ wn_2_8) (fun _ h9 => h9) rfl dn_Grammar_linkEnd_8 ?_
  refine lv_iconst (v := 1) hx hb dn_Grammar_linkEnd_11 (by decide) ?_
  refine lv_iadd hx hb dn_Grammar_linkEnd_12 ?_
  refine lv_icmp_ne (tgt := 35) hx hb dn_Grammar_linkEnd_13 (by decide) (fun h => ?_) (fun h => ?_)
  · have hf := (if_neg h).symm.trans hf
    exact bl_35 s hf H locs ls hP hD hS hl
  · have hf := (if_pos h).symm.trans hf
    refine lv_aload_n hx hb dn_Grammar_linkEnd_16 rfl (lv_at hl 0 rfl) ?_
    refine va_get (D := (dC, dI)) (ci := 6) (v := .ref ((a 101))) (C := rn_Grammar) (T := fn_Grammar) (N := 15) hx hb hg in_Grammar hown hK hP 5 rfl rfl 0 (by decide) (hg _ wn_2_0) (fun _ h9 => h9) rfl dn_Grammar_linkEnd_17 ?_
    refine lv_aload_n hx hb dn_Grammar_linkEnd_20 rfl (lv_at hl 0 rfl) ?_
    refine va_get (D := (dC, dI)) (ci := 6) (v := .int ((s.1 269 0))) (C := rn_Grammar) (T := fn_Grammar) (N := 15) hx hb hg in_Grammar hown hK hP 5 rfl rfl 8 (by decide) (hg _ wn_2_8) (fun _ h9 => h9) rfl dn_Grammar_linkEnd_21 ?_
    obtain ⟨q_1, hc_2, hf⟩ := dc_b hf
    refine dc_calli (dc_runV (ar := 1) (As := [.int ((s.1 269 0))]) (rest := []) (ci := 2) (q0 := 1) ⟨hx, hb, hml, hown, hg⟩ hK hN hT hS hA (ct_Tokens_kindAt_Tk l dC dI cI cB cJ cZ cQ N H.size a v ((s.1 269 0)) s q_1 hc_2) hP hD rfl rfl wn_6_90 wn_4_153 wn_4_154 wn_1_2 wn_4_155 rfl rfl (by decide +kernel) ⟨Nat.le_of_ble_eq_true rfl, Nat.le_of_ble_eq_true rfl⟩ rfl hl.1 rfl (Nat.le_of_ble_eq_true rfl) dn_Grammar_linkEnd_24 ⟨Nat.le_of_ble_eq_true rfl, Nat.le_of_ble_eq_true rfl⟩) hP hD hS hA (fun r_3 _ H locs hw hP hD hS => ?_)
    have hw : r_3 = q_1.1 := hw
    subst hw
    refine lv_iconst (v := 2) hx hb dn_Grammar_linkEnd_27 (by decide) ?_
    refine lv_icmp_ne (tgt := 35) hx hb dn_Grammar_linkEnd_28 (by decide) (fun h => ?_) (fun h => ?_)
    · have hf := (if_neg h).symm.trans hf
      exact bl_35 q_1.2 hf H locs ls hP hD hS hl
    · have hf := (if_pos h).symm.trans hf
      refine lv_iconst (v := 1) hx hb dn_Grammar_linkEnd_31 (by decide) ?_
      refine lv_goto (tgt := 36) hx hb dn_Grammar_linkEnd_32 (by decide) ?_
      exact bl_36 1 q_1.2 hf H locs ls hP hD hS hl
set_option maxHeartbeats 8000000 in
set_option maxRecDepth 100000 in
theorem ct_Grammar_behindExp_Gr (l : Launch) (dC : Nat → ClassId) (dI : Nat → Nat → Nat) (cI cB cJ cZ cQ : ClassId) (N sz : Nat) (a : Nat → Nat) (v : Nat → Value) (hv_2 : v 2 = .ref (a 110)) (hv_4 : v 4 = .ref (a 109)) (hv_5 : v 5 = .ref (a 110)) (hv_6 : v 6 = .ref (a 111)) (s : ms) (y : (Unit × ms)) (hf : fn_Grammar_behindExp_Gr N s = some y) : Met l yn_Grammar_behindExp (xw yn_Grammar_behindExp bn_Grammar_behindExp 1 none) ({ frames := 5, cells := 0, slots := 0, locals := 105 }) (dc_P (dC, dI) xcl (xt cI cB cJ cZ cQ) [.ref ((a 105))] sz (wC a v cI cB cJ cZ cQ s)) (xk_Qv (dC, dI) xcl (xt cI cB cJ cZ cQ) (fun _ : Unit => True) (fun u : Unit => (wC a v cI cB cJ cZ cQ y.2)) (va_A (wC a v cI cB cJ cZ cQ s) sz)) 0 0 (va_A (wC a v cI cB cJ cZ cQ s) sz) := by
  refine dc_of (QA := xk_Qv (dC, dI) xcl (xt cI cB cJ cZ cQ) (fun _ : Unit => True) (fun u : Unit => (wC a v cI cB cJ cZ cQ y.2))) (by decide) (Nat.le_of_ble_eq_true rfl) ?_
  intro p e s0 m below meth c hx hb hml hown hg hr hlocks hin hP hK hN A hA hD hT ls hl
  have hown : s0.vm.findClass rn_Grammar = some m.cls := hown
  obtain ⟨H, hH⟩ : ∃ z, z = s0.heap := ⟨_, rfl⟩
  rw [← hH] at hP
  have hS : va_S A s0.heap H [] := by rw [hH]; exact va_S.rf
  suffices kk : ∀ QQ : State → Prop, QQ = MQ below (xk_Qv (dC, dI) xcl (xt cI cB cJ cZ cQ) (fun _ : Unit => True) (fun u : Unit => (wC a v cI cB cJ cZ cQ y.2)) A) [.ref ((a 105))].toArray s0 0 0 A → dcC p l e ({ frames := 5, cells := 0, slots := 0, locals := 105 }) s0 m [.ref ((a 105))].toArray below meth c QQ (dC, dI) A (wC a v cI cB cJ cZ cQ s) 0 1 [(0, .ref ((a 105)))] [] by
    have k9 := kk _ rfl H [] ls hP hD hS hl
    rw [hH] at k9; exact k9
  clear hP hD hS hl hH H ls
  intro QQ hQQ
  intro H locs ls hP hD hS hl
  unfold fn_Grammar_behindExp_Gr at hf
  refine lv_aload_n hx hb dn_Grammar_behindExp_0 rfl (lv_at hl 0 rfl) ?_
  refine va_get (D := (dC, dI)) (ci := 6) (v := .int ((s.1 265 0))) (C := rn_Grammar) (T := fn_Grammar) (N := 15) hx hb hg in_Grammar hown hK hP 5 rfl rfl 4 (by decide) (hg _ wn_2_4) (fun _ h9 => h9) rfl dn_Grammar_behindExp_1 ?_
  by_cases h_0 : (s.1 265 0) = 9
  · have hf := (if_pos h_0).symm.trans hf
    refine xk_ti (y := 9) h_0 ?_
    refine lv_lookup (off := 80) (tgt := 84) hx hb dn_Grammar_behindExp_4 (by decide) (by decide) (by decide) ?_
    refine lv_aload_n hx hb dn_Grammar_behindExp_84 rfl (lv_at hl 0 rfl) ?_
    refine va_get (D := (dC, dI)) (ci := 6) (v := .ref ((a 104))) (C := rn_Grammar) (T := fn_Grammar) (N := 15) hx hb hg in_Grammar hown hK hP 5 rfl rfl 2 (by decide) (hg _ wn_2_2) (fun _ h9 => h9) rfl dn_Grammar_behindExp_85 ?_
    refine lv_aload_n hx hb dn_Grammar_behindExp_88 rfl (lv_at hl 0 rfl) ?_
    refine va_get (D := (dC, dI)) (ci := 6) (v := .int ((s.1 266 0))) (C := rn_Grammar) (T := fn_Grammar) (N := 15) hx hb hg in_Grammar hown hK hP 5 rfl rfl 5 (by decide) (hg _ wn_2_5) (fun _ h9 => h9) rfl dn_Grammar_behindExp_89 ?_
    obtain ⟨q_1, hc_2, hf⟩ := dc_b hf
    refine dc_callv (dc_runV (ar := 1) (As := [.int ((s.1 266 0))]) (rest := []) (ci := 5) (q0 := 4) ⟨hx, hb, hml, hown, hg⟩ hK hN hT hS hA (ct_Meaning_stored_Me l dC dI cI cB cJ cZ cQ N H.size a v hv_6 ((s.1 266 0)) s q_1 hc_2) hP hD rfl rfl wn_6_135 wn_6_136 wn_6_137 wn_1_6 wn_6_138 rfl rfl (by decide +kernel) ⟨Nat.le_of_ble_eq_true rfl, Nat.le_of_ble_eq_true rfl⟩ rfl hl.1 rfl (Nat.le_of_ble_eq_true rfl) dn_Grammar_behindExp_92 ⟨Nat.le_of_ble_eq_true rfl, Nat.le_of_ble_eq_true rfl⟩) hP hD hS hA (fun _ H locs hw hP hD hS => ?_)
    refine lv_aload_n hx hb dn_Grammar_behindExp_95 rfl (lv_at hl 0 rfl) ?_
    refine va_get (D := (dC, dI)) (ci := 6) (v := .ref ((a 101))) (C := rn_Grammar) (T := fn_Grammar) (N := 15) hx hb hg in_Grammar hown hK hP 5 rfl rfl 0 (by decide) (hg _ wn_2_0) (fun _ h9 => h9) rfl dn_Grammar_behindExp_96 ?_
    refine lv_bipush (v := 59) hx hb dn_Grammar_behindExp_99 (by decide) ?_
    obtain ⟨q_3, hc_4, hf⟩ := dc_b hf
    refine dc_callv (dc_runV (ar := 1) (As := [.int 59]) (rest := []) (ci := 2) (q0 := 1) ⟨hx, hb, hml, hown, hg⟩ hK hN hT hS hA (ct_Tokens_need_Tk l dC dI cI cB cJ cZ cQ N H.size a v 59 q_1.2 q_3 hc_4) hP hD rfl rfl wn_4_173 wn_4_174 wn_4_175 wn_1_2 wn_4_176 rfl rfl (by decide +kernel) ⟨Nat.le_of_ble_eq_true rfl, Nat.le_of_ble_eq_true rfl⟩ rfl hl.1 rfl (Nat.le_of_ble_eq_true rfl) dn_Grammar_behindExp_101 ⟨Nat.le_of_ble_eq_true rfl, Nat.le_of_ble_eq_true rfl⟩) hP hD hS hA (fun _ H locs hw hP hD hS => ?_)
    refine lv_aload_n hx hb dn_Grammar_behindExp_104 rfl (lv_at hl 0 rfl) ?_
    refine lv_iconst (v := 5) hx hb dn_Grammar_behindExp_105 (by decide) ?_
    refine va_put (D := (dC, dI)) (ci := 6) (v := .int 5) (ty := .int) (C := rn_Grammar) (T := fn_Grammar) (N := 15) hx hb hg in_Grammar tn_Grammar tk_Grammar nn_Grammar hown hK hP hD hS 5 rfl rfl 3 (by decide) (hg _ wn_2_3) (fun _ h9 => h9) rfl (tk_Grammar 3 (by decide)) rfl rfl (Nat.le_of_ble_eq_true rfl) dn_Grammar_behindExp_106 (fun H locs hP hD hS => ?_)
    have hP := wC_P_264 hP
    have hD := wC_D_264 hD
    refine lv_goto (tgt := 211) hx hb dn_Grammar_behindExp_109 (by decide) ?_
    rw [hQQ, ← Option.some.inj hf]
    exact xk_vret (w1 := fun u : Unit => (wC a v cI cB cJ cZ cQ (upI q_3.2 264 (fun _ => 5)))) () hx hb hr hlocks hK hS dn_Grammar_behindExp_211 hP hD trivial (Nat.le_refl _) (Nat.le_refl _)
  have hf := (if_neg h_0).symm.trans hf
  by_cases h_1 : (s.1 265 0) = 134
  · have hf := (if_pos h_1).symm.trans hf
    refine xk_ti (y := 134) h_1 ?_
    refine lv_lookup (off := 52) (tgt := 56) hx hb dn_Grammar_behindExp_4 (by decide) (by decide) (by decide) ?_
    refine lv_aload_n hx hb dn_Grammar_behindExp_56 rfl (lv_at hl 0 rfl) ?_
    refine va_get (D := (dC, dI)) (ci := 6) (v := .ref ((a 104))) (C := rn_Grammar) (T := fn_Grammar) (N := 15) hx hb hg in_Grammar hown hK hP 5 rfl rfl 2 (by decide) (hg _ wn_2_2) (fun _ h9 => h9) rfl dn_Grammar_behindExp_57 ?_
    refine lv_aload_n hx hb dn_Grammar_behindExp_60 rfl (lv_at hl 0 rfl) ?_
    refine va_get (D := (dC, dI)) (ci := 6) (v := .int ((s.1 266 0))) (C := rn_Grammar) (T := fn_Grammar) (N := 15) hx hb hg in_Grammar hown hK hP 5 rfl rfl 5 (by decide) (hg _ wn_2_5) (fun _ h9 => h9) rfl dn_Grammar_behindExp_61 ?_
    obtain ⟨q_1, hc_2, hf⟩ := dc_b hf
    refine dc_callv (dc_runV (ar := 1) (As := [.int ((s.1 266 0))]) (rest := []) (ci := 5) (q0 := 4) ⟨hx, hb, hml, hown, hg⟩ hK hN hT hS hA (ct_Meaning_assigned_Me l dC dI cI cB cJ cZ cQ N H.size a v hv_2 hv_5 hv_6 ((s.1 266 0)) s q_1 hc_2) hP hD rfl rfl wn_6_127 wn_6_128 wn_6_129 wn_1_6 wn_6_130 rfl rfl (by decide +kernel) ⟨Nat.le_of_ble_eq_true rfl, Nat.le_of_ble_eq_true rfl⟩ rfl hl.1 rfl (Nat.le_of_ble_eq_true rfl) dn_Grammar_behindExp_64 ⟨Nat.le_of_ble_eq_true rfl, Nat.le_of_ble_eq_true rfl⟩) hP hD hS hA (fun _ H locs hw hP hD hS => ?_)
    refine lv_aload_n hx hb dn_Grammar_behindExp_67 rfl (lv_at hl 0 rfl) ?_
    refine va_get (D := (dC, dI)) (ci := 6) (v := .ref ((a 101))) (C := rn_Grammar) (T := fn_Grammar) (N := 15) hx hb hg in_Grammar hown hK hP 5 rfl rfl 0 (by decide) (hg _ wn_2_0) (fun _ h9 => h9) rfl dn_Grammar_behindExp_68 ?_
    refine lv_bipush (v := 59) hx hb dn_Grammar_behindExp_71 (by decide) ?_
    obtain ⟨q_3, hc_4, hf⟩ := dc_b hf
    refine dc_callv (dc_runV (ar := 1) (As := [.int 59]) (rest := []) (ci := 2) (q0 := 1) ⟨hx, hb, hml, hown, hg⟩ hK hN hT hS hA (ct_Tokens_need_Tk l dC dI cI cB cJ cZ cQ N H.size a v 59 q_1.2 q_3 hc_4) hP hD rfl rfl wn_4_173 wn_4_174 wn_4_175 wn_1_2 wn_4_176 rfl rfl (by decide +kernel) ⟨Nat.le_of_ble_eq_true rfl, Nat.le_of_ble_eq_true rfl⟩ rfl hl.1 rfl (Nat.le_of_ble_eq_true rfl) dn_Grammar_behindExp_73 ⟨Nat.le_of_ble_eq_true rfl, Nat.le_of_ble_eq_true rfl⟩) hP hD hS hA (fun _ H locs hw hP hD hS => ?_)
    refine lv_aload_n hx hb dn_Grammar_behindExp_76 rfl (lv_at hl 0 rfl) ?_
    refine lv_iconst (v := 2) hx hb dn_Grammar_behindExp_77 (by decide) ?_
    refine va_put (D := (dC, dI)) (ci := 6) (v := .int 2) (ty := .int) (C := rn_Grammar) (T := fn_Grammar) (N := 15) hx hb hg in_Grammar tn_Grammar tk_Grammar nn_Grammar hown hK hP hD hS 5 rfl rfl 3 (by decide) (hg _ wn_2_3) (fun _ h9 => h9) rfl (tk_Grammar 3 (by decide)) rfl rfl (Nat.le_of_ble_eq_true rfl) dn_Grammar_behindExp_78 (fun H locs hP hD hS => ?_)
    have hP := wC_P_264 hP
    have hD := wC_D_264 hD
    refine lv_goto (tgt := 211) hx hb dn_Grammar_behindExp_81 (by decide) ?_
    rw [hQQ, ← Option.some.inj hf]
    exact xk_vret (w1 := fun u : Unit => (wC a v cI cB cJ cZ cQ (upI q_3.2 264 (fun _ => 2)))) () hx hb hr hlocks hK hS dn_Grammar_behindExp_211 hP hD trivial (Nat.le_refl _) (Nat.le_refl _)
  have hf := (if_neg h_1).symm.trans hf
  by_cases h_2 : (s.1 265 0) = 140
  · have hf := (if_pos h_2).symm.trans hf
    refine xk_ti (y := 140) h_2 ?_
    refine lv_lookup (off := 108) (tgt := 112) hx hb dn_Grammar_behindExp_4 (by decide) (by decide) (by decide) ?_
    refine lv_aload_n hx hb dn_Grammar_behindExp_112 rfl (lv_at hl 0 rfl) ?_
    refine va_get (D := (dC, dI)) (ci := 6) (v := .ref ((a 101))) (C := rn_Grammar) (T := fn_Grammar) (N := 15) hx hb hg in_Grammar hown hK hP 5 rfl rfl 0 (by decide) (hg _ wn_2_0) (fun _ h9 => h9) rfl dn_Grammar_behindExp_113 ?_
    refine lv_bipush (v := 41) hx hb dn_Grammar_behindExp_116 (by decide) ?_
    obtain ⟨q_1, hc_2, hf⟩ := dc_b hf
    refine dc_callv (dc_runV (ar := 1) (As := [.int 41]) (rest := []) (ci := 2) (q0 := 1) ⟨hx, hb, hml, hown, hg⟩ hK hN hT hS hA (ct_Tokens_shut_Tk l dC dI cI cB cJ cZ cQ N H.size a v 41 s q_1 hc_2) hP hD rfl rfl wn_4_226 wn_4_227 wn_4_228 wn_1_2 wn_4_229 rfl rfl (by decide +kernel) ⟨Nat.le_of_ble_eq_true rfl, Nat.le_of_ble_eq_true rfl⟩ rfl hl.1 rfl (Nat.le_of_ble_eq_true rfl) dn_Grammar_behindExp_118 ⟨Nat.le_of_ble_eq_true rfl, Nat.le_of_ble_eq_true rfl⟩) hP hD hS hA (fun _ H locs hw hP hD hS => ?_)
    refine lv_aload_n hx hb dn_Grammar_behindExp_121 rfl (lv_at hl 0 rfl) ?_
    refine va_get (D := (dC, dI)) (ci := 6) (v := .ref ((a 104))) (C := rn_Grammar) (T := fn_Grammar) (N := 15) hx hb hg in_Grammar hown hK hP 5 rfl rfl 2 (by decide) (hg _ wn_2_2) (fun _ h9 => h9) rfl dn_Grammar_behindExp_122 ?_
    obtain ⟨q_3, hc_4, hf⟩ := dc_b hf
    refine dc_callv (dc_runV (ar := 0) (As := []) (rest := []) (ci := 5) (q0 := 4) ⟨hx, hb, hml, hown, hg⟩ hK hN hT hS hA (ct_Meaning_condition_Me l dC dI cI cB cJ cZ cQ N H.size a v hv_6 q_1.2 q_3 hc_4) hP hD rfl rfl wn_6_140 wn_6_141 wn_6_142 wn_1_6 wn_6_143 rfl rfl (by decide +kernel) ⟨Nat.le_of_ble_eq_true rfl, Nat.le_of_ble_eq_true rfl⟩ rfl hl.1 rfl (Nat.le_of_ble_eq_true rfl) dn_Grammar_behindExp_125 ⟨Nat.le_of_ble_eq_true rfl, Nat.le_of_ble_eq_true rfl⟩) hP hD hS hA (fun _ H locs hw hP hD hS => ?_)
    refine lv_aload_n hx hb dn_Grammar_behindExp_128 rfl (lv_at hl 0 rfl) ?_
    refine lv_sipush (v := 140) hx hb dn_Grammar_behindExp_129 (by decide) ?_
    obtain ⟨q_5, hc_6, hf⟩ := dc_b hf
    refine dc_callv (dc_runV (ar := 1) (As := [.int 140]) (rest := []) (ci := 6) (q0 := 5) ⟨hx, hb, hml, hown, hg⟩ hK hN hT hS hA (ct_Grammar_enter_Gr l dC dI cI cB cJ cZ cQ N H.size a v 140 q_3.2 q_5 hc_6) hP hD rfl rfl wn_5_145 wn_5_147 sn_Grammar_enter wn_1_5 wn_5_148 rfl rfl (by decide +kernel) ⟨Nat.le_of_ble_eq_true rfl, Nat.le_of_ble_eq_true rfl⟩ rfl hl.1 rfl (Nat.le_of_ble_eq_true rfl) dn_Grammar_behindExp_132 ⟨Nat.le_of_ble_eq_true rfl, Nat.le_of_ble_eq_true rfl⟩) hP hD hS hA (fun _ H locs hw hP hD hS => ?_)
    refine lv_aload_n hx hb dn_Grammar_behindExp_135 rfl (lv_at hl 0 rfl) ?_
    refine lv_iconst (v := 4) hx hb dn_Grammar_behindExp_136 (by decide) ?_
    refine va_put (D := (dC, dI)) (ci := 6) (v := .int 4) (ty := .int) (C := rn_Grammar) (T := fn_Grammar) (N := 15) hx hb hg in_Grammar tn_Grammar tk_Grammar nn_Grammar hown hK hP hD hS 5 rfl rfl 3 (by decide) (hg _ wn_2_3) (fun _ h9 => h9) rfl (tk_Grammar 3 (by decide)) rfl rfl (Nat.le_of_ble_eq_true rfl) dn_Grammar_behindExp_137 (fun H locs hP hD hS => ?_)
    have hP := wC_P_264 hP
    have hD := wC_D_264 hD
    refine lv_goto (tgt := 211) hx hb dn_Grammar_behindExp_140 (by decide) ?_
    rw [hQQ, ← Option.some.inj hf]
    exact xk_vret (w1 := fun u : Unit => (wC a v cI cB cJ cZ cQ (upI q_5.2 264 (fun _ => 4)))) () hx hb hr hlocks hK hS dn_Grammar_behindExp_211 hP hD trivial (Nat.le_refl _) (Nat.le_refl _)
  have hf := (if_neg h_2).symm.trans hf
  by_cases h_3 : (s.1 265 0) = 142
  · have hf := (if_pos h_3).symm.trans hf
    refine xk_ti (y := 142) h_3 ?_
    refine lv_lookup (off := 139) (tgt := 143) hx hb dn_Grammar_behindExp_4 (by decide) (by decide) (by decide) ?_
    refine lv_aload_n hx hb dn_Grammar_behindExp_143 rfl (lv_at hl 0 rfl) ?_
    refine va_get (D := (dC, dI)) (ci := 6) (v := .ref ((a 101))) (C := rn_Grammar) (T := fn_Grammar) (N := 15) hx hb hg in_Grammar hown hK hP 5 rfl rfl 0 (by decide) (hg _ wn_2_0) (fun _ h9 => h9) rfl dn_Grammar_behindExp_144 ?_
    refine lv_bipush (v := 41) hx hb dn_Grammar_behindExp_147 (by decide) ?_
    obtain ⟨q_1, hc_2, hf⟩ := dc_b hf
    refine dc_callv (dc_runV (ar := 1) (As := [.int 41]) (rest := []) (ci := 2) (q0 := 1) ⟨hx, hb, hml, hown, hg⟩ hK hN hT hS hA (ct_Tokens_shut_Tk l dC dI cI cB cJ cZ cQ N H.size a v 41 s q_1 hc_2) hP hD rfl rfl wn_4_226 wn_4_227 wn_4_228 wn_1_2 wn_4_229 rfl rfl (by decide +kernel) ⟨Nat.le_of_ble_eq_true rfl, Nat.le_of_ble_eq_true rfl⟩ rfl hl.1 rfl (Nat.le_of_ble_eq_true rfl) dn_Grammar_behindExp_149 ⟨Nat.le_of_ble_eq_true rfl, Nat.le_of_ble_eq_true rfl⟩) hP hD hS hA (fun _ H locs hw hP hD hS => ?_)
    refine lv_aload_n hx hb dn_Grammar_behindExp_152 rfl (lv_at hl 0 rfl) ?_
    refine va_get (D := (dC, dI)) (ci := 6) (v := .ref ((a 104))) (C := rn_Grammar) (T := fn_Grammar) (N := 15) hx hb hg in_Grammar hown hK hP 5 rfl rfl 2 (by decide) (hg _ wn_2_2) (fun _ h9 => h9) rfl dn_Grammar_behindExp_153 ?_
    obtain ⟨q_3, hc_4, hf⟩ := dc_b hf
    refine dc_callv (dc_runV (ar := 0) (As := []) (rest := []) (ci := 5) (q0 := 4) ⟨hx, hb, hml, hown, hg⟩ hK hN hT hS hA (ct_Meaning_choice_Me l dC dI cI cB cJ cZ cQ N H.size a v q_1.2 q_3 hc_4) hP hD rfl rfl wn_6_144 wn_6_145 wn_6_146 wn_1_6 wn_6_147 rfl rfl (by decide +kernel) ⟨Nat.le_of_ble_eq_true rfl, Nat.le_of_ble_eq_true rfl⟩ rfl hl.1 rfl (Nat.le_of_ble_eq_true rfl) dn_Grammar_behindExp_156 ⟨Nat.le_of_ble_eq_true rfl, Nat.le_of_ble_eq_true rfl⟩) hP hD hS hA (fun _ H locs hw hP hD hS => ?_)
    refine lv_aload_n hx hb dn_Grammar_behindExp_159 rfl (lv_at hl 0 rfl) ?_
    refine lv_sipush (v := 142) hx hb dn_Grammar_behindExp_160 (by decide) ?_
    obtain ⟨q_5, hc_6, hf⟩ := dc_b hf
    refine dc_callv (dc_runV (ar := 1) (As := [.int 142]) (rest := []) (ci := 6) (q0 := 5) ⟨hx, hb, hml, hown, hg⟩ hK hN hT hS hA (ct_Grammar_enter_Gr l dC dI cI cB cJ cZ cQ N H.size a v 142 q_3.2 q_5 hc_6) hP hD rfl rfl wn_5_145 wn_5_147 sn_Grammar_enter wn_1_5 wn_5_148 rfl rfl (by decide +kernel) ⟨Nat.le_of_ble_eq_true rfl, Nat.le_of_ble_eq_true rfl⟩ rfl hl.1 rfl (Nat.le_of_ble_eq_true rfl) dn_Grammar_behindExp_163 ⟨Nat.le_of_ble_eq_true rfl, Nat.le_of_ble_eq_true rfl⟩) hP hD hS hA (fun _ H locs hw hP hD hS => ?_)
    refine lv_aload_n hx hb dn_Grammar_behindExp_166 rfl (lv_at hl 0 rfl) ?_
    refine lv_iconst (v := 5) hx hb dn_Grammar_behindExp_167 (by decide) ?_
    refine va_put (D := (dC, dI)) (ci := 6) (v := .int 5) (ty := .int) (C := rn_Grammar) (T := fn_Grammar) (N := 15) hx hb hg in_Grammar tn_Grammar tk_Grammar nn_Grammar hown hK hP hD hS 5 rfl rfl 3 (by decide) (hg _ wn_2_3) (fun _ h9 => h9) rfl (tk_Grammar 3 (by decide)) rfl rfl (Nat.le_of_ble_eq_true rfl) dn_Grammar_behindExp_168 (fun H locs hP hD hS => ?_)
    have hP := wC_P_264 hP
    have hD := wC_D_264 hD
    refine lv_goto (tgt := 211) hx hb dn_Grammar_behindExp_171 (by decide) ?_
    rw [hQQ, ← Option.some.inj hf]
    exact xk_vret (w1 := fun u : Unit => (wC a v cI cB cJ cZ cQ (upI q_5.2 264 (fun _ => 5)))) () hx hb hr hlocks hK hS dn_Grammar_behindExp_211 hP hD trivial (Nat.le_refl _) (Nat.le_refl _)
  have hf := (if_neg h_3).symm.trans hf
  by_cases h_4 : (s.1 265 0) = 145
  · have hf := (if_pos h_4).symm.trans hf
    refine xk_ti (y := 145) h_4 ?_
    refine lv_lookup (off := 170) (tgt := 174) hx hb dn_Grammar_behindExp_4 (by decide) (by decide) (by decide) ?_
    refine lv_aload_n hx hb dn_Grammar_behindExp_174 rfl (lv_at hl 0 rfl) ?_
    refine va_get (D := (dC, dI)) (ci := 6) (v := .ref ((a 101))) (C := rn_Grammar) (T := fn_Grammar) (N := 15) hx hb hg in_Grammar hown hK hP 5 rfl rfl 0 (by decide) (hg _ wn_2_0) (fun _ h9 => h9) rfl dn_Grammar_behindExp_175 ?_
    refine lv_bipush (v := 41) hx hb dn_Grammar_behindExp_178 (by decide) ?_
    obtain ⟨q_1, hc_2, hf⟩ := dc_b hf
    refine dc_callv (dc_runV (ar := 1) (As := [.int 41]) (rest := []) (ci := 2) (q0 := 1) ⟨hx, hb, hml, hown, hg⟩ hK hN hT hS hA (ct_Tokens_shut_Tk l dC dI cI cB cJ cZ cQ N H.size a v 41 s q_1 hc_2) hP hD rfl rfl wn_4_226 wn_4_227 wn_4_228 wn_1_2 wn_4_229 rfl rfl (by decide +kernel) ⟨Nat.le_of_ble_eq_true rfl, Nat.le_of_ble_eq_true rfl⟩ rfl hl.1 rfl (Nat.le_of_ble_eq_true rfl) dn_Grammar_behindExp_180 ⟨Nat.le_of_ble_eq_true rfl, Nat.le_of_ble_eq_true rfl⟩) hP hD hS hA (fun _ H locs hw hP hD hS => ?_)
    refine lv_aload_n hx hb dn_Grammar_behindExp_183 rfl (lv_at hl 0 rfl) ?_
    refine va_get (D := (dC, dI)) (ci := 6) (v := .ref ((a 101))) (C := rn_Grammar) (T := fn_Grammar) (N := 15) hx hb hg in_Grammar hown hK hP 5 rfl rfl 0 (by decide) (hg _ wn_2_0) (fun _ h9 => h9) rfl dn_Grammar_behindExp_184 ?_
    refine lv_bipush (v := 59) hx hb dn_Grammar_behindExp_187 (by decide) ?_
    obtain ⟨q_3, hc_4, hf⟩ := dc_b hf
    refine dc_callv (dc_runV (ar := 1) (As := [.int 59]) (rest := []) (ci := 2) (q0 := 1) ⟨hx, hb, hml, hown, hg⟩ hK hN hT hS hA (ct_Tokens_need_Tk l dC dI cI cB cJ cZ cQ N H.size a v 59 q_1.2 q_3 hc_4) hP hD rfl rfl wn_4_173 wn_4_174 wn_4_175 wn_1_2 wn_4_176 rfl rfl (by decide +kernel) ⟨Nat.le_of_ble_eq_true rfl, Nat.le_of_ble_eq_true rfl⟩ rfl hl.1 rfl (Nat.le_of_ble_eq_true rfl) dn_Grammar_behindExp_189 ⟨Nat.le_of_ble_eq_true rfl, Nat.le_of_ble_eq_true rfl⟩) hP hD hS hA (fun _ H locs hw hP hD hS => ?_)
    refine lv_aload_n hx hb dn_Grammar_behindExp_192 rfl (lv_at hl 0 rfl) ?_
    refine va_get (D := (dC, dI)) (ci := 6) (v := .ref ((a 104))) (C := rn_Grammar) (T := fn_Grammar) (N := 15) hx hb hg in_Grammar hown hK hP 5 rfl rfl 2 (by decide) (hg _ wn_2_2) (fun _ h9 => h9) rfl dn_Grammar_behindExp_193 ?_
    obtain ⟨q_5, hc_6, hf⟩ := dc_b hf
    refine dc_callv (dc_runV (ar := 0) (As := []) (rest := []) (ci := 5) (q0 := 4) ⟨hx, hb, hml, hown, hg⟩ hK hN hT hS hA (ct_Meaning_asserted_Me l dC dI cI cB cJ cZ cQ N H.size a v hv_4 q_3.2 q_5 hc_6) hP hD rfl rfl wn_6_148 wn_6_149 wn_6_150 wn_1_6 wn_6_151 rfl rfl (by decide +kernel) ⟨Nat.le_of_ble_eq_true rfl, Nat.le_of_ble_eq_true rfl⟩ rfl hl.1 rfl (Nat.le_of_ble_eq_true rfl) dn_Grammar_behindExp_196 ⟨Nat.le_of_ble_eq_true rfl, Nat.le_of_ble_eq_true rfl⟩) hP hD hS hA (fun _ H locs hw hP hD hS => ?_)
    refine lv_aload_n hx hb dn_Grammar_behindExp_199 rfl (lv_at hl 0 rfl) ?_
    refine lv_iconst (v := 2) hx hb dn_Grammar_behindExp_200 (by decide) ?_
    refine va_put (D := (dC, dI)) (ci := 6) (v := .int 2) (ty := .int) (C := rn_Grammar) (T := fn_Grammar) (N := 15) hx hb hg in_Grammar tn_Grammar tk_Grammar nn_Grammar hown hK hP hD hS 5 rfl rfl 3 (by decide) (hg _ wn_2_3) (fun _ h9 => h9) rfl (tk_Grammar 3 (by decide)) rfl rfl (Nat.le_of_ble_eq_true rfl) dn_Grammar_behindExp_201 (fun H locs hP hD hS => ?_)
    have hP := wC_P_264 hP
    have hD := wC_D_264 hD
    refine lv_goto (tgt := 211) hx hb dn_Grammar_behindExp_204 (by decide) ?_
    rw [hQQ, ← Option.some.inj hf]
    exact xk_vret (w1 := fun u : Unit => (wC a v cI cB cJ cZ cQ (upI q_5.2 264 (fun _ => 2)))) () hx hb hr hlocks hK hS dn_Grammar_behindExp_211 hP hD trivial (Nat.le_refl _) (Nat.le_refl _)
  have hf := (if_neg h_4).symm.trans hf
  refine lv_lookup (off := 203) (tgt := 207) hx hb dn_Grammar_behindExp_4 (by decide) (by rw [lv_osw h_0 (by decide)]; rw [lv_osw h_1 (by decide)]; rw [lv_osw h_2 (by decide)]; rw [lv_osw h_3 (by decide)]; rw [lv_osw h_4 (by decide)]; rfl) (by decide) ?_
  refine lv_aload_n hx hb dn_Grammar_behindExp_207 rfl (lv_at hl 0 rfl) ?_
  obtain ⟨q_1, hc_2, hf⟩ := dc_b hf
  refine dc_callv (dc_runV (ar := 0) (As := []) (rest := []) (ci := 6) (q0 := 5) ⟨hx, hb, hml, hown, hg⟩ hK hN hT hS hA (ct_Grammar_linkEnd_Gr l dC dI cI cB cJ cZ cQ N H.size a v hv_2 hv_4 hv_5 hv_6 s q_1 hc_2) hP hD rfl rfl wn_6_152 wn_6_154 sn_Grammar_linkEnd wn_1_5 wn_6_155 rfl rfl (by decide +kernel) ⟨Nat.le_of_ble_eq_true rfl, Nat.le_of_ble_eq_true rfl⟩ rfl hl.1 rfl (Nat.le_of_ble_eq_true rfl) dn_Grammar_behindExp_208 ⟨Nat.le_of_ble_eq_true rfl, Nat.le_of_ble_eq_true rfl⟩) hP hD hS hA (fun _ H locs hw hP hD hS => ?_)
  rw [hQQ, ← Option.some.inj hf]
  exact xk_vret (w1 := fun u : Unit => (wC a v cI cB cJ cZ cQ q_1.2)) () hx hb hr hlocks hK hS dn_Grammar_behindExp_211 hP hD trivial (Nat.le_refl _) (Nat.le_refl _)
