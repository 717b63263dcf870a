set_option maxHeartbeats 8000000 in
set_option maxRecDepth 100000 in
theorem ct_Meaning_moduleEnd_Me (l : Launch) (dC : Nat → ClassId) (dI : Nat → Nat → Nat) (cI cB cJ cZ cQ : ClassId) (N sz : Nat) (a : Nat → Nat) (v : Nat → Value) (hv_4 : v 4 = .ref (a 109)) (hv_5 : v 5 = .ref (a 110)) (s : ms) (y : (Unit × ms)) (hf : fn_Meaning_moduleEnd_Me N s = some y) : Met l yn_Meaning_moduleEnd (xw yn_Meaning_moduleEnd bn_Meaning_moduleEnd 2 none) ({ frames := 3, cells := 0, slots := 0, locals := 88 }) (dc_P (dC, dI) xcl (xt cI cB cJ cZ cQ) [.ref ((a 104))] sz (wC a v cI cB cJ cZ cQ s)) (xk_Qv (dC, dI) xcl (xt cI cB cJ cZ cQ) (fun _ : Unit => True) (fun u : Unit => (wC a v cI cB cJ cZ cQ y.2)) (va_A (wC a v cI cB cJ cZ cQ s) sz)) 0 0 (va_A (wC a v cI cB cJ cZ cQ s) sz) := by
  refine dc_of (QA := xk_Qv (dC, dI) xcl (xt cI cB cJ cZ cQ) (fun _ : Unit => True) (fun u : Unit => (wC a v cI cB cJ cZ cQ y.2))) (by decide) (Nat.le_of_ble_eq_true rfl) ?_
  intro p e s0 m below meth c hx hb hml hown hg hr hlocks hin hP hK hN A hA hD hT ls hl
  have hown : s0.vm.findClass rn_Meaning = some m.cls := hown
  obtain ⟨H, hH⟩ : ∃ z, z = s0.heap := ⟨_, rfl⟩
  rw [← hH] at hP
  have hS : va_S A s0.heap H [] := by rw [hH]; exact va_S.rf
  suffices kk : ∀ QQ : State → Prop, QQ = MQ below (xk_Qv (dC, dI) xcl (xt cI cB cJ cZ cQ) (fun _ : Unit => True) (fun u : Unit => (wC a v cI cB cJ cZ cQ y.2)) A) [.ref ((a 104))].toArray s0 0 0 A → dcC p l e ({ frames := 3, cells := 0, slots := 0, locals := 88 }) s0 m [.ref ((a 104))].toArray below meth c QQ (dC, dI) A (wC a v cI cB cJ cZ cQ s) 0 2 [(0, .ref ((a 104)))] [] by
    have k9 := kk _ rfl H [] ls hP hD hS hl
    rw [hH] at k9; exact k9
  clear hP hD hS hl hH H ls
  intro QQ hQQ
  have hd_28 : ∀ (n : Nat) (x1 : Int32) (s : ms), hd_Meaning_moduleEnd_Me_28 N n x1 s = some y → dcC p l e ({ frames := 3, cells := 0, slots := 0, locals := 88 }) s0 m [.ref ((a 104))].toArray below meth c QQ (dC, dI) A (wC a v cI cB cJ cZ cQ s) 28 2 [(0, .ref ((a 104))), (1, .int x1)] [] := by
    intro n
    induction n with
    | zero => intro x1 s hf; cases hf
    | succ n ih =>
      intro x1 s hf H locs ls hP hD hS hl
      have hf : bd_Meaning_moduleEnd_Me_28 N (hd_Meaning_moduleEnd_Me_28 N n) x1 s = some y := hf
      have hk_28 := ih
      generalize hd_Meaning_moduleEnd_Me_28 N n = k_28 at hf hk_28
      unfold bd_Meaning_moduleEnd_Me_28 at hf
      refine lv_iload_n hx hb dn_Meaning_moduleEnd_28 rfl (lv_at hl 1 rfl) ?_
      refine lv_aload_n hx hb dn_Meaning_moduleEnd_29 rfl (lv_at hl 0 rfl) ?_
      refine va_get (D := (dC, dI)) (ci := 5) (v := .ref ((a 110))) (C := rn_Meaning) (T := fn_Meaning) (N := 17) hx hb hg in_Meaning hown hK hP 4 rfl rfl 2 (by decide) (hg _ wn_1_186) (fun _ h9 => h9) (congrArg some hv_5) dn_Meaning_moduleEnd_30 ?_
      refine va_get (D := (dC, dI)) (ci := 11) (v := .int ((s.1 321 0))) (C := rn_Parts) (T := fn_Parts) (N := 15) hx hb hg in_Parts hown hK hP 10 rfl rfl 0 (by decide) (hg _ wn_2_126) (fun _ h9 => h9) rfl dn_Meaning_moduleEnd_33 ?_
      refine lv_icmp_ge (tgt := 90) hx hb dn_Meaning_moduleEnd_36 (by decide) (fun h => ?_) (fun h => ?_)
      · have hf := (if_pos h).symm.trans hf
        refine lv_aload_n hx hb dn_Meaning_moduleEnd_90 rfl (lv_at hl 0 rfl) ?_
        refine va_get (D := (dC, dI)) (ci := 5) (v := .ref ((a 109))) (C := rn_Meaning) (T := fn_Meaning) (N := 17) hx hb hg in_Meaning hown hK hP 4 rfl rfl 1 (by decide) (hg _ wn_1_185) (fun _ h9 => h9) (congrArg some hv_4) dn_Meaning_moduleEnd_91 ?_
        refine lv_aload_n hx hb dn_Meaning_moduleEnd_94 rfl (lv_at hl 0 rfl) ?_
        refine va_get (D := (dC, dI)) (ci := 5) (v := .ref ((a 103))) (C := rn_Meaning) (T := fn_Meaning) (N := 17) hx hb hg in_Meaning hown hK hP 4 rfl rfl 0 (by decide) (hg _ wn_1_184) (fun _ h9 => h9) rfl dn_Meaning_moduleEnd_95 ?_
        refine va_get (D := (dC, dI)) (ci := 4) (v := .int ((s.1 241 0))) (C := rn_Checker) (T := fn_Checker) (N := 15) hx hb hg in_Checker hown hK hP 3 rfl rfl 12 (by decide) (hg _ wn_1_140) (fun _ h9 => h9) rfl dn_Meaning_moduleEnd_98 ?_
        obtain ⟨q_1, hc_2, hf⟩ := dc_b hf
        refine dc_callv (dc_runV (ar := 1) (As := [.int ((s.1 241 0))]) (rest := []) (ci := 10) (q0 := 9) ⟨hx, hb, hml, hown, hg⟩ hK hN hT hS hA (ct_Design_sumUp_Ds l dC dI cI cB cJ cZ cQ N H.size a v ((s.1 241 0)) s q_1 hc_2) hP hD rfl rfl wn_5_103 wn_5_104 wn_5_105 wn_1_10 wn_5_106 rfl rfl (by decide +kernel) ⟨Nat.le_of_ble_eq_true rfl, Nat.le_of_ble_eq_true rfl⟩ rfl hl.1 rfl (Nat.le_of_ble_eq_true rfl) dn_Meaning_moduleEnd_101 ⟨Nat.le_of_ble_eq_true rfl, Nat.le_of_ble_eq_true rfl⟩) hP hD hS hA (fun _ H locs hw hP hD hS => ?_)
        rw [hQQ, ← Option.some.inj hf]
        exact xk_vret (w1 := fun u : Unit => (wC a v cI cB cJ cZ cQ q_1.2)) () hx hb hr hlocks hK hS dn_Meaning_moduleEnd_104 hP hD trivial (Nat.le_refl _) (Nat.le_refl _)
      · have hf := (if_neg h).symm.trans hf
        refine lv_aload_n hx hb dn_Meaning_moduleEnd_39 rfl (lv_at hl 0 rfl) ?_
        refine va_get (D := (dC, dI)) (ci := 5) (v := .ref ((a 110))) (C := rn_Meaning) (T := fn_Meaning) (N := 17) hx hb hg in_Meaning hown hK hP 4 rfl rfl 2 (by decide) (hg _ wn_1_186) (fun _ h9 => h9) (congrArg some hv_5) dn_Meaning_moduleEnd_40 ?_
        refine va_get (D := (dC, dI)) (ci := 11) (v := .ref ((a 324))) (C := rn_Parts) (T := fn_Parts) (N := 15) hx hb hg in_Parts hown hK hP 10 rfl rfl 3 (by decide) (hg _ wn_2_139) (fun _ h9 => h9) rfl dn_Meaning_moduleEnd_43 ?_
        refine lv_iload_n hx hb dn_Meaning_moduleEnd_46 rfl (lv_at hl 1 rfl) ?_
        obtain ⟨hg_1, hf⟩ := dc_g hf
        refine va_iald hx hb hK hP 63 0 rfl rfl hg_1 dn_Meaning_moduleEnd_47 ?_
        refine xk_ti (y := ((s.1 324) (Int32.toNatClampNeg x1))) rfl ?_
        refine lv_iconst (v := 1) hx hb dn_Meaning_moduleEnd_48 (by decide) ?_
        refine lv_icmp_ne (tgt := 84) hx hb dn_Meaning_moduleEnd_49 (by decide) (fun h => ?_) (fun h => ?_)
        · have hf := (if_neg h).symm.trans hf
          refine lv_iinc (v := (x1 + 1)) (lv' := [(1, .int ((x1 + 1))), (0, .ref ((a 104)))]) hx hb dn_Meaning_moduleEnd_84 hl (k := 1) rfl (dc_inc (by decide)) (by decide) rfl (fun ls hl => ?_)
          refine lv_goto (tgt := 28) hx hb dn_Meaning_moduleEnd_87 (by decide) ?_
          exact hk_28 ((x1 + 1)) s hf H locs ls hP hD hS (lv_sub hl [1, 0] rfl)
        · have hf := (if_pos h).symm.trans hf
          refine lv_aload_n hx hb dn_Meaning_moduleEnd_52 rfl (lv_at hl 0 rfl) ?_
          refine va_get (D := (dC, dI)) (ci := 5) (v := .ref ((a 110))) (C := rn_Meaning) (T := fn_Meaning) (N := 17) hx hb hg in_Meaning hown hK hP 4 rfl rfl 2 (by decide) (hg _ wn_1_186) (fun _ h9 => h9) (congrArg some hv_5) dn_Meaning_moduleEnd_53 ?_
          refine va_get (D := (dC, dI)) (ci := 11) (v := .ref ((a 326))) (C := rn_Parts) (T := fn_Parts) (N := 15) hx hb hg in_Parts hown hK hP 10 rfl rfl 5 (by decide) (hg _ wn_2_145) (fun _ h9 => h9) rfl dn_Meaning_moduleEnd_56 ?_
          refine lv_iload_n hx hb dn_Meaning_moduleEnd_59 rfl (lv_at hl 1 rfl) ?_
          obtain ⟨hg_2, hf⟩ := dc_g hf
          refine va_iald hx hb hK hP 65 0 rfl rfl hg_2 dn_Meaning_moduleEnd_60 ?_
          refine xk_ti (y := ((s.1 326) (Int32.toNatClampNeg x1))) rfl ?_
          refine lv_iconst (v := (-1)) hx hb dn_Meaning_moduleEnd_61 (by decide) ?_
          refine lv_icmp_ne (tgt := 84) hx hb dn_Meaning_moduleEnd_62 (by decide) (fun h => ?_) (fun h => ?_)
          · have hf := (if_neg h).symm.trans hf
            refine lv_iinc (v := (x1 + 1)) (lv' := [(1, .int ((x1 + 1))), (0, .ref ((a 104)))]) hx hb dn_Meaning_moduleEnd_84 hl (k := 1) rfl (dc_inc (by decide)) (by decide) rfl (fun ls hl => ?_)
            refine lv_goto (tgt := 28) hx hb dn_Meaning_moduleEnd_87 (by decide) ?_
            exact hk_28 ((x1 + 1)) s hf H locs ls hP hD hS (lv_sub hl [1, 0] rfl)
          · have hf := (if_pos h).symm.trans hf
            refine lv_aload_n hx hb dn_Meaning_moduleEnd_65 rfl (lv_at hl 0 rfl) ?_
            refine va_get (D := (dC, dI)) (ci := 5) (v := .ref ((a 103))) (C := rn_Meaning) (T := fn_Meaning) (N := 17) hx hb hg in_Meaning hown hK hP 4 rfl rfl 0 (by decide) (hg _ wn_1_184) (fun _ h9 => h9) rfl dn_Meaning_moduleEnd_66 ?_
            refine lv_bipush (v := 33) hx hb dn_Meaning_moduleEnd_69 (by decide) ?_
            refine lv_aload_n hx hb dn_Meaning_moduleEnd_71 rfl (lv_at hl 0 rfl) ?_
            refine va_get (D := (dC, dI)) (ci := 5) (v := .ref ((a 110))) (C := rn_Meaning) (T := fn_Meaning) (N := 17) hx hb hg in_Meaning hown hK hP 4 rfl rfl 2 (by decide) (hg _ wn_1_186) (fun _ h9 => h9) (congrArg some hv_5) dn_Meaning_moduleEnd_72 ?_
            refine va_get (D := (dC, dI)) (ci := 11) (v := .ref ((a 322))) (C := rn_Parts) (T := fn_Parts) (N := 15) hx hb hg in_Parts hown hK hP 10 rfl rfl 1 (by decide) (hg _ wn_2_129) (fun _ h9 => h9) rfl dn_Meaning_moduleEnd_75 ?_
            refine lv_iload_n hx hb dn_Meaning_moduleEnd_78 rfl (lv_at hl 1 rfl) ?_
            obtain ⟨hg_3, hf⟩ := dc_g hf
            refine va_iald hx hb hK hP 61 0 rfl rfl hg_3 dn_Meaning_moduleEnd_79 ?_
            refine xk_ti (y := ((s.1 322) (Int32.toNatClampNeg x1))) rfl ?_
            obtain ⟨q_4, hc_5, hf⟩ := dc_b hf
            refine dc_callv (dc_runV (ar := 2) (As := [.int 33, .int (((s.1 322) (Int32.toNatClampNeg x1)))]) (rest := []) (ci := 4) (q0 := 3) ⟨hx, hb, hml, hown, hg⟩ hK hN hT hS hA (ct_Checker_refuse_Ch l dC dI cI cB cJ cZ cQ N H.size a v 33 (((s.1 322) (Int32.toNatClampNeg x1))) s q_4 hc_5) hP hD rfl rfl wn_4_201 wn_4_202 wn_4_203 wn_1_4 wn_4_204 rfl rfl (by decide +kernel) ⟨Nat.le_of_ble_eq_true rfl, Nat.le_of_ble_eq_true rfl⟩ rfl hl.1 rfl (Nat.le_of_ble_eq_true rfl) dn_Meaning_moduleEnd_80 ⟨Nat.le_of_ble_eq_true rfl, Nat.le_of_ble_eq_true rfl⟩) hP hD hS hA (fun _ H locs hw hP hD hS => ?_)
            rw [hQQ, ← Option.some.inj hf]
            exact xk_vret (w1 := fun u : Unit => (wC a v cI cB cJ cZ cQ q_4.2)) () hx hb hr hlocks hK hS dn_Meaning_moduleEnd_83 hP hD trivial (Nat.le_refl _) (Nat.le_refl _)
  intro H locs ls hP hD hS hl
  unfold fn_Meaning_moduleEnd_Me at hf
  refine lv_aload_n hx hb dn_Meaning_moduleEnd_0 rfl (lv_at hl 0 rfl) ?_
  refine va_get (D := (dC, dI)) (ci := 5) (v := .ref ((a 103))) (C := rn_Meaning) (T := fn_Meaning) (N := 17) hx hb hg in_Meaning hown hK hP 4 rfl rfl 0 (by decide) (hg _ wn_1_184) (fun _ h9 => h9) rfl dn_Meaning_moduleEnd_1 ?_
  obtain ⟨q_1, hc_2, hf⟩ := dc_b hf
  refine dc_calli (dc_runV (ar := 0) (As := []) (rest := []) (ci := 4) (q0 := 3) ⟨hx, hb, hml, hown, hg⟩ hK hN hT hS hA (ct_Checker_isOff_Ch l dC dI cI cB cJ cZ cQ N H.size a v s q_1 hc_2) hP hD rfl rfl wn_4_193 wn_4_194 wn_4_195 wn_1_4 wn_4_196 rfl rfl (by decide +kernel) ⟨Nat.le_of_ble_eq_true rfl, Nat.le_of_ble_eq_true rfl⟩ rfl hl.1 rfl (Nat.le_of_ble_eq_true rfl) dn_Meaning_moduleEnd_4 ⟨Nat.le_of_ble_eq_true rfl, Nat.le_of_ble_eq_true rfl⟩) hP hD hS hA (fun r_3 _ H locs hw hP hD hS => ?_)
  have hw : r_3 = q_1.1 := hw
  subst hw
  refine lv_if_eq (tgt := 11) hx hb dn_Meaning_moduleEnd_7 (by decide) (fun h => ?_) (fun h => ?_)
  · have hf := (if_pos h).symm.trans hf
    refine lv_aload_n hx hb dn_Meaning_moduleEnd_11 rfl (lv_at hl 0 rfl) ?_
    refine va_get (D := (dC, dI)) (ci := 5) (v := .ref ((a 109))) (C := rn_Meaning) (T := fn_Meaning) (N := 17) hx hb hg in_Meaning hown hK hP 4 rfl rfl 1 (by decide) (hg _ wn_1_185) (fun _ h9 => h9) (congrArg some hv_4) dn_Meaning_moduleEnd_12 ?_
    refine lv_aload_n hx hb dn_Meaning_moduleEnd_15 rfl (lv_at hl 0 rfl) ?_
    refine va_get (D := (dC, dI)) (ci := 5) (v := .ref ((a 109))) (C := rn_Meaning) (T := fn_Meaning) (N := 17) hx hb hg in_Meaning hown hK hP 4 rfl rfl 1 (by decide) (hg _ wn_1_185) (fun _ h9 => h9) (congrArg some hv_4) dn_Meaning_moduleEnd_16 ?_
    refine va_get (D := (dC, dI)) (ci := 10) (v := .int ((q_1.2.1 309 0))) (C := rn_Design) (T := fn_Design) (N := 16) hx hb hg in_Design hown hK hP 9 rfl rfl 4 (by decide) (hg _ wn_3_12) (fun _ h9 => h9) rfl dn_Meaning_moduleEnd_19 ?_
    refine lv_iconst (v := 1) hx hb dn_Meaning_moduleEnd_22 (by decide) ?_
    refine lv_isub hx hb dn_Meaning_moduleEnd_23 ?_
    obtain ⟨q_4, hc_5, hf⟩ := dc_b hf
    refine dc_calli (dc_runV (ar := 1) (As := [.int (((q_1.2.1 309 0) - 1))]) (rest := []) (ci := 10) (q0 := 9) ⟨hx, hb, hml, hown, hg⟩ hK hN hT hS hA (ct_Design_firstDecl_Ds l dC dI cI cB cJ cZ cQ N H.size a v (((q_1.2.1 309 0) - 1)) q_1.2 q_4 hc_5) hP hD rfl rfl wn_5_99 wn_5_100 wn_5_101 wn_1_10 wn_5_102 rfl rfl (by decide +kernel) ⟨Nat.le_of_ble_eq_true rfl, Nat.le_of_ble_eq_true rfl⟩ rfl hl.1 rfl (Nat.le_of_ble_eq_true rfl) dn_Meaning_moduleEnd_24 ⟨Nat.le_of_ble_eq_true rfl, Nat.le_of_ble_eq_true rfl⟩) hP hD hS hA (fun r_6 _ H locs hw hP hD hS => ?_)
    have hw : r_6 = q_4.1 := hw
    subst hw
    refine lv_istore_n (lv' := [(1, .int q_4.1), (0, .ref ((a 104)))]) hx hb dn_Meaning_moduleEnd_27 rfl hl (by decide) rfl (fun ls hl => ?_)
    exact hd_28 N q_4.1 q_4.2 hf H locs ls hP hD hS (lv_sub hl [1, 0] rfl)
  · have hf := (if_neg h).symm.trans hf
    rw [hQQ, ← Option.some.inj hf]
    exact xk_vret (w1 := fun u : Unit => (wC a v cI cB cJ cZ cQ q_1.2)) () hx hb hr hlocks hK hS dn_Meaning_moduleEnd_10 hP hD trivial (Nat.le_refl _) (Nat.le_refl _)
set_option maxHeartbeats 8000000 in
set_option maxRecDepth 100000 in
theorem ct_Checker_sortOf_Ch (l : Launch) (dC : Nat → ClassId) (dI : Nat → Nat → Nat) (cI cB cJ cZ cQ : ClassId) (N sz : Nat) (a : Nat → Nat) (v : Nat → Value) (hv_2 : v 2 = .ref (a 110)) (v1 : Int32) (s : ms) (y : (Int32 × ms)) (hf : fn_Checker_sortOf_Ch N v1 s = some y) : Met l yn_Checker_sortOf (xw yn_Checker_sortOf bn_Checker_sortOf 2 (some .int)) ({ frames := 0, cells := 0, slots := 0, locals := 0 }) (dc_P (dC, dI) xcl (xt cI cB cJ cZ cQ) [.ref ((a 103)), .int v1] sz (wC a v cI cB cJ cZ cQ s)) (xk_Qi (dC, dI) xcl (xt cI cB cJ cZ cQ) (fun (r : Int32) (_ : Unit) => r = y.1) (fun u : Unit => (wC a v cI cB cJ cZ cQ y.2)) (va_A (wC a v cI cB cJ cZ cQ s) sz)) 0 0 (va_A (wC a v cI cB cJ cZ cQ s) sz) := by
  refine dc_of (QA := xk_Qi (dC, dI) xcl (xt cI cB cJ cZ cQ) (fun (r : Int32) (_ : Unit) => r = y.1) (fun u : Unit => (wC a v cI cB cJ cZ cQ y.2))) (by decide) (Nat.le_of_ble_eq_true rfl) ?_
  intro p e s0 m below meth c hx hb hml hown hg hr hlocks hin hP hK hN A hA hD hT ls hl
  have hown : s0.vm.findClass rn_Checker = some m.cls := hown
  obtain ⟨H, hH⟩ : ∃ z, z = s0.heap := ⟨_, rfl⟩
  rw [← hH] at hP
  have hS : va_S A s0.heap H [] := by rw [hH]; exact va_S.rf
  suffices kk : ∀ QQ : State → Prop, QQ = MQ below (xk_Qi (dC, dI) xcl (xt cI cB cJ cZ cQ) (fun (r : Int32) (_ : Unit) => r = y.1) (fun u : Unit => (wC a v cI cB cJ cZ cQ y.2)) A) [.ref ((a 103)), .int v1].toArray s0 0 0 A → dcC p l e ({ frames := 0, cells := 0, slots := 0, locals := 0 }) s0 m [.ref ((a 103)), .int v1].toArray below meth c QQ (dC, dI) A (wC a v cI cB cJ cZ cQ s) 0 2 [(0, .ref ((a 103))), (1, .int v1)] [] by
    have k9 := kk _ rfl H [] ls hP hD hS hl
    rw [hH] at k9; exact k9
  clear hP hD hS hl hH H ls
  intro QQ hQQ
  intro H locs ls hP hD hS hl
  unfold fn_Checker_sortOf_Ch at hf
  refine lv_iload_n hx hb dn_Checker_sortOf_0 rfl (lv_at hl 1 rfl) ?_
  refine lv_if_lt (tgt := 27) hx hb dn_Checker_sortOf_1 (by decide) (fun h => ?_) (fun h => ?_)
  · have hf := (if_pos h).symm.trans hf
    refine lv_iconst (v := (-1)) hx hb dn_Checker_sortOf_27 (by decide) ?_
    rw [hQQ, ← Option.some.inj hf]
    exact xk_iret (w1 := fun u : Unit => (wC a v cI cB cJ cZ cQ s)) () hx hb hr hlocks hK hS dn_Checker_sortOf_28 hP hD rfl (Nat.le_refl _) (Nat.le_refl _)
  · have hf := (if_neg h).symm.trans hf
    refine lv_iload_n hx hb dn_Checker_sortOf_4 rfl (lv_at hl 1 rfl) ?_
    refine lv_aload_n hx hb dn_Checker_sortOf_5 rfl (lv_at hl 0 rfl) ?_
    refine va_get (D := (dC, dI)) (ci := 4) (v := .ref ((a 110))) (C := rn_Checker) (T := fn_Checker) (N := 15) hx hb hg in_Checker hown hK hP 3 rfl rfl 1 (by decide) (hg _ wn_1_127) (fun _ h9 => h9) (congrArg some hv_2) dn_Checker_sortOf_6 ?_
    refine va_get (D := (dC, dI)) (ci := 11) (v := .int ((s.1 321 0))) (C := rn_Parts) (T := fn_Parts) (N := 15) hx hb hg in_Parts hown hK hP 10 rfl rfl 0 (by decide) (hg _ wn_2_125) (fun _ h9 => h9) rfl dn_Checker_sortOf_9 ?_
    refine lv_icmp_ge (tgt := 27) hx hb dn_Checker_sortOf_12 (by decide) (fun h => ?_) (fun h => ?_)
    · have hf := (if_pos h).symm.trans hf
      refine lv_iconst (v := (-1)) hx hb dn_Checker_sortOf_27 (by decide) ?_
      rw [hQQ, ← Option.some.inj hf]
      exact xk_iret (w1 := fun u : Unit => (wC a v cI cB cJ cZ cQ s)) () hx hb hr hlocks hK hS dn_Checker_sortOf_28 hP hD rfl (Nat.le_refl _) (Nat.le_refl _)
    · have hf := (if_neg h).symm.trans hf
      refine lv_aload_n hx hb dn_Checker_sortOf_15 rfl (lv_at hl 0 rfl) ?_
      refine va_get (D := (dC, dI)) (ci := 4) (v := .ref ((a 110))) (C := rn_Checker) (T := fn_Checker) (N := 15) hx hb hg in_Checker hown hK hP 3 rfl rfl 1 (by decide) (hg _ wn_1_127) (fun _ h9 => h9) (congrArg some hv_2) dn_Checker_sortOf_16 ?_
      refine va_get (D := (dC, dI)) (ci := 11) (v := .ref ((a 324))) (C := rn_Parts) (T := fn_Parts) (N := 15) hx hb hg in_Parts hown hK hP 10 rfl rfl 3 (by decide) (hg _ wn_2_137) (fun _ h9 => h9) rfl dn_Checker_sortOf_19 ?_
      refine lv_iload_n hx hb dn_Checker_sortOf_22 rfl (lv_at hl 1 rfl) ?_
      obtain ⟨hg_1, hf⟩ := dc_g hf
      refine va_iald hx hb hK hP 63 0 rfl rfl hg_1 dn_Checker_sortOf_23 ?_
      refine xk_ti (y := ((s.1 324) (Int32.toNatClampNeg v1))) rfl ?_
      refine lv_goto (tgt := 28) hx hb dn_Checker_sortOf_24 (by decide) ?_
      rw [hQQ, ← Option.some.inj hf]
      exact xk_iret (w1 := fun u : Unit => (wC a v cI cB cJ cZ cQ s)) () hx hb hr hlocks hK hS dn_Checker_sortOf_28 hP hD rfl (Nat.le_refl _) (Nat.le_refl _)
set_option maxHeartbeats 8000000 in
set_option maxRecDepth 100000 in
theorem ct_Meaning_assignTo_Me (l : Launch) (dC : Nat → ClassId) (dI : Nat → Nat → Nat) (cI cB cJ cZ cQ : ClassId) (N sz : Nat) (a : Nat → Nat) (v : Nat → Value) (hv_2 : v 2 = .ref (a 110)) (hv_5 : v 5 = .ref (a 110)) (hv_6 : v 6 = .ref (a 111)) (v1 : Int32) (v2 : Int32) (s : ms) (y : (Unit × ms)) (hf : fn_Meaning_assignTo_Me N v1 v2 s = some y) : Met l yn_Meaning_assignTo (xw yn_Meaning_assignTo bn_Meaning_assignTo 4 none) ({ frames := 1, cells := 0, slots := 0, locals := 22 }) (dc_P (dC, dI) xcl (xt cI cB cJ cZ cQ) [.ref ((a 104)), .int v1, .int v2] sz (wC a v cI cB cJ cZ cQ s)) (xk_Qv (dC, dI) xcl (xt cI cB cJ cZ cQ) (fun _ : Unit => True) (fun u : Unit => (wC a v cI cB cJ cZ cQ y.2)) (va_A (wC a v cI cB cJ cZ cQ s) sz)) 0 0 (va_A (wC a v cI cB cJ cZ cQ s) sz) := by
  refine dc_of (QA := xk_Qv (dC, dI) xcl (xt cI cB cJ cZ cQ) (fun _ : Unit => True) (fun u : Unit => (wC a v cI cB cJ cZ cQ y.2))) (by decide) (Nat.le_of_ble_eq_true rfl) ?_
  intro p e s0 m below meth c hx hb hml hown hg hr hlocks hin hP hK hN A hA hD hT ls hl
  have hown : s0.vm.findClass rn_Meaning = some m.cls := hown
  obtain ⟨H, hH⟩ : ∃ z, z = s0.heap := ⟨_, rfl⟩
  rw [← hH] at hP
  have hS : va_S A s0.heap H [] := by rw [hH]; exact va_S.rf
  suffices kk : ∀ QQ : State → Prop, QQ = MQ below (xk_Qv (dC, dI) xcl (xt cI cB cJ cZ cQ) (fun _ : Unit => True) (fun u : Unit => (wC a v cI cB cJ cZ cQ y.2)) A) [.ref ((a 104)), .int v1, .int v2].toArray s0 0 0 A → dcC p l e ({ frames := 1, cells := 0, slots := 0, locals := 22 }) s0 m [.ref ((a 104)), .int v1, .int v2].toArray below meth c QQ (dC, dI) A (wC a v cI cB cJ cZ cQ s) 0 4 [(0, .ref ((a 104))), (1, .int v1), (2, .int v2)] [] by
    have k9 := kk _ rfl H [] ls hP hD hS hl
    rw [hH] at k9; exact k9
  clear hP hD hS hl hH H ls
  intro QQ hQQ
  intro H locs ls hP hD hS hl
  unfold fn_Meaning_assignTo_Me at hf
  refine lv_aload_n hx hb dn_Meaning_assignTo_0 rfl (lv_at hl 0 rfl) ?_
  refine va_get (D := (dC, dI)) (ci := 5) (v := .ref ((a 103))) (C := rn_Meaning) (T := fn_Meaning) (N := 17) hx hb hg in_Meaning hown hK hP 4 rfl rfl 0 (by decide) (hg _ wn_1_184) (fun _ h9 => h9) rfl dn_Meaning_assignTo_1 ?_
  obtain ⟨q_1, hc_2, hf⟩ := dc_b hf
  refine dc_calli (dc_runV (ar := 0) (As := []) (rest := []) (ci := 4) (q0 := 3) ⟨hx, hb, hml, hown, hg⟩ hK hN hT hS hA (ct_Checker_isOff_Ch l dC dI cI cB cJ cZ cQ N H.size a v s q_1 hc_2) hP hD rfl rfl wn_4_193 wn_4_194 wn_4_195 wn_1_4 wn_4_196 rfl rfl (by decide +kernel) ⟨Nat.le_of_ble_eq_true rfl, Nat.le_of_ble_eq_true rfl⟩ rfl hl.1 rfl (Nat.le_of_ble_eq_true rfl) dn_Meaning_assignTo_4 ⟨Nat.le_of_ble_eq_true rfl, Nat.le_of_ble_eq_true rfl⟩) hP hD hS hA (fun r_3 _ H locs hw hP hD hS => ?_)
  have hw : r_3 = q_1.1 := hw
  subst hw
  refine lv_if_eq (tgt := 11) hx hb dn_Meaning_assignTo_7 (by decide) (fun h => ?_) (fun h => ?_)
  · have hf := (if_pos h).symm.trans hf
    refine lv_aload_n hx hb dn_Meaning_assignTo_11 rfl (lv_at hl 0 rfl) ?_
    refine va_get (D := (dC, dI)) (ci := 5) (v := .ref ((a 103))) (C := rn_Meaning) (T := fn_Meaning) (N := 17) hx hb hg in_Meaning hown hK hP 4 rfl rfl 0 (by decide) (hg _ wn_1_184) (fun _ h9 => h9) rfl dn_Meaning_assignTo_12 ?_
    refine lv_iload_n hx hb dn_Meaning_assignTo_15 rfl (lv_at hl 1 rfl) ?_
    obtain ⟨q_4, hc_5, hf⟩ := dc_b hf
    refine dc_calli (dc_runV (ar := 1) (As := [.int v1]) (rest := []) (ci := 4) (q0 := 3) ⟨hx, hb, hml, hown, hg⟩ hK hN hT hS hA (ct_Checker_meantBy_Ch l dC dI cI cB cJ cZ cQ N H.size a v v1 q_1.2 q_4 hc_5) hP hD rfl rfl wn_4_238 wn_4_239 wn_5_0 wn_1_4 wn_5_1 rfl rfl (by decide +kernel) ⟨Nat.le_of_ble_eq_true rfl, Nat.le_of_ble_eq_true rfl⟩ rfl hl.1 rfl (Nat.le_of_ble_eq_true rfl) dn_Meaning_assignTo_16 ⟨Nat.le_of_ble_eq_true rfl, Nat.le_of_ble_eq_true rfl⟩) hP hD hS hA (fun r_6 _ H locs hw hP hD hS => ?_)
    have hw : r_6 = q_4.1 := hw
    subst hw
    refine lv_istore_n (lv' := [(3, .int q_4.1), (0, .ref ((a 104))), (1, .int v1), (2, .int v2)]) hx hb dn_Meaning_assignTo_19 rfl hl (by decide) rfl (fun ls hl => ?_)
    refine lv_aload_n hx hb dn_Meaning_assignTo_20 rfl (lv_at hl 1 rfl) ?_
    refine va_get (D := (dC, dI)) (ci := 5) (v := .ref ((a 103))) (C := rn_Meaning) (T := fn_Meaning) (N := 17) hx hb hg in_Meaning hown hK hP 4 rfl rfl 0 (by decide) (hg _ wn_1_184) (fun _ h9 => h9) rfl dn_Meaning_assignTo_21 ?_
    refine lv_iload_n hx hb dn_Meaning_assignTo_24 rfl (lv_at hl 0 rfl) ?_
    obtain ⟨q_7, hc_8, hf⟩ := dc_b hf
    refine dc_calli (dc_runV (ar := 1) (As := [.int q_4.1]) (rest := []) (ci := 4) (q0 := 3) ⟨hx, hb, hml, hown, hg⟩ hK hN hT hS hA (ct_Checker_sortOf_Ch l dC dI cI cB cJ cZ cQ N H.size a v hv_2 q_4.1 q_4.2 q_7 hc_8) hP hD rfl rfl wn_5_42 wn_5_43 wn_5_44 wn_1_4 wn_5_45 rfl rfl (by decide +kernel) ⟨Nat.le_of_ble_eq_true rfl, Nat.le_of_ble_eq_true rfl⟩ rfl hl.1 rfl (Nat.le_of_ble_eq_true rfl) dn_Meaning_assignTo_25 ⟨Nat.le_of_ble_eq_true rfl, Nat.le_of_ble_eq_true rfl⟩) hP hD hS hA (fun r_9 _ H locs hw hP hD hS => ?_)
    have hw : r_9 = q_7.1 := hw
    subst hw
    refine lv_iconst (v := 1) hx hb dn_Meaning_assignTo_28 (by decide) ?_
    refine lv_icmp_eq (tgt := 45) hx hb dn_Meaning_assignTo_29 (by decide) (fun h => ?_) (fun h => ?_)
    · have hf := (if_pos h).symm.trans hf
      refine lv_aload_n hx hb dn_Meaning_assignTo_45 rfl (lv_at hl 1 rfl) ?_
      refine va_get (D := (dC, dI)) (ci := 5) (v := .ref ((a 110))) (C := rn_Meaning) (T := fn_Meaning) (N := 17) hx hb hg in_Meaning hown hK hP 4 rfl rfl 2 (by decide) (hg _ wn_1_186) (fun _ h9 => h9) (congrArg some hv_5) dn_Meaning_assignTo_46 ?_
      refine va_get (D := (dC, dI)) (ci := 11) (v := .ref ((a 326))) (C := rn_Parts) (T := fn_Parts) (N := 15) hx hb hg in_Parts hown hK hP 10 rfl rfl 5 (by decide) (hg _ wn_2_145) (fun _ h9 => h9) rfl dn_Meaning_assignTo_49 ?_
      refine lv_iload_n hx hb dn_Meaning_assignTo_52 rfl (lv_at hl 0 rfl) ?_
      obtain ⟨hg_10, hf⟩ := dc_g hf
      refine va_iald hx hb hK hP 65 0 rfl rfl hg_10 dn_Meaning_assignTo_53 ?_
      refine xk_ti (y := ((q_7.2.1 326) (Int32.toNatClampNeg q_4.1))) rfl ?_
      refine lv_iconst (v := (-1)) hx hb dn_Meaning_assignTo_54 (by decide) ?_
      refine lv_icmp_eq (tgt := 71) hx hb dn_Meaning_assignTo_55 (by decide) (fun h => ?_) (fun h => ?_)
      · have hf := (if_pos h).symm.trans hf
        refine lv_aload_n hx hb dn_Meaning_assignTo_71 rfl (lv_at hl 1 rfl) ?_
        refine va_get (D := (dC, dI)) (ci := 5) (v := .ref ((a 110))) (C := rn_Meaning) (T := fn_Meaning) (N := 17) hx hb hg in_Meaning hown hK hP 4 rfl rfl 2 (by decide) (hg _ wn_1_186) (fun _ h9 => h9) (congrArg some hv_5) dn_Meaning_assignTo_72 ?_
        refine va_get (D := (dC, dI)) (ci := 11) (v := .ref ((a 326))) (C := rn_Parts) (T := fn_Parts) (N := 15) hx hb hg in_Parts hown hK hP 10 rfl rfl 5 (by decide) (hg _ wn_2_145) (fun _ h9 => h9) rfl dn_Meaning_assignTo_75 ?_
        refine lv_iload_n hx hb dn_Meaning_assignTo_78 rfl (lv_at hl 0 rfl) ?_
        refine lv_aload_n hx hb dn_Meaning_assignTo_79 rfl (lv_at hl 1 rfl) ?_
        refine va_get (D := (dC, dI)) (ci := 5) (v := .ref ((a 111))) (C := rn_Meaning) (T := fn_Meaning) (N := 17) hx hb hg in_Meaning hown hK hP 4 rfl rfl 3 (by decide) (hg _ wn_1_187) (fun _ h9 => h9) (congrArg some hv_6) dn_Meaning_assignTo_80 ?_
        refine va_get (D := (dC, dI)) (ci := 12) (v := .int ((q_7.2.1 337 0))) (C := rn_Code) (T := fn_Code) (N := 5) hx hb hg in_Code hown hK hP 11 rfl rfl 1 (by decide) (hg _ wn_2_214) (fun _ h9 => h9) rfl dn_Meaning_assignTo_83 ?_
        obtain ⟨hg_11, hf⟩ := dc_g hf
        refine va_iast hx hb hK hP hD hS 65 0 rfl rfl hg_11 dn_Meaning_assignTo_86 (fun H locs hP hD hS => ?_)
        have hP : va_P (dC, dI) xcl ((wC a v cI cB cJ cZ cQ q_7.2).set 65 ((a 326), .inl (cI, 10923, .inl (upd (q_7.2.1 326) (Int32.toNatClampNeg q_4.1) ((q_7.2.1 337 0)))))) H := hP
        have hD : va_D A ((wC a v cI cB cJ cZ cQ q_7.2).set 65 ((a 326), .inl (cI, 10923, .inl (upd (q_7.2.1 326) (Int32.toNatClampNeg q_4.1) ((q_7.2.1 337 0)))))) := hD
        have hP := wC_P_326 hP
        have hD := wC_D_326 hD
        refine lv_aload_n hx hb dn_Meaning_assignTo_87 rfl (lv_at hl 1 rfl) ?_
        refine lv_iload_n hx hb dn_Meaning_assignTo_88 rfl (lv_at hl 0 rfl) ?_
        refine va_put (D := (dC, dI)) (ci := 5) (v := .int q_4.1) (ty := .int) (C := rn_Meaning) (T := fn_Meaning) (N := 17) hx hb hg in_Meaning tn_Meaning tk_Meaning nn_Meaning hown hK hP hD hS 4 rfl rfl 5 (by decide) (hg _ wn_1_189) (fun _ h9 => h9) rfl (tk_Meaning 5 (by decide)) rfl rfl (Nat.le_of_ble_eq_true rfl) dn_Meaning_assignTo_89 (fun H locs hP hD hS => ?_)
        have hP := wC_P_249 hP
        have hD := wC_D_249 hD
        rw [hQQ, ← Option.some.inj hf]
        exact xk_vret (w1 := fun u : Unit => (wC a v cI cB cJ cZ cQ (upI (upI q_7.2 326 (upd (q_7.2.1 326) (Int32.toNatClampNeg q_4.1) ((q_7.2.1 337 0)))) 249 (fun _ => q_4.1)))) () hx hb hr hlocks hK hS dn_Meaning_assignTo_92 hP hD trivial (Nat.le_refl _) (Nat.le_refl _)
      · have hf := (if_neg h).symm.trans hf
        refine lv_aload_n hx hb dn_Meaning_assignTo_58 rfl (lv_at hl 1 rfl) ?_
        refine va_get (D := (dC, dI)) (ci := 5) (v := .ref ((a 103))) (C := rn_Meaning) (T := fn_Meaning) (N := 17) hx hb hg in_Meaning hown hK hP 4 rfl rfl 0 (by decide) (hg _ wn_1_184) (fun _ h9 => h9) rfl dn_Meaning_assignTo_59 ?_
        refine lv_bipush (v := 31) hx hb dn_Meaning_assignTo_62 (by decide) ?_
        refine lv_iload_n hx hb dn_Meaning_assignTo_64 rfl (lv_at hl 3 rfl) ?_
        obtain ⟨q_11, hc_12, hf⟩ := dc_b hf
        refine dc_callv (dc_runV (ar := 2) (As := [.int 31, .int v2]) (rest := []) (ci := 4) (q0 := 3) ⟨hx, hb, hml, hown, hg⟩ hK hN hT hS hA (ct_Checker_refuse_Ch l dC dI cI cB cJ cZ cQ N H.size a v 31 v2 q_7.2 q_11 hc_12) hP hD rfl rfl wn_4_201 wn_4_202 wn_4_203 wn_1_4 wn_4_204 rfl rfl (by decide +kernel) ⟨Nat.le_of_ble_eq_true rfl, Nat.le_of_ble_eq_true rfl⟩ rfl hl.1 rfl (Nat.le_of_ble_eq_true rfl) dn_Meaning_assignTo_65 ⟨Nat.le_of_ble_eq_true rfl, Nat.le_of_ble_eq_true rfl⟩) hP hD hS hA (fun _ H locs hw hP hD hS => ?_)
        refine lv_goto (tgt := 92) hx hb dn_Meaning_assignTo_68 (by decide) ?_
        rw [hQQ, ← Option.some.inj hf]
        exact xk_vret (w1 := fun u : Unit => (wC a v cI cB cJ cZ cQ q_11.2)) () hx hb hr hlocks hK hS dn_Meaning_assignTo_92 hP hD trivial (Nat.le_refl _) (Nat.le_refl _)
    · have hf := (if_neg h).symm.trans hf
      refine lv_aload_n hx hb dn_Meaning_assignTo_32 rfl (lv_at hl 1 rfl) ?_
      refine va_get (D := (dC, dI)) (ci := 5) (v := .ref ((a 103))) (C := rn_Meaning) (T := fn_Meaning) (N := 17) hx hb hg in_Meaning hown hK hP 4 rfl rfl 0 (by decide) (hg _ wn_1_184) (fun _ h9 => h9) rfl dn_Meaning_assignTo_33 ?_
      refine lv_bipush (v := 22) hx hb dn_Meaning_assignTo_36 (by decide) ?_
      refine lv_iload_n hx hb dn_Meaning_assignTo_38 rfl (lv_at hl 3 rfl) ?_
      obtain ⟨q_10, hc_11, hf⟩ := dc_b hf
      refine dc_callv (dc_runV (ar := 2) (As := [.int 22, .int v2]) (rest := []) (ci := 4) (q0 := 3) ⟨hx, hb, hml, hown, hg⟩ hK hN hT hS hA (ct_Checker_refuse_Ch l dC dI cI cB cJ cZ cQ N H.size a v 22 v2 q_7.2 q_10 hc_11) hP hD rfl rfl wn_4_201 wn_4_202 wn_4_203 wn_1_4 wn_4_204 rfl rfl (by decide +kernel) ⟨Nat.le_of_ble_eq_true rfl, Nat.le_of_ble_eq_true rfl⟩ rfl hl.1 rfl (Nat.le_of_ble_eq_true rfl) dn_Meaning_assignTo_39 ⟨Nat.le_of_ble_eq_true rfl, Nat.le_of_ble_eq_true rfl⟩) hP hD hS hA (fun _ H locs hw hP hD hS => ?_)
      refine lv_goto (tgt := 92) hx hb dn_Meaning_assignTo_42 (by decide) ?_
      rw [hQQ, ← Option.some.inj hf]
      exact xk_vret (w1 := fun u : Unit => (wC a v cI cB cJ cZ cQ q_10.2)) () hx hb hr hlocks hK hS dn_Meaning_assignTo_92 hP hD trivial (Nat.le_refl _) (Nat.le_refl _)
  · have hf := (if_neg h).symm.trans hf
    rw [hQQ, ← Option.some.inj hf]
    exact xk_vret (w1 := fun u : Unit => (wC a v cI cB cJ cZ cQ q_1.2)) () hx hb hr hlocks hK hS dn_Meaning_assignTo_10 hP hD trivial (Nat.le_refl _) (Nat.le_refl _)
set_option maxHeartbeats 8000000 in
set_option maxRecDepth 100000 in
theorem ct_Checker_expBegins_Ch (l : Launch) (dC : Nat → ClassId) (dI : Nat → Nat → Nat) (cI cB cJ cZ cQ : ClassId) (N sz : Nat) (a : Nat → Nat) (v : Nat → Value) (hv_3 : v 3 = .ref (a 111)) (s : ms) (y : (Unit × ms)) (hf : fn_Checker_expBegins_Ch N s = some y) : Met l yn_Checker_expBegins (xw yn_Checker_expBegins bn_Checker_expBegins 1 none) ({ frames := 1, cells := 0, slots := 0, locals := 20 }) (dc_P (dC, dI) xcl (xt cI cB cJ cZ cQ) [.ref ((a 103))] sz (wC a v cI cB cJ cZ cQ s)) (xk_Qv (dC, dI) xcl (xt cI cB cJ cZ cQ) (fun _ : Unit => True) (fun u : Unit => (wC a v cI cB cJ cZ cQ y.2)) (va_A (wC a v cI cB cJ cZ cQ s) sz)) 0 0 (va_A (wC a v cI cB cJ cZ cQ s) sz) := by
  refine dc_of (QA := xk_Qv (dC, dI) xcl (xt cI cB cJ cZ cQ) (fun _ : Unit => True) (fun u : Unit => (wC a v cI cB cJ cZ cQ y.2))) (by decide) (Nat.le_of_ble_eq_true rfl) ?_
  intro p e s0 m below meth c hx hb hml hown hg hr hlocks hin hP hK hN A hA hD hT ls hl
  have hown : s0.vm.findClass rn_Checker = some m.cls := hown
  obtain ⟨H, hH⟩ : ∃ z, z = s0.heap := ⟨_, rfl⟩
  rw [← hH] at hP
  have hS : va_S A s0.heap H [] := by rw [hH]; exact va_S.rf
  suffices kk : ∀ QQ : State → Prop, QQ = MQ below (xk_Qv (dC, dI) xcl (xt cI cB cJ cZ cQ) (fun _ : Unit => True) (fun u : Unit => (wC a v cI cB cJ cZ cQ y.2)) A) [.ref ((a 103))].toArray s0 0 0 A → dcC p l e ({ frames := 1, cells := 0, slots := 0, locals := 20 }) s0 m [.ref ((a 103))].toArray below meth c QQ (dC, dI) A (wC a v cI cB cJ cZ cQ s) 0 1 [(0, .ref ((a 103)))] [] by
    have k9 := kk _ rfl H [] ls hP hD hS hl
    rw [hH] at k9; exact k9
  clear hP hD hS hl hH H ls
  intro QQ hQQ
  intro H locs ls hP hD hS hl
  unfold fn_Checker_expBegins_Ch at hf
  refine lv_aload_n hx hb dn_Checker_expBegins_0 rfl (lv_at hl 0 rfl) ?_
  obtain ⟨q_1, hc_2, hf⟩ := dc_b hf
  refine dc_calli (dc_runV (ar := 0) (As := []) (rest := []) (ci := 4) (q0 := 3) ⟨hx, hb, hml, hown, hg⟩ hK hN hT hS hA (ct_Checker_isOff_Ch l dC dI cI cB cJ cZ cQ N H.size a v s q_1 hc_2) hP hD rfl rfl wn_5_54 wn_4_194 wn_4_195 wn_1_4 wn_4_196 rfl rfl (by decide +kernel) ⟨Nat.le_of_ble_eq_true rfl, Nat.le_of_ble_eq_true rfl⟩ rfl hl.1 rfl (Nat.le_of_ble_eq_true rfl) dn_Checker_expBegins_1 ⟨Nat.le_of_ble_eq_true rfl, Nat.le_of_ble_eq_true rfl⟩) hP hD hS hA (fun r_3 _ H locs hw hP hD hS => ?_)
  have hw : r_3 = q_1.1 := hw
  subst hw
  refine lv_if_eq (tgt := 8) hx hb dn_Checker_expBegins_4 (by decide) (fun h => ?_) (fun h => ?_)
  · have hf := (if_pos h).symm.trans hf
    refine lv_aload_n hx hb dn_Checker_expBegins_8 rfl (lv_at hl 0 rfl) ?_
    refine lv_iconst (v := 0) hx hb dn_Checker_expBegins_9 (by decide) ?_
    refine va_put (D := (dC, dI)) (ci := 4) (v := .int 0) (ty := .int) (C := rn_Checker) (T := fn_Checker) (N := 15) hx hb hg in_Checker tn_Checker tk_Checker nn_Checker hown hK hP hD hS 3 rfl rfl 10 (by decide) (hg _ wn_1_136) (fun _ h9 => h9) rfl (tk_Checker 10 (by decide)) rfl rfl (Nat.le_of_ble_eq_true rfl) dn_Checker_expBegins_10 (fun H locs hP hD hS => ?_)
    have hP := wC_P_239 hP
    have hD := wC_D_239 hD
    refine lv_aload_n hx hb dn_Checker_expBegins_13 rfl (lv_at hl 0 rfl) ?_
    refine lv_aload_n hx hb dn_Checker_expBegins_14 rfl (lv_at hl 0 rfl) ?_
    refine va_get (D := (dC, dI)) (ci := 4) (v := .ref ((a 111))) (C := rn_Checker) (T := fn_Checker) (N := 15) hx hb hg in_Checker hown hK hP 3 rfl rfl 2 (by decide) (hg _ wn_1_128) (fun _ h9 => h9) (congrArg some hv_3) dn_Checker_expBegins_15 ?_
    refine va_get (D := (dC, dI)) (ci := 12) (v := .int ((q_1.2.1 337 0))) (C := rn_Code) (T := fn_Code) (N := 5) hx hb hg in_Code hown hK hP 11 rfl rfl 1 (by decide) (hg _ wn_2_216) (fun _ h9 => h9) rfl dn_Checker_expBegins_18 ?_
    refine va_put (D := (dC, dI)) (ci := 4) (v := .int ((q_1.2.1 337 0))) (ty := .int) (C := rn_Checker) (T := fn_Checker) (N := 15) hx hb hg in_Checker tn_Checker tk_Checker nn_Checker hown hK hP hD hS 3 rfl rfl 11 (by decide) (hg _ wn_1_138) (fun _ h9 => h9) rfl (tk_Checker 11 (by decide)) rfl rfl (Nat.le_of_ble_eq_true rfl) dn_Checker_expBegins_21 (fun H locs hP hD hS => ?_)
    have hP := wC_P_240 hP
    have hD := wC_D_240 hD
    rw [hQQ, ← Option.some.inj hf]
    exact xk_vret (w1 := fun u : Unit => (wC a v cI cB cJ cZ cQ (upI (upI q_1.2 239 (fun _ => 0)) 240 (fun _ => (q_1.2.1 337 0))))) () hx hb hr hlocks hK hS dn_Checker_expBegins_24 hP hD trivial (Nat.le_refl _) (Nat.le_refl _)
  · have hf := (if_neg h).symm.trans hf
    rw [hQQ, ← Option.some.inj hf]
    exact xk_vret (w1 := fun u : Unit => (wC a v cI cB cJ cZ cQ q_1.2)) () hx hb hr hlocks hK hS dn_Checker_expBegins_7 hP hD trivial (Nat.le_refl _) (Nat.le_refl _)
set_option maxHeartbeats 8000000 in
set_option maxRecDepth 100000 in
theorem ct_Grammar_expFor_Gr (l : Launch) (dC : Nat → ClassId) (dI : Nat → Nat → Nat) (cI cB cJ cZ cQ : ClassId) (N sz : Nat) (a : Nat → Nat) (v : Nat → Value) (hv_3 : v 3 = .ref (a 111)) (v1 : Int32) (s : ms) (y : (Unit × ms)) (hf : fn_Grammar_expFor_Gr N v1 s = some y) : Met l yn_Grammar_expFor (xw yn_Grammar_expFor bn_Grammar_expFor 2 none) ({ frames := 2, cells := 0, slots := 0, locals := 40 }) (dc_P (dC, dI) xcl (xt cI cB cJ cZ cQ) [.ref ((a 105)), .int v1] sz (wC a v cI cB cJ cZ cQ s)) (xk_Qv (dC, dI) xcl (xt cI cB cJ cZ cQ) (fun _ : Unit => True) (fun u : Unit => (wC a v cI cB cJ cZ cQ y.2)) (va_A (wC a v cI cB cJ cZ cQ s) sz)) 0 0 (va_A (wC a v cI cB cJ cZ cQ s) sz) := by
  refine dc_of (QA := xk_Qv (dC, dI) xcl (xt cI cB cJ cZ cQ) (fun _ : Unit => True) (fun u : Unit => (wC a v cI cB cJ cZ cQ y.2))) (by decide) (Nat.le_of_ble_eq_true rfl) ?_
  intro p e s0 m below meth c hx hb hml hown hg hr hlocks hin hP hK hN A hA hD hT ls hl
  have hown : s0.vm.findClass rn_Grammar = some m.cls := hown
  obtain ⟨H, hH⟩ : ∃ z, z = s0.heap := ⟨_, rfl⟩
  rw [← hH] at hP
  have hS : va_S A s0.heap H [] := by rw [hH]; exact va_S.rf
  suffices kk : ∀ QQ : State → Prop, QQ = MQ below (xk_Qv (dC, dI) xcl (xt cI cB cJ cZ cQ) (fun _ : Unit => True) (fun u : Unit => (wC a v cI cB cJ cZ cQ y.2)) A) [.ref ((a 105)), .int v1].toArray s0 0 0 A → dcC p l e ({ frames := 2, cells := 0, slots := 0, locals := 40 }) s0 m [.ref ((a 105)), .int v1].toArray below meth c QQ (dC, dI) A (wC a v cI cB cJ cZ cQ s) 0 2 [(0, .ref ((a 105))), (1, .int v1)] [] by
    have k9 := kk _ rfl H [] ls hP hD hS hl
    rw [hH] at k9; exact k9
  clear hP hD hS hl hH H ls
  intro QQ hQQ
  intro H locs ls hP hD hS hl
  unfold fn_Grammar_expFor_Gr at hf
  refine lv_aload_n hx hb dn_Grammar_expFor_0 rfl (lv_at hl 0 rfl) ?_
  refine lv_iload_n hx hb dn_Grammar_expFor_1 rfl (lv_at hl 1 rfl) ?_
  refine va_put (D := (dC, dI)) (ci := 6) (v := .int v1) (ty := .int) (C := rn_Grammar) (T := fn_Grammar) (N := 15) hx hb hg in_Grammar tn_Grammar tk_Grammar nn_Grammar hown hK hP hD hS 5 rfl rfl 4 (by decide) (hg _ wn_2_4) (fun _ h9 => h9) rfl (tk_Grammar 4 (by decide)) rfl rfl (Nat.le_of_ble_eq_true rfl) dn_Grammar_expFor_2 (fun H locs hP hD hS => ?_)
  have hP := wC_P_265 hP
  have hD := wC_D_265 hD
  refine lv_aload_n hx hb dn_Grammar_expFor_5 rfl (lv_at hl 0 rfl) ?_
  refine lv_aload_n hx hb dn_Grammar_expFor_6 rfl (lv_at hl 0 rfl) ?_
  refine va_get (D := (dC, dI)) (ci := 6) (v := .ref ((a 101))) (C := rn_Grammar) (T := fn_Grammar) (N := 15) hx hb hg in_Grammar hown hK hP 5 rfl rfl 0 (by decide) (hg _ wn_2_0) (fun _ h9 => h9) rfl dn_Grammar_expFor_7 ?_
  refine va_get (D := (dC, dI)) (ci := 2) (v := .int ((s.1 215 0))) (C := rn_Tokens) (T := fn_Tokens) (N := 9) hx hb hg in_Tokens hown hK hP 1 rfl rfl 4 (by decide) (hg _ wn_1_52) (fun _ h9 => h9) rfl dn_Grammar_expFor_10 ?_
  refine va_put (D := (dC, dI)) (ci := 6) (v := .int ((s.1 215 0))) (ty := .int) (C := rn_Grammar) (T := fn_Grammar) (N := 15) hx hb hg in_Grammar tn_Grammar tk_Grammar nn_Grammar hown hK hP hD hS 5 rfl rfl 7 (by decide) (hg _ wn_2_7) (fun _ h9 => h9) rfl (tk_Grammar 7 (by decide)) rfl rfl (Nat.le_of_ble_eq_true rfl) dn_Grammar_expFor_13 (fun H locs hP hD hS => ?_)
  have hP := wC_P_268 hP
  have hD := wC_D_268 hD
  refine lv_aload_n hx hb dn_Grammar_expFor_16 rfl (lv_at hl 0 rfl) ?_
  refine lv_aload_n hx hb dn_Grammar_expFor_17 rfl (lv_at hl 0 rfl) ?_
  refine va_get (D := (dC, dI)) (ci := 6) (v := .ref ((a 101))) (C := rn_Grammar) (T := fn_Grammar) (N := 15) hx hb hg in_Grammar hown hK hP 5 rfl rfl 0 (by decide) (hg _ wn_2_0) (fun _ h9 => h9) rfl dn_Grammar_expFor_18 ?_
  refine va_get (D := (dC, dI)) (ci := 2) (v := .int ((s.1 213 0))) (C := rn_Tokens) (T := fn_Tokens) (N := 9) hx hb hg in_Tokens hown hK hP 1 rfl rfl 2 (by decide) (hg _ wn_1_49) (fun _ h9 => h9) rfl dn_Grammar_expFor_21 ?_
  refine va_put (D := (dC, dI)) (ci := 6) (v := .int ((s.1 213 0))) (ty := .int) (C := rn_Grammar) (T := fn_Grammar) (N := 15) hx hb hg in_Grammar tn_Grammar tk_Grammar nn_Grammar hown hK hP hD hS 5 rfl rfl 8 (by decide) (hg _ wn_2_8) (fun _ h9 => h9) rfl (tk_Grammar 8 (by decide)) rfl rfl (Nat.le_of_ble_eq_true rfl) dn_Grammar_expFor_24 (fun H locs hP hD hS => ?_)
  have hP := wC_P_269 hP
  have hD := wC_D_269 hD
  refine lv_aload_n hx hb dn_Grammar_expFor_27 rfl (lv_at hl 0 rfl) ?_
  refine lv_iconst (v := 0) hx hb dn_Grammar_expFor_28 (by decide) ?_
  refine va_put (D := (dC, dI)) (ci := 6) (v := .int 0) (ty := .int) (C := rn_Grammar) (T := fn_Grammar) (N := 15) hx hb hg in_Grammar tn_Grammar tk_Grammar nn_Grammar hown hK hP hD hS 5 rfl rfl 14 (by decide) (hg _ wn_2_14) (fun _ h9 => h9) rfl (tk_Grammar 14 (by decide)) rfl rfl (Nat.le_of_ble_eq_true rfl) dn_Grammar_expFor_29 (fun H locs hP hD hS => ?_)
  have hP := wC_P_275 hP
  have hD := wC_D_275 hD
  refine lv_aload_n hx hb dn_Grammar_expFor_32 rfl (lv_at hl 0 rfl) ?_
  refine va_get (D := (dC, dI)) (ci := 6) (v := .ref ((a 103))) (C := rn_Grammar) (T := fn_Grammar) (N := 15) hx hb hg in_Grammar hown hK hP 5 rfl rfl 1 (by decide) (hg _ wn_2_1) (fun _ h9 => h9) rfl dn_Grammar_expFor_33 ?_
  obtain ⟨q_1, hc_2, hf⟩ := dc_b hf
  refine dc_callv (dc_runV (ar := 0) (As := []) (rest := []) (ci := 4) (q0 := 3) ⟨hx, hb, hml, hown, hg⟩ hK hN hT hS hA (ct_Checker_expBegins_Ch l dC dI cI cB cJ cZ cQ N H.size a v hv_3 (upI (upI (upI (upI s 265 (fun _ => v1)) 268 (fun _ => (s.1 215 0))) 269 (fun _ => (s.1 213 0))) 275 (fun _ => 0)) q_1 hc_2) hP hD rfl rfl wn_5_50 wn_5_51 wn_5_52 wn_1_4 wn_5_53 rfl rfl (by decide +kernel) ⟨Nat.le_of_ble_eq_true rfl, Nat.le_of_ble_eq_true rfl⟩ rfl hl.1 rfl (Nat.le_of_ble_eq_true rfl) dn_Grammar_expFor_36 ⟨Nat.le_of_ble_eq_true rfl, Nat.le_of_ble_eq_true rfl⟩) hP hD hS hA (fun _ H locs hw hP hD hS => ?_)
  refine lv_aload_n hx hb dn_Grammar_expFor_39 rfl (lv_at hl 0 rfl) ?_
  refine lv_bipush (v := 6) hx hb dn_Grammar_expFor_40 (by decide) ?_
  refine va_put (D := (dC, dI)) (ci := 6) (v := .int 6) (ty := .int) (C := rn_Grammar) (T := fn_Grammar) (N := 15) hx hb hg in_Grammar tn_Grammar tk_Grammar nn_Grammar hown hK hP hD hS 5 rfl rfl 3 (by decide) (hg _ wn_2_3) (fun _ h9 => h9) rfl (tk_Grammar 3 (by decide)) rfl rfl (Nat.le_of_ble_eq_true rfl) dn_Grammar_expFor_42 (fun H locs hP hD hS => ?_)
  have hP := wC_P_264 hP
  have hD := wC_D_264 hD
  rw [hQQ, ← Option.some.inj hf]
  exact xk_vret (w1 := fun u : Unit => (wC a v cI cB cJ cZ cQ (upI q_1.2 264 (fun _ => 6)))) () hx hb hr hlocks hK hS dn_Grammar_expFor_45 hP hD trivial (Nat.le_refl _) (Nat.le_refl _)
set_option maxHeartbeats 8000000 in
set_option maxRecDepth 100000 in
theorem ct_Grammar_assignment_Gr (l : Launch) (dC : Nat → ClassId) (dI : Nat → Nat → Nat) (cI cB cJ cZ cQ : ClassId) (N sz : Nat) (a : Nat → Nat) (v : Nat → Value) (hv_2 : v 2 = .ref (a 110)) (hv_3 : v 3 = .ref (a 111)) (hv_5 : v 5 = .ref (a 110)) (hv_6 : v 6 = .ref (a 111)) (s : ms) (y : (Unit × ms)) (hf : fn_Grammar_assignment_Gr N s = some y) : Met l yn_Grammar_assignment (xw yn_Grammar_assignment bn_Grammar_assignment 1 none) ({ frames := 3, cells := 0, slots := 0, locals := 62 }) (dc_P (dC, dI) xcl (xt cI cB cJ cZ cQ) [.ref ((a 105))] sz (wC a v cI cB cJ cZ cQ s)) (xk_Qv (dC, dI) xcl (xt cI cB cJ cZ cQ) (fun _ : Unit => True) (fun u : Unit => (wC a v cI cB cJ cZ cQ y.2)) (va_A (wC a v cI cB cJ cZ cQ s) sz)) 0 0 (va_A (wC a v cI cB cJ cZ cQ s) sz) := by
  refine dc_of (QA := xk_Qv (dC, dI) xcl (xt cI cB cJ cZ cQ) (fun _ : Unit => True) (fun u : Unit => (wC a v cI cB cJ cZ cQ y.2))) (by decide) (Nat.le_of_ble_eq_true rfl) ?_
  intro p e s0 m below meth c hx hb hml hown hg hr hlocks hin hP hK hN A hA hD hT ls hl
  have hown : s0.vm.findClass rn_Grammar = some m.cls := hown
  obtain ⟨H, hH⟩ : ∃ z, z = s0.heap := ⟨_, rfl⟩
  rw [← hH] at hP
  have hS : va_S A s0.heap H [] := by rw [hH]; exact va_S.rf
  suffices kk : ∀ QQ : State → Prop, QQ = MQ below (xk_Qv (dC, dI) xcl (xt cI cB cJ cZ cQ) (fun _ : Unit => True) (fun u : Unit => (wC a v cI cB cJ cZ cQ y.2)) A) [.ref ((a 105))].toArray s0 0 0 A → dcC p l e ({ frames := 3, cells := 0, slots := 0, locals := 62 }) s0 m [.ref ((a 105))].toArray below meth c QQ (dC, dI) A (wC a v cI cB cJ cZ cQ s) 0 1 [(0, .ref ((a 105)))] [] by
    have k9 := kk _ rfl H [] ls hP hD hS hl
    rw [hH] at k9; exact k9
  clear hP hD hS hl hH H ls
  intro QQ hQQ
  have bl_39 : ∀ (s : ms), bk_Grammar_assignment_Gr_39 N s = some y → dcC p l e ({ frames := 3, cells := 0, slots := 0, locals := 62 }) s0 m [.ref ((a 105))].toArray below meth c QQ (dC, dI) A (wC a v cI cB cJ cZ cQ s) 39 1 [(0, .ref ((a 105)))] [] := by
    intro s hf H locs ls hP hD hS hl
    unfold bk_Grammar_assignment_Gr_39 at hf
    refine lv_aload_n hx hb dn_Grammar_assignment_39 rfl (lv_at hl 0 rfl) ?_
    refine va_get (D := (dC, dI)) (ci := 6) (v := .ref ((a 101))) (C := rn_Grammar) (T := fn_Grammar) (N := 15) hx hb hg in_Grammar hown hK hP 5 rfl rfl 0 (by decide) (hg _ wn_2_0) (fun _ h9 => h9) rfl dn_Grammar_assignment_40 ?_
    obtain ⟨q_1, hc_2, hf⟩ := dc_b hf
    refine dc_callv (dc_runV (ar := 0) (As := []) (rest := []) (ci := 2) (q0 := 1) ⟨hx, hb, hml, hown, hg⟩ hK hN hT hS hA (ct_Tokens_take_Tk l dC dI cI cB cJ cZ cQ N H.size a v s q_1 hc_2) hP hD rfl rfl wn_4_213 wn_4_149 wn_4_150 wn_1_2 wn_4_151 rfl rfl (by decide +kernel) ⟨Nat.le_of_ble_eq_true rfl, Nat.le_of_ble_eq_true rfl⟩ rfl hl.1 rfl (Nat.le_of_ble_eq_true rfl) dn_Grammar_assignment_43 ⟨Nat.le_of_ble_eq_true rfl, Nat.le_of_ble_eq_true rfl⟩) hP hD hS hA (fun _ H locs hw hP hD hS => ?_)
    refine lv_aload_n hx hb dn_Grammar_assignment_46 rfl (lv_at hl 0 rfl) ?_
    refine lv_aload_n hx hb dn_Grammar_assignment_47 rfl (lv_at hl 0 rfl) ?_
    refine va_get (D := (dC, dI)) (ci := 6) (v := .ref ((a 101))) (C := rn_Grammar) (T := fn_Grammar) (N := 15) hx hb hg in_Grammar hown hK hP 5 rfl rfl 0 (by decide) (hg _ wn_2_0) (fun _ h9 => h9) rfl dn_Grammar_assignment_48 ?_
    refine va_get (D := (dC, dI)) (ci := 2) (v := .int ((q_1.2.1 215 0))) (C := rn_Tokens) (T := fn_Tokens) (N := 9) hx hb hg in_Tokens hown hK hP 1 rfl rfl 4 (by decide) (hg _ wn_1_52) (fun _ h9 => h9) rfl dn_Grammar_assignment_51 ?_
    refine va_put (D := (dC, dI)) (ci := 6) (v := .int ((q_1.2.1 215 0))) (ty := .int) (C := rn_Grammar) (T := fn_Grammar) (N := 15) hx hb hg in_Grammar tn_Grammar tk_Grammar nn_Grammar hown hK hP hD hS 5 rfl rfl 5 (by decide) (hg _ wn_2_5) (fun _ h9 => h9) rfl (tk_Grammar 5 (by decide)) rfl rfl (Nat.le_of_ble_eq_true rfl) dn_Grammar_assignment_54 (fun H locs hP hD hS => ?_)
    have hP := wC_P_266 hP
    have hD := wC_D_266 hD
    refine lv_aload_n hx hb dn_Grammar_assignment_57 rfl (lv_at hl 0 rfl) ?_
    refine va_get (D := (dC, dI)) (ci := 6) (v := .ref ((a 101))) (C := rn_Grammar) (T := fn_Grammar) (N := 15) hx hb hg in_Grammar hown hK hP 5 rfl rfl 0 (by decide) (hg _ wn_2_0) (fun _ h9 => h9) rfl dn_Grammar_assignment_58 ?_
    refine lv_bipush (v := 61) hx hb dn_Grammar_assignment_61 (by decide) ?_
    obtain ⟨q_3, hc_4, hf⟩ := dc_b hf
    refine dc_callv (dc_runV (ar := 1) (As := [.int 61]) (rest := []) (ci := 2) (q0 := 1) ⟨hx, hb, hml, hown, hg⟩ hK hN hT hS hA (ct_Tokens_need_Tk l dC dI cI cB cJ cZ cQ N H.size a v 61 (upI q_1.2 266 (fun _ => (q_1.2.1 215 0))) q_3 hc_4) hP hD rfl rfl wn_4_173 wn_4_174 wn_4_175 wn_1_2 wn_4_176 rfl rfl (by decide +kernel) ⟨Nat.le_of_ble_eq_true rfl, Nat.le_of_ble_eq_true rfl⟩ rfl hl.1 rfl (Nat.le_of_ble_eq_true rfl) dn_Grammar_assignment_63 ⟨Nat.le_of_ble_eq_true rfl, Nat.le_of_ble_eq_true rfl⟩) hP hD hS hA (fun _ H locs hw hP hD hS => ?_)
    refine lv_aload_n hx hb dn_Grammar_assignment_66 rfl (lv_at hl 0 rfl) ?_
    refine lv_sipush (v := 134) hx hb dn_Grammar_assignment_67 (by decide) ?_
    obtain ⟨q_5, hc_6, hf⟩ := dc_b hf
    refine dc_callv (dc_runV (ar := 1) (As := [.int 134]) (rest := []) (ci := 6) (q0 := 5) ⟨hx, hb, hml, hown, hg⟩ hK hN hT hS hA (ct_Grammar_expFor_Gr l dC dI cI cB cJ cZ cQ N H.size a v hv_3 134 q_3.2 q_5 hc_6) hP hD rfl rfl wn_5_46 wn_5_48 sn_Grammar_expFor wn_1_5 wn_5_49 rfl rfl (by decide +kernel) ⟨Nat.le_of_ble_eq_true rfl, Nat.le_of_ble_eq_true rfl⟩ rfl hl.1 rfl (Nat.le_of_ble_eq_true rfl) dn_Grammar_assignment_70 ⟨Nat.le_of_ble_eq_true rfl, Nat.le_of_ble_eq_true rfl⟩) hP hD hS hA (fun _ H locs hw hP hD hS => ?_)
    rw [hQQ, ← Option.some.inj hf]
    exact xk_vret (w1 := fun u : Unit => (wC a v cI cB cJ cZ cQ q_5.2)) () hx hb hr hlocks hK hS dn_Grammar_assignment_73 hP hD trivial (Nat.le_refl _) (Nat.le_refl _)
  intro H locs ls hP hD hS hl
  unfold fn_Grammar_assignment_Gr at hf
  refine lv_aload_n hx hb dn_Grammar_assignment_0 rfl (lv_at hl 0 rfl) ?_
  refine va_get (D := (dC, dI)) (ci := 6) (v := .ref ((a 101))) (C := rn_Grammar) (T := fn_Grammar) (N := 15) hx hb hg in_Grammar hown hK hP 5 rfl rfl 0 (by decide) (hg _ wn_2_0) (fun _ h9 => h9) rfl dn_Grammar_assignment_1 ?_
  obtain ⟨q_1, hc_2, hf⟩ := dc_b hf
  refine dc_callv (dc_runV (ar := 0) (As := []) (rest := []) (ci := 2) (q0 := 1) ⟨hx, hb, hml, hown, hg⟩ hK hN hT hS hA (ct_Tokens_take_Tk l dC dI cI cB cJ cZ cQ N H.size a v s q_1 hc_2) hP hD rfl rfl wn_4_213 wn_4_149 wn_4_150 wn_1_2 wn_4_151 rfl rfl (by decide +kernel) ⟨Nat.le_of_ble_eq_true rfl, Nat.le_of_ble_eq_true rfl⟩ rfl hl.1 rfl (Nat.le_of_ble_eq_true rfl) dn_Grammar_assignment_4 ⟨Nat.le_of_ble_eq_true rfl, Nat.le_of_ble_eq_true rfl⟩) hP hD hS hA (fun _ H locs hw hP hD hS => ?_)
  refine lv_aload_n hx hb dn_Grammar_assignment_7 rfl (lv_at hl 0 rfl) ?_
  refine va_get (D := (dC, dI)) (ci := 6) (v := .ref ((a 101))) (C := rn_Grammar) (T := fn_Grammar) (N := 15) hx hb hg in_Grammar hown hK hP 5 rfl rfl 0 (by decide) (hg _ wn_2_0) (fun _ h9 => h9) rfl dn_Grammar_assignment_8 ?_
  refine lv_iconst (v := 2) hx hb dn_Grammar_assignment_11 (by decide) ?_
  obtain ⟨q_3, hc_4, hf⟩ := dc_b hf
  refine dc_calli (dc_runV (ar := 1) (As := [.int 2]) (rest := []) (ci := 2) (q0 := 1) ⟨hx, hb, hml, hown, hg⟩ hK hN hT hS hA (ct_Tokens_due_Tk l dC dI cI cB cJ cZ cQ N H.size a v 2 q_1.2 q_3 hc_4) hP hD rfl rfl wn_4_185 wn_4_186 wn_4_187 wn_1_2 wn_4_188 rfl rfl (by decide +kernel) ⟨Nat.le_of_ble_eq_true rfl, Nat.le_of_ble_eq_true rfl⟩ rfl hl.1 rfl (Nat.le_of_ble_eq_true rfl) dn_Grammar_assignment_12 ⟨Nat.le_of_ble_eq_true rfl, Nat.le_of_ble_eq_true rfl⟩) hP hD hS hA (fun r_5 _ H locs hw hP hD hS => ?_)
  have hw : r_5 = q_3.1 := hw
  subst hw
  refine lv_if_eq (tgt := 39) hx hb dn_Grammar_assignment_15 (by decide) (fun h => ?_) (fun h => ?_)
  · have hf := (if_pos h).symm.trans hf
    exact bl_39 q_3.2 hf H locs ls hP hD hS hl
  · have hf := (if_neg h).symm.trans hf
    refine lv_aload_n hx hb dn_Grammar_assignment_18 rfl (lv_at hl 0 rfl) ?_
    refine va_get (D := (dC, dI)) (ci := 6) (v := .ref ((a 104))) (C := rn_Grammar) (T := fn_Grammar) (N := 15) hx hb hg in_Grammar hown hK hP 5 rfl rfl 2 (by decide) (hg _ wn_2_2) (fun _ h9 => h9) rfl dn_Grammar_assignment_19 ?_
    refine lv_aload_n hx hb dn_Grammar_assignment_22 rfl (lv_at hl 0 rfl) ?_
    refine va_get (D := (dC, dI)) (ci := 6) (v := .ref ((a 101))) (C := rn_Grammar) (T := fn_Grammar) (N := 15) hx hb hg in_Grammar hown hK hP 5 rfl rfl 0 (by decide) (hg _ wn_2_0) (fun _ h9 => h9) rfl dn_Grammar_assignment_23 ?_
    refine va_get (D := (dC, dI)) (ci := 2) (v := .int ((q_3.2.1 216 0))) (C := rn_Tokens) (T := fn_Tokens) (N := 9) hx hb hg in_Tokens hown hK hP 1 rfl rfl 5 (by decide) (hg _ wn_1_54) (fun _ h9 => h9) rfl dn_Grammar_assignment_26 ?_
    refine lv_aload_n hx hb dn_Grammar_assignment_29 rfl (lv_at hl 0 rfl) ?_
    refine va_get (D := (dC, dI)) (ci := 6) (v := .ref ((a 101))) (C := rn_Grammar) (T := fn_Grammar) (N := 15) hx hb hg in_Grammar hown hK hP 5 rfl rfl 0 (by decide) (hg _ wn_2_0) (fun _ h9 => h9) rfl dn_Grammar_assignment_30 ?_
    refine va_get (D := (dC, dI)) (ci := 2) (v := .int ((q_3.2.1 215 0))) (C := rn_Tokens) (T := fn_Tokens) (N := 9) hx hb hg in_Tokens hown hK hP 1 rfl rfl 4 (by decide) (hg _ wn_1_52) (fun _ h9 => h9) rfl dn_Grammar_assignment_33 ?_
    obtain ⟨q_6, hc_7, hf⟩ := dc_b hf
    refine dc_callv (dc_runV (ar := 2) (As := [.int ((q_3.2.1 216 0)), .int ((q_3.2.1 215 0))]) (rest := []) (ci := 5) (q0 := 4) ⟨hx, hb, hml, hown, hg⟩ hK hN hT hS hA (ct_Meaning_assignTo_Me l dC dI cI cB cJ cZ cQ N H.size a v hv_2 hv_5 hv_6 ((q_3.2.1 216 0)) ((q_3.2.1 215 0)) q_3.2 q_6 hc_7) hP hD rfl rfl wn_5_38 wn_5_39 wn_5_40 wn_1_6 wn_5_41 rfl rfl (by decide +kernel) ⟨Nat.le_of_ble_eq_true rfl, Nat.le_of_ble_eq_true rfl⟩ rfl hl.1 rfl (Nat.le_of_ble_eq_true rfl) dn_Grammar_assignment_36 ⟨Nat.le_of_ble_eq_true rfl, Nat.le_of_ble_eq_true rfl⟩) hP hD hS hA (fun _ H locs hw hP hD hS => ?_)
    exact bl_39 q_6.2 hf H locs ls hP hD hS hl
set_option maxHeartbeats 8000000 in
set_option maxRecDepth 100000 in
theorem ct_Meaning_always_Me (l : Launch) (dC : Nat → ClassId) (dI : Nat → Nat → Nat) (cI cB cJ cZ cQ : ClassId) (N sz : Nat) (a : Nat → Nat) (v : Nat → Value) (hv_6 : v 6 = .ref (a 111)) (s : ms) (y : (Unit × ms)) (hf : fn_Meaning_always_Me N s = some y) : Met l yn_Meaning_always (xw yn_Meaning_always bn_Meaning_always 1 none) ({ frames := 1, cells := 0, slots := 0, locals := 20 }) (dc_P (dC, dI) xcl (xt cI cB cJ cZ cQ) [.ref ((a 104))] sz (wC a v cI cB cJ cZ cQ s)) (xk_Qv (dC, dI) xcl (xt cI cB cJ cZ cQ) (fun _ : Unit => True) (fun u : Unit => (wC a v cI cB cJ cZ cQ y.2)) (va_A (wC a v cI cB cJ cZ cQ s) sz)) 0 0 (va_A (wC a v cI cB cJ cZ cQ s) sz) := by
  refine dc_of (QA := xk_Qv (dC, dI) xcl (xt cI cB cJ cZ cQ) (fun _ : Unit => True) (fun u : Unit => (wC a v cI cB cJ cZ cQ y.2))) (by decide) (Nat.le_of_ble_eq_true rfl) ?_
  intro p e s0 m below meth c hx hb hml hown hg hr hlocks hin hP hK hN A hA hD hT ls hl
  have hown : s0.vm.findClass rn_Meaning = some m.cls := hown
  obtain ⟨H, hH⟩ : ∃ z, z = s0.heap := ⟨_, rfl⟩
  rw [← hH] at hP
  have hS : va_S A s0.heap H [] := by rw [hH]; exact va_S.rf
  suffices kk : ∀ QQ : State → Prop, QQ = MQ below (xk_Qv (dC, dI) xcl (xt cI cB cJ cZ cQ) (fun _ : Unit => True) (fun u : Unit => (wC a v cI cB cJ cZ cQ y.2)) A) [.ref ((a 104))].toArray s0 0 0 A → dcC p l e ({ frames := 1, cells := 0, slots := 0, locals := 20 }) s0 m [.ref ((a 104))].toArray below meth c QQ (dC, dI) A (wC a v cI cB cJ cZ cQ s) 0 1 [(0, .ref ((a 104)))] [] by
    have k9 := kk _ rfl H [] ls hP hD hS hl
    rw [hH] at k9; exact k9
  clear hP hD hS hl hH H ls
  intro QQ hQQ
  intro H locs ls hP hD hS hl
  unfold fn_Meaning_always_Me at hf
  refine lv_aload_n hx hb dn_Meaning_always_0 rfl (lv_at hl 0 rfl) ?_
  refine va_get (D := (dC, dI)) (ci := 5) (v := .ref ((a 103))) (C := rn_Meaning) (T := fn_Meaning) (N := 17) hx hb hg in_Meaning hown hK hP 4 rfl rfl 0 (by decide) (hg _ wn_1_184) (fun _ h9 => h9) rfl dn_Meaning_always_1 ?_
  obtain ⟨q_1, hc_2, hf⟩ := dc_b hf
  refine dc_calli (dc_runV (ar := 0) (As := []) (rest := []) (ci := 4) (q0 := 3) ⟨hx, hb, hml, hown, hg⟩ hK hN hT hS hA (ct_Checker_isOff_Ch l dC dI cI cB cJ cZ cQ N H.size a v s q_1 hc_2) hP hD rfl rfl wn_4_193 wn_4_194 wn_4_195 wn_1_4 wn_4_196 rfl rfl (by decide +kernel) ⟨Nat.le_of_ble_eq_true rfl, Nat.le_of_ble_eq_true rfl⟩ rfl hl.1 rfl (Nat.le_of_ble_eq_true rfl) dn_Meaning_always_4 ⟨Nat.le_of_ble_eq_true rfl, Nat.le_of_ble_eq_true rfl⟩) hP hD hS hA (fun r_3 _ H locs hw hP hD hS => ?_)
  have hw : r_3 = q_1.1 := hw
  subst hw
  refine lv_if_eq (tgt := 11) hx hb dn_Meaning_always_7 (by decide) (fun h => ?_) (fun h => ?_)
  · have hf := (if_pos h).symm.trans hf
    refine lv_aload_n hx hb dn_Meaning_always_11 rfl (lv_at hl 0 rfl) ?_
    refine lv_dup hx hb dn_Meaning_always_12 rfl ?_
    refine va_get (D := (dC, dI)) (ci := 5) (v := .int ((q_1.2.1 253 0))) (C := rn_Meaning) (T := fn_Meaning) (N := 17) hx hb hg in_Meaning hown hK hP 4 rfl rfl 9 (by decide) (hg _ wn_1_193) (fun _ h9 => h9) rfl dn_Meaning_always_13 ?_
    refine lv_iconst (v := 1) hx hb dn_Meaning_always_16 (by decide) ?_
    refine lv_iadd hx hb dn_Meaning_always_17 ?_
    refine va_put (D := (dC, dI)) (ci := 5) (v := .int (((q_1.2.1 253 0) + 1))) (ty := .int) (C := rn_Meaning) (T := fn_Meaning) (N := 17) hx hb hg in_Meaning tn_Meaning tk_Meaning nn_Meaning hown hK hP hD hS 4 rfl rfl 9 (by decide) (hg _ wn_1_193) (fun _ h9 => h9) rfl (tk_Meaning 9 (by decide)) rfl rfl (Nat.le_of_ble_eq_true rfl) dn_Meaning_always_18 (fun H locs hP hD hS => ?_)
    have hP := wC_P_253 hP
    have hD := wC_D_253 hD
    refine lv_aload_n hx hb dn_Meaning_always_21 rfl (lv_at hl 0 rfl) ?_
    refine lv_aload_n hx hb dn_Meaning_always_22 rfl (lv_at hl 0 rfl) ?_
    refine va_get (D := (dC, dI)) (ci := 5) (v := .ref ((a 111))) (C := rn_Meaning) (T := fn_Meaning) (N := 17) hx hb hg in_Meaning hown hK hP 4 rfl rfl 3 (by decide) (hg _ wn_1_187) (fun _ h9 => h9) (congrArg some hv_6) dn_Meaning_always_23 ?_
    refine va_get (D := (dC, dI)) (ci := 12) (v := .int ((q_1.2.1 337 0))) (C := rn_Code) (T := fn_Code) (N := 5) hx hb hg in_Code hown hK hP 11 rfl rfl 1 (by decide) (hg _ wn_2_214) (fun _ h9 => h9) rfl dn_Meaning_always_26 ?_
    refine va_put (D := (dC, dI)) (ci := 5) (v := .int ((q_1.2.1 337 0))) (ty := .int) (C := rn_Meaning) (T := fn_Meaning) (N := 17) hx hb hg in_Meaning tn_Meaning tk_Meaning nn_Meaning hown hK hP hD hS 4 rfl rfl 10 (by decide) (hg _ wn_1_194) (fun _ h9 => h9) rfl (tk_Meaning 10 (by decide)) rfl rfl (Nat.le_of_ble_eq_true rfl) dn_Meaning_always_29 (fun H locs hP hD hS => ?_)
    have hP := wC_P_254 hP
    have hD := wC_D_254 hD
    refine lv_aload_n hx hb dn_Meaning_always_32 rfl (lv_at hl 0 rfl) ?_
    refine lv_iconst (v := 0) hx hb dn_Meaning_always_33 (by decide) ?_
    refine va_put (D := (dC, dI)) (ci := 5) (v := .int 0) (ty := .boolean) (C := rn_Meaning) (T := fn_Meaning) (N := 17) hx hb hg in_Meaning tn_Meaning tk_Meaning nn_Meaning hown hK hP hD hS 4 rfl rfl 11 (by decide) (hg _ wn_1_195) (fun _ h9 => h9) rfl (tk_Meaning 11 (by decide)) rfl rfl (Nat.le_of_ble_eq_true rfl) dn_Meaning_always_34 (fun H locs hP hD hS => ?_)
    have hP := wC_P_255 hP
    have hD := wC_D_255 hD
    rw [hQQ, ← Option.some.inj hf]
    exact xk_vret (w1 := fun u : Unit => (wC a v cI cB cJ cZ cQ (upI (upI (upI q_1.2 253 (fun _ => ((q_1.2.1 253 0) + 1))) 254 (fun _ => (q_1.2.1 337 0))) 255 (fun _ => 0)))) () hx hb hr hlocks hK hS dn_Meaning_always_37 hP hD trivial (Nat.le_refl _) (Nat.le_refl _)
  · have hf := (if_neg h).symm.trans hf
    rw [hQQ, ← Option.some.inj hf]
    exact xk_vret (w1 := fun u : Unit => (wC a v cI cB cJ cZ cQ q_1.2)) () hx hb hr hlocks hK hS dn_Meaning_always_10 hP hD trivial (Nat.le_refl _) (Nat.le_refl _)
set_option maxHeartbeats 8000000 in
set_option maxRecDepth 100000 in
theorem ct_Grammar_always_Gr (l : Launch) (dC : Nat → ClassId) (dI : Nat → Nat → Nat) (cI cB cJ cZ cQ : ClassId) (N sz : Nat) (a : Nat → Nat) (v : Nat → Value) (hv_6 : v 6 = .ref (a 111)) (s : ms) (y : (Unit × ms)) (hf : fn_Grammar_always_Gr N s = some y) : Met l yn_Grammar_always (xw yn_Grammar_always bn_Grammar_always 1 none) ({ frames := 3, cells := 0, slots := 0, locals := 62 }) (dc_P (dC, dI) xcl (xt cI cB cJ cZ cQ) [.ref ((a 105))] sz (wC a v cI cB cJ cZ cQ s)) (xk_Qv (dC, dI) xcl (xt cI cB cJ cZ cQ) (fun _ : Unit => True) (fun u : Unit => (wC a v cI cB cJ cZ cQ y.2)) (va_A (wC a v cI cB cJ cZ cQ s) sz)) 0 0 (va_A (wC a v cI cB cJ cZ cQ s) sz) := by
  refine dc_of (QA := xk_Qv (dC, dI) xcl (xt cI cB cJ cZ cQ) (fun _ : Unit => True) (fun u : Unit => (wC a v cI cB cJ cZ cQ y.2))) (by decide) (Nat.le_of_ble_eq_true rfl) ?_
  intro p e s0 m below meth c hx hb hml hown hg hr hlocks hin hP hK hN A hA hD hT ls hl
  have hown : s0.vm.findClass rn_Grammar = some m.cls := hown
  obtain ⟨H, hH⟩ : ∃ z, z = s0.heap := ⟨_, rfl⟩
  rw [← hH] at hP
  have hS : va_S A s0.heap H [] := by rw [hH]; exact va_S.rf
  suffices kk : ∀ QQ : State → Prop, QQ = MQ below (xk_Qv (dC, dI) xcl (xt cI cB cJ cZ cQ) (fun _ : Unit => True) (fun u : Unit => (wC a v cI cB cJ cZ cQ y.2)) A) [.ref ((a 105))].toArray s0 0 0 A → dcC p l e ({ frames := 3, cells := 0, slots := 0, locals := 62 }) s0 m [.ref ((a 105))].toArray below meth c QQ (dC, dI) A (wC a v cI cB cJ cZ cQ s) 0 1 [(0, .ref ((a 105)))] [] by
    have k9 := kk _ rfl H [] ls hP hD hS hl
    rw [hH] at k9; exact k9
  clear hP hD hS hl hH H ls
  intro QQ hQQ
  intro H locs ls hP hD hS hl
  unfold fn_Grammar_always_Gr at hf
  refine lv_aload_n hx hb dn_Grammar_always_0 rfl (lv_at hl 0 rfl) ?_
  refine va_get (D := (dC, dI)) (ci := 6) (v := .ref ((a 101))) (C := rn_Grammar) (T := fn_Grammar) (N := 15) hx hb hg in_Grammar hown hK hP 5 rfl rfl 0 (by decide) (hg _ wn_2_0) (fun _ h9 => h9) rfl dn_Grammar_always_1 ?_
  obtain ⟨q_1, hc_2, hf⟩ := dc_b hf
  refine dc_callv (dc_runV (ar := 0) (As := []) (rest := []) (ci := 2) (q0 := 1) ⟨hx, hb, hml, hown, hg⟩ hK hN hT hS hA (ct_Tokens_take_Tk l dC dI cI cB cJ cZ cQ N H.size a v s q_1 hc_2) hP hD rfl rfl wn_4_213 wn_4_149 wn_4_150 wn_1_2 wn_4_151 rfl rfl (by decide +kernel) ⟨Nat.le_of_ble_eq_true rfl, Nat.le_of_ble_eq_true rfl⟩ rfl hl.1 rfl (Nat.le_of_ble_eq_true rfl) dn_Grammar_always_4 ⟨Nat.le_of_ble_eq_true rfl, Nat.le_of_ble_eq_true rfl⟩) hP hD hS hA (fun _ H locs hw hP hD hS => ?_)
  refine lv_aload_n hx hb dn_Grammar_always_7 rfl (lv_at hl 0 rfl) ?_
  refine va_get (D := (dC, dI)) (ci := 6) (v := .ref ((a 101))) (C := rn_Grammar) (T := fn_Grammar) (N := 15) hx hb hg in_Grammar hown hK hP 5 rfl rfl 0 (by decide) (hg _ wn_2_0) (fun _ h9 => h9) rfl dn_Grammar_always_8 ?_
  refine lv_bipush (v := 64) hx hb dn_Grammar_always_11 (by decide) ?_
  obtain ⟨q_3, hc_4, hf⟩ := dc_b hf
  refine dc_callv (dc_runV (ar := 1) (As := [.int 64]) (rest := []) (ci := 2) (q0 := 1) ⟨hx, hb, hml, hown, hg⟩ hK hN hT hS hA (ct_Tokens_need_Tk l dC dI cI cB cJ cZ cQ N H.size a v 64 q_1.2 q_3 hc_4) hP hD rfl rfl wn_4_173 wn_4_174 wn_4_175 wn_1_2 wn_4_176 rfl rfl (by decide +kernel) ⟨Nat.le_of_ble_eq_true rfl, Nat.le_of_ble_eq_true rfl⟩ rfl hl.1 rfl (Nat.le_of_ble_eq_true rfl) dn_Grammar_always_13 ⟨Nat.le_of_ble_eq_true rfl, Nat.le_of_ble_eq_true rfl⟩) hP hD hS hA (fun _ H locs hw hP hD hS => ?_)
  refine lv_aload_n hx hb dn_Grammar_always_16 rfl (lv_at hl 0 rfl) ?_
  refine va_get (D := (dC, dI)) (ci := 6) (v := .ref ((a 101))) (C := rn_Grammar) (T := fn_Grammar) (N := 15) hx hb hg in_Grammar hown hK hP 5 rfl rfl 0 (by decide) (hg _ wn_2_0) (fun _ h9 => h9) rfl dn_Grammar_always_17 ?_
  refine lv_bipush (v := 40) hx hb dn_Grammar_always_20 (by decide) ?_
  obtain ⟨q_5, hc_6, hf⟩ := dc_b hf
  refine dc_callv (dc_runV (ar := 1) (As := [.int 40]) (rest := []) (ci := 2) (q0 := 1) ⟨hx, hb, hml, hown, hg⟩ hK hN hT hS hA (ct_Tokens_open_Tk l dC dI cI cB cJ cZ cQ N H.size a v 40 q_3.2 q_5 hc_6) hP hD rfl rfl wn_4_214 wn_4_215 wn_4_216 wn_1_2 wn_4_217 rfl rfl (by decide +kernel) ⟨Nat.le_of_ble_eq_true rfl, Nat.le_of_ble_eq_true rfl⟩ rfl hl.1 rfl (Nat.le_of_ble_eq_true rfl) dn_Grammar_always_22 ⟨Nat.le_of_ble_eq_true rfl, Nat.le_of_ble_eq_true rfl⟩) hP hD hS hA (fun _ H locs hw hP hD hS => ?_)
  refine lv_aload_n hx hb dn_Grammar_always_25 rfl (lv_at hl 0 rfl) ?_
  refine va_get (D := (dC, dI)) (ci := 6) (v := .ref ((a 101))) (C := rn_Grammar) (T := fn_Grammar) (N := 15) hx hb hg in_Grammar hown hK hP 5 rfl rfl 0 (by decide) (hg _ wn_2_0) (fun _ h9 => h9) rfl dn_Grammar_always_26 ?_
  refine lv_sipush (v := 136) hx hb dn_Grammar_always_29 (by decide) ?_
  obtain ⟨q_7, hc_8, hf⟩ := dc_b hf
  refine dc_callv (dc_runV (ar := 1) (As := [.int 136]) (rest := []) (ci := 2) (q0 := 1) ⟨hx, hb, hml, hown, hg⟩ hK hN hT hS hA (ct_Tokens_need_Tk l dC dI cI cB cJ cZ cQ N H.size a v 136 q_5.2 q_7 hc_8) hP hD rfl rfl wn_4_173 wn_4_174 wn_4_175 wn_1_2 wn_4_176 rfl rfl (by decide +kernel) ⟨Nat.le_of_ble_eq_true rfl, Nat.le_of_ble_eq_true rfl⟩ rfl hl.1 rfl (Nat.le_of_ble_eq_true rfl) dn_Grammar_always_32 ⟨Nat.le_of_ble_eq_true rfl, Nat.le_of_ble_eq_true rfl⟩) hP hD hS hA (fun _ H locs hw hP hD hS => ?_)
  refine lv_aload_n hx hb dn_Grammar_always_35 rfl (lv_at hl 0 rfl) ?_
  refine va_get (D := (dC, dI)) (ci := 6) (v := .ref ((a 101))) (C := rn_Grammar) (T := fn_Grammar) (N := 15) hx hb hg in_Grammar hown hK hP 5 rfl rfl 0 (by decide) (hg _ wn_2_0) (fun _ h9 => h9) rfl dn_Grammar_always_36 ?_
  refine lv_sipush (v := 137) hx hb dn_Grammar_always_39 (by decide) ?_
  obtain ⟨q_9, hc_10, hf⟩ := dc_b hf
  refine dc_callv (dc_runV (ar := 1) (As := [.int 137]) (rest := []) (ci := 2) (q0 := 1) ⟨hx, hb, hml, hown, hg⟩ hK hN hT hS hA (ct_Tokens_need_Tk l dC dI cI cB cJ cZ cQ N H.size a v 137 q_7.2 q_9 hc_10) hP hD rfl rfl wn_4_173 wn_4_174 wn_4_175 wn_1_2 wn_4_176 rfl rfl (by decide +kernel) ⟨Nat.le_of_ble_eq_true rfl, Nat.le_of_ble_eq_true rfl⟩ rfl hl.1 rfl (Nat.le_of_ble_eq_true rfl) dn_Grammar_always_42 ⟨Nat.le_of_ble_eq_true rfl, Nat.le_of_ble_eq_true rfl⟩) hP hD hS hA (fun _ H locs hw hP hD hS => ?_)
  refine lv_aload_n hx hb dn_Grammar_always_45 rfl (lv_at hl 0 rfl) ?_
  refine va_get (D := (dC, dI)) (ci := 6) (v := .ref ((a 101))) (C := rn_Grammar) (T := fn_Grammar) (N := 15) hx hb hg in_Grammar hown hK hP 5 rfl rfl 0 (by decide) (hg _ wn_2_0) (fun _ h9 => h9) rfl dn_Grammar_always_46 ?_
  refine lv_bipush (v := 41) hx hb dn_Grammar_always_49 (by decide) ?_
  obtain ⟨q_11, hc_12, hf⟩ := dc_b hf
  refine dc_callv (dc_runV (ar := 1) (As := [.int 41]) (rest := []) (ci := 2) (q0 := 1) ⟨hx, hb, hml, hown, hg⟩ hK hN hT hS hA (ct_Tokens_shut_Tk l dC dI cI cB cJ cZ cQ N H.size a v 41 q_9.2 q_11 hc_12) hP hD rfl rfl wn_4_226 wn_4_227 wn_4_228 wn_1_2 wn_4_229 rfl rfl (by decide +kernel) ⟨Nat.le_of_ble_eq_true rfl, Nat.le_of_ble_eq_true rfl⟩ rfl hl.1 rfl (Nat.le_of_ble_eq_true rfl) dn_Grammar_always_51 ⟨Nat.le_of_ble_eq_true rfl, Nat.le_of_ble_eq_true rfl⟩) hP hD hS hA (fun _ H locs hw hP hD hS => ?_)
  refine lv_aload_n hx hb dn_Grammar_always_54 rfl (lv_at hl 0 rfl) ?_
  refine va_get (D := (dC, dI)) (ci := 6) (v := .ref ((a 104))) (C := rn_Grammar) (T := fn_Grammar) (N := 15) hx hb hg in_Grammar hown hK hP 5 rfl rfl 2 (by decide) (hg _ wn_2_2) (fun _ h9 => h9) rfl dn_Grammar_always_55 ?_
  obtain ⟨q_13, hc_14, hf⟩ := dc_b hf
  refine dc_callv (dc_runV (ar := 0) (As := []) (rest := []) (ci := 5) (q0 := 4) ⟨hx, hb, hml, hown, hg⟩ hK hN hT hS hA (ct_Meaning_always_Me l dC dI cI cB cJ cZ cQ N H.size a v hv_6 q_11.2 q_13 hc_14) hP hD rfl rfl wn_5_59 wn_5_60 wn_5_61 wn_1_6 wn_5_62 rfl rfl (by decide +kernel) ⟨Nat.le_of_ble_eq_true rfl, Nat.le_of_ble_eq_true rfl⟩ rfl hl.1 rfl (Nat.le_of_ble_eq_true rfl) dn_Grammar_always_58 ⟨Nat.le_of_ble_eq_true rfl, Nat.le_of_ble_eq_true rfl⟩) hP hD hS hA (fun _ H locs hw hP hD hS => ?_)
  refine lv_aload_n hx hb dn_Grammar_always_61 rfl (lv_at hl 0 rfl) ?_
  refine lv_iconst (v := 4) hx hb dn_Grammar_always_62 (by decide) ?_
  refine va_put (D := (dC, dI)) (ci := 6) (v := .int 4) (ty := .int) (C := rn_Grammar) (T := fn_Grammar) (N := 15) hx hb hg in_Grammar tn_Grammar tk_Grammar nn_Grammar hown hK hP hD hS 5 rfl rfl 3 (by decide) (hg _ wn_2_3) (fun _ h9 => h9) rfl (tk_Grammar 3 (by decide)) rfl rfl (Nat.le_of_ble_eq_true rfl) dn_Grammar_always_63 (fun H locs hP hD hS => ?_)
  have hP := wC_P_264 hP
  have hD := wC_D_264 hD
  rw [hQQ, ← Option.some.inj hf]
  exact xk_vret (w1 := fun u : Unit => (wC a v cI cB cJ cZ cQ (upI q_13.2 264 (fun _ => 4)))) () hx hb hr hlocks hK hS dn_Grammar_always_66 hP hD trivial (Nat.le_refl _) (Nat.le_refl _)
set_option maxHeartbeats 8000000 in
set_option maxRecDepth 100000 in
theorem ct_Tokens_refuse_Tk (l : Launch) (dC : Nat → ClassId) (dI : Nat → Nat → Nat) (cI cB cJ cZ cQ : ClassId) (N sz : Nat) (a : Nat → Nat) (v : Nat → Value) (s : ms) (y : (Unit × ms)) (hf : fn_Tokens_refuse_Tk N s = some y) : Met l yn_Tokens_refuse (xw yn_Tokens_refuse bn_Tokens_refuse 1 none) ({ frames := 1, cells := 0, slots := 0, locals := 21 }) (dc_P (dC, dI) xcl (xt cI cB cJ cZ cQ) [.ref ((a 101))] sz (wC a v cI cB cJ cZ cQ s)) (xk_Qv (dC, dI) xcl (xt cI cB cJ cZ cQ) (fun _ : Unit => True) (fun u : Unit => (wC a v cI cB cJ cZ cQ y.2)) (va_A (wC a v cI cB cJ cZ cQ s) sz)) 0 0 (va_A (wC a v cI cB cJ cZ cQ s) sz) := by
  refine dc_of (QA := xk_Qv (dC, dI) xcl (xt cI cB cJ cZ cQ) (fun _ : Unit => True) (fun u : Unit => (wC a v cI cB cJ cZ cQ y.2))) (by decide) (Nat.le_of_ble_eq_true rfl) ?_
  intro p e s0 m below meth c hx hb hml hown hg hr hlocks hin hP hK hN A hA hD hT ls hl
  have hown : s0.vm.findClass rn_Tokens = some m.cls := hown
  obtain ⟨H, hH⟩ : ∃ z, z = s0.heap := ⟨_, rfl⟩
  rw [← hH] at hP
  have hS : va_S A s0.heap H [] := by rw [hH]; exact va_S.rf
  suffices kk : ∀ QQ : State → Prop, QQ = MQ below (xk_Qv (dC, dI) xcl (xt cI cB cJ cZ cQ) (fun _ : Unit => True) (fun u : Unit => (wC a v cI cB cJ cZ cQ y.2)) A) [.ref ((a 101))].toArray s0 0 0 A → dcC p l e ({ frames := 1, cells := 0, slots := 0, locals := 21 }) s0 m [.ref ((a 101))].toArray below meth c QQ (dC, dI) A (wC a v cI cB cJ cZ cQ s) 0 1 [(0, .ref ((a 101)))] [] by
    have k9 := kk _ rfl H [] ls hP hD hS hl
    rw [hH] at k9; exact k9
  clear hP hD hS hl hH H ls
  intro QQ hQQ
  intro H locs ls hP hD hS hl
  unfold fn_Tokens_refuse_Tk at hf
  refine lv_aload_n hx hb dn_Tokens_refuse_0 rfl (lv_at hl 0 rfl) ?_
  refine lv_aload_n hx hb dn_Tokens_refuse_1 rfl (lv_at hl 0 rfl) ?_
  obtain ⟨q_1, hc_2, hf⟩ := dc_b hf
  refine dc_calli (dc_runV (ar := 0) (As := []) (rest := [.ref ((a 101))]) (ci := 2) (q0 := 1) ⟨hx, hb, hml, hown, hg⟩ hK hN hT hS hA (ct_Tokens_misfit_Tk l dC dI cI cB cJ cZ cQ N H.size a v s q_1 hc_2) hP hD rfl rfl wn_4_177 wn_4_179 sn_Tokens_misfit wn_1_2 wn_4_180 rfl rfl (by decide +kernel) ⟨Nat.le_of_ble_eq_true rfl, Nat.le_of_ble_eq_true rfl⟩ rfl hl.1 rfl (Nat.le_of_ble_eq_true rfl) dn_Tokens_refuse_2 ⟨Nat.le_of_ble_eq_true rfl, Nat.le_of_ble_eq_true rfl⟩) hP hD hS hA (fun r_3 _ H locs hw hP hD hS => ?_)
  have hw : r_3 = q_1.1 := hw
  subst hw
  obtain ⟨q_4, hc_5, hf⟩ := dc_b hf
  refine dc_callv (dc_runV (ar := 1) (As := [.int q_1.1]) (rest := []) (ci := 2) (q0 := 1) ⟨hx, hb, hml, hown, hg⟩ hK hN hT hS hA (ct_Tokens_stop_Tk l dC dI cI cB cJ cZ cQ N H.size a v q_1.1 q_1.2 q_4 hc_5) hP hD rfl rfl wn_4_181 wn_4_183 sn_Tokens_stop wn_1_2 wn_4_184 rfl rfl (by decide +kernel) ⟨Nat.le_of_ble_eq_true rfl, Nat.le_of_ble_eq_true rfl⟩ rfl hl.1 rfl (Nat.le_of_ble_eq_true rfl) dn_Tokens_refuse_5 ⟨Nat.le_of_ble_eq_true rfl, Nat.le_of_ble_eq_true rfl⟩) hP hD hS hA (fun _ H locs hw hP hD hS => ?_)
  rw [hQQ, ← Option.some.inj hf]
  exact xk_vret (w1 := fun u : Unit => (wC a v cI cB cJ cZ cQ q_4.2)) () hx hb hr hlocks hK hS dn_Tokens_refuse_8 hP hD trivial (Nat.le_refl _) (Nat.le_refl _)
set_option maxHeartbeats 8000000 in
set_option maxRecDepth 100000 in
theorem ct_Grammar_item_Gr (l : Launch) (dC : Nat → ClassId) (dI : Nat → Nat → Nat) (cI cB cJ cZ cQ : ClassId) (N sz : Nat) (a : Nat → Nat) (v : Nat → Value) (hv_2 : v 2 = .ref (a 110)) (hv_3 : v 3 = .ref (a 111)) (hv_4 : v 4 = .ref (a 109)) (hv_5 : v 5 = .ref (a 110)) (hv_6 : v 6 = .ref (a 111)) (s : ms) (y : (Unit × ms)) (hf : fn_Grammar_item_Gr N s = some y) : Met l yn_Grammar_item (xw yn_Grammar_item bn_Grammar_item 2 none) ({ frames := 5, cells := 0, slots := 0, locals := 109 }) (dc_P (dC, dI) xcl (xt cI cB cJ cZ cQ) [.ref ((a 105))] sz (wC a v cI cB cJ cZ cQ s)) (xk_Qv (dC, dI) xcl (xt cI cB cJ cZ cQ) (fun _ : Unit => True) (fun u : Unit => (wC a v cI cB cJ cZ cQ y.2)) (va_A (wC a v cI cB cJ cZ cQ s) sz)) 0 0 (va_A (wC a v cI cB cJ cZ cQ s) sz) := by
  refine dc_of (QA := xk_Qv (dC, dI) xcl (xt cI cB cJ cZ cQ) (fun _ : Unit => True) (fun u : Unit => (wC a v cI cB cJ cZ cQ y.2))) (by decide) (Nat.le_of_ble_eq_true rfl) ?_
  intro p e s0 m below meth c hx hb hml hown hg hr hlocks hin hP hK hN A hA hD hT ls hl
  have hown : s0.vm.findClass rn_Grammar = some m.cls := hown
  obtain ⟨H, hH⟩ : ∃ z, z = s0.heap := ⟨_, rfl⟩
  rw [← hH] at hP
  have hS : va_S A s0.heap H [] := by rw [hH]; exact va_S.rf
  suffices kk : ∀ QQ : State → Prop, QQ = MQ below (xk_Qv (dC, dI) xcl (xt cI cB cJ cZ cQ) (fun _ : Unit => True) (fun u : Unit => (wC a v cI cB cJ cZ cQ y.2)) A) [.ref ((a 105))].toArray s0 0 0 A → dcC p l e ({ frames := 5, cells := 0, slots := 0, locals := 109 }) s0 m [.ref ((a 105))].toArray below meth c QQ (dC, dI) A (wC a v cI cB cJ cZ cQ s) 0 2 [(0, .ref ((a 105)))] [] by
    have k9 := kk _ rfl H [] ls hP hD hS hl
    rw [hH] at k9; exact k9
  clear hP hD hS hl hH H ls
  intro QQ hQQ
  have bl_96 : ∀ (t0 : Int32) (s : ms), bk_Grammar_item_Gr_96 N t0 s = some y → dcC p l e ({ frames := 5, cells := 0, slots := 0, locals := 109 }) s0 m [.ref ((a 105))].toArray below meth c QQ (dC, dI) A (wC a v cI cB cJ cZ cQ s) 96 2 [(0, .ref ((a 105)))] [.int t0, .ref ((a 105))] := by
    intro t0 s hf H locs ls hP hD hS hl
    unfold bk_Grammar_item_Gr_96 at hf
    obtain ⟨q_1, hc_2, hf⟩ := dc_b hf
    refine dc_callv (dc_runV (ar := 1) (As := [.int t0]) (rest := []) (ci := 6) (q0 := 5) ⟨hx, hb, hml, hown, hg⟩ hK hN hT hS hA (ct_Grammar_declaration_Gr l dC dI cI cB cJ cZ cQ N H.size a v hv_5 hv_6 t0 s q_1 hc_2) hP hD rfl rfl wn_4_222 wn_4_224 sn_Grammar_declaration wn_1_5 wn_4_225 rfl rfl (by decide +kernel) ⟨Nat.le_of_ble_eq_true rfl, Nat.le_of_ble_eq_true rfl⟩ rfl hl.1 rfl (Nat.le_of_ble_eq_true rfl) dn_Grammar_item_96 ⟨Nat.le_of_ble_eq_true rfl, Nat.le_of_ble_eq_true rfl⟩) hP hD hS hA (fun _ H locs hw hP hD hS => ?_)
    refine lv_aload_n hx hb dn_Grammar_item_99 rfl (lv_at hl 0 rfl) ?_
    refine va_get (D := (dC, dI)) (ci := 6) (v := .ref ((a 101))) (C := rn_Grammar) (T := fn_Grammar) (N := 15) hx hb hg in_Grammar hown hK hP 5 rfl rfl 0 (by decide) (hg _ wn_2_0) (fun _ h9 => h9) rfl dn_Grammar_item_100 ?_
    refine lv_bipush (v := 59) hx hb dn_Grammar_item_103 (by decide) ?_
    obtain ⟨q_3, hc_4, hf⟩ := dc_b hf
    refine dc_callv (dc_runV (ar := 1) (As := [.int 59]) (rest := []) (ci := 2) (q0 := 1) ⟨hx, hb, hml, hown, hg⟩ hK hN hT hS hA (ct_Tokens_need_Tk l dC dI cI cB cJ cZ cQ N H.size a v 59 q_1.2 q_3 hc_4) hP hD rfl rfl wn_4_173 wn_4_174 wn_4_175 wn_1_2 wn_4_176 rfl rfl (by decide +kernel) ⟨Nat.le_of_ble_eq_true rfl, Nat.le_of_ble_eq_true rfl⟩ rfl hl.1 rfl (Nat.le_of_ble_eq_true rfl) dn_Grammar_item_105 ⟨Nat.le_of_ble_eq_true rfl, Nat.le_of_ble_eq_true rfl⟩) hP hD hS hA (fun _ H locs hw hP hD hS => ?_)
    refine lv_goto (tgt := 187) hx hb dn_Grammar_item_108 (by decide) ?_
    rw [hQQ, ← Option.some.inj hf]
    exact xk_vret (w1 := fun u : Unit => (wC a v cI cB cJ cZ cQ q_3.2)) () hx hb hr hlocks hK hS dn_Grammar_item_187 hP hD trivial (Nat.le_refl _) (Nat.le_refl _)
  intro H locs ls hP hD hS hl
  unfold fn_Grammar_item_Gr at hf
  refine lv_aload_n hx hb dn_Grammar_item_0 rfl (lv_at hl 0 rfl) ?_
  refine va_get (D := (dC, dI)) (ci := 6) (v := .ref ((a 101))) (C := rn_Grammar) (T := fn_Grammar) (N := 15) hx hb hg in_Grammar hown hK hP 5 rfl rfl 0 (by decide) (hg _ wn_2_0) (fun _ h9 => h9) rfl dn_Grammar_item_1 ?_
  refine va_get (D := (dC, dI)) (ci := 2) (v := .int ((s.1 214 0))) (C := rn_Tokens) (T := fn_Tokens) (N := 9) hx hb hg in_Tokens hown hK hP 1 rfl rfl 3 (by decide) (hg _ wn_1_50) (fun _ h9 => h9) rfl dn_Grammar_item_4 ?_
  refine lv_istore_n (lv' := [(1, .int ((s.1 214 0))), (0, .ref ((a 105)))]) hx hb dn_Grammar_item_7 rfl hl (by decide) rfl (fun ls hl => ?_)
  refine lv_iload_n hx hb dn_Grammar_item_8 rfl (lv_at hl 0 rfl) ?_
  by_cases h_0 : (s.1 214 0) = 2
  · have hf := (if_pos h_0).symm.trans hf
    refine xk_ti (y := 2) h_0 ?_
    refine lv_lookup (off := 142) (tgt := 151) hx hb dn_Grammar_item_9 (by decide) (by decide) (by decide) ?_
    refine lv_aload_n hx hb dn_Grammar_item_151 rfl (lv_at hl 1 rfl) ?_
    obtain ⟨q_1, hc_2, hf⟩ := dc_b hf
    refine dc_callv (dc_runV (ar := 0) (As := []) (rest := []) (ci := 6) (q0 := 5) ⟨hx, hb, hml, hown, hg⟩ hK hN hT hS hA (ct_Grammar_instance_Gr l dC dI cI cB cJ cZ cQ N H.size a v hv_4 hv_5 s q_1 hc_2) hP hD rfl rfl wn_5_63 wn_5_65 sn_Grammar_instance wn_1_5 wn_5_66 rfl rfl (by decide +kernel) ⟨Nat.le_of_ble_eq_true rfl, Nat.le_of_ble_eq_true rfl⟩ rfl hl.1 rfl (Nat.le_of_ble_eq_true rfl) dn_Grammar_item_152 ⟨Nat.le_of_ble_eq_true rfl, Nat.le_of_ble_eq_true rfl⟩) hP hD hS hA (fun _ H locs hw hP hD hS => ?_)
    refine lv_goto (tgt := 187) hx hb dn_Grammar_item_155 (by decide) ?_
    rw [hQQ, ← Option.some.inj hf]
    exact xk_vret (w1 := fun u : Unit => (wC a v cI cB cJ cZ cQ q_1.2)) () hx hb hr hlocks hK hS dn_Grammar_item_187 hP hD trivial (Nat.le_refl _) (Nat.le_refl _)
  have hf := (if_neg h_0).symm.trans hf
  by_cases h_1 : (s.1 214 0) = 129
  · have hf := (if_pos h_1).symm.trans hf
    refine xk_ti (y := 129) h_1 ?_
    refine lv_lookup (off := 149) (tgt := 158) hx hb dn_Grammar_item_9 (by decide) (by decide) (by decide) ?_
    refine lv_aload_n hx hb dn_Grammar_item_158 rfl (lv_at hl 1 rfl) ?_
    refine va_get (D := (dC, dI)) (ci := 6) (v := .ref ((a 104))) (C := rn_Grammar) (T := fn_Grammar) (N := 15) hx hb hg in_Grammar hown hK hP 5 rfl rfl 2 (by decide) (hg _ wn_2_2) (fun _ h9 => h9) rfl dn_Grammar_item_159 ?_
    obtain ⟨q_1, hc_2, hf⟩ := dc_b hf
    refine dc_callv (dc_runV (ar := 0) (As := []) (rest := []) (ci := 5) (q0 := 4) ⟨hx, hb, hml, hown, hg⟩ hK hN hT hS hA (ct_Meaning_moduleEnd_Me l dC dI cI cB cJ cZ cQ N H.size a v hv_4 hv_5 s q_1 hc_2) hP hD rfl rfl wn_5_95 wn_5_96 wn_5_97 wn_1_6 wn_5_98 rfl rfl (by decide +kernel) ⟨Nat.le_of_ble_eq_true rfl, Nat.le_of_ble_eq_true rfl⟩ rfl hl.1 rfl (Nat.le_of_ble_eq_true rfl) dn_Grammar_item_162 ⟨Nat.le_of_ble_eq_true rfl, Nat.le_of_ble_eq_true rfl⟩) hP hD hS hA (fun _ H locs hw hP hD hS => ?_)
    refine lv_aload_n hx hb dn_Grammar_item_165 rfl (lv_at hl 1 rfl) ?_
    refine va_get (D := (dC, dI)) (ci := 6) (v := .ref ((a 101))) (C := rn_Grammar) (T := fn_Grammar) (N := 15) hx hb hg in_Grammar hown hK hP 5 rfl rfl 0 (by decide) (hg _ wn_2_0) (fun _ h9 => h9) rfl dn_Grammar_item_166 ?_
    obtain ⟨q_3, hc_4, hf⟩ := dc_b hf
    refine dc_callv (dc_runV (ar := 0) (As := []) (rest := []) (ci := 2) (q0 := 1) ⟨hx, hb, hml, hown, hg⟩ hK hN hT hS hA (ct_Tokens_take_Tk l dC dI cI cB cJ cZ cQ N H.size a v q_1.2 q_3 hc_4) hP hD rfl rfl wn_4_213 wn_4_149 wn_4_150 wn_1_2 wn_4_151 rfl rfl (by decide +kernel) ⟨Nat.le_of_ble_eq_true rfl, Nat.le_of_ble_eq_true rfl⟩ rfl hl.1 rfl (Nat.le_of_ble_eq_true rfl) dn_Grammar_item_169 ⟨Nat.le_of_ble_eq_true rfl, Nat.le_of_ble_eq_true rfl⟩) hP hD hS hA (fun _ H locs hw hP hD hS => ?_)
    refine lv_aload_n hx hb dn_Grammar_item_172 rfl (lv_at hl 1 rfl) ?_
    refine lv_iconst (v := 1) hx hb dn_Grammar_item_173 (by decide) ?_
    refine va_put (D := (dC, dI)) (ci := 6) (v := .int 1) (ty := .int) (C := rn_Grammar) (T := fn_Grammar) (N := 15) hx hb hg in_Grammar tn_Grammar tk_Grammar nn_Grammar hown hK hP hD hS 5 rfl rfl 3 (by decide) (hg _ wn_2_3) (fun _ h9 => h9) rfl (tk_Grammar 3 (by decide)) rfl rfl (Nat.le_of_ble_eq_true rfl) dn_Grammar_item_174 (fun H locs hP hD hS => ?_)
    have hP := wC_P_264 hP
    have hD := wC_D_264 hD
    refine lv_goto (tgt := 187) hx hb dn_Grammar_item_177 (by decide) ?_
    rw [hQQ, ← Option.some.inj hf]
    exact xk_vret (w1 := fun u : Unit => (wC a v cI cB cJ cZ cQ (upI q_3.2 264 (fun _ => 1)))) () hx hb hr hlocks hK hS dn_Grammar_item_187 hP hD trivial (Nat.le_refl _) (Nat.le_refl _)
  have hf := (if_neg h_1).symm.trans hf
  by_cases h_2 : (s.1 214 0) = 132
  · have hf := (if_pos h_2).symm.trans hf
    refine xk_ti (y := 132) h_2 ?_
    refine lv_lookup (off := 67) (tgt := 76) hx hb dn_Grammar_item_9 (by decide) (by decide) (by decide) ?_
    refine lv_aload_n hx hb dn_Grammar_item_76 rfl (lv_at hl 1 rfl) ?_
    refine va_get (D := (dC, dI)) (ci := 6) (v := .ref ((a 101))) (C := rn_Grammar) (T := fn_Grammar) (N := 15) hx hb hg in_Grammar hown hK hP 5 rfl rfl 0 (by decide) (hg _ wn_2_0) (fun _ h9 => h9) rfl dn_Grammar_item_77 ?_
    obtain ⟨q_1, hc_2, hf⟩ := dc_b hf
    refine dc_callv (dc_runV (ar := 0) (As := []) (rest := []) (ci := 2) (q0 := 1) ⟨hx, hb, hml, hown, hg⟩ hK hN hT hS hA (ct_Tokens_take_Tk l dC dI cI cB cJ cZ cQ N H.size a v s q_1 hc_2) hP hD rfl rfl wn_4_213 wn_4_149 wn_4_150 wn_1_2 wn_4_151 rfl rfl (by decide +kernel) ⟨Nat.le_of_ble_eq_true rfl, Nat.le_of_ble_eq_true rfl⟩ rfl hl.1 rfl (Nat.le_of_ble_eq_true rfl) dn_Grammar_item_80 ⟨Nat.le_of_ble_eq_true rfl, Nat.le_of_ble_eq_true rfl⟩) hP hD hS hA (fun _ H locs hw hP hD hS => ?_)
    refine lv_aload_n hx hb dn_Grammar_item_83 rfl (lv_at hl 1 rfl) ?_
    refine lv_iload_n hx hb dn_Grammar_item_84 rfl (lv_at hl 0 rfl) ?_
    refine lv_sipush (v := 133) hx hb dn_Grammar_item_85 (by decide) ?_
    refine lv_icmp_ne (tgt := 95) hx hb dn_Grammar_item_88 (by decide) (fun h => ?_) (fun h => ?_)
    · have hf := (if_neg h).symm.trans hf
      refine lv_iconst (v := 1) hx hb dn_Grammar_item_95 (by decide) ?_
      exact bl_96 1 q_1.2 hf H locs ls hP hD hS (lv_sub hl [1] rfl)
    · have hf := (if_pos h).symm.trans hf
      refine lv_iconst (v := 2) hx hb dn_Grammar_item_91 (by decide) ?_
      refine lv_goto (tgt := 96) hx hb dn_Grammar_item_92 (by decide) ?_
      exact bl_96 2 q_1.2 hf H locs ls hP hD hS (lv_sub hl [1] rfl)
  have hf := (if_neg h_2).symm.trans hf
  by_cases h_3 : (s.1 214 0) = 133
  · have hf := (if_pos h_3).symm.trans hf
    refine xk_ti (y := 133) h_3 ?_
    refine lv_lookup (off := 67) (tgt := 76) hx hb dn_Grammar_item_9 (by decide) (by decide) (by decide) ?_
    refine lv_aload_n hx hb dn_Grammar_item_76 rfl (lv_at hl 1 rfl) ?_
    refine va_get (D := (dC, dI)) (ci := 6) (v := .ref ((a 101))) (C := rn_Grammar) (T := fn_Grammar) (N := 15) hx hb hg in_Grammar hown hK hP 5 rfl rfl 0 (by decide) (hg _ wn_2_0) (fun _ h9 => h9) rfl dn_Grammar_item_77 ?_
    obtain ⟨q_1, hc_2, hf⟩ := dc_b hf
    refine dc_callv (dc_runV (ar := 0) (As := []) (rest := []) (ci := 2) (q0 := 1) ⟨hx, hb, hml, hown, hg⟩ hK hN hT hS hA (ct_Tokens_take_Tk l dC dI cI cB cJ cZ cQ N H.size a v s q_1 hc_2) hP hD rfl rfl wn_4_213 wn_4_149 wn_4_150 wn_1_2 wn_4_151 rfl rfl (by decide +kernel) ⟨Nat.le_of_ble_eq_true rfl, Nat.le_of_ble_eq_true rfl⟩ rfl hl.1 rfl (Nat.le_of_ble_eq_true rfl) dn_Grammar_item_80 ⟨Nat.le_of_ble_eq_true rfl, Nat.le_of_ble_eq_true rfl⟩) hP hD hS hA (fun _ H locs hw hP hD hS => ?_)
    refine lv_aload_n hx hb dn_Grammar_item_83 rfl (lv_at hl 1 rfl) ?_
    refine lv_iload_n hx hb dn_Grammar_item_84 rfl (lv_at hl 0 rfl) ?_
    refine lv_sipush (v := 133) hx hb dn_Grammar_item_85 (by decide) ?_
    refine lv_icmp_ne (tgt := 95) hx hb dn_Grammar_item_88 (by decide) (fun h => ?_) (fun h => ?_)
    · have hf := (if_neg h).symm.trans hf
      refine lv_iconst (v := 1) hx hb dn_Grammar_item_95 (by decide) ?_
      exact bl_96 1 q_1.2 hf H locs ls hP hD hS (lv_sub hl [1] rfl)
    · have hf := (if_pos h).symm.trans hf
      refine lv_iconst (v := 2) hx hb dn_Grammar_item_91 (by decide) ?_
      refine lv_goto (tgt := 96) hx hb dn_Grammar_item_92 (by decide) ?_
      exact bl_96 2 q_1.2 hf H locs ls hP hD hS (lv_sub hl [1] rfl)
  have hf := (if_neg h_3).symm.trans hf
  by_cases h_4 : (s.1 214 0) = 134
  · have hf := (if_pos h_4).symm.trans hf
    refine xk_ti (y := 134) h_4 ?_
    refine lv_lookup (off := 102) (tgt := 111) hx hb dn_Grammar_item_9 (by decide) (by decide) (by decide) ?_
    refine lv_aload_n hx hb dn_Grammar_item_111 rfl (lv_at hl 1 rfl) ?_
    obtain ⟨q_1, hc_2, hf⟩ := dc_b hf
    refine dc_callv (dc_runV (ar := 0) (As := []) (rest := []) (ci := 6) (q0 := 5) ⟨hx, hb, hml, hown, hg⟩ hK hN hT hS hA (ct_Grammar_assignment_Gr l dC dI cI cB cJ cZ cQ N H.size a v hv_2 hv_3 hv_5 hv_6 s q_1 hc_2) hP hD rfl rfl wn_5_34 wn_5_36 sn_Grammar_assignment wn_1_5 wn_5_37 rfl rfl (by decide +kernel) ⟨Nat.le_of_ble_eq_true rfl, Nat.le_of_ble_eq_true rfl⟩ rfl hl.1 rfl (Nat.le_of_ble_eq_true rfl) dn_Grammar_item_112 ⟨Nat.le_of_ble_eq_true rfl, Nat.le_of_ble_eq_true rfl⟩) hP hD hS hA (fun _ H locs hw hP hD hS => ?_)
    refine lv_goto (tgt := 187) hx hb dn_Grammar_item_115 (by decide) ?_
    rw [hQQ, ← Option.some.inj hf]
    exact xk_vret (w1 := fun u : Unit => (wC a v cI cB cJ cZ cQ q_1.2)) () hx hb hr hlocks hK hS dn_Grammar_item_187 hP hD trivial (Nat.le_refl _) (Nat.le_refl _)
  have hf := (if_neg h_4).symm.trans hf
  by_cases h_5 : (s.1 214 0) = 135
  · have hf := (if_pos h_5).symm.trans hf
    refine xk_ti (y := 135) h_5 ?_
    refine lv_lookup (off := 109) (tgt := 118) hx hb dn_Grammar_item_9 (by decide) (by decide) (by decide) ?_
    refine lv_aload_n hx hb dn_Grammar_item_118 rfl (lv_at hl 1 rfl) ?_
    obtain ⟨q_1, hc_2, hf⟩ := dc_b hf
    refine dc_callv (dc_runV (ar := 0) (As := []) (rest := []) (ci := 6) (q0 := 5) ⟨hx, hb, hml, hown, hg⟩ hK hN hT hS hA (ct_Grammar_always_Gr l dC dI cI cB cJ cZ cQ N H.size a v hv_6 s q_1 hc_2) hP hD rfl rfl wn_5_55 wn_5_57 sn_Grammar_always wn_1_5 wn_5_58 rfl rfl (by decide +kernel) ⟨Nat.le_of_ble_eq_true rfl, Nat.le_of_ble_eq_true rfl⟩ rfl hl.1 rfl (Nat.le_of_ble_eq_true rfl) dn_Grammar_item_119 ⟨Nat.le_of_ble_eq_true rfl, Nat.le_of_ble_eq_true rfl⟩) hP hD hS hA (fun _ H locs hw hP hD hS => ?_)
    refine lv_goto (tgt := 187) hx hb dn_Grammar_item_122 (by decide) ?_
    rw [hQQ, ← Option.some.inj hf]
    exact xk_vret (w1 := fun u : Unit => (wC a v cI cB cJ cZ cQ q_1.2)) () hx hb hr hlocks hK hS dn_Grammar_item_187 hP hD trivial (Nat.le_refl _) (Nat.le_refl _)
  have hf := (if_neg h_5).symm.trans hf
  by_cases h_6 : (s.1 214 0) = 145
  · have hf := (if_pos h_6).symm.trans hf
    refine xk_ti (y := 145) h_6 ?_
    refine lv_lookup (off := 116) (tgt := 125) hx hb dn_Grammar_item_9 (by decide) (by decide) (by decide) ?_
    refine lv_aload_n hx hb dn_Grammar_item_125 rfl (lv_at hl 1 rfl) ?_
    refine va_get (D := (dC, dI)) (ci := 6) (v := .ref ((a 101))) (C := rn_Grammar) (T := fn_Grammar) (N := 15) hx hb hg in_Grammar hown hK hP 5 rfl rfl 0 (by decide) (hg _ wn_2_0) (fun _ h9 => h9) rfl dn_Grammar_item_126 ?_
    obtain ⟨q_1, hc_2, hf⟩ := dc_b hf
    refine dc_callv (dc_runV (ar := 0) (As := []) (rest := []) (ci := 2) (q0 := 1) ⟨hx, hb, hml, hown, hg⟩ hK hN hT hS hA (ct_Tokens_take_Tk l dC dI cI cB cJ cZ cQ N H.size a v s q_1 hc_2) hP hD rfl rfl wn_4_213 wn_4_149 wn_4_150 wn_1_2 wn_4_151 rfl rfl (by decide +kernel) ⟨Nat.le_of_ble_eq_true rfl, Nat.le_of_ble_eq_true rfl⟩ rfl hl.1 rfl (Nat.le_of_ble_eq_true rfl) dn_Grammar_item_129 ⟨Nat.le_of_ble_eq_true rfl, Nat.le_of_ble_eq_true rfl⟩) hP hD hS hA (fun _ H locs hw hP hD hS => ?_)
    refine lv_aload_n hx hb dn_Grammar_item_132 rfl (lv_at hl 1 rfl) ?_
    refine va_get (D := (dC, dI)) (ci := 6) (v := .ref ((a 101))) (C := rn_Grammar) (T := fn_Grammar) (N := 15) hx hb hg in_Grammar hown hK hP 5 rfl rfl 0 (by decide) (hg _ wn_2_0) (fun _ h9 => h9) rfl dn_Grammar_item_133 ?_
    refine lv_bipush (v := 40) hx hb dn_Grammar_item_136 (by decide) ?_
    obtain ⟨q_3, hc_4, hf⟩ := dc_b hf
    refine dc_callv (dc_runV (ar := 1) (As := [.int 40]) (rest := []) (ci := 2) (q0 := 1) ⟨hx, hb, hml, hown, hg⟩ hK hN hT hS hA (ct_Tokens_open_Tk l dC dI cI cB cJ cZ cQ N H.size a v 40 q_1.2 q_3 hc_4) hP hD rfl rfl wn_4_214 wn_4_215 wn_4_216 wn_1_2 wn_4_217 rfl rfl (by decide +kernel) ⟨Nat.le_of_ble_eq_true rfl, Nat.le_of_ble_eq_true rfl⟩ rfl hl.1 rfl (Nat.le_of_ble_eq_true rfl) dn_Grammar_item_138 ⟨Nat.le_of_ble_eq_true rfl, Nat.le_of_ble_eq_true rfl⟩) hP hD hS hA (fun _ H locs hw hP hD hS => ?_)
    refine lv_aload_n hx hb dn_Grammar_item_141 rfl (lv_at hl 1 rfl) ?_
    refine lv_sipush (v := 145) hx hb dn_Grammar_item_142 (by decide) ?_
    obtain ⟨q_5, hc_6, hf⟩ := dc_b hf
    refine dc_callv (dc_runV (ar := 1) (As := [.int 145]) (rest := []) (ci := 6) (q0 := 5) ⟨hx, hb, hml, hown, hg⟩ hK hN hT hS hA (ct_Grammar_expFor_Gr l dC dI cI cB cJ cZ cQ N H.size a v hv_3 145 q_3.2 q_5 hc_6) hP hD rfl rfl wn_5_46 wn_5_48 sn_Grammar_expFor wn_1_5 wn_5_49 rfl rfl (by decide +kernel) ⟨Nat.le_of_ble_eq_true rfl, Nat.le_of_ble_eq_true rfl⟩ rfl hl.1 rfl (Nat.le_of_ble_eq_true rfl) dn_Grammar_item_145 ⟨Nat.le_of_ble_eq_true rfl, Nat.le_of_ble_eq_true rfl⟩) hP hD hS hA (fun _ H locs hw hP hD hS => ?_)
    refine lv_goto (tgt := 187) hx hb dn_Grammar_item_148 (by decide) ?_
    rw [hQQ, ← Option.some.inj hf]
    exact xk_vret (w1 := fun u : Unit => (wC a v cI cB cJ cZ cQ q_5.2)) () hx hb hr hlocks hK hS dn_Grammar_item_187 hP hD trivial (Nat.le_refl _) (Nat.le_refl _)
  have hf := (if_neg h_6).symm.trans hf
  refine lv_lookup (off := 171) (tgt := 180) hx hb dn_Grammar_item_9 (by decide) (by rw [lv_osw h_0 (by decide)]; rw [lv_osw h_1 (by decide)]; rw [lv_osw h_2 (by decide)]; rw [lv_osw h_3 (by decide)]; rw [lv_osw h_4 (by decide)]; rw [lv_osw h_5 (by decide)]; rw [lv_osw h_6 (by decide)]; rfl) (by decide) ?_
  refine lv_aload_n hx hb dn_Grammar_item_180 rfl (lv_at hl 1 rfl) ?_
  refine va_get (D := (dC, dI)) (ci := 6) (v := .ref ((a 101))) (C := rn_Grammar) (T := fn_Grammar) (N := 15) hx hb hg in_Grammar hown hK hP 5 rfl rfl 0 (by decide) (hg _ wn_2_0) (fun _ h9 => h9) rfl dn_Grammar_item_181 ?_
  obtain ⟨q_1, hc_2, hf⟩ := dc_b hf
  refine dc_callv (dc_runV (ar := 0) (As := []) (rest := []) (ci := 2) (q0 := 1) ⟨hx, hb, hml, hown, hg⟩ hK hN hT hS hA (ct_Tokens_refuse_Tk l dC dI cI cB cJ cZ cQ N H.size a v s q_1 hc_2) hP hD rfl rfl wn_5_116 wn_5_117 wn_5_118 wn_1_2 wn_5_119 rfl rfl (by decide +kernel) ⟨Nat.le_of_ble_eq_true rfl, Nat.le_of_ble_eq_true rfl⟩ rfl hl.1 rfl (Nat.le_of_ble_eq_true rfl) dn_Grammar_item_184 ⟨Nat.le_of_ble_eq_true rfl, Nat.le_of_ble_eq_true rfl⟩) hP hD hS hA (fun _ H locs hw hP hD hS => ?_)
  rw [hQQ, ← Option.some.inj hf]
  exact xk_vret (w1 := fun u : Unit => (wC a v cI cB cJ cZ cQ q_1.2)) () hx hb hr hlocks hK hS dn_Grammar_item_187 hP hD trivial (Nat.le_refl _) (Nat.le_refl _)
set_option maxHeartbeats 8000000 in
set_option maxRecDepth 100000 in
theorem ct_Parts_addChild_Pc (l : Launch) (dC : Nat → ClassId) (dI : Nat → Nat → Nat) (cI cB cJ cZ cQ : ClassId) (N sz : Nat) (a : Nat → Nat) (v : Nat → Value) (v1 : Int32) (s : ms) (y : (Unit × ms)) (hf : fn_Parts_addChild_Pc N v1 s = some y) : Met l yn_Parts_addChild (xw yn_Parts_addChild bn_Parts_addChild 2 none) ({ frames := 0, cells := 0, slots := 0, locals := 0 }) (dc_P (dC, dI) xcl (xt cI cB cJ cZ cQ) [.ref ((a 114)), .int v1] sz (wC a v cI cB cJ cZ cQ s)) (xk_Qv (dC, dI) xcl (xt cI cB cJ cZ cQ) (fun _ : Unit => True) (fun u : Unit => (wC a v cI cB cJ cZ cQ y.2)) (va_A (wC a v cI cB cJ cZ cQ s) sz)) 0 0 (va_A (wC a v cI cB cJ cZ cQ s) sz) := by
  refine dc_of (QA := xk_Qv (dC, dI) xcl (xt cI cB cJ cZ cQ) (fun _ : Unit => True) (fun u : Unit => (wC a v cI cB cJ cZ cQ y.2))) (by decide) (Nat.le_of_ble_eq_true rfl) ?_
  intro p e s0 m below meth c hx hb hml hown hg hr hlocks hin hP hK hN A hA hD hT ls hl
  have hown : s0.vm.findClass rn_Parts = some m.cls := hown
  obtain ⟨H, hH⟩ : ∃ z, z = s0.heap := ⟨_, rfl⟩
  rw [← hH] at hP
  have hS : va_S A s0.heap H [] := by rw [hH]; exact va_S.rf
  suffices kk : ∀ QQ : State → Prop, QQ = MQ below (xk_Qv (dC, dI) xcl (xt cI cB cJ cZ cQ) (fun _ : Unit => True) (fun u : Unit => (wC a v cI cB cJ cZ cQ y.2)) A) [.ref ((a 114)), .int v1].toArray s0 0 0 A → dcC p l e ({ frames := 0, cells := 0, slots := 0, locals := 0 }) s0 m [.ref ((a 114)), .int v1].toArray below meth c QQ (dC, dI) A (wC a v cI cB cJ cZ cQ s) 0 2 [(0, .ref ((a 114))), (1, .int v1)] [] by
    have k9 := kk _ rfl H [] ls hP hD hS hl
    rw [hH] at k9; exact k9
  clear hP hD hS hl hH H ls
  intro QQ hQQ
  intro H locs ls hP hD hS hl
  unfold fn_Parts_addChild_Pc at hf
  refine lv_aload_n hx hb dn_Parts_addChild_0 rfl (lv_at hl 0 rfl) ?_
  refine va_get (D := (dC, dI)) (ci := 11) (v := .int ((s.1 378 0))) (C := rn_Parts) (T := fn_Parts) (N := 15) hx hb hg in_Parts hown hK hP 14 rfl rfl 7 (by decide) (hg _ wn_2_149) (fun _ h9 => h9) rfl dn_Parts_addChild_1 ?_
  refine lv_sipush (v := 10923) hx hb dn_Parts_addChild_4 (by decide) ?_
  refine lv_icmp_lt (tgt := 11) hx hb dn_Parts_addChild_7 (by decide) (fun h => ?_) (fun h => ?_)
  · have hf := (if_pos h).symm.trans hf
    refine lv_aload_n hx hb dn_Parts_addChild_11 rfl (lv_at hl 0 rfl) ?_
    refine va_get (D := (dC, dI)) (ci := 11) (v := .ref ((a 379))) (C := rn_Parts) (T := fn_Parts) (N := 15) hx hb hg in_Parts hown hK hP 14 rfl rfl 8 (by decide) (hg _ wn_2_152) (fun _ h9 => h9) rfl dn_Parts_addChild_12 ?_
    refine lv_aload_n hx hb dn_Parts_addChild_15 rfl (lv_at hl 0 rfl) ?_
    refine va_get (D := (dC, dI)) (ci := 11) (v := .int ((s.1 378 0))) (C := rn_Parts) (T := fn_Parts) (N := 15) hx hb hg in_Parts hown hK hP 14 rfl rfl 7 (by decide) (hg _ wn_2_149) (fun _ h9 => h9) rfl dn_Parts_addChild_16 ?_
    refine lv_iload_n hx hb dn_Parts_addChild_19 rfl (lv_at hl 1 rfl) ?_
    obtain ⟨hg_1, hf⟩ := dc_g hf
    refine va_iast hx hb hK hP hD hS 101 0 rfl rfl hg_1 dn_Parts_addChild_20 (fun H locs hP hD hS => ?_)
    have hP : va_P (dC, dI) xcl ((wC a v cI cB cJ cZ cQ s).set 101 ((a 379), .inl (cI, 10923, .inl (upd (s.1 379) (Int32.toNatClampNeg ((s.1 378 0))) v1)))) H := hP
    have hD : va_D A ((wC a v cI cB cJ cZ cQ s).set 101 ((a 379), .inl (cI, 10923, .inl (upd (s.1 379) (Int32.toNatClampNeg ((s.1 378 0))) v1)))) := hD
    have hP := wC_P_379 hP
    have hD := wC_D_379 hD
    refine lv_aload_n hx hb dn_Parts_addChild_21 rfl (lv_at hl 0 rfl) ?_
    refine va_get (D := (dC, dI)) (ci := 11) (v := .ref ((a 380))) (C := rn_Parts) (T := fn_Parts) (N := 15) hx hb hg in_Parts hown hK hP 14 rfl rfl 9 (by decide) (hg _ wn_2_156) (fun _ h9 => h9) rfl dn_Parts_addChild_22 ?_
    refine lv_aload_n hx hb dn_Parts_addChild_25 rfl (lv_at hl 0 rfl) ?_
    refine va_get (D := (dC, dI)) (ci := 11) (v := .int ((s.1 378 0))) (C := rn_Parts) (T := fn_Parts) (N := 15) hx hb hg in_Parts hown hK hP 14 rfl rfl 7 (by decide) (hg _ wn_2_149) (fun _ h9 => h9) rfl dn_Parts_addChild_26 ?_
    refine lv_iconst (v := (-1)) hx hb dn_Parts_addChild_29 (by decide) ?_
    obtain ⟨hg_2, hf⟩ := dc_g hf
    refine va_iast hx hb hK hP hD hS 102 0 rfl rfl hg_2 dn_Parts_addChild_30 (fun H locs hP hD hS => ?_)
    have hP : va_P (dC, dI) xcl ((wC a v cI cB cJ cZ cQ (upI s 379 (upd (s.1 379) (Int32.toNatClampNeg ((s.1 378 0))) v1))).set 102 ((a 380), .inl (cI, 10923, .inl (upd (s.1 380) (Int32.toNatClampNeg ((s.1 378 0))) ((-1)))))) H := hP
    have hD : va_D A ((wC a v cI cB cJ cZ cQ (upI s 379 (upd (s.1 379) (Int32.toNatClampNeg ((s.1 378 0))) v1))).set 102 ((a 380), .inl (cI, 10923, .inl (upd (s.1 380) (Int32.toNatClampNeg ((s.1 378 0))) ((-1)))))) := hD
    have hP := wC_P_380 hP
    have hD := wC_D_380 hD
    refine lv_aload_n hx hb dn_Parts_addChild_31 rfl (lv_at hl 0 rfl) ?_
    refine va_get (D := (dC, dI)) (ci := 11) (v := .ref ((a 381))) (C := rn_Parts) (T := fn_Parts) (N := 15) hx hb hg in_Parts hown hK hP 14 rfl rfl 10 (by decide) (hg _ wn_2_159) (fun _ h9 => h9) rfl dn_Parts_addChild_32 ?_
    refine lv_aload_n hx hb dn_Parts_addChild_35 rfl (lv_at hl 0 rfl) ?_
    refine va_get (D := (dC, dI)) (ci := 11) (v := .int ((s.1 378 0))) (C := rn_Parts) (T := fn_Parts) (N := 15) hx hb hg in_Parts hown hK hP 14 rfl rfl 7 (by decide) (hg _ wn_2_149) (fun _ h9 => h9) rfl dn_Parts_addChild_36 ?_
    refine lv_aload_n hx hb dn_Parts_addChild_39 rfl (lv_at hl 0 rfl) ?_
    refine va_get (D := (dC, dI)) (ci := 11) (v := .int ((s.1 382 0))) (C := rn_Parts) (T := fn_Parts) (N := 15) hx hb hg in_Parts hown hK hP 14 rfl rfl 11 (by decide) (hg _ wn_2_162) (fun _ h9 => h9) rfl dn_Parts_addChild_40 ?_
    obtain ⟨hg_3, hf⟩ := dc_g hf
    refine va_iast hx hb hK hP hD hS 103 0 rfl rfl hg_3 dn_Parts_addChild_43 (fun H locs hP hD hS => ?_)
    have hP : va_P (dC, dI) xcl ((wC a v cI cB cJ cZ cQ (upI (upI s 379 (upd (s.1 379) (Int32.toNatClampNeg ((s.1 378 0))) v1)) 380 (upd (s.1 380) (Int32.toNatClampNeg ((s.1 378 0))) ((-1))))).set 103 ((a 381), .inl (cI, 10923, .inl (upd (s.1 381) (Int32.toNatClampNeg ((s.1 378 0))) ((s.1 382 0)))))) H := hP
    have hD : va_D A ((wC a v cI cB cJ cZ cQ (upI (upI s 379 (upd (s.1 379) (Int32.toNatClampNeg ((s.1 378 0))) v1)) 380 (upd (s.1 380) (Int32.toNatClampNeg ((s.1 378 0))) ((-1))))).set 103 ((a 381), .inl (cI, 10923, .inl (upd (s.1 381) (Int32.toNatClampNeg ((s.1 378 0))) ((s.1 382 0)))))) := hD
    have hP := wC_P_381 hP
    have hD := wC_D_381 hD
    refine lv_aload_n hx hb dn_Parts_addChild_44 rfl (lv_at hl 0 rfl) ?_
    refine lv_dup hx hb dn_Parts_addChild_45 rfl ?_
    refine va_get (D := (dC, dI)) (ci := 11) (v := .int ((s.1 378 0))) (C := rn_Parts) (T := fn_Parts) (N := 15) hx hb hg in_Parts hown hK hP 14 rfl rfl 7 (by decide) (hg _ wn_2_149) (fun _ h9 => h9) rfl dn_Parts_addChild_46 ?_
    refine lv_iconst (v := 1) hx hb dn_Parts_addChild_49 (by decide) ?_
    refine lv_iadd hx hb dn_Parts_addChild_50 ?_
    refine va_put (D := (dC, dI)) (ci := 11) (v := .int (((s.1 378 0) + 1))) (ty := .int) (C := rn_Parts) (T := fn_Parts) (N := 15) hx hb hg in_Parts tn_Parts tk_Parts nn_Parts hown hK hP hD hS 14 rfl rfl 7 (by decide) (hg _ wn_2_149) (fun _ h9 => h9) rfl (tk_Parts 7 (by decide)) rfl rfl (Nat.le_of_ble_eq_true rfl) dn_Parts_addChild_51 (fun H locs hP hD hS => ?_)
    have hP := wC_P_378 hP
    have hD := wC_D_378 hD
    rw [hQQ, ← Option.some.inj hf]
    exact xk_vret (w1 := fun u : Unit => (wC a v cI cB cJ cZ cQ (upI (upI (upI (upI s 379 (upd (s.1 379) (Int32.toNatClampNeg ((s.1 378 0))) v1)) 380 (upd (s.1 380) (Int32.toNatClampNeg ((s.1 378 0))) ((-1)))) 381 (upd (s.1 381) (Int32.toNatClampNeg ((s.1 378 0))) ((s.1 382 0)))) 378 (fun _ => ((s.1 378 0) + 1))))) () hx hb hr hlocks hK hS dn_Parts_addChild_54 hP hD trivial (Nat.le_refl _) (Nat.le_refl _)
  · have hf := (if_neg h).symm.trans hf
    rw [hQQ, ← Option.some.inj hf]
    exact xk_vret (w1 := fun u : Unit => (wC a v cI cB cJ cZ cQ s)) () hx hb hr hlocks hK hS dn_Parts_addChild_10 hP hD trivial (Nat.le_refl _) (Nat.le_refl _)
set_option maxHeartbeats 8000000 in
set_option maxRecDepth 100000 in
theorem ct_Design_isModule_Dc (l : Launch) (dC : Nat → ClassId) (dI : Nat → Nat → Nat) (cI cB cJ cZ cQ : ClassId) (N sz : Nat) (a : Nat → Nat) (v : Nat → Value) (v1 : Int32) (s : ms) (y : (Int32 × ms)) (hf : fn_Design_isModule_Dc N v1 s = some y) : Met l yn_Design_isModule (xw yn_Design_isModule bn_Design_isModule 2 (some .boolean)) ({ frames := 0, cells := 0, slots := 0, locals := 0 }) (dc_P (dC, dI) xcl (xt cI cB cJ cZ cQ) [.ref ((a 113)), .int v1] sz (wC a v cI cB cJ cZ cQ s)) (xk_Qi (dC, dI) xcl (xt cI cB cJ cZ cQ) (fun (r : Int32) (_ : Unit) => r = y.1) (fun u : Unit => (wC a v cI cB cJ cZ cQ y.2)) (va_A (wC a v cI cB cJ cZ cQ s) sz)) 0 0 (va_A (wC a v cI cB cJ cZ cQ s) sz) := by
  refine dc_of (QA := xk_Qi (dC, dI) xcl (xt cI cB cJ cZ cQ) (fun (r : Int32) (_ : Unit) => r = y.1) (fun u : Unit => (wC a v cI cB cJ cZ cQ y.2))) (by decide) (Nat.le_of_ble_eq_true rfl) ?_
  intro p e s0 m below meth c hx hb hml hown hg hr hlocks hin hP hK hN A hA hD hT ls hl
  have hown : s0.vm.findClass rn_Design = some m.cls := hown
  obtain ⟨H, hH⟩ : ∃ z, z = s0.heap := ⟨_, rfl⟩
  rw [← hH] at hP
  have hS : va_S A s0.heap H [] := by rw [hH]; exact va_S.rf
  suffices kk : ∀ QQ : State → Prop, QQ = MQ below (xk_Qi (dC, dI) xcl (xt cI cB cJ cZ cQ) (fun (r : Int32) (_ : Unit) => r = y.1) (fun u : Unit => (wC a v cI cB cJ cZ cQ y.2)) A) [.ref ((a 113)), .int v1].toArray s0 0 0 A → dcC p l e ({ frames := 0, cells := 0, slots := 0, locals := 0 }) s0 m [.ref ((a 113)), .int v1].toArray below meth c QQ (dC, dI) A (wC a v cI cB cJ cZ cQ s) 0 2 [(0, .ref ((a 113))), (1, .int v1)] [] by
    have k9 := kk _ rfl H [] ls hP hD hS hl
    rw [hH] at k9; exact k9
  clear hP hD hS hl hH H ls
  intro QQ hQQ
  intro H locs ls hP hD hS hl
  unfold fn_Design_isModule_Dc at hf
  refine lv_iload_n hx hb dn_Design_isModule_0 rfl (lv_at hl 1 rfl) ?_
  refine lv_if_lt (tgt := 16) hx hb dn_Design_isModule_1 (by decide) (fun h => ?_) (fun h => ?_)
  · have hf := (if_pos h).symm.trans hf
    refine lv_iconst (v := 0) hx hb dn_Design_isModule_16 (by decide) ?_
    rw [hQQ, ← Option.some.inj hf]
    exact xk_zret (w1 := fun u : Unit => (wC a v cI cB cJ cZ cQ s)) () hx hb hr rfl hlocks hK hS dn_Design_isModule_17 hP hD rfl (Nat.le_refl _) (Nat.le_refl _)
  · have hf := (if_neg h).symm.trans hf
    refine lv_iload_n hx hb dn_Design_isModule_4 rfl (lv_at hl 1 rfl) ?_
    refine lv_aload_n hx hb dn_Design_isModule_5 rfl (lv_at hl 0 rfl) ?_
    refine va_get (D := (dC, dI)) (ci := 10) (v := .int ((s.1 359 0))) (C := rn_Design) (T := fn_Design) (N := 16) hx hb hg in_Design hown hK hP 13 rfl rfl 4 (by decide) (hg _ wn_3_10) (fun _ h9 => h9) rfl dn_Design_isModule_6 ?_
    refine lv_icmp_ge (tgt := 16) hx hb dn_Design_isModule_9 (by decide) (fun h => ?_) (fun h => ?_)
    · have hf := (if_pos h).symm.trans hf
      refine lv_iconst (v := 0) hx hb dn_Design_isModule_16 (by decide) ?_
      rw [hQQ, ← Option.some.inj hf]
      exact xk_zret (w1 := fun u : Unit => (wC a v cI cB cJ cZ cQ s)) () hx hb hr rfl hlocks hK hS dn_Design_isModule_17 hP hD rfl (Nat.le_refl _) (Nat.le_refl _)
    · have hf := (if_neg h).symm.trans hf
      refine lv_iconst (v := 1) hx hb dn_Design_isModule_12 (by decide) ?_
      refine lv_goto (tgt := 17) hx hb dn_Design_isModule_13 (by decide) ?_
      rw [hQQ, ← Option.some.inj hf]
      exact xk_zret (w1 := fun u : Unit => (wC a v cI cB cJ cZ cQ s)) () hx hb hr rfl hlocks hK hS dn_Design_isModule_17 hP hD rfl (Nat.le_refl _) (Nat.le_refl _)
set_option maxHeartbeats 8000000 in
set_option maxRecDepth 100000 in
theorem ct_Design_portCount_Dc (l : Launch) (dC : Nat → ClassId) (dI : Nat → Nat → Nat) (cI cB cJ cZ cQ : ClassId) (N sz : Nat) (a : Nat → Nat) (v : Nat → Value) (v1 : Int32) (s : ms) (y : (Int32 × ms)) (hf : fn_Design_portCount_Dc N v1 s = some y) : Met l yn_Design_portCount (xw yn_Design_portCount bn_Design_portCount 2 (some .int)) ({ frames := 1, cells := 0, slots := 0, locals := 21 }) (dc_P (dC, dI) xcl (xt cI cB cJ cZ cQ) [.ref ((a 113)), .int v1] sz (wC a v cI cB cJ cZ cQ s)) (xk_Qi (dC, dI) xcl (xt cI cB cJ cZ cQ) (fun (r : Int32) (_ : Unit) => r = y.1) (fun u : Unit => (wC a v cI cB cJ cZ cQ y.2)) (va_A (wC a v cI cB cJ cZ cQ s) sz)) 0 0 (va_A (wC a v cI cB cJ cZ cQ s) sz) := by
  refine dc_of (QA := xk_Qi (dC, dI) xcl (xt cI cB cJ cZ cQ) (fun (r : Int32) (_ : Unit) => r = y.1) (fun u : Unit => (wC a v cI cB cJ cZ cQ y.2))) (by decide) (Nat.le_of_ble_eq_true rfl) ?_
  intro p e s0 m below meth c hx hb hml hown hg hr hlocks hin hP hK hN A hA hD hT ls hl
  have hown : s0.vm.findClass rn_Design = some m.cls := hown
  obtain ⟨H, hH⟩ : ∃ z, z = s0.heap := ⟨_, rfl⟩
  rw [← hH] at hP
  have hS : va_S A s0.heap H [] := by rw [hH]; exact va_S.rf
  suffices kk : ∀ QQ : State → Prop, QQ = MQ below (xk_Qi (dC, dI) xcl (xt cI cB cJ cZ cQ) (fun (r : Int32) (_ : Unit) => r = y.1) (fun u : Unit => (wC a v cI cB cJ cZ cQ y.2)) A) [.ref ((a 113)), .int v1].toArray s0 0 0 A → dcC p l e ({ frames := 1, cells := 0, slots := 0, locals := 21 }) s0 m [.ref ((a 113)), .int v1].toArray below meth c QQ (dC, dI) A (wC a v cI cB cJ cZ cQ s) 0 2 [(0, .ref ((a 113))), (1, .int v1)] [] by
    have k9 := kk _ rfl H [] ls hP hD hS hl
    rw [hH] at k9; exact k9
  clear hP hD hS hl hH H ls
  intro QQ hQQ
  intro H locs ls hP hD hS hl
  unfold fn_Design_portCount_Dc at hf
  refine lv_aload_n hx hb dn_Design_portCount_0 rfl (lv_at hl 0 rfl) ?_
  refine lv_iload_n hx hb dn_Design_portCount_1 rfl (lv_at hl 1 rfl) ?_
  obtain ⟨q_1, hc_2, hf⟩ := dc_b hf
  refine dc_calli (dc_runV (ar := 1) (As := [.int v1]) (rest := []) (ci := 10) (q0 := 13) ⟨hx, hb, hml, hown, hg⟩ hK hN hT hS hA (ct_Design_isModule_Dc l dC dI cI cB cJ cZ cQ N H.size a v v1 s q_1 hc_2) hP hD rfl rfl wn_5_91 wn_5_93 sn_Design_isModule wn_1_10 wn_5_94 rfl rfl (by decide +kernel) ⟨Nat.le_of_ble_eq_true rfl, Nat.le_of_ble_eq_true rfl⟩ rfl hl.1 rfl (Nat.le_of_ble_eq_true rfl) dn_Design_portCount_2 ⟨Nat.le_of_ble_eq_true rfl, Nat.le_of_ble_eq_true rfl⟩) hP hD hS hA (fun r_3 _ H locs hw hP hD hS => ?_)
  have hw : r_3 = q_1.1 := hw
  subst hw
  refine lv_if_eq (tgt := 17) hx hb dn_Design_portCount_5 (by decide) (fun h => ?_) (fun h => ?_)
  · have hf := (if_pos h).symm.trans hf
    refine lv_iconst (v := 0) hx hb dn_Design_portCount_17 (by decide) ?_
    rw [hQQ, ← Option.some.inj hf]
    exact xk_iret (w1 := fun u : Unit => (wC a v cI cB cJ cZ cQ q_1.2)) () hx hb hr hlocks hK hS dn_Design_portCount_18 hP hD rfl (Nat.le_refl _) (Nat.le_refl _)
  · have hf := (if_neg h).symm.trans hf
    refine lv_aload_n hx hb dn_Design_portCount_8 rfl (lv_at hl 0 rfl) ?_
    refine va_get (D := (dC, dI)) (ci := 10) (v := .ref ((a 363))) (C := rn_Design) (T := fn_Design) (N := 16) hx hb hg in_Design hown hK hP 13 rfl rfl 8 (by decide) (hg _ wn_3_17) (fun _ h9 => h9) rfl dn_Design_portCount_9 ?_
    refine lv_iload_n hx hb dn_Design_portCount_12 rfl (lv_at hl 1 rfl) ?_
    obtain ⟨hg_4, hf⟩ := dc_g hf
    refine va_iald hx hb hK hP 89 0 rfl rfl hg_4 dn_Design_portCount_13 ?_
    refine xk_ti (y := ((q_1.2.1 363) (Int32.toNatClampNeg v1))) rfl ?_
    refine lv_goto (tgt := 18) hx hb dn_Design_portCount_14 (by decide) ?_
    rw [hQQ, ← Option.some.inj hf]
    exact xk_iret (w1 := fun u : Unit => (wC a v cI cB cJ cZ cQ q_1.2)) () hx hb hr hlocks hK hS dn_Design_portCount_18 hP hD rfl (Nat.le_refl _) (Nat.le_refl _)
set_option maxHeartbeats 8000000 in
set_option maxRecDepth 100000 in
theorem ct_Design_firstDecl_Dc (l : Launch) (dC : Nat → ClassId) (dI : Nat → Nat → Nat) (cI cB cJ cZ cQ : ClassId) (N sz : Nat) (a : Nat → Nat) (v : Nat → Value) (v1 : Int32) (s : ms) (y : (Int32 × ms)) (hf : fn_Design_firstDecl_Dc N v1 s = some y) : Met l yn_Design_firstDecl (xw yn_Design_firstDecl bn_Design_firstDecl 2 (some .int)) ({ frames := 1, cells := 0, slots := 0, locals := 21 }) (dc_P (dC, dI) xcl (xt cI cB cJ cZ cQ) [.ref ((a 113)), .int v1] sz (wC a v cI cB cJ cZ cQ s)) (xk_Qi (dC, dI) xcl (xt cI cB cJ cZ cQ) (fun (r : Int32) (_ : Unit) => r = y.1) (fun u : Unit => (wC a v cI cB cJ cZ cQ y.2)) (va_A (wC a v cI cB cJ cZ cQ s) sz)) 0 0 (va_A (wC a v cI cB cJ cZ cQ s) sz) := by
  refine dc_of (QA := xk_Qi (dC, dI) xcl (xt cI cB cJ cZ cQ) (fun (r : Int32) (_ : Unit) => r = y.1) (fun u : Unit => (wC a v cI cB cJ cZ cQ y.2))) (by decide) (Nat.le_of_ble_eq_true rfl) ?_
  intro p e s0 m below meth c hx hb hml hown hg hr hlocks hin hP hK hN A hA hD hT ls hl
  have hown : s0.vm.findClass rn_Design = some m.cls := hown
  obtain ⟨H, hH⟩ : ∃ z, z = s0.heap := ⟨_, rfl⟩
  rw [← hH] at hP
  have hS : va_S A s0.heap H [] := by rw [hH]; exact va_S.rf
  suffices kk : ∀ QQ : State → Prop, QQ = MQ below (xk_Qi (dC, dI) xcl (xt cI cB cJ cZ cQ) (fun (r : Int32) (_ : Unit) => r = y.1) (fun u : Unit => (wC a v cI cB cJ cZ cQ y.2)) A) [.ref ((a 113)), .int v1].toArray s0 0 0 A → dcC p l e ({ frames := 1, cells := 0, slots := 0, locals := 21 }) s0 m [.ref ((a 113)), .int v1].toArray below meth c QQ (dC, dI) A (wC a v cI cB cJ cZ cQ s) 0 2 [(0, .ref ((a 113))), (1, .int v1)] [] by
    have k9 := kk _ rfl H [] ls hP hD hS hl
    rw [hH] at k9; exact k9
  clear hP hD hS hl hH H ls
  intro QQ hQQ
  intro H locs ls hP hD hS hl
  unfold fn_Design_firstDecl_Dc at hf
  refine lv_aload_n hx hb dn_Design_firstDecl_0 rfl (lv_at hl 0 rfl) ?_
  refine lv_iload_n hx hb dn_Design_firstDecl_1 rfl (lv_at hl 1 rfl) ?_
  obtain ⟨q_1, hc_2, hf⟩ := dc_b hf
  refine dc_calli (dc_runV (ar := 1) (As := [.int v1]) (rest := []) (ci := 10) (q0 := 13) ⟨hx, hb, hml, hown, hg⟩ hK hN hT hS hA (ct_Design_isModule_Dc l dC dI cI cB cJ cZ cQ N H.size a v v1 s q_1 hc_2) hP hD rfl rfl wn_5_91 wn_5_93 sn_Design_isModule wn_1_10 wn_5_94 rfl rfl (by decide +kernel) ⟨Nat.le_of_ble_eq_true rfl, Nat.le_of_ble_eq_true rfl⟩ rfl hl.1 rfl (Nat.le_of_ble_eq_true rfl) dn_Design_firstDecl_2 ⟨Nat.le_of_ble_eq_true rfl, Nat.le_of_ble_eq_true rfl⟩) hP hD hS hA (fun r_3 _ H locs hw hP hD hS => ?_)
  have hw : r_3 = q_1.1 := hw
  subst hw
  refine lv_if_eq (tgt := 17) hx hb dn_Design_firstDecl_5 (by decide) (fun h => ?_) (fun h => ?_)
  · have hf := (if_pos h).symm.trans hf
    refine lv_aload_n hx hb dn_Design_firstDecl_17 rfl (lv_at hl 0 rfl) ?_
    refine va_get (D := (dC, dI)) (ci := 10) (v := .ref ((a 114))) (C := rn_Design) (T := fn_Design) (N := 16) hx hb hg in_Design hown hK hP 13 rfl rfl 0 (by decide) (hg _ wn_2_234) (fun _ h9 => h9) rfl dn_Design_firstDecl_18 ?_
    refine va_get (D := (dC, dI)) (ci := 11) (v := .int ((q_1.2.1 371 0))) (C := rn_Parts) (T := fn_Parts) (N := 15) hx hb hg in_Parts hown hK hP 14 rfl rfl 0 (by decide) (hg _ wn_2_124) (fun _ h9 => h9) rfl dn_Design_firstDecl_21 ?_
    rw [hQQ, ← Option.some.inj hf]
    exact xk_iret (w1 := fun u : Unit => (wC a v cI cB cJ cZ cQ q_1.2)) () hx hb hr hlocks hK hS dn_Design_firstDecl_24 hP hD rfl (Nat.le_refl _) (Nat.le_refl _)
  · have hf := (if_neg h).symm.trans hf
    refine lv_aload_n hx hb dn_Design_firstDecl_8 rfl (lv_at hl 0 rfl) ?_
    refine va_get (D := (dC, dI)) (ci := 10) (v := .ref ((a 362))) (C := rn_Design) (T := fn_Design) (N := 16) hx hb hg in_Design hown hK hP 13 rfl rfl 7 (by decide) (hg _ wn_3_16) (fun _ h9 => h9) rfl dn_Design_firstDecl_9 ?_
    refine lv_iload_n hx hb dn_Design_firstDecl_12 rfl (lv_at hl 1 rfl) ?_
    obtain ⟨hg_4, hf⟩ := dc_g hf
    refine va_iald hx hb hK hP 88 0 rfl rfl hg_4 dn_Design_firstDecl_13 ?_
    refine xk_ti (y := ((q_1.2.1 362) (Int32.toNatClampNeg v1))) rfl ?_
    refine lv_goto (tgt := 24) hx hb dn_Design_firstDecl_14 (by decide) ?_
    rw [hQQ, ← Option.some.inj hf]
    exact xk_iret (w1 := fun u : Unit => (wC a v cI cB cJ cZ cQ q_1.2)) () hx hb hr hlocks hK hS dn_Design_firstDecl_24 hP hD rfl (Nat.le_refl _) (Nat.le_refl _)
