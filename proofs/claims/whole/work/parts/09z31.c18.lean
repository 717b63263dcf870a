set_option maxHeartbeats 8000000 in
set_option maxRecDepth 100000 in
theorem ct_Machine_repeated (l : Launch) (dC : Nat → ClassId) (dI : Nat → Nat → Nat) (cI cB cJ cZ cQ : ClassId) (N sz : Nat) (a : Nat → Nat) (v : Nat → Value) (v0 : Int32) (v1 : Int32) (v2 : Int64) (s : ms) (y : (Int64 × ms)) (hf : fn_Machine_repeated N v0 v1 v2 s = some y) : Met l yn_Machine_repeated (xw yn_Machine_repeated bn_Machine_repeated 7 (some .long)) ({ frames := 0, cells := 0, slots := 0, locals := 0 }) (dc_P (dC, dI) xcl (xt cI cB cJ cZ cQ) [.int v0, .int v1, .long v2] sz (wC a v cI cB cJ cZ cQ s)) (xk_Ql (dC, dI) xcl (xt cI cB cJ cZ cQ) (fun (r : Int64) (_ : Unit) => r = y.1) (fun u : Unit => (wC a v cI cB cJ cZ cQ y.2)) (va_A (wC a v cI cB cJ cZ cQ s) sz)) 0 0 (va_A (wC a v cI cB cJ cZ cQ s) sz) := by
  refine dc_of (QA := xk_Ql (dC, dI) xcl (xt cI cB cJ cZ cQ) (fun (r : Int64) (_ : Unit) => r = y.1) (fun u : Unit => (wC a v cI cB cJ cZ cQ y.2))) (by decide) (Nat.le_of_ble_eq_true rfl) ?_
  intro p e s0 m below meth c hx hb hml hown hg hr hlocks hin hP hK hN A hA hD hT ls hl
  have hown : s0.vm.findClass rn_Machine = some m.cls := hown
  obtain ⟨H, hH⟩ : ∃ z, z = s0.heap := ⟨_, rfl⟩
  rw [← hH] at hP
  have hS : va_S A s0.heap H [] := by rw [hH]; exact va_S.rf
  suffices kk : ∀ QQ : State → Prop, QQ = MQ below (xk_Ql (dC, dI) xcl (xt cI cB cJ cZ cQ) (fun (r : Int64) (_ : Unit) => r = y.1) (fun u : Unit => (wC a v cI cB cJ cZ cQ y.2)) A) [.int v0, .int v1, .long v2].toArray s0 0 0 A → dcC p l e ({ frames := 0, cells := 0, slots := 0, locals := 0 }) s0 m [.int v0, .int v1, .long v2].toArray below meth c QQ (dC, dI) A (wC a v cI cB cJ cZ cQ s) 0 7 [(0, .int v0), (1, .int v1), (2, .long v2)] [] by
    have k9 := kk _ rfl H [] ls hP hD hS hl
    rw [hH] at k9; exact k9
  clear hP hD hS hl hH H ls
  intro QQ hQQ
  have hd_6 : ∀ (n : Nat) (x0 : Int32) (x1 : Int32) (x2 : Int64) (x4 : Int64) (x6 : Int32) (s : ms), hd_Machine_repeated_6 N n x0 x1 x2 x4 x6 s = some y → dcC p l e ({ frames := 0, cells := 0, slots := 0, locals := 0 }) s0 m [.int v0, .int v1, .long v2].toArray below meth c QQ (dC, dI) A (wC a v cI cB cJ cZ cQ s) 6 7 [(0, .int x0), (1, .int x1), (2, .long x2), (4, .long x4), (6, .int x6)] [] := by
    intro n
    induction n with
    | zero => intro x0 x1 x2 x4 x6 s hf; cases hf
    | succ n ih =>
      intro x0 x1 x2 x4 x6 s hf H locs ls hP hD hS hl
      have hf : bd_Machine_repeated_6 N (hd_Machine_repeated_6 N n) x0 x1 x2 x4 x6 s = some y := hf
      have hk_6 := ih
      generalize hd_Machine_repeated_6 N n = k_6 at hf hk_6
      unfold bd_Machine_repeated_6 at hf
      refine lv_iload hx hb dn_Machine_repeated_6 (lv_at hl 4 rfl) ?_
      refine lv_iload_n hx hb dn_Machine_repeated_8 rfl (lv_at hl 0 rfl) ?_
      refine lv_icmp_ge (tgt := 26) hx hb dn_Machine_repeated_9 (by decide) (fun h => ?_) (fun h => ?_)
      · have hf := (if_pos h).symm.trans hf
        refine lv_lload hx hb dn_Machine_repeated_26 (lv_at hl 3 rfl) ?_
        rw [hQQ, ← Option.some.inj hf]
        exact xk_lret (w1 := fun u : Unit => (wC a v cI cB cJ cZ cQ s)) () hx hb hr hlocks hK hS dn_Machine_repeated_28 hP hD rfl (Nat.le_refl _) (Nat.le_refl _)
      · have hf := (if_neg h).symm.trans hf
        refine lv_lload hx hb dn_Machine_repeated_12 (lv_at hl 3 rfl) ?_
        refine lv_iload_n hx hb dn_Machine_repeated_14 rfl (lv_at hl 1 rfl) ?_
        refine lv_lshl (v := (x4 : Int64) <<< ((Int32.toInt64 x1) &&& 63)) hx hb dn_Machine_repeated_15 rfl ?_
        refine lv_lload_n hx hb dn_Machine_repeated_16 rfl (lv_at hl 2 rfl) ?_
        refine lv_lor hx hb dn_Machine_repeated_17 ?_
        refine lv_lstore (lv' := [(4, .long ((((x4 : Int64) <<< ((Int32.toInt64 x1) &&& 63)) ||| x2))), (0, .int x0), (1, .int x1), (2, .long x2), (6, .int x6)]) hx hb dn_Machine_repeated_18 hl (by decide) rfl (fun ls hl => ?_)
        refine lv_iinc (v := (x6 + 1)) (lv' := [(6, .int ((x6 + 1))), (4, .long ((((x4 : Int64) <<< ((Int32.toInt64 x1) &&& 63)) ||| x2))), (0, .int x0), (1, .int x1), (2, .long x2)]) hx hb dn_Machine_repeated_20 hl (k := 4) rfl (dc_inc (by decide)) (by decide) rfl (fun ls hl => ?_)
        refine lv_goto (tgt := 6) hx hb dn_Machine_repeated_23 (by decide) ?_
        exact hk_6 x0 x1 x2 ((((x4 : Int64) <<< ((Int32.toInt64 x1) &&& 63)) ||| x2)) ((x6 + 1)) s hf H locs ls hP hD hS (lv_sub hl [2, 3, 4, 1, 0] rfl)
  intro H locs ls hP hD hS hl
  unfold fn_Machine_repeated at hf
  refine lv_lload_n hx hb dn_Machine_repeated_0 rfl (lv_at hl 2 rfl) ?_
  refine lv_lstore (lv' := [(4, .long v2), (0, .int v0), (1, .int v1), (2, .long v2)]) hx hb dn_Machine_repeated_1 hl (by decide) rfl (fun ls hl => ?_)
  refine lv_iconst (v := 1) hx hb dn_Machine_repeated_3 (by decide) ?_
  refine lv_istore (lv' := [(6, .int 1), (4, .long v2), (0, .int v0), (1, .int v1), (2, .long v2)]) hx hb dn_Machine_repeated_4 hl (by decide) rfl (fun ls hl => ?_)
  exact hd_6 N v0 v1 v2 v2 1 s hf H locs ls hP hD hS (lv_sub hl [2, 3, 4, 1, 0] rfl)
set_option maxHeartbeats 8000000 in
set_option maxRecDepth 100000 in
theorem ct_Machine_one (l : Launch) (dC : Nat → ClassId) (dI : Nat → Nat → Nat) (cI cB cJ cZ cQ : ClassId) (N sz : Nat) (a : Nat → Nat) (v : Nat → Value) (v0 : Int32) (v1 : Int32) (v2 : Int64) (s : ms) (y : (Int64 × ms)) (hf : fn_Machine_one N v0 v1 v2 s = some y) : Met l yn_Machine_one (xw yn_Machine_one bn_Machine_one 4 (some .long)) ({ frames := 1, cells := 0, slots := 0, locals := 26 }) (dc_P (dC, dI) xcl (xt cI cB cJ cZ cQ) [.int v0, .int v1, .long v2] sz (wC a v cI cB cJ cZ cQ s)) (xk_Ql (dC, dI) xcl (xt cI cB cJ cZ cQ) (fun (r : Int64) (_ : Unit) => r = y.1) (fun u : Unit => (wC a v cI cB cJ cZ cQ y.2)) (va_A (wC a v cI cB cJ cZ cQ s) sz)) 0 0 (va_A (wC a v cI cB cJ cZ cQ s) sz) := by
  refine dc_of (QA := xk_Ql (dC, dI) xcl (xt cI cB cJ cZ cQ) (fun (r : Int64) (_ : Unit) => r = y.1) (fun u : Unit => (wC a v cI cB cJ cZ cQ y.2))) (by decide) (Nat.le_of_ble_eq_true rfl) ?_
  intro p e s0 m below meth c hx hb hml hown hg hr hlocks hin hP hK hN A hA hD hT ls hl
  have hown : s0.vm.findClass rn_Machine = some m.cls := hown
  obtain ⟨H, hH⟩ : ∃ z, z = s0.heap := ⟨_, rfl⟩
  rw [← hH] at hP
  have hS : va_S A s0.heap H [] := by rw [hH]; exact va_S.rf
  suffices kk : ∀ QQ : State → Prop, QQ = MQ below (xk_Ql (dC, dI) xcl (xt cI cB cJ cZ cQ) (fun (r : Int64) (_ : Unit) => r = y.1) (fun u : Unit => (wC a v cI cB cJ cZ cQ y.2)) A) [.int v0, .int v1, .long v2].toArray s0 0 0 A → dcC p l e ({ frames := 1, cells := 0, slots := 0, locals := 26 }) s0 m [.int v0, .int v1, .long v2].toArray below meth c QQ (dC, dI) A (wC a v cI cB cJ cZ cQ s) 0 4 [(0, .int v0), (1, .int v1), (2, .long v2)] [] by
    have k9 := kk _ rfl H [] ls hP hD hS hl
    rw [hH] at k9; exact k9
  clear hP hD hS hl hH H ls
  intro QQ hQQ
  intro H locs ls hP hD hS hl
  unfold fn_Machine_one at hf
  refine lv_iload_n hx hb dn_Machine_one_0 rfl (lv_at hl 0 rfl) ?_
  by_cases h_0 : v0 = 33
  · have hf := (if_pos h_0).symm.trans hf
    refine xk_ti (y := 33) h_0 ?_
    refine lv_lookup (off := 86) (tgt := 87) hx hb dn_Machine_one_1 (by decide) (by decide) (by decide) ?_
    refine lv_lload_n hx hb dn_Machine_one_87 rfl (lv_at hl 2 rfl) ?_
    refine lv_lconst (v := 0) hx hb dn_Machine_one_88 (by decide) ?_
    refine W.lcmp hx hb dn_Machine_one_89 ?_
    refine lv_if_ne (tgt := 97) hx hb dn_Machine_one_90 (by decide) (fun h => ?_) (fun h => ?_)
    · have hf := (if_neg h).symm.trans hf
      refine lv_lconst (v := 0) hx hb dn_Machine_one_97 (by decide) ?_
      rw [hQQ, ← Option.some.inj hf]
      exact xk_lret (w1 := fun u : Unit => (wC a v cI cB cJ cZ cQ s)) () hx hb hr hlocks hK hS dn_Machine_one_98 hP hD rfl (Nat.le_refl _) (Nat.le_refl _)
    · have hf := (if_pos h).symm.trans hf
      refine lv_lconst (v := 1) hx hb dn_Machine_one_93 (by decide) ?_
      refine lv_goto (tgt := 98) hx hb dn_Machine_one_94 (by decide) ?_
      rw [hQQ, ← Option.some.inj hf]
      exact xk_lret (w1 := fun u : Unit => (wC a v cI cB cJ cZ cQ s)) () hx hb hr hlocks hK hS dn_Machine_one_98 hP hD rfl (Nat.le_refl _) (Nat.le_refl _)
  have hf := (if_neg h_0).symm.trans hf
  by_cases h_1 : v0 = 38
  · have hf := (if_pos h_1).symm.trans hf
    refine xk_ti (y := 38) h_1 ?_
    refine lv_lookup (off := 98) (tgt := 99) hx hb dn_Machine_one_1 (by decide) (by decide) (by decide) ?_
    refine lv_lload_n hx hb dn_Machine_one_99 rfl (lv_at hl 2 rfl) ?_
    refine lv_iload_n hx hb dn_Machine_one_100 rfl (lv_at hl 1 rfl) ?_
    obtain ⟨q_1, hc_2, hf⟩ := dc_b hf
    refine dc_calll (dc_runSN (ar := 1) (As := [.int v1]) (rest := [.long v2]) (host := "CircuitCycles") ⟨hx, hb, hml, hown, hg⟩ hK hN hT hS hA (ct_C_mask l dC dI cI cB cJ cZ cQ N H.size a v v1 s q_1 hc_2) hP hD nl_Machine_142 wn_4_71 wn_1_1 wn_4_72 rfl rfl (by decide +kernel) ⟨Nat.le_of_ble_eq_true rfl, Nat.le_of_ble_eq_true rfl⟩ rfl hl.1 rfl (Nat.le_of_ble_eq_true rfl) dn_Machine_one_101 ⟨Nat.le_of_ble_eq_true rfl, Nat.le_of_ble_eq_true rfl⟩) hP hD hS hA (fun r_3 _ H locs hw hP hD hS => ?_)
    have hw : r_3 = q_1.1 := hw
    subst hw
    refine W.lcmp hx hb dn_Machine_one_104 ?_
    refine lv_if_ne (tgt := 112) hx hb dn_Machine_one_105 (by decide) (fun h => ?_) (fun h => ?_)
    · have hf := (if_neg h).symm.trans hf
      refine lv_lconst (v := 0) hx hb dn_Machine_one_112 (by decide) ?_
      rw [hQQ, ← Option.some.inj hf]
      exact xk_lret (w1 := fun u : Unit => (wC a v cI cB cJ cZ cQ q_1.2)) () hx hb hr hlocks hK hS dn_Machine_one_113 hP hD rfl (Nat.le_refl _) (Nat.le_refl _)
    · have hf := (if_pos h).symm.trans hf
      refine lv_lconst (v := 1) hx hb dn_Machine_one_108 (by decide) ?_
      refine lv_goto (tgt := 113) hx hb dn_Machine_one_109 (by decide) ?_
      rw [hQQ, ← Option.some.inj hf]
      exact xk_lret (w1 := fun u : Unit => (wC a v cI cB cJ cZ cQ q_1.2)) () hx hb hr hlocks hK hS dn_Machine_one_113 hP hD rfl (Nat.le_refl _) (Nat.le_refl _)
  have hf := (if_neg h_1).symm.trans hf
  by_cases h_2 : v0 = 45
  · have hf := (if_pos h_2).symm.trans hf
    refine xk_ti (y := 45) h_2 ?_
    refine lv_lookup (off := 78) (tgt := 79) hx hb dn_Machine_one_1 (by decide) (by decide) (by decide) ?_
    refine lv_lload_n hx hb dn_Machine_one_79 rfl (lv_at hl 2 rfl) ?_
    refine lv_lneg hx hb dn_Machine_one_80 ?_
    refine lv_iload_n hx hb dn_Machine_one_81 rfl (lv_at hl 1 rfl) ?_
    obtain ⟨q_1, hc_2, hf⟩ := dc_b hf
    refine dc_calll (dc_runSN (ar := 1) (As := [.int v1]) (rest := [.long ((-v2))]) (host := "CircuitCycles") ⟨hx, hb, hml, hown, hg⟩ hK hN hT hS hA (ct_C_mask l dC dI cI cB cJ cZ cQ N H.size a v v1 s q_1 hc_2) hP hD nl_Machine_142 wn_4_71 wn_1_1 wn_4_72 rfl rfl (by decide +kernel) ⟨Nat.le_of_ble_eq_true rfl, Nat.le_of_ble_eq_true rfl⟩ rfl hl.1 rfl (Nat.le_of_ble_eq_true rfl) dn_Machine_one_82 ⟨Nat.le_of_ble_eq_true rfl, Nat.le_of_ble_eq_true rfl⟩) hP hD hS hA (fun r_3 _ H locs hw hP hD hS => ?_)
    have hw : r_3 = q_1.1 := hw
    subst hw
    refine lv_land hx hb dn_Machine_one_85 ?_
    rw [hQQ, ← Option.some.inj hf]
    exact xk_lret (w1 := fun u : Unit => (wC a v cI cB cJ cZ cQ q_1.2)) () hx hb hr hlocks hK hS dn_Machine_one_86 hP hD rfl (Nat.le_refl _) (Nat.le_refl _)
  have hf := (if_neg h_2).symm.trans hf
  by_cases h_3 : v0 = 91
  · have hf := (if_pos h_3).symm.trans hf
    refine xk_ti (y := 91) h_3 ?_
    refine lv_lookup (off := 133) (tgt := 134) hx hb dn_Machine_one_1 (by decide) (by decide) (by decide) ?_
    refine lv_lload_n hx hb dn_Machine_one_134 rfl (lv_at hl 2 rfl) ?_
    refine lv_iload_n hx hb dn_Machine_one_135 rfl (lv_at hl 1 rfl) ?_
    refine lv_bipush (v := 8) hx hb dn_Machine_one_136 (by decide) ?_
    refine lv_iushr (v := (Int32.toUInt32 v1 >>> (Int32.toUInt32 8 &&& Int32.toUInt32 31)).toInt32) hx hb dn_Machine_one_138 rfl ?_
    refine lv_lushr (v := (Int64.toUInt64 v2 >>> (Int64.toUInt64 (Int32.toInt64 (((Int32.toUInt32 v1 >>> (Int32.toUInt32 8 &&& Int32.toUInt32 31)).toInt32))) &&& Int64.toUInt64 63)).toInt64) hx hb dn_Machine_one_139 rfl ?_
    refine lv_iload_n hx hb dn_Machine_one_140 rfl (lv_at hl 1 rfl) ?_
    refine lv_sipush (v := 255) hx hb dn_Machine_one_141 (by decide) ?_
    refine lv_iand hx hb dn_Machine_one_144 ?_
    obtain ⟨q_1, hc_2, hf⟩ := dc_b hf
    refine dc_calll (dc_runSN (ar := 1) (As := [.int ((v1 &&& 255))]) (rest := [.long (((Int64.toUInt64 v2 >>> (Int64.toUInt64 (Int32.toInt64 (((Int32.toUInt32 v1 >>> (Int32.toUInt32 8 &&& Int32.toUInt32 31)).toInt32))) &&& Int64.toUInt64 63)).toInt64))]) (host := "CircuitCycles") ⟨hx, hb, hml, hown, hg⟩ hK hN hT hS hA (ct_C_mask l dC dI cI cB cJ cZ cQ N H.size a v ((v1 &&& 255)) s q_1 hc_2) hP hD nl_Machine_142 wn_4_71 wn_1_1 wn_4_72 rfl rfl (by decide +kernel) ⟨Nat.le_of_ble_eq_true rfl, Nat.le_of_ble_eq_true rfl⟩ rfl hl.1 rfl (Nat.le_of_ble_eq_true rfl) dn_Machine_one_145 ⟨Nat.le_of_ble_eq_true rfl, Nat.le_of_ble_eq_true rfl⟩) hP hD hS hA (fun r_3 _ H locs hw hP hD hS => ?_)
    have hw : r_3 = q_1.1 := hw
    subst hw
    refine lv_land hx hb dn_Machine_one_148 ?_
    rw [hQQ, ← Option.some.inj hf]
    exact xk_lret (w1 := fun u : Unit => (wC a v cI cB cJ cZ cQ q_1.2)) () hx hb hr hlocks hK hS dn_Machine_one_149 hP hD rfl (Nat.le_refl _) (Nat.le_refl _)
  have hf := (if_neg h_3).symm.trans hf
  by_cases h_4 : v0 = 94
  · have hf := (if_pos h_4).symm.trans hf
    refine xk_ti (y := 94) h_4 ?_
    refine lv_lookup (off := 125) (tgt := 126) hx hb dn_Machine_one_1 (by decide) (by decide) (by decide) ?_
    refine lv_lload_n hx hb dn_Machine_one_126 rfl (lv_at hl 2 rfl) ?_
    obtain ⟨q_1, hc_2, hf⟩ := dc_b hf
    refine dc_calli (dc_runS (ar := 1) (As := [.long v2]) (rest := []) ⟨hx, hb, hml, hown, hg⟩ hK hN hT hS hA (ct_Long_bitCount l dC dI cI cB cJ cZ cQ N H.size a v v2 s q_1 hc_2) hP hD wn_8_18 wn_8_19 wn_1_28 wn_8_20 rfl rfl (by decide +kernel) ⟨Nat.le_of_ble_eq_true rfl, Nat.le_of_ble_eq_true rfl⟩ rfl hl.1 rfl (Nat.le_of_ble_eq_true rfl) dn_Machine_one_127 ⟨Nat.le_of_ble_eq_true rfl, Nat.le_of_ble_eq_true rfl⟩) hP hD hS hA (fun r_3 _ H locs hw hP hD hS => ?_)
    have hw : r_3 = q_1.1 := hw
    subst hw
    refine lv_iconst (v := 1) hx hb dn_Machine_one_130 (by decide) ?_
    refine lv_iand hx hb dn_Machine_one_131 ?_
    refine lv_i2l (v := Int32.toInt64 ((q_1.1 &&& 1))) hx hb dn_Machine_one_132 rfl ?_
    rw [hQQ, ← Option.some.inj hf]
    exact xk_lret (w1 := fun u : Unit => (wC a v cI cB cJ cZ cQ q_1.2)) () hx hb hr hlocks hK hS dn_Machine_one_133 hP hD rfl (Nat.le_refl _) (Nat.le_refl _)
  have hf := (if_neg h_4).symm.trans hf
  by_cases h_5 : v0 = 124
  · have hf := (if_pos h_5).symm.trans hf
    refine xk_ti (y := 124) h_5 ?_
    refine lv_lookup (off := 113) (tgt := 114) hx hb dn_Machine_one_1 (by decide) (by decide) (by decide) ?_
    refine lv_lload_n hx hb dn_Machine_one_114 rfl (lv_at hl 2 rfl) ?_
    refine lv_lconst (v := 0) hx hb dn_Machine_one_115 (by decide) ?_
    refine W.lcmp hx hb dn_Machine_one_116 ?_
    refine lv_if_eq (tgt := 124) hx hb dn_Machine_one_117 (by decide) (fun h => ?_) (fun h => ?_)
    · have hf := (if_pos h).symm.trans hf
      refine lv_lconst (v := 0) hx hb dn_Machine_one_124 (by decide) ?_
      rw [hQQ, ← Option.some.inj hf]
      exact xk_lret (w1 := fun u : Unit => (wC a v cI cB cJ cZ cQ s)) () hx hb hr hlocks hK hS dn_Machine_one_125 hP hD rfl (Nat.le_refl _) (Nat.le_refl _)
    · have hf := (if_neg h).symm.trans hf
      refine lv_lconst (v := 1) hx hb dn_Machine_one_120 (by decide) ?_
      refine lv_goto (tgt := 125) hx hb dn_Machine_one_121 (by decide) ?_
      rw [hQQ, ← Option.some.inj hf]
      exact xk_lret (w1 := fun u : Unit => (wC a v cI cB cJ cZ cQ s)) () hx hb hr hlocks hK hS dn_Machine_one_125 hP hD rfl (Nat.le_refl _) (Nat.le_refl _)
  have hf := (if_neg h_5).symm.trans hf
  by_cases h_6 : v0 = 126
  · have hf := (if_pos h_6).symm.trans hf
    refine xk_ti (y := 126) h_6 ?_
    refine lv_lookup (off := 67) (tgt := 68) hx hb dn_Machine_one_1 (by decide) (by decide) (by decide) ?_
    refine lv_lload_n hx hb dn_Machine_one_68 rfl (lv_at hl 2 rfl) ?_
    refine lv_ldc2 hx hb hown (hg _ wn_8_17) dn_Machine_one_69 ?_
    refine lv_lxor hx hb dn_Machine_one_72 ?_
    refine lv_iload_n hx hb dn_Machine_one_73 rfl (lv_at hl 1 rfl) ?_
    obtain ⟨q_1, hc_2, hf⟩ := dc_b hf
    refine dc_calll (dc_runSN (ar := 1) (As := [.int v1]) (rest := [.long ((v2 ^^^ (-1)))]) (host := "CircuitCycles") ⟨hx, hb, hml, hown, hg⟩ hK hN hT hS hA (ct_C_mask l dC dI cI cB cJ cZ cQ N H.size a v v1 s q_1 hc_2) hP hD nl_Machine_142 wn_4_71 wn_1_1 wn_4_72 rfl rfl (by decide +kernel) ⟨Nat.le_of_ble_eq_true rfl, Nat.le_of_ble_eq_true rfl⟩ rfl hl.1 rfl (Nat.le_of_ble_eq_true rfl) dn_Machine_one_74 ⟨Nat.le_of_ble_eq_true rfl, Nat.le_of_ble_eq_true rfl⟩) hP hD hS hA (fun r_3 _ H locs hw hP hD hS => ?_)
    have hw : r_3 = q_1.1 := hw
    subst hw
    refine lv_land hx hb dn_Machine_one_77 ?_
    rw [hQQ, ← Option.some.inj hf]
    exact xk_lret (w1 := fun u : Unit => (wC a v cI cB cJ cZ cQ q_1.2)) () hx hb hr hlocks hK hS dn_Machine_one_78 hP hD rfl (Nat.le_refl _) (Nat.le_refl _)
  have hf := (if_neg h_6).symm.trans hf
  refine lv_lookup (off := 149) (tgt := 150) hx hb dn_Machine_one_1 (by decide) (by rw [lv_osw h_0 (by decide)]; rw [lv_osw h_1 (by decide)]; rw [lv_osw h_2 (by decide)]; rw [lv_osw h_3 (by decide)]; rw [lv_osw h_4 (by decide)]; rw [lv_osw h_5 (by decide)]; rw [lv_osw h_6 (by decide)]; rfl) (by decide) ?_
  refine lv_iload_n hx hb dn_Machine_one_150 rfl (lv_at hl 1 rfl) ?_
  refine lv_bipush (v := 8) hx hb dn_Machine_one_151 (by decide) ?_
  refine lv_iushr (v := (Int32.toUInt32 v1 >>> (Int32.toUInt32 8 &&& Int32.toUInt32 31)).toInt32) hx hb dn_Machine_one_153 rfl ?_
  refine lv_iload_n hx hb dn_Machine_one_154 rfl (lv_at hl 1 rfl) ?_
  refine lv_sipush (v := 255) hx hb dn_Machine_one_155 (by decide) ?_
  refine lv_iand hx hb dn_Machine_one_158 ?_
  refine lv_lload_n hx hb dn_Machine_one_159 rfl (lv_at hl 2 rfl) ?_
  obtain ⟨q_1, hc_2, hf⟩ := dc_b hf
  refine dc_calll (dc_runS (ar := 3) (As := [.int (((Int32.toUInt32 v1 >>> (Int32.toUInt32 8 &&& Int32.toUInt32 31)).toInt32)), .int ((v1 &&& 255)), .long v2]) (rest := []) ⟨hx, hb, hml, hown, hg⟩ hK hN hT hS hA (ct_Machine_repeated l dC dI cI cB cJ cZ cQ N H.size a v (((Int32.toUInt32 v1 >>> (Int32.toUInt32 8 &&& Int32.toUInt32 31)).toInt32)) ((v1 &&& 255)) v2 s q_1 hc_2) hP hD wn_8_24 wn_8_25 wn_1_8 wn_8_26 rfl rfl (by decide +kernel) ⟨Nat.le_of_ble_eq_true rfl, Nat.le_of_ble_eq_true rfl⟩ rfl hl.1 rfl (Nat.le_of_ble_eq_true rfl) dn_Machine_one_160 ⟨Nat.le_of_ble_eq_true rfl, Nat.le_of_ble_eq_true rfl⟩) hP hD hS hA (fun r_3 _ H locs hw hP hD hS => ?_)
  have hw : r_3 = q_1.1 := hw
  subst hw
  rw [hQQ, ← Option.some.inj hf]
  exact xk_lret (w1 := fun u : Unit => (wC a v cI cB cJ cZ cQ q_1.2)) () hx hb hr hlocks hK hS dn_Machine_one_163 hP hD rfl (Nat.le_refl _) (Nat.le_refl _)
set_option maxHeartbeats 8000000 in
set_option maxRecDepth 100000 in
theorem ct_Machine_isBeyond (l : Launch) (dC : Nat → ClassId) (dI : Nat → Nat → Nat) (cI cB cJ cZ cQ : ClassId) (N sz : Nat) (a : Nat → Nat) (v : Nat → Value) (v0 : Int64) (s : ms) (y : (Int32 × ms)) (hf : fn_Machine_isBeyond N v0 s = some y) : Met l yn_Machine_isBeyond (xw yn_Machine_isBeyond bn_Machine_isBeyond 2 (some .boolean)) ({ frames := 0, cells := 0, slots := 0, locals := 0 }) (dc_P (dC, dI) xcl (xt cI cB cJ cZ cQ) [.long v0] sz (wC a v cI cB cJ cZ cQ s)) (xk_Qi (dC, dI) xcl (xt cI cB cJ cZ cQ) (fun (r : Int32) (_ : Unit) => r = y.1) (fun u : Unit => (wC a v cI cB cJ cZ cQ y.2)) (va_A (wC a v cI cB cJ cZ cQ s) sz)) 0 0 (va_A (wC a v cI cB cJ cZ cQ s) sz) := by
  refine dc_of (QA := xk_Qi (dC, dI) xcl (xt cI cB cJ cZ cQ) (fun (r : Int32) (_ : Unit) => r = y.1) (fun u : Unit => (wC a v cI cB cJ cZ cQ y.2))) (by decide) (Nat.le_of_ble_eq_true rfl) ?_
  intro p e s0 m below meth c hx hb hml hown hg hr hlocks hin hP hK hN A hA hD hT ls hl
  have hown : s0.vm.findClass rn_Machine = some m.cls := hown
  obtain ⟨H, hH⟩ : ∃ z, z = s0.heap := ⟨_, rfl⟩
  rw [← hH] at hP
  have hS : va_S A s0.heap H [] := by rw [hH]; exact va_S.rf
  suffices kk : ∀ QQ : State → Prop, QQ = MQ below (xk_Qi (dC, dI) xcl (xt cI cB cJ cZ cQ) (fun (r : Int32) (_ : Unit) => r = y.1) (fun u : Unit => (wC a v cI cB cJ cZ cQ y.2)) A) [.long v0].toArray s0 0 0 A → dcC p l e ({ frames := 0, cells := 0, slots := 0, locals := 0 }) s0 m [.long v0].toArray below meth c QQ (dC, dI) A (wC a v cI cB cJ cZ cQ s) 0 2 [(0, .long v0)] [] by
    have k9 := kk _ rfl H [] ls hP hD hS hl
    rw [hH] at k9; exact k9
  clear hP hD hS hl hH H ls
  intro QQ hQQ
  intro H locs ls hP hD hS hl
  unfold fn_Machine_isBeyond at hf
  refine lv_lload_n hx hb dn_Machine_isBeyond_0 rfl (lv_at hl 0 rfl) ?_
  refine lv_lconst (v := 0) hx hb dn_Machine_isBeyond_1 (by decide) ?_
  refine W.lcmp hx hb dn_Machine_isBeyond_2 ?_
  refine lv_if_lt (tgt := 14) hx hb dn_Machine_isBeyond_3 (by decide) (fun h => ?_) (fun h => ?_)
  · have hf := (if_pos h).symm.trans hf
    refine lv_iconst (v := 1) hx hb dn_Machine_isBeyond_14 (by decide) ?_
    refine lv_goto (tgt := 19) hx hb dn_Machine_isBeyond_15 (by decide) ?_
    rw [hQQ, ← Option.some.inj hf]
    exact xk_zret (w1 := fun u : Unit => (wC a v cI cB cJ cZ cQ s)) () hx hb hr rfl hlocks hK hS dn_Machine_isBeyond_19 hP hD rfl (Nat.le_refl _) (Nat.le_refl _)
  · have hf := (if_neg h).symm.trans hf
    refine lv_lload_n hx hb dn_Machine_isBeyond_6 rfl (lv_at hl 0 rfl) ?_
    refine lv_ldc2 hx hb hown (hg _ wn_8_9) dn_Machine_isBeyond_7 ?_
    refine W.lcmp hx hb dn_Machine_isBeyond_10 ?_
    refine lv_if_lt (tgt := 18) hx hb dn_Machine_isBeyond_11 (by decide) (fun h => ?_) (fun h => ?_)
    · have hf := (if_pos h).symm.trans hf
      refine lv_iconst (v := 0) hx hb dn_Machine_isBeyond_18 (by decide) ?_
      rw [hQQ, ← Option.some.inj hf]
      exact xk_zret (w1 := fun u : Unit => (wC a v cI cB cJ cZ cQ s)) () hx hb hr rfl hlocks hK hS dn_Machine_isBeyond_19 hP hD rfl (Nat.le_refl _) (Nat.le_refl _)
    · have hf := (if_neg h).symm.trans hf
      refine lv_iconst (v := 1) hx hb dn_Machine_isBeyond_14 (by decide) ?_
      refine lv_goto (tgt := 19) hx hb dn_Machine_isBeyond_15 (by decide) ?_
      rw [hQQ, ← Option.some.inj hf]
      exact xk_zret (w1 := fun u : Unit => (wC a v cI cB cJ cZ cQ s)) () hx hb hr rfl hlocks hK hS dn_Machine_isBeyond_19 hP hD rfl (Nat.le_refl _) (Nat.le_refl _)
set_option maxHeartbeats 8000000 in
set_option maxRecDepth 100000 in
theorem ct_Machine_asked (l : Launch) (dC : Nat → ClassId) (dI : Nat → Nat → Nat) (cI cB cJ cZ cQ : ClassId) (N sz : Nat) (a : Nat → Nat) (v : Nat → Value) (v0 : Int32) (v1 : Int64) (v3 : Int64) (s : ms) (y : (Int32 × ms)) (hf : fn_Machine_asked N v0 v1 v3 s = some y) : Met l yn_Machine_asked (xw yn_Machine_asked bn_Machine_asked 5 (some .boolean)) ({ frames := 0, cells := 0, slots := 0, locals := 0 }) (dc_P (dC, dI) xcl (xt cI cB cJ cZ cQ) [.int v0, .long v1, .long v3] sz (wC a v cI cB cJ cZ cQ s)) (xk_Qi (dC, dI) xcl (xt cI cB cJ cZ cQ) (fun (r : Int32) (_ : Unit) => r = y.1) (fun u : Unit => (wC a v cI cB cJ cZ cQ y.2)) (va_A (wC a v cI cB cJ cZ cQ s) sz)) 0 0 (va_A (wC a v cI cB cJ cZ cQ s) sz) := by
  refine dc_of (QA := xk_Qi (dC, dI) xcl (xt cI cB cJ cZ cQ) (fun (r : Int32) (_ : Unit) => r = y.1) (fun u : Unit => (wC a v cI cB cJ cZ cQ y.2))) (by decide) (Nat.le_of_ble_eq_true rfl) ?_
  intro p e s0 m below meth c hx hb hml hown hg hr hlocks hin hP hK hN A hA hD hT ls hl
  have hown : s0.vm.findClass rn_Machine = some m.cls := hown
  obtain ⟨H, hH⟩ : ∃ z, z = s0.heap := ⟨_, rfl⟩
  rw [← hH] at hP
  have hS : va_S A s0.heap H [] := by rw [hH]; exact va_S.rf
  suffices kk : ∀ QQ : State → Prop, QQ = MQ below (xk_Qi (dC, dI) xcl (xt cI cB cJ cZ cQ) (fun (r : Int32) (_ : Unit) => r = y.1) (fun u : Unit => (wC a v cI cB cJ cZ cQ y.2)) A) [.int v0, .long v1, .long v3].toArray s0 0 0 A → dcC p l e ({ frames := 0, cells := 0, slots := 0, locals := 0 }) s0 m [.int v0, .long v1, .long v3].toArray below meth c QQ (dC, dI) A (wC a v cI cB cJ cZ cQ s) 0 5 [(0, .int v0), (1, .long v1), (3, .long v3)] [] by
    have k9 := kk _ rfl H [] ls hP hD hS hl
    rw [hH] at k9; exact k9
  clear hP hD hS hl hH H ls
  intro QQ hQQ
  intro H locs ls hP hD hS hl
  unfold fn_Machine_asked at hf
  refine lv_iload_n hx hb dn_Machine_asked_0 rfl (lv_at hl 0 rfl) ?_
  by_cases h_0 : v0 = 5
  · have hf := (if_pos h_0).symm.trans hf
    refine xk_ti (y := 5) h_0 ?_
    refine lv_lookup (off := 171) (tgt := 172) hx hb dn_Machine_asked_1 (by decide) (by decide) (by decide) ?_
    refine lv_lload_n hx hb dn_Machine_asked_172 rfl (lv_at hl 1 rfl) ?_
    refine lv_lconst (v := 0) hx hb dn_Machine_asked_173 (by decide) ?_
    refine W.lcmp hx hb dn_Machine_asked_174 ?_
    refine lv_if_eq (tgt := 188) hx hb dn_Machine_asked_175 (by decide) (fun h => ?_) (fun h => ?_)
    · have hf := (if_pos h).symm.trans hf
      refine lv_iconst (v := 0) hx hb dn_Machine_asked_188 (by decide) ?_
      rw [hQQ, ← Option.some.inj hf]
      exact xk_zret (w1 := fun u : Unit => (wC a v cI cB cJ cZ cQ s)) () hx hb hr rfl hlocks hK hS dn_Machine_asked_189 hP hD rfl (Nat.le_refl _) (Nat.le_refl _)
    · have hf := (if_neg h).symm.trans hf
      refine lv_lload_n hx hb dn_Machine_asked_178 rfl (lv_at hl 2 rfl) ?_
      refine lv_lconst (v := 0) hx hb dn_Machine_asked_179 (by decide) ?_
      refine W.lcmp hx hb dn_Machine_asked_180 ?_
      refine lv_if_eq (tgt := 188) hx hb dn_Machine_asked_181 (by decide) (fun h => ?_) (fun h => ?_)
      · have hf := (if_pos h).symm.trans hf
        refine lv_iconst (v := 0) hx hb dn_Machine_asked_188 (by decide) ?_
        rw [hQQ, ← Option.some.inj hf]
        exact xk_zret (w1 := fun u : Unit => (wC a v cI cB cJ cZ cQ s)) () hx hb hr rfl hlocks hK hS dn_Machine_asked_189 hP hD rfl (Nat.le_refl _) (Nat.le_refl _)
      · have hf := (if_neg h).symm.trans hf
        refine lv_iconst (v := 1) hx hb dn_Machine_asked_184 (by decide) ?_
        refine lv_goto (tgt := 189) hx hb dn_Machine_asked_185 (by decide) ?_
        rw [hQQ, ← Option.some.inj hf]
        exact xk_zret (w1 := fun u : Unit => (wC a v cI cB cJ cZ cQ s)) () hx hb hr rfl hlocks hK hS dn_Machine_asked_189 hP hD rfl (Nat.le_refl _) (Nat.le_refl _)
  have hf := (if_neg h_0).symm.trans hf
  by_cases h_1 : v0 = 7
  · have hf := (if_pos h_1).symm.trans hf
    refine xk_ti (y := 7) h_1 ?_
    refine lv_lookup (off := 67) (tgt := 68) hx hb dn_Machine_asked_1 (by decide) (by decide) (by decide) ?_
    refine lv_lload_n hx hb dn_Machine_asked_68 rfl (lv_at hl 1 rfl) ?_
    refine lv_lload_n hx hb dn_Machine_asked_69 rfl (lv_at hl 2 rfl) ?_
    refine W.lcmp hx hb dn_Machine_asked_70 ?_
    refine lv_if_ne (tgt := 78) hx hb dn_Machine_asked_71 (by decide) (fun h => ?_) (fun h => ?_)
    · have hf := (if_neg h).symm.trans hf
      refine lv_iconst (v := 0) hx hb dn_Machine_asked_78 (by decide) ?_
      rw [hQQ, ← Option.some.inj hf]
      exact xk_zret (w1 := fun u : Unit => (wC a v cI cB cJ cZ cQ s)) () hx hb hr rfl hlocks hK hS dn_Machine_asked_79 hP hD rfl (Nat.le_refl _) (Nat.le_refl _)
    · have hf := (if_pos h).symm.trans hf
      refine lv_iconst (v := 1) hx hb dn_Machine_asked_74 (by decide) ?_
      refine lv_goto (tgt := 79) hx hb dn_Machine_asked_75 (by decide) ?_
      rw [hQQ, ← Option.some.inj hf]
      exact xk_zret (w1 := fun u : Unit => (wC a v cI cB cJ cZ cQ s)) () hx hb hr rfl hlocks hK hS dn_Machine_asked_79 hP hD rfl (Nat.le_refl _) (Nat.le_refl _)
  have hf := (if_neg h_1).symm.trans hf
  by_cases h_2 : v0 = 8
  · have hf := (if_pos h_2).symm.trans hf
    refine xk_ti (y := 8) h_2 ?_
    refine lv_lookup (off := 79) (tgt := 80) hx hb dn_Machine_asked_1 (by decide) (by decide) (by decide) ?_
    refine lv_lload_n hx hb dn_Machine_asked_80 rfl (lv_at hl 1 rfl) ?_
    refine lv_lload_n hx hb dn_Machine_asked_81 rfl (lv_at hl 2 rfl) ?_
    refine W.lcmp hx hb dn_Machine_asked_82 ?_
    refine lv_if_eq (tgt := 90) hx hb dn_Machine_asked_83 (by decide) (fun h => ?_) (fun h => ?_)
    · have hf := (if_pos h).symm.trans hf
      refine lv_iconst (v := 0) hx hb dn_Machine_asked_90 (by decide) ?_
      rw [hQQ, ← Option.some.inj hf]
      exact xk_zret (w1 := fun u : Unit => (wC a v cI cB cJ cZ cQ s)) () hx hb hr rfl hlocks hK hS dn_Machine_asked_91 hP hD rfl (Nat.le_refl _) (Nat.le_refl _)
    · have hf := (if_neg h).symm.trans hf
      refine lv_iconst (v := 1) hx hb dn_Machine_asked_86 (by decide) ?_
      refine lv_goto (tgt := 91) hx hb dn_Machine_asked_87 (by decide) ?_
      rw [hQQ, ← Option.some.inj hf]
      exact xk_zret (w1 := fun u : Unit => (wC a v cI cB cJ cZ cQ s)) () hx hb hr rfl hlocks hK hS dn_Machine_asked_91 hP hD rfl (Nat.le_refl _) (Nat.le_refl _)
  have hf := (if_neg h_2).symm.trans hf
  by_cases h_3 : v0 = 9
  · have hf := (if_pos h_3).symm.trans hf
    refine xk_ti (y := 9) h_3 ?_
    refine lv_lookup (off := 111) (tgt := 112) hx hb dn_Machine_asked_1 (by decide) (by decide) (by decide) ?_
    refine lv_lload_n hx hb dn_Machine_asked_112 rfl (lv_at hl 1 rfl) ?_
    refine lv_ldc2 hx hb hown (hg _ wn_8_13) dn_Machine_asked_113 ?_
    refine lv_lxor hx hb dn_Machine_asked_116 ?_
    refine lv_lload_n hx hb dn_Machine_asked_117 rfl (lv_at hl 2 rfl) ?_
    refine lv_ldc2 hx hb hown (hg _ wn_8_13) dn_Machine_asked_118 ?_
    refine lv_lxor hx hb dn_Machine_asked_121 ?_
    refine W.lcmp hx hb dn_Machine_asked_122 ?_
    refine lv_if_gt (tgt := 130) hx hb dn_Machine_asked_123 (by decide) (fun h => ?_) (fun h => ?_)
    · have hf := (if_pos h).symm.trans hf
      refine lv_iconst (v := 0) hx hb dn_Machine_asked_130 (by decide) ?_
      rw [hQQ, ← Option.some.inj hf]
      exact xk_zret (w1 := fun u : Unit => (wC a v cI cB cJ cZ cQ s)) () hx hb hr rfl hlocks hK hS dn_Machine_asked_131 hP hD rfl (Nat.le_refl _) (Nat.le_refl _)
    · have hf := (if_neg h).symm.trans hf
      refine lv_iconst (v := 1) hx hb dn_Machine_asked_126 (by decide) ?_
      refine lv_goto (tgt := 131) hx hb dn_Machine_asked_127 (by decide) ?_
      rw [hQQ, ← Option.some.inj hf]
      exact xk_zret (w1 := fun u : Unit => (wC a v cI cB cJ cZ cQ s)) () hx hb hr rfl hlocks hK hS dn_Machine_asked_131 hP hD rfl (Nat.le_refl _) (Nat.le_refl _)
  have hf := (if_neg h_3).symm.trans hf
  by_cases h_4 : v0 = 10
  · have hf := (if_pos h_4).symm.trans hf
    refine xk_ti (y := 10) h_4 ?_
    refine lv_lookup (off := 151) (tgt := 152) hx hb dn_Machine_asked_1 (by decide) (by decide) (by decide) ?_
    refine lv_lload_n hx hb dn_Machine_asked_152 rfl (lv_at hl 1 rfl) ?_
    refine lv_ldc2 hx hb hown (hg _ wn_8_13) dn_Machine_asked_153 ?_
    refine lv_lxor hx hb dn_Machine_asked_156 ?_
    refine lv_lload_n hx hb dn_Machine_asked_157 rfl (lv_at hl 2 rfl) ?_
    refine lv_ldc2 hx hb hown (hg _ wn_8_13) dn_Machine_asked_158 ?_
    refine lv_lxor hx hb dn_Machine_asked_161 ?_
    refine W.lcmp hx hb dn_Machine_asked_162 ?_
    refine lv_if_lt (tgt := 170) hx hb dn_Machine_asked_163 (by decide) (fun h => ?_) (fun h => ?_)
    · have hf := (if_pos h).symm.trans hf
      refine lv_iconst (v := 0) hx hb dn_Machine_asked_170 (by decide) ?_
      rw [hQQ, ← Option.some.inj hf]
      exact xk_zret (w1 := fun u : Unit => (wC a v cI cB cJ cZ cQ s)) () hx hb hr rfl hlocks hK hS dn_Machine_asked_171 hP hD rfl (Nat.le_refl _) (Nat.le_refl _)
    · have hf := (if_neg h).symm.trans hf
      refine lv_iconst (v := 1) hx hb dn_Machine_asked_166 (by decide) ?_
      refine lv_goto (tgt := 171) hx hb dn_Machine_asked_167 (by decide) ?_
      rw [hQQ, ← Option.some.inj hf]
      exact xk_zret (w1 := fun u : Unit => (wC a v cI cB cJ cZ cQ s)) () hx hb hr rfl hlocks hK hS dn_Machine_asked_171 hP hD rfl (Nat.le_refl _) (Nat.le_refl _)
  have hf := (if_neg h_4).symm.trans hf
  by_cases h_5 : v0 = 60
  · have hf := (if_pos h_5).symm.trans hf
    refine xk_ti (y := 60) h_5 ?_
    refine lv_lookup (off := 91) (tgt := 92) hx hb dn_Machine_asked_1 (by decide) (by decide) (by decide) ?_
    refine lv_lload_n hx hb dn_Machine_asked_92 rfl (lv_at hl 1 rfl) ?_
    refine lv_ldc2 hx hb hown (hg _ wn_8_13) dn_Machine_asked_93 ?_
    refine lv_lxor hx hb dn_Machine_asked_96 ?_
    refine lv_lload_n hx hb dn_Machine_asked_97 rfl (lv_at hl 2 rfl) ?_
    refine lv_ldc2 hx hb hown (hg _ wn_8_13) dn_Machine_asked_98 ?_
    refine lv_lxor hx hb dn_Machine_asked_101 ?_
    refine W.lcmp hx hb dn_Machine_asked_102 ?_
    refine lv_if_ge (tgt := 110) hx hb dn_Machine_asked_103 (by decide) (fun h => ?_) (fun h => ?_)
    · have hf := (if_pos h).symm.trans hf
      refine lv_iconst (v := 0) hx hb dn_Machine_asked_110 (by decide) ?_
      rw [hQQ, ← Option.some.inj hf]
      exact xk_zret (w1 := fun u : Unit => (wC a v cI cB cJ cZ cQ s)) () hx hb hr rfl hlocks hK hS dn_Machine_asked_111 hP hD rfl (Nat.le_refl _) (Nat.le_refl _)
    · have hf := (if_neg h).symm.trans hf
      refine lv_iconst (v := 1) hx hb dn_Machine_asked_106 (by decide) ?_
      refine lv_goto (tgt := 111) hx hb dn_Machine_asked_107 (by decide) ?_
      rw [hQQ, ← Option.some.inj hf]
      exact xk_zret (w1 := fun u : Unit => (wC a v cI cB cJ cZ cQ s)) () hx hb hr rfl hlocks hK hS dn_Machine_asked_111 hP hD rfl (Nat.le_refl _) (Nat.le_refl _)
  have hf := (if_neg h_5).symm.trans hf
  by_cases h_6 : v0 = 62
  · have hf := (if_pos h_6).symm.trans hf
    refine xk_ti (y := 62) h_6 ?_
    refine lv_lookup (off := 131) (tgt := 132) hx hb dn_Machine_asked_1 (by decide) (by decide) (by decide) ?_
    refine lv_lload_n hx hb dn_Machine_asked_132 rfl (lv_at hl 1 rfl) ?_
    refine lv_ldc2 hx hb hown (hg _ wn_8_13) dn_Machine_asked_133 ?_
    refine lv_lxor hx hb dn_Machine_asked_136 ?_
    refine lv_lload_n hx hb dn_Machine_asked_137 rfl (lv_at hl 2 rfl) ?_
    refine lv_ldc2 hx hb hown (hg _ wn_8_13) dn_Machine_asked_138 ?_
    refine lv_lxor hx hb dn_Machine_asked_141 ?_
    refine W.lcmp hx hb dn_Machine_asked_142 ?_
    refine lv_if_le (tgt := 150) hx hb dn_Machine_asked_143 (by decide) (fun h => ?_) (fun h => ?_)
    · have hf := (if_pos h).symm.trans hf
      refine lv_iconst (v := 0) hx hb dn_Machine_asked_150 (by decide) ?_
      rw [hQQ, ← Option.some.inj hf]
      exact xk_zret (w1 := fun u : Unit => (wC a v cI cB cJ cZ cQ s)) () hx hb hr rfl hlocks hK hS dn_Machine_asked_151 hP hD rfl (Nat.le_refl _) (Nat.le_refl _)
    · have hf := (if_neg h).symm.trans hf
      refine lv_iconst (v := 1) hx hb dn_Machine_asked_146 (by decide) ?_
      refine lv_goto (tgt := 151) hx hb dn_Machine_asked_147 (by decide) ?_
      rw [hQQ, ← Option.some.inj hf]
      exact xk_zret (w1 := fun u : Unit => (wC a v cI cB cJ cZ cQ s)) () hx hb hr rfl hlocks hK hS dn_Machine_asked_151 hP hD rfl (Nat.le_refl _) (Nat.le_refl _)
  have hf := (if_neg h_6).symm.trans hf
  refine lv_lookup (off := 189) (tgt := 190) hx hb dn_Machine_asked_1 (by decide) (by rw [lv_osw h_0 (by decide)]; rw [lv_osw h_1 (by decide)]; rw [lv_osw h_2 (by decide)]; rw [lv_osw h_3 (by decide)]; rw [lv_osw h_4 (by decide)]; rw [lv_osw h_5 (by decide)]; rw [lv_osw h_6 (by decide)]; rfl) (by decide) ?_
  refine lv_lload_n hx hb dn_Machine_asked_190 rfl (lv_at hl 1 rfl) ?_
  refine lv_lconst (v := 0) hx hb dn_Machine_asked_191 (by decide) ?_
  refine W.lcmp hx hb dn_Machine_asked_192 ?_
  refine lv_if_ne (tgt := 202) hx hb dn_Machine_asked_193 (by decide) (fun h => ?_) (fun h => ?_)
  · have hf := (if_neg h).symm.trans hf
    refine lv_iconst (v := 1) hx hb dn_Machine_asked_202 (by decide) ?_
    refine lv_goto (tgt := 207) hx hb dn_Machine_asked_203 (by decide) ?_
    rw [hQQ, ← Option.some.inj hf]
    exact xk_zret (w1 := fun u : Unit => (wC a v cI cB cJ cZ cQ s)) () hx hb hr rfl hlocks hK hS dn_Machine_asked_207 hP hD rfl (Nat.le_refl _) (Nat.le_refl _)
  · have hf := (if_pos h).symm.trans hf
    refine lv_lload_n hx hb dn_Machine_asked_196 rfl (lv_at hl 2 rfl) ?_
    refine lv_lconst (v := 0) hx hb dn_Machine_asked_197 (by decide) ?_
    refine W.lcmp hx hb dn_Machine_asked_198 ?_
    refine lv_if_eq (tgt := 206) hx hb dn_Machine_asked_199 (by decide) (fun h => ?_) (fun h => ?_)
    · have hf := (if_pos h).symm.trans hf
      refine lv_iconst (v := 0) hx hb dn_Machine_asked_206 (by decide) ?_
      rw [hQQ, ← Option.some.inj hf]
      exact xk_zret (w1 := fun u : Unit => (wC a v cI cB cJ cZ cQ s)) () hx hb hr rfl hlocks hK hS dn_Machine_asked_207 hP hD rfl (Nat.le_refl _) (Nat.le_refl _)
    · have hf := (if_neg h).symm.trans hf
      refine lv_iconst (v := 1) hx hb dn_Machine_asked_202 (by decide) ?_
      refine lv_goto (tgt := 207) hx hb dn_Machine_asked_203 (by decide) ?_
      rw [hQQ, ← Option.some.inj hf]
      exact xk_zret (w1 := fun u : Unit => (wC a v cI cB cJ cZ cQ s)) () hx hb hr rfl hlocks hK hS dn_Machine_asked_207 hP hD rfl (Nat.le_refl _) (Nat.le_refl _)
set_option maxHeartbeats 8000000 in
set_option maxRecDepth 100000 in
theorem ct_Machine_two (l : Launch) (dC : Nat → ClassId) (dI : Nat → Nat → Nat) (cI cB cJ cZ cQ : ClassId) (N sz : Nat) (a : Nat → Nat) (v : Nat → Value) (v0 : Int32) (v1 : Int32) (v2 : Int64) (v4 : Int64) (s : ms) (y : (Int64 × ms)) (hf : fn_Machine_two N v0 v1 v2 v4 s = some y) : Met l yn_Machine_two (xw yn_Machine_two bn_Machine_two 6 (some .long)) ({ frames := 1, cells := 0, slots := 0, locals := 24 }) (dc_P (dC, dI) xcl (xt cI cB cJ cZ cQ) [.int v0, .int v1, .long v2, .long v4] sz (wC a v cI cB cJ cZ cQ s)) (xk_Ql (dC, dI) xcl (xt cI cB cJ cZ cQ) (fun (r : Int64) (_ : Unit) => r = y.1) (fun u : Unit => (wC a v cI cB cJ cZ cQ y.2)) (va_A (wC a v cI cB cJ cZ cQ s) sz)) 0 0 (va_A (wC a v cI cB cJ cZ cQ s) sz) := by
  refine dc_of (QA := xk_Ql (dC, dI) xcl (xt cI cB cJ cZ cQ) (fun (r : Int64) (_ : Unit) => r = y.1) (fun u : Unit => (wC a v cI cB cJ cZ cQ y.2))) (by decide) (Nat.le_of_ble_eq_true rfl) ?_
  intro p e s0 m below meth c hx hb hml hown hg hr hlocks hin hP hK hN A hA hD hT ls hl
  have hown : s0.vm.findClass rn_Machine = some m.cls := hown
  obtain ⟨H, hH⟩ : ∃ z, z = s0.heap := ⟨_, rfl⟩
  rw [← hH] at hP
  have hS : va_S A s0.heap H [] := by rw [hH]; exact va_S.rf
  suffices kk : ∀ QQ : State → Prop, QQ = MQ below (xk_Ql (dC, dI) xcl (xt cI cB cJ cZ cQ) (fun (r : Int64) (_ : Unit) => r = y.1) (fun u : Unit => (wC a v cI cB cJ cZ cQ y.2)) A) [.int v0, .int v1, .long v2, .long v4].toArray s0 0 0 A → dcC p l e ({ frames := 1, cells := 0, slots := 0, locals := 24 }) s0 m [.int v0, .int v1, .long v2, .long v4].toArray below meth c QQ (dC, dI) A (wC a v cI cB cJ cZ cQ s) 0 6 [(0, .int v0), (1, .int v1), (2, .long v2), (4, .long v4)] [] by
    have k9 := kk _ rfl H [] ls hP hD hS hl
    rw [hH] at k9; exact k9
  clear hP hD hS hl hH H ls
  intro QQ hQQ
  intro H locs ls hP hD hS hl
  unfold fn_Machine_two at hf
  refine lv_iload_n hx hb dn_Machine_two_0 rfl (lv_at hl 0 rfl) ?_
  by_cases h_0 : v0 = 11
  · have hf := (if_pos h_0).symm.trans hf
    refine xk_ti (y := 11) h_0 ?_
    refine lv_lookup (off := 136) (tgt := 137) hx hb dn_Machine_two_1 (by decide) (by decide) (by decide) ?_
    refine lv_lload hx hb dn_Machine_two_137 (lv_at hl 3 rfl) ?_
    obtain ⟨q_1, hc_2, hf⟩ := dc_b hf
    refine dc_calli (dc_runS (ar := 1) (As := [.long v4]) (rest := []) ⟨hx, hb, hml, hown, hg⟩ hK hN hT hS hA (ct_Machine_isBeyond l dC dI cI cB cJ cZ cQ N H.size a v v4 s q_1 hc_2) hP hD wn_8_6 wn_8_7 wn_1_8 wn_8_8 rfl rfl (by decide +kernel) ⟨Nat.le_of_ble_eq_true rfl, Nat.le_of_ble_eq_true rfl⟩ rfl hl.1 rfl (Nat.le_of_ble_eq_true rfl) dn_Machine_two_139 ⟨Nat.le_of_ble_eq_true rfl, Nat.le_of_ble_eq_true rfl⟩) hP hD hS hA (fun r_3 _ H locs hw hP hD hS => ?_)
    have hw : r_3 = q_1.1 := hw
    subst hw
    refine lv_if_eq (tgt := 149) hx hb dn_Machine_two_142 (by decide) (fun h => ?_) (fun h => ?_)
    · have hf := (if_pos h).symm.trans hf
      refine lv_lload_n hx hb dn_Machine_two_149 rfl (lv_at hl 2 rfl) ?_
      refine lv_lload hx hb dn_Machine_two_150 (lv_at hl 3 rfl) ?_
      refine lv_l2i (v := Int64.toInt32 v4) hx hb dn_Machine_two_152 rfl ?_
      refine lv_lshl (v := (v2 : Int64) <<< ((Int32.toInt64 ((Int64.toInt32 v4))) &&& 63)) hx hb dn_Machine_two_153 rfl ?_
      refine lv_iload_n hx hb dn_Machine_two_154 rfl (lv_at hl 1 rfl) ?_
      obtain ⟨q_4, hc_5, hf⟩ := dc_b hf
      refine dc_calll (dc_runSN (ar := 1) (As := [.int v1]) (rest := [.long (((v2 : Int64) <<< ((Int32.toInt64 ((Int64.toInt32 v4))) &&& 63)))]) (host := "CircuitCycles") ⟨hx, hb, hml, hown, hg⟩ hK hN hT hS hA (ct_C_mask l dC dI cI cB cJ cZ cQ N H.size a v v1 q_1.2 q_4 hc_5) hP hD nl_Machine_142 wn_4_71 wn_1_1 wn_4_72 rfl rfl (by decide +kernel) ⟨Nat.le_of_ble_eq_true rfl, Nat.le_of_ble_eq_true rfl⟩ rfl hl.1 rfl (Nat.le_of_ble_eq_true rfl) dn_Machine_two_155 ⟨Nat.le_of_ble_eq_true rfl, Nat.le_of_ble_eq_true rfl⟩) hP hD hS hA (fun r_6 _ H locs hw hP hD hS => ?_)
      have hw : r_6 = q_4.1 := hw
      subst hw
      refine lv_land hx hb dn_Machine_two_158 ?_
      rw [hQQ, ← Option.some.inj hf]
      exact xk_lret (w1 := fun u : Unit => (wC a v cI cB cJ cZ cQ q_4.2)) () hx hb hr hlocks hK hS dn_Machine_two_159 hP hD rfl (Nat.le_refl _) (Nat.le_refl _)
    · have hf := (if_neg h).symm.trans hf
      refine lv_lconst (v := 0) hx hb dn_Machine_two_145 (by decide) ?_
      refine lv_goto (tgt := 159) hx hb dn_Machine_two_146 (by decide) ?_
      rw [hQQ, ← Option.some.inj hf]
      exact xk_lret (w1 := fun u : Unit => (wC a v cI cB cJ cZ cQ q_1.2)) () hx hb hr hlocks hK hS dn_Machine_two_159 hP hD rfl (Nat.le_refl _) (Nat.le_refl _)
  have hf := (if_neg h_0).symm.trans hf
  by_cases h_1 : v0 = 12
  · have hf := (if_pos h_1).symm.trans hf
    refine xk_ti (y := 12) h_1 ?_
    refine lv_lookup (off := 159) (tgt := 160) hx hb dn_Machine_two_1 (by decide) (by decide) (by decide) ?_
    refine lv_lload hx hb dn_Machine_two_160 (lv_at hl 3 rfl) ?_
    obtain ⟨q_1, hc_2, hf⟩ := dc_b hf
    refine dc_calli (dc_runS (ar := 1) (As := [.long v4]) (rest := []) ⟨hx, hb, hml, hown, hg⟩ hK hN hT hS hA (ct_Machine_isBeyond l dC dI cI cB cJ cZ cQ N H.size a v v4 s q_1 hc_2) hP hD wn_8_6 wn_8_7 wn_1_8 wn_8_8 rfl rfl (by decide +kernel) ⟨Nat.le_of_ble_eq_true rfl, Nat.le_of_ble_eq_true rfl⟩ rfl hl.1 rfl (Nat.le_of_ble_eq_true rfl) dn_Machine_two_162 ⟨Nat.le_of_ble_eq_true rfl, Nat.le_of_ble_eq_true rfl⟩) hP hD hS hA (fun r_3 _ H locs hw hP hD hS => ?_)
    have hw : r_3 = q_1.1 := hw
    subst hw
    refine lv_if_eq (tgt := 172) hx hb dn_Machine_two_165 (by decide) (fun h => ?_) (fun h => ?_)
    · have hf := (if_pos h).symm.trans hf
      refine lv_lload_n hx hb dn_Machine_two_172 rfl (lv_at hl 2 rfl) ?_
      refine lv_lload hx hb dn_Machine_two_173 (lv_at hl 3 rfl) ?_
      refine lv_l2i (v := Int64.toInt32 v4) hx hb dn_Machine_two_175 rfl ?_
      refine lv_lushr (v := (Int64.toUInt64 v2 >>> (Int64.toUInt64 (Int32.toInt64 ((Int64.toInt32 v4))) &&& Int64.toUInt64 63)).toInt64) hx hb dn_Machine_two_176 rfl ?_
      rw [hQQ, ← Option.some.inj hf]
      exact xk_lret (w1 := fun u : Unit => (wC a v cI cB cJ cZ cQ q_1.2)) () hx hb hr hlocks hK hS dn_Machine_two_177 hP hD rfl (Nat.le_refl _) (Nat.le_refl _)
    · have hf := (if_neg h).symm.trans hf
      refine lv_lconst (v := 0) hx hb dn_Machine_two_168 (by decide) ?_
      refine lv_goto (tgt := 177) hx hb dn_Machine_two_169 (by decide) ?_
      rw [hQQ, ← Option.some.inj hf]
      exact xk_lret (w1 := fun u : Unit => (wC a v cI cB cJ cZ cQ q_1.2)) () hx hb hr hlocks hK hS dn_Machine_two_177 hP hD rfl (Nat.le_refl _) (Nat.le_refl _)
  have hf := (if_neg h_1).symm.trans hf
  by_cases h_2 : v0 = 38
  · have hf := (if_pos h_2).symm.trans hf
    refine xk_ti (y := 38) h_2 ?_
    refine lv_lookup (off := 121) (tgt := 122) hx hb dn_Machine_two_1 (by decide) (by decide) (by decide) ?_
    refine lv_lload_n hx hb dn_Machine_two_122 rfl (lv_at hl 2 rfl) ?_
    refine lv_lload hx hb dn_Machine_two_123 (lv_at hl 3 rfl) ?_
    refine lv_land hx hb dn_Machine_two_125 ?_
    rw [hQQ, ← Option.some.inj hf]
    exact xk_lret (w1 := fun u : Unit => (wC a v cI cB cJ cZ cQ s)) () hx hb hr hlocks hK hS dn_Machine_two_126 hP hD rfl (Nat.le_refl _) (Nat.le_refl _)
  have hf := (if_neg h_2).symm.trans hf
  by_cases h_3 : v0 = 42
  · have hf := (if_pos h_3).symm.trans hf
    refine xk_ti (y := 42) h_3 ?_
    refine lv_lookup (off := 111) (tgt := 112) hx hb dn_Machine_two_1 (by decide) (by decide) (by decide) ?_
    refine lv_lload_n hx hb dn_Machine_two_112 rfl (lv_at hl 2 rfl) ?_
    refine lv_lload hx hb dn_Machine_two_113 (lv_at hl 3 rfl) ?_
    refine lv_lmul hx hb dn_Machine_two_115 ?_
    refine lv_iload_n hx hb dn_Machine_two_116 rfl (lv_at hl 1 rfl) ?_
    obtain ⟨q_1, hc_2, hf⟩ := dc_b hf
    refine dc_calll (dc_runSN (ar := 1) (As := [.int v1]) (rest := [.long ((v2 * v4))]) (host := "CircuitCycles") ⟨hx, hb, hml, hown, hg⟩ hK hN hT hS hA (ct_C_mask l dC dI cI cB cJ cZ cQ N H.size a v v1 s q_1 hc_2) hP hD nl_Machine_142 wn_4_71 wn_1_1 wn_4_72 rfl rfl (by decide +kernel) ⟨Nat.le_of_ble_eq_true rfl, Nat.le_of_ble_eq_true rfl⟩ rfl hl.1 rfl (Nat.le_of_ble_eq_true rfl) dn_Machine_two_117 ⟨Nat.le_of_ble_eq_true rfl, Nat.le_of_ble_eq_true rfl⟩) hP hD hS hA (fun r_3 _ H locs hw hP hD hS => ?_)
    have hw : r_3 = q_1.1 := hw
    subst hw
    refine lv_land hx hb dn_Machine_two_120 ?_
    rw [hQQ, ← Option.some.inj hf]
    exact xk_lret (w1 := fun u : Unit => (wC a v cI cB cJ cZ cQ q_1.2)) () hx hb hr hlocks hK hS dn_Machine_two_121 hP hD rfl (Nat.le_refl _) (Nat.le_refl _)
  have hf := (if_neg h_3).symm.trans hf
  by_cases h_4 : v0 = 43
  · have hf := (if_pos h_4).symm.trans hf
    refine xk_ti (y := 43) h_4 ?_
    refine lv_lookup (off := 91) (tgt := 92) hx hb dn_Machine_two_1 (by decide) (by decide) (by decide) ?_
    refine lv_lload_n hx hb dn_Machine_two_92 rfl (lv_at hl 2 rfl) ?_
    refine lv_lload hx hb dn_Machine_two_93 (lv_at hl 3 rfl) ?_
    refine lv_ladd hx hb dn_Machine_two_95 ?_
    refine lv_iload_n hx hb dn_Machine_two_96 rfl (lv_at hl 1 rfl) ?_
    obtain ⟨q_1, hc_2, hf⟩ := dc_b hf
    refine dc_calll (dc_runSN (ar := 1) (As := [.int v1]) (rest := [.long ((v2 + v4))]) (host := "CircuitCycles") ⟨hx, hb, hml, hown, hg⟩ hK hN hT hS hA (ct_C_mask l dC dI cI cB cJ cZ cQ N H.size a v v1 s q_1 hc_2) hP hD nl_Machine_142 wn_4_71 wn_1_1 wn_4_72 rfl rfl (by decide +kernel) ⟨Nat.le_of_ble_eq_true rfl, Nat.le_of_ble_eq_true rfl⟩ rfl hl.1 rfl (Nat.le_of_ble_eq_true rfl) dn_Machine_two_97 ⟨Nat.le_of_ble_eq_true rfl, Nat.le_of_ble_eq_true rfl⟩) hP hD hS hA (fun r_3 _ H locs hw hP hD hS => ?_)
    have hw : r_3 = q_1.1 := hw
    subst hw
    refine lv_land hx hb dn_Machine_two_100 ?_
    rw [hQQ, ← Option.some.inj hf]
    exact xk_lret (w1 := fun u : Unit => (wC a v cI cB cJ cZ cQ q_1.2)) () hx hb hr hlocks hK hS dn_Machine_two_101 hP hD rfl (Nat.le_refl _) (Nat.le_refl _)
  have hf := (if_neg h_4).symm.trans hf
  by_cases h_5 : v0 = 44
  · have hf := (if_pos h_5).symm.trans hf
    refine xk_ti (y := 44) h_5 ?_
    refine lv_lookup (off := 197) (tgt := 198) hx hb dn_Machine_two_1 (by decide) (by decide) (by decide) ?_
    refine lv_lload_n hx hb dn_Machine_two_198 rfl (lv_at hl 2 rfl) ?_
    refine lv_iload_n hx hb dn_Machine_two_199 rfl (lv_at hl 1 rfl) ?_
    refine lv_lshl (v := (v2 : Int64) <<< ((Int32.toInt64 v1) &&& 63)) hx hb dn_Machine_two_200 rfl ?_
    refine lv_lload hx hb dn_Machine_two_201 (lv_at hl 3 rfl) ?_
    refine lv_lor hx hb dn_Machine_two_203 ?_
    rw [hQQ, ← Option.some.inj hf]
    exact xk_lret (w1 := fun u : Unit => (wC a v cI cB cJ cZ cQ s)) () hx hb hr hlocks hK hS dn_Machine_two_204 hP hD rfl (Nat.le_refl _) (Nat.le_refl _)
  have hf := (if_neg h_5).symm.trans hf
  by_cases h_6 : v0 = 45
  · have hf := (if_pos h_6).symm.trans hf
    refine xk_ti (y := 45) h_6 ?_
    refine lv_lookup (off := 101) (tgt := 102) hx hb dn_Machine_two_1 (by decide) (by decide) (by decide) ?_
    refine lv_lload_n hx hb dn_Machine_two_102 rfl (lv_at hl 2 rfl) ?_
    refine lv_lload hx hb dn_Machine_two_103 (lv_at hl 3 rfl) ?_
    refine lv_lsub hx hb dn_Machine_two_105 ?_
    refine lv_iload_n hx hb dn_Machine_two_106 rfl (lv_at hl 1 rfl) ?_
    obtain ⟨q_1, hc_2, hf⟩ := dc_b hf
    refine dc_calll (dc_runSN (ar := 1) (As := [.int v1]) (rest := [.long ((v2 - v4))]) (host := "CircuitCycles") ⟨hx, hb, hml, hown, hg⟩ hK hN hT hS hA (ct_C_mask l dC dI cI cB cJ cZ cQ N H.size a v v1 s q_1 hc_2) hP hD nl_Machine_142 wn_4_71 wn_1_1 wn_4_72 rfl rfl (by decide +kernel) ⟨Nat.le_of_ble_eq_true rfl, Nat.le_of_ble_eq_true rfl⟩ rfl hl.1 rfl (Nat.le_of_ble_eq_true rfl) dn_Machine_two_107 ⟨Nat.le_of_ble_eq_true rfl, Nat.le_of_ble_eq_true rfl⟩) hP hD hS hA (fun r_3 _ H locs hw hP hD hS => ?_)
    have hw : r_3 = q_1.1 := hw
    subst hw
    refine lv_land hx hb dn_Machine_two_110 ?_
    rw [hQQ, ← Option.some.inj hf]
    exact xk_lret (w1 := fun u : Unit => (wC a v cI cB cJ cZ cQ q_1.2)) () hx hb hr hlocks hK hS dn_Machine_two_111 hP hD rfl (Nat.le_refl _) (Nat.le_refl _)
  have hf := (if_neg h_6).symm.trans hf
  by_cases h_7 : v0 = 91
  · have hf := (if_pos h_7).symm.trans hf
    refine xk_ti (y := 91) h_7 ?_
    refine lv_lookup (off := 177) (tgt := 178) hx hb dn_Machine_two_1 (by decide) (by decide) (by decide) ?_
    refine lv_lload hx hb dn_Machine_two_178 (lv_at hl 3 rfl) ?_
    obtain ⟨q_1, hc_2, hf⟩ := dc_b hf
    refine dc_calli (dc_runS (ar := 1) (As := [.long v4]) (rest := []) ⟨hx, hb, hml, hown, hg⟩ hK hN hT hS hA (ct_Machine_isBeyond l dC dI cI cB cJ cZ cQ N H.size a v v4 s q_1 hc_2) hP hD wn_8_6 wn_8_7 wn_1_8 wn_8_8 rfl rfl (by decide +kernel) ⟨Nat.le_of_ble_eq_true rfl, Nat.le_of_ble_eq_true rfl⟩ rfl hl.1 rfl (Nat.le_of_ble_eq_true rfl) dn_Machine_two_180 ⟨Nat.le_of_ble_eq_true rfl, Nat.le_of_ble_eq_true rfl⟩) hP hD hS hA (fun r_3 _ H locs hw hP hD hS => ?_)
    have hw : r_3 = q_1.1 := hw
    subst hw
    refine lv_if_eq (tgt := 190) hx hb dn_Machine_two_183 (by decide) (fun h => ?_) (fun h => ?_)
    · have hf := (if_pos h).symm.trans hf
      refine lv_lload_n hx hb dn_Machine_two_190 rfl (lv_at hl 2 rfl) ?_
      refine lv_lload hx hb dn_Machine_two_191 (lv_at hl 3 rfl) ?_
      refine lv_l2i (v := Int64.toInt32 v4) hx hb dn_Machine_two_193 rfl ?_
      refine lv_lushr (v := (Int64.toUInt64 v2 >>> (Int64.toUInt64 (Int32.toInt64 ((Int64.toInt32 v4))) &&& Int64.toUInt64 63)).toInt64) hx hb dn_Machine_two_194 rfl ?_
      refine lv_lconst (v := 1) hx hb dn_Machine_two_195 (by decide) ?_
      refine lv_land hx hb dn_Machine_two_196 ?_
      rw [hQQ, ← Option.some.inj hf]
      exact xk_lret (w1 := fun u : Unit => (wC a v cI cB cJ cZ cQ q_1.2)) () hx hb hr hlocks hK hS dn_Machine_two_197 hP hD rfl (Nat.le_refl _) (Nat.le_refl _)
    · have hf := (if_neg h).symm.trans hf
      refine lv_lconst (v := 0) hx hb dn_Machine_two_186 (by decide) ?_
      refine lv_goto (tgt := 197) hx hb dn_Machine_two_187 (by decide) ?_
      rw [hQQ, ← Option.some.inj hf]
      exact xk_lret (w1 := fun u : Unit => (wC a v cI cB cJ cZ cQ q_1.2)) () hx hb hr hlocks hK hS dn_Machine_two_197 hP hD rfl (Nat.le_refl _) (Nat.le_refl _)
  have hf := (if_neg h_7).symm.trans hf
  by_cases h_8 : v0 = 94
  · have hf := (if_pos h_8).symm.trans hf
    refine xk_ti (y := 94) h_8 ?_
    refine lv_lookup (off := 131) (tgt := 132) hx hb dn_Machine_two_1 (by decide) (by decide) (by decide) ?_
    refine lv_lload_n hx hb dn_Machine_two_132 rfl (lv_at hl 2 rfl) ?_
    refine lv_lload hx hb dn_Machine_two_133 (lv_at hl 3 rfl) ?_
    refine lv_lxor hx hb dn_Machine_two_135 ?_
    rw [hQQ, ← Option.some.inj hf]
    exact xk_lret (w1 := fun u : Unit => (wC a v cI cB cJ cZ cQ s)) () hx hb hr hlocks hK hS dn_Machine_two_136 hP hD rfl (Nat.le_refl _) (Nat.le_refl _)
  have hf := (if_neg h_8).symm.trans hf
  by_cases h_9 : v0 = 124
  · have hf := (if_pos h_9).symm.trans hf
    refine xk_ti (y := 124) h_9 ?_
    refine lv_lookup (off := 126) (tgt := 127) hx hb dn_Machine_two_1 (by decide) (by decide) (by decide) ?_
    refine lv_lload_n hx hb dn_Machine_two_127 rfl (lv_at hl 2 rfl) ?_
    refine lv_lload hx hb dn_Machine_two_128 (lv_at hl 3 rfl) ?_
    refine lv_lor hx hb dn_Machine_two_130 ?_
    rw [hQQ, ← Option.some.inj hf]
    exact xk_lret (w1 := fun u : Unit => (wC a v cI cB cJ cZ cQ s)) () hx hb hr hlocks hK hS dn_Machine_two_131 hP hD rfl (Nat.le_refl _) (Nat.le_refl _)
  have hf := (if_neg h_9).symm.trans hf
  refine lv_lookup (off := 204) (tgt := 205) hx hb dn_Machine_two_1 (by decide) (by rw [lv_osw h_0 (by decide)]; rw [lv_osw h_1 (by decide)]; rw [lv_osw h_2 (by decide)]; rw [lv_osw h_3 (by decide)]; rw [lv_osw h_4 (by decide)]; rw [lv_osw h_5 (by decide)]; rw [lv_osw h_6 (by decide)]; rw [lv_osw h_7 (by decide)]; rw [lv_osw h_8 (by decide)]; rw [lv_osw h_9 (by decide)]; rfl) (by decide) ?_
  refine lv_iload_n hx hb dn_Machine_two_205 rfl (lv_at hl 0 rfl) ?_
  refine lv_lload_n hx hb dn_Machine_two_206 rfl (lv_at hl 2 rfl) ?_
  refine lv_lload hx hb dn_Machine_two_207 (lv_at hl 3 rfl) ?_
  obtain ⟨q_1, hc_2, hf⟩ := dc_b hf
  refine dc_calli (dc_runS (ar := 3) (As := [.int v0, .long v2, .long v4]) (rest := []) ⟨hx, hb, hml, hown, hg⟩ hK hN hT hS hA (ct_Machine_asked l dC dI cI cB cJ cZ cQ N H.size a v v0 v2 v4 s q_1 hc_2) hP hD wn_8_10 wn_8_11 wn_1_8 wn_8_12 rfl rfl (by decide +kernel) ⟨Nat.le_of_ble_eq_true rfl, Nat.le_of_ble_eq_true rfl⟩ rfl hl.1 rfl (Nat.le_of_ble_eq_true rfl) dn_Machine_two_209 ⟨Nat.le_of_ble_eq_true rfl, Nat.le_of_ble_eq_true rfl⟩) hP hD hS hA (fun r_3 _ H locs hw hP hD hS => ?_)
  have hw : r_3 = q_1.1 := hw
  subst hw
  refine lv_if_eq (tgt := 219) hx hb dn_Machine_two_212 (by decide) (fun h => ?_) (fun h => ?_)
  · have hf := (if_pos h).symm.trans hf
    refine lv_lconst (v := 0) hx hb dn_Machine_two_219 (by decide) ?_
    rw [hQQ, ← Option.some.inj hf]
    exact xk_lret (w1 := fun u : Unit => (wC a v cI cB cJ cZ cQ q_1.2)) () hx hb hr hlocks hK hS dn_Machine_two_220 hP hD rfl (Nat.le_refl _) (Nat.le_refl _)
  · have hf := (if_neg h).symm.trans hf
    refine lv_lconst (v := 1) hx hb dn_Machine_two_215 (by decide) ?_
    refine lv_goto (tgt := 220) hx hb dn_Machine_two_216 (by decide) ?_
    rw [hQQ, ← Option.some.inj hf]
    exact xk_lret (w1 := fun u : Unit => (wC a v cI cB cJ cZ cQ q_1.2)) () hx hb hr hlocks hK hS dn_Machine_two_220 hP hD rfl (Nat.le_refl _) (Nat.le_refl _)
set_option maxHeartbeats 8000000 in
set_option maxRecDepth 100000 in
theorem ct_Machine_run_Ma_Kc (l : Launch) (dC : Nat → ClassId) (dI : Nat → Nat → Nat) (cI cB cJ cZ cQ : ClassId) (N sz : Nat) (a : Nat → Nat) (v : Nat → Value) (v2 : Int32) (v3 : Int32) (v4 : Int32) (s : ms) (y : (Int64 × ms)) (hf : fn_Machine_run_Ma_Kc N v2 v3 v4 s = some y) : Met l yn_Machine_run (xw yn_Machine_run bn_Machine_run 12 (some .long)) ({ frames := 2, cells := 0, slots := 0, locals := 49 }) (dc_P (dC, dI) xcl (xt cI cB cJ cZ cQ) [.ref ((a 107)), .ref ((a 115)), .int v2, .int v3, .int v4] sz (wC a v cI cB cJ cZ cQ s)) (xk_Ql (dC, dI) xcl (xt cI cB cJ cZ cQ) (fun (r : Int64) (_ : Unit) => r = y.1) (fun u : Unit => (wC a v cI cB cJ cZ cQ y.2)) (va_A (wC a v cI cB cJ cZ cQ s) sz)) 0 0 (va_A (wC a v cI cB cJ cZ cQ s) sz) := by
  refine dc_of (QA := xk_Ql (dC, dI) xcl (xt cI cB cJ cZ cQ) (fun (r : Int64) (_ : Unit) => r = y.1) (fun u : Unit => (wC a v cI cB cJ cZ cQ y.2))) (by decide) (Nat.le_of_ble_eq_true rfl) ?_
  intro p e s0 m below meth c hx hb hml hown hg hr hlocks hin hP hK hN A hA hD hT ls hl
  have hown : s0.vm.findClass rn_Machine = some m.cls := hown
  obtain ⟨H, hH⟩ : ∃ z, z = s0.heap := ⟨_, rfl⟩
  rw [← hH] at hP
  have hS : va_S A s0.heap H [] := by rw [hH]; exact va_S.rf
  suffices kk : ∀ QQ : State → Prop, QQ = MQ below (xk_Ql (dC, dI) xcl (xt cI cB cJ cZ cQ) (fun (r : Int64) (_ : Unit) => r = y.1) (fun u : Unit => (wC a v cI cB cJ cZ cQ y.2)) A) [.ref ((a 107)), .ref ((a 115)), .int v2, .int v3, .int v4].toArray s0 0 0 A → dcC p l e ({ frames := 2, cells := 0, slots := 0, locals := 49 }) s0 m [.ref ((a 107)), .ref ((a 115)), .int v2, .int v3, .int v4].toArray below meth c QQ (dC, dI) A (wC a v cI cB cJ cZ cQ s) 0 12 [(0, .ref ((a 107))), (1, .ref ((a 115))), (2, .int v2), (3, .int v3), (4, .int v4)] [] by
    have k9 := kk _ rfl H [] ls hP hD hS hl
    rw [hH] at k9; exact k9
  clear hP hD hS hl hH H ls
  intro QQ hQQ
  have bl_408 : ∀ (x5 : Int32) (s : ms), bk_Machine_run_Ma_Kc_408 N x5 s = some y → dcC p l e ({ frames := 2, cells := 0, slots := 0, locals := 49 }) s0 m [.ref ((a 107)), .ref ((a 115)), .int v2, .int v3, .int v4].toArray below meth c QQ (dC, dI) A (wC a v cI cB cJ cZ cQ s) 408 12 [(0, .ref ((a 107))), (5, .int x5)] [] := by
    intro x5 s hf H locs ls hP hD hS hl
    unfold bk_Machine_run_Ma_Kc_408 at hf
    refine lv_iload hx hb dn_Machine_run_408 (lv_at hl 1 rfl) ?_
    refine lv_if_lt (tgt := 433) hx hb dn_Machine_run_410 (by decide) (fun h => ?_) (fun h => ?_)
    · have hf := (if_pos h).symm.trans hf
      refine lv_lconst (v := 0) hx hb dn_Machine_run_433 (by decide) ?_
      rw [hQQ, ← Option.some.inj hf]
      exact xk_lret (w1 := fun u : Unit => (wC a v cI cB cJ cZ cQ s)) () hx hb hr hlocks hK hS dn_Machine_run_434 hP hD rfl (Nat.le_refl _) (Nat.le_refl _)
    · have hf := (if_neg h).symm.trans hf
      refine lv_iload hx hb dn_Machine_run_413 (lv_at hl 1 rfl) ?_
      refine lv_aload_n hx hb dn_Machine_run_415 rfl (lv_at hl 0 rfl) ?_
      refine va_get (D := (dC, dI)) (ci := 8) (v := .ref ((a 288))) (C := rn_Machine) (T := fn_Machine) (N := 5) hx hb hg in_Machine hown hK hP 7 rfl rfl 2 (by decide) (hg _ wn_2_91) (fun _ h9 => h9) rfl dn_Machine_run_416 ?_
      refine va_alen (v := 1024) hx hb hK hP 41 2 rfl rfl rfl dn_Machine_run_419 ?_
      refine lv_icmp_ge (tgt := 433) hx hb dn_Machine_run_420 (by decide) (fun h => ?_) (fun h => ?_)
      · have hf := (if_pos h).symm.trans hf
        refine lv_lconst (v := 0) hx hb dn_Machine_run_433 (by decide) ?_
        rw [hQQ, ← Option.some.inj hf]
        exact xk_lret (w1 := fun u : Unit => (wC a v cI cB cJ cZ cQ s)) () hx hb hr hlocks hK hS dn_Machine_run_434 hP hD rfl (Nat.le_refl _) (Nat.le_refl _)
      · have hf := (if_neg h).symm.trans hf
        refine lv_aload_n hx hb dn_Machine_run_423 rfl (lv_at hl 0 rfl) ?_
        refine va_get (D := (dC, dI)) (ci := 8) (v := .ref ((a 288))) (C := rn_Machine) (T := fn_Machine) (N := 5) hx hb hg in_Machine hown hK hP 7 rfl rfl 2 (by decide) (hg _ wn_2_91) (fun _ h9 => h9) rfl dn_Machine_run_424 ?_
        refine lv_iload hx hb dn_Machine_run_427 (lv_at hl 1 rfl) ?_
        obtain ⟨hg_1, hf⟩ := dc_g hf
        refine va_lald hx hb hK hP 41 2 rfl rfl hg_1 dn_Machine_run_429 ?_
        refine xk_tl (y := ((s.2 288) (Int32.toNatClampNeg x5))) rfl ?_
        refine lv_goto (tgt := 434) hx hb dn_Machine_run_430 (by decide) ?_
        rw [hQQ, ← Option.some.inj hf]
        exact xk_lret (w1 := fun u : Unit => (wC a v cI cB cJ cZ cQ s)) () hx hb hr hlocks hK hS dn_Machine_run_434 hP hD rfl (Nat.le_refl _) (Nat.le_refl _)
  have bl_272 : ∀ (k_20 : Int32 → Int32 → Int32 → Int32 → ms → Option (Int64 × ms)) (hk_20 : ∀ (x4 : Int32) (x5 : Int32) (x6 : Int32) (x7 : Int32) (s : ms), k_20 x4 x5 x6 x7 s = some y → dcC p l e ({ frames := 2, cells := 0, slots := 0, locals := 49 }) s0 m [.ref ((a 107)), .ref ((a 115)), .int v2, .int v3, .int v4].toArray below meth c QQ (dC, dI) A (wC a v cI cB cJ cZ cQ s) 20 12 [(0, .ref ((a 107))), (1, .ref ((a 115))), (4, .int x4), (5, .int x5), (6, .int x6), (7, .int x7)] []) (x4 : Int32) (x5 : Int32) (x6 : Int32) (x7 : Int32) (t0 : Int64) (t1 : Int32) (s : ms), bk_Machine_run_Ma_Kc_272 N k_20 x4 x5 x6 x7 t0 t1 s = some y → dcC p l e ({ frames := 2, cells := 0, slots := 0, locals := 49 }) s0 m [.ref ((a 107)), .ref ((a 115)), .int v2, .int v3, .int v4].toArray below meth c QQ (dC, dI) A (wC a v cI cB cJ cZ cQ s) 272 12 [(0, .ref ((a 107))), (1, .ref ((a 115))), (4, .int x4), (5, .int x5), (6, .int x6), (7, .int x7)] [.long t0, .int t1, .ref ((a 288))] := by
    intro k_20 hk_20 x4 x5 x6 x7 t0 t1 s hf H locs ls hP hD hS hl
    unfold bk_Machine_run_Ma_Kc_272 at hf
    obtain ⟨hg_1, hf⟩ := dc_g hf
    refine va_last hx hb hK hP hD hS 41 2 rfl rfl hg_1 dn_Machine_run_272 (fun H locs hP hD hS => ?_)
    have hP : va_P (dC, dI) xcl ((wC a v cI cB cJ cZ cQ s).set 41 ((a 288), .inl (cJ, 1024, .inr (.inl (vp_updL (s.2 288) (Int32.toNatClampNeg t1) t0))))) H := hP
    have hD : va_D A ((wC a v cI cB cJ cZ cQ s).set 41 ((a 288), .inl (cJ, 1024, .inr (.inl (vp_updL (s.2 288) (Int32.toNatClampNeg t1) t0))))) := hD
    have hP := wC_P_288 hP
    have hD := wC_D_288 hD
    refine lv_goto (tgt := 402) hx hb dn_Machine_run_273 (by decide) ?_
    refine lv_iinc (v := (x7 + 1)) (lv' := [(7, .int ((x7 + 1))), (0, .ref ((a 107))), (1, .ref ((a 115))), (4, .int x4), (5, .int x5), (6, .int x6)]) hx hb dn_Machine_run_402 hl (k := 5) rfl (dc_inc (by decide)) (by decide) rfl (fun ls hl => ?_)
    refine lv_goto (tgt := 20) hx hb dn_Machine_run_405 (by decide) ?_
    exact hk_20 x4 x5 x6 ((x7 + 1)) (upJ s 288 (vp_updL (s.2 288) (Int32.toNatClampNeg t1) t0)) hf H locs ls hP hD hS (lv_sub hl [1, 2, 3, 4, 5, 0] rfl)
  have bl_191 : ∀ (k_20 : Int32 → Int32 → Int32 → Int32 → ms → Option (Int64 × ms)) (hk_20 : ∀ (x4 : Int32) (x5 : Int32) (x6 : Int32) (x7 : Int32) (s : ms), k_20 x4 x5 x6 x7 s = some y → dcC p l e ({ frames := 2, cells := 0, slots := 0, locals := 49 }) s0 m [.ref ((a 107)), .ref ((a 115)), .int v2, .int v3, .int v4].toArray below meth c QQ (dC, dI) A (wC a v cI cB cJ cZ cQ s) 20 12 [(0, .ref ((a 107))), (1, .ref ((a 115))), (4, .int x4), (5, .int x5), (6, .int x6), (7, .int x7)] []) (x4 : Int32) (x5 : Int32) (x6 : Int32) (x7 : Int32) (t0 : Int64) (t1 : Int32) (s : ms), bk_Machine_run_Ma_Kc_191 N k_20 x4 x5 x6 x7 t0 t1 s = some y → dcC p l e ({ frames := 2, cells := 0, slots := 0, locals := 49 }) s0 m [.ref ((a 107)), .ref ((a 115)), .int v2, .int v3, .int v4].toArray below meth c QQ (dC, dI) A (wC a v cI cB cJ cZ cQ s) 191 12 [(0, .ref ((a 107))), (1, .ref ((a 115))), (4, .int x4), (5, .int x5), (6, .int x6), (7, .int x7)] [.long t0, .int t1, .ref ((a 288))] := by
    intro k_20 hk_20 x4 x5 x6 x7 t0 t1 s hf H locs ls hP hD hS hl
    unfold bk_Machine_run_Ma_Kc_191 at hf
    obtain ⟨hg_1, hf⟩ := dc_g hf
    refine va_last hx hb hK hP hD hS 41 2 rfl rfl hg_1 dn_Machine_run_191 (fun H locs hP hD hS => ?_)
    have hP : va_P (dC, dI) xcl ((wC a v cI cB cJ cZ cQ s).set 41 ((a 288), .inl (cJ, 1024, .inr (.inl (vp_updL (s.2 288) (Int32.toNatClampNeg t1) t0))))) H := hP
    have hD : va_D A ((wC a v cI cB cJ cZ cQ s).set 41 ((a 288), .inl (cJ, 1024, .inr (.inl (vp_updL (s.2 288) (Int32.toNatClampNeg t1) t0))))) := hD
    have hP := wC_P_288 hP
    have hD := wC_D_288 hD
    refine lv_goto (tgt := 402) hx hb dn_Machine_run_192 (by decide) ?_
    refine lv_iinc (v := (x7 + 1)) (lv' := [(7, .int ((x7 + 1))), (0, .ref ((a 107))), (1, .ref ((a 115))), (4, .int x4), (5, .int x5), (6, .int x6)]) hx hb dn_Machine_run_402 hl (k := 5) rfl (dc_inc (by decide)) (by decide) rfl (fun ls hl => ?_)
    refine lv_goto (tgt := 20) hx hb dn_Machine_run_405 (by decide) ?_
    exact hk_20 x4 x5 x6 ((x7 + 1)) (upJ s 288 (vp_updL (s.2 288) (Int32.toNatClampNeg t1) t0)) hf H locs ls hP hD hS (lv_sub hl [1, 2, 3, 4, 5, 0] rfl)
  have bl_190 : ∀ (k_20 : Int32 → Int32 → Int32 → Int32 → ms → Option (Int64 × ms)) (hk_20 : ∀ (x4 : Int32) (x5 : Int32) (x6 : Int32) (x7 : Int32) (s : ms), k_20 x4 x5 x6 x7 s = some y → dcC p l e ({ frames := 2, cells := 0, slots := 0, locals := 49 }) s0 m [.ref ((a 107)), .ref ((a 115)), .int v2, .int v3, .int v4].toArray below meth c QQ (dC, dI) A (wC a v cI cB cJ cZ cQ s) 20 12 [(0, .ref ((a 107))), (1, .ref ((a 115))), (4, .int x4), (5, .int x5), (6, .int x6), (7, .int x7)] []) (x4 : Int32) (x5 : Int32) (x6 : Int32) (x7 : Int32) (t0 : Int32) (s : ms), bk_Machine_run_Ma_Kc_190 N k_20 x4 x5 x6 x7 t0 s = some y → dcC p l e ({ frames := 2, cells := 0, slots := 0, locals := 49 }) s0 m [.ref ((a 107)), .ref ((a 115)), .int v2, .int v3, .int v4].toArray below meth c QQ (dC, dI) A (wC a v cI cB cJ cZ cQ s) 190 12 [(0, .ref ((a 107))), (1, .ref ((a 115))), (4, .int x4), (5, .int x5), (6, .int x6), (7, .int x7)] [.int t0, .ref ((a 288))] := by
    intro k_20 hk_20 x4 x5 x6 x7 t0 s hf H locs ls hP hD hS hl
    unfold bk_Machine_run_Ma_Kc_190 at hf
    refine lv_lconst (v := 0) hx hb dn_Machine_run_190 (by decide) ?_
    exact bl_191 k_20 hk_20 x4 x5 x6 x7 0 t0 s hf H locs ls hP hD hS hl
  have hd_20 : ∀ (n : Nat) (x4 : Int32) (x5 : Int32) (x6 : Int32) (x7 : Int32) (s : ms), hd_Machine_run_Ma_Kc_20 N n x4 x5 x6 x7 s = some y → dcC p l e ({ frames := 2, cells := 0, slots := 0, locals := 49 }) s0 m [.ref ((a 107)), .ref ((a 115)), .int v2, .int v3, .int v4].toArray below meth c QQ (dC, dI) A (wC a v cI cB cJ cZ cQ s) 20 12 [(0, .ref ((a 107))), (1, .ref ((a 115))), (4, .int x4), (5, .int x5), (6, .int x6), (7, .int x7)] [] := by
    intro n
    induction n with
    | zero => intro x4 x5 x6 x7 s hf; cases hf
    | succ n ih =>
      intro x4 x5 x6 x7 s hf H locs ls hP hD hS hl
      have hf : bd_Machine_run_Ma_Kc_20 N (hd_Machine_run_Ma_Kc_20 N n) x4 x5 x6 x7 s = some y := hf
      have hk_20 := ih
      generalize hd_Machine_run_Ma_Kc_20 N n = k_20 at hf hk_20
      unfold bd_Machine_run_Ma_Kc_20 at hf
      refine lv_iload hx hb dn_Machine_run_20 (lv_at hl 5 rfl) ?_
      refine lv_iload hx hb dn_Machine_run_22 (lv_at hl 4 rfl) ?_
      refine lv_icmp_ge (tgt := 408) hx hb dn_Machine_run_24 (by decide) (fun h => ?_) (fun h => ?_)
      · have hf := (if_pos h).symm.trans hf
        exact bl_408 x5 s hf H locs ls hP hD hS (lv_sub hl [0, 3] rfl)
      · have hf := (if_neg h).symm.trans hf
        refine lv_iload hx hb dn_Machine_run_27 (lv_at hl 3 rfl) ?_
        refine lv_iconst (v := 3) hx hb dn_Machine_run_29 (by decide) ?_
        refine lv_icmp_lt (tgt := 408) hx hb dn_Machine_run_30 (by decide) (fun h => ?_) (fun h => ?_)
        · have hf := (if_pos h).symm.trans hf
          exact bl_408 x5 s hf H locs ls hP hD hS (lv_sub hl [0, 3] rfl)
        · have hf := (if_neg h).symm.trans hf
          refine lv_iload hx hb dn_Machine_run_33 (lv_at hl 3 rfl) ?_
          refine lv_iconst (v := 1) hx hb dn_Machine_run_35 (by decide) ?_
          refine lv_iadd hx hb dn_Machine_run_36 ?_
          refine lv_aload_n hx hb dn_Machine_run_37 rfl (lv_at hl 0 rfl) ?_
          refine va_get (D := (dC, dI)) (ci := 8) (v := .ref ((a 288))) (C := rn_Machine) (T := fn_Machine) (N := 5) hx hb hg in_Machine hown hK hP 7 rfl rfl 2 (by decide) (hg _ wn_2_91) (fun _ h9 => h9) rfl dn_Machine_run_38 ?_
          refine va_alen (v := 1024) hx hb hK hP 41 2 rfl rfl rfl dn_Machine_run_41 ?_
          refine lv_icmp_ge (tgt := 408) hx hb dn_Machine_run_42 (by decide) (fun h => ?_) (fun h => ?_)
          · have hf := (if_pos h).symm.trans hf
            exact bl_408 x5 s hf H locs ls hP hD hS (lv_sub hl [0, 3] rfl)
          · have hf := (if_neg h).symm.trans hf
            refine lv_aload_n hx hb dn_Machine_run_45 rfl (lv_at hl 1 rfl) ?_
            refine lv_iload hx hb dn_Machine_run_46 (lv_at hl 5 rfl) ?_
            obtain ⟨q_1, hc_2, hf⟩ := dc_b hf
            refine dc_calli (dc_runV (ar := 1) (As := [.int x7]) (rest := []) (ci := 12) (q0 := 15) ⟨hx, hb, hml, hown, hg⟩ hK hN hT hS hA (ct_Code_opAt_Kc l dC dI cI cB cJ cZ cQ N H.size a v x7 s q_1 hc_2) hP hD rfl rfl wn_8_0 wn_6_232 wn_6_233 wn_1_12 wn_6_234 rfl rfl (by decide +kernel) ⟨Nat.le_of_ble_eq_true rfl, Nat.le_of_ble_eq_true rfl⟩ rfl hl.1 rfl (Nat.le_of_ble_eq_true rfl) dn_Machine_run_48 ⟨Nat.le_of_ble_eq_true rfl, Nat.le_of_ble_eq_true rfl⟩) hP hD hS hA (fun r_3 _ H locs hw hP hD hS => ?_)
            have hw : r_3 = q_1.1 := hw
            subst hw
            refine lv_istore (lv' := [(8, .int q_1.1), (0, .ref ((a 107))), (1, .ref ((a 115))), (4, .int x4), (5, .int x5), (6, .int x6), (7, .int x7)]) hx hb dn_Machine_run_51 hl (by decide) rfl (fun ls hl => ?_)
            refine lv_aload_n hx hb dn_Machine_run_53 rfl (lv_at hl 2 rfl) ?_
            refine lv_iload hx hb dn_Machine_run_54 (lv_at hl 6 rfl) ?_
            obtain ⟨q_4, hc_5, hf⟩ := dc_b hf
            refine dc_calli (dc_runV (ar := 1) (As := [.int x7]) (rest := []) (ci := 12) (q0 := 15) ⟨hx, hb, hml, hown, hg⟩ hK hN hT hS hA (ct_Code_argAt_Kc l dC dI cI cB cJ cZ cQ N H.size a v x7 q_1.2 q_4 hc_5) hP hD rfl rfl wn_8_1 wn_6_1 wn_6_2 wn_1_12 wn_6_3 rfl rfl (by decide +kernel) ⟨Nat.le_of_ble_eq_true rfl, Nat.le_of_ble_eq_true rfl⟩ rfl hl.1 rfl (Nat.le_of_ble_eq_true rfl) dn_Machine_run_56 ⟨Nat.le_of_ble_eq_true rfl, Nat.le_of_ble_eq_true rfl⟩) hP hD hS hA (fun r_6 _ H locs hw hP hD hS => ?_)
            have hw : r_6 = q_4.1 := hw
            subst hw
            refine lv_istore (lv' := [(9, .int q_4.1), (8, .int q_1.1), (0, .ref ((a 107))), (1, .ref ((a 115))), (4, .int x4), (5, .int x5), (6, .int x6), (7, .int x7)]) hx hb dn_Machine_run_59 hl (by decide) rfl (fun ls hl => ?_)
            refine lv_iload hx hb dn_Machine_run_61 (lv_at hl 1 rfl) ?_
            refine lv_sipush (v := 256) hx hb dn_Machine_run_63 (by decide) ?_
            refine lv_icmp_ge (tgt := 105) hx hb dn_Machine_run_66 (by decide) (fun h => ?_) (fun h => ?_)
            · have hf := (if_pos h).symm.trans hf
              refine lv_iload hx hb dn_Machine_run_105 (lv_at hl 1 rfl) ?_
              refine lv_sipush (v := 512) hx hb dn_Machine_run_107 (by decide) ?_
              refine lv_icmp_ge (tgt := 141) hx hb dn_Machine_run_110 (by decide) (fun h => ?_) (fun h => ?_)
              · have hf := (if_pos h).symm.trans hf
                refine lv_iload hx hb dn_Machine_run_141 (lv_at hl 1 rfl) ?_
                refine lv_sipush (v := 514) hx hb dn_Machine_run_143 (by decide) ?_
                refine lv_icmp_ne (tgt := 195) hx hb dn_Machine_run_146 (by decide) (fun h => ?_) (fun h => ?_)
                · have hf := (if_neg h).symm.trans hf
                  refine lv_iload hx hb dn_Machine_run_195 (lv_at hl 1 rfl) ?_
                  refine lv_sipush (v := 513) hx hb dn_Machine_run_197 (by decide) ?_
                  refine lv_icmp_ne (tgt := 222) hx hb dn_Machine_run_200 (by decide) (fun h => ?_) (fun h => ?_)
                  · have hf := (if_neg h).symm.trans hf
                    refine lv_iload hx hb dn_Machine_run_222 (lv_at hl 1 rfl) ?_
                    refine lv_sipush (v := 512) hx hb dn_Machine_run_224 (by decide) ?_
                    refine lv_icmp_ne (tgt := 276) hx hb dn_Machine_run_227 (by decide) (fun h => ?_) (fun h => ?_)
                    · have hf := (if_neg h).symm.trans hf
                      refine lv_iload hx hb dn_Machine_run_276 (lv_at hl 1 rfl) ?_
                      refine lv_sipush (v := 517) hx hb dn_Machine_run_278 (by decide) ?_
                      refine lv_icmp_ne (tgt := 298) hx hb dn_Machine_run_281 (by decide) (fun h => ?_) (fun h => ?_)
                      · have hf := (if_neg h).symm.trans hf
                        refine lv_iload hx hb dn_Machine_run_298 (lv_at hl 1 rfl) ?_
                        refine lv_sipush (v := 519) hx hb dn_Machine_run_300 (by decide) ?_
                        refine lv_icmp_ne (tgt := 343) hx hb dn_Machine_run_303 (by decide) (fun h => ?_) (fun h => ?_)
                        · have hf := (if_neg h).symm.trans hf
                          refine lv_aload_n hx hb dn_Machine_run_343 rfl (lv_at hl 2 rfl) ?_
                          refine va_get (D := (dC, dI)) (ci := 8) (v := .ref ((a 288))) (C := rn_Machine) (T := fn_Machine) (N := 5) hx hb hg in_Machine hown hK hP 7 rfl rfl 2 (by decide) (hg _ wn_2_91) (fun _ h9 => h9) rfl dn_Machine_run_344 ?_
                          refine lv_iload hx hb dn_Machine_run_347 (lv_at hl 5 rfl) ?_
                          obtain ⟨hg_7, hf⟩ := dc_g hf
                          refine va_lald hx hb hK hP 41 2 rfl rfl hg_7 dn_Machine_run_349 ?_
                          refine xk_tl (y := ((q_4.2.2 288) (Int32.toNatClampNeg x5))) rfl ?_
                          refine lv_lstore (lv' := [(10, .long (((q_4.2.2 288) (Int32.toNatClampNeg x5)))), (9, .int q_4.1), (8, .int q_1.1), (0, .ref ((a 107))), (1, .ref ((a 115))), (4, .int x4), (5, .int x5), (6, .int x6), (7, .int x7)]) hx hb dn_Machine_run_350 hl (by decide) rfl (fun ls hl => ?_)
                          refine lv_iinc (v := (x5 + (-1))) (lv' := [(5, .int ((x5 + (-1)))), (10, .long (((q_4.2.2 288) (Int32.toNatClampNeg x5)))), (9, .int q_4.1), (8, .int q_1.1), (0, .ref ((a 107))), (1, .ref ((a 115))), (4, .int x4), (6, .int x6), (7, .int x7)]) hx hb dn_Machine_run_352 hl (k := 6) rfl (dc_inc (by decide)) (by decide) rfl (fun ls hl => ?_)
                          refine lv_iload hx hb dn_Machine_run_355 (lv_at hl 3 rfl) ?_
                          refine lv_sipush (v := 515) hx hb dn_Machine_run_357 (by decide) ?_
                          refine lv_icmp_ne (tgt := 376) hx hb dn_Machine_run_360 (by decide) (fun h => ?_) (fun h => ?_)
                          · have hf := (if_neg h).symm.trans hf
                            refine lv_iload hx hb dn_Machine_run_376 (lv_at hl 3 rfl) ?_
                            refine lv_sipush (v := 518) hx hb dn_Machine_run_378 (by decide) ?_
                            refine lv_icmp_ne (tgt := 402) hx hb dn_Machine_run_381 (by decide) (fun h => ?_) (fun h => ?_)
                            · have hf := (if_neg h).symm.trans hf
                              refine lv_iinc (v := (x7 + 1)) (lv' := [(7, .int ((x7 + 1))), (5, .int ((x5 + (-1)))), (10, .long (((q_4.2.2 288) (Int32.toNatClampNeg x5)))), (9, .int q_4.1), (8, .int q_1.1), (0, .ref ((a 107))), (1, .ref ((a 115))), (4, .int x4), (6, .int x6)]) hx hb dn_Machine_run_402 hl (k := 8) rfl (dc_inc (by decide)) (by decide) rfl (fun ls hl => ?_)
                              refine lv_goto (tgt := 20) hx hb dn_Machine_run_405 (by decide) ?_
                              exact hk_20 x4 ((x5 + (-1))) x6 ((x7 + 1)) q_4.2 hf H locs ls hP hD hS (lv_sub hl [5, 6, 7, 1, 8, 0] rfl)
                            · have hf := (if_pos h).symm.trans hf
                              refine lv_lload hx hb dn_Machine_run_384 (lv_at hl 1 rfl) ?_
                              refine lv_lconst (v := 0) hx hb dn_Machine_run_386 (by decide) ?_
                              refine W.lcmp hx hb dn_Machine_run_387 ?_
                              refine lv_if_ne (tgt := 402) hx hb dn_Machine_run_388 (by decide) (fun h => ?_) (fun h => ?_)
                              · have hf := (if_neg h).symm.trans hf
                                refine lv_iinc (v := (x7 + 1)) (lv' := [(7, .int ((x7 + 1))), (5, .int ((x5 + (-1)))), (10, .long (((q_4.2.2 288) (Int32.toNatClampNeg x5)))), (9, .int q_4.1), (8, .int q_1.1), (0, .ref ((a 107))), (1, .ref ((a 115))), (4, .int x4), (6, .int x6)]) hx hb dn_Machine_run_402 hl (k := 8) rfl (dc_inc (by decide)) (by decide) rfl (fun ls hl => ?_)
                                refine lv_goto (tgt := 20) hx hb dn_Machine_run_405 (by decide) ?_
                                exact hk_20 x4 ((x5 + (-1))) x6 ((x7 + 1)) q_4.2 hf H locs ls hP hD hS (lv_sub hl [5, 6, 7, 1, 8, 0] rfl)
                              · have hf := (if_pos h).symm.trans hf
                                refine lv_iload hx hb dn_Machine_run_391 (lv_at hl 8 rfl) ?_
                                refine lv_iload hx hb dn_Machine_run_393 (lv_at hl 2 rfl) ?_
                                refine lv_iconst (v := 1) hx hb dn_Machine_run_395 (by decide) ?_
                                refine lv_isub hx hb dn_Machine_run_396 ?_
                                refine va_mmax (x := x7) (y := (q_4.1 - 1)) (rest := []) hx hb (by rw [hml]; exact hl.1.symm) hown (hg _ wn_7_239) (hg _ wn_4_99) (hg _ wn_1_19) (hg _ wn_4_100) (Nat.le_of_ble_eq_true rfl) (Nat.le_of_ble_eq_true rfl) (Nat.zero_le _) (Nat.zero_le _) dn_Machine_run_397 ?_
                                refine lv_istore (lv' := [(7, .int ((if x7 < (q_4.1 - 1) then (q_4.1 - 1) else x7))), (5, .int ((x5 + (-1)))), (10, .long (((q_4.2.2 288) (Int32.toNatClampNeg x5)))), (9, .int q_4.1), (8, .int q_1.1), (0, .ref ((a 107))), (1, .ref ((a 115))), (4, .int x4), (6, .int x6)]) hx hb dn_Machine_run_400 hl (by decide) rfl (fun ls hl => ?_)
                                refine lv_iinc (v := ((if x7 < (q_4.1 - 1) then (q_4.1 - 1) else x7) + 1)) (lv' := [(7, .int (((if x7 < (q_4.1 - 1) then (q_4.1 - 1) else x7) + 1))), (5, .int ((x5 + (-1)))), (10, .long (((q_4.2.2 288) (Int32.toNatClampNeg x5)))), (9, .int q_4.1), (8, .int q_1.1), (0, .ref ((a 107))), (1, .ref ((a 115))), (4, .int x4), (6, .int x6)]) hx hb dn_Machine_run_402 hl (k := 0) rfl (dc_inc (by decide)) (by decide) rfl (fun ls hl => ?_)
                                refine lv_goto (tgt := 20) hx hb dn_Machine_run_405 (by decide) ?_
                                exact hk_20 x4 ((x5 + (-1))) x6 (((if x7 < (q_4.1 - 1) then (q_4.1 - 1) else x7) + 1)) q_4.2 hf H locs ls hP hD hS (lv_sub hl [5, 6, 7, 1, 8, 0] rfl)
                          · have hf := (if_pos h).symm.trans hf
                            refine lv_aload_n hx hb dn_Machine_run_363 rfl (lv_at hl 4 rfl) ?_
                            refine lv_iload hx hb dn_Machine_run_364 (lv_at hl 6 rfl) ?_
                            refine lv_iload hx hb dn_Machine_run_366 (lv_at hl 2 rfl) ?_
                            refine lv_lload hx hb dn_Machine_run_368 (lv_at hl 1 rfl) ?_
                            obtain ⟨q_8, hc_9, hf⟩ := dc_b hf
                            refine dc_callv (dc_runV (ar := 3) (As := [.int x4, .int q_4.1, .long (((q_4.2.2 288) (Int32.toNatClampNeg x5)))]) (rest := []) (ci := 8) (q0 := 7) ⟨hx, hb, hml, hown, hg⟩ hK hN hT hS hA (ct_Machine_store_Ma l dC dI cI cB cJ cZ cQ N H.size a v x4 q_4.1 (((q_4.2.2 288) (Int32.toNatClampNeg x5))) q_4.2 q_8 hc_9) hP hD rfl rfl wn_8_28 wn_8_30 sn_Machine_store wn_1_8 wn_8_31 rfl rfl (by decide +kernel) ⟨Nat.le_of_ble_eq_true rfl, Nat.le_of_ble_eq_true rfl⟩ rfl hl.1 rfl (Nat.le_of_ble_eq_true rfl) dn_Machine_run_370 ⟨Nat.le_of_ble_eq_true rfl, Nat.le_of_ble_eq_true rfl⟩) hP hD hS hA (fun _ H locs hw hP hD hS => ?_)
                            refine lv_goto (tgt := 402) hx hb dn_Machine_run_373 (by decide) ?_
                            refine lv_iinc (v := (x7 + 1)) (lv' := [(7, .int ((x7 + 1))), (5, .int ((x5 + (-1)))), (10, .long (((q_4.2.2 288) (Int32.toNatClampNeg x5)))), (9, .int q_4.1), (8, .int q_1.1), (0, .ref ((a 107))), (1, .ref ((a 115))), (4, .int x4), (6, .int x6)]) hx hb dn_Machine_run_402 hl (k := 8) rfl (dc_inc (by decide)) (by decide) rfl (fun ls hl => ?_)
                            refine lv_goto (tgt := 20) hx hb dn_Machine_run_405 (by decide) ?_
                            exact hk_20 x4 ((x5 + (-1))) x6 ((x7 + 1)) q_8.2 hf H locs ls hP hD hS (lv_sub hl [5, 6, 7, 1, 8, 0] rfl)
                        · have hf := (if_pos h).symm.trans hf
                          refine lv_iinc (v := (x5 + (-1))) (lv' := [(5, .int ((x5 + (-1)))), (9, .int q_4.1), (8, .int q_1.1), (0, .ref ((a 107))), (1, .ref ((a 115))), (4, .int x4), (6, .int x6), (7, .int x7)]) hx hb dn_Machine_run_306 hl (k := 5) rfl (dc_inc (by decide)) (by decide) rfl (fun ls hl => ?_)
                          refine lv_aload_n hx hb dn_Machine_run_309 rfl (lv_at hl 3 rfl) ?_
                          refine va_get (D := (dC, dI)) (ci := 8) (v := .ref ((a 288))) (C := rn_Machine) (T := fn_Machine) (N := 5) hx hb hg in_Machine hown hK hP 7 rfl rfl 2 (by decide) (hg _ wn_2_91) (fun _ h9 => h9) rfl dn_Machine_run_310 ?_
                          refine lv_iload hx hb dn_Machine_run_313 (lv_at hl 0 rfl) ?_
                          obtain ⟨hg_7, hf⟩ := dc_g hf
                          refine va_lald hx hb hK hP 41 2 rfl rfl hg_7 dn_Machine_run_315 ?_
                          refine xk_tl (y := ((q_4.2.2 288) (Int32.toNatClampNeg ((x5 + (-1)))))) rfl ?_
                          refine lv_aload_n hx hb dn_Machine_run_316 rfl (lv_at hl 3 rfl) ?_
                          refine va_get (D := (dC, dI)) (ci := 8) (v := .ref ((a 288))) (C := rn_Machine) (T := fn_Machine) (N := 5) hx hb hg in_Machine hown hK hP 7 rfl rfl 2 (by decide) (hg _ wn_2_91) (fun _ h9 => h9) rfl dn_Machine_run_317 ?_
                          refine lv_iload hx hb dn_Machine_run_320 (lv_at hl 0 rfl) ?_
                          refine lv_iconst (v := 1) hx hb dn_Machine_run_322 (by decide) ?_
                          refine lv_iadd hx hb dn_Machine_run_323 ?_
                          obtain ⟨hg_8, hf⟩ := dc_g hf
                          refine va_lald hx hb hK hP 41 2 rfl rfl hg_8 dn_Machine_run_324 ?_
                          refine xk_tl (y := ((q_4.2.2 288) (Int32.toNatClampNeg (((x5 + (-1)) + 1))))) rfl ?_
                          refine W.lcmp hx hb dn_Machine_run_325 ?_
                          refine lv_if_ne (tgt := 402) hx hb dn_Machine_run_326 (by decide) (fun h => ?_) (fun h => ?_)
                          · have hf := (if_neg h).symm.trans hf
                            refine lv_iinc (v := (x7 + 1)) (lv' := [(7, .int ((x7 + 1))), (5, .int ((x5 + (-1)))), (9, .int q_4.1), (8, .int q_1.1), (0, .ref ((a 107))), (1, .ref ((a 115))), (4, .int x4), (6, .int x6)]) hx hb dn_Machine_run_402 hl (k := 7) rfl (dc_inc (by decide)) (by decide) rfl (fun ls hl => ?_)
                            refine lv_goto (tgt := 20) hx hb dn_Machine_run_405 (by decide) ?_
                            exact hk_20 x4 ((x5 + (-1))) x6 ((x7 + 1)) q_4.2 hf H locs ls hP hD hS (lv_sub hl [4, 5, 6, 1, 7, 0] rfl)
                          · have hf := (if_pos h).symm.trans hf
                            refine lv_iload hx hb dn_Machine_run_329 (lv_at hl 7 rfl) ?_
                            refine lv_iload hx hb dn_Machine_run_331 (lv_at hl 1 rfl) ?_
                            refine lv_iconst (v := 1) hx hb dn_Machine_run_333 (by decide) ?_
                            refine lv_isub hx hb dn_Machine_run_334 ?_
                            refine va_mmax (x := x7) (y := (q_4.1 - 1)) (rest := []) hx hb (by rw [hml]; exact hl.1.symm) hown (hg _ wn_7_239) (hg _ wn_4_99) (hg _ wn_1_19) (hg _ wn_4_100) (Nat.le_of_ble_eq_true rfl) (Nat.le_of_ble_eq_true rfl) (Nat.zero_le _) (Nat.zero_le _) dn_Machine_run_335 ?_
                            refine lv_istore (lv' := [(7, .int ((if x7 < (q_4.1 - 1) then (q_4.1 - 1) else x7))), (5, .int ((x5 + (-1)))), (9, .int q_4.1), (8, .int q_1.1), (0, .ref ((a 107))), (1, .ref ((a 115))), (4, .int x4), (6, .int x6)]) hx hb dn_Machine_run_338 hl (by decide) rfl (fun ls hl => ?_)
                            refine lv_goto (tgt := 402) hx hb dn_Machine_run_340 (by decide) ?_
                            refine lv_iinc (v := ((if x7 < (q_4.1 - 1) then (q_4.1 - 1) else x7) + 1)) (lv' := [(7, .int (((if x7 < (q_4.1 - 1) then (q_4.1 - 1) else x7) + 1))), (5, .int ((x5 + (-1)))), (9, .int q_4.1), (8, .int q_1.1), (0, .ref ((a 107))), (1, .ref ((a 115))), (4, .int x4), (6, .int x6)]) hx hb dn_Machine_run_402 hl (k := 0) rfl (dc_inc (by decide)) (by decide) rfl (fun ls hl => ?_)
                            refine lv_goto (tgt := 20) hx hb dn_Machine_run_405 (by decide) ?_
                            exact hk_20 x4 ((x5 + (-1))) x6 (((if x7 < (q_4.1 - 1) then (q_4.1 - 1) else x7) + 1)) q_4.2 hf H locs ls hP hD hS (lv_sub hl [4, 5, 6, 1, 7, 0] rfl)
                      · have hf := (if_pos h).symm.trans hf
                        refine lv_iload hx hb dn_Machine_run_284 (lv_at hl 7 rfl) ?_
                        refine lv_iload hx hb dn_Machine_run_286 (lv_at hl 0 rfl) ?_
                        refine lv_iconst (v := 1) hx hb dn_Machine_run_288 (by decide) ?_
                        refine lv_isub hx hb dn_Machine_run_289 ?_
                        refine va_mmax (x := x7) (y := (q_4.1 - 1)) (rest := []) hx hb (by rw [hml]; exact hl.1.symm) hown (hg _ wn_7_239) (hg _ wn_4_99) (hg _ wn_1_19) (hg _ wn_4_100) (Nat.le_of_ble_eq_true rfl) (Nat.le_of_ble_eq_true rfl) (Nat.zero_le _) (Nat.zero_le _) dn_Machine_run_290 ?_
                        refine lv_istore (lv' := [(7, .int ((if x7 < (q_4.1 - 1) then (q_4.1 - 1) else x7))), (9, .int q_4.1), (8, .int q_1.1), (0, .ref ((a 107))), (1, .ref ((a 115))), (4, .int x4), (5, .int x5), (6, .int x6)]) hx hb dn_Machine_run_293 hl (by decide) rfl (fun ls hl => ?_)
                        refine lv_goto (tgt := 402) hx hb dn_Machine_run_295 (by decide) ?_
                        refine lv_iinc (v := ((if x7 < (q_4.1 - 1) then (q_4.1 - 1) else x7) + 1)) (lv' := [(7, .int (((if x7 < (q_4.1 - 1) then (q_4.1 - 1) else x7) + 1))), (9, .int q_4.1), (8, .int q_1.1), (0, .ref ((a 107))), (1, .ref ((a 115))), (4, .int x4), (5, .int x5), (6, .int x6)]) hx hb dn_Machine_run_402 hl (k := 0) rfl (dc_inc (by decide)) (by decide) rfl (fun ls hl => ?_)
                        refine lv_goto (tgt := 20) hx hb dn_Machine_run_405 (by decide) ?_
                        exact hk_20 x4 x5 x6 (((if x7 < (q_4.1 - 1) then (q_4.1 - 1) else x7) + 1)) q_4.2 hf H locs ls hP hD hS (lv_sub hl [3, 4, 5, 6, 7, 0] rfl)
                    · have hf := (if_pos h).symm.trans hf
                      refine lv_iinc (v := (x5 + (-2))) (lv' := [(5, .int ((x5 + (-2)))), (9, .int q_4.1), (8, .int q_1.1), (0, .ref ((a 107))), (1, .ref ((a 115))), (4, .int x4), (6, .int x6), (7, .int x7)]) hx hb dn_Machine_run_230 hl (k := 5) rfl (dc_inc (by decide)) (by decide) rfl (fun ls hl => ?_)
                      refine lv_aload_n hx hb dn_Machine_run_233 rfl (lv_at hl 3 rfl) ?_
                      refine va_get (D := (dC, dI)) (ci := 8) (v := .ref ((a 288))) (C := rn_Machine) (T := fn_Machine) (N := 5) hx hb hg in_Machine hown hK hP 7 rfl rfl 2 (by decide) (hg _ wn_2_91) (fun _ h9 => h9) rfl dn_Machine_run_234 ?_
                      refine lv_iload hx hb dn_Machine_run_237 (lv_at hl 0 rfl) ?_
                      refine lv_aload_n hx hb dn_Machine_run_239 rfl (lv_at hl 3 rfl) ?_
                      refine va_get (D := (dC, dI)) (ci := 8) (v := .ref ((a 288))) (C := rn_Machine) (T := fn_Machine) (N := 5) hx hb hg in_Machine hown hK hP 7 rfl rfl 2 (by decide) (hg _ wn_2_91) (fun _ h9 => h9) rfl dn_Machine_run_240 ?_
                      refine lv_iload hx hb dn_Machine_run_243 (lv_at hl 0 rfl) ?_
                      obtain ⟨hg_7, hf⟩ := dc_g hf
                      refine va_lald hx hb hK hP 41 2 rfl rfl hg_7 dn_Machine_run_245 ?_
                      refine xk_tl (y := ((q_4.2.2 288) (Int32.toNatClampNeg ((x5 + (-2)))))) rfl ?_
                      refine lv_lconst (v := 0) hx hb dn_Machine_run_246 (by decide) ?_
                      refine W.lcmp hx hb dn_Machine_run_247 ?_
                      refine lv_if_eq (tgt := 263) hx hb dn_Machine_run_248 (by decide) (fun h => ?_) (fun h => ?_)
                      · have hf := (if_pos h).symm.trans hf
                        refine lv_aload_n hx hb dn_Machine_run_263 rfl (lv_at hl 3 rfl) ?_
                        refine va_get (D := (dC, dI)) (ci := 8) (v := .ref ((a 288))) (C := rn_Machine) (T := fn_Machine) (N := 5) hx hb hg in_Machine hown hK hP 7 rfl rfl 2 (by decide) (hg _ wn_2_91) (fun _ h9 => h9) rfl dn_Machine_run_264 ?_
                        refine lv_iload hx hb dn_Machine_run_267 (lv_at hl 0 rfl) ?_
                        refine lv_iconst (v := 2) hx hb dn_Machine_run_269 (by decide) ?_
                        refine lv_iadd hx hb dn_Machine_run_270 ?_
                        obtain ⟨hg_8, hf⟩ := dc_g hf
                        refine va_lald hx hb hK hP 41 2 rfl rfl hg_8 dn_Machine_run_271 ?_
                        refine xk_tl (y := ((q_4.2.2 288) (Int32.toNatClampNeg (((x5 + (-2)) + 2))))) rfl ?_
                        exact bl_272 k_20 hk_20 x4 ((x5 + (-2))) x6 x7 (((q_4.2.2 288) (Int32.toNatClampNeg (((x5 + (-2)) + 2))))) ((x5 + (-2))) q_4.2 hf H locs ls hP hD hS (lv_sub hl [3, 4, 5, 0, 6, 7] rfl)
                      · have hf := (if_neg h).symm.trans hf
                        refine lv_aload_n hx hb dn_Machine_run_251 rfl (lv_at hl 3 rfl) ?_
                        refine va_get (D := (dC, dI)) (ci := 8) (v := .ref ((a 288))) (C := rn_Machine) (T := fn_Machine) (N := 5) hx hb hg in_Machine hown hK hP 7 rfl rfl 2 (by decide) (hg _ wn_2_91) (fun _ h9 => h9) rfl dn_Machine_run_252 ?_
                        refine lv_iload hx hb dn_Machine_run_255 (lv_at hl 0 rfl) ?_
                        refine lv_iconst (v := 1) hx hb dn_Machine_run_257 (by decide) ?_
                        refine lv_iadd hx hb dn_Machine_run_258 ?_
                        obtain ⟨hg_8, hf⟩ := dc_g hf
                        refine va_lald hx hb hK hP 41 2 rfl rfl hg_8 dn_Machine_run_259 ?_
                        refine xk_tl (y := ((q_4.2.2 288) (Int32.toNatClampNeg (((x5 + (-2)) + 1))))) rfl ?_
                        refine lv_goto (tgt := 272) hx hb dn_Machine_run_260 (by decide) ?_
                        exact bl_272 k_20 hk_20 x4 ((x5 + (-2))) x6 x7 (((q_4.2.2 288) (Int32.toNatClampNeg (((x5 + (-2)) + 1))))) ((x5 + (-2))) q_4.2 hf H locs ls hP hD hS (lv_sub hl [3, 4, 5, 0, 6, 7] rfl)
                  · have hf := (if_pos h).symm.trans hf
                    refine lv_iinc (v := (x5 + 1)) (lv' := [(5, .int ((x5 + 1))), (9, .int q_4.1), (8, .int q_1.1), (0, .ref ((a 107))), (1, .ref ((a 115))), (4, .int x4), (6, .int x6), (7, .int x7)]) hx hb dn_Machine_run_203 hl (k := 5) rfl (dc_inc (by decide)) (by decide) rfl (fun ls hl => ?_)
                    refine lv_aload_n hx hb dn_Machine_run_206 rfl (lv_at hl 3 rfl) ?_
                    refine va_get (D := (dC, dI)) (ci := 8) (v := .ref ((a 288))) (C := rn_Machine) (T := fn_Machine) (N := 5) hx hb hg in_Machine hown hK hP 7 rfl rfl 2 (by decide) (hg _ wn_2_91) (fun _ h9 => h9) rfl dn_Machine_run_207 ?_
                    refine lv_iload hx hb dn_Machine_run_210 (lv_at hl 0 rfl) ?_
                    refine lv_aload_n hx hb dn_Machine_run_212 rfl (lv_at hl 4 rfl) ?_
                    refine lv_iload hx hb dn_Machine_run_213 (lv_at hl 1 rfl) ?_
                    obtain ⟨q_7, hc_8, hf⟩ := dc_b hf
                    refine dc_calll (dc_runV (ar := 1) (As := [.int q_4.1]) (rest := [.int ((x5 + 1)), .ref ((a 288))]) (ci := 12) (q0 := 15) ⟨hx, hb, hml, hown, hg⟩ hK hN hT hS hA (ct_Code_valueOf_Kc l dC dI cI cB cJ cZ cQ N H.size a v q_4.1 q_4.2 q_7 hc_8) hP hD rfl rfl wn_8_27 wn_5_19 wn_5_20 wn_1_12 wn_5_21 rfl rfl (by decide +kernel) ⟨Nat.le_of_ble_eq_true rfl, Nat.le_of_ble_eq_true rfl⟩ rfl hl.1 rfl (Nat.le_of_ble_eq_true rfl) dn_Machine_run_215 ⟨Nat.le_of_ble_eq_true rfl, Nat.le_of_ble_eq_true rfl⟩) hP hD hS hA (fun r_9 _ H locs hw hP hD hS => ?_)
                    have hw : r_9 = q_7.1 := hw
                    subst hw
                    obtain ⟨hg_10, hf⟩ := dc_g hf
                    refine va_last hx hb hK hP hD hS 41 2 rfl rfl hg_10 dn_Machine_run_218 (fun H locs hP hD hS => ?_)
                    have hP : va_P (dC, dI) xcl ((wC a v cI cB cJ cZ cQ q_7.2).set 41 ((a 288), .inl (cJ, 1024, .inr (.inl (vp_updL (q_7.2.2 288) (Int32.toNatClampNeg ((x5 + 1))) q_7.1))))) H := hP
                    have hD : va_D A ((wC a v cI cB cJ cZ cQ q_7.2).set 41 ((a 288), .inl (cJ, 1024, .inr (.inl (vp_updL (q_7.2.2 288) (Int32.toNatClampNeg ((x5 + 1))) q_7.1))))) := hD
                    have hP := wC_P_288 hP
                    have hD := wC_D_288 hD
                    refine lv_goto (tgt := 402) hx hb dn_Machine_run_219 (by decide) ?_
                    refine lv_iinc (v := (x7 + 1)) (lv' := [(7, .int ((x7 + 1))), (5, .int ((x5 + 1))), (9, .int q_4.1), (8, .int q_1.1), (0, .ref ((a 107))), (1, .ref ((a 115))), (4, .int x4), (6, .int x6)]) hx hb dn_Machine_run_402 hl (k := 7) rfl (dc_inc (by decide)) (by decide) rfl (fun ls hl => ?_)
                    refine lv_goto (tgt := 20) hx hb dn_Machine_run_405 (by decide) ?_
                    exact hk_20 x4 ((x5 + 1)) x6 ((x7 + 1)) (upJ q_7.2 288 (vp_updL (q_7.2.2 288) (Int32.toNatClampNeg ((x5 + 1))) q_7.1)) hf H locs ls hP hD hS (lv_sub hl [4, 5, 6, 1, 7, 0] rfl)
                · have hf := (if_pos h).symm.trans hf
                  refine lv_iload hx hb dn_Machine_run_149 (lv_at hl 4 rfl) ?_
                  refine lv_iload hx hb dn_Machine_run_151 (lv_at hl 0 rfl) ?_
                  refine lv_iadd hx hb dn_Machine_run_153 ?_
                  refine lv_istore (lv' := [(10, .int ((x4 + q_4.1))), (9, .int q_4.1), (8, .int q_1.1), (0, .ref ((a 107))), (1, .ref ((a 115))), (4, .int x4), (5, .int x5), (6, .int x6), (7, .int x7)]) hx hb dn_Machine_run_154 hl (by decide) rfl (fun ls hl => ?_)
                  refine lv_iinc (v := (x5 + 1)) (lv' := [(5, .int ((x5 + 1))), (10, .int ((x4 + q_4.1))), (9, .int q_4.1), (8, .int q_1.1), (0, .ref ((a 107))), (1, .ref ((a 115))), (4, .int x4), (6, .int x6), (7, .int x7)]) hx hb dn_Machine_run_156 hl (k := 6) rfl (dc_inc (by decide)) (by decide) rfl (fun ls hl => ?_)
                  refine lv_aload_n hx hb dn_Machine_run_159 rfl (lv_at hl 4 rfl) ?_
                  refine va_get (D := (dC, dI)) (ci := 8) (v := .ref ((a 288))) (C := rn_Machine) (T := fn_Machine) (N := 5) hx hb hg in_Machine hown hK hP 7 rfl rfl 2 (by decide) (hg _ wn_2_91) (fun _ h9 => h9) rfl dn_Machine_run_160 ?_
                  refine lv_iload hx hb dn_Machine_run_163 (lv_at hl 0 rfl) ?_
                  refine lv_iload hx hb dn_Machine_run_165 (lv_at hl 1 rfl) ?_
                  refine lv_if_lt (tgt := 190) hx hb dn_Machine_run_167 (by decide) (fun h => ?_) (fun h => ?_)
                  · have hf := (if_pos h).symm.trans hf
                    exact bl_190 k_20 hk_20 x4 ((x5 + 1)) x6 x7 ((x5 + 1)) q_4.2 hf H locs ls hP hD hS (lv_sub hl [4, 5, 6, 0, 7, 8] rfl)
                  · have hf := (if_neg h).symm.trans hf
                    refine lv_iload hx hb dn_Machine_run_170 (lv_at hl 1 rfl) ?_
                    refine lv_aload_n hx hb dn_Machine_run_172 rfl (lv_at hl 4 rfl) ?_
                    refine va_get (D := (dC, dI)) (ci := 8) (v := .ref ((a 286))) (C := rn_Machine) (T := fn_Machine) (N := 5) hx hb hg in_Machine hown hK hP 7 rfl rfl 0 (by decide) (hg _ wn_2_89) (fun _ h9 => h9) rfl dn_Machine_run_173 ?_
                    refine va_alen (v := 1024) hx hb hK hP 39 2 rfl rfl rfl dn_Machine_run_176 ?_
                    refine lv_icmp_ge (tgt := 190) hx hb dn_Machine_run_177 (by decide) (fun h => ?_) (fun h => ?_)
                    · have hf := (if_pos h).symm.trans hf
                      exact bl_190 k_20 hk_20 x4 ((x5 + 1)) x6 x7 ((x5 + 1)) q_4.2 hf H locs ls hP hD hS (lv_sub hl [4, 5, 6, 0, 7, 8] rfl)
                    · have hf := (if_neg h).symm.trans hf
                      refine lv_aload_n hx hb dn_Machine_run_180 rfl (lv_at hl 4 rfl) ?_
                      refine va_get (D := (dC, dI)) (ci := 8) (v := .ref ((a 286))) (C := rn_Machine) (T := fn_Machine) (N := 5) hx hb hg in_Machine hown hK hP 7 rfl rfl 0 (by decide) (hg _ wn_2_89) (fun _ h9 => h9) rfl dn_Machine_run_181 ?_
                      refine lv_iload hx hb dn_Machine_run_184 (lv_at hl 1 rfl) ?_
                      obtain ⟨hg_7, hf⟩ := dc_g hf
                      refine va_lald hx hb hK hP 39 2 rfl rfl hg_7 dn_Machine_run_186 ?_
                      refine xk_tl (y := ((q_4.2.2 286) (Int32.toNatClampNeg ((x4 + q_4.1))))) rfl ?_
                      refine lv_goto (tgt := 191) hx hb dn_Machine_run_187 (by decide) ?_
                      exact bl_191 k_20 hk_20 x4 ((x5 + 1)) x6 x7 (((q_4.2.2 286) (Int32.toNatClampNeg ((x4 + q_4.1))))) ((x5 + 1)) q_4.2 hf H locs ls hP hD hS (lv_sub hl [4, 5, 6, 0, 7, 8] rfl)
              · have hf := (if_neg h).symm.trans hf
                refine lv_aload_n hx hb dn_Machine_run_113 rfl (lv_at hl 2 rfl) ?_
                refine va_get (D := (dC, dI)) (ci := 8) (v := .ref ((a 288))) (C := rn_Machine) (T := fn_Machine) (N := 5) hx hb hg in_Machine hown hK hP 7 rfl rfl 2 (by decide) (hg _ wn_2_91) (fun _ h9 => h9) rfl dn_Machine_run_114 ?_
                refine lv_iload hx hb dn_Machine_run_117 (lv_at hl 5 rfl) ?_
                refine lv_iload hx hb dn_Machine_run_119 (lv_at hl 1 rfl) ?_
                refine lv_sipush (v := 256) hx hb dn_Machine_run_121 (by decide) ?_
                refine lv_isub hx hb dn_Machine_run_124 ?_
                refine lv_iload hx hb dn_Machine_run_125 (lv_at hl 0 rfl) ?_
                refine lv_aload_n hx hb dn_Machine_run_127 rfl (lv_at hl 2 rfl) ?_
                refine va_get (D := (dC, dI)) (ci := 8) (v := .ref ((a 288))) (C := rn_Machine) (T := fn_Machine) (N := 5) hx hb hg in_Machine hown hK hP 7 rfl rfl 2 (by decide) (hg _ wn_2_91) (fun _ h9 => h9) rfl dn_Machine_run_128 ?_
                refine lv_iload hx hb dn_Machine_run_131 (lv_at hl 5 rfl) ?_
                obtain ⟨hg_7, hf⟩ := dc_g hf
                refine va_lald hx hb hK hP 41 2 rfl rfl hg_7 dn_Machine_run_133 ?_
                refine xk_tl (y := ((q_4.2.2 288) (Int32.toNatClampNeg x5))) rfl ?_
                obtain ⟨q_8, hc_9, hf⟩ := dc_b hf
                refine dc_calll (dc_runS (ar := 3) (As := [.int ((q_1.1 - 256)), .int q_4.1, .long (((q_4.2.2 288) (Int32.toNatClampNeg x5)))]) (rest := [.int x5, .ref ((a 288))]) ⟨hx, hb, hml, hown, hg⟩ hK hN hT hS hA (ct_Machine_one l dC dI cI cB cJ cZ cQ N H.size a v ((q_1.1 - 256)) q_4.1 (((q_4.2.2 288) (Int32.toNatClampNeg x5))) q_4.2 q_8 hc_9) hP hD wn_8_14 wn_8_15 wn_1_8 wn_8_16 rfl rfl (by decide +kernel) ⟨Nat.le_of_ble_eq_true rfl, Nat.le_of_ble_eq_true rfl⟩ rfl hl.1 rfl (Nat.le_of_ble_eq_true rfl) dn_Machine_run_134 ⟨Nat.le_of_ble_eq_true rfl, Nat.le_of_ble_eq_true rfl⟩) hP hD hS hA (fun r_10 _ H locs hw hP hD hS => ?_)
                have hw : r_10 = q_8.1 := hw
                subst hw
                obtain ⟨hg_11, hf⟩ := dc_g hf
                refine va_last hx hb hK hP hD hS 41 2 rfl rfl hg_11 dn_Machine_run_137 (fun H locs hP hD hS => ?_)
                have hP : va_P (dC, dI) xcl ((wC a v cI cB cJ cZ cQ q_8.2).set 41 ((a 288), .inl (cJ, 1024, .inr (.inl (vp_updL (q_8.2.2 288) (Int32.toNatClampNeg x5) q_8.1))))) H := hP
                have hD : va_D A ((wC a v cI cB cJ cZ cQ q_8.2).set 41 ((a 288), .inl (cJ, 1024, .inr (.inl (vp_updL (q_8.2.2 288) (Int32.toNatClampNeg x5) q_8.1))))) := hD
                have hP := wC_P_288 hP
                have hD := wC_D_288 hD
                refine lv_goto (tgt := 402) hx hb dn_Machine_run_138 (by decide) ?_
                refine lv_iinc (v := (x7 + 1)) (lv' := [(7, .int ((x7 + 1))), (9, .int q_4.1), (8, .int q_1.1), (0, .ref ((a 107))), (1, .ref ((a 115))), (4, .int x4), (5, .int x5), (6, .int x6)]) hx hb dn_Machine_run_402 hl (k := 7) rfl (dc_inc (by decide)) (by decide) rfl (fun ls hl => ?_)
                refine lv_goto (tgt := 20) hx hb dn_Machine_run_405 (by decide) ?_
                exact hk_20 x4 x5 x6 ((x7 + 1)) (upJ q_8.2 288 (vp_updL (q_8.2.2 288) (Int32.toNatClampNeg x5) q_8.1)) hf H locs ls hP hD hS (lv_sub hl [3, 4, 5, 6, 7, 0] rfl)
            · have hf := (if_neg h).symm.trans hf
              refine lv_iinc (v := (x5 + (-1))) (lv' := [(5, .int ((x5 + (-1)))), (9, .int q_4.1), (8, .int q_1.1), (0, .ref ((a 107))), (1, .ref ((a 115))), (4, .int x4), (6, .int x6), (7, .int x7)]) hx hb dn_Machine_run_69 hl (k := 5) rfl (dc_inc (by decide)) (by decide) rfl (fun ls hl => ?_)
              refine lv_aload_n hx hb dn_Machine_run_72 rfl (lv_at hl 3 rfl) ?_
              refine va_get (D := (dC, dI)) (ci := 8) (v := .ref ((a 288))) (C := rn_Machine) (T := fn_Machine) (N := 5) hx hb hg in_Machine hown hK hP 7 rfl rfl 2 (by decide) (hg _ wn_2_91) (fun _ h9 => h9) rfl dn_Machine_run_73 ?_
              refine lv_iload hx hb dn_Machine_run_76 (lv_at hl 0 rfl) ?_
              refine lv_iload hx hb dn_Machine_run_78 (lv_at hl 2 rfl) ?_
              refine lv_iload hx hb dn_Machine_run_80 (lv_at hl 1 rfl) ?_
              refine lv_aload_n hx hb dn_Machine_run_82 rfl (lv_at hl 3 rfl) ?_
              refine va_get (D := (dC, dI)) (ci := 8) (v := .ref ((a 288))) (C := rn_Machine) (T := fn_Machine) (N := 5) hx hb hg in_Machine hown hK hP 7 rfl rfl 2 (by decide) (hg _ wn_2_91) (fun _ h9 => h9) rfl dn_Machine_run_83 ?_
              refine lv_iload hx hb dn_Machine_run_86 (lv_at hl 0 rfl) ?_
              obtain ⟨hg_7, hf⟩ := dc_g hf
              refine va_lald hx hb hK hP 41 2 rfl rfl hg_7 dn_Machine_run_88 ?_
              refine xk_tl (y := ((q_4.2.2 288) (Int32.toNatClampNeg ((x5 + (-1)))))) rfl ?_
              refine lv_aload_n hx hb dn_Machine_run_89 rfl (lv_at hl 3 rfl) ?_
              refine va_get (D := (dC, dI)) (ci := 8) (v := .ref ((a 288))) (C := rn_Machine) (T := fn_Machine) (N := 5) hx hb hg in_Machine hown hK hP 7 rfl rfl 2 (by decide) (hg _ wn_2_91) (fun _ h9 => h9) rfl dn_Machine_run_90 ?_
              refine lv_iload hx hb dn_Machine_run_93 (lv_at hl 0 rfl) ?_
              refine lv_iconst (v := 1) hx hb dn_Machine_run_95 (by decide) ?_
              refine lv_iadd hx hb dn_Machine_run_96 ?_
              obtain ⟨hg_8, hf⟩ := dc_g hf
              refine va_lald hx hb hK hP 41 2 rfl rfl hg_8 dn_Machine_run_97 ?_
              refine xk_tl (y := ((q_4.2.2 288) (Int32.toNatClampNeg (((x5 + (-1)) + 1))))) rfl ?_
              obtain ⟨q_9, hc_10, hf⟩ := dc_b hf
              refine dc_calll (dc_runS (ar := 4) (As := [.int q_1.1, .int q_4.1, .long (((q_4.2.2 288) (Int32.toNatClampNeg ((x5 + (-1)))))), .long (((q_4.2.2 288) (Int32.toNatClampNeg (((x5 + (-1)) + 1)))))]) (rest := [.int ((x5 + (-1))), .ref ((a 288))]) ⟨hx, hb, hml, hown, hg⟩ hK hN hT hS hA (ct_Machine_two l dC dI cI cB cJ cZ cQ N H.size a v q_1.1 q_4.1 (((q_4.2.2 288) (Int32.toNatClampNeg ((x5 + (-1)))))) (((q_4.2.2 288) (Int32.toNatClampNeg (((x5 + (-1)) + 1))))) q_4.2 q_9 hc_10) hP hD wn_8_2 wn_8_3 wn_1_8 wn_8_4 rfl rfl (by decide +kernel) ⟨Nat.le_of_ble_eq_true rfl, Nat.le_of_ble_eq_true rfl⟩ rfl hl.1 rfl (Nat.le_of_ble_eq_true rfl) dn_Machine_run_98 ⟨Nat.le_of_ble_eq_true rfl, Nat.le_of_ble_eq_true rfl⟩) hP hD hS hA (fun r_11 _ H locs hw hP hD hS => ?_)
              have hw : r_11 = q_9.1 := hw
              subst hw
              obtain ⟨hg_12, hf⟩ := dc_g hf
              refine va_last hx hb hK hP hD hS 41 2 rfl rfl hg_12 dn_Machine_run_101 (fun H locs hP hD hS => ?_)
              have hP : va_P (dC, dI) xcl ((wC a v cI cB cJ cZ cQ q_9.2).set 41 ((a 288), .inl (cJ, 1024, .inr (.inl (vp_updL (q_9.2.2 288) (Int32.toNatClampNeg ((x5 + (-1)))) q_9.1))))) H := hP
              have hD : va_D A ((wC a v cI cB cJ cZ cQ q_9.2).set 41 ((a 288), .inl (cJ, 1024, .inr (.inl (vp_updL (q_9.2.2 288) (Int32.toNatClampNeg ((x5 + (-1)))) q_9.1))))) := hD
              have hP := wC_P_288 hP
              have hD := wC_D_288 hD
              refine lv_goto (tgt := 402) hx hb dn_Machine_run_102 (by decide) ?_
              refine lv_iinc (v := (x7 + 1)) (lv' := [(7, .int ((x7 + 1))), (5, .int ((x5 + (-1)))), (9, .int q_4.1), (8, .int q_1.1), (0, .ref ((a 107))), (1, .ref ((a 115))), (4, .int x4), (6, .int x6)]) hx hb dn_Machine_run_402 hl (k := 7) rfl (dc_inc (by decide)) (by decide) rfl (fun ls hl => ?_)
              refine lv_goto (tgt := 20) hx hb dn_Machine_run_405 (by decide) ?_
              exact hk_20 x4 ((x5 + (-1))) x6 ((x7 + 1)) (upJ q_9.2 288 (vp_updL (q_9.2.2 288) (Int32.toNatClampNeg ((x5 + (-1)))) q_9.1)) hf H locs ls hP hD hS (lv_sub hl [4, 5, 6, 1, 7, 0] rfl)
  intro H locs ls hP hD hS hl
  unfold fn_Machine_run_Ma_Kc at hf
  refine lv_iconst (v := 3) hx hb dn_Machine_run_0 (by decide) ?_
  refine lv_istore (lv' := [(5, .int 3), (0, .ref ((a 107))), (1, .ref ((a 115))), (2, .int v2), (3, .int v3), (4, .int v4)]) hx hb dn_Machine_run_1 hl (by decide) rfl (fun ls hl => ?_)
  refine lv_iload_n hx hb dn_Machine_run_3 rfl (lv_at hl 4 rfl) ?_
  refine lv_aload_n hx hb dn_Machine_run_4 rfl (lv_at hl 2 rfl) ?_
  refine va_get (D := (dC, dI)) (ci := 12) (v := .int ((s.1 387 0))) (C := rn_Code) (T := fn_Code) (N := 5) hx hb hg in_Code hown hK hP 15 rfl rfl 1 (by decide) (hg _ wn_2_215) (fun _ h9 => h9) rfl dn_Machine_run_5 ?_
  refine va_mmin (x := v3) (y := (s.1 387 0)) (rest := []) hx hb (by rw [hml]; exact hl.1.symm) hown (hg _ wn_7_238) (hg _ wn_3_168) (hg _ wn_1_19) (hg _ wn_3_169) (Nat.le_of_ble_eq_true rfl) (Nat.le_of_ble_eq_true rfl) (Nat.zero_le _) (Nat.zero_le _) dn_Machine_run_8 ?_
  refine lv_istore (lv' := [(6, .int ((if (s.1 387 0) < v3 then (s.1 387 0) else v3))), (5, .int 3), (0, .ref ((a 107))), (1, .ref ((a 115))), (2, .int v2), (3, .int v3), (4, .int v4)]) hx hb dn_Machine_run_11 hl (by decide) rfl (fun ls hl => ?_)
  refine lv_iload_n hx hb dn_Machine_run_13 rfl (lv_at hl 4 rfl) ?_
  refine lv_iconst (v := 0) hx hb dn_Machine_run_14 (by decide) ?_
  refine va_mmax (x := v2) (y := 0) (rest := []) hx hb (by rw [hml]; exact hl.1.symm) hown (hg _ wn_7_239) (hg _ wn_4_99) (hg _ wn_1_19) (hg _ wn_4_100) (Nat.le_of_ble_eq_true rfl) (Nat.le_of_ble_eq_true rfl) (Nat.zero_le _) (Nat.zero_le _) dn_Machine_run_15 ?_
  refine lv_istore (lv' := [(7, .int ((if v2 < 0 then 0 else v2))), (6, .int ((if (s.1 387 0) < v3 then (s.1 387 0) else v3))), (5, .int 3), (0, .ref ((a 107))), (1, .ref ((a 115))), (2, .int v2), (3, .int v3), (4, .int v4)]) hx hb dn_Machine_run_18 hl (by decide) rfl (fun ls hl => ?_)
  exact hd_20 N v4 3 ((if (s.1 387 0) < v3 then (s.1 387 0) else v3)) ((if v2 < 0 then 0 else v2)) s hf H locs ls hP hD hS (lv_sub hl [3, 4, 7, 2, 1, 0] rfl)
