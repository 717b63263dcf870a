set_option maxHeartbeats 8000000 in
set_option maxRecDepth 100000 in
theorem ct_Design_sumOf_Dc (l : Launch) (dC : Nat → ClassId) (dI : Nat → Nat → Nat) (cI cB cJ cZ cQ : ClassId) (N sz : Nat) (a : Nat → Nat) (v : Nat → Value) (v1 : Int32) (v2 : Int32) (s : ms) (y : (Int32 × ms)) (hf : fn_Design_sumOf_Dc N v1 v2 s = some y) : Met l yn_Design_sumOf (xw yn_Design_sumOf bn_Design_sumOf 3 (some .int)) ({ frames := 1, cells := 0, slots := 0, locals := 21 }) (dc_P (dC, dI) xcl (xt cI cB cJ cZ cQ) [.ref ((a 113)), .int v1, .int v2] sz (wC a v cI cB cJ cZ cQ s)) (xk_Qi (dC, dI) xcl (xt cI cB cJ cZ cQ) (fun (r : Int32) (_ : Unit) => r = y.1) (fun u : Unit => (wC a v cI cB cJ cZ cQ y.2)) (va_A (wC a v cI cB cJ cZ cQ s) sz)) 0 0 (va_A (wC a v cI cB cJ cZ cQ s) sz) := by
  refine dc_of (QA := xk_Qi (dC, dI) xcl (xt cI cB cJ cZ cQ) (fun (r : Int32) (_ : Unit) => r = y.1) (fun u : Unit => (wC a v cI cB cJ cZ cQ y.2))) (by decide) (Nat.le_of_ble_eq_true rfl) ?_
  intro p e s0 m below meth c hx hb hml hown hg hr hlocks hin hP hK hN A hA hD hT ls hl
  have hown : s0.vm.findClass rn_Design = some m.cls := hown
  obtain ⟨H, hH⟩ : ∃ z, z = s0.heap := ⟨_, rfl⟩
  rw [← hH] at hP
  have hS : va_S A s0.heap H [] := by rw [hH]; exact va_S.rf
  suffices kk : ∀ QQ : State → Prop, QQ = MQ below (xk_Qi (dC, dI) xcl (xt cI cB cJ cZ cQ) (fun (r : Int32) (_ : Unit) => r = y.1) (fun u : Unit => (wC a v cI cB cJ cZ cQ y.2)) A) [.ref ((a 113)), .int v1, .int v2].toArray s0 0 0 A → dcC p l e ({ frames := 1, cells := 0, slots := 0, locals := 21 }) s0 m [.ref ((a 113)), .int v1, .int v2].toArray below meth c QQ (dC, dI) A (wC a v cI cB cJ cZ cQ s) 0 3 [(0, .ref ((a 113))), (1, .int v1), (2, .int v2)] [] by
    have k9 := kk _ rfl H [] ls hP hD hS hl
    rw [hH] at k9; exact k9
  clear hP hD hS hl hH H ls
  intro QQ hQQ
  intro H locs ls hP hD hS hl
  unfold fn_Design_sumOf_Dc at hf
  refine lv_aload_n hx hb dn_Design_sumOf_0 rfl (lv_at hl 0 rfl) ?_
  refine lv_iload_n hx hb dn_Design_sumOf_1 rfl (lv_at hl 2 rfl) ?_
  obtain ⟨q_1, hc_2, hf⟩ := dc_b hf
  refine dc_calli (dc_runV (ar := 1) (As := [.int v2]) (rest := []) (ci := 10) (q0 := 13) ⟨hx, hb, hml, hown, hg⟩ hK hN hT hS hA (ct_Design_isModule_Dc l dC dI cI cB cJ cZ cQ N H.size a v v2 s q_1 hc_2) hP hD rfl rfl wn_5_91 wn_5_93 sn_Design_isModule wn_1_10 wn_5_94 rfl rfl (by decide +kernel) ⟨Nat.le_of_ble_eq_true rfl, Nat.le_of_ble_eq_true rfl⟩ rfl hl.1 rfl (Nat.le_of_ble_eq_true rfl) dn_Design_sumOf_2 ⟨Nat.le_of_ble_eq_true rfl, Nat.le_of_ble_eq_true rfl⟩) hP hD hS hA (fun r_3 _ H locs hw hP hD hS => ?_)
  have hw : r_3 = q_1.1 := hw
  subst hw
  refine lv_if_eq (tgt := 19) hx hb dn_Design_sumOf_5 (by decide) (fun h => ?_) (fun h => ?_)
  · have hf := (if_pos h).symm.trans hf
    refine lv_iconst (v := 0) hx hb dn_Design_sumOf_19 (by decide) ?_
    rw [hQQ, ← Option.some.inj hf]
    exact xk_iret (w1 := fun u : Unit => (wC a v cI cB cJ cZ cQ q_1.2)) () hx hb hr hlocks hK hS dn_Design_sumOf_20 hP hD rfl (Nat.le_refl _) (Nat.le_refl _)
  · have hf := (if_neg h).symm.trans hf
    refine lv_aload_n hx hb dn_Design_sumOf_8 rfl (lv_at hl 0 rfl) ?_
    refine va_get (D := (dC, dI)) (ci := 10) (v := .ref ((a 366))) (C := rn_Design) (T := fn_Design) (N := 16) hx hb hg in_Design hown hK hP 13 rfl rfl 11 (by decide) (hg _ wn_3_20) (fun _ h9 => h9) rfl dn_Design_sumOf_9 ?_
    refine lv_iload_n hx hb dn_Design_sumOf_12 rfl (lv_at hl 1 rfl) ?_
    by_cases hs13_0 : v1 = 0
    · have hf := (if_pos hs13_0).symm.trans hf
      refine xk_ti (y := 0) hs13_0 ?_
      refine dc_aald hx hb hK hP 121 4 rfl rfl (show ¬ (_ ∨ _) by decide) dn_Design_sumOf_13 ?_
      refine W.eq (g2 := F0 m 14 _ (.ref ((a 610)) :: [])) rfl ?_
      refine lv_iload_n hx hb dn_Design_sumOf_14 rfl (lv_at hl 2 rfl) ?_
      obtain ⟨hg_4, hf⟩ := dc_g hf
      refine va_iald hx hb hK hP 116 0 rfl rfl hg_4 dn_Design_sumOf_15 ?_
      refine xk_ti (y := ((q_1.2.1 610) (Int32.toNatClampNeg v2))) rfl ?_
      refine lv_goto (tgt := 20) hx hb dn_Design_sumOf_16 (by decide) ?_
      rw [hQQ, ← Option.some.inj hf]
      exact xk_iret (w1 := fun u : Unit => (wC a v cI cB cJ cZ cQ q_1.2)) () hx hb hr hlocks hK hS dn_Design_sumOf_20 hP hD rfl (Nat.le_refl _) (Nat.le_refl _)
    have hf := (if_neg hs13_0).symm.trans hf
    by_cases hs13_1 : v1 = 1
    · have hf := (if_pos hs13_1).symm.trans hf
      refine xk_ti (y := 1) hs13_1 ?_
      refine dc_aald hx hb hK hP 121 4 rfl rfl (show ¬ (_ ∨ _) by decide) dn_Design_sumOf_13 ?_
      refine W.eq (g2 := F0 m 14 _ (.ref ((a 611)) :: [])) rfl ?_
      refine lv_iload_n hx hb dn_Design_sumOf_14 rfl (lv_at hl 2 rfl) ?_
      obtain ⟨hg_4, hf⟩ := dc_g hf
      refine va_iald hx hb hK hP 117 0 rfl rfl hg_4 dn_Design_sumOf_15 ?_
      refine xk_ti (y := ((q_1.2.1 611) (Int32.toNatClampNeg v2))) rfl ?_
      refine lv_goto (tgt := 20) hx hb dn_Design_sumOf_16 (by decide) ?_
      rw [hQQ, ← Option.some.inj hf]
      exact xk_iret (w1 := fun u : Unit => (wC a v cI cB cJ cZ cQ q_1.2)) () hx hb hr hlocks hK hS dn_Design_sumOf_20 hP hD rfl (Nat.le_refl _) (Nat.le_refl _)
    have hf := (if_neg hs13_1).symm.trans hf
    by_cases hs13_2 : v1 = 2
    · have hf := (if_pos hs13_2).symm.trans hf
      refine xk_ti (y := 2) hs13_2 ?_
      refine dc_aald hx hb hK hP 121 4 rfl rfl (show ¬ (_ ∨ _) by decide) dn_Design_sumOf_13 ?_
      refine W.eq (g2 := F0 m 14 _ (.ref ((a 612)) :: [])) rfl ?_
      refine lv_iload_n hx hb dn_Design_sumOf_14 rfl (lv_at hl 2 rfl) ?_
      obtain ⟨hg_4, hf⟩ := dc_g hf
      refine va_iald hx hb hK hP 118 0 rfl rfl hg_4 dn_Design_sumOf_15 ?_
      refine xk_ti (y := ((q_1.2.1 612) (Int32.toNatClampNeg v2))) rfl ?_
      refine lv_goto (tgt := 20) hx hb dn_Design_sumOf_16 (by decide) ?_
      rw [hQQ, ← Option.some.inj hf]
      exact xk_iret (w1 := fun u : Unit => (wC a v cI cB cJ cZ cQ q_1.2)) () hx hb hr hlocks hK hS dn_Design_sumOf_20 hP hD rfl (Nat.le_refl _) (Nat.le_refl _)
    have hf := (if_neg hs13_2).symm.trans hf
    by_cases hs13_3 : v1 = 3
    · have hf := (if_pos hs13_3).symm.trans hf
      refine xk_ti (y := 3) hs13_3 ?_
      refine dc_aald hx hb hK hP 121 4 rfl rfl (show ¬ (_ ∨ _) by decide) dn_Design_sumOf_13 ?_
      refine W.eq (g2 := F0 m 14 _ (.ref ((a 613)) :: [])) rfl ?_
      refine lv_iload_n hx hb dn_Design_sumOf_14 rfl (lv_at hl 2 rfl) ?_
      obtain ⟨hg_4, hf⟩ := dc_g hf
      refine va_iald hx hb hK hP 119 0 rfl rfl hg_4 dn_Design_sumOf_15 ?_
      refine xk_ti (y := ((q_1.2.1 613) (Int32.toNatClampNeg v2))) rfl ?_
      refine lv_goto (tgt := 20) hx hb dn_Design_sumOf_16 (by decide) ?_
      rw [hQQ, ← Option.some.inj hf]
      exact xk_iret (w1 := fun u : Unit => (wC a v cI cB cJ cZ cQ q_1.2)) () hx hb hr hlocks hK hS dn_Design_sumOf_20 hP hD rfl (Nat.le_refl _) (Nat.le_refl _)
    have hf := (if_neg hs13_3).symm.trans hf
    by_cases hs13_4 : v1 = 4
    · have hf := (if_pos hs13_4).symm.trans hf
      refine xk_ti (y := 4) hs13_4 ?_
      refine dc_aald hx hb hK hP 121 4 rfl rfl (show ¬ (_ ∨ _) by decide) dn_Design_sumOf_13 ?_
      refine W.eq (g2 := F0 m 14 _ (.ref ((a 614)) :: [])) rfl ?_
      refine lv_iload_n hx hb dn_Design_sumOf_14 rfl (lv_at hl 2 rfl) ?_
      obtain ⟨hg_4, hf⟩ := dc_g hf
      refine va_iald hx hb hK hP 120 0 rfl rfl hg_4 dn_Design_sumOf_15 ?_
      refine xk_ti (y := ((q_1.2.1 614) (Int32.toNatClampNeg v2))) rfl ?_
      refine lv_goto (tgt := 20) hx hb dn_Design_sumOf_16 (by decide) ?_
      rw [hQQ, ← Option.some.inj hf]
      exact xk_iret (w1 := fun u : Unit => (wC a v cI cB cJ cZ cQ q_1.2)) () hx hb hr hlocks hK hS dn_Design_sumOf_20 hP hD rfl (Nat.le_refl _) (Nat.le_refl _)
    have hf := (if_neg hs13_4).symm.trans hf
    cases hf
set_option maxHeartbeats 8000000 in
set_option maxRecDepth 100000 in
theorem ct_Design_sumUp_Dc (l : Launch) (dC : Nat → ClassId) (dI : Nat → Nat → Nat) (cI cB cJ cZ cQ : ClassId) (N sz : Nat) (a : Nat → Nat) (v : Nat → Value) (v1 : Int32) (s : ms) (y : (Unit × ms)) (hf : fn_Design_sumUp_Dc N v1 s = some y) : Met l yn_Design_sumUp (xw yn_Design_sumUp bn_Design_sumUp 8 none) ({ frames := 2, cells := 0, slots := 0, locals := 61 }) (dc_P (dC, dI) xcl (xt cI cB cJ cZ cQ) [.ref ((a 113)), .int v1] sz (wC a v cI cB cJ cZ cQ s)) (xk_Qv (dC, dI) xcl (xt cI cB cJ cZ cQ) (fun _ : Unit => True) (fun u : Unit => (wC a v cI cB cJ cZ cQ y.2)) (va_A (wC a v cI cB cJ cZ cQ s) sz)) 0 0 (va_A (wC a v cI cB cJ cZ cQ s) sz) := by
  refine dc_of (QA := xk_Qv (dC, dI) xcl (xt cI cB cJ cZ cQ) (fun _ : Unit => True) (fun u : Unit => (wC a v cI cB cJ cZ cQ y.2))) (by decide) (Nat.le_of_ble_eq_true rfl) ?_
  intro p e s0 m below meth c hx hb hml hown hg hr hlocks hin hP hK hN A hA hD hT ls hl
  have hown : s0.vm.findClass rn_Design = some m.cls := hown
  obtain ⟨H, hH⟩ : ∃ z, z = s0.heap := ⟨_, rfl⟩
  rw [← hH] at hP
  have hS : va_S A s0.heap H [] := by rw [hH]; exact va_S.rf
  suffices kk : ∀ QQ : State → Prop, QQ = MQ below (xk_Qv (dC, dI) xcl (xt cI cB cJ cZ cQ) (fun _ : Unit => True) (fun u : Unit => (wC a v cI cB cJ cZ cQ y.2)) A) [.ref ((a 113)), .int v1].toArray s0 0 0 A → dcC p l e ({ frames := 2, cells := 0, slots := 0, locals := 61 }) s0 m [.ref ((a 113)), .int v1].toArray below meth c QQ (dC, dI) A (wC a v cI cB cJ cZ cQ s) 0 8 [(0, .ref ((a 113))), (1, .int v1)] [] by
    have k9 := kk _ rfl H [] ls hP hD hS hl
    rw [hH] at k9; exact k9
  clear hP hD hS hl hH H ls
  intro QQ hQQ
  have hd_201 : ∀ (k_174 : Int32 → Int32 → ms → Option (Unit × ms)) (hk_174 : ∀ (x2 : Int32) (x5 : Int32) (s : ms), k_174 x2 x5 s = some y → dcC p l e ({ frames := 2, cells := 0, slots := 0, locals := 61 }) s0 m [.ref ((a 113)), .int v1].toArray below meth c QQ (dC, dI) A (wC a v cI cB cJ cZ cQ s) 174 8 [(0, .ref ((a 113))), (2, .int x2), (5, .int x5)] []) (n : Nat) (x2 : Int32) (x5 : Int32) (x6 : Int32) (x7 : Int32) (s : ms), hd_Design_sumUp_Dc_201 N k_174 n x2 x5 x6 x7 s = some y → dcC p l e ({ frames := 2, cells := 0, slots := 0, locals := 61 }) s0 m [.ref ((a 113)), .int v1].toArray below meth c QQ (dC, dI) A (wC a v cI cB cJ cZ cQ s) 201 8 [(0, .ref ((a 113))), (2, .int x2), (5, .int x5), (6, .int x6), (7, .int x7)] [] := by
    intro k_174 hk_174 n
    induction n with
    | zero => intro x2 x5 x6 x7 s hf; cases hf
    | succ n ih =>
      intro x2 x5 x6 x7 s hf H locs ls hP hD hS hl
      have hf : bd_Design_sumUp_Dc_201 N k_174 (hd_Design_sumUp_Dc_201 N k_174 n) x2 x5 x6 x7 s = some y := hf
      have hk_201 := ih
      generalize hd_Design_sumUp_Dc_201 N k_174 n = k_201 at hf hk_201
      unfold bd_Design_sumUp_Dc_201 at hf
      refine lv_iload hx hb dn_Design_sumUp_201 (lv_at hl 4 rfl) ?_
      refine lv_iconst (v := 5) hx hb dn_Design_sumUp_203 (by decide) ?_
      refine lv_icmp_ge (tgt := 242) hx hb dn_Design_sumUp_204 (by decide) (fun h => ?_) (fun h => ?_)
      · have hf := (if_pos h).symm.trans hf
        refine lv_iinc (v := (x5 + 1)) (lv' := [(5, .int ((x5 + 1))), (0, .ref ((a 113))), (2, .int x2), (6, .int x6), (7, .int x7)]) hx hb dn_Design_sumUp_242 hl (k := 2) rfl (dc_inc (by decide)) (by decide) rfl (fun ls hl => ?_)
        refine lv_goto (tgt := 174) hx hb dn_Design_sumUp_245 (by decide) ?_
        exact hk_174 x2 ((x5 + 1)) s hf H locs ls hP hD hS (lv_sub hl [1, 2, 0] rfl)
      · have hf := (if_neg h).symm.trans hf
        refine lv_aload_n hx hb dn_Design_sumUp_207 rfl (lv_at hl 0 rfl) ?_
        refine va_get (D := (dC, dI)) (ci := 10) (v := .ref ((a 366))) (C := rn_Design) (T := fn_Design) (N := 16) hx hb hg in_Design hown hK hP 13 rfl rfl 11 (by decide) (hg _ wn_3_20) (fun _ h9 => h9) rfl dn_Design_sumUp_208 ?_
        refine lv_iload hx hb dn_Design_sumUp_211 (lv_at hl 4 rfl) ?_
        by_cases hs213_0 : x7 = 0
        · have hf := (if_pos hs213_0).symm.trans hf
          refine xk_ti (y := 0) hs213_0 ?_
          refine dc_aald hx hb hK hP 121 4 rfl rfl (show ¬ (_ ∨ _) by decide) dn_Design_sumUp_213 ?_
          refine W.eq (g2 := F0 m 214 _ (.ref ((a 610)) :: [])) rfl ?_
          refine lv_iload_n hx hb dn_Design_sumUp_214 rfl (lv_at hl 1 rfl) ?_
          refine lv_aload_n hx hb dn_Design_sumUp_215 rfl (lv_at hl 0 rfl) ?_
          refine va_get (D := (dC, dI)) (ci := 10) (v := .ref ((a 366))) (C := rn_Design) (T := fn_Design) (N := 16) hx hb hg in_Design hown hK hP 13 rfl rfl 11 (by decide) (hg _ wn_3_20) (fun _ h9 => h9) rfl dn_Design_sumUp_216 ?_
          refine lv_iload hx hb dn_Design_sumUp_219 (lv_at hl 4 rfl) ?_
          refine xk_ti (y := 0) hs213_0 ?_
          refine dc_aald hx hb hK hP 121 4 rfl rfl (show ¬ (_ ∨ _) by decide) dn_Design_sumUp_221 ?_
          refine W.eq (g2 := F0 m 222 _ (.ref ((a 610)) :: [.int x2, .ref ((a 610))])) rfl ?_
          refine lv_iload_n hx hb dn_Design_sumUp_222 rfl (lv_at hl 1 rfl) ?_
          obtain ⟨hg_1, hf⟩ := dc_g hf
          refine va_iald hx hb hK hP 116 0 rfl rfl hg_1 dn_Design_sumUp_223 ?_
          refine xk_ti (y := ((s.1 610) (Int32.toNatClampNeg x2))) rfl ?_
          refine lv_aload_n hx hb dn_Design_sumUp_224 rfl (lv_at hl 0 rfl) ?_
          refine lv_iload hx hb dn_Design_sumUp_225 (lv_at hl 4 rfl) ?_
          refine lv_iload hx hb dn_Design_sumUp_227 (lv_at hl 3 rfl) ?_
          obtain ⟨q_2, hc_3, hf⟩ := dc_b hf
          refine dc_calli (dc_runV (ar := 2) (As := [.int x7, .int x6]) (rest := [.int (((s.1 610) (Int32.toNatClampNeg x2))), .int x2, .ref ((a 610))]) (ci := 10) (q0 := 13) ⟨hx, hb, hml, hown, hg⟩ hK hN hT hS hA (ct_Design_sumOf_Dc l dC dI cI cB cJ cZ cQ N H.size a v x7 x6 s q_2 hc_3) hP hD rfl rfl wn_5_112 wn_5_113 wn_5_114 wn_1_10 wn_5_115 rfl rfl (by decide +kernel) ⟨Nat.le_of_ble_eq_true rfl, Nat.le_of_ble_eq_true rfl⟩ rfl hl.1 rfl (Nat.le_of_ble_eq_true rfl) dn_Design_sumUp_229 ⟨Nat.le_of_ble_eq_true rfl, Nat.le_of_ble_eq_true rfl⟩) hP hD hS hA (fun r_4 _ H locs hw hP hD hS => ?_)
          have hw : r_4 = q_2.1 := hw
          subst hw
          obtain ⟨q_5, hc_6, hf⟩ := dc_b hf
          refine dc_calli (dc_runSN (ar := 2) (As := [.int (((s.1 610) (Int32.toNatClampNeg x2))), .int q_2.1]) (rest := [.int x2, .ref ((a 610))]) (host := "CircuitCycles") ⟨hx, hb, hml, hown, hg⟩ hK hN hT hS hA (ct_C_capped l dC dI cI cB cJ cZ cQ N H.size a v (((s.1 610) (Int32.toNatClampNeg x2))) q_2.1 q_2.2 q_5 hc_6) hP hD nl_Design_105 wn_5_108 wn_1_1 wn_5_109 rfl rfl (by decide +kernel) ⟨Nat.le_of_ble_eq_true rfl, Nat.le_of_ble_eq_true rfl⟩ rfl hl.1 rfl (Nat.le_of_ble_eq_true rfl) dn_Design_sumUp_232 ⟨Nat.le_of_ble_eq_true rfl, Nat.le_of_ble_eq_true rfl⟩) hP hD hS hA (fun r_7 _ H locs hw hP hD hS => ?_)
          have hw : r_7 = q_5.1 := hw
          subst hw
          obtain ⟨hg_8, hf⟩ := dc_g hf
          refine va_iast hx hb hK hP hD hS 116 0 rfl rfl hg_8 dn_Design_sumUp_235 (fun H locs hP hD hS => ?_)
          have hP : va_P (dC, dI) xcl ((wC a v cI cB cJ cZ cQ q_5.2).set 116 ((a 610), .inl (cI, 3277, .inl (upd (q_5.2.1 610) (Int32.toNatClampNeg x2) q_5.1)))) H := hP
          have hD : va_D A ((wC a v cI cB cJ cZ cQ q_5.2).set 116 ((a 610), .inl (cI, 3277, .inl (upd (q_5.2.1 610) (Int32.toNatClampNeg x2) q_5.1)))) := hD
          have hP := wC_P_610 hP
          have hD := wC_D_610 hD
          refine lv_iinc (v := (x7 + 1)) (lv' := [(7, .int ((x7 + 1))), (0, .ref ((a 113))), (2, .int x2), (5, .int x5), (6, .int x6)]) hx hb dn_Design_sumUp_236 hl (k := 4) rfl (dc_inc (by decide)) (by decide) rfl (fun ls hl => ?_)
          refine lv_goto (tgt := 201) hx hb dn_Design_sumUp_239 (by decide) ?_
          exact hk_201 x2 x5 x6 ((x7 + 1)) (upI q_5.2 610 (upd (q_5.2.1 610) (Int32.toNatClampNeg x2) q_5.1)) hf H locs ls hP hD hS (lv_sub hl [1, 2, 3, 4, 0] rfl)
        have hf := (if_neg hs213_0).symm.trans hf
        by_cases hs213_1 : x7 = 1
        · have hf := (if_pos hs213_1).symm.trans hf
          refine xk_ti (y := 1) hs213_1 ?_
          refine dc_aald hx hb hK hP 121 4 rfl rfl (show ¬ (_ ∨ _) by decide) dn_Design_sumUp_213 ?_
          refine W.eq (g2 := F0 m 214 _ (.ref ((a 611)) :: [])) rfl ?_
          refine lv_iload_n hx hb dn_Design_sumUp_214 rfl (lv_at hl 1 rfl) ?_
          refine lv_aload_n hx hb dn_Design_sumUp_215 rfl (lv_at hl 0 rfl) ?_
          refine va_get (D := (dC, dI)) (ci := 10) (v := .ref ((a 366))) (C := rn_Design) (T := fn_Design) (N := 16) hx hb hg in_Design hown hK hP 13 rfl rfl 11 (by decide) (hg _ wn_3_20) (fun _ h9 => h9) rfl dn_Design_sumUp_216 ?_
          refine lv_iload hx hb dn_Design_sumUp_219 (lv_at hl 4 rfl) ?_
          refine xk_ti (y := 1) hs213_1 ?_
          refine dc_aald hx hb hK hP 121 4 rfl rfl (show ¬ (_ ∨ _) by decide) dn_Design_sumUp_221 ?_
          refine W.eq (g2 := F0 m 222 _ (.ref ((a 611)) :: [.int x2, .ref ((a 611))])) rfl ?_
          refine lv_iload_n hx hb dn_Design_sumUp_222 rfl (lv_at hl 1 rfl) ?_
          obtain ⟨hg_1, hf⟩ := dc_g hf
          refine va_iald hx hb hK hP 117 0 rfl rfl hg_1 dn_Design_sumUp_223 ?_
          refine xk_ti (y := ((s.1 611) (Int32.toNatClampNeg x2))) rfl ?_
          refine lv_aload_n hx hb dn_Design_sumUp_224 rfl (lv_at hl 0 rfl) ?_
          refine lv_iload hx hb dn_Design_sumUp_225 (lv_at hl 4 rfl) ?_
          refine lv_iload hx hb dn_Design_sumUp_227 (lv_at hl 3 rfl) ?_
          obtain ⟨q_2, hc_3, hf⟩ := dc_b hf
          refine dc_calli (dc_runV (ar := 2) (As := [.int x7, .int x6]) (rest := [.int (((s.1 611) (Int32.toNatClampNeg x2))), .int x2, .ref ((a 611))]) (ci := 10) (q0 := 13) ⟨hx, hb, hml, hown, hg⟩ hK hN hT hS hA (ct_Design_sumOf_Dc l dC dI cI cB cJ cZ cQ N H.size a v x7 x6 s q_2 hc_3) hP hD rfl rfl wn_5_112 wn_5_113 wn_5_114 wn_1_10 wn_5_115 rfl rfl (by decide +kernel) ⟨Nat.le_of_ble_eq_true rfl, Nat.le_of_ble_eq_true rfl⟩ rfl hl.1 rfl (Nat.le_of_ble_eq_true rfl) dn_Design_sumUp_229 ⟨Nat.le_of_ble_eq_true rfl, Nat.le_of_ble_eq_true rfl⟩) hP hD hS hA (fun r_4 _ H locs hw hP hD hS => ?_)
          have hw : r_4 = q_2.1 := hw
          subst hw
          obtain ⟨q_5, hc_6, hf⟩ := dc_b hf
          refine dc_calli (dc_runSN (ar := 2) (As := [.int (((s.1 611) (Int32.toNatClampNeg x2))), .int q_2.1]) (rest := [.int x2, .ref ((a 611))]) (host := "CircuitCycles") ⟨hx, hb, hml, hown, hg⟩ hK hN hT hS hA (ct_C_capped l dC dI cI cB cJ cZ cQ N H.size a v (((s.1 611) (Int32.toNatClampNeg x2))) q_2.1 q_2.2 q_5 hc_6) hP hD nl_Design_105 wn_5_108 wn_1_1 wn_5_109 rfl rfl (by decide +kernel) ⟨Nat.le_of_ble_eq_true rfl, Nat.le_of_ble_eq_true rfl⟩ rfl hl.1 rfl (Nat.le_of_ble_eq_true rfl) dn_Design_sumUp_232 ⟨Nat.le_of_ble_eq_true rfl, Nat.le_of_ble_eq_true rfl⟩) hP hD hS hA (fun r_7 _ H locs hw hP hD hS => ?_)
          have hw : r_7 = q_5.1 := hw
          subst hw
          obtain ⟨hg_8, hf⟩ := dc_g hf
          refine va_iast hx hb hK hP hD hS 117 0 rfl rfl hg_8 dn_Design_sumUp_235 (fun H locs hP hD hS => ?_)
          have hP : va_P (dC, dI) xcl ((wC a v cI cB cJ cZ cQ q_5.2).set 117 ((a 611), .inl (cI, 3277, .inl (upd (q_5.2.1 611) (Int32.toNatClampNeg x2) q_5.1)))) H := hP
          have hD : va_D A ((wC a v cI cB cJ cZ cQ q_5.2).set 117 ((a 611), .inl (cI, 3277, .inl (upd (q_5.2.1 611) (Int32.toNatClampNeg x2) q_5.1)))) := hD
          have hP := wC_P_611 hP
          have hD := wC_D_611 hD
          refine lv_iinc (v := (x7 + 1)) (lv' := [(7, .int ((x7 + 1))), (0, .ref ((a 113))), (2, .int x2), (5, .int x5), (6, .int x6)]) hx hb dn_Design_sumUp_236 hl (k := 4) rfl (dc_inc (by decide)) (by decide) rfl (fun ls hl => ?_)
          refine lv_goto (tgt := 201) hx hb dn_Design_sumUp_239 (by decide) ?_
          exact hk_201 x2 x5 x6 ((x7 + 1)) (upI q_5.2 611 (upd (q_5.2.1 611) (Int32.toNatClampNeg x2) q_5.1)) hf H locs ls hP hD hS (lv_sub hl [1, 2, 3, 4, 0] rfl)
        have hf := (if_neg hs213_1).symm.trans hf
        by_cases hs213_2 : x7 = 2
        · have hf := (if_pos hs213_2).symm.trans hf
          refine xk_ti (y := 2) hs213_2 ?_
          refine dc_aald hx hb hK hP 121 4 rfl rfl (show ¬ (_ ∨ _) by decide) dn_Design_sumUp_213 ?_
          refine W.eq (g2 := F0 m 214 _ (.ref ((a 612)) :: [])) rfl ?_
          refine lv_iload_n hx hb dn_Design_sumUp_214 rfl (lv_at hl 1 rfl) ?_
          refine lv_aload_n hx hb dn_Design_sumUp_215 rfl (lv_at hl 0 rfl) ?_
          refine va_get (D := (dC, dI)) (ci := 10) (v := .ref ((a 366))) (C := rn_Design) (T := fn_Design) (N := 16) hx hb hg in_Design hown hK hP 13 rfl rfl 11 (by decide) (hg _ wn_3_20) (fun _ h9 => h9) rfl dn_Design_sumUp_216 ?_
          refine lv_iload hx hb dn_Design_sumUp_219 (lv_at hl 4 rfl) ?_
          refine xk_ti (y := 2) hs213_2 ?_
          refine dc_aald hx hb hK hP 121 4 rfl rfl (show ¬ (_ ∨ _) by decide) dn_Design_sumUp_221 ?_
          refine W.eq (g2 := F0 m 222 _ (.ref ((a 612)) :: [.int x2, .ref ((a 612))])) rfl ?_
          refine lv_iload_n hx hb dn_Design_sumUp_222 rfl (lv_at hl 1 rfl) ?_
          obtain ⟨hg_1, hf⟩ := dc_g hf
          refine va_iald hx hb hK hP 118 0 rfl rfl hg_1 dn_Design_sumUp_223 ?_
          refine xk_ti (y := ((s.1 612) (Int32.toNatClampNeg x2))) rfl ?_
          refine lv_aload_n hx hb dn_Design_sumUp_224 rfl (lv_at hl 0 rfl) ?_
          refine lv_iload hx hb dn_Design_sumUp_225 (lv_at hl 4 rfl) ?_
          refine lv_iload hx hb dn_Design_sumUp_227 (lv_at hl 3 rfl) ?_
          obtain ⟨q_2, hc_3, hf⟩ := dc_b hf
          refine dc_calli (dc_runV (ar := 2) (As := [.int x7, .int x6]) (rest := [.int (((s.1 612) (Int32.toNatClampNeg x2))), .int x2, .ref ((a 612))]) (ci := 10) (q0 := 13) ⟨hx, hb, hml, hown, hg⟩ hK hN hT hS hA (ct_Design_sumOf_Dc l dC dI cI cB cJ cZ cQ N H.size a v x7 x6 s q_2 hc_3) hP hD rfl rfl wn_5_112 wn_5_113 wn_5_114 wn_1_10 wn_5_115 rfl rfl (by decide +kernel) ⟨Nat.le_of_ble_eq_true rfl, Nat.le_of_ble_eq_true rfl⟩ rfl hl.1 rfl (Nat.le_of_ble_eq_true rfl) dn_Design_sumUp_229 ⟨Nat.le_of_ble_eq_true rfl, Nat.le_of_ble_eq_true rfl⟩) hP hD hS hA (fun r_4 _ H locs hw hP hD hS => ?_)
          have hw : r_4 = q_2.1 := hw
          subst hw
          obtain ⟨q_5, hc_6, hf⟩ := dc_b hf
          refine dc_calli (dc_runSN (ar := 2) (As := [.int (((s.1 612) (Int32.toNatClampNeg x2))), .int q_2.1]) (rest := [.int x2, .ref ((a 612))]) (host := "CircuitCycles") ⟨hx, hb, hml, hown, hg⟩ hK hN hT hS hA (ct_C_capped l dC dI cI cB cJ cZ cQ N H.size a v (((s.1 612) (Int32.toNatClampNeg x2))) q_2.1 q_2.2 q_5 hc_6) hP hD nl_Design_105 wn_5_108 wn_1_1 wn_5_109 rfl rfl (by decide +kernel) ⟨Nat.le_of_ble_eq_true rfl, Nat.le_of_ble_eq_true rfl⟩ rfl hl.1 rfl (Nat.le_of_ble_eq_true rfl) dn_Design_sumUp_232 ⟨Nat.le_of_ble_eq_true rfl, Nat.le_of_ble_eq_true rfl⟩) hP hD hS hA (fun r_7 _ H locs hw hP hD hS => ?_)
          have hw : r_7 = q_5.1 := hw
          subst hw
          obtain ⟨hg_8, hf⟩ := dc_g hf
          refine va_iast hx hb hK hP hD hS 118 0 rfl rfl hg_8 dn_Design_sumUp_235 (fun H locs hP hD hS => ?_)
          have hP : va_P (dC, dI) xcl ((wC a v cI cB cJ cZ cQ q_5.2).set 118 ((a 612), .inl (cI, 3277, .inl (upd (q_5.2.1 612) (Int32.toNatClampNeg x2) q_5.1)))) H := hP
          have hD : va_D A ((wC a v cI cB cJ cZ cQ q_5.2).set 118 ((a 612), .inl (cI, 3277, .inl (upd (q_5.2.1 612) (Int32.toNatClampNeg x2) q_5.1)))) := hD
          have hP := wC_P_612 hP
          have hD := wC_D_612 hD
          refine lv_iinc (v := (x7 + 1)) (lv' := [(7, .int ((x7 + 1))), (0, .ref ((a 113))), (2, .int x2), (5, .int x5), (6, .int x6)]) hx hb dn_Design_sumUp_236 hl (k := 4) rfl (dc_inc (by decide)) (by decide) rfl (fun ls hl => ?_)
          refine lv_goto (tgt := 201) hx hb dn_Design_sumUp_239 (by decide) ?_
          exact hk_201 x2 x5 x6 ((x7 + 1)) (upI q_5.2 612 (upd (q_5.2.1 612) (Int32.toNatClampNeg x2) q_5.1)) hf H locs ls hP hD hS (lv_sub hl [1, 2, 3, 4, 0] rfl)
        have hf := (if_neg hs213_2).symm.trans hf
        by_cases hs213_3 : x7 = 3
        · have hf := (if_pos hs213_3).symm.trans hf
          refine xk_ti (y := 3) hs213_3 ?_
          refine dc_aald hx hb hK hP 121 4 rfl rfl (show ¬ (_ ∨ _) by decide) dn_Design_sumUp_213 ?_
          refine W.eq (g2 := F0 m 214 _ (.ref ((a 613)) :: [])) rfl ?_
          refine lv_iload_n hx hb dn_Design_sumUp_214 rfl (lv_at hl 1 rfl) ?_
          refine lv_aload_n hx hb dn_Design_sumUp_215 rfl (lv_at hl 0 rfl) ?_
          refine va_get (D := (dC, dI)) (ci := 10) (v := .ref ((a 366))) (C := rn_Design) (T := fn_Design) (N := 16) hx hb hg in_Design hown hK hP 13 rfl rfl 11 (by decide) (hg _ wn_3_20) (fun _ h9 => h9) rfl dn_Design_sumUp_216 ?_
          refine lv_iload hx hb dn_Design_sumUp_219 (lv_at hl 4 rfl) ?_
          refine xk_ti (y := 3) hs213_3 ?_
          refine dc_aald hx hb hK hP 121 4 rfl rfl (show ¬ (_ ∨ _) by decide) dn_Design_sumUp_221 ?_
          refine W.eq (g2 := F0 m 222 _ (.ref ((a 613)) :: [.int x2, .ref ((a 613))])) rfl ?_
          refine lv_iload_n hx hb dn_Design_sumUp_222 rfl (lv_at hl 1 rfl) ?_
          obtain ⟨hg_1, hf⟩ := dc_g hf
          refine va_iald hx hb hK hP 119 0 rfl rfl hg_1 dn_Design_sumUp_223 ?_
          refine xk_ti (y := ((s.1 613) (Int32.toNatClampNeg x2))) rfl ?_
          refine lv_aload_n hx hb dn_Design_sumUp_224 rfl (lv_at hl 0 rfl) ?_
          refine lv_iload hx hb dn_Design_sumUp_225 (lv_at hl 4 rfl) ?_
          refine lv_iload hx hb dn_Design_sumUp_227 (lv_at hl 3 rfl) ?_
          obtain ⟨q_2, hc_3, hf⟩ := dc_b hf
          refine dc_calli (dc_runV (ar := 2) (As := [.int x7, .int x6]) (rest := [.int (((s.1 613) (Int32.toNatClampNeg x2))), .int x2, .ref ((a 613))]) (ci := 10) (q0 := 13) ⟨hx, hb, hml, hown, hg⟩ hK hN hT hS hA (ct_Design_sumOf_Dc l dC dI cI cB cJ cZ cQ N H.size a v x7 x6 s q_2 hc_3) hP hD rfl rfl wn_5_112 wn_5_113 wn_5_114 wn_1_10 wn_5_115 rfl rfl (by decide +kernel) ⟨Nat.le_of_ble_eq_true rfl, Nat.le_of_ble_eq_true rfl⟩ rfl hl.1 rfl (Nat.le_of_ble_eq_true rfl) dn_Design_sumUp_229 ⟨Nat.le_of_ble_eq_true rfl, Nat.le_of_ble_eq_true rfl⟩) hP hD hS hA (fun r_4 _ H locs hw hP hD hS => ?_)
          have hw : r_4 = q_2.1 := hw
          subst hw
          obtain ⟨q_5, hc_6, hf⟩ := dc_b hf
          refine dc_calli (dc_runSN (ar := 2) (As := [.int (((s.1 613) (Int32.toNatClampNeg x2))), .int q_2.1]) (rest := [.int x2, .ref ((a 613))]) (host := "CircuitCycles") ⟨hx, hb, hml, hown, hg⟩ hK hN hT hS hA (ct_C_capped l dC dI cI cB cJ cZ cQ N H.size a v (((s.1 613) (Int32.toNatClampNeg x2))) q_2.1 q_2.2 q_5 hc_6) hP hD nl_Design_105 wn_5_108 wn_1_1 wn_5_109 rfl rfl (by decide +kernel) ⟨Nat.le_of_ble_eq_true rfl, Nat.le_of_ble_eq_true rfl⟩ rfl hl.1 rfl (Nat.le_of_ble_eq_true rfl) dn_Design_sumUp_232 ⟨Nat.le_of_ble_eq_true rfl, Nat.le_of_ble_eq_true rfl⟩) hP hD hS hA (fun r_7 _ H locs hw hP hD hS => ?_)
          have hw : r_7 = q_5.1 := hw
          subst hw
          obtain ⟨hg_8, hf⟩ := dc_g hf
          refine va_iast hx hb hK hP hD hS 119 0 rfl rfl hg_8 dn_Design_sumUp_235 (fun H locs hP hD hS => ?_)
          have hP : va_P (dC, dI) xcl ((wC a v cI cB cJ cZ cQ q_5.2).set 119 ((a 613), .inl (cI, 3277, .inl (upd (q_5.2.1 613) (Int32.toNatClampNeg x2) q_5.1)))) H := hP
          have hD : va_D A ((wC a v cI cB cJ cZ cQ q_5.2).set 119 ((a 613), .inl (cI, 3277, .inl (upd (q_5.2.1 613) (Int32.toNatClampNeg x2) q_5.1)))) := hD
          have hP := wC_P_613 hP
          have hD := wC_D_613 hD
          refine lv_iinc (v := (x7 + 1)) (lv' := [(7, .int ((x7 + 1))), (0, .ref ((a 113))), (2, .int x2), (5, .int x5), (6, .int x6)]) hx hb dn_Design_sumUp_236 hl (k := 4) rfl (dc_inc (by decide)) (by decide) rfl (fun ls hl => ?_)
          refine lv_goto (tgt := 201) hx hb dn_Design_sumUp_239 (by decide) ?_
          exact hk_201 x2 x5 x6 ((x7 + 1)) (upI q_5.2 613 (upd (q_5.2.1 613) (Int32.toNatClampNeg x2) q_5.1)) hf H locs ls hP hD hS (lv_sub hl [1, 2, 3, 4, 0] rfl)
        have hf := (if_neg hs213_3).symm.trans hf
        by_cases hs213_4 : x7 = 4
        · have hf := (if_pos hs213_4).symm.trans hf
          refine xk_ti (y := 4) hs213_4 ?_
          refine dc_aald hx hb hK hP 121 4 rfl rfl (show ¬ (_ ∨ _) by decide) dn_Design_sumUp_213 ?_
          refine W.eq (g2 := F0 m 214 _ (.ref ((a 614)) :: [])) rfl ?_
          refine lv_iload_n hx hb dn_Design_sumUp_214 rfl (lv_at hl 1 rfl) ?_
          refine lv_aload_n hx hb dn_Design_sumUp_215 rfl (lv_at hl 0 rfl) ?_
          refine va_get (D := (dC, dI)) (ci := 10) (v := .ref ((a 366))) (C := rn_Design) (T := fn_Design) (N := 16) hx hb hg in_Design hown hK hP 13 rfl rfl 11 (by decide) (hg _ wn_3_20) (fun _ h9 => h9) rfl dn_Design_sumUp_216 ?_
          refine lv_iload hx hb dn_Design_sumUp_219 (lv_at hl 4 rfl) ?_
          refine xk_ti (y := 4) hs213_4 ?_
          refine dc_aald hx hb hK hP 121 4 rfl rfl (show ¬ (_ ∨ _) by decide) dn_Design_sumUp_221 ?_
          refine W.eq (g2 := F0 m 222 _ (.ref ((a 614)) :: [.int x2, .ref ((a 614))])) rfl ?_
          refine lv_iload_n hx hb dn_Design_sumUp_222 rfl (lv_at hl 1 rfl) ?_
          obtain ⟨hg_1, hf⟩ := dc_g hf
          refine va_iald hx hb hK hP 120 0 rfl rfl hg_1 dn_Design_sumUp_223 ?_
          refine xk_ti (y := ((s.1 614) (Int32.toNatClampNeg x2))) rfl ?_
          refine lv_aload_n hx hb dn_Design_sumUp_224 rfl (lv_at hl 0 rfl) ?_
          refine lv_iload hx hb dn_Design_sumUp_225 (lv_at hl 4 rfl) ?_
          refine lv_iload hx hb dn_Design_sumUp_227 (lv_at hl 3 rfl) ?_
          obtain ⟨q_2, hc_3, hf⟩ := dc_b hf
          refine dc_calli (dc_runV (ar := 2) (As := [.int x7, .int x6]) (rest := [.int (((s.1 614) (Int32.toNatClampNeg x2))), .int x2, .ref ((a 614))]) (ci := 10) (q0 := 13) ⟨hx, hb, hml, hown, hg⟩ hK hN hT hS hA (ct_Design_sumOf_Dc l dC dI cI cB cJ cZ cQ N H.size a v x7 x6 s q_2 hc_3) hP hD rfl rfl wn_5_112 wn_5_113 wn_5_114 wn_1_10 wn_5_115 rfl rfl (by decide +kernel) ⟨Nat.le_of_ble_eq_true rfl, Nat.le_of_ble_eq_true rfl⟩ rfl hl.1 rfl (Nat.le_of_ble_eq_true rfl) dn_Design_sumUp_229 ⟨Nat.le_of_ble_eq_true rfl, Nat.le_of_ble_eq_true rfl⟩) hP hD hS hA (fun r_4 _ H locs hw hP hD hS => ?_)
          have hw : r_4 = q_2.1 := hw
          subst hw
          obtain ⟨q_5, hc_6, hf⟩ := dc_b hf
          refine dc_calli (dc_runSN (ar := 2) (As := [.int (((s.1 614) (Int32.toNatClampNeg x2))), .int q_2.1]) (rest := [.int x2, .ref ((a 614))]) (host := "CircuitCycles") ⟨hx, hb, hml, hown, hg⟩ hK hN hT hS hA (ct_C_capped l dC dI cI cB cJ cZ cQ N H.size a v (((s.1 614) (Int32.toNatClampNeg x2))) q_2.1 q_2.2 q_5 hc_6) hP hD nl_Design_105 wn_5_108 wn_1_1 wn_5_109 rfl rfl (by decide +kernel) ⟨Nat.le_of_ble_eq_true rfl, Nat.le_of_ble_eq_true rfl⟩ rfl hl.1 rfl (Nat.le_of_ble_eq_true rfl) dn_Design_sumUp_232 ⟨Nat.le_of_ble_eq_true rfl, Nat.le_of_ble_eq_true rfl⟩) hP hD hS hA (fun r_7 _ H locs hw hP hD hS => ?_)
          have hw : r_7 = q_5.1 := hw
          subst hw
          obtain ⟨hg_8, hf⟩ := dc_g hf
          refine va_iast hx hb hK hP hD hS 120 0 rfl rfl hg_8 dn_Design_sumUp_235 (fun H locs hP hD hS => ?_)
          have hP : va_P (dC, dI) xcl ((wC a v cI cB cJ cZ cQ q_5.2).set 120 ((a 614), .inl (cI, 3277, .inl (upd (q_5.2.1 614) (Int32.toNatClampNeg x2) q_5.1)))) H := hP
          have hD : va_D A ((wC a v cI cB cJ cZ cQ q_5.2).set 120 ((a 614), .inl (cI, 3277, .inl (upd (q_5.2.1 614) (Int32.toNatClampNeg x2) q_5.1)))) := hD
          have hP := wC_P_614 hP
          have hD := wC_D_614 hD
          refine lv_iinc (v := (x7 + 1)) (lv' := [(7, .int ((x7 + 1))), (0, .ref ((a 113))), (2, .int x2), (5, .int x5), (6, .int x6)]) hx hb dn_Design_sumUp_236 hl (k := 4) rfl (dc_inc (by decide)) (by decide) rfl (fun ls hl => ?_)
          refine lv_goto (tgt := 201) hx hb dn_Design_sumUp_239 (by decide) ?_
          exact hk_201 x2 x5 x6 ((x7 + 1)) (upI q_5.2 614 (upd (q_5.2.1 614) (Int32.toNatClampNeg x2) q_5.1)) hf H locs ls hP hD hS (lv_sub hl [1, 2, 3, 4, 0] rfl)
        have hf := (if_neg hs213_4).symm.trans hf
        cases hf
  have hd_174 : ∀ (n : Nat) (x2 : Int32) (x5 : Int32) (s : ms), hd_Design_sumUp_Dc_174 N n x2 x5 s = some y → dcC p l e ({ frames := 2, cells := 0, slots := 0, locals := 61 }) s0 m [.ref ((a 113)), .int v1].toArray below meth c QQ (dC, dI) A (wC a v cI cB cJ cZ cQ s) 174 8 [(0, .ref ((a 113))), (2, .int x2), (5, .int x5)] [] := by
    intro n
    induction n with
    | zero => intro x2 x5 s hf; cases hf
    | succ n ih =>
      intro x2 x5 s hf H locs ls hP hD hS hl
      have hf : bd_Design_sumUp_Dc_174 N (hd_Design_sumUp_Dc_174 N n) x2 x5 s = some y := hf
      have hk_174 := ih
      generalize hd_Design_sumUp_Dc_174 N n = k_174 at hf hk_174
      unfold bd_Design_sumUp_Dc_174 at hf
      refine lv_iload hx hb dn_Design_sumUp_174 (lv_at hl 2 rfl) ?_
      refine lv_aload_n hx hb dn_Design_sumUp_176 rfl (lv_at hl 0 rfl) ?_
      refine va_get (D := (dC, dI)) (ci := 10) (v := .ref ((a 114))) (C := rn_Design) (T := fn_Design) (N := 16) hx hb hg in_Design hown hK hP 13 rfl rfl 0 (by decide) (hg _ wn_2_234) (fun _ h9 => h9) rfl dn_Design_sumUp_177 ?_
      refine va_get (D := (dC, dI)) (ci := 11) (v := .int ((s.1 378 0))) (C := rn_Parts) (T := fn_Parts) (N := 15) hx hb hg in_Parts hown hK hP 14 rfl rfl 7 (by decide) (hg _ wn_2_150) (fun _ h9 => h9) rfl dn_Design_sumUp_180 ?_
      refine lv_icmp_ge (tgt := 248) hx hb dn_Design_sumUp_183 (by decide) (fun h => ?_) (fun h => ?_)
      · have hf := (if_pos h).symm.trans hf
        rw [hQQ, ← Option.some.inj hf]
        exact xk_vret (w1 := fun u : Unit => (wC a v cI cB cJ cZ cQ s)) () hx hb hr hlocks hK hS dn_Design_sumUp_248 hP hD trivial (Nat.le_refl _) (Nat.le_refl _)
      · have hf := (if_neg h).symm.trans hf
        refine lv_aload_n hx hb dn_Design_sumUp_186 rfl (lv_at hl 0 rfl) ?_
        refine va_get (D := (dC, dI)) (ci := 10) (v := .ref ((a 114))) (C := rn_Design) (T := fn_Design) (N := 16) hx hb hg in_Design hown hK hP 13 rfl rfl 0 (by decide) (hg _ wn_2_234) (fun _ h9 => h9) rfl dn_Design_sumUp_187 ?_
        refine va_get (D := (dC, dI)) (ci := 11) (v := .ref ((a 379))) (C := rn_Parts) (T := fn_Parts) (N := 15) hx hb hg in_Parts hown hK hP 14 rfl rfl 8 (by decide) (hg _ wn_2_155) (fun _ h9 => h9) rfl dn_Design_sumUp_190 ?_
        refine lv_iload hx hb dn_Design_sumUp_193 (lv_at hl 2 rfl) ?_
        obtain ⟨hg_1, hf⟩ := dc_g hf
        refine va_iald hx hb hK hP 101 0 rfl rfl hg_1 dn_Design_sumUp_195 ?_
        refine xk_ti (y := ((s.1 379) (Int32.toNatClampNeg x5))) rfl ?_
        refine lv_istore (lv' := [(6, .int (((s.1 379) (Int32.toNatClampNeg x5)))), (0, .ref ((a 113))), (2, .int x2), (5, .int x5)]) hx hb dn_Design_sumUp_196 hl (by decide) rfl (fun ls hl => ?_)
        refine lv_iconst (v := 0) hx hb dn_Design_sumUp_198 (by decide) ?_
        refine lv_istore (lv' := [(7, .int 0), (6, .int (((s.1 379) (Int32.toNatClampNeg x5)))), (0, .ref ((a 113))), (2, .int x2), (5, .int x5)]) hx hb dn_Design_sumUp_199 hl (by decide) rfl (fun ls hl => ?_)
        exact hd_201 k_174 hk_174 N x2 x5 (((s.1 379) (Int32.toNatClampNeg x5))) 0 s hf H locs ls hP hD hS (lv_sub hl [2, 3, 4, 1, 0] rfl)
  have hd_80 : ∀ (n : Nat) (x1 : Int32) (x2 : Int32) (x3 : Int32) (x4 : Int32) (x5 : Int32) (s : ms), hd_Design_sumUp_Dc_80 N n x1 x2 x3 x4 x5 s = some y → dcC p l e ({ frames := 2, cells := 0, slots := 0, locals := 61 }) s0 m [.ref ((a 113)), .int v1].toArray below meth c QQ (dC, dI) A (wC a v cI cB cJ cZ cQ s) 80 8 [(0, .ref ((a 113))), (1, .int x1), (2, .int x2), (3, .int x3), (4, .int x4), (5, .int x5)] [] := by
    intro n
    induction n with
    | zero => intro x1 x2 x3 x4 x5 s hf; cases hf
    | succ n ih =>
      intro x1 x2 x3 x4 x5 s hf H locs ls hP hD hS hl
      have hf : bd_Design_sumUp_Dc_80 N (hd_Design_sumUp_Dc_80 N n) x1 x2 x3 x4 x5 s = some y := hf
      have hk_80 := ih
      generalize hd_Design_sumUp_Dc_80 N n = k_80 at hf hk_80
      unfold bd_Design_sumUp_Dc_80 at hf
      refine lv_iload hx hb dn_Design_sumUp_80 (lv_at hl 5 rfl) ?_
      refine lv_aload_n hx hb dn_Design_sumUp_82 rfl (lv_at hl 0 rfl) ?_
      refine va_get (D := (dC, dI)) (ci := 10) (v := .int ((s.1 367 0))) (C := rn_Design) (T := fn_Design) (N := 16) hx hb hg in_Design hown hK hP 13 rfl rfl 12 (by decide) (hg _ wn_3_21) (fun _ h9 => h9) rfl dn_Design_sumUp_83 ?_
      refine lv_icmp_ge (tgt := 107) hx hb dn_Design_sumUp_86 (by decide) (fun h => ?_) (fun h => ?_)
      · have hf := (if_pos h).symm.trans hf
        refine lv_aload_n hx hb dn_Design_sumUp_107 rfl (lv_at hl 0 rfl) ?_
        refine va_get (D := (dC, dI)) (ci := 10) (v := .ref ((a 366))) (C := rn_Design) (T := fn_Design) (N := 16) hx hb hg in_Design hown hK hP 13 rfl rfl 11 (by decide) (hg _ wn_3_20) (fun _ h9 => h9) rfl dn_Design_sumUp_108 ?_
        refine lv_iconst (v := 0) hx hb dn_Design_sumUp_111 (by decide) ?_
        refine dc_aald hx hb hK hP 121 4 rfl rfl (show ¬ (_ ∨ _) by decide) dn_Design_sumUp_112 ?_
        refine W.eq (g2 := F0 m 113 _ (.ref ((a 610)) :: [])) rfl ?_
        refine lv_iload_n hx hb dn_Design_sumUp_113 rfl (lv_at hl 2 rfl) ?_
        refine lv_iconst (v := 1) hx hb dn_Design_sumUp_114 (by decide) ?_
        obtain ⟨hg_1, hf⟩ := dc_g hf
        refine va_iast hx hb hK hP hD hS 116 0 rfl rfl hg_1 dn_Design_sumUp_115 (fun H locs hP hD hS => ?_)
        have hP : va_P (dC, dI) xcl ((wC a v cI cB cJ cZ cQ s).set 116 ((a 610), .inl (cI, 3277, .inl (upd (s.1 610) (Int32.toNatClampNeg x2) 1)))) H := hP
        have hD : va_D A ((wC a v cI cB cJ cZ cQ s).set 116 ((a 610), .inl (cI, 3277, .inl (upd (s.1 610) (Int32.toNatClampNeg x2) 1)))) := hD
        have hP := wC_P_610 hP
        have hD := wC_D_610 hD
        refine lv_aload_n hx hb dn_Design_sumUp_116 rfl (lv_at hl 0 rfl) ?_
        refine va_get (D := (dC, dI)) (ci := 10) (v := .ref ((a 366))) (C := rn_Design) (T := fn_Design) (N := 16) hx hb hg in_Design hown hK hP 13 rfl rfl 11 (by decide) (hg _ wn_3_20) (fun _ h9 => h9) rfl dn_Design_sumUp_117 ?_
        refine lv_iconst (v := 1) hx hb dn_Design_sumUp_120 (by decide) ?_
        refine dc_aald hx hb hK hP 121 4 rfl rfl (show ¬ (_ ∨ _) by decide) dn_Design_sumUp_121 ?_
        refine W.eq (g2 := F0 m 122 _ (.ref ((a 611)) :: [])) rfl ?_
        refine lv_iload_n hx hb dn_Design_sumUp_122 rfl (lv_at hl 2 rfl) ?_
        refine lv_aload_n hx hb dn_Design_sumUp_123 rfl (lv_at hl 0 rfl) ?_
        refine va_get (D := (dC, dI)) (ci := 10) (v := .ref ((a 114))) (C := rn_Design) (T := fn_Design) (N := 16) hx hb hg in_Design hown hK hP 13 rfl rfl 0 (by decide) (hg _ wn_2_234) (fun _ h9 => h9) rfl dn_Design_sumUp_124 ?_
        refine va_get (D := (dC, dI)) (ci := 11) (v := .int ((s.1 371 0))) (C := rn_Parts) (T := fn_Parts) (N := 15) hx hb hg in_Parts hown hK hP 14 rfl rfl 0 (by decide) (hg _ wn_2_124) (fun _ h9 => h9) rfl dn_Design_sumUp_127 ?_
        refine lv_aload_n hx hb dn_Design_sumUp_130 rfl (lv_at hl 0 rfl) ?_
        refine va_get (D := (dC, dI)) (ci := 10) (v := .ref ((a 362))) (C := rn_Design) (T := fn_Design) (N := 16) hx hb hg in_Design hown hK hP 13 rfl rfl 7 (by decide) (hg _ wn_3_16) (fun _ h9 => h9) rfl dn_Design_sumUp_131 ?_
        refine lv_iload_n hx hb dn_Design_sumUp_134 rfl (lv_at hl 2 rfl) ?_
        obtain ⟨hg_2, hf⟩ := dc_g hf
        refine va_iald hx hb hK hP 88 0 rfl rfl hg_2 dn_Design_sumUp_135 ?_
        refine xk_ti (y := ((s.1 362) (Int32.toNatClampNeg x2))) rfl ?_
        refine lv_isub hx hb dn_Design_sumUp_136 ?_
        obtain ⟨hg_3, hf⟩ := dc_g hf
        refine va_iast hx hb hK hP hD hS 117 0 rfl rfl hg_3 dn_Design_sumUp_137 (fun H locs hP hD hS => ?_)
        have hP : va_P (dC, dI) xcl ((wC a v cI cB cJ cZ cQ (upI s 610 (upd (s.1 610) (Int32.toNatClampNeg x2) 1))).set 117 ((a 611), .inl (cI, 3277, .inl (upd (s.1 611) (Int32.toNatClampNeg x2) (((s.1 371 0) - ((s.1 362) (Int32.toNatClampNeg x2)))))))) H := hP
        have hD : va_D A ((wC a v cI cB cJ cZ cQ (upI s 610 (upd (s.1 610) (Int32.toNatClampNeg x2) 1))).set 117 ((a 611), .inl (cI, 3277, .inl (upd (s.1 611) (Int32.toNatClampNeg x2) (((s.1 371 0) - ((s.1 362) (Int32.toNatClampNeg x2)))))))) := hD
        have hP := wC_P_611 hP
        have hD := wC_D_611 hD
        refine lv_aload_n hx hb dn_Design_sumUp_138 rfl (lv_at hl 0 rfl) ?_
        refine va_get (D := (dC, dI)) (ci := 10) (v := .ref ((a 366))) (C := rn_Design) (T := fn_Design) (N := 16) hx hb hg in_Design hown hK hP 13 rfl rfl 11 (by decide) (hg _ wn_3_20) (fun _ h9 => h9) rfl dn_Design_sumUp_139 ?_
        refine lv_iconst (v := 2) hx hb dn_Design_sumUp_142 (by decide) ?_
        refine dc_aald hx hb hK hP 121 4 rfl rfl (show ¬ (_ ∨ _) by decide) dn_Design_sumUp_143 ?_
        refine W.eq (g2 := F0 m 144 _ (.ref ((a 612)) :: [])) rfl ?_
        refine lv_iload_n hx hb dn_Design_sumUp_144 rfl (lv_at hl 2 rfl) ?_
        refine lv_iload_n hx hb dn_Design_sumUp_145 rfl (lv_at hl 3 rfl) ?_
        obtain ⟨hg_4, hf⟩ := dc_g hf
        refine va_iast hx hb hK hP hD hS 118 0 rfl rfl hg_4 dn_Design_sumUp_146 (fun H locs hP hD hS => ?_)
        have hP : va_P (dC, dI) xcl ((wC a v cI cB cJ cZ cQ (upI (upI s 610 (upd (s.1 610) (Int32.toNatClampNeg x2) 1)) 611 (upd (s.1 611) (Int32.toNatClampNeg x2) (((s.1 371 0) - ((s.1 362) (Int32.toNatClampNeg x2))))))).set 118 ((a 612), .inl (cI, 3277, .inl (upd (s.1 612) (Int32.toNatClampNeg x2) x3)))) H := hP
        have hD : va_D A ((wC a v cI cB cJ cZ cQ (upI (upI s 610 (upd (s.1 610) (Int32.toNatClampNeg x2) 1)) 611 (upd (s.1 611) (Int32.toNatClampNeg x2) (((s.1 371 0) - ((s.1 362) (Int32.toNatClampNeg x2))))))).set 118 ((a 612), .inl (cI, 3277, .inl (upd (s.1 612) (Int32.toNatClampNeg x2) x3)))) := hD
        have hP := wC_P_612 hP
        have hD := wC_D_612 hD
        refine lv_aload_n hx hb dn_Design_sumUp_147 rfl (lv_at hl 0 rfl) ?_
        refine va_get (D := (dC, dI)) (ci := 10) (v := .ref ((a 366))) (C := rn_Design) (T := fn_Design) (N := 16) hx hb hg in_Design hown hK hP 13 rfl rfl 11 (by decide) (hg _ wn_3_20) (fun _ h9 => h9) rfl dn_Design_sumUp_148 ?_
        refine lv_iconst (v := 3) hx hb dn_Design_sumUp_151 (by decide) ?_
        refine dc_aald hx hb hK hP 121 4 rfl rfl (show ¬ (_ ∨ _) by decide) dn_Design_sumUp_152 ?_
        refine W.eq (g2 := F0 m 153 _ (.ref ((a 613)) :: [])) rfl ?_
        refine lv_iload_n hx hb dn_Design_sumUp_153 rfl (lv_at hl 2 rfl) ?_
        refine lv_iload hx hb dn_Design_sumUp_154 (lv_at hl 4 rfl) ?_
        obtain ⟨hg_5, hf⟩ := dc_g hf
        refine va_iast hx hb hK hP hD hS 119 0 rfl rfl hg_5 dn_Design_sumUp_156 (fun H locs hP hD hS => ?_)
        have hP : va_P (dC, dI) xcl ((wC a v cI cB cJ cZ cQ (upI (upI (upI s 610 (upd (s.1 610) (Int32.toNatClampNeg x2) 1)) 611 (upd (s.1 611) (Int32.toNatClampNeg x2) (((s.1 371 0) - ((s.1 362) (Int32.toNatClampNeg x2)))))) 612 (upd (s.1 612) (Int32.toNatClampNeg x2) x3))).set 119 ((a 613), .inl (cI, 3277, .inl (upd (s.1 613) (Int32.toNatClampNeg x2) x4)))) H := hP
        have hD : va_D A ((wC a v cI cB cJ cZ cQ (upI (upI (upI s 610 (upd (s.1 610) (Int32.toNatClampNeg x2) 1)) 611 (upd (s.1 611) (Int32.toNatClampNeg x2) (((s.1 371 0) - ((s.1 362) (Int32.toNatClampNeg x2)))))) 612 (upd (s.1 612) (Int32.toNatClampNeg x2) x3))).set 119 ((a 613), .inl (cI, 3277, .inl (upd (s.1 613) (Int32.toNatClampNeg x2) x4)))) := hD
        have hP := wC_P_613 hP
        have hD := wC_D_613 hD
        refine lv_aload_n hx hb dn_Design_sumUp_157 rfl (lv_at hl 0 rfl) ?_
        refine va_get (D := (dC, dI)) (ci := 10) (v := .ref ((a 366))) (C := rn_Design) (T := fn_Design) (N := 16) hx hb hg in_Design hown hK hP 13 rfl rfl 11 (by decide) (hg _ wn_3_20) (fun _ h9 => h9) rfl dn_Design_sumUp_158 ?_
        refine lv_iconst (v := 4) hx hb dn_Design_sumUp_161 (by decide) ?_
        refine dc_aald hx hb hK hP 121 4 rfl rfl (show ¬ (_ ∨ _) by decide) dn_Design_sumUp_162 ?_
        refine W.eq (g2 := F0 m 163 _ (.ref ((a 614)) :: [])) rfl ?_
        refine lv_iload_n hx hb dn_Design_sumUp_163 rfl (lv_at hl 2 rfl) ?_
        refine lv_iload_n hx hb dn_Design_sumUp_164 rfl (lv_at hl 1 rfl) ?_
        obtain ⟨hg_6, hf⟩ := dc_g hf
        refine va_iast hx hb hK hP hD hS 120 0 rfl rfl hg_6 dn_Design_sumUp_165 (fun H locs hP hD hS => ?_)
        have hP : va_P (dC, dI) xcl ((wC a v cI cB cJ cZ cQ (upI (upI (upI (upI s 610 (upd (s.1 610) (Int32.toNatClampNeg x2) 1)) 611 (upd (s.1 611) (Int32.toNatClampNeg x2) (((s.1 371 0) - ((s.1 362) (Int32.toNatClampNeg x2)))))) 612 (upd (s.1 612) (Int32.toNatClampNeg x2) x3)) 613 (upd (s.1 613) (Int32.toNatClampNeg x2) x4))).set 120 ((a 614), .inl (cI, 3277, .inl (upd (s.1 614) (Int32.toNatClampNeg x2) x1)))) H := hP
        have hD : va_D A ((wC a v cI cB cJ cZ cQ (upI (upI (upI (upI s 610 (upd (s.1 610) (Int32.toNatClampNeg x2) 1)) 611 (upd (s.1 611) (Int32.toNatClampNeg x2) (((s.1 371 0) - ((s.1 362) (Int32.toNatClampNeg x2)))))) 612 (upd (s.1 612) (Int32.toNatClampNeg x2) x3)) 613 (upd (s.1 613) (Int32.toNatClampNeg x2) x4))).set 120 ((a 614), .inl (cI, 3277, .inl (upd (s.1 614) (Int32.toNatClampNeg x2) x1)))) := hD
        have hP := wC_P_614 hP
        have hD := wC_D_614 hD
        refine lv_aload_n hx hb dn_Design_sumUp_166 rfl (lv_at hl 0 rfl) ?_
        refine va_get (D := (dC, dI)) (ci := 10) (v := .ref ((a 364))) (C := rn_Design) (T := fn_Design) (N := 16) hx hb hg in_Design hown hK hP 13 rfl rfl 9 (by decide) (hg _ wn_3_18) (fun _ h9 => h9) rfl dn_Design_sumUp_167 ?_
        refine lv_iload_n hx hb dn_Design_sumUp_170 rfl (lv_at hl 2 rfl) ?_
        obtain ⟨hg_7, hf⟩ := dc_g hf
        refine va_iald hx hb hK hP 90 0 rfl rfl hg_7 dn_Design_sumUp_171 ?_
        refine xk_ti (y := ((s.1 364) (Int32.toNatClampNeg x2))) rfl ?_
        refine lv_istore (lv' := [(5, .int (((s.1 364) (Int32.toNatClampNeg x2)))), (0, .ref ((a 113))), (1, .int x1), (2, .int x2), (3, .int x3), (4, .int x4)]) hx hb dn_Design_sumUp_172 hl (by decide) rfl (fun ls hl => ?_)
        exact hd_174 N x2 (((s.1 364) (Int32.toNatClampNeg x2))) (upI (upI (upI (upI (upI s 610 (upd (s.1 610) (Int32.toNatClampNeg x2) 1)) 611 (upd (s.1 611) (Int32.toNatClampNeg x2) (((s.1 371 0) - ((s.1 362) (Int32.toNatClampNeg x2)))))) 612 (upd (s.1 612) (Int32.toNatClampNeg x2) x3)) 613 (upd (s.1 613) (Int32.toNatClampNeg x2) x4)) 614 (upd (s.1 614) (Int32.toNatClampNeg x2) x1)) hf H locs ls hP hD hS (lv_sub hl [1, 3, 0] rfl)
      · have hf := (if_neg h).symm.trans hf
        refine lv_iload hx hb dn_Design_sumUp_89 (lv_at hl 4 rfl) ?_
        refine lv_aload_n hx hb dn_Design_sumUp_91 rfl (lv_at hl 0 rfl) ?_
        refine va_get (D := (dC, dI)) (ci := 10) (v := .ref ((a 370))) (C := rn_Design) (T := fn_Design) (N := 16) hx hb hg in_Design hown hK hP 13 rfl rfl 15 (by decide) (hg _ wn_3_26) (fun _ h9 => h9) rfl dn_Design_sumUp_92 ?_
        refine lv_iload hx hb dn_Design_sumUp_95 (lv_at hl 5 rfl) ?_
        obtain ⟨hg_1, hf⟩ := dc_g hf
        refine va_iald hx hb hK hP 94 0 rfl rfl hg_1 dn_Design_sumUp_97 ?_
        refine xk_ti (y := ((s.1 370) (Int32.toNatClampNeg x5))) rfl ?_
        refine lv_iadd hx hb dn_Design_sumUp_98 ?_
        refine lv_istore (lv' := [(4, .int ((x4 + ((s.1 370) (Int32.toNatClampNeg x5))))), (0, .ref ((a 113))), (1, .int x1), (2, .int x2), (3, .int x3), (5, .int x5)]) hx hb dn_Design_sumUp_99 hl (by decide) rfl (fun ls hl => ?_)
        refine lv_iinc (v := (x5 + 1)) (lv' := [(5, .int ((x5 + 1))), (4, .int ((x4 + ((s.1 370) (Int32.toNatClampNeg x5))))), (0, .ref ((a 113))), (1, .int x1), (2, .int x2), (3, .int x3)]) hx hb dn_Design_sumUp_101 hl (k := 5) rfl (dc_inc (by decide)) (by decide) rfl (fun ls hl => ?_)
        refine lv_goto (tgt := 80) hx hb dn_Design_sumUp_104 (by decide) ?_
        exact hk_80 x1 x2 x3 ((x4 + ((s.1 370) (Int32.toNatClampNeg x5)))) ((x5 + 1)) s hf H locs ls hP hD hS (lv_sub hl [2, 3, 4, 5, 1, 0] rfl)
  have hd_22 : ∀ (n : Nat) (x1 : Int32) (x2 : Int32) (x3 : Int32) (x4 : Int32) (s : ms), hd_Design_sumUp_Dc_22 N n x1 x2 x3 x4 s = some y → dcC p l e ({ frames := 2, cells := 0, slots := 0, locals := 61 }) s0 m [.ref ((a 113)), .int v1].toArray below meth c QQ (dC, dI) A (wC a v cI cB cJ cZ cQ s) 22 8 [(0, .ref ((a 113))), (1, .int x1), (2, .int x2), (3, .int x3), (4, .int x4)] [] := by
    intro n
    induction n with
    | zero => intro x1 x2 x3 x4 s hf; cases hf
    | succ n ih =>
      intro x1 x2 x3 x4 s hf H locs ls hP hD hS hl
      have hf : bd_Design_sumUp_Dc_22 N (hd_Design_sumUp_Dc_22 N n) x1 x2 x3 x4 s = some y := hf
      have hk_22 := ih
      generalize hd_Design_sumUp_Dc_22 N n = k_22 at hf hk_22
      unfold bd_Design_sumUp_Dc_22 at hf
      refine lv_iload hx hb dn_Design_sumUp_22 (lv_at hl 4 rfl) ?_
      refine lv_aload_n hx hb dn_Design_sumUp_24 rfl (lv_at hl 0 rfl) ?_
      refine va_get (D := (dC, dI)) (ci := 10) (v := .ref ((a 114))) (C := rn_Design) (T := fn_Design) (N := 16) hx hb hg in_Design hown hK hP 13 rfl rfl 0 (by decide) (hg _ wn_2_234) (fun _ h9 => h9) rfl dn_Design_sumUp_25 ?_
      refine va_get (D := (dC, dI)) (ci := 11) (v := .int ((s.1 371 0))) (C := rn_Parts) (T := fn_Parts) (N := 15) hx hb hg in_Parts hown hK hP 14 rfl rfl 0 (by decide) (hg _ wn_2_124) (fun _ h9 => h9) rfl dn_Design_sumUp_28 ?_
      refine lv_icmp_ge (tgt := 69) hx hb dn_Design_sumUp_31 (by decide) (fun h => ?_) (fun h => ?_)
      · have hf := (if_pos h).symm.trans hf
        refine lv_iconst (v := 0) hx hb dn_Design_sumUp_69 (by decide) ?_
        refine lv_istore (lv' := [(4, .int 0), (0, .ref ((a 113))), (1, .int x1), (2, .int x2), (3, .int x3)]) hx hb dn_Design_sumUp_70 hl (by decide) rfl (fun ls hl => ?_)
        refine lv_aload_n hx hb dn_Design_sumUp_72 rfl (lv_at hl 1 rfl) ?_
        refine va_get (D := (dC, dI)) (ci := 10) (v := .ref ((a 365))) (C := rn_Design) (T := fn_Design) (N := 16) hx hb hg in_Design hown hK hP 13 rfl rfl 10 (by decide) (hg _ wn_3_19) (fun _ h9 => h9) rfl dn_Design_sumUp_73 ?_
        refine lv_iload_n hx hb dn_Design_sumUp_76 rfl (lv_at hl 3 rfl) ?_
        obtain ⟨hg_1, hf⟩ := dc_g hf
        refine va_iald hx hb hK hP 91 0 rfl rfl hg_1 dn_Design_sumUp_77 ?_
        refine xk_ti (y := ((s.1 365) (Int32.toNatClampNeg x2))) rfl ?_
        refine lv_istore (lv' := [(5, .int (((s.1 365) (Int32.toNatClampNeg x2)))), (4, .int 0), (0, .ref ((a 113))), (1, .int x1), (2, .int x2), (3, .int x3)]) hx hb dn_Design_sumUp_78 hl (by decide) rfl (fun ls hl => ?_)
        exact hd_80 N x1 x2 x3 0 (((s.1 365) (Int32.toNatClampNeg x2))) s hf H locs ls hP hD hS (lv_sub hl [2, 3, 4, 5, 1, 0] rfl)
      · have hf := (if_neg h).symm.trans hf
        refine lv_aload_n hx hb dn_Design_sumUp_34 rfl (lv_at hl 0 rfl) ?_
        refine va_get (D := (dC, dI)) (ci := 10) (v := .ref ((a 114))) (C := rn_Design) (T := fn_Design) (N := 16) hx hb hg in_Design hown hK hP 13 rfl rfl 0 (by decide) (hg _ wn_2_234) (fun _ h9 => h9) rfl dn_Design_sumUp_35 ?_
        refine va_get (D := (dC, dI)) (ci := 11) (v := .ref ((a 374))) (C := rn_Parts) (T := fn_Parts) (N := 15) hx hb hg in_Parts hown hK hP 14 rfl rfl 3 (by decide) (hg _ wn_2_138) (fun _ h9 => h9) rfl dn_Design_sumUp_38 ?_
        refine lv_iload hx hb dn_Design_sumUp_41 (lv_at hl 4 rfl) ?_
        obtain ⟨hg_1, hf⟩ := dc_g hf
        refine va_iald hx hb hK hP 97 0 rfl rfl hg_1 dn_Design_sumUp_43 ?_
        refine xk_ti (y := ((s.1 374) (Int32.toNatClampNeg x4))) rfl ?_
        refine lv_iconst (v := 2) hx hb dn_Design_sumUp_44 (by decide) ?_
        refine lv_icmp_ne (tgt := 63) hx hb dn_Design_sumUp_45 (by decide) (fun h => ?_) (fun h => ?_)
        · have hf := (if_neg h).symm.trans hf
          refine lv_iinc (v := (x4 + 1)) (lv' := [(4, .int ((x4 + 1))), (0, .ref ((a 113))), (1, .int x1), (2, .int x2), (3, .int x3)]) hx hb dn_Design_sumUp_63 hl (k := 4) rfl (dc_inc (by decide)) (by decide) rfl (fun ls hl => ?_)
          refine lv_goto (tgt := 22) hx hb dn_Design_sumUp_66 (by decide) ?_
          exact hk_22 x1 x2 x3 ((x4 + 1)) s hf H locs ls hP hD hS (lv_sub hl [1, 2, 3, 4, 0] rfl)
        · have hf := (if_pos h).symm.trans hf
          refine lv_iload_n hx hb dn_Design_sumUp_48 rfl (lv_at hl 3 rfl) ?_
          refine lv_aload_n hx hb dn_Design_sumUp_49 rfl (lv_at hl 0 rfl) ?_
          refine va_get (D := (dC, dI)) (ci := 10) (v := .ref ((a 114))) (C := rn_Design) (T := fn_Design) (N := 16) hx hb hg in_Design hown hK hP 13 rfl rfl 0 (by decide) (hg _ wn_2_234) (fun _ h9 => h9) rfl dn_Design_sumUp_50 ?_
          refine va_get (D := (dC, dI)) (ci := 11) (v := .ref ((a 373))) (C := rn_Parts) (T := fn_Parts) (N := 15) hx hb hg in_Parts hown hK hP 14 rfl rfl 2 (by decide) (hg _ wn_2_133) (fun _ h9 => h9) rfl dn_Design_sumUp_53 ?_
          refine lv_iload hx hb dn_Design_sumUp_56 (lv_at hl 4 rfl) ?_
          obtain ⟨hg_2, hf⟩ := dc_g hf
          refine va_iald hx hb hK hP 96 0 rfl rfl hg_2 dn_Design_sumUp_58 ?_
          refine xk_ti (y := ((s.1 373) (Int32.toNatClampNeg x4))) rfl ?_
          obtain ⟨q_3, hc_4, hf⟩ := dc_b hf
          refine dc_calli (dc_runSN (ar := 2) (As := [.int x3, .int (((s.1 373) (Int32.toNatClampNeg x4)))]) (rest := []) (host := "CircuitCycles") ⟨hx, hb, hml, hown, hg⟩ hK hN hT hS hA (ct_C_capped l dC dI cI cB cJ cZ cQ N H.size a v x3 (((s.1 373) (Int32.toNatClampNeg x4))) s q_3 hc_4) hP hD nl_Design_105 wn_5_108 wn_1_1 wn_5_109 rfl rfl (by decide +kernel) ⟨Nat.le_of_ble_eq_true rfl, Nat.le_of_ble_eq_true rfl⟩ rfl hl.1 rfl (Nat.le_of_ble_eq_true rfl) dn_Design_sumUp_59 ⟨Nat.le_of_ble_eq_true rfl, Nat.le_of_ble_eq_true rfl⟩) hP hD hS hA (fun r_5 _ H locs hw hP hD hS => ?_)
          have hw : r_5 = q_3.1 := hw
          subst hw
          refine lv_istore_n (lv' := [(3, .int q_3.1), (0, .ref ((a 113))), (1, .int x1), (2, .int x2), (4, .int x4)]) hx hb dn_Design_sumUp_62 rfl hl (by decide) rfl (fun ls hl => ?_)
          refine lv_iinc (v := (x4 + 1)) (lv' := [(4, .int ((x4 + 1))), (3, .int q_3.1), (0, .ref ((a 113))), (1, .int x1), (2, .int x2)]) hx hb dn_Design_sumUp_63 hl (k := 4) rfl (dc_inc (by decide)) (by decide) rfl (fun ls hl => ?_)
          refine lv_goto (tgt := 22) hx hb dn_Design_sumUp_66 (by decide) ?_
          exact hk_22 x1 x2 q_3.1 ((x4 + 1)) q_3.2 hf H locs ls hP hD hS (lv_sub hl [2, 3, 4, 1, 0] rfl)
  intro H locs ls hP hD hS hl
  unfold fn_Design_sumUp_Dc at hf
  refine lv_aload_n hx hb dn_Design_sumUp_0 rfl (lv_at hl 0 rfl) ?_
  refine va_get (D := (dC, dI)) (ci := 10) (v := .int ((s.1 359 0))) (C := rn_Design) (T := fn_Design) (N := 16) hx hb hg in_Design hown hK hP 13 rfl rfl 4 (by decide) (hg _ wn_3_10) (fun _ h9 => h9) rfl dn_Design_sumUp_1 ?_
  refine lv_iconst (v := 1) hx hb dn_Design_sumUp_4 (by decide) ?_
  refine lv_isub hx hb dn_Design_sumUp_5 ?_
  refine lv_istore_n (lv' := [(2, .int (((s.1 359 0) - 1))), (0, .ref ((a 113))), (1, .int v1)]) hx hb dn_Design_sumUp_6 rfl hl (by decide) rfl (fun ls hl => ?_)
  refine lv_iload_n hx hb dn_Design_sumUp_7 rfl (lv_at hl 0 rfl) ?_
  refine lv_if_ge (tgt := 12) hx hb dn_Design_sumUp_8 (by decide) (fun h => ?_) (fun h => ?_)
  · have hf := (if_pos h).symm.trans hf
    refine lv_iconst (v := 0) hx hb dn_Design_sumUp_12 (by decide) ?_
    refine lv_istore_n (lv' := [(3, .int 0), (2, .int (((s.1 359 0) - 1))), (0, .ref ((a 113))), (1, .int v1)]) hx hb dn_Design_sumUp_13 rfl hl (by decide) rfl (fun ls hl => ?_)
    refine lv_aload_n hx hb dn_Design_sumUp_14 rfl (lv_at hl 2 rfl) ?_
    refine va_get (D := (dC, dI)) (ci := 10) (v := .ref ((a 362))) (C := rn_Design) (T := fn_Design) (N := 16) hx hb hg in_Design hown hK hP 13 rfl rfl 7 (by decide) (hg _ wn_3_16) (fun _ h9 => h9) rfl dn_Design_sumUp_15 ?_
    refine lv_iload_n hx hb dn_Design_sumUp_18 rfl (lv_at hl 1 rfl) ?_
    obtain ⟨hg_1, hf⟩ := dc_g hf
    refine va_iald hx hb hK hP 88 0 rfl rfl hg_1 dn_Design_sumUp_19 ?_
    refine xk_ti (y := ((s.1 362) (Int32.toNatClampNeg (((s.1 359 0) - 1))))) rfl ?_
    refine lv_istore (lv' := [(4, .int (((s.1 362) (Int32.toNatClampNeg (((s.1 359 0) - 1)))))), (3, .int 0), (2, .int (((s.1 359 0) - 1))), (0, .ref ((a 113))), (1, .int v1)]) hx hb dn_Design_sumUp_20 hl (by decide) rfl (fun ls hl => ?_)
    exact hd_22 N v1 (((s.1 359 0) - 1)) 0 (((s.1 362) (Int32.toNatClampNeg (((s.1 359 0) - 1))))) s hf H locs ls hP hD hS (lv_sub hl [3, 4, 2, 1, 0] rfl)
  · have hf := (if_neg h).symm.trans hf
    rw [hQQ, ← Option.some.inj hf]
    exact xk_vret (w1 := fun u : Unit => (wC a v cI cB cJ cZ cQ s)) () hx hb hr hlocks hK hS dn_Design_sumUp_11 hP hD trivial (Nat.le_refl _) (Nat.le_refl _)
set_option maxHeartbeats 8000000 in
set_option maxRecDepth 100000 in
theorem ct_Checker_declCalled_Ch (l : Launch) (dC : Nat → ClassId) (dI : Nat → Nat → Nat) (cI cB cJ cZ cQ : ClassId) (N sz : Nat) (a : Nat → Nat) (v : Nat → Value) (v1 : Int32) (v2 : Int32) (v3 : Int32) (s : ms) (y : (Int32 × ms)) (hf : fn_Checker_declCalled_Ch N v1 v2 v3 s = some y) : Met l yn_Checker_declCalled (xw yn_Checker_declCalled bn_Checker_declCalled 5 (some .int)) ({ frames := 1, cells := 0, slots := 0, locals := 40 }) (dc_P (dC, dI) xcl (xt cI cB cJ cZ cQ) [.ref ((a 103)), .int v1, .int v2, .int v3] sz (wC a v cI cB cJ cZ cQ s)) (xk_Qi (dC, dI) xcl (xt cI cB cJ cZ cQ) (fun (r : Int32) (_ : Unit) => r = y.1) (fun u : Unit => (wC a v cI cB cJ cZ cQ y.2)) (va_A (wC a v cI cB cJ cZ cQ s) sz)) 0 0 (va_A (wC a v cI cB cJ cZ cQ s) sz) := by
  refine dc_of (QA := xk_Qi (dC, dI) xcl (xt cI cB cJ cZ cQ) (fun (r : Int32) (_ : Unit) => r = y.1) (fun u : Unit => (wC a v cI cB cJ cZ cQ y.2))) (by decide) (Nat.le_of_ble_eq_true rfl) ?_
  intro p e s0 m below meth c hx hb hml hown hg hr hlocks hin hP hK hN A hA hD hT ls hl
  have hown : s0.vm.findClass rn_Checker = some m.cls := hown
  obtain ⟨H, hH⟩ : ∃ z, z = s0.heap := ⟨_, rfl⟩
  rw [← hH] at hP
  have hS : va_S A s0.heap H [] := by rw [hH]; exact va_S.rf
  suffices kk : ∀ QQ : State → Prop, QQ = MQ below (xk_Qi (dC, dI) xcl (xt cI cB cJ cZ cQ) (fun (r : Int32) (_ : Unit) => r = y.1) (fun u : Unit => (wC a v cI cB cJ cZ cQ y.2)) A) [.ref ((a 103)), .int v1, .int v2, .int v3].toArray s0 0 0 A → dcC p l e ({ frames := 1, cells := 0, slots := 0, locals := 40 }) s0 m [.ref ((a 103)), .int v1, .int v2, .int v3].toArray below meth c QQ (dC, dI) A (wC a v cI cB cJ cZ cQ s) 0 5 [(0, .ref ((a 103))), (1, .int v1), (2, .int v2), (3, .int v3)] [] by
    have k9 := kk _ rfl H [] ls hP hD hS hl
    rw [hH] at k9; exact k9
  clear hP hD hS hl hH H ls
  intro QQ hQQ
  have hd_7 : ∀ (n : Nat) (x1 : Int32) (x3 : Int32) (x4 : Int32) (s : ms), hd_Checker_declCalled_Ch_7 N n x1 x3 x4 s = some y → dcC p l e ({ frames := 1, cells := 0, slots := 0, locals := 40 }) s0 m [.ref ((a 103)), .int v1, .int v2, .int v3].toArray below meth c QQ (dC, dI) A (wC a v cI cB cJ cZ cQ s) 7 5 [(0, .ref ((a 103))), (1, .int x1), (3, .int x3), (4, .int x4)] [] := by
    intro n
    induction n with
    | zero => intro x1 x3 x4 s hf; cases hf
    | succ n ih =>
      intro x1 x3 x4 s hf H locs ls hP hD hS hl
      have hf : bd_Checker_declCalled_Ch_7 N (hd_Checker_declCalled_Ch_7 N n) x1 x3 x4 s = some y := hf
      have hk_7 := ih
      generalize hd_Checker_declCalled_Ch_7 N n = k_7 at hf hk_7
      unfold bd_Checker_declCalled_Ch_7 at hf
      refine lv_iload hx hb dn_Checker_declCalled_7 (lv_at hl 3 rfl) ?_
      refine lv_iload_n hx hb dn_Checker_declCalled_9 rfl (lv_at hl 2 rfl) ?_
      refine lv_icmp_ge (tgt := 43) hx hb dn_Checker_declCalled_10 (by decide) (fun h => ?_) (fun h => ?_)
      · have hf := (if_pos h).symm.trans hf
        refine lv_iconst (v := (-1)) hx hb dn_Checker_declCalled_43 (by decide) ?_
        rw [hQQ, ← Option.some.inj hf]
        exact xk_iret (w1 := fun u : Unit => (wC a v cI cB cJ cZ cQ s)) () hx hb hr hlocks hK hS dn_Checker_declCalled_44 hP hD rfl (Nat.le_refl _) (Nat.le_refl _)
      · have hf := (if_neg h).symm.trans hf
        refine lv_iload hx hb dn_Checker_declCalled_13 (lv_at hl 3 rfl) ?_
        refine lv_aload_n hx hb dn_Checker_declCalled_15 rfl (lv_at hl 0 rfl) ?_
        refine va_get (D := (dC, dI)) (ci := 4) (v := .ref ((a 237))) (C := rn_Checker) (T := fn_Checker) (N := 15) hx hb hg in_Checker hown hK hP 3 rfl rfl 8 (by decide) (hg _ wn_1_134) (fun _ h9 => h9) rfl dn_Checker_declCalled_16 ?_
        refine va_alen (v := 10923) hx hb hK hP 24 0 rfl rfl rfl dn_Checker_declCalled_19 ?_
        refine lv_icmp_ge (tgt := 43) hx hb dn_Checker_declCalled_20 (by decide) (fun h => ?_) (fun h => ?_)
        · have hf := (if_pos h).symm.trans hf
          refine lv_iconst (v := (-1)) hx hb dn_Checker_declCalled_43 (by decide) ?_
          rw [hQQ, ← Option.some.inj hf]
          exact xk_iret (w1 := fun u : Unit => (wC a v cI cB cJ cZ cQ s)) () hx hb hr hlocks hK hS dn_Checker_declCalled_44 hP hD rfl (Nat.le_refl _) (Nat.le_refl _)
        · have hf := (if_neg h).symm.trans hf
          refine lv_aload_n hx hb dn_Checker_declCalled_23 rfl (lv_at hl 0 rfl) ?_
          refine va_get (D := (dC, dI)) (ci := 4) (v := .ref ((a 237))) (C := rn_Checker) (T := fn_Checker) (N := 15) hx hb hg in_Checker hown hK hP 3 rfl rfl 8 (by decide) (hg _ wn_1_134) (fun _ h9 => h9) rfl dn_Checker_declCalled_24 ?_
          refine lv_iload hx hb dn_Checker_declCalled_27 (lv_at hl 3 rfl) ?_
          obtain ⟨hg_1, hf⟩ := dc_g hf
          refine va_iald hx hb hK hP 24 0 rfl rfl hg_1 dn_Checker_declCalled_29 ?_
          refine xk_ti (y := ((s.1 237) (Int32.toNatClampNeg x4))) rfl ?_
          refine lv_iload_n hx hb dn_Checker_declCalled_30 rfl (lv_at hl 1 rfl) ?_
          refine lv_icmp_ne (tgt := 37) hx hb dn_Checker_declCalled_31 (by decide) (fun h => ?_) (fun h => ?_)
          · have hf := (if_neg h).symm.trans hf
            refine lv_iinc (v := (x4 + 1)) (lv' := [(4, .int ((x4 + 1))), (0, .ref ((a 103))), (1, .int x1), (3, .int x3)]) hx hb dn_Checker_declCalled_37 hl (k := 3) rfl (dc_inc (by decide)) (by decide) rfl (fun ls hl => ?_)
            refine lv_goto (tgt := 7) hx hb dn_Checker_declCalled_40 (by decide) ?_
            exact hk_7 x1 x3 ((x4 + 1)) s hf H locs ls hP hD hS (lv_sub hl [1, 2, 3, 0] rfl)
          · have hf := (if_pos h).symm.trans hf
            refine lv_iload hx hb dn_Checker_declCalled_34 (lv_at hl 3 rfl) ?_
            rw [hQQ, ← Option.some.inj hf]
            exact xk_iret (w1 := fun u : Unit => (wC a v cI cB cJ cZ cQ s)) () hx hb hr hlocks hK hS dn_Checker_declCalled_36 hP hD rfl (Nat.le_refl _) (Nat.le_refl _)
  intro H locs ls hP hD hS hl
  unfold fn_Checker_declCalled_Ch at hf
  refine lv_iload_n hx hb dn_Checker_declCalled_0 rfl (lv_at hl 2 rfl) ?_
  refine lv_iconst (v := 0) hx hb dn_Checker_declCalled_1 (by decide) ?_
  refine va_mmax (x := v2) (y := 0) (rest := []) hx hb (by rw [hml]; exact hl.1.symm) hown (hg _ wn_5_132) (hg _ wn_4_99) (hg _ wn_1_19) (hg _ wn_4_100) (Nat.le_of_ble_eq_true rfl) (Nat.le_of_ble_eq_true rfl) (Nat.zero_le _) (Nat.zero_le _) dn_Checker_declCalled_2 ?_
  refine lv_istore (lv' := [(4, .int ((if v2 < 0 then 0 else v2))), (0, .ref ((a 103))), (1, .int v1), (2, .int v2), (3, .int v3)]) hx hb dn_Checker_declCalled_5 hl (by decide) rfl (fun ls hl => ?_)
  exact hd_7 N v1 v3 ((if v2 < 0 then 0 else v2)) s hf H locs ls hP hD hS (lv_sub hl [1, 2, 4, 0] rfl)
set_option maxHeartbeats 8000000 in
set_option maxRecDepth 100000 in
theorem ct_Parts_isLinked_Ps (l : Launch) (dC : Nat → ClassId) (dI : Nat → Nat → Nat) (cI cB cJ cZ cQ : ClassId) (N sz : Nat) (a : Nat → Nat) (v : Nat → Value) (v1 : Int32) (v2 : Int32) (s : ms) (y : (Int32 × ms)) (hf : fn_Parts_isLinked_Ps N v1 v2 s = some y) : Met l yn_Parts_isLinked (xw yn_Parts_isLinked bn_Parts_isLinked 4 (some .boolean)) ({ frames := 0, cells := 0, slots := 0, locals := 0 }) (dc_P (dC, dI) xcl (xt cI cB cJ cZ cQ) [.ref ((a 110)), .int v1, .int v2] sz (wC a v cI cB cJ cZ cQ s)) (xk_Qi (dC, dI) xcl (xt cI cB cJ cZ cQ) (fun (r : Int32) (_ : Unit) => r = y.1) (fun u : Unit => (wC a v cI cB cJ cZ cQ y.2)) (va_A (wC a v cI cB cJ cZ cQ s) sz)) 0 0 (va_A (wC a v cI cB cJ cZ cQ s) sz) := by
  refine dc_of (QA := xk_Qi (dC, dI) xcl (xt cI cB cJ cZ cQ) (fun (r : Int32) (_ : Unit) => r = y.1) (fun u : Unit => (wC a v cI cB cJ cZ cQ y.2))) (by decide) (Nat.le_of_ble_eq_true rfl) ?_
  intro p e s0 m below meth c hx hb hml hown hg hr hlocks hin hP hK hN A hA hD hT ls hl
  have hown : s0.vm.findClass rn_Parts = some m.cls := hown
  obtain ⟨H, hH⟩ : ∃ z, z = s0.heap := ⟨_, rfl⟩
  rw [← hH] at hP
  have hS : va_S A s0.heap H [] := by rw [hH]; exact va_S.rf
  suffices kk : ∀ QQ : State → Prop, QQ = MQ below (xk_Qi (dC, dI) xcl (xt cI cB cJ cZ cQ) (fun (r : Int32) (_ : Unit) => r = y.1) (fun u : Unit => (wC a v cI cB cJ cZ cQ y.2)) A) [.ref ((a 110)), .int v1, .int v2].toArray s0 0 0 A → dcC p l e ({ frames := 0, cells := 0, slots := 0, locals := 0 }) s0 m [.ref ((a 110)), .int v1, .int v2].toArray below meth c QQ (dC, dI) A (wC a v cI cB cJ cZ cQ s) 0 4 [(0, .ref ((a 110))), (1, .int v1), (2, .int v2)] [] by
    have k9 := kk _ rfl H [] ls hP hD hS hl
    rw [hH] at k9; exact k9
  clear hP hD hS hl hH H ls
  intro QQ hQQ
  have hd_7 : ∀ (n : Nat) (x2 : Int32) (x3 : Int32) (s : ms), hd_Parts_isLinked_Ps_7 N n x2 x3 s = some y → dcC p l e ({ frames := 0, cells := 0, slots := 0, locals := 0 }) s0 m [.ref ((a 110)), .int v1, .int v2].toArray below meth c QQ (dC, dI) A (wC a v cI cB cJ cZ cQ s) 7 4 [(0, .ref ((a 110))), (2, .int x2), (3, .int x3)] [] := by
    intro n
    induction n with
    | zero => intro x2 x3 s hf; cases hf
    | succ n ih =>
      intro x2 x3 s hf H locs ls hP hD hS hl
      have hf : bd_Parts_isLinked_Ps_7 N (hd_Parts_isLinked_Ps_7 N n) x2 x3 s = some y := hf
      have hk_7 := ih
      generalize hd_Parts_isLinked_Ps_7 N n = k_7 at hf hk_7
      unfold bd_Parts_isLinked_Ps_7 at hf
      refine lv_iload_n hx hb dn_Parts_isLinked_7 rfl (lv_at hl 2 rfl) ?_
      refine lv_aload_n hx hb dn_Parts_isLinked_8 rfl (lv_at hl 0 rfl) ?_
      refine va_get (D := (dC, dI)) (ci := 11) (v := .int ((s.1 332 0))) (C := rn_Parts) (T := fn_Parts) (N := 15) hx hb hg in_Parts hown hK hP 10 rfl rfl 11 (by decide) (hg _ wn_2_162) (fun _ h9 => h9) rfl dn_Parts_isLinked_9 ?_
      refine lv_icmp_ge (tgt := 33) hx hb dn_Parts_isLinked_12 (by decide) (fun h => ?_) (fun h => ?_)
      · have hf := (if_pos h).symm.trans hf
        refine lv_iconst (v := 0) hx hb dn_Parts_isLinked_33 (by decide) ?_
        rw [hQQ, ← Option.some.inj hf]
        exact xk_zret (w1 := fun u : Unit => (wC a v cI cB cJ cZ cQ s)) () hx hb hr rfl hlocks hK hS dn_Parts_isLinked_34 hP hD rfl (Nat.le_refl _) (Nat.le_refl _)
      · have hf := (if_neg h).symm.trans hf
        refine lv_aload_n hx hb dn_Parts_isLinked_15 rfl (lv_at hl 0 rfl) ?_
        refine va_get (D := (dC, dI)) (ci := 11) (v := .ref ((a 333))) (C := rn_Parts) (T := fn_Parts) (N := 15) hx hb hg in_Parts hown hK hP 10 rfl rfl 12 (by decide) (hg _ wn_2_164) (fun _ h9 => h9) rfl dn_Parts_isLinked_16 ?_
        refine lv_iload_n hx hb dn_Parts_isLinked_19 rfl (lv_at hl 2 rfl) ?_
        obtain ⟨hg_1, hf⟩ := dc_g hf
        refine va_iald hx hb hK hP 70 0 rfl rfl hg_1 dn_Parts_isLinked_20 ?_
        refine xk_ti (y := ((s.1 333) (Int32.toNatClampNeg x3))) rfl ?_
        refine lv_iload_n hx hb dn_Parts_isLinked_21 rfl (lv_at hl 1 rfl) ?_
        refine lv_icmp_ne (tgt := 27) hx hb dn_Parts_isLinked_22 (by decide) (fun h => ?_) (fun h => ?_)
        · have hf := (if_neg h).symm.trans hf
          refine lv_iinc (v := (x3 + 1)) (lv' := [(3, .int ((x3 + 1))), (0, .ref ((a 110))), (2, .int x2)]) hx hb dn_Parts_isLinked_27 hl (k := 2) rfl (dc_inc (by decide)) (by decide) rfl (fun ls hl => ?_)
          refine lv_goto (tgt := 7) hx hb dn_Parts_isLinked_30 (by decide) ?_
          exact hk_7 x2 ((x3 + 1)) s hf H locs ls hP hD hS (lv_sub hl [1, 2, 0] rfl)
        · have hf := (if_pos h).symm.trans hf
          refine lv_iconst (v := 1) hx hb dn_Parts_isLinked_25 (by decide) ?_
          rw [hQQ, ← Option.some.inj hf]
          exact xk_zret (w1 := fun u : Unit => (wC a v cI cB cJ cZ cQ s)) () hx hb hr rfl hlocks hK hS dn_Parts_isLinked_26 hP hD rfl (Nat.le_refl _) (Nat.le_refl _)
  intro H locs ls hP hD hS hl
  unfold fn_Parts_isLinked_Ps at hf
  refine lv_aload_n hx hb dn_Parts_isLinked_0 rfl (lv_at hl 0 rfl) ?_
  refine va_get (D := (dC, dI)) (ci := 11) (v := .ref ((a 331))) (C := rn_Parts) (T := fn_Parts) (N := 15) hx hb hg in_Parts hown hK hP 10 rfl rfl 10 (by decide) (hg _ wn_2_159) (fun _ h9 => h9) rfl dn_Parts_isLinked_1 ?_
  refine lv_iload_n hx hb dn_Parts_isLinked_4 rfl (lv_at hl 1 rfl) ?_
  obtain ⟨hg_1, hf⟩ := dc_g hf
  refine va_iald hx hb hK hP 69 0 rfl rfl hg_1 dn_Parts_isLinked_5 ?_
  refine xk_ti (y := ((s.1 331) (Int32.toNatClampNeg v1))) rfl ?_
  refine lv_istore_n (lv' := [(3, .int (((s.1 331) (Int32.toNatClampNeg v1)))), (0, .ref ((a 110))), (1, .int v1), (2, .int v2)]) hx hb dn_Parts_isLinked_6 rfl hl (by decide) rfl (fun ls hl => ?_)
  exact hd_7 N v2 (((s.1 331) (Int32.toNatClampNeg v1))) s hf H locs ls hP hD hS (lv_sub hl [1, 3, 0] rfl)
set_option maxHeartbeats 8000000 in
set_option maxRecDepth 100000 in
theorem ct_Parts_addLink_Ps (l : Launch) (dC : Nat → ClassId) (dI : Nat → Nat → Nat) (cI cB cJ cZ cQ : ClassId) (N sz : Nat) (a : Nat → Nat) (v : Nat → Value) (v1 : Int32) (s : ms) (y : (Unit × ms)) (hf : fn_Parts_addLink_Ps N v1 s = some y) : Met l yn_Parts_addLink (xw yn_Parts_addLink bn_Parts_addLink 2 none) ({ frames := 0, cells := 0, slots := 0, locals := 0 }) (dc_P (dC, dI) xcl (xt cI cB cJ cZ cQ) [.ref ((a 110)), .int v1] sz (wC a v cI cB cJ cZ cQ s)) (xk_Qv (dC, dI) xcl (xt cI cB cJ cZ cQ) (fun _ : Unit => True) (fun u : Unit => (wC a v cI cB cJ cZ cQ y.2)) (va_A (wC a v cI cB cJ cZ cQ s) sz)) 0 0 (va_A (wC a v cI cB cJ cZ cQ s) sz) := by
  refine dc_of (QA := xk_Qv (dC, dI) xcl (xt cI cB cJ cZ cQ) (fun _ : Unit => True) (fun u : Unit => (wC a v cI cB cJ cZ cQ y.2))) (by decide) (Nat.le_of_ble_eq_true rfl) ?_
  intro p e s0 m below meth c hx hb hml hown hg hr hlocks hin hP hK hN A hA hD hT ls hl
  have hown : s0.vm.findClass rn_Parts = some m.cls := hown
  obtain ⟨H, hH⟩ : ∃ z, z = s0.heap := ⟨_, rfl⟩
  rw [← hH] at hP
  have hS : va_S A s0.heap H [] := by rw [hH]; exact va_S.rf
  suffices kk : ∀ QQ : State → Prop, QQ = MQ below (xk_Qv (dC, dI) xcl (xt cI cB cJ cZ cQ) (fun _ : Unit => True) (fun u : Unit => (wC a v cI cB cJ cZ cQ y.2)) A) [.ref ((a 110)), .int v1].toArray s0 0 0 A → dcC p l e ({ frames := 0, cells := 0, slots := 0, locals := 0 }) s0 m [.ref ((a 110)), .int v1].toArray below meth c QQ (dC, dI) A (wC a v cI cB cJ cZ cQ s) 0 2 [(0, .ref ((a 110))), (1, .int v1)] [] by
    have k9 := kk _ rfl H [] ls hP hD hS hl
    rw [hH] at k9; exact k9
  clear hP hD hS hl hH H ls
  intro QQ hQQ
  intro H locs ls hP hD hS hl
  unfold fn_Parts_addLink_Ps at hf
  refine lv_aload_n hx hb dn_Parts_addLink_0 rfl (lv_at hl 0 rfl) ?_
  refine va_get (D := (dC, dI)) (ci := 11) (v := .int ((s.1 332 0))) (C := rn_Parts) (T := fn_Parts) (N := 15) hx hb hg in_Parts hown hK hP 10 rfl rfl 11 (by decide) (hg _ wn_2_162) (fun _ h9 => h9) rfl dn_Parts_addLink_1 ?_
  refine lv_sipush (v := 10923) hx hb dn_Parts_addLink_4 (by decide) ?_
  refine lv_icmp_lt (tgt := 11) hx hb dn_Parts_addLink_7 (by decide) (fun h => ?_) (fun h => ?_)
  · have hf := (if_pos h).symm.trans hf
    refine lv_aload_n hx hb dn_Parts_addLink_11 rfl (lv_at hl 0 rfl) ?_
    refine va_get (D := (dC, dI)) (ci := 11) (v := .ref ((a 333))) (C := rn_Parts) (T := fn_Parts) (N := 15) hx hb hg in_Parts hown hK hP 10 rfl rfl 12 (by decide) (hg _ wn_2_164) (fun _ h9 => h9) rfl dn_Parts_addLink_12 ?_
    refine lv_aload_n hx hb dn_Parts_addLink_15 rfl (lv_at hl 0 rfl) ?_
    refine va_get (D := (dC, dI)) (ci := 11) (v := .int ((s.1 332 0))) (C := rn_Parts) (T := fn_Parts) (N := 15) hx hb hg in_Parts hown hK hP 10 rfl rfl 11 (by decide) (hg _ wn_2_162) (fun _ h9 => h9) rfl dn_Parts_addLink_16 ?_
    refine lv_iload_n hx hb dn_Parts_addLink_19 rfl (lv_at hl 1 rfl) ?_
    obtain ⟨hg_1, hf⟩ := dc_g hf
    refine va_iast hx hb hK hP hD hS 70 0 rfl rfl hg_1 dn_Parts_addLink_20 (fun H locs hP hD hS => ?_)
    have hP : va_P (dC, dI) xcl ((wC a v cI cB cJ cZ cQ s).set 70 ((a 333), .inl (cI, 10923, .inl (upd (s.1 333) (Int32.toNatClampNeg ((s.1 332 0))) v1)))) H := hP
    have hD : va_D A ((wC a v cI cB cJ cZ cQ s).set 70 ((a 333), .inl (cI, 10923, .inl (upd (s.1 333) (Int32.toNatClampNeg ((s.1 332 0))) v1)))) := hD
    have hP := wC_P_333 hP
    have hD := wC_D_333 hD
    refine lv_aload_n hx hb dn_Parts_addLink_21 rfl (lv_at hl 0 rfl) ?_
    refine va_get (D := (dC, dI)) (ci := 11) (v := .ref ((a 334))) (C := rn_Parts) (T := fn_Parts) (N := 15) hx hb hg in_Parts hown hK hP 10 rfl rfl 13 (by decide) (hg _ wn_2_166) (fun _ h9 => h9) rfl dn_Parts_addLink_22 ?_
    refine lv_aload_n hx hb dn_Parts_addLink_25 rfl (lv_at hl 0 rfl) ?_
    refine va_get (D := (dC, dI)) (ci := 11) (v := .int ((s.1 332 0))) (C := rn_Parts) (T := fn_Parts) (N := 15) hx hb hg in_Parts hown hK hP 10 rfl rfl 11 (by decide) (hg _ wn_2_162) (fun _ h9 => h9) rfl dn_Parts_addLink_26 ?_
    refine lv_iconst (v := (-1)) hx hb dn_Parts_addLink_29 (by decide) ?_
    obtain ⟨hg_2, hf⟩ := dc_g hf
    refine va_iast hx hb hK hP hD hS 71 0 rfl rfl hg_2 dn_Parts_addLink_30 (fun H locs hP hD hS => ?_)
    have hP : va_P (dC, dI) xcl ((wC a v cI cB cJ cZ cQ (upI s 333 (upd (s.1 333) (Int32.toNatClampNeg ((s.1 332 0))) v1))).set 71 ((a 334), .inl (cI, 10923, .inl (upd (s.1 334) (Int32.toNatClampNeg ((s.1 332 0))) ((-1)))))) H := hP
    have hD : va_D A ((wC a v cI cB cJ cZ cQ (upI s 333 (upd (s.1 333) (Int32.toNatClampNeg ((s.1 332 0))) v1))).set 71 ((a 334), .inl (cI, 10923, .inl (upd (s.1 334) (Int32.toNatClampNeg ((s.1 332 0))) ((-1)))))) := hD
    have hP := wC_P_334 hP
    have hD := wC_D_334 hD
    refine lv_aload_n hx hb dn_Parts_addLink_31 rfl (lv_at hl 0 rfl) ?_
    refine va_get (D := (dC, dI)) (ci := 11) (v := .ref ((a 335))) (C := rn_Parts) (T := fn_Parts) (N := 15) hx hb hg in_Parts hown hK hP 10 rfl rfl 14 (by decide) (hg _ wn_2_169) (fun _ h9 => h9) rfl dn_Parts_addLink_32 ?_
    refine lv_aload_n hx hb dn_Parts_addLink_35 rfl (lv_at hl 0 rfl) ?_
    refine va_get (D := (dC, dI)) (ci := 11) (v := .int ((s.1 332 0))) (C := rn_Parts) (T := fn_Parts) (N := 15) hx hb hg in_Parts hown hK hP 10 rfl rfl 11 (by decide) (hg _ wn_2_162) (fun _ h9 => h9) rfl dn_Parts_addLink_36 ?_
    refine lv_iconst (v := (-1)) hx hb dn_Parts_addLink_39 (by decide) ?_
    obtain ⟨hg_3, hf⟩ := dc_g hf
    refine va_iast hx hb hK hP hD hS 72 0 rfl rfl hg_3 dn_Parts_addLink_40 (fun H locs hP hD hS => ?_)
    have hP : va_P (dC, dI) xcl ((wC a v cI cB cJ cZ cQ (upI (upI s 333 (upd (s.1 333) (Int32.toNatClampNeg ((s.1 332 0))) v1)) 334 (upd (s.1 334) (Int32.toNatClampNeg ((s.1 332 0))) ((-1))))).set 72 ((a 335), .inl (cI, 10923, .inl (upd (s.1 335) (Int32.toNatClampNeg ((s.1 332 0))) ((-1)))))) H := hP
    have hD : va_D A ((wC a v cI cB cJ cZ cQ (upI (upI s 333 (upd (s.1 333) (Int32.toNatClampNeg ((s.1 332 0))) v1)) 334 (upd (s.1 334) (Int32.toNatClampNeg ((s.1 332 0))) ((-1))))).set 72 ((a 335), .inl (cI, 10923, .inl (upd (s.1 335) (Int32.toNatClampNeg ((s.1 332 0))) ((-1)))))) := hD
    have hP := wC_P_335 hP
    have hD := wC_D_335 hD
    refine lv_aload_n hx hb dn_Parts_addLink_41 rfl (lv_at hl 0 rfl) ?_
    refine lv_dup hx hb dn_Parts_addLink_42 rfl ?_
    refine va_get (D := (dC, dI)) (ci := 11) (v := .int ((s.1 332 0))) (C := rn_Parts) (T := fn_Parts) (N := 15) hx hb hg in_Parts hown hK hP 10 rfl rfl 11 (by decide) (hg _ wn_2_162) (fun _ h9 => h9) rfl dn_Parts_addLink_43 ?_
    refine lv_iconst (v := 1) hx hb dn_Parts_addLink_46 (by decide) ?_
    refine lv_iadd hx hb dn_Parts_addLink_47 ?_
    refine va_put (D := (dC, dI)) (ci := 11) (v := .int (((s.1 332 0) + 1))) (ty := .int) (C := rn_Parts) (T := fn_Parts) (N := 15) hx hb hg in_Parts tn_Parts tk_Parts nn_Parts hown hK hP hD hS 10 rfl rfl 11 (by decide) (hg _ wn_2_162) (fun _ h9 => h9) rfl (tk_Parts 11 (by decide)) rfl rfl (Nat.le_of_ble_eq_true rfl) dn_Parts_addLink_48 (fun H locs hP hD hS => ?_)
    have hP := wC_P_332 hP
    have hD := wC_D_332 hD
    rw [hQQ, ← Option.some.inj hf]
    exact xk_vret (w1 := fun u : Unit => (wC a v cI cB cJ cZ cQ (upI (upI (upI (upI s 333 (upd (s.1 333) (Int32.toNatClampNeg ((s.1 332 0))) v1)) 334 (upd (s.1 334) (Int32.toNatClampNeg ((s.1 332 0))) ((-1)))) 335 (upd (s.1 335) (Int32.toNatClampNeg ((s.1 332 0))) ((-1)))) 332 (fun _ => ((s.1 332 0) + 1))))) () hx hb hr hlocks hK hS dn_Parts_addLink_51 hP hD trivial (Nat.le_refl _) (Nat.le_refl _)
  · have hf := (if_neg h).symm.trans hf
    rw [hQQ, ← Option.some.inj hf]
    exact xk_vret (w1 := fun u : Unit => (wC a v cI cB cJ cZ cQ s)) () hx hb hr hlocks hK hS dn_Parts_addLink_10 hP hD trivial (Nat.le_refl _) (Nat.le_refl _)
set_option maxHeartbeats 8000000 in
set_option maxRecDepth 100000 in
theorem ct_Meaning_linkTo_Me (l : Launch) (dC : Nat → ClassId) (dI : Nat → Nat → Nat) (cI cB cJ cZ cQ : ClassId) (N sz : Nat) (a : Nat → Nat) (v : Nat → Value) (hv_4 : v 4 = .ref (a 109)) (hv_5 : v 5 = .ref (a 110)) (v1 : Int32) (v2 : Int32) (s : ms) (y : (Unit × ms)) (hf : fn_Meaning_linkTo_Me N v1 v2 s = some y) : Met l yn_Meaning_linkTo (xw yn_Meaning_linkTo bn_Meaning_linkTo 6 none) ({ frames := 2, cells := 0, slots := 0, locals := 64 }) (dc_P (dC, dI) xcl (xt cI cB cJ cZ cQ) [.ref ((a 104)), .int v1, .int v2] sz (wC a v cI cB cJ cZ cQ s)) (xk_Qv (dC, dI) xcl (xt cI cB cJ cZ cQ) (fun _ : Unit => True) (fun u : Unit => (wC a v cI cB cJ cZ cQ y.2)) (va_A (wC a v cI cB cJ cZ cQ s) sz)) 0 0 (va_A (wC a v cI cB cJ cZ cQ s) sz) := by
  refine dc_of (QA := xk_Qv (dC, dI) xcl (xt cI cB cJ cZ cQ) (fun _ : Unit => True) (fun u : Unit => (wC a v cI cB cJ cZ cQ y.2))) (by decide) (Nat.le_of_ble_eq_true rfl) ?_
  intro p e s0 m below meth c hx hb hml hown hg hr hlocks hin hP hK hN A hA hD hT ls hl
  have hown : s0.vm.findClass rn_Meaning = some m.cls := hown
  obtain ⟨H, hH⟩ : ∃ z, z = s0.heap := ⟨_, rfl⟩
  rw [← hH] at hP
  have hS : va_S A s0.heap H [] := by rw [hH]; exact va_S.rf
  suffices kk : ∀ QQ : State → Prop, QQ = MQ below (xk_Qv (dC, dI) xcl (xt cI cB cJ cZ cQ) (fun _ : Unit => True) (fun u : Unit => (wC a v cI cB cJ cZ cQ y.2)) A) [.ref ((a 104)), .int v1, .int v2].toArray s0 0 0 A → dcC p l e ({ frames := 2, cells := 0, slots := 0, locals := 64 }) s0 m [.ref ((a 104)), .int v1, .int v2].toArray below meth c QQ (dC, dI) A (wC a v cI cB cJ cZ cQ s) 0 6 [(0, .ref ((a 104))), (1, .int v1), (2, .int v2)] [] by
    have k9 := kk _ rfl H [] ls hP hD hS hl
    rw [hH] at k9; exact k9
  clear hP hD hS hl hH H ls
  intro QQ hQQ
  have bl_100 : ∀ (x2 : Int32) (s : ms), bk_Meaning_linkTo_Me_100 N x2 s = some y → dcC p l e ({ frames := 2, cells := 0, slots := 0, locals := 64 }) s0 m [.ref ((a 104)), .int v1, .int v2].toArray below meth c QQ (dC, dI) A (wC a v cI cB cJ cZ cQ s) 100 6 [(0, .ref ((a 104))), (2, .int x2)] [] := by
    intro x2 s hf H locs ls hP hD hS hl
    unfold bk_Meaning_linkTo_Me_100 at hf
    refine lv_aload_n hx hb dn_Meaning_linkTo_100 rfl (lv_at hl 0 rfl) ?_
    refine va_get (D := (dC, dI)) (ci := 5) (v := .ref ((a 103))) (C := rn_Meaning) (T := fn_Meaning) (N := 17) hx hb hg in_Meaning hown hK hP 4 rfl rfl 0 (by decide) (hg _ wn_1_184) (fun _ h9 => h9) rfl dn_Meaning_linkTo_101 ?_
    refine lv_bipush (v := 23) hx hb dn_Meaning_linkTo_104 (by decide) ?_
    refine lv_iload_n hx hb dn_Meaning_linkTo_106 rfl (lv_at hl 1 rfl) ?_
    obtain ⟨q_1, hc_2, hf⟩ := dc_b hf
    refine dc_callv (dc_runV (ar := 2) (As := [.int 23, .int x2]) (rest := []) (ci := 4) (q0 := 3) ⟨hx, hb, hml, hown, hg⟩ hK hN hT hS hA (ct_Checker_refuse_Ch l dC dI cI cB cJ cZ cQ N H.size a v 23 x2 s q_1 hc_2) hP hD rfl rfl wn_4_201 wn_4_202 wn_4_203 wn_1_4 wn_4_204 rfl rfl (by decide +kernel) ⟨Nat.le_of_ble_eq_true rfl, Nat.le_of_ble_eq_true rfl⟩ rfl hl.1 rfl (Nat.le_of_ble_eq_true rfl) dn_Meaning_linkTo_107 ⟨Nat.le_of_ble_eq_true rfl, Nat.le_of_ble_eq_true rfl⟩) hP hD hS hA (fun _ H locs hw hP hD hS => ?_)
    refine lv_goto (tgt := 127) hx hb dn_Meaning_linkTo_110 (by decide) ?_
    rw [hQQ, ← Option.some.inj hf]
    exact xk_vret (w1 := fun u : Unit => (wC a v cI cB cJ cZ cQ q_1.2)) () hx hb hr hlocks hK hS dn_Meaning_linkTo_127 hP hD trivial (Nat.le_refl _) (Nat.le_refl _)
  intro H locs ls hP hD hS hl
  unfold fn_Meaning_linkTo_Me at hf
  refine lv_aload_n hx hb dn_Meaning_linkTo_0 rfl (lv_at hl 0 rfl) ?_
  refine va_get (D := (dC, dI)) (ci := 5) (v := .ref ((a 103))) (C := rn_Meaning) (T := fn_Meaning) (N := 17) hx hb hg in_Meaning hown hK hP 4 rfl rfl 0 (by decide) (hg _ wn_1_184) (fun _ h9 => h9) rfl dn_Meaning_linkTo_1 ?_
  obtain ⟨q_1, hc_2, hf⟩ := dc_b hf
  refine dc_calli (dc_runV (ar := 0) (As := []) (rest := []) (ci := 4) (q0 := 3) ⟨hx, hb, hml, hown, hg⟩ hK hN hT hS hA (ct_Checker_isOff_Ch l dC dI cI cB cJ cZ cQ N H.size a v s q_1 hc_2) hP hD rfl rfl wn_4_193 wn_4_194 wn_4_195 wn_1_4 wn_4_196 rfl rfl (by decide +kernel) ⟨Nat.le_of_ble_eq_true rfl, Nat.le_of_ble_eq_true rfl⟩ rfl hl.1 rfl (Nat.le_of_ble_eq_true rfl) dn_Meaning_linkTo_4 ⟨Nat.le_of_ble_eq_true rfl, Nat.le_of_ble_eq_true rfl⟩) hP hD hS hA (fun r_3 _ H locs hw hP hD hS => ?_)
  have hw : r_3 = q_1.1 := hw
  subst hw
  refine lv_if_eq (tgt := 11) hx hb dn_Meaning_linkTo_7 (by decide) (fun h => ?_) (fun h => ?_)
  · have hf := (if_pos h).symm.trans hf
    refine lv_aload_n hx hb dn_Meaning_linkTo_11 rfl (lv_at hl 0 rfl) ?_
    refine va_get (D := (dC, dI)) (ci := 5) (v := .ref ((a 110))) (C := rn_Meaning) (T := fn_Meaning) (N := 17) hx hb hg in_Meaning hown hK hP 4 rfl rfl 2 (by decide) (hg _ wn_1_186) (fun _ h9 => h9) (congrArg some hv_5) dn_Meaning_linkTo_12 ?_
    refine va_get (D := (dC, dI)) (ci := 11) (v := .int ((q_1.2.1 328 0))) (C := rn_Parts) (T := fn_Parts) (N := 15) hx hb hg in_Parts hown hK hP 10 rfl rfl 7 (by decide) (hg _ wn_2_151) (fun _ h9 => h9) rfl dn_Meaning_linkTo_15 ?_
    refine lv_iconst (v := 1) hx hb dn_Meaning_linkTo_18 (by decide) ?_
    refine lv_isub hx hb dn_Meaning_linkTo_19 ?_
    refine lv_istore_n (lv' := [(3, .int (((q_1.2.1 328 0) - 1))), (0, .ref ((a 104))), (1, .int v1), (2, .int v2)]) hx hb dn_Meaning_linkTo_20 rfl hl (by decide) rfl (fun ls hl => ?_)
    refine lv_iload_n hx hb dn_Meaning_linkTo_21 rfl (lv_at hl 0 rfl) ?_
    refine lv_if_ge (tgt := 26) hx hb dn_Meaning_linkTo_22 (by decide) (fun h => ?_) (fun h => ?_)
    · have hf := (if_pos h).symm.trans hf
      refine lv_aload_n hx hb dn_Meaning_linkTo_26 rfl (lv_at hl 1 rfl) ?_
      refine va_get (D := (dC, dI)) (ci := 5) (v := .ref ((a 110))) (C := rn_Meaning) (T := fn_Meaning) (N := 17) hx hb hg in_Meaning hown hK hP 4 rfl rfl 2 (by decide) (hg _ wn_1_186) (fun _ h9 => h9) (congrArg some hv_5) dn_Meaning_linkTo_27 ?_
      refine va_get (D := (dC, dI)) (ci := 11) (v := .ref ((a 329))) (C := rn_Parts) (T := fn_Parts) (N := 15) hx hb hg in_Parts hown hK hP 10 rfl rfl 8 (by decide) (hg _ wn_2_154) (fun _ h9 => h9) rfl dn_Meaning_linkTo_30 ?_
      refine lv_iload_n hx hb dn_Meaning_linkTo_33 rfl (lv_at hl 0 rfl) ?_
      obtain ⟨hg_4, hf⟩ := dc_g hf
      refine va_iald hx hb hK hP 67 0 rfl rfl hg_4 dn_Meaning_linkTo_34 ?_
      refine xk_ti (y := ((q_1.2.1 329) (Int32.toNatClampNeg (((q_1.2.1 328 0) - 1))))) rfl ?_
      refine lv_istore (lv' := [(4, .int (((q_1.2.1 329) (Int32.toNatClampNeg (((q_1.2.1 328 0) - 1)))))), (3, .int (((q_1.2.1 328 0) - 1))), (0, .ref ((a 104))), (1, .int v1), (2, .int v2)]) hx hb dn_Meaning_linkTo_35 hl (by decide) rfl (fun ls hl => ?_)
      refine lv_aload_n hx hb dn_Meaning_linkTo_37 rfl (lv_at hl 2 rfl) ?_
      refine va_get (D := (dC, dI)) (ci := 5) (v := .ref ((a 109))) (C := rn_Meaning) (T := fn_Meaning) (N := 17) hx hb hg in_Meaning hown hK hP 4 rfl rfl 1 (by decide) (hg _ wn_1_185) (fun _ h9 => h9) (congrArg some hv_4) dn_Meaning_linkTo_38 ?_
      refine lv_iload hx hb dn_Meaning_linkTo_41 (lv_at hl 0 rfl) ?_
      obtain ⟨q_5, hc_6, hf⟩ := dc_b hf
      refine dc_calli (dc_runV (ar := 1) (As := [.int (((q_1.2.1 329) (Int32.toNatClampNeg (((q_1.2.1 328 0) - 1)))))]) (rest := []) (ci := 10) (q0 := 9) ⟨hx, hb, hml, hown, hg⟩ hK hN hT hS hA (ct_Design_firstDecl_Ds l dC dI cI cB cJ cZ cQ N H.size a v (((q_1.2.1 329) (Int32.toNatClampNeg (((q_1.2.1 328 0) - 1))))) q_1.2 q_5 hc_6) hP hD rfl rfl wn_5_99 wn_5_100 wn_5_101 wn_1_10 wn_5_102 rfl rfl (by decide +kernel) ⟨Nat.le_of_ble_eq_true rfl, Nat.le_of_ble_eq_true rfl⟩ rfl hl.1 rfl (Nat.le_of_ble_eq_true rfl) dn_Meaning_linkTo_43 ⟨Nat.le_of_ble_eq_true rfl, Nat.le_of_ble_eq_true rfl⟩) hP hD hS hA (fun r_7 _ H locs hw hP hD hS => ?_)
      have hw : r_7 = q_5.1 := hw
      subst hw
      refine lv_istore (lv' := [(5, .int q_5.1), (4, .int (((q_1.2.1 329) (Int32.toNatClampNeg (((q_1.2.1 328 0) - 1)))))), (3, .int (((q_1.2.1 328 0) - 1))), (0, .ref ((a 104))), (1, .int v1), (2, .int v2)]) hx hb dn_Meaning_linkTo_46 hl (by decide) rfl (fun ls hl => ?_)
      refine lv_aload_n hx hb dn_Meaning_linkTo_48 rfl (lv_at hl 3 rfl) ?_
      refine lv_aload_n hx hb dn_Meaning_linkTo_49 rfl (lv_at hl 3 rfl) ?_
      refine va_get (D := (dC, dI)) (ci := 5) (v := .ref ((a 103))) (C := rn_Meaning) (T := fn_Meaning) (N := 17) hx hb hg in_Meaning hown hK hP 4 rfl rfl 0 (by decide) (hg _ wn_1_184) (fun _ h9 => h9) rfl dn_Meaning_linkTo_50 ?_
      refine lv_iload_n hx hb dn_Meaning_linkTo_53 rfl (lv_at hl 4 rfl) ?_
      refine lv_iload hx hb dn_Meaning_linkTo_54 (lv_at hl 0 rfl) ?_
      refine lv_iload hx hb dn_Meaning_linkTo_56 (lv_at hl 0 rfl) ?_
      refine lv_aload_n hx hb dn_Meaning_linkTo_58 rfl (lv_at hl 3 rfl) ?_
      refine va_get (D := (dC, dI)) (ci := 5) (v := .ref ((a 109))) (C := rn_Meaning) (T := fn_Meaning) (N := 17) hx hb hg in_Meaning hown hK hP 4 rfl rfl 1 (by decide) (hg _ wn_1_185) (fun _ h9 => h9) (congrArg some hv_4) dn_Meaning_linkTo_59 ?_
      refine lv_iload hx hb dn_Meaning_linkTo_62 (lv_at hl 1 rfl) ?_
      obtain ⟨q_8, hc_9, hf⟩ := dc_b hf
      refine dc_calli (dc_runV (ar := 1) (As := [.int (((q_1.2.1 329) (Int32.toNatClampNeg (((q_1.2.1 328 0) - 1)))))]) (rest := [.int q_5.1, .int q_5.1, .int v1, .ref ((a 103)), .ref ((a 104))]) (ci := 10) (q0 := 9) ⟨hx, hb, hml, hown, hg⟩ hK hN hT hS hA (ct_Design_portCount_Ds l dC dI cI cB cJ cZ cQ N H.size a v (((q_1.2.1 329) (Int32.toNatClampNeg (((q_1.2.1 328 0) - 1))))) q_5.2 q_8 hc_9) hP hD rfl rfl wn_5_87 wn_5_88 wn_5_89 wn_1_10 wn_5_90 rfl rfl (by decide +kernel) ⟨Nat.le_of_ble_eq_true rfl, Nat.le_of_ble_eq_true rfl⟩ rfl hl.1 rfl (Nat.le_of_ble_eq_true rfl) dn_Meaning_linkTo_64 ⟨Nat.le_of_ble_eq_true rfl, Nat.le_of_ble_eq_true rfl⟩) hP hD hS hA (fun r_10 _ H locs hw hP hD hS => ?_)
      have hw : r_10 = q_8.1 := hw
      subst hw
      refine lv_iadd hx hb dn_Meaning_linkTo_67 ?_
      obtain ⟨q_11, hc_12, hf⟩ := dc_b hf
      refine dc_calli (dc_runV (ar := 3) (As := [.int v1, .int q_5.1, .int ((q_5.1 + q_8.1))]) (rest := [.ref ((a 104))]) (ci := 4) (q0 := 3) ⟨hx, hb, hml, hown, hg⟩ hK hN hT hS hA (ct_Checker_declCalled_Ch l dC dI cI cB cJ cZ cQ N H.size a v v1 q_5.1 ((q_5.1 + q_8.1)) q_8.2 q_11 hc_12) hP hD rfl rfl wn_5_128 wn_5_129 wn_5_130 wn_1_4 wn_5_131 rfl rfl (by decide +kernel) ⟨Nat.le_of_ble_eq_true rfl, Nat.le_of_ble_eq_true rfl⟩ rfl hl.1 rfl (Nat.le_of_ble_eq_true rfl) dn_Meaning_linkTo_68 ⟨Nat.le_of_ble_eq_true rfl, Nat.le_of_ble_eq_true rfl⟩) hP hD hS hA (fun r_13 _ H locs hw hP hD hS => ?_)
      have hw : r_13 = q_11.1 := hw
      subst hw
      refine va_put (D := (dC, dI)) (ci := 5) (v := .int q_11.1) (ty := .int) (C := rn_Meaning) (T := fn_Meaning) (N := 17) hx hb hg in_Meaning tn_Meaning tk_Meaning nn_Meaning hown hK hP hD hS 4 rfl rfl 8 (by decide) (hg _ wn_1_192) (fun _ h9 => h9) rfl (tk_Meaning 8 (by decide)) rfl rfl (Nat.le_of_ble_eq_true rfl) dn_Meaning_linkTo_71 (fun H locs hP hD hS => ?_)
      have hP := wC_P_252 hP
      have hD := wC_D_252 hD
      refine lv_aload_n hx hb dn_Meaning_linkTo_74 rfl (lv_at hl 3 rfl) ?_
      refine va_get (D := (dC, dI)) (ci := 5) (v := .int q_11.1) (C := rn_Meaning) (T := fn_Meaning) (N := 17) hx hb hg in_Meaning hown hK hP 4 rfl rfl 8 (by decide) (hg _ wn_1_192) (fun _ h9 => h9) rfl dn_Meaning_linkTo_75 ?_
      refine lv_iconst (v := (-1)) hx hb dn_Meaning_linkTo_78 (by decide) ?_
      refine lv_icmp_eq (tgt := 100) hx hb dn_Meaning_linkTo_79 (by decide) (fun h => ?_) (fun h => ?_)
      · have hf := (if_pos h).symm.trans hf
        exact bl_100 v2 (upI q_11.2 252 (fun _ => q_11.1)) hf H locs ls hP hD hS (lv_sub hl [3, 5] rfl)
      · have hf := (if_neg h).symm.trans hf
        refine lv_aload_n hx hb dn_Meaning_linkTo_82 rfl (lv_at hl 3 rfl) ?_
        refine va_get (D := (dC, dI)) (ci := 5) (v := .ref ((a 110))) (C := rn_Meaning) (T := fn_Meaning) (N := 17) hx hb hg in_Meaning hown hK hP 4 rfl rfl 2 (by decide) (hg _ wn_1_186) (fun _ h9 => h9) (congrArg some hv_5) dn_Meaning_linkTo_83 ?_
        refine lv_iload_n hx hb dn_Meaning_linkTo_86 rfl (lv_at hl 2 rfl) ?_
        refine lv_aload_n hx hb dn_Meaning_linkTo_87 rfl (lv_at hl 3 rfl) ?_
        refine va_get (D := (dC, dI)) (ci := 5) (v := .int q_11.1) (C := rn_Meaning) (T := fn_Meaning) (N := 17) hx hb hg in_Meaning hown hK hP 4 rfl rfl 8 (by decide) (hg _ wn_1_192) (fun _ h9 => h9) rfl dn_Meaning_linkTo_88 ?_
        refine lv_iload hx hb dn_Meaning_linkTo_91 (lv_at hl 0 rfl) ?_
        refine lv_isub hx hb dn_Meaning_linkTo_93 ?_
        obtain ⟨q_14, hc_15, hf⟩ := dc_b hf
        refine dc_calli (dc_runV (ar := 2) (As := [.int (((q_1.2.1 328 0) - 1)), .int ((q_11.1 - q_5.1))]) (rest := []) (ci := 11) (q0 := 10) ⟨hx, hb, hml, hown, hg⟩ hK hN hT hS hA (ct_Parts_isLinked_Ps l dC dI cI cB cJ cZ cQ N H.size a v (((q_1.2.1 328 0) - 1)) ((q_11.1 - q_5.1)) (upI q_11.2 252 (fun _ => q_11.1)) q_14 hc_15) hP hD rfl rfl wn_5_133 wn_5_134 wn_5_135 wn_1_11 wn_5_136 rfl rfl (by decide +kernel) ⟨Nat.le_of_ble_eq_true rfl, Nat.le_of_ble_eq_true rfl⟩ rfl hl.1 rfl (Nat.le_of_ble_eq_true rfl) dn_Meaning_linkTo_94 ⟨Nat.le_of_ble_eq_true rfl, Nat.le_of_ble_eq_true rfl⟩) hP hD hS hA (fun r_16 _ H locs hw hP hD hS => ?_)
        have hw : r_16 = q_14.1 := hw
        subst hw
        refine lv_if_eq (tgt := 113) hx hb dn_Meaning_linkTo_97 (by decide) (fun h => ?_) (fun h => ?_)
        · have hf := (if_pos h).symm.trans hf
          refine lv_aload_n hx hb dn_Meaning_linkTo_113 rfl (lv_at hl 3 rfl) ?_
          refine va_get (D := (dC, dI)) (ci := 5) (v := .ref ((a 110))) (C := rn_Meaning) (T := fn_Meaning) (N := 17) hx hb hg in_Meaning hown hK hP 4 rfl rfl 2 (by decide) (hg _ wn_1_186) (fun _ h9 => h9) (congrArg some hv_5) dn_Meaning_linkTo_114 ?_
          refine lv_aload_n hx hb dn_Meaning_linkTo_117 rfl (lv_at hl 3 rfl) ?_
          refine va_get (D := (dC, dI)) (ci := 5) (v := .int ((q_14.2.1 252 0))) (C := rn_Meaning) (T := fn_Meaning) (N := 17) hx hb hg in_Meaning hown hK hP 4 rfl rfl 8 (by decide) (hg _ wn_1_192) (fun _ h9 => h9) rfl dn_Meaning_linkTo_118 ?_
          refine lv_iload hx hb dn_Meaning_linkTo_121 (lv_at hl 0 rfl) ?_
          refine lv_isub hx hb dn_Meaning_linkTo_123 ?_
          obtain ⟨q_17, hc_18, hf⟩ := dc_b hf
          refine dc_callv (dc_runV (ar := 1) (As := [.int (((q_14.2.1 252 0) - q_5.1))]) (rest := []) (ci := 11) (q0 := 10) ⟨hx, hb, hml, hown, hg⟩ hK hN hT hS hA (ct_Parts_addLink_Ps l dC dI cI cB cJ cZ cQ N H.size a v (((q_14.2.1 252 0) - q_5.1)) q_14.2 q_17 hc_18) hP hD rfl rfl wn_5_137 wn_5_138 wn_5_139 wn_1_11 wn_5_140 rfl rfl (by decide +kernel) ⟨Nat.le_of_ble_eq_true rfl, Nat.le_of_ble_eq_true rfl⟩ rfl hl.1 rfl (Nat.le_of_ble_eq_true rfl) dn_Meaning_linkTo_124 ⟨Nat.le_of_ble_eq_true rfl, Nat.le_of_ble_eq_true rfl⟩) hP hD hS hA (fun _ H locs hw hP hD hS => ?_)
          rw [hQQ, ← Option.some.inj hf]
          exact xk_vret (w1 := fun u : Unit => (wC a v cI cB cJ cZ cQ q_17.2)) () hx hb hr hlocks hK hS dn_Meaning_linkTo_127 hP hD trivial (Nat.le_refl _) (Nat.le_refl _)
        · have hf := (if_neg h).symm.trans hf
          exact bl_100 v2 q_14.2 hf H locs ls hP hD hS (lv_sub hl [3, 5] rfl)
    · have hf := (if_neg h).symm.trans hf
      rw [hQQ, ← Option.some.inj hf]
      exact xk_vret (w1 := fun u : Unit => (wC a v cI cB cJ cZ cQ q_1.2)) () hx hb hr hlocks hK hS dn_Meaning_linkTo_25 hP hD trivial (Nat.le_refl _) (Nat.le_refl _)
  · have hf := (if_neg h).symm.trans hf
    rw [hQQ, ← Option.some.inj hf]
    exact xk_vret (w1 := fun u : Unit => (wC a v cI cB cJ cZ cQ q_1.2)) () hx hb hr hlocks hK hS dn_Meaning_linkTo_10 hP hD trivial (Nat.le_refl _) (Nat.le_refl _)
set_option maxHeartbeats 8000000 in
set_option maxRecDepth 100000 in
theorem ct_Grammar_link_Gr (l : Launch) (dC : Nat → ClassId) (dI : Nat → Nat → Nat) (cI cB cJ cZ cQ : ClassId) (N sz : Nat) (a : Nat → Nat) (v : Nat → Value) (hv_3 : v 3 = .ref (a 111)) (hv_4 : v 4 = .ref (a 109)) (hv_5 : v 5 = .ref (a 110)) (s : ms) (y : (Unit × ms)) (hf : fn_Grammar_link_Gr N s = some y) : Met l yn_Grammar_link (xw yn_Grammar_link bn_Grammar_link 1 none) ({ frames := 3, cells := 0, slots := 0, locals := 89 }) (dc_P (dC, dI) xcl (xt cI cB cJ cZ cQ) [.ref ((a 105))] sz (wC a v cI cB cJ cZ cQ s)) (xk_Qv (dC, dI) xcl (xt cI cB cJ cZ cQ) (fun _ : Unit => True) (fun u : Unit => (wC a v cI cB cJ cZ cQ y.2)) (va_A (wC a v cI cB cJ cZ cQ s) sz)) 0 0 (va_A (wC a v cI cB cJ cZ cQ s) sz) := by
  refine dc_of (QA := xk_Qv (dC, dI) xcl (xt cI cB cJ cZ cQ) (fun _ : Unit => True) (fun u : Unit => (wC a v cI cB cJ cZ cQ y.2))) (by decide) (Nat.le_of_ble_eq_true rfl) ?_
  intro p e s0 m below meth c hx hb hml hown hg hr hlocks hin hP hK hN A hA hD hT ls hl
  have hown : s0.vm.findClass rn_Grammar = some m.cls := hown
  obtain ⟨H, hH⟩ : ∃ z, z = s0.heap := ⟨_, rfl⟩
  rw [← hH] at hP
  have hS : va_S A s0.heap H [] := by rw [hH]; exact va_S.rf
  suffices kk : ∀ QQ : State → Prop, QQ = MQ below (xk_Qv (dC, dI) xcl (xt cI cB cJ cZ cQ) (fun _ : Unit => True) (fun u : Unit => (wC a v cI cB cJ cZ cQ y.2)) A) [.ref ((a 105))].toArray s0 0 0 A → dcC p l e ({ frames := 3, cells := 0, slots := 0, locals := 89 }) s0 m [.ref ((a 105))].toArray below meth c QQ (dC, dI) A (wC a v cI cB cJ cZ cQ s) 0 1 [(0, .ref ((a 105)))] [] by
    have k9 := kk _ rfl H [] ls hP hD hS hl
    rw [hH] at k9; exact k9
  clear hP hD hS hl hH H ls
  intro QQ hQQ
  have bl_52 : ∀ (s : ms), bk_Grammar_link_Gr_52 N s = some y → dcC p l e ({ frames := 3, cells := 0, slots := 0, locals := 89 }) s0 m [.ref ((a 105))].toArray below meth c QQ (dC, dI) A (wC a v cI cB cJ cZ cQ s) 52 1 [(0, .ref ((a 105)))] [] := by
    intro s hf H locs ls hP hD hS hl
    unfold bk_Grammar_link_Gr_52 at hf
    refine lv_aload_n hx hb dn_Grammar_link_52 rfl (lv_at hl 0 rfl) ?_
    refine va_get (D := (dC, dI)) (ci := 6) (v := .ref ((a 101))) (C := rn_Grammar) (T := fn_Grammar) (N := 15) hx hb hg in_Grammar hown hK hP 5 rfl rfl 0 (by decide) (hg _ wn_2_0) (fun _ h9 => h9) rfl dn_Grammar_link_53 ?_
    obtain ⟨q_1, hc_2, hf⟩ := dc_b hf
    refine dc_callv (dc_runV (ar := 0) (As := []) (rest := []) (ci := 2) (q0 := 1) ⟨hx, hb, hml, hown, hg⟩ hK hN hT hS hA (ct_Tokens_take_Tk l dC dI cI cB cJ cZ cQ N H.size a v s q_1 hc_2) hP hD rfl rfl wn_4_213 wn_4_149 wn_4_150 wn_1_2 wn_4_151 rfl rfl (by decide +kernel) ⟨Nat.le_of_ble_eq_true rfl, Nat.le_of_ble_eq_true rfl⟩ rfl hl.1 rfl (Nat.le_of_ble_eq_true rfl) dn_Grammar_link_56 ⟨Nat.le_of_ble_eq_true rfl, Nat.le_of_ble_eq_true rfl⟩) hP hD hS hA (fun _ H locs hw hP hD hS => ?_)
    refine lv_aload_n hx hb dn_Grammar_link_59 rfl (lv_at hl 0 rfl) ?_
    refine va_get (D := (dC, dI)) (ci := 6) (v := .ref ((a 101))) (C := rn_Grammar) (T := fn_Grammar) (N := 15) hx hb hg in_Grammar hown hK hP 5 rfl rfl 0 (by decide) (hg _ wn_2_0) (fun _ h9 => h9) rfl dn_Grammar_link_60 ?_
    refine lv_bipush (v := 40) hx hb dn_Grammar_link_63 (by decide) ?_
    obtain ⟨q_3, hc_4, hf⟩ := dc_b hf
    refine dc_callv (dc_runV (ar := 1) (As := [.int 40]) (rest := []) (ci := 2) (q0 := 1) ⟨hx, hb, hml, hown, hg⟩ hK hN hT hS hA (ct_Tokens_open_Tk l dC dI cI cB cJ cZ cQ N H.size a v 40 q_1.2 q_3 hc_4) hP hD rfl rfl wn_4_214 wn_4_215 wn_4_216 wn_1_2 wn_4_217 rfl rfl (by decide +kernel) ⟨Nat.le_of_ble_eq_true rfl, Nat.le_of_ble_eq_true rfl⟩ rfl hl.1 rfl (Nat.le_of_ble_eq_true rfl) dn_Grammar_link_65 ⟨Nat.le_of_ble_eq_true rfl, Nat.le_of_ble_eq_true rfl⟩) hP hD hS hA (fun _ H locs hw hP hD hS => ?_)
    refine lv_aload_n hx hb dn_Grammar_link_68 rfl (lv_at hl 0 rfl) ?_
    refine lv_sipush (v := 200) hx hb dn_Grammar_link_69 (by decide) ?_
    obtain ⟨q_5, hc_6, hf⟩ := dc_b hf
    refine dc_callv (dc_runV (ar := 1) (As := [.int 200]) (rest := []) (ci := 6) (q0 := 5) ⟨hx, hb, hml, hown, hg⟩ hK hN hT hS hA (ct_Grammar_expFor_Gr l dC dI cI cB cJ cZ cQ N H.size a v hv_3 200 q_3.2 q_5 hc_6) hP hD rfl rfl wn_5_46 wn_5_48 sn_Grammar_expFor wn_1_5 wn_5_49 rfl rfl (by decide +kernel) ⟨Nat.le_of_ble_eq_true rfl, Nat.le_of_ble_eq_true rfl⟩ rfl hl.1 rfl (Nat.le_of_ble_eq_true rfl) dn_Grammar_link_72 ⟨Nat.le_of_ble_eq_true rfl, Nat.le_of_ble_eq_true rfl⟩) hP hD hS hA (fun _ H locs hw hP hD hS => ?_)
    rw [hQQ, ← Option.some.inj hf]
    exact xk_vret (w1 := fun u : Unit => (wC a v cI cB cJ cZ cQ q_5.2)) () hx hb hr hlocks hK hS dn_Grammar_link_75 hP hD trivial (Nat.le_refl _) (Nat.le_refl _)
  intro H locs ls hP hD hS hl
  unfold fn_Grammar_link_Gr at hf
  refine lv_aload_n hx hb dn_Grammar_link_0 rfl (lv_at hl 0 rfl) ?_
  refine lv_aload_n hx hb dn_Grammar_link_1 rfl (lv_at hl 0 rfl) ?_
  refine va_get (D := (dC, dI)) (ci := 6) (v := .ref ((a 101))) (C := rn_Grammar) (T := fn_Grammar) (N := 15) hx hb hg in_Grammar hown hK hP 5 rfl rfl 0 (by decide) (hg _ wn_2_0) (fun _ h9 => h9) rfl dn_Grammar_link_2 ?_
  refine va_get (D := (dC, dI)) (ci := 2) (v := .int ((s.1 215 0))) (C := rn_Tokens) (T := fn_Tokens) (N := 9) hx hb hg in_Tokens hown hK hP 1 rfl rfl 4 (by decide) (hg _ wn_1_52) (fun _ h9 => h9) rfl dn_Grammar_link_5 ?_
  refine va_put (D := (dC, dI)) (ci := 6) (v := .int ((s.1 215 0))) (ty := .int) (C := rn_Grammar) (T := fn_Grammar) (N := 15) hx hb hg in_Grammar tn_Grammar tk_Grammar nn_Grammar hown hK hP hD hS 5 rfl rfl 6 (by decide) (hg _ wn_2_6) (fun _ h9 => h9) rfl (tk_Grammar 6 (by decide)) rfl rfl (Nat.le_of_ble_eq_true rfl) dn_Grammar_link_8 (fun H locs hP hD hS => ?_)
  have hP := wC_P_267 hP
  have hD := wC_D_267 hD
  refine lv_aload_n hx hb dn_Grammar_link_11 rfl (lv_at hl 0 rfl) ?_
  refine va_get (D := (dC, dI)) (ci := 6) (v := .ref ((a 101))) (C := rn_Grammar) (T := fn_Grammar) (N := 15) hx hb hg in_Grammar hown hK hP 5 rfl rfl 0 (by decide) (hg _ wn_2_0) (fun _ h9 => h9) rfl dn_Grammar_link_12 ?_
  refine lv_bipush (v := 46) hx hb dn_Grammar_link_15 (by decide) ?_
  obtain ⟨q_1, hc_2, hf⟩ := dc_b hf
  refine dc_callv (dc_runV (ar := 1) (As := [.int 46]) (rest := []) (ci := 2) (q0 := 1) ⟨hx, hb, hml, hown, hg⟩ hK hN hT hS hA (ct_Tokens_need_Tk l dC dI cI cB cJ cZ cQ N H.size a v 46 (upI s 267 (fun _ => (s.1 215 0))) q_1 hc_2) hP hD rfl rfl wn_4_173 wn_4_174 wn_4_175 wn_1_2 wn_4_176 rfl rfl (by decide +kernel) ⟨Nat.le_of_ble_eq_true rfl, Nat.le_of_ble_eq_true rfl⟩ rfl hl.1 rfl (Nat.le_of_ble_eq_true rfl) dn_Grammar_link_17 ⟨Nat.le_of_ble_eq_true rfl, Nat.le_of_ble_eq_true rfl⟩) hP hD hS hA (fun _ H locs hw hP hD hS => ?_)
  refine lv_aload_n hx hb dn_Grammar_link_20 rfl (lv_at hl 0 rfl) ?_
  refine va_get (D := (dC, dI)) (ci := 6) (v := .ref ((a 101))) (C := rn_Grammar) (T := fn_Grammar) (N := 15) hx hb hg in_Grammar hown hK hP 5 rfl rfl 0 (by decide) (hg _ wn_2_0) (fun _ h9 => h9) rfl dn_Grammar_link_21 ?_
  refine lv_iconst (v := 2) hx hb dn_Grammar_link_24 (by decide) ?_
  obtain ⟨q_3, hc_4, hf⟩ := dc_b hf
  refine dc_calli (dc_runV (ar := 1) (As := [.int 2]) (rest := []) (ci := 2) (q0 := 1) ⟨hx, hb, hml, hown, hg⟩ hK hN hT hS hA (ct_Tokens_due_Tk l dC dI cI cB cJ cZ cQ N H.size a v 2 q_1.2 q_3 hc_4) hP hD rfl rfl wn_4_185 wn_4_186 wn_4_187 wn_1_2 wn_4_188 rfl rfl (by decide +kernel) ⟨Nat.le_of_ble_eq_true rfl, Nat.le_of_ble_eq_true rfl⟩ rfl hl.1 rfl (Nat.le_of_ble_eq_true rfl) dn_Grammar_link_25 ⟨Nat.le_of_ble_eq_true rfl, Nat.le_of_ble_eq_true rfl⟩) hP hD hS hA (fun r_5 _ H locs hw hP hD hS => ?_)
  have hw : r_5 = q_3.1 := hw
  subst hw
  refine lv_if_eq (tgt := 52) hx hb dn_Grammar_link_28 (by decide) (fun h => ?_) (fun h => ?_)
  · have hf := (if_pos h).symm.trans hf
    exact bl_52 q_3.2 hf H locs ls hP hD hS hl
  · have hf := (if_neg h).symm.trans hf
    refine lv_aload_n hx hb dn_Grammar_link_31 rfl (lv_at hl 0 rfl) ?_
    refine va_get (D := (dC, dI)) (ci := 6) (v := .ref ((a 104))) (C := rn_Grammar) (T := fn_Grammar) (N := 15) hx hb hg in_Grammar hown hK hP 5 rfl rfl 2 (by decide) (hg _ wn_2_2) (fun _ h9 => h9) rfl dn_Grammar_link_32 ?_
    refine lv_aload_n hx hb dn_Grammar_link_35 rfl (lv_at hl 0 rfl) ?_
    refine va_get (D := (dC, dI)) (ci := 6) (v := .ref ((a 101))) (C := rn_Grammar) (T := fn_Grammar) (N := 15) hx hb hg in_Grammar hown hK hP 5 rfl rfl 0 (by decide) (hg _ wn_2_0) (fun _ h9 => h9) rfl dn_Grammar_link_36 ?_
    refine va_get (D := (dC, dI)) (ci := 2) (v := .int ((q_3.2.1 216 0))) (C := rn_Tokens) (T := fn_Tokens) (N := 9) hx hb hg in_Tokens hown hK hP 1 rfl rfl 5 (by decide) (hg _ wn_1_54) (fun _ h9 => h9) rfl dn_Grammar_link_39 ?_
    refine lv_aload_n hx hb dn_Grammar_link_42 rfl (lv_at hl 0 rfl) ?_
    refine va_get (D := (dC, dI)) (ci := 6) (v := .ref ((a 101))) (C := rn_Grammar) (T := fn_Grammar) (N := 15) hx hb hg in_Grammar hown hK hP 5 rfl rfl 0 (by decide) (hg _ wn_2_0) (fun _ h9 => h9) rfl dn_Grammar_link_43 ?_
    refine va_get (D := (dC, dI)) (ci := 2) (v := .int ((q_3.2.1 215 0))) (C := rn_Tokens) (T := fn_Tokens) (N := 9) hx hb hg in_Tokens hown hK hP 1 rfl rfl 4 (by decide) (hg _ wn_1_52) (fun _ h9 => h9) rfl dn_Grammar_link_46 ?_
    obtain ⟨q_6, hc_7, hf⟩ := dc_b hf
    refine dc_callv (dc_runV (ar := 2) (As := [.int ((q_3.2.1 216 0)), .int ((q_3.2.1 215 0))]) (rest := []) (ci := 5) (q0 := 4) ⟨hx, hb, hml, hown, hg⟩ hK hN hT hS hA (ct_Meaning_linkTo_Me l dC dI cI cB cJ cZ cQ N H.size a v hv_4 hv_5 ((q_3.2.1 216 0)) ((q_3.2.1 215 0)) q_3.2 q_6 hc_7) hP hD rfl rfl wn_5_124 wn_5_125 wn_5_126 wn_1_6 wn_5_127 rfl rfl (by decide +kernel) ⟨Nat.le_of_ble_eq_true rfl, Nat.le_of_ble_eq_true rfl⟩ rfl hl.1 rfl (Nat.le_of_ble_eq_true rfl) dn_Grammar_link_49 ⟨Nat.le_of_ble_eq_true rfl, Nat.le_of_ble_eq_true rfl⟩) hP hD hS hA (fun _ H locs hw hP hD hS => ?_)
    exact bl_52 q_6.2 hf H locs ls hP hD hS hl
