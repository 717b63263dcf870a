set_option maxHeartbeats 8000000 in
set_option maxRecDepth 100000 in
theorem ct_Grammar_parse_Gr_Ds (l : Launch) (dC : Nat → ClassId) (dI : Nat → Nat → Nat) (cI cB cJ cZ cQ : ClassId) (N sz : Nat) (a : Nat → Nat) (v : Nat → Value) (v2 : Int32) (s : ms) (y : (Unit × ms)) (hf : fn_Grammar_parse_Gr_Ds N v2 s = some y) : Met l yn_Grammar_parse (xw yn_Grammar_parse bn_Grammar_parse 5 none) ({ frames := 6, cells := 0, slots := 0, locals := 152 }) (dc_P (dC, dI) xcl (xt cI cB cJ cZ cQ) [.ref ((a 105)), .ref ((a 109)), .int v2] sz (wC a v cI cB cJ cZ cQ s)) (xk_Qv (dC, dI) xcl (xt cI cB cJ cZ cQ) (fun _ : Unit => True) (fun u : Unit => (wC a ((va_up (va_up (va_up (va_up (va_up v 2 (.ref (a 110))) 3 (.ref (a 111))) 4 (.ref (a 109))) 5 (.ref (a 110))) 6 (.ref (a 111)))) cI cB cJ cZ cQ y.2)) (va_A (wC a v cI cB cJ cZ cQ s) sz)) 0 0 (va_A (wC a v cI cB cJ cZ cQ s) sz) := by
  refine dc_of (QA := xk_Qv (dC, dI) xcl (xt cI cB cJ cZ cQ) (fun _ : Unit => True) (fun u : Unit => (wC a ((va_up (va_up (va_up (va_up (va_up v 2 (.ref (a 110))) 3 (.ref (a 111))) 4 (.ref (a 109))) 5 (.ref (a 110))) 6 (.ref (a 111)))) cI cB cJ cZ cQ y.2))) (by decide) (Nat.le_of_ble_eq_true rfl) ?_
  intro p e s0 m below meth c hx hb hml hown hg hr hlocks hin hP hK hN A hA hD hT ls hl
  have hown : s0.vm.findClass rn_Grammar = some m.cls := hown
  obtain ⟨H, hH⟩ : ∃ z, z = s0.heap := ⟨_, rfl⟩
  rw [← hH] at hP
  have hS : va_S A s0.heap H [] := by rw [hH]; exact va_S.rf
  suffices kk : ∀ QQ : State → Prop, QQ = MQ below (xk_Qv (dC, dI) xcl (xt cI cB cJ cZ cQ) (fun _ : Unit => True) (fun u : Unit => (wC a ((va_up (va_up (va_up (va_up (va_up v 2 (.ref (a 110))) 3 (.ref (a 111))) 4 (.ref (a 109))) 5 (.ref (a 110))) 6 (.ref (a 111)))) cI cB cJ cZ cQ y.2)) A) [.ref ((a 105)), .ref ((a 109)), .int v2].toArray s0 0 0 A → dcC p l e ({ frames := 6, cells := 0, slots := 0, locals := 152 }) s0 m [.ref ((a 105)), .ref ((a 109)), .int v2].toArray below meth c QQ (dC, dI) A (wC a v cI cB cJ cZ cQ s) 0 5 [(0, .ref ((a 105))), (1, .ref ((a 109))), (2, .int v2)] [] by
    have k9 := kk _ rfl H [] ls hP hD hS hl
    rw [hH] at k9; exact k9
  clear hP hD hS hl hH H ls
  intro QQ hQQ
  have bl_156 : ∀ (k_56 : Int32 → Int32 → ms → Option (Unit × ms)) (hk_56 : ∀ (x3 : Int32) (x4 : Int32) (s : ms), k_56 x3 x4 s = some y → dcC p l e ({ frames := 6, cells := 0, slots := 0, locals := 152 }) s0 m [.ref ((a 105)), .ref ((a 109)), .int v2].toArray below meth c QQ (dC, dI) A (wC a ((va_up (va_up (va_up (va_up (va_up v 2 (.ref (a 110))) 3 (.ref (a 111))) 4 (.ref (a 109))) 5 (.ref (a 110))) 6 (.ref (a 111)))) cI cB cJ cZ cQ s) 56 5 [(0, .ref ((a 105))), (3, .int x3), (4, .int x4)] []) (x3 : Int32) (x4 : Int32) (t0 : Int32) (s : ms), bk_Grammar_parse_Gr_Ds_156 N k_56 x3 x4 t0 s = some y → dcC p l e ({ frames := 6, cells := 0, slots := 0, locals := 152 }) s0 m [.ref ((a 105)), .ref ((a 109)), .int v2].toArray below meth c QQ (dC, dI) A (wC a ((va_up (va_up (va_up (va_up (va_up v 2 (.ref (a 110))) 3 (.ref (a 111))) 4 (.ref (a 109))) 5 (.ref (a 110))) 6 (.ref (a 111)))) cI cB cJ cZ cQ s) 156 5 [(0, .ref ((a 105))), (3, .int x3), (4, .int x4)] [.int t0, .ref ((a 105))] := by
    intro k_56 hk_56 x3 x4 t0 s hf H locs ls hP hD hS hl
    unfold bk_Grammar_parse_Gr_Ds_156 at hf
    refine va_put (D := (dC, dI)) (ci := 6) (v := .int t0) (ty := .int) (C := rn_Grammar) (T := fn_Grammar) (N := 15) hx hb hg in_Grammar tn_Grammar tk_Grammar nn_Grammar hown hK hP hD hS 5 rfl rfl 3 (by decide) (hg _ wn_2_3) (fun _ h9 => h9) rfl (tk_Grammar 3 (by decide)) rfl rfl (Nat.le_of_ble_eq_true rfl) dn_Grammar_parse_156 (fun H locs hP hD hS => ?_)
    have hP := wC_P_264 hP
    have hD := wC_D_264 hD
    refine lv_goto (tgt := 208) hx hb dn_Grammar_parse_159 (by decide) ?_
    refine lv_iinc (v := (x4 + 1)) (lv' := [(4, .int ((x4 + 1))), (0, .ref ((a 105))), (3, .int x3)]) hx hb dn_Grammar_parse_208 hl (k := 2) rfl (dc_inc (by decide)) (by decide) rfl (fun ls hl => ?_)
    refine lv_goto (tgt := 56) hx hb dn_Grammar_parse_211 (by decide) ?_
    exact hk_56 x3 ((x4 + 1)) (upI s 264 (fun _ => t0)) hf H locs ls hP hD hS (lv_sub hl [1, 2, 0] rfl)
  have hd_56 : ∀ (n : Nat) (x3 : Int32) (x4 : Int32) (s : ms), hd_Grammar_parse_Gr_Ds_56 N n x3 x4 s = some y → dcC p l e ({ frames := 6, cells := 0, slots := 0, locals := 152 }) s0 m [.ref ((a 105)), .ref ((a 109)), .int v2].toArray below meth c QQ (dC, dI) A (wC a ((va_up (va_up (va_up (va_up (va_up v 2 (.ref (a 110))) 3 (.ref (a 111))) 4 (.ref (a 109))) 5 (.ref (a 110))) 6 (.ref (a 111)))) cI cB cJ cZ cQ s) 56 5 [(0, .ref ((a 105))), (3, .int x3), (4, .int x4)] [] := by
    intro n
    induction n with
    | zero => intro x3 x4 s hf; cases hf
    | succ n ih =>
      intro x3 x4 s hf H locs ls hP hD hS hl
      have hf : bd_Grammar_parse_Gr_Ds_56 N (hd_Grammar_parse_Gr_Ds_56 N n) x3 x4 s = some y := hf
      have hk_56 := ih
      generalize hd_Grammar_parse_Gr_Ds_56 N n = k_56 at hf hk_56
      unfold bd_Grammar_parse_Gr_Ds_56 at hf
      refine lv_iload hx hb dn_Grammar_parse_56 (lv_at hl 2 rfl) ?_
      refine lv_iload_n hx hb dn_Grammar_parse_58 rfl (lv_at hl 1 rfl) ?_
      refine lv_icmp_ge (tgt := 214) hx hb dn_Grammar_parse_59 (by decide) (fun h => ?_) (fun h => ?_)
      · have hf := (if_pos h).symm.trans hf
        rw [hQQ, ← Option.some.inj hf]
        exact xk_vret (w1 := fun u : Unit => (wC a ((va_up (va_up (va_up (va_up (va_up v 2 (.ref (a 110))) 3 (.ref (a 111))) 4 (.ref (a 109))) 5 (.ref (a 110))) 6 (.ref (a 111)))) cI cB cJ cZ cQ s)) () hx hb hr hlocks hK hS dn_Grammar_parse_214 hP hD trivial (Nat.le_refl _) (Nat.le_refl _)
      · have hf := (if_neg h).symm.trans hf
        refine lv_aload_n hx hb dn_Grammar_parse_62 rfl (lv_at hl 0 rfl) ?_
        refine va_get (D := (dC, dI)) (ci := 6) (v := .int ((s.1 264 0))) (C := rn_Grammar) (T := fn_Grammar) (N := 15) hx hb hg in_Grammar hown hK hP 5 rfl rfl 3 (by decide) (hg _ wn_2_3) (fun _ h9 => h9) rfl dn_Grammar_parse_63 ?_
        refine lv_bipush (v := 9) hx hb dn_Grammar_parse_66 (by decide) ?_
        refine lv_icmp_eq (tgt := 214) hx hb dn_Grammar_parse_68 (by decide) (fun h => ?_) (fun h => ?_)
        · have hf := (if_pos h).symm.trans hf
          rw [hQQ, ← Option.some.inj hf]
          exact xk_vret (w1 := fun u : Unit => (wC a ((va_up (va_up (va_up (va_up (va_up v 2 (.ref (a 110))) 3 (.ref (a 111))) 4 (.ref (a 109))) 5 (.ref (a 110))) 6 (.ref (a 111)))) cI cB cJ cZ cQ s)) () hx hb hr hlocks hK hS dn_Grammar_parse_214 hP hD trivial (Nat.le_refl _) (Nat.le_refl _)
        · have hf := (if_neg h).symm.trans hf
          refine lv_aload_n hx hb dn_Grammar_parse_71 rfl (lv_at hl 0 rfl) ?_
          refine va_get (D := (dC, dI)) (ci := 6) (v := .ref ((a 101))) (C := rn_Grammar) (T := fn_Grammar) (N := 15) hx hb hg in_Grammar hown hK hP 5 rfl rfl 0 (by decide) (hg _ wn_2_0) (fun _ h9 => h9) rfl dn_Grammar_parse_72 ?_
          refine va_get (D := (dC, dI)) (ci := 2) (v := .int ((s.1 217 0))) (C := rn_Tokens) (T := fn_Tokens) (N := 9) hx hb hg in_Tokens hown hK hP 1 rfl rfl 6 (by decide) (hg _ wn_1_56) (fun _ h9 => h9) rfl dn_Grammar_parse_75 ?_
          refine lv_if_ne (tgt := 214) hx hb dn_Grammar_parse_78 (by decide) (fun h => ?_) (fun h => ?_)
          · have hf := (if_neg h).symm.trans hf
            rw [hQQ, ← Option.some.inj hf]
            exact xk_vret (w1 := fun u : Unit => (wC a ((va_up (va_up (va_up (va_up (va_up v 2 (.ref (a 110))) 3 (.ref (a 111))) 4 (.ref (a 109))) 5 (.ref (a 110))) 6 (.ref (a 111)))) cI cB cJ cZ cQ s)) () hx hb hr hlocks hK hS dn_Grammar_parse_214 hP hD trivial (Nat.le_refl _) (Nat.le_refl _)
          · have hf := (if_pos h).symm.trans hf
            refine lv_aload_n hx hb dn_Grammar_parse_81 rfl (lv_at hl 0 rfl) ?_
            refine va_get (D := (dC, dI)) (ci := 6) (v := .int ((s.1 264 0))) (C := rn_Grammar) (T := fn_Grammar) (N := 15) hx hb hg in_Grammar hown hK hP 5 rfl rfl 3 (by decide) (hg _ wn_2_3) (fun _ h9 => h9) rfl dn_Grammar_parse_82 ?_
            by_cases h_0 : (s.1 264 0) = 0
            · have hf := (if_pos h_0).symm.trans hf
              refine xk_ti (y := 0) h_0 ?_
              refine lv_tableIn (tgt := 132) hx hb dn_Grammar_parse_85 (by decide) (by decide) rfl (by decide) ?_
              refine lv_aload_n hx hb dn_Grammar_parse_132 rfl (lv_at hl 0 rfl) ?_
              obtain ⟨q_1, hc_2, hf⟩ := dc_b hf
              refine dc_callv (dc_runV (ar := 0) (As := []) (rest := []) (ci := 6) (q0 := 5) ⟨hx, hb, hml, hown, hg⟩ hK hN hT hS hA (ct_Grammar_moduleHead_Gr l dC dI cI cB cJ cZ cQ N H.size a ((va_up (va_up (va_up (va_up (va_up v 2 (.ref (a 110))) 3 (.ref (a 111))) 4 (.ref (a 109))) 5 (.ref (a 110))) 6 (.ref (a 111)))) (show ((va_up (va_up (va_up (va_up (va_up v 2 (.ref (a 110))) 3 (.ref (a 111))) 4 (.ref (a 109))) 5 (.ref (a 110))) 6 (.ref (a 111)))) 2 = .ref (a 110) from rfl) (show ((va_up (va_up (va_up (va_up (va_up v 2 (.ref (a 110))) 3 (.ref (a 111))) 4 (.ref (a 109))) 5 (.ref (a 110))) 6 (.ref (a 111)))) 4 = .ref (a 109) from rfl) (show ((va_up (va_up (va_up (va_up (va_up v 2 (.ref (a 110))) 3 (.ref (a 111))) 4 (.ref (a 109))) 5 (.ref (a 110))) 6 (.ref (a 111)))) 5 = .ref (a 110) from rfl) (show ((va_up (va_up (va_up (va_up (va_up v 2 (.ref (a 110))) 3 (.ref (a 111))) 4 (.ref (a 109))) 5 (.ref (a 110))) 6 (.ref (a 111)))) 6 = .ref (a 111) from rfl) s q_1 hc_2) hP hD rfl rfl wn_4_169 wn_4_171 sn_Grammar_moduleHead wn_1_5 wn_4_172 rfl rfl (by decide +kernel) ⟨Nat.le_of_ble_eq_true rfl, Nat.le_of_ble_eq_true rfl⟩ rfl hl.1 rfl (Nat.le_of_ble_eq_true rfl) dn_Grammar_parse_133 ⟨Nat.le_of_ble_eq_true rfl, Nat.le_of_ble_eq_true rfl⟩) hP hD hS hA (fun _ H locs hw hP hD hS => ?_)
              refine lv_goto (tgt := 208) hx hb dn_Grammar_parse_136 (by decide) ?_
              refine lv_iinc (v := (x4 + 1)) (lv' := [(4, .int ((x4 + 1))), (0, .ref ((a 105))), (3, .int x3)]) hx hb dn_Grammar_parse_208 hl (k := 2) rfl (dc_inc (by decide)) (by decide) rfl (fun ls hl => ?_)
              refine lv_goto (tgt := 56) hx hb dn_Grammar_parse_211 (by decide) ?_
              exact hk_56 x3 ((x4 + 1)) q_1.2 hf H locs ls hP hD hS (lv_sub hl [1, 2, 0] rfl)
            have hf := (if_neg h_0).symm.trans hf
            by_cases h_1 : (s.1 264 0) = 1
            · have hf := (if_pos h_1).symm.trans hf
              refine xk_ti (y := 1) h_1 ?_
              refine lv_tableIn (tgt := 139) hx hb dn_Grammar_parse_85 (by decide) (by decide) rfl (by decide) ?_
              refine lv_aload_n hx hb dn_Grammar_parse_139 rfl (lv_at hl 0 rfl) ?_
              refine lv_aload_n hx hb dn_Grammar_parse_140 rfl (lv_at hl 0 rfl) ?_
              refine va_get (D := (dC, dI)) (ci := 6) (v := .ref ((a 101))) (C := rn_Grammar) (T := fn_Grammar) (N := 15) hx hb hg in_Grammar hown hK hP 5 rfl rfl 0 (by decide) (hg _ wn_2_0) (fun _ h9 => h9) rfl dn_Grammar_parse_141 ?_
              refine va_get (D := (dC, dI)) (ci := 2) (v := .int ((s.1 214 0))) (C := rn_Tokens) (T := fn_Tokens) (N := 9) hx hb hg in_Tokens hown hK hP 1 rfl rfl 3 (by decide) (hg _ wn_1_50) (fun _ h9 => h9) rfl dn_Grammar_parse_144 ?_
              refine lv_if_ne (tgt := 155) hx hb dn_Grammar_parse_147 (by decide) (fun h => ?_) (fun h => ?_)
              · have hf := (if_neg h).symm.trans hf
                refine lv_iconst (v := 0) hx hb dn_Grammar_parse_155 (by decide) ?_
                exact bl_156 k_56 hk_56 x3 x4 0 s hf H locs ls hP hD hS hl
              · have hf := (if_pos h).symm.trans hf
                refine lv_bipush (v := 9) hx hb dn_Grammar_parse_150 (by decide) ?_
                refine lv_goto (tgt := 156) hx hb dn_Grammar_parse_152 (by decide) ?_
                exact bl_156 k_56 hk_56 x3 x4 9 s hf H locs ls hP hD hS hl
            have hf := (if_neg h_1).symm.trans hf
            by_cases h_2 : (s.1 264 0) = 2
            · have hf := (if_pos h_2).symm.trans hf
              refine xk_ti (y := 2) h_2 ?_
              refine lv_tableIn (tgt := 162) hx hb dn_Grammar_parse_85 (by decide) (by decide) rfl (by decide) ?_
              refine lv_aload_n hx hb dn_Grammar_parse_162 rfl (lv_at hl 0 rfl) ?_
              obtain ⟨q_1, hc_2, hf⟩ := dc_b hf
              refine dc_callv (dc_runV (ar := 0) (As := []) (rest := []) (ci := 6) (q0 := 5) ⟨hx, hb, hml, hown, hg⟩ hK hN hT hS hA (ct_Grammar_item_Gr l dC dI cI cB cJ cZ cQ N H.size a ((va_up (va_up (va_up (va_up (va_up v 2 (.ref (a 110))) 3 (.ref (a 111))) 4 (.ref (a 109))) 5 (.ref (a 110))) 6 (.ref (a 111)))) (show ((va_up (va_up (va_up (va_up (va_up v 2 (.ref (a 110))) 3 (.ref (a 111))) 4 (.ref (a 109))) 5 (.ref (a 110))) 6 (.ref (a 111)))) 2 = .ref (a 110) from rfl) (show ((va_up (va_up (va_up (va_up (va_up v 2 (.ref (a 110))) 3 (.ref (a 111))) 4 (.ref (a 109))) 5 (.ref (a 110))) 6 (.ref (a 111)))) 3 = .ref (a 111) from rfl) (show ((va_up (va_up (va_up (va_up (va_up v 2 (.ref (a 110))) 3 (.ref (a 111))) 4 (.ref (a 109))) 5 (.ref (a 110))) 6 (.ref (a 111)))) 4 = .ref (a 109) from rfl) (show ((va_up (va_up (va_up (va_up (va_up v 2 (.ref (a 110))) 3 (.ref (a 111))) 4 (.ref (a 109))) 5 (.ref (a 110))) 6 (.ref (a 111)))) 5 = .ref (a 110) from rfl) (show ((va_up (va_up (va_up (va_up (va_up v 2 (.ref (a 110))) 3 (.ref (a 111))) 4 (.ref (a 109))) 5 (.ref (a 110))) 6 (.ref (a 111)))) 6 = .ref (a 111) from rfl) s q_1 hc_2) hP hD rfl rfl wn_5_30 wn_5_32 sn_Grammar_item wn_1_5 wn_5_33 rfl rfl (by decide +kernel) ⟨Nat.le_of_ble_eq_true rfl, Nat.le_of_ble_eq_true rfl⟩ rfl hl.1 rfl (Nat.le_of_ble_eq_true rfl) dn_Grammar_parse_163 ⟨Nat.le_of_ble_eq_true rfl, Nat.le_of_ble_eq_true rfl⟩) hP hD hS hA (fun _ H locs hw hP hD hS => ?_)
              refine lv_goto (tgt := 208) hx hb dn_Grammar_parse_166 (by decide) ?_
              refine lv_iinc (v := (x4 + 1)) (lv' := [(4, .int ((x4 + 1))), (0, .ref ((a 105))), (3, .int x3)]) hx hb dn_Grammar_parse_208 hl (k := 2) rfl (dc_inc (by decide)) (by decide) rfl (fun ls hl => ?_)
              refine lv_goto (tgt := 56) hx hb dn_Grammar_parse_211 (by decide) ?_
              exact hk_56 x3 ((x4 + 1)) q_1.2 hf H locs ls hP hD hS (lv_sub hl [1, 2, 0] rfl)
            have hf := (if_neg h_2).symm.trans hf
            by_cases h_3 : (s.1 264 0) = 3
            · have hf := (if_pos h_3).symm.trans hf
              refine xk_ti (y := 3) h_3 ?_
              refine lv_tableIn (tgt := 169) hx hb dn_Grammar_parse_85 (by decide) (by decide) rfl (by decide) ?_
              refine lv_aload_n hx hb dn_Grammar_parse_169 rfl (lv_at hl 0 rfl) ?_
              obtain ⟨q_1, hc_2, hf⟩ := dc_b hf
              refine dc_callv (dc_runV (ar := 0) (As := []) (rest := []) (ci := 6) (q0 := 5) ⟨hx, hb, hml, hown, hg⟩ hK hN hT hS hA (ct_Grammar_link_Gr l dC dI cI cB cJ cZ cQ N H.size a ((va_up (va_up (va_up (va_up (va_up v 2 (.ref (a 110))) 3 (.ref (a 111))) 4 (.ref (a 109))) 5 (.ref (a 110))) 6 (.ref (a 111)))) (show ((va_up (va_up (va_up (va_up (va_up v 2 (.ref (a 110))) 3 (.ref (a 111))) 4 (.ref (a 109))) 5 (.ref (a 110))) 6 (.ref (a 111)))) 3 = .ref (a 111) from rfl) (show ((va_up (va_up (va_up (va_up (va_up v 2 (.ref (a 110))) 3 (.ref (a 111))) 4 (.ref (a 109))) 5 (.ref (a 110))) 6 (.ref (a 111)))) 4 = .ref (a 109) from rfl) (show ((va_up (va_up (va_up (va_up (va_up v 2 (.ref (a 110))) 3 (.ref (a 111))) 4 (.ref (a 109))) 5 (.ref (a 110))) 6 (.ref (a 111)))) 5 = .ref (a 110) from rfl) s q_1 hc_2) hP hD rfl rfl wn_5_120 wn_5_122 sn_Grammar_link wn_1_5 wn_5_123 rfl rfl (by decide +kernel) ⟨Nat.le_of_ble_eq_true rfl, Nat.le_of_ble_eq_true rfl⟩ rfl hl.1 rfl (Nat.le_of_ble_eq_true rfl) dn_Grammar_parse_170 ⟨Nat.le_of_ble_eq_true rfl, Nat.le_of_ble_eq_true rfl⟩) hP hD hS hA (fun _ H locs hw hP hD hS => ?_)
              refine lv_goto (tgt := 208) hx hb dn_Grammar_parse_173 (by decide) ?_
              refine lv_iinc (v := (x4 + 1)) (lv' := [(4, .int ((x4 + 1))), (0, .ref ((a 105))), (3, .int x3)]) hx hb dn_Grammar_parse_208 hl (k := 2) rfl (dc_inc (by decide)) (by decide) rfl (fun ls hl => ?_)
              refine lv_goto (tgt := 56) hx hb dn_Grammar_parse_211 (by decide) ?_
              exact hk_56 x3 ((x4 + 1)) q_1.2 hf H locs ls hP hD hS (lv_sub hl [1, 2, 0] rfl)
            have hf := (if_neg h_3).symm.trans hf
            by_cases h_4 : (s.1 264 0) = 4
            · have hf := (if_pos h_4).symm.trans hf
              refine xk_ti (y := 4) h_4 ?_
              refine lv_tableIn (tgt := 176) hx hb dn_Grammar_parse_85 (by decide) (by decide) rfl (by decide) ?_
              refine lv_aload_n hx hb dn_Grammar_parse_176 rfl (lv_at hl 0 rfl) ?_
              obtain ⟨q_1, hc_2, hf⟩ := dc_b hf
              refine dc_callv (dc_runV (ar := 0) (As := []) (rest := []) (ci := 6) (q0 := 5) ⟨hx, hb, hml, hown, hg⟩ hK hN hT hS hA (ct_Grammar_statement_Gr l dC dI cI cB cJ cZ cQ N H.size a ((va_up (va_up (va_up (va_up (va_up v 2 (.ref (a 110))) 3 (.ref (a 111))) 4 (.ref (a 109))) 5 (.ref (a 110))) 6 (.ref (a 111)))) (show ((va_up (va_up (va_up (va_up (va_up v 2 (.ref (a 110))) 3 (.ref (a 111))) 4 (.ref (a 109))) 5 (.ref (a 110))) 6 (.ref (a 111)))) 2 = .ref (a 110) from rfl) (show ((va_up (va_up (va_up (va_up (va_up v 2 (.ref (a 110))) 3 (.ref (a 111))) 4 (.ref (a 109))) 5 (.ref (a 110))) 6 (.ref (a 111)))) 3 = .ref (a 111) from rfl) (show ((va_up (va_up (va_up (va_up (va_up v 2 (.ref (a 110))) 3 (.ref (a 111))) 4 (.ref (a 109))) 5 (.ref (a 110))) 6 (.ref (a 111)))) 5 = .ref (a 110) from rfl) s q_1 hc_2) hP hD rfl rfl wn_5_141 wn_5_143 sn_Grammar_statement wn_1_5 wn_5_144 rfl rfl (by decide +kernel) ⟨Nat.le_of_ble_eq_true rfl, Nat.le_of_ble_eq_true rfl⟩ rfl hl.1 rfl (Nat.le_of_ble_eq_true rfl) dn_Grammar_parse_177 ⟨Nat.le_of_ble_eq_true rfl, Nat.le_of_ble_eq_true rfl⟩) hP hD hS hA (fun _ H locs hw hP hD hS => ?_)
              refine lv_goto (tgt := 208) hx hb dn_Grammar_parse_180 (by decide) ?_
              refine lv_iinc (v := (x4 + 1)) (lv' := [(4, .int ((x4 + 1))), (0, .ref ((a 105))), (3, .int x3)]) hx hb dn_Grammar_parse_208 hl (k := 2) rfl (dc_inc (by decide)) (by decide) rfl (fun ls hl => ?_)
              refine lv_goto (tgt := 56) hx hb dn_Grammar_parse_211 (by decide) ?_
              exact hk_56 x3 ((x4 + 1)) q_1.2 hf H locs ls hP hD hS (lv_sub hl [1, 2, 0] rfl)
            have hf := (if_neg h_4).symm.trans hf
            by_cases h_5 : (s.1 264 0) = 5
            · have hf := (if_pos h_5).symm.trans hf
              refine xk_ti (y := 5) h_5 ?_
              refine lv_tableIn (tgt := 183) hx hb dn_Grammar_parse_85 (by decide) (by decide) rfl (by decide) ?_
              refine lv_aload_n hx hb dn_Grammar_parse_183 rfl (lv_at hl 0 rfl) ?_
              obtain ⟨q_1, hc_2, hf⟩ := dc_b hf
              refine dc_callv (dc_runV (ar := 0) (As := []) (rest := []) (ci := 6) (q0 := 5) ⟨hx, hb, hml, hown, hg⟩ hK hN hT hS hA (ct_Grammar_behindStatement_Gr l dC dI cI cB cJ cZ cQ N H.size a ((va_up (va_up (va_up (va_up (va_up v 2 (.ref (a 110))) 3 (.ref (a 111))) 4 (.ref (a 109))) 5 (.ref (a 110))) 6 (.ref (a 111)))) (show ((va_up (va_up (va_up (va_up (va_up v 2 (.ref (a 110))) 3 (.ref (a 111))) 4 (.ref (a 109))) 5 (.ref (a 110))) 6 (.ref (a 111)))) 4 = .ref (a 109) from rfl) (show ((va_up (va_up (va_up (va_up (va_up v 2 (.ref (a 110))) 3 (.ref (a 111))) 4 (.ref (a 109))) 5 (.ref (a 110))) 6 (.ref (a 111)))) 6 = .ref (a 111) from rfl) s q_1 hc_2) hP hD rfl rfl wn_5_177 wn_5_179 sn_Grammar_behindStatement wn_1_5 wn_5_180 rfl rfl (by decide +kernel) ⟨Nat.le_of_ble_eq_true rfl, Nat.le_of_ble_eq_true rfl⟩ rfl hl.1 rfl (Nat.le_of_ble_eq_true rfl) dn_Grammar_parse_184 ⟨Nat.le_of_ble_eq_true rfl, Nat.le_of_ble_eq_true rfl⟩) hP hD hS hA (fun _ H locs hw hP hD hS => ?_)
              refine lv_goto (tgt := 208) hx hb dn_Grammar_parse_187 (by decide) ?_
              refine lv_iinc (v := (x4 + 1)) (lv' := [(4, .int ((x4 + 1))), (0, .ref ((a 105))), (3, .int x3)]) hx hb dn_Grammar_parse_208 hl (k := 2) rfl (dc_inc (by decide)) (by decide) rfl (fun ls hl => ?_)
              refine lv_goto (tgt := 56) hx hb dn_Grammar_parse_211 (by decide) ?_
              exact hk_56 x3 ((x4 + 1)) q_1.2 hf H locs ls hP hD hS (lv_sub hl [1, 2, 0] rfl)
            have hf := (if_neg h_5).symm.trans hf
            by_cases h_6 : (s.1 264 0) = 6
            · have hf := (if_pos h_6).symm.trans hf
              refine xk_ti (y := 6) h_6 ?_
              refine lv_tableIn (tgt := 190) hx hb dn_Grammar_parse_85 (by decide) (by decide) rfl (by decide) ?_
              refine lv_aload_n hx hb dn_Grammar_parse_190 rfl (lv_at hl 0 rfl) ?_
              obtain ⟨q_1, hc_2, hf⟩ := dc_b hf
              refine dc_callv (dc_runV (ar := 0) (As := []) (rest := []) (ci := 6) (q0 := 5) ⟨hx, hb, hml, hown, hg⟩ hK hN hT hS hA (ct_Grammar_operand_Gr l dC dI cI cB cJ cZ cQ N H.size a ((va_up (va_up (va_up (va_up (va_up v 2 (.ref (a 110))) 3 (.ref (a 111))) 4 (.ref (a 109))) 5 (.ref (a 110))) 6 (.ref (a 111)))) (show ((va_up (va_up (va_up (va_up (va_up v 2 (.ref (a 110))) 3 (.ref (a 111))) 4 (.ref (a 109))) 5 (.ref (a 110))) 6 (.ref (a 111)))) 2 = .ref (a 110) from rfl) (show ((va_up (va_up (va_up (va_up (va_up v 2 (.ref (a 110))) 3 (.ref (a 111))) 4 (.ref (a 109))) 5 (.ref (a 110))) 6 (.ref (a 111)))) 3 = .ref (a 111) from rfl) s q_1 hc_2) hP hD rfl rfl wn_6_17 wn_6_19 sn_Grammar_operand wn_1_5 wn_6_20 rfl rfl (by decide +kernel) ⟨Nat.le_of_ble_eq_true rfl, Nat.le_of_ble_eq_true rfl⟩ rfl hl.1 rfl (Nat.le_of_ble_eq_true rfl) dn_Grammar_parse_191 ⟨Nat.le_of_ble_eq_true rfl, Nat.le_of_ble_eq_true rfl⟩) hP hD hS hA (fun _ H locs hw hP hD hS => ?_)
              refine lv_goto (tgt := 208) hx hb dn_Grammar_parse_194 (by decide) ?_
              refine lv_iinc (v := (x4 + 1)) (lv' := [(4, .int ((x4 + 1))), (0, .ref ((a 105))), (3, .int x3)]) hx hb dn_Grammar_parse_208 hl (k := 2) rfl (dc_inc (by decide)) (by decide) rfl (fun ls hl => ?_)
              refine lv_goto (tgt := 56) hx hb dn_Grammar_parse_211 (by decide) ?_
              exact hk_56 x3 ((x4 + 1)) q_1.2 hf H locs ls hP hD hS (lv_sub hl [1, 2, 0] rfl)
            have hf := (if_neg h_6).symm.trans hf
            by_cases h_7 : (s.1 264 0) = 7
            · have hf := (if_pos h_7).symm.trans hf
              refine xk_ti (y := 7) h_7 ?_
              refine lv_tableIn (tgt := 197) hx hb dn_Grammar_parse_85 (by decide) (by decide) rfl (by decide) ?_
              refine lv_aload_n hx hb dn_Grammar_parse_197 rfl (lv_at hl 0 rfl) ?_
              obtain ⟨q_1, hc_2, hf⟩ := dc_b hf
              refine dc_callv (dc_runV (ar := 0) (As := []) (rest := []) (ci := 6) (q0 := 5) ⟨hx, hb, hml, hown, hg⟩ hK hN hT hS hA (ct_Grammar_behindOperand_Gr l dC dI cI cB cJ cZ cQ N H.size a ((va_up (va_up (va_up (va_up (va_up v 2 (.ref (a 110))) 3 (.ref (a 111))) 4 (.ref (a 109))) 5 (.ref (a 110))) 6 (.ref (a 111)))) (show ((va_up (va_up (va_up (va_up (va_up v 2 (.ref (a 110))) 3 (.ref (a 111))) 4 (.ref (a 109))) 5 (.ref (a 110))) 6 (.ref (a 111)))) 3 = .ref (a 111) from rfl) s q_1 hc_2) hP hD rfl rfl wn_6_71 wn_6_73 sn_Grammar_behindOperand wn_1_5 wn_6_74 rfl rfl (by decide +kernel) ⟨Nat.le_of_ble_eq_true rfl, Nat.le_of_ble_eq_true rfl⟩ rfl hl.1 rfl (Nat.le_of_ble_eq_true rfl) dn_Grammar_parse_198 ⟨Nat.le_of_ble_eq_true rfl, Nat.le_of_ble_eq_true rfl⟩) hP hD hS hA (fun _ H locs hw hP hD hS => ?_)
              refine lv_goto (tgt := 208) hx hb dn_Grammar_parse_201 (by decide) ?_
              refine lv_iinc (v := (x4 + 1)) (lv' := [(4, .int ((x4 + 1))), (0, .ref ((a 105))), (3, .int x3)]) hx hb dn_Grammar_parse_208 hl (k := 2) rfl (dc_inc (by decide)) (by decide) rfl (fun ls hl => ?_)
              refine lv_goto (tgt := 56) hx hb dn_Grammar_parse_211 (by decide) ?_
              exact hk_56 x3 ((x4 + 1)) q_1.2 hf H locs ls hP hD hS (lv_sub hl [1, 2, 0] rfl)
            have hf := (if_neg h_7).symm.trans hf
            refine lv_tableOut (tgt := 204) hx hb dn_Grammar_parse_85 (dc_out (fun k h1 h2 => by rcases (show k = 0 ∨ k = 1 ∨ k = 2 ∨ k = 3 ∨ k = 4 ∨ k = 5 ∨ k = 6 ∨ k = 7 by omega) with rfl | rfl | rfl | rfl | rfl | rfl | rfl | rfl <;> first | exact lv_neT h_0 (by decide) | exact lv_neT h_1 (by decide) | exact lv_neT h_2 (by decide) | exact lv_neT h_3 (by decide) | exact lv_neT h_4 (by decide) | exact lv_neT h_5 (by decide) | exact lv_neT h_6 (by decide) | exact lv_neT h_7 (by decide)) (by decide)) (by decide) ?_
            refine lv_aload_n hx hb dn_Grammar_parse_204 rfl (lv_at hl 0 rfl) ?_
            obtain ⟨q_1, hc_2, hf⟩ := dc_b hf
            refine dc_callv (dc_runV (ar := 0) (As := []) (rest := []) (ci := 6) (q0 := 5) ⟨hx, hb, hml, hown, hg⟩ hK hN hT hS hA (ct_Grammar_behindExp_Gr l dC dI cI cB cJ cZ cQ N H.size a ((va_up (va_up (va_up (va_up (va_up v 2 (.ref (a 110))) 3 (.ref (a 111))) 4 (.ref (a 109))) 5 (.ref (a 110))) 6 (.ref (a 111)))) (show ((va_up (va_up (va_up (va_up (va_up v 2 (.ref (a 110))) 3 (.ref (a 111))) 4 (.ref (a 109))) 5 (.ref (a 110))) 6 (.ref (a 111)))) 2 = .ref (a 110) from rfl) (show ((va_up (va_up (va_up (va_up (va_up v 2 (.ref (a 110))) 3 (.ref (a 111))) 4 (.ref (a 109))) 5 (.ref (a 110))) 6 (.ref (a 111)))) 4 = .ref (a 109) from rfl) (show ((va_up (va_up (va_up (va_up (va_up v 2 (.ref (a 110))) 3 (.ref (a 111))) 4 (.ref (a 109))) 5 (.ref (a 110))) 6 (.ref (a 111)))) 5 = .ref (a 110) from rfl) (show ((va_up (va_up (va_up (va_up (va_up v 2 (.ref (a 110))) 3 (.ref (a 111))) 4 (.ref (a 109))) 5 (.ref (a 110))) 6 (.ref (a 111)))) 6 = .ref (a 111) from rfl) s q_1 hc_2) hP hD rfl rfl wn_6_123 wn_6_125 sn_Grammar_behindExp wn_1_5 wn_6_126 rfl rfl (by decide +kernel) ⟨Nat.le_of_ble_eq_true rfl, Nat.le_of_ble_eq_true rfl⟩ rfl hl.1 rfl (Nat.le_of_ble_eq_true rfl) dn_Grammar_parse_205 ⟨Nat.le_of_ble_eq_true rfl, Nat.le_of_ble_eq_true rfl⟩) hP hD hS hA (fun _ H locs hw hP hD hS => ?_)
            refine lv_iinc (v := (x4 + 1)) (lv' := [(4, .int ((x4 + 1))), (0, .ref ((a 105))), (3, .int x3)]) hx hb dn_Grammar_parse_208 hl (k := 2) rfl (dc_inc (by decide)) (by decide) rfl (fun ls hl => ?_)
            refine lv_goto (tgt := 56) hx hb dn_Grammar_parse_211 (by decide) ?_
            exact hk_56 x3 ((x4 + 1)) q_1.2 hf H locs ls hP hD hS (lv_sub hl [1, 2, 0] rfl)
  intro H locs ls hP hD hS hl
  unfold fn_Grammar_parse_Gr_Ds at hf
  refine lv_aload_n hx hb dn_Grammar_parse_0 rfl (lv_at hl 0 rfl) ?_
  refine va_get (D := (dC, dI)) (ci := 6) (v := .ref ((a 101))) (C := rn_Grammar) (T := fn_Grammar) (N := 15) hx hb hg in_Grammar hown hK hP 5 rfl rfl 0 (by decide) (hg _ wn_2_0) (fun _ h9 => h9) rfl dn_Grammar_parse_1 ?_
  obtain ⟨q_1, hc_2, hf⟩ := dc_b hf
  refine dc_callv (dc_runV (ar := 0) (As := []) (rest := []) (ci := 2) (q0 := 1) ⟨hx, hb, hml, hown, hg⟩ hK hN hT hS hA (ct_Tokens_start_Tk l dC dI cI cB cJ cZ cQ N H.size a v s q_1 hc_2) hP hD rfl rfl wn_4_144 wn_4_145 wn_4_146 wn_1_2 wn_4_147 rfl rfl (by decide +kernel) ⟨Nat.le_of_ble_eq_true rfl, Nat.le_of_ble_eq_true rfl⟩ rfl hl.1 rfl (Nat.le_of_ble_eq_true rfl) dn_Grammar_parse_4 ⟨Nat.le_of_ble_eq_true rfl, Nat.le_of_ble_eq_true rfl⟩) hP hD hS hA (fun _ H locs hw hP hD hS => ?_)
  refine lv_aload_n hx hb dn_Grammar_parse_7 rfl (lv_at hl 0 rfl) ?_
  refine va_get (D := (dC, dI)) (ci := 6) (v := .ref ((a 103))) (C := rn_Grammar) (T := fn_Grammar) (N := 15) hx hb hg in_Grammar hown hK hP 5 rfl rfl 1 (by decide) (hg _ wn_2_1) (fun _ h9 => h9) rfl dn_Grammar_parse_8 ?_
  refine lv_aload_n hx hb dn_Grammar_parse_11 rfl (lv_at hl 1 rfl) ?_
  refine lv_iload_n hx hb dn_Grammar_parse_12 rfl (lv_at hl 2 rfl) ?_
  obtain ⟨q_3, hc_4, hf⟩ := dc_b hf
  refine dc_callv (dc_runV (ar := 2) (As := [.ref ((a 109)), .int v2]) (rest := []) (ci := 4) (q0 := 3) ⟨hx, hb, hml, hown, hg⟩ hK hN hT hS hA (ct_Checker_start_Ch_Ds l dC dI cI cB cJ cZ cQ N H.size a v v2 q_1.2 q_3 hc_4) hP hD rfl rfl wn_4_161 wn_4_162 wn_4_163 wn_1_4 wn_4_164 rfl rfl (by decide +kernel) ⟨Nat.le_of_ble_eq_true rfl, Nat.le_of_ble_eq_true rfl⟩ rfl hl.1 rfl (Nat.le_of_ble_eq_true rfl) dn_Grammar_parse_13 ⟨Nat.le_of_ble_eq_true rfl, Nat.le_of_ble_eq_true rfl⟩) hP hD hS hA (fun _ H locs hw hP hD hS => ?_)
  refine lv_aload_n hx hb dn_Grammar_parse_16 rfl (lv_at hl 0 rfl) ?_
  refine va_get (D := (dC, dI)) (ci := 6) (v := .ref ((a 104))) (C := rn_Grammar) (T := fn_Grammar) (N := 15) hx hb hg in_Grammar hown hK hP 5 rfl rfl 2 (by decide) (hg _ wn_2_2) (fun _ h9 => h9) rfl dn_Grammar_parse_17 ?_
  refine lv_aload_n hx hb dn_Grammar_parse_20 rfl (lv_at hl 1 rfl) ?_
  obtain ⟨q_5, hc_6, hf⟩ := dc_b hf
  refine dc_callv (dc_runV (ar := 1) (As := [.ref ((a 109))]) (rest := []) (ci := 5) (q0 := 4) ⟨hx, hb, hml, hown, hg⟩ hK hN hT hS hA (ct_Meaning_start_Me_Ds l dC dI cI cB cJ cZ cQ N H.size a ((va_up (va_up v 2 (.ref (a 110))) 3 (.ref (a 111)))) q_3.2 q_5 hc_6) hP hD rfl rfl wn_4_165 wn_4_166 wn_4_167 wn_1_6 wn_4_168 rfl rfl (by decide +kernel) ⟨Nat.le_of_ble_eq_true rfl, Nat.le_of_ble_eq_true rfl⟩ rfl hl.1 rfl (Nat.le_of_ble_eq_true rfl) dn_Grammar_parse_21 ⟨Nat.le_of_ble_eq_true rfl, Nat.le_of_ble_eq_true rfl⟩) hP hD hS hA (fun _ H locs hw hP hD hS => ?_)
  refine lv_aload_n hx hb dn_Grammar_parse_24 rfl (lv_at hl 0 rfl) ?_
  refine lv_iconst (v := 0) hx hb dn_Grammar_parse_25 (by decide) ?_
  refine va_put (D := (dC, dI)) (ci := 6) (v := .int 0) (ty := .int) (C := rn_Grammar) (T := fn_Grammar) (N := 15) hx hb hg in_Grammar tn_Grammar tk_Grammar nn_Grammar hown hK hP hD hS 5 rfl rfl 14 (by decide) (hg _ wn_2_14) (fun _ h9 => h9) rfl (tk_Grammar 14 (by decide)) rfl rfl (Nat.le_of_ble_eq_true rfl) dn_Grammar_parse_26 (fun H locs hP hD hS => ?_)
  have hP := wC_P_275 hP
  have hD := wC_D_275 hD
  refine lv_aload_n hx hb dn_Grammar_parse_29 rfl (lv_at hl 0 rfl) ?_
  refine lv_iconst (v := 0) hx hb dn_Grammar_parse_30 (by decide) ?_
  refine va_put (D := (dC, dI)) (ci := 6) (v := .int 0) (ty := .int) (C := rn_Grammar) (T := fn_Grammar) (N := 15) hx hb hg in_Grammar tn_Grammar tk_Grammar nn_Grammar hown hK hP hD hS 5 rfl rfl 10 (by decide) (hg _ wn_2_10) (fun _ h9 => h9) rfl (tk_Grammar 10 (by decide)) rfl rfl (Nat.le_of_ble_eq_true rfl) dn_Grammar_parse_31 (fun H locs hP hD hS => ?_)
  have hP := wC_P_271 hP
  have hD := wC_D_271 hD
  refine lv_aload_n hx hb dn_Grammar_parse_34 rfl (lv_at hl 0 rfl) ?_
  refine lv_iconst (v := 0) hx hb dn_Grammar_parse_35 (by decide) ?_
  refine va_put (D := (dC, dI)) (ci := 6) (v := .int 0) (ty := .int) (C := rn_Grammar) (T := fn_Grammar) (N := 15) hx hb hg in_Grammar tn_Grammar tk_Grammar nn_Grammar hown hK hP hD hS 5 rfl rfl 3 (by decide) (hg _ wn_2_3) (fun _ h9 => h9) rfl (tk_Grammar 3 (by decide)) rfl rfl (Nat.le_of_ble_eq_true rfl) dn_Grammar_parse_36 (fun H locs hP hD hS => ?_)
  have hP := wC_P_264 hP
  have hD := wC_D_264 hD
  refine lv_bipush (v := 8) hx hb dn_Grammar_parse_39 (by decide) ?_
  refine lv_aload_n hx hb dn_Grammar_parse_41 rfl (lv_at hl 0 rfl) ?_
  refine va_get (D := (dC, dI)) (ci := 6) (v := .ref ((a 101))) (C := rn_Grammar) (T := fn_Grammar) (N := 15) hx hb hg in_Grammar hown hK hP 5 rfl rfl 0 (by decide) (hg _ wn_2_0) (fun _ h9 => h9) rfl dn_Grammar_parse_42 ?_
  refine va_get (D := (dC, dI)) (ci := 2) (v := .int ((q_5.2.1 212 0))) (C := rn_Tokens) (T := fn_Tokens) (N := 9) hx hb hg in_Tokens hown hK hP 1 rfl rfl 1 (by decide) (hg _ wn_1_47) (fun _ h9 => h9) rfl dn_Grammar_parse_45 ?_
  refine lv_imul hx hb dn_Grammar_parse_48 ?_
  refine lv_bipush (v := 8) hx hb dn_Grammar_parse_49 (by decide) ?_
  refine lv_iadd hx hb dn_Grammar_parse_51 ?_
  refine lv_istore_n (lv' := [(3, .int (((8 * (q_5.2.1 212 0)) + 8))), (0, .ref ((a 105))), (1, .ref ((a 109))), (2, .int v2)]) hx hb dn_Grammar_parse_52 rfl hl (by decide) rfl (fun ls hl => ?_)
  refine lv_iconst (v := 0) hx hb dn_Grammar_parse_53 (by decide) ?_
  refine lv_istore (lv' := [(4, .int 0), (3, .int (((8 * (q_5.2.1 212 0)) + 8))), (0, .ref ((a 105))), (1, .ref ((a 109))), (2, .int v2)]) hx hb dn_Grammar_parse_54 hl (by decide) rfl (fun ls hl => ?_)
  exact hd_56 N (((8 * (q_5.2.1 212 0)) + 8)) 0 (upI (upI (upI q_5.2 275 (fun _ => 0)) 271 (fun _ => 0)) 264 (fun _ => 0)) hf H locs ls hP hD hS (lv_sub hl [2, 1, 0] rfl)
