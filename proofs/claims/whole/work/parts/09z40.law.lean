set_option maxHeartbeats 8000000 in
set_option maxRecDepth 100000 in
/-- the loop of the law -/
theorem lw_loop {p : Program} {l : Launch} {e : Env} {s : State} {m : MethodId} {below : List Frame} {meth : Method} {c : Code} (hlt : l.stackTraces = false) {bs L : Nat} {xs : Nat → Int32} (C0 : lw_At p s m meth c bs L xs) {A : Nat → Prop} (hAe : A = fun q : Nat => s.heap.size ≤ q) {dC : Nat → ClassId} {dI : Nat → Nat → Nat} {cI cB cJ cZ cQ : ClassId} (hK : va_K (dC, dI) xcl (xt cI cB cJ cZ cQ) s) (hN : xn_St s) (hT : dc_St A s s.heap) (hno : xs_No s) {ad : Nat → Nat} (hG : dc_Str ad A s s.heap) (h0 ho N : Nat) :
    ∀ (n : Nat) (x4 : Int32) (sc sm : ms) (o : Nat → Int64), lw1_loop N xs L n x4 sc sm o = some 1 → gl sm ≤ 300000 → ∀ (a : Nat → Nat) (v : Nat → Value) (b : Nat → Nat) (cells slots : Nat) (H : Heap) (locs : List Loc) (ls : Array Slot), cells + n + 2 * (300000 - gl sm) ≤ 601024 → slots + 6 * n + 2 * (300000 - gl sm) ≤ 7293034 → va_P (dC, dI) xcl ((wC a v cI cB cJ cZ cQ sc ++ ([(ho, .inl (cJ, 1, .inr (.inl o)))] : va_W)) ++ wM h0 b cI cB cJ cZ sm) H → va_D A ((wC a v cI cB cJ cZ cQ sc ++ ([(ho, .inl (cJ, 1, .inr (.inl o)))] : va_W)) ++ wM h0 b cI cB cJ cZ sm) → va_S A s.heap H locs → lv_has ls 8 [(4, .int x4), (3, .ref ho), (2, .ref h0), (1, .ref (a 100)), (0, .ref bs)] → W p l e room_1 s m #[Value.ref bs] below meth c H locs cells slots (lw_Z below #[Value.ref bs] s) (F0 m 23 ls []) := by
  obtain ⟨hx, hb, hr, hml, hown, hts, hX, hbl, hlocks, hgv⟩ := id C0
  have hg : ∀ w ∈ xw_G, w.before #[Value.ref bs] s = true := fun w h => hts w (List.mem_filter.mp h).1
  have hown : s.vm.findClass rn_L = some m.cls := hown
  have hA : ∀ q : Nat, s.heap.size ≤ q → A q := by rw [hAe]; exact fun _ h => h
  have hnA : ∀ q : Nat, q < s.heap.size → ¬ A q := by rw [hAe]; exact fun q h h2 => absurd h (Nat.not_lt.mpr h2)
  have hbA : ¬ A bs := hnA bs hbl
  have hsg := flat_of_before _ hgv
  have hz1 : (Cond.isRef xs_u).before #[Value.ref bs] s = true := hsg _ (by decide +kernel)
  have hz2 : (Cond.isRef xs_n).before #[Value.ref bs] s = true := hsg _ (by decide +kernel)
  intro n
  induction n with
  | zero => intro x4 sc sm o hf; cases hf
  | succ n ih =>
    intro x4 sc sm o hf hgl a v b cells slots H locs ls hcl hsl hP hD hS hl
    have hf : lw1_body N xs L (lw1_loop N xs L n) x4 sc sm o = some 1 := hf
    generalize lw1_loop N xs L n = k at hf ih
    unfold lw1_body at hf
    refine lv_iload hx hb dn_L_law_23 (lv_at hl 0 rfl) ?_
    refine lv_aload_n hx hb dn_L_law_25 rfl (lv_at hl 4 rfl) ?_
    refine va_slen hx hb hX hbl hbA hS dn_L_law_26 ?_
    refine lv_bipush (v := 6) hx hb dn_L_law_27 (by decide) ?_
    refine lv_isub hx hb dn_L_law_29 ?_
    refine lv_icmp_gt (tgt := 659) hx hb dn_L_law_30 (by decide) (fun h => ?_) (fun h => ?_)
    · have hf := (if_pos h).symm.trans hf
      refine lv_iconst (v := 1) hx hb dn_L_law_659 (by decide) ?_
      refine va_forget (fun q hq => by have h7 := hS.2.2 q hq; rw [hAe] at h7; exact h7) ?_
      refine W.widen (k := 601024) (n := 7293034) (by omega) (by omega) ?_
      exact lw_ret hx hb hr hlocks dn_L_law_660
    · have hf := (if_neg h).symm.trans hf
      refine lv_aload_n hx hb dn_L_law_33 rfl (lv_at hl 4 rfl) ?_
      refine lv_iload hx hb dn_L_law_34 (lv_at hl 0 rfl) ?_
      obtain ⟨hg_1, hf⟩ := dc_g hf
      refine va_sld hx hb hX hbl hbA hS hg_1 dn_L_law_36 ?_
      refine lv_bipush (v := 15) hx hb dn_L_law_37 (by decide) ?_
      refine lv_iand hx hb dn_L_law_39 ?_
      by_cases h_0 : ((xs (Int32.toNatClampNeg x4)) &&& 15) = 0
      · have hf := (if_pos h_0).symm.trans hf
        refine xk_ti (y := 0) h_0 ?_
        refine lv_tableIn (tgt := 104) hx hb dn_L_law_40 (by decide) (by decide) rfl (by decide) ?_
        refine lv_aload_n hx hb dn_L_law_104 rfl (lv_at hl 3 rfl) ?_
        refine lv_aload_n hx hb dn_L_law_105 rfl (lv_at hl 4 rfl) ?_
        refine lv_iload hx hb dn_L_law_106 (lv_at hl 0 rfl) ?_
        refine lv_iconst (v := 1) hx hb dn_L_law_108 (by decide) ?_
        refine lv_iadd hx hb dn_L_law_109 ?_
        obtain ⟨hg_2, hf⟩ := dc_g hf
        refine va_sld hx hb hX hbl hbA hS hg_2 dn_L_law_110 ?_
        refine lv_aload_n hx hb dn_L_law_111 rfl (lv_at hl 4 rfl) ?_
        refine lv_iload hx hb dn_L_law_112 (lv_at hl 0 rfl) ?_
        refine lv_iconst (v := 2) hx hb dn_L_law_114 (by decide) ?_
        refine lv_iadd hx hb dn_L_law_115 ?_
        obtain ⟨hg_3, hf⟩ := dc_g hf
        refine va_sld hx hb hX hbl hbA hS hg_3 dn_L_law_116 ?_
        refine lv_aload_n hx hb dn_L_law_117 rfl (lv_at hl 4 rfl) ?_
        refine lv_iload hx hb dn_L_law_118 (lv_at hl 0 rfl) ?_
        refine lv_iconst (v := 3) hx hb dn_L_law_120 (by decide) ?_
        refine lv_iadd hx hb dn_L_law_121 ?_
        obtain ⟨hg_4, hf⟩ := dc_g hf
        refine va_sld hx hb hX hbl hbA hS hg_4 dn_L_law_122 ?_
        refine lv_aload_n hx hb dn_L_law_123 rfl (lv_at hl 4 rfl) ?_
        refine lv_iload hx hb dn_L_law_124 (lv_at hl 0 rfl) ?_
        refine lv_iconst (v := 4) hx hb dn_L_law_126 (by decide) ?_
        refine lv_iadd hx hb dn_L_law_127 ?_
        obtain ⟨hg_5, hf⟩ := dc_g hf
        refine va_sld hx hb hX hbl hbA hS hg_5 dn_L_law_128 ?_
        refine lv_aload_n hx hb dn_L_law_129 rfl (lv_at hl 4 rfl) ?_
        refine lv_iload hx hb dn_L_law_130 (lv_at hl 0 rfl) ?_
        refine lv_iconst (v := 5) hx hb dn_L_law_132 (by decide) ?_
        refine lv_iadd hx hb dn_L_law_133 ?_
        obtain ⟨hg_6, hf⟩ := dc_g hf
        refine va_sld hx hb hX hbl hbA hS hg_6 dn_L_law_134 ?_
        refine lv_aload_n hx hb dn_L_law_135 rfl (lv_at hl 1 rfl) ?_
        obtain ⟨q_7, hc_8, hf⟩ := dc_b hf
        refine dc_calliA (xk_runSH (ar := 7) (As := [.ref ((a 100)), .int ((xs (Int32.toNatClampNeg ((x4 + 1))))), .int ((xs (Int32.toNatClampNeg ((x4 + 2))))), .int ((xs (Int32.toNatClampNeg ((x4 + 3))))), .int ((xs (Int32.toNatClampNeg ((x4 + 4))))), .int ((xs (Int32.toNatClampNeg ((x4 + 5))))), .ref ho]) (rest := []) ⟨hx, hb, hml, hown, hg⟩ (hc_feed l hlt dC dI cI cB cJ cZ cQ N H.size a v ho ((xs (Int32.toNatClampNeg ((x4 + 1))))) ((xs (Int32.toNatClampNeg ((x4 + 2))))) ((xs (Int32.toNatClampNeg ((x4 + 3))))) ((xs (Int32.toNatClampNeg ((x4 + 4))))) ((xs (Int32.toNatClampNeg ((x4 + 5))))) sc o q_7 hc_8) dc_blindX (lw_pre hK hN hT hno hts hz1 hz2 hnA hP hD hS hA) wn_7_20 wn_7_21 wn_1_0 wn_7_22 rfl rfl (by decide +kernel) ⟨Nat.le_of_ble_eq_true rfl, Nat.le_of_ble_eq_true rfl⟩ rfl hl.1 rfl (Nat.le_of_ble_eq_true rfl) dn_L_law_136 ⟨(show _ ≤ 601024 by omega), (show _ ≤ 7293034 by omega)⟩) hP hD hS hA (fun r _ H locs hw hP hD hS => ?_)
        have hw : r = q_7.1 := hw
        subst hw
        refine lv_istore (lv' := [(5, .int q_7.1), (4, .int x4), (3, .ref ho), (2, .ref h0), (1, .ref ((a 100))), (0, .ref bs)]) hx hb dn_L_law_139 hl (by decide) rfl (fun ls hl => ?_)
        refine lv_aload_n hx hb dn_L_law_141 rfl (lv_at hl 3 rfl) ?_
        refine lv_aload_n hx hb dn_L_law_142 rfl (lv_at hl 5 rfl) ?_
        refine lv_iload hx hb dn_L_law_143 (lv_at hl 1 rfl) ?_
        refine lv_iconst (v := 1) hx hb dn_L_law_145 (by decide) ?_
        refine lv_iadd hx hb dn_L_law_146 ?_
        obtain ⟨hg_9, hf⟩ := dc_g hf
        refine va_sld hx hb hX hbl hbA hS hg_9 dn_L_law_147 ?_
        refine lv_aload_n hx hb dn_L_law_148 rfl (lv_at hl 5 rfl) ?_
        refine lv_iload hx hb dn_L_law_149 (lv_at hl 1 rfl) ?_
        refine lv_iconst (v := 2) hx hb dn_L_law_151 (by decide) ?_
        refine lv_iadd hx hb dn_L_law_152 ?_
        obtain ⟨hg_10, hf⟩ := dc_g hf
        refine va_sld hx hb hX hbl hbA hS hg_10 dn_L_law_153 ?_
        refine lv_aload_n hx hb dn_L_law_154 rfl (lv_at hl 5 rfl) ?_
        refine lv_iload hx hb dn_L_law_155 (lv_at hl 1 rfl) ?_
        refine lv_iconst (v := 3) hx hb dn_L_law_157 (by decide) ?_
        refine lv_iadd hx hb dn_L_law_158 ?_
        obtain ⟨hg_11, hf⟩ := dc_g hf
        refine va_sld hx hb hX hbl hbA hS hg_11 dn_L_law_159 ?_
        refine lv_aload_n hx hb dn_L_law_160 rfl (lv_at hl 5 rfl) ?_
        refine lv_iload hx hb dn_L_law_161 (lv_at hl 1 rfl) ?_
        refine lv_iconst (v := 4) hx hb dn_L_law_163 (by decide) ?_
        refine lv_iadd hx hb dn_L_law_164 ?_
        obtain ⟨hg_12, hf⟩ := dc_g hf
        refine va_sld hx hb hX hbl hbA hS hg_12 dn_L_law_165 ?_
        refine lv_aload_n hx hb dn_L_law_166 rfl (lv_at hl 5 rfl) ?_
        refine lv_iload hx hb dn_L_law_167 (lv_at hl 1 rfl) ?_
        refine lv_iconst (v := 5) hx hb dn_L_law_169 (by decide) ?_
        refine lv_iadd hx hb dn_L_law_170 ?_
        obtain ⟨hg_13, hf⟩ := dc_g hf
        refine va_sld hx hb hX hbl hbA hS hg_13 dn_L_law_171 ?_
        obtain ⟨q_14, hc_15, hf⟩ := dc_b hf
        have hgeq_14 := mn_M_feed N ((xs (Int32.toNatClampNeg ((x4 + 1))))) ((xs (Int32.toNatClampNeg ((x4 + 2))))) ((xs (Int32.toNatClampNeg ((x4 + 3))))) ((xs (Int32.toNatClampNeg ((x4 + 4))))) ((xs (Int32.toNatClampNeg ((x4 + 5))))) sm q_14 hc_15
        have hP := va_P_sw hP
        have hD := va_D_sw hD
        refine dc_calliA (dc_runV (ar := 5) (As := [.int ((xs (Int32.toNatClampNeg ((x4 + 1))))), .int ((xs (Int32.toNatClampNeg ((x4 + 2))))), .int ((xs (Int32.toNatClampNeg ((x4 + 3))))), .int ((xs (Int32.toNatClampNeg ((x4 + 4))))), .int ((xs (Int32.toNatClampNeg ((x4 + 5)))))]) (rest := []) (ci := 0) (q0 := 0) ⟨hx, hb, hml, hown, hg⟩ hK hN hT hS hA (ct_M_feed l dC dI cI cB cJ cZ cQ N H.size h0 b ((xs (Int32.toNatClampNeg ((x4 + 1))))) ((xs (Int32.toNatClampNeg ((x4 + 2))))) ((xs (Int32.toNatClampNeg ((x4 + 3))))) ((xs (Int32.toNatClampNeg ((x4 + 4))))) ((xs (Int32.toNatClampNeg ((x4 + 5))))) sm q_14 hc_15) (va_P_l hP) (va_D_l hD) rfl rfl wn_10_239 wn_11_0 wn_11_1 wn_1_13 wn_11_2 rfl rfl (by decide +kernel) ⟨Nat.le_of_ble_eq_true rfl, Nat.le_of_ble_eq_true rfl⟩ rfl hl.1 rfl (Nat.le_of_ble_eq_true rfl) dn_L_law_172 ⟨(show _ ≤ 601024 by omega), (show _ ≤ 7293034 by omega)⟩) hP hD hS hA (fun r_16 _ H locs hw hP hD hS => ?_)
        have hP : va_P (dC, dI) xcl ((wC a v cI cB cJ cZ cQ q_7.2.1 ++ ([(ho, .inl (cJ, 1, .inr (.inl q_7.2.2)))] : va_W)) ++ wM h0 b cI cB cJ cZ q_14.2) H := va_P_sw hP
        have hD : va_D A ((wC a v cI cB cJ cZ cQ q_7.2.1 ++ ([(ho, .inl (cJ, 1, .inr (.inl q_7.2.2)))] : va_W)) ++ wM h0 b cI cB cJ cZ q_14.2) := va_D_sw hD
        have hw : r_16 = q_14.1 := hw
        subst hw
        refine lv_istore (lv' := [(6, .int q_14.1), (5, .int q_7.1), (4, .int x4), (3, .ref ho), (2, .ref h0), (1, .ref ((a 100))), (0, .ref bs)]) hx hb dn_L_law_175 hl (by decide) rfl (fun ls hl => ?_)
        refine lv_aload_n hx hb dn_L_law_177 rfl (lv_at hl 4 rfl) ?_
        obtain ⟨q_17, hc_18, hf⟩ := dc_b hf
        have hgeq_17 := mn_M_thrown N q_14.2 q_17 hc_18
        have hP := va_P_sw hP
        have hD := va_D_sw hD
        refine dc_calliA (dc_runV (ar := 0) (As := []) (rest := []) (ci := 0) (q0 := 0) ⟨hx, hb, hml, hown, hg⟩ hK hN hT hS hA (ct_M_thrown l dC dI cI cB cJ cZ cQ N H.size h0 b q_14.2 q_17 hc_18) (va_P_l hP) (va_D_l hD) rfl rfl wn_9_108 wn_9_109 wn_9_110 wn_1_13 wn_9_111 rfl rfl (by decide +kernel) ⟨Nat.le_of_ble_eq_true rfl, Nat.le_of_ble_eq_true rfl⟩ rfl hl.1 rfl (Nat.le_of_ble_eq_true rfl) dn_L_law_178 ⟨(show _ ≤ 601024 by omega), (show _ ≤ 7293034 by omega)⟩) hP hD hS hA (fun r_19 _ H locs hw hP hD hS => ?_)
        have hP : va_P (dC, dI) xcl ((wC a v cI cB cJ cZ cQ q_7.2.1 ++ ([(ho, .inl (cJ, 1, .inr (.inl q_7.2.2)))] : va_W)) ++ wM h0 b cI cB cJ cZ q_17.2) H := va_P_sw hP
        have hD : va_D A ((wC a v cI cB cJ cZ cQ q_7.2.1 ++ ([(ho, .inl (cJ, 1, .inr (.inl q_7.2.2)))] : va_W)) ++ wM h0 b cI cB cJ cZ q_17.2) := va_D_sw hD
        have hw : r_19 = q_17.1 := hw
        subst hw
        refine lv_iload hx hb dn_L_law_181 (lv_at hl 1 rfl) ?_
        refine lv_icmp_eq (tgt := 188) hx hb dn_L_law_183 (by decide) (fun h => ?_) (fun h => ?_)
        · have hf := (if_pos h).symm.trans hf
          refine lv_iload hx hb dn_L_law_188 (lv_at hl 1 rfl) ?_
          refine lv_if_ne (tgt := 205) hx hb dn_L_law_190 (by decide) (fun h => ?_) (fun h => ?_)
          · have hf := (if_neg h).symm.trans hf
            refine lv_goto (tgt := 653) hx hb dn_L_law_205 (by decide) ?_
            refine lv_iinc (v := (x4 + 6)) (lv' := [(4, .int ((x4 + 6))), (6, .int q_14.1), (5, .int q_7.1), (3, .ref ho), (2, .ref h0), (1, .ref ((a 100))), (0, .ref bs)]) hx hb dn_L_law_653 hl (k := 2) rfl (dc_inc (by decide)) (by decide) rfl (fun ls hl => ?_)
            refine lv_goto (tgt := 23) hx hb dn_L_law_656 (by decide) ?_
            exact ih ((x4 + 6)) q_7.2.1 q_17.2 q_7.2.2 hf (by omega) a v b _ _ H locs ls (by omega) (by omega) hP hD hS (lv_sub hl [0, 3, 4, 5, 6] rfl)
          · have hf := (if_pos h).symm.trans hf
            refine lv_aload_n hx hb dn_L_law_193 rfl (lv_at hl 3 rfl) ?_
            refine lv_iconst (v := 0) hx hb dn_L_law_194 (by decide) ?_
            refine va_lald hx hb hK (va_P_l hP) 122 2 rfl rfl (show ¬ (_ ∨ _) by decide) dn_L_law_195 ?_
            refine xk_tl (y := (q_7.2.2 0)) rfl ?_
            refine lv_iload hx hb dn_L_law_196 (lv_at hl 0 rfl) ?_
            refine lv_i2l (v := Int32.toInt64 q_14.1) hx hb dn_L_law_198 rfl ?_
            refine W.lcmp hx hb dn_L_law_199 ?_
            refine lv_if_eq (tgt := 205) hx hb dn_L_law_200 (by decide) (fun h => ?_) (fun h => ?_)
            · have hf := (if_pos h).symm.trans hf
              refine lv_goto (tgt := 653) hx hb dn_L_law_205 (by decide) ?_
              refine lv_iinc (v := (x4 + 6)) (lv' := [(4, .int ((x4 + 6))), (6, .int q_14.1), (5, .int q_7.1), (3, .ref ho), (2, .ref h0), (1, .ref ((a 100))), (0, .ref bs)]) hx hb dn_L_law_653 hl (k := 2) rfl (dc_inc (by decide)) (by decide) rfl (fun ls hl => ?_)
              refine lv_goto (tgt := 23) hx hb dn_L_law_656 (by decide) ?_
              exact ih ((x4 + 6)) q_7.2.1 q_17.2 q_7.2.2 hf (by omega) a v b _ _ H locs ls (by omega) (by omega) hP hD hS (lv_sub hl [0, 3, 4, 5, 6] rfl)
            · have hf := (if_neg h).symm.trans hf
              refine lv_iconst (v := 0) hx hb dn_L_law_203 (by decide) ?_
              exact absurd (Option.some.inj hf) (by decide)
        · have hf := (if_neg h).symm.trans hf
          refine lv_iconst (v := 0) hx hb dn_L_law_186 (by decide) ?_
          exact absurd (Option.some.inj hf) (by decide)
      have hf := (if_neg h_0).symm.trans hf
      by_cases h_1 : ((xs (Int32.toNatClampNeg x4)) &&& 15) = 1
      · have hf := (if_pos h_1).symm.trans hf
        refine xk_ti (y := 1) h_1 ?_
        refine lv_tableIn (tgt := 208) hx hb dn_L_law_40 (by decide) (by decide) rfl (by decide) ?_
        refine lv_aload_n hx hb dn_L_law_208 rfl (lv_at hl 3 rfl) ?_
        refine lv_aload_n hx hb dn_L_law_209 rfl (lv_at hl 4 rfl) ?_
        refine lv_iload hx hb dn_L_law_210 (lv_at hl 0 rfl) ?_
        refine lv_iconst (v := 1) hx hb dn_L_law_212 (by decide) ?_
        refine lv_iadd hx hb dn_L_law_213 ?_
        obtain ⟨hg_2, hf⟩ := dc_g hf
        refine va_sld hx hb hX hbl hbA hS hg_2 dn_L_law_214 ?_
        obtain ⟨q_3, hc_4, hf⟩ := dc_b hf
        refine dc_calliA (xk_runSH (ar := 2) (As := [.ref ((a 100)), .int ((xs (Int32.toNatClampNeg ((x4 + 1)))))]) (rest := []) ⟨hx, hb, hml, hown, hg⟩ (hc_end l hlt dC dI cI cB cJ cZ cQ N H.size a v ho ((xs (Int32.toNatClampNeg ((x4 + 1))))) sc o q_3 hc_4) dc_blindX (lw_pre hK hN hT hno hts hz1 hz2 hnA hP hD hS hA) wn_7_97 wn_7_98 wn_1_0 wn_7_99 rfl rfl (by decide +kernel) ⟨Nat.le_of_ble_eq_true rfl, Nat.le_of_ble_eq_true rfl⟩ rfl hl.1 rfl (Nat.le_of_ble_eq_true rfl) dn_L_law_215 ⟨(show _ ≤ 601024 by omega), (show _ ≤ 7293034 by omega)⟩) hP hD hS hA (fun r _ H locs hw hP hD hS => ?_)
        have hw : r = q_3.1 := hw
        subst hw
        refine lv_istore (lv' := [(5, .int q_3.1), (4, .int x4), (3, .ref ho), (2, .ref h0), (1, .ref ((a 100))), (0, .ref bs)]) hx hb dn_L_law_218 hl (by decide) rfl (fun ls hl => ?_)
        refine lv_aload_n hx hb dn_L_law_220 rfl (lv_at hl 3 rfl) ?_
        refine lv_aload_n hx hb dn_L_law_221 rfl (lv_at hl 5 rfl) ?_
        refine lv_iload hx hb dn_L_law_222 (lv_at hl 1 rfl) ?_
        refine lv_iconst (v := 1) hx hb dn_L_law_224 (by decide) ?_
        refine lv_iadd hx hb dn_L_law_225 ?_
        obtain ⟨hg_5, hf⟩ := dc_g hf
        refine va_sld hx hb hX hbl hbA hS hg_5 dn_L_law_226 ?_
        obtain ⟨q_6, hc_7, hf⟩ := dc_b hf
        have hgeq_6 := mn_M_end N ((xs (Int32.toNatClampNeg ((x4 + 1))))) sm q_6 hc_7
        have hP := va_P_sw hP
        have hD := va_D_sw hD
        refine dc_callvA (dc_runV (ar := 1) (As := [.int ((xs (Int32.toNatClampNeg ((x4 + 1)))))]) (rest := []) (ci := 0) (q0 := 0) ⟨hx, hb, hml, hown, hg⟩ hK hN hT hS hA (ct_M_end l dC dI cI cB cJ cZ cQ N H.size h0 b ((xs (Int32.toNatClampNeg ((x4 + 1))))) sm q_6 hc_7) (va_P_l hP) (va_D_l hD) rfl rfl wn_11_3 wn_11_4 wn_11_5 wn_1_13 wn_11_6 rfl rfl (by decide +kernel) ⟨Nat.le_of_ble_eq_true rfl, Nat.le_of_ble_eq_true rfl⟩ rfl hl.1 rfl (Nat.le_of_ble_eq_true rfl) dn_L_law_227 ⟨(show _ ≤ 601024 by omega), (show _ ≤ 7293034 by omega)⟩) hP hD hS hA (fun _ H locs hw hP hD hS => ?_)
        have hP : va_P (dC, dI) xcl ((wC a v cI cB cJ cZ cQ q_3.2.1 ++ ([(ho, .inl (cJ, 1, .inr (.inl q_3.2.2)))] : va_W)) ++ wM h0 b cI cB cJ cZ q_6.2) H := va_P_sw hP
        have hD : va_D A ((wC a v cI cB cJ cZ cQ q_3.2.1 ++ ([(ho, .inl (cJ, 1, .inr (.inl q_3.2.2)))] : va_W)) ++ wM h0 b cI cB cJ cZ q_6.2) := va_D_sw hD
        refine lv_aload_n hx hb dn_L_law_230 rfl (lv_at hl 3 rfl) ?_
        obtain ⟨q_8, hc_9, hf⟩ := dc_b hf
        have hgeq_8 := mn_M_thrown N q_6.2 q_8 hc_9
        have hP := va_P_sw hP
        have hD := va_D_sw hD
        refine dc_calliA (dc_runV (ar := 0) (As := []) (rest := []) (ci := 0) (q0 := 0) ⟨hx, hb, hml, hown, hg⟩ hK hN hT hS hA (ct_M_thrown l dC dI cI cB cJ cZ cQ N H.size h0 b q_6.2 q_8 hc_9) (va_P_l hP) (va_D_l hD) rfl rfl wn_9_108 wn_9_109 wn_9_110 wn_1_13 wn_9_111 rfl rfl (by decide +kernel) ⟨Nat.le_of_ble_eq_true rfl, Nat.le_of_ble_eq_true rfl⟩ rfl hl.1 rfl (Nat.le_of_ble_eq_true rfl) dn_L_law_231 ⟨(show _ ≤ 601024 by omega), (show _ ≤ 7293034 by omega)⟩) hP hD hS hA (fun r_10 _ H locs hw hP hD hS => ?_)
        have hP : va_P (dC, dI) xcl ((wC a v cI cB cJ cZ cQ q_3.2.1 ++ ([(ho, .inl (cJ, 1, .inr (.inl q_3.2.2)))] : va_W)) ++ wM h0 b cI cB cJ cZ q_8.2) H := va_P_sw hP
        have hD : va_D A ((wC a v cI cB cJ cZ cQ q_3.2.1 ++ ([(ho, .inl (cJ, 1, .inr (.inl q_3.2.2)))] : va_W)) ++ wM h0 b cI cB cJ cZ q_8.2) := va_D_sw hD
        have hw : r_10 = q_8.1 := hw
        subst hw
        refine lv_iload hx hb dn_L_law_234 (lv_at hl 0 rfl) ?_
        refine lv_icmp_eq (tgt := 241) hx hb dn_L_law_236 (by decide) (fun h => ?_) (fun h => ?_)
        · have hf := (if_pos h).symm.trans hf
          refine lv_goto (tgt := 653) hx hb dn_L_law_241 (by decide) ?_
          refine lv_iinc (v := (x4 + 6)) (lv' := [(4, .int ((x4 + 6))), (5, .int q_3.1), (3, .ref ho), (2, .ref h0), (1, .ref ((a 100))), (0, .ref bs)]) hx hb dn_L_law_653 hl (k := 1) rfl (dc_inc (by decide)) (by decide) rfl (fun ls hl => ?_)
          refine lv_goto (tgt := 23) hx hb dn_L_law_656 (by decide) ?_
          exact ih ((x4 + 6)) q_3.2.1 q_8.2 q_3.2.2 hf (by omega) a v b _ _ H locs ls (by omega) (by omega) hP hD hS (lv_sub hl [0, 2, 3, 4, 5] rfl)
        · have hf := (if_neg h).symm.trans hf
          refine lv_iconst (v := 0) hx hb dn_L_law_239 (by decide) ?_
          exact absurd (Option.some.inj hf) (by decide)
      have hf := (if_neg h_1).symm.trans hf
      by_cases h_2 : ((xs (Int32.toNatClampNeg x4)) &&& 15) = 2
      · have hf := (if_pos h_2).symm.trans hf
        refine xk_ti (y := 2) h_2 ?_
        refine lv_tableIn (tgt := 244) hx hb dn_L_law_40 (by decide) (by decide) rfl (by decide) ?_
        refine lv_aload_n hx hb dn_L_law_244 rfl (lv_at hl 3 rfl) ?_
        obtain ⟨q_2, hc_3, hf⟩ := dc_b hf
        rw [List.append_assoc] at hP hD
        refine dc_calliA (dc_runVS (ar := 0) (As := []) (rest := []) (ci := 1) (q0 := 0) ⟨hx, hb, hml, hown, hg⟩ hK hN hT hG hS hA (ct_C_read_C l dC dI cI cB cJ cZ cQ N H.size a v ad sc q_2 hc_3) (va_P_l hP) (va_D_l hD) rfl rfl wn_3_159 wn_3_160 wn_3_161 wn_1_1 wn_3_162 rfl rfl (by decide +kernel) ⟨Nat.le_of_ble_eq_true rfl, Nat.le_of_ble_eq_true rfl⟩ rfl hl.1 rfl (Nat.le_of_ble_eq_true rfl) dn_L_law_245 ⟨(show _ ≤ 601024 by omega), (show _ ≤ 7293034 by omega)⟩) hP hD hS hA (fun r u H locs hw hP hD hS => ?_)
        obtain ⟨hw, ha⟩ := hw
        rw [← ha] at hl
        obtain ⟨a, v⟩ := u
        have hl : lv_has ls 8 [(4, .int x4), (3, .ref ho), (2, .ref h0), (1, .ref ((a 100))), (0, .ref bs)] := hl
        have hP : va_P (dC, dI) xcl (wC a v cI cB cJ cZ cQ q_2.2 ++ (([(ho, .inl (cJ, 1, .inr (.inl o)))] : va_W) ++ wM h0 b cI cB cJ cZ sm)) H := hP
        have hD : va_D A (wC a v cI cB cJ cZ cQ q_2.2 ++ (([(ho, .inl (cJ, 1, .inr (.inl o)))] : va_W) ++ wM h0 b cI cB cJ cZ sm)) := hD
        rw [← List.append_assoc] at hP hD
        have hw : r = q_2.1 := hw
        subst hw
        refine lv_aload_n hx hb dn_L_law_248 rfl (lv_at hl 2 rfl) ?_
        obtain ⟨q_4, hc_5, hf⟩ := dc_b hf
        obtain ⟨hg_6, hf⟩ := dc_g hf
        have hgr := mn_M_read_I N sm q_4 hc_5
        have hP := va_P_sw hP
        have hD := va_D_sw hD
        have hroom : 2 * (gl q_4.2 - gl sm) + 2 * (300000 - gl q_4.2) ≤ 2 * (300000 - gl sm) := by omega
        refine dc_calliA (dc_runV (ar := 0) (As := []) (rest := [.int q_2.1]) (ci := 0) (q0 := 0) ⟨hx, hb, hml, hown, hg⟩ hK hN hT hS hA (ct_M_read_I l dC dI cI cB cJ cZ cQ N H.size h0 b sm q_4 hc_5) (va_P_l hP) (va_D_l hD) rfl rfl wn_9_112 wn_9_113 wn_9_114 wn_1_13 wn_9_115 rfl rfl (by decide +kernel) ⟨Nat.le_of_ble_eq_true rfl, Nat.le_of_ble_eq_true rfl⟩ rfl hl.1 rfl (Nat.le_of_ble_eq_true rfl) dn_L_law_249 ⟨(show _ ≤ 601024 by omega), (show _ ≤ 7293034 by omega)⟩) hP hD hS hA (fun r_7 b H locs hw hP hD hS => ?_)
        have hP : va_P (dC, dI) xcl ((wC a v cI cB cJ cZ cQ q_2.2 ++ ([(ho, .inl (cJ, 1, .inr (.inl o)))] : va_W)) ++ wM h0 b cI cB cJ cZ q_4.2) H := va_P_sw hP
        have hD : va_D A ((wC a v cI cB cJ cZ cQ q_2.2 ++ ([(ho, .inl (cJ, 1, .inr (.inl o)))] : va_W)) ++ wM h0 b cI cB cJ cZ q_4.2) := va_D_sw hD
        have hw : r_7 = q_4.1 := hw
        subst hw
        refine lv_icmp_eq (tgt := 653) hx hb dn_L_law_252 (by decide) (fun h => ?_) (fun h => ?_)
        · have hf := (if_pos h).symm.trans hf
          refine lv_iinc (v := (x4 + 6)) (lv' := [(4, .int ((x4 + 6))), (3, .ref ho), (2, .ref h0), (1, .ref ((a 100))), (0, .ref bs)]) hx hb dn_L_law_653 hl (k := 0) rfl (dc_inc (by decide)) (by decide) rfl (fun ls hl => ?_)
          refine lv_goto (tgt := 23) hx hb dn_L_law_656 (by decide) ?_
          exact ih ((x4 + 6)) q_2.2 q_4.2 o hf (by omega) a v b _ _ H locs ls (by omega) (by omega) hP hD hS (lv_sub hl [0, 1, 2, 3, 4] rfl)
        · have hf := (if_neg h).symm.trans hf
          refine lv_iconst (v := 0) hx hb dn_L_law_255 (by decide) ?_
          exact absurd (Option.some.inj hf) (by decide)
      have hf := (if_neg h_2).symm.trans hf
      by_cases h_3 : ((xs (Int32.toNatClampNeg x4)) &&& 15) = 3
      · have hf := (if_pos h_3).symm.trans hf
        refine xk_ti (y := 3) h_3 ?_
        refine lv_tableIn (tgt := 257) hx hb dn_L_law_40 (by decide) (by decide) rfl (by decide) ?_
        refine lv_aload_n hx hb dn_L_law_257 rfl (lv_at hl 3 rfl) ?_
        obtain ⟨q_2, hc_3, hf⟩ := dc_b hf
        rw [List.append_assoc] at hP hD
        refine dc_calliA (dc_runV (ar := 0) (As := []) (rest := []) (ci := 1) (q0 := 0) ⟨hx, hb, hml, hown, hg⟩ hK hN hT hS hA (ct_C_fault_C l dC dI cI cB cJ cZ cQ N H.size a v sc q_2 hc_3) (va_P_l hP) (va_D_l hD) rfl rfl wn_7_16 wn_7_17 wn_7_18 wn_1_1 wn_7_19 rfl rfl (by decide +kernel) ⟨Nat.le_of_ble_eq_true rfl, Nat.le_of_ble_eq_true rfl⟩ rfl hl.1 rfl (Nat.le_of_ble_eq_true rfl) dn_L_law_258 ⟨(show _ ≤ 601024 by omega), (show _ ≤ 7293034 by omega)⟩) hP hD hS hA (fun r u H locs hw hP hD hS => ?_)
        have hP : va_P (dC, dI) xcl (wC a v cI cB cJ cZ cQ q_2.2 ++ (([(ho, .inl (cJ, 1, .inr (.inl o)))] : va_W) ++ wM h0 b cI cB cJ cZ sm)) H := hP
        have hD : va_D A (wC a v cI cB cJ cZ cQ q_2.2 ++ (([(ho, .inl (cJ, 1, .inr (.inl o)))] : va_W) ++ wM h0 b cI cB cJ cZ sm)) := hD
        rw [← List.append_assoc] at hP hD
        have hw : r = q_2.1 := hw
        subst hw
        refine lv_aload_n hx hb dn_L_law_261 rfl (lv_at hl 2 rfl) ?_
        obtain ⟨q_4, hc_5, hf⟩ := dc_b hf
        have hgeq_4 := mn_M_fault N sm q_4 hc_5
        have hP := va_P_sw hP
        have hD := va_D_sw hD
        refine dc_calliA (dc_runV (ar := 0) (As := []) (rest := [.int q_2.1]) (ci := 0) (q0 := 0) ⟨hx, hb, hml, hown, hg⟩ hK hN hT hS hA (ct_M_fault l dC dI cI cB cJ cZ cQ N H.size h0 b sm q_4 hc_5) (va_P_l hP) (va_D_l hD) rfl rfl wn_11_7 wn_11_8 wn_11_9 wn_1_13 wn_11_10 rfl rfl (by decide +kernel) ⟨Nat.le_of_ble_eq_true rfl, Nat.le_of_ble_eq_true rfl⟩ rfl hl.1 rfl (Nat.le_of_ble_eq_true rfl) dn_L_law_262 ⟨(show _ ≤ 601024 by omega), (show _ ≤ 7293034 by omega)⟩) hP hD hS hA (fun r_6 _ H locs hw hP hD hS => ?_)
        have hP : va_P (dC, dI) xcl ((wC a v cI cB cJ cZ cQ q_2.2 ++ ([(ho, .inl (cJ, 1, .inr (.inl o)))] : va_W)) ++ wM h0 b cI cB cJ cZ q_4.2) H := va_P_sw hP
        have hD : va_D A ((wC a v cI cB cJ cZ cQ q_2.2 ++ ([(ho, .inl (cJ, 1, .inr (.inl o)))] : va_W)) ++ wM h0 b cI cB cJ cZ q_4.2) := va_D_sw hD
        have hw : r_6 = q_4.1 := hw
        subst hw
        refine lv_icmp_eq (tgt := 653) hx hb dn_L_law_265 (by decide) (fun h => ?_) (fun h => ?_)
        · have hf := (if_pos h).symm.trans hf
          refine lv_iinc (v := (x4 + 6)) (lv' := [(4, .int ((x4 + 6))), (3, .ref ho), (2, .ref h0), (1, .ref ((a 100))), (0, .ref bs)]) hx hb dn_L_law_653 hl (k := 0) rfl (dc_inc (by decide)) (by decide) rfl (fun ls hl => ?_)
          refine lv_goto (tgt := 23) hx hb dn_L_law_656 (by decide) ?_
          exact ih ((x4 + 6)) q_2.2 q_4.2 o hf (by omega) a v b _ _ H locs ls (by omega) (by omega) hP hD hS (lv_sub hl [0, 1, 2, 3, 4] rfl)
        · have hf := (if_neg h).symm.trans hf
          refine lv_iconst (v := 0) hx hb dn_L_law_268 (by decide) ?_
          exact absurd (Option.some.inj hf) (by decide)
      have hf := (if_neg h_3).symm.trans hf
      by_cases h_4 : ((xs (Int32.toNatClampNeg x4)) &&& 15) = 4
      · have hf := (if_pos h_4).symm.trans hf
        refine xk_ti (y := 4) h_4 ?_
        refine lv_tableIn (tgt := 270) hx hb dn_L_law_40 (by decide) (by decide) rfl (by decide) ?_
        refine lv_aload_n hx hb dn_L_law_270 rfl (lv_at hl 3 rfl) ?_
        refine lv_aload_n hx hb dn_L_law_271 rfl (lv_at hl 4 rfl) ?_
        refine lv_iload hx hb dn_L_law_272 (lv_at hl 0 rfl) ?_
        refine lv_iconst (v := 1) hx hb dn_L_law_274 (by decide) ?_
        refine lv_iadd hx hb dn_L_law_275 ?_
        obtain ⟨hg_2, hf⟩ := dc_g hf
        refine va_sld hx hb hX hbl hbA hS hg_2 dn_L_law_276 ?_
        refine lv_aload_n hx hb dn_L_law_277 rfl (lv_at hl 1 rfl) ?_
        obtain ⟨q_3, hc_4, hf⟩ := dc_b hf
        refine dc_calliA (xk_runSH (ar := 3) (As := [.ref ((a 100)), .int ((xs (Int32.toNatClampNeg ((x4 + 1))))), .ref ho]) (rest := []) ⟨hx, hb, hml, hown, hg⟩ (hc_count l hlt dC dI cI cB cJ cZ cQ N H.size a v ho ((xs (Int32.toNatClampNeg ((x4 + 1))))) sc o q_3 hc_4) dc_blindX (lw_pre hK hN hT hno hts hz1 hz2 hnA hP hD hS hA) wn_7_120 wn_7_121 wn_1_0 wn_7_122 rfl rfl (by decide +kernel) ⟨Nat.le_of_ble_eq_true rfl, Nat.le_of_ble_eq_true rfl⟩ rfl hl.1 rfl (Nat.le_of_ble_eq_true rfl) dn_L_law_278 ⟨(show _ ≤ 601024 by omega), (show _ ≤ 7293034 by omega)⟩) hP hD hS hA (fun r _ H locs hw hP hD hS => ?_)
        have hw : r = q_3.1 := hw
        subst hw
        refine lv_istore (lv' := [(5, .int q_3.1), (4, .int x4), (3, .ref ho), (2, .ref h0), (1, .ref ((a 100))), (0, .ref bs)]) hx hb dn_L_law_281 hl (by decide) rfl (fun ls hl => ?_)
        refine lv_aload_n hx hb dn_L_law_283 rfl (lv_at hl 3 rfl) ?_
        refine lv_aload_n hx hb dn_L_law_284 rfl (lv_at hl 5 rfl) ?_
        refine lv_iload hx hb dn_L_law_285 (lv_at hl 1 rfl) ?_
        refine lv_iconst (v := 1) hx hb dn_L_law_287 (by decide) ?_
        refine lv_iadd hx hb dn_L_law_288 ?_
        obtain ⟨hg_5, hf⟩ := dc_g hf
        refine va_sld hx hb hX hbl hbA hS hg_5 dn_L_law_289 ?_
        obtain ⟨q_6, hc_7, hf⟩ := dc_b hf
        have hgeq_6 := mn_M_count N ((xs (Int32.toNatClampNeg ((x4 + 1))))) sm q_6 hc_7
        have hP := va_P_sw hP
        have hD := va_D_sw hD
        refine dc_calliA (dc_runV (ar := 1) (As := [.int ((xs (Int32.toNatClampNeg ((x4 + 1)))))]) (rest := []) (ci := 0) (q0 := 0) ⟨hx, hb, hml, hown, hg⟩ hK hN hT hS hA (ct_M_count l dC dI cI cB cJ cZ cQ N H.size h0 b ((xs (Int32.toNatClampNeg ((x4 + 1))))) sm q_6 hc_7) (va_P_l hP) (va_D_l hD) rfl rfl wn_11_11 wn_11_12 wn_11_13 wn_1_13 wn_11_14 rfl rfl (by decide +kernel) ⟨Nat.le_of_ble_eq_true rfl, Nat.le_of_ble_eq_true rfl⟩ rfl hl.1 rfl (Nat.le_of_ble_eq_true rfl) dn_L_law_290 ⟨(show _ ≤ 601024 by omega), (show _ ≤ 7293034 by omega)⟩) hP hD hS hA (fun r_8 _ H locs hw hP hD hS => ?_)
        have hP : va_P (dC, dI) xcl ((wC a v cI cB cJ cZ cQ q_3.2.1 ++ ([(ho, .inl (cJ, 1, .inr (.inl q_3.2.2)))] : va_W)) ++ wM h0 b cI cB cJ cZ q_6.2) H := va_P_sw hP
        have hD : va_D A ((wC a v cI cB cJ cZ cQ q_3.2.1 ++ ([(ho, .inl (cJ, 1, .inr (.inl q_3.2.2)))] : va_W)) ++ wM h0 b cI cB cJ cZ q_6.2) := va_D_sw hD
        have hw : r_8 = q_6.1 := hw
        subst hw
        refine lv_istore (lv' := [(6, .int q_6.1), (5, .int q_3.1), (4, .int x4), (3, .ref ho), (2, .ref h0), (1, .ref ((a 100))), (0, .ref bs)]) hx hb dn_L_law_293 hl (by decide) rfl (fun ls hl => ?_)
        refine lv_aload_n hx hb dn_L_law_295 rfl (lv_at hl 4 rfl) ?_
        obtain ⟨q_9, hc_10, hf⟩ := dc_b hf
        have hgeq_9 := mn_M_thrown N q_6.2 q_9 hc_10
        have hP := va_P_sw hP
        have hD := va_D_sw hD
        refine dc_calliA (dc_runV (ar := 0) (As := []) (rest := []) (ci := 0) (q0 := 0) ⟨hx, hb, hml, hown, hg⟩ hK hN hT hS hA (ct_M_thrown l dC dI cI cB cJ cZ cQ N H.size h0 b q_6.2 q_9 hc_10) (va_P_l hP) (va_D_l hD) rfl rfl wn_9_108 wn_9_109 wn_9_110 wn_1_13 wn_9_111 rfl rfl (by decide +kernel) ⟨Nat.le_of_ble_eq_true rfl, Nat.le_of_ble_eq_true rfl⟩ rfl hl.1 rfl (Nat.le_of_ble_eq_true rfl) dn_L_law_296 ⟨(show _ ≤ 601024 by omega), (show _ ≤ 7293034 by omega)⟩) hP hD hS hA (fun r_11 _ H locs hw hP hD hS => ?_)
        have hP : va_P (dC, dI) xcl ((wC a v cI cB cJ cZ cQ q_3.2.1 ++ ([(ho, .inl (cJ, 1, .inr (.inl q_3.2.2)))] : va_W)) ++ wM h0 b cI cB cJ cZ q_9.2) H := va_P_sw hP
        have hD : va_D A ((wC a v cI cB cJ cZ cQ q_3.2.1 ++ ([(ho, .inl (cJ, 1, .inr (.inl q_3.2.2)))] : va_W)) ++ wM h0 b cI cB cJ cZ q_9.2) := va_D_sw hD
        have hw : r_11 = q_9.1 := hw
        subst hw
        refine lv_iload hx hb dn_L_law_299 (lv_at hl 1 rfl) ?_
        refine lv_icmp_eq (tgt := 306) hx hb dn_L_law_301 (by decide) (fun h => ?_) (fun h => ?_)
        · have hf := (if_pos h).symm.trans hf
          refine lv_iload hx hb dn_L_law_306 (lv_at hl 1 rfl) ?_
          refine lv_if_ne (tgt := 323) hx hb dn_L_law_308 (by decide) (fun h => ?_) (fun h => ?_)
          · have hf := (if_neg h).symm.trans hf
            refine lv_goto (tgt := 653) hx hb dn_L_law_323 (by decide) ?_
            refine lv_iinc (v := (x4 + 6)) (lv' := [(4, .int ((x4 + 6))), (6, .int q_6.1), (5, .int q_3.1), (3, .ref ho), (2, .ref h0), (1, .ref ((a 100))), (0, .ref bs)]) hx hb dn_L_law_653 hl (k := 2) rfl (dc_inc (by decide)) (by decide) rfl (fun ls hl => ?_)
            refine lv_goto (tgt := 23) hx hb dn_L_law_656 (by decide) ?_
            exact ih ((x4 + 6)) q_3.2.1 q_9.2 q_3.2.2 hf (by omega) a v b _ _ H locs ls (by omega) (by omega) hP hD hS (lv_sub hl [0, 3, 4, 5, 6] rfl)
          · have hf := (if_pos h).symm.trans hf
            refine lv_aload_n hx hb dn_L_law_311 rfl (lv_at hl 3 rfl) ?_
            refine lv_iconst (v := 0) hx hb dn_L_law_312 (by decide) ?_
            refine va_lald hx hb hK (va_P_l hP) 122 2 rfl rfl (show ¬ (_ ∨ _) by decide) dn_L_law_313 ?_
            refine xk_tl (y := (q_3.2.2 0)) rfl ?_
            refine lv_iload hx hb dn_L_law_314 (lv_at hl 0 rfl) ?_
            refine lv_i2l (v := Int32.toInt64 q_6.1) hx hb dn_L_law_316 rfl ?_
            refine W.lcmp hx hb dn_L_law_317 ?_
            refine lv_if_eq (tgt := 323) hx hb dn_L_law_318 (by decide) (fun h => ?_) (fun h => ?_)
            · have hf := (if_pos h).symm.trans hf
              refine lv_goto (tgt := 653) hx hb dn_L_law_323 (by decide) ?_
              refine lv_iinc (v := (x4 + 6)) (lv' := [(4, .int ((x4 + 6))), (6, .int q_6.1), (5, .int q_3.1), (3, .ref ho), (2, .ref h0), (1, .ref ((a 100))), (0, .ref bs)]) hx hb dn_L_law_653 hl (k := 2) rfl (dc_inc (by decide)) (by decide) rfl (fun ls hl => ?_)
              refine lv_goto (tgt := 23) hx hb dn_L_law_656 (by decide) ?_
              exact ih ((x4 + 6)) q_3.2.1 q_9.2 q_3.2.2 hf (by omega) a v b _ _ H locs ls (by omega) (by omega) hP hD hS (lv_sub hl [0, 3, 4, 5, 6] rfl)
            · have hf := (if_neg h).symm.trans hf
              refine lv_iconst (v := 0) hx hb dn_L_law_321 (by decide) ?_
              exact absurd (Option.some.inj hf) (by decide)
        · have hf := (if_neg h).symm.trans hf
          refine lv_iconst (v := 0) hx hb dn_L_law_304 (by decide) ?_
          exact absurd (Option.some.inj hf) (by decide)
      have hf := (if_neg h_4).symm.trans hf
      by_cases h_5 : ((xs (Int32.toNatClampNeg x4)) &&& 15) = 5
      · have hf := (if_pos h_5).symm.trans hf
        refine xk_ti (y := 5) h_5 ?_
        refine lv_tableIn (tgt := 326) hx hb dn_L_law_40 (by decide) (by decide) rfl (by decide) ?_
        refine lv_aload_n hx hb dn_L_law_326 rfl (lv_at hl 3 rfl) ?_
        refine lv_aload_n hx hb dn_L_law_327 rfl (lv_at hl 1 rfl) ?_
        obtain ⟨q_2, hc_3, hf⟩ := dc_b hf
        refine dc_calliA (xk_runSH (ar := 2) (As := [.ref ((a 100)), .ref ho]) (rest := []) ⟨hx, hb, hml, hown, hg⟩ (hc_find l hlt dC dI cI cB cJ cZ cQ N H.size a v ho sc o q_2 hc_3) dc_blindX (lw_pre hK hN hT hno hts hz1 hz2 hnA hP hD hS hA) wn_7_144 wn_7_145 wn_1_0 wn_7_146 rfl rfl (by decide +kernel) ⟨Nat.le_of_ble_eq_true rfl, Nat.le_of_ble_eq_true rfl⟩ rfl hl.1 rfl (Nat.le_of_ble_eq_true rfl) dn_L_law_328 ⟨(show _ ≤ 601024 by omega), (show _ ≤ 7293034 by omega)⟩) hP hD hS hA (fun r _ H locs hw hP hD hS => ?_)
        have hw : r = q_2.1 := hw
        subst hw
        refine lv_istore (lv' := [(5, .int q_2.1), (4, .int x4), (3, .ref ho), (2, .ref h0), (1, .ref ((a 100))), (0, .ref bs)]) hx hb dn_L_law_331 hl (by decide) rfl (fun ls hl => ?_)
        refine lv_aload_n hx hb dn_L_law_333 rfl (lv_at hl 3 rfl) ?_
        obtain ⟨q_4, hc_5, hf⟩ := dc_b hf
        have hgeq_4 := mn_M_find N sm q_4 hc_5
        have hP := va_P_sw hP
        have hD := va_D_sw hD
        refine dc_calliA (dc_runV (ar := 0) (As := []) (rest := []) (ci := 0) (q0 := 0) ⟨hx, hb, hml, hown, hg⟩ hK hN hT hS hA (ct_M_find l dC dI cI cB cJ cZ cQ N H.size h0 b sm q_4 hc_5) (va_P_l hP) (va_D_l hD) rfl rfl wn_11_15 wn_11_16 wn_11_17 wn_1_13 wn_11_18 rfl rfl (by decide +kernel) ⟨Nat.le_of_ble_eq_true rfl, Nat.le_of_ble_eq_true rfl⟩ rfl hl.1 rfl (Nat.le_of_ble_eq_true rfl) dn_L_law_334 ⟨(show _ ≤ 601024 by omega), (show _ ≤ 7293034 by omega)⟩) hP hD hS hA (fun r_6 _ H locs hw hP hD hS => ?_)
        have hP : va_P (dC, dI) xcl ((wC a v cI cB cJ cZ cQ q_2.2.1 ++ ([(ho, .inl (cJ, 1, .inr (.inl q_2.2.2)))] : va_W)) ++ wM h0 b cI cB cJ cZ q_4.2) H := va_P_sw hP
        have hD : va_D A ((wC a v cI cB cJ cZ cQ q_2.2.1 ++ ([(ho, .inl (cJ, 1, .inr (.inl q_2.2.2)))] : va_W)) ++ wM h0 b cI cB cJ cZ q_4.2) := va_D_sw hD
        have hw : r_6 = q_4.1 := hw
        subst hw
        refine lv_istore (lv' := [(6, .int q_4.1), (5, .int q_2.1), (4, .int x4), (3, .ref ho), (2, .ref h0), (1, .ref ((a 100))), (0, .ref bs)]) hx hb dn_L_law_337 hl (by decide) rfl (fun ls hl => ?_)
        refine lv_aload_n hx hb dn_L_law_339 rfl (lv_at hl 4 rfl) ?_
        obtain ⟨q_7, hc_8, hf⟩ := dc_b hf
        have hgeq_7 := mn_M_thrown N q_4.2 q_7 hc_8
        have hP := va_P_sw hP
        have hD := va_D_sw hD
        refine dc_calliA (dc_runV (ar := 0) (As := []) (rest := []) (ci := 0) (q0 := 0) ⟨hx, hb, hml, hown, hg⟩ hK hN hT hS hA (ct_M_thrown l dC dI cI cB cJ cZ cQ N H.size h0 b q_4.2 q_7 hc_8) (va_P_l hP) (va_D_l hD) rfl rfl wn_9_108 wn_9_109 wn_9_110 wn_1_13 wn_9_111 rfl rfl (by decide +kernel) ⟨Nat.le_of_ble_eq_true rfl, Nat.le_of_ble_eq_true rfl⟩ rfl hl.1 rfl (Nat.le_of_ble_eq_true rfl) dn_L_law_340 ⟨(show _ ≤ 601024 by omega), (show _ ≤ 7293034 by omega)⟩) hP hD hS hA (fun r_9 _ H locs hw hP hD hS => ?_)
        have hP : va_P (dC, dI) xcl ((wC a v cI cB cJ cZ cQ q_2.2.1 ++ ([(ho, .inl (cJ, 1, .inr (.inl q_2.2.2)))] : va_W)) ++ wM h0 b cI cB cJ cZ q_7.2) H := va_P_sw hP
        have hD : va_D A ((wC a v cI cB cJ cZ cQ q_2.2.1 ++ ([(ho, .inl (cJ, 1, .inr (.inl q_2.2.2)))] : va_W)) ++ wM h0 b cI cB cJ cZ q_7.2) := va_D_sw hD
        have hw : r_9 = q_7.1 := hw
        subst hw
        refine lv_iload hx hb dn_L_law_343 (lv_at hl 1 rfl) ?_
        refine lv_icmp_eq (tgt := 350) hx hb dn_L_law_345 (by decide) (fun h => ?_) (fun h => ?_)
        · have hf := (if_pos h).symm.trans hf
          refine lv_iload hx hb dn_L_law_350 (lv_at hl 1 rfl) ?_
          refine lv_if_ne (tgt := 367) hx hb dn_L_law_352 (by decide) (fun h => ?_) (fun h => ?_)
          · have hf := (if_neg h).symm.trans hf
            refine lv_goto (tgt := 653) hx hb dn_L_law_367 (by decide) ?_
            refine lv_iinc (v := (x4 + 6)) (lv' := [(4, .int ((x4 + 6))), (6, .int q_4.1), (5, .int q_2.1), (3, .ref ho), (2, .ref h0), (1, .ref ((a 100))), (0, .ref bs)]) hx hb dn_L_law_653 hl (k := 2) rfl (dc_inc (by decide)) (by decide) rfl (fun ls hl => ?_)
            refine lv_goto (tgt := 23) hx hb dn_L_law_656 (by decide) ?_
            exact ih ((x4 + 6)) q_2.2.1 q_7.2 q_2.2.2 hf (by omega) a v b _ _ H locs ls (by omega) (by omega) hP hD hS (lv_sub hl [0, 3, 4, 5, 6] rfl)
          · have hf := (if_pos h).symm.trans hf
            refine lv_aload_n hx hb dn_L_law_355 rfl (lv_at hl 3 rfl) ?_
            refine lv_iconst (v := 0) hx hb dn_L_law_356 (by decide) ?_
            refine va_lald hx hb hK (va_P_l hP) 122 2 rfl rfl (show ¬ (_ ∨ _) by decide) dn_L_law_357 ?_
            refine xk_tl (y := (q_2.2.2 0)) rfl ?_
            refine lv_iload hx hb dn_L_law_358 (lv_at hl 0 rfl) ?_
            refine lv_i2l (v := Int32.toInt64 q_4.1) hx hb dn_L_law_360 rfl ?_
            refine W.lcmp hx hb dn_L_law_361 ?_
            refine lv_if_eq (tgt := 367) hx hb dn_L_law_362 (by decide) (fun h => ?_) (fun h => ?_)
            · have hf := (if_pos h).symm.trans hf
              refine lv_goto (tgt := 653) hx hb dn_L_law_367 (by decide) ?_
              refine lv_iinc (v := (x4 + 6)) (lv' := [(4, .int ((x4 + 6))), (6, .int q_4.1), (5, .int q_2.1), (3, .ref ho), (2, .ref h0), (1, .ref ((a 100))), (0, .ref bs)]) hx hb dn_L_law_653 hl (k := 2) rfl (dc_inc (by decide)) (by decide) rfl (fun ls hl => ?_)
              refine lv_goto (tgt := 23) hx hb dn_L_law_656 (by decide) ?_
              exact ih ((x4 + 6)) q_2.2.1 q_7.2 q_2.2.2 hf (by omega) a v b _ _ H locs ls (by omega) (by omega) hP hD hS (lv_sub hl [0, 3, 4, 5, 6] rfl)
            · have hf := (if_neg h).symm.trans hf
              refine lv_iconst (v := 0) hx hb dn_L_law_365 (by decide) ?_
              exact absurd (Option.some.inj hf) (by decide)
        · have hf := (if_neg h).symm.trans hf
          refine lv_iconst (v := 0) hx hb dn_L_law_348 (by decide) ?_
          exact absurd (Option.some.inj hf) (by decide)
      have hf := (if_neg h_5).symm.trans hf
      by_cases h_6 : ((xs (Int32.toNatClampNeg x4)) &&& 15) = 6
      · have hf := (if_pos h_6).symm.trans hf
        refine xk_ti (y := 6) h_6 ?_
        refine lv_tableIn (tgt := 370) hx hb dn_L_law_40 (by decide) (by decide) rfl (by decide) ?_
        refine lv_aload_n hx hb dn_L_law_370 rfl (lv_at hl 3 rfl) ?_
        refine lv_aload_n hx hb dn_L_law_371 rfl (lv_at hl 4 rfl) ?_
        refine lv_iload hx hb dn_L_law_372 (lv_at hl 0 rfl) ?_
        refine lv_iconst (v := 1) hx hb dn_L_law_374 (by decide) ?_
        refine lv_iadd hx hb dn_L_law_375 ?_
        obtain ⟨hg_2, hf⟩ := dc_g hf
        refine va_sld hx hb hX hbl hbA hS hg_2 dn_L_law_376 ?_
        refine lv_aload_n hx hb dn_L_law_377 rfl (lv_at hl 4 rfl) ?_
        refine lv_iload hx hb dn_L_law_378 (lv_at hl 0 rfl) ?_
        refine lv_iconst (v := 2) hx hb dn_L_law_380 (by decide) ?_
        refine lv_iadd hx hb dn_L_law_381 ?_
        obtain ⟨hg_3, hf⟩ := dc_g hf
        refine va_sld hx hb hX hbl hbA hS hg_3 dn_L_law_382 ?_
        refine lv_aload_n hx hb dn_L_law_383 rfl (lv_at hl 1 rfl) ?_
        obtain ⟨q_4, hc_5, hf⟩ := dc_b hf
        refine dc_calliA (xk_runSH (ar := 4) (As := [.ref ((a 100)), .int ((xs (Int32.toNatClampNeg ((x4 + 1))))), .int ((xs (Int32.toNatClampNeg ((x4 + 2))))), .ref ho]) (rest := []) ⟨hx, hb, hml, hown, hg⟩ (hc_signal l hlt dC dI cI cB cJ cZ cQ N H.size a v ho ((xs (Int32.toNatClampNeg ((x4 + 1))))) ((xs (Int32.toNatClampNeg ((x4 + 2))))) sc o q_4 hc_5) dc_blindX (lw_pre hK hN hT hno hts hz1 hz2 hnA hP hD hS hA) wn_7_169 wn_7_170 wn_1_0 wn_7_171 rfl rfl (by decide +kernel) ⟨Nat.le_of_ble_eq_true rfl, Nat.le_of_ble_eq_true rfl⟩ rfl hl.1 rfl (Nat.le_of_ble_eq_true rfl) dn_L_law_384 ⟨(show _ ≤ 601024 by omega), (show _ ≤ 7293034 by omega)⟩) hP hD hS hA (fun r _ H locs hw hP hD hS => ?_)
        have hw : r = q_4.1 := hw
        subst hw
        refine lv_istore (lv' := [(5, .int q_4.1), (4, .int x4), (3, .ref ho), (2, .ref h0), (1, .ref ((a 100))), (0, .ref bs)]) hx hb dn_L_law_387 hl (by decide) rfl (fun ls hl => ?_)
        refine lv_aload_n hx hb dn_L_law_389 rfl (lv_at hl 3 rfl) ?_
        refine lv_aload_n hx hb dn_L_law_390 rfl (lv_at hl 5 rfl) ?_
        refine lv_iload hx hb dn_L_law_391 (lv_at hl 1 rfl) ?_
        refine lv_iconst (v := 1) hx hb dn_L_law_393 (by decide) ?_
        refine lv_iadd hx hb dn_L_law_394 ?_
        obtain ⟨hg_6, hf⟩ := dc_g hf
        refine va_sld hx hb hX hbl hbA hS hg_6 dn_L_law_395 ?_
        refine lv_aload_n hx hb dn_L_law_396 rfl (lv_at hl 5 rfl) ?_
        refine lv_iload hx hb dn_L_law_397 (lv_at hl 1 rfl) ?_
        refine lv_iconst (v := 2) hx hb dn_L_law_399 (by decide) ?_
        refine lv_iadd hx hb dn_L_law_400 ?_
        obtain ⟨hg_7, hf⟩ := dc_g hf
        refine va_sld hx hb hX hbl hbA hS hg_7 dn_L_law_401 ?_
        obtain ⟨q_8, hc_9, hf⟩ := dc_b hf
        have hgeq_8 := mn_M_signal N ((xs (Int32.toNatClampNeg ((x4 + 1))))) ((xs (Int32.toNatClampNeg ((x4 + 2))))) sm q_8 hc_9
        have hP := va_P_sw hP
        have hD := va_D_sw hD
        refine dc_calliA (dc_runV (ar := 2) (As := [.int ((xs (Int32.toNatClampNeg ((x4 + 1))))), .int ((xs (Int32.toNatClampNeg ((x4 + 2)))))]) (rest := []) (ci := 0) (q0 := 0) ⟨hx, hb, hml, hown, hg⟩ hK hN hT hS hA (ct_M_signal l dC dI cI cB cJ cZ cQ N H.size h0 b ((xs (Int32.toNatClampNeg ((x4 + 1))))) ((xs (Int32.toNatClampNeg ((x4 + 2))))) sm q_8 hc_9) (va_P_l hP) (va_D_l hD) rfl rfl wn_11_27 wn_11_28 wn_11_29 wn_1_13 wn_11_30 rfl rfl (by decide +kernel) ⟨Nat.le_of_ble_eq_true rfl, Nat.le_of_ble_eq_true rfl⟩ rfl hl.1 rfl (Nat.le_of_ble_eq_true rfl) dn_L_law_402 ⟨(show _ ≤ 601024 by omega), (show _ ≤ 7293034 by omega)⟩) hP hD hS hA (fun r_10 _ H locs hw hP hD hS => ?_)
        have hP : va_P (dC, dI) xcl ((wC a v cI cB cJ cZ cQ q_4.2.1 ++ ([(ho, .inl (cJ, 1, .inr (.inl q_4.2.2)))] : va_W)) ++ wM h0 b cI cB cJ cZ q_8.2) H := va_P_sw hP
        have hD : va_D A ((wC a v cI cB cJ cZ cQ q_4.2.1 ++ ([(ho, .inl (cJ, 1, .inr (.inl q_4.2.2)))] : va_W)) ++ wM h0 b cI cB cJ cZ q_8.2) := va_D_sw hD
        have hw : r_10 = q_8.1 := hw
        subst hw
        refine lv_istore (lv' := [(6, .int q_8.1), (5, .int q_4.1), (4, .int x4), (3, .ref ho), (2, .ref h0), (1, .ref ((a 100))), (0, .ref bs)]) hx hb dn_L_law_405 hl (by decide) rfl (fun ls hl => ?_)
        refine lv_aload_n hx hb dn_L_law_407 rfl (lv_at hl 4 rfl) ?_
        obtain ⟨q_11, hc_12, hf⟩ := dc_b hf
        have hgeq_11 := mn_M_thrown N q_8.2 q_11 hc_12
        have hP := va_P_sw hP
        have hD := va_D_sw hD
        refine dc_calliA (dc_runV (ar := 0) (As := []) (rest := []) (ci := 0) (q0 := 0) ⟨hx, hb, hml, hown, hg⟩ hK hN hT hS hA (ct_M_thrown l dC dI cI cB cJ cZ cQ N H.size h0 b q_8.2 q_11 hc_12) (va_P_l hP) (va_D_l hD) rfl rfl wn_9_108 wn_9_109 wn_9_110 wn_1_13 wn_9_111 rfl rfl (by decide +kernel) ⟨Nat.le_of_ble_eq_true rfl, Nat.le_of_ble_eq_true rfl⟩ rfl hl.1 rfl (Nat.le_of_ble_eq_true rfl) dn_L_law_408 ⟨(show _ ≤ 601024 by omega), (show _ ≤ 7293034 by omega)⟩) hP hD hS hA (fun r_13 _ H locs hw hP hD hS => ?_)
        have hP : va_P (dC, dI) xcl ((wC a v cI cB cJ cZ cQ q_4.2.1 ++ ([(ho, .inl (cJ, 1, .inr (.inl q_4.2.2)))] : va_W)) ++ wM h0 b cI cB cJ cZ q_11.2) H := va_P_sw hP
        have hD : va_D A ((wC a v cI cB cJ cZ cQ q_4.2.1 ++ ([(ho, .inl (cJ, 1, .inr (.inl q_4.2.2)))] : va_W)) ++ wM h0 b cI cB cJ cZ q_11.2) := va_D_sw hD
        have hw : r_13 = q_11.1 := hw
        subst hw
        refine lv_iload hx hb dn_L_law_411 (lv_at hl 1 rfl) ?_
        refine lv_icmp_eq (tgt := 418) hx hb dn_L_law_413 (by decide) (fun h => ?_) (fun h => ?_)
        · have hf := (if_pos h).symm.trans hf
          refine lv_iload hx hb dn_L_law_418 (lv_at hl 1 rfl) ?_
          refine lv_if_ne (tgt := 435) hx hb dn_L_law_420 (by decide) (fun h => ?_) (fun h => ?_)
          · have hf := (if_neg h).symm.trans hf
            refine lv_goto (tgt := 653) hx hb dn_L_law_435 (by decide) ?_
            refine lv_iinc (v := (x4 + 6)) (lv' := [(4, .int ((x4 + 6))), (6, .int q_8.1), (5, .int q_4.1), (3, .ref ho), (2, .ref h0), (1, .ref ((a 100))), (0, .ref bs)]) hx hb dn_L_law_653 hl (k := 2) rfl (dc_inc (by decide)) (by decide) rfl (fun ls hl => ?_)
            refine lv_goto (tgt := 23) hx hb dn_L_law_656 (by decide) ?_
            exact ih ((x4 + 6)) q_4.2.1 q_11.2 q_4.2.2 hf (by omega) a v b _ _ H locs ls (by omega) (by omega) hP hD hS (lv_sub hl [0, 3, 4, 5, 6] rfl)
          · have hf := (if_pos h).symm.trans hf
            refine lv_aload_n hx hb dn_L_law_423 rfl (lv_at hl 3 rfl) ?_
            refine lv_iconst (v := 0) hx hb dn_L_law_424 (by decide) ?_
            refine va_lald hx hb hK (va_P_l hP) 122 2 rfl rfl (show ¬ (_ ∨ _) by decide) dn_L_law_425 ?_
            refine xk_tl (y := (q_4.2.2 0)) rfl ?_
            refine lv_iload hx hb dn_L_law_426 (lv_at hl 0 rfl) ?_
            refine lv_i2l (v := Int32.toInt64 q_8.1) hx hb dn_L_law_428 rfl ?_
            refine W.lcmp hx hb dn_L_law_429 ?_
            refine lv_if_eq (tgt := 435) hx hb dn_L_law_430 (by decide) (fun h => ?_) (fun h => ?_)
            · have hf := (if_pos h).symm.trans hf
              refine lv_goto (tgt := 653) hx hb dn_L_law_435 (by decide) ?_
              refine lv_iinc (v := (x4 + 6)) (lv' := [(4, .int ((x4 + 6))), (6, .int q_8.1), (5, .int q_4.1), (3, .ref ho), (2, .ref h0), (1, .ref ((a 100))), (0, .ref bs)]) hx hb dn_L_law_653 hl (k := 2) rfl (dc_inc (by decide)) (by decide) rfl (fun ls hl => ?_)
              refine lv_goto (tgt := 23) hx hb dn_L_law_656 (by decide) ?_
              exact ih ((x4 + 6)) q_4.2.1 q_11.2 q_4.2.2 hf (by omega) a v b _ _ H locs ls (by omega) (by omega) hP hD hS (lv_sub hl [0, 3, 4, 5, 6] rfl)
            · have hf := (if_neg h).symm.trans hf
              refine lv_iconst (v := 0) hx hb dn_L_law_433 (by decide) ?_
              exact absurd (Option.some.inj hf) (by decide)
        · have hf := (if_neg h).symm.trans hf
          refine lv_iconst (v := 0) hx hb dn_L_law_416 (by decide) ?_
          exact absurd (Option.some.inj hf) (by decide)
      have hf := (if_neg h_6).symm.trans hf
      by_cases h_7 : ((xs (Int32.toNatClampNeg x4)) &&& 15) = 7
      · have hf := (if_pos h_7).symm.trans hf
        refine xk_ti (y := 7) h_7 ?_
        refine lv_tableIn (tgt := 438) hx hb dn_L_law_40 (by decide) (by decide) rfl (by decide) ?_
        refine lv_aload_n hx hb dn_L_law_438 rfl (lv_at hl 3 rfl) ?_
        obtain ⟨q_2, hc_3, hf⟩ := dc_b hf
        refine dc_calliA (xk_runSH (ar := 1) (As := [.ref ((a 100))]) (rest := []) ⟨hx, hb, hml, hown, hg⟩ (hc_reset l hlt dC dI cI cB cJ cZ cQ N H.size a v ho sc o q_2 hc_3) dc_blindX (lw_pre hK hN hT hno hts hz1 hz2 hnA hP hD hS hA) wn_7_200 wn_7_201 wn_1_0 wn_7_202 rfl rfl (by decide +kernel) ⟨Nat.le_of_ble_eq_true rfl, Nat.le_of_ble_eq_true rfl⟩ rfl hl.1 rfl (Nat.le_of_ble_eq_true rfl) dn_L_law_439 ⟨(show _ ≤ 601024 by omega), (show _ ≤ 7293034 by omega)⟩) hP hD hS hA (fun r _ H locs hw hP hD hS => ?_)
        have hw : r = q_2.1 := hw
        subst hw
        refine lv_istore (lv' := [(5, .int q_2.1), (4, .int x4), (3, .ref ho), (2, .ref h0), (1, .ref ((a 100))), (0, .ref bs)]) hx hb dn_L_law_442 hl (by decide) rfl (fun ls hl => ?_)
        refine lv_aload_n hx hb dn_L_law_444 rfl (lv_at hl 3 rfl) ?_
        obtain ⟨q_4, hc_5, hf⟩ := dc_b hf
        have hgeq_4 := mn_M_reset N sm q_4 hc_5
        have hP := va_P_sw hP
        have hD := va_D_sw hD
        refine dc_callvA (dc_runV (ar := 0) (As := []) (rest := []) (ci := 0) (q0 := 0) ⟨hx, hb, hml, hown, hg⟩ hK hN hT hS hA (ct_M_reset l dC dI cI cB cJ cZ cQ N H.size h0 b sm q_4 hc_5) (va_P_l hP) (va_D_l hD) rfl rfl wn_11_39 wn_11_40 wn_11_41 wn_1_13 wn_11_42 rfl rfl (by decide +kernel) ⟨Nat.le_of_ble_eq_true rfl, Nat.le_of_ble_eq_true rfl⟩ rfl hl.1 rfl (Nat.le_of_ble_eq_true rfl) dn_L_law_445 ⟨(show _ ≤ 601024 by omega), (show _ ≤ 7293034 by omega)⟩) hP hD hS hA (fun _ H locs hw hP hD hS => ?_)
        have hP : va_P (dC, dI) xcl ((wC a v cI cB cJ cZ cQ q_2.2.1 ++ ([(ho, .inl (cJ, 1, .inr (.inl q_2.2.2)))] : va_W)) ++ wM h0 b cI cB cJ cZ q_4.2) H := va_P_sw hP
        have hD : va_D A ((wC a v cI cB cJ cZ cQ q_2.2.1 ++ ([(ho, .inl (cJ, 1, .inr (.inl q_2.2.2)))] : va_W)) ++ wM h0 b cI cB cJ cZ q_4.2) := va_D_sw hD
        refine lv_aload_n hx hb dn_L_law_448 rfl (lv_at hl 3 rfl) ?_
        obtain ⟨q_6, hc_7, hf⟩ := dc_b hf
        have hgeq_6 := mn_M_thrown N q_4.2 q_6 hc_7
        have hP := va_P_sw hP
        have hD := va_D_sw hD
        refine dc_calliA (dc_runV (ar := 0) (As := []) (rest := []) (ci := 0) (q0 := 0) ⟨hx, hb, hml, hown, hg⟩ hK hN hT hS hA (ct_M_thrown l dC dI cI cB cJ cZ cQ N H.size h0 b q_4.2 q_6 hc_7) (va_P_l hP) (va_D_l hD) rfl rfl wn_9_108 wn_9_109 wn_9_110 wn_1_13 wn_9_111 rfl rfl (by decide +kernel) ⟨Nat.le_of_ble_eq_true rfl, Nat.le_of_ble_eq_true rfl⟩ rfl hl.1 rfl (Nat.le_of_ble_eq_true rfl) dn_L_law_449 ⟨(show _ ≤ 601024 by omega), (show _ ≤ 7293034 by omega)⟩) hP hD hS hA (fun r_8 _ H locs hw hP hD hS => ?_)
        have hP : va_P (dC, dI) xcl ((wC a v cI cB cJ cZ cQ q_2.2.1 ++ ([(ho, .inl (cJ, 1, .inr (.inl q_2.2.2)))] : va_W)) ++ wM h0 b cI cB cJ cZ q_6.2) H := va_P_sw hP
        have hD : va_D A ((wC a v cI cB cJ cZ cQ q_2.2.1 ++ ([(ho, .inl (cJ, 1, .inr (.inl q_2.2.2)))] : va_W)) ++ wM h0 b cI cB cJ cZ q_6.2) := va_D_sw hD
        have hw : r_8 = q_6.1 := hw
        subst hw
        refine lv_iload hx hb dn_L_law_452 (lv_at hl 0 rfl) ?_
        refine lv_icmp_eq (tgt := 459) hx hb dn_L_law_454 (by decide) (fun h => ?_) (fun h => ?_)
        · have hf := (if_pos h).symm.trans hf
          refine lv_goto (tgt := 653) hx hb dn_L_law_459 (by decide) ?_
          refine lv_iinc (v := (x4 + 6)) (lv' := [(4, .int ((x4 + 6))), (5, .int q_2.1), (3, .ref ho), (2, .ref h0), (1, .ref ((a 100))), (0, .ref bs)]) hx hb dn_L_law_653 hl (k := 1) rfl (dc_inc (by decide)) (by decide) rfl (fun ls hl => ?_)
          refine lv_goto (tgt := 23) hx hb dn_L_law_656 (by decide) ?_
          exact ih ((x4 + 6)) q_2.2.1 q_6.2 q_2.2.2 hf (by omega) a v b _ _ H locs ls (by omega) (by omega) hP hD hS (lv_sub hl [0, 2, 3, 4, 5] rfl)
        · have hf := (if_neg h).symm.trans hf
          refine lv_iconst (v := 0) hx hb dn_L_law_457 (by decide) ?_
          exact absurd (Option.some.inj hf) (by decide)
      have hf := (if_neg h_7).symm.trans hf
      by_cases h_8 : ((xs (Int32.toNatClampNeg x4)) &&& 15) = 8
      · have hf := (if_pos h_8).symm.trans hf
        refine xk_ti (y := 8) h_8 ?_
        refine lv_tableIn (tgt := 462) hx hb dn_L_law_40 (by decide) (by decide) rfl (by decide) ?_
        refine lv_aload_n hx hb dn_L_law_462 rfl (lv_at hl 3 rfl) ?_
        refine lv_aload_n hx hb dn_L_law_463 rfl (lv_at hl 4 rfl) ?_
        refine lv_iload hx hb dn_L_law_464 (lv_at hl 0 rfl) ?_
        refine lv_iconst (v := 1) hx hb dn_L_law_466 (by decide) ?_
        refine lv_iadd hx hb dn_L_law_467 ?_
        obtain ⟨hg_2, hf⟩ := dc_g hf
        refine va_sld hx hb hX hbl hbA hS hg_2 dn_L_law_468 ?_
        refine lv_aload_n hx hb dn_L_law_469 rfl (lv_at hl 4 rfl) ?_
        refine lv_iload hx hb dn_L_law_470 (lv_at hl 0 rfl) ?_
        refine lv_iconst (v := 2) hx hb dn_L_law_472 (by decide) ?_
        refine lv_iadd hx hb dn_L_law_473 ?_
        obtain ⟨hg_3, hf⟩ := dc_g hf
        refine va_sld hx hb hX hbl hbA hS hg_3 dn_L_law_474 ?_
        obtain ⟨q_4, hc_5, hf⟩ := dc_b hf
        refine dc_calliA (xk_runSH (ar := 3) (As := [.ref ((a 100)), .int ((xs (Int32.toNatClampNeg ((x4 + 1))))), .int ((xs (Int32.toNatClampNeg ((x4 + 2)))))]) (rest := []) ⟨hx, hb, hml, hown, hg⟩ (hc_set l hlt dC dI cI cB cJ cZ cQ N H.size a v ho ((xs (Int32.toNatClampNeg ((x4 + 1))))) ((xs (Int32.toNatClampNeg ((x4 + 2))))) sc o q_4 hc_5) dc_blindX (lw_pre hK hN hT hno hts hz1 hz2 hnA hP hD hS hA) wn_7_207 wn_7_208 wn_1_0 wn_7_209 rfl rfl (by decide +kernel) ⟨Nat.le_of_ble_eq_true rfl, Nat.le_of_ble_eq_true rfl⟩ rfl hl.1 rfl (Nat.le_of_ble_eq_true rfl) dn_L_law_475 ⟨(show _ ≤ 601024 by omega), (show _ ≤ 7293034 by omega)⟩) hP hD hS hA (fun r _ H locs hw hP hD hS => ?_)
        have hw : r = q_4.1 := hw
        subst hw
        refine lv_istore (lv' := [(5, .int q_4.1), (4, .int x4), (3, .ref ho), (2, .ref h0), (1, .ref ((a 100))), (0, .ref bs)]) hx hb dn_L_law_478 hl (by decide) rfl (fun ls hl => ?_)
        refine lv_aload_n hx hb dn_L_law_480 rfl (lv_at hl 3 rfl) ?_
        refine lv_aload_n hx hb dn_L_law_481 rfl (lv_at hl 5 rfl) ?_
        refine lv_iload hx hb dn_L_law_482 (lv_at hl 1 rfl) ?_
        refine lv_iconst (v := 1) hx hb dn_L_law_484 (by decide) ?_
        refine lv_iadd hx hb dn_L_law_485 ?_
        obtain ⟨hg_6, hf⟩ := dc_g hf
        refine va_sld hx hb hX hbl hbA hS hg_6 dn_L_law_486 ?_
        refine lv_aload_n hx hb dn_L_law_487 rfl (lv_at hl 5 rfl) ?_
        refine lv_iload hx hb dn_L_law_488 (lv_at hl 1 rfl) ?_
        refine lv_iconst (v := 2) hx hb dn_L_law_490 (by decide) ?_
        refine lv_iadd hx hb dn_L_law_491 ?_
        obtain ⟨hg_7, hf⟩ := dc_g hf
        refine va_sld hx hb hX hbl hbA hS hg_7 dn_L_law_492 ?_
        obtain ⟨q_8, hc_9, hf⟩ := dc_b hf
        have hgeq_8 := mn_M_set N ((xs (Int32.toNatClampNeg ((x4 + 1))))) ((xs (Int32.toNatClampNeg ((x4 + 2))))) sm q_8 hc_9
        have hP := va_P_sw hP
        have hD := va_D_sw hD
        refine dc_callvA (dc_runV (ar := 2) (As := [.int ((xs (Int32.toNatClampNeg ((x4 + 1))))), .int ((xs (Int32.toNatClampNeg ((x4 + 2)))))]) (rest := []) (ci := 0) (q0 := 0) ⟨hx, hb, hml, hown, hg⟩ hK hN hT hS hA (ct_M_set l dC dI cI cB cJ cZ cQ N H.size h0 b ((xs (Int32.toNatClampNeg ((x4 + 1))))) ((xs (Int32.toNatClampNeg ((x4 + 2))))) sm q_8 hc_9) (va_P_l hP) (va_D_l hD) rfl rfl wn_11_43 wn_11_44 wn_11_45 wn_1_13 wn_11_46 rfl rfl (by decide +kernel) ⟨Nat.le_of_ble_eq_true rfl, Nat.le_of_ble_eq_true rfl⟩ rfl hl.1 rfl (Nat.le_of_ble_eq_true rfl) dn_L_law_493 ⟨(show _ ≤ 601024 by omega), (show _ ≤ 7293034 by omega)⟩) hP hD hS hA (fun _ H locs hw hP hD hS => ?_)
        have hP : va_P (dC, dI) xcl ((wC a v cI cB cJ cZ cQ q_4.2.1 ++ ([(ho, .inl (cJ, 1, .inr (.inl q_4.2.2)))] : va_W)) ++ wM h0 b cI cB cJ cZ q_8.2) H := va_P_sw hP
        have hD : va_D A ((wC a v cI cB cJ cZ cQ q_4.2.1 ++ ([(ho, .inl (cJ, 1, .inr (.inl q_4.2.2)))] : va_W)) ++ wM h0 b cI cB cJ cZ q_8.2) := va_D_sw hD
        refine lv_aload_n hx hb dn_L_law_496 rfl (lv_at hl 3 rfl) ?_
        obtain ⟨q_10, hc_11, hf⟩ := dc_b hf
        have hgeq_10 := mn_M_thrown N q_8.2 q_10 hc_11
        have hP := va_P_sw hP
        have hD := va_D_sw hD
        refine dc_calliA (dc_runV (ar := 0) (As := []) (rest := []) (ci := 0) (q0 := 0) ⟨hx, hb, hml, hown, hg⟩ hK hN hT hS hA (ct_M_thrown l dC dI cI cB cJ cZ cQ N H.size h0 b q_8.2 q_10 hc_11) (va_P_l hP) (va_D_l hD) rfl rfl wn_9_108 wn_9_109 wn_9_110 wn_1_13 wn_9_111 rfl rfl (by decide +kernel) ⟨Nat.le_of_ble_eq_true rfl, Nat.le_of_ble_eq_true rfl⟩ rfl hl.1 rfl (Nat.le_of_ble_eq_true rfl) dn_L_law_497 ⟨(show _ ≤ 601024 by omega), (show _ ≤ 7293034 by omega)⟩) hP hD hS hA (fun r_12 _ H locs hw hP hD hS => ?_)
        have hP : va_P (dC, dI) xcl ((wC a v cI cB cJ cZ cQ q_4.2.1 ++ ([(ho, .inl (cJ, 1, .inr (.inl q_4.2.2)))] : va_W)) ++ wM h0 b cI cB cJ cZ q_10.2) H := va_P_sw hP
        have hD : va_D A ((wC a v cI cB cJ cZ cQ q_4.2.1 ++ ([(ho, .inl (cJ, 1, .inr (.inl q_4.2.2)))] : va_W)) ++ wM h0 b cI cB cJ cZ q_10.2) := va_D_sw hD
        have hw : r_12 = q_10.1 := hw
        subst hw
        refine lv_iload hx hb dn_L_law_500 (lv_at hl 0 rfl) ?_
        refine lv_icmp_eq (tgt := 507) hx hb dn_L_law_502 (by decide) (fun h => ?_) (fun h => ?_)
        · have hf := (if_pos h).symm.trans hf
          refine lv_goto (tgt := 653) hx hb dn_L_law_507 (by decide) ?_
          refine lv_iinc (v := (x4 + 6)) (lv' := [(4, .int ((x4 + 6))), (5, .int q_4.1), (3, .ref ho), (2, .ref h0), (1, .ref ((a 100))), (0, .ref bs)]) hx hb dn_L_law_653 hl (k := 1) rfl (dc_inc (by decide)) (by decide) rfl (fun ls hl => ?_)
          refine lv_goto (tgt := 23) hx hb dn_L_law_656 (by decide) ?_
          exact ih ((x4 + 6)) q_4.2.1 q_10.2 q_4.2.2 hf (by omega) a v b _ _ H locs ls (by omega) (by omega) hP hD hS (lv_sub hl [0, 2, 3, 4, 5] rfl)
        · have hf := (if_neg h).symm.trans hf
          refine lv_iconst (v := 0) hx hb dn_L_law_505 (by decide) ?_
          exact absurd (Option.some.inj hf) (by decide)
      have hf := (if_neg h_8).symm.trans hf
      by_cases h_9 : ((xs (Int32.toNatClampNeg x4)) &&& 15) = 9
      · have hf := (if_pos h_9).symm.trans hf
        refine xk_ti (y := 9) h_9 ?_
        refine lv_tableIn (tgt := 510) hx hb dn_L_law_40 (by decide) (by decide) rfl (by decide) ?_
        refine lv_aload_n hx hb dn_L_law_510 rfl (lv_at hl 3 rfl) ?_
        refine lv_aload_n hx hb dn_L_law_511 rfl (lv_at hl 1 rfl) ?_
        obtain ⟨q_2, hc_3, hf⟩ := dc_b hf
        refine dc_calliA (xk_runSH (ar := 2) (As := [.ref ((a 100)), .ref ho]) (rest := []) ⟨hx, hb, hml, hown, hg⟩ (hc_step l hlt dC dI cI cB cJ cZ cQ N H.size a v ho sc o q_2 hc_3) dc_blindX (lw_pre hK hN hT hno hts hz1 hz2 hnA hP hD hS hA) wn_7_219 wn_7_220 wn_1_0 wn_7_221 rfl rfl (by decide +kernel) ⟨Nat.le_of_ble_eq_true rfl, Nat.le_of_ble_eq_true rfl⟩ rfl hl.1 rfl (Nat.le_of_ble_eq_true rfl) dn_L_law_512 ⟨(show _ ≤ 601024 by omega), (show _ ≤ 7293034 by omega)⟩) hP hD hS hA (fun r _ H locs hw hP hD hS => ?_)
        have hw : r = q_2.1 := hw
        subst hw
        refine lv_istore (lv' := [(5, .int q_2.1), (4, .int x4), (3, .ref ho), (2, .ref h0), (1, .ref ((a 100))), (0, .ref bs)]) hx hb dn_L_law_515 hl (by decide) rfl (fun ls hl => ?_)
        refine lv_aload_n hx hb dn_L_law_517 rfl (lv_at hl 3 rfl) ?_
        obtain ⟨q_4, hc_5, hf⟩ := dc_b hf
        have hgeq_4 := mn_M_step N sm q_4 hc_5
        have hP := va_P_sw hP
        have hD := va_D_sw hD
        refine dc_calliA (dc_runV (ar := 0) (As := []) (rest := []) (ci := 0) (q0 := 0) ⟨hx, hb, hml, hown, hg⟩ hK hN hT hS hA (ct_M_step l dC dI cI cB cJ cZ cQ N H.size h0 b sm q_4 hc_5) (va_P_l hP) (va_D_l hD) rfl rfl wn_11_47 wn_11_48 wn_11_49 wn_1_13 wn_11_50 rfl rfl (by decide +kernel) ⟨Nat.le_of_ble_eq_true rfl, Nat.le_of_ble_eq_true rfl⟩ rfl hl.1 rfl (Nat.le_of_ble_eq_true rfl) dn_L_law_518 ⟨(show _ ≤ 601024 by omega), (show _ ≤ 7293034 by omega)⟩) hP hD hS hA (fun r_6 _ H locs hw hP hD hS => ?_)
        have hP : va_P (dC, dI) xcl ((wC a v cI cB cJ cZ cQ q_2.2.1 ++ ([(ho, .inl (cJ, 1, .inr (.inl q_2.2.2)))] : va_W)) ++ wM h0 b cI cB cJ cZ q_4.2) H := va_P_sw hP
        have hD : va_D A ((wC a v cI cB cJ cZ cQ q_2.2.1 ++ ([(ho, .inl (cJ, 1, .inr (.inl q_2.2.2)))] : va_W)) ++ wM h0 b cI cB cJ cZ q_4.2) := va_D_sw hD
        have hw : r_6 = q_4.1 := hw
        subst hw
        refine lv_istore (lv' := [(6, .int q_4.1), (5, .int q_2.1), (4, .int x4), (3, .ref ho), (2, .ref h0), (1, .ref ((a 100))), (0, .ref bs)]) hx hb dn_L_law_521 hl (by decide) rfl (fun ls hl => ?_)
        refine lv_aload_n hx hb dn_L_law_523 rfl (lv_at hl 4 rfl) ?_
        obtain ⟨q_7, hc_8, hf⟩ := dc_b hf
        have hgeq_7 := mn_M_thrown N q_4.2 q_7 hc_8
        have hP := va_P_sw hP
        have hD := va_D_sw hD
        refine dc_calliA (dc_runV (ar := 0) (As := []) (rest := []) (ci := 0) (q0 := 0) ⟨hx, hb, hml, hown, hg⟩ hK hN hT hS hA (ct_M_thrown l dC dI cI cB cJ cZ cQ N H.size h0 b q_4.2 q_7 hc_8) (va_P_l hP) (va_D_l hD) rfl rfl wn_9_108 wn_9_109 wn_9_110 wn_1_13 wn_9_111 rfl rfl (by decide +kernel) ⟨Nat.le_of_ble_eq_true rfl, Nat.le_of_ble_eq_true rfl⟩ rfl hl.1 rfl (Nat.le_of_ble_eq_true rfl) dn_L_law_524 ⟨(show _ ≤ 601024 by omega), (show _ ≤ 7293034 by omega)⟩) hP hD hS hA (fun r_9 _ H locs hw hP hD hS => ?_)
        have hP : va_P (dC, dI) xcl ((wC a v cI cB cJ cZ cQ q_2.2.1 ++ ([(ho, .inl (cJ, 1, .inr (.inl q_2.2.2)))] : va_W)) ++ wM h0 b cI cB cJ cZ q_7.2) H := va_P_sw hP
        have hD : va_D A ((wC a v cI cB cJ cZ cQ q_2.2.1 ++ ([(ho, .inl (cJ, 1, .inr (.inl q_2.2.2)))] : va_W)) ++ wM h0 b cI cB cJ cZ q_7.2) := va_D_sw hD
        have hw : r_9 = q_7.1 := hw
        subst hw
        refine lv_iload hx hb dn_L_law_527 (lv_at hl 1 rfl) ?_
        refine lv_icmp_eq (tgt := 534) hx hb dn_L_law_529 (by decide) (fun h => ?_) (fun h => ?_)
        · have hf := (if_pos h).symm.trans hf
          refine lv_iload hx hb dn_L_law_534 (lv_at hl 1 rfl) ?_
          refine lv_if_ne (tgt := 551) hx hb dn_L_law_536 (by decide) (fun h => ?_) (fun h => ?_)
          · have hf := (if_neg h).symm.trans hf
            refine lv_goto (tgt := 653) hx hb dn_L_law_551 (by decide) ?_
            refine lv_iinc (v := (x4 + 6)) (lv' := [(4, .int ((x4 + 6))), (6, .int q_4.1), (5, .int q_2.1), (3, .ref ho), (2, .ref h0), (1, .ref ((a 100))), (0, .ref bs)]) hx hb dn_L_law_653 hl (k := 2) rfl (dc_inc (by decide)) (by decide) rfl (fun ls hl => ?_)
            refine lv_goto (tgt := 23) hx hb dn_L_law_656 (by decide) ?_
            exact ih ((x4 + 6)) q_2.2.1 q_7.2 q_2.2.2 hf (by omega) a v b _ _ H locs ls (by omega) (by omega) hP hD hS (lv_sub hl [0, 3, 4, 5, 6] rfl)
          · have hf := (if_pos h).symm.trans hf
            refine lv_aload_n hx hb dn_L_law_539 rfl (lv_at hl 3 rfl) ?_
            refine lv_iconst (v := 0) hx hb dn_L_law_540 (by decide) ?_
            refine va_lald hx hb hK (va_P_l hP) 122 2 rfl rfl (show ¬ (_ ∨ _) by decide) dn_L_law_541 ?_
            refine xk_tl (y := (q_2.2.2 0)) rfl ?_
            refine lv_iload hx hb dn_L_law_542 (lv_at hl 0 rfl) ?_
            refine lv_i2l (v := Int32.toInt64 q_4.1) hx hb dn_L_law_544 rfl ?_
            refine W.lcmp hx hb dn_L_law_545 ?_
            refine lv_if_eq (tgt := 551) hx hb dn_L_law_546 (by decide) (fun h => ?_) (fun h => ?_)
            · have hf := (if_pos h).symm.trans hf
              refine lv_goto (tgt := 653) hx hb dn_L_law_551 (by decide) ?_
              refine lv_iinc (v := (x4 + 6)) (lv' := [(4, .int ((x4 + 6))), (6, .int q_4.1), (5, .int q_2.1), (3, .ref ho), (2, .ref h0), (1, .ref ((a 100))), (0, .ref bs)]) hx hb dn_L_law_653 hl (k := 2) rfl (dc_inc (by decide)) (by decide) rfl (fun ls hl => ?_)
              refine lv_goto (tgt := 23) hx hb dn_L_law_656 (by decide) ?_
              exact ih ((x4 + 6)) q_2.2.1 q_7.2 q_2.2.2 hf (by omega) a v b _ _ H locs ls (by omega) (by omega) hP hD hS (lv_sub hl [0, 3, 4, 5, 6] rfl)
            · have hf := (if_neg h).symm.trans hf
              refine lv_iconst (v := 0) hx hb dn_L_law_549 (by decide) ?_
              exact absurd (Option.some.inj hf) (by decide)
        · have hf := (if_neg h).symm.trans hf
          refine lv_iconst (v := 0) hx hb dn_L_law_532 (by decide) ?_
          exact absurd (Option.some.inj hf) (by decide)
      have hf := (if_neg h_9).symm.trans hf
      by_cases h_10 : ((xs (Int32.toNatClampNeg x4)) &&& 15) = 10
      · have hf := (if_pos h_10).symm.trans hf
        refine xk_ti (y := 10) h_10 ?_
        refine lv_tableIn (tgt := 554) hx hb dn_L_law_40 (by decide) (by decide) rfl (by decide) ?_
        refine lv_aload_n hx hb dn_L_law_554 rfl (lv_at hl 3 rfl) ?_
        refine lv_aload_n hx hb dn_L_law_555 rfl (lv_at hl 4 rfl) ?_
        refine lv_iload hx hb dn_L_law_556 (lv_at hl 0 rfl) ?_
        refine lv_iconst (v := 1) hx hb dn_L_law_558 (by decide) ?_
        refine lv_iadd hx hb dn_L_law_559 ?_
        obtain ⟨hg_2, hf⟩ := dc_g hf
        refine va_sld hx hb hX hbl hbA hS hg_2 dn_L_law_560 ?_
        refine lv_aload_n hx hb dn_L_law_561 rfl (lv_at hl 1 rfl) ?_
        obtain ⟨q_3, hc_4, hf⟩ := dc_b hf
        refine dc_calliA (xk_runSH (ar := 3) (As := [.ref ((a 100)), .int ((xs (Int32.toNatClampNeg ((x4 + 1))))), .ref ho]) (rest := []) ⟨hx, hb, hml, hown, hg⟩ (hc_value l hlt dC dI cI cB cJ cZ cQ N H.size a v ho ((xs (Int32.toNatClampNeg ((x4 + 1))))) sc o q_3 hc_4) dc_blindX (lw_pre hK hN hT hno hts hz1 hz2 hnA hP hD hS hA) wn_8_43 wn_8_44 wn_1_0 wn_8_45 rfl rfl (by decide +kernel) ⟨Nat.le_of_ble_eq_true rfl, Nat.le_of_ble_eq_true rfl⟩ rfl hl.1 rfl (Nat.le_of_ble_eq_true rfl) dn_L_law_562 ⟨(show _ ≤ 601024 by omega), (show _ ≤ 7293034 by omega)⟩) hP hD hS hA (fun r _ H locs hw hP hD hS => ?_)
        have hw : r = q_3.1 := hw
        subst hw
        refine lv_istore (lv' := [(5, .int q_3.1), (4, .int x4), (3, .ref ho), (2, .ref h0), (1, .ref ((a 100))), (0, .ref bs)]) hx hb dn_L_law_565 hl (by decide) rfl (fun ls hl => ?_)
        refine lv_aload_n hx hb dn_L_law_567 rfl (lv_at hl 3 rfl) ?_
        refine lv_aload_n hx hb dn_L_law_568 rfl (lv_at hl 5 rfl) ?_
        refine lv_iload hx hb dn_L_law_569 (lv_at hl 1 rfl) ?_
        refine lv_iconst (v := 1) hx hb dn_L_law_571 (by decide) ?_
        refine lv_iadd hx hb dn_L_law_572 ?_
        obtain ⟨hg_5, hf⟩ := dc_g hf
        refine va_sld hx hb hX hbl hbA hS hg_5 dn_L_law_573 ?_
        obtain ⟨q_6, hc_7, hf⟩ := dc_b hf
        have hgeq_6 := mn_M_value N ((xs (Int32.toNatClampNeg ((x4 + 1))))) sm q_6 hc_7
        have hP := va_P_sw hP
        have hD := va_D_sw hD
        refine dc_calllA (dc_runV (ar := 1) (As := [.int ((xs (Int32.toNatClampNeg ((x4 + 1)))))]) (rest := []) (ci := 0) (q0 := 0) ⟨hx, hb, hml, hown, hg⟩ hK hN hT hS hA (ct_M_value l dC dI cI cB cJ cZ cQ N H.size h0 b ((xs (Int32.toNatClampNeg ((x4 + 1))))) sm q_6 hc_7) (va_P_l hP) (va_D_l hD) rfl rfl wn_11_55 wn_11_56 wn_11_57 wn_1_13 wn_11_58 rfl rfl (by decide +kernel) ⟨Nat.le_of_ble_eq_true rfl, Nat.le_of_ble_eq_true rfl⟩ rfl hl.1 rfl (Nat.le_of_ble_eq_true rfl) dn_L_law_574 ⟨(show _ ≤ 601024 by omega), (show _ ≤ 7293034 by omega)⟩) hP hD hS hA (fun r_8 _ H locs hw hP hD hS => ?_)
        have hP : va_P (dC, dI) xcl ((wC a v cI cB cJ cZ cQ q_3.2.1 ++ ([(ho, .inl (cJ, 1, .inr (.inl q_3.2.2)))] : va_W)) ++ wM h0 b cI cB cJ cZ q_6.2) H := va_P_sw hP
        have hD : va_D A ((wC a v cI cB cJ cZ cQ q_3.2.1 ++ ([(ho, .inl (cJ, 1, .inr (.inl q_3.2.2)))] : va_W)) ++ wM h0 b cI cB cJ cZ q_6.2) := va_D_sw hD
        have hw : r_8 = q_6.1 := hw
        subst hw
        refine lv_lstore (lv' := [(6, .long q_6.1), (5, .int q_3.1), (4, .int x4), (3, .ref ho), (2, .ref h0), (1, .ref ((a 100))), (0, .ref bs)]) hx hb dn_L_law_577 hl (by decide) rfl (fun ls hl => ?_)
        refine lv_aload_n hx hb dn_L_law_579 rfl (lv_at hl 4 rfl) ?_
        obtain ⟨q_9, hc_10, hf⟩ := dc_b hf
        have hgeq_9 := mn_M_thrown N q_6.2 q_9 hc_10
        have hP := va_P_sw hP
        have hD := va_D_sw hD
        refine dc_calliA (dc_runV (ar := 0) (As := []) (rest := []) (ci := 0) (q0 := 0) ⟨hx, hb, hml, hown, hg⟩ hK hN hT hS hA (ct_M_thrown l dC dI cI cB cJ cZ cQ N H.size h0 b q_6.2 q_9 hc_10) (va_P_l hP) (va_D_l hD) rfl rfl wn_9_108 wn_9_109 wn_9_110 wn_1_13 wn_9_111 rfl rfl (by decide +kernel) ⟨Nat.le_of_ble_eq_true rfl, Nat.le_of_ble_eq_true rfl⟩ rfl hl.1 rfl (Nat.le_of_ble_eq_true rfl) dn_L_law_580 ⟨(show _ ≤ 601024 by omega), (show _ ≤ 7293034 by omega)⟩) hP hD hS hA (fun r_11 _ H locs hw hP hD hS => ?_)
        have hP : va_P (dC, dI) xcl ((wC a v cI cB cJ cZ cQ q_3.2.1 ++ ([(ho, .inl (cJ, 1, .inr (.inl q_3.2.2)))] : va_W)) ++ wM h0 b cI cB cJ cZ q_9.2) H := va_P_sw hP
        have hD : va_D A ((wC a v cI cB cJ cZ cQ q_3.2.1 ++ ([(ho, .inl (cJ, 1, .inr (.inl q_3.2.2)))] : va_W)) ++ wM h0 b cI cB cJ cZ q_9.2) := va_D_sw hD
        have hw : r_11 = q_9.1 := hw
        subst hw
        refine lv_iload hx hb dn_L_law_583 (lv_at hl 1 rfl) ?_
        refine lv_icmp_eq (tgt := 590) hx hb dn_L_law_585 (by decide) (fun h => ?_) (fun h => ?_)
        · have hf := (if_pos h).symm.trans hf
          refine lv_iload hx hb dn_L_law_590 (lv_at hl 1 rfl) ?_
          refine lv_if_ne (tgt := 606) hx hb dn_L_law_592 (by decide) (fun h => ?_) (fun h => ?_)
          · have hf := (if_neg h).symm.trans hf
            refine lv_goto (tgt := 653) hx hb dn_L_law_606 (by decide) ?_
            refine lv_iinc (v := (x4 + 6)) (lv' := [(4, .int ((x4 + 6))), (6, .long q_6.1), (5, .int q_3.1), (3, .ref ho), (2, .ref h0), (1, .ref ((a 100))), (0, .ref bs)]) hx hb dn_L_law_653 hl (k := 2) rfl (dc_inc (by decide)) (by decide) rfl (fun ls hl => ?_)
            refine lv_goto (tgt := 23) hx hb dn_L_law_656 (by decide) ?_
            exact ih ((x4 + 6)) q_3.2.1 q_9.2 q_3.2.2 hf (by omega) a v b _ _ H locs ls (by omega) (by omega) hP hD hS (lv_sub hl [0, 3, 4, 5, 6] rfl)
          · have hf := (if_pos h).symm.trans hf
            refine lv_aload_n hx hb dn_L_law_595 rfl (lv_at hl 3 rfl) ?_
            refine lv_iconst (v := 0) hx hb dn_L_law_596 (by decide) ?_
            refine va_lald hx hb hK (va_P_l hP) 122 2 rfl rfl (show ¬ (_ ∨ _) by decide) dn_L_law_597 ?_
            refine xk_tl (y := (q_3.2.2 0)) rfl ?_
            refine lv_lload hx hb dn_L_law_598 (lv_at hl 0 rfl) ?_
            refine W.lcmp hx hb dn_L_law_600 ?_
            refine lv_if_eq (tgt := 606) hx hb dn_L_law_601 (by decide) (fun h => ?_) (fun h => ?_)
            · have hf := (if_pos h).symm.trans hf
              refine lv_goto (tgt := 653) hx hb dn_L_law_606 (by decide) ?_
              refine lv_iinc (v := (x4 + 6)) (lv' := [(4, .int ((x4 + 6))), (6, .long q_6.1), (5, .int q_3.1), (3, .ref ho), (2, .ref h0), (1, .ref ((a 100))), (0, .ref bs)]) hx hb dn_L_law_653 hl (k := 2) rfl (dc_inc (by decide)) (by decide) rfl (fun ls hl => ?_)
              refine lv_goto (tgt := 23) hx hb dn_L_law_656 (by decide) ?_
              exact ih ((x4 + 6)) q_3.2.1 q_9.2 q_3.2.2 hf (by omega) a v b _ _ H locs ls (by omega) (by omega) hP hD hS (lv_sub hl [0, 3, 4, 5, 6] rfl)
            · have hf := (if_neg h).symm.trans hf
              refine lv_iconst (v := 0) hx hb dn_L_law_604 (by decide) ?_
              exact absurd (Option.some.inj hf) (by decide)
        · have hf := (if_neg h).symm.trans hf
          refine lv_iconst (v := 0) hx hb dn_L_law_588 (by decide) ?_
          exact absurd (Option.some.inj hf) (by decide)
      have hf := (if_neg h_10).symm.trans hf
      by_cases h_11 : ((xs (Int32.toNatClampNeg x4)) &&& 15) = 11
      · have hf := (if_pos h_11).symm.trans hf
        refine xk_ti (y := 11) h_11 ?_
        refine lv_tableIn (tgt := 609) hx hb dn_L_law_40 (by decide) (by decide) rfl (by decide) ?_
        refine lv_aload_n hx hb dn_L_law_609 rfl (lv_at hl 3 rfl) ?_
        refine lv_aload_n hx hb dn_L_law_610 rfl (lv_at hl 1 rfl) ?_
        obtain ⟨q_2, hc_3, hf⟩ := dc_b hf
        refine dc_calliA (xk_runSH (ar := 2) (As := [.ref ((a 100)), .ref ho]) (rest := []) ⟨hx, hb, hml, hown, hg⟩ (hc_failing l hlt dC dI cI cB cJ cZ cQ N H.size a v ho sc o q_2 hc_3) dc_blindX (lw_pre hK hN hT hno hts hz1 hz2 hnA hP hD hS hA) wn_8_54 wn_8_55 wn_1_0 wn_8_56 rfl rfl (by decide +kernel) ⟨Nat.le_of_ble_eq_true rfl, Nat.le_of_ble_eq_true rfl⟩ rfl hl.1 rfl (Nat.le_of_ble_eq_true rfl) dn_L_law_611 ⟨(show _ ≤ 601024 by omega), (show _ ≤ 7293034 by omega)⟩) hP hD hS hA (fun r _ H locs hw hP hD hS => ?_)
        have hw : r = q_2.1 := hw
        subst hw
        refine lv_istore (lv' := [(5, .int q_2.1), (4, .int x4), (3, .ref ho), (2, .ref h0), (1, .ref ((a 100))), (0, .ref bs)]) hx hb dn_L_law_614 hl (by decide) rfl (fun ls hl => ?_)
        refine lv_aload_n hx hb dn_L_law_616 rfl (lv_at hl 3 rfl) ?_
        obtain ⟨q_4, hc_5, hf⟩ := dc_b hf
        have hgeq_4 := mn_M_failing N sm q_4 hc_5
        have hP := va_P_sw hP
        have hD := va_D_sw hD
        refine dc_calliA (dc_runV (ar := 0) (As := []) (rest := []) (ci := 0) (q0 := 0) ⟨hx, hb, hml, hown, hg⟩ hK hN hT hS hA (ct_M_failing l dC dI cI cB cJ cZ cQ N H.size h0 b sm q_4 hc_5) (va_P_l hP) (va_D_l hD) rfl rfl wn_11_59 wn_11_60 wn_11_61 wn_1_13 wn_11_62 rfl rfl (by decide +kernel) ⟨Nat.le_of_ble_eq_true rfl, Nat.le_of_ble_eq_true rfl⟩ rfl hl.1 rfl (Nat.le_of_ble_eq_true rfl) dn_L_law_617 ⟨(show _ ≤ 601024 by omega), (show _ ≤ 7293034 by omega)⟩) hP hD hS hA (fun r_6 _ H locs hw hP hD hS => ?_)
        have hP : va_P (dC, dI) xcl ((wC a v cI cB cJ cZ cQ q_2.2.1 ++ ([(ho, .inl (cJ, 1, .inr (.inl q_2.2.2)))] : va_W)) ++ wM h0 b cI cB cJ cZ q_4.2) H := va_P_sw hP
        have hD : va_D A ((wC a v cI cB cJ cZ cQ q_2.2.1 ++ ([(ho, .inl (cJ, 1, .inr (.inl q_2.2.2)))] : va_W)) ++ wM h0 b cI cB cJ cZ q_4.2) := va_D_sw hD
        have hw : r_6 = q_4.1 := hw
        subst hw
        refine lv_istore (lv' := [(6, .int q_4.1), (5, .int q_2.1), (4, .int x4), (3, .ref ho), (2, .ref h0), (1, .ref ((a 100))), (0, .ref bs)]) hx hb dn_L_law_620 hl (by decide) rfl (fun ls hl => ?_)
        refine lv_aload_n hx hb dn_L_law_622 rfl (lv_at hl 4 rfl) ?_
        obtain ⟨q_7, hc_8, hf⟩ := dc_b hf
        have hgeq_7 := mn_M_thrown N q_4.2 q_7 hc_8
        have hP := va_P_sw hP
        have hD := va_D_sw hD
        refine dc_calliA (dc_runV (ar := 0) (As := []) (rest := []) (ci := 0) (q0 := 0) ⟨hx, hb, hml, hown, hg⟩ hK hN hT hS hA (ct_M_thrown l dC dI cI cB cJ cZ cQ N H.size h0 b q_4.2 q_7 hc_8) (va_P_l hP) (va_D_l hD) rfl rfl wn_9_108 wn_9_109 wn_9_110 wn_1_13 wn_9_111 rfl rfl (by decide +kernel) ⟨Nat.le_of_ble_eq_true rfl, Nat.le_of_ble_eq_true rfl⟩ rfl hl.1 rfl (Nat.le_of_ble_eq_true rfl) dn_L_law_623 ⟨(show _ ≤ 601024 by omega), (show _ ≤ 7293034 by omega)⟩) hP hD hS hA (fun r_9 _ H locs hw hP hD hS => ?_)
        have hP : va_P (dC, dI) xcl ((wC a v cI cB cJ cZ cQ q_2.2.1 ++ ([(ho, .inl (cJ, 1, .inr (.inl q_2.2.2)))] : va_W)) ++ wM h0 b cI cB cJ cZ q_7.2) H := va_P_sw hP
        have hD : va_D A ((wC a v cI cB cJ cZ cQ q_2.2.1 ++ ([(ho, .inl (cJ, 1, .inr (.inl q_2.2.2)))] : va_W)) ++ wM h0 b cI cB cJ cZ q_7.2) := va_D_sw hD
        have hw : r_9 = q_7.1 := hw
        subst hw
        refine lv_iload hx hb dn_L_law_626 (lv_at hl 1 rfl) ?_
        refine lv_icmp_eq (tgt := 633) hx hb dn_L_law_628 (by decide) (fun h => ?_) (fun h => ?_)
        · have hf := (if_pos h).symm.trans hf
          refine lv_iload hx hb dn_L_law_633 (lv_at hl 1 rfl) ?_
          refine lv_if_ne (tgt := 650) hx hb dn_L_law_635 (by decide) (fun h => ?_) (fun h => ?_)
          · have hf := (if_neg h).symm.trans hf
            refine lv_goto (tgt := 653) hx hb dn_L_law_650 (by decide) ?_
            refine lv_iinc (v := (x4 + 6)) (lv' := [(4, .int ((x4 + 6))), (6, .int q_4.1), (5, .int q_2.1), (3, .ref ho), (2, .ref h0), (1, .ref ((a 100))), (0, .ref bs)]) hx hb dn_L_law_653 hl (k := 2) rfl (dc_inc (by decide)) (by decide) rfl (fun ls hl => ?_)
            refine lv_goto (tgt := 23) hx hb dn_L_law_656 (by decide) ?_
            exact ih ((x4 + 6)) q_2.2.1 q_7.2 q_2.2.2 hf (by omega) a v b _ _ H locs ls (by omega) (by omega) hP hD hS (lv_sub hl [0, 3, 4, 5, 6] rfl)
          · have hf := (if_pos h).symm.trans hf
            refine lv_aload_n hx hb dn_L_law_638 rfl (lv_at hl 3 rfl) ?_
            refine lv_iconst (v := 0) hx hb dn_L_law_639 (by decide) ?_
            refine va_lald hx hb hK (va_P_l hP) 122 2 rfl rfl (show ¬ (_ ∨ _) by decide) dn_L_law_640 ?_
            refine xk_tl (y := (q_2.2.2 0)) rfl ?_
            refine lv_iload hx hb dn_L_law_641 (lv_at hl 0 rfl) ?_
            refine lv_i2l (v := Int32.toInt64 q_4.1) hx hb dn_L_law_643 rfl ?_
            refine W.lcmp hx hb dn_L_law_644 ?_
            refine lv_if_eq (tgt := 650) hx hb dn_L_law_645 (by decide) (fun h => ?_) (fun h => ?_)
            · have hf := (if_pos h).symm.trans hf
              refine lv_goto (tgt := 653) hx hb dn_L_law_650 (by decide) ?_
              refine lv_iinc (v := (x4 + 6)) (lv' := [(4, .int ((x4 + 6))), (6, .int q_4.1), (5, .int q_2.1), (3, .ref ho), (2, .ref h0), (1, .ref ((a 100))), (0, .ref bs)]) hx hb dn_L_law_653 hl (k := 2) rfl (dc_inc (by decide)) (by decide) rfl (fun ls hl => ?_)
              refine lv_goto (tgt := 23) hx hb dn_L_law_656 (by decide) ?_
              exact ih ((x4 + 6)) q_2.2.1 q_7.2 q_2.2.2 hf (by omega) a v b _ _ H locs ls (by omega) (by omega) hP hD hS (lv_sub hl [0, 3, 4, 5, 6] rfl)
            · have hf := (if_neg h).symm.trans hf
              refine lv_iconst (v := 0) hx hb dn_L_law_648 (by decide) ?_
              exact absurd (Option.some.inj hf) (by decide)
        · have hf := (if_neg h).symm.trans hf
          refine lv_iconst (v := 0) hx hb dn_L_law_631 (by decide) ?_
          exact absurd (Option.some.inj hf) (by decide)
      have hf := (if_neg h_11).symm.trans hf
      refine lv_tableOut (tgt := 653) hx hb dn_L_law_40 (dc_out (fun k h1 h2 => by rcases (show k = 0 ∨ k = 1 ∨ k = 2 ∨ k = 3 ∨ k = 4 ∨ k = 5 ∨ k = 6 ∨ k = 7 ∨ k = 8 ∨ k = 9 ∨ k = 10 ∨ k = 11 by omega) with rfl | rfl | rfl | rfl | rfl | rfl | rfl | rfl | rfl | rfl | rfl | rfl <;> first | exact lv_neT h_0 (by decide) | exact lv_neT h_1 (by decide) | exact lv_neT h_2 (by decide) | exact lv_neT h_3 (by decide) | exact lv_neT h_4 (by decide) | exact lv_neT h_5 (by decide) | exact lv_neT h_6 (by decide) | exact lv_neT h_7 (by decide) | exact lv_neT h_8 (by decide) | exact lv_neT h_9 (by decide) | exact lv_neT h_10 (by decide) | exact lv_neT h_11 (by decide)) (by decide)) (by decide) ?_
      refine lv_iinc (v := (x4 + 6)) (lv' := [(4, .int ((x4 + 6))), (3, .ref ho), (2, .ref h0), (1, .ref ((a 100))), (0, .ref bs)]) hx hb dn_L_law_653 hl (k := 0) rfl (dc_inc (by decide)) (by decide) rfl (fun ls hl => ?_)
      refine lv_goto (tgt := 23) hx hb dn_L_law_656 (by decide) ?_
      exact ih ((x4 + 6)) sc sm o hf (by omega) a v b _ _ H locs ls (by omega) (by omega) hP hD hS (lv_sub hl [0, 1, 2, 3, 4] rfl)
