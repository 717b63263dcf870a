theorem mb_M_writeOut_155 (N : Nat) (y : (Unit × ms)) (k_155 : Int32 → ms → Option (Unit × ms)) (hkm_155 : ∀ (x2 : Int32) (s : ms), k_155 x2 s = some y → gl y.2 = gl s) (x2 : Int32) (s : ms) (hf : bd_M_writeOut_155 N k_155 x2 s = some y) : gl y.2 = gl s := by
  unfold bd_M_writeOut_155 at hf
  have hm : gl s = gl s := rfl
  by_cases h : (s.1 63 0) ≤ x2
  · have hf := (if_pos h).symm.trans hf
    exact (dc_e hf).trans hm
  · have hf := (if_neg h).symm.trans hf
    obtain ⟨q_1, hc_2, hf⟩ := dc_b hf
    have hm := (mn_M_findRule N x2 s q_1 hc_2).trans hm
    exact (hkm_155 ((x2 + 1)) q_1.2 hf).trans hm
theorem mh_M_writeOut_155 (N : Nat) (y : (Unit × ms)) : ∀ (n : Nat) (x2 : Int32) (s : ms), hd_M_writeOut_155 N n x2 s = some y → gl y.2 = gl s := by
  intro n
  induction n with
  | zero => intro x2 s hf; cases hf
  | succ n ih => intro x2 s hf; exact mb_M_writeOut_155 N y (hd_M_writeOut_155 N n) ih x2 s hf
theorem mb_M_writeOut_50 (N : Nat) (y : (Unit × ms)) (k_50 : Int32 → ms → Option (Unit × ms)) (hkm_50 : ∀ (x1 : Int32) (s : ms), k_50 x1 s = some y → gl y.2 = gl s) (x1 : Int32) (s : ms) (hf : bd_M_writeOut_50 N k_50 x1 s = some y) : gl y.2 = gl s := by
  unfold bd_M_writeOut_50 at hf
  have hm : gl s = gl s := rfl
  by_cases h : x1 ≤ 0
  · have hf := (if_pos h).symm.trans hf
    exact (mh_M_writeOut_155 N y N 0 s hf).trans hm
  · have hf := (if_neg h).symm.trans hf
    obtain ⟨_, hf⟩ := dc_g hf
    obtain ⟨_, hf⟩ := dc_g hf
    obtain ⟨_, hf⟩ := dc_g hf
    obtain ⟨_, hf⟩ := dc_g hf
    by_cases h : ((s.1 62) (Int32.toNatClampNeg ((x1 - 1)))) = ((s.1 15) (Int32.toNatClampNeg ((((s.1 57) (Int32.toNatClampNeg (((s.1 61) (Int32.toNatClampNeg ((x1 - 1))))))) + 1))))
    · have hf := (if_pos h).symm.trans hf
      exact (hkm_50 ((x1 + (-1))) s hf).trans hm
    · have hf := (if_neg h).symm.trans hf
      obtain ⟨_, hf⟩ := dc_g hf
      obtain ⟨_, hf⟩ := dc_g hf
      obtain ⟨q_7, hc_8, hf⟩ := dc_b hf
      have hm := (mn_M_begin N (((s.1 28) (Int32.toNatClampNeg (((s.1 62) (Int32.toNatClampNeg ((x1 - 1)))))))) (((s.1 61) (Int32.toNatClampNeg ((x1 - 1))))) (((s.1 62) (Int32.toNatClampNeg ((x1 - 1))))) (upI s 62 (upd (s.1 62) (Int32.toNatClampNeg ((x1 - 1))) ((((s.1 62) (Int32.toNatClampNeg ((x1 - 1)))) + 1)))) q_7 hc_8).trans hm
      obtain ⟨_, hf⟩ := dc_g hf
      obtain ⟨_, hf⟩ := dc_g hf
      obtain ⟨_, hf⟩ := dc_g hf
      obtain ⟨_, hf⟩ := dc_g hf
      exact (hkm_50 ((x1 + 1)) (upI (upI q_7.2 61 (upd (q_7.2.1 61) (Int32.toNatClampNeg x1) (((q_7.2.1 56 0) - 1)))) 62 (upd (q_7.2.1 62) (Int32.toNatClampNeg x1) (((q_7.2.1 15) (Int32.toNatClampNeg (((q_7.2.1 28) (Int32.toNatClampNeg (((s.1 62) (Int32.toNatClampNeg ((x1 - 1))))))))))))) hf).trans hm
theorem mh_M_writeOut_50 (N : Nat) (y : (Unit × ms)) : ∀ (n : Nat) (x1 : Int32) (s : ms), hd_M_writeOut_50 N n x1 s = some y → gl y.2 = gl s := by
  intro n
  induction n with
  | zero => intro x1 s hf; cases hf
  | succ n ih => intro x1 s hf; exact mb_M_writeOut_50 N y (hd_M_writeOut_50 N n) ih x1 s hf
theorem mn_M_writeOut (N : Nat) (s : ms) (y : (Unit × ms)) (hf : fn_M_writeOut N s = some y) : gl y.2 = gl s := by
  unfold fn_M_writeOut at hf
  have hm : gl s = gl s := rfl
  obtain ⟨q_1, hc_2, hf⟩ := dc_b hf
  have hm := (mn_M_begin N (((s.1 12 0) - 1)) ((-1)) ((-1)) (upI (upI s 56 (fun _ => 0)) 63 (fun _ => 0)) q_1 hc_2).trans hm
  obtain ⟨_, hf⟩ := dc_g hf
  exact (mh_M_writeOut_50 N y N 1 (upI (upI q_1.2 61 (upd (q_1.2.1 61) 0 0)) 62 (upd (q_1.2.1 62) 0 (((q_1.2.1 15) (Int32.toNatClampNeg (((q_1.2.1 12 0) - 1))))))) hf).trans hm
set_option maxHeartbeats 8000000 in
set_option maxRecDepth 100000 in
theorem ct_M_writeOut (l : Launch) (dC : Nat → ClassId) (dI : Nat → Nat → Nat) (cI cB cJ cZ cQ : ClassId) (N sz : Nat) (h0 : Nat) (a : Nat → Nat) (s : ms) (y : (Unit × ms)) (hf : fn_M_writeOut N s = some y) : Met l yn_M_writeOut (xw yn_M_writeOut bn_M_writeOut 4 none) ({ frames := 2, cells := 0, slots := 0, locals := 48 }) (dc_P (dC, dI) xcl (xt cI cB cJ cZ cQ) [.ref h0] sz (wM h0 a cI cB cJ cZ s)) (xk_Qv (dC, dI) xcl (xt cI cB cJ cZ cQ) (fun _ : Unit => True) (fun u : Unit => (wM h0 a cI cB cJ cZ y.2)) (va_A (wM h0 a cI cB cJ cZ s) sz)) 0 0 (va_A (wM h0 a cI cB cJ cZ s) sz) := by
  refine dc_of (QA := xk_Qv (dC, dI) xcl (xt cI cB cJ cZ cQ) (fun _ : Unit => True) (fun u : Unit => (wM h0 a cI cB cJ cZ y.2))) (by decide) (Nat.le_of_ble_eq_true rfl) ?_
  intro p e s0 m below meth c hx hb hml hown hg hr hlocks hin hP hK hN A hA hD hT ls hl
  have hown : s0.vm.findClass rn_M = some m.cls := hown
  obtain ⟨H, hH⟩ : ∃ z, z = s0.heap := ⟨_, rfl⟩
  rw [← hH] at hP
  have hS : va_S A s0.heap H [] := by rw [hH]; exact va_S.rf
  suffices kk : ∀ QQ : State → Prop, QQ = MQ below (xk_Qv (dC, dI) xcl (xt cI cB cJ cZ cQ) (fun _ : Unit => True) (fun u : Unit => (wM h0 a cI cB cJ cZ y.2)) A) [.ref h0].toArray s0 0 0 A → dcC p l e ({ frames := 2, cells := 0, slots := 0, locals := 48 }) s0 m [.ref h0].toArray below meth c QQ (dC, dI) A (wM h0 a cI cB cJ cZ s) 0 4 [(0, .ref h0)] [] by
    have k9 := kk _ rfl H [] ls hP hD hS hl
    rw [hH] at k9; exact k9
  clear hP hD hS hl hH H ls
  intro QQ hQQ
  have hd_155 : ∀ (n : Nat) (x2 : Int32) (s : ms), hd_M_writeOut_155 N n x2 s = some y → dcC p l e ({ frames := 2, cells := 0, slots := 0, locals := 48 }) s0 m [.ref h0].toArray below meth c QQ (dC, dI) A (wM h0 a cI cB cJ cZ s) 155 4 [(0, .ref h0), (2, .int x2)] [] := by
    intro n
    induction n with
    | zero => intro x2 s hf; cases hf
    | succ n ih =>
      intro x2 s hf H locs ls hP hD hS hl
      have hf : bd_M_writeOut_155 N (hd_M_writeOut_155 N n) x2 s = some y := hf
      have hk_155 := ih
      generalize hd_M_writeOut_155 N n = k_155 at hf hk_155
      unfold bd_M_writeOut_155 at hf
      refine lv_iload_n hx hb dn_M_writeOut_155 rfl (lv_at hl 1 rfl) ?_
      refine lv_aload_n hx hb dn_M_writeOut_156 rfl (lv_at hl 0 rfl) ?_
      refine va_get (D := (dC, dI)) (ci := 0) (v := .int ((s.1 63 0))) (C := rn_M) (T := fn_M) (N := 91) hx hb hg in_M hown hK hP 0 rfl rfl 63 (by decide) (hg _ wn_8_136) (fun _ h9 => h9) rfl dn_M_writeOut_157 ?_
      refine lv_icmp_ge (tgt := 174) hx hb dn_M_writeOut_160 (by decide) (fun h => ?_) (fun h => ?_)
      · have hf := (if_pos h).symm.trans hf
        rw [hQQ, ← Option.some.inj hf]
        exact xk_vret (w1 := fun u : Unit => (wM h0 a cI cB cJ cZ s)) () hx hb hr hlocks hK hS dn_M_writeOut_174 hP hD trivial (Nat.le_refl _) (Nat.le_refl _)
      · have hf := (if_neg h).symm.trans hf
        refine lv_aload_n hx hb dn_M_writeOut_163 rfl (lv_at hl 0 rfl) ?_
        refine lv_iload_n hx hb dn_M_writeOut_164 rfl (lv_at hl 1 rfl) ?_
        obtain ⟨q_1, hc_2, hf⟩ := dc_b hf
        refine dc_callv (dc_runV (ar := 1) (As := [.int x2]) (rest := []) (ci := 0) (q0 := 0) ⟨hx, hb, hml, hown, hg⟩ hK hN hT hS hA (ct_M_findRule l dC dI cI cB cJ cZ cQ N H.size h0 a x2 s q_1 hc_2) hP hD rfl rfl wn_10_181 wn_10_183 sn_M_findRule wn_1_13 wn_10_184 rfl rfl (by decide +kernel) ⟨Nat.le_of_ble_eq_true rfl, Nat.le_of_ble_eq_true rfl⟩ rfl hl.1 rfl (Nat.le_of_ble_eq_true rfl) dn_M_writeOut_165 ⟨Nat.le_of_ble_eq_true rfl, Nat.le_of_ble_eq_true rfl⟩) hP hD hS hA (fun _ H locs hw hP hD hS => ?_)
        refine lv_iinc (v := (x2 + 1)) (lv' := [(2, .int ((x2 + 1))), (0, .ref h0)]) hx hb dn_M_writeOut_168 hl (k := 1) rfl (dc_inc (by decide)) (by decide) rfl (fun ls hl => ?_)
        refine lv_goto (tgt := 155) hx hb dn_M_writeOut_171 (by decide) ?_
        exact hk_155 ((x2 + 1)) q_1.2 hf H locs ls hP hD hS (lv_sub hl [1, 0] rfl)
  have hd_50 : ∀ (n : Nat) (x1 : Int32) (s : ms), hd_M_writeOut_50 N n x1 s = some y → dcC p l e ({ frames := 2, cells := 0, slots := 0, locals := 48 }) s0 m [.ref h0].toArray below meth c QQ (dC, dI) A (wM h0 a cI cB cJ cZ s) 50 4 [(0, .ref h0), (1, .int x1)] [] := by
    intro n
    induction n with
    | zero => intro x1 s hf; cases hf
    | succ n ih =>
      intro x1 s hf H locs ls hP hD hS hl
      have hf : bd_M_writeOut_50 N (hd_M_writeOut_50 N n) x1 s = some y := hf
      have hk_50 := ih
      generalize hd_M_writeOut_50 N n = k_50 at hf hk_50
      unfold bd_M_writeOut_50 at hf
      refine lv_iload_n hx hb dn_M_writeOut_50 rfl (lv_at hl 1 rfl) ?_
      refine lv_if_le (tgt := 153) hx hb dn_M_writeOut_51 (by decide) (fun h => ?_) (fun h => ?_)
      · have hf := (if_pos h).symm.trans hf
        refine lv_iconst (v := 0) hx hb dn_M_writeOut_153 (by decide) ?_
        refine lv_istore_n (lv' := [(2, .int 0), (0, .ref h0), (1, .int x1)]) hx hb dn_M_writeOut_154 rfl hl (by decide) rfl (fun ls hl => ?_)
        exact hd_155 N 0 s hf H locs ls hP hD hS (lv_sub hl [1, 0] rfl)
      · have hf := (if_neg h).symm.trans hf
        refine lv_aload_n hx hb dn_M_writeOut_54 rfl (lv_at hl 0 rfl) ?_
        refine va_get (D := (dC, dI)) (ci := 0) (v := .ref ((a 61))) (C := rn_M) (T := fn_M) (N := 91) hx hb hg in_M hown hK hP 0 rfl rfl 61 (by decide) (hg _ wn_8_134) (fun _ h9 => h9) rfl dn_M_writeOut_55 ?_
        refine lv_iload_n hx hb dn_M_writeOut_58 rfl (lv_at hl 1 rfl) ?_
        refine lv_iconst (v := 1) hx hb dn_M_writeOut_59 (by decide) ?_
        refine lv_isub hx hb dn_M_writeOut_60 ?_
        obtain ⟨hg_1, hf⟩ := dc_g hf
        refine va_iald hx hb hK hP 42 0 rfl rfl hg_1 dn_M_writeOut_61 ?_
        refine xk_ti (y := ((s.1 61) (Int32.toNatClampNeg ((x1 - 1))))) rfl ?_
        refine lv_istore_n (lv' := [(2, .int (((s.1 61) (Int32.toNatClampNeg ((x1 - 1)))))), (0, .ref h0), (1, .int x1)]) hx hb dn_M_writeOut_62 rfl hl (by decide) rfl (fun ls hl => ?_)
        refine lv_aload_n hx hb dn_M_writeOut_63 rfl (lv_at hl 1 rfl) ?_
        refine va_get (D := (dC, dI)) (ci := 0) (v := .ref ((a 62))) (C := rn_M) (T := fn_M) (N := 91) hx hb hg in_M hown hK hP 0 rfl rfl 62 (by decide) (hg _ wn_8_135) (fun _ h9 => h9) rfl dn_M_writeOut_64 ?_
        refine lv_iload_n hx hb dn_M_writeOut_67 rfl (lv_at hl 2 rfl) ?_
        refine lv_iconst (v := 1) hx hb dn_M_writeOut_68 (by decide) ?_
        refine lv_isub hx hb dn_M_writeOut_69 ?_
        obtain ⟨hg_2, hf⟩ := dc_g hf
        refine va_iald hx hb hK hP 43 0 rfl rfl hg_2 dn_M_writeOut_70 ?_
        refine xk_ti (y := ((s.1 62) (Int32.toNatClampNeg ((x1 - 1))))) rfl ?_
        refine lv_istore_n (lv' := [(3, .int (((s.1 62) (Int32.toNatClampNeg ((x1 - 1)))))), (2, .int (((s.1 61) (Int32.toNatClampNeg ((x1 - 1)))))), (0, .ref h0), (1, .int x1)]) hx hb dn_M_writeOut_71 rfl hl (by decide) rfl (fun ls hl => ?_)
        refine lv_iload_n hx hb dn_M_writeOut_72 rfl (lv_at hl 0 rfl) ?_
        refine lv_aload_n hx hb dn_M_writeOut_73 rfl (lv_at hl 2 rfl) ?_
        refine va_get (D := (dC, dI)) (ci := 0) (v := .ref ((a 15))) (C := rn_M) (T := fn_M) (N := 91) hx hb hg in_M hown hK hP 0 rfl rfl 15 (by decide) (hg _ wn_8_88) (fun _ h9 => h9) rfl dn_M_writeOut_74 ?_
        refine lv_aload_n hx hb dn_M_writeOut_77 rfl (lv_at hl 2 rfl) ?_
        refine va_get (D := (dC, dI)) (ci := 0) (v := .ref ((a 57))) (C := rn_M) (T := fn_M) (N := 91) hx hb hg in_M hown hK hP 0 rfl rfl 57 (by decide) (hg _ wn_8_130) (fun _ h9 => h9) rfl dn_M_writeOut_78 ?_
        refine lv_iload_n hx hb dn_M_writeOut_81 rfl (lv_at hl 1 rfl) ?_
        obtain ⟨hg_3, hf⟩ := dc_g hf
        refine va_iald hx hb hK hP 38 0 rfl rfl hg_3 dn_M_writeOut_82 ?_
        refine xk_ti (y := ((s.1 57) (Int32.toNatClampNeg (((s.1 61) (Int32.toNatClampNeg ((x1 - 1)))))))) rfl ?_
        refine lv_iconst (v := 1) hx hb dn_M_writeOut_83 (by decide) ?_
        refine lv_iadd hx hb dn_M_writeOut_84 ?_
        obtain ⟨hg_4, hf⟩ := dc_g hf
        refine va_iald hx hb hK hP 7 0 rfl rfl hg_4 dn_M_writeOut_85 ?_
        refine xk_ti (y := ((s.1 15) (Int32.toNatClampNeg ((((s.1 57) (Int32.toNatClampNeg (((s.1 61) (Int32.toNatClampNeg ((x1 - 1))))))) + 1))))) rfl ?_
        refine lv_icmp_ne (tgt := 95) hx hb dn_M_writeOut_86 (by decide) (fun h => ?_) (fun h => ?_)
        · have hf := (if_neg h).symm.trans hf
          refine lv_aload_n hx hb dn_M_writeOut_95 rfl (lv_at hl 2 rfl) ?_
          refine va_get (D := (dC, dI)) (ci := 0) (v := .ref ((a 62))) (C := rn_M) (T := fn_M) (N := 91) hx hb hg in_M hown hK hP 0 rfl rfl 62 (by decide) (hg _ wn_8_135) (fun _ h9 => h9) rfl dn_M_writeOut_96 ?_
          refine lv_iload_n hx hb dn_M_writeOut_99 rfl (lv_at hl 3 rfl) ?_
          refine lv_iconst (v := 1) hx hb dn_M_writeOut_100 (by decide) ?_
          refine lv_isub hx hb dn_M_writeOut_101 ?_
          refine lv_iload_n hx hb dn_M_writeOut_102 rfl (lv_at hl 0 rfl) ?_
          refine lv_iconst (v := 1) hx hb dn_M_writeOut_103 (by decide) ?_
          refine lv_iadd hx hb dn_M_writeOut_104 ?_
          obtain ⟨hg_5, hf⟩ := dc_g hf
          refine va_iast hx hb hK hP hD hS 43 0 rfl rfl hg_5 dn_M_writeOut_105 (fun H locs hP hD hS => ?_)
          have hP : va_P (dC, dI) xcl ((wM h0 a cI cB cJ cZ s).set 43 ((a 62), .inl (cI, 260, .inl (upd (s.1 62) (Int32.toNatClampNeg ((x1 - 1))) ((((s.1 62) (Int32.toNatClampNeg ((x1 - 1)))) + 1)))))) H := hP
          have hD : va_D A ((wM h0 a cI cB cJ cZ s).set 43 ((a 62), .inl (cI, 260, .inl (upd (s.1 62) (Int32.toNatClampNeg ((x1 - 1))) ((((s.1 62) (Int32.toNatClampNeg ((x1 - 1)))) + 1)))))) := hD
          have hP := wM_P_62 hP
          have hD := wM_D_62 hD
          refine lv_aload_n hx hb dn_M_writeOut_106 rfl (lv_at hl 2 rfl) ?_
          refine lv_aload_n hx hb dn_M_writeOut_107 rfl (lv_at hl 2 rfl) ?_
          refine va_get (D := (dC, dI)) (ci := 0) (v := .ref ((a 28))) (C := rn_M) (T := fn_M) (N := 91) hx hb hg in_M hown hK hP 0 rfl rfl 28 (by decide) (hg _ wn_8_101) (fun _ h9 => h9) rfl dn_M_writeOut_108 ?_
          refine lv_iload_n hx hb dn_M_writeOut_111 rfl (lv_at hl 0 rfl) ?_
          obtain ⟨hg_6, hf⟩ := dc_g hf
          refine va_iald hx hb hK hP 18 0 rfl rfl hg_6 dn_M_writeOut_112 ?_
          refine xk_ti (y := ((s.1 28) (Int32.toNatClampNeg (((s.1 62) (Int32.toNatClampNeg ((x1 - 1)))))))) rfl ?_
          refine lv_iload_n hx hb dn_M_writeOut_113 rfl (lv_at hl 1 rfl) ?_
          refine lv_iload_n hx hb dn_M_writeOut_114 rfl (lv_at hl 0 rfl) ?_
          obtain ⟨q_7, hc_8, hf⟩ := dc_b hf
          refine dc_callv (dc_runV (ar := 3) (As := [.int (((s.1 28) (Int32.toNatClampNeg (((s.1 62) (Int32.toNatClampNeg ((x1 - 1)))))))), .int (((s.1 61) (Int32.toNatClampNeg ((x1 - 1))))), .int (((s.1 62) (Int32.toNatClampNeg ((x1 - 1)))))]) (rest := []) (ci := 0) (q0 := 0) ⟨hx, hb, hml, hown, hg⟩ hK hN hT hS hA (ct_M_begin l dC dI cI cB cJ cZ cQ N H.size h0 a (((s.1 28) (Int32.toNatClampNeg (((s.1 62) (Int32.toNatClampNeg ((x1 - 1)))))))) (((s.1 61) (Int32.toNatClampNeg ((x1 - 1))))) (((s.1 62) (Int32.toNatClampNeg ((x1 - 1))))) (upI s 62 (upd (s.1 62) (Int32.toNatClampNeg ((x1 - 1))) ((((s.1 62) (Int32.toNatClampNeg ((x1 - 1)))) + 1)))) q_7 hc_8) hP hD rfl rfl wn_10_177 wn_10_179 sn_M_begin wn_1_13 wn_10_180 rfl rfl (by decide +kernel) ⟨Nat.le_of_ble_eq_true rfl, Nat.le_of_ble_eq_true rfl⟩ rfl hl.1 rfl (Nat.le_of_ble_eq_true rfl) dn_M_writeOut_115 ⟨Nat.le_of_ble_eq_true rfl, Nat.le_of_ble_eq_true rfl⟩) hP hD hS hA (fun _ H locs hw hP hD hS => ?_)
          refine lv_aload_n hx hb dn_M_writeOut_118 rfl (lv_at hl 2 rfl) ?_
          refine va_get (D := (dC, dI)) (ci := 0) (v := .ref ((a 61))) (C := rn_M) (T := fn_M) (N := 91) hx hb hg in_M hown hK hP 0 rfl rfl 61 (by decide) (hg _ wn_8_134) (fun _ h9 => h9) rfl dn_M_writeOut_119 ?_
          refine lv_iload_n hx hb dn_M_writeOut_122 rfl (lv_at hl 3 rfl) ?_
          refine lv_aload_n hx hb dn_M_writeOut_123 rfl (lv_at hl 2 rfl) ?_
          refine va_get (D := (dC, dI)) (ci := 0) (v := .int ((q_7.2.1 56 0))) (C := rn_M) (T := fn_M) (N := 91) hx hb hg in_M hown hK hP 0 rfl rfl 56 (by decide) (hg _ wn_8_129) (fun _ h9 => h9) rfl dn_M_writeOut_124 ?_
          refine lv_iconst (v := 1) hx hb dn_M_writeOut_127 (by decide) ?_
          refine lv_isub hx hb dn_M_writeOut_128 ?_
          obtain ⟨hg_9, hf⟩ := dc_g hf
          refine va_iast hx hb hK hP hD hS 42 0 rfl rfl hg_9 dn_M_writeOut_129 (fun H locs hP hD hS => ?_)
          have hP : va_P (dC, dI) xcl ((wM h0 a cI cB cJ cZ q_7.2).set 42 ((a 61), .inl (cI, 260, .inl (upd (q_7.2.1 61) (Int32.toNatClampNeg x1) (((q_7.2.1 56 0) - 1)))))) H := hP
          have hD : va_D A ((wM h0 a cI cB cJ cZ q_7.2).set 42 ((a 61), .inl (cI, 260, .inl (upd (q_7.2.1 61) (Int32.toNatClampNeg x1) (((q_7.2.1 56 0) - 1)))))) := hD
          have hP := wM_P_61 hP
          have hD := wM_D_61 hD
          refine lv_aload_n hx hb dn_M_writeOut_130 rfl (lv_at hl 2 rfl) ?_
          refine va_get (D := (dC, dI)) (ci := 0) (v := .ref ((a 62))) (C := rn_M) (T := fn_M) (N := 91) hx hb hg in_M hown hK hP 0 rfl rfl 62 (by decide) (hg _ wn_8_135) (fun _ h9 => h9) rfl dn_M_writeOut_131 ?_
          refine lv_iload_n hx hb dn_M_writeOut_134 rfl (lv_at hl 3 rfl) ?_
          refine lv_aload_n hx hb dn_M_writeOut_135 rfl (lv_at hl 2 rfl) ?_
          refine va_get (D := (dC, dI)) (ci := 0) (v := .ref ((a 15))) (C := rn_M) (T := fn_M) (N := 91) hx hb hg in_M hown hK hP 0 rfl rfl 15 (by decide) (hg _ wn_8_88) (fun _ h9 => h9) rfl dn_M_writeOut_136 ?_
          refine lv_aload_n hx hb dn_M_writeOut_139 rfl (lv_at hl 2 rfl) ?_
          refine va_get (D := (dC, dI)) (ci := 0) (v := .ref ((a 28))) (C := rn_M) (T := fn_M) (N := 91) hx hb hg in_M hown hK hP 0 rfl rfl 28 (by decide) (hg _ wn_8_101) (fun _ h9 => h9) rfl dn_M_writeOut_140 ?_
          refine lv_iload_n hx hb dn_M_writeOut_143 rfl (lv_at hl 0 rfl) ?_
          obtain ⟨hg_10, hf⟩ := dc_g hf
          refine va_iald hx hb hK hP 18 0 rfl rfl hg_10 dn_M_writeOut_144 ?_
          refine xk_ti (y := ((q_7.2.1 28) (Int32.toNatClampNeg (((s.1 62) (Int32.toNatClampNeg ((x1 - 1)))))))) rfl ?_
          obtain ⟨hg_11, hf⟩ := dc_g hf
          refine va_iald hx hb hK hP 7 0 rfl rfl hg_11 dn_M_writeOut_145 ?_
          refine xk_ti (y := ((q_7.2.1 15) (Int32.toNatClampNeg (((q_7.2.1 28) (Int32.toNatClampNeg (((s.1 62) (Int32.toNatClampNeg ((x1 - 1))))))))))) rfl ?_
          obtain ⟨hg_12, hf⟩ := dc_g hf
          refine va_iast hx hb hK hP hD hS 43 0 rfl rfl hg_12 dn_M_writeOut_146 (fun H locs hP hD hS => ?_)
          have hP : va_P (dC, dI) xcl ((wM h0 a cI cB cJ cZ (upI q_7.2 61 (upd (q_7.2.1 61) (Int32.toNatClampNeg x1) (((q_7.2.1 56 0) - 1))))).set 43 ((a 62), .inl (cI, 260, .inl (upd (q_7.2.1 62) (Int32.toNatClampNeg x1) (((q_7.2.1 15) (Int32.toNatClampNeg (((q_7.2.1 28) (Int32.toNatClampNeg (((s.1 62) (Int32.toNatClampNeg ((x1 - 1))))))))))))))) H := hP
          have hD : va_D A ((wM h0 a cI cB cJ cZ (upI q_7.2 61 (upd (q_7.2.1 61) (Int32.toNatClampNeg x1) (((q_7.2.1 56 0) - 1))))).set 43 ((a 62), .inl (cI, 260, .inl (upd (q_7.2.1 62) (Int32.toNatClampNeg x1) (((q_7.2.1 15) (Int32.toNatClampNeg (((q_7.2.1 28) (Int32.toNatClampNeg (((s.1 62) (Int32.toNatClampNeg ((x1 - 1))))))))))))))) := hD
          have hP := wM_P_62 hP
          have hD := wM_D_62 hD
          refine lv_iinc (v := (x1 + 1)) (lv' := [(1, .int ((x1 + 1))), (3, .int (((s.1 62) (Int32.toNatClampNeg ((x1 - 1)))))), (2, .int (((s.1 61) (Int32.toNatClampNeg ((x1 - 1)))))), (0, .ref h0)]) hx hb dn_M_writeOut_147 hl (k := 3) rfl (dc_inc (by decide)) (by decide) rfl (fun ls hl => ?_)
          refine lv_goto (tgt := 50) hx hb dn_M_writeOut_150 (by decide) ?_
          exact hk_50 ((x1 + 1)) (upI (upI q_7.2 61 (upd (q_7.2.1 61) (Int32.toNatClampNeg x1) (((q_7.2.1 56 0) - 1)))) 62 (upd (q_7.2.1 62) (Int32.toNatClampNeg x1) (((q_7.2.1 15) (Int32.toNatClampNeg (((q_7.2.1 28) (Int32.toNatClampNeg (((s.1 62) (Int32.toNatClampNeg ((x1 - 1))))))))))))) hf H locs ls hP hD hS (lv_sub hl [3, 0] rfl)
        · have hf := (if_pos h).symm.trans hf
          refine lv_iinc (v := (x1 + (-1))) (lv' := [(1, .int ((x1 + (-1)))), (3, .int (((s.1 62) (Int32.toNatClampNeg ((x1 - 1)))))), (2, .int (((s.1 61) (Int32.toNatClampNeg ((x1 - 1)))))), (0, .ref h0)]) hx hb dn_M_writeOut_89 hl (k := 3) rfl (dc_inc (by decide)) (by decide) rfl (fun ls hl => ?_)
          refine lv_goto (tgt := 150) hx hb dn_M_writeOut_92 (by decide) ?_
          refine lv_goto (tgt := 50) hx hb dn_M_writeOut_150 (by decide) ?_
          exact hk_50 ((x1 + (-1))) s hf H locs ls hP hD hS (lv_sub hl [3, 0] rfl)
  intro H locs ls hP hD hS hl
  unfold fn_M_writeOut at hf
  refine lv_aload_n hx hb dn_M_writeOut_0 rfl (lv_at hl 0 rfl) ?_
  refine lv_iconst (v := 0) hx hb dn_M_writeOut_1 (by decide) ?_
  refine va_put (D := (dC, dI)) (ci := 0) (v := .int 0) (ty := .int) (C := rn_M) (T := fn_M) (N := 91) hx hb hg in_M tn_M tk_M nn_M hown hK hP hD hS 0 rfl rfl 56 (by decide) (hg _ wn_8_129) (fun _ h9 => h9) rfl (tk_M 56 (by decide)) rfl rfl (Nat.le_of_ble_eq_true rfl) dn_M_writeOut_2 (fun H locs hP hD hS => ?_)
  have hP := wM_P_56 hP
  have hD := wM_D_56 hD
  refine lv_aload_n hx hb dn_M_writeOut_5 rfl (lv_at hl 0 rfl) ?_
  refine lv_iconst (v := 0) hx hb dn_M_writeOut_6 (by decide) ?_
  refine va_put (D := (dC, dI)) (ci := 0) (v := .int 0) (ty := .int) (C := rn_M) (T := fn_M) (N := 91) hx hb hg in_M tn_M tk_M nn_M hown hK hP hD hS 0 rfl rfl 63 (by decide) (hg _ wn_8_136) (fun _ h9 => h9) rfl (tk_M 63 (by decide)) rfl rfl (Nat.le_of_ble_eq_true rfl) dn_M_writeOut_7 (fun H locs hP hD hS => ?_)
  have hP := wM_P_63 hP
  have hD := wM_D_63 hD
  refine lv_iconst (v := 0) hx hb dn_M_writeOut_10 (by decide) ?_
  refine lv_istore_n (lv' := [(1, .int 0), (0, .ref h0)]) hx hb dn_M_writeOut_11 rfl hl (by decide) rfl (fun ls hl => ?_)
  refine lv_aload_n hx hb dn_M_writeOut_12 rfl (lv_at hl 1 rfl) ?_
  refine lv_aload_n hx hb dn_M_writeOut_13 rfl (lv_at hl 1 rfl) ?_
  refine va_get (D := (dC, dI)) (ci := 0) (v := .int ((s.1 12 0))) (C := rn_M) (T := fn_M) (N := 91) hx hb hg in_M hown hK hP 0 rfl rfl 12 (by decide) (hg _ wn_8_85) (fun _ h9 => h9) rfl dn_M_writeOut_14 ?_
  refine lv_iconst (v := 1) hx hb dn_M_writeOut_17 (by decide) ?_
  refine lv_isub hx hb dn_M_writeOut_18 ?_
  refine lv_iconst (v := (-1)) hx hb dn_M_writeOut_19 (by decide) ?_
  refine lv_iconst (v := (-1)) hx hb dn_M_writeOut_20 (by decide) ?_
  obtain ⟨q_1, hc_2, hf⟩ := dc_b hf
  refine dc_callv (dc_runV (ar := 3) (As := [.int (((s.1 12 0) - 1)), .int ((-1)), .int ((-1))]) (rest := []) (ci := 0) (q0 := 0) ⟨hx, hb, hml, hown, hg⟩ hK hN hT hS hA (ct_M_begin l dC dI cI cB cJ cZ cQ N H.size h0 a (((s.1 12 0) - 1)) ((-1)) ((-1)) (upI (upI s 56 (fun _ => 0)) 63 (fun _ => 0)) q_1 hc_2) hP hD rfl rfl wn_10_177 wn_10_179 sn_M_begin wn_1_13 wn_10_180 rfl rfl (by decide +kernel) ⟨Nat.le_of_ble_eq_true rfl, Nat.le_of_ble_eq_true rfl⟩ rfl hl.1 rfl (Nat.le_of_ble_eq_true rfl) dn_M_writeOut_21 ⟨Nat.le_of_ble_eq_true rfl, Nat.le_of_ble_eq_true rfl⟩) hP hD hS hA (fun _ H locs hw hP hD hS => ?_)
  refine lv_aload_n hx hb dn_M_writeOut_24 rfl (lv_at hl 1 rfl) ?_
  refine va_get (D := (dC, dI)) (ci := 0) (v := .ref ((a 61))) (C := rn_M) (T := fn_M) (N := 91) hx hb hg in_M hown hK hP 0 rfl rfl 61 (by decide) (hg _ wn_8_134) (fun _ h9 => h9) rfl dn_M_writeOut_25 ?_
  refine lv_iconst (v := 0) hx hb dn_M_writeOut_28 (by decide) ?_
  refine lv_iconst (v := 0) hx hb dn_M_writeOut_29 (by decide) ?_
  refine va_iast hx hb hK hP hD hS 42 0 rfl rfl (show ¬ (_ ∨ _) by decide) dn_M_writeOut_30 (fun H locs hP hD hS => ?_)
  have hP : va_P (dC, dI) xcl ((wM h0 a cI cB cJ cZ q_1.2).set 42 ((a 61), .inl (cI, 260, .inl (upd (q_1.2.1 61) 0 0)))) H := hP
  have hD : va_D A ((wM h0 a cI cB cJ cZ q_1.2).set 42 ((a 61), .inl (cI, 260, .inl (upd (q_1.2.1 61) 0 0)))) := hD
  have hP := wM_P_61 hP
  have hD := wM_D_61 hD
  refine lv_aload_n hx hb dn_M_writeOut_31 rfl (lv_at hl 1 rfl) ?_
  refine va_get (D := (dC, dI)) (ci := 0) (v := .ref ((a 62))) (C := rn_M) (T := fn_M) (N := 91) hx hb hg in_M hown hK hP 0 rfl rfl 62 (by decide) (hg _ wn_8_135) (fun _ h9 => h9) rfl dn_M_writeOut_32 ?_
  refine lv_iconst (v := 0) hx hb dn_M_writeOut_35 (by decide) ?_
  refine lv_aload_n hx hb dn_M_writeOut_36 rfl (lv_at hl 1 rfl) ?_
  refine va_get (D := (dC, dI)) (ci := 0) (v := .ref ((a 15))) (C := rn_M) (T := fn_M) (N := 91) hx hb hg in_M hown hK hP 0 rfl rfl 15 (by decide) (hg _ wn_8_88) (fun _ h9 => h9) rfl dn_M_writeOut_37 ?_
  refine lv_aload_n hx hb dn_M_writeOut_40 rfl (lv_at hl 1 rfl) ?_
  refine va_get (D := (dC, dI)) (ci := 0) (v := .int ((q_1.2.1 12 0))) (C := rn_M) (T := fn_M) (N := 91) hx hb hg in_M hown hK hP 0 rfl rfl 12 (by decide) (hg _ wn_8_85) (fun _ h9 => h9) rfl dn_M_writeOut_41 ?_
  refine lv_iconst (v := 1) hx hb dn_M_writeOut_44 (by decide) ?_
  refine lv_isub hx hb dn_M_writeOut_45 ?_
  obtain ⟨hg_3, hf⟩ := dc_g hf
  refine va_iald hx hb hK hP 7 0 rfl rfl hg_3 dn_M_writeOut_46 ?_
  refine xk_ti (y := ((q_1.2.1 15) (Int32.toNatClampNeg (((q_1.2.1 12 0) - 1))))) rfl ?_
  refine va_iast hx hb hK hP hD hS 43 0 rfl rfl (show ¬ (_ ∨ _) by decide) dn_M_writeOut_47 (fun H locs hP hD hS => ?_)
  have hP : va_P (dC, dI) xcl ((wM h0 a cI cB cJ cZ (upI q_1.2 61 (upd (q_1.2.1 61) 0 0))).set 43 ((a 62), .inl (cI, 260, .inl (upd (q_1.2.1 62) 0 (((q_1.2.1 15) (Int32.toNatClampNeg (((q_1.2.1 12 0) - 1))))))))) H := hP
  have hD : va_D A ((wM h0 a cI cB cJ cZ (upI q_1.2 61 (upd (q_1.2.1 61) 0 0))).set 43 ((a 62), .inl (cI, 260, .inl (upd (q_1.2.1 62) 0 (((q_1.2.1 15) (Int32.toNatClampNeg (((q_1.2.1 12 0) - 1))))))))) := hD
  have hP := wM_P_62 hP
  have hD := wM_D_62 hD
  refine lv_iconst (v := 1) hx hb dn_M_writeOut_48 (by decide) ?_
  refine lv_istore_n (lv' := [(1, .int 1), (0, .ref h0)]) hx hb dn_M_writeOut_49 rfl hl (by decide) rfl (fun ls hl => ?_)
  exact hd_50 N 1 (upI (upI q_1.2 61 (upd (q_1.2.1 61) 0 0)) 62 (upd (q_1.2.1 62) 0 (((q_1.2.1 15) (Int32.toNatClampNeg (((q_1.2.1 12 0) - 1))))))) hf H locs ls hP hD hS (lv_sub hl [1, 0] rfl)
theorem mo_M_dependsOnItself_177 (N : Nat) (k_34 : Int32 → Int32 → Int32 → ms → Option (Int32 × ms)) (k_114 : Int32 → Int32 → Int32 → Int32 → Int32 → Int32 → ms → Option (Int32 × ms)) (y : (Int32 × ms)) (hkm_34 : ∀ (x1 : Int32) (x2 : Int32) (x3 : Int32) (s : ms), k_34 x1 x2 x3 s = some y → gl y.2 = gl s) (hkm_114 : ∀ (x1 : Int32) (x2 : Int32) (x3 : Int32) (x4 : Int32) (x6 : Int32) (x7 : Int32) (s : ms), k_114 x1 x2 x3 x4 x6 x7 s = some y → gl y.2 = gl s) (x1 : Int32) (x2 : Int32) (x3 : Int32) (x4 : Int32) (x6 : Int32) (x7 : Int32) (t0 : Int32) (s : ms) (hf : bk_M_dependsOnItself_177 N k_34 k_114 x1 x2 x3 x4 x6 x7 t0 s = some y) : gl y.2 = gl s := by
  unfold bk_M_dependsOnItself_177 at hf
  have hm : gl s = gl s := rfl
  by_cases h : t0 = x1
  · have hf := (if_pos h).symm.trans hf
    exact (dc_e hf).trans hm
  · have hf := (if_neg h).symm.trans hf
    by_cases h : t0 < 0
    · have hf := (if_pos h).symm.trans hf
      exact (hkm_114 x1 x2 x3 x4 x6 ((x7 + 3)) s hf).trans hm
    · have hf := (if_neg h).symm.trans hf
      obtain ⟨_, hf⟩ := dc_g hf
      by_cases h : ((s.1 73) (Int32.toNatClampNeg t0)) = 0
      · have hf := (if_pos h).symm.trans hf
        obtain ⟨_, hf⟩ := dc_g hf
        obtain ⟨_, hf⟩ := dc_g hf
        exact (hkm_114 x1 ((x2 + 1)) x3 x4 x6 ((x7 + 3)) (upI (upI s 73 (upd (s.1 73) (Int32.toNatClampNeg t0) (vp_nar .boolean 1))) 74 (upd (s.1 74) (Int32.toNatClampNeg x2) t0)) hf).trans hm
      · have hf := (if_neg h).symm.trans hf
        exact (hkm_114 x1 x2 x3 x4 x6 ((x7 + 3)) s hf).trans hm
theorem mb_M_dependsOnItself_114 (N : Nat) (k_34 : Int32 → Int32 → Int32 → ms → Option (Int32 × ms)) (y : (Int32 × ms)) (hkm_34 : ∀ (x1 : Int32) (x2 : Int32) (x3 : Int32) (s : ms), k_34 x1 x2 x3 s = some y → gl y.2 = gl s) (k_114 : Int32 → Int32 → Int32 → Int32 → Int32 → Int32 → ms → Option (Int32 × ms)) (hkm_114 : ∀ (x1 : Int32) (x2 : Int32) (x3 : Int32) (x4 : Int32) (x6 : Int32) (x7 : Int32) (s : ms), k_114 x1 x2 x3 x4 x6 x7 s = some y → gl y.2 = gl s) (x1 : Int32) (x2 : Int32) (x3 : Int32) (x4 : Int32) (x6 : Int32) (x7 : Int32) (s : ms) (hf : bd_M_dependsOnItself_114 N k_34 k_114 x1 x2 x3 x4 x6 x7 s = some y) : gl y.2 = gl s := by
  unfold bd_M_dependsOnItself_114 at hf
  have hm : gl s = gl s := rfl
  by_cases h : x6 ≤ x7
  · have hf := (if_pos h).symm.trans hf
    exact (hkm_34 x1 x2 ((x3 + 1)) s hf).trans hm
  · have hf := (if_neg h).symm.trans hf
    obtain ⟨_, hf⟩ := dc_g hf
    by_cases h : ((s.1 66) (Int32.toNatClampNeg x4)) = 2
    · have hf := (if_pos h).symm.trans hf
      obtain ⟨_, hf⟩ := dc_g hf
      exact (mo_M_dependsOnItself_177 N k_34 k_114 y hkm_34 hkm_114 x1 x2 x3 x4 x6 x7 (((s.1 67) (Int32.toNatClampNeg x4))) s hf).trans hm
    · have hf := (if_neg h).symm.trans hf
      obtain ⟨_, hf⟩ := dc_g hf
      by_cases h : ((s.1 41) (Int32.toNatClampNeg x7)) = 1
      · have hf := (if_pos h).symm.trans hf
        obtain ⟨_, hf⟩ := dc_g hf
        obtain ⟨_, hf⟩ := dc_g hf
        obtain ⟨q_5, hc_6, hf⟩ := dc_b hf
        have hm := (mn_M_signalOf N (((s.1 69) (Int32.toNatClampNeg x4))) (((s.1 41) (Int32.toNatClampNeg ((x7 + 1))))) s q_5 hc_6).trans hm
        exact (mo_M_dependsOnItself_177 N k_34 k_114 y hkm_34 hkm_114 x1 x2 x3 x4 x6 x7 q_5.1 q_5.2 hf).trans hm
      · have hf := (if_neg h).symm.trans hf
        exact (mo_M_dependsOnItself_177 N k_34 k_114 y hkm_34 hkm_114 x1 x2 x3 x4 x6 x7 ((-1)) s hf).trans hm
theorem mh_M_dependsOnItself_114 (N : Nat) (k_34 : Int32 → Int32 → Int32 → ms → Option (Int32 × ms)) (y : (Int32 × ms)) (hkm_34 : ∀ (x1 : Int32) (x2 : Int32) (x3 : Int32) (s : ms), k_34 x1 x2 x3 s = some y → gl y.2 = gl s) : ∀ (n : Nat) (x1 : Int32) (x2 : Int32) (x3 : Int32) (x4 : Int32) (x6 : Int32) (x7 : Int32) (s : ms), hd_M_dependsOnItself_114 N k_34 n x1 x2 x3 x4 x6 x7 s = some y → gl y.2 = gl s := by
  intro n
  induction n with
  | zero => intro x1 x2 x3 x4 x6 x7 s hf; cases hf
  | succ n ih => intro x1 x2 x3 x4 x6 x7 s hf; exact mb_M_dependsOnItself_114 N k_34 y hkm_34 (hd_M_dependsOnItself_114 N k_34 n) ih x1 x2 x3 x4 x6 x7 s hf
theorem mo_M_dependsOnItself_69 (N : Nat) (k_34 : Int32 → Int32 → Int32 → ms → Option (Int32 × ms)) (y : (Int32 × ms)) (hkm_34 : ∀ (x1 : Int32) (x2 : Int32) (x3 : Int32) (s : ms), k_34 x1 x2 x3 s = some y → gl y.2 = gl s) (x1 : Int32) (x2 : Int32) (x3 : Int32) (x4 : Int32) (t0 : Int32) (s : ms) (hf : bk_M_dependsOnItself_69 N k_34 x1 x2 x3 x4 t0 s = some y) : gl y.2 = gl s := by
  unfold bk_M_dependsOnItself_69 at hf
  have hm : gl s = gl s := rfl
  obtain ⟨_, hf⟩ := dc_g hf
  by_cases h : ((s.1 66) (Int32.toNatClampNeg x4)) = 1
  · have hf := (if_pos h).symm.trans hf
    obtain ⟨_, hf⟩ := dc_g hf
    exact (mh_M_dependsOnItself_114 N k_34 y hkm_34 N x1 x2 x3 x4 (((s.1 68) (Int32.toNatClampNeg x4))) t0 s hf).trans hm
  · have hf := (if_neg h).symm.trans hf
    obtain ⟨_, hf⟩ := dc_g hf
    by_cases h : ((s.1 66) (Int32.toNatClampNeg x4)) = 2
    · have hf := (if_pos h).symm.trans hf
      exact (mh_M_dependsOnItself_114 N k_34 y hkm_34 N x1 x2 x3 x4 3 t0 s hf).trans hm
    · have hf := (if_neg h).symm.trans hf
      exact (mh_M_dependsOnItself_114 N k_34 y hkm_34 N x1 x2 x3 x4 0 t0 s hf).trans hm
theorem mb_M_dependsOnItself_34 (N : Nat) (y : (Int32 × ms)) (k_34 : Int32 → Int32 → Int32 → ms → Option (Int32 × ms)) (hkm_34 : ∀ (x1 : Int32) (x2 : Int32) (x3 : Int32) (s : ms), k_34 x1 x2 x3 s = some y → gl y.2 = gl s) (x1 : Int32) (x2 : Int32) (x3 : Int32) (s : ms) (hf : bd_M_dependsOnItself_34 N k_34 x1 x2 x3 s = some y) : gl y.2 = gl s := by
  unfold bd_M_dependsOnItself_34 at hf
  have hm : gl s = gl s := rfl
  by_cases h : x2 ≤ x3
  · have hf := (if_pos h).symm.trans hf
    exact (dc_e hf).trans hm
  · have hf := (if_neg h).symm.trans hf
    obtain ⟨_, hf⟩ := dc_g hf
    obtain ⟨_, hf⟩ := dc_g hf
    by_cases h : ((s.1 66) (Int32.toNatClampNeg (((s.1 74) (Int32.toNatClampNeg x3))))) = 1
    · have hf := (if_pos h).symm.trans hf
      obtain ⟨_, hf⟩ := dc_g hf
      exact (mo_M_dependsOnItself_69 N k_34 y hkm_34 x1 x2 x3 (((s.1 74) (Int32.toNatClampNeg x3))) (((s.1 67) (Int32.toNatClampNeg (((s.1 74) (Int32.toNatClampNeg x3)))))) s hf).trans hm
    · have hf := (if_neg h).symm.trans hf
      exact (mo_M_dependsOnItself_69 N k_34 y hkm_34 x1 x2 x3 (((s.1 74) (Int32.toNatClampNeg x3))) 0 s hf).trans hm
theorem mh_M_dependsOnItself_34 (N : Nat) (y : (Int32 × ms)) : ∀ (n : Nat) (x1 : Int32) (x2 : Int32) (x3 : Int32) (s : ms), hd_M_dependsOnItself_34 N n x1 x2 x3 s = some y → gl y.2 = gl s := by
  intro n
  induction n with
  | zero => intro x1 x2 x3 s hf; cases hf
  | succ n ih => intro x1 x2 x3 s hf; exact mb_M_dependsOnItself_34 N y (hd_M_dependsOnItself_34 N n) ih x1 x2 x3 s hf
theorem mb_M_dependsOnItself_2 (N : Nat) (y : (Int32 × ms)) (k_2 : Int32 → Int32 → ms → Option (Int32 × ms)) (hkm_2 : ∀ (x1 : Int32) (x2 : Int32) (s : ms), k_2 x1 x2 s = some y → gl y.2 = gl s) (x1 : Int32) (x2 : Int32) (s : ms) (hf : bd_M_dependsOnItself_2 N k_2 x1 x2 s = some y) : gl y.2 = gl s := by
  unfold bd_M_dependsOnItself_2 at hf
  have hm : gl s = gl s := rfl
  by_cases h : (s.1 63 0) ≤ x2
  · have hf := (if_pos h).symm.trans hf
    exact (mh_M_dependsOnItself_34 N y N x1 1 0 (upI s 74 (upd (s.1 74) 0 x1)) hf).trans hm
  · have hf := (if_neg h).symm.trans hf
    obtain ⟨_, hf⟩ := dc_g hf
    exact (hkm_2 x1 ((x2 + 1)) (upI s 73 (upd (s.1 73) (Int32.toNatClampNeg x2) (vp_nar .boolean 0))) hf).trans hm
theorem mh_M_dependsOnItself_2 (N : Nat) (y : (Int32 × ms)) : ∀ (n : Nat) (x1 : Int32) (x2 : Int32) (s : ms), hd_M_dependsOnItself_2 N n x1 x2 s = some y → gl y.2 = gl s := by
  intro n
  induction n with
  | zero => intro x1 x2 s hf; cases hf
  | succ n ih => intro x1 x2 s hf; exact mb_M_dependsOnItself_2 N y (hd_M_dependsOnItself_2 N n) ih x1 x2 s hf
theorem mn_M_dependsOnItself (N : Nat) (v1 : Int32) (s : ms) (y : (Int32 × ms)) (hf : fn_M_dependsOnItself N v1 s = some y) : gl y.2 = gl s := by
  unfold fn_M_dependsOnItself at hf
  have hm : gl s = gl s := rfl
  exact (mh_M_dependsOnItself_2 N y N v1 0 s hf).trans hm
set_option maxHeartbeats 8000000 in
set_option maxRecDepth 100000 in
theorem ct_M_dependsOnItself (l : Launch) (dC : Nat → ClassId) (dI : Nat → Nat → Nat) (cI cB cJ cZ cQ : ClassId) (N sz : Nat) (h0 : Nat) (a : Nat → Nat) (v1 : Int32) (s : ms) (y : (Int32 × ms)) (hf : fn_M_dependsOnItself N v1 s = some y) : Met l yn_M_dependsOnItself (xw yn_M_dependsOnItself bn_M_dependsOnItself 9 (some .boolean)) ({ frames := 1, cells := 0, slots := 0, locals := 22 }) (dc_P (dC, dI) xcl (xt cI cB cJ cZ cQ) [.ref h0, .int v1] sz (wM h0 a cI cB cJ cZ s)) (xk_Qi (dC, dI) xcl (xt cI cB cJ cZ cQ) (fun (r : Int32) (_ : Unit) => r = y.1) (fun u : Unit => (wM h0 a cI cB cJ cZ y.2)) (va_A (wM h0 a cI cB cJ cZ s) sz)) 0 0 (va_A (wM h0 a cI cB cJ cZ s) sz) := by
  refine dc_of (QA := xk_Qi (dC, dI) xcl (xt cI cB cJ cZ cQ) (fun (r : Int32) (_ : Unit) => r = y.1) (fun u : Unit => (wM h0 a cI cB cJ cZ y.2))) (by decide) (Nat.le_of_ble_eq_true rfl) ?_
  intro p e s0 m below meth c hx hb hml hown hg hr hlocks hin hP hK hN A hA hD hT ls hl
  have hown : s0.vm.findClass rn_M = some m.cls := hown
  obtain ⟨H, hH⟩ : ∃ z, z = s0.heap := ⟨_, rfl⟩
  rw [← hH] at hP
  have hS : va_S A s0.heap H [] := by rw [hH]; exact va_S.rf
  suffices kk : ∀ QQ : State → Prop, QQ = MQ below (xk_Qi (dC, dI) xcl (xt cI cB cJ cZ cQ) (fun (r : Int32) (_ : Unit) => r = y.1) (fun u : Unit => (wM h0 a cI cB cJ cZ y.2)) A) [.ref h0, .int v1].toArray s0 0 0 A → dcC p l e ({ frames := 1, cells := 0, slots := 0, locals := 22 }) s0 m [.ref h0, .int v1].toArray below meth c QQ (dC, dI) A (wM h0 a cI cB cJ cZ s) 0 9 [(0, .ref h0), (1, .int v1)] [] by
    have k9 := kk _ rfl H [] ls hP hD hS hl
    rw [hH] at k9; exact k9
  clear hP hD hS hl hH H ls
  intro QQ hQQ
  have bl_177 : ∀ (k_34 : Int32 → Int32 → Int32 → ms → Option (Int32 × ms)) (hk_34 : ∀ (x1 : Int32) (x2 : Int32) (x3 : Int32) (s : ms), k_34 x1 x2 x3 s = some y → dcC p l e ({ frames := 1, cells := 0, slots := 0, locals := 22 }) s0 m [.ref h0, .int v1].toArray below meth c QQ (dC, dI) A (wM h0 a cI cB cJ cZ s) 34 9 [(0, .ref h0), (1, .int x1), (2, .int x2), (3, .int x3)] []) (k_114 : Int32 → Int32 → Int32 → Int32 → Int32 → Int32 → ms → Option (Int32 × ms)) (hk_114 : ∀ (x1 : Int32) (x2 : Int32) (x3 : Int32) (x4 : Int32) (x6 : Int32) (x7 : Int32) (s : ms), k_114 x1 x2 x3 x4 x6 x7 s = some y → dcC p l e ({ frames := 1, cells := 0, slots := 0, locals := 22 }) s0 m [.ref h0, .int v1].toArray below meth c QQ (dC, dI) A (wM h0 a cI cB cJ cZ s) 114 9 [(0, .ref h0), (1, .int x1), (2, .int x2), (3, .int x3), (4, .int x4), (6, .int x6), (7, .int x7)] []) (x1 : Int32) (x2 : Int32) (x3 : Int32) (x4 : Int32) (x6 : Int32) (x7 : Int32) (t0 : Int32) (s : ms), bk_M_dependsOnItself_177 N k_34 k_114 x1 x2 x3 x4 x6 x7 t0 s = some y → dcC p l e ({ frames := 1, cells := 0, slots := 0, locals := 22 }) s0 m [.ref h0, .int v1].toArray below meth c QQ (dC, dI) A (wM h0 a cI cB cJ cZ s) 177 9 [(0, .ref h0), (1, .int x1), (2, .int x2), (3, .int x3), (4, .int x4), (6, .int x6), (7, .int x7)] [.int t0] := by
    intro k_34 hk_34 k_114 hk_114 x1 x2 x3 x4 x6 x7 t0 s hf H locs ls hP hD hS hl
    unfold bk_M_dependsOnItself_177 at hf
    refine lv_istore (lv' := [(8, .int t0), (0, .ref h0), (1, .int x1), (2, .int x2), (3, .int x3), (4, .int x4), (6, .int x6), (7, .int x7)]) hx hb dn_M_dependsOnItself_177 hl (by decide) rfl (fun ls hl => ?_)
    refine lv_iload hx hb dn_M_dependsOnItself_179 (lv_at hl 0 rfl) ?_
    refine lv_iload_n hx hb dn_M_dependsOnItself_181 rfl (lv_at hl 2 rfl) ?_
    refine lv_icmp_ne (tgt := 187) hx hb dn_M_dependsOnItself_182 (by decide) (fun h => ?_) (fun h => ?_)
    · have hf := (if_neg h).symm.trans hf
      refine lv_iload hx hb dn_M_dependsOnItself_187 (lv_at hl 0 rfl) ?_
      refine lv_if_lt (tgt := 221) hx hb dn_M_dependsOnItself_189 (by decide) (fun h => ?_) (fun h => ?_)
      · have hf := (if_pos h).symm.trans hf
        refine lv_iinc (v := (x7 + 3)) (lv' := [(7, .int ((x7 + 3))), (8, .int t0), (0, .ref h0), (1, .int x1), (2, .int x2), (3, .int x3), (4, .int x4), (6, .int x6)]) hx hb dn_M_dependsOnItself_221 hl (k := 7) rfl (dc_inc (by decide)) (by decide) rfl (fun ls hl => ?_)
        refine lv_goto (tgt := 114) hx hb dn_M_dependsOnItself_224 (by decide) ?_
        exact hk_114 x1 x2 x3 x4 x6 ((x7 + 3)) s hf H locs ls hP hD hS (lv_sub hl [2, 3, 4, 5, 6, 7, 0] rfl)
      · have hf := (if_neg h).symm.trans hf
        refine lv_aload_n hx hb dn_M_dependsOnItself_192 rfl (lv_at hl 1 rfl) ?_
        refine va_get (D := (dC, dI)) (ci := 0) (v := .ref ((a 73))) (C := rn_M) (T := fn_M) (N := 91) hx hb hg in_M hown hK hP 0 rfl rfl 73 (by decide) (hg _ wn_8_146) (fun _ h9 => h9) rfl dn_M_dependsOnItself_193 ?_
        refine lv_iload hx hb dn_M_dependsOnItself_196 (lv_at hl 0 rfl) ?_
        obtain ⟨hg_1, hf⟩ := dc_g hf
        refine va_zald hx hb hK hP 52 3 rfl rfl hg_1 dn_M_dependsOnItself_198 ?_
        refine xk_ti (y := ((s.1 73) (Int32.toNatClampNeg t0))) rfl ?_
        refine lv_if_ne (tgt := 221) hx hb dn_M_dependsOnItself_199 (by decide) (fun h => ?_) (fun h => ?_)
        · have hf := (if_neg h).symm.trans hf
          refine lv_iinc (v := (x7 + 3)) (lv' := [(7, .int ((x7 + 3))), (8, .int t0), (0, .ref h0), (1, .int x1), (2, .int x2), (3, .int x3), (4, .int x4), (6, .int x6)]) hx hb dn_M_dependsOnItself_221 hl (k := 7) rfl (dc_inc (by decide)) (by decide) rfl (fun ls hl => ?_)
          refine lv_goto (tgt := 114) hx hb dn_M_dependsOnItself_224 (by decide) ?_
          exact hk_114 x1 x2 x3 x4 x6 ((x7 + 3)) s hf H locs ls hP hD hS (lv_sub hl [2, 3, 4, 5, 6, 7, 0] rfl)
        · have hf := (if_pos h).symm.trans hf
          refine lv_aload_n hx hb dn_M_dependsOnItself_202 rfl (lv_at hl 1 rfl) ?_
          refine va_get (D := (dC, dI)) (ci := 0) (v := .ref ((a 73))) (C := rn_M) (T := fn_M) (N := 91) hx hb hg in_M hown hK hP 0 rfl rfl 73 (by decide) (hg _ wn_8_146) (fun _ h9 => h9) rfl dn_M_dependsOnItself_203 ?_
          refine lv_iload hx hb dn_M_dependsOnItself_206 (lv_at hl 0 rfl) ?_
          refine lv_iconst (v := 1) hx hb dn_M_dependsOnItself_208 (by decide) ?_
          obtain ⟨hg_2, hf⟩ := dc_g hf
          refine va_zast hx hb hK hP hD hS 52 3 rfl rfl hg_2 dn_M_dependsOnItself_209 (fun H locs hP hD hS => ?_)
          have hP : va_P (dC, dI) xcl ((wM h0 a cI cB cJ cZ s).set 52 ((a 73), .inl (cZ, 1100, .inl (upd (s.1 73) (Int32.toNatClampNeg t0) (vp_nar .boolean 1))))) H := hP
          have hD : va_D A ((wM h0 a cI cB cJ cZ s).set 52 ((a 73), .inl (cZ, 1100, .inl (upd (s.1 73) (Int32.toNatClampNeg t0) (vp_nar .boolean 1))))) := hD
          have hP := wM_P_73 hP
          have hD := wM_D_73 hD
          refine lv_aload_n hx hb dn_M_dependsOnItself_210 rfl (lv_at hl 1 rfl) ?_
          refine va_get (D := (dC, dI)) (ci := 0) (v := .ref ((a 74))) (C := rn_M) (T := fn_M) (N := 91) hx hb hg in_M hown hK hP 0 rfl rfl 74 (by decide) (hg _ wn_8_147) (fun _ h9 => h9) rfl dn_M_dependsOnItself_211 ?_
          refine lv_iload_n hx hb dn_M_dependsOnItself_214 rfl (lv_at hl 3 rfl) ?_
          refine lv_iload hx hb dn_M_dependsOnItself_215 (lv_at hl 0 rfl) ?_
          obtain ⟨hg_3, hf⟩ := dc_g hf
          refine va_iast hx hb hK hP hD hS 53 0 rfl rfl hg_3 dn_M_dependsOnItself_217 (fun H locs hP hD hS => ?_)
          have hP : va_P (dC, dI) xcl ((wM h0 a cI cB cJ cZ (upI s 73 (upd (s.1 73) (Int32.toNatClampNeg t0) (vp_nar .boolean 1)))).set 53 ((a 74), .inl (cI, 1100, .inl (upd (s.1 74) (Int32.toNatClampNeg x2) t0)))) H := hP
          have hD : va_D A ((wM h0 a cI cB cJ cZ (upI s 73 (upd (s.1 73) (Int32.toNatClampNeg t0) (vp_nar .boolean 1)))).set 53 ((a 74), .inl (cI, 1100, .inl (upd (s.1 74) (Int32.toNatClampNeg x2) t0)))) := hD
          have hP := wM_P_74 hP
          have hD := wM_D_74 hD
          refine lv_iinc (v := (x2 + 1)) (lv' := [(2, .int ((x2 + 1))), (8, .int t0), (0, .ref h0), (1, .int x1), (3, .int x3), (4, .int x4), (6, .int x6), (7, .int x7)]) hx hb dn_M_dependsOnItself_218 hl (k := 3) rfl (dc_inc (by decide)) (by decide) rfl (fun ls hl => ?_)
          refine lv_iinc (v := (x7 + 3)) (lv' := [(7, .int ((x7 + 3))), (2, .int ((x2 + 1))), (8, .int t0), (0, .ref h0), (1, .int x1), (3, .int x3), (4, .int x4), (6, .int x6)]) hx hb dn_M_dependsOnItself_221 hl (k := 7) rfl (dc_inc (by decide)) (by decide) rfl (fun ls hl => ?_)
          refine lv_goto (tgt := 114) hx hb dn_M_dependsOnItself_224 (by decide) ?_
          exact hk_114 x1 ((x2 + 1)) x3 x4 x6 ((x7 + 3)) (upI (upI s 73 (upd (s.1 73) (Int32.toNatClampNeg t0) (vp_nar .boolean 1))) 74 (upd (s.1 74) (Int32.toNatClampNeg x2) t0)) hf H locs ls hP hD hS (lv_sub hl [3, 4, 1, 5, 6, 7, 0] rfl)
    · have hf := (if_pos h).symm.trans hf
      refine lv_iconst (v := 1) hx hb dn_M_dependsOnItself_185 (by decide) ?_
      rw [hQQ, ← Option.some.inj hf]
      exact xk_zret (w1 := fun u : Unit => (wM h0 a cI cB cJ cZ s)) () hx hb hr rfl hlocks hK hS dn_M_dependsOnItself_186 hP hD rfl (Nat.le_refl _) (Nat.le_refl _)
  have hd_114 : ∀ (k_34 : Int32 → Int32 → Int32 → ms → Option (Int32 × ms)) (hk_34 : ∀ (x1 : Int32) (x2 : Int32) (x3 : Int32) (s : ms), k_34 x1 x2 x3 s = some y → dcC p l e ({ frames := 1, cells := 0, slots := 0, locals := 22 }) s0 m [.ref h0, .int v1].toArray below meth c QQ (dC, dI) A (wM h0 a cI cB cJ cZ s) 34 9 [(0, .ref h0), (1, .int x1), (2, .int x2), (3, .int x3)] []) (n : Nat) (x1 : Int32) (x2 : Int32) (x3 : Int32) (x4 : Int32) (x6 : Int32) (x7 : Int32) (s : ms), hd_M_dependsOnItself_114 N k_34 n x1 x2 x3 x4 x6 x7 s = some y → dcC p l e ({ frames := 1, cells := 0, slots := 0, locals := 22 }) s0 m [.ref h0, .int v1].toArray below meth c QQ (dC, dI) A (wM h0 a cI cB cJ cZ s) 114 9 [(0, .ref h0), (1, .int x1), (2, .int x2), (3, .int x3), (4, .int x4), (6, .int x6), (7, .int x7)] [] := by
    intro k_34 hk_34 n
    induction n with
    | zero => intro x1 x2 x3 x4 x6 x7 s hf; cases hf
    | succ n ih =>
      intro x1 x2 x3 x4 x6 x7 s hf H locs ls hP hD hS hl
      have hf : bd_M_dependsOnItself_114 N k_34 (hd_M_dependsOnItself_114 N k_34 n) x1 x2 x3 x4 x6 x7 s = some y := hf
      have hk_114 := ih
      generalize hd_M_dependsOnItself_114 N k_34 n = k_114 at hf hk_114
      unfold bd_M_dependsOnItself_114 at hf
      refine lv_iload hx hb dn_M_dependsOnItself_114 (lv_at hl 6 rfl) ?_
      refine lv_iload hx hb dn_M_dependsOnItself_116 (lv_at hl 5 rfl) ?_
      refine lv_icmp_ge (tgt := 227) hx hb dn_M_dependsOnItself_118 (by decide) (fun h => ?_) (fun h => ?_)
      · have hf := (if_pos h).symm.trans hf
        refine lv_iinc (v := (x3 + 1)) (lv' := [(3, .int ((x3 + 1))), (0, .ref h0), (1, .int x1), (2, .int x2), (4, .int x4), (6, .int x6), (7, .int x7)]) hx hb dn_M_dependsOnItself_227 hl (k := 3) rfl (dc_inc (by decide)) (by decide) rfl (fun ls hl => ?_)
        refine lv_goto (tgt := 34) hx hb dn_M_dependsOnItself_230 (by decide) ?_
        exact hk_34 x1 x2 ((x3 + 1)) s hf H locs ls hP hD hS (lv_sub hl [1, 2, 3, 0] rfl)
      · have hf := (if_neg h).symm.trans hf
        refine lv_aload_n hx hb dn_M_dependsOnItself_121 rfl (lv_at hl 0 rfl) ?_
        refine va_get (D := (dC, dI)) (ci := 0) (v := .ref ((a 66))) (C := rn_M) (T := fn_M) (N := 91) hx hb hg in_M hown hK hP 0 rfl rfl 66 (by decide) (hg _ wn_8_139) (fun _ h9 => h9) rfl dn_M_dependsOnItself_122 ?_
        refine lv_iload hx hb dn_M_dependsOnItself_125 (lv_at hl 4 rfl) ?_
        obtain ⟨hg_1, hf⟩ := dc_g hf
        refine va_iald hx hb hK hP 46 0 rfl rfl hg_1 dn_M_dependsOnItself_127 ?_
        refine xk_ti (y := ((s.1 66) (Int32.toNatClampNeg x4))) rfl ?_
        refine lv_iconst (v := 2) hx hb dn_M_dependsOnItself_128 (by decide) ?_
        refine lv_icmp_ne (tgt := 142) hx hb dn_M_dependsOnItself_129 (by decide) (fun h => ?_) (fun h => ?_)
        · have hf := (if_neg h).symm.trans hf
          refine lv_aload_n hx hb dn_M_dependsOnItself_142 rfl (lv_at hl 0 rfl) ?_
          refine va_get (D := (dC, dI)) (ci := 0) (v := .ref ((a 41))) (C := rn_M) (T := fn_M) (N := 91) hx hb hg in_M hown hK hP 0 rfl rfl 41 (by decide) (hg _ wn_8_114) (fun _ h9 => h9) rfl dn_M_dependsOnItself_143 ?_
          refine lv_iload hx hb dn_M_dependsOnItself_146 (lv_at hl 6 rfl) ?_
          obtain ⟨hg_2, hf⟩ := dc_g hf
          refine va_iald hx hb hK hP 28 0 rfl rfl hg_2 dn_M_dependsOnItself_148 ?_
          refine xk_ti (y := ((s.1 41) (Int32.toNatClampNeg x7))) rfl ?_
          refine lv_iconst (v := 1) hx hb dn_M_dependsOnItself_149 (by decide) ?_
          refine lv_icmp_ne (tgt := 176) hx hb dn_M_dependsOnItself_150 (by decide) (fun h => ?_) (fun h => ?_)
          · have hf := (if_neg h).symm.trans hf
            refine lv_iconst (v := (-1)) hx hb dn_M_dependsOnItself_176 (by decide) ?_
            exact bl_177 k_34 hk_34 k_114 hk_114 x1 x2 x3 x4 x6 x7 ((-1)) s hf H locs ls hP hD hS hl
          · have hf := (if_pos h).symm.trans hf
            refine lv_aload_n hx hb dn_M_dependsOnItself_153 rfl (lv_at hl 0 rfl) ?_
            refine lv_aload_n hx hb dn_M_dependsOnItself_154 rfl (lv_at hl 0 rfl) ?_
            refine va_get (D := (dC, dI)) (ci := 0) (v := .ref ((a 69))) (C := rn_M) (T := fn_M) (N := 91) hx hb hg in_M hown hK hP 0 rfl rfl 69 (by decide) (hg _ wn_8_142) (fun _ h9 => h9) rfl dn_M_dependsOnItself_155 ?_
            refine lv_iload hx hb dn_M_dependsOnItself_158 (lv_at hl 4 rfl) ?_
            obtain ⟨hg_3, hf⟩ := dc_g hf
            refine va_iald hx hb hK hP 49 0 rfl rfl hg_3 dn_M_dependsOnItself_160 ?_
            refine xk_ti (y := ((s.1 69) (Int32.toNatClampNeg x4))) rfl ?_
            refine lv_aload_n hx hb dn_M_dependsOnItself_161 rfl (lv_at hl 0 rfl) ?_
            refine va_get (D := (dC, dI)) (ci := 0) (v := .ref ((a 41))) (C := rn_M) (T := fn_M) (N := 91) hx hb hg in_M hown hK hP 0 rfl rfl 41 (by decide) (hg _ wn_8_114) (fun _ h9 => h9) rfl dn_M_dependsOnItself_162 ?_
            refine lv_iload hx hb dn_M_dependsOnItself_165 (lv_at hl 6 rfl) ?_
            refine lv_iconst (v := 1) hx hb dn_M_dependsOnItself_167 (by decide) ?_
            refine lv_iadd hx hb dn_M_dependsOnItself_168 ?_
            obtain ⟨hg_4, hf⟩ := dc_g hf
            refine va_iald hx hb hK hP 28 0 rfl rfl hg_4 dn_M_dependsOnItself_169 ?_
            refine xk_ti (y := ((s.1 41) (Int32.toNatClampNeg ((x7 + 1))))) rfl ?_
            obtain ⟨q_5, hc_6, hf⟩ := dc_b hf
            refine dc_calli (dc_runV (ar := 2) (As := [.int (((s.1 69) (Int32.toNatClampNeg x4))), .int (((s.1 41) (Int32.toNatClampNeg ((x7 + 1)))))]) (rest := []) (ci := 0) (q0 := 0) ⟨hx, hb, hml, hown, hg⟩ hK hN hT hS hA (ct_M_signalOf l dC dI cI cB cJ cZ cQ N H.size h0 a (((s.1 69) (Int32.toNatClampNeg x4))) (((s.1 41) (Int32.toNatClampNeg ((x7 + 1))))) s q_5 hc_6) hP hD rfl rfl wn_10_185 wn_10_187 sn_M_signalOf wn_1_13 wn_10_188 rfl rfl (by decide +kernel) ⟨Nat.le_of_ble_eq_true rfl, Nat.le_of_ble_eq_true rfl⟩ rfl hl.1 rfl (Nat.le_of_ble_eq_true rfl) dn_M_dependsOnItself_170 ⟨Nat.le_of_ble_eq_true rfl, Nat.le_of_ble_eq_true rfl⟩) hP hD hS hA (fun r_7 _ H locs hw hP hD hS => ?_)
            have hw : r_7 = q_5.1 := hw
            subst hw
            refine lv_goto (tgt := 177) hx hb dn_M_dependsOnItself_173 (by decide) ?_
            exact bl_177 k_34 hk_34 k_114 hk_114 x1 x2 x3 x4 x6 x7 q_5.1 q_5.2 hf H locs ls hP hD hS hl
        · have hf := (if_pos h).symm.trans hf
          refine lv_aload_n hx hb dn_M_dependsOnItself_132 rfl (lv_at hl 0 rfl) ?_
          refine va_get (D := (dC, dI)) (ci := 0) (v := .ref ((a 67))) (C := rn_M) (T := fn_M) (N := 91) hx hb hg in_M hown hK hP 0 rfl rfl 67 (by decide) (hg _ wn_8_140) (fun _ h9 => h9) rfl dn_M_dependsOnItself_133 ?_
          refine lv_iload hx hb dn_M_dependsOnItself_136 (lv_at hl 4 rfl) ?_
          obtain ⟨hg_2, hf⟩ := dc_g hf
          refine va_iald hx hb hK hP 47 0 rfl rfl hg_2 dn_M_dependsOnItself_138 ?_
          refine xk_ti (y := ((s.1 67) (Int32.toNatClampNeg x4))) rfl ?_
          refine lv_goto (tgt := 177) hx hb dn_M_dependsOnItself_139 (by decide) ?_
          exact bl_177 k_34 hk_34 k_114 hk_114 x1 x2 x3 x4 x6 x7 (((s.1 67) (Int32.toNatClampNeg x4))) s hf H locs ls hP hD hS hl
  have bl_69 : ∀ (k_34 : Int32 → Int32 → Int32 → ms → Option (Int32 × ms)) (hk_34 : ∀ (x1 : Int32) (x2 : Int32) (x3 : Int32) (s : ms), k_34 x1 x2 x3 s = some y → dcC p l e ({ frames := 1, cells := 0, slots := 0, locals := 22 }) s0 m [.ref h0, .int v1].toArray below meth c QQ (dC, dI) A (wM h0 a cI cB cJ cZ s) 34 9 [(0, .ref h0), (1, .int x1), (2, .int x2), (3, .int x3)] []) (x1 : Int32) (x2 : Int32) (x3 : Int32) (x4 : Int32) (t0 : Int32) (s : ms), bk_M_dependsOnItself_69 N k_34 x1 x2 x3 x4 t0 s = some y → dcC p l e ({ frames := 1, cells := 0, slots := 0, locals := 22 }) s0 m [.ref h0, .int v1].toArray below meth c QQ (dC, dI) A (wM h0 a cI cB cJ cZ s) 69 9 [(0, .ref h0), (1, .int x1), (2, .int x2), (3, .int x3), (4, .int x4)] [.int t0] := by
    intro k_34 hk_34 x1 x2 x3 x4 t0 s hf H locs ls hP hD hS hl
    unfold bk_M_dependsOnItself_69 at hf
    refine lv_istore (lv' := [(5, .int t0), (0, .ref h0), (1, .int x1), (2, .int x2), (3, .int x3), (4, .int x4)]) hx hb dn_M_dependsOnItself_69 hl (by decide) rfl (fun ls hl => ?_)
    refine lv_aload_n hx hb dn_M_dependsOnItself_71 rfl (lv_at hl 1 rfl) ?_
    refine va_get (D := (dC, dI)) (ci := 0) (v := .ref ((a 66))) (C := rn_M) (T := fn_M) (N := 91) hx hb hg in_M hown hK hP 0 rfl rfl 66 (by decide) (hg _ wn_8_139) (fun _ h9 => h9) rfl dn_M_dependsOnItself_72 ?_
    refine lv_iload hx hb dn_M_dependsOnItself_75 (lv_at hl 5 rfl) ?_
    obtain ⟨hg_1, hf⟩ := dc_g hf
    refine va_iald hx hb hK hP 46 0 rfl rfl hg_1 dn_M_dependsOnItself_77 ?_
    refine xk_ti (y := ((s.1 66) (Int32.toNatClampNeg x4))) rfl ?_
    refine lv_iconst (v := 1) hx hb dn_M_dependsOnItself_78 (by decide) ?_
    refine lv_icmp_ne (tgt := 92) hx hb dn_M_dependsOnItself_79 (by decide) (fun h => ?_) (fun h => ?_)
    · have hf := (if_neg h).symm.trans hf
      refine lv_aload_n hx hb dn_M_dependsOnItself_92 rfl (lv_at hl 1 rfl) ?_
      refine va_get (D := (dC, dI)) (ci := 0) (v := .ref ((a 66))) (C := rn_M) (T := fn_M) (N := 91) hx hb hg in_M hown hK hP 0 rfl rfl 66 (by decide) (hg _ wn_8_139) (fun _ h9 => h9) rfl dn_M_dependsOnItself_93 ?_
      refine lv_iload hx hb dn_M_dependsOnItself_96 (lv_at hl 5 rfl) ?_
      obtain ⟨hg_2, hf⟩ := dc_g hf
      refine va_iald hx hb hK hP 46 0 rfl rfl hg_2 dn_M_dependsOnItself_98 ?_
      refine xk_ti (y := ((s.1 66) (Int32.toNatClampNeg x4))) rfl ?_
      refine lv_iconst (v := 2) hx hb dn_M_dependsOnItself_99 (by decide) ?_
      refine lv_icmp_ne (tgt := 107) hx hb dn_M_dependsOnItself_100 (by decide) (fun h => ?_) (fun h => ?_)
      · have hf := (if_neg h).symm.trans hf
        refine lv_iconst (v := 0) hx hb dn_M_dependsOnItself_107 (by decide) ?_
        refine lv_istore (lv' := [(6, .int 0), (5, .int t0), (0, .ref h0), (1, .int x1), (2, .int x2), (3, .int x3), (4, .int x4)]) hx hb dn_M_dependsOnItself_108 hl (by decide) rfl (fun ls hl => ?_)
        refine lv_iload hx hb dn_M_dependsOnItself_110 (lv_at hl 1 rfl) ?_
        refine lv_istore (lv' := [(7, .int t0), (6, .int 0), (5, .int t0), (0, .ref h0), (1, .int x1), (2, .int x2), (3, .int x3), (4, .int x4)]) hx hb dn_M_dependsOnItself_112 hl (by decide) rfl (fun ls hl => ?_)
        exact hd_114 k_34 hk_34 N x1 x2 x3 x4 0 t0 s hf H locs ls hP hD hS (lv_sub hl [3, 4, 5, 6, 7, 1, 0] rfl)
      · have hf := (if_pos h).symm.trans hf
        refine lv_iconst (v := 3) hx hb dn_M_dependsOnItself_103 (by decide) ?_
        refine lv_goto (tgt := 108) hx hb dn_M_dependsOnItself_104 (by decide) ?_
        refine lv_istore (lv' := [(6, .int 3), (5, .int t0), (0, .ref h0), (1, .int x1), (2, .int x2), (3, .int x3), (4, .int x4)]) hx hb dn_M_dependsOnItself_108 hl (by decide) rfl (fun ls hl => ?_)
        refine lv_iload hx hb dn_M_dependsOnItself_110 (lv_at hl 1 rfl) ?_
        refine lv_istore (lv' := [(7, .int t0), (6, .int 3), (5, .int t0), (0, .ref h0), (1, .int x1), (2, .int x2), (3, .int x3), (4, .int x4)]) hx hb dn_M_dependsOnItself_112 hl (by decide) rfl (fun ls hl => ?_)
        exact hd_114 k_34 hk_34 N x1 x2 x3 x4 3 t0 s hf H locs ls hP hD hS (lv_sub hl [3, 4, 5, 6, 7, 1, 0] rfl)
    · have hf := (if_pos h).symm.trans hf
      refine lv_aload_n hx hb dn_M_dependsOnItself_82 rfl (lv_at hl 1 rfl) ?_
      refine va_get (D := (dC, dI)) (ci := 0) (v := .ref ((a 68))) (C := rn_M) (T := fn_M) (N := 91) hx hb hg in_M hown hK hP 0 rfl rfl 68 (by decide) (hg _ wn_8_141) (fun _ h9 => h9) rfl dn_M_dependsOnItself_83 ?_
      refine lv_iload hx hb dn_M_dependsOnItself_86 (lv_at hl 5 rfl) ?_
      obtain ⟨hg_2, hf⟩ := dc_g hf
      refine va_iald hx hb hK hP 48 0 rfl rfl hg_2 dn_M_dependsOnItself_88 ?_
      refine xk_ti (y := ((s.1 68) (Int32.toNatClampNeg x4))) rfl ?_
      refine lv_goto (tgt := 108) hx hb dn_M_dependsOnItself_89 (by decide) ?_
      refine lv_istore (lv' := [(6, .int (((s.1 68) (Int32.toNatClampNeg x4)))), (5, .int t0), (0, .ref h0), (1, .int x1), (2, .int x2), (3, .int x3), (4, .int x4)]) hx hb dn_M_dependsOnItself_108 hl (by decide) rfl (fun ls hl => ?_)
      refine lv_iload hx hb dn_M_dependsOnItself_110 (lv_at hl 1 rfl) ?_
      refine lv_istore (lv' := [(7, .int t0), (6, .int (((s.1 68) (Int32.toNatClampNeg x4)))), (5, .int t0), (0, .ref h0), (1, .int x1), (2, .int x2), (3, .int x3), (4, .int x4)]) hx hb dn_M_dependsOnItself_112 hl (by decide) rfl (fun ls hl => ?_)
      exact hd_114 k_34 hk_34 N x1 x2 x3 x4 (((s.1 68) (Int32.toNatClampNeg x4))) t0 s hf H locs ls hP hD hS (lv_sub hl [3, 4, 5, 6, 7, 1, 0] rfl)
  have hd_34 : ∀ (n : Nat) (x1 : Int32) (x2 : Int32) (x3 : Int32) (s : ms), hd_M_dependsOnItself_34 N n x1 x2 x3 s = some y → dcC p l e ({ frames := 1, cells := 0, slots := 0, locals := 22 }) s0 m [.ref h0, .int v1].toArray below meth c QQ (dC, dI) A (wM h0 a cI cB cJ cZ s) 34 9 [(0, .ref h0), (1, .int x1), (2, .int x2), (3, .int x3)] [] := by
    intro n
    induction n with
    | zero => intro x1 x2 x3 s hf; cases hf
    | succ n ih =>
      intro x1 x2 x3 s hf H locs ls hP hD hS hl
      have hf : bd_M_dependsOnItself_34 N (hd_M_dependsOnItself_34 N n) x1 x2 x3 s = some y := hf
      have hk_34 := ih
      generalize hd_M_dependsOnItself_34 N n = k_34 at hf hk_34
      unfold bd_M_dependsOnItself_34 at hf
      refine lv_iload_n hx hb dn_M_dependsOnItself_34 rfl (lv_at hl 3 rfl) ?_
      refine lv_iload_n hx hb dn_M_dependsOnItself_35 rfl (lv_at hl 2 rfl) ?_
      refine lv_icmp_ge (tgt := 233) hx hb dn_M_dependsOnItself_36 (by decide) (fun h => ?_) (fun h => ?_)
      · have hf := (if_pos h).symm.trans hf
        refine lv_iconst (v := 0) hx hb dn_M_dependsOnItself_233 (by decide) ?_
        rw [hQQ, ← Option.some.inj hf]
        exact xk_zret (w1 := fun u : Unit => (wM h0 a cI cB cJ cZ s)) () hx hb hr rfl hlocks hK hS dn_M_dependsOnItself_234 hP hD rfl (Nat.le_refl _) (Nat.le_refl _)
      · have hf := (if_neg h).symm.trans hf
        refine lv_aload_n hx hb dn_M_dependsOnItself_39 rfl (lv_at hl 0 rfl) ?_
        refine va_get (D := (dC, dI)) (ci := 0) (v := .ref ((a 74))) (C := rn_M) (T := fn_M) (N := 91) hx hb hg in_M hown hK hP 0 rfl rfl 74 (by decide) (hg _ wn_8_147) (fun _ h9 => h9) rfl dn_M_dependsOnItself_40 ?_
        refine lv_iload_n hx hb dn_M_dependsOnItself_43 rfl (lv_at hl 3 rfl) ?_
        obtain ⟨hg_1, hf⟩ := dc_g hf
        refine va_iald hx hb hK hP 53 0 rfl rfl hg_1 dn_M_dependsOnItself_44 ?_
        refine xk_ti (y := ((s.1 74) (Int32.toNatClampNeg x3))) rfl ?_
        refine lv_istore (lv' := [(4, .int (((s.1 74) (Int32.toNatClampNeg x3)))), (0, .ref h0), (1, .int x1), (2, .int x2), (3, .int x3)]) hx hb dn_M_dependsOnItself_45 hl (by decide) rfl (fun ls hl => ?_)
        refine lv_aload_n hx hb dn_M_dependsOnItself_47 rfl (lv_at hl 1 rfl) ?_
        refine va_get (D := (dC, dI)) (ci := 0) (v := .ref ((a 66))) (C := rn_M) (T := fn_M) (N := 91) hx hb hg in_M hown hK hP 0 rfl rfl 66 (by decide) (hg _ wn_8_139) (fun _ h9 => h9) rfl dn_M_dependsOnItself_48 ?_
        refine lv_iload hx hb dn_M_dependsOnItself_51 (lv_at hl 0 rfl) ?_
        obtain ⟨hg_2, hf⟩ := dc_g hf
        refine va_iald hx hb hK hP 46 0 rfl rfl hg_2 dn_M_dependsOnItself_53 ?_
        refine xk_ti (y := ((s.1 66) (Int32.toNatClampNeg (((s.1 74) (Int32.toNatClampNeg x3)))))) rfl ?_
        refine lv_iconst (v := 1) hx hb dn_M_dependsOnItself_54 (by decide) ?_
        refine lv_icmp_ne (tgt := 68) hx hb dn_M_dependsOnItself_55 (by decide) (fun h => ?_) (fun h => ?_)
        · have hf := (if_neg h).symm.trans hf
          refine lv_iconst (v := 0) hx hb dn_M_dependsOnItself_68 (by decide) ?_
          exact bl_69 k_34 hk_34 x1 x2 x3 (((s.1 74) (Int32.toNatClampNeg x3))) 0 s hf H locs ls hP hD hS (lv_sub hl [1, 2, 3, 4, 0] rfl)
        · have hf := (if_pos h).symm.trans hf
          refine lv_aload_n hx hb dn_M_dependsOnItself_58 rfl (lv_at hl 1 rfl) ?_
          refine va_get (D := (dC, dI)) (ci := 0) (v := .ref ((a 67))) (C := rn_M) (T := fn_M) (N := 91) hx hb hg in_M hown hK hP 0 rfl rfl 67 (by decide) (hg _ wn_8_140) (fun _ h9 => h9) rfl dn_M_dependsOnItself_59 ?_
          refine lv_iload hx hb dn_M_dependsOnItself_62 (lv_at hl 0 rfl) ?_
          obtain ⟨hg_3, hf⟩ := dc_g hf
          refine va_iald hx hb hK hP 47 0 rfl rfl hg_3 dn_M_dependsOnItself_64 ?_
          refine xk_ti (y := ((s.1 67) (Int32.toNatClampNeg (((s.1 74) (Int32.toNatClampNeg x3)))))) rfl ?_
          refine lv_goto (tgt := 69) hx hb dn_M_dependsOnItself_65 (by decide) ?_
          exact bl_69 k_34 hk_34 x1 x2 x3 (((s.1 74) (Int32.toNatClampNeg x3))) (((s.1 67) (Int32.toNatClampNeg (((s.1 74) (Int32.toNatClampNeg x3)))))) s hf H locs ls hP hD hS (lv_sub hl [1, 2, 3, 4, 0] rfl)
  have hd_2 : ∀ (n : Nat) (x1 : Int32) (x2 : Int32) (s : ms), hd_M_dependsOnItself_2 N n x1 x2 s = some y → dcC p l e ({ frames := 1, cells := 0, slots := 0, locals := 22 }) s0 m [.ref h0, .int v1].toArray below meth c QQ (dC, dI) A (wM h0 a cI cB cJ cZ s) 2 9 [(0, .ref h0), (1, .int x1), (2, .int x2)] [] := by
    intro n
    induction n with
    | zero => intro x1 x2 s hf; cases hf
    | succ n ih =>
      intro x1 x2 s hf H locs ls hP hD hS hl
      have hf : bd_M_dependsOnItself_2 N (hd_M_dependsOnItself_2 N n) x1 x2 s = some y := hf
      have hk_2 := ih
      generalize hd_M_dependsOnItself_2 N n = k_2 at hf hk_2
      unfold bd_M_dependsOnItself_2 at hf
      refine lv_iload_n hx hb dn_M_dependsOnItself_2 rfl (lv_at hl 2 rfl) ?_
      refine lv_aload_n hx hb dn_M_dependsOnItself_3 rfl (lv_at hl 0 rfl) ?_
      refine va_get (D := (dC, dI)) (ci := 0) (v := .int ((s.1 63 0))) (C := rn_M) (T := fn_M) (N := 91) hx hb hg in_M hown hK hP 0 rfl rfl 63 (by decide) (hg _ wn_8_136) (fun _ h9 => h9) rfl dn_M_dependsOnItself_4 ?_
      refine lv_icmp_ge (tgt := 23) hx hb dn_M_dependsOnItself_7 (by decide) (fun h => ?_) (fun h => ?_)
      · have hf := (if_pos h).symm.trans hf
        refine lv_iconst (v := 1) hx hb dn_M_dependsOnItself_23 (by decide) ?_
        refine lv_istore_n (lv' := [(2, .int 1), (0, .ref h0), (1, .int x1)]) hx hb dn_M_dependsOnItself_24 rfl hl (by decide) rfl (fun ls hl => ?_)
        refine lv_aload_n hx hb dn_M_dependsOnItself_25 rfl (lv_at hl 1 rfl) ?_
        refine va_get (D := (dC, dI)) (ci := 0) (v := .ref ((a 74))) (C := rn_M) (T := fn_M) (N := 91) hx hb hg in_M hown hK hP 0 rfl rfl 74 (by decide) (hg _ wn_8_147) (fun _ h9 => h9) rfl dn_M_dependsOnItself_26 ?_
        refine lv_iconst (v := 0) hx hb dn_M_dependsOnItself_29 (by decide) ?_
        refine lv_iload_n hx hb dn_M_dependsOnItself_30 rfl (lv_at hl 2 rfl) ?_
        refine va_iast hx hb hK hP hD hS 53 0 rfl rfl (show ¬ (_ ∨ _) by decide) dn_M_dependsOnItself_31 (fun H locs hP hD hS => ?_)
        have hP : va_P (dC, dI) xcl ((wM h0 a cI cB cJ cZ s).set 53 ((a 74), .inl (cI, 1100, .inl (upd (s.1 74) 0 x1)))) H := hP
        have hD : va_D A ((wM h0 a cI cB cJ cZ s).set 53 ((a 74), .inl (cI, 1100, .inl (upd (s.1 74) 0 x1)))) := hD
        have hP := wM_P_74 hP
        have hD := wM_D_74 hD
        refine lv_iconst (v := 0) hx hb dn_M_dependsOnItself_32 (by decide) ?_
        refine lv_istore_n (lv' := [(3, .int 0), (2, .int 1), (0, .ref h0), (1, .int x1)]) hx hb dn_M_dependsOnItself_33 rfl hl (by decide) rfl (fun ls hl => ?_)
        exact hd_34 N x1 1 0 (upI s 74 (upd (s.1 74) 0 x1)) hf H locs ls hP hD hS (lv_sub hl [2, 3, 1, 0] rfl)
      · have hf := (if_neg h).symm.trans hf
        refine lv_aload_n hx hb dn_M_dependsOnItself_10 rfl (lv_at hl 0 rfl) ?_
        refine va_get (D := (dC, dI)) (ci := 0) (v := .ref ((a 73))) (C := rn_M) (T := fn_M) (N := 91) hx hb hg in_M hown hK hP 0 rfl rfl 73 (by decide) (hg _ wn_8_146) (fun _ h9 => h9) rfl dn_M_dependsOnItself_11 ?_
        refine lv_iload_n hx hb dn_M_dependsOnItself_14 rfl (lv_at hl 2 rfl) ?_
        refine lv_iconst (v := 0) hx hb dn_M_dependsOnItself_15 (by decide) ?_
        obtain ⟨hg_1, hf⟩ := dc_g hf
        refine va_zast hx hb hK hP hD hS 52 3 rfl rfl hg_1 dn_M_dependsOnItself_16 (fun H locs hP hD hS => ?_)
        have hP : va_P (dC, dI) xcl ((wM h0 a cI cB cJ cZ s).set 52 ((a 73), .inl (cZ, 1100, .inl (upd (s.1 73) (Int32.toNatClampNeg x2) (vp_nar .boolean 0))))) H := hP
        have hD : va_D A ((wM h0 a cI cB cJ cZ s).set 52 ((a 73), .inl (cZ, 1100, .inl (upd (s.1 73) (Int32.toNatClampNeg x2) (vp_nar .boolean 0))))) := hD
        have hP := wM_P_73 hP
        have hD := wM_D_73 hD
        refine lv_iinc (v := (x2 + 1)) (lv' := [(2, .int ((x2 + 1))), (0, .ref h0), (1, .int x1)]) hx hb dn_M_dependsOnItself_17 hl (k := 2) rfl (dc_inc (by decide)) (by decide) rfl (fun ls hl => ?_)
        refine lv_goto (tgt := 2) hx hb dn_M_dependsOnItself_20 (by decide) ?_
        exact hk_2 x1 ((x2 + 1)) (upI s 73 (upd (s.1 73) (Int32.toNatClampNeg x2) (vp_nar .boolean 0))) hf H locs ls hP hD hS (lv_sub hl [1, 2, 0] rfl)
  intro H locs ls hP hD hS hl
  unfold fn_M_dependsOnItself at hf
  refine lv_iconst (v := 0) hx hb dn_M_dependsOnItself_0 (by decide) ?_
  refine lv_istore_n (lv' := [(2, .int 0), (0, .ref h0), (1, .int v1)]) hx hb dn_M_dependsOnItself_1 rfl hl (by decide) rfl (fun ls hl => ?_)
  exact hd_2 N v1 0 s hf H locs ls hP hD hS (lv_sub hl [1, 2, 0] rfl)
theorem mo_M_canBe_81 (N : Nat) (k_31 : Int32 → Int32 → Int32 → ms → Option (Int32 × ms)) (y : (Int32 × ms)) (hkm_31 : ∀ (x1 : Int32) (x2 : Int32) (x3 : Int32) (s : ms), k_31 x1 x2 x3 s = some y → gl y.2 = gl s) (x1 : Int32) (x3 : Int32) (s : ms) (hf : bk_M_canBe_81 N k_31 x1 x3 s = some y) : gl y.2 = gl s := by
  unfold bk_M_canBe_81 at hf
  have hm : gl s = gl s := rfl
  exact (hkm_31 x1 1 ((x3 + 3)) s hf).trans hm
theorem mb_M_canBe_31 (N : Nat) (y : (Int32 × ms)) (k_31 : Int32 → Int32 → Int32 → ms → Option (Int32 × ms)) (hkm_31 : ∀ (x1 : Int32) (x2 : Int32) (x3 : Int32) (s : ms), k_31 x1 x2 x3 s = some y → gl y.2 = gl s) (x1 : Int32) (x2 : Int32) (x3 : Int32) (s : ms) (hf : bd_M_canBe_31 N k_31 x1 x2 x3 s = some y) : gl y.2 = gl s := by
  unfold bd_M_canBe_31 at hf
  have hm : gl s = gl s := rfl
  obtain ⟨_, hf⟩ := dc_g hf
  by_cases h : ((s.1 68) (Int32.toNatClampNeg x1)) ≤ x3
  · have hf := (if_pos h).symm.trans hf
    obtain ⟨_, hf⟩ := dc_g hf
    exact (dc_e hf).trans hm
  · have hf := (if_neg h).symm.trans hf
    by_cases h : x2 = 0
    · have hf := (if_pos h).symm.trans hf
      exact (hkm_31 x1 0 ((x3 + 3)) s hf).trans hm
    · have hf := (if_neg h).symm.trans hf
      obtain ⟨_, hf⟩ := dc_g hf
      by_cases h : ((s.1 41) (Int32.toNatClampNeg x3)) = 1
      · have hf := (if_pos h).symm.trans hf
        obtain ⟨_, hf⟩ := dc_g hf
        obtain ⟨_, hf⟩ := dc_g hf
        obtain ⟨q_5, hc_6, hf⟩ := dc_b hf
        have hm := (mn_M_signalOf N (((s.1 69) (Int32.toNatClampNeg x1))) (((s.1 41) (Int32.toNatClampNeg ((x3 + 1))))) s q_5 hc_6).trans hm
        obtain ⟨_, hf⟩ := dc_g hf
        by_cases h : ((q_5.2.1 72) (Int32.toNatClampNeg q_5.1)) = 0
        · have hf := (if_pos h).symm.trans hf
          exact (hkm_31 x1 0 ((x3 + 3)) q_5.2 hf).trans hm
        · have hf := (if_neg h).symm.trans hf
          exact (mo_M_canBe_81 N k_31 y hkm_31 x1 x3 q_5.2 hf).trans hm
      · have hf := (if_neg h).symm.trans hf
        exact (mo_M_canBe_81 N k_31 y hkm_31 x1 x3 s hf).trans hm
theorem mh_M_canBe_31 (N : Nat) (y : (Int32 × ms)) : ∀ (n : Nat) (x1 : Int32) (x2 : Int32) (x3 : Int32) (s : ms), hd_M_canBe_31 N n x1 x2 x3 s = some y → gl y.2 = gl s := by
  intro n
  induction n with
  | zero => intro x1 x2 x3 s hf; cases hf
  | succ n ih => intro x1 x2 x3 s hf; exact mb_M_canBe_31 N y (hd_M_canBe_31 N n) ih x1 x2 x3 s hf
theorem mn_M_canBe (N : Nat) (v1 : Int32) (s : ms) (y : (Int32 × ms)) (hf : fn_M_canBe N v1 s = some y) : gl y.2 = gl s := by
  unfold fn_M_canBe at hf
  have hm : gl s = gl s := rfl
  obtain ⟨_, hf⟩ := dc_g hf
  by_cases h : ((s.1 66) (Int32.toNatClampNeg v1)) = 2
  · have hf := (if_pos h).symm.trans hf
    obtain ⟨_, hf⟩ := dc_g hf
    obtain ⟨_, hf⟩ := dc_g hf
    obtain ⟨_, hf⟩ := dc_g hf
    exact (dc_e hf).trans hm
  · have hf := (if_neg h).symm.trans hf
    obtain ⟨_, hf⟩ := dc_g hf
    exact (mh_M_canBe_31 N y N v1 1 (((s.1 67) (Int32.toNatClampNeg v1))) s hf).trans hm
set_option maxHeartbeats 8000000 in
set_option maxRecDepth 100000 in
theorem ct_M_canBe (l : Launch) (dC : Nat → ClassId) (dI : Nat → Nat → Nat) (cI cB cJ cZ cQ : ClassId) (N sz : Nat) (h0 : Nat) (a : Nat → Nat) (v1 : Int32) (s : ms) (y : (Int32 × ms)) (hf : fn_M_canBe N v1 s = some y) : Met l yn_M_canBe (xw yn_M_canBe bn_M_canBe 4 (some .boolean)) ({ frames := 1, cells := 0, slots := 0, locals := 22 }) (dc_P (dC, dI) xcl (xt cI cB cJ cZ cQ) [.ref h0, .int v1] sz (wM h0 a cI cB cJ cZ s)) (xk_Qi (dC, dI) xcl (xt cI cB cJ cZ cQ) (fun (r : Int32) (_ : Unit) => r = y.1) (fun u : Unit => (wM h0 a cI cB cJ cZ y.2)) (va_A (wM h0 a cI cB cJ cZ s) sz)) 0 0 (va_A (wM h0 a cI cB cJ cZ s) sz) := by
  refine dc_of (QA := xk_Qi (dC, dI) xcl (xt cI cB cJ cZ cQ) (fun (r : Int32) (_ : Unit) => r = y.1) (fun u : Unit => (wM h0 a cI cB cJ cZ y.2))) (by decide) (Nat.le_of_ble_eq_true rfl) ?_
  intro p e s0 m below meth c hx hb hml hown hg hr hlocks hin hP hK hN A hA hD hT ls hl
  have hown : s0.vm.findClass rn_M = some m.cls := hown
  obtain ⟨H, hH⟩ : ∃ z, z = s0.heap := ⟨_, rfl⟩
  rw [← hH] at hP
  have hS : va_S A s0.heap H [] := by rw [hH]; exact va_S.rf
  suffices kk : ∀ QQ : State → Prop, QQ = MQ below (xk_Qi (dC, dI) xcl (xt cI cB cJ cZ cQ) (fun (r : Int32) (_ : Unit) => r = y.1) (fun u : Unit => (wM h0 a cI cB cJ cZ y.2)) A) [.ref h0, .int v1].toArray s0 0 0 A → dcC p l e ({ frames := 1, cells := 0, slots := 0, locals := 22 }) s0 m [.ref h0, .int v1].toArray below meth c QQ (dC, dI) A (wM h0 a cI cB cJ cZ s) 0 4 [(0, .ref h0), (1, .int v1)] [] by
    have k9 := kk _ rfl H [] ls hP hD hS hl
    rw [hH] at k9; exact k9
  clear hP hD hS hl hH H ls
  intro QQ hQQ
  have bl_81 : ∀ (k_31 : Int32 → Int32 → Int32 → ms → Option (Int32 × ms)) (hk_31 : ∀ (x1 : Int32) (x2 : Int32) (x3 : Int32) (s : ms), k_31 x1 x2 x3 s = some y → dcC p l e ({ frames := 1, cells := 0, slots := 0, locals := 22 }) s0 m [.ref h0, .int v1].toArray below meth c QQ (dC, dI) A (wM h0 a cI cB cJ cZ s) 31 4 [(0, .ref h0), (1, .int x1), (2, .int x2), (3, .int x3)] []) (x1 : Int32) (x3 : Int32) (s : ms), bk_M_canBe_81 N k_31 x1 x3 s = some y → dcC p l e ({ frames := 1, cells := 0, slots := 0, locals := 22 }) s0 m [.ref h0, .int v1].toArray below meth c QQ (dC, dI) A (wM h0 a cI cB cJ cZ s) 81 4 [(0, .ref h0), (1, .int x1), (3, .int x3)] [] := by
    intro k_31 hk_31 x1 x3 s hf H locs ls hP hD hS hl
    unfold bk_M_canBe_81 at hf
    refine lv_iconst (v := 1) hx hb dn_M_canBe_81 (by decide) ?_
    refine lv_goto (tgt := 86) hx hb dn_M_canBe_82 (by decide) ?_
    refine lv_istore_n (lv' := [(2, .int 1), (0, .ref h0), (1, .int x1), (3, .int x3)]) hx hb dn_M_canBe_86 rfl hl (by decide) rfl (fun ls hl => ?_)
    refine lv_iinc (v := (x3 + 3)) (lv' := [(3, .int ((x3 + 3))), (2, .int 1), (0, .ref h0), (1, .int x1)]) hx hb dn_M_canBe_87 hl (k := 3) rfl (dc_inc (by decide)) (by decide) rfl (fun ls hl => ?_)
    refine lv_goto (tgt := 31) hx hb dn_M_canBe_90 (by decide) ?_
    exact hk_31 x1 1 ((x3 + 3)) s hf H locs ls hP hD hS (lv_sub hl [2, 3, 1, 0] rfl)
  have hd_31 : ∀ (n : Nat) (x1 : Int32) (x2 : Int32) (x3 : Int32) (s : ms), hd_M_canBe_31 N n x1 x2 x3 s = some y → dcC p l e ({ frames := 1, cells := 0, slots := 0, locals := 22 }) s0 m [.ref h0, .int v1].toArray below meth c QQ (dC, dI) A (wM h0 a cI cB cJ cZ s) 31 4 [(0, .ref h0), (1, .int x1), (2, .int x2), (3, .int x3)] [] := by
    intro n
    induction n with
    | zero => intro x1 x2 x3 s hf; cases hf
    | succ n ih =>
      intro x1 x2 x3 s hf H locs ls hP hD hS hl
      have hf : bd_M_canBe_31 N (hd_M_canBe_31 N n) x1 x2 x3 s = some y := hf
      have hk_31 := ih
      generalize hd_M_canBe_31 N n = k_31 at hf hk_31
      unfold bd_M_canBe_31 at hf
      refine lv_iload_n hx hb dn_M_canBe_31 rfl (lv_at hl 3 rfl) ?_
      refine lv_aload_n hx hb dn_M_canBe_32 rfl (lv_at hl 0 rfl) ?_
      refine va_get (D := (dC, dI)) (ci := 0) (v := .ref ((a 68))) (C := rn_M) (T := fn_M) (N := 91) hx hb hg in_M hown hK hP 0 rfl rfl 68 (by decide) (hg _ wn_8_141) (fun _ h9 => h9) rfl dn_M_canBe_33 ?_
      refine lv_iload_n hx hb dn_M_canBe_36 rfl (lv_at hl 1 rfl) ?_
      obtain ⟨hg_1, hf⟩ := dc_g hf
      refine va_iald hx hb hK hP 48 0 rfl rfl hg_1 dn_M_canBe_37 ?_
      refine xk_ti (y := ((s.1 68) (Int32.toNatClampNeg x1))) rfl ?_
      refine lv_icmp_ge (tgt := 93) hx hb dn_M_canBe_38 (by decide) (fun h => ?_) (fun h => ?_)
      · have hf := (if_pos h).symm.trans hf
        refine lv_iload_n hx hb dn_M_canBe_93 rfl (lv_at hl 2 rfl) ?_
        obtain ⟨hg_2, hf⟩ := dc_g hf
        rw [hQQ, ← Option.some.inj hf]
        exact xk_zret (w1 := fun u : Unit => (wM h0 a cI cB cJ cZ s)) () hx hb hr (dc_z hg_2) hlocks hK hS dn_M_canBe_94 hP hD rfl (Nat.le_refl _) (Nat.le_refl _)
      · have hf := (if_neg h).symm.trans hf
        refine lv_iload_n hx hb dn_M_canBe_41 rfl (lv_at hl 2 rfl) ?_
        refine lv_if_eq (tgt := 85) hx hb dn_M_canBe_42 (by decide) (fun h => ?_) (fun h => ?_)
        · have hf := (if_pos h).symm.trans hf
          refine lv_iconst (v := 0) hx hb dn_M_canBe_85 (by decide) ?_
          refine lv_istore_n (lv' := [(2, .int 0), (0, .ref h0), (1, .int x1), (3, .int x3)]) hx hb dn_M_canBe_86 rfl hl (by decide) rfl (fun ls hl => ?_)
          refine lv_iinc (v := (x3 + 3)) (lv' := [(3, .int ((x3 + 3))), (2, .int 0), (0, .ref h0), (1, .int x1)]) hx hb dn_M_canBe_87 hl (k := 3) rfl (dc_inc (by decide)) (by decide) rfl (fun ls hl => ?_)
          refine lv_goto (tgt := 31) hx hb dn_M_canBe_90 (by decide) ?_
          exact hk_31 x1 0 ((x3 + 3)) s hf H locs ls hP hD hS (lv_sub hl [2, 3, 1, 0] rfl)
        · have hf := (if_neg h).symm.trans hf
          refine lv_aload_n hx hb dn_M_canBe_45 rfl (lv_at hl 0 rfl) ?_
          refine va_get (D := (dC, dI)) (ci := 0) (v := .ref ((a 41))) (C := rn_M) (T := fn_M) (N := 91) hx hb hg in_M hown hK hP 0 rfl rfl 41 (by decide) (hg _ wn_8_114) (fun _ h9 => h9) rfl dn_M_canBe_46 ?_
          refine lv_iload_n hx hb dn_M_canBe_49 rfl (lv_at hl 3 rfl) ?_
          obtain ⟨hg_2, hf⟩ := dc_g hf
          refine va_iald hx hb hK hP 28 0 rfl rfl hg_2 dn_M_canBe_50 ?_
          refine xk_ti (y := ((s.1 41) (Int32.toNatClampNeg x3))) rfl ?_
          refine lv_iconst (v := 1) hx hb dn_M_canBe_51 (by decide) ?_
          refine lv_icmp_ne (tgt := 81) hx hb dn_M_canBe_52 (by decide) (fun h => ?_) (fun h => ?_)
          · have hf := (if_neg h).symm.trans hf
            exact bl_81 k_31 hk_31 x1 x3 s hf H locs ls hP hD hS (lv_sub hl [0, 1, 3] rfl)
          · have hf := (if_pos h).symm.trans hf
            refine lv_aload_n hx hb dn_M_canBe_55 rfl (lv_at hl 0 rfl) ?_
            refine va_get (D := (dC, dI)) (ci := 0) (v := .ref ((a 72))) (C := rn_M) (T := fn_M) (N := 91) hx hb hg in_M hown hK hP 0 rfl rfl 72 (by decide) (hg _ wn_8_145) (fun _ h9 => h9) rfl dn_M_canBe_56 ?_
            refine lv_aload_n hx hb dn_M_canBe_59 rfl (lv_at hl 0 rfl) ?_
            refine lv_aload_n hx hb dn_M_canBe_60 rfl (lv_at hl 0 rfl) ?_
            refine va_get (D := (dC, dI)) (ci := 0) (v := .ref ((a 69))) (C := rn_M) (T := fn_M) (N := 91) hx hb hg in_M hown hK hP 0 rfl rfl 69 (by decide) (hg _ wn_8_142) (fun _ h9 => h9) rfl dn_M_canBe_61 ?_
            refine lv_iload_n hx hb dn_M_canBe_64 rfl (lv_at hl 1 rfl) ?_
            obtain ⟨hg_3, hf⟩ := dc_g hf
            refine va_iald hx hb hK hP 49 0 rfl rfl hg_3 dn_M_canBe_65 ?_
            refine xk_ti (y := ((s.1 69) (Int32.toNatClampNeg x1))) rfl ?_
            refine lv_aload_n hx hb dn_M_canBe_66 rfl (lv_at hl 0 rfl) ?_
            refine va_get (D := (dC, dI)) (ci := 0) (v := .ref ((a 41))) (C := rn_M) (T := fn_M) (N := 91) hx hb hg in_M hown hK hP 0 rfl rfl 41 (by decide) (hg _ wn_8_114) (fun _ h9 => h9) rfl dn_M_canBe_67 ?_
            refine lv_iload_n hx hb dn_M_canBe_70 rfl (lv_at hl 3 rfl) ?_
            refine lv_iconst (v := 1) hx hb dn_M_canBe_71 (by decide) ?_
            refine lv_iadd hx hb dn_M_canBe_72 ?_
            obtain ⟨hg_4, hf⟩ := dc_g hf
            refine va_iald hx hb hK hP 28 0 rfl rfl hg_4 dn_M_canBe_73 ?_
            refine xk_ti (y := ((s.1 41) (Int32.toNatClampNeg ((x3 + 1))))) rfl ?_
            obtain ⟨q_5, hc_6, hf⟩ := dc_b hf
            refine dc_calli (dc_runV (ar := 2) (As := [.int (((s.1 69) (Int32.toNatClampNeg x1))), .int (((s.1 41) (Int32.toNatClampNeg ((x3 + 1)))))]) (rest := [.ref ((a 72))]) (ci := 0) (q0 := 0) ⟨hx, hb, hml, hown, hg⟩ hK hN hT hS hA (ct_M_signalOf l dC dI cI cB cJ cZ cQ N H.size h0 a (((s.1 69) (Int32.toNatClampNeg x1))) (((s.1 41) (Int32.toNatClampNeg ((x3 + 1))))) s q_5 hc_6) hP hD rfl rfl wn_10_185 wn_10_187 sn_M_signalOf wn_1_13 wn_10_188 rfl rfl (by decide +kernel) ⟨Nat.le_of_ble_eq_true rfl, Nat.le_of_ble_eq_true rfl⟩ rfl hl.1 rfl (Nat.le_of_ble_eq_true rfl) dn_M_canBe_74 ⟨Nat.le_of_ble_eq_true rfl, Nat.le_of_ble_eq_true rfl⟩) hP hD hS hA (fun r_7 _ H locs hw hP hD hS => ?_)
            have hw : r_7 = q_5.1 := hw
            subst hw
            obtain ⟨hg_8, hf⟩ := dc_g hf
            refine va_zald hx hb hK hP 51 3 rfl rfl hg_8 dn_M_canBe_77 ?_
            refine xk_ti (y := ((q_5.2.1 72) (Int32.toNatClampNeg q_5.1))) rfl ?_
            refine lv_if_eq (tgt := 85) hx hb dn_M_canBe_78 (by decide) (fun h => ?_) (fun h => ?_)
            · have hf := (if_pos h).symm.trans hf
              refine lv_iconst (v := 0) hx hb dn_M_canBe_85 (by decide) ?_
              refine lv_istore_n (lv' := [(2, .int 0), (0, .ref h0), (1, .int x1), (3, .int x3)]) hx hb dn_M_canBe_86 rfl hl (by decide) rfl (fun ls hl => ?_)
              refine lv_iinc (v := (x3 + 3)) (lv' := [(3, .int ((x3 + 3))), (2, .int 0), (0, .ref h0), (1, .int x1)]) hx hb dn_M_canBe_87 hl (k := 3) rfl (dc_inc (by decide)) (by decide) rfl (fun ls hl => ?_)
              refine lv_goto (tgt := 31) hx hb dn_M_canBe_90 (by decide) ?_
              exact hk_31 x1 0 ((x3 + 3)) q_5.2 hf H locs ls hP hD hS (lv_sub hl [2, 3, 1, 0] rfl)
            · have hf := (if_neg h).symm.trans hf
              exact bl_81 k_31 hk_31 x1 x3 q_5.2 hf H locs ls hP hD hS (lv_sub hl [0, 1, 3] rfl)
  intro H locs ls hP hD hS hl
  unfold fn_M_canBe at hf
  refine lv_aload_n hx hb dn_M_canBe_0 rfl (lv_at hl 0 rfl) ?_
  refine va_get (D := (dC, dI)) (ci := 0) (v := .ref ((a 66))) (C := rn_M) (T := fn_M) (N := 91) hx hb hg in_M hown hK hP 0 rfl rfl 66 (by decide) (hg _ wn_8_139) (fun _ h9 => h9) rfl dn_M_canBe_1 ?_
  refine lv_iload_n hx hb dn_M_canBe_4 rfl (lv_at hl 1 rfl) ?_
  obtain ⟨hg_1, hf⟩ := dc_g hf
  refine va_iald hx hb hK hP 46 0 rfl rfl hg_1 dn_M_canBe_5 ?_
  refine xk_ti (y := ((s.1 66) (Int32.toNatClampNeg v1))) rfl ?_
  refine lv_iconst (v := 2) hx hb dn_M_canBe_6 (by decide) ?_
  refine lv_icmp_ne (tgt := 22) hx hb dn_M_canBe_7 (by decide) (fun h => ?_) (fun h => ?_)
  · have hf := (if_neg h).symm.trans hf
    refine lv_iconst (v := 1) hx hb dn_M_canBe_22 (by decide) ?_
    refine lv_istore_n (lv' := [(2, .int 1), (0, .ref h0), (1, .int v1)]) hx hb dn_M_canBe_23 rfl hl (by decide) rfl (fun ls hl => ?_)
    refine lv_aload_n hx hb dn_M_canBe_24 rfl (lv_at hl 1 rfl) ?_
    refine va_get (D := (dC, dI)) (ci := 0) (v := .ref ((a 67))) (C := rn_M) (T := fn_M) (N := 91) hx hb hg in_M hown hK hP 0 rfl rfl 67 (by decide) (hg _ wn_8_140) (fun _ h9 => h9) rfl dn_M_canBe_25 ?_
    refine lv_iload_n hx hb dn_M_canBe_28 rfl (lv_at hl 2 rfl) ?_
    obtain ⟨hg_2, hf⟩ := dc_g hf
    refine va_iald hx hb hK hP 47 0 rfl rfl hg_2 dn_M_canBe_29 ?_
    refine xk_ti (y := ((s.1 67) (Int32.toNatClampNeg v1))) rfl ?_
    refine lv_istore_n (lv' := [(3, .int (((s.1 67) (Int32.toNatClampNeg v1)))), (2, .int 1), (0, .ref h0), (1, .int v1)]) hx hb dn_M_canBe_30 rfl hl (by decide) rfl (fun ls hl => ?_)
    exact hd_31 N v1 1 (((s.1 67) (Int32.toNatClampNeg v1))) s hf H locs ls hP hD hS (lv_sub hl [2, 3, 1, 0] rfl)
  · have hf := (if_pos h).symm.trans hf
    refine lv_aload_n hx hb dn_M_canBe_10 rfl (lv_at hl 0 rfl) ?_
    refine va_get (D := (dC, dI)) (ci := 0) (v := .ref ((a 72))) (C := rn_M) (T := fn_M) (N := 91) hx hb hg in_M hown hK hP 0 rfl rfl 72 (by decide) (hg _ wn_8_145) (fun _ h9 => h9) rfl dn_M_canBe_11 ?_
    refine lv_aload_n hx hb dn_M_canBe_14 rfl (lv_at hl 0 rfl) ?_
    refine va_get (D := (dC, dI)) (ci := 0) (v := .ref ((a 67))) (C := rn_M) (T := fn_M) (N := 91) hx hb hg in_M hown hK hP 0 rfl rfl 67 (by decide) (hg _ wn_8_140) (fun _ h9 => h9) rfl dn_M_canBe_15 ?_
    refine lv_iload_n hx hb dn_M_canBe_18 rfl (lv_at hl 1 rfl) ?_
    obtain ⟨hg_2, hf⟩ := dc_g hf
    refine va_iald hx hb hK hP 47 0 rfl rfl hg_2 dn_M_canBe_19 ?_
    refine xk_ti (y := ((s.1 67) (Int32.toNatClampNeg v1))) rfl ?_
    obtain ⟨hg_3, hf⟩ := dc_g hf
    refine va_zald hx hb hK hP 51 3 rfl rfl hg_3 dn_M_canBe_20 ?_
    refine xk_ti (y := ((s.1 72) (Int32.toNatClampNeg (((s.1 67) (Int32.toNatClampNeg v1)))))) rfl ?_
    obtain ⟨hg_4, hf⟩ := dc_g hf
    rw [hQQ, ← Option.some.inj hf]
    exact xk_zret (w1 := fun u : Unit => (wM h0 a cI cB cJ cZ s)) () hx hb hr (dc_z hg_4) hlocks hK hS dn_M_canBe_21 hP hD rfl (Nat.le_refl _) (Nat.le_refl _)
theorem mb_M_putInOrder_116 (N : Nat) (y : (Unit × ms)) (k_116 : Int32 → ms → Option (Unit × ms)) (hkm_116 : ∀ (x2 : Int32) (s : ms), k_116 x2 s = some y → gl y.2 = gl s) (x2 : Int32) (s : ms) (hf : bd_M_putInOrder_116 N k_116 x2 s = some y) : gl y.2 = gl s := by
  unfold bd_M_putInOrder_116 at hf
  have hm : gl s = gl s := rfl
  by_cases h : (s.1 63 0) ≤ x2
  · have hf := (if_pos h).symm.trans hf
    exact (dc_e hf).trans hm
  · have hf := (if_neg h).symm.trans hf
    by_cases h : (s.1 9 0) = 0
    · have hf := (if_pos h).symm.trans hf
      obtain ⟨_, hf⟩ := dc_g hf
      by_cases h : ((s.1 72) (Int32.toNatClampNeg x2)) = 0
      · have hf := (if_pos h).symm.trans hf
        obtain ⟨q_2, hc_3, hf⟩ := dc_b hf
        have hm := (mn_M_dependsOnItself N x2 s q_2 hc_3).trans hm
        by_cases h : q_2.1 = 0
        · have hf := (if_pos h).symm.trans hf
          exact (hkm_116 ((x2 + 1)) q_2.2 hf).trans hm
        · have hf := (if_neg h).symm.trans hf
          obtain ⟨_, hf⟩ := dc_g hf
          obtain ⟨_, hf⟩ := dc_g hf
          obtain ⟨_, hf⟩ := dc_g hf
          obtain ⟨q_8, hc_9, hf⟩ := dc_b hf
          have hm := (mn_M_fail N 45 (((q_2.2.1 5) (Int32.toNatClampNeg (((q_2.2.1 19) (Int32.toNatClampNeg (((q_2.2.1 64) (Int32.toNatClampNeg x2))))))))) q_2.2 q_8 hc_9).trans hm
          exact (hkm_116 ((x2 + 1)) q_8.2 hf).trans hm
      · have hf := (if_neg h).symm.trans hf
        exact (hkm_116 ((x2 + 1)) s hf).trans hm
    · have hf := (if_neg h).symm.trans hf
      exact (dc_e hf).trans hm
theorem mh_M_putInOrder_116 (N : Nat) (y : (Unit × ms)) : ∀ (n : Nat) (x2 : Int32) (s : ms), hd_M_putInOrder_116 N n x2 s = some y → gl y.2 = gl s := by
  intro n
  induction n with
  | zero => intro x2 s hf; cases hf
  | succ n ih => intro x2 s hf; exact mb_M_putInOrder_116 N y (hd_M_putInOrder_116 N n) ih x2 s hf
theorem mb_M_putInOrder_51 (N : Nat) (k_43 : Int32 → ms → Option (Unit × ms)) (y : (Unit × ms)) (hkm_43 : ∀ (x1 : Int32) (s : ms), k_43 x1 s = some y → gl y.2 = gl s) (k_51 : Int32 → Int32 → ms → Option (Unit × ms)) (hkm_51 : ∀ (x1 : Int32) (x2 : Int32) (s : ms), k_51 x1 x2 s = some y → gl y.2 = gl s) (x1 : Int32) (x2 : Int32) (s : ms) (hf : bd_M_putInOrder_51 N k_43 k_51 x1 x2 s = some y) : gl y.2 = gl s := by
  unfold bd_M_putInOrder_51 at hf
  have hm : gl s = gl s := rfl
  by_cases h : (s.1 63 0) ≤ x2
  · have hf := (if_pos h).symm.trans hf
    exact (hkm_43 x1 s hf).trans hm
  · have hf := (if_neg h).symm.trans hf
    obtain ⟨_, hf⟩ := dc_g hf
    by_cases h : ((s.1 72) (Int32.toNatClampNeg x2)) = 0
    · have hf := (if_pos h).symm.trans hf
      obtain ⟨q_2, hc_3, hf⟩ := dc_b hf
      have hm := (mn_M_canBe N x2 s q_2 hc_3).trans hm
      by_cases h : q_2.1 = 0
      · have hf := (if_pos h).symm.trans hf
        exact (hkm_51 x1 ((x2 + 1)) q_2.2 hf).trans hm
      · have hf := (if_neg h).symm.trans hf
        obtain ⟨_, hf⟩ := dc_g hf
        obtain ⟨_, hf⟩ := dc_g hf
        exact (hkm_51 1 ((x2 + 1)) (upI (upI (upI q_2.2 72 (upd (q_2.2.1 72) (Int32.toNatClampNeg x2) (vp_nar .boolean 1))) 70 (upd (q_2.2.1 70) (Int32.toNatClampNeg ((q_2.2.1 71 0))) x2)) 71 (fun _ => ((q_2.2.1 71 0) + 1))) hf).trans hm
    · have hf := (if_neg h).symm.trans hf
      exact (hkm_51 x1 ((x2 + 1)) s hf).trans hm
theorem mh_M_putInOrder_51 (N : Nat) (k_43 : Int32 → ms → Option (Unit × ms)) (y : (Unit × ms)) (hkm_43 : ∀ (x1 : Int32) (s : ms), k_43 x1 s = some y → gl y.2 = gl s) : ∀ (n : Nat) (x1 : Int32) (x2 : Int32) (s : ms), hd_M_putInOrder_51 N k_43 n x1 x2 s = some y → gl y.2 = gl s := by
  intro n
  induction n with
  | zero => intro x1 x2 s hf; cases hf
  | succ n ih => intro x1 x2 s hf; exact mb_M_putInOrder_51 N k_43 y hkm_43 (hd_M_putInOrder_51 N k_43 n) ih x1 x2 s hf
theorem mb_M_putInOrder_43 (N : Nat) (y : (Unit × ms)) (k_43 : Int32 → ms → Option (Unit × ms)) (hkm_43 : ∀ (x1 : Int32) (s : ms), k_43 x1 s = some y → gl y.2 = gl s) (x1 : Int32) (s : ms) (hf : bd_M_putInOrder_43 N k_43 x1 s = some y) : gl y.2 = gl s := by
  unfold bd_M_putInOrder_43 at hf
  have hm : gl s = gl s := rfl
  by_cases h : x1 = 0
  · have hf := (if_pos h).symm.trans hf
    exact (mh_M_putInOrder_116 N y N 0 s hf).trans hm
  · have hf := (if_neg h).symm.trans hf
    exact (mh_M_putInOrder_51 N k_43 y hkm_43 N 0 0 s hf).trans hm
theorem mh_M_putInOrder_43 (N : Nat) (y : (Unit × ms)) : ∀ (n : Nat) (x1 : Int32) (s : ms), hd_M_putInOrder_43 N n x1 s = some y → gl y.2 = gl s := by
  intro n
  induction n with
  | zero => intro x1 s hf; cases hf
  | succ n ih => intro x1 s hf; exact mb_M_putInOrder_43 N y (hd_M_putInOrder_43 N n) ih x1 s hf
theorem mo_M_putInOrder_34 (N : Nat) (k_7 : Int32 → ms → Option (Unit × ms)) (y : (Unit × ms)) (hkm_7 : ∀ (x1 : Int32) (s : ms), k_7 x1 s = some y → gl y.2 = gl s) (x1 : Int32) (t0 : Int32) (t1 : Int32) (s : ms) (hf : bk_M_putInOrder_34 N k_7 x1 t0 t1 s = some y) : gl y.2 = gl s := by
  unfold bk_M_putInOrder_34 at hf
  have hm : gl s = gl s := rfl
  obtain ⟨_, hf⟩ := dc_g hf
  exact (hkm_7 ((x1 + 1)) (upI s 72 (upd (s.1 72) (Int32.toNatClampNeg t1) (vp_nar .boolean t0))) hf).trans hm
theorem mb_M_putInOrder_7 (N : Nat) (y : (Unit × ms)) (k_7 : Int32 → ms → Option (Unit × ms)) (hkm_7 : ∀ (x1 : Int32) (s : ms), k_7 x1 s = some y → gl y.2 = gl s) (x1 : Int32) (s : ms) (hf : bd_M_putInOrder_7 N k_7 x1 s = some y) : gl y.2 = gl s := by
  unfold bd_M_putInOrder_7 at hf
  have hm : gl s = gl s := rfl
  by_cases h : (s.1 63 0) ≤ x1
  · have hf := (if_pos h).symm.trans hf
    exact (mh_M_putInOrder_43 N y N 1 s hf).trans hm
  · have hf := (if_neg h).symm.trans hf
    obtain ⟨_, hf⟩ := dc_g hf
    by_cases h : ((s.1 66) (Int32.toNatClampNeg x1)) = 0
    · have hf := (if_pos h).symm.trans hf
      exact (mo_M_putInOrder_34 N k_7 y hkm_7 x1 1 x1 s hf).trans hm
    · have hf := (if_neg h).symm.trans hf
      exact (mo_M_putInOrder_34 N k_7 y hkm_7 x1 0 x1 s hf).trans hm
theorem mh_M_putInOrder_7 (N : Nat) (y : (Unit × ms)) : ∀ (n : Nat) (x1 : Int32) (s : ms), hd_M_putInOrder_7 N n x1 s = some y → gl y.2 = gl s := by
  intro n
  induction n with
  | zero => intro x1 s hf; cases hf
  | succ n ih => intro x1 s hf; exact mb_M_putInOrder_7 N y (hd_M_putInOrder_7 N n) ih x1 s hf
theorem mn_M_putInOrder (N : Nat) (s : ms) (y : (Unit × ms)) (hf : fn_M_putInOrder N s = some y) : gl y.2 = gl s := by
  unfold fn_M_putInOrder at hf
  have hm : gl s = gl s := rfl
  exact (mh_M_putInOrder_7 N y N 0 (upI s 71 (fun _ => 0)) hf).trans hm
set_option maxHeartbeats 8000000 in
set_option maxRecDepth 100000 in
theorem ct_M_putInOrder (l : Launch) (dC : Nat → ClassId) (dI : Nat → Nat → Nat) (cI cB cJ cZ cQ : ClassId) (N sz : Nat) (h0 : Nat) (a : Nat → Nat) (s : ms) (y : (Unit × ms)) (hf : fn_M_putInOrder N s = some y) : Met l yn_M_putInOrder (xw yn_M_putInOrder bn_M_putInOrder 3 none) ({ frames := 2, cells := 0, slots := 0, locals := 50 }) (dc_P (dC, dI) xcl (xt cI cB cJ cZ cQ) [.ref h0] sz (wM h0 a cI cB cJ cZ s)) (xk_Qv (dC, dI) xcl (xt cI cB cJ cZ cQ) (fun _ : Unit => True) (fun u : Unit => (wM h0 a cI cB cJ cZ y.2)) (va_A (wM h0 a cI cB cJ cZ s) sz)) 0 0 (va_A (wM h0 a cI cB cJ cZ s) sz) := by
  refine dc_of (QA := xk_Qv (dC, dI) xcl (xt cI cB cJ cZ cQ) (fun _ : Unit => True) (fun u : Unit => (wM h0 a cI cB cJ cZ y.2))) (by decide) (Nat.le_of_ble_eq_true rfl) ?_
  intro p e s0 m below meth c hx hb hml hown hg hr hlocks hin hP hK hN A hA hD hT ls hl
  have hown : s0.vm.findClass rn_M = some m.cls := hown
  obtain ⟨H, hH⟩ : ∃ z, z = s0.heap := ⟨_, rfl⟩
  rw [← hH] at hP
  have hS : va_S A s0.heap H [] := by rw [hH]; exact va_S.rf
  suffices kk : ∀ QQ : State → Prop, QQ = MQ below (xk_Qv (dC, dI) xcl (xt cI cB cJ cZ cQ) (fun _ : Unit => True) (fun u : Unit => (wM h0 a cI cB cJ cZ y.2)) A) [.ref h0].toArray s0 0 0 A → dcC p l e ({ frames := 2, cells := 0, slots := 0, locals := 50 }) s0 m [.ref h0].toArray below meth c QQ (dC, dI) A (wM h0 a cI cB cJ cZ s) 0 3 [(0, .ref h0)] [] by
    have k9 := kk _ rfl H [] ls hP hD hS hl
    rw [hH] at k9; exact k9
  clear hP hD hS hl hH H ls
  intro QQ hQQ
  have hd_116 : ∀ (n : Nat) (x2 : Int32) (s : ms), hd_M_putInOrder_116 N n x2 s = some y → dcC p l e ({ frames := 2, cells := 0, slots := 0, locals := 50 }) s0 m [.ref h0].toArray below meth c QQ (dC, dI) A (wM h0 a cI cB cJ cZ s) 116 3 [(0, .ref h0), (2, .int x2)] [] := by
    intro n
    induction n with
    | zero => intro x2 s hf; cases hf
    | succ n ih =>
      intro x2 s hf H locs ls hP hD hS hl
      have hf : bd_M_putInOrder_116 N (hd_M_putInOrder_116 N n) x2 s = some y := hf
      have hk_116 := ih
      generalize hd_M_putInOrder_116 N n = k_116 at hf hk_116
      unfold bd_M_putInOrder_116 at hf
      refine lv_iload_n hx hb dn_M_putInOrder_116 rfl (lv_at hl 1 rfl) ?_
      refine lv_aload_n hx hb dn_M_putInOrder_117 rfl (lv_at hl 0 rfl) ?_
      refine va_get (D := (dC, dI)) (ci := 0) (v := .int ((s.1 63 0))) (C := rn_M) (T := fn_M) (N := 91) hx hb hg in_M hown hK hP 0 rfl rfl 63 (by decide) (hg _ wn_8_136) (fun _ h9 => h9) rfl dn_M_putInOrder_118 ?_
      refine lv_icmp_ge (tgt := 176) hx hb dn_M_putInOrder_121 (by decide) (fun h => ?_) (fun h => ?_)
      · have hf := (if_pos h).symm.trans hf
        rw [hQQ, ← Option.some.inj hf]
        exact xk_vret (w1 := fun u : Unit => (wM h0 a cI cB cJ cZ s)) () hx hb hr hlocks hK hS dn_M_putInOrder_176 hP hD trivial (Nat.le_refl _) (Nat.le_refl _)
      · have hf := (if_neg h).symm.trans hf
        refine lv_aload_n hx hb dn_M_putInOrder_124 rfl (lv_at hl 0 rfl) ?_
        refine va_get (D := (dC, dI)) (ci := 0) (v := .int ((s.1 9 0))) (C := rn_M) (T := fn_M) (N := 91) hx hb hg in_M hown hK hP 0 rfl rfl 9 (by decide) (hg _ wn_8_82) (fun _ h9 => h9) rfl dn_M_putInOrder_125 ?_
        refine lv_if_ne (tgt := 176) hx hb dn_M_putInOrder_128 (by decide) (fun h => ?_) (fun h => ?_)
        · have hf := (if_neg h).symm.trans hf
          rw [hQQ, ← Option.some.inj hf]
          exact xk_vret (w1 := fun u : Unit => (wM h0 a cI cB cJ cZ s)) () hx hb hr hlocks hK hS dn_M_putInOrder_176 hP hD trivial (Nat.le_refl _) (Nat.le_refl _)
        · have hf := (if_pos h).symm.trans hf
          refine lv_aload_n hx hb dn_M_putInOrder_131 rfl (lv_at hl 0 rfl) ?_
          refine va_get (D := (dC, dI)) (ci := 0) (v := .ref ((a 72))) (C := rn_M) (T := fn_M) (N := 91) hx hb hg in_M hown hK hP 0 rfl rfl 72 (by decide) (hg _ wn_8_145) (fun _ h9 => h9) rfl dn_M_putInOrder_132 ?_
          refine lv_iload_n hx hb dn_M_putInOrder_135 rfl (lv_at hl 1 rfl) ?_
          obtain ⟨hg_1, hf⟩ := dc_g hf
          refine va_zald hx hb hK hP 51 3 rfl rfl hg_1 dn_M_putInOrder_136 ?_
          refine xk_ti (y := ((s.1 72) (Int32.toNatClampNeg x2))) rfl ?_
          refine lv_if_ne (tgt := 170) hx hb dn_M_putInOrder_137 (by decide) (fun h => ?_) (fun h => ?_)
          · have hf := (if_neg h).symm.trans hf
            refine lv_iinc (v := (x2 + 1)) (lv' := [(2, .int ((x2 + 1))), (0, .ref h0)]) hx hb dn_M_putInOrder_170 hl (k := 1) rfl (dc_inc (by decide)) (by decide) rfl (fun ls hl => ?_)
            refine lv_goto (tgt := 116) hx hb dn_M_putInOrder_173 (by decide) ?_
            exact hk_116 ((x2 + 1)) s hf H locs ls hP hD hS (lv_sub hl [1, 0] rfl)
          · have hf := (if_pos h).symm.trans hf
            refine lv_aload_n hx hb dn_M_putInOrder_140 rfl (lv_at hl 0 rfl) ?_
            refine lv_iload_n hx hb dn_M_putInOrder_141 rfl (lv_at hl 1 rfl) ?_
            obtain ⟨q_2, hc_3, hf⟩ := dc_b hf
            refine dc_calli (dc_runV (ar := 1) (As := [.int x2]) (rest := []) (ci := 0) (q0 := 0) ⟨hx, hb, hml, hown, hg⟩ hK hN hT hS hA (ct_M_dependsOnItself l dC dI cI cB cJ cZ cQ N H.size h0 a x2 s q_2 hc_3) hP hD rfl rfl wn_10_197 wn_10_199 sn_M_dependsOnItself wn_1_13 wn_10_200 rfl rfl (by decide +kernel) ⟨Nat.le_of_ble_eq_true rfl, Nat.le_of_ble_eq_true rfl⟩ rfl hl.1 rfl (Nat.le_of_ble_eq_true rfl) dn_M_putInOrder_142 ⟨Nat.le_of_ble_eq_true rfl, Nat.le_of_ble_eq_true rfl⟩) hP hD hS hA (fun r_4 _ H locs hw hP hD hS => ?_)
            have hw : r_4 = q_2.1 := hw
            subst hw
            refine lv_if_eq (tgt := 170) hx hb dn_M_putInOrder_145 (by decide) (fun h => ?_) (fun h => ?_)
            · have hf := (if_pos h).symm.trans hf
              refine lv_iinc (v := (x2 + 1)) (lv' := [(2, .int ((x2 + 1))), (0, .ref h0)]) hx hb dn_M_putInOrder_170 hl (k := 1) rfl (dc_inc (by decide)) (by decide) rfl (fun ls hl => ?_)
              refine lv_goto (tgt := 116) hx hb dn_M_putInOrder_173 (by decide) ?_
              exact hk_116 ((x2 + 1)) q_2.2 hf H locs ls hP hD hS (lv_sub hl [1, 0] rfl)
            · have hf := (if_neg h).symm.trans hf
              refine lv_aload_n hx hb dn_M_putInOrder_148 rfl (lv_at hl 0 rfl) ?_
              refine lv_bipush (v := 45) hx hb dn_M_putInOrder_149 (by decide) ?_
              refine lv_aload_n hx hb dn_M_putInOrder_151 rfl (lv_at hl 0 rfl) ?_
              refine va_get (D := (dC, dI)) (ci := 0) (v := .ref ((a 5))) (C := rn_M) (T := fn_M) (N := 91) hx hb hg in_M hown hK hP 0 rfl rfl 5 (by decide) (hg _ wn_8_78) (fun _ h9 => h9) rfl dn_M_putInOrder_152 ?_
              refine lv_aload_n hx hb dn_M_putInOrder_155 rfl (lv_at hl 0 rfl) ?_
              refine va_get (D := (dC, dI)) (ci := 0) (v := .ref ((a 19))) (C := rn_M) (T := fn_M) (N := 91) hx hb hg in_M hown hK hP 0 rfl rfl 19 (by decide) (hg _ wn_8_92) (fun _ h9 => h9) rfl dn_M_putInOrder_156 ?_
              refine lv_aload_n hx hb dn_M_putInOrder_159 rfl (lv_at hl 0 rfl) ?_
              refine va_get (D := (dC, dI)) (ci := 0) (v := .ref ((a 64))) (C := rn_M) (T := fn_M) (N := 91) hx hb hg in_M hown hK hP 0 rfl rfl 64 (by decide) (hg _ wn_8_137) (fun _ h9 => h9) rfl dn_M_putInOrder_160 ?_
              refine lv_iload_n hx hb dn_M_putInOrder_163 rfl (lv_at hl 1 rfl) ?_
              obtain ⟨hg_5, hf⟩ := dc_g hf
              refine va_iald hx hb hK hP 44 0 rfl rfl hg_5 dn_M_putInOrder_164 ?_
              refine xk_ti (y := ((q_2.2.1 64) (Int32.toNatClampNeg x2))) rfl ?_
              obtain ⟨hg_6, hf⟩ := dc_g hf
              refine va_iald hx hb hK hP 10 0 rfl rfl hg_6 dn_M_putInOrder_165 ?_
              refine xk_ti (y := ((q_2.2.1 19) (Int32.toNatClampNeg (((q_2.2.1 64) (Int32.toNatClampNeg x2)))))) rfl ?_
              obtain ⟨hg_7, hf⟩ := dc_g hf
              refine va_iald hx hb hK hP 3 0 rfl rfl hg_7 dn_M_putInOrder_166 ?_
              refine xk_ti (y := ((q_2.2.1 5) (Int32.toNatClampNeg (((q_2.2.1 19) (Int32.toNatClampNeg (((q_2.2.1 64) (Int32.toNatClampNeg x2))))))))) rfl ?_
              obtain ⟨q_8, hc_9, hf⟩ := dc_b hf
              refine dc_callv (dc_runV (ar := 2) (As := [.int 45, .int (((q_2.2.1 5) (Int32.toNatClampNeg (((q_2.2.1 19) (Int32.toNatClampNeg (((q_2.2.1 64) (Int32.toNatClampNeg x2)))))))))]) (rest := []) (ci := 0) (q0 := 0) ⟨hx, hb, hml, hown, hg⟩ hK hN hT hS hA (ct_M_fail l dC dI cI cB cJ cZ cQ N H.size h0 a 45 (((q_2.2.1 5) (Int32.toNatClampNeg (((q_2.2.1 19) (Int32.toNatClampNeg (((q_2.2.1 64) (Int32.toNatClampNeg x2))))))))) q_2.2 q_8 hc_9) hP hD rfl rfl wn_9_186 wn_9_188 sn_M_fail wn_1_13 wn_9_189 rfl rfl (by decide +kernel) ⟨Nat.le_of_ble_eq_true rfl, Nat.le_of_ble_eq_true rfl⟩ rfl hl.1 rfl (Nat.le_of_ble_eq_true rfl) dn_M_putInOrder_167 ⟨Nat.le_of_ble_eq_true rfl, Nat.le_of_ble_eq_true rfl⟩) hP hD hS hA (fun _ H locs hw hP hD hS => ?_)
              refine lv_iinc (v := (x2 + 1)) (lv' := [(2, .int ((x2 + 1))), (0, .ref h0)]) hx hb dn_M_putInOrder_170 hl (k := 1) rfl (dc_inc (by decide)) (by decide) rfl (fun ls hl => ?_)
              refine lv_goto (tgt := 116) hx hb dn_M_putInOrder_173 (by decide) ?_
              exact hk_116 ((x2 + 1)) q_8.2 hf H locs ls hP hD hS (lv_sub hl [1, 0] rfl)
  have hd_51 : ∀ (k_43 : Int32 → ms → Option (Unit × ms)) (hk_43 : ∀ (x1 : Int32) (s : ms), k_43 x1 s = some y → dcC p l e ({ frames := 2, cells := 0, slots := 0, locals := 50 }) s0 m [.ref h0].toArray below meth c QQ (dC, dI) A (wM h0 a cI cB cJ cZ s) 43 3 [(0, .ref h0), (1, .int x1)] []) (n : Nat) (x1 : Int32) (x2 : Int32) (s : ms), hd_M_putInOrder_51 N k_43 n x1 x2 s = some y → dcC p l e ({ frames := 2, cells := 0, slots := 0, locals := 50 }) s0 m [.ref h0].toArray below meth c QQ (dC, dI) A (wM h0 a cI cB cJ cZ s) 51 3 [(0, .ref h0), (1, .int x1), (2, .int x2)] [] := by
    intro k_43 hk_43 n
    induction n with
    | zero => intro x1 x2 s hf; cases hf
    | succ n ih =>
      intro x1 x2 s hf H locs ls hP hD hS hl
      have hf : bd_M_putInOrder_51 N k_43 (hd_M_putInOrder_51 N k_43 n) x1 x2 s = some y := hf
      have hk_51 := ih
      generalize hd_M_putInOrder_51 N k_43 n = k_51 at hf hk_51
      unfold bd_M_putInOrder_51 at hf
      refine lv_iload_n hx hb dn_M_putInOrder_51 rfl (lv_at hl 2 rfl) ?_
      refine lv_aload_n hx hb dn_M_putInOrder_52 rfl (lv_at hl 0 rfl) ?_
      refine va_get (D := (dC, dI)) (ci := 0) (v := .int ((s.1 63 0))) (C := rn_M) (T := fn_M) (N := 91) hx hb hg in_M hown hK hP 0 rfl rfl 63 (by decide) (hg _ wn_8_136) (fun _ h9 => h9) rfl dn_M_putInOrder_53 ?_
      refine lv_icmp_ge (tgt := 111) hx hb dn_M_putInOrder_56 (by decide) (fun h => ?_) (fun h => ?_)
      · have hf := (if_pos h).symm.trans hf
        refine lv_goto (tgt := 43) hx hb dn_M_putInOrder_111 (by decide) ?_
        exact hk_43 x1 s hf H locs ls hP hD hS (lv_sub hl [0, 1] rfl)
      · have hf := (if_neg h).symm.trans hf
        refine lv_aload_n hx hb dn_M_putInOrder_59 rfl (lv_at hl 0 rfl) ?_
        refine va_get (D := (dC, dI)) (ci := 0) (v := .ref ((a 72))) (C := rn_M) (T := fn_M) (N := 91) hx hb hg in_M hown hK hP 0 rfl rfl 72 (by decide) (hg _ wn_8_145) (fun _ h9 => h9) rfl dn_M_putInOrder_60 ?_
        refine lv_iload_n hx hb dn_M_putInOrder_63 rfl (lv_at hl 2 rfl) ?_
        obtain ⟨hg_1, hf⟩ := dc_g hf
        refine va_zald hx hb hK hP 51 3 rfl rfl hg_1 dn_M_putInOrder_64 ?_
        refine xk_ti (y := ((s.1 72) (Int32.toNatClampNeg x2))) rfl ?_
        refine lv_if_ne (tgt := 105) hx hb dn_M_putInOrder_65 (by decide) (fun h => ?_) (fun h => ?_)
        · have hf := (if_neg h).symm.trans hf
          refine lv_iinc (v := (x2 + 1)) (lv' := [(2, .int ((x2 + 1))), (0, .ref h0), (1, .int x1)]) hx hb dn_M_putInOrder_105 hl (k := 2) rfl (dc_inc (by decide)) (by decide) rfl (fun ls hl => ?_)
          refine lv_goto (tgt := 51) hx hb dn_M_putInOrder_108 (by decide) ?_
          exact hk_51 x1 ((x2 + 1)) s hf H locs ls hP hD hS (lv_sub hl [1, 2, 0] rfl)
        · have hf := (if_pos h).symm.trans hf
          refine lv_aload_n hx hb dn_M_putInOrder_68 rfl (lv_at hl 0 rfl) ?_
          refine lv_iload_n hx hb dn_M_putInOrder_69 rfl (lv_at hl 2 rfl) ?_
          obtain ⟨q_2, hc_3, hf⟩ := dc_b hf
          refine dc_calli (dc_runV (ar := 1) (As := [.int x2]) (rest := []) (ci := 0) (q0 := 0) ⟨hx, hb, hml, hown, hg⟩ hK hN hT hS hA (ct_M_canBe l dC dI cI cB cJ cZ cQ N H.size h0 a x2 s q_2 hc_3) hP hD rfl rfl wn_10_193 wn_10_195 sn_M_canBe wn_1_13 wn_10_196 rfl rfl (by decide +kernel) ⟨Nat.le_of_ble_eq_true rfl, Nat.le_of_ble_eq_true rfl⟩ rfl hl.1 rfl (Nat.le_of_ble_eq_true rfl) dn_M_putInOrder_70 ⟨Nat.le_of_ble_eq_true rfl, Nat.le_of_ble_eq_true rfl⟩) hP hD hS hA (fun r_4 _ H locs hw hP hD hS => ?_)
          have hw : r_4 = q_2.1 := hw
          subst hw
          refine lv_if_eq (tgt := 105) hx hb dn_M_putInOrder_73 (by decide) (fun h => ?_) (fun h => ?_)
          · have hf := (if_pos h).symm.trans hf
            refine lv_iinc (v := (x2 + 1)) (lv' := [(2, .int ((x2 + 1))), (0, .ref h0), (1, .int x1)]) hx hb dn_M_putInOrder_105 hl (k := 2) rfl (dc_inc (by decide)) (by decide) rfl (fun ls hl => ?_)
            refine lv_goto (tgt := 51) hx hb dn_M_putInOrder_108 (by decide) ?_
            exact hk_51 x1 ((x2 + 1)) q_2.2 hf H locs ls hP hD hS (lv_sub hl [1, 2, 0] rfl)
          · have hf := (if_neg h).symm.trans hf
            refine lv_aload_n hx hb dn_M_putInOrder_76 rfl (lv_at hl 0 rfl) ?_
            refine va_get (D := (dC, dI)) (ci := 0) (v := .ref ((a 72))) (C := rn_M) (T := fn_M) (N := 91) hx hb hg in_M hown hK hP 0 rfl rfl 72 (by decide) (hg _ wn_8_145) (fun _ h9 => h9) rfl dn_M_putInOrder_77 ?_
            refine lv_iload_n hx hb dn_M_putInOrder_80 rfl (lv_at hl 2 rfl) ?_
            refine lv_iconst (v := 1) hx hb dn_M_putInOrder_81 (by decide) ?_
            obtain ⟨hg_5, hf⟩ := dc_g hf
            refine va_zast hx hb hK hP hD hS 51 3 rfl rfl hg_5 dn_M_putInOrder_82 (fun H locs hP hD hS => ?_)
            have hP : va_P (dC, dI) xcl ((wM h0 a cI cB cJ cZ q_2.2).set 51 ((a 72), .inl (cZ, 1100, .inl (upd (q_2.2.1 72) (Int32.toNatClampNeg x2) (vp_nar .boolean 1))))) H := hP
            have hD : va_D A ((wM h0 a cI cB cJ cZ q_2.2).set 51 ((a 72), .inl (cZ, 1100, .inl (upd (q_2.2.1 72) (Int32.toNatClampNeg x2) (vp_nar .boolean 1))))) := hD
            have hP := wM_P_72 hP
            have hD := wM_D_72 hD
            refine lv_aload_n hx hb dn_M_putInOrder_83 rfl (lv_at hl 0 rfl) ?_
            refine va_get (D := (dC, dI)) (ci := 0) (v := .ref ((a 70))) (C := rn_M) (T := fn_M) (N := 91) hx hb hg in_M hown hK hP 0 rfl rfl 70 (by decide) (hg _ wn_8_143) (fun _ h9 => h9) rfl dn_M_putInOrder_84 ?_
            refine lv_aload_n hx hb dn_M_putInOrder_87 rfl (lv_at hl 0 rfl) ?_
            refine va_get (D := (dC, dI)) (ci := 0) (v := .int ((q_2.2.1 71 0))) (C := rn_M) (T := fn_M) (N := 91) hx hb hg in_M hown hK hP 0 rfl rfl 71 (by decide) (hg _ wn_8_144) (fun _ h9 => h9) rfl dn_M_putInOrder_88 ?_
            refine lv_iload_n hx hb dn_M_putInOrder_91 rfl (lv_at hl 2 rfl) ?_
            obtain ⟨hg_6, hf⟩ := dc_g hf
            refine va_iast hx hb hK hP hD hS 50 0 rfl rfl hg_6 dn_M_putInOrder_92 (fun H locs hP hD hS => ?_)
            have hP : va_P (dC, dI) xcl ((wM h0 a cI cB cJ cZ (upI q_2.2 72 (upd (q_2.2.1 72) (Int32.toNatClampNeg x2) (vp_nar .boolean 1)))).set 50 ((a 70), .inl (cI, 1100, .inl (upd (q_2.2.1 70) (Int32.toNatClampNeg ((q_2.2.1 71 0))) x2)))) H := hP
            have hD : va_D A ((wM h0 a cI cB cJ cZ (upI q_2.2 72 (upd (q_2.2.1 72) (Int32.toNatClampNeg x2) (vp_nar .boolean 1)))).set 50 ((a 70), .inl (cI, 1100, .inl (upd (q_2.2.1 70) (Int32.toNatClampNeg ((q_2.2.1 71 0))) x2)))) := hD
            have hP := wM_P_70 hP
            have hD := wM_D_70 hD
            refine lv_aload_n hx hb dn_M_putInOrder_93 rfl (lv_at hl 0 rfl) ?_
            refine lv_dup hx hb dn_M_putInOrder_94 rfl ?_
            refine va_get (D := (dC, dI)) (ci := 0) (v := .int ((q_2.2.1 71 0))) (C := rn_M) (T := fn_M) (N := 91) hx hb hg in_M hown hK hP 0 rfl rfl 71 (by decide) (hg _ wn_8_144) (fun _ h9 => h9) rfl dn_M_putInOrder_95 ?_
            refine lv_iconst (v := 1) hx hb dn_M_putInOrder_98 (by decide) ?_
            refine lv_iadd hx hb dn_M_putInOrder_99 ?_
            refine va_put (D := (dC, dI)) (ci := 0) (v := .int (((q_2.2.1 71 0) + 1))) (ty := .int) (C := rn_M) (T := fn_M) (N := 91) hx hb hg in_M tn_M tk_M nn_M hown hK hP hD hS 0 rfl rfl 71 (by decide) (hg _ wn_8_144) (fun _ h9 => h9) rfl (tk_M 71 (by decide)) rfl rfl (Nat.le_of_ble_eq_true rfl) dn_M_putInOrder_100 (fun H locs hP hD hS => ?_)
            have hP := wM_P_71 hP
            have hD := wM_D_71 hD
            refine lv_iconst (v := 1) hx hb dn_M_putInOrder_103 (by decide) ?_
            refine lv_istore_n (lv' := [(1, .int 1), (0, .ref h0), (2, .int x2)]) hx hb dn_M_putInOrder_104 rfl hl (by decide) rfl (fun ls hl => ?_)
            refine lv_iinc (v := (x2 + 1)) (lv' := [(2, .int ((x2 + 1))), (1, .int 1), (0, .ref h0)]) hx hb dn_M_putInOrder_105 hl (k := 2) rfl (dc_inc (by decide)) (by decide) rfl (fun ls hl => ?_)
            refine lv_goto (tgt := 51) hx hb dn_M_putInOrder_108 (by decide) ?_
            exact hk_51 1 ((x2 + 1)) (upI (upI (upI q_2.2 72 (upd (q_2.2.1 72) (Int32.toNatClampNeg x2) (vp_nar .boolean 1))) 70 (upd (q_2.2.1 70) (Int32.toNatClampNeg ((q_2.2.1 71 0))) x2)) 71 (fun _ => ((q_2.2.1 71 0) + 1))) hf H locs ls hP hD hS (lv_sub hl [2, 1, 0] rfl)
  have hd_43 : ∀ (n : Nat) (x1 : Int32) (s : ms), hd_M_putInOrder_43 N n x1 s = some y → dcC p l e ({ frames := 2, cells := 0, slots := 0, locals := 50 }) s0 m [.ref h0].toArray below meth c QQ (dC, dI) A (wM h0 a cI cB cJ cZ s) 43 3 [(0, .ref h0), (1, .int x1)] [] := by
    intro n
    induction n with
    | zero => intro x1 s hf; cases hf
    | succ n ih =>
      intro x1 s hf H locs ls hP hD hS hl
      have hf : bd_M_putInOrder_43 N (hd_M_putInOrder_43 N n) x1 s = some y := hf
      have hk_43 := ih
      generalize hd_M_putInOrder_43 N n = k_43 at hf hk_43
      unfold bd_M_putInOrder_43 at hf
      refine lv_iload_n hx hb dn_M_putInOrder_43 rfl (lv_at hl 1 rfl) ?_
      refine lv_if_eq (tgt := 114) hx hb dn_M_putInOrder_44 (by decide) (fun h => ?_) (fun h => ?_)
      · have hf := (if_pos h).symm.trans hf
        refine lv_iconst (v := 0) hx hb dn_M_putInOrder_114 (by decide) ?_
        refine lv_istore_n (lv' := [(2, .int 0), (0, .ref h0), (1, .int x1)]) hx hb dn_M_putInOrder_115 rfl hl (by decide) rfl (fun ls hl => ?_)
        exact hd_116 N 0 s hf H locs ls hP hD hS (lv_sub hl [1, 0] rfl)
      · have hf := (if_neg h).symm.trans hf
        refine lv_iconst (v := 0) hx hb dn_M_putInOrder_47 (by decide) ?_
        refine lv_istore_n (lv' := [(1, .int 0), (0, .ref h0)]) hx hb dn_M_putInOrder_48 rfl hl (by decide) rfl (fun ls hl => ?_)
        refine lv_iconst (v := 0) hx hb dn_M_putInOrder_49 (by decide) ?_
        refine lv_istore_n (lv' := [(2, .int 0), (1, .int 0), (0, .ref h0)]) hx hb dn_M_putInOrder_50 rfl hl (by decide) rfl (fun ls hl => ?_)
        exact hd_51 k_43 hk_43 N 0 0 s hf H locs ls hP hD hS (lv_sub hl [2, 1, 0] rfl)
  have bl_34 : ∀ (k_7 : Int32 → ms → Option (Unit × ms)) (hk_7 : ∀ (x1 : Int32) (s : ms), k_7 x1 s = some y → dcC p l e ({ frames := 2, cells := 0, slots := 0, locals := 50 }) s0 m [.ref h0].toArray below meth c QQ (dC, dI) A (wM h0 a cI cB cJ cZ s) 7 3 [(0, .ref h0), (1, .int x1)] []) (x1 : Int32) (t0 : Int32) (t1 : Int32) (s : ms), bk_M_putInOrder_34 N k_7 x1 t0 t1 s = some y → dcC p l e ({ frames := 2, cells := 0, slots := 0, locals := 50 }) s0 m [.ref h0].toArray below meth c QQ (dC, dI) A (wM h0 a cI cB cJ cZ s) 34 3 [(0, .ref h0), (1, .int x1)] [.int t0, .int t1, .ref ((a 72))] := by
    intro k_7 hk_7 x1 t0 t1 s hf H locs ls hP hD hS hl
    unfold bk_M_putInOrder_34 at hf
    obtain ⟨hg_1, hf⟩ := dc_g hf
    refine va_zast hx hb hK hP hD hS 51 3 rfl rfl hg_1 dn_M_putInOrder_34 (fun H locs hP hD hS => ?_)
    have hP : va_P (dC, dI) xcl ((wM h0 a cI cB cJ cZ s).set 51 ((a 72), .inl (cZ, 1100, .inl (upd (s.1 72) (Int32.toNatClampNeg t1) (vp_nar .boolean t0))))) H := hP
    have hD : va_D A ((wM h0 a cI cB cJ cZ s).set 51 ((a 72), .inl (cZ, 1100, .inl (upd (s.1 72) (Int32.toNatClampNeg t1) (vp_nar .boolean t0))))) := hD
    have hP := wM_P_72 hP
    have hD := wM_D_72 hD
    refine lv_iinc (v := (x1 + 1)) (lv' := [(1, .int ((x1 + 1))), (0, .ref h0)]) hx hb dn_M_putInOrder_35 hl (k := 1) rfl (dc_inc (by decide)) (by decide) rfl (fun ls hl => ?_)
    refine lv_goto (tgt := 7) hx hb dn_M_putInOrder_38 (by decide) ?_
    exact hk_7 ((x1 + 1)) (upI s 72 (upd (s.1 72) (Int32.toNatClampNeg t1) (vp_nar .boolean t0))) hf H locs ls hP hD hS (lv_sub hl [1, 0] rfl)
  have hd_7 : ∀ (n : Nat) (x1 : Int32) (s : ms), hd_M_putInOrder_7 N n x1 s = some y → dcC p l e ({ frames := 2, cells := 0, slots := 0, locals := 50 }) s0 m [.ref h0].toArray below meth c QQ (dC, dI) A (wM h0 a cI cB cJ cZ s) 7 3 [(0, .ref h0), (1, .int x1)] [] := by
    intro n
    induction n with
    | zero => intro x1 s hf; cases hf
    | succ n ih =>
      intro x1 s hf H locs ls hP hD hS hl
      have hf : bd_M_putInOrder_7 N (hd_M_putInOrder_7 N n) x1 s = some y := hf
      have hk_7 := ih
      generalize hd_M_putInOrder_7 N n = k_7 at hf hk_7
      unfold bd_M_putInOrder_7 at hf
      refine lv_iload_n hx hb dn_M_putInOrder_7 rfl (lv_at hl 1 rfl) ?_
      refine lv_aload_n hx hb dn_M_putInOrder_8 rfl (lv_at hl 0 rfl) ?_
      refine va_get (D := (dC, dI)) (ci := 0) (v := .int ((s.1 63 0))) (C := rn_M) (T := fn_M) (N := 91) hx hb hg in_M hown hK hP 0 rfl rfl 63 (by decide) (hg _ wn_8_136) (fun _ h9 => h9) rfl dn_M_putInOrder_9 ?_
      refine lv_icmp_ge (tgt := 41) hx hb dn_M_putInOrder_12 (by decide) (fun h => ?_) (fun h => ?_)
      · have hf := (if_pos h).symm.trans hf
        refine lv_iconst (v := 1) hx hb dn_M_putInOrder_41 (by decide) ?_
        refine lv_istore_n (lv' := [(1, .int 1), (0, .ref h0)]) hx hb dn_M_putInOrder_42 rfl hl (by decide) rfl (fun ls hl => ?_)
        exact hd_43 N 1 s hf H locs ls hP hD hS (lv_sub hl [1, 0] rfl)
      · have hf := (if_neg h).symm.trans hf
        refine lv_aload_n hx hb dn_M_putInOrder_15 rfl (lv_at hl 0 rfl) ?_
        refine va_get (D := (dC, dI)) (ci := 0) (v := .ref ((a 72))) (C := rn_M) (T := fn_M) (N := 91) hx hb hg in_M hown hK hP 0 rfl rfl 72 (by decide) (hg _ wn_8_145) (fun _ h9 => h9) rfl dn_M_putInOrder_16 ?_
        refine lv_iload_n hx hb dn_M_putInOrder_19 rfl (lv_at hl 1 rfl) ?_
        refine lv_aload_n hx hb dn_M_putInOrder_20 rfl (lv_at hl 0 rfl) ?_
        refine va_get (D := (dC, dI)) (ci := 0) (v := .ref ((a 66))) (C := rn_M) (T := fn_M) (N := 91) hx hb hg in_M hown hK hP 0 rfl rfl 66 (by decide) (hg _ wn_8_139) (fun _ h9 => h9) rfl dn_M_putInOrder_21 ?_
        refine lv_iload_n hx hb dn_M_putInOrder_24 rfl (lv_at hl 1 rfl) ?_
        obtain ⟨hg_1, hf⟩ := dc_g hf
        refine va_iald hx hb hK hP 46 0 rfl rfl hg_1 dn_M_putInOrder_25 ?_
        refine xk_ti (y := ((s.1 66) (Int32.toNatClampNeg x1))) rfl ?_
        refine lv_if_ne (tgt := 33) hx hb dn_M_putInOrder_26 (by decide) (fun h => ?_) (fun h => ?_)
        · have hf := (if_neg h).symm.trans hf
          refine lv_iconst (v := 0) hx hb dn_M_putInOrder_33 (by decide) ?_
          exact bl_34 k_7 hk_7 x1 0 x1 s hf H locs ls hP hD hS hl
        · have hf := (if_pos h).symm.trans hf
          refine lv_iconst (v := 1) hx hb dn_M_putInOrder_29 (by decide) ?_
          refine lv_goto (tgt := 34) hx hb dn_M_putInOrder_30 (by decide) ?_
          exact bl_34 k_7 hk_7 x1 1 x1 s hf H locs ls hP hD hS hl
  intro H locs ls hP hD hS hl
  unfold fn_M_putInOrder at hf
  refine lv_aload_n hx hb dn_M_putInOrder_0 rfl (lv_at hl 0 rfl) ?_
  refine lv_iconst (v := 0) hx hb dn_M_putInOrder_1 (by decide) ?_
  refine va_put (D := (dC, dI)) (ci := 0) (v := .int 0) (ty := .int) (C := rn_M) (T := fn_M) (N := 91) hx hb hg in_M tn_M tk_M nn_M hown hK hP hD hS 0 rfl rfl 71 (by decide) (hg _ wn_8_144) (fun _ h9 => h9) rfl (tk_M 71 (by decide)) rfl rfl (Nat.le_of_ble_eq_true rfl) dn_M_putInOrder_2 (fun H locs hP hD hS => ?_)
  have hP := wM_P_71 hP
  have hD := wM_D_71 hD
  refine lv_iconst (v := 0) hx hb dn_M_putInOrder_5 (by decide) ?_
  refine lv_istore_n (lv' := [(1, .int 0), (0, .ref h0)]) hx hb dn_M_putInOrder_6 rfl hl (by decide) rfl (fun ls hl => ?_)
  exact hd_7 N 0 (upI s 71 (fun _ => 0)) hf H locs ls hP hD hS (lv_sub hl [1, 0] rfl)
