theorem mo_M_designGrammar_129 (N : Nat) (k_12 : Int32 → ms → Option (Unit × ms)) (y : (Unit × ms)) (hkm_12 : ∀ (x1 : Int32) (s : ms), k_12 x1 s = some y → gl y.2 = gl s) (s : ms) (hf : bk_M_designGrammar_129 N k_12 s = some y) : gl y.2 = gl s := by
  unfold bk_M_designGrammar_129 at hf
  have hm : gl s = gl s := rfl
  obtain ⟨q_1, hc_2, hf⟩ := dc_b hf
  have hm := (mn_M_take N 301 s q_1 hc_2).trans hm
  by_cases h : (q_1.2.1 9 0) = 0
  · have hf := (if_pos h).symm.trans hf
    obtain ⟨q_3, hc_4, hf⟩ := dc_b hf
    have hm := (mn_M_kind N q_1.2 q_3 hc_4).trans hm
    by_cases h : q_3.1 = 403
    · have hf := (if_pos h).symm.trans hf
      exact (hkm_12 0 q_3.2 hf).trans hm
    · have hf := (if_neg h).symm.trans hf
      exact (hkm_12 1 q_3.2 hf).trans hm
  · have hf := (if_neg h).symm.trans hf
    exact (hkm_12 0 q_1.2 hf).trans hm
theorem mb_M_designGrammar_105 (N : Nat) (k_12 : Int32 → ms → Option (Unit × ms)) (y : (Unit × ms)) (hkm_12 : ∀ (x1 : Int32) (s : ms), k_12 x1 s = some y → gl y.2 = gl s) (k_105 : ms → Option (Unit × ms)) (hkm_105 : ∀ (s : ms), k_105 s = some y → gl y.2 = gl s) (s : ms) (hf : bd_M_designGrammar_105 N k_12 k_105 s = some y) : gl y.2 = gl s := by
  unfold bd_M_designGrammar_105 at hf
  have hm : gl s = gl s := rfl
  by_cases h : (s.1 9 0) = 0
  · have hf := (if_pos h).symm.trans hf
    obtain ⟨q_1, hc_2, hf⟩ := dc_b hf
    have hm := (mn_M_kind N s q_1 hc_2).trans hm
    by_cases h : q_1.1 = 301
    · have hf := (if_pos h).symm.trans hf
      exact (mo_M_designGrammar_129 N k_12 y hkm_12 q_1.2 hf).trans hm
    · have hf := (if_neg h).symm.trans hf
      obtain ⟨q_4, hc_5, hf⟩ := dc_b hf
      have hm := (mn_M_itemGrammar N q_1.2 q_4 hc_5).trans hm
      exact (hkm_105 q_4.2 hf).trans hm
  · have hf := (if_neg h).symm.trans hf
    exact (mo_M_designGrammar_129 N k_12 y hkm_12 s hf).trans hm
theorem mh_M_designGrammar_105 (N : Nat) (k_12 : Int32 → ms → Option (Unit × ms)) (y : (Unit × ms)) (hkm_12 : ∀ (x1 : Int32) (s : ms), k_12 x1 s = some y → gl y.2 = gl s) : ∀ (n : Nat) (s : ms), hd_M_designGrammar_105 N k_12 n s = some y → gl y.2 = gl s := by
  intro n
  induction n with
  | zero => intro s hf; cases hf
  | succ n ih => intro s hf; exact mb_M_designGrammar_105 N k_12 y hkm_12 (hd_M_designGrammar_105 N k_12 n) ih s hf
theorem mo_M_designGrammar_93 (N : Nat) (k_12 : Int32 → ms → Option (Unit × ms)) (y : (Unit × ms)) (hkm_12 : ∀ (x1 : Int32) (s : ms), k_12 x1 s = some y → gl y.2 = gl s) (s : ms) (hf : bk_M_designGrammar_93 N k_12 s = some y) : gl y.2 = gl s := by
  unfold bk_M_designGrammar_93 at hf
  have hm : gl s = gl s := rfl
  obtain ⟨q_1, hc_2, hf⟩ := dc_b hf
  have hm := (mn_M_shut N 41 s q_1 hc_2).trans hm
  obtain ⟨q_3, hc_4, hf⟩ := dc_b hf
  have hm := (mn_M_take N 59 q_1.2 q_3 hc_4).trans hm
  exact (mh_M_designGrammar_105 N k_12 y hkm_12 N q_3.2 hf).trans hm
theorem mb_M_designGrammar_67 (N : Nat) (k_12 : Int32 → ms → Option (Unit × ms)) (y : (Unit × ms)) (hkm_12 : ∀ (x1 : Int32) (s : ms), k_12 x1 s = some y → gl y.2 = gl s) (k_67 : ms → Option (Unit × ms)) (hkm_67 : ∀ (s : ms), k_67 s = some y → gl y.2 = gl s) (s : ms) (hf : bd_M_designGrammar_67 N k_12 k_67 s = some y) : gl y.2 = gl s := by
  unfold bd_M_designGrammar_67 at hf
  have hm : gl s = gl s := rfl
  obtain ⟨q_1, hc_2, hf⟩ := dc_b hf
  have hm := (mn_M_is N 44 s q_1 hc_2).trans hm
  by_cases h : q_1.1 = 0
  · have hf := (if_pos h).symm.trans hf
    exact (mo_M_designGrammar_93 N k_12 y hkm_12 q_1.2 hf).trans hm
  · have hf := (if_neg h).symm.trans hf
    obtain ⟨q_4, hc_5, hf⟩ := dc_b hf
    have hm := (mn_M_portGrammar N (upI q_1.2 8 (fun _ => ((q_1.2.1 8 0) + 1))) q_4 hc_5).trans hm
    exact (hkm_67 q_4.2 hf).trans hm
theorem mh_M_designGrammar_67 (N : Nat) (k_12 : Int32 → ms → Option (Unit × ms)) (y : (Unit × ms)) (hkm_12 : ∀ (x1 : Int32) (s : ms), k_12 x1 s = some y → gl y.2 = gl s) : ∀ (n : Nat) (s : ms), hd_M_designGrammar_67 N k_12 n s = some y → gl y.2 = gl s := by
  intro n
  induction n with
  | zero => intro s hf; cases hf
  | succ n ih => intro s hf; exact mb_M_designGrammar_67 N k_12 y hkm_12 (hd_M_designGrammar_67 N k_12 n) ih s hf
theorem mo_M_designGrammar_63 (N : Nat) (k_12 : Int32 → ms → Option (Unit × ms)) (y : (Unit × ms)) (hkm_12 : ∀ (x1 : Int32) (s : ms), k_12 x1 s = some y → gl y.2 = gl s) (s : ms) (hf : bk_M_designGrammar_63 N k_12 s = some y) : gl y.2 = gl s := by
  unfold bk_M_designGrammar_63 at hf
  have hm : gl s = gl s := rfl
  obtain ⟨q_1, hc_2, hf⟩ := dc_b hf
  have hm := (mn_M_portGrammar N s q_1 hc_2).trans hm
  exact (mh_M_designGrammar_67 N k_12 y hkm_12 N q_1.2 hf).trans hm
theorem mb_M_designGrammar_12 (N : Nat) (y : (Unit × ms)) (k_12 : Int32 → ms → Option (Unit × ms)) (hkm_12 : ∀ (x1 : Int32) (s : ms), k_12 x1 s = some y → gl y.2 = gl s) (x1 : Int32) (s : ms) (hf : bd_M_designGrammar_12 N k_12 x1 s = some y) : gl y.2 = gl s := by
  unfold bd_M_designGrammar_12 at hf
  have hm : gl s = gl s := rfl
  by_cases h : x1 = 0
  · have hf := (if_pos h).symm.trans hf
    exact (dc_e hf).trans hm
  · have hf := (if_neg h).symm.trans hf
    by_cases h : (s.1 9 0) = 0
    · have hf := (if_pos h).symm.trans hf
      obtain ⟨q_1, hc_2, hf⟩ := dc_b hf
      have hm := (mn_M_take N 300 s q_1 hc_2).trans hm
      obtain ⟨q_3, hc_4, hf⟩ := dc_b hf
      have hm := (mn_M_take N 400 q_1.2 q_3 hc_4).trans hm
      obtain ⟨q_5, hc_6, hf⟩ := dc_b hf
      have hm := (mn_M_open N 40 q_3.2 q_5 hc_6).trans hm
      obtain ⟨q_7, hc_8, hf⟩ := dc_b hf
      have hm := (mn_M_is N 302 q_5.2 q_7 hc_8).trans hm
      by_cases h : q_7.1 = 0
      · have hf := (if_pos h).symm.trans hf
        obtain ⟨q_10, hc_11, hf⟩ := dc_b hf
        have hm := (mn_M_is N 303 q_7.2 q_10 hc_11).trans hm
        by_cases h : q_10.1 = 0
        · have hf := (if_pos h).symm.trans hf
          exact (mo_M_designGrammar_93 N k_12 y hkm_12 q_10.2 hf).trans hm
        · have hf := (if_neg h).symm.trans hf
          exact (mo_M_designGrammar_63 N k_12 y hkm_12 q_10.2 hf).trans hm
      · have hf := (if_neg h).symm.trans hf
        exact (mo_M_designGrammar_63 N k_12 y hkm_12 q_7.2 hf).trans hm
    · have hf := (if_neg h).symm.trans hf
      exact (dc_e hf).trans hm
theorem mh_M_designGrammar_12 (N : Nat) (y : (Unit × ms)) : ∀ (n : Nat) (x1 : Int32) (s : ms), hd_M_designGrammar_12 N n x1 s = some y → gl y.2 = gl s := by
  intro n
  induction n with
  | zero => intro x1 s hf; cases hf
  | succ n ih => intro x1 s hf; exact mb_M_designGrammar_12 N y (hd_M_designGrammar_12 N n) ih x1 s hf
theorem mn_M_designGrammar (N : Nat) (s : ms) (y : (Unit × ms)) (hf : fn_M_designGrammar N s = some y) : gl y.2 = gl s := by
  unfold fn_M_designGrammar at hf
  have hm : gl s = gl s := rfl
  exact (mh_M_designGrammar_12 N y N 1 (upI (upI s 8 (fun _ => 0)) 11 (fun _ => 0)) hf).trans hm
set_option maxHeartbeats 8000000 in
set_option maxRecDepth 100000 in
theorem ct_M_designGrammar (l : Launch) (dC : Nat → ClassId) (dI : Nat → Nat → Nat) (cI cB cJ cZ cQ : ClassId) (N sz : Nat) (h0 : Nat) (a : Nat → Nat) (s : ms) (y : (Unit × ms)) (hf : fn_M_designGrammar N s = some y) : Met l yn_M_designGrammar (xw yn_M_designGrammar bn_M_designGrammar 2 none) ({ frames := 807, cells := 0, slots := 0, locals := 16145 }) (dc_P (dC, dI) xcl (xt cI cB cJ cZ cQ) [.ref h0] sz (wM h0 a cI cB cJ cZ s)) (xk_Qv (dC, dI) xcl (xt cI cB cJ cZ cQ) (fun _ : Unit => True) (fun u : Unit => (wM h0 a cI cB cJ cZ y.2)) (va_A (wM h0 a cI cB cJ cZ s) sz)) 0 0 (va_A (wM h0 a cI cB cJ cZ s) sz) := by
  refine dc_of (QA := xk_Qv (dC, dI) xcl (xt cI cB cJ cZ cQ) (fun _ : Unit => True) (fun u : Unit => (wM h0 a cI cB cJ cZ y.2))) (by decide) (Nat.le_of_ble_eq_true rfl) ?_
  intro p e s0 m below meth c hx hb hml hown hg hr hlocks hin hP hK hN A hA hD hT ls hl
  have hown : s0.vm.findClass rn_M = some m.cls := hown
  obtain ⟨H, hH⟩ : ∃ z, z = s0.heap := ⟨_, rfl⟩
  rw [← hH] at hP
  have hS : va_S A s0.heap H [] := by rw [hH]; exact va_S.rf
  suffices kk : ∀ QQ : State → Prop, QQ = MQ below (xk_Qv (dC, dI) xcl (xt cI cB cJ cZ cQ) (fun _ : Unit => True) (fun u : Unit => (wM h0 a cI cB cJ cZ y.2)) A) [.ref h0].toArray s0 0 0 A → dcC p l e ({ frames := 807, cells := 0, slots := 0, locals := 16145 }) s0 m [.ref h0].toArray below meth c QQ (dC, dI) A (wM h0 a cI cB cJ cZ s) 0 2 [(0, .ref h0)] [] by
    have k9 := kk _ rfl H [] ls hP hD hS hl
    rw [hH] at k9; exact k9
  clear hP hD hS hl hH H ls
  intro QQ hQQ
  have bl_129 : ∀ (k_12 : Int32 → ms → Option (Unit × ms)) (hk_12 : ∀ (x1 : Int32) (s : ms), k_12 x1 s = some y → dcC p l e ({ frames := 807, cells := 0, slots := 0, locals := 16145 }) s0 m [.ref h0].toArray below meth c QQ (dC, dI) A (wM h0 a cI cB cJ cZ s) 12 2 [(0, .ref h0), (1, .int x1)] []) (s : ms), bk_M_designGrammar_129 N k_12 s = some y → dcC p l e ({ frames := 807, cells := 0, slots := 0, locals := 16145 }) s0 m [.ref h0].toArray below meth c QQ (dC, dI) A (wM h0 a cI cB cJ cZ s) 129 2 [(0, .ref h0)] [] := by
    intro k_12 hk_12 s hf H locs ls hP hD hS hl
    unfold bk_M_designGrammar_129 at hf
    refine lv_aload_n hx hb dn_M_designGrammar_129 rfl (lv_at hl 0 rfl) ?_
    refine lv_sipush (v := 301) hx hb dn_M_designGrammar_130 (by decide) ?_
    obtain ⟨q_1, hc_2, hf⟩ := dc_b hf
    refine dc_callv (dc_runV (ar := 1) (As := [.int 301]) (rest := []) (ci := 0) (q0 := 0) ⟨hx, hb, hml, hown, hg⟩ hK hN hT hS hA (ct_M_take l dC dI cI cB cJ cZ cQ N H.size h0 a 301 s q_1 hc_2) hP hD rfl rfl wn_9_178 wn_9_180 sn_M_take wn_1_13 wn_9_181 rfl rfl (by decide +kernel) ⟨Nat.le_of_ble_eq_true rfl, Nat.le_of_ble_eq_true rfl⟩ rfl hl.1 rfl (Nat.le_of_ble_eq_true rfl) dn_M_designGrammar_133 ⟨Nat.le_of_ble_eq_true rfl, Nat.le_of_ble_eq_true rfl⟩) hP hD hS hA (fun _ H locs hw hP hD hS => ?_)
    refine lv_aload_n hx hb dn_M_designGrammar_136 rfl (lv_at hl 0 rfl) ?_
    refine va_get (D := (dC, dI)) (ci := 0) (v := .int ((q_1.2.1 9 0))) (C := rn_M) (T := fn_M) (N := 91) hx hb hg in_M hown hK hP 0 rfl rfl 9 (by decide) (hg _ wn_8_82) (fun _ h9 => h9) rfl dn_M_designGrammar_137 ?_
    refine lv_if_ne (tgt := 157) hx hb dn_M_designGrammar_140 (by decide) (fun h => ?_) (fun h => ?_)
    · have hf := (if_neg h).symm.trans hf
      refine lv_iconst (v := 0) hx hb dn_M_designGrammar_157 (by decide) ?_
      refine lv_istore_n (lv' := [(1, .int 0), (0, .ref h0)]) hx hb dn_M_designGrammar_158 rfl hl (by decide) rfl (fun ls hl => ?_)
      refine lv_goto (tgt := 12) hx hb dn_M_designGrammar_159 (by decide) ?_
      exact hk_12 0 q_1.2 hf H locs ls hP hD hS (lv_sub hl [1, 0] rfl)
    · have hf := (if_pos h).symm.trans hf
      refine lv_aload_n hx hb dn_M_designGrammar_143 rfl (lv_at hl 0 rfl) ?_
      obtain ⟨q_3, hc_4, hf⟩ := dc_b hf
      refine dc_calli (dc_runV (ar := 0) (As := []) (rest := []) (ci := 0) (q0 := 0) ⟨hx, hb, hml, hown, hg⟩ hK hN hT hS hA (ct_M_kind l dC dI cI cB cJ cZ cQ N H.size h0 a q_1.2 q_3 hc_4) hP hD rfl rfl wn_9_214 wn_9_216 sn_M_kind wn_1_13 wn_9_217 rfl rfl (by decide +kernel) ⟨Nat.le_of_ble_eq_true rfl, Nat.le_of_ble_eq_true rfl⟩ rfl hl.1 rfl (Nat.le_of_ble_eq_true rfl) dn_M_designGrammar_144 ⟨Nat.le_of_ble_eq_true rfl, Nat.le_of_ble_eq_true rfl⟩) hP hD hS hA (fun r_5 _ H locs hw hP hD hS => ?_)
      have hw : r_5 = q_3.1 := hw
      subst hw
      refine lv_sipush (v := 403) hx hb dn_M_designGrammar_147 (by decide) ?_
      refine lv_icmp_eq (tgt := 157) hx hb dn_M_designGrammar_150 (by decide) (fun h => ?_) (fun h => ?_)
      · have hf := (if_pos h).symm.trans hf
        refine lv_iconst (v := 0) hx hb dn_M_designGrammar_157 (by decide) ?_
        refine lv_istore_n (lv' := [(1, .int 0), (0, .ref h0)]) hx hb dn_M_designGrammar_158 rfl hl (by decide) rfl (fun ls hl => ?_)
        refine lv_goto (tgt := 12) hx hb dn_M_designGrammar_159 (by decide) ?_
        exact hk_12 0 q_3.2 hf H locs ls hP hD hS (lv_sub hl [1, 0] rfl)
      · have hf := (if_neg h).symm.trans hf
        refine lv_iconst (v := 1) hx hb dn_M_designGrammar_153 (by decide) ?_
        refine lv_goto (tgt := 158) hx hb dn_M_designGrammar_154 (by decide) ?_
        refine lv_istore_n (lv' := [(1, .int 1), (0, .ref h0)]) hx hb dn_M_designGrammar_158 rfl hl (by decide) rfl (fun ls hl => ?_)
        refine lv_goto (tgt := 12) hx hb dn_M_designGrammar_159 (by decide) ?_
        exact hk_12 1 q_3.2 hf H locs ls hP hD hS (lv_sub hl [1, 0] rfl)
  have hd_105 : ∀ (k_12 : Int32 → ms → Option (Unit × ms)) (hk_12 : ∀ (x1 : Int32) (s : ms), k_12 x1 s = some y → dcC p l e ({ frames := 807, cells := 0, slots := 0, locals := 16145 }) s0 m [.ref h0].toArray below meth c QQ (dC, dI) A (wM h0 a cI cB cJ cZ s) 12 2 [(0, .ref h0), (1, .int x1)] []) (n : Nat) (s : ms), hd_M_designGrammar_105 N k_12 n s = some y → dcC p l e ({ frames := 807, cells := 0, slots := 0, locals := 16145 }) s0 m [.ref h0].toArray below meth c QQ (dC, dI) A (wM h0 a cI cB cJ cZ s) 105 2 [(0, .ref h0)] [] := by
    intro k_12 hk_12 n
    induction n with
    | zero => intro s hf; cases hf
    | succ n ih =>
      intro s hf H locs ls hP hD hS hl
      have hf : bd_M_designGrammar_105 N k_12 (hd_M_designGrammar_105 N k_12 n) s = some y := hf
      have hk_105 := ih
      generalize hd_M_designGrammar_105 N k_12 n = k_105 at hf hk_105
      unfold bd_M_designGrammar_105 at hf
      refine lv_aload_n hx hb dn_M_designGrammar_105 rfl (lv_at hl 0 rfl) ?_
      refine va_get (D := (dC, dI)) (ci := 0) (v := .int ((s.1 9 0))) (C := rn_M) (T := fn_M) (N := 91) hx hb hg in_M hown hK hP 0 rfl rfl 9 (by decide) (hg _ wn_8_82) (fun _ h9 => h9) rfl dn_M_designGrammar_106 ?_
      refine lv_if_ne (tgt := 129) hx hb dn_M_designGrammar_109 (by decide) (fun h => ?_) (fun h => ?_)
      · have hf := (if_neg h).symm.trans hf
        exact bl_129 k_12 hk_12 s hf H locs ls hP hD hS hl
      · have hf := (if_pos h).symm.trans hf
        refine lv_aload_n hx hb dn_M_designGrammar_112 rfl (lv_at hl 0 rfl) ?_
        obtain ⟨q_1, hc_2, hf⟩ := dc_b hf
        refine dc_calli (dc_runV (ar := 0) (As := []) (rest := []) (ci := 0) (q0 := 0) ⟨hx, hb, hml, hown, hg⟩ hK hN hT hS hA (ct_M_kind l dC dI cI cB cJ cZ cQ N H.size h0 a s q_1 hc_2) hP hD rfl rfl wn_9_214 wn_9_216 sn_M_kind wn_1_13 wn_9_217 rfl rfl (by decide +kernel) ⟨Nat.le_of_ble_eq_true rfl, Nat.le_of_ble_eq_true rfl⟩ rfl hl.1 rfl (Nat.le_of_ble_eq_true rfl) dn_M_designGrammar_113 ⟨Nat.le_of_ble_eq_true rfl, Nat.le_of_ble_eq_true rfl⟩) hP hD hS hA (fun r_3 _ H locs hw hP hD hS => ?_)
        have hw : r_3 = q_1.1 := hw
        subst hw
        refine lv_sipush (v := 301) hx hb dn_M_designGrammar_116 (by decide) ?_
        refine lv_icmp_eq (tgt := 129) hx hb dn_M_designGrammar_119 (by decide) (fun h => ?_) (fun h => ?_)
        · have hf := (if_pos h).symm.trans hf
          exact bl_129 k_12 hk_12 q_1.2 hf H locs ls hP hD hS hl
        · have hf := (if_neg h).symm.trans hf
          refine lv_aload_n hx hb dn_M_designGrammar_122 rfl (lv_at hl 0 rfl) ?_
          obtain ⟨q_4, hc_5, hf⟩ := dc_b hf
          refine dc_callv (dc_runV (ar := 0) (As := []) (rest := []) (ci := 0) (q0 := 0) ⟨hx, hb, hml, hown, hg⟩ hK hN hT hS hA (ct_M_itemGrammar l dC dI cI cB cJ cZ cQ N H.size h0 a q_1.2 q_4 hc_5) hP hD rfl rfl wn_9_218 wn_9_220 sn_M_itemGrammar wn_1_13 wn_9_221 rfl rfl (by decide +kernel) ⟨Nat.le_of_ble_eq_true rfl, Nat.le_of_ble_eq_true rfl⟩ rfl hl.1 rfl (Nat.le_of_ble_eq_true rfl) dn_M_designGrammar_123 ⟨Nat.le_of_ble_eq_true rfl, Nat.le_of_ble_eq_true rfl⟩) hP hD hS hA (fun _ H locs hw hP hD hS => ?_)
          refine lv_goto (tgt := 105) hx hb dn_M_designGrammar_126 (by decide) ?_
          exact hk_105 q_4.2 hf H locs ls hP hD hS hl
  have bl_93 : ∀ (k_12 : Int32 → ms → Option (Unit × ms)) (hk_12 : ∀ (x1 : Int32) (s : ms), k_12 x1 s = some y → dcC p l e ({ frames := 807, cells := 0, slots := 0, locals := 16145 }) s0 m [.ref h0].toArray below meth c QQ (dC, dI) A (wM h0 a cI cB cJ cZ s) 12 2 [(0, .ref h0), (1, .int x1)] []) (s : ms), bk_M_designGrammar_93 N k_12 s = some y → dcC p l e ({ frames := 807, cells := 0, slots := 0, locals := 16145 }) s0 m [.ref h0].toArray below meth c QQ (dC, dI) A (wM h0 a cI cB cJ cZ s) 93 2 [(0, .ref h0)] [] := by
    intro k_12 hk_12 s hf H locs ls hP hD hS hl
    unfold bk_M_designGrammar_93 at hf
    refine lv_aload_n hx hb dn_M_designGrammar_93 rfl (lv_at hl 0 rfl) ?_
    refine lv_bipush (v := 41) hx hb dn_M_designGrammar_94 (by decide) ?_
    obtain ⟨q_1, hc_2, hf⟩ := dc_b hf
    refine dc_callv (dc_runV (ar := 1) (As := [.int 41]) (rest := []) (ci := 0) (q0 := 0) ⟨hx, hb, hml, hown, hg⟩ hK hN hT hS hA (ct_M_shut l dC dI cI cB cJ cZ cQ N H.size h0 a 41 s q_1 hc_2) hP hD rfl rfl wn_9_206 wn_9_208 sn_M_shut wn_1_13 wn_9_209 rfl rfl (by decide +kernel) ⟨Nat.le_of_ble_eq_true rfl, Nat.le_of_ble_eq_true rfl⟩ rfl hl.1 rfl (Nat.le_of_ble_eq_true rfl) dn_M_designGrammar_96 ⟨Nat.le_of_ble_eq_true rfl, Nat.le_of_ble_eq_true rfl⟩) hP hD hS hA (fun _ H locs hw hP hD hS => ?_)
    refine lv_aload_n hx hb dn_M_designGrammar_99 rfl (lv_at hl 0 rfl) ?_
    refine lv_bipush (v := 59) hx hb dn_M_designGrammar_100 (by decide) ?_
    obtain ⟨q_3, hc_4, hf⟩ := dc_b hf
    refine dc_callv (dc_runV (ar := 1) (As := [.int 59]) (rest := []) (ci := 0) (q0 := 0) ⟨hx, hb, hml, hown, hg⟩ hK hN hT hS hA (ct_M_take l dC dI cI cB cJ cZ cQ N H.size h0 a 59 q_1.2 q_3 hc_4) hP hD rfl rfl wn_9_178 wn_9_180 sn_M_take wn_1_13 wn_9_181 rfl rfl (by decide +kernel) ⟨Nat.le_of_ble_eq_true rfl, Nat.le_of_ble_eq_true rfl⟩ rfl hl.1 rfl (Nat.le_of_ble_eq_true rfl) dn_M_designGrammar_102 ⟨Nat.le_of_ble_eq_true rfl, Nat.le_of_ble_eq_true rfl⟩) hP hD hS hA (fun _ H locs hw hP hD hS => ?_)
    exact hd_105 k_12 hk_12 N q_3.2 hf H locs ls hP hD hS hl
  have hd_67 : ∀ (k_12 : Int32 → ms → Option (Unit × ms)) (hk_12 : ∀ (x1 : Int32) (s : ms), k_12 x1 s = some y → dcC p l e ({ frames := 807, cells := 0, slots := 0, locals := 16145 }) s0 m [.ref h0].toArray below meth c QQ (dC, dI) A (wM h0 a cI cB cJ cZ s) 12 2 [(0, .ref h0), (1, .int x1)] []) (n : Nat) (s : ms), hd_M_designGrammar_67 N k_12 n s = some y → dcC p l e ({ frames := 807, cells := 0, slots := 0, locals := 16145 }) s0 m [.ref h0].toArray below meth c QQ (dC, dI) A (wM h0 a cI cB cJ cZ s) 67 2 [(0, .ref h0)] [] := by
    intro k_12 hk_12 n
    induction n with
    | zero => intro s hf; cases hf
    | succ n ih =>
      intro s hf H locs ls hP hD hS hl
      have hf : bd_M_designGrammar_67 N k_12 (hd_M_designGrammar_67 N k_12 n) s = some y := hf
      have hk_67 := ih
      generalize hd_M_designGrammar_67 N k_12 n = k_67 at hf hk_67
      unfold bd_M_designGrammar_67 at hf
      refine lv_aload_n hx hb dn_M_designGrammar_67 rfl (lv_at hl 0 rfl) ?_
      refine lv_bipush (v := 44) hx hb dn_M_designGrammar_68 (by decide) ?_
      obtain ⟨q_1, hc_2, hf⟩ := dc_b hf
      refine dc_calli (dc_runV (ar := 1) (As := [.int 44]) (rest := []) (ci := 0) (q0 := 0) ⟨hx, hb, hml, hown, hg⟩ hK hN hT hS hA (ct_M_is l dC dI cI cB cJ cZ cQ N H.size h0 a 44 s q_1 hc_2) hP hD rfl rfl wn_9_194 wn_9_196 sn_M_is wn_1_13 wn_9_197 rfl rfl (by decide +kernel) ⟨Nat.le_of_ble_eq_true rfl, Nat.le_of_ble_eq_true rfl⟩ rfl hl.1 rfl (Nat.le_of_ble_eq_true rfl) dn_M_designGrammar_70 ⟨Nat.le_of_ble_eq_true rfl, Nat.le_of_ble_eq_true rfl⟩) hP hD hS hA (fun r_3 _ H locs hw hP hD hS => ?_)
      have hw : r_3 = q_1.1 := hw
      subst hw
      refine lv_if_eq (tgt := 93) hx hb dn_M_designGrammar_73 (by decide) (fun h => ?_) (fun h => ?_)
      · have hf := (if_pos h).symm.trans hf
        exact bl_93 k_12 hk_12 q_1.2 hf H locs ls hP hD hS hl
      · have hf := (if_neg h).symm.trans hf
        refine lv_aload_n hx hb dn_M_designGrammar_76 rfl (lv_at hl 0 rfl) ?_
        refine lv_dup hx hb dn_M_designGrammar_77 rfl ?_
        refine va_get (D := (dC, dI)) (ci := 0) (v := .int ((q_1.2.1 8 0))) (C := rn_M) (T := fn_M) (N := 91) hx hb hg in_M hown hK hP 0 rfl rfl 8 (by decide) (hg _ wn_8_81) (fun _ h9 => h9) rfl dn_M_designGrammar_78 ?_
        refine lv_iconst (v := 1) hx hb dn_M_designGrammar_81 (by decide) ?_
        refine lv_iadd hx hb dn_M_designGrammar_82 ?_
        refine va_put (D := (dC, dI)) (ci := 0) (v := .int (((q_1.2.1 8 0) + 1))) (ty := .int) (C := rn_M) (T := fn_M) (N := 91) hx hb hg in_M tn_M tk_M nn_M hown hK hP hD hS 0 rfl rfl 8 (by decide) (hg _ wn_8_81) (fun _ h9 => h9) rfl (tk_M 8 (by decide)) rfl rfl (Nat.le_of_ble_eq_true rfl) dn_M_designGrammar_83 (fun H locs hP hD hS => ?_)
        have hP := wM_P_8 hP
        have hD := wM_D_8 hD
        refine lv_aload_n hx hb dn_M_designGrammar_86 rfl (lv_at hl 0 rfl) ?_
        obtain ⟨q_4, hc_5, hf⟩ := dc_b hf
        refine dc_callv (dc_runV (ar := 0) (As := []) (rest := []) (ci := 0) (q0 := 0) ⟨hx, hb, hml, hown, hg⟩ hK hN hT hS hA (ct_M_portGrammar l dC dI cI cB cJ cZ cQ N H.size h0 a (upI q_1.2 8 (fun _ => ((q_1.2.1 8 0) + 1))) q_4 hc_5) hP hD rfl rfl wn_9_198 wn_9_200 sn_M_portGrammar wn_1_13 wn_9_201 rfl rfl (by decide +kernel) ⟨Nat.le_of_ble_eq_true rfl, Nat.le_of_ble_eq_true rfl⟩ rfl hl.1 rfl (Nat.le_of_ble_eq_true rfl) dn_M_designGrammar_87 ⟨Nat.le_of_ble_eq_true rfl, Nat.le_of_ble_eq_true rfl⟩) hP hD hS hA (fun _ H locs hw hP hD hS => ?_)
        refine lv_goto (tgt := 67) hx hb dn_M_designGrammar_90 (by decide) ?_
        exact hk_67 q_4.2 hf H locs ls hP hD hS hl
  have bl_63 : ∀ (k_12 : Int32 → ms → Option (Unit × ms)) (hk_12 : ∀ (x1 : Int32) (s : ms), k_12 x1 s = some y → dcC p l e ({ frames := 807, cells := 0, slots := 0, locals := 16145 }) s0 m [.ref h0].toArray below meth c QQ (dC, dI) A (wM h0 a cI cB cJ cZ s) 12 2 [(0, .ref h0), (1, .int x1)] []) (s : ms), bk_M_designGrammar_63 N k_12 s = some y → dcC p l e ({ frames := 807, cells := 0, slots := 0, locals := 16145 }) s0 m [.ref h0].toArray below meth c QQ (dC, dI) A (wM h0 a cI cB cJ cZ s) 63 2 [(0, .ref h0)] [] := by
    intro k_12 hk_12 s hf H locs ls hP hD hS hl
    unfold bk_M_designGrammar_63 at hf
    refine lv_aload_n hx hb dn_M_designGrammar_63 rfl (lv_at hl 0 rfl) ?_
    obtain ⟨q_1, hc_2, hf⟩ := dc_b hf
    refine dc_callv (dc_runV (ar := 0) (As := []) (rest := []) (ci := 0) (q0 := 0) ⟨hx, hb, hml, hown, hg⟩ hK hN hT hS hA (ct_M_portGrammar l dC dI cI cB cJ cZ cQ N H.size h0 a s q_1 hc_2) hP hD rfl rfl wn_9_198 wn_9_200 sn_M_portGrammar wn_1_13 wn_9_201 rfl rfl (by decide +kernel) ⟨Nat.le_of_ble_eq_true rfl, Nat.le_of_ble_eq_true rfl⟩ rfl hl.1 rfl (Nat.le_of_ble_eq_true rfl) dn_M_designGrammar_64 ⟨Nat.le_of_ble_eq_true rfl, Nat.le_of_ble_eq_true rfl⟩) hP hD hS hA (fun _ H locs hw hP hD hS => ?_)
    exact hd_67 k_12 hk_12 N q_1.2 hf H locs ls hP hD hS hl
  have hd_12 : ∀ (n : Nat) (x1 : Int32) (s : ms), hd_M_designGrammar_12 N n x1 s = some y → dcC p l e ({ frames := 807, cells := 0, slots := 0, locals := 16145 }) s0 m [.ref h0].toArray below meth c QQ (dC, dI) A (wM h0 a cI cB cJ cZ s) 12 2 [(0, .ref h0), (1, .int x1)] [] := by
    intro n
    induction n with
    | zero => intro x1 s hf; cases hf
    | succ n ih =>
      intro x1 s hf H locs ls hP hD hS hl
      have hf : bd_M_designGrammar_12 N (hd_M_designGrammar_12 N n) x1 s = some y := hf
      have hk_12 := ih
      generalize hd_M_designGrammar_12 N n = k_12 at hf hk_12
      unfold bd_M_designGrammar_12 at hf
      refine lv_iload_n hx hb dn_M_designGrammar_12 rfl (lv_at hl 1 rfl) ?_
      refine lv_if_eq (tgt := 162) hx hb dn_M_designGrammar_13 (by decide) (fun h => ?_) (fun h => ?_)
      · have hf := (if_pos h).symm.trans hf
        rw [hQQ, ← Option.some.inj hf]
        exact xk_vret (w1 := fun u : Unit => (wM h0 a cI cB cJ cZ s)) () hx hb hr hlocks hK hS dn_M_designGrammar_162 hP hD trivial (Nat.le_refl _) (Nat.le_refl _)
      · have hf := (if_neg h).symm.trans hf
        refine lv_aload_n hx hb dn_M_designGrammar_16 rfl (lv_at hl 0 rfl) ?_
        refine va_get (D := (dC, dI)) (ci := 0) (v := .int ((s.1 9 0))) (C := rn_M) (T := fn_M) (N := 91) hx hb hg in_M hown hK hP 0 rfl rfl 9 (by decide) (hg _ wn_8_82) (fun _ h9 => h9) rfl dn_M_designGrammar_17 ?_
        refine lv_if_ne (tgt := 162) hx hb dn_M_designGrammar_20 (by decide) (fun h => ?_) (fun h => ?_)
        · have hf := (if_neg h).symm.trans hf
          rw [hQQ, ← Option.some.inj hf]
          exact xk_vret (w1 := fun u : Unit => (wM h0 a cI cB cJ cZ s)) () hx hb hr hlocks hK hS dn_M_designGrammar_162 hP hD trivial (Nat.le_refl _) (Nat.le_refl _)
        · have hf := (if_pos h).symm.trans hf
          refine lv_aload_n hx hb dn_M_designGrammar_23 rfl (lv_at hl 0 rfl) ?_
          refine lv_sipush (v := 300) hx hb dn_M_designGrammar_24 (by decide) ?_
          obtain ⟨q_1, hc_2, hf⟩ := dc_b hf
          refine dc_callv (dc_runV (ar := 1) (As := [.int 300]) (rest := []) (ci := 0) (q0 := 0) ⟨hx, hb, hml, hown, hg⟩ hK hN hT hS hA (ct_M_take l dC dI cI cB cJ cZ cQ N H.size h0 a 300 s q_1 hc_2) hP hD rfl rfl wn_9_178 wn_9_180 sn_M_take wn_1_13 wn_9_181 rfl rfl (by decide +kernel) ⟨Nat.le_of_ble_eq_true rfl, Nat.le_of_ble_eq_true rfl⟩ rfl hl.1 rfl (Nat.le_of_ble_eq_true rfl) dn_M_designGrammar_27 ⟨Nat.le_of_ble_eq_true rfl, Nat.le_of_ble_eq_true rfl⟩) hP hD hS hA (fun _ H locs hw hP hD hS => ?_)
          refine lv_aload_n hx hb dn_M_designGrammar_30 rfl (lv_at hl 0 rfl) ?_
          refine lv_sipush (v := 400) hx hb dn_M_designGrammar_31 (by decide) ?_
          obtain ⟨q_3, hc_4, hf⟩ := dc_b hf
          refine dc_callv (dc_runV (ar := 1) (As := [.int 400]) (rest := []) (ci := 0) (q0 := 0) ⟨hx, hb, hml, hown, hg⟩ hK hN hT hS hA (ct_M_take l dC dI cI cB cJ cZ cQ N H.size h0 a 400 q_1.2 q_3 hc_4) hP hD rfl rfl wn_9_178 wn_9_180 sn_M_take wn_1_13 wn_9_181 rfl rfl (by decide +kernel) ⟨Nat.le_of_ble_eq_true rfl, Nat.le_of_ble_eq_true rfl⟩ rfl hl.1 rfl (Nat.le_of_ble_eq_true rfl) dn_M_designGrammar_34 ⟨Nat.le_of_ble_eq_true rfl, Nat.le_of_ble_eq_true rfl⟩) hP hD hS hA (fun _ H locs hw hP hD hS => ?_)
          refine lv_aload_n hx hb dn_M_designGrammar_37 rfl (lv_at hl 0 rfl) ?_
          refine lv_bipush (v := 40) hx hb dn_M_designGrammar_38 (by decide) ?_
          obtain ⟨q_5, hc_6, hf⟩ := dc_b hf
          refine dc_callv (dc_runV (ar := 1) (As := [.int 40]) (rest := []) (ci := 0) (q0 := 0) ⟨hx, hb, hml, hown, hg⟩ hK hN hT hS hA (ct_M_open l dC dI cI cB cJ cZ cQ N H.size h0 a 40 q_3.2 q_5 hc_6) hP hD rfl rfl wn_9_190 wn_9_192 sn_M_open wn_1_13 wn_9_193 rfl rfl (by decide +kernel) ⟨Nat.le_of_ble_eq_true rfl, Nat.le_of_ble_eq_true rfl⟩ rfl hl.1 rfl (Nat.le_of_ble_eq_true rfl) dn_M_designGrammar_40 ⟨Nat.le_of_ble_eq_true rfl, Nat.le_of_ble_eq_true rfl⟩) hP hD hS hA (fun _ H locs hw hP hD hS => ?_)
          refine lv_aload_n hx hb dn_M_designGrammar_43 rfl (lv_at hl 0 rfl) ?_
          refine lv_sipush (v := 302) hx hb dn_M_designGrammar_44 (by decide) ?_
          obtain ⟨q_7, hc_8, hf⟩ := dc_b hf
          refine dc_calli (dc_runV (ar := 1) (As := [.int 302]) (rest := []) (ci := 0) (q0 := 0) ⟨hx, hb, hml, hown, hg⟩ hK hN hT hS hA (ct_M_is l dC dI cI cB cJ cZ cQ N H.size h0 a 302 q_5.2 q_7 hc_8) hP hD rfl rfl wn_9_194 wn_9_196 sn_M_is wn_1_13 wn_9_197 rfl rfl (by decide +kernel) ⟨Nat.le_of_ble_eq_true rfl, Nat.le_of_ble_eq_true rfl⟩ rfl hl.1 rfl (Nat.le_of_ble_eq_true rfl) dn_M_designGrammar_47 ⟨Nat.le_of_ble_eq_true rfl, Nat.le_of_ble_eq_true rfl⟩) hP hD hS hA (fun r_9 _ H locs hw hP hD hS => ?_)
          have hw : r_9 = q_7.1 := hw
          subst hw
          refine lv_if_ne (tgt := 63) hx hb dn_M_designGrammar_50 (by decide) (fun h => ?_) (fun h => ?_)
          · have hf := (if_neg h).symm.trans hf
            exact bl_63 k_12 hk_12 q_7.2 hf H locs ls hP hD hS (lv_sub hl [0] rfl)
          · have hf := (if_pos h).symm.trans hf
            refine lv_aload_n hx hb dn_M_designGrammar_53 rfl (lv_at hl 0 rfl) ?_
            refine lv_sipush (v := 303) hx hb dn_M_designGrammar_54 (by decide) ?_
            obtain ⟨q_10, hc_11, hf⟩ := dc_b hf
            refine dc_calli (dc_runV (ar := 1) (As := [.int 303]) (rest := []) (ci := 0) (q0 := 0) ⟨hx, hb, hml, hown, hg⟩ hK hN hT hS hA (ct_M_is l dC dI cI cB cJ cZ cQ N H.size h0 a 303 q_7.2 q_10 hc_11) hP hD rfl rfl wn_9_194 wn_9_196 sn_M_is wn_1_13 wn_9_197 rfl rfl (by decide +kernel) ⟨Nat.le_of_ble_eq_true rfl, Nat.le_of_ble_eq_true rfl⟩ rfl hl.1 rfl (Nat.le_of_ble_eq_true rfl) dn_M_designGrammar_57 ⟨Nat.le_of_ble_eq_true rfl, Nat.le_of_ble_eq_true rfl⟩) hP hD hS hA (fun r_12 _ H locs hw hP hD hS => ?_)
            have hw : r_12 = q_10.1 := hw
            subst hw
            refine lv_if_eq (tgt := 93) hx hb dn_M_designGrammar_60 (by decide) (fun h => ?_) (fun h => ?_)
            · have hf := (if_pos h).symm.trans hf
              exact bl_93 k_12 hk_12 q_10.2 hf H locs ls hP hD hS (lv_sub hl [0] rfl)
            · have hf := (if_neg h).symm.trans hf
              exact bl_63 k_12 hk_12 q_10.2 hf H locs ls hP hD hS (lv_sub hl [0] rfl)
  intro H locs ls hP hD hS hl
  unfold fn_M_designGrammar at hf
  refine lv_aload_n hx hb dn_M_designGrammar_0 rfl (lv_at hl 0 rfl) ?_
  refine lv_iconst (v := 0) hx hb dn_M_designGrammar_1 (by decide) ?_
  refine va_put (D := (dC, dI)) (ci := 0) (v := .int 0) (ty := .int) (C := rn_M) (T := fn_M) (N := 91) hx hb hg in_M tn_M tk_M nn_M hown hK hP hD hS 0 rfl rfl 8 (by decide) (hg _ wn_8_81) (fun _ h9 => h9) rfl (tk_M 8 (by decide)) rfl rfl (Nat.le_of_ble_eq_true rfl) dn_M_designGrammar_2 (fun H locs hP hD hS => ?_)
  have hP := wM_P_8 hP
  have hD := wM_D_8 hD
  refine lv_aload_n hx hb dn_M_designGrammar_5 rfl (lv_at hl 0 rfl) ?_
  refine lv_iconst (v := 0) hx hb dn_M_designGrammar_6 (by decide) ?_
  refine va_put (D := (dC, dI)) (ci := 0) (v := .int 0) (ty := .int) (C := rn_M) (T := fn_M) (N := 91) hx hb hg in_M tn_M tk_M nn_M hown hK hP hD hS 0 rfl rfl 11 (by decide) (hg _ wn_8_84) (fun _ h9 => h9) rfl (tk_M 11 (by decide)) rfl rfl (Nat.le_of_ble_eq_true rfl) dn_M_designGrammar_7 (fun H locs hP hD hS => ?_)
  have hP := wM_P_11 hP
  have hD := wM_D_11 hD
  refine lv_iconst (v := 1) hx hb dn_M_designGrammar_10 (by decide) ?_
  refine lv_istore_n (lv' := [(1, .int 1), (0, .ref h0)]) hx hb dn_M_designGrammar_11 rfl hl (by decide) rfl (fun ls hl => ?_)
  exact hd_12 N 1 (upI (upI s 8 (fun _ => 0)) 11 (fun _ => 0)) hf H locs ls hP hD hS (lv_sub hl [1, 0] rfl)
theorem mb_M_sameToken_38 (N : Nat) (y : (Int32 × ms)) (k_38 : Int32 → Int32 → Int32 → Int32 → ms → Option (Int32 × ms)) (hkm_38 : ∀ (x1 : Int32) (x2 : Int32) (x3 : Int32) (x4 : Int32) (s : ms), k_38 x1 x2 x3 x4 s = some y → gl y.2 = gl s) (x1 : Int32) (x2 : Int32) (x3 : Int32) (x4 : Int32) (s : ms) (hf : bd_M_sameToken_38 N k_38 x1 x2 x3 x4 s = some y) : gl y.2 = gl s := by
  unfold bd_M_sameToken_38 at hf
  have hm : gl s = gl s := rfl
  by_cases h : x3 = 0
  · have hf := (if_pos h).symm.trans hf
    obtain ⟨_, hf⟩ := dc_g hf
    exact (dc_e hf).trans hm
  · have hf := (if_neg h).symm.trans hf
    obtain ⟨_, hf⟩ := dc_g hf
    obtain ⟨_, hf⟩ := dc_g hf
    by_cases h : (((s.1 6) (Int32.toNatClampNeg x1)) - ((s.1 5) (Int32.toNatClampNeg x1))) ≤ x4
    · have hf := (if_pos h).symm.trans hf
      obtain ⟨_, hf⟩ := dc_g hf
      exact (dc_e hf).trans hm
    · have hf := (if_neg h).symm.trans hf
      obtain ⟨_, hf⟩ := dc_g hf
      obtain ⟨_, hf⟩ := dc_g hf
      obtain ⟨_, hf⟩ := dc_g hf
      obtain ⟨_, hf⟩ := dc_g hf
      by_cases h : ((s.1 90) (Int32.toNatClampNeg ((((s.1 5) (Int32.toNatClampNeg x1)) + x4)))) = ((s.1 90) (Int32.toNatClampNeg ((((s.1 5) (Int32.toNatClampNeg x2)) + x4))))
      · have hf := (if_pos h).symm.trans hf
        exact (hkm_38 x1 x2 1 ((x4 + 1)) s hf).trans hm
      · have hf := (if_neg h).symm.trans hf
        exact (hkm_38 x1 x2 0 ((x4 + 1)) s hf).trans hm
theorem mh_M_sameToken_38 (N : Nat) (y : (Int32 × ms)) : ∀ (n : Nat) (x1 : Int32) (x2 : Int32) (x3 : Int32) (x4 : Int32) (s : ms), hd_M_sameToken_38 N n x1 x2 x3 x4 s = some y → gl y.2 = gl s := by
  intro n
  induction n with
  | zero => intro x1 x2 x3 x4 s hf; cases hf
  | succ n ih => intro x1 x2 x3 x4 s hf; exact mb_M_sameToken_38 N y (hd_M_sameToken_38 N n) ih x1 x2 x3 x4 s hf
theorem mn_M_sameToken (N : Nat) (v1 : Int32) (v2 : Int32) (s : ms) (y : (Int32 × ms)) (hf : fn_M_sameToken N v1 v2 s = some y) : gl y.2 = gl s := by
  unfold fn_M_sameToken at hf
  have hm : gl s = gl s := rfl
  obtain ⟨_, hf⟩ := dc_g hf
  obtain ⟨_, hf⟩ := dc_g hf
  obtain ⟨_, hf⟩ := dc_g hf
  obtain ⟨_, hf⟩ := dc_g hf
  by_cases h : (((s.1 6) (Int32.toNatClampNeg v1)) - ((s.1 5) (Int32.toNatClampNeg v1))) = (((s.1 6) (Int32.toNatClampNeg v2)) - ((s.1 5) (Int32.toNatClampNeg v2)))
  · have hf := (if_pos h).symm.trans hf
    exact (mh_M_sameToken_38 N y N v1 v2 1 0 s hf).trans hm
  · have hf := (if_neg h).symm.trans hf
    exact (mh_M_sameToken_38 N y N v1 v2 0 0 s hf).trans hm
set_option maxHeartbeats 8000000 in
set_option maxRecDepth 100000 in
theorem ct_M_sameToken (l : Launch) (dC : Nat → ClassId) (dI : Nat → Nat → Nat) (cI cB cJ cZ cQ : ClassId) (N sz : Nat) (h0 : Nat) (a : Nat → Nat) (v1 : Int32) (v2 : Int32) (s : ms) (y : (Int32 × ms)) (hf : fn_M_sameToken N v1 v2 s = some y) : Met l yn_M_sameToken (xw yn_M_sameToken bn_M_sameToken 5 (some .boolean)) ({ frames := 0, cells := 0, slots := 0, locals := 0 }) (dc_P (dC, dI) xcl (xt cI cB cJ cZ cQ) [.ref h0, .int v1, .int v2] sz (wM h0 a cI cB cJ cZ s)) (xk_Qi (dC, dI) xcl (xt cI cB cJ cZ cQ) (fun (r : Int32) (_ : Unit) => r = y.1) (fun u : Unit => (wM h0 a cI cB cJ cZ y.2)) (va_A (wM h0 a cI cB cJ cZ s) sz)) 0 0 (va_A (wM h0 a cI cB cJ cZ s) sz) := by
  refine dc_of (QA := xk_Qi (dC, dI) xcl (xt cI cB cJ cZ cQ) (fun (r : Int32) (_ : Unit) => r = y.1) (fun u : Unit => (wM h0 a cI cB cJ cZ y.2))) (by decide) (Nat.le_of_ble_eq_true rfl) ?_
  intro p e s0 m below meth c hx hb hml hown hg hr hlocks hin hP hK hN A hA hD hT ls hl
  have hown : s0.vm.findClass rn_M = some m.cls := hown
  obtain ⟨H, hH⟩ : ∃ z, z = s0.heap := ⟨_, rfl⟩
  rw [← hH] at hP
  have hS : va_S A s0.heap H [] := by rw [hH]; exact va_S.rf
  suffices kk : ∀ QQ : State → Prop, QQ = MQ below (xk_Qi (dC, dI) xcl (xt cI cB cJ cZ cQ) (fun (r : Int32) (_ : Unit) => r = y.1) (fun u : Unit => (wM h0 a cI cB cJ cZ y.2)) A) [.ref h0, .int v1, .int v2].toArray s0 0 0 A → dcC p l e ({ frames := 0, cells := 0, slots := 0, locals := 0 }) s0 m [.ref h0, .int v1, .int v2].toArray below meth c QQ (dC, dI) A (wM h0 a cI cB cJ cZ s) 0 5 [(0, .ref h0), (1, .int v1), (2, .int v2)] [] by
    have k9 := kk _ rfl H [] ls hP hD hS hl
    rw [hH] at k9; exact k9
  clear hP hD hS hl hH H ls
  intro QQ hQQ
  have hd_38 : ∀ (n : Nat) (x1 : Int32) (x2 : Int32) (x3 : Int32) (x4 : Int32) (s : ms), hd_M_sameToken_38 N n x1 x2 x3 x4 s = some y → dcC p l e ({ frames := 0, cells := 0, slots := 0, locals := 0 }) s0 m [.ref h0, .int v1, .int v2].toArray below meth c QQ (dC, dI) A (wM h0 a cI cB cJ cZ s) 38 5 [(0, .ref h0), (1, .int x1), (2, .int x2), (3, .int x3), (4, .int x4)] [] := by
    intro n
    induction n with
    | zero => intro x1 x2 x3 x4 s hf; cases hf
    | succ n ih =>
      intro x1 x2 x3 x4 s hf H locs ls hP hD hS hl
      have hf : bd_M_sameToken_38 N (hd_M_sameToken_38 N n) x1 x2 x3 x4 s = some y := hf
      have hk_38 := ih
      generalize hd_M_sameToken_38 N n = k_38 at hf hk_38
      unfold bd_M_sameToken_38 at hf
      refine lv_iload_n hx hb dn_M_sameToken_38 rfl (lv_at hl 3 rfl) ?_
      refine lv_if_eq (tgt := 103) hx hb dn_M_sameToken_39 (by decide) (fun h => ?_) (fun h => ?_)
      · have hf := (if_pos h).symm.trans hf
        refine lv_iload_n hx hb dn_M_sameToken_103 rfl (lv_at hl 3 rfl) ?_
        obtain ⟨hg_1, hf⟩ := dc_g hf
        rw [hQQ, ← Option.some.inj hf]
        exact xk_zret (w1 := fun u : Unit => (wM h0 a cI cB cJ cZ s)) () hx hb hr (dc_z hg_1) hlocks hK hS dn_M_sameToken_104 hP hD rfl (Nat.le_refl _) (Nat.le_refl _)
      · have hf := (if_neg h).symm.trans hf
        refine lv_iload hx hb dn_M_sameToken_42 (lv_at hl 4 rfl) ?_
        refine lv_aload_n hx hb dn_M_sameToken_44 rfl (lv_at hl 0 rfl) ?_
        refine va_get (D := (dC, dI)) (ci := 0) (v := .ref ((a 6))) (C := rn_M) (T := fn_M) (N := 91) hx hb hg in_M hown hK hP 0 rfl rfl 6 (by decide) (hg _ wn_8_79) (fun _ h9 => h9) rfl dn_M_sameToken_45 ?_
        refine lv_iload_n hx hb dn_M_sameToken_48 rfl (lv_at hl 1 rfl) ?_
        obtain ⟨hg_1, hf⟩ := dc_g hf
        refine va_iald hx hb hK hP 4 0 rfl rfl hg_1 dn_M_sameToken_49 ?_
        refine xk_ti (y := ((s.1 6) (Int32.toNatClampNeg x1))) rfl ?_
        refine lv_aload_n hx hb dn_M_sameToken_50 rfl (lv_at hl 0 rfl) ?_
        refine va_get (D := (dC, dI)) (ci := 0) (v := .ref ((a 5))) (C := rn_M) (T := fn_M) (N := 91) hx hb hg in_M hown hK hP 0 rfl rfl 5 (by decide) (hg _ wn_8_78) (fun _ h9 => h9) rfl dn_M_sameToken_51 ?_
        refine lv_iload_n hx hb dn_M_sameToken_54 rfl (lv_at hl 1 rfl) ?_
        obtain ⟨hg_2, hf⟩ := dc_g hf
        refine va_iald hx hb hK hP 3 0 rfl rfl hg_2 dn_M_sameToken_55 ?_
        refine xk_ti (y := ((s.1 5) (Int32.toNatClampNeg x1))) rfl ?_
        refine lv_isub hx hb dn_M_sameToken_56 ?_
        refine lv_icmp_ge (tgt := 103) hx hb dn_M_sameToken_57 (by decide) (fun h => ?_) (fun h => ?_)
        · have hf := (if_pos h).symm.trans hf
          refine lv_iload_n hx hb dn_M_sameToken_103 rfl (lv_at hl 3 rfl) ?_
          obtain ⟨hg_3, hf⟩ := dc_g hf
          rw [hQQ, ← Option.some.inj hf]
          exact xk_zret (w1 := fun u : Unit => (wM h0 a cI cB cJ cZ s)) () hx hb hr (dc_z hg_3) hlocks hK hS dn_M_sameToken_104 hP hD rfl (Nat.le_refl _) (Nat.le_refl _)
        · have hf := (if_neg h).symm.trans hf
          refine lv_aload_n hx hb dn_M_sameToken_60 rfl (lv_at hl 0 rfl) ?_
          refine va_get (D := (dC, dI)) (ci := 0) (v := .ref ((a 90))) (C := rn_M) (T := fn_M) (N := 91) hx hb hg in_M hown hK hP 0 rfl rfl 90 (by decide) (hg _ wn_8_163) (fun _ h9 => h9) rfl dn_M_sameToken_61 ?_
          refine lv_aload_n hx hb dn_M_sameToken_64 rfl (lv_at hl 0 rfl) ?_
          refine va_get (D := (dC, dI)) (ci := 0) (v := .ref ((a 5))) (C := rn_M) (T := fn_M) (N := 91) hx hb hg in_M hown hK hP 0 rfl rfl 5 (by decide) (hg _ wn_8_78) (fun _ h9 => h9) rfl dn_M_sameToken_65 ?_
          refine lv_iload_n hx hb dn_M_sameToken_68 rfl (lv_at hl 1 rfl) ?_
          obtain ⟨hg_3, hf⟩ := dc_g hf
          refine va_iald hx hb hK hP 3 0 rfl rfl hg_3 dn_M_sameToken_69 ?_
          refine xk_ti (y := ((s.1 5) (Int32.toNatClampNeg x1))) rfl ?_
          refine lv_iload hx hb dn_M_sameToken_70 (lv_at hl 4 rfl) ?_
          refine lv_iadd hx hb dn_M_sameToken_72 ?_
          obtain ⟨hg_4, hf⟩ := dc_g hf
          refine va_bald hx hb hK hP 59 1 rfl rfl hg_4 dn_M_sameToken_73 ?_
          refine xk_ti (y := ((s.1 90) (Int32.toNatClampNeg ((((s.1 5) (Int32.toNatClampNeg x1)) + x4))))) rfl ?_
          refine lv_aload_n hx hb dn_M_sameToken_74 rfl (lv_at hl 0 rfl) ?_
          refine va_get (D := (dC, dI)) (ci := 0) (v := .ref ((a 90))) (C := rn_M) (T := fn_M) (N := 91) hx hb hg in_M hown hK hP 0 rfl rfl 90 (by decide) (hg _ wn_8_163) (fun _ h9 => h9) rfl dn_M_sameToken_75 ?_
          refine lv_aload_n hx hb dn_M_sameToken_78 rfl (lv_at hl 0 rfl) ?_
          refine va_get (D := (dC, dI)) (ci := 0) (v := .ref ((a 5))) (C := rn_M) (T := fn_M) (N := 91) hx hb hg in_M hown hK hP 0 rfl rfl 5 (by decide) (hg _ wn_8_78) (fun _ h9 => h9) rfl dn_M_sameToken_79 ?_
          refine lv_iload_n hx hb dn_M_sameToken_82 rfl (lv_at hl 2 rfl) ?_
          obtain ⟨hg_5, hf⟩ := dc_g hf
          refine va_iald hx hb hK hP 3 0 rfl rfl hg_5 dn_M_sameToken_83 ?_
          refine xk_ti (y := ((s.1 5) (Int32.toNatClampNeg x2))) rfl ?_
          refine lv_iload hx hb dn_M_sameToken_84 (lv_at hl 4 rfl) ?_
          refine lv_iadd hx hb dn_M_sameToken_86 ?_
          obtain ⟨hg_6, hf⟩ := dc_g hf
          refine va_bald hx hb hK hP 59 1 rfl rfl hg_6 dn_M_sameToken_87 ?_
          refine xk_ti (y := ((s.1 90) (Int32.toNatClampNeg ((((s.1 5) (Int32.toNatClampNeg x2)) + x4))))) rfl ?_
          refine lv_icmp_ne (tgt := 95) hx hb dn_M_sameToken_88 (by decide) (fun h => ?_) (fun h => ?_)
          · have hf := (if_neg h).symm.trans hf
            refine lv_iconst (v := 0) hx hb dn_M_sameToken_95 (by decide) ?_
            refine lv_istore_n (lv' := [(3, .int 0), (0, .ref h0), (1, .int x1), (2, .int x2), (4, .int x4)]) hx hb dn_M_sameToken_96 rfl hl (by decide) rfl (fun ls hl => ?_)
            refine lv_iinc (v := (x4 + 1)) (lv' := [(4, .int ((x4 + 1))), (3, .int 0), (0, .ref h0), (1, .int x1), (2, .int x2)]) hx hb dn_M_sameToken_97 hl (k := 4) rfl (dc_inc (by decide)) (by decide) rfl (fun ls hl => ?_)
            refine lv_goto (tgt := 38) hx hb dn_M_sameToken_100 (by decide) ?_
            exact hk_38 x1 x2 0 ((x4 + 1)) s hf H locs ls hP hD hS (lv_sub hl [2, 3, 4, 1, 0] rfl)
          · have hf := (if_pos h).symm.trans hf
            refine lv_iconst (v := 1) hx hb dn_M_sameToken_91 (by decide) ?_
            refine lv_goto (tgt := 96) hx hb dn_M_sameToken_92 (by decide) ?_
            refine lv_istore_n (lv' := [(3, .int 1), (0, .ref h0), (1, .int x1), (2, .int x2), (4, .int x4)]) hx hb dn_M_sameToken_96 rfl hl (by decide) rfl (fun ls hl => ?_)
            refine lv_iinc (v := (x4 + 1)) (lv' := [(4, .int ((x4 + 1))), (3, .int 1), (0, .ref h0), (1, .int x1), (2, .int x2)]) hx hb dn_M_sameToken_97 hl (k := 4) rfl (dc_inc (by decide)) (by decide) rfl (fun ls hl => ?_)
            refine lv_goto (tgt := 38) hx hb dn_M_sameToken_100 (by decide) ?_
            exact hk_38 x1 x2 1 ((x4 + 1)) s hf H locs ls hP hD hS (lv_sub hl [2, 3, 4, 1, 0] rfl)
  intro H locs ls hP hD hS hl
  unfold fn_M_sameToken at hf
  refine lv_aload_n hx hb dn_M_sameToken_0 rfl (lv_at hl 0 rfl) ?_
  refine va_get (D := (dC, dI)) (ci := 0) (v := .ref ((a 6))) (C := rn_M) (T := fn_M) (N := 91) hx hb hg in_M hown hK hP 0 rfl rfl 6 (by decide) (hg _ wn_8_79) (fun _ h9 => h9) rfl dn_M_sameToken_1 ?_
  refine lv_iload_n hx hb dn_M_sameToken_4 rfl (lv_at hl 1 rfl) ?_
  obtain ⟨hg_1, hf⟩ := dc_g hf
  refine va_iald hx hb hK hP 4 0 rfl rfl hg_1 dn_M_sameToken_5 ?_
  refine xk_ti (y := ((s.1 6) (Int32.toNatClampNeg v1))) rfl ?_
  refine lv_aload_n hx hb dn_M_sameToken_6 rfl (lv_at hl 0 rfl) ?_
  refine va_get (D := (dC, dI)) (ci := 0) (v := .ref ((a 5))) (C := rn_M) (T := fn_M) (N := 91) hx hb hg in_M hown hK hP 0 rfl rfl 5 (by decide) (hg _ wn_8_78) (fun _ h9 => h9) rfl dn_M_sameToken_7 ?_
  refine lv_iload_n hx hb dn_M_sameToken_10 rfl (lv_at hl 1 rfl) ?_
  obtain ⟨hg_2, hf⟩ := dc_g hf
  refine va_iald hx hb hK hP 3 0 rfl rfl hg_2 dn_M_sameToken_11 ?_
  refine xk_ti (y := ((s.1 5) (Int32.toNatClampNeg v1))) rfl ?_
  refine lv_isub hx hb dn_M_sameToken_12 ?_
  refine lv_aload_n hx hb dn_M_sameToken_13 rfl (lv_at hl 0 rfl) ?_
  refine va_get (D := (dC, dI)) (ci := 0) (v := .ref ((a 6))) (C := rn_M) (T := fn_M) (N := 91) hx hb hg in_M hown hK hP 0 rfl rfl 6 (by decide) (hg _ wn_8_79) (fun _ h9 => h9) rfl dn_M_sameToken_14 ?_
  refine lv_iload_n hx hb dn_M_sameToken_17 rfl (lv_at hl 2 rfl) ?_
  obtain ⟨hg_3, hf⟩ := dc_g hf
  refine va_iald hx hb hK hP 4 0 rfl rfl hg_3 dn_M_sameToken_18 ?_
  refine xk_ti (y := ((s.1 6) (Int32.toNatClampNeg v2))) rfl ?_
  refine lv_aload_n hx hb dn_M_sameToken_19 rfl (lv_at hl 0 rfl) ?_
  refine va_get (D := (dC, dI)) (ci := 0) (v := .ref ((a 5))) (C := rn_M) (T := fn_M) (N := 91) hx hb hg in_M hown hK hP 0 rfl rfl 5 (by decide) (hg _ wn_8_78) (fun _ h9 => h9) rfl dn_M_sameToken_20 ?_
  refine lv_iload_n hx hb dn_M_sameToken_23 rfl (lv_at hl 2 rfl) ?_
  obtain ⟨hg_4, hf⟩ := dc_g hf
  refine va_iald hx hb hK hP 3 0 rfl rfl hg_4 dn_M_sameToken_24 ?_
  refine xk_ti (y := ((s.1 5) (Int32.toNatClampNeg v2))) rfl ?_
  refine lv_isub hx hb dn_M_sameToken_25 ?_
  refine lv_icmp_ne (tgt := 33) hx hb dn_M_sameToken_26 (by decide) (fun h => ?_) (fun h => ?_)
  · have hf := (if_neg h).symm.trans hf
    refine lv_iconst (v := 0) hx hb dn_M_sameToken_33 (by decide) ?_
    refine lv_istore_n (lv' := [(3, .int 0), (0, .ref h0), (1, .int v1), (2, .int v2)]) hx hb dn_M_sameToken_34 rfl hl (by decide) rfl (fun ls hl => ?_)
    refine lv_iconst (v := 0) hx hb dn_M_sameToken_35 (by decide) ?_
    refine lv_istore (lv' := [(4, .int 0), (3, .int 0), (0, .ref h0), (1, .int v1), (2, .int v2)]) hx hb dn_M_sameToken_36 hl (by decide) rfl (fun ls hl => ?_)
    exact hd_38 N v1 v2 0 0 s hf H locs ls hP hD hS (lv_sub hl [2, 3, 4, 1, 0] rfl)
  · have hf := (if_pos h).symm.trans hf
    refine lv_iconst (v := 1) hx hb dn_M_sameToken_29 (by decide) ?_
    refine lv_goto (tgt := 34) hx hb dn_M_sameToken_30 (by decide) ?_
    refine lv_istore_n (lv' := [(3, .int 1), (0, .ref h0), (1, .int v1), (2, .int v2)]) hx hb dn_M_sameToken_34 rfl hl (by decide) rfl (fun ls hl => ?_)
    refine lv_iconst (v := 0) hx hb dn_M_sameToken_35 (by decide) ?_
    refine lv_istore (lv' := [(4, .int 0), (3, .int 1), (0, .ref h0), (1, .int v1), (2, .int v2)]) hx hb dn_M_sameToken_36 hl (by decide) rfl (fun ls hl => ?_)
    exact hd_38 N v1 v2 1 0 s hf H locs ls hP hD hS (lv_sub hl [2, 3, 4, 1, 0] rfl)
theorem mb_M_moduleNamed_2 (N : Nat) (y : (Int32 × ms)) (k_2 : Int32 → Int32 → Int32 → ms → Option (Int32 × ms)) (hkm_2 : ∀ (x1 : Int32) (x2 : Int32) (x3 : Int32) (s : ms), k_2 x1 x2 x3 s = some y → gl y.2 = gl s) (x1 : Int32) (x2 : Int32) (x3 : Int32) (s : ms) (hf : bd_M_moduleNamed_2 N k_2 x1 x2 x3 s = some y) : gl y.2 = gl s := by
  unfold bd_M_moduleNamed_2 at hf
  have hm : gl s = gl s := rfl
  by_cases h : x2 ≤ x3
  · have hf := (if_pos h).symm.trans hf
    exact (dc_e hf).trans hm
  · have hf := (if_neg h).symm.trans hf
    obtain ⟨_, hf⟩ := dc_g hf
    obtain ⟨q_2, hc_3, hf⟩ := dc_b hf
    have hm := (mn_M_sameToken N (((s.1 13) (Int32.toNatClampNeg x3))) x1 s q_2 hc_3).trans hm
    by_cases h : q_2.1 = 0
    · have hf := (if_pos h).symm.trans hf
      exact (hkm_2 x1 x2 ((x3 + 1)) q_2.2 hf).trans hm
    · have hf := (if_neg h).symm.trans hf
      exact (dc_e hf).trans hm
theorem mh_M_moduleNamed_2 (N : Nat) (y : (Int32 × ms)) : ∀ (n : Nat) (x1 : Int32) (x2 : Int32) (x3 : Int32) (s : ms), hd_M_moduleNamed_2 N n x1 x2 x3 s = some y → gl y.2 = gl s := by
  intro n
  induction n with
  | zero => intro x1 x2 x3 s hf; cases hf
  | succ n ih => intro x1 x2 x3 s hf; exact mb_M_moduleNamed_2 N y (hd_M_moduleNamed_2 N n) ih x1 x2 x3 s hf
theorem mn_M_moduleNamed (N : Nat) (v1 : Int32) (v2 : Int32) (s : ms) (y : (Int32 × ms)) (hf : fn_M_moduleNamed N v1 v2 s = some y) : gl y.2 = gl s := by
  unfold fn_M_moduleNamed at hf
  have hm : gl s = gl s := rfl
  exact (mh_M_moduleNamed_2 N y N v1 v2 0 s hf).trans hm
set_option maxHeartbeats 8000000 in
set_option maxRecDepth 100000 in
theorem ct_M_moduleNamed (l : Launch) (dC : Nat → ClassId) (dI : Nat → Nat → Nat) (cI cB cJ cZ cQ : ClassId) (N sz : Nat) (h0 : Nat) (a : Nat → Nat) (v1 : Int32) (v2 : Int32) (s : ms) (y : (Int32 × ms)) (hf : fn_M_moduleNamed N v1 v2 s = some y) : Met l yn_M_moduleNamed (xw yn_M_moduleNamed bn_M_moduleNamed 4 (some .int)) ({ frames := 1, cells := 0, slots := 0, locals := 24 }) (dc_P (dC, dI) xcl (xt cI cB cJ cZ cQ) [.ref h0, .int v1, .int v2] sz (wM h0 a cI cB cJ cZ s)) (xk_Qi (dC, dI) xcl (xt cI cB cJ cZ cQ) (fun (r : Int32) (_ : Unit) => r = y.1) (fun u : Unit => (wM h0 a cI cB cJ cZ y.2)) (va_A (wM h0 a cI cB cJ cZ s) sz)) 0 0 (va_A (wM h0 a cI cB cJ cZ s) sz) := by
  refine dc_of (QA := xk_Qi (dC, dI) xcl (xt cI cB cJ cZ cQ) (fun (r : Int32) (_ : Unit) => r = y.1) (fun u : Unit => (wM h0 a cI cB cJ cZ y.2))) (by decide) (Nat.le_of_ble_eq_true rfl) ?_
  intro p e s0 m below meth c hx hb hml hown hg hr hlocks hin hP hK hN A hA hD hT ls hl
  have hown : s0.vm.findClass rn_M = some m.cls := hown
  obtain ⟨H, hH⟩ : ∃ z, z = s0.heap := ⟨_, rfl⟩
  rw [← hH] at hP
  have hS : va_S A s0.heap H [] := by rw [hH]; exact va_S.rf
  suffices kk : ∀ QQ : State → Prop, QQ = MQ below (xk_Qi (dC, dI) xcl (xt cI cB cJ cZ cQ) (fun (r : Int32) (_ : Unit) => r = y.1) (fun u : Unit => (wM h0 a cI cB cJ cZ y.2)) A) [.ref h0, .int v1, .int v2].toArray s0 0 0 A → dcC p l e ({ frames := 1, cells := 0, slots := 0, locals := 24 }) s0 m [.ref h0, .int v1, .int v2].toArray below meth c QQ (dC, dI) A (wM h0 a cI cB cJ cZ s) 0 4 [(0, .ref h0), (1, .int v1), (2, .int v2)] [] by
    have k9 := kk _ rfl H [] ls hP hD hS hl
    rw [hH] at k9; exact k9
  clear hP hD hS hl hH H ls
  intro QQ hQQ
  have hd_2 : ∀ (n : Nat) (x1 : Int32) (x2 : Int32) (x3 : Int32) (s : ms), hd_M_moduleNamed_2 N n x1 x2 x3 s = some y → dcC p l e ({ frames := 1, cells := 0, slots := 0, locals := 24 }) s0 m [.ref h0, .int v1, .int v2].toArray below meth c QQ (dC, dI) A (wM h0 a cI cB cJ cZ s) 2 4 [(0, .ref h0), (1, .int x1), (2, .int x2), (3, .int x3)] [] := by
    intro n
    induction n with
    | zero => intro x1 x2 x3 s hf; cases hf
    | succ n ih =>
      intro x1 x2 x3 s hf H locs ls hP hD hS hl
      have hf : bd_M_moduleNamed_2 N (hd_M_moduleNamed_2 N n) x1 x2 x3 s = some y := hf
      have hk_2 := ih
      generalize hd_M_moduleNamed_2 N n = k_2 at hf hk_2
      unfold bd_M_moduleNamed_2 at hf
      refine lv_iload_n hx hb dn_M_moduleNamed_2 rfl (lv_at hl 3 rfl) ?_
      refine lv_iload_n hx hb dn_M_moduleNamed_3 rfl (lv_at hl 2 rfl) ?_
      refine lv_icmp_ge (tgt := 29) hx hb dn_M_moduleNamed_4 (by decide) (fun h => ?_) (fun h => ?_)
      · have hf := (if_pos h).symm.trans hf
        refine lv_iconst (v := (-1)) hx hb dn_M_moduleNamed_29 (by decide) ?_
        rw [hQQ, ← Option.some.inj hf]
        exact xk_iret (w1 := fun u : Unit => (wM h0 a cI cB cJ cZ s)) () hx hb hr hlocks hK hS dn_M_moduleNamed_30 hP hD rfl (Nat.le_refl _) (Nat.le_refl _)
      · have hf := (if_neg h).symm.trans hf
        refine lv_aload_n hx hb dn_M_moduleNamed_7 rfl (lv_at hl 0 rfl) ?_
        refine lv_aload_n hx hb dn_M_moduleNamed_8 rfl (lv_at hl 0 rfl) ?_
        refine va_get (D := (dC, dI)) (ci := 0) (v := .ref ((a 13))) (C := rn_M) (T := fn_M) (N := 91) hx hb hg in_M hown hK hP 0 rfl rfl 13 (by decide) (hg _ wn_8_86) (fun _ h9 => h9) rfl dn_M_moduleNamed_9 ?_
        refine lv_iload_n hx hb dn_M_moduleNamed_12 rfl (lv_at hl 3 rfl) ?_
        obtain ⟨hg_1, hf⟩ := dc_g hf
        refine va_iald hx hb hK hP 5 0 rfl rfl hg_1 dn_M_moduleNamed_13 ?_
        refine xk_ti (y := ((s.1 13) (Int32.toNatClampNeg x3))) rfl ?_
        refine lv_iload_n hx hb dn_M_moduleNamed_14 rfl (lv_at hl 1 rfl) ?_
        obtain ⟨q_2, hc_3, hf⟩ := dc_b hf
        refine dc_calli (dc_runV (ar := 2) (As := [.int (((s.1 13) (Int32.toNatClampNeg x3))), .int x1]) (rest := []) (ci := 0) (q0 := 0) ⟨hx, hb, hml, hown, hg⟩ hK hN hT hS hA (ct_M_sameToken l dC dI cI cB cJ cZ cQ N H.size h0 a (((s.1 13) (Int32.toNatClampNeg x3))) x1 s q_2 hc_3) hP hD rfl rfl wn_10_28 wn_10_30 sn_M_sameToken wn_1_13 wn_10_31 rfl rfl (by decide +kernel) ⟨Nat.le_of_ble_eq_true rfl, Nat.le_of_ble_eq_true rfl⟩ rfl hl.1 rfl (Nat.le_of_ble_eq_true rfl) dn_M_moduleNamed_15 ⟨Nat.le_of_ble_eq_true rfl, Nat.le_of_ble_eq_true rfl⟩) hP hD hS hA (fun r_4 _ H locs hw hP hD hS => ?_)
        have hw : r_4 = q_2.1 := hw
        subst hw
        refine lv_if_eq (tgt := 23) hx hb dn_M_moduleNamed_18 (by decide) (fun h => ?_) (fun h => ?_)
        · have hf := (if_pos h).symm.trans hf
          refine lv_iinc (v := (x3 + 1)) (lv' := [(3, .int ((x3 + 1))), (0, .ref h0), (1, .int x1), (2, .int x2)]) hx hb dn_M_moduleNamed_23 hl (k := 3) rfl (dc_inc (by decide)) (by decide) rfl (fun ls hl => ?_)
          refine lv_goto (tgt := 2) hx hb dn_M_moduleNamed_26 (by decide) ?_
          exact hk_2 x1 x2 ((x3 + 1)) q_2.2 hf H locs ls hP hD hS (lv_sub hl [1, 2, 3, 0] rfl)
        · have hf := (if_neg h).symm.trans hf
          refine lv_iload_n hx hb dn_M_moduleNamed_21 rfl (lv_at hl 3 rfl) ?_
          rw [hQQ, ← Option.some.inj hf]
          exact xk_iret (w1 := fun u : Unit => (wM h0 a cI cB cJ cZ q_2.2)) () hx hb hr hlocks hK hS dn_M_moduleNamed_22 hP hD rfl (Nat.le_refl _) (Nat.le_refl _)
  intro H locs ls hP hD hS hl
  unfold fn_M_moduleNamed at hf
  refine lv_iconst (v := 0) hx hb dn_M_moduleNamed_0 (by decide) ?_
  refine lv_istore_n (lv' := [(3, .int 0), (0, .ref h0), (1, .int v1), (2, .int v2)]) hx hb dn_M_moduleNamed_1 rfl hl (by decide) rfl (fun ls hl => ?_)
  exact hd_2 N v1 v2 0 s hf H locs ls hP hD hS (lv_sub hl [1, 2, 3, 0] rfl)
theorem mo_M_numberOf_102 (N : Nat) (y : (Int64 × ms)) (t0 : Int32) (t1 : Int32) (t2 : Int32) (s : ms) (hf : bk_M_numberOf_102 N t0 t1 t2 s = some y) : gl y.2 = gl s := by
  unfold bk_M_numberOf_102 at hf
  have hm : gl s = gl s := rfl
  obtain ⟨q_1, hc_2, hf⟩ := dc_b hf
  have hm := (mn_M_read_IIIIJ N t2 t1 t0 64 s q_1 hc_2).trans hm
  exact (dc_e hf).trans hm
theorem mb_M_numberOf_7 (N : Nat) (y : (Int64 × ms)) (k_7 : Int32 → Int32 → ms → Option (Int64 × ms)) (hkm_7 : ∀ (x1 : Int32) (x2 : Int32) (s : ms), k_7 x1 x2 s = some y → gl y.2 = gl s) (x1 : Int32) (x2 : Int32) (s : ms) (hf : bd_M_numberOf_7 N k_7 x1 x2 s = some y) : gl y.2 = gl s := by
  unfold bd_M_numberOf_7 at hf
  have hm : gl s = gl s := rfl
  obtain ⟨q_1, hc_2, hf⟩ := dc_b hf
  have hm := (mn_M_at N x2 s q_1 hc_2).trans hm
  obtain ⟨q_4, hc_5, hf⟩ := dc_b hf
  have hm := (mn_M_isDigit N q_1.1 q_1.2 q_4 hc_5).trans hm
  by_cases h : q_4.1 = 0
  · have hf := (if_pos h).symm.trans hf
    obtain ⟨_, hf⟩ := dc_g hf
    by_cases h : x2 = ((q_4.2.1 6) (Int32.toNatClampNeg x1))
    · have hf := (if_pos h).symm.trans hf
      obtain ⟨_, hf⟩ := dc_g hf
      obtain ⟨q_9, hc_10, hf⟩ := dc_b hf
      have hm := (mn_M_read_IIIIJ N (((q_4.2.1 5) (Int32.toNatClampNeg x1))) x2 10 16 q_4.2 q_9 hc_10).trans hm
      exact (dc_e hf).trans hm
    · have hf := (if_neg h).symm.trans hf
      obtain ⟨q_8, hc_9, hf⟩ := dc_b hf
      have hm := (mn_M_at N ((x2 + 1)) q_4.2 q_8 hc_9).trans hm
      obtain ⟨_, hf⟩ := dc_g hf
      by_cases h : q_8.1 = 98
      · have hf := (if_pos h).symm.trans hf
        exact (mo_M_numberOf_102 N y 2 (((q_8.2.1 6) (Int32.toNatClampNeg x1))) ((x2 + 2)) q_8.2 hf).trans hm
      · have hf := (if_neg h).symm.trans hf
        by_cases h : q_8.1 = 111
        · have hf := (if_pos h).symm.trans hf
          exact (mo_M_numberOf_102 N y 8 (((q_8.2.1 6) (Int32.toNatClampNeg x1))) ((x2 + 2)) q_8.2 hf).trans hm
        · have hf := (if_neg h).symm.trans hf
          by_cases h : q_8.1 = 100
          · have hf := (if_pos h).symm.trans hf
            exact (mo_M_numberOf_102 N y 10 (((q_8.2.1 6) (Int32.toNatClampNeg x1))) ((x2 + 2)) q_8.2 hf).trans hm
          · have hf := (if_neg h).symm.trans hf
            exact (mo_M_numberOf_102 N y 16 (((q_8.2.1 6) (Int32.toNatClampNeg x1))) ((x2 + 2)) q_8.2 hf).trans hm
  · have hf := (if_neg h).symm.trans hf
    exact (hkm_7 x1 ((x2 + 1)) q_4.2 hf).trans hm
theorem mh_M_numberOf_7 (N : Nat) (y : (Int64 × ms)) : ∀ (n : Nat) (x1 : Int32) (x2 : Int32) (s : ms), hd_M_numberOf_7 N n x1 x2 s = some y → gl y.2 = gl s := by
  intro n
  induction n with
  | zero => intro x1 x2 s hf; cases hf
  | succ n ih => intro x1 x2 s hf; exact mb_M_numberOf_7 N y (hd_M_numberOf_7 N n) ih x1 x2 s hf
theorem mn_M_numberOf (N : Nat) (v1 : Int32) (s : ms) (y : (Int64 × ms)) (hf : fn_M_numberOf N v1 s = some y) : gl y.2 = gl s := by
  unfold fn_M_numberOf at hf
  have hm : gl s = gl s := rfl
  obtain ⟨_, hf⟩ := dc_g hf
  exact (mh_M_numberOf_7 N y N v1 (((s.1 5) (Int32.toNatClampNeg v1))) s hf).trans hm
set_option maxHeartbeats 8000000 in
set_option maxRecDepth 100000 in
theorem ct_M_numberOf (l : Launch) (dC : Nat → ClassId) (dI : Nat → Nat → Nat) (cI cB cJ cZ cQ : ClassId) (N sz : Nat) (h0 : Nat) (a : Nat → Nat) (v1 : Int32) (s : ms) (y : (Int64 × ms)) (hf : fn_M_numberOf N v1 s = some y) : Met l yn_M_numberOf (xw yn_M_numberOf bn_M_numberOf 4 (some .long)) ({ frames := 3, cells := 0, slots := 0, locals := 70 }) (dc_P (dC, dI) xcl (xt cI cB cJ cZ cQ) [.ref h0, .int v1] sz (wM h0 a cI cB cJ cZ s)) (xk_Ql (dC, dI) xcl (xt cI cB cJ cZ cQ) (fun (r : Int64) (_ : Unit) => r = y.1) (fun u : Unit => (wM h0 a cI cB cJ cZ y.2)) (va_A (wM h0 a cI cB cJ cZ s) sz)) 0 0 (va_A (wM h0 a cI cB cJ cZ s) sz) := by
  refine dc_of (QA := xk_Ql (dC, dI) xcl (xt cI cB cJ cZ cQ) (fun (r : Int64) (_ : Unit) => r = y.1) (fun u : Unit => (wM h0 a cI cB cJ cZ y.2))) (by decide) (Nat.le_of_ble_eq_true rfl) ?_
  intro p e s0 m below meth c hx hb hml hown hg hr hlocks hin hP hK hN A hA hD hT ls hl
  have hown : s0.vm.findClass rn_M = some m.cls := hown
  obtain ⟨H, hH⟩ : ∃ z, z = s0.heap := ⟨_, rfl⟩
  rw [← hH] at hP
  have hS : va_S A s0.heap H [] := by rw [hH]; exact va_S.rf
  suffices kk : ∀ QQ : State → Prop, QQ = MQ below (xk_Ql (dC, dI) xcl (xt cI cB cJ cZ cQ) (fun (r : Int64) (_ : Unit) => r = y.1) (fun u : Unit => (wM h0 a cI cB cJ cZ y.2)) A) [.ref h0, .int v1].toArray s0 0 0 A → dcC p l e ({ frames := 3, cells := 0, slots := 0, locals := 70 }) s0 m [.ref h0, .int v1].toArray below meth c QQ (dC, dI) A (wM h0 a cI cB cJ cZ s) 0 4 [(0, .ref h0), (1, .int v1)] [] by
    have k9 := kk _ rfl H [] ls hP hD hS hl
    rw [hH] at k9; exact k9
  clear hP hD hS hl hH H ls
  intro QQ hQQ
  have bl_102 : ∀ (t0 : Int32) (t1 : Int32) (t2 : Int32) (s : ms), bk_M_numberOf_102 N t0 t1 t2 s = some y → dcC p l e ({ frames := 3, cells := 0, slots := 0, locals := 70 }) s0 m [.ref h0, .int v1].toArray below meth c QQ (dC, dI) A (wM h0 a cI cB cJ cZ s) 102 4 [] [.int t0, .int t1, .int t2, .ref h0] := by
    intro t0 t1 t2 s hf H locs ls hP hD hS hl
    unfold bk_M_numberOf_102 at hf
    refine lv_bipush (v := 64) hx hb dn_M_numberOf_102 (by decide) ?_
    obtain ⟨q_1, hc_2, hf⟩ := dc_b hf
    refine dc_calll (dc_runV (ar := 4) (As := [.int t2, .int t1, .int t0, .int 64]) (rest := []) (ci := 0) (q0 := 0) ⟨hx, hb, hml, hown, hg⟩ hK hN hT hS hA (ct_M_read_IIIIJ l dC dI cI cB cJ cZ cQ N H.size h0 a t2 t1 t0 64 s q_1 hc_2) hP hD rfl rfl wn_9_159 wn_9_161 sn_M_read_IIIIJ wn_1_13 wn_9_162 rfl rfl (by decide +kernel) ⟨Nat.le_of_ble_eq_true rfl, Nat.le_of_ble_eq_true rfl⟩ rfl hl.1 rfl (Nat.le_of_ble_eq_true rfl) dn_M_numberOf_104 ⟨Nat.le_of_ble_eq_true rfl, Nat.le_of_ble_eq_true rfl⟩) hP hD hS hA (fun r_3 _ H locs hw hP hD hS => ?_)
    have hw : r_3 = q_1.1 := hw
    subst hw
    rw [hQQ, ← Option.some.inj hf]
    exact xk_lret (w1 := fun u : Unit => (wM h0 a cI cB cJ cZ q_1.2)) () hx hb hr hlocks hK hS dn_M_numberOf_107 hP hD rfl (Nat.le_refl _) (Nat.le_refl _)
  have hd_7 : ∀ (n : Nat) (x1 : Int32) (x2 : Int32) (s : ms), hd_M_numberOf_7 N n x1 x2 s = some y → dcC p l e ({ frames := 3, cells := 0, slots := 0, locals := 70 }) s0 m [.ref h0, .int v1].toArray below meth c QQ (dC, dI) A (wM h0 a cI cB cJ cZ s) 7 4 [(0, .ref h0), (1, .int x1), (2, .int x2)] [] := by
    intro n
    induction n with
    | zero => intro x1 x2 s hf; cases hf
    | succ n ih =>
      intro x1 x2 s hf H locs ls hP hD hS hl
      have hf : bd_M_numberOf_7 N (hd_M_numberOf_7 N n) x1 x2 s = some y := hf
      have hk_7 := ih
      generalize hd_M_numberOf_7 N n = k_7 at hf hk_7
      unfold bd_M_numberOf_7 at hf
      refine lv_aload_n hx hb dn_M_numberOf_7 rfl (lv_at hl 0 rfl) ?_
      refine lv_iload_n hx hb dn_M_numberOf_8 rfl (lv_at hl 2 rfl) ?_
      obtain ⟨q_1, hc_2, hf⟩ := dc_b hf
      refine dc_calli (dc_runV (ar := 1) (As := [.int x2]) (rest := []) (ci := 0) (q0 := 0) ⟨hx, hb, hml, hown, hg⟩ hK hN hT hS hA (ct_M_at l dC dI cI cB cJ cZ cQ N H.size h0 a x2 s q_1 hc_2) hP hD rfl rfl wn_9_128 wn_9_130 sn_M_at wn_1_13 wn_9_131 rfl rfl (by decide +kernel) ⟨Nat.le_of_ble_eq_true rfl, Nat.le_of_ble_eq_true rfl⟩ rfl hl.1 rfl (Nat.le_of_ble_eq_true rfl) dn_M_numberOf_9 ⟨Nat.le_of_ble_eq_true rfl, Nat.le_of_ble_eq_true rfl⟩) hP hD hS hA (fun r_3 _ H locs hw hP hD hS => ?_)
      have hw : r_3 = q_1.1 := hw
      subst hw
      obtain ⟨q_4, hc_5, hf⟩ := dc_b hf
      refine dc_calli (dc_runS (ar := 1) (As := [.int q_1.1]) (rest := []) ⟨hx, hb, hml, hown, hg⟩ hK hN hT hS hA (ct_M_isDigit l dC dI cI cB cJ cZ cQ N H.size h0 a q_1.1 q_1.2 q_4 hc_5) hP hD wn_9_142 wn_9_143 wn_1_13 wn_9_144 rfl rfl (by decide +kernel) ⟨Nat.le_of_ble_eq_true rfl, Nat.le_of_ble_eq_true rfl⟩ rfl hl.1 rfl (Nat.le_of_ble_eq_true rfl) dn_M_numberOf_12 ⟨Nat.le_of_ble_eq_true rfl, Nat.le_of_ble_eq_true rfl⟩) hP hD hS hA (fun r_6 _ H locs hw hP hD hS => ?_)
      have hw : r_6 = q_4.1 := hw
      subst hw
      refine lv_if_eq (tgt := 24) hx hb dn_M_numberOf_15 (by decide) (fun h => ?_) (fun h => ?_)
      · have hf := (if_pos h).symm.trans hf
        refine lv_iload_n hx hb dn_M_numberOf_24 rfl (lv_at hl 2 rfl) ?_
        refine lv_aload_n hx hb dn_M_numberOf_25 rfl (lv_at hl 0 rfl) ?_
        refine va_get (D := (dC, dI)) (ci := 0) (v := .ref ((a 6))) (C := rn_M) (T := fn_M) (N := 91) hx hb hg in_M hown hK hP 0 rfl rfl 6 (by decide) (hg _ wn_8_79) (fun _ h9 => h9) rfl dn_M_numberOf_26 ?_
        refine lv_iload_n hx hb dn_M_numberOf_29 rfl (lv_at hl 1 rfl) ?_
        obtain ⟨hg_7, hf⟩ := dc_g hf
        refine va_iald hx hb hK hP 4 0 rfl rfl hg_7 dn_M_numberOf_30 ?_
        refine xk_ti (y := ((q_4.2.1 6) (Int32.toNatClampNeg x1))) rfl ?_
        refine lv_icmp_ne (tgt := 50) hx hb dn_M_numberOf_31 (by decide) (fun h => ?_) (fun h => ?_)
        · have hf := (if_neg h).symm.trans hf
          refine lv_aload_n hx hb dn_M_numberOf_50 rfl (lv_at hl 0 rfl) ?_
          refine lv_iload_n hx hb dn_M_numberOf_51 rfl (lv_at hl 2 rfl) ?_
          refine lv_iconst (v := 1) hx hb dn_M_numberOf_52 (by decide) ?_
          refine lv_iadd hx hb dn_M_numberOf_53 ?_
          obtain ⟨q_8, hc_9, hf⟩ := dc_b hf
          refine dc_calli (dc_runV (ar := 1) (As := [.int ((x2 + 1))]) (rest := []) (ci := 0) (q0 := 0) ⟨hx, hb, hml, hown, hg⟩ hK hN hT hS hA (ct_M_at l dC dI cI cB cJ cZ cQ N H.size h0 a ((x2 + 1)) q_4.2 q_8 hc_9) hP hD rfl rfl wn_9_128 wn_9_130 sn_M_at wn_1_13 wn_9_131 rfl rfl (by decide +kernel) ⟨Nat.le_of_ble_eq_true rfl, Nat.le_of_ble_eq_true rfl⟩ rfl hl.1 rfl (Nat.le_of_ble_eq_true rfl) dn_M_numberOf_54 ⟨Nat.le_of_ble_eq_true rfl, Nat.le_of_ble_eq_true rfl⟩) hP hD hS hA (fun r_10 _ H locs hw hP hD hS => ?_)
          have hw : r_10 = q_8.1 := hw
          subst hw
          refine lv_istore_n (lv' := [(3, .int q_8.1), (0, .ref h0), (1, .int x1), (2, .int x2)]) hx hb dn_M_numberOf_57 rfl hl (by decide) rfl (fun ls hl => ?_)
          refine lv_aload_n hx hb dn_M_numberOf_58 rfl (lv_at hl 1 rfl) ?_
          refine lv_iload_n hx hb dn_M_numberOf_59 rfl (lv_at hl 3 rfl) ?_
          refine lv_iconst (v := 2) hx hb dn_M_numberOf_60 (by decide) ?_
          refine lv_iadd hx hb dn_M_numberOf_61 ?_
          refine lv_aload_n hx hb dn_M_numberOf_62 rfl (lv_at hl 1 rfl) ?_
          refine va_get (D := (dC, dI)) (ci := 0) (v := .ref ((a 6))) (C := rn_M) (T := fn_M) (N := 91) hx hb hg in_M hown hK hP 0 rfl rfl 6 (by decide) (hg _ wn_8_79) (fun _ h9 => h9) rfl dn_M_numberOf_63 ?_
          refine lv_iload_n hx hb dn_M_numberOf_66 rfl (lv_at hl 2 rfl) ?_
          obtain ⟨hg_11, hf⟩ := dc_g hf
          refine va_iald hx hb hK hP 4 0 rfl rfl hg_11 dn_M_numberOf_67 ?_
          refine xk_ti (y := ((q_8.2.1 6) (Int32.toNatClampNeg x1))) rfl ?_
          refine lv_iload_n hx hb dn_M_numberOf_68 rfl (lv_at hl 0 rfl) ?_
          refine lv_bipush (v := 98) hx hb dn_M_numberOf_69 (by decide) ?_
          refine lv_icmp_ne (tgt := 78) hx hb dn_M_numberOf_71 (by decide) (fun h => ?_) (fun h => ?_)
          · have hf := (if_neg h).symm.trans hf
            refine lv_iload_n hx hb dn_M_numberOf_78 rfl (lv_at hl 0 rfl) ?_
            refine lv_bipush (v := 111) hx hb dn_M_numberOf_79 (by decide) ?_
            refine lv_icmp_ne (tgt := 89) hx hb dn_M_numberOf_81 (by decide) (fun h => ?_) (fun h => ?_)
            · have hf := (if_neg h).symm.trans hf
              refine lv_iload_n hx hb dn_M_numberOf_89 rfl (lv_at hl 0 rfl) ?_
              refine lv_bipush (v := 100) hx hb dn_M_numberOf_90 (by decide) ?_
              refine lv_icmp_ne (tgt := 100) hx hb dn_M_numberOf_92 (by decide) (fun h => ?_) (fun h => ?_)
              · have hf := (if_neg h).symm.trans hf
                refine lv_bipush (v := 16) hx hb dn_M_numberOf_100 (by decide) ?_
                exact bl_102 16 (((q_8.2.1 6) (Int32.toNatClampNeg x1))) ((x2 + 2)) q_8.2 hf H locs ls hP hD hS (lv_sub hl [] rfl)
              · have hf := (if_pos h).symm.trans hf
                refine lv_bipush (v := 10) hx hb dn_M_numberOf_95 (by decide) ?_
                refine lv_goto (tgt := 102) hx hb dn_M_numberOf_97 (by decide) ?_
                exact bl_102 10 (((q_8.2.1 6) (Int32.toNatClampNeg x1))) ((x2 + 2)) q_8.2 hf H locs ls hP hD hS (lv_sub hl [] rfl)
            · have hf := (if_pos h).symm.trans hf
              refine lv_bipush (v := 8) hx hb dn_M_numberOf_84 (by decide) ?_
              refine lv_goto (tgt := 102) hx hb dn_M_numberOf_86 (by decide) ?_
              exact bl_102 8 (((q_8.2.1 6) (Int32.toNatClampNeg x1))) ((x2 + 2)) q_8.2 hf H locs ls hP hD hS (lv_sub hl [] rfl)
          · have hf := (if_pos h).symm.trans hf
            refine lv_iconst (v := 2) hx hb dn_M_numberOf_74 (by decide) ?_
            refine lv_goto (tgt := 102) hx hb dn_M_numberOf_75 (by decide) ?_
            exact bl_102 2 (((q_8.2.1 6) (Int32.toNatClampNeg x1))) ((x2 + 2)) q_8.2 hf H locs ls hP hD hS (lv_sub hl [] rfl)
        · have hf := (if_pos h).symm.trans hf
          refine lv_aload_n hx hb dn_M_numberOf_34 rfl (lv_at hl 0 rfl) ?_
          refine lv_aload_n hx hb dn_M_numberOf_35 rfl (lv_at hl 0 rfl) ?_
          refine va_get (D := (dC, dI)) (ci := 0) (v := .ref ((a 5))) (C := rn_M) (T := fn_M) (N := 91) hx hb hg in_M hown hK hP 0 rfl rfl 5 (by decide) (hg _ wn_8_78) (fun _ h9 => h9) rfl dn_M_numberOf_36 ?_
          refine lv_iload_n hx hb dn_M_numberOf_39 rfl (lv_at hl 1 rfl) ?_
          obtain ⟨hg_8, hf⟩ := dc_g hf
          refine va_iald hx hb hK hP 3 0 rfl rfl hg_8 dn_M_numberOf_40 ?_
          refine xk_ti (y := ((q_4.2.1 5) (Int32.toNatClampNeg x1))) rfl ?_
          refine lv_iload_n hx hb dn_M_numberOf_41 rfl (lv_at hl 2 rfl) ?_
          refine lv_bipush (v := 10) hx hb dn_M_numberOf_42 (by decide) ?_
          refine lv_bipush (v := 16) hx hb dn_M_numberOf_44 (by decide) ?_
          obtain ⟨q_9, hc_10, hf⟩ := dc_b hf
          refine dc_calll (dc_runV (ar := 4) (As := [.int (((q_4.2.1 5) (Int32.toNatClampNeg x1))), .int x2, .int 10, .int 16]) (rest := []) (ci := 0) (q0 := 0) ⟨hx, hb, hml, hown, hg⟩ hK hN hT hS hA (ct_M_read_IIIIJ l dC dI cI cB cJ cZ cQ N H.size h0 a (((q_4.2.1 5) (Int32.toNatClampNeg x1))) x2 10 16 q_4.2 q_9 hc_10) hP hD rfl rfl wn_9_159 wn_9_161 sn_M_read_IIIIJ wn_1_13 wn_9_162 rfl rfl (by decide +kernel) ⟨Nat.le_of_ble_eq_true rfl, Nat.le_of_ble_eq_true rfl⟩ rfl hl.1 rfl (Nat.le_of_ble_eq_true rfl) dn_M_numberOf_46 ⟨Nat.le_of_ble_eq_true rfl, Nat.le_of_ble_eq_true rfl⟩) hP hD hS hA (fun r_11 _ H locs hw hP hD hS => ?_)
          have hw : r_11 = q_9.1 := hw
          subst hw
          rw [hQQ, ← Option.some.inj hf]
          exact xk_lret (w1 := fun u : Unit => (wM h0 a cI cB cJ cZ q_9.2)) () hx hb hr hlocks hK hS dn_M_numberOf_49 hP hD rfl (Nat.le_refl _) (Nat.le_refl _)
      · have hf := (if_neg h).symm.trans hf
        refine lv_iinc (v := (x2 + 1)) (lv' := [(2, .int ((x2 + 1))), (0, .ref h0), (1, .int x1)]) hx hb dn_M_numberOf_18 hl (k := 2) rfl (dc_inc (by decide)) (by decide) rfl (fun ls hl => ?_)
        refine lv_goto (tgt := 7) hx hb dn_M_numberOf_21 (by decide) ?_
        exact hk_7 x1 ((x2 + 1)) q_4.2 hf H locs ls hP hD hS (lv_sub hl [1, 2, 0] rfl)
  intro H locs ls hP hD hS hl
  unfold fn_M_numberOf at hf
  refine lv_aload_n hx hb dn_M_numberOf_0 rfl (lv_at hl 0 rfl) ?_
  refine va_get (D := (dC, dI)) (ci := 0) (v := .ref ((a 5))) (C := rn_M) (T := fn_M) (N := 91) hx hb hg in_M hown hK hP 0 rfl rfl 5 (by decide) (hg _ wn_8_78) (fun _ h9 => h9) rfl dn_M_numberOf_1 ?_
  refine lv_iload_n hx hb dn_M_numberOf_4 rfl (lv_at hl 1 rfl) ?_
  obtain ⟨hg_1, hf⟩ := dc_g hf
  refine va_iald hx hb hK hP 3 0 rfl rfl hg_1 dn_M_numberOf_5 ?_
  refine xk_ti (y := ((s.1 5) (Int32.toNatClampNeg v1))) rfl ?_
  refine lv_istore_n (lv' := [(2, .int (((s.1 5) (Int32.toNatClampNeg v1)))), (0, .ref h0), (1, .int v1)]) hx hb dn_M_numberOf_6 rfl hl (by decide) rfl (fun ls hl => ?_)
  exact hd_7 N v1 (((s.1 5) (Int32.toNatClampNeg v1))) s hf H locs ls hP hD hS (lv_sub hl [1, 2, 0] rfl)
theorem mo_M_range_62 (N : Nat) (y : (Int32 × ms)) (x1 : Int64) (s : ms) (hf : bk_M_range_62 N x1 s = some y) : gl y.2 = gl s := by
  unfold bk_M_range_62 at hf
  have hm : gl s = gl s := rfl
  exact (dc_e hf).trans hm
theorem mo_M_range_47 (N : Nat) (y : (Int32 × ms)) (x1 : Int64) (s : ms) (hf : bk_M_range_47 N x1 s = some y) : gl y.2 = gl s := by
  unfold bk_M_range_47 at hf
  have hm : gl s = gl s := rfl
  obtain ⟨_, hf⟩ := dc_g hf
  obtain ⟨q_2, hc_3, hf⟩ := dc_b hf
  have hm := (mn_M_fail N 30 (((s.1 5) (Int32.toNatClampNeg ((s.1 8 0))))) s q_2 hc_3).trans hm
  exact (mo_M_range_62 N y x1 q_2.2 hf).trans hm
theorem mn_M_range (N : Nat) (s : ms) (y : (Int32 × ms)) (hf : fn_M_range N s = some y) : gl y.2 = gl s := by
  unfold fn_M_range at hf
  have hm : gl s = gl s := rfl
  obtain ⟨q_1, hc_2, hf⟩ := dc_b hf
  have hm := (mn_M_is N 91 s q_1 hc_2).trans hm
  by_cases h : q_1.1 = 0
  · have hf := (if_pos h).symm.trans hf
    exact (dc_e hf).trans hm
  · have hf := (if_neg h).symm.trans hf
    obtain ⟨q_4, hc_5, hf⟩ := dc_b hf
    have hm := (mn_M_numberOf N (((q_1.2.1 8 0) + 1)) q_1.2 q_4 hc_5).trans hm
    obtain ⟨q_7, hc_8, hf⟩ := dc_b hf
    have hm := (mn_M_numberOf N (((q_4.2.1 8 0) + 3)) q_4.2 q_7 hc_8).trans hm
    by_cases h : 0 < (lg_cmp q_4.1 63)
    · have hf := (if_pos h).symm.trans hf
      exact (mo_M_range_47 N y q_4.1 q_7.2 hf).trans hm
    · have hf := (if_neg h).symm.trans hf
      by_cases h : (lg_cmp q_7.1 0) = 0
      · have hf := (if_pos h).symm.trans hf
        exact (mo_M_range_62 N y q_4.1 q_7.2 hf).trans hm
      · have hf := (if_neg h).symm.trans hf
        exact (mo_M_range_47 N y q_4.1 q_7.2 hf).trans hm
set_option maxHeartbeats 8000000 in
set_option maxRecDepth 100000 in
theorem ct_M_range (l : Launch) (dC : Nat → ClassId) (dI : Nat → Nat → Nat) (cI cB cJ cZ cQ : ClassId) (N sz : Nat) (h0 : Nat) (a : Nat → Nat) (s : ms) (y : (Int32 × ms)) (hf : fn_M_range N s = some y) : Met l yn_M_range (xw yn_M_range bn_M_range 5 (some .int)) ({ frames := 4, cells := 0, slots := 0, locals := 93 }) (dc_P (dC, dI) xcl (xt cI cB cJ cZ cQ) [.ref h0] sz (wM h0 a cI cB cJ cZ s)) (xk_Qi (dC, dI) xcl (xt cI cB cJ cZ cQ) (fun (r : Int32) (_ : Unit) => r = y.1) (fun u : Unit => (wM h0 a cI cB cJ cZ y.2)) (va_A (wM h0 a cI cB cJ cZ s) sz)) 0 0 (va_A (wM h0 a cI cB cJ cZ s) sz) := by
  refine dc_of (QA := xk_Qi (dC, dI) xcl (xt cI cB cJ cZ cQ) (fun (r : Int32) (_ : Unit) => r = y.1) (fun u : Unit => (wM h0 a cI cB cJ cZ y.2))) (by decide) (Nat.le_of_ble_eq_true rfl) ?_
  intro p e s0 m below meth c hx hb hml hown hg hr hlocks hin hP hK hN A hA hD hT ls hl
  have hown : s0.vm.findClass rn_M = some m.cls := hown
  obtain ⟨H, hH⟩ : ∃ z, z = s0.heap := ⟨_, rfl⟩
  rw [← hH] at hP
  have hS : va_S A s0.heap H [] := by rw [hH]; exact va_S.rf
  suffices kk : ∀ QQ : State → Prop, QQ = MQ below (xk_Qi (dC, dI) xcl (xt cI cB cJ cZ cQ) (fun (r : Int32) (_ : Unit) => r = y.1) (fun u : Unit => (wM h0 a cI cB cJ cZ y.2)) A) [.ref h0].toArray s0 0 0 A → dcC p l e ({ frames := 4, cells := 0, slots := 0, locals := 93 }) s0 m [.ref h0].toArray below meth c QQ (dC, dI) A (wM h0 a cI cB cJ cZ s) 0 5 [(0, .ref h0)] [] by
    have k9 := kk _ rfl H [] ls hP hD hS hl
    rw [hH] at k9; exact k9
  clear hP hD hS hl hH H ls
  intro QQ hQQ
  have bl_62 : ∀ (x1 : Int64) (s : ms), bk_M_range_62 N x1 s = some y → dcC p l e ({ frames := 4, cells := 0, slots := 0, locals := 93 }) s0 m [.ref h0].toArray below meth c QQ (dC, dI) A (wM h0 a cI cB cJ cZ s) 62 5 [(0, .ref h0), (1, .long x1)] [] := by
    intro x1 s hf H locs ls hP hD hS hl
    unfold bk_M_range_62 at hf
    refine lv_aload_n hx hb dn_M_range_62 rfl (lv_at hl 0 rfl) ?_
    refine lv_aload_n hx hb dn_M_range_63 rfl (lv_at hl 0 rfl) ?_
    refine va_get (D := (dC, dI)) (ci := 0) (v := .int ((s.1 8 0))) (C := rn_M) (T := fn_M) (N := 91) hx hb hg in_M hown hK hP 0 rfl rfl 8 (by decide) (hg _ wn_8_81) (fun _ h9 => h9) rfl dn_M_range_64 ?_
    refine lv_iconst (v := 5) hx hb dn_M_range_67 (by decide) ?_
    refine lv_iadd hx hb dn_M_range_68 ?_
    refine va_put (D := (dC, dI)) (ci := 0) (v := .int (((s.1 8 0) + 5))) (ty := .int) (C := rn_M) (T := fn_M) (N := 91) hx hb hg in_M tn_M tk_M nn_M hown hK hP hD hS 0 rfl rfl 8 (by decide) (hg _ wn_8_81) (fun _ h9 => h9) rfl (tk_M 8 (by decide)) rfl rfl (Nat.le_of_ble_eq_true rfl) dn_M_range_69 (fun H locs hP hD hS => ?_)
    have hP := wM_P_8 hP
    have hD := wM_D_8 hD
    refine lv_lload_n hx hb dn_M_range_72 rfl (lv_at hl 1 rfl) ?_
    refine lv_l2i (v := Int64.toInt32 x1) hx hb dn_M_range_73 rfl ?_
    refine lv_iconst (v := 1) hx hb dn_M_range_74 (by decide) ?_
    refine lv_iadd hx hb dn_M_range_75 ?_
    rw [hQQ, ← Option.some.inj hf]
    exact xk_iret (w1 := fun u : Unit => (wM h0 a cI cB cJ cZ (upI s 8 (fun _ => ((s.1 8 0) + 5))))) () hx hb hr hlocks hK hS dn_M_range_76 hP hD rfl (Nat.le_refl _) (Nat.le_refl _)
  have bl_47 : ∀ (x1 : Int64) (s : ms), bk_M_range_47 N x1 s = some y → dcC p l e ({ frames := 4, cells := 0, slots := 0, locals := 93 }) s0 m [.ref h0].toArray below meth c QQ (dC, dI) A (wM h0 a cI cB cJ cZ s) 47 5 [(0, .ref h0), (1, .long x1)] [] := by
    intro x1 s hf H locs ls hP hD hS hl
    unfold bk_M_range_47 at hf
    refine lv_aload_n hx hb dn_M_range_47 rfl (lv_at hl 0 rfl) ?_
    refine lv_bipush (v := 30) hx hb dn_M_range_48 (by decide) ?_
    refine lv_aload_n hx hb dn_M_range_50 rfl (lv_at hl 0 rfl) ?_
    refine va_get (D := (dC, dI)) (ci := 0) (v := .ref ((a 5))) (C := rn_M) (T := fn_M) (N := 91) hx hb hg in_M hown hK hP 0 rfl rfl 5 (by decide) (hg _ wn_8_78) (fun _ h9 => h9) rfl dn_M_range_51 ?_
    refine lv_aload_n hx hb dn_M_range_54 rfl (lv_at hl 0 rfl) ?_
    refine va_get (D := (dC, dI)) (ci := 0) (v := .int ((s.1 8 0))) (C := rn_M) (T := fn_M) (N := 91) hx hb hg in_M hown hK hP 0 rfl rfl 8 (by decide) (hg _ wn_8_81) (fun _ h9 => h9) rfl dn_M_range_55 ?_
    obtain ⟨hg_1, hf⟩ := dc_g hf
    refine va_iald hx hb hK hP 3 0 rfl rfl hg_1 dn_M_range_58 ?_
    refine xk_ti (y := ((s.1 5) (Int32.toNatClampNeg ((s.1 8 0))))) rfl ?_
    obtain ⟨q_2, hc_3, hf⟩ := dc_b hf
    refine dc_callv (dc_runV (ar := 2) (As := [.int 30, .int (((s.1 5) (Int32.toNatClampNeg ((s.1 8 0)))))]) (rest := []) (ci := 0) (q0 := 0) ⟨hx, hb, hml, hown, hg⟩ hK hN hT hS hA (ct_M_fail l dC dI cI cB cJ cZ cQ N H.size h0 a 30 (((s.1 5) (Int32.toNatClampNeg ((s.1 8 0))))) s q_2 hc_3) hP hD rfl rfl wn_9_186 wn_9_188 sn_M_fail wn_1_13 wn_9_189 rfl rfl (by decide +kernel) ⟨Nat.le_of_ble_eq_true rfl, Nat.le_of_ble_eq_true rfl⟩ rfl hl.1 rfl (Nat.le_of_ble_eq_true rfl) dn_M_range_59 ⟨Nat.le_of_ble_eq_true rfl, Nat.le_of_ble_eq_true rfl⟩) hP hD hS hA (fun _ H locs hw hP hD hS => ?_)
    exact bl_62 x1 q_2.2 hf H locs ls hP hD hS hl
  intro H locs ls hP hD hS hl
  unfold fn_M_range at hf
  refine lv_aload_n hx hb dn_M_range_0 rfl (lv_at hl 0 rfl) ?_
  refine lv_bipush (v := 91) hx hb dn_M_range_1 (by decide) ?_
  obtain ⟨q_1, hc_2, hf⟩ := dc_b hf
  refine dc_calli (dc_runV (ar := 1) (As := [.int 91]) (rest := []) (ci := 0) (q0 := 0) ⟨hx, hb, hml, hown, hg⟩ hK hN hT hS hA (ct_M_is l dC dI cI cB cJ cZ cQ N H.size h0 a 91 s q_1 hc_2) hP hD rfl rfl wn_9_194 wn_9_196 sn_M_is wn_1_13 wn_9_197 rfl rfl (by decide +kernel) ⟨Nat.le_of_ble_eq_true rfl, Nat.le_of_ble_eq_true rfl⟩ rfl hl.1 rfl (Nat.le_of_ble_eq_true rfl) dn_M_range_3 ⟨Nat.le_of_ble_eq_true rfl, Nat.le_of_ble_eq_true rfl⟩) hP hD hS hA (fun r_3 _ H locs hw hP hD hS => ?_)
  have hw : r_3 = q_1.1 := hw
  subst hw
  refine lv_if_ne (tgt := 11) hx hb dn_M_range_6 (by decide) (fun h => ?_) (fun h => ?_)
  · have hf := (if_neg h).symm.trans hf
    refine lv_aload_n hx hb dn_M_range_11 rfl (lv_at hl 0 rfl) ?_
    refine lv_aload_n hx hb dn_M_range_12 rfl (lv_at hl 0 rfl) ?_
    refine va_get (D := (dC, dI)) (ci := 0) (v := .int ((q_1.2.1 8 0))) (C := rn_M) (T := fn_M) (N := 91) hx hb hg in_M hown hK hP 0 rfl rfl 8 (by decide) (hg _ wn_8_81) (fun _ h9 => h9) rfl dn_M_range_13 ?_
    refine lv_iconst (v := 1) hx hb dn_M_range_16 (by decide) ?_
    refine lv_iadd hx hb dn_M_range_17 ?_
    obtain ⟨q_4, hc_5, hf⟩ := dc_b hf
    refine dc_calll (dc_runV (ar := 1) (As := [.int (((q_1.2.1 8 0) + 1))]) (rest := []) (ci := 0) (q0 := 0) ⟨hx, hb, hml, hown, hg⟩ hK hN hT hS hA (ct_M_numberOf l dC dI cI cB cJ cZ cQ N H.size h0 a (((q_1.2.1 8 0) + 1)) q_1.2 q_4 hc_5) hP hD rfl rfl wn_10_40 wn_10_42 sn_M_numberOf wn_1_13 wn_10_43 rfl rfl (by decide +kernel) ⟨Nat.le_of_ble_eq_true rfl, Nat.le_of_ble_eq_true rfl⟩ rfl hl.1 rfl (Nat.le_of_ble_eq_true rfl) dn_M_range_18 ⟨Nat.le_of_ble_eq_true rfl, Nat.le_of_ble_eq_true rfl⟩) hP hD hS hA (fun r_6 _ H locs hw hP hD hS => ?_)
    have hw : r_6 = q_4.1 := hw
    subst hw
    refine lv_lstore_n (lv' := [(1, .long q_4.1), (0, .ref h0)]) hx hb dn_M_range_21 rfl hl (by decide) rfl (fun ls hl => ?_)
    refine lv_aload_n hx hb dn_M_range_22 rfl (lv_at hl 1 rfl) ?_
    refine lv_aload_n hx hb dn_M_range_23 rfl (lv_at hl 1 rfl) ?_
    refine va_get (D := (dC, dI)) (ci := 0) (v := .int ((q_4.2.1 8 0))) (C := rn_M) (T := fn_M) (N := 91) hx hb hg in_M hown hK hP 0 rfl rfl 8 (by decide) (hg _ wn_8_81) (fun _ h9 => h9) rfl dn_M_range_24 ?_
    refine lv_iconst (v := 3) hx hb dn_M_range_27 (by decide) ?_
    refine lv_iadd hx hb dn_M_range_28 ?_
    obtain ⟨q_7, hc_8, hf⟩ := dc_b hf
    refine dc_calll (dc_runV (ar := 1) (As := [.int (((q_4.2.1 8 0) + 3))]) (rest := []) (ci := 0) (q0 := 0) ⟨hx, hb, hml, hown, hg⟩ hK hN hT hS hA (ct_M_numberOf l dC dI cI cB cJ cZ cQ N H.size h0 a (((q_4.2.1 8 0) + 3)) q_4.2 q_7 hc_8) hP hD rfl rfl wn_10_40 wn_10_42 sn_M_numberOf wn_1_13 wn_10_43 rfl rfl (by decide +kernel) ⟨Nat.le_of_ble_eq_true rfl, Nat.le_of_ble_eq_true rfl⟩ rfl hl.1 rfl (Nat.le_of_ble_eq_true rfl) dn_M_range_29 ⟨Nat.le_of_ble_eq_true rfl, Nat.le_of_ble_eq_true rfl⟩) hP hD hS hA (fun r_9 _ H locs hw hP hD hS => ?_)
    have hw : r_9 = q_7.1 := hw
    subst hw
    refine lv_lstore_n (lv' := [(3, .long q_7.1), (1, .long q_4.1), (0, .ref h0)]) hx hb dn_M_range_32 rfl hl (by decide) rfl (fun ls hl => ?_)
    refine lv_lload_n hx hb dn_M_range_33 rfl (lv_at hl 1 rfl) ?_
    refine lv_ldc2 hx hb hown (hg _ wn_10_44) dn_M_range_34 ?_
    refine W.lcmp hx hb dn_M_range_37 ?_
    refine lv_if_gt (tgt := 47) hx hb dn_M_range_38 (by decide) (fun h => ?_) (fun h => ?_)
    · have hf := (if_pos h).symm.trans hf
      exact bl_47 q_4.1 q_7.2 hf H locs ls hP hD hS (lv_sub hl [2, 1] rfl)
    · have hf := (if_neg h).symm.trans hf
      refine lv_lload_n hx hb dn_M_range_41 rfl (lv_at hl 0 rfl) ?_
      refine lv_lconst (v := 0) hx hb dn_M_range_42 (by decide) ?_
      refine W.lcmp hx hb dn_M_range_43 ?_
      refine lv_if_eq (tgt := 62) hx hb dn_M_range_44 (by decide) (fun h => ?_) (fun h => ?_)
      · have hf := (if_pos h).symm.trans hf
        exact bl_62 q_4.1 q_7.2 hf H locs ls hP hD hS (lv_sub hl [2, 1] rfl)
      · have hf := (if_neg h).symm.trans hf
        exact bl_47 q_4.1 q_7.2 hf H locs ls hP hD hS (lv_sub hl [2, 1] rfl)
  · have hf := (if_pos h).symm.trans hf
    refine lv_iconst (v := 1) hx hb dn_M_range_9 (by decide) ?_
    rw [hQQ, ← Option.some.inj hf]
    exact xk_iret (w1 := fun u : Unit => (wM h0 a cI cB cJ cZ q_1.2)) () hx hb hr hlocks hK hS dn_M_range_10 hP hD rfl (Nat.le_refl _) (Nat.le_refl _)
theorem mb_M_signalNamed_3 (N : Nat) (y : (Int32 × ms)) (k_3 : Int32 → Int32 → Int32 → ms → Option (Int32 × ms)) (hkm_3 : ∀ (x1 : Int32) (x3 : Int32) (x4 : Int32) (s : ms), k_3 x1 x3 x4 s = some y → gl y.2 = gl s) (x1 : Int32) (x3 : Int32) (x4 : Int32) (s : ms) (hf : bd_M_signalNamed_3 N k_3 x1 x3 x4 s = some y) : gl y.2 = gl s := by
  unfold bd_M_signalNamed_3 at hf
  have hm : gl s = gl s := rfl
  by_cases h : x3 ≤ x4
  · have hf := (if_pos h).symm.trans hf
    exact (dc_e hf).trans hm
  · have hf := (if_neg h).symm.trans hf
    obtain ⟨_, hf⟩ := dc_g hf
    obtain ⟨q_2, hc_3, hf⟩ := dc_b hf
    have hm := (mn_M_sameToken N (((s.1 19) (Int32.toNatClampNeg x4))) x1 s q_2 hc_3).trans hm
    by_cases h : q_2.1 = 0
    · have hf := (if_pos h).symm.trans hf
      exact (hkm_3 x1 x3 ((x4 + 1)) q_2.2 hf).trans hm
    · have hf := (if_neg h).symm.trans hf
      exact (dc_e hf).trans hm
theorem mh_M_signalNamed_3 (N : Nat) (y : (Int32 × ms)) : ∀ (n : Nat) (x1 : Int32) (x3 : Int32) (x4 : Int32) (s : ms), hd_M_signalNamed_3 N n x1 x3 x4 s = some y → gl y.2 = gl s := by
  intro n
  induction n with
  | zero => intro x1 x3 x4 s hf; cases hf
  | succ n ih => intro x1 x3 x4 s hf; exact mb_M_signalNamed_3 N y (hd_M_signalNamed_3 N n) ih x1 x3 x4 s hf
theorem mn_M_signalNamed (N : Nat) (v1 : Int32) (v2 : Int32) (v3 : Int32) (s : ms) (y : (Int32 × ms)) (hf : fn_M_signalNamed N v1 v2 v3 s = some y) : gl y.2 = gl s := by
  unfold fn_M_signalNamed at hf
  have hm : gl s = gl s := rfl
  exact (mh_M_signalNamed_3 N y N v1 v3 v2 s hf).trans hm
set_option maxHeartbeats 8000000 in
set_option maxRecDepth 100000 in
theorem ct_M_signalNamed (l : Launch) (dC : Nat → ClassId) (dI : Nat → Nat → Nat) (cI cB cJ cZ cQ : ClassId) (N sz : Nat) (h0 : Nat) (a : Nat → Nat) (v1 : Int32) (v2 : Int32) (v3 : Int32) (s : ms) (y : (Int32 × ms)) (hf : fn_M_signalNamed N v1 v2 v3 s = some y) : Met l yn_M_signalNamed (xw yn_M_signalNamed bn_M_signalNamed 5 (some .int)) ({ frames := 1, cells := 0, slots := 0, locals := 24 }) (dc_P (dC, dI) xcl (xt cI cB cJ cZ cQ) [.ref h0, .int v1, .int v2, .int v3] sz (wM h0 a cI cB cJ cZ s)) (xk_Qi (dC, dI) xcl (xt cI cB cJ cZ cQ) (fun (r : Int32) (_ : Unit) => r = y.1) (fun u : Unit => (wM h0 a cI cB cJ cZ y.2)) (va_A (wM h0 a cI cB cJ cZ s) sz)) 0 0 (va_A (wM h0 a cI cB cJ cZ s) sz) := by
  refine dc_of (QA := xk_Qi (dC, dI) xcl (xt cI cB cJ cZ cQ) (fun (r : Int32) (_ : Unit) => r = y.1) (fun u : Unit => (wM h0 a cI cB cJ cZ y.2))) (by decide) (Nat.le_of_ble_eq_true rfl) ?_
  intro p e s0 m below meth c hx hb hml hown hg hr hlocks hin hP hK hN A hA hD hT ls hl
  have hown : s0.vm.findClass rn_M = some m.cls := hown
  obtain ⟨H, hH⟩ : ∃ z, z = s0.heap := ⟨_, rfl⟩
  rw [← hH] at hP
  have hS : va_S A s0.heap H [] := by rw [hH]; exact va_S.rf
  suffices kk : ∀ QQ : State → Prop, QQ = MQ below (xk_Qi (dC, dI) xcl (xt cI cB cJ cZ cQ) (fun (r : Int32) (_ : Unit) => r = y.1) (fun u : Unit => (wM h0 a cI cB cJ cZ y.2)) A) [.ref h0, .int v1, .int v2, .int v3].toArray s0 0 0 A → dcC p l e ({ frames := 1, cells := 0, slots := 0, locals := 24 }) s0 m [.ref h0, .int v1, .int v2, .int v3].toArray below meth c QQ (dC, dI) A (wM h0 a cI cB cJ cZ s) 0 5 [(0, .ref h0), (1, .int v1), (2, .int v2), (3, .int v3)] [] by
    have k9 := kk _ rfl H [] ls hP hD hS hl
    rw [hH] at k9; exact k9
  clear hP hD hS hl hH H ls
  intro QQ hQQ
  have hd_3 : ∀ (n : Nat) (x1 : Int32) (x3 : Int32) (x4 : Int32) (s : ms), hd_M_signalNamed_3 N n x1 x3 x4 s = some y → dcC p l e ({ frames := 1, cells := 0, slots := 0, locals := 24 }) s0 m [.ref h0, .int v1, .int v2, .int v3].toArray below meth c QQ (dC, dI) A (wM h0 a cI cB cJ cZ s) 3 5 [(0, .ref h0), (1, .int x1), (3, .int x3), (4, .int x4)] [] := by
    intro n
    induction n with
    | zero => intro x1 x3 x4 s hf; cases hf
    | succ n ih =>
      intro x1 x3 x4 s hf H locs ls hP hD hS hl
      have hf : bd_M_signalNamed_3 N (hd_M_signalNamed_3 N n) x1 x3 x4 s = some y := hf
      have hk_3 := ih
      generalize hd_M_signalNamed_3 N n = k_3 at hf hk_3
      unfold bd_M_signalNamed_3 at hf
      refine lv_iload hx hb dn_M_signalNamed_3 (lv_at hl 3 rfl) ?_
      refine lv_iload_n hx hb dn_M_signalNamed_5 rfl (lv_at hl 2 rfl) ?_
      refine lv_icmp_ge (tgt := 33) hx hb dn_M_signalNamed_6 (by decide) (fun h => ?_) (fun h => ?_)
      · have hf := (if_pos h).symm.trans hf
        refine lv_iconst (v := (-1)) hx hb dn_M_signalNamed_33 (by decide) ?_
        rw [hQQ, ← Option.some.inj hf]
        exact xk_iret (w1 := fun u : Unit => (wM h0 a cI cB cJ cZ s)) () hx hb hr hlocks hK hS dn_M_signalNamed_34 hP hD rfl (Nat.le_refl _) (Nat.le_refl _)
      · have hf := (if_neg h).symm.trans hf
        refine lv_aload_n hx hb dn_M_signalNamed_9 rfl (lv_at hl 0 rfl) ?_
        refine lv_aload_n hx hb dn_M_signalNamed_10 rfl (lv_at hl 0 rfl) ?_
        refine va_get (D := (dC, dI)) (ci := 0) (v := .ref ((a 19))) (C := rn_M) (T := fn_M) (N := 91) hx hb hg in_M hown hK hP 0 rfl rfl 19 (by decide) (hg _ wn_8_92) (fun _ h9 => h9) rfl dn_M_signalNamed_11 ?_
        refine lv_iload hx hb dn_M_signalNamed_14 (lv_at hl 3 rfl) ?_
        obtain ⟨hg_1, hf⟩ := dc_g hf
        refine va_iald hx hb hK hP 10 0 rfl rfl hg_1 dn_M_signalNamed_16 ?_
        refine xk_ti (y := ((s.1 19) (Int32.toNatClampNeg x4))) rfl ?_
        refine lv_iload_n hx hb dn_M_signalNamed_17 rfl (lv_at hl 1 rfl) ?_
        obtain ⟨q_2, hc_3, hf⟩ := dc_b hf
        refine dc_calli (dc_runV (ar := 2) (As := [.int (((s.1 19) (Int32.toNatClampNeg x4))), .int x1]) (rest := []) (ci := 0) (q0 := 0) ⟨hx, hb, hml, hown, hg⟩ hK hN hT hS hA (ct_M_sameToken l dC dI cI cB cJ cZ cQ N H.size h0 a (((s.1 19) (Int32.toNatClampNeg x4))) x1 s q_2 hc_3) hP hD rfl rfl wn_10_28 wn_10_30 sn_M_sameToken wn_1_13 wn_10_31 rfl rfl (by decide +kernel) ⟨Nat.le_of_ble_eq_true rfl, Nat.le_of_ble_eq_true rfl⟩ rfl hl.1 rfl (Nat.le_of_ble_eq_true rfl) dn_M_signalNamed_18 ⟨Nat.le_of_ble_eq_true rfl, Nat.le_of_ble_eq_true rfl⟩) hP hD hS hA (fun r_4 _ H locs hw hP hD hS => ?_)
        have hw : r_4 = q_2.1 := hw
        subst hw
        refine lv_if_eq (tgt := 27) hx hb dn_M_signalNamed_21 (by decide) (fun h => ?_) (fun h => ?_)
        · have hf := (if_pos h).symm.trans hf
          refine lv_iinc (v := (x4 + 1)) (lv' := [(4, .int ((x4 + 1))), (0, .ref h0), (1, .int x1), (3, .int x3)]) hx hb dn_M_signalNamed_27 hl (k := 3) rfl (dc_inc (by decide)) (by decide) rfl (fun ls hl => ?_)
          refine lv_goto (tgt := 3) hx hb dn_M_signalNamed_30 (by decide) ?_
          exact hk_3 x1 x3 ((x4 + 1)) q_2.2 hf H locs ls hP hD hS (lv_sub hl [1, 2, 3, 0] rfl)
        · have hf := (if_neg h).symm.trans hf
          refine lv_iload hx hb dn_M_signalNamed_24 (lv_at hl 3 rfl) ?_
          rw [hQQ, ← Option.some.inj hf]
          exact xk_iret (w1 := fun u : Unit => (wM h0 a cI cB cJ cZ q_2.2)) () hx hb hr hlocks hK hS dn_M_signalNamed_26 hP hD rfl (Nat.le_refl _) (Nat.le_refl _)
  intro H locs ls hP hD hS hl
  unfold fn_M_signalNamed at hf
  refine lv_iload_n hx hb dn_M_signalNamed_0 rfl (lv_at hl 2 rfl) ?_
  refine lv_istore (lv' := [(4, .int v2), (0, .ref h0), (1, .int v1), (2, .int v2), (3, .int v3)]) hx hb dn_M_signalNamed_1 hl (by decide) rfl (fun ls hl => ?_)
  exact hd_3 N v1 v3 v2 s hf H locs ls hP hD hS (lv_sub hl [1, 2, 4, 0] rfl)
