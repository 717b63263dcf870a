theorem mn_M_thrown (N : Nat) (s : ms) (y : (Int32 × ms)) (hf : fn_M_thrown N s = some y) : gl y.2 = gl s := by
  unfold fn_M_thrown at hf
  have hm : gl s = gl s := rfl
  exact (dc_e hf).trans hm
set_option maxHeartbeats 8000000 in
set_option maxRecDepth 100000 in
theorem ct_M_thrown (l : Launch) (dC : Nat → ClassId) (dI : Nat → Nat → Nat) (cI cB cJ cZ cQ : ClassId) (N sz : Nat) (h0 : Nat) (a : Nat → Nat) (s : ms) (y : (Int32 × ms)) (hf : fn_M_thrown N s = some y) : Met l yn_M_thrown (xw yn_M_thrown bn_M_thrown 1 (some .int)) ({ frames := 0, cells := 0, slots := 0, locals := 0 }) (dc_P (dC, dI) xcl (xt cI cB cJ cZ cQ) [.ref h0] sz (wM h0 a cI cB cJ cZ s)) (xk_Qi (dC, dI) xcl (xt cI cB cJ cZ cQ) (fun (r : Int32) (_ : Unit) => r = y.1) (fun u : Unit => (wM h0 a cI cB cJ cZ y.2)) (va_A (wM h0 a cI cB cJ cZ s) sz)) 0 0 (va_A (wM h0 a cI cB cJ cZ s) sz) := by
  refine dc_of (QA := xk_Qi (dC, dI) xcl (xt cI cB cJ cZ cQ) (fun (r : Int32) (_ : Unit) => r = y.1) (fun u : Unit => (wM h0 a cI cB cJ cZ y.2))) (by decide) (Nat.le_of_ble_eq_true rfl) ?_
  intro p e s0 m below meth c hx hb hml hown hg hr hlocks hin hP hK hN A hA hD hT ls hl
  have hown : s0.vm.findClass rn_M = some m.cls := hown
  obtain ⟨H, hH⟩ : ∃ z, z = s0.heap := ⟨_, rfl⟩
  rw [← hH] at hP
  have hS : va_S A s0.heap H [] := by rw [hH]; exact va_S.rf
  suffices kk : ∀ QQ : State → Prop, QQ = MQ below (xk_Qi (dC, dI) xcl (xt cI cB cJ cZ cQ) (fun (r : Int32) (_ : Unit) => r = y.1) (fun u : Unit => (wM h0 a cI cB cJ cZ y.2)) A) [.ref h0].toArray s0 0 0 A → dcC p l e ({ frames := 0, cells := 0, slots := 0, locals := 0 }) s0 m [.ref h0].toArray below meth c QQ (dC, dI) A (wM h0 a cI cB cJ cZ s) 0 1 [(0, .ref h0)] [] by
    have k9 := kk _ rfl H [] ls hP hD hS hl
    rw [hH] at k9; exact k9
  clear hP hD hS hl hH H ls
  intro QQ hQQ
  intro H locs ls hP hD hS hl
  unfold fn_M_thrown at hf
  refine lv_aload_n hx hb dn_M_thrown_0 rfl (lv_at hl 0 rfl) ?_
  refine va_get (D := (dC, dI)) (ci := 0) (v := .int ((s.1 0 0))) (C := rn_M) (T := fn_M) (N := 91) hx hb hg in_M hown hK hP 0 rfl rfl 0 (by decide) (hg _ wn_8_73) (fun _ h9 => h9) rfl dn_M_thrown_1 ?_
  rw [hQQ, ← Option.some.inj hf]
  exact xk_iret (w1 := fun u : Unit => (wM h0 a cI cB cJ cZ s)) () hx hb hr hlocks hK hS dn_M_thrown_4 hP hD rfl (Nat.le_refl _) (Nat.le_refl _)
theorem mn_M_at (N : Nat) (v1 : Int32) (s : ms) (y : (Int32 × ms)) (hf : fn_M_at N v1 s = some y) : gl y.2 = gl s := by
  unfold fn_M_at at hf
  have hm : gl s = gl s := rfl
  by_cases h : (s.1 2 0) ≤ v1
  · have hf := (if_pos h).symm.trans hf
    exact (dc_e hf).trans hm
  · have hf := (if_neg h).symm.trans hf
    obtain ⟨_, hf⟩ := dc_g hf
    exact (dc_e hf).trans hm
set_option maxHeartbeats 8000000 in
set_option maxRecDepth 100000 in
theorem ct_M_at (l : Launch) (dC : Nat → ClassId) (dI : Nat → Nat → Nat) (cI cB cJ cZ cQ : ClassId) (N sz : Nat) (h0 : Nat) (a : Nat → Nat) (v1 : Int32) (s : ms) (y : (Int32 × ms)) (hf : fn_M_at N v1 s = some y) : Met l yn_M_at (xw yn_M_at bn_M_at 2 (some .int)) ({ frames := 0, cells := 0, slots := 0, locals := 0 }) (dc_P (dC, dI) xcl (xt cI cB cJ cZ cQ) [.ref h0, .int v1] sz (wM h0 a cI cB cJ cZ s)) (xk_Qi (dC, dI) xcl (xt cI cB cJ cZ cQ) (fun (r : Int32) (_ : Unit) => r = y.1) (fun u : Unit => (wM h0 a cI cB cJ cZ y.2)) (va_A (wM h0 a cI cB cJ cZ s) sz)) 0 0 (va_A (wM h0 a cI cB cJ cZ s) sz) := by
  refine dc_of (QA := xk_Qi (dC, dI) xcl (xt cI cB cJ cZ cQ) (fun (r : Int32) (_ : Unit) => r = y.1) (fun u : Unit => (wM h0 a cI cB cJ cZ y.2))) (by decide) (Nat.le_of_ble_eq_true rfl) ?_
  intro p e s0 m below meth c hx hb hml hown hg hr hlocks hin hP hK hN A hA hD hT ls hl
  have hown : s0.vm.findClass rn_M = some m.cls := hown
  obtain ⟨H, hH⟩ : ∃ z, z = s0.heap := ⟨_, rfl⟩
  rw [← hH] at hP
  have hS : va_S A s0.heap H [] := by rw [hH]; exact va_S.rf
  suffices kk : ∀ QQ : State → Prop, QQ = MQ below (xk_Qi (dC, dI) xcl (xt cI cB cJ cZ cQ) (fun (r : Int32) (_ : Unit) => r = y.1) (fun u : Unit => (wM h0 a cI cB cJ cZ y.2)) A) [.ref h0, .int v1].toArray s0 0 0 A → dcC p l e ({ frames := 0, cells := 0, slots := 0, locals := 0 }) s0 m [.ref h0, .int v1].toArray below meth c QQ (dC, dI) A (wM h0 a cI cB cJ cZ s) 0 2 [(0, .ref h0), (1, .int v1)] [] by
    have k9 := kk _ rfl H [] ls hP hD hS hl
    rw [hH] at k9; exact k9
  clear hP hD hS hl hH H ls
  intro QQ hQQ
  intro H locs ls hP hD hS hl
  unfold fn_M_at at hf
  refine lv_iload_n hx hb dn_M_at_0 rfl (lv_at hl 1 rfl) ?_
  refine lv_aload_n hx hb dn_M_at_1 rfl (lv_at hl 0 rfl) ?_
  refine va_get (D := (dC, dI)) (ci := 0) (v := .int ((s.1 2 0))) (C := rn_M) (T := fn_M) (N := 91) hx hb hg in_M hown hK hP 0 rfl rfl 2 (by decide) (hg _ wn_8_75) (fun _ h9 => h9) rfl dn_M_at_2 ?_
  refine lv_icmp_ge (tgt := 21) hx hb dn_M_at_5 (by decide) (fun h => ?_) (fun h => ?_)
  · have hf := (if_pos h).symm.trans hf
    refine lv_iconst (v := (-1)) hx hb dn_M_at_21 (by decide) ?_
    rw [hQQ, ← Option.some.inj hf]
    exact xk_iret (w1 := fun u : Unit => (wM h0 a cI cB cJ cZ s)) () hx hb hr hlocks hK hS dn_M_at_22 hP hD rfl (Nat.le_refl _) (Nat.le_refl _)
  · have hf := (if_neg h).symm.trans hf
    refine lv_aload_n hx hb dn_M_at_8 rfl (lv_at hl 0 rfl) ?_
    refine va_get (D := (dC, dI)) (ci := 0) (v := .ref ((a 90))) (C := rn_M) (T := fn_M) (N := 91) hx hb hg in_M hown hK hP 0 rfl rfl 90 (by decide) (hg _ wn_8_163) (fun _ h9 => h9) rfl dn_M_at_9 ?_
    refine lv_iload_n hx hb dn_M_at_12 rfl (lv_at hl 1 rfl) ?_
    obtain ⟨hg_1, hf⟩ := dc_g hf
    refine va_bald hx hb hK hP 59 1 rfl rfl hg_1 dn_M_at_13 ?_
    refine xk_ti (y := ((s.1 90) (Int32.toNatClampNeg v1))) rfl ?_
    refine lv_sipush (v := 255) hx hb dn_M_at_14 (by decide) ?_
    refine lv_iand hx hb dn_M_at_17 ?_
    refine lv_goto (tgt := 22) hx hb dn_M_at_18 (by decide) ?_
    rw [hQQ, ← Option.some.inj hf]
    exact xk_iret (w1 := fun u : Unit => (wM h0 a cI cB cJ cZ s)) () hx hb hr hlocks hK hS dn_M_at_22 hP hD rfl (Nat.le_refl _) (Nat.le_refl _)
theorem mo_M_skip_142 (N : Nat) (k_2 : Int32 → ms → Option (Int32 × ms)) (y : (Int32 × ms)) (hkm_2 : ∀ (x2 : Int32) (s : ms), k_2 x2 s = some y → gl y.2 = gl s) (x2 : Int32) (x4 : Int32) (s : ms) (hf : bk_M_skip_142 N k_2 x2 x4 s = some y) : gl y.2 = gl s := by
  unfold bk_M_skip_142 at hf
  have hm : gl s = gl s := rfl
  by_cases h : x4 < (s.1 2 0)
  · have hf := (if_pos h).symm.trans hf
    exact (hkm_2 ((x4 + 2)) s hf).trans hm
  · have hf := (if_neg h).symm.trans hf
    exact (dc_e hf).trans hm
theorem mb_M_skip_103 (N : Nat) (k_2 : Int32 → ms → Option (Int32 × ms)) (y : (Int32 × ms)) (hkm_2 : ∀ (x2 : Int32) (s : ms), k_2 x2 s = some y → gl y.2 = gl s) (k_103 : Int32 → Int32 → ms → Option (Int32 × ms)) (hkm_103 : ∀ (x2 : Int32) (x4 : Int32) (s : ms), k_103 x2 x4 s = some y → gl y.2 = gl s) (x2 : Int32) (x4 : Int32) (s : ms) (hf : bd_M_skip_103 N k_2 k_103 x2 x4 s = some y) : gl y.2 = gl s := by
  unfold bd_M_skip_103 at hf
  have hm : gl s = gl s := rfl
  by_cases h : (s.1 2 0) ≤ x4
  · have hf := (if_pos h).symm.trans hf
    exact (mo_M_skip_142 N k_2 y hkm_2 x2 x4 s hf).trans hm
  · have hf := (if_neg h).symm.trans hf
    obtain ⟨q_1, hc_2, hf⟩ := dc_b hf
    have hm := (mn_M_at N x4 s q_1 hc_2).trans hm
    by_cases h : q_1.1 = 42
    · have hf := (if_pos h).symm.trans hf
      obtain ⟨q_4, hc_5, hf⟩ := dc_b hf
      have hm := (mn_M_at N ((x4 + 1)) q_1.2 q_4 hc_5).trans hm
      by_cases h : q_4.1 = 47
      · have hf := (if_pos h).symm.trans hf
        exact (mo_M_skip_142 N k_2 y hkm_2 x2 x4 q_4.2 hf).trans hm
      · have hf := (if_neg h).symm.trans hf
        exact (hkm_103 x2 ((x4 + 1)) q_4.2 hf).trans hm
    · have hf := (if_neg h).symm.trans hf
      exact (hkm_103 x2 ((x4 + 1)) q_1.2 hf).trans hm
theorem mh_M_skip_103 (N : Nat) (k_2 : Int32 → ms → Option (Int32 × ms)) (y : (Int32 × ms)) (hkm_2 : ∀ (x2 : Int32) (s : ms), k_2 x2 s = some y → gl y.2 = gl s) : ∀ (n : Nat) (x2 : Int32) (x4 : Int32) (s : ms), hd_M_skip_103 N k_2 n x2 x4 s = some y → gl y.2 = gl s := by
  intro n
  induction n with
  | zero => intro x2 x4 s hf; cases hf
  | succ n ih => intro x2 x4 s hf; exact mb_M_skip_103 N k_2 y hkm_2 (hd_M_skip_103 N k_2 n) ih x2 x4 s hf
theorem mo_M_skip_80 (N : Nat) (k_2 : Int32 → ms → Option (Int32 × ms)) (y : (Int32 × ms)) (hkm_2 : ∀ (x2 : Int32) (s : ms), k_2 x2 s = some y → gl y.2 = gl s) (x2 : Int32) (x3 : Int32) (s : ms) (hf : bk_M_skip_80 N k_2 x2 x3 s = some y) : gl y.2 = gl s := by
  unfold bk_M_skip_80 at hf
  have hm : gl s = gl s := rfl
  by_cases h : x3 = 47
  · have hf := (if_pos h).symm.trans hf
    obtain ⟨q_1, hc_2, hf⟩ := dc_b hf
    have hm := (mn_M_at N ((x2 + 1)) s q_1 hc_2).trans hm
    by_cases h : q_1.1 = 42
    · have hf := (if_pos h).symm.trans hf
      exact (mh_M_skip_103 N k_2 y hkm_2 N x2 ((x2 + 2)) q_1.2 hf).trans hm
    · have hf := (if_neg h).symm.trans hf
      exact (dc_e hf).trans hm
  · have hf := (if_neg h).symm.trans hf
    exact (dc_e hf).trans hm
theorem mb_M_skip_56 (N : Nat) (k_2 : Int32 → ms → Option (Int32 × ms)) (y : (Int32 × ms)) (hkm_2 : ∀ (x2 : Int32) (s : ms), k_2 x2 s = some y → gl y.2 = gl s) (k_56 : Int32 → ms → Option (Int32 × ms)) (hkm_56 : ∀ (x2 : Int32) (s : ms), k_56 x2 s = some y → gl y.2 = gl s) (x2 : Int32) (s : ms) (hf : bd_M_skip_56 N k_2 k_56 x2 s = some y) : gl y.2 = gl s := by
  unfold bd_M_skip_56 at hf
  have hm : gl s = gl s := rfl
  by_cases h : (s.1 2 0) ≤ x2
  · have hf := (if_pos h).symm.trans hf
    exact (hkm_2 x2 s hf).trans hm
  · have hf := (if_neg h).symm.trans hf
    obtain ⟨q_1, hc_2, hf⟩ := dc_b hf
    have hm := (mn_M_at N x2 s q_1 hc_2).trans hm
    by_cases h : q_1.1 = 10
    · have hf := (if_pos h).symm.trans hf
      exact (hkm_2 x2 q_1.2 hf).trans hm
    · have hf := (if_neg h).symm.trans hf
      exact (hkm_56 ((x2 + 1)) q_1.2 hf).trans hm
theorem mh_M_skip_56 (N : Nat) (k_2 : Int32 → ms → Option (Int32 × ms)) (y : (Int32 × ms)) (hkm_2 : ∀ (x2 : Int32) (s : ms), k_2 x2 s = some y → gl y.2 = gl s) : ∀ (n : Nat) (x2 : Int32) (s : ms), hd_M_skip_56 N k_2 n x2 s = some y → gl y.2 = gl s := by
  intro n
  induction n with
  | zero => intro x2 s hf; cases hf
  | succ n ih => intro x2 s hf; exact mb_M_skip_56 N k_2 y hkm_2 (hd_M_skip_56 N k_2 n) ih x2 s hf
theorem mb_M_skip_2 (N : Nat) (y : (Int32 × ms)) (k_2 : Int32 → ms → Option (Int32 × ms)) (hkm_2 : ∀ (x2 : Int32) (s : ms), k_2 x2 s = some y → gl y.2 = gl s) (x2 : Int32) (s : ms) (hf : bd_M_skip_2 N k_2 x2 s = some y) : gl y.2 = gl s := by
  unfold bd_M_skip_2 at hf
  have hm : gl s = gl s := rfl
  obtain ⟨q_1, hc_2, hf⟩ := dc_b hf
  have hm := (mn_M_at N x2 s q_1 hc_2).trans hm
  by_cases h : q_1.1 = 9
  · have hf := (if_pos h).symm.trans hf
    exact (hkm_2 ((x2 + 1)) q_1.2 hf).trans hm
  · have hf := (if_neg h).symm.trans hf
    by_cases h : q_1.1 = 10
    · have hf := (if_pos h).symm.trans hf
      exact (hkm_2 ((x2 + 1)) q_1.2 hf).trans hm
    · have hf := (if_neg h).symm.trans hf
      by_cases h : q_1.1 = 13
      · have hf := (if_pos h).symm.trans hf
        exact (hkm_2 ((x2 + 1)) q_1.2 hf).trans hm
      · have hf := (if_neg h).symm.trans hf
        by_cases h : q_1.1 = 32
        · have hf := (if_pos h).symm.trans hf
          exact (hkm_2 ((x2 + 1)) q_1.2 hf).trans hm
        · have hf := (if_neg h).symm.trans hf
          by_cases h : q_1.1 = 47
          · have hf := (if_pos h).symm.trans hf
            obtain ⟨q_4, hc_5, hf⟩ := dc_b hf
            have hm := (mn_M_at N ((x2 + 1)) q_1.2 q_4 hc_5).trans hm
            by_cases h : q_4.1 = 47
            · have hf := (if_pos h).symm.trans hf
              exact (mh_M_skip_56 N k_2 y hkm_2 N x2 q_4.2 hf).trans hm
            · have hf := (if_neg h).symm.trans hf
              exact (mo_M_skip_80 N k_2 y hkm_2 x2 q_1.1 q_4.2 hf).trans hm
          · have hf := (if_neg h).symm.trans hf
            exact (mo_M_skip_80 N k_2 y hkm_2 x2 q_1.1 q_1.2 hf).trans hm
theorem mh_M_skip_2 (N : Nat) (y : (Int32 × ms)) : ∀ (n : Nat) (x2 : Int32) (s : ms), hd_M_skip_2 N n x2 s = some y → gl y.2 = gl s := by
  intro n
  induction n with
  | zero => intro x2 s hf; cases hf
  | succ n ih => intro x2 s hf; exact mb_M_skip_2 N y (hd_M_skip_2 N n) ih x2 s hf
theorem mn_M_skip (N : Nat) (v1 : Int32) (s : ms) (y : (Int32 × ms)) (hf : fn_M_skip N v1 s = some y) : gl y.2 = gl s := by
  unfold fn_M_skip at hf
  have hm : gl s = gl s := rfl
  exact (mh_M_skip_2 N y N v1 s hf).trans hm
set_option maxHeartbeats 8000000 in
set_option maxRecDepth 100000 in
theorem ct_M_skip (l : Launch) (dC : Nat → ClassId) (dI : Nat → Nat → Nat) (cI cB cJ cZ cQ : ClassId) (N sz : Nat) (h0 : Nat) (a : Nat → Nat) (v1 : Int32) (s : ms) (y : (Int32 × ms)) (hf : fn_M_skip N v1 s = some y) : Met l yn_M_skip (xw yn_M_skip bn_M_skip 5 (some .int)) ({ frames := 1, cells := 0, slots := 0, locals := 21 }) (dc_P (dC, dI) xcl (xt cI cB cJ cZ cQ) [.ref h0, .int v1] sz (wM h0 a cI cB cJ cZ s)) (xk_Qi (dC, dI) xcl (xt cI cB cJ cZ cQ) (fun (r : Int32) (_ : Unit) => r = y.1) (fun u : Unit => (wM h0 a cI cB cJ cZ y.2)) (va_A (wM h0 a cI cB cJ cZ s) sz)) 0 0 (va_A (wM h0 a cI cB cJ cZ s) sz) := by
  refine dc_of (QA := xk_Qi (dC, dI) xcl (xt cI cB cJ cZ cQ) (fun (r : Int32) (_ : Unit) => r = y.1) (fun u : Unit => (wM h0 a cI cB cJ cZ y.2))) (by decide) (Nat.le_of_ble_eq_true rfl) ?_
  intro p e s0 m below meth c hx hb hml hown hg hr hlocks hin hP hK hN A hA hD hT ls hl
  have hown : s0.vm.findClass rn_M = some m.cls := hown
  obtain ⟨H, hH⟩ : ∃ z, z = s0.heap := ⟨_, rfl⟩
  rw [← hH] at hP
  have hS : va_S A s0.heap H [] := by rw [hH]; exact va_S.rf
  suffices kk : ∀ QQ : State → Prop, QQ = MQ below (xk_Qi (dC, dI) xcl (xt cI cB cJ cZ cQ) (fun (r : Int32) (_ : Unit) => r = y.1) (fun u : Unit => (wM h0 a cI cB cJ cZ y.2)) A) [.ref h0, .int v1].toArray s0 0 0 A → dcC p l e ({ frames := 1, cells := 0, slots := 0, locals := 21 }) s0 m [.ref h0, .int v1].toArray below meth c QQ (dC, dI) A (wM h0 a cI cB cJ cZ s) 0 5 [(0, .ref h0), (1, .int v1)] [] by
    have k9 := kk _ rfl H [] ls hP hD hS hl
    rw [hH] at k9; exact k9
  clear hP hD hS hl hH H ls
  intro QQ hQQ
  have bl_142 : ∀ (k_2 : Int32 → ms → Option (Int32 × ms)) (hk_2 : ∀ (x2 : Int32) (s : ms), k_2 x2 s = some y → dcC p l e ({ frames := 1, cells := 0, slots := 0, locals := 21 }) s0 m [.ref h0, .int v1].toArray below meth c QQ (dC, dI) A (wM h0 a cI cB cJ cZ s) 2 5 [(0, .ref h0), (2, .int x2)] []) (x2 : Int32) (x4 : Int32) (s : ms), bk_M_skip_142 N k_2 x2 x4 s = some y → dcC p l e ({ frames := 1, cells := 0, slots := 0, locals := 21 }) s0 m [.ref h0, .int v1].toArray below meth c QQ (dC, dI) A (wM h0 a cI cB cJ cZ s) 142 5 [(0, .ref h0), (2, .int x2), (4, .int x4)] [] := by
    intro k_2 hk_2 x2 x4 s hf H locs ls hP hD hS hl
    unfold bk_M_skip_142 at hf
    refine lv_iload hx hb dn_M_skip_142 (lv_at hl 2 rfl) ?_
    refine lv_aload_n hx hb dn_M_skip_144 rfl (lv_at hl 0 rfl) ?_
    refine va_get (D := (dC, dI)) (ci := 0) (v := .int ((s.1 2 0))) (C := rn_M) (T := fn_M) (N := 91) hx hb hg in_M hown hK hP 0 rfl rfl 2 (by decide) (hg _ wn_8_75) (fun _ h9 => h9) rfl dn_M_skip_145 ?_
    refine lv_icmp_lt (tgt := 155) hx hb dn_M_skip_148 (by decide) (fun h => ?_) (fun h => ?_)
    · have hf := (if_pos h).symm.trans hf
      refine lv_iload hx hb dn_M_skip_155 (lv_at hl 2 rfl) ?_
      refine lv_iconst (v := 2) hx hb dn_M_skip_157 (by decide) ?_
      refine lv_iadd hx hb dn_M_skip_158 ?_
      refine lv_istore_n (lv' := [(2, .int ((x4 + 2))), (0, .ref h0), (4, .int x4)]) hx hb dn_M_skip_159 rfl hl (by decide) rfl (fun ls hl => ?_)
      refine lv_goto (tgt := 165) hx hb dn_M_skip_160 (by decide) ?_
      refine lv_goto (tgt := 2) hx hb dn_M_skip_165 (by decide) ?_
      exact hk_2 ((x4 + 2)) s hf H locs ls hP hD hS (lv_sub hl [1, 0] rfl)
    · have hf := (if_neg h).symm.trans hf
      refine lv_iconst (v := (-1)) hx hb dn_M_skip_151 (by decide) ?_
      refine lv_iload_n hx hb dn_M_skip_152 rfl (lv_at hl 1 rfl) ?_
      refine lv_isub hx hb dn_M_skip_153 ?_
      rw [hQQ, ← Option.some.inj hf]
      exact xk_iret (w1 := fun u : Unit => (wM h0 a cI cB cJ cZ s)) () hx hb hr hlocks hK hS dn_M_skip_154 hP hD rfl (Nat.le_refl _) (Nat.le_refl _)
  have hd_103 : ∀ (k_2 : Int32 → ms → Option (Int32 × ms)) (hk_2 : ∀ (x2 : Int32) (s : ms), k_2 x2 s = some y → dcC p l e ({ frames := 1, cells := 0, slots := 0, locals := 21 }) s0 m [.ref h0, .int v1].toArray below meth c QQ (dC, dI) A (wM h0 a cI cB cJ cZ s) 2 5 [(0, .ref h0), (2, .int x2)] []) (n : Nat) (x2 : Int32) (x4 : Int32) (s : ms), hd_M_skip_103 N k_2 n x2 x4 s = some y → dcC p l e ({ frames := 1, cells := 0, slots := 0, locals := 21 }) s0 m [.ref h0, .int v1].toArray below meth c QQ (dC, dI) A (wM h0 a cI cB cJ cZ s) 103 5 [(0, .ref h0), (2, .int x2), (4, .int x4)] [] := by
    intro k_2 hk_2 n
    induction n with
    | zero => intro x2 x4 s hf; cases hf
    | succ n ih =>
      intro x2 x4 s hf H locs ls hP hD hS hl
      have hf : bd_M_skip_103 N k_2 (hd_M_skip_103 N k_2 n) x2 x4 s = some y := hf
      have hk_103 := ih
      generalize hd_M_skip_103 N k_2 n = k_103 at hf hk_103
      unfold bd_M_skip_103 at hf
      refine lv_iload hx hb dn_M_skip_103 (lv_at hl 2 rfl) ?_
      refine lv_aload_n hx hb dn_M_skip_105 rfl (lv_at hl 0 rfl) ?_
      refine va_get (D := (dC, dI)) (ci := 0) (v := .int ((s.1 2 0))) (C := rn_M) (T := fn_M) (N := 91) hx hb hg in_M hown hK hP 0 rfl rfl 2 (by decide) (hg _ wn_8_75) (fun _ h9 => h9) rfl dn_M_skip_106 ?_
      refine lv_icmp_ge (tgt := 142) hx hb dn_M_skip_109 (by decide) (fun h => ?_) (fun h => ?_)
      · have hf := (if_pos h).symm.trans hf
        exact bl_142 k_2 hk_2 x2 x4 s hf H locs ls hP hD hS hl
      · have hf := (if_neg h).symm.trans hf
        refine lv_aload_n hx hb dn_M_skip_112 rfl (lv_at hl 0 rfl) ?_
        refine lv_iload hx hb dn_M_skip_113 (lv_at hl 2 rfl) ?_
        obtain ⟨q_1, hc_2, hf⟩ := dc_b hf
        refine dc_calli (dc_runV (ar := 1) (As := [.int x4]) (rest := []) (ci := 0) (q0 := 0) ⟨hx, hb, hml, hown, hg⟩ hK hN hT hS hA (ct_M_at l dC dI cI cB cJ cZ cQ N H.size h0 a x4 s q_1 hc_2) hP hD rfl rfl wn_9_128 wn_9_130 sn_M_at wn_1_13 wn_9_131 rfl rfl (by decide +kernel) ⟨Nat.le_of_ble_eq_true rfl, Nat.le_of_ble_eq_true rfl⟩ rfl hl.1 rfl (Nat.le_of_ble_eq_true rfl) dn_M_skip_115 ⟨Nat.le_of_ble_eq_true rfl, Nat.le_of_ble_eq_true rfl⟩) hP hD hS hA (fun r_3 _ H locs hw hP hD hS => ?_)
        have hw : r_3 = q_1.1 := hw
        subst hw
        refine lv_bipush (v := 42) hx hb dn_M_skip_118 (by decide) ?_
        refine lv_icmp_ne (tgt := 136) hx hb dn_M_skip_120 (by decide) (fun h => ?_) (fun h => ?_)
        · have hf := (if_neg h).symm.trans hf
          refine lv_iinc (v := (x4 + 1)) (lv' := [(4, .int ((x4 + 1))), (0, .ref h0), (2, .int x2)]) hx hb dn_M_skip_136 hl (k := 2) rfl (dc_inc (by decide)) (by decide) rfl (fun ls hl => ?_)
          refine lv_goto (tgt := 103) hx hb dn_M_skip_139 (by decide) ?_
          exact hk_103 x2 ((x4 + 1)) q_1.2 hf H locs ls hP hD hS (lv_sub hl [1, 2, 0] rfl)
        · have hf := (if_pos h).symm.trans hf
          refine lv_aload_n hx hb dn_M_skip_123 rfl (lv_at hl 0 rfl) ?_
          refine lv_iload hx hb dn_M_skip_124 (lv_at hl 2 rfl) ?_
          refine lv_iconst (v := 1) hx hb dn_M_skip_126 (by decide) ?_
          refine lv_iadd hx hb dn_M_skip_127 ?_
          obtain ⟨q_4, hc_5, hf⟩ := dc_b hf
          refine dc_calli (dc_runV (ar := 1) (As := [.int ((x4 + 1))]) (rest := []) (ci := 0) (q0 := 0) ⟨hx, hb, hml, hown, hg⟩ hK hN hT hS hA (ct_M_at l dC dI cI cB cJ cZ cQ N H.size h0 a ((x4 + 1)) q_1.2 q_4 hc_5) hP hD rfl rfl wn_9_128 wn_9_130 sn_M_at wn_1_13 wn_9_131 rfl rfl (by decide +kernel) ⟨Nat.le_of_ble_eq_true rfl, Nat.le_of_ble_eq_true rfl⟩ rfl hl.1 rfl (Nat.le_of_ble_eq_true rfl) dn_M_skip_128 ⟨Nat.le_of_ble_eq_true rfl, Nat.le_of_ble_eq_true rfl⟩) hP hD hS hA (fun r_6 _ H locs hw hP hD hS => ?_)
          have hw : r_6 = q_4.1 := hw
          subst hw
          refine lv_bipush (v := 47) hx hb dn_M_skip_131 (by decide) ?_
          refine lv_icmp_eq (tgt := 142) hx hb dn_M_skip_133 (by decide) (fun h => ?_) (fun h => ?_)
          · have hf := (if_pos h).symm.trans hf
            exact bl_142 k_2 hk_2 x2 x4 q_4.2 hf H locs ls hP hD hS hl
          · have hf := (if_neg h).symm.trans hf
            refine lv_iinc (v := (x4 + 1)) (lv' := [(4, .int ((x4 + 1))), (0, .ref h0), (2, .int x2)]) hx hb dn_M_skip_136 hl (k := 2) rfl (dc_inc (by decide)) (by decide) rfl (fun ls hl => ?_)
            refine lv_goto (tgt := 103) hx hb dn_M_skip_139 (by decide) ?_
            exact hk_103 x2 ((x4 + 1)) q_4.2 hf H locs ls hP hD hS (lv_sub hl [1, 2, 0] rfl)
  have bl_80 : ∀ (k_2 : Int32 → ms → Option (Int32 × ms)) (hk_2 : ∀ (x2 : Int32) (s : ms), k_2 x2 s = some y → dcC p l e ({ frames := 1, cells := 0, slots := 0, locals := 21 }) s0 m [.ref h0, .int v1].toArray below meth c QQ (dC, dI) A (wM h0 a cI cB cJ cZ s) 2 5 [(0, .ref h0), (2, .int x2)] []) (x2 : Int32) (x3 : Int32) (s : ms), bk_M_skip_80 N k_2 x2 x3 s = some y → dcC p l e ({ frames := 1, cells := 0, slots := 0, locals := 21 }) s0 m [.ref h0, .int v1].toArray below meth c QQ (dC, dI) A (wM h0 a cI cB cJ cZ s) 80 5 [(0, .ref h0), (2, .int x2), (3, .int x3)] [] := by
    intro k_2 hk_2 x2 x3 s hf H locs ls hP hD hS hl
    unfold bk_M_skip_80 at hf
    refine lv_iload_n hx hb dn_M_skip_80 rfl (lv_at hl 2 rfl) ?_
    refine lv_bipush (v := 47) hx hb dn_M_skip_81 (by decide) ?_
    refine lv_icmp_ne (tgt := 163) hx hb dn_M_skip_83 (by decide) (fun h => ?_) (fun h => ?_)
    · have hf := (if_neg h).symm.trans hf
      refine lv_iload_n hx hb dn_M_skip_163 rfl (lv_at hl 1 rfl) ?_
      rw [hQQ, ← Option.some.inj hf]
      exact xk_iret (w1 := fun u : Unit => (wM h0 a cI cB cJ cZ s)) () hx hb hr hlocks hK hS dn_M_skip_164 hP hD rfl (Nat.le_refl _) (Nat.le_refl _)
    · have hf := (if_pos h).symm.trans hf
      refine lv_aload_n hx hb dn_M_skip_86 rfl (lv_at hl 0 rfl) ?_
      refine lv_iload_n hx hb dn_M_skip_87 rfl (lv_at hl 1 rfl) ?_
      refine lv_iconst (v := 1) hx hb dn_M_skip_88 (by decide) ?_
      refine lv_iadd hx hb dn_M_skip_89 ?_
      obtain ⟨q_1, hc_2, hf⟩ := dc_b hf
      refine dc_calli (dc_runV (ar := 1) (As := [.int ((x2 + 1))]) (rest := []) (ci := 0) (q0 := 0) ⟨hx, hb, hml, hown, hg⟩ hK hN hT hS hA (ct_M_at l dC dI cI cB cJ cZ cQ N H.size h0 a ((x2 + 1)) s q_1 hc_2) hP hD rfl rfl wn_9_128 wn_9_130 sn_M_at wn_1_13 wn_9_131 rfl rfl (by decide +kernel) ⟨Nat.le_of_ble_eq_true rfl, Nat.le_of_ble_eq_true rfl⟩ rfl hl.1 rfl (Nat.le_of_ble_eq_true rfl) dn_M_skip_90 ⟨Nat.le_of_ble_eq_true rfl, Nat.le_of_ble_eq_true rfl⟩) hP hD hS hA (fun r_3 _ H locs hw hP hD hS => ?_)
      have hw : r_3 = q_1.1 := hw
      subst hw
      refine lv_bipush (v := 42) hx hb dn_M_skip_93 (by decide) ?_
      refine lv_icmp_ne (tgt := 163) hx hb dn_M_skip_95 (by decide) (fun h => ?_) (fun h => ?_)
      · have hf := (if_neg h).symm.trans hf
        refine lv_iload_n hx hb dn_M_skip_163 rfl (lv_at hl 1 rfl) ?_
        rw [hQQ, ← Option.some.inj hf]
        exact xk_iret (w1 := fun u : Unit => (wM h0 a cI cB cJ cZ q_1.2)) () hx hb hr hlocks hK hS dn_M_skip_164 hP hD rfl (Nat.le_refl _) (Nat.le_refl _)
      · have hf := (if_pos h).symm.trans hf
        refine lv_iload_n hx hb dn_M_skip_98 rfl (lv_at hl 1 rfl) ?_
        refine lv_iconst (v := 2) hx hb dn_M_skip_99 (by decide) ?_
        refine lv_iadd hx hb dn_M_skip_100 ?_
        refine lv_istore (lv' := [(4, .int ((x2 + 2))), (0, .ref h0), (2, .int x2), (3, .int x3)]) hx hb dn_M_skip_101 hl (by decide) rfl (fun ls hl => ?_)
        exact hd_103 k_2 hk_2 N x2 ((x2 + 2)) q_1.2 hf H locs ls hP hD hS (lv_sub hl [1, 2, 0] rfl)
  have hd_56 : ∀ (k_2 : Int32 → ms → Option (Int32 × ms)) (hk_2 : ∀ (x2 : Int32) (s : ms), k_2 x2 s = some y → dcC p l e ({ frames := 1, cells := 0, slots := 0, locals := 21 }) s0 m [.ref h0, .int v1].toArray below meth c QQ (dC, dI) A (wM h0 a cI cB cJ cZ s) 2 5 [(0, .ref h0), (2, .int x2)] []) (n : Nat) (x2 : Int32) (s : ms), hd_M_skip_56 N k_2 n x2 s = some y → dcC p l e ({ frames := 1, cells := 0, slots := 0, locals := 21 }) s0 m [.ref h0, .int v1].toArray below meth c QQ (dC, dI) A (wM h0 a cI cB cJ cZ s) 56 5 [(0, .ref h0), (2, .int x2)] [] := by
    intro k_2 hk_2 n
    induction n with
    | zero => intro x2 s hf; cases hf
    | succ n ih =>
      intro x2 s hf H locs ls hP hD hS hl
      have hf : bd_M_skip_56 N k_2 (hd_M_skip_56 N k_2 n) x2 s = some y := hf
      have hk_56 := ih
      generalize hd_M_skip_56 N k_2 n = k_56 at hf hk_56
      unfold bd_M_skip_56 at hf
      refine lv_iload_n hx hb dn_M_skip_56 rfl (lv_at hl 1 rfl) ?_
      refine lv_aload_n hx hb dn_M_skip_57 rfl (lv_at hl 0 rfl) ?_
      refine va_get (D := (dC, dI)) (ci := 0) (v := .int ((s.1 2 0))) (C := rn_M) (T := fn_M) (N := 91) hx hb hg in_M hown hK hP 0 rfl rfl 2 (by decide) (hg _ wn_8_75) (fun _ h9 => h9) rfl dn_M_skip_58 ?_
      refine lv_icmp_ge (tgt := 165) hx hb dn_M_skip_61 (by decide) (fun h => ?_) (fun h => ?_)
      · have hf := (if_pos h).symm.trans hf
        refine lv_goto (tgt := 2) hx hb dn_M_skip_165 (by decide) ?_
        exact hk_2 x2 s hf H locs ls hP hD hS hl
      · have hf := (if_neg h).symm.trans hf
        refine lv_aload_n hx hb dn_M_skip_64 rfl (lv_at hl 0 rfl) ?_
        refine lv_iload_n hx hb dn_M_skip_65 rfl (lv_at hl 1 rfl) ?_
        obtain ⟨q_1, hc_2, hf⟩ := dc_b hf
        refine dc_calli (dc_runV (ar := 1) (As := [.int x2]) (rest := []) (ci := 0) (q0 := 0) ⟨hx, hb, hml, hown, hg⟩ hK hN hT hS hA (ct_M_at l dC dI cI cB cJ cZ cQ N H.size h0 a x2 s q_1 hc_2) hP hD rfl rfl wn_9_128 wn_9_130 sn_M_at wn_1_13 wn_9_131 rfl rfl (by decide +kernel) ⟨Nat.le_of_ble_eq_true rfl, Nat.le_of_ble_eq_true rfl⟩ rfl hl.1 rfl (Nat.le_of_ble_eq_true rfl) dn_M_skip_66 ⟨Nat.le_of_ble_eq_true rfl, Nat.le_of_ble_eq_true rfl⟩) hP hD hS hA (fun r_3 _ H locs hw hP hD hS => ?_)
        have hw : r_3 = q_1.1 := hw
        subst hw
        refine lv_bipush (v := 10) hx hb dn_M_skip_69 (by decide) ?_
        refine lv_icmp_eq (tgt := 165) hx hb dn_M_skip_71 (by decide) (fun h => ?_) (fun h => ?_)
        · have hf := (if_pos h).symm.trans hf
          refine lv_goto (tgt := 2) hx hb dn_M_skip_165 (by decide) ?_
          exact hk_2 x2 q_1.2 hf H locs ls hP hD hS hl
        · have hf := (if_neg h).symm.trans hf
          refine lv_iinc (v := (x2 + 1)) (lv' := [(2, .int ((x2 + 1))), (0, .ref h0)]) hx hb dn_M_skip_74 hl (k := 1) rfl (dc_inc (by decide)) (by decide) rfl (fun ls hl => ?_)
          refine lv_goto (tgt := 56) hx hb dn_M_skip_77 (by decide) ?_
          exact hk_56 ((x2 + 1)) q_1.2 hf H locs ls hP hD hS (lv_sub hl [1, 0] rfl)
  have hd_2 : ∀ (n : Nat) (x2 : Int32) (s : ms), hd_M_skip_2 N n x2 s = some y → dcC p l e ({ frames := 1, cells := 0, slots := 0, locals := 21 }) s0 m [.ref h0, .int v1].toArray below meth c QQ (dC, dI) A (wM h0 a cI cB cJ cZ s) 2 5 [(0, .ref h0), (2, .int x2)] [] := by
    intro n
    induction n with
    | zero => intro x2 s hf; cases hf
    | succ n ih =>
      intro x2 s hf H locs ls hP hD hS hl
      have hf : bd_M_skip_2 N (hd_M_skip_2 N n) x2 s = some y := hf
      have hk_2 := ih
      generalize hd_M_skip_2 N n = k_2 at hf hk_2
      unfold bd_M_skip_2 at hf
      refine lv_aload_n hx hb dn_M_skip_2 rfl (lv_at hl 0 rfl) ?_
      refine lv_iload_n hx hb dn_M_skip_3 rfl (lv_at hl 1 rfl) ?_
      obtain ⟨q_1, hc_2, hf⟩ := dc_b hf
      refine dc_calli (dc_runV (ar := 1) (As := [.int x2]) (rest := []) (ci := 0) (q0 := 0) ⟨hx, hb, hml, hown, hg⟩ hK hN hT hS hA (ct_M_at l dC dI cI cB cJ cZ cQ N H.size h0 a x2 s q_1 hc_2) hP hD rfl rfl wn_9_128 wn_9_130 sn_M_at wn_1_13 wn_9_131 rfl rfl (by decide +kernel) ⟨Nat.le_of_ble_eq_true rfl, Nat.le_of_ble_eq_true rfl⟩ rfl hl.1 rfl (Nat.le_of_ble_eq_true rfl) dn_M_skip_4 ⟨Nat.le_of_ble_eq_true rfl, Nat.le_of_ble_eq_true rfl⟩) hP hD hS hA (fun r_3 _ H locs hw hP hD hS => ?_)
      have hw : r_3 = q_1.1 := hw
      subst hw
      refine lv_istore_n (lv' := [(3, .int q_1.1), (0, .ref h0), (2, .int x2)]) hx hb dn_M_skip_7 rfl hl (by decide) rfl (fun ls hl => ?_)
      refine lv_iload_n hx hb dn_M_skip_8 rfl (lv_at hl 0 rfl) ?_
      refine lv_bipush (v := 9) hx hb dn_M_skip_9 (by decide) ?_
      refine lv_icmp_eq (tgt := 32) hx hb dn_M_skip_11 (by decide) (fun h => ?_) (fun h => ?_)
      · have hf := (if_pos h).symm.trans hf
        refine lv_iinc (v := (x2 + 1)) (lv' := [(2, .int ((x2 + 1))), (3, .int q_1.1), (0, .ref h0)]) hx hb dn_M_skip_32 hl (k := 2) rfl (dc_inc (by decide)) (by decide) rfl (fun ls hl => ?_)
        refine lv_goto (tgt := 165) hx hb dn_M_skip_35 (by decide) ?_
        refine lv_goto (tgt := 2) hx hb dn_M_skip_165 (by decide) ?_
        exact hk_2 ((x2 + 1)) q_1.2 hf H locs ls hP hD hS (lv_sub hl [2, 0] rfl)
      · have hf := (if_neg h).symm.trans hf
        refine lv_iload_n hx hb dn_M_skip_14 rfl (lv_at hl 0 rfl) ?_
        refine lv_bipush (v := 10) hx hb dn_M_skip_15 (by decide) ?_
        refine lv_icmp_eq (tgt := 32) hx hb dn_M_skip_17 (by decide) (fun h => ?_) (fun h => ?_)
        · have hf := (if_pos h).symm.trans hf
          refine lv_iinc (v := (x2 + 1)) (lv' := [(2, .int ((x2 + 1))), (3, .int q_1.1), (0, .ref h0)]) hx hb dn_M_skip_32 hl (k := 2) rfl (dc_inc (by decide)) (by decide) rfl (fun ls hl => ?_)
          refine lv_goto (tgt := 165) hx hb dn_M_skip_35 (by decide) ?_
          refine lv_goto (tgt := 2) hx hb dn_M_skip_165 (by decide) ?_
          exact hk_2 ((x2 + 1)) q_1.2 hf H locs ls hP hD hS (lv_sub hl [2, 0] rfl)
        · have hf := (if_neg h).symm.trans hf
          refine lv_iload_n hx hb dn_M_skip_20 rfl (lv_at hl 0 rfl) ?_
          refine lv_bipush (v := 13) hx hb dn_M_skip_21 (by decide) ?_
          refine lv_icmp_eq (tgt := 32) hx hb dn_M_skip_23 (by decide) (fun h => ?_) (fun h => ?_)
          · have hf := (if_pos h).symm.trans hf
            refine lv_iinc (v := (x2 + 1)) (lv' := [(2, .int ((x2 + 1))), (3, .int q_1.1), (0, .ref h0)]) hx hb dn_M_skip_32 hl (k := 2) rfl (dc_inc (by decide)) (by decide) rfl (fun ls hl => ?_)
            refine lv_goto (tgt := 165) hx hb dn_M_skip_35 (by decide) ?_
            refine lv_goto (tgt := 2) hx hb dn_M_skip_165 (by decide) ?_
            exact hk_2 ((x2 + 1)) q_1.2 hf H locs ls hP hD hS (lv_sub hl [2, 0] rfl)
          · have hf := (if_neg h).symm.trans hf
            refine lv_iload_n hx hb dn_M_skip_26 rfl (lv_at hl 0 rfl) ?_
            refine lv_bipush (v := 32) hx hb dn_M_skip_27 (by decide) ?_
            refine lv_icmp_ne (tgt := 38) hx hb dn_M_skip_29 (by decide) (fun h => ?_) (fun h => ?_)
            · have hf := (if_neg h).symm.trans hf
              refine lv_iload_n hx hb dn_M_skip_38 rfl (lv_at hl 0 rfl) ?_
              refine lv_bipush (v := 47) hx hb dn_M_skip_39 (by decide) ?_
              refine lv_icmp_ne (tgt := 80) hx hb dn_M_skip_41 (by decide) (fun h => ?_) (fun h => ?_)
              · have hf := (if_neg h).symm.trans hf
                exact bl_80 k_2 hk_2 x2 q_1.1 q_1.2 hf H locs ls hP hD hS (lv_sub hl [1, 2, 0] rfl)
              · have hf := (if_pos h).symm.trans hf
                refine lv_aload_n hx hb dn_M_skip_44 rfl (lv_at hl 1 rfl) ?_
                refine lv_iload_n hx hb dn_M_skip_45 rfl (lv_at hl 2 rfl) ?_
                refine lv_iconst (v := 1) hx hb dn_M_skip_46 (by decide) ?_
                refine lv_iadd hx hb dn_M_skip_47 ?_
                obtain ⟨q_4, hc_5, hf⟩ := dc_b hf
                refine dc_calli (dc_runV (ar := 1) (As := [.int ((x2 + 1))]) (rest := []) (ci := 0) (q0 := 0) ⟨hx, hb, hml, hown, hg⟩ hK hN hT hS hA (ct_M_at l dC dI cI cB cJ cZ cQ N H.size h0 a ((x2 + 1)) q_1.2 q_4 hc_5) hP hD rfl rfl wn_9_128 wn_9_130 sn_M_at wn_1_13 wn_9_131 rfl rfl (by decide +kernel) ⟨Nat.le_of_ble_eq_true rfl, Nat.le_of_ble_eq_true rfl⟩ rfl hl.1 rfl (Nat.le_of_ble_eq_true rfl) dn_M_skip_48 ⟨Nat.le_of_ble_eq_true rfl, Nat.le_of_ble_eq_true rfl⟩) hP hD hS hA (fun r_6 _ H locs hw hP hD hS => ?_)
                have hw : r_6 = q_4.1 := hw
                subst hw
                refine lv_bipush (v := 47) hx hb dn_M_skip_51 (by decide) ?_
                refine lv_icmp_ne (tgt := 80) hx hb dn_M_skip_53 (by decide) (fun h => ?_) (fun h => ?_)
                · have hf := (if_neg h).symm.trans hf
                  exact bl_80 k_2 hk_2 x2 q_1.1 q_4.2 hf H locs ls hP hD hS (lv_sub hl [1, 2, 0] rfl)
                · have hf := (if_pos h).symm.trans hf
                  exact hd_56 k_2 hk_2 N x2 q_4.2 hf H locs ls hP hD hS (lv_sub hl [1, 2] rfl)
            · have hf := (if_pos h).symm.trans hf
              refine lv_iinc (v := (x2 + 1)) (lv' := [(2, .int ((x2 + 1))), (3, .int q_1.1), (0, .ref h0)]) hx hb dn_M_skip_32 hl (k := 2) rfl (dc_inc (by decide)) (by decide) rfl (fun ls hl => ?_)
              refine lv_goto (tgt := 165) hx hb dn_M_skip_35 (by decide) ?_
              refine lv_goto (tgt := 2) hx hb dn_M_skip_165 (by decide) ?_
              exact hk_2 ((x2 + 1)) q_1.2 hf H locs ls hP hD hS (lv_sub hl [2, 0] rfl)
  intro H locs ls hP hD hS hl
  unfold fn_M_skip at hf
  refine lv_iload_n hx hb dn_M_skip_0 rfl (lv_at hl 1 rfl) ?_
  refine lv_istore_n (lv' := [(2, .int v1), (0, .ref h0), (1, .int v1)]) hx hb dn_M_skip_1 rfl hl (by decide) rfl (fun ls hl => ?_)
  exact hd_2 N v1 s hf H locs ls hP hD hS (lv_sub hl [1, 0] rfl)
theorem mo_M_isLetter_24 (N : Nat) (y : (Int32 × ms)) (x0 : Int32) (s : ms) (hf : bk_M_isLetter_24 N x0 s = some y) : gl y.2 = gl s := by
  unfold bk_M_isLetter_24 at hf
  have hm : gl s = gl s := rfl
  by_cases h : x0 = 95
  · have hf := (if_pos h).symm.trans hf
    exact (dc_e hf).trans hm
  · have hf := (if_neg h).symm.trans hf
    exact (dc_e hf).trans hm
theorem mo_M_isLetter_12 (N : Nat) (y : (Int32 × ms)) (x0 : Int32) (s : ms) (hf : bk_M_isLetter_12 N x0 s = some y) : gl y.2 = gl s := by
  unfold bk_M_isLetter_12 at hf
  have hm : gl s = gl s := rfl
  by_cases h : x0 < 65
  · have hf := (if_pos h).symm.trans hf
    exact (mo_M_isLetter_24 N y x0 s hf).trans hm
  · have hf := (if_neg h).symm.trans hf
    by_cases h : x0 ≤ 90
    · have hf := (if_pos h).symm.trans hf
      exact (dc_e hf).trans hm
    · have hf := (if_neg h).symm.trans hf
      exact (mo_M_isLetter_24 N y x0 s hf).trans hm
theorem mn_M_isLetter (N : Nat) (v0 : Int32) (s : ms) (y : (Int32 × ms)) (hf : fn_M_isLetter N v0 s = some y) : gl y.2 = gl s := by
  unfold fn_M_isLetter at hf
  have hm : gl s = gl s := rfl
  by_cases h : v0 < 97
  · have hf := (if_pos h).symm.trans hf
    exact (mo_M_isLetter_12 N y v0 s hf).trans hm
  · have hf := (if_neg h).symm.trans hf
    by_cases h : v0 ≤ 122
    · have hf := (if_pos h).symm.trans hf
      exact (dc_e hf).trans hm
    · have hf := (if_neg h).symm.trans hf
      exact (mo_M_isLetter_12 N y v0 s hf).trans hm
set_option maxHeartbeats 8000000 in
set_option maxRecDepth 100000 in
theorem ct_M_isLetter (l : Launch) (dC : Nat → ClassId) (dI : Nat → Nat → Nat) (cI cB cJ cZ cQ : ClassId) (N sz : Nat) (h0 : Nat) (a : Nat → Nat) (v0 : Int32) (s : ms) (y : (Int32 × ms)) (hf : fn_M_isLetter N v0 s = some y) : Met l yn_M_isLetter (xw yn_M_isLetter bn_M_isLetter 1 (some .boolean)) ({ frames := 0, cells := 0, slots := 0, locals := 0 }) (dc_P (dC, dI) xcl (xt cI cB cJ cZ cQ) [.int v0] sz (wM h0 a cI cB cJ cZ s)) (xk_Qi (dC, dI) xcl (xt cI cB cJ cZ cQ) (fun (r : Int32) (_ : Unit) => r = y.1) (fun u : Unit => (wM h0 a cI cB cJ cZ y.2)) (va_A (wM h0 a cI cB cJ cZ s) sz)) 0 0 (va_A (wM h0 a cI cB cJ cZ s) sz) := by
  refine dc_of (QA := xk_Qi (dC, dI) xcl (xt cI cB cJ cZ cQ) (fun (r : Int32) (_ : Unit) => r = y.1) (fun u : Unit => (wM h0 a cI cB cJ cZ y.2))) (by decide) (Nat.le_of_ble_eq_true rfl) ?_
  intro p e s0 m below meth c hx hb hml hown hg hr hlocks hin hP hK hN A hA hD hT ls hl
  have hown : s0.vm.findClass rn_M = some m.cls := hown
  obtain ⟨H, hH⟩ : ∃ z, z = s0.heap := ⟨_, rfl⟩
  rw [← hH] at hP
  have hS : va_S A s0.heap H [] := by rw [hH]; exact va_S.rf
  suffices kk : ∀ QQ : State → Prop, QQ = MQ below (xk_Qi (dC, dI) xcl (xt cI cB cJ cZ cQ) (fun (r : Int32) (_ : Unit) => r = y.1) (fun u : Unit => (wM h0 a cI cB cJ cZ y.2)) A) [.int v0].toArray s0 0 0 A → dcC p l e ({ frames := 0, cells := 0, slots := 0, locals := 0 }) s0 m [.int v0].toArray below meth c QQ (dC, dI) A (wM h0 a cI cB cJ cZ s) 0 1 [(0, .int v0)] [] by
    have k9 := kk _ rfl H [] ls hP hD hS hl
    rw [hH] at k9; exact k9
  clear hP hD hS hl hH H ls
  intro QQ hQQ
  have bl_24 : ∀ (x0 : Int32) (s : ms), bk_M_isLetter_24 N x0 s = some y → dcC p l e ({ frames := 0, cells := 0, slots := 0, locals := 0 }) s0 m [.int v0].toArray below meth c QQ (dC, dI) A (wM h0 a cI cB cJ cZ s) 24 1 [(0, .int x0)] [] := by
    intro x0 s hf H locs ls hP hD hS hl
    unfold bk_M_isLetter_24 at hf
    refine lv_iload_n hx hb dn_M_isLetter_24 rfl (lv_at hl 0 rfl) ?_
    refine lv_bipush (v := 95) hx hb dn_M_isLetter_25 (by decide) ?_
    refine lv_icmp_ne (tgt := 34) hx hb dn_M_isLetter_27 (by decide) (fun h => ?_) (fun h => ?_)
    · have hf := (if_neg h).symm.trans hf
      refine lv_iconst (v := 0) hx hb dn_M_isLetter_34 (by decide) ?_
      rw [hQQ, ← Option.some.inj hf]
      exact xk_zret (w1 := fun u : Unit => (wM h0 a cI cB cJ cZ s)) () hx hb hr rfl hlocks hK hS dn_M_isLetter_35 hP hD rfl (Nat.le_refl _) (Nat.le_refl _)
    · have hf := (if_pos h).symm.trans hf
      refine lv_iconst (v := 1) hx hb dn_M_isLetter_30 (by decide) ?_
      refine lv_goto (tgt := 35) hx hb dn_M_isLetter_31 (by decide) ?_
      rw [hQQ, ← Option.some.inj hf]
      exact xk_zret (w1 := fun u : Unit => (wM h0 a cI cB cJ cZ s)) () hx hb hr rfl hlocks hK hS dn_M_isLetter_35 hP hD rfl (Nat.le_refl _) (Nat.le_refl _)
  have bl_12 : ∀ (x0 : Int32) (s : ms), bk_M_isLetter_12 N x0 s = some y → dcC p l e ({ frames := 0, cells := 0, slots := 0, locals := 0 }) s0 m [.int v0].toArray below meth c QQ (dC, dI) A (wM h0 a cI cB cJ cZ s) 12 1 [(0, .int x0)] [] := by
    intro x0 s hf H locs ls hP hD hS hl
    unfold bk_M_isLetter_12 at hf
    refine lv_iload_n hx hb dn_M_isLetter_12 rfl (lv_at hl 0 rfl) ?_
    refine lv_bipush (v := 65) hx hb dn_M_isLetter_13 (by decide) ?_
    refine lv_icmp_lt (tgt := 24) hx hb dn_M_isLetter_15 (by decide) (fun h => ?_) (fun h => ?_)
    · have hf := (if_pos h).symm.trans hf
      exact bl_24 x0 s hf H locs ls hP hD hS hl
    · have hf := (if_neg h).symm.trans hf
      refine lv_iload_n hx hb dn_M_isLetter_18 rfl (lv_at hl 0 rfl) ?_
      refine lv_bipush (v := 90) hx hb dn_M_isLetter_19 (by decide) ?_
      refine lv_icmp_le (tgt := 30) hx hb dn_M_isLetter_21 (by decide) (fun h => ?_) (fun h => ?_)
      · have hf := (if_pos h).symm.trans hf
        refine lv_iconst (v := 1) hx hb dn_M_isLetter_30 (by decide) ?_
        refine lv_goto (tgt := 35) hx hb dn_M_isLetter_31 (by decide) ?_
        rw [hQQ, ← Option.some.inj hf]
        exact xk_zret (w1 := fun u : Unit => (wM h0 a cI cB cJ cZ s)) () hx hb hr rfl hlocks hK hS dn_M_isLetter_35 hP hD rfl (Nat.le_refl _) (Nat.le_refl _)
      · have hf := (if_neg h).symm.trans hf
        exact bl_24 x0 s hf H locs ls hP hD hS hl
  intro H locs ls hP hD hS hl
  unfold fn_M_isLetter at hf
  refine lv_iload_n hx hb dn_M_isLetter_0 rfl (lv_at hl 0 rfl) ?_
  refine lv_bipush (v := 97) hx hb dn_M_isLetter_1 (by decide) ?_
  refine lv_icmp_lt (tgt := 12) hx hb dn_M_isLetter_3 (by decide) (fun h => ?_) (fun h => ?_)
  · have hf := (if_pos h).symm.trans hf
    exact bl_12 v0 s hf H locs ls hP hD hS hl
  · have hf := (if_neg h).symm.trans hf
    refine lv_iload_n hx hb dn_M_isLetter_6 rfl (lv_at hl 0 rfl) ?_
    refine lv_bipush (v := 122) hx hb dn_M_isLetter_7 (by decide) ?_
    refine lv_icmp_le (tgt := 30) hx hb dn_M_isLetter_9 (by decide) (fun h => ?_) (fun h => ?_)
    · have hf := (if_pos h).symm.trans hf
      refine lv_iconst (v := 1) hx hb dn_M_isLetter_30 (by decide) ?_
      refine lv_goto (tgt := 35) hx hb dn_M_isLetter_31 (by decide) ?_
      rw [hQQ, ← Option.some.inj hf]
      exact xk_zret (w1 := fun u : Unit => (wM h0 a cI cB cJ cZ s)) () hx hb hr rfl hlocks hK hS dn_M_isLetter_35 hP hD rfl (Nat.le_refl _) (Nat.le_refl _)
    · have hf := (if_neg h).symm.trans hf
      exact bl_12 v0 s hf H locs ls hP hD hS hl
theorem mn_M_isDigit (N : Nat) (v0 : Int32) (s : ms) (y : (Int32 × ms)) (hf : fn_M_isDigit N v0 s = some y) : gl y.2 = gl s := by
  unfold fn_M_isDigit at hf
  have hm : gl s = gl s := rfl
  by_cases h : v0 < 48
  · have hf := (if_pos h).symm.trans hf
    exact (dc_e hf).trans hm
  · have hf := (if_neg h).symm.trans hf
    by_cases h : 57 < v0
    · have hf := (if_pos h).symm.trans hf
      exact (dc_e hf).trans hm
    · have hf := (if_neg h).symm.trans hf
      exact (dc_e hf).trans hm
set_option maxHeartbeats 8000000 in
set_option maxRecDepth 100000 in
theorem ct_M_isDigit (l : Launch) (dC : Nat → ClassId) (dI : Nat → Nat → Nat) (cI cB cJ cZ cQ : ClassId) (N sz : Nat) (h0 : Nat) (a : Nat → Nat) (v0 : Int32) (s : ms) (y : (Int32 × ms)) (hf : fn_M_isDigit N v0 s = some y) : Met l yn_M_isDigit (xw yn_M_isDigit bn_M_isDigit 1 (some .boolean)) ({ frames := 0, cells := 0, slots := 0, locals := 0 }) (dc_P (dC, dI) xcl (xt cI cB cJ cZ cQ) [.int v0] sz (wM h0 a cI cB cJ cZ s)) (xk_Qi (dC, dI) xcl (xt cI cB cJ cZ cQ) (fun (r : Int32) (_ : Unit) => r = y.1) (fun u : Unit => (wM h0 a cI cB cJ cZ y.2)) (va_A (wM h0 a cI cB cJ cZ s) sz)) 0 0 (va_A (wM h0 a cI cB cJ cZ s) sz) := by
  refine dc_of (QA := xk_Qi (dC, dI) xcl (xt cI cB cJ cZ cQ) (fun (r : Int32) (_ : Unit) => r = y.1) (fun u : Unit => (wM h0 a cI cB cJ cZ y.2))) (by decide) (Nat.le_of_ble_eq_true rfl) ?_
  intro p e s0 m below meth c hx hb hml hown hg hr hlocks hin hP hK hN A hA hD hT ls hl
  have hown : s0.vm.findClass rn_M = some m.cls := hown
  obtain ⟨H, hH⟩ : ∃ z, z = s0.heap := ⟨_, rfl⟩
  rw [← hH] at hP
  have hS : va_S A s0.heap H [] := by rw [hH]; exact va_S.rf
  suffices kk : ∀ QQ : State → Prop, QQ = MQ below (xk_Qi (dC, dI) xcl (xt cI cB cJ cZ cQ) (fun (r : Int32) (_ : Unit) => r = y.1) (fun u : Unit => (wM h0 a cI cB cJ cZ y.2)) A) [.int v0].toArray s0 0 0 A → dcC p l e ({ frames := 0, cells := 0, slots := 0, locals := 0 }) s0 m [.int v0].toArray below meth c QQ (dC, dI) A (wM h0 a cI cB cJ cZ s) 0 1 [(0, .int v0)] [] by
    have k9 := kk _ rfl H [] ls hP hD hS hl
    rw [hH] at k9; exact k9
  clear hP hD hS hl hH H ls
  intro QQ hQQ
  intro H locs ls hP hD hS hl
  unfold fn_M_isDigit at hf
  refine lv_iload_n hx hb dn_M_isDigit_0 rfl (lv_at hl 0 rfl) ?_
  refine lv_bipush (v := 48) hx hb dn_M_isDigit_1 (by decide) ?_
  refine lv_icmp_lt (tgt := 16) hx hb dn_M_isDigit_3 (by decide) (fun h => ?_) (fun h => ?_)
  · have hf := (if_pos h).symm.trans hf
    refine lv_iconst (v := 0) hx hb dn_M_isDigit_16 (by decide) ?_
    rw [hQQ, ← Option.some.inj hf]
    exact xk_zret (w1 := fun u : Unit => (wM h0 a cI cB cJ cZ s)) () hx hb hr rfl hlocks hK hS dn_M_isDigit_17 hP hD rfl (Nat.le_refl _) (Nat.le_refl _)
  · have hf := (if_neg h).symm.trans hf
    refine lv_iload_n hx hb dn_M_isDigit_6 rfl (lv_at hl 0 rfl) ?_
    refine lv_bipush (v := 57) hx hb dn_M_isDigit_7 (by decide) ?_
    refine lv_icmp_gt (tgt := 16) hx hb dn_M_isDigit_9 (by decide) (fun h => ?_) (fun h => ?_)
    · have hf := (if_pos h).symm.trans hf
      refine lv_iconst (v := 0) hx hb dn_M_isDigit_16 (by decide) ?_
      rw [hQQ, ← Option.some.inj hf]
      exact xk_zret (w1 := fun u : Unit => (wM h0 a cI cB cJ cZ s)) () hx hb hr rfl hlocks hK hS dn_M_isDigit_17 hP hD rfl (Nat.le_refl _) (Nat.le_refl _)
    · have hf := (if_neg h).symm.trans hf
      refine lv_iconst (v := 1) hx hb dn_M_isDigit_12 (by decide) ?_
      refine lv_goto (tgt := 17) hx hb dn_M_isDigit_13 (by decide) ?_
      rw [hQQ, ← Option.some.inj hf]
      exact xk_zret (w1 := fun u : Unit => (wM h0 a cI cB cJ cZ s)) () hx hb hr rfl hlocks hK hS dn_M_isDigit_17 hP hD rfl (Nat.le_refl _) (Nat.le_refl _)
theorem mo_M_pair_126 (N : Nat) (y : (Int32 × ms)) (x0 : Int32) (x1 : Int32) (s : ms) (hf : bk_M_pair_126 N x0 x1 s = some y) : gl y.2 = gl s := by
  unfold bk_M_pair_126 at hf
  have hm : gl s = gl s := rfl
  by_cases h : x0 = 62
  · have hf := (if_pos h).symm.trans hf
    by_cases h : x1 = 62
    · have hf := (if_pos h).symm.trans hf
      exact (dc_e hf).trans hm
    · have hf := (if_neg h).symm.trans hf
      exact (dc_e hf).trans hm
  · have hf := (if_neg h).symm.trans hf
    exact (dc_e hf).trans hm
theorem mo_M_pair_108 (N : Nat) (y : (Int32 × ms)) (x0 : Int32) (x1 : Int32) (s : ms) (hf : bk_M_pair_108 N x0 x1 s = some y) : gl y.2 = gl s := by
  unfold bk_M_pair_108 at hf
  have hm : gl s = gl s := rfl
  by_cases h : x0 = 60
  · have hf := (if_pos h).symm.trans hf
    by_cases h : x1 = 60
    · have hf := (if_pos h).symm.trans hf
      exact (dc_e hf).trans hm
    · have hf := (if_neg h).symm.trans hf
      exact (mo_M_pair_126 N y x0 x1 s hf).trans hm
  · have hf := (if_neg h).symm.trans hf
    exact (mo_M_pair_126 N y x0 x1 s hf).trans hm
theorem mo_M_pair_90 (N : Nat) (y : (Int32 × ms)) (x0 : Int32) (x1 : Int32) (s : ms) (hf : bk_M_pair_90 N x0 x1 s = some y) : gl y.2 = gl s := by
  unfold bk_M_pair_90 at hf
  have hm : gl s = gl s := rfl
  by_cases h : x0 = 62
  · have hf := (if_pos h).symm.trans hf
    by_cases h : x1 = 61
    · have hf := (if_pos h).symm.trans hf
      exact (dc_e hf).trans hm
    · have hf := (if_neg h).symm.trans hf
      exact (mo_M_pair_108 N y x0 x1 s hf).trans hm
  · have hf := (if_neg h).symm.trans hf
    exact (mo_M_pair_108 N y x0 x1 s hf).trans hm
theorem mo_M_pair_72 (N : Nat) (y : (Int32 × ms)) (x0 : Int32) (x1 : Int32) (s : ms) (hf : bk_M_pair_72 N x0 x1 s = some y) : gl y.2 = gl s := by
  unfold bk_M_pair_72 at hf
  have hm : gl s = gl s := rfl
  by_cases h : x0 = 60
  · have hf := (if_pos h).symm.trans hf
    by_cases h : x1 = 61
    · have hf := (if_pos h).symm.trans hf
      exact (dc_e hf).trans hm
    · have hf := (if_neg h).symm.trans hf
      exact (mo_M_pair_90 N y x0 x1 s hf).trans hm
  · have hf := (if_neg h).symm.trans hf
    exact (mo_M_pair_90 N y x0 x1 s hf).trans hm
theorem mo_M_pair_54 (N : Nat) (y : (Int32 × ms)) (x0 : Int32) (x1 : Int32) (s : ms) (hf : bk_M_pair_54 N x0 x1 s = some y) : gl y.2 = gl s := by
  unfold bk_M_pair_54 at hf
  have hm : gl s = gl s := rfl
  by_cases h : x0 = 33
  · have hf := (if_pos h).symm.trans hf
    by_cases h : x1 = 61
    · have hf := (if_pos h).symm.trans hf
      exact (dc_e hf).trans hm
    · have hf := (if_neg h).symm.trans hf
      exact (mo_M_pair_72 N y x0 x1 s hf).trans hm
  · have hf := (if_neg h).symm.trans hf
    exact (mo_M_pair_72 N y x0 x1 s hf).trans hm
theorem mo_M_pair_36 (N : Nat) (y : (Int32 × ms)) (x0 : Int32) (x1 : Int32) (s : ms) (hf : bk_M_pair_36 N x0 x1 s = some y) : gl y.2 = gl s := by
  unfold bk_M_pair_36 at hf
  have hm : gl s = gl s := rfl
  by_cases h : x0 = 61
  · have hf := (if_pos h).symm.trans hf
    by_cases h : x1 = 61
    · have hf := (if_pos h).symm.trans hf
      exact (dc_e hf).trans hm
    · have hf := (if_neg h).symm.trans hf
      exact (mo_M_pair_54 N y x0 x1 s hf).trans hm
  · have hf := (if_neg h).symm.trans hf
    exact (mo_M_pair_54 N y x0 x1 s hf).trans hm
theorem mo_M_pair_18 (N : Nat) (y : (Int32 × ms)) (x0 : Int32) (x1 : Int32) (s : ms) (hf : bk_M_pair_18 N x0 x1 s = some y) : gl y.2 = gl s := by
  unfold bk_M_pair_18 at hf
  have hm : gl s = gl s := rfl
  by_cases h : x0 = 124
  · have hf := (if_pos h).symm.trans hf
    by_cases h : x1 = 124
    · have hf := (if_pos h).symm.trans hf
      exact (dc_e hf).trans hm
    · have hf := (if_neg h).symm.trans hf
      exact (mo_M_pair_36 N y x0 x1 s hf).trans hm
  · have hf := (if_neg h).symm.trans hf
    exact (mo_M_pair_36 N y x0 x1 s hf).trans hm
theorem mn_M_pair (N : Nat) (v0 : Int32) (v1 : Int32) (s : ms) (y : (Int32 × ms)) (hf : fn_M_pair N v0 v1 s = some y) : gl y.2 = gl s := by
  unfold fn_M_pair at hf
  have hm : gl s = gl s := rfl
  by_cases h : v0 = 38
  · have hf := (if_pos h).symm.trans hf
    by_cases h : v1 = 38
    · have hf := (if_pos h).symm.trans hf
      exact (dc_e hf).trans hm
    · have hf := (if_neg h).symm.trans hf
      exact (mo_M_pair_18 N y v0 v1 s hf).trans hm
  · have hf := (if_neg h).symm.trans hf
    exact (mo_M_pair_18 N y v0 v1 s hf).trans hm
set_option maxHeartbeats 8000000 in
set_option maxRecDepth 100000 in
theorem ct_M_pair (l : Launch) (dC : Nat → ClassId) (dI : Nat → Nat → Nat) (cI cB cJ cZ cQ : ClassId) (N sz : Nat) (h0 : Nat) (a : Nat → Nat) (v0 : Int32) (v1 : Int32) (s : ms) (y : (Int32 × ms)) (hf : fn_M_pair N v0 v1 s = some y) : Met l yn_M_pair (xw yn_M_pair bn_M_pair 2 (some .int)) ({ frames := 0, cells := 0, slots := 0, locals := 0 }) (dc_P (dC, dI) xcl (xt cI cB cJ cZ cQ) [.int v0, .int v1] sz (wM h0 a cI cB cJ cZ s)) (xk_Qi (dC, dI) xcl (xt cI cB cJ cZ cQ) (fun (r : Int32) (_ : Unit) => r = y.1) (fun u : Unit => (wM h0 a cI cB cJ cZ y.2)) (va_A (wM h0 a cI cB cJ cZ s) sz)) 0 0 (va_A (wM h0 a cI cB cJ cZ s) sz) := by
  refine dc_of (QA := xk_Qi (dC, dI) xcl (xt cI cB cJ cZ cQ) (fun (r : Int32) (_ : Unit) => r = y.1) (fun u : Unit => (wM h0 a cI cB cJ cZ y.2))) (by decide) (Nat.le_of_ble_eq_true rfl) ?_
  intro p e s0 m below meth c hx hb hml hown hg hr hlocks hin hP hK hN A hA hD hT ls hl
  have hown : s0.vm.findClass rn_M = some m.cls := hown
  obtain ⟨H, hH⟩ : ∃ z, z = s0.heap := ⟨_, rfl⟩
  rw [← hH] at hP
  have hS : va_S A s0.heap H [] := by rw [hH]; exact va_S.rf
  suffices kk : ∀ QQ : State → Prop, QQ = MQ below (xk_Qi (dC, dI) xcl (xt cI cB cJ cZ cQ) (fun (r : Int32) (_ : Unit) => r = y.1) (fun u : Unit => (wM h0 a cI cB cJ cZ y.2)) A) [.int v0, .int v1].toArray s0 0 0 A → dcC p l e ({ frames := 0, cells := 0, slots := 0, locals := 0 }) s0 m [.int v0, .int v1].toArray below meth c QQ (dC, dI) A (wM h0 a cI cB cJ cZ s) 0 2 [(0, .int v0), (1, .int v1)] [] by
    have k9 := kk _ rfl H [] ls hP hD hS hl
    rw [hH] at k9; exact k9
  clear hP hD hS hl hH H ls
  intro QQ hQQ
  have bl_126 : ∀ (x0 : Int32) (x1 : Int32) (s : ms), bk_M_pair_126 N x0 x1 s = some y → dcC p l e ({ frames := 0, cells := 0, slots := 0, locals := 0 }) s0 m [.int v0, .int v1].toArray below meth c QQ (dC, dI) A (wM h0 a cI cB cJ cZ s) 126 2 [(0, .int x0), (1, .int x1)] [] := by
    intro x0 x1 s hf H locs ls hP hD hS hl
    unfold bk_M_pair_126 at hf
    refine lv_iload_n hx hb dn_M_pair_126 rfl (lv_at hl 0 rfl) ?_
    refine lv_bipush (v := 62) hx hb dn_M_pair_127 (by decide) ?_
    refine lv_icmp_ne (tgt := 144) hx hb dn_M_pair_129 (by decide) (fun h => ?_) (fun h => ?_)
    · have hf := (if_neg h).symm.trans hf
      refine lv_iconst (v := 0) hx hb dn_M_pair_144 (by decide) ?_
      rw [hQQ, ← Option.some.inj hf]
      exact xk_iret (w1 := fun u : Unit => (wM h0 a cI cB cJ cZ s)) () hx hb hr hlocks hK hS dn_M_pair_145 hP hD rfl (Nat.le_refl _) (Nat.le_refl _)
    · have hf := (if_pos h).symm.trans hf
      refine lv_iload_n hx hb dn_M_pair_132 rfl (lv_at hl 1 rfl) ?_
      refine lv_bipush (v := 62) hx hb dn_M_pair_133 (by decide) ?_
      refine lv_icmp_ne (tgt := 144) hx hb dn_M_pair_135 (by decide) (fun h => ?_) (fun h => ?_)
      · have hf := (if_neg h).symm.trans hf
        refine lv_iconst (v := 0) hx hb dn_M_pair_144 (by decide) ?_
        rw [hQQ, ← Option.some.inj hf]
        exact xk_iret (w1 := fun u : Unit => (wM h0 a cI cB cJ cZ s)) () hx hb hr hlocks hK hS dn_M_pair_145 hP hD rfl (Nat.le_refl _) (Nat.le_refl _)
      · have hf := (if_pos h).symm.trans hf
        refine lv_sipush (v := 263) hx hb dn_M_pair_138 (by decide) ?_
        refine lv_goto (tgt := 145) hx hb dn_M_pair_141 (by decide) ?_
        rw [hQQ, ← Option.some.inj hf]
        exact xk_iret (w1 := fun u : Unit => (wM h0 a cI cB cJ cZ s)) () hx hb hr hlocks hK hS dn_M_pair_145 hP hD rfl (Nat.le_refl _) (Nat.le_refl _)
  have bl_108 : ∀ (x0 : Int32) (x1 : Int32) (s : ms), bk_M_pair_108 N x0 x1 s = some y → dcC p l e ({ frames := 0, cells := 0, slots := 0, locals := 0 }) s0 m [.int v0, .int v1].toArray below meth c QQ (dC, dI) A (wM h0 a cI cB cJ cZ s) 108 2 [(0, .int x0), (1, .int x1)] [] := by
    intro x0 x1 s hf H locs ls hP hD hS hl
    unfold bk_M_pair_108 at hf
    refine lv_iload_n hx hb dn_M_pair_108 rfl (lv_at hl 0 rfl) ?_
    refine lv_bipush (v := 60) hx hb dn_M_pair_109 (by decide) ?_
    refine lv_icmp_ne (tgt := 126) hx hb dn_M_pair_111 (by decide) (fun h => ?_) (fun h => ?_)
    · have hf := (if_neg h).symm.trans hf
      exact bl_126 x0 x1 s hf H locs ls hP hD hS hl
    · have hf := (if_pos h).symm.trans hf
      refine lv_iload_n hx hb dn_M_pair_114 rfl (lv_at hl 1 rfl) ?_
      refine lv_bipush (v := 60) hx hb dn_M_pair_115 (by decide) ?_
      refine lv_icmp_ne (tgt := 126) hx hb dn_M_pair_117 (by decide) (fun h => ?_) (fun h => ?_)
      · have hf := (if_neg h).symm.trans hf
        exact bl_126 x0 x1 s hf H locs ls hP hD hS hl
      · have hf := (if_pos h).symm.trans hf
        refine lv_sipush (v := 262) hx hb dn_M_pair_120 (by decide) ?_
        refine lv_goto (tgt := 145) hx hb dn_M_pair_123 (by decide) ?_
        rw [hQQ, ← Option.some.inj hf]
        exact xk_iret (w1 := fun u : Unit => (wM h0 a cI cB cJ cZ s)) () hx hb hr hlocks hK hS dn_M_pair_145 hP hD rfl (Nat.le_refl _) (Nat.le_refl _)
  have bl_90 : ∀ (x0 : Int32) (x1 : Int32) (s : ms), bk_M_pair_90 N x0 x1 s = some y → dcC p l e ({ frames := 0, cells := 0, slots := 0, locals := 0 }) s0 m [.int v0, .int v1].toArray below meth c QQ (dC, dI) A (wM h0 a cI cB cJ cZ s) 90 2 [(0, .int x0), (1, .int x1)] [] := by
    intro x0 x1 s hf H locs ls hP hD hS hl
    unfold bk_M_pair_90 at hf
    refine lv_iload_n hx hb dn_M_pair_90 rfl (lv_at hl 0 rfl) ?_
    refine lv_bipush (v := 62) hx hb dn_M_pair_91 (by decide) ?_
    refine lv_icmp_ne (tgt := 108) hx hb dn_M_pair_93 (by decide) (fun h => ?_) (fun h => ?_)
    · have hf := (if_neg h).symm.trans hf
      exact bl_108 x0 x1 s hf H locs ls hP hD hS hl
    · have hf := (if_pos h).symm.trans hf
      refine lv_iload_n hx hb dn_M_pair_96 rfl (lv_at hl 1 rfl) ?_
      refine lv_bipush (v := 61) hx hb dn_M_pair_97 (by decide) ?_
      refine lv_icmp_ne (tgt := 108) hx hb dn_M_pair_99 (by decide) (fun h => ?_) (fun h => ?_)
      · have hf := (if_neg h).symm.trans hf
        exact bl_108 x0 x1 s hf H locs ls hP hD hS hl
      · have hf := (if_pos h).symm.trans hf
        refine lv_sipush (v := 261) hx hb dn_M_pair_102 (by decide) ?_
        refine lv_goto (tgt := 145) hx hb dn_M_pair_105 (by decide) ?_
        rw [hQQ, ← Option.some.inj hf]
        exact xk_iret (w1 := fun u : Unit => (wM h0 a cI cB cJ cZ s)) () hx hb hr hlocks hK hS dn_M_pair_145 hP hD rfl (Nat.le_refl _) (Nat.le_refl _)
  have bl_72 : ∀ (x0 : Int32) (x1 : Int32) (s : ms), bk_M_pair_72 N x0 x1 s = some y → dcC p l e ({ frames := 0, cells := 0, slots := 0, locals := 0 }) s0 m [.int v0, .int v1].toArray below meth c QQ (dC, dI) A (wM h0 a cI cB cJ cZ s) 72 2 [(0, .int x0), (1, .int x1)] [] := by
    intro x0 x1 s hf H locs ls hP hD hS hl
    unfold bk_M_pair_72 at hf
    refine lv_iload_n hx hb dn_M_pair_72 rfl (lv_at hl 0 rfl) ?_
    refine lv_bipush (v := 60) hx hb dn_M_pair_73 (by decide) ?_
    refine lv_icmp_ne (tgt := 90) hx hb dn_M_pair_75 (by decide) (fun h => ?_) (fun h => ?_)
    · have hf := (if_neg h).symm.trans hf
      exact bl_90 x0 x1 s hf H locs ls hP hD hS hl
    · have hf := (if_pos h).symm.trans hf
      refine lv_iload_n hx hb dn_M_pair_78 rfl (lv_at hl 1 rfl) ?_
      refine lv_bipush (v := 61) hx hb dn_M_pair_79 (by decide) ?_
      refine lv_icmp_ne (tgt := 90) hx hb dn_M_pair_81 (by decide) (fun h => ?_) (fun h => ?_)
      · have hf := (if_neg h).symm.trans hf
        exact bl_90 x0 x1 s hf H locs ls hP hD hS hl
      · have hf := (if_pos h).symm.trans hf
        refine lv_sipush (v := 260) hx hb dn_M_pair_84 (by decide) ?_
        refine lv_goto (tgt := 145) hx hb dn_M_pair_87 (by decide) ?_
        rw [hQQ, ← Option.some.inj hf]
        exact xk_iret (w1 := fun u : Unit => (wM h0 a cI cB cJ cZ s)) () hx hb hr hlocks hK hS dn_M_pair_145 hP hD rfl (Nat.le_refl _) (Nat.le_refl _)
  have bl_54 : ∀ (x0 : Int32) (x1 : Int32) (s : ms), bk_M_pair_54 N x0 x1 s = some y → dcC p l e ({ frames := 0, cells := 0, slots := 0, locals := 0 }) s0 m [.int v0, .int v1].toArray below meth c QQ (dC, dI) A (wM h0 a cI cB cJ cZ s) 54 2 [(0, .int x0), (1, .int x1)] [] := by
    intro x0 x1 s hf H locs ls hP hD hS hl
    unfold bk_M_pair_54 at hf
    refine lv_iload_n hx hb dn_M_pair_54 rfl (lv_at hl 0 rfl) ?_
    refine lv_bipush (v := 33) hx hb dn_M_pair_55 (by decide) ?_
    refine lv_icmp_ne (tgt := 72) hx hb dn_M_pair_57 (by decide) (fun h => ?_) (fun h => ?_)
    · have hf := (if_neg h).symm.trans hf
      exact bl_72 x0 x1 s hf H locs ls hP hD hS hl
    · have hf := (if_pos h).symm.trans hf
      refine lv_iload_n hx hb dn_M_pair_60 rfl (lv_at hl 1 rfl) ?_
      refine lv_bipush (v := 61) hx hb dn_M_pair_61 (by decide) ?_
      refine lv_icmp_ne (tgt := 72) hx hb dn_M_pair_63 (by decide) (fun h => ?_) (fun h => ?_)
      · have hf := (if_neg h).symm.trans hf
        exact bl_72 x0 x1 s hf H locs ls hP hD hS hl
      · have hf := (if_pos h).symm.trans hf
        refine lv_sipush (v := 259) hx hb dn_M_pair_66 (by decide) ?_
        refine lv_goto (tgt := 145) hx hb dn_M_pair_69 (by decide) ?_
        rw [hQQ, ← Option.some.inj hf]
        exact xk_iret (w1 := fun u : Unit => (wM h0 a cI cB cJ cZ s)) () hx hb hr hlocks hK hS dn_M_pair_145 hP hD rfl (Nat.le_refl _) (Nat.le_refl _)
  have bl_36 : ∀ (x0 : Int32) (x1 : Int32) (s : ms), bk_M_pair_36 N x0 x1 s = some y → dcC p l e ({ frames := 0, cells := 0, slots := 0, locals := 0 }) s0 m [.int v0, .int v1].toArray below meth c QQ (dC, dI) A (wM h0 a cI cB cJ cZ s) 36 2 [(0, .int x0), (1, .int x1)] [] := by
    intro x0 x1 s hf H locs ls hP hD hS hl
    unfold bk_M_pair_36 at hf
    refine lv_iload_n hx hb dn_M_pair_36 rfl (lv_at hl 0 rfl) ?_
    refine lv_bipush (v := 61) hx hb dn_M_pair_37 (by decide) ?_
    refine lv_icmp_ne (tgt := 54) hx hb dn_M_pair_39 (by decide) (fun h => ?_) (fun h => ?_)
    · have hf := (if_neg h).symm.trans hf
      exact bl_54 x0 x1 s hf H locs ls hP hD hS hl
    · have hf := (if_pos h).symm.trans hf
      refine lv_iload_n hx hb dn_M_pair_42 rfl (lv_at hl 1 rfl) ?_
      refine lv_bipush (v := 61) hx hb dn_M_pair_43 (by decide) ?_
      refine lv_icmp_ne (tgt := 54) hx hb dn_M_pair_45 (by decide) (fun h => ?_) (fun h => ?_)
      · have hf := (if_neg h).symm.trans hf
        exact bl_54 x0 x1 s hf H locs ls hP hD hS hl
      · have hf := (if_pos h).symm.trans hf
        refine lv_sipush (v := 258) hx hb dn_M_pair_48 (by decide) ?_
        refine lv_goto (tgt := 145) hx hb dn_M_pair_51 (by decide) ?_
        rw [hQQ, ← Option.some.inj hf]
        exact xk_iret (w1 := fun u : Unit => (wM h0 a cI cB cJ cZ s)) () hx hb hr hlocks hK hS dn_M_pair_145 hP hD rfl (Nat.le_refl _) (Nat.le_refl _)
  have bl_18 : ∀ (x0 : Int32) (x1 : Int32) (s : ms), bk_M_pair_18 N x0 x1 s = some y → dcC p l e ({ frames := 0, cells := 0, slots := 0, locals := 0 }) s0 m [.int v0, .int v1].toArray below meth c QQ (dC, dI) A (wM h0 a cI cB cJ cZ s) 18 2 [(0, .int x0), (1, .int x1)] [] := by
    intro x0 x1 s hf H locs ls hP hD hS hl
    unfold bk_M_pair_18 at hf
    refine lv_iload_n hx hb dn_M_pair_18 rfl (lv_at hl 0 rfl) ?_
    refine lv_bipush (v := 124) hx hb dn_M_pair_19 (by decide) ?_
    refine lv_icmp_ne (tgt := 36) hx hb dn_M_pair_21 (by decide) (fun h => ?_) (fun h => ?_)
    · have hf := (if_neg h).symm.trans hf
      exact bl_36 x0 x1 s hf H locs ls hP hD hS hl
    · have hf := (if_pos h).symm.trans hf
      refine lv_iload_n hx hb dn_M_pair_24 rfl (lv_at hl 1 rfl) ?_
      refine lv_bipush (v := 124) hx hb dn_M_pair_25 (by decide) ?_
      refine lv_icmp_ne (tgt := 36) hx hb dn_M_pair_27 (by decide) (fun h => ?_) (fun h => ?_)
      · have hf := (if_neg h).symm.trans hf
        exact bl_36 x0 x1 s hf H locs ls hP hD hS hl
      · have hf := (if_pos h).symm.trans hf
        refine lv_sipush (v := 257) hx hb dn_M_pair_30 (by decide) ?_
        refine lv_goto (tgt := 145) hx hb dn_M_pair_33 (by decide) ?_
        rw [hQQ, ← Option.some.inj hf]
        exact xk_iret (w1 := fun u : Unit => (wM h0 a cI cB cJ cZ s)) () hx hb hr hlocks hK hS dn_M_pair_145 hP hD rfl (Nat.le_refl _) (Nat.le_refl _)
  intro H locs ls hP hD hS hl
  unfold fn_M_pair at hf
  refine lv_iload_n hx hb dn_M_pair_0 rfl (lv_at hl 0 rfl) ?_
  refine lv_bipush (v := 38) hx hb dn_M_pair_1 (by decide) ?_
  refine lv_icmp_ne (tgt := 18) hx hb dn_M_pair_3 (by decide) (fun h => ?_) (fun h => ?_)
  · have hf := (if_neg h).symm.trans hf
    exact bl_18 v0 v1 s hf H locs ls hP hD hS hl
  · have hf := (if_pos h).symm.trans hf
    refine lv_iload_n hx hb dn_M_pair_6 rfl (lv_at hl 1 rfl) ?_
    refine lv_bipush (v := 38) hx hb dn_M_pair_7 (by decide) ?_
    refine lv_icmp_ne (tgt := 18) hx hb dn_M_pair_9 (by decide) (fun h => ?_) (fun h => ?_)
    · have hf := (if_neg h).symm.trans hf
      exact bl_18 v0 v1 s hf H locs ls hP hD hS hl
    · have hf := (if_pos h).symm.trans hf
      refine lv_sipush (v := 256) hx hb dn_M_pair_12 (by decide) ?_
      refine lv_goto (tgt := 145) hx hb dn_M_pair_15 (by decide) ?_
      rw [hQQ, ← Option.some.inj hf]
      exact xk_iret (w1 := fun u : Unit => (wM h0 a cI cB cJ cZ s)) () hx hb hr hlocks hK hS dn_M_pair_145 hP hD rfl (Nat.le_refl _) (Nat.le_refl _)
theorem mn_M_isSign (N : Nat) (v0 : Int32) (s : ms) (y : (Int32 × ms)) (hf : fn_M_isSign N v0 s = some y) : gl y.2 = gl s := by
  unfold fn_M_isSign at hf
  have hm : gl s = gl s := rfl
  by_cases h_0 : v0 = 33
  · have hf := (if_pos h_0).symm.trans hf
    exact (dc_e hf).trans hm
  have hf := (if_neg h_0).symm.trans hf
  by_cases h_1 : v0 = 34
  · have hf := (if_pos h_1).symm.trans hf
    exact (dc_e hf).trans hm
  have hf := (if_neg h_1).symm.trans hf
  by_cases h_2 : v0 = 35
  · have hf := (if_pos h_2).symm.trans hf
    exact (dc_e hf).trans hm
  have hf := (if_neg h_2).symm.trans hf
  by_cases h_3 : v0 = 36
  · have hf := (if_pos h_3).symm.trans hf
    exact (dc_e hf).trans hm
  have hf := (if_neg h_3).symm.trans hf
  by_cases h_4 : v0 = 37
  · have hf := (if_pos h_4).symm.trans hf
    exact (dc_e hf).trans hm
  have hf := (if_neg h_4).symm.trans hf
  by_cases h_5 : v0 = 38
  · have hf := (if_pos h_5).symm.trans hf
    exact (dc_e hf).trans hm
  have hf := (if_neg h_5).symm.trans hf
  by_cases h_6 : v0 = 39
  · have hf := (if_pos h_6).symm.trans hf
    exact (dc_e hf).trans hm
  have hf := (if_neg h_6).symm.trans hf
  by_cases h_7 : v0 = 40
  · have hf := (if_pos h_7).symm.trans hf
    exact (dc_e hf).trans hm
  have hf := (if_neg h_7).symm.trans hf
  by_cases h_8 : v0 = 41
  · have hf := (if_pos h_8).symm.trans hf
    exact (dc_e hf).trans hm
  have hf := (if_neg h_8).symm.trans hf
  by_cases h_9 : v0 = 42
  · have hf := (if_pos h_9).symm.trans hf
    exact (dc_e hf).trans hm
  have hf := (if_neg h_9).symm.trans hf
  by_cases h_10 : v0 = 43
  · have hf := (if_pos h_10).symm.trans hf
    exact (dc_e hf).trans hm
  have hf := (if_neg h_10).symm.trans hf
  by_cases h_11 : v0 = 44
  · have hf := (if_pos h_11).symm.trans hf
    exact (dc_e hf).trans hm
  have hf := (if_neg h_11).symm.trans hf
  by_cases h_12 : v0 = 45
  · have hf := (if_pos h_12).symm.trans hf
    exact (dc_e hf).trans hm
  have hf := (if_neg h_12).symm.trans hf
  by_cases h_13 : v0 = 46
  · have hf := (if_pos h_13).symm.trans hf
    exact (dc_e hf).trans hm
  have hf := (if_neg h_13).symm.trans hf
  by_cases h_14 : v0 = 47
  · have hf := (if_pos h_14).symm.trans hf
    exact (dc_e hf).trans hm
  have hf := (if_neg h_14).symm.trans hf
  by_cases h_15 : v0 = 48
  · have hf := (if_pos h_15).symm.trans hf
    exact (dc_e hf).trans hm
  have hf := (if_neg h_15).symm.trans hf
  by_cases h_16 : v0 = 49
  · have hf := (if_pos h_16).symm.trans hf
    exact (dc_e hf).trans hm
  have hf := (if_neg h_16).symm.trans hf
  by_cases h_17 : v0 = 50
  · have hf := (if_pos h_17).symm.trans hf
    exact (dc_e hf).trans hm
  have hf := (if_neg h_17).symm.trans hf
  by_cases h_18 : v0 = 51
  · have hf := (if_pos h_18).symm.trans hf
    exact (dc_e hf).trans hm
  have hf := (if_neg h_18).symm.trans hf
  by_cases h_19 : v0 = 52
  · have hf := (if_pos h_19).symm.trans hf
    exact (dc_e hf).trans hm
  have hf := (if_neg h_19).symm.trans hf
  by_cases h_20 : v0 = 53
  · have hf := (if_pos h_20).symm.trans hf
    exact (dc_e hf).trans hm
  have hf := (if_neg h_20).symm.trans hf
  by_cases h_21 : v0 = 54
  · have hf := (if_pos h_21).symm.trans hf
    exact (dc_e hf).trans hm
  have hf := (if_neg h_21).symm.trans hf
  by_cases h_22 : v0 = 55
  · have hf := (if_pos h_22).symm.trans hf
    exact (dc_e hf).trans hm
  have hf := (if_neg h_22).symm.trans hf
  by_cases h_23 : v0 = 56
  · have hf := (if_pos h_23).symm.trans hf
    exact (dc_e hf).trans hm
  have hf := (if_neg h_23).symm.trans hf
  by_cases h_24 : v0 = 57
  · have hf := (if_pos h_24).symm.trans hf
    exact (dc_e hf).trans hm
  have hf := (if_neg h_24).symm.trans hf
  by_cases h_25 : v0 = 58
  · have hf := (if_pos h_25).symm.trans hf
    exact (dc_e hf).trans hm
  have hf := (if_neg h_25).symm.trans hf
  by_cases h_26 : v0 = 59
  · have hf := (if_pos h_26).symm.trans hf
    exact (dc_e hf).trans hm
  have hf := (if_neg h_26).symm.trans hf
  by_cases h_27 : v0 = 60
  · have hf := (if_pos h_27).symm.trans hf
    exact (dc_e hf).trans hm
  have hf := (if_neg h_27).symm.trans hf
  by_cases h_28 : v0 = 61
  · have hf := (if_pos h_28).symm.trans hf
    exact (dc_e hf).trans hm
  have hf := (if_neg h_28).symm.trans hf
  by_cases h_29 : v0 = 62
  · have hf := (if_pos h_29).symm.trans hf
    exact (dc_e hf).trans hm
  have hf := (if_neg h_29).symm.trans hf
  by_cases h_30 : v0 = 63
  · have hf := (if_pos h_30).symm.trans hf
    exact (dc_e hf).trans hm
  have hf := (if_neg h_30).symm.trans hf
  by_cases h_31 : v0 = 64
  · have hf := (if_pos h_31).symm.trans hf
    exact (dc_e hf).trans hm
  have hf := (if_neg h_31).symm.trans hf
  by_cases h_32 : v0 = 65
  · have hf := (if_pos h_32).symm.trans hf
    exact (dc_e hf).trans hm
  have hf := (if_neg h_32).symm.trans hf
  by_cases h_33 : v0 = 66
  · have hf := (if_pos h_33).symm.trans hf
    exact (dc_e hf).trans hm
  have hf := (if_neg h_33).symm.trans hf
  by_cases h_34 : v0 = 67
  · have hf := (if_pos h_34).symm.trans hf
    exact (dc_e hf).trans hm
  have hf := (if_neg h_34).symm.trans hf
  by_cases h_35 : v0 = 68
  · have hf := (if_pos h_35).symm.trans hf
    exact (dc_e hf).trans hm
  have hf := (if_neg h_35).symm.trans hf
  by_cases h_36 : v0 = 69
  · have hf := (if_pos h_36).symm.trans hf
    exact (dc_e hf).trans hm
  have hf := (if_neg h_36).symm.trans hf
  by_cases h_37 : v0 = 70
  · have hf := (if_pos h_37).symm.trans hf
    exact (dc_e hf).trans hm
  have hf := (if_neg h_37).symm.trans hf
  by_cases h_38 : v0 = 71
  · have hf := (if_pos h_38).symm.trans hf
    exact (dc_e hf).trans hm
  have hf := (if_neg h_38).symm.trans hf
  by_cases h_39 : v0 = 72
  · have hf := (if_pos h_39).symm.trans hf
    exact (dc_e hf).trans hm
  have hf := (if_neg h_39).symm.trans hf
  by_cases h_40 : v0 = 73
  · have hf := (if_pos h_40).symm.trans hf
    exact (dc_e hf).trans hm
  have hf := (if_neg h_40).symm.trans hf
  by_cases h_41 : v0 = 74
  · have hf := (if_pos h_41).symm.trans hf
    exact (dc_e hf).trans hm
  have hf := (if_neg h_41).symm.trans hf
  by_cases h_42 : v0 = 75
  · have hf := (if_pos h_42).symm.trans hf
    exact (dc_e hf).trans hm
  have hf := (if_neg h_42).symm.trans hf
  by_cases h_43 : v0 = 76
  · have hf := (if_pos h_43).symm.trans hf
    exact (dc_e hf).trans hm
  have hf := (if_neg h_43).symm.trans hf
  by_cases h_44 : v0 = 77
  · have hf := (if_pos h_44).symm.trans hf
    exact (dc_e hf).trans hm
  have hf := (if_neg h_44).symm.trans hf
  by_cases h_45 : v0 = 78
  · have hf := (if_pos h_45).symm.trans hf
    exact (dc_e hf).trans hm
  have hf := (if_neg h_45).symm.trans hf
  by_cases h_46 : v0 = 79
  · have hf := (if_pos h_46).symm.trans hf
    exact (dc_e hf).trans hm
  have hf := (if_neg h_46).symm.trans hf
  by_cases h_47 : v0 = 80
  · have hf := (if_pos h_47).symm.trans hf
    exact (dc_e hf).trans hm
  have hf := (if_neg h_47).symm.trans hf
  by_cases h_48 : v0 = 81
  · have hf := (if_pos h_48).symm.trans hf
    exact (dc_e hf).trans hm
  have hf := (if_neg h_48).symm.trans hf
  by_cases h_49 : v0 = 82
  · have hf := (if_pos h_49).symm.trans hf
    exact (dc_e hf).trans hm
  have hf := (if_neg h_49).symm.trans hf
  by_cases h_50 : v0 = 83
  · have hf := (if_pos h_50).symm.trans hf
    exact (dc_e hf).trans hm
  have hf := (if_neg h_50).symm.trans hf
  by_cases h_51 : v0 = 84
  · have hf := (if_pos h_51).symm.trans hf
    exact (dc_e hf).trans hm
  have hf := (if_neg h_51).symm.trans hf
  by_cases h_52 : v0 = 85
  · have hf := (if_pos h_52).symm.trans hf
    exact (dc_e hf).trans hm
  have hf := (if_neg h_52).symm.trans hf
  by_cases h_53 : v0 = 86
  · have hf := (if_pos h_53).symm.trans hf
    exact (dc_e hf).trans hm
  have hf := (if_neg h_53).symm.trans hf
  by_cases h_54 : v0 = 87
  · have hf := (if_pos h_54).symm.trans hf
    exact (dc_e hf).trans hm
  have hf := (if_neg h_54).symm.trans hf
  by_cases h_55 : v0 = 88
  · have hf := (if_pos h_55).symm.trans hf
    exact (dc_e hf).trans hm
  have hf := (if_neg h_55).symm.trans hf
  by_cases h_56 : v0 = 89
  · have hf := (if_pos h_56).symm.trans hf
    exact (dc_e hf).trans hm
  have hf := (if_neg h_56).symm.trans hf
  by_cases h_57 : v0 = 90
  · have hf := (if_pos h_57).symm.trans hf
    exact (dc_e hf).trans hm
  have hf := (if_neg h_57).symm.trans hf
  by_cases h_58 : v0 = 91
  · have hf := (if_pos h_58).symm.trans hf
    exact (dc_e hf).trans hm
  have hf := (if_neg h_58).symm.trans hf
  by_cases h_59 : v0 = 92
  · have hf := (if_pos h_59).symm.trans hf
    exact (dc_e hf).trans hm
  have hf := (if_neg h_59).symm.trans hf
  by_cases h_60 : v0 = 93
  · have hf := (if_pos h_60).symm.trans hf
    exact (dc_e hf).trans hm
  have hf := (if_neg h_60).symm.trans hf
  by_cases h_61 : v0 = 94
  · have hf := (if_pos h_61).symm.trans hf
    exact (dc_e hf).trans hm
  have hf := (if_neg h_61).symm.trans hf
  by_cases h_62 : v0 = 95
  · have hf := (if_pos h_62).symm.trans hf
    exact (dc_e hf).trans hm
  have hf := (if_neg h_62).symm.trans hf
  by_cases h_63 : v0 = 96
  · have hf := (if_pos h_63).symm.trans hf
    exact (dc_e hf).trans hm
  have hf := (if_neg h_63).symm.trans hf
  by_cases h_64 : v0 = 97
  · have hf := (if_pos h_64).symm.trans hf
    exact (dc_e hf).trans hm
  have hf := (if_neg h_64).symm.trans hf
  by_cases h_65 : v0 = 98
  · have hf := (if_pos h_65).symm.trans hf
    exact (dc_e hf).trans hm
  have hf := (if_neg h_65).symm.trans hf
  by_cases h_66 : v0 = 99
  · have hf := (if_pos h_66).symm.trans hf
    exact (dc_e hf).trans hm
  have hf := (if_neg h_66).symm.trans hf
  by_cases h_67 : v0 = 100
  · have hf := (if_pos h_67).symm.trans hf
    exact (dc_e hf).trans hm
  have hf := (if_neg h_67).symm.trans hf
  by_cases h_68 : v0 = 101
  · have hf := (if_pos h_68).symm.trans hf
    exact (dc_e hf).trans hm
  have hf := (if_neg h_68).symm.trans hf
  by_cases h_69 : v0 = 102
  · have hf := (if_pos h_69).symm.trans hf
    exact (dc_e hf).trans hm
  have hf := (if_neg h_69).symm.trans hf
  by_cases h_70 : v0 = 103
  · have hf := (if_pos h_70).symm.trans hf
    exact (dc_e hf).trans hm
  have hf := (if_neg h_70).symm.trans hf
  by_cases h_71 : v0 = 104
  · have hf := (if_pos h_71).symm.trans hf
    exact (dc_e hf).trans hm
  have hf := (if_neg h_71).symm.trans hf
  by_cases h_72 : v0 = 105
  · have hf := (if_pos h_72).symm.trans hf
    exact (dc_e hf).trans hm
  have hf := (if_neg h_72).symm.trans hf
  by_cases h_73 : v0 = 106
  · have hf := (if_pos h_73).symm.trans hf
    exact (dc_e hf).trans hm
  have hf := (if_neg h_73).symm.trans hf
  by_cases h_74 : v0 = 107
  · have hf := (if_pos h_74).symm.trans hf
    exact (dc_e hf).trans hm
  have hf := (if_neg h_74).symm.trans hf
  by_cases h_75 : v0 = 108
  · have hf := (if_pos h_75).symm.trans hf
    exact (dc_e hf).trans hm
  have hf := (if_neg h_75).symm.trans hf
  by_cases h_76 : v0 = 109
  · have hf := (if_pos h_76).symm.trans hf
    exact (dc_e hf).trans hm
  have hf := (if_neg h_76).symm.trans hf
  by_cases h_77 : v0 = 110
  · have hf := (if_pos h_77).symm.trans hf
    exact (dc_e hf).trans hm
  have hf := (if_neg h_77).symm.trans hf
  by_cases h_78 : v0 = 111
  · have hf := (if_pos h_78).symm.trans hf
    exact (dc_e hf).trans hm
  have hf := (if_neg h_78).symm.trans hf
  by_cases h_79 : v0 = 112
  · have hf := (if_pos h_79).symm.trans hf
    exact (dc_e hf).trans hm
  have hf := (if_neg h_79).symm.trans hf
  by_cases h_80 : v0 = 113
  · have hf := (if_pos h_80).symm.trans hf
    exact (dc_e hf).trans hm
  have hf := (if_neg h_80).symm.trans hf
  by_cases h_81 : v0 = 114
  · have hf := (if_pos h_81).symm.trans hf
    exact (dc_e hf).trans hm
  have hf := (if_neg h_81).symm.trans hf
  by_cases h_82 : v0 = 115
  · have hf := (if_pos h_82).symm.trans hf
    exact (dc_e hf).trans hm
  have hf := (if_neg h_82).symm.trans hf
  by_cases h_83 : v0 = 116
  · have hf := (if_pos h_83).symm.trans hf
    exact (dc_e hf).trans hm
  have hf := (if_neg h_83).symm.trans hf
  by_cases h_84 : v0 = 117
  · have hf := (if_pos h_84).symm.trans hf
    exact (dc_e hf).trans hm
  have hf := (if_neg h_84).symm.trans hf
  by_cases h_85 : v0 = 118
  · have hf := (if_pos h_85).symm.trans hf
    exact (dc_e hf).trans hm
  have hf := (if_neg h_85).symm.trans hf
  by_cases h_86 : v0 = 119
  · have hf := (if_pos h_86).symm.trans hf
    exact (dc_e hf).trans hm
  have hf := (if_neg h_86).symm.trans hf
  by_cases h_87 : v0 = 120
  · have hf := (if_pos h_87).symm.trans hf
    exact (dc_e hf).trans hm
  have hf := (if_neg h_87).symm.trans hf
  by_cases h_88 : v0 = 121
  · have hf := (if_pos h_88).symm.trans hf
    exact (dc_e hf).trans hm
  have hf := (if_neg h_88).symm.trans hf
  by_cases h_89 : v0 = 122
  · have hf := (if_pos h_89).symm.trans hf
    exact (dc_e hf).trans hm
  have hf := (if_neg h_89).symm.trans hf
  by_cases h_90 : v0 = 123
  · have hf := (if_pos h_90).symm.trans hf
    exact (dc_e hf).trans hm
  have hf := (if_neg h_90).symm.trans hf
  by_cases h_91 : v0 = 124
  · have hf := (if_pos h_91).symm.trans hf
    exact (dc_e hf).trans hm
  have hf := (if_neg h_91).symm.trans hf
  by_cases h_92 : v0 = 125
  · have hf := (if_pos h_92).symm.trans hf
    exact (dc_e hf).trans hm
  have hf := (if_neg h_92).symm.trans hf
  by_cases h_93 : v0 = 126
  · have hf := (if_pos h_93).symm.trans hf
    exact (dc_e hf).trans hm
  have hf := (if_neg h_93).symm.trans hf
  exact (dc_e hf).trans hm
set_option maxHeartbeats 8000000 in
set_option maxRecDepth 100000 in
theorem ct_M_isSign (l : Launch) (dC : Nat → ClassId) (dI : Nat → Nat → Nat) (cI cB cJ cZ cQ : ClassId) (N sz : Nat) (h0 : Nat) (a : Nat → Nat) (v0 : Int32) (s : ms) (y : (Int32 × ms)) (hf : fn_M_isSign N v0 s = some y) : Met l yn_M_isSign (xw yn_M_isSign bn_M_isSign 1 (some .boolean)) ({ frames := 0, cells := 0, slots := 0, locals := 0 }) (dc_P (dC, dI) xcl (xt cI cB cJ cZ cQ) [.int v0] sz (wM h0 a cI cB cJ cZ s)) (xk_Qi (dC, dI) xcl (xt cI cB cJ cZ cQ) (fun (r : Int32) (_ : Unit) => r = y.1) (fun u : Unit => (wM h0 a cI cB cJ cZ y.2)) (va_A (wM h0 a cI cB cJ cZ s) sz)) 0 0 (va_A (wM h0 a cI cB cJ cZ s) sz) := by
  refine dc_of (QA := xk_Qi (dC, dI) xcl (xt cI cB cJ cZ cQ) (fun (r : Int32) (_ : Unit) => r = y.1) (fun u : Unit => (wM h0 a cI cB cJ cZ y.2))) (by decide) (Nat.le_of_ble_eq_true rfl) ?_
  intro p e s0 m below meth c hx hb hml hown hg hr hlocks hin hP hK hN A hA hD hT ls hl
  have hown : s0.vm.findClass rn_M = some m.cls := hown
  obtain ⟨H, hH⟩ : ∃ z, z = s0.heap := ⟨_, rfl⟩
  rw [← hH] at hP
  have hS : va_S A s0.heap H [] := by rw [hH]; exact va_S.rf
  suffices kk : ∀ QQ : State → Prop, QQ = MQ below (xk_Qi (dC, dI) xcl (xt cI cB cJ cZ cQ) (fun (r : Int32) (_ : Unit) => r = y.1) (fun u : Unit => (wM h0 a cI cB cJ cZ y.2)) A) [.int v0].toArray s0 0 0 A → dcC p l e ({ frames := 0, cells := 0, slots := 0, locals := 0 }) s0 m [.int v0].toArray below meth c QQ (dC, dI) A (wM h0 a cI cB cJ cZ s) 0 1 [(0, .int v0)] [] by
    have k9 := kk _ rfl H [] ls hP hD hS hl
    rw [hH] at k9; exact k9
  clear hP hD hS hl hH H ls
  intro QQ hQQ
  intro H locs ls hP hD hS hl
  unfold fn_M_isSign at hf
  refine lv_iload_n hx hb dn_M_isSign_0 rfl (lv_at hl 0 rfl) ?_
  by_cases h_0 : v0 = 33
  · have hf := (if_pos h_0).symm.trans hf
    refine xk_ti (y := 33) h_0 ?_
    refine lv_tableIn (tgt := 392) hx hb dn_M_isSign_1 (by decide) (by decide) rfl (by decide) ?_
    refine lv_iconst (v := 1) hx hb dn_M_isSign_392 (by decide) ?_
    rw [hQQ, ← Option.some.inj hf]
    exact xk_zret (w1 := fun u : Unit => (wM h0 a cI cB cJ cZ s)) () hx hb hr rfl hlocks hK hS dn_M_isSign_393 hP hD rfl (Nat.le_refl _) (Nat.le_refl _)
  have hf := (if_neg h_0).symm.trans hf
  by_cases h_1 : v0 = 34
  · have hf := (if_pos h_1).symm.trans hf
    refine xk_ti (y := 34) h_1 ?_
    refine lv_tableIn (tgt := 394) hx hb dn_M_isSign_1 (by decide) (by decide) rfl (by decide) ?_
    refine lv_iconst (v := 0) hx hb dn_M_isSign_394 (by decide) ?_
    rw [hQQ, ← Option.some.inj hf]
    exact xk_zret (w1 := fun u : Unit => (wM h0 a cI cB cJ cZ s)) () hx hb hr rfl hlocks hK hS dn_M_isSign_395 hP hD rfl (Nat.le_refl _) (Nat.le_refl _)
  have hf := (if_neg h_1).symm.trans hf
  by_cases h_2 : v0 = 35
  · have hf := (if_pos h_2).symm.trans hf
    refine xk_ti (y := 35) h_2 ?_
    refine lv_tableIn (tgt := 394) hx hb dn_M_isSign_1 (by decide) (by decide) rfl (by decide) ?_
    refine lv_iconst (v := 0) hx hb dn_M_isSign_394 (by decide) ?_
    rw [hQQ, ← Option.some.inj hf]
    exact xk_zret (w1 := fun u : Unit => (wM h0 a cI cB cJ cZ s)) () hx hb hr rfl hlocks hK hS dn_M_isSign_395 hP hD rfl (Nat.le_refl _) (Nat.le_refl _)
  have hf := (if_neg h_2).symm.trans hf
  by_cases h_3 : v0 = 36
  · have hf := (if_pos h_3).symm.trans hf
    refine xk_ti (y := 36) h_3 ?_
    refine lv_tableIn (tgt := 394) hx hb dn_M_isSign_1 (by decide) (by decide) rfl (by decide) ?_
    refine lv_iconst (v := 0) hx hb dn_M_isSign_394 (by decide) ?_
    rw [hQQ, ← Option.some.inj hf]
    exact xk_zret (w1 := fun u : Unit => (wM h0 a cI cB cJ cZ s)) () hx hb hr rfl hlocks hK hS dn_M_isSign_395 hP hD rfl (Nat.le_refl _) (Nat.le_refl _)
  have hf := (if_neg h_3).symm.trans hf
  by_cases h_4 : v0 = 37
  · have hf := (if_pos h_4).symm.trans hf
    refine xk_ti (y := 37) h_4 ?_
    refine lv_tableIn (tgt := 394) hx hb dn_M_isSign_1 (by decide) (by decide) rfl (by decide) ?_
    refine lv_iconst (v := 0) hx hb dn_M_isSign_394 (by decide) ?_
    rw [hQQ, ← Option.some.inj hf]
    exact xk_zret (w1 := fun u : Unit => (wM h0 a cI cB cJ cZ s)) () hx hb hr rfl hlocks hK hS dn_M_isSign_395 hP hD rfl (Nat.le_refl _) (Nat.le_refl _)
  have hf := (if_neg h_4).symm.trans hf
  by_cases h_5 : v0 = 38
  · have hf := (if_pos h_5).symm.trans hf
    refine xk_ti (y := 38) h_5 ?_
    refine lv_tableIn (tgt := 392) hx hb dn_M_isSign_1 (by decide) (by decide) rfl (by decide) ?_
    refine lv_iconst (v := 1) hx hb dn_M_isSign_392 (by decide) ?_
    rw [hQQ, ← Option.some.inj hf]
    exact xk_zret (w1 := fun u : Unit => (wM h0 a cI cB cJ cZ s)) () hx hb hr rfl hlocks hK hS dn_M_isSign_393 hP hD rfl (Nat.le_refl _) (Nat.le_refl _)
  have hf := (if_neg h_5).symm.trans hf
  by_cases h_6 : v0 = 39
  · have hf := (if_pos h_6).symm.trans hf
    refine xk_ti (y := 39) h_6 ?_
    refine lv_tableIn (tgt := 394) hx hb dn_M_isSign_1 (by decide) (by decide) rfl (by decide) ?_
    refine lv_iconst (v := 0) hx hb dn_M_isSign_394 (by decide) ?_
    rw [hQQ, ← Option.some.inj hf]
    exact xk_zret (w1 := fun u : Unit => (wM h0 a cI cB cJ cZ s)) () hx hb hr rfl hlocks hK hS dn_M_isSign_395 hP hD rfl (Nat.le_refl _) (Nat.le_refl _)
  have hf := (if_neg h_6).symm.trans hf
  by_cases h_7 : v0 = 40
  · have hf := (if_pos h_7).symm.trans hf
    refine xk_ti (y := 40) h_7 ?_
    refine lv_tableIn (tgt := 392) hx hb dn_M_isSign_1 (by decide) (by decide) rfl (by decide) ?_
    refine lv_iconst (v := 1) hx hb dn_M_isSign_392 (by decide) ?_
    rw [hQQ, ← Option.some.inj hf]
    exact xk_zret (w1 := fun u : Unit => (wM h0 a cI cB cJ cZ s)) () hx hb hr rfl hlocks hK hS dn_M_isSign_393 hP hD rfl (Nat.le_refl _) (Nat.le_refl _)
  have hf := (if_neg h_7).symm.trans hf
  by_cases h_8 : v0 = 41
  · have hf := (if_pos h_8).symm.trans hf
    refine xk_ti (y := 41) h_8 ?_
    refine lv_tableIn (tgt := 392) hx hb dn_M_isSign_1 (by decide) (by decide) rfl (by decide) ?_
    refine lv_iconst (v := 1) hx hb dn_M_isSign_392 (by decide) ?_
    rw [hQQ, ← Option.some.inj hf]
    exact xk_zret (w1 := fun u : Unit => (wM h0 a cI cB cJ cZ s)) () hx hb hr rfl hlocks hK hS dn_M_isSign_393 hP hD rfl (Nat.le_refl _) (Nat.le_refl _)
  have hf := (if_neg h_8).symm.trans hf
  by_cases h_9 : v0 = 42
  · have hf := (if_pos h_9).symm.trans hf
    refine xk_ti (y := 42) h_9 ?_
    refine lv_tableIn (tgt := 392) hx hb dn_M_isSign_1 (by decide) (by decide) rfl (by decide) ?_
    refine lv_iconst (v := 1) hx hb dn_M_isSign_392 (by decide) ?_
    rw [hQQ, ← Option.some.inj hf]
    exact xk_zret (w1 := fun u : Unit => (wM h0 a cI cB cJ cZ s)) () hx hb hr rfl hlocks hK hS dn_M_isSign_393 hP hD rfl (Nat.le_refl _) (Nat.le_refl _)
  have hf := (if_neg h_9).symm.trans hf
  by_cases h_10 : v0 = 43
  · have hf := (if_pos h_10).symm.trans hf
    refine xk_ti (y := 43) h_10 ?_
    refine lv_tableIn (tgt := 392) hx hb dn_M_isSign_1 (by decide) (by decide) rfl (by decide) ?_
    refine lv_iconst (v := 1) hx hb dn_M_isSign_392 (by decide) ?_
    rw [hQQ, ← Option.some.inj hf]
    exact xk_zret (w1 := fun u : Unit => (wM h0 a cI cB cJ cZ s)) () hx hb hr rfl hlocks hK hS dn_M_isSign_393 hP hD rfl (Nat.le_refl _) (Nat.le_refl _)
  have hf := (if_neg h_10).symm.trans hf
  by_cases h_11 : v0 = 44
  · have hf := (if_pos h_11).symm.trans hf
    refine xk_ti (y := 44) h_11 ?_
    refine lv_tableIn (tgt := 392) hx hb dn_M_isSign_1 (by decide) (by decide) rfl (by decide) ?_
    refine lv_iconst (v := 1) hx hb dn_M_isSign_392 (by decide) ?_
    rw [hQQ, ← Option.some.inj hf]
    exact xk_zret (w1 := fun u : Unit => (wM h0 a cI cB cJ cZ s)) () hx hb hr rfl hlocks hK hS dn_M_isSign_393 hP hD rfl (Nat.le_refl _) (Nat.le_refl _)
  have hf := (if_neg h_11).symm.trans hf
  by_cases h_12 : v0 = 45
  · have hf := (if_pos h_12).symm.trans hf
    refine xk_ti (y := 45) h_12 ?_
    refine lv_tableIn (tgt := 392) hx hb dn_M_isSign_1 (by decide) (by decide) rfl (by decide) ?_
    refine lv_iconst (v := 1) hx hb dn_M_isSign_392 (by decide) ?_
    rw [hQQ, ← Option.some.inj hf]
    exact xk_zret (w1 := fun u : Unit => (wM h0 a cI cB cJ cZ s)) () hx hb hr rfl hlocks hK hS dn_M_isSign_393 hP hD rfl (Nat.le_refl _) (Nat.le_refl _)
  have hf := (if_neg h_12).symm.trans hf
  by_cases h_13 : v0 = 46
  · have hf := (if_pos h_13).symm.trans hf
    refine xk_ti (y := 46) h_13 ?_
    refine lv_tableIn (tgt := 392) hx hb dn_M_isSign_1 (by decide) (by decide) rfl (by decide) ?_
    refine lv_iconst (v := 1) hx hb dn_M_isSign_392 (by decide) ?_
    rw [hQQ, ← Option.some.inj hf]
    exact xk_zret (w1 := fun u : Unit => (wM h0 a cI cB cJ cZ s)) () hx hb hr rfl hlocks hK hS dn_M_isSign_393 hP hD rfl (Nat.le_refl _) (Nat.le_refl _)
  have hf := (if_neg h_13).symm.trans hf
  by_cases h_14 : v0 = 47
  · have hf := (if_pos h_14).symm.trans hf
    refine xk_ti (y := 47) h_14 ?_
    refine lv_tableIn (tgt := 394) hx hb dn_M_isSign_1 (by decide) (by decide) rfl (by decide) ?_
    refine lv_iconst (v := 0) hx hb dn_M_isSign_394 (by decide) ?_
    rw [hQQ, ← Option.some.inj hf]
    exact xk_zret (w1 := fun u : Unit => (wM h0 a cI cB cJ cZ s)) () hx hb hr rfl hlocks hK hS dn_M_isSign_395 hP hD rfl (Nat.le_refl _) (Nat.le_refl _)
  have hf := (if_neg h_14).symm.trans hf
  by_cases h_15 : v0 = 48
  · have hf := (if_pos h_15).symm.trans hf
    refine xk_ti (y := 48) h_15 ?_
    refine lv_tableIn (tgt := 394) hx hb dn_M_isSign_1 (by decide) (by decide) rfl (by decide) ?_
    refine lv_iconst (v := 0) hx hb dn_M_isSign_394 (by decide) ?_
    rw [hQQ, ← Option.some.inj hf]
    exact xk_zret (w1 := fun u : Unit => (wM h0 a cI cB cJ cZ s)) () hx hb hr rfl hlocks hK hS dn_M_isSign_395 hP hD rfl (Nat.le_refl _) (Nat.le_refl _)
  have hf := (if_neg h_15).symm.trans hf
  by_cases h_16 : v0 = 49
  · have hf := (if_pos h_16).symm.trans hf
    refine xk_ti (y := 49) h_16 ?_
    refine lv_tableIn (tgt := 394) hx hb dn_M_isSign_1 (by decide) (by decide) rfl (by decide) ?_
    refine lv_iconst (v := 0) hx hb dn_M_isSign_394 (by decide) ?_
    rw [hQQ, ← Option.some.inj hf]
    exact xk_zret (w1 := fun u : Unit => (wM h0 a cI cB cJ cZ s)) () hx hb hr rfl hlocks hK hS dn_M_isSign_395 hP hD rfl (Nat.le_refl _) (Nat.le_refl _)
  have hf := (if_neg h_16).symm.trans hf
  by_cases h_17 : v0 = 50
  · have hf := (if_pos h_17).symm.trans hf
    refine xk_ti (y := 50) h_17 ?_
    refine lv_tableIn (tgt := 394) hx hb dn_M_isSign_1 (by decide) (by decide) rfl (by decide) ?_
    refine lv_iconst (v := 0) hx hb dn_M_isSign_394 (by decide) ?_
    rw [hQQ, ← Option.some.inj hf]
    exact xk_zret (w1 := fun u : Unit => (wM h0 a cI cB cJ cZ s)) () hx hb hr rfl hlocks hK hS dn_M_isSign_395 hP hD rfl (Nat.le_refl _) (Nat.le_refl _)
  have hf := (if_neg h_17).symm.trans hf
  by_cases h_18 : v0 = 51
  · have hf := (if_pos h_18).symm.trans hf
    refine xk_ti (y := 51) h_18 ?_
    refine lv_tableIn (tgt := 394) hx hb dn_M_isSign_1 (by decide) (by decide) rfl (by decide) ?_
    refine lv_iconst (v := 0) hx hb dn_M_isSign_394 (by decide) ?_
    rw [hQQ, ← Option.some.inj hf]
    exact xk_zret (w1 := fun u : Unit => (wM h0 a cI cB cJ cZ s)) () hx hb hr rfl hlocks hK hS dn_M_isSign_395 hP hD rfl (Nat.le_refl _) (Nat.le_refl _)
  have hf := (if_neg h_18).symm.trans hf
  by_cases h_19 : v0 = 52
  · have hf := (if_pos h_19).symm.trans hf
    refine xk_ti (y := 52) h_19 ?_
    refine lv_tableIn (tgt := 394) hx hb dn_M_isSign_1 (by decide) (by decide) rfl (by decide) ?_
    refine lv_iconst (v := 0) hx hb dn_M_isSign_394 (by decide) ?_
    rw [hQQ, ← Option.some.inj hf]
    exact xk_zret (w1 := fun u : Unit => (wM h0 a cI cB cJ cZ s)) () hx hb hr rfl hlocks hK hS dn_M_isSign_395 hP hD rfl (Nat.le_refl _) (Nat.le_refl _)
  have hf := (if_neg h_19).symm.trans hf
  by_cases h_20 : v0 = 53
  · have hf := (if_pos h_20).symm.trans hf
    refine xk_ti (y := 53) h_20 ?_
    refine lv_tableIn (tgt := 394) hx hb dn_M_isSign_1 (by decide) (by decide) rfl (by decide) ?_
    refine lv_iconst (v := 0) hx hb dn_M_isSign_394 (by decide) ?_
    rw [hQQ, ← Option.some.inj hf]
    exact xk_zret (w1 := fun u : Unit => (wM h0 a cI cB cJ cZ s)) () hx hb hr rfl hlocks hK hS dn_M_isSign_395 hP hD rfl (Nat.le_refl _) (Nat.le_refl _)
  have hf := (if_neg h_20).symm.trans hf
  by_cases h_21 : v0 = 54
  · have hf := (if_pos h_21).symm.trans hf
    refine xk_ti (y := 54) h_21 ?_
    refine lv_tableIn (tgt := 394) hx hb dn_M_isSign_1 (by decide) (by decide) rfl (by decide) ?_
    refine lv_iconst (v := 0) hx hb dn_M_isSign_394 (by decide) ?_
    rw [hQQ, ← Option.some.inj hf]
    exact xk_zret (w1 := fun u : Unit => (wM h0 a cI cB cJ cZ s)) () hx hb hr rfl hlocks hK hS dn_M_isSign_395 hP hD rfl (Nat.le_refl _) (Nat.le_refl _)
  have hf := (if_neg h_21).symm.trans hf
  by_cases h_22 : v0 = 55
  · have hf := (if_pos h_22).symm.trans hf
    refine xk_ti (y := 55) h_22 ?_
    refine lv_tableIn (tgt := 394) hx hb dn_M_isSign_1 (by decide) (by decide) rfl (by decide) ?_
    refine lv_iconst (v := 0) hx hb dn_M_isSign_394 (by decide) ?_
    rw [hQQ, ← Option.some.inj hf]
    exact xk_zret (w1 := fun u : Unit => (wM h0 a cI cB cJ cZ s)) () hx hb hr rfl hlocks hK hS dn_M_isSign_395 hP hD rfl (Nat.le_refl _) (Nat.le_refl _)
  have hf := (if_neg h_22).symm.trans hf
  by_cases h_23 : v0 = 56
  · have hf := (if_pos h_23).symm.trans hf
    refine xk_ti (y := 56) h_23 ?_
    refine lv_tableIn (tgt := 394) hx hb dn_M_isSign_1 (by decide) (by decide) rfl (by decide) ?_
    refine lv_iconst (v := 0) hx hb dn_M_isSign_394 (by decide) ?_
    rw [hQQ, ← Option.some.inj hf]
    exact xk_zret (w1 := fun u : Unit => (wM h0 a cI cB cJ cZ s)) () hx hb hr rfl hlocks hK hS dn_M_isSign_395 hP hD rfl (Nat.le_refl _) (Nat.le_refl _)
  have hf := (if_neg h_23).symm.trans hf
  by_cases h_24 : v0 = 57
  · have hf := (if_pos h_24).symm.trans hf
    refine xk_ti (y := 57) h_24 ?_
    refine lv_tableIn (tgt := 394) hx hb dn_M_isSign_1 (by decide) (by decide) rfl (by decide) ?_
    refine lv_iconst (v := 0) hx hb dn_M_isSign_394 (by decide) ?_
    rw [hQQ, ← Option.some.inj hf]
    exact xk_zret (w1 := fun u : Unit => (wM h0 a cI cB cJ cZ s)) () hx hb hr rfl hlocks hK hS dn_M_isSign_395 hP hD rfl (Nat.le_refl _) (Nat.le_refl _)
  have hf := (if_neg h_24).symm.trans hf
  by_cases h_25 : v0 = 58
  · have hf := (if_pos h_25).symm.trans hf
    refine xk_ti (y := 58) h_25 ?_
    refine lv_tableIn (tgt := 392) hx hb dn_M_isSign_1 (by decide) (by decide) rfl (by decide) ?_
    refine lv_iconst (v := 1) hx hb dn_M_isSign_392 (by decide) ?_
    rw [hQQ, ← Option.some.inj hf]
    exact xk_zret (w1 := fun u : Unit => (wM h0 a cI cB cJ cZ s)) () hx hb hr rfl hlocks hK hS dn_M_isSign_393 hP hD rfl (Nat.le_refl _) (Nat.le_refl _)
  have hf := (if_neg h_25).symm.trans hf
  by_cases h_26 : v0 = 59
  · have hf := (if_pos h_26).symm.trans hf
    refine xk_ti (y := 59) h_26 ?_
    refine lv_tableIn (tgt := 392) hx hb dn_M_isSign_1 (by decide) (by decide) rfl (by decide) ?_
    refine lv_iconst (v := 1) hx hb dn_M_isSign_392 (by decide) ?_
    rw [hQQ, ← Option.some.inj hf]
    exact xk_zret (w1 := fun u : Unit => (wM h0 a cI cB cJ cZ s)) () hx hb hr rfl hlocks hK hS dn_M_isSign_393 hP hD rfl (Nat.le_refl _) (Nat.le_refl _)
  have hf := (if_neg h_26).symm.trans hf
  by_cases h_27 : v0 = 60
  · have hf := (if_pos h_27).symm.trans hf
    refine xk_ti (y := 60) h_27 ?_
    refine lv_tableIn (tgt := 392) hx hb dn_M_isSign_1 (by decide) (by decide) rfl (by decide) ?_
    refine lv_iconst (v := 1) hx hb dn_M_isSign_392 (by decide) ?_
    rw [hQQ, ← Option.some.inj hf]
    exact xk_zret (w1 := fun u : Unit => (wM h0 a cI cB cJ cZ s)) () hx hb hr rfl hlocks hK hS dn_M_isSign_393 hP hD rfl (Nat.le_refl _) (Nat.le_refl _)
  have hf := (if_neg h_27).symm.trans hf
  by_cases h_28 : v0 = 61
  · have hf := (if_pos h_28).symm.trans hf
    refine xk_ti (y := 61) h_28 ?_
    refine lv_tableIn (tgt := 392) hx hb dn_M_isSign_1 (by decide) (by decide) rfl (by decide) ?_
    refine lv_iconst (v := 1) hx hb dn_M_isSign_392 (by decide) ?_
    rw [hQQ, ← Option.some.inj hf]
    exact xk_zret (w1 := fun u : Unit => (wM h0 a cI cB cJ cZ s)) () hx hb hr rfl hlocks hK hS dn_M_isSign_393 hP hD rfl (Nat.le_refl _) (Nat.le_refl _)
  have hf := (if_neg h_28).symm.trans hf
  by_cases h_29 : v0 = 62
  · have hf := (if_pos h_29).symm.trans hf
    refine xk_ti (y := 62) h_29 ?_
    refine lv_tableIn (tgt := 392) hx hb dn_M_isSign_1 (by decide) (by decide) rfl (by decide) ?_
    refine lv_iconst (v := 1) hx hb dn_M_isSign_392 (by decide) ?_
    rw [hQQ, ← Option.some.inj hf]
    exact xk_zret (w1 := fun u : Unit => (wM h0 a cI cB cJ cZ s)) () hx hb hr rfl hlocks hK hS dn_M_isSign_393 hP hD rfl (Nat.le_refl _) (Nat.le_refl _)
  have hf := (if_neg h_29).symm.trans hf
  by_cases h_30 : v0 = 63
  · have hf := (if_pos h_30).symm.trans hf
    refine xk_ti (y := 63) h_30 ?_
    refine lv_tableIn (tgt := 392) hx hb dn_M_isSign_1 (by decide) (by decide) rfl (by decide) ?_
    refine lv_iconst (v := 1) hx hb dn_M_isSign_392 (by decide) ?_
    rw [hQQ, ← Option.some.inj hf]
    exact xk_zret (w1 := fun u : Unit => (wM h0 a cI cB cJ cZ s)) () hx hb hr rfl hlocks hK hS dn_M_isSign_393 hP hD rfl (Nat.le_refl _) (Nat.le_refl _)
  have hf := (if_neg h_30).symm.trans hf
  by_cases h_31 : v0 = 64
  · have hf := (if_pos h_31).symm.trans hf
    refine xk_ti (y := 64) h_31 ?_
    refine lv_tableIn (tgt := 392) hx hb dn_M_isSign_1 (by decide) (by decide) rfl (by decide) ?_
    refine lv_iconst (v := 1) hx hb dn_M_isSign_392 (by decide) ?_
    rw [hQQ, ← Option.some.inj hf]
    exact xk_zret (w1 := fun u : Unit => (wM h0 a cI cB cJ cZ s)) () hx hb hr rfl hlocks hK hS dn_M_isSign_393 hP hD rfl (Nat.le_refl _) (Nat.le_refl _)
  have hf := (if_neg h_31).symm.trans hf
  by_cases h_32 : v0 = 65
  · have hf := (if_pos h_32).symm.trans hf
    refine xk_ti (y := 65) h_32 ?_
    refine lv_tableIn (tgt := 394) hx hb dn_M_isSign_1 (by decide) (by decide) rfl (by decide) ?_
    refine lv_iconst (v := 0) hx hb dn_M_isSign_394 (by decide) ?_
    rw [hQQ, ← Option.some.inj hf]
    exact xk_zret (w1 := fun u : Unit => (wM h0 a cI cB cJ cZ s)) () hx hb hr rfl hlocks hK hS dn_M_isSign_395 hP hD rfl (Nat.le_refl _) (Nat.le_refl _)
  have hf := (if_neg h_32).symm.trans hf
  by_cases h_33 : v0 = 66
  · have hf := (if_pos h_33).symm.trans hf
    refine xk_ti (y := 66) h_33 ?_
    refine lv_tableIn (tgt := 394) hx hb dn_M_isSign_1 (by decide) (by decide) rfl (by decide) ?_
    refine lv_iconst (v := 0) hx hb dn_M_isSign_394 (by decide) ?_
    rw [hQQ, ← Option.some.inj hf]
    exact xk_zret (w1 := fun u : Unit => (wM h0 a cI cB cJ cZ s)) () hx hb hr rfl hlocks hK hS dn_M_isSign_395 hP hD rfl (Nat.le_refl _) (Nat.le_refl _)
  have hf := (if_neg h_33).symm.trans hf
  by_cases h_34 : v0 = 67
  · have hf := (if_pos h_34).symm.trans hf
    refine xk_ti (y := 67) h_34 ?_
    refine lv_tableIn (tgt := 394) hx hb dn_M_isSign_1 (by decide) (by decide) rfl (by decide) ?_
    refine lv_iconst (v := 0) hx hb dn_M_isSign_394 (by decide) ?_
    rw [hQQ, ← Option.some.inj hf]
    exact xk_zret (w1 := fun u : Unit => (wM h0 a cI cB cJ cZ s)) () hx hb hr rfl hlocks hK hS dn_M_isSign_395 hP hD rfl (Nat.le_refl _) (Nat.le_refl _)
  have hf := (if_neg h_34).symm.trans hf
  by_cases h_35 : v0 = 68
  · have hf := (if_pos h_35).symm.trans hf
    refine xk_ti (y := 68) h_35 ?_
    refine lv_tableIn (tgt := 394) hx hb dn_M_isSign_1 (by decide) (by decide) rfl (by decide) ?_
    refine lv_iconst (v := 0) hx hb dn_M_isSign_394 (by decide) ?_
    rw [hQQ, ← Option.some.inj hf]
    exact xk_zret (w1 := fun u : Unit => (wM h0 a cI cB cJ cZ s)) () hx hb hr rfl hlocks hK hS dn_M_isSign_395 hP hD rfl (Nat.le_refl _) (Nat.le_refl _)
  have hf := (if_neg h_35).symm.trans hf
  by_cases h_36 : v0 = 69
  · have hf := (if_pos h_36).symm.trans hf
    refine xk_ti (y := 69) h_36 ?_
    refine lv_tableIn (tgt := 394) hx hb dn_M_isSign_1 (by decide) (by decide) rfl (by decide) ?_
    refine lv_iconst (v := 0) hx hb dn_M_isSign_394 (by decide) ?_
    rw [hQQ, ← Option.some.inj hf]
    exact xk_zret (w1 := fun u : Unit => (wM h0 a cI cB cJ cZ s)) () hx hb hr rfl hlocks hK hS dn_M_isSign_395 hP hD rfl (Nat.le_refl _) (Nat.le_refl _)
  have hf := (if_neg h_36).symm.trans hf
  by_cases h_37 : v0 = 70
  · have hf := (if_pos h_37).symm.trans hf
    refine xk_ti (y := 70) h_37 ?_
    refine lv_tableIn (tgt := 394) hx hb dn_M_isSign_1 (by decide) (by decide) rfl (by decide) ?_
    refine lv_iconst (v := 0) hx hb dn_M_isSign_394 (by decide) ?_
    rw [hQQ, ← Option.some.inj hf]
    exact xk_zret (w1 := fun u : Unit => (wM h0 a cI cB cJ cZ s)) () hx hb hr rfl hlocks hK hS dn_M_isSign_395 hP hD rfl (Nat.le_refl _) (Nat.le_refl _)
  have hf := (if_neg h_37).symm.trans hf
  by_cases h_38 : v0 = 71
  · have hf := (if_pos h_38).symm.trans hf
    refine xk_ti (y := 71) h_38 ?_
    refine lv_tableIn (tgt := 394) hx hb dn_M_isSign_1 (by decide) (by decide) rfl (by decide) ?_
    refine lv_iconst (v := 0) hx hb dn_M_isSign_394 (by decide) ?_
    rw [hQQ, ← Option.some.inj hf]
    exact xk_zret (w1 := fun u : Unit => (wM h0 a cI cB cJ cZ s)) () hx hb hr rfl hlocks hK hS dn_M_isSign_395 hP hD rfl (Nat.le_refl _) (Nat.le_refl _)
  have hf := (if_neg h_38).symm.trans hf
  by_cases h_39 : v0 = 72
  · have hf := (if_pos h_39).symm.trans hf
    refine xk_ti (y := 72) h_39 ?_
    refine lv_tableIn (tgt := 394) hx hb dn_M_isSign_1 (by decide) (by decide) rfl (by decide) ?_
    refine lv_iconst (v := 0) hx hb dn_M_isSign_394 (by decide) ?_
    rw [hQQ, ← Option.some.inj hf]
    exact xk_zret (w1 := fun u : Unit => (wM h0 a cI cB cJ cZ s)) () hx hb hr rfl hlocks hK hS dn_M_isSign_395 hP hD rfl (Nat.le_refl _) (Nat.le_refl _)
  have hf := (if_neg h_39).symm.trans hf
  by_cases h_40 : v0 = 73
  · have hf := (if_pos h_40).symm.trans hf
    refine xk_ti (y := 73) h_40 ?_
    refine lv_tableIn (tgt := 394) hx hb dn_M_isSign_1 (by decide) (by decide) rfl (by decide) ?_
    refine lv_iconst (v := 0) hx hb dn_M_isSign_394 (by decide) ?_
    rw [hQQ, ← Option.some.inj hf]
    exact xk_zret (w1 := fun u : Unit => (wM h0 a cI cB cJ cZ s)) () hx hb hr rfl hlocks hK hS dn_M_isSign_395 hP hD rfl (Nat.le_refl _) (Nat.le_refl _)
  have hf := (if_neg h_40).symm.trans hf
  by_cases h_41 : v0 = 74
  · have hf := (if_pos h_41).symm.trans hf
    refine xk_ti (y := 74) h_41 ?_
    refine lv_tableIn (tgt := 394) hx hb dn_M_isSign_1 (by decide) (by decide) rfl (by decide) ?_
    refine lv_iconst (v := 0) hx hb dn_M_isSign_394 (by decide) ?_
    rw [hQQ, ← Option.some.inj hf]
    exact xk_zret (w1 := fun u : Unit => (wM h0 a cI cB cJ cZ s)) () hx hb hr rfl hlocks hK hS dn_M_isSign_395 hP hD rfl (Nat.le_refl _) (Nat.le_refl _)
  have hf := (if_neg h_41).symm.trans hf
  by_cases h_42 : v0 = 75
  · have hf := (if_pos h_42).symm.trans hf
    refine xk_ti (y := 75) h_42 ?_
    refine lv_tableIn (tgt := 394) hx hb dn_M_isSign_1 (by decide) (by decide) rfl (by decide) ?_
    refine lv_iconst (v := 0) hx hb dn_M_isSign_394 (by decide) ?_
    rw [hQQ, ← Option.some.inj hf]
    exact xk_zret (w1 := fun u : Unit => (wM h0 a cI cB cJ cZ s)) () hx hb hr rfl hlocks hK hS dn_M_isSign_395 hP hD rfl (Nat.le_refl _) (Nat.le_refl _)
  have hf := (if_neg h_42).symm.trans hf
  by_cases h_43 : v0 = 76
  · have hf := (if_pos h_43).symm.trans hf
    refine xk_ti (y := 76) h_43 ?_
    refine lv_tableIn (tgt := 394) hx hb dn_M_isSign_1 (by decide) (by decide) rfl (by decide) ?_
    refine lv_iconst (v := 0) hx hb dn_M_isSign_394 (by decide) ?_
    rw [hQQ, ← Option.some.inj hf]
    exact xk_zret (w1 := fun u : Unit => (wM h0 a cI cB cJ cZ s)) () hx hb hr rfl hlocks hK hS dn_M_isSign_395 hP hD rfl (Nat.le_refl _) (Nat.le_refl _)
  have hf := (if_neg h_43).symm.trans hf
  by_cases h_44 : v0 = 77
  · have hf := (if_pos h_44).symm.trans hf
    refine xk_ti (y := 77) h_44 ?_
    refine lv_tableIn (tgt := 394) hx hb dn_M_isSign_1 (by decide) (by decide) rfl (by decide) ?_
    refine lv_iconst (v := 0) hx hb dn_M_isSign_394 (by decide) ?_
    rw [hQQ, ← Option.some.inj hf]
    exact xk_zret (w1 := fun u : Unit => (wM h0 a cI cB cJ cZ s)) () hx hb hr rfl hlocks hK hS dn_M_isSign_395 hP hD rfl (Nat.le_refl _) (Nat.le_refl _)
  have hf := (if_neg h_44).symm.trans hf
  by_cases h_45 : v0 = 78
  · have hf := (if_pos h_45).symm.trans hf
    refine xk_ti (y := 78) h_45 ?_
    refine lv_tableIn (tgt := 394) hx hb dn_M_isSign_1 (by decide) (by decide) rfl (by decide) ?_
    refine lv_iconst (v := 0) hx hb dn_M_isSign_394 (by decide) ?_
    rw [hQQ, ← Option.some.inj hf]
    exact xk_zret (w1 := fun u : Unit => (wM h0 a cI cB cJ cZ s)) () hx hb hr rfl hlocks hK hS dn_M_isSign_395 hP hD rfl (Nat.le_refl _) (Nat.le_refl _)
  have hf := (if_neg h_45).symm.trans hf
  by_cases h_46 : v0 = 79
  · have hf := (if_pos h_46).symm.trans hf
    refine xk_ti (y := 79) h_46 ?_
    refine lv_tableIn (tgt := 394) hx hb dn_M_isSign_1 (by decide) (by decide) rfl (by decide) ?_
    refine lv_iconst (v := 0) hx hb dn_M_isSign_394 (by decide) ?_
    rw [hQQ, ← Option.some.inj hf]
    exact xk_zret (w1 := fun u : Unit => (wM h0 a cI cB cJ cZ s)) () hx hb hr rfl hlocks hK hS dn_M_isSign_395 hP hD rfl (Nat.le_refl _) (Nat.le_refl _)
  have hf := (if_neg h_46).symm.trans hf
  by_cases h_47 : v0 = 80
  · have hf := (if_pos h_47).symm.trans hf
    refine xk_ti (y := 80) h_47 ?_
    refine lv_tableIn (tgt := 394) hx hb dn_M_isSign_1 (by decide) (by decide) rfl (by decide) ?_
    refine lv_iconst (v := 0) hx hb dn_M_isSign_394 (by decide) ?_
    rw [hQQ, ← Option.some.inj hf]
    exact xk_zret (w1 := fun u : Unit => (wM h0 a cI cB cJ cZ s)) () hx hb hr rfl hlocks hK hS dn_M_isSign_395 hP hD rfl (Nat.le_refl _) (Nat.le_refl _)
  have hf := (if_neg h_47).symm.trans hf
  by_cases h_48 : v0 = 81
  · have hf := (if_pos h_48).symm.trans hf
    refine xk_ti (y := 81) h_48 ?_
    refine lv_tableIn (tgt := 394) hx hb dn_M_isSign_1 (by decide) (by decide) rfl (by decide) ?_
    refine lv_iconst (v := 0) hx hb dn_M_isSign_394 (by decide) ?_
    rw [hQQ, ← Option.some.inj hf]
    exact xk_zret (w1 := fun u : Unit => (wM h0 a cI cB cJ cZ s)) () hx hb hr rfl hlocks hK hS dn_M_isSign_395 hP hD rfl (Nat.le_refl _) (Nat.le_refl _)
  have hf := (if_neg h_48).symm.trans hf
  by_cases h_49 : v0 = 82
  · have hf := (if_pos h_49).symm.trans hf
    refine xk_ti (y := 82) h_49 ?_
    refine lv_tableIn (tgt := 394) hx hb dn_M_isSign_1 (by decide) (by decide) rfl (by decide) ?_
    refine lv_iconst (v := 0) hx hb dn_M_isSign_394 (by decide) ?_
    rw [hQQ, ← Option.some.inj hf]
    exact xk_zret (w1 := fun u : Unit => (wM h0 a cI cB cJ cZ s)) () hx hb hr rfl hlocks hK hS dn_M_isSign_395 hP hD rfl (Nat.le_refl _) (Nat.le_refl _)
  have hf := (if_neg h_49).symm.trans hf
  by_cases h_50 : v0 = 83
  · have hf := (if_pos h_50).symm.trans hf
    refine xk_ti (y := 83) h_50 ?_
    refine lv_tableIn (tgt := 394) hx hb dn_M_isSign_1 (by decide) (by decide) rfl (by decide) ?_
    refine lv_iconst (v := 0) hx hb dn_M_isSign_394 (by decide) ?_
    rw [hQQ, ← Option.some.inj hf]
    exact xk_zret (w1 := fun u : Unit => (wM h0 a cI cB cJ cZ s)) () hx hb hr rfl hlocks hK hS dn_M_isSign_395 hP hD rfl (Nat.le_refl _) (Nat.le_refl _)
  have hf := (if_neg h_50).symm.trans hf
  by_cases h_51 : v0 = 84
  · have hf := (if_pos h_51).symm.trans hf
    refine xk_ti (y := 84) h_51 ?_
    refine lv_tableIn (tgt := 394) hx hb dn_M_isSign_1 (by decide) (by decide) rfl (by decide) ?_
    refine lv_iconst (v := 0) hx hb dn_M_isSign_394 (by decide) ?_
    rw [hQQ, ← Option.some.inj hf]
    exact xk_zret (w1 := fun u : Unit => (wM h0 a cI cB cJ cZ s)) () hx hb hr rfl hlocks hK hS dn_M_isSign_395 hP hD rfl (Nat.le_refl _) (Nat.le_refl _)
  have hf := (if_neg h_51).symm.trans hf
  by_cases h_52 : v0 = 85
  · have hf := (if_pos h_52).symm.trans hf
    refine xk_ti (y := 85) h_52 ?_
    refine lv_tableIn (tgt := 394) hx hb dn_M_isSign_1 (by decide) (by decide) rfl (by decide) ?_
    refine lv_iconst (v := 0) hx hb dn_M_isSign_394 (by decide) ?_
    rw [hQQ, ← Option.some.inj hf]
    exact xk_zret (w1 := fun u : Unit => (wM h0 a cI cB cJ cZ s)) () hx hb hr rfl hlocks hK hS dn_M_isSign_395 hP hD rfl (Nat.le_refl _) (Nat.le_refl _)
  have hf := (if_neg h_52).symm.trans hf
  by_cases h_53 : v0 = 86
  · have hf := (if_pos h_53).symm.trans hf
    refine xk_ti (y := 86) h_53 ?_
    refine lv_tableIn (tgt := 394) hx hb dn_M_isSign_1 (by decide) (by decide) rfl (by decide) ?_
    refine lv_iconst (v := 0) hx hb dn_M_isSign_394 (by decide) ?_
    rw [hQQ, ← Option.some.inj hf]
    exact xk_zret (w1 := fun u : Unit => (wM h0 a cI cB cJ cZ s)) () hx hb hr rfl hlocks hK hS dn_M_isSign_395 hP hD rfl (Nat.le_refl _) (Nat.le_refl _)
  have hf := (if_neg h_53).symm.trans hf
  by_cases h_54 : v0 = 87
  · have hf := (if_pos h_54).symm.trans hf
    refine xk_ti (y := 87) h_54 ?_
    refine lv_tableIn (tgt := 394) hx hb dn_M_isSign_1 (by decide) (by decide) rfl (by decide) ?_
    refine lv_iconst (v := 0) hx hb dn_M_isSign_394 (by decide) ?_
    rw [hQQ, ← Option.some.inj hf]
    exact xk_zret (w1 := fun u : Unit => (wM h0 a cI cB cJ cZ s)) () hx hb hr rfl hlocks hK hS dn_M_isSign_395 hP hD rfl (Nat.le_refl _) (Nat.le_refl _)
  have hf := (if_neg h_54).symm.trans hf
  by_cases h_55 : v0 = 88
  · have hf := (if_pos h_55).symm.trans hf
    refine xk_ti (y := 88) h_55 ?_
    refine lv_tableIn (tgt := 394) hx hb dn_M_isSign_1 (by decide) (by decide) rfl (by decide) ?_
    refine lv_iconst (v := 0) hx hb dn_M_isSign_394 (by decide) ?_
    rw [hQQ, ← Option.some.inj hf]
    exact xk_zret (w1 := fun u : Unit => (wM h0 a cI cB cJ cZ s)) () hx hb hr rfl hlocks hK hS dn_M_isSign_395 hP hD rfl (Nat.le_refl _) (Nat.le_refl _)
  have hf := (if_neg h_55).symm.trans hf
  by_cases h_56 : v0 = 89
  · have hf := (if_pos h_56).symm.trans hf
    refine xk_ti (y := 89) h_56 ?_
    refine lv_tableIn (tgt := 394) hx hb dn_M_isSign_1 (by decide) (by decide) rfl (by decide) ?_
    refine lv_iconst (v := 0) hx hb dn_M_isSign_394 (by decide) ?_
    rw [hQQ, ← Option.some.inj hf]
    exact xk_zret (w1 := fun u : Unit => (wM h0 a cI cB cJ cZ s)) () hx hb hr rfl hlocks hK hS dn_M_isSign_395 hP hD rfl (Nat.le_refl _) (Nat.le_refl _)
  have hf := (if_neg h_56).symm.trans hf
  by_cases h_57 : v0 = 90
  · have hf := (if_pos h_57).symm.trans hf
    refine xk_ti (y := 90) h_57 ?_
    refine lv_tableIn (tgt := 394) hx hb dn_M_isSign_1 (by decide) (by decide) rfl (by decide) ?_
    refine lv_iconst (v := 0) hx hb dn_M_isSign_394 (by decide) ?_
    rw [hQQ, ← Option.some.inj hf]
    exact xk_zret (w1 := fun u : Unit => (wM h0 a cI cB cJ cZ s)) () hx hb hr rfl hlocks hK hS dn_M_isSign_395 hP hD rfl (Nat.le_refl _) (Nat.le_refl _)
  have hf := (if_neg h_57).symm.trans hf
  by_cases h_58 : v0 = 91
  · have hf := (if_pos h_58).symm.trans hf
    refine xk_ti (y := 91) h_58 ?_
    refine lv_tableIn (tgt := 392) hx hb dn_M_isSign_1 (by decide) (by decide) rfl (by decide) ?_
    refine lv_iconst (v := 1) hx hb dn_M_isSign_392 (by decide) ?_
    rw [hQQ, ← Option.some.inj hf]
    exact xk_zret (w1 := fun u : Unit => (wM h0 a cI cB cJ cZ s)) () hx hb hr rfl hlocks hK hS dn_M_isSign_393 hP hD rfl (Nat.le_refl _) (Nat.le_refl _)
  have hf := (if_neg h_58).symm.trans hf
  by_cases h_59 : v0 = 92
  · have hf := (if_pos h_59).symm.trans hf
    refine xk_ti (y := 92) h_59 ?_
    refine lv_tableIn (tgt := 394) hx hb dn_M_isSign_1 (by decide) (by decide) rfl (by decide) ?_
    refine lv_iconst (v := 0) hx hb dn_M_isSign_394 (by decide) ?_
    rw [hQQ, ← Option.some.inj hf]
    exact xk_zret (w1 := fun u : Unit => (wM h0 a cI cB cJ cZ s)) () hx hb hr rfl hlocks hK hS dn_M_isSign_395 hP hD rfl (Nat.le_refl _) (Nat.le_refl _)
  have hf := (if_neg h_59).symm.trans hf
  by_cases h_60 : v0 = 93
  · have hf := (if_pos h_60).symm.trans hf
    refine xk_ti (y := 93) h_60 ?_
    refine lv_tableIn (tgt := 392) hx hb dn_M_isSign_1 (by decide) (by decide) rfl (by decide) ?_
    refine lv_iconst (v := 1) hx hb dn_M_isSign_392 (by decide) ?_
    rw [hQQ, ← Option.some.inj hf]
    exact xk_zret (w1 := fun u : Unit => (wM h0 a cI cB cJ cZ s)) () hx hb hr rfl hlocks hK hS dn_M_isSign_393 hP hD rfl (Nat.le_refl _) (Nat.le_refl _)
  have hf := (if_neg h_60).symm.trans hf
  by_cases h_61 : v0 = 94
  · have hf := (if_pos h_61).symm.trans hf
    refine xk_ti (y := 94) h_61 ?_
    refine lv_tableIn (tgt := 392) hx hb dn_M_isSign_1 (by decide) (by decide) rfl (by decide) ?_
    refine lv_iconst (v := 1) hx hb dn_M_isSign_392 (by decide) ?_
    rw [hQQ, ← Option.some.inj hf]
    exact xk_zret (w1 := fun u : Unit => (wM h0 a cI cB cJ cZ s)) () hx hb hr rfl hlocks hK hS dn_M_isSign_393 hP hD rfl (Nat.le_refl _) (Nat.le_refl _)
  have hf := (if_neg h_61).symm.trans hf
  by_cases h_62 : v0 = 95
  · have hf := (if_pos h_62).symm.trans hf
    refine xk_ti (y := 95) h_62 ?_
    refine lv_tableIn (tgt := 394) hx hb dn_M_isSign_1 (by decide) (by decide) rfl (by decide) ?_
    refine lv_iconst (v := 0) hx hb dn_M_isSign_394 (by decide) ?_
    rw [hQQ, ← Option.some.inj hf]
    exact xk_zret (w1 := fun u : Unit => (wM h0 a cI cB cJ cZ s)) () hx hb hr rfl hlocks hK hS dn_M_isSign_395 hP hD rfl (Nat.le_refl _) (Nat.le_refl _)
  have hf := (if_neg h_62).symm.trans hf
  by_cases h_63 : v0 = 96
  · have hf := (if_pos h_63).symm.trans hf
    refine xk_ti (y := 96) h_63 ?_
    refine lv_tableIn (tgt := 394) hx hb dn_M_isSign_1 (by decide) (by decide) rfl (by decide) ?_
    refine lv_iconst (v := 0) hx hb dn_M_isSign_394 (by decide) ?_
    rw [hQQ, ← Option.some.inj hf]
    exact xk_zret (w1 := fun u : Unit => (wM h0 a cI cB cJ cZ s)) () hx hb hr rfl hlocks hK hS dn_M_isSign_395 hP hD rfl (Nat.le_refl _) (Nat.le_refl _)
  have hf := (if_neg h_63).symm.trans hf
  by_cases h_64 : v0 = 97
  · have hf := (if_pos h_64).symm.trans hf
    refine xk_ti (y := 97) h_64 ?_
    refine lv_tableIn (tgt := 394) hx hb dn_M_isSign_1 (by decide) (by decide) rfl (by decide) ?_
    refine lv_iconst (v := 0) hx hb dn_M_isSign_394 (by decide) ?_
    rw [hQQ, ← Option.some.inj hf]
    exact xk_zret (w1 := fun u : Unit => (wM h0 a cI cB cJ cZ s)) () hx hb hr rfl hlocks hK hS dn_M_isSign_395 hP hD rfl (Nat.le_refl _) (Nat.le_refl _)
  have hf := (if_neg h_64).symm.trans hf
  by_cases h_65 : v0 = 98
  · have hf := (if_pos h_65).symm.trans hf
    refine xk_ti (y := 98) h_65 ?_
    refine lv_tableIn (tgt := 394) hx hb dn_M_isSign_1 (by decide) (by decide) rfl (by decide) ?_
    refine lv_iconst (v := 0) hx hb dn_M_isSign_394 (by decide) ?_
    rw [hQQ, ← Option.some.inj hf]
    exact xk_zret (w1 := fun u : Unit => (wM h0 a cI cB cJ cZ s)) () hx hb hr rfl hlocks hK hS dn_M_isSign_395 hP hD rfl (Nat.le_refl _) (Nat.le_refl _)
  have hf := (if_neg h_65).symm.trans hf
  by_cases h_66 : v0 = 99
  · have hf := (if_pos h_66).symm.trans hf
    refine xk_ti (y := 99) h_66 ?_
    refine lv_tableIn (tgt := 394) hx hb dn_M_isSign_1 (by decide) (by decide) rfl (by decide) ?_
    refine lv_iconst (v := 0) hx hb dn_M_isSign_394 (by decide) ?_
    rw [hQQ, ← Option.some.inj hf]
    exact xk_zret (w1 := fun u : Unit => (wM h0 a cI cB cJ cZ s)) () hx hb hr rfl hlocks hK hS dn_M_isSign_395 hP hD rfl (Nat.le_refl _) (Nat.le_refl _)
  have hf := (if_neg h_66).symm.trans hf
  by_cases h_67 : v0 = 100
  · have hf := (if_pos h_67).symm.trans hf
    refine xk_ti (y := 100) h_67 ?_
    refine lv_tableIn (tgt := 394) hx hb dn_M_isSign_1 (by decide) (by decide) rfl (by decide) ?_
    refine lv_iconst (v := 0) hx hb dn_M_isSign_394 (by decide) ?_
    rw [hQQ, ← Option.some.inj hf]
    exact xk_zret (w1 := fun u : Unit => (wM h0 a cI cB cJ cZ s)) () hx hb hr rfl hlocks hK hS dn_M_isSign_395 hP hD rfl (Nat.le_refl _) (Nat.le_refl _)
  have hf := (if_neg h_67).symm.trans hf
  by_cases h_68 : v0 = 101
  · have hf := (if_pos h_68).symm.trans hf
    refine xk_ti (y := 101) h_68 ?_
    refine lv_tableIn (tgt := 394) hx hb dn_M_isSign_1 (by decide) (by decide) rfl (by decide) ?_
    refine lv_iconst (v := 0) hx hb dn_M_isSign_394 (by decide) ?_
    rw [hQQ, ← Option.some.inj hf]
    exact xk_zret (w1 := fun u : Unit => (wM h0 a cI cB cJ cZ s)) () hx hb hr rfl hlocks hK hS dn_M_isSign_395 hP hD rfl (Nat.le_refl _) (Nat.le_refl _)
  have hf := (if_neg h_68).symm.trans hf
  by_cases h_69 : v0 = 102
  · have hf := (if_pos h_69).symm.trans hf
    refine xk_ti (y := 102) h_69 ?_
    refine lv_tableIn (tgt := 394) hx hb dn_M_isSign_1 (by decide) (by decide) rfl (by decide) ?_
    refine lv_iconst (v := 0) hx hb dn_M_isSign_394 (by decide) ?_
    rw [hQQ, ← Option.some.inj hf]
    exact xk_zret (w1 := fun u : Unit => (wM h0 a cI cB cJ cZ s)) () hx hb hr rfl hlocks hK hS dn_M_isSign_395 hP hD rfl (Nat.le_refl _) (Nat.le_refl _)
  have hf := (if_neg h_69).symm.trans hf
  by_cases h_70 : v0 = 103
  · have hf := (if_pos h_70).symm.trans hf
    refine xk_ti (y := 103) h_70 ?_
    refine lv_tableIn (tgt := 394) hx hb dn_M_isSign_1 (by decide) (by decide) rfl (by decide) ?_
    refine lv_iconst (v := 0) hx hb dn_M_isSign_394 (by decide) ?_
    rw [hQQ, ← Option.some.inj hf]
    exact xk_zret (w1 := fun u : Unit => (wM h0 a cI cB cJ cZ s)) () hx hb hr rfl hlocks hK hS dn_M_isSign_395 hP hD rfl (Nat.le_refl _) (Nat.le_refl _)
  have hf := (if_neg h_70).symm.trans hf
  by_cases h_71 : v0 = 104
  · have hf := (if_pos h_71).symm.trans hf
    refine xk_ti (y := 104) h_71 ?_
    refine lv_tableIn (tgt := 394) hx hb dn_M_isSign_1 (by decide) (by decide) rfl (by decide) ?_
    refine lv_iconst (v := 0) hx hb dn_M_isSign_394 (by decide) ?_
    rw [hQQ, ← Option.some.inj hf]
    exact xk_zret (w1 := fun u : Unit => (wM h0 a cI cB cJ cZ s)) () hx hb hr rfl hlocks hK hS dn_M_isSign_395 hP hD rfl (Nat.le_refl _) (Nat.le_refl _)
  have hf := (if_neg h_71).symm.trans hf
  by_cases h_72 : v0 = 105
  · have hf := (if_pos h_72).symm.trans hf
    refine xk_ti (y := 105) h_72 ?_
    refine lv_tableIn (tgt := 394) hx hb dn_M_isSign_1 (by decide) (by decide) rfl (by decide) ?_
    refine lv_iconst (v := 0) hx hb dn_M_isSign_394 (by decide) ?_
    rw [hQQ, ← Option.some.inj hf]
    exact xk_zret (w1 := fun u : Unit => (wM h0 a cI cB cJ cZ s)) () hx hb hr rfl hlocks hK hS dn_M_isSign_395 hP hD rfl (Nat.le_refl _) (Nat.le_refl _)
  have hf := (if_neg h_72).symm.trans hf
  by_cases h_73 : v0 = 106
  · have hf := (if_pos h_73).symm.trans hf
    refine xk_ti (y := 106) h_73 ?_
    refine lv_tableIn (tgt := 394) hx hb dn_M_isSign_1 (by decide) (by decide) rfl (by decide) ?_
    refine lv_iconst (v := 0) hx hb dn_M_isSign_394 (by decide) ?_
    rw [hQQ, ← Option.some.inj hf]
    exact xk_zret (w1 := fun u : Unit => (wM h0 a cI cB cJ cZ s)) () hx hb hr rfl hlocks hK hS dn_M_isSign_395 hP hD rfl (Nat.le_refl _) (Nat.le_refl _)
  have hf := (if_neg h_73).symm.trans hf
  by_cases h_74 : v0 = 107
  · have hf := (if_pos h_74).symm.trans hf
    refine xk_ti (y := 107) h_74 ?_
    refine lv_tableIn (tgt := 394) hx hb dn_M_isSign_1 (by decide) (by decide) rfl (by decide) ?_
    refine lv_iconst (v := 0) hx hb dn_M_isSign_394 (by decide) ?_
    rw [hQQ, ← Option.some.inj hf]
    exact xk_zret (w1 := fun u : Unit => (wM h0 a cI cB cJ cZ s)) () hx hb hr rfl hlocks hK hS dn_M_isSign_395 hP hD rfl (Nat.le_refl _) (Nat.le_refl _)
  have hf := (if_neg h_74).symm.trans hf
  by_cases h_75 : v0 = 108
  · have hf := (if_pos h_75).symm.trans hf
    refine xk_ti (y := 108) h_75 ?_
    refine lv_tableIn (tgt := 394) hx hb dn_M_isSign_1 (by decide) (by decide) rfl (by decide) ?_
    refine lv_iconst (v := 0) hx hb dn_M_isSign_394 (by decide) ?_
    rw [hQQ, ← Option.some.inj hf]
    exact xk_zret (w1 := fun u : Unit => (wM h0 a cI cB cJ cZ s)) () hx hb hr rfl hlocks hK hS dn_M_isSign_395 hP hD rfl (Nat.le_refl _) (Nat.le_refl _)
  have hf := (if_neg h_75).symm.trans hf
  by_cases h_76 : v0 = 109
  · have hf := (if_pos h_76).symm.trans hf
    refine xk_ti (y := 109) h_76 ?_
    refine lv_tableIn (tgt := 394) hx hb dn_M_isSign_1 (by decide) (by decide) rfl (by decide) ?_
    refine lv_iconst (v := 0) hx hb dn_M_isSign_394 (by decide) ?_
    rw [hQQ, ← Option.some.inj hf]
    exact xk_zret (w1 := fun u : Unit => (wM h0 a cI cB cJ cZ s)) () hx hb hr rfl hlocks hK hS dn_M_isSign_395 hP hD rfl (Nat.le_refl _) (Nat.le_refl _)
  have hf := (if_neg h_76).symm.trans hf
  by_cases h_77 : v0 = 110
  · have hf := (if_pos h_77).symm.trans hf
    refine xk_ti (y := 110) h_77 ?_
    refine lv_tableIn (tgt := 394) hx hb dn_M_isSign_1 (by decide) (by decide) rfl (by decide) ?_
    refine lv_iconst (v := 0) hx hb dn_M_isSign_394 (by decide) ?_
    rw [hQQ, ← Option.some.inj hf]
    exact xk_zret (w1 := fun u : Unit => (wM h0 a cI cB cJ cZ s)) () hx hb hr rfl hlocks hK hS dn_M_isSign_395 hP hD rfl (Nat.le_refl _) (Nat.le_refl _)
  have hf := (if_neg h_77).symm.trans hf
  by_cases h_78 : v0 = 111
  · have hf := (if_pos h_78).symm.trans hf
    refine xk_ti (y := 111) h_78 ?_
    refine lv_tableIn (tgt := 394) hx hb dn_M_isSign_1 (by decide) (by decide) rfl (by decide) ?_
    refine lv_iconst (v := 0) hx hb dn_M_isSign_394 (by decide) ?_
    rw [hQQ, ← Option.some.inj hf]
    exact xk_zret (w1 := fun u : Unit => (wM h0 a cI cB cJ cZ s)) () hx hb hr rfl hlocks hK hS dn_M_isSign_395 hP hD rfl (Nat.le_refl _) (Nat.le_refl _)
  have hf := (if_neg h_78).symm.trans hf
  by_cases h_79 : v0 = 112
  · have hf := (if_pos h_79).symm.trans hf
    refine xk_ti (y := 112) h_79 ?_
    refine lv_tableIn (tgt := 394) hx hb dn_M_isSign_1 (by decide) (by decide) rfl (by decide) ?_
    refine lv_iconst (v := 0) hx hb dn_M_isSign_394 (by decide) ?_
    rw [hQQ, ← Option.some.inj hf]
    exact xk_zret (w1 := fun u : Unit => (wM h0 a cI cB cJ cZ s)) () hx hb hr rfl hlocks hK hS dn_M_isSign_395 hP hD rfl (Nat.le_refl _) (Nat.le_refl _)
  have hf := (if_neg h_79).symm.trans hf
  by_cases h_80 : v0 = 113
  · have hf := (if_pos h_80).symm.trans hf
    refine xk_ti (y := 113) h_80 ?_
    refine lv_tableIn (tgt := 394) hx hb dn_M_isSign_1 (by decide) (by decide) rfl (by decide) ?_
    refine lv_iconst (v := 0) hx hb dn_M_isSign_394 (by decide) ?_
    rw [hQQ, ← Option.some.inj hf]
    exact xk_zret (w1 := fun u : Unit => (wM h0 a cI cB cJ cZ s)) () hx hb hr rfl hlocks hK hS dn_M_isSign_395 hP hD rfl (Nat.le_refl _) (Nat.le_refl _)
  have hf := (if_neg h_80).symm.trans hf
  by_cases h_81 : v0 = 114
  · have hf := (if_pos h_81).symm.trans hf
    refine xk_ti (y := 114) h_81 ?_
    refine lv_tableIn (tgt := 394) hx hb dn_M_isSign_1 (by decide) (by decide) rfl (by decide) ?_
    refine lv_iconst (v := 0) hx hb dn_M_isSign_394 (by decide) ?_
    rw [hQQ, ← Option.some.inj hf]
    exact xk_zret (w1 := fun u : Unit => (wM h0 a cI cB cJ cZ s)) () hx hb hr rfl hlocks hK hS dn_M_isSign_395 hP hD rfl (Nat.le_refl _) (Nat.le_refl _)
  have hf := (if_neg h_81).symm.trans hf
  by_cases h_82 : v0 = 115
  · have hf := (if_pos h_82).symm.trans hf
    refine xk_ti (y := 115) h_82 ?_
    refine lv_tableIn (tgt := 394) hx hb dn_M_isSign_1 (by decide) (by decide) rfl (by decide) ?_
    refine lv_iconst (v := 0) hx hb dn_M_isSign_394 (by decide) ?_
    rw [hQQ, ← Option.some.inj hf]
    exact xk_zret (w1 := fun u : Unit => (wM h0 a cI cB cJ cZ s)) () hx hb hr rfl hlocks hK hS dn_M_isSign_395 hP hD rfl (Nat.le_refl _) (Nat.le_refl _)
  have hf := (if_neg h_82).symm.trans hf
  by_cases h_83 : v0 = 116
  · have hf := (if_pos h_83).symm.trans hf
    refine xk_ti (y := 116) h_83 ?_
    refine lv_tableIn (tgt := 394) hx hb dn_M_isSign_1 (by decide) (by decide) rfl (by decide) ?_
    refine lv_iconst (v := 0) hx hb dn_M_isSign_394 (by decide) ?_
    rw [hQQ, ← Option.some.inj hf]
    exact xk_zret (w1 := fun u : Unit => (wM h0 a cI cB cJ cZ s)) () hx hb hr rfl hlocks hK hS dn_M_isSign_395 hP hD rfl (Nat.le_refl _) (Nat.le_refl _)
  have hf := (if_neg h_83).symm.trans hf
  by_cases h_84 : v0 = 117
  · have hf := (if_pos h_84).symm.trans hf
    refine xk_ti (y := 117) h_84 ?_
    refine lv_tableIn (tgt := 394) hx hb dn_M_isSign_1 (by decide) (by decide) rfl (by decide) ?_
    refine lv_iconst (v := 0) hx hb dn_M_isSign_394 (by decide) ?_
    rw [hQQ, ← Option.some.inj hf]
    exact xk_zret (w1 := fun u : Unit => (wM h0 a cI cB cJ cZ s)) () hx hb hr rfl hlocks hK hS dn_M_isSign_395 hP hD rfl (Nat.le_refl _) (Nat.le_refl _)
  have hf := (if_neg h_84).symm.trans hf
  by_cases h_85 : v0 = 118
  · have hf := (if_pos h_85).symm.trans hf
    refine xk_ti (y := 118) h_85 ?_
    refine lv_tableIn (tgt := 394) hx hb dn_M_isSign_1 (by decide) (by decide) rfl (by decide) ?_
    refine lv_iconst (v := 0) hx hb dn_M_isSign_394 (by decide) ?_
    rw [hQQ, ← Option.some.inj hf]
    exact xk_zret (w1 := fun u : Unit => (wM h0 a cI cB cJ cZ s)) () hx hb hr rfl hlocks hK hS dn_M_isSign_395 hP hD rfl (Nat.le_refl _) (Nat.le_refl _)
  have hf := (if_neg h_85).symm.trans hf
  by_cases h_86 : v0 = 119
  · have hf := (if_pos h_86).symm.trans hf
    refine xk_ti (y := 119) h_86 ?_
    refine lv_tableIn (tgt := 394) hx hb dn_M_isSign_1 (by decide) (by decide) rfl (by decide) ?_
    refine lv_iconst (v := 0) hx hb dn_M_isSign_394 (by decide) ?_
    rw [hQQ, ← Option.some.inj hf]
    exact xk_zret (w1 := fun u : Unit => (wM h0 a cI cB cJ cZ s)) () hx hb hr rfl hlocks hK hS dn_M_isSign_395 hP hD rfl (Nat.le_refl _) (Nat.le_refl _)
  have hf := (if_neg h_86).symm.trans hf
  by_cases h_87 : v0 = 120
  · have hf := (if_pos h_87).symm.trans hf
    refine xk_ti (y := 120) h_87 ?_
    refine lv_tableIn (tgt := 394) hx hb dn_M_isSign_1 (by decide) (by decide) rfl (by decide) ?_
    refine lv_iconst (v := 0) hx hb dn_M_isSign_394 (by decide) ?_
    rw [hQQ, ← Option.some.inj hf]
    exact xk_zret (w1 := fun u : Unit => (wM h0 a cI cB cJ cZ s)) () hx hb hr rfl hlocks hK hS dn_M_isSign_395 hP hD rfl (Nat.le_refl _) (Nat.le_refl _)
  have hf := (if_neg h_87).symm.trans hf
  by_cases h_88 : v0 = 121
  · have hf := (if_pos h_88).symm.trans hf
    refine xk_ti (y := 121) h_88 ?_
    refine lv_tableIn (tgt := 394) hx hb dn_M_isSign_1 (by decide) (by decide) rfl (by decide) ?_
    refine lv_iconst (v := 0) hx hb dn_M_isSign_394 (by decide) ?_
    rw [hQQ, ← Option.some.inj hf]
    exact xk_zret (w1 := fun u : Unit => (wM h0 a cI cB cJ cZ s)) () hx hb hr rfl hlocks hK hS dn_M_isSign_395 hP hD rfl (Nat.le_refl _) (Nat.le_refl _)
  have hf := (if_neg h_88).symm.trans hf
  by_cases h_89 : v0 = 122
  · have hf := (if_pos h_89).symm.trans hf
    refine xk_ti (y := 122) h_89 ?_
    refine lv_tableIn (tgt := 394) hx hb dn_M_isSign_1 (by decide) (by decide) rfl (by decide) ?_
    refine lv_iconst (v := 0) hx hb dn_M_isSign_394 (by decide) ?_
    rw [hQQ, ← Option.some.inj hf]
    exact xk_zret (w1 := fun u : Unit => (wM h0 a cI cB cJ cZ s)) () hx hb hr rfl hlocks hK hS dn_M_isSign_395 hP hD rfl (Nat.le_refl _) (Nat.le_refl _)
  have hf := (if_neg h_89).symm.trans hf
  by_cases h_90 : v0 = 123
  · have hf := (if_pos h_90).symm.trans hf
    refine xk_ti (y := 123) h_90 ?_
    refine lv_tableIn (tgt := 392) hx hb dn_M_isSign_1 (by decide) (by decide) rfl (by decide) ?_
    refine lv_iconst (v := 1) hx hb dn_M_isSign_392 (by decide) ?_
    rw [hQQ, ← Option.some.inj hf]
    exact xk_zret (w1 := fun u : Unit => (wM h0 a cI cB cJ cZ s)) () hx hb hr rfl hlocks hK hS dn_M_isSign_393 hP hD rfl (Nat.le_refl _) (Nat.le_refl _)
  have hf := (if_neg h_90).symm.trans hf
  by_cases h_91 : v0 = 124
  · have hf := (if_pos h_91).symm.trans hf
    refine xk_ti (y := 124) h_91 ?_
    refine lv_tableIn (tgt := 392) hx hb dn_M_isSign_1 (by decide) (by decide) rfl (by decide) ?_
    refine lv_iconst (v := 1) hx hb dn_M_isSign_392 (by decide) ?_
    rw [hQQ, ← Option.some.inj hf]
    exact xk_zret (w1 := fun u : Unit => (wM h0 a cI cB cJ cZ s)) () hx hb hr rfl hlocks hK hS dn_M_isSign_393 hP hD rfl (Nat.le_refl _) (Nat.le_refl _)
  have hf := (if_neg h_91).symm.trans hf
  by_cases h_92 : v0 = 125
  · have hf := (if_pos h_92).symm.trans hf
    refine xk_ti (y := 125) h_92 ?_
    refine lv_tableIn (tgt := 392) hx hb dn_M_isSign_1 (by decide) (by decide) rfl (by decide) ?_
    refine lv_iconst (v := 1) hx hb dn_M_isSign_392 (by decide) ?_
    rw [hQQ, ← Option.some.inj hf]
    exact xk_zret (w1 := fun u : Unit => (wM h0 a cI cB cJ cZ s)) () hx hb hr rfl hlocks hK hS dn_M_isSign_393 hP hD rfl (Nat.le_refl _) (Nat.le_refl _)
  have hf := (if_neg h_92).symm.trans hf
  by_cases h_93 : v0 = 126
  · have hf := (if_pos h_93).symm.trans hf
    refine xk_ti (y := 126) h_93 ?_
    refine lv_tableIn (tgt := 392) hx hb dn_M_isSign_1 (by decide) (by decide) rfl (by decide) ?_
    refine lv_iconst (v := 1) hx hb dn_M_isSign_392 (by decide) ?_
    rw [hQQ, ← Option.some.inj hf]
    exact xk_zret (w1 := fun u : Unit => (wM h0 a cI cB cJ cZ s)) () hx hb hr rfl hlocks hK hS dn_M_isSign_393 hP hD rfl (Nat.le_refl _) (Nat.le_refl _)
  have hf := (if_neg h_93).symm.trans hf
  refine lv_tableOut (tgt := 394) hx hb dn_M_isSign_1 (dc_out (fun k h1 h2 => by rcases (show k = 33 ∨ k = 34 ∨ k = 35 ∨ k = 36 ∨ k = 37 ∨ k = 38 ∨ k = 39 ∨ k = 40 ∨ k = 41 ∨ k = 42 ∨ k = 43 ∨ k = 44 ∨ k = 45 ∨ k = 46 ∨ k = 47 ∨ k = 48 ∨ k = 49 ∨ k = 50 ∨ k = 51 ∨ k = 52 ∨ k = 53 ∨ k = 54 ∨ k = 55 ∨ k = 56 ∨ k = 57 ∨ k = 58 ∨ k = 59 ∨ k = 60 ∨ k = 61 ∨ k = 62 ∨ k = 63 ∨ k = 64 ∨ k = 65 ∨ k = 66 ∨ k = 67 ∨ k = 68 ∨ k = 69 ∨ k = 70 ∨ k = 71 ∨ k = 72 ∨ k = 73 ∨ k = 74 ∨ k = 75 ∨ k = 76 ∨ k = 77 ∨ k = 78 ∨ k = 79 ∨ k = 80 ∨ k = 81 ∨ k = 82 ∨ k = 83 ∨ k = 84 ∨ k = 85 ∨ k = 86 ∨ k = 87 ∨ k = 88 ∨ k = 89 ∨ k = 90 ∨ k = 91 ∨ k = 92 ∨ k = 93 ∨ k = 94 ∨ k = 95 ∨ k = 96 ∨ k = 97 ∨ k = 98 ∨ k = 99 ∨ k = 100 ∨ k = 101 ∨ k = 102 ∨ k = 103 ∨ k = 104 ∨ k = 105 ∨ k = 106 ∨ k = 107 ∨ k = 108 ∨ k = 109 ∨ k = 110 ∨ k = 111 ∨ k = 112 ∨ k = 113 ∨ k = 114 ∨ k = 115 ∨ k = 116 ∨ k = 117 ∨ k = 118 ∨ k = 119 ∨ k = 120 ∨ k = 121 ∨ k = 122 ∨ k = 123 ∨ k = 124 ∨ k = 125 ∨ k = 126 by omega) with rfl | rfl | rfl | rfl | rfl | rfl | rfl | rfl | rfl | rfl | rfl | rfl | rfl | rfl | rfl | rfl | rfl | rfl | rfl | rfl | rfl | rfl | rfl | rfl | rfl | rfl | rfl | rfl | rfl | rfl | rfl | rfl | rfl | rfl | rfl | rfl | rfl | rfl | rfl | rfl | rfl | rfl | rfl | rfl | rfl | rfl | rfl | rfl | rfl | rfl | rfl | rfl | rfl | rfl | rfl | rfl | rfl | rfl | rfl | rfl | rfl | rfl | rfl | rfl | rfl | rfl | rfl | rfl | rfl | rfl | rfl | rfl | rfl | rfl | rfl | rfl | rfl | rfl | rfl | rfl | rfl | rfl | rfl | rfl | rfl | rfl | rfl | rfl | rfl | rfl | rfl | rfl | rfl | rfl <;> first | exact lv_neT h_0 (by decide) | exact lv_neT h_1 (by decide) | exact lv_neT h_2 (by decide) | exact lv_neT h_3 (by decide) | exact lv_neT h_4 (by decide) | exact lv_neT h_5 (by decide) | exact lv_neT h_6 (by decide) | exact lv_neT h_7 (by decide) | exact lv_neT h_8 (by decide) | exact lv_neT h_9 (by decide) | exact lv_neT h_10 (by decide) | exact lv_neT h_11 (by decide) | exact lv_neT h_12 (by decide) | exact lv_neT h_13 (by decide) | exact lv_neT h_14 (by decide) | exact lv_neT h_15 (by decide) | exact lv_neT h_16 (by decide) | exact lv_neT h_17 (by decide) | exact lv_neT h_18 (by decide) | exact lv_neT h_19 (by decide) | exact lv_neT h_20 (by decide) | exact lv_neT h_21 (by decide) | exact lv_neT h_22 (by decide) | exact lv_neT h_23 (by decide) | exact lv_neT h_24 (by decide) | exact lv_neT h_25 (by decide) | exact lv_neT h_26 (by decide) | exact lv_neT h_27 (by decide) | exact lv_neT h_28 (by decide) | exact lv_neT h_29 (by decide) | exact lv_neT h_30 (by decide) | exact lv_neT h_31 (by decide) | exact lv_neT h_32 (by decide) | exact lv_neT h_33 (by decide) | exact lv_neT h_34 (by decide) | exact lv_neT h_35 (by decide) | exact lv_neT h_36 (by decide) | exact lv_neT h_37 (by decide) | exact lv_neT h_38 (by decide) | exact lv_neT h_39 (by decide) | exact lv_neT h_40 (by decide) | exact lv_neT h_41 (by decide) | exact lv_neT h_42 (by decide) | exact lv_neT h_43 (by decide) | exact lv_neT h_44 (by decide) | exact lv_neT h_45 (by decide) | exact lv_neT h_46 (by decide) | exact lv_neT h_47 (by decide) | exact lv_neT h_48 (by decide) | exact lv_neT h_49 (by decide) | exact lv_neT h_50 (by decide) | exact lv_neT h_51 (by decide) | exact lv_neT h_52 (by decide) | exact lv_neT h_53 (by decide) | exact lv_neT h_54 (by decide) | exact lv_neT h_55 (by decide) | exact lv_neT h_56 (by decide) | exact lv_neT h_57 (by decide) | exact lv_neT h_58 (by decide) | exact lv_neT h_59 (by decide) | exact lv_neT h_60 (by decide) | exact lv_neT h_61 (by decide) | exact lv_neT h_62 (by decide) | exact lv_neT h_63 (by decide) | exact lv_neT h_64 (by decide) | exact lv_neT h_65 (by decide) | exact lv_neT h_66 (by decide) | exact lv_neT h_67 (by decide) | exact lv_neT h_68 (by decide) | exact lv_neT h_69 (by decide) | exact lv_neT h_70 (by decide) | exact lv_neT h_71 (by decide) | exact lv_neT h_72 (by decide) | exact lv_neT h_73 (by decide) | exact lv_neT h_74 (by decide) | exact lv_neT h_75 (by decide) | exact lv_neT h_76 (by decide) | exact lv_neT h_77 (by decide) | exact lv_neT h_78 (by decide) | exact lv_neT h_79 (by decide) | exact lv_neT h_80 (by decide) | exact lv_neT h_81 (by decide) | exact lv_neT h_82 (by decide) | exact lv_neT h_83 (by decide) | exact lv_neT h_84 (by decide) | exact lv_neT h_85 (by decide) | exact lv_neT h_86 (by decide) | exact lv_neT h_87 (by decide) | exact lv_neT h_88 (by decide) | exact lv_neT h_89 (by decide) | exact lv_neT h_90 (by decide) | exact lv_neT h_91 (by decide) | exact lv_neT h_92 (by decide) | exact lv_neT h_93 (by decide)) (by decide)) (by decide) ?_
  refine lv_iconst (v := 0) hx hb dn_M_isSign_394 (by decide) ?_
  rw [hQQ, ← Option.some.inj hf]
  exact xk_zret (w1 := fun u : Unit => (wM h0 a cI cB cJ cZ s)) () hx hb hr rfl hlocks hK hS dn_M_isSign_395 hP hD rfl (Nat.le_refl _) (Nat.le_refl _)
