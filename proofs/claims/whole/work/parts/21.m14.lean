def fn_M_push (N : Nat) (v1 : Int64) (s : ms) : Option (Unit × ms) :=
  if ((s.1 85 0) < 0 ∨ 4096 ≤ Int32.toNatClampNeg ((s.1 85 0))) then none else some ((), upI (upJ s 84 (vp_updL (s.2 84) (Int32.toNatClampNeg ((s.1 85 0))) v1)) 85 (fun _ => ((s.1 85 0) + 1)))
theorem mn_M_push (N : Nat) (v1 : Int64) (s : ms) (y : (Unit × ms)) (hf : fn_M_push N v1 s = some y) : gl y.2 = gl s := by
  unfold fn_M_push at hf
  have hm : gl s = gl s := rfl
  obtain ⟨_, hf⟩ := dc_g hf
  rw [← Option.some.inj hf]
  exact hm
set_option maxHeartbeats 8000000 in
set_option maxRecDepth 100000 in
theorem ct_M_push (l : Launch) (dC : Nat → ClassId) (dI : Nat → Nat → Nat) (cI cB cJ cZ cQ : ClassId) (N sz : Nat) (h0 : Nat) (a : Nat → Nat) (v1 : Int64) (s : ms) (y : (Unit × ms)) (hf : fn_M_push N v1 s = some y) : Met l yn_M_push (xw yn_M_push bn_M_push 3 none) ({ frames := 0, cells := 0, slots := 0, locals := 0 }) (dc_P (dC, dI) xcl (xt cI cB cJ cZ cQ) [.ref h0, .long v1] sz (wM h0 a cI cB cJ cZ s)) (xk_Qv (dC, dI) xcl (xt cI cB cJ cZ cQ) (fun _ : Unit => True) (fun u : Unit => (wM h0 a cI cB cJ cZ y.2)) (va_A (wM h0 a cI cB cJ cZ s) sz)) 0 0 (va_A (wM h0 a cI cB cJ cZ s) sz) := by
  refine dc_of (QA := xk_Qv (dC, dI) xcl (xt cI cB cJ cZ cQ) (fun _ : Unit => True) (fun u : Unit => (wM h0 a cI cB cJ cZ y.2))) (by decide) (Nat.le_of_ble_eq_true rfl) ?_
  intro p e s0 m below meth c hx hb hml hown hg hr hlocks hin hP hK hN A hA hD hT ls hl
  have hown : s0.vm.findClass rn_M = some m.cls := hown
  obtain ⟨H, hH⟩ : ∃ z, z = s0.heap := ⟨_, rfl⟩
  rw [← hH] at hP
  have hS : va_S A s0.heap H [] := by rw [hH]; exact va_S.rf
  suffices kk : ∀ QQ : State → Prop, QQ = MQ below (xk_Qv (dC, dI) xcl (xt cI cB cJ cZ cQ) (fun _ : Unit => True) (fun u : Unit => (wM h0 a cI cB cJ cZ y.2)) A) [.ref h0, .long v1].toArray s0 0 0 A → dcC p l e ({ frames := 0, cells := 0, slots := 0, locals := 0 }) s0 m [.ref h0, .long v1].toArray below meth c QQ (dC, dI) A (wM h0 a cI cB cJ cZ s) 0 3 [(0, .ref h0), (1, .long v1)] [] by
    have k9 := kk _ rfl H [] ls hP hD hS hl
    rw [hH] at k9; exact k9
  clear hP hD hS hl hH H ls
  intro QQ hQQ
  intro H locs ls hP hD hS hl
  unfold fn_M_push at hf
  refine lv_aload_n hx hb dn_M_push_0 rfl (lv_at hl 0 rfl) ?_
  refine va_get (D := (dC, dI)) (ci := 0) (v := .ref ((a 84))) (C := rn_M) (T := fn_M) (N := 91) hx hb hg in_M hown hK hP 0 rfl rfl 84 (by decide) (hg _ wn_8_152) (fun _ h9 => h9) rfl dn_M_push_1 ?_
  refine lv_aload_n hx hb dn_M_push_4 rfl (lv_at hl 0 rfl) ?_
  refine va_get (D := (dC, dI)) (ci := 0) (v := .int ((s.1 85 0))) (C := rn_M) (T := fn_M) (N := 91) hx hb hg in_M hown hK hP 0 rfl rfl 85 (by decide) (hg _ wn_8_153) (fun _ h9 => h9) rfl dn_M_push_5 ?_
  refine lv_lload_n hx hb dn_M_push_8 rfl (lv_at hl 1 rfl) ?_
  obtain ⟨hg_1, hf⟩ := dc_g hf
  refine va_last hx hb hK hP hD hS 58 2 rfl rfl hg_1 dn_M_push_9 (fun H locs hP hD hS => ?_)
  have hP : va_P (dC, dI) xcl (wM h0 a cI cB cJ cZ (upJ s 84 (vp_updL (s.2 84) (Int32.toNatClampNeg ((s.1 85 0))) v1))) H := hP
  have hD : va_D A (wM h0 a cI cB cJ cZ (upJ s 84 (vp_updL (s.2 84) (Int32.toNatClampNeg ((s.1 85 0))) v1))) := hD
  refine lv_aload_n hx hb dn_M_push_10 rfl (lv_at hl 0 rfl) ?_
  refine lv_dup hx hb dn_M_push_11 rfl ?_
  refine va_get (D := (dC, dI)) (ci := 0) (v := .int ((s.1 85 0))) (C := rn_M) (T := fn_M) (N := 91) hx hb hg in_M hown hK hP 0 rfl rfl 85 (by decide) (hg _ wn_8_153) (fun _ h9 => h9) rfl dn_M_push_12 ?_
  refine lv_iconst (v := 1) hx hb dn_M_push_15 (by decide) ?_
  refine lv_iadd hx hb dn_M_push_16 ?_
  refine va_put (D := (dC, dI)) (ci := 0) (v := .int (((s.1 85 0) + 1))) (ty := .int) (C := rn_M) (T := fn_M) (N := 91) hx hb hg in_M tn_M tk_M nn_M hown hK hP hD hS 0 rfl rfl 85 (by decide) (hg _ wn_8_153) (fun _ h9 => h9) rfl (tk_M 85 (by decide)) rfl rfl (Nat.le_of_ble_eq_true rfl) dn_M_push_17 (fun H locs hP hD hS => ?_)
  have hP : va_P (dC, dI) xcl (wM h0 a cI cB cJ cZ (upI (upJ s 84 (vp_updL (s.2 84) (Int32.toNatClampNeg ((s.1 85 0))) v1)) 85 (fun _ => ((s.1 85 0) + 1)))) H := hP
  have hD : va_D A (wM h0 a cI cB cJ cZ (upI (upJ s 84 (vp_updL (s.2 84) (Int32.toNatClampNeg ((s.1 85 0))) v1)) 85 (fun _ => ((s.1 85 0) + 1)))) := hD
  rw [hQQ, ← Option.some.inj hf]
  exact xk_vret (w1 := fun u : Unit => (wM h0 a cI cB cJ cZ (upI (upJ s 84 (vp_updL (s.2 84) (Int32.toNatClampNeg ((s.1 85 0))) v1)) 85 (fun _ => ((s.1 85 0) + 1))))) () hx hb hr hlocks hK hS dn_M_push_20 hP hD trivial (Nat.le_refl _) (Nat.le_refl _)
def fn_M_pop (N : Nat) (s : ms) : Option (Int64 × ms) :=
  if (((s.1 85 0) - 1) < 0 ∨ 4096 ≤ Int32.toNatClampNeg (((s.1 85 0) - 1))) then none else some (((s.2 84) (Int32.toNatClampNeg (((s.1 85 0) - 1)))), upI s 85 (fun _ => ((s.1 85 0) - 1)))
theorem mn_M_pop (N : Nat) (s : ms) (y : (Int64 × ms)) (hf : fn_M_pop N s = some y) : gl y.2 = gl s := by
  unfold fn_M_pop at hf
  have hm : gl s = gl s := rfl
  obtain ⟨_, hf⟩ := dc_g hf
  rw [← Option.some.inj hf]
  exact hm
set_option maxHeartbeats 8000000 in
set_option maxRecDepth 100000 in
theorem ct_M_pop (l : Launch) (dC : Nat → ClassId) (dI : Nat → Nat → Nat) (cI cB cJ cZ cQ : ClassId) (N sz : Nat) (h0 : Nat) (a : Nat → Nat) (s : ms) (y : (Int64 × ms)) (hf : fn_M_pop N s = some y) : Met l yn_M_pop (xw yn_M_pop bn_M_pop 1 (some .long)) ({ frames := 0, cells := 0, slots := 0, locals := 0 }) (dc_P (dC, dI) xcl (xt cI cB cJ cZ cQ) [.ref h0] sz (wM h0 a cI cB cJ cZ s)) (xk_Ql (dC, dI) xcl (xt cI cB cJ cZ cQ) (fun (r : Int64) (_ : Unit) => r = y.1) (fun u : Unit => (wM h0 a cI cB cJ cZ y.2)) (va_A (wM h0 a cI cB cJ cZ s) sz)) 0 0 (va_A (wM h0 a cI cB cJ cZ s) sz) := by
  refine dc_of (QA := xk_Ql (dC, dI) xcl (xt cI cB cJ cZ cQ) (fun (r : Int64) (_ : Unit) => r = y.1) (fun u : Unit => (wM h0 a cI cB cJ cZ y.2))) (by decide) (Nat.le_of_ble_eq_true rfl) ?_
  intro p e s0 m below meth c hx hb hml hown hg hr hlocks hin hP hK hN A hA hD hT ls hl
  have hown : s0.vm.findClass rn_M = some m.cls := hown
  obtain ⟨H, hH⟩ : ∃ z, z = s0.heap := ⟨_, rfl⟩
  rw [← hH] at hP
  have hS : va_S A s0.heap H [] := by rw [hH]; exact va_S.rf
  suffices kk : ∀ QQ : State → Prop, QQ = MQ below (xk_Ql (dC, dI) xcl (xt cI cB cJ cZ cQ) (fun (r : Int64) (_ : Unit) => r = y.1) (fun u : Unit => (wM h0 a cI cB cJ cZ y.2)) A) [.ref h0].toArray s0 0 0 A → dcC p l e ({ frames := 0, cells := 0, slots := 0, locals := 0 }) s0 m [.ref h0].toArray below meth c QQ (dC, dI) A (wM h0 a cI cB cJ cZ s) 0 1 [(0, .ref h0)] [] by
    have k9 := kk _ rfl H [] ls hP hD hS hl
    rw [hH] at k9; exact k9
  clear hP hD hS hl hH H ls
  intro QQ hQQ
  intro H locs ls hP hD hS hl
  unfold fn_M_pop at hf
  refine lv_aload_n hx hb dn_M_pop_0 rfl (lv_at hl 0 rfl) ?_
  refine lv_dup hx hb dn_M_pop_1 rfl ?_
  refine va_get (D := (dC, dI)) (ci := 0) (v := .int ((s.1 85 0))) (C := rn_M) (T := fn_M) (N := 91) hx hb hg in_M hown hK hP 0 rfl rfl 85 (by decide) (hg _ wn_8_153) (fun _ h9 => h9) rfl dn_M_pop_2 ?_
  refine lv_iconst (v := 1) hx hb dn_M_pop_5 (by decide) ?_
  refine lv_isub hx hb dn_M_pop_6 ?_
  refine va_put (D := (dC, dI)) (ci := 0) (v := .int (((s.1 85 0) - 1))) (ty := .int) (C := rn_M) (T := fn_M) (N := 91) hx hb hg in_M tn_M tk_M nn_M hown hK hP hD hS 0 rfl rfl 85 (by decide) (hg _ wn_8_153) (fun _ h9 => h9) rfl (tk_M 85 (by decide)) rfl rfl (Nat.le_of_ble_eq_true rfl) dn_M_pop_7 (fun H locs hP hD hS => ?_)
  have hP : va_P (dC, dI) xcl (wM h0 a cI cB cJ cZ (upI s 85 (fun _ => ((s.1 85 0) - 1)))) H := hP
  have hD : va_D A (wM h0 a cI cB cJ cZ (upI s 85 (fun _ => ((s.1 85 0) - 1)))) := hD
  refine lv_aload_n hx hb dn_M_pop_10 rfl (lv_at hl 0 rfl) ?_
  refine va_get (D := (dC, dI)) (ci := 0) (v := .ref ((a 84))) (C := rn_M) (T := fn_M) (N := 91) hx hb hg in_M hown hK hP 0 rfl rfl 84 (by decide) (hg _ wn_8_152) (fun _ h9 => h9) rfl dn_M_pop_11 ?_
  refine lv_aload_n hx hb dn_M_pop_14 rfl (lv_at hl 0 rfl) ?_
  refine va_get (D := (dC, dI)) (ci := 0) (v := .int (((s.1 85 0) - 1))) (C := rn_M) (T := fn_M) (N := 91) hx hb hg in_M hown hK hP 0 rfl rfl 85 (by decide) (hg _ wn_8_153) (fun _ h9 => h9) rfl dn_M_pop_15 ?_
  obtain ⟨hg_1, hf⟩ := dc_g hf
  refine va_lald hx hb hK hP 58 2 rfl rfl hg_1 dn_M_pop_18 ?_
  refine xk_tl (y := ((s.2 84) (Int32.toNatClampNeg (((s.1 85 0) - 1))))) rfl ?_
  rw [hQQ, ← Option.some.inj hf]
  exact xk_lret (w1 := fun u : Unit => (wM h0 a cI cB cJ cZ (upI s 85 (fun _ => ((s.1 85 0) - 1))))) () hx hb hr hlocks hK hS dn_M_pop_19 hP hD rfl (Nat.le_refl _) (Nat.le_refl _)
def fn_M_mask (N : Nat) (v0 : Int32) (s : ms) : Option (Int64 × ms) :=
  if v0 < 64 then (some ((((1 : Int64) <<< ((Int32.toInt64 v0) &&& 63)) - 1), s)) else (some ((-1), s))
theorem mn_M_mask (N : Nat) (v0 : Int32) (s : ms) (y : (Int64 × ms)) (hf : fn_M_mask N v0 s = some y) : gl y.2 = gl s := by
  unfold fn_M_mask at hf
  have hm : gl s = gl s := rfl
  by_cases h : v0 < 64
  · have hf := (if_pos h).symm.trans hf
    rw [← Option.some.inj hf]
    exact hm
  · have hf := (if_neg h).symm.trans hf
    rw [← Option.some.inj hf]
    exact hm
set_option maxHeartbeats 8000000 in
set_option maxRecDepth 100000 in
theorem ct_M_mask (l : Launch) (dC : Nat → ClassId) (dI : Nat → Nat → Nat) (cI cB cJ cZ cQ : ClassId) (N sz : Nat) (h0 : Nat) (a : Nat → Nat) (v0 : Int32) (s : ms) (y : (Int64 × ms)) (hf : fn_M_mask N v0 s = some y) : Met l yn_M_mask (xw yn_M_mask bn_M_mask 1 (some .long)) ({ frames := 0, cells := 0, slots := 0, locals := 0 }) (dc_P (dC, dI) xcl (xt cI cB cJ cZ cQ) [.int v0] sz (wM h0 a cI cB cJ cZ s)) (xk_Ql (dC, dI) xcl (xt cI cB cJ cZ cQ) (fun (r : Int64) (_ : Unit) => r = y.1) (fun u : Unit => (wM h0 a cI cB cJ cZ y.2)) (va_A (wM h0 a cI cB cJ cZ s) sz)) 0 0 (va_A (wM h0 a cI cB cJ cZ s) sz) := by
  refine dc_of (QA := xk_Ql (dC, dI) xcl (xt cI cB cJ cZ cQ) (fun (r : Int64) (_ : Unit) => r = y.1) (fun u : Unit => (wM h0 a cI cB cJ cZ y.2))) (by decide) (Nat.le_of_ble_eq_true rfl) ?_
  intro p e s0 m below meth c hx hb hml hown hg hr hlocks hin hP hK hN A hA hD hT ls hl
  have hown : s0.vm.findClass rn_M = some m.cls := hown
  obtain ⟨H, hH⟩ : ∃ z, z = s0.heap := ⟨_, rfl⟩
  rw [← hH] at hP
  have hS : va_S A s0.heap H [] := by rw [hH]; exact va_S.rf
  suffices kk : ∀ QQ : State → Prop, QQ = MQ below (xk_Ql (dC, dI) xcl (xt cI cB cJ cZ cQ) (fun (r : Int64) (_ : Unit) => r = y.1) (fun u : Unit => (wM h0 a cI cB cJ cZ y.2)) A) [.int v0].toArray s0 0 0 A → dcC p l e ({ frames := 0, cells := 0, slots := 0, locals := 0 }) s0 m [.int v0].toArray below meth c QQ (dC, dI) A (wM h0 a cI cB cJ cZ s) 0 1 [(0, .int v0)] [] by
    have k9 := kk _ rfl H [] ls hP hD hS hl
    rw [hH] at k9; exact k9
  clear hP hD hS hl hH H ls
  intro QQ hQQ
  intro H locs ls hP hD hS hl
  unfold fn_M_mask at hf
  refine lv_iload_n hx hb dn_M_mask_0 rfl (lv_at hl 0 rfl) ?_
  refine lv_bipush (v := 64) hx hb dn_M_mask_1 (by decide) ?_
  refine lv_icmp_lt (tgt := 12) hx hb dn_M_mask_3 (by decide) (fun h => ?_) (fun h => ?_)
  · have hf := (if_pos h).symm.trans hf
    refine lv_lconst (v := 1) hx hb dn_M_mask_12 (by decide) ?_
    refine lv_iload_n hx hb dn_M_mask_13 rfl (lv_at hl 0 rfl) ?_
    refine lv_lshl (v := (1 : Int64) <<< ((Int32.toInt64 v0) &&& 63)) hx hb dn_M_mask_14 rfl ?_
    refine lv_lconst (v := 1) hx hb dn_M_mask_15 (by decide) ?_
    refine lv_lsub hx hb dn_M_mask_16 ?_
    rw [hQQ, ← Option.some.inj hf]
    exact xk_lret (w1 := fun u : Unit => (wM h0 a cI cB cJ cZ s)) () hx hb hr hlocks hK hS dn_M_mask_17 hP hD rfl (Nat.le_refl _) (Nat.le_refl _)
  · have hf := (if_neg h).symm.trans hf
    refine lv_ldc2 hx hb hown (hg _ wn_10_223) dn_M_mask_6 ?_
    refine lv_goto (tgt := 17) hx hb dn_M_mask_9 (by decide) ?_
    rw [hQQ, ← Option.some.inj hf]
    exact xk_lret (w1 := fun u : Unit => (wM h0 a cI cB cJ cZ s)) () hx hb hr hlocks hK hS dn_M_mask_17 hP hD rfl (Nat.le_refl _) (Nat.le_refl _)
def bd_M_one_116 (N : Nat) (k_116 : Int32 → Int64 → Int64 → Int32 → ms → Option (Int64 × ms)) (x1 : Int32) (x2 : Int64) (x4 : Int64) (x6 : Int32) (s : ms) : Option (Int64 × ms) :=
  if x1 ≤ x6 then (some (x4, s)) else (k_116 x1 x2 ((x4 ^^^ (((x2 : Int64) >>> ((Int32.toInt64 x6) &&& 63)) &&& 1))) ((x6 + 1)) s)
def hd_M_one_116 (N : Nat) : Nat → Int32 → Int64 → Int64 → Int32 → ms → Option (Int64 × ms)
  | 0, _, _, _, _, _ => none
  | n + 1, x1, x2, x4, x6, s => bd_M_one_116 N (hd_M_one_116 N n) x1 x2 x4 x6 s
def fn_M_one (N : Nat) (v0 : Int32) (v1 : Int32) (v2 : Int64) (s : ms) : Option (Int64 × ms) :=
  if v0 = 33 then (if (lg_cmp v2 0) = 0 then (some (1, s)) else (some (0, s))) else (if v0 = 38 then ((fn_M_mask N v1 s).bind (fun q_1 => if (lg_cmp v2 q_1.1) = 0 then (some (1, q_1.2)) else (some (0, q_1.2)))) else (if v0 = 45 then ((fn_M_mask N v1 s).bind (fun q_1 => some (((-v2) &&& q_1.1), q_1.2))) else (if v0 = 124 then (if (lg_cmp v2 0) = 0 then (some (0, s)) else (some (1, s))) else (if v0 = 126 then ((fn_M_mask N v1 s).bind (fun q_1 => some (((v2 ^^^ (-1)) &&& q_1.1), q_1.2))) else (hd_M_one_116 N N v1 v2 0 0 s)))))
theorem mb_M_one_116 (N : Nat) (y : (Int64 × ms)) (k_116 : Int32 → Int64 → Int64 → Int32 → ms → Option (Int64 × ms)) (hkm_116 : ∀ (x1 : Int32) (x2 : Int64) (x4 : Int64) (x6 : Int32) (s : ms), k_116 x1 x2 x4 x6 s = some y → gl y.2 = gl s) (x1 : Int32) (x2 : Int64) (x4 : Int64) (x6 : Int32) (s : ms) (hf : bd_M_one_116 N k_116 x1 x2 x4 x6 s = some y) : gl y.2 = gl s := by
  unfold bd_M_one_116 at hf
  have hm : gl s = gl s := rfl
  by_cases h : x1 ≤ x6
  · have hf := (if_pos h).symm.trans hf
    rw [← Option.some.inj hf]
    exact hm
  · have hf := (if_neg h).symm.trans hf
    exact (hkm_116 x1 x2 ((x4 ^^^ (((x2 : Int64) >>> ((Int32.toInt64 x6) &&& 63)) &&& 1))) ((x6 + 1)) s hf).trans hm
theorem mh_M_one_116 (N : Nat) (y : (Int64 × ms)) : ∀ (n : Nat) (x1 : Int32) (x2 : Int64) (x4 : Int64) (x6 : Int32) (s : ms), hd_M_one_116 N n x1 x2 x4 x6 s = some y → gl y.2 = gl s := by
  intro n
  induction n with
  | zero => intro x1 x2 x4 x6 s hf; cases hf
  | succ n ih => intro x1 x2 x4 x6 s hf; exact mb_M_one_116 N y (hd_M_one_116 N n) ih x1 x2 x4 x6 s hf
theorem mn_M_one (N : Nat) (v0 : Int32) (v1 : Int32) (v2 : Int64) (s : ms) (y : (Int64 × ms)) (hf : fn_M_one N v0 v1 v2 s = some y) : gl y.2 = gl s := by
  unfold fn_M_one at hf
  have hm : gl s = gl s := rfl
  by_cases h_0 : v0 = 33
  · have hf := (if_pos h_0).symm.trans hf
    by_cases h : (lg_cmp v2 0) = 0
    · have hf := (if_pos h).symm.trans hf
      rw [← Option.some.inj hf]
      exact hm
    · have hf := (if_neg h).symm.trans hf
      rw [← Option.some.inj hf]
      exact hm
  have hf := (if_neg h_0).symm.trans hf
  by_cases h_1 : v0 = 38
  · have hf := (if_pos h_1).symm.trans hf
    obtain ⟨q_1, hc_2, hf⟩ := dc_b hf
    have hm := (mn_M_mask N v1 s q_1 hc_2).trans hm
    by_cases h : (lg_cmp v2 q_1.1) = 0
    · have hf := (if_pos h).symm.trans hf
      rw [← Option.some.inj hf]
      exact hm
    · have hf := (if_neg h).symm.trans hf
      rw [← Option.some.inj hf]
      exact hm
  have hf := (if_neg h_1).symm.trans hf
  by_cases h_2 : v0 = 45
  · have hf := (if_pos h_2).symm.trans hf
    obtain ⟨q_1, hc_2, hf⟩ := dc_b hf
    have hm := (mn_M_mask N v1 s q_1 hc_2).trans hm
    rw [← Option.some.inj hf]
    exact hm
  have hf := (if_neg h_2).symm.trans hf
  by_cases h_3 : v0 = 124
  · have hf := (if_pos h_3).symm.trans hf
    by_cases h : (lg_cmp v2 0) = 0
    · have hf := (if_pos h).symm.trans hf
      rw [← Option.some.inj hf]
      exact hm
    · have hf := (if_neg h).symm.trans hf
      rw [← Option.some.inj hf]
      exact hm
  have hf := (if_neg h_3).symm.trans hf
  by_cases h_4 : v0 = 126
  · have hf := (if_pos h_4).symm.trans hf
    obtain ⟨q_1, hc_2, hf⟩ := dc_b hf
    have hm := (mn_M_mask N v1 s q_1 hc_2).trans hm
    rw [← Option.some.inj hf]
    exact hm
  have hf := (if_neg h_4).symm.trans hf
  exact (mh_M_one_116 N y N v1 v2 0 0 s hf).trans hm
set_option maxHeartbeats 8000000 in
set_option maxRecDepth 100000 in
theorem ct_M_one (l : Launch) (dC : Nat → ClassId) (dI : Nat → Nat → Nat) (cI cB cJ cZ cQ : ClassId) (N sz : Nat) (h0 : Nat) (a : Nat → Nat) (v0 : Int32) (v1 : Int32) (v2 : Int64) (s : ms) (y : (Int64 × ms)) (hf : fn_M_one N v0 v1 v2 s = some y) : Met l yn_M_one (xw yn_M_one bn_M_one 7 (some .long)) ({ frames := 1, cells := 0, slots := 0, locals := 20 }) (dc_P (dC, dI) xcl (xt cI cB cJ cZ cQ) [.int v0, .int v1, .long v2] sz (wM h0 a cI cB cJ cZ s)) (xk_Ql (dC, dI) xcl (xt cI cB cJ cZ cQ) (fun (r : Int64) (_ : Unit) => r = y.1) (fun u : Unit => (wM h0 a cI cB cJ cZ y.2)) (va_A (wM h0 a cI cB cJ cZ s) sz)) 0 0 (va_A (wM h0 a cI cB cJ cZ s) sz) := by
  refine dc_of (QA := xk_Ql (dC, dI) xcl (xt cI cB cJ cZ cQ) (fun (r : Int64) (_ : Unit) => r = y.1) (fun u : Unit => (wM h0 a cI cB cJ cZ y.2))) (by decide) (Nat.le_of_ble_eq_true rfl) ?_
  intro p e s0 m below meth c hx hb hml hown hg hr hlocks hin hP hK hN A hA hD hT ls hl
  have hown : s0.vm.findClass rn_M = some m.cls := hown
  obtain ⟨H, hH⟩ : ∃ z, z = s0.heap := ⟨_, rfl⟩
  rw [← hH] at hP
  have hS : va_S A s0.heap H [] := by rw [hH]; exact va_S.rf
  suffices kk : ∀ QQ : State → Prop, QQ = MQ below (xk_Ql (dC, dI) xcl (xt cI cB cJ cZ cQ) (fun (r : Int64) (_ : Unit) => r = y.1) (fun u : Unit => (wM h0 a cI cB cJ cZ y.2)) A) [.int v0, .int v1, .long v2].toArray s0 0 0 A → dcC p l e ({ frames := 1, cells := 0, slots := 0, locals := 20 }) s0 m [.int v0, .int v1, .long v2].toArray below meth c QQ (dC, dI) A (wM h0 a cI cB cJ cZ s) 0 7 [(0, .int v0), (1, .int v1), (2, .long v2)] [] by
    have k9 := kk _ rfl H [] ls hP hD hS hl
    rw [hH] at k9; exact k9
  clear hP hD hS hl hH H ls
  intro QQ hQQ
  have hd_116 : ∀ (n : Nat) (x1 : Int32) (x2 : Int64) (x4 : Int64) (x6 : Int32) (s : ms), hd_M_one_116 N n x1 x2 x4 x6 s = some y → dcC p l e ({ frames := 1, cells := 0, slots := 0, locals := 20 }) s0 m [.int v0, .int v1, .long v2].toArray below meth c QQ (dC, dI) A (wM h0 a cI cB cJ cZ s) 116 7 [(1, .int x1), (2, .long x2), (4, .long x4), (6, .int x6)] [] := by
    intro n
    induction n with
    | zero => intro x1 x2 x4 x6 s hf; cases hf
    | succ n ih =>
      intro x1 x2 x4 x6 s hf H locs ls hP hD hS hl
      have hf : bd_M_one_116 N (hd_M_one_116 N n) x1 x2 x4 x6 s = some y := hf
      have hk_116 := ih
      generalize hd_M_one_116 N n = k_116 at hf hk_116
      unfold bd_M_one_116 at hf
      refine lv_iload hx hb dn_M_one_116 (lv_at hl 3 rfl) ?_
      refine lv_iload_n hx hb dn_M_one_118 rfl (lv_at hl 0 rfl) ?_
      refine lv_icmp_ge (tgt := 139) hx hb dn_M_one_119 (by decide) (fun h => ?_) (fun h => ?_)
      · have hf := (if_pos h).symm.trans hf
        refine lv_lload hx hb dn_M_one_139 (lv_at hl 2 rfl) ?_
        rw [hQQ, ← Option.some.inj hf]
        exact xk_lret (w1 := fun u : Unit => (wM h0 a cI cB cJ cZ s)) () hx hb hr hlocks hK hS dn_M_one_141 hP hD rfl (Nat.le_refl _) (Nat.le_refl _)
      · have hf := (if_neg h).symm.trans hf
        refine lv_lload hx hb dn_M_one_122 (lv_at hl 2 rfl) ?_
        refine lv_lload_n hx hb dn_M_one_124 rfl (lv_at hl 1 rfl) ?_
        refine lv_iload hx hb dn_M_one_125 (lv_at hl 3 rfl) ?_
        refine lv_lshr (v := (x2 : Int64) >>> ((Int32.toInt64 x6) &&& 63)) hx hb dn_M_one_127 rfl ?_
        refine lv_lconst (v := 1) hx hb dn_M_one_128 (by decide) ?_
        refine lv_land hx hb dn_M_one_129 ?_
        refine lv_lxor hx hb dn_M_one_130 ?_
        refine lv_lstore (lv' := [(4, .long ((x4 ^^^ (((x2 : Int64) >>> ((Int32.toInt64 x6) &&& 63)) &&& 1)))), (1, .int x1), (2, .long x2), (6, .int x6)]) hx hb dn_M_one_131 hl (by decide) rfl (fun ls hl => ?_)
        refine lv_iinc (v := (x6 + 1)) (lv' := [(6, .int ((x6 + 1))), (4, .long ((x4 ^^^ (((x2 : Int64) >>> ((Int32.toInt64 x6) &&& 63)) &&& 1)))), (1, .int x1), (2, .long x2)]) hx hb dn_M_one_133 hl (k := 3) rfl (dc_inc (by decide)) (by decide) rfl (fun ls hl => ?_)
        refine lv_goto (tgt := 116) hx hb dn_M_one_136 (by decide) ?_
        exact hk_116 x1 x2 ((x4 ^^^ (((x2 : Int64) >>> ((Int32.toInt64 x6) &&& 63)) &&& 1))) ((x6 + 1)) s hf H locs ls hP hD hS (lv_sub hl [2, 3, 1, 0] rfl)
  intro H locs ls hP hD hS hl
  unfold fn_M_one at hf
  refine lv_iload_n hx hb dn_M_one_0 rfl (lv_at hl 0 rfl) ?_
  by_cases h_0 : v0 = 33
  · have hf := (if_pos h_0).symm.trans hf
    refine xk_ti (y := 33) h_0 ?_
    refine lv_lookup (off := 70) (tgt := 71) hx hb dn_M_one_1 (by decide) (by decide) (by decide) ?_
    refine lv_lload_n hx hb dn_M_one_71 rfl (lv_at hl 2 rfl) ?_
    refine lv_lconst (v := 0) hx hb dn_M_one_72 (by decide) ?_
    refine W.lcmp hx hb dn_M_one_73 ?_
    refine lv_if_ne (tgt := 81) hx hb dn_M_one_74 (by decide) (fun h => ?_) (fun h => ?_)
    · have hf := (if_neg h).symm.trans hf
      refine lv_lconst (v := 0) hx hb dn_M_one_81 (by decide) ?_
      rw [hQQ, ← Option.some.inj hf]
      exact xk_lret (w1 := fun u : Unit => (wM h0 a cI cB cJ cZ s)) () hx hb hr hlocks hK hS dn_M_one_82 hP hD rfl (Nat.le_refl _) (Nat.le_refl _)
    · have hf := (if_pos h).symm.trans hf
      refine lv_lconst (v := 1) hx hb dn_M_one_77 (by decide) ?_
      refine lv_goto (tgt := 82) hx hb dn_M_one_78 (by decide) ?_
      rw [hQQ, ← Option.some.inj hf]
      exact xk_lret (w1 := fun u : Unit => (wM h0 a cI cB cJ cZ s)) () hx hb hr hlocks hK hS dn_M_one_82 hP hD rfl (Nat.le_refl _) (Nat.le_refl _)
  have hf := (if_neg h_0).symm.trans hf
  by_cases h_1 : v0 = 38
  · have hf := (if_pos h_1).symm.trans hf
    refine xk_ti (y := 38) h_1 ?_
    refine lv_lookup (off := 82) (tgt := 83) hx hb dn_M_one_1 (by decide) (by decide) (by decide) ?_
    refine lv_lload_n hx hb dn_M_one_83 rfl (lv_at hl 2 rfl) ?_
    refine lv_iload_n hx hb dn_M_one_84 rfl (lv_at hl 1 rfl) ?_
    obtain ⟨q_1, hc_2, hf⟩ := dc_b hf
    refine dc_calll (dc_runS (ar := 1) (As := [.int v1]) (rest := [.long v2]) ⟨hx, hb, hml, hown, hg⟩ hK hN hT hS hA (ct_M_mask l dC dI cI cB cJ cZ cQ N H.size h0 a v1 s q_1 hc_2) hP hD wn_10_220 wn_10_221 wn_1_13 wn_10_222 rfl rfl (by decide +kernel) ⟨Nat.le_of_ble_eq_true rfl, Nat.le_of_ble_eq_true rfl⟩ rfl hl.1 rfl (Nat.le_of_ble_eq_true rfl) dn_M_one_85 ⟨Nat.le_of_ble_eq_true rfl, Nat.le_of_ble_eq_true rfl⟩) hP hD hS hA (fun r_3 _ H locs hw hP hD hS => ?_)
    have hw : r_3 = q_1.1 := hw
    subst hw
    refine W.lcmp hx hb dn_M_one_88 ?_
    refine lv_if_ne (tgt := 96) hx hb dn_M_one_89 (by decide) (fun h => ?_) (fun h => ?_)
    · have hf := (if_neg h).symm.trans hf
      refine lv_lconst (v := 0) hx hb dn_M_one_96 (by decide) ?_
      rw [hQQ, ← Option.some.inj hf]
      exact xk_lret (w1 := fun u : Unit => (wM h0 a cI cB cJ cZ q_1.2)) () hx hb hr hlocks hK hS dn_M_one_97 hP hD rfl (Nat.le_refl _) (Nat.le_refl _)
    · have hf := (if_pos h).symm.trans hf
      refine lv_lconst (v := 1) hx hb dn_M_one_92 (by decide) ?_
      refine lv_goto (tgt := 97) hx hb dn_M_one_93 (by decide) ?_
      rw [hQQ, ← Option.some.inj hf]
      exact xk_lret (w1 := fun u : Unit => (wM h0 a cI cB cJ cZ q_1.2)) () hx hb hr hlocks hK hS dn_M_one_97 hP hD rfl (Nat.le_refl _) (Nat.le_refl _)
  have hf := (if_neg h_1).symm.trans hf
  by_cases h_2 : v0 = 45
  · have hf := (if_pos h_2).symm.trans hf
    refine xk_ti (y := 45) h_2 ?_
    refine lv_lookup (off := 62) (tgt := 63) hx hb dn_M_one_1 (by decide) (by decide) (by decide) ?_
    refine lv_lload_n hx hb dn_M_one_63 rfl (lv_at hl 2 rfl) ?_
    refine lv_lneg hx hb dn_M_one_64 ?_
    refine lv_iload_n hx hb dn_M_one_65 rfl (lv_at hl 1 rfl) ?_
    obtain ⟨q_1, hc_2, hf⟩ := dc_b hf
    refine dc_calll (dc_runS (ar := 1) (As := [.int v1]) (rest := [.long ((-v2))]) ⟨hx, hb, hml, hown, hg⟩ hK hN hT hS hA (ct_M_mask l dC dI cI cB cJ cZ cQ N H.size h0 a v1 s q_1 hc_2) hP hD wn_10_220 wn_10_221 wn_1_13 wn_10_222 rfl rfl (by decide +kernel) ⟨Nat.le_of_ble_eq_true rfl, Nat.le_of_ble_eq_true rfl⟩ rfl hl.1 rfl (Nat.le_of_ble_eq_true rfl) dn_M_one_66 ⟨Nat.le_of_ble_eq_true rfl, Nat.le_of_ble_eq_true rfl⟩) hP hD hS hA (fun r_3 _ H locs hw hP hD hS => ?_)
    have hw : r_3 = q_1.1 := hw
    subst hw
    refine lv_land hx hb dn_M_one_69 ?_
    rw [hQQ, ← Option.some.inj hf]
    exact xk_lret (w1 := fun u : Unit => (wM h0 a cI cB cJ cZ q_1.2)) () hx hb hr hlocks hK hS dn_M_one_70 hP hD rfl (Nat.le_refl _) (Nat.le_refl _)
  have hf := (if_neg h_2).symm.trans hf
  by_cases h_3 : v0 = 124
  · have hf := (if_pos h_3).symm.trans hf
    refine xk_ti (y := 124) h_3 ?_
    refine lv_lookup (off := 97) (tgt := 98) hx hb dn_M_one_1 (by decide) (by decide) (by decide) ?_
    refine lv_lload_n hx hb dn_M_one_98 rfl (lv_at hl 2 rfl) ?_
    refine lv_lconst (v := 0) hx hb dn_M_one_99 (by decide) ?_
    refine W.lcmp hx hb dn_M_one_100 ?_
    refine lv_if_ne (tgt := 108) hx hb dn_M_one_101 (by decide) (fun h => ?_) (fun h => ?_)
    · have hf := (if_neg h).symm.trans hf
      refine lv_lconst (v := 1) hx hb dn_M_one_108 (by decide) ?_
      rw [hQQ, ← Option.some.inj hf]
      exact xk_lret (w1 := fun u : Unit => (wM h0 a cI cB cJ cZ s)) () hx hb hr hlocks hK hS dn_M_one_109 hP hD rfl (Nat.le_refl _) (Nat.le_refl _)
    · have hf := (if_pos h).symm.trans hf
      refine lv_lconst (v := 0) hx hb dn_M_one_104 (by decide) ?_
      refine lv_goto (tgt := 109) hx hb dn_M_one_105 (by decide) ?_
      rw [hQQ, ← Option.some.inj hf]
      exact xk_lret (w1 := fun u : Unit => (wM h0 a cI cB cJ cZ s)) () hx hb hr hlocks hK hS dn_M_one_109 hP hD rfl (Nat.le_refl _) (Nat.le_refl _)
  have hf := (if_neg h_3).symm.trans hf
  by_cases h_4 : v0 = 126
  · have hf := (if_pos h_4).symm.trans hf
    refine xk_ti (y := 126) h_4 ?_
    refine lv_lookup (off := 51) (tgt := 52) hx hb dn_M_one_1 (by decide) (by decide) (by decide) ?_
    refine lv_lload_n hx hb dn_M_one_52 rfl (lv_at hl 2 rfl) ?_
    refine lv_ldc2 hx hb hown (hg _ wn_10_223) dn_M_one_53 ?_
    refine lv_lxor hx hb dn_M_one_56 ?_
    refine lv_iload_n hx hb dn_M_one_57 rfl (lv_at hl 1 rfl) ?_
    obtain ⟨q_1, hc_2, hf⟩ := dc_b hf
    refine dc_calll (dc_runS (ar := 1) (As := [.int v1]) (rest := [.long ((v2 ^^^ (-1)))]) ⟨hx, hb, hml, hown, hg⟩ hK hN hT hS hA (ct_M_mask l dC dI cI cB cJ cZ cQ N H.size h0 a v1 s q_1 hc_2) hP hD wn_10_220 wn_10_221 wn_1_13 wn_10_222 rfl rfl (by decide +kernel) ⟨Nat.le_of_ble_eq_true rfl, Nat.le_of_ble_eq_true rfl⟩ rfl hl.1 rfl (Nat.le_of_ble_eq_true rfl) dn_M_one_58 ⟨Nat.le_of_ble_eq_true rfl, Nat.le_of_ble_eq_true rfl⟩) hP hD hS hA (fun r_3 _ H locs hw hP hD hS => ?_)
    have hw : r_3 = q_1.1 := hw
    subst hw
    refine lv_land hx hb dn_M_one_61 ?_
    rw [hQQ, ← Option.some.inj hf]
    exact xk_lret (w1 := fun u : Unit => (wM h0 a cI cB cJ cZ q_1.2)) () hx hb hr hlocks hK hS dn_M_one_62 hP hD rfl (Nat.le_refl _) (Nat.le_refl _)
  have hf := (if_neg h_4).symm.trans hf
  refine lv_lookup (off := 109) (tgt := 110) hx hb dn_M_one_1 (by decide) (by rw [lv_osw h_0 (by decide)]; rw [lv_osw h_1 (by decide)]; rw [lv_osw h_2 (by decide)]; rw [lv_osw h_3 (by decide)]; rw [lv_osw h_4 (by decide)]; rfl) (by decide) ?_
  refine lv_lconst (v := 0) hx hb dn_M_one_110 (by decide) ?_
  refine lv_lstore (lv' := [(4, .long 0), (0, .int v0), (1, .int v1), (2, .long v2)]) hx hb dn_M_one_111 hl (by decide) rfl (fun ls hl => ?_)
  refine lv_iconst (v := 0) hx hb dn_M_one_113 (by decide) ?_
  refine lv_istore (lv' := [(6, .int 0), (4, .long 0), (0, .int v0), (1, .int v1), (2, .long v2)]) hx hb dn_M_one_114 hl (by decide) rfl (fun ls hl => ?_)
  exact hd_116 N v1 v2 0 0 s hf H locs ls hP hD hS (lv_sub hl [3, 4, 1, 0] rfl)
def fn_M_below (N : Nat) (v0 : Int64) (v2 : Int64) (s : ms) : Option (Int32 × ms) :=
  if 0 ≤ (lg_cmp ((v0 ^^^ (-9223372036854775808))) ((v2 ^^^ (-9223372036854775808)))) then (some (0, s)) else (some (1, s))
theorem mn_M_below (N : Nat) (v0 : Int64) (v2 : Int64) (s : ms) (y : (Int32 × ms)) (hf : fn_M_below N v0 v2 s = some y) : gl y.2 = gl s := by
  unfold fn_M_below at hf
  have hm : gl s = gl s := rfl
  by_cases h : 0 ≤ (lg_cmp ((v0 ^^^ (-9223372036854775808))) ((v2 ^^^ (-9223372036854775808))))
  · have hf := (if_pos h).symm.trans hf
    rw [← Option.some.inj hf]
    exact hm
  · have hf := (if_neg h).symm.trans hf
    rw [← Option.some.inj hf]
    exact hm
set_option maxHeartbeats 8000000 in
set_option maxRecDepth 100000 in
theorem ct_M_below (l : Launch) (dC : Nat → ClassId) (dI : Nat → Nat → Nat) (cI cB cJ cZ cQ : ClassId) (N sz : Nat) (h0 : Nat) (a : Nat → Nat) (v0 : Int64) (v2 : Int64) (s : ms) (y : (Int32 × ms)) (hf : fn_M_below N v0 v2 s = some y) : Met l yn_M_below (xw yn_M_below bn_M_below 4 (some .boolean)) ({ frames := 0, cells := 0, slots := 0, locals := 0 }) (dc_P (dC, dI) xcl (xt cI cB cJ cZ cQ) [.long v0, .long v2] sz (wM h0 a cI cB cJ cZ s)) (xk_Qi (dC, dI) xcl (xt cI cB cJ cZ cQ) (fun (r : Int32) (_ : Unit) => r = y.1) (fun u : Unit => (wM h0 a cI cB cJ cZ y.2)) (va_A (wM h0 a cI cB cJ cZ s) sz)) 0 0 (va_A (wM h0 a cI cB cJ cZ s) sz) := by
  refine dc_of (QA := xk_Qi (dC, dI) xcl (xt cI cB cJ cZ cQ) (fun (r : Int32) (_ : Unit) => r = y.1) (fun u : Unit => (wM h0 a cI cB cJ cZ y.2))) (by decide) (Nat.le_of_ble_eq_true rfl) ?_
  intro p e s0 m below meth c hx hb hml hown hg hr hlocks hin hP hK hN A hA hD hT ls hl
  have hown : s0.vm.findClass rn_M = some m.cls := hown
  obtain ⟨H, hH⟩ : ∃ z, z = s0.heap := ⟨_, rfl⟩
  rw [← hH] at hP
  have hS : va_S A s0.heap H [] := by rw [hH]; exact va_S.rf
  suffices kk : ∀ QQ : State → Prop, QQ = MQ below (xk_Qi (dC, dI) xcl (xt cI cB cJ cZ cQ) (fun (r : Int32) (_ : Unit) => r = y.1) (fun u : Unit => (wM h0 a cI cB cJ cZ y.2)) A) [.long v0, .long v2].toArray s0 0 0 A → dcC p l e ({ frames := 0, cells := 0, slots := 0, locals := 0 }) s0 m [.long v0, .long v2].toArray below meth c QQ (dC, dI) A (wM h0 a cI cB cJ cZ s) 0 4 [(0, .long v0), (2, .long v2)] [] by
    have k9 := kk _ rfl H [] ls hP hD hS hl
    rw [hH] at k9; exact k9
  clear hP hD hS hl hH H ls
  intro QQ hQQ
  intro H locs ls hP hD hS hl
  unfold fn_M_below at hf
  refine lv_lload_n hx hb dn_M_below_0 rfl (lv_at hl 0 rfl) ?_
  refine lv_ldc2 hx hb hown (hg _ wn_10_233) dn_M_below_1 ?_
  refine lv_lxor hx hb dn_M_below_4 ?_
  refine lv_lload_n hx hb dn_M_below_5 rfl (lv_at hl 1 rfl) ?_
  refine lv_ldc2 hx hb hown (hg _ wn_10_233) dn_M_below_6 ?_
  refine lv_lxor hx hb dn_M_below_9 ?_
  refine W.lcmp hx hb dn_M_below_10 ?_
  refine lv_if_ge (tgt := 18) hx hb dn_M_below_11 (by decide) (fun h => ?_) (fun h => ?_)
  · have hf := (if_pos h).symm.trans hf
    refine lv_iconst (v := 0) hx hb dn_M_below_18 (by decide) ?_
    rw [hQQ, ← Option.some.inj hf]
    exact xk_zret (w1 := fun u : Unit => (wM h0 a cI cB cJ cZ s)) () hx hb hr rfl hlocks hK hS dn_M_below_19 hP hD rfl (Nat.le_refl _) (Nat.le_refl _)
  · have hf := (if_neg h).symm.trans hf
    refine lv_iconst (v := 1) hx hb dn_M_below_14 (by decide) ?_
    refine lv_goto (tgt := 19) hx hb dn_M_below_15 (by decide) ?_
    rw [hQQ, ← Option.some.inj hf]
    exact xk_zret (w1 := fun u : Unit => (wM h0 a cI cB cJ cZ s)) () hx hb hr rfl hlocks hK hS dn_M_below_19 hP hD rfl (Nat.le_refl _) (Nat.le_refl _)
def fn_M_two (N : Nat) (v0 : Int32) (v1 : Int32) (v2 : Int64) (v4 : Int64) (s : ms) : Option (Int64 × ms) :=
  if v0 = 38 then (some ((v2 &&& v4), s)) else (if v0 = 43 then ((fn_M_mask N v1 s).bind (fun q_1 => some (((v2 + v4) &&& q_1.1), q_1.2))) else (if v0 = 45 then ((fn_M_mask N v1 s).bind (fun q_1 => some (((v2 - v4) &&& q_1.1), q_1.2))) else (if v0 = 60 then ((fn_M_below N v2 v4 s).bind (fun q_1 => if q_1.1 = 0 then (some (0, q_1.2)) else (some (1, q_1.2)))) else (if v0 = 62 then ((fn_M_below N v4 v2 s).bind (fun q_1 => if q_1.1 = 0 then (some (0, q_1.2)) else (some (1, q_1.2)))) else (if v0 = 94 then (some ((v2 ^^^ v4), s)) else (if v0 = 124 then (some ((v2 ||| v4), s)) else (if v0 = 256 then (if (lg_cmp v2 0) = 0 then (some (0, s)) else (if (lg_cmp v4 0) = 0 then (some (0, s)) else (some (1, s)))) else (if v0 = 257 then (if (lg_cmp v2 0) = 0 then (if (lg_cmp v4 0) = 0 then (some (0, s)) else (some (1, s))) else (some (1, s))) else (if v0 = 258 then (if (lg_cmp v2 v4) = 0 then (some (1, s)) else (some (0, s))) else (if v0 = 259 then (if (lg_cmp v2 v4) = 0 then (some (0, s)) else (some (1, s))) else (if v0 = 260 then ((fn_M_below N v4 v2 s).bind (fun q_1 => if q_1.1 = 0 then (some (1, q_1.2)) else (some (0, q_1.2)))) else (if v0 = 261 then ((fn_M_below N v2 v4 s).bind (fun q_1 => if q_1.1 = 0 then (some (1, q_1.2)) else (some (0, q_1.2)))) else (if v0 = 262 then (if (lg_cmp v4 0) < 0 then (some (0, s)) else (if (lg_cmp v4 63) ≤ 0 then ((fn_M_mask N v1 s).bind (fun q_1 => some ((((v2 : Int64) <<< ((Int32.toInt64 ((Int64.toInt32 v4))) &&& 63)) &&& q_1.1), q_1.2))) else (some (0, s)))) else (if v0 = 263 then (if (lg_cmp v4 0) < 0 then (some (0, s)) else (if (lg_cmp v4 63) ≤ 0 then (some (((Int64.toUInt64 v2 >>> (Int64.toUInt64 (Int32.toInt64 ((Int64.toInt32 v4))) &&& Int64.toUInt64 63)).toInt64), s)) else (some (0, s)))) else ((fn_M_mask N v1 s).bind (fun q_1 => some (((v2 * v4) &&& q_1.1), q_1.2)))))))))))))))))
theorem mn_M_two (N : Nat) (v0 : Int32) (v1 : Int32) (v2 : Int64) (v4 : Int64) (s : ms) (y : (Int64 × ms)) (hf : fn_M_two N v0 v1 v2 v4 s = some y) : gl y.2 = gl s := by
  unfold fn_M_two at hf
  have hm : gl s = gl s := rfl
  by_cases h_0 : v0 = 38
  · have hf := (if_pos h_0).symm.trans hf
    rw [← Option.some.inj hf]
    exact hm
  have hf := (if_neg h_0).symm.trans hf
  by_cases h_1 : v0 = 43
  · have hf := (if_pos h_1).symm.trans hf
    obtain ⟨q_1, hc_2, hf⟩ := dc_b hf
    have hm := (mn_M_mask N v1 s q_1 hc_2).trans hm
    rw [← Option.some.inj hf]
    exact hm
  have hf := (if_neg h_1).symm.trans hf
  by_cases h_2 : v0 = 45
  · have hf := (if_pos h_2).symm.trans hf
    obtain ⟨q_1, hc_2, hf⟩ := dc_b hf
    have hm := (mn_M_mask N v1 s q_1 hc_2).trans hm
    rw [← Option.some.inj hf]
    exact hm
  have hf := (if_neg h_2).symm.trans hf
  by_cases h_3 : v0 = 60
  · have hf := (if_pos h_3).symm.trans hf
    obtain ⟨q_1, hc_2, hf⟩ := dc_b hf
    have hm := (mn_M_below N v2 v4 s q_1 hc_2).trans hm
    by_cases h : q_1.1 = 0
    · have hf := (if_pos h).symm.trans hf
      rw [← Option.some.inj hf]
      exact hm
    · have hf := (if_neg h).symm.trans hf
      rw [← Option.some.inj hf]
      exact hm
  have hf := (if_neg h_3).symm.trans hf
  by_cases h_4 : v0 = 62
  · have hf := (if_pos h_4).symm.trans hf
    obtain ⟨q_1, hc_2, hf⟩ := dc_b hf
    have hm := (mn_M_below N v4 v2 s q_1 hc_2).trans hm
    by_cases h : q_1.1 = 0
    · have hf := (if_pos h).symm.trans hf
      rw [← Option.some.inj hf]
      exact hm
    · have hf := (if_neg h).symm.trans hf
      rw [← Option.some.inj hf]
      exact hm
  have hf := (if_neg h_4).symm.trans hf
  by_cases h_5 : v0 = 94
  · have hf := (if_pos h_5).symm.trans hf
    rw [← Option.some.inj hf]
    exact hm
  have hf := (if_neg h_5).symm.trans hf
  by_cases h_6 : v0 = 124
  · have hf := (if_pos h_6).symm.trans hf
    rw [← Option.some.inj hf]
    exact hm
  have hf := (if_neg h_6).symm.trans hf
  by_cases h_7 : v0 = 256
  · have hf := (if_pos h_7).symm.trans hf
    by_cases h : (lg_cmp v2 0) = 0
    · have hf := (if_pos h).symm.trans hf
      rw [← Option.some.inj hf]
      exact hm
    · have hf := (if_neg h).symm.trans hf
      by_cases h : (lg_cmp v4 0) = 0
      · have hf := (if_pos h).symm.trans hf
        rw [← Option.some.inj hf]
        exact hm
      · have hf := (if_neg h).symm.trans hf
        rw [← Option.some.inj hf]
        exact hm
  have hf := (if_neg h_7).symm.trans hf
  by_cases h_8 : v0 = 257
  · have hf := (if_pos h_8).symm.trans hf
    by_cases h : (lg_cmp v2 0) = 0
    · have hf := (if_pos h).symm.trans hf
      by_cases h : (lg_cmp v4 0) = 0
      · have hf := (if_pos h).symm.trans hf
        rw [← Option.some.inj hf]
        exact hm
      · have hf := (if_neg h).symm.trans hf
        rw [← Option.some.inj hf]
        exact hm
    · have hf := (if_neg h).symm.trans hf
      rw [← Option.some.inj hf]
      exact hm
  have hf := (if_neg h_8).symm.trans hf
  by_cases h_9 : v0 = 258
  · have hf := (if_pos h_9).symm.trans hf
    by_cases h : (lg_cmp v2 v4) = 0
    · have hf := (if_pos h).symm.trans hf
      rw [← Option.some.inj hf]
      exact hm
    · have hf := (if_neg h).symm.trans hf
      rw [← Option.some.inj hf]
      exact hm
  have hf := (if_neg h_9).symm.trans hf
  by_cases h_10 : v0 = 259
  · have hf := (if_pos h_10).symm.trans hf
    by_cases h : (lg_cmp v2 v4) = 0
    · have hf := (if_pos h).symm.trans hf
      rw [← Option.some.inj hf]
      exact hm
    · have hf := (if_neg h).symm.trans hf
      rw [← Option.some.inj hf]
      exact hm
  have hf := (if_neg h_10).symm.trans hf
  by_cases h_11 : v0 = 260
  · have hf := (if_pos h_11).symm.trans hf
    obtain ⟨q_1, hc_2, hf⟩ := dc_b hf
    have hm := (mn_M_below N v4 v2 s q_1 hc_2).trans hm
    by_cases h : q_1.1 = 0
    · have hf := (if_pos h).symm.trans hf
      rw [← Option.some.inj hf]
      exact hm
    · have hf := (if_neg h).symm.trans hf
      rw [← Option.some.inj hf]
      exact hm
  have hf := (if_neg h_11).symm.trans hf
  by_cases h_12 : v0 = 261
  · have hf := (if_pos h_12).symm.trans hf
    obtain ⟨q_1, hc_2, hf⟩ := dc_b hf
    have hm := (mn_M_below N v2 v4 s q_1 hc_2).trans hm
    by_cases h : q_1.1 = 0
    · have hf := (if_pos h).symm.trans hf
      rw [← Option.some.inj hf]
      exact hm
    · have hf := (if_neg h).symm.trans hf
      rw [← Option.some.inj hf]
      exact hm
  have hf := (if_neg h_12).symm.trans hf
  by_cases h_13 : v0 = 262
  · have hf := (if_pos h_13).symm.trans hf
    by_cases h : (lg_cmp v4 0) < 0
    · have hf := (if_pos h).symm.trans hf
      rw [← Option.some.inj hf]
      exact hm
    · have hf := (if_neg h).symm.trans hf
      by_cases h : (lg_cmp v4 63) ≤ 0
      · have hf := (if_pos h).symm.trans hf
        obtain ⟨q_1, hc_2, hf⟩ := dc_b hf
        have hm := (mn_M_mask N v1 s q_1 hc_2).trans hm
        rw [← Option.some.inj hf]
        exact hm
      · have hf := (if_neg h).symm.trans hf
        rw [← Option.some.inj hf]
        exact hm
  have hf := (if_neg h_13).symm.trans hf
  by_cases h_14 : v0 = 263
  · have hf := (if_pos h_14).symm.trans hf
    by_cases h : (lg_cmp v4 0) < 0
    · have hf := (if_pos h).symm.trans hf
      rw [← Option.some.inj hf]
      exact hm
    · have hf := (if_neg h).symm.trans hf
      by_cases h : (lg_cmp v4 63) ≤ 0
      · have hf := (if_pos h).symm.trans hf
        rw [← Option.some.inj hf]
        exact hm
      · have hf := (if_neg h).symm.trans hf
        rw [← Option.some.inj hf]
        exact hm
  have hf := (if_neg h_14).symm.trans hf
  obtain ⟨q_1, hc_2, hf⟩ := dc_b hf
  have hm := (mn_M_mask N v1 s q_1 hc_2).trans hm
  rw [← Option.some.inj hf]
  exact hm
set_option maxHeartbeats 8000000 in
set_option maxRecDepth 100000 in
theorem ct_M_two (l : Launch) (dC : Nat → ClassId) (dI : Nat → Nat → Nat) (cI cB cJ cZ cQ : ClassId) (N sz : Nat) (h0 : Nat) (a : Nat → Nat) (v0 : Int32) (v1 : Int32) (v2 : Int64) (v4 : Int64) (s : ms) (y : (Int64 × ms)) (hf : fn_M_two N v0 v1 v2 v4 s = some y) : Met l yn_M_two (xw yn_M_two bn_M_two 6 (some .long)) ({ frames := 1, cells := 0, slots := 0, locals := 23 }) (dc_P (dC, dI) xcl (xt cI cB cJ cZ cQ) [.int v0, .int v1, .long v2, .long v4] sz (wM h0 a cI cB cJ cZ s)) (xk_Ql (dC, dI) xcl (xt cI cB cJ cZ cQ) (fun (r : Int64) (_ : Unit) => r = y.1) (fun u : Unit => (wM h0 a cI cB cJ cZ y.2)) (va_A (wM h0 a cI cB cJ cZ s) sz)) 0 0 (va_A (wM h0 a cI cB cJ cZ s) sz) := by
  refine dc_of (QA := xk_Ql (dC, dI) xcl (xt cI cB cJ cZ cQ) (fun (r : Int64) (_ : Unit) => r = y.1) (fun u : Unit => (wM h0 a cI cB cJ cZ y.2))) (by decide) (Nat.le_of_ble_eq_true rfl) ?_
  intro p e s0 m below meth c hx hb hml hown hg hr hlocks hin hP hK hN A hA hD hT ls hl
  have hown : s0.vm.findClass rn_M = some m.cls := hown
  obtain ⟨H, hH⟩ : ∃ z, z = s0.heap := ⟨_, rfl⟩
  rw [← hH] at hP
  have hS : va_S A s0.heap H [] := by rw [hH]; exact va_S.rf
  suffices kk : ∀ QQ : State → Prop, QQ = MQ below (xk_Ql (dC, dI) xcl (xt cI cB cJ cZ cQ) (fun (r : Int64) (_ : Unit) => r = y.1) (fun u : Unit => (wM h0 a cI cB cJ cZ y.2)) A) [.int v0, .int v1, .long v2, .long v4].toArray s0 0 0 A → dcC p l e ({ frames := 1, cells := 0, slots := 0, locals := 23 }) s0 m [.int v0, .int v1, .long v2, .long v4].toArray below meth c QQ (dC, dI) A (wM h0 a cI cB cJ cZ s) 0 6 [(0, .int v0), (1, .int v1), (2, .long v2), (4, .long v4)] [] by
    have k9 := kk _ rfl H [] ls hP hD hS hl
    rw [hH] at k9; exact k9
  clear hP hD hS hl hH H ls
  intro QQ hQQ
  intro H locs ls hP hD hS hl
  unfold fn_M_two at hf
  refine lv_iload_n hx hb dn_M_two_0 rfl (lv_at hl 0 rfl) ?_
  by_cases h_0 : v0 = 38
  · have hf := (if_pos h_0).symm.trans hf
    refine xk_ti (y := 38) h_0 ?_
    refine lv_lookup (off := 179) (tgt := 180) hx hb dn_M_two_1 (by decide) (by decide) (by decide) ?_
    refine lv_lload_n hx hb dn_M_two_180 rfl (lv_at hl 2 rfl) ?_
    refine lv_lload hx hb dn_M_two_181 (lv_at hl 3 rfl) ?_
    refine lv_land hx hb dn_M_two_183 ?_
    rw [hQQ, ← Option.some.inj hf]
    exact xk_lret (w1 := fun u : Unit => (wM h0 a cI cB cJ cZ s)) () hx hb hr hlocks hK hS dn_M_two_184 hP hD rfl (Nat.le_refl _) (Nat.le_refl _)
  have hf := (if_neg h_0).symm.trans hf
  by_cases h_1 : v0 = 43
  · have hf := (if_pos h_1).symm.trans hf
    refine xk_ti (y := 43) h_1 ?_
    refine lv_lookup (off := 327) (tgt := 328) hx hb dn_M_two_1 (by decide) (by decide) (by decide) ?_
    refine lv_lload_n hx hb dn_M_two_328 rfl (lv_at hl 2 rfl) ?_
    refine lv_lload hx hb dn_M_two_329 (lv_at hl 3 rfl) ?_
    refine lv_ladd hx hb dn_M_two_331 ?_
    refine lv_iload_n hx hb dn_M_two_332 rfl (lv_at hl 1 rfl) ?_
    obtain ⟨q_1, hc_2, hf⟩ := dc_b hf
    refine dc_calll (dc_runS (ar := 1) (As := [.int v1]) (rest := [.long ((v2 + v4))]) ⟨hx, hb, hml, hown, hg⟩ hK hN hT hS hA (ct_M_mask l dC dI cI cB cJ cZ cQ N H.size h0 a v1 s q_1 hc_2) hP hD wn_10_220 wn_10_221 wn_1_13 wn_10_222 rfl rfl (by decide +kernel) ⟨Nat.le_of_ble_eq_true rfl, Nat.le_of_ble_eq_true rfl⟩ rfl hl.1 rfl (Nat.le_of_ble_eq_true rfl) dn_M_two_333 ⟨Nat.le_of_ble_eq_true rfl, Nat.le_of_ble_eq_true rfl⟩) hP hD hS hA (fun r_3 _ H locs hw hP hD hS => ?_)
    have hw : r_3 = q_1.1 := hw
    subst hw
    refine lv_land hx hb dn_M_two_336 ?_
    rw [hQQ, ← Option.some.inj hf]
    exact xk_lret (w1 := fun u : Unit => (wM h0 a cI cB cJ cZ q_1.2)) () hx hb hr hlocks hK hS dn_M_two_337 hP hD rfl (Nat.le_refl _) (Nat.le_refl _)
  have hf := (if_neg h_1).symm.trans hf
  by_cases h_2 : v0 = 45
  · have hf := (if_pos h_2).symm.trans hf
    refine xk_ti (y := 45) h_2 ?_
    refine lv_lookup (off := 337) (tgt := 338) hx hb dn_M_two_1 (by decide) (by decide) (by decide) ?_
    refine lv_lload_n hx hb dn_M_two_338 rfl (lv_at hl 2 rfl) ?_
    refine lv_lload hx hb dn_M_two_339 (lv_at hl 3 rfl) ?_
    refine lv_lsub hx hb dn_M_two_341 ?_
    refine lv_iload_n hx hb dn_M_two_342 rfl (lv_at hl 1 rfl) ?_
    obtain ⟨q_1, hc_2, hf⟩ := dc_b hf
    refine dc_calll (dc_runS (ar := 1) (As := [.int v1]) (rest := [.long ((v2 - v4))]) ⟨hx, hb, hml, hown, hg⟩ hK hN hT hS hA (ct_M_mask l dC dI cI cB cJ cZ cQ N H.size h0 a v1 s q_1 hc_2) hP hD wn_10_220 wn_10_221 wn_1_13 wn_10_222 rfl rfl (by decide +kernel) ⟨Nat.le_of_ble_eq_true rfl, Nat.le_of_ble_eq_true rfl⟩ rfl hl.1 rfl (Nat.le_of_ble_eq_true rfl) dn_M_two_343 ⟨Nat.le_of_ble_eq_true rfl, Nat.le_of_ble_eq_true rfl⟩) hP hD hS hA (fun r_3 _ H locs hw hP hD hS => ?_)
    have hw : r_3 = q_1.1 := hw
    subst hw
    refine lv_land hx hb dn_M_two_346 ?_
    rw [hQQ, ← Option.some.inj hf]
    exact xk_lret (w1 := fun u : Unit => (wM h0 a cI cB cJ cZ q_1.2)) () hx hb hr hlocks hK hS dn_M_two_347 hP hD rfl (Nat.le_refl _) (Nat.le_refl _)
  have hf := (if_neg h_2).symm.trans hf
  by_cases h_3 : v0 = 60
  · have hf := (if_pos h_3).symm.trans hf
    refine xk_ti (y := 60) h_3 ?_
    refine lv_lookup (off := 210) (tgt := 211) hx hb dn_M_two_1 (by decide) (by decide) (by decide) ?_
    refine lv_lload_n hx hb dn_M_two_211 rfl (lv_at hl 2 rfl) ?_
    refine lv_lload hx hb dn_M_two_212 (lv_at hl 3 rfl) ?_
    obtain ⟨q_1, hc_2, hf⟩ := dc_b hf
    refine dc_calli (dc_runS (ar := 2) (As := [.long v2, .long v4]) (rest := []) ⟨hx, hb, hml, hown, hg⟩ hK hN hT hS hA (ct_M_below l dC dI cI cB cJ cZ cQ N H.size h0 a v2 v4 s q_1 hc_2) hP hD wn_10_230 wn_10_231 wn_1_13 wn_10_232 rfl rfl (by decide +kernel) ⟨Nat.le_of_ble_eq_true rfl, Nat.le_of_ble_eq_true rfl⟩ rfl hl.1 rfl (Nat.le_of_ble_eq_true rfl) dn_M_two_214 ⟨Nat.le_of_ble_eq_true rfl, Nat.le_of_ble_eq_true rfl⟩) hP hD hS hA (fun r_3 _ H locs hw hP hD hS => ?_)
    have hw : r_3 = q_1.1 := hw
    subst hw
    refine lv_if_eq (tgt := 224) hx hb dn_M_two_217 (by decide) (fun h => ?_) (fun h => ?_)
    · have hf := (if_pos h).symm.trans hf
      refine lv_lconst (v := 0) hx hb dn_M_two_224 (by decide) ?_
      rw [hQQ, ← Option.some.inj hf]
      exact xk_lret (w1 := fun u : Unit => (wM h0 a cI cB cJ cZ q_1.2)) () hx hb hr hlocks hK hS dn_M_two_225 hP hD rfl (Nat.le_refl _) (Nat.le_refl _)
    · have hf := (if_neg h).symm.trans hf
      refine lv_lconst (v := 1) hx hb dn_M_two_220 (by decide) ?_
      refine lv_goto (tgt := 225) hx hb dn_M_two_221 (by decide) ?_
      rw [hQQ, ← Option.some.inj hf]
      exact xk_lret (w1 := fun u : Unit => (wM h0 a cI cB cJ cZ q_1.2)) () hx hb hr hlocks hK hS dn_M_two_225 hP hD rfl (Nat.le_refl _) (Nat.le_refl _)
  have hf := (if_neg h_3).symm.trans hf
  by_cases h_4 : v0 = 62
  · have hf := (if_pos h_4).symm.trans hf
    refine xk_ti (y := 62) h_4 ?_
    refine lv_lookup (off := 240) (tgt := 241) hx hb dn_M_two_1 (by decide) (by decide) (by decide) ?_
    refine lv_lload hx hb dn_M_two_241 (lv_at hl 3 rfl) ?_
    refine lv_lload_n hx hb dn_M_two_243 rfl (lv_at hl 2 rfl) ?_
    obtain ⟨q_1, hc_2, hf⟩ := dc_b hf
    refine dc_calli (dc_runS (ar := 2) (As := [.long v4, .long v2]) (rest := []) ⟨hx, hb, hml, hown, hg⟩ hK hN hT hS hA (ct_M_below l dC dI cI cB cJ cZ cQ N H.size h0 a v4 v2 s q_1 hc_2) hP hD wn_10_230 wn_10_231 wn_1_13 wn_10_232 rfl rfl (by decide +kernel) ⟨Nat.le_of_ble_eq_true rfl, Nat.le_of_ble_eq_true rfl⟩ rfl hl.1 rfl (Nat.le_of_ble_eq_true rfl) dn_M_two_244 ⟨Nat.le_of_ble_eq_true rfl, Nat.le_of_ble_eq_true rfl⟩) hP hD hS hA (fun r_3 _ H locs hw hP hD hS => ?_)
    have hw : r_3 = q_1.1 := hw
    subst hw
    refine lv_if_eq (tgt := 254) hx hb dn_M_two_247 (by decide) (fun h => ?_) (fun h => ?_)
    · have hf := (if_pos h).symm.trans hf
      refine lv_lconst (v := 0) hx hb dn_M_two_254 (by decide) ?_
      rw [hQQ, ← Option.some.inj hf]
      exact xk_lret (w1 := fun u : Unit => (wM h0 a cI cB cJ cZ q_1.2)) () hx hb hr hlocks hK hS dn_M_two_255 hP hD rfl (Nat.le_refl _) (Nat.le_refl _)
    · have hf := (if_neg h).symm.trans hf
      refine lv_lconst (v := 1) hx hb dn_M_two_250 (by decide) ?_
      refine lv_goto (tgt := 255) hx hb dn_M_two_251 (by decide) ?_
      rw [hQQ, ← Option.some.inj hf]
      exact xk_lret (w1 := fun u : Unit => (wM h0 a cI cB cJ cZ q_1.2)) () hx hb hr hlocks hK hS dn_M_two_255 hP hD rfl (Nat.le_refl _) (Nat.le_refl _)
  have hf := (if_neg h_4).symm.trans hf
  by_cases h_5 : v0 = 94
  · have hf := (if_pos h_5).symm.trans hf
    refine xk_ti (y := 94) h_5 ?_
    refine lv_lookup (off := 174) (tgt := 175) hx hb dn_M_two_1 (by decide) (by decide) (by decide) ?_
    refine lv_lload_n hx hb dn_M_two_175 rfl (lv_at hl 2 rfl) ?_
    refine lv_lload hx hb dn_M_two_176 (lv_at hl 3 rfl) ?_
    refine lv_lxor hx hb dn_M_two_178 ?_
    rw [hQQ, ← Option.some.inj hf]
    exact xk_lret (w1 := fun u : Unit => (wM h0 a cI cB cJ cZ s)) () hx hb hr hlocks hK hS dn_M_two_179 hP hD rfl (Nat.le_refl _) (Nat.le_refl _)
  have hf := (if_neg h_5).symm.trans hf
  by_cases h_6 : v0 = 124
  · have hf := (if_pos h_6).symm.trans hf
    refine xk_ti (y := 124) h_6 ?_
    refine lv_lookup (off := 169) (tgt := 170) hx hb dn_M_two_1 (by decide) (by decide) (by decide) ?_
    refine lv_lload_n hx hb dn_M_two_170 rfl (lv_at hl 2 rfl) ?_
    refine lv_lload hx hb dn_M_two_171 (lv_at hl 3 rfl) ?_
    refine lv_lor hx hb dn_M_two_173 ?_
    rw [hQQ, ← Option.some.inj hf]
    exact xk_lret (w1 := fun u : Unit => (wM h0 a cI cB cJ cZ s)) () hx hb hr hlocks hK hS dn_M_two_174 hP hD rfl (Nat.le_refl _) (Nat.le_refl _)
  have hf := (if_neg h_6).symm.trans hf
  by_cases h_7 : v0 = 256
  · have hf := (if_pos h_7).symm.trans hf
    refine xk_ti (y := 256) h_7 ?_
    refine lv_lookup (off := 150) (tgt := 151) hx hb dn_M_two_1 (by decide) (by decide) (by decide) ?_
    refine lv_lload_n hx hb dn_M_two_151 rfl (lv_at hl 2 rfl) ?_
    refine lv_lconst (v := 0) hx hb dn_M_two_152 (by decide) ?_
    refine W.lcmp hx hb dn_M_two_153 ?_
    refine lv_if_eq (tgt := 168) hx hb dn_M_two_154 (by decide) (fun h => ?_) (fun h => ?_)
    · have hf := (if_pos h).symm.trans hf
      refine lv_lconst (v := 0) hx hb dn_M_two_168 (by decide) ?_
      rw [hQQ, ← Option.some.inj hf]
      exact xk_lret (w1 := fun u : Unit => (wM h0 a cI cB cJ cZ s)) () hx hb hr hlocks hK hS dn_M_two_169 hP hD rfl (Nat.le_refl _) (Nat.le_refl _)
    · have hf := (if_neg h).symm.trans hf
      refine lv_lload hx hb dn_M_two_157 (lv_at hl 3 rfl) ?_
      refine lv_lconst (v := 0) hx hb dn_M_two_159 (by decide) ?_
      refine W.lcmp hx hb dn_M_two_160 ?_
      refine lv_if_eq (tgt := 168) hx hb dn_M_two_161 (by decide) (fun h => ?_) (fun h => ?_)
      · have hf := (if_pos h).symm.trans hf
        refine lv_lconst (v := 0) hx hb dn_M_two_168 (by decide) ?_
        rw [hQQ, ← Option.some.inj hf]
        exact xk_lret (w1 := fun u : Unit => (wM h0 a cI cB cJ cZ s)) () hx hb hr hlocks hK hS dn_M_two_169 hP hD rfl (Nat.le_refl _) (Nat.le_refl _)
      · have hf := (if_neg h).symm.trans hf
        refine lv_lconst (v := 1) hx hb dn_M_two_164 (by decide) ?_
        refine lv_goto (tgt := 169) hx hb dn_M_two_165 (by decide) ?_
        rw [hQQ, ← Option.some.inj hf]
        exact xk_lret (w1 := fun u : Unit => (wM h0 a cI cB cJ cZ s)) () hx hb hr hlocks hK hS dn_M_two_169 hP hD rfl (Nat.le_refl _) (Nat.le_refl _)
  have hf := (if_neg h_7).symm.trans hf
  by_cases h_8 : v0 = 257
  · have hf := (if_pos h_8).symm.trans hf
    refine xk_ti (y := 257) h_8 ?_
    refine lv_lookup (off := 131) (tgt := 132) hx hb dn_M_two_1 (by decide) (by decide) (by decide) ?_
    refine lv_lload_n hx hb dn_M_two_132 rfl (lv_at hl 2 rfl) ?_
    refine lv_lconst (v := 0) hx hb dn_M_two_133 (by decide) ?_
    refine W.lcmp hx hb dn_M_two_134 ?_
    refine lv_if_ne (tgt := 145) hx hb dn_M_two_135 (by decide) (fun h => ?_) (fun h => ?_)
    · have hf := (if_neg h).symm.trans hf
      refine lv_lconst (v := 1) hx hb dn_M_two_145 (by decide) ?_
      refine lv_goto (tgt := 150) hx hb dn_M_two_146 (by decide) ?_
      rw [hQQ, ← Option.some.inj hf]
      exact xk_lret (w1 := fun u : Unit => (wM h0 a cI cB cJ cZ s)) () hx hb hr hlocks hK hS dn_M_two_150 hP hD rfl (Nat.le_refl _) (Nat.le_refl _)
    · have hf := (if_pos h).symm.trans hf
      refine lv_lload hx hb dn_M_two_138 (lv_at hl 3 rfl) ?_
      refine lv_lconst (v := 0) hx hb dn_M_two_140 (by decide) ?_
      refine W.lcmp hx hb dn_M_two_141 ?_
      refine lv_if_eq (tgt := 149) hx hb dn_M_two_142 (by decide) (fun h => ?_) (fun h => ?_)
      · have hf := (if_pos h).symm.trans hf
        refine lv_lconst (v := 0) hx hb dn_M_two_149 (by decide) ?_
        rw [hQQ, ← Option.some.inj hf]
        exact xk_lret (w1 := fun u : Unit => (wM h0 a cI cB cJ cZ s)) () hx hb hr hlocks hK hS dn_M_two_150 hP hD rfl (Nat.le_refl _) (Nat.le_refl _)
      · have hf := (if_neg h).symm.trans hf
        refine lv_lconst (v := 1) hx hb dn_M_two_145 (by decide) ?_
        refine lv_goto (tgt := 150) hx hb dn_M_two_146 (by decide) ?_
        rw [hQQ, ← Option.some.inj hf]
        exact xk_lret (w1 := fun u : Unit => (wM h0 a cI cB cJ cZ s)) () hx hb hr hlocks hK hS dn_M_two_150 hP hD rfl (Nat.le_refl _) (Nat.le_refl _)
  have hf := (if_neg h_8).symm.trans hf
  by_cases h_9 : v0 = 258
  · have hf := (if_pos h_9).symm.trans hf
    refine xk_ti (y := 258) h_9 ?_
    refine lv_lookup (off := 184) (tgt := 185) hx hb dn_M_two_1 (by decide) (by decide) (by decide) ?_
    refine lv_lload_n hx hb dn_M_two_185 rfl (lv_at hl 2 rfl) ?_
    refine lv_lload hx hb dn_M_two_186 (lv_at hl 3 rfl) ?_
    refine W.lcmp hx hb dn_M_two_188 ?_
    refine lv_if_ne (tgt := 196) hx hb dn_M_two_189 (by decide) (fun h => ?_) (fun h => ?_)
    · have hf := (if_neg h).symm.trans hf
      refine lv_lconst (v := 0) hx hb dn_M_two_196 (by decide) ?_
      rw [hQQ, ← Option.some.inj hf]
      exact xk_lret (w1 := fun u : Unit => (wM h0 a cI cB cJ cZ s)) () hx hb hr hlocks hK hS dn_M_two_197 hP hD rfl (Nat.le_refl _) (Nat.le_refl _)
    · have hf := (if_pos h).symm.trans hf
      refine lv_lconst (v := 1) hx hb dn_M_two_192 (by decide) ?_
      refine lv_goto (tgt := 197) hx hb dn_M_two_193 (by decide) ?_
      rw [hQQ, ← Option.some.inj hf]
      exact xk_lret (w1 := fun u : Unit => (wM h0 a cI cB cJ cZ s)) () hx hb hr hlocks hK hS dn_M_two_197 hP hD rfl (Nat.le_refl _) (Nat.le_refl _)
  have hf := (if_neg h_9).symm.trans hf
  by_cases h_10 : v0 = 259
  · have hf := (if_pos h_10).symm.trans hf
    refine xk_ti (y := 259) h_10 ?_
    refine lv_lookup (off := 197) (tgt := 198) hx hb dn_M_two_1 (by decide) (by decide) (by decide) ?_
    refine lv_lload_n hx hb dn_M_two_198 rfl (lv_at hl 2 rfl) ?_
    refine lv_lload hx hb dn_M_two_199 (lv_at hl 3 rfl) ?_
    refine W.lcmp hx hb dn_M_two_201 ?_
    refine lv_if_eq (tgt := 209) hx hb dn_M_two_202 (by decide) (fun h => ?_) (fun h => ?_)
    · have hf := (if_pos h).symm.trans hf
      refine lv_lconst (v := 0) hx hb dn_M_two_209 (by decide) ?_
      rw [hQQ, ← Option.some.inj hf]
      exact xk_lret (w1 := fun u : Unit => (wM h0 a cI cB cJ cZ s)) () hx hb hr hlocks hK hS dn_M_two_210 hP hD rfl (Nat.le_refl _) (Nat.le_refl _)
    · have hf := (if_neg h).symm.trans hf
      refine lv_lconst (v := 1) hx hb dn_M_two_205 (by decide) ?_
      refine lv_goto (tgt := 210) hx hb dn_M_two_206 (by decide) ?_
      rw [hQQ, ← Option.some.inj hf]
      exact xk_lret (w1 := fun u : Unit => (wM h0 a cI cB cJ cZ s)) () hx hb hr hlocks hK hS dn_M_two_210 hP hD rfl (Nat.le_refl _) (Nat.le_refl _)
  have hf := (if_neg h_10).symm.trans hf
  by_cases h_11 : v0 = 260
  · have hf := (if_pos h_11).symm.trans hf
    refine xk_ti (y := 260) h_11 ?_
    refine lv_lookup (off := 225) (tgt := 226) hx hb dn_M_two_1 (by decide) (by decide) (by decide) ?_
    refine lv_lload hx hb dn_M_two_226 (lv_at hl 3 rfl) ?_
    refine lv_lload_n hx hb dn_M_two_228 rfl (lv_at hl 2 rfl) ?_
    obtain ⟨q_1, hc_2, hf⟩ := dc_b hf
    refine dc_calli (dc_runS (ar := 2) (As := [.long v4, .long v2]) (rest := []) ⟨hx, hb, hml, hown, hg⟩ hK hN hT hS hA (ct_M_below l dC dI cI cB cJ cZ cQ N H.size h0 a v4 v2 s q_1 hc_2) hP hD wn_10_230 wn_10_231 wn_1_13 wn_10_232 rfl rfl (by decide +kernel) ⟨Nat.le_of_ble_eq_true rfl, Nat.le_of_ble_eq_true rfl⟩ rfl hl.1 rfl (Nat.le_of_ble_eq_true rfl) dn_M_two_229 ⟨Nat.le_of_ble_eq_true rfl, Nat.le_of_ble_eq_true rfl⟩) hP hD hS hA (fun r_3 _ H locs hw hP hD hS => ?_)
    have hw : r_3 = q_1.1 := hw
    subst hw
    refine lv_if_eq (tgt := 239) hx hb dn_M_two_232 (by decide) (fun h => ?_) (fun h => ?_)
    · have hf := (if_pos h).symm.trans hf
      refine lv_lconst (v := 1) hx hb dn_M_two_239 (by decide) ?_
      rw [hQQ, ← Option.some.inj hf]
      exact xk_lret (w1 := fun u : Unit => (wM h0 a cI cB cJ cZ q_1.2)) () hx hb hr hlocks hK hS dn_M_two_240 hP hD rfl (Nat.le_refl _) (Nat.le_refl _)
    · have hf := (if_neg h).symm.trans hf
      refine lv_lconst (v := 0) hx hb dn_M_two_235 (by decide) ?_
      refine lv_goto (tgt := 240) hx hb dn_M_two_236 (by decide) ?_
      rw [hQQ, ← Option.some.inj hf]
      exact xk_lret (w1 := fun u : Unit => (wM h0 a cI cB cJ cZ q_1.2)) () hx hb hr hlocks hK hS dn_M_two_240 hP hD rfl (Nat.le_refl _) (Nat.le_refl _)
  have hf := (if_neg h_11).symm.trans hf
  by_cases h_12 : v0 = 261
  · have hf := (if_pos h_12).symm.trans hf
    refine xk_ti (y := 261) h_12 ?_
    refine lv_lookup (off := 255) (tgt := 256) hx hb dn_M_two_1 (by decide) (by decide) (by decide) ?_
    refine lv_lload_n hx hb dn_M_two_256 rfl (lv_at hl 2 rfl) ?_
    refine lv_lload hx hb dn_M_two_257 (lv_at hl 3 rfl) ?_
    obtain ⟨q_1, hc_2, hf⟩ := dc_b hf
    refine dc_calli (dc_runS (ar := 2) (As := [.long v2, .long v4]) (rest := []) ⟨hx, hb, hml, hown, hg⟩ hK hN hT hS hA (ct_M_below l dC dI cI cB cJ cZ cQ N H.size h0 a v2 v4 s q_1 hc_2) hP hD wn_10_230 wn_10_231 wn_1_13 wn_10_232 rfl rfl (by decide +kernel) ⟨Nat.le_of_ble_eq_true rfl, Nat.le_of_ble_eq_true rfl⟩ rfl hl.1 rfl (Nat.le_of_ble_eq_true rfl) dn_M_two_259 ⟨Nat.le_of_ble_eq_true rfl, Nat.le_of_ble_eq_true rfl⟩) hP hD hS hA (fun r_3 _ H locs hw hP hD hS => ?_)
    have hw : r_3 = q_1.1 := hw
    subst hw
    refine lv_if_eq (tgt := 269) hx hb dn_M_two_262 (by decide) (fun h => ?_) (fun h => ?_)
    · have hf := (if_pos h).symm.trans hf
      refine lv_lconst (v := 1) hx hb dn_M_two_269 (by decide) ?_
      rw [hQQ, ← Option.some.inj hf]
      exact xk_lret (w1 := fun u : Unit => (wM h0 a cI cB cJ cZ q_1.2)) () hx hb hr hlocks hK hS dn_M_two_270 hP hD rfl (Nat.le_refl _) (Nat.le_refl _)
    · have hf := (if_neg h).symm.trans hf
      refine lv_lconst (v := 0) hx hb dn_M_two_265 (by decide) ?_
      refine lv_goto (tgt := 270) hx hb dn_M_two_266 (by decide) ?_
      rw [hQQ, ← Option.some.inj hf]
      exact xk_lret (w1 := fun u : Unit => (wM h0 a cI cB cJ cZ q_1.2)) () hx hb hr hlocks hK hS dn_M_two_270 hP hD rfl (Nat.le_refl _) (Nat.le_refl _)
  have hf := (if_neg h_12).symm.trans hf
  by_cases h_13 : v0 = 262
  · have hf := (if_pos h_13).symm.trans hf
    refine xk_ti (y := 262) h_13 ?_
    refine lv_lookup (off := 270) (tgt := 271) hx hb dn_M_two_1 (by decide) (by decide) (by decide) ?_
    refine lv_lload hx hb dn_M_two_271 (lv_at hl 3 rfl) ?_
    refine lv_lconst (v := 0) hx hb dn_M_two_273 (by decide) ?_
    refine W.lcmp hx hb dn_M_two_274 ?_
    refine lv_if_lt (tgt := 287) hx hb dn_M_two_275 (by decide) (fun h => ?_) (fun h => ?_)
    · have hf := (if_pos h).symm.trans hf
      refine lv_lconst (v := 0) hx hb dn_M_two_287 (by decide) ?_
      refine lv_goto (tgt := 301) hx hb dn_M_two_288 (by decide) ?_
      rw [hQQ, ← Option.some.inj hf]
      exact xk_lret (w1 := fun u : Unit => (wM h0 a cI cB cJ cZ s)) () hx hb hr hlocks hK hS dn_M_two_301 hP hD rfl (Nat.le_refl _) (Nat.le_refl _)
    · have hf := (if_neg h).symm.trans hf
      refine lv_lload hx hb dn_M_two_278 (lv_at hl 3 rfl) ?_
      refine lv_ldc2 hx hb hown (hg _ wn_10_39) dn_M_two_280 ?_
      refine W.lcmp hx hb dn_M_two_283 ?_
      refine lv_if_le (tgt := 291) hx hb dn_M_two_284 (by decide) (fun h => ?_) (fun h => ?_)
      · have hf := (if_pos h).symm.trans hf
        refine lv_lload_n hx hb dn_M_two_291 rfl (lv_at hl 2 rfl) ?_
        refine lv_lload hx hb dn_M_two_292 (lv_at hl 3 rfl) ?_
        refine lv_l2i (v := Int64.toInt32 v4) hx hb dn_M_two_294 rfl ?_
        refine lv_lshl (v := (v2 : Int64) <<< ((Int32.toInt64 ((Int64.toInt32 v4))) &&& 63)) hx hb dn_M_two_295 rfl ?_
        refine lv_iload_n hx hb dn_M_two_296 rfl (lv_at hl 1 rfl) ?_
        obtain ⟨q_1, hc_2, hf⟩ := dc_b hf
        refine dc_calll (dc_runS (ar := 1) (As := [.int v1]) (rest := [.long (((v2 : Int64) <<< ((Int32.toInt64 ((Int64.toInt32 v4))) &&& 63)))]) ⟨hx, hb, hml, hown, hg⟩ hK hN hT hS hA (ct_M_mask l dC dI cI cB cJ cZ cQ N H.size h0 a v1 s q_1 hc_2) hP hD wn_10_220 wn_10_221 wn_1_13 wn_10_222 rfl rfl (by decide +kernel) ⟨Nat.le_of_ble_eq_true rfl, Nat.le_of_ble_eq_true rfl⟩ rfl hl.1 rfl (Nat.le_of_ble_eq_true rfl) dn_M_two_297 ⟨Nat.le_of_ble_eq_true rfl, Nat.le_of_ble_eq_true rfl⟩) hP hD hS hA (fun r_3 _ H locs hw hP hD hS => ?_)
        have hw : r_3 = q_1.1 := hw
        subst hw
        refine lv_land hx hb dn_M_two_300 ?_
        rw [hQQ, ← Option.some.inj hf]
        exact xk_lret (w1 := fun u : Unit => (wM h0 a cI cB cJ cZ q_1.2)) () hx hb hr hlocks hK hS dn_M_two_301 hP hD rfl (Nat.le_refl _) (Nat.le_refl _)
      · have hf := (if_neg h).symm.trans hf
        refine lv_lconst (v := 0) hx hb dn_M_two_287 (by decide) ?_
        refine lv_goto (tgt := 301) hx hb dn_M_two_288 (by decide) ?_
        rw [hQQ, ← Option.some.inj hf]
        exact xk_lret (w1 := fun u : Unit => (wM h0 a cI cB cJ cZ s)) () hx hb hr hlocks hK hS dn_M_two_301 hP hD rfl (Nat.le_refl _) (Nat.le_refl _)
  have hf := (if_neg h_13).symm.trans hf
  by_cases h_14 : v0 = 263
  · have hf := (if_pos h_14).symm.trans hf
    refine xk_ti (y := 263) h_14 ?_
    refine lv_lookup (off := 301) (tgt := 302) hx hb dn_M_two_1 (by decide) (by decide) (by decide) ?_
    refine lv_lload hx hb dn_M_two_302 (lv_at hl 3 rfl) ?_
    refine lv_lconst (v := 0) hx hb dn_M_two_304 (by decide) ?_
    refine W.lcmp hx hb dn_M_two_305 ?_
    refine lv_if_lt (tgt := 318) hx hb dn_M_two_306 (by decide) (fun h => ?_) (fun h => ?_)
    · have hf := (if_pos h).symm.trans hf
      refine lv_lconst (v := 0) hx hb dn_M_two_318 (by decide) ?_
      refine lv_goto (tgt := 327) hx hb dn_M_two_319 (by decide) ?_
      rw [hQQ, ← Option.some.inj hf]
      exact xk_lret (w1 := fun u : Unit => (wM h0 a cI cB cJ cZ s)) () hx hb hr hlocks hK hS dn_M_two_327 hP hD rfl (Nat.le_refl _) (Nat.le_refl _)
    · have hf := (if_neg h).symm.trans hf
      refine lv_lload hx hb dn_M_two_309 (lv_at hl 3 rfl) ?_
      refine lv_ldc2 hx hb hown (hg _ wn_10_39) dn_M_two_311 ?_
      refine W.lcmp hx hb dn_M_two_314 ?_
      refine lv_if_le (tgt := 322) hx hb dn_M_two_315 (by decide) (fun h => ?_) (fun h => ?_)
      · have hf := (if_pos h).symm.trans hf
        refine lv_lload_n hx hb dn_M_two_322 rfl (lv_at hl 2 rfl) ?_
        refine lv_lload hx hb dn_M_two_323 (lv_at hl 3 rfl) ?_
        refine lv_l2i (v := Int64.toInt32 v4) hx hb dn_M_two_325 rfl ?_
        refine lv_lushr (v := (Int64.toUInt64 v2 >>> (Int64.toUInt64 (Int32.toInt64 ((Int64.toInt32 v4))) &&& Int64.toUInt64 63)).toInt64) hx hb dn_M_two_326 rfl ?_
        rw [hQQ, ← Option.some.inj hf]
        exact xk_lret (w1 := fun u : Unit => (wM h0 a cI cB cJ cZ s)) () hx hb hr hlocks hK hS dn_M_two_327 hP hD rfl (Nat.le_refl _) (Nat.le_refl _)
      · have hf := (if_neg h).symm.trans hf
        refine lv_lconst (v := 0) hx hb dn_M_two_318 (by decide) ?_
        refine lv_goto (tgt := 327) hx hb dn_M_two_319 (by decide) ?_
        rw [hQQ, ← Option.some.inj hf]
        exact xk_lret (w1 := fun u : Unit => (wM h0 a cI cB cJ cZ s)) () hx hb hr hlocks hK hS dn_M_two_327 hP hD rfl (Nat.le_refl _) (Nat.le_refl _)
  have hf := (if_neg h_14).symm.trans hf
  refine lv_lookup (off := 347) (tgt := 348) hx hb dn_M_two_1 (by decide) (by rw [lv_osw h_0 (by decide)]; rw [lv_osw h_1 (by decide)]; rw [lv_osw h_2 (by decide)]; rw [lv_osw h_3 (by decide)]; rw [lv_osw h_4 (by decide)]; rw [lv_osw h_5 (by decide)]; rw [lv_osw h_6 (by decide)]; rw [lv_osw h_7 (by decide)]; rw [lv_osw h_8 (by decide)]; rw [lv_osw h_9 (by decide)]; rw [lv_osw h_10 (by decide)]; rw [lv_osw h_11 (by decide)]; rw [lv_osw h_12 (by decide)]; rw [lv_osw h_13 (by decide)]; rw [lv_osw h_14 (by decide)]; rfl) (by decide) ?_
  refine lv_lload_n hx hb dn_M_two_348 rfl (lv_at hl 2 rfl) ?_
  refine lv_lload hx hb dn_M_two_349 (lv_at hl 3 rfl) ?_
  refine lv_lmul hx hb dn_M_two_351 ?_
  refine lv_iload_n hx hb dn_M_two_352 rfl (lv_at hl 1 rfl) ?_
  obtain ⟨q_1, hc_2, hf⟩ := dc_b hf
  refine dc_calll (dc_runS (ar := 1) (As := [.int v1]) (rest := [.long ((v2 * v4))]) ⟨hx, hb, hml, hown, hg⟩ hK hN hT hS hA (ct_M_mask l dC dI cI cB cJ cZ cQ N H.size h0 a v1 s q_1 hc_2) hP hD wn_10_220 wn_10_221 wn_1_13 wn_10_222 rfl rfl (by decide +kernel) ⟨Nat.le_of_ble_eq_true rfl, Nat.le_of_ble_eq_true rfl⟩ rfl hl.1 rfl (Nat.le_of_ble_eq_true rfl) dn_M_two_353 ⟨Nat.le_of_ble_eq_true rfl, Nat.le_of_ble_eq_true rfl⟩) hP hD hS hA (fun r_3 _ H locs hw hP hD hS => ?_)
  have hw : r_3 = q_1.1 := hw
  subst hw
  refine lv_land hx hb dn_M_two_356 ?_
  rw [hQQ, ← Option.some.inj hf]
  exact xk_lret (w1 := fun u : Unit => (wM h0 a cI cB cJ cZ q_1.2)) () hx hb hr hlocks hK hS dn_M_two_357 hP hD rfl (Nat.le_refl _) (Nat.le_refl _)
def bk_M_run_211 (N : Nat) (k_3 : Int32 → Int32 → Int32 → ms → Option (Unit × ms)) (x2 : Int32) (x3 : Int32) (x7 : Int32) (t0 : Int64) (s : ms) : Option (Unit × ms) :=
  (fn_M_push N t0 s).bind (fun q_1 => k_3 x2 x3 x7 q_1.2)
def bk_M_run_199 (N : Nat) (k_3 : Int32 → Int32 → Int32 → ms → Option (Unit × ms)) (x2 : Int32) (x3 : Int32) (x7 : Int32) (s : ms) : Option (Unit × ms) :=
  bk_M_run_211 N k_3 x2 x3 x7 0 s
def bk_M_run_294 (N : Nat) (k_3 : Int32 → Int32 → Int32 → ms → Option (Unit × ms)) (x2 : Int32) (x3 : Int32) (x7 : Int32) (t0 : Int64) (s : ms) : Option (Unit × ms) :=
  (fn_M_push N t0 s).bind (fun q_1 => k_3 x2 x3 x7 q_1.2)
def bd_M_run_336 (N : Nat) (k_3 : Int32 → Int32 → Int32 → ms → Option (Unit × ms)) (k_336 : Int32 → Int32 → Int32 → Int32 → Int32 → Int64 → Int64 → Int32 → ms → Option (Unit × ms)) (x2 : Int32) (x3 : Int32) (x5 : Int32) (x6 : Int32) (x7 : Int32) (x22 : Int64) (x24 : Int64) (x26 : Int32) (s : ms) : Option (Unit × ms) :=
  if x5 ≤ x26 then ((fn_M_push N x24 s).bind (fun q_1 => k_3 x2 x3 x7 q_1.2)) else (k_336 x2 x3 x5 x6 x7 x22 ((((x24 : Int64) <<< ((Int32.toInt64 x6) &&& 63)) ||| x22)) ((x26 + 1)) s)
def hd_M_run_336 (N : Nat) (k_3 : Int32 → Int32 → Int32 → ms → Option (Unit × ms)) : Nat → Int32 → Int32 → Int32 → Int32 → Int32 → Int64 → Int64 → Int32 → ms → Option (Unit × ms)
  | 0, _, _, _, _, _, _, _, _, _ => none
  | n + 1, x2, x3, x5, x6, x7, x22, x24, x26, s => bd_M_run_336 N k_3 (hd_M_run_336 N k_3 n) x2 x3 x5 x6 x7 x22 x24 x26 s
def bk_M_run_456 (N : Nat) (k_3 : Int32 → Int32 → Int32 → ms → Option (Unit × ms)) (x2 : Int32) (x3 : Int32) (t0 : Int32) (s : ms) : Option (Unit × ms) :=
  k_3 x2 x3 t0 s
def bk_M_run_497 (N : Nat) (k_3 : Int32 → Int32 → Int32 → ms → Option (Unit × ms)) (x2 : Int32) (x3 : Int32) (t0 : Int32) (s : ms) : Option (Unit × ms) :=
  k_3 x2 x3 t0 s
def bd_M_run_3 (N : Nat) (k_3 : Int32 → Int32 → Int32 → ms → Option (Unit × ms)) (x2 : Int32) (x3 : Int32) (x4 : Int32) (s : ms) : Option (Unit × ms) :=
  if x2 ≤ x4 then (some ((), s)) else (if ((x4 + 1) < 0 ∨ (s.1 91 0).toNatClampNeg ≤ Int32.toNatClampNeg ((x4 + 1))) then none else if ((x4 + 2) < 0 ∨ (s.1 91 0).toNatClampNeg ≤ Int32.toNatClampNeg ((x4 + 2))) then none else if (x4 < 0 ∨ (s.1 91 0).toNatClampNeg ≤ Int32.toNatClampNeg x4) then none else if ((s.1 41) (Int32.toNatClampNeg x4)) = 0 then (if (((s.1 41) (Int32.toNatClampNeg ((x4 + 1)))) < 0 ∨ (s.1 92 0).toNatClampNeg ≤ Int32.toNatClampNeg (((s.1 41) (Int32.toNatClampNeg ((x4 + 1)))))) then none else (fn_M_push N (((s.2 43) (Int32.toNatClampNeg (((s.1 41) (Int32.toNatClampNeg ((x4 + 1)))))))) s).bind (fun q_5 => k_3 x2 x3 ((x4 + 3)) q_5.2)) else (if ((s.1 41) (Int32.toNatClampNeg x4)) = 1 then ((fn_M_signalOf N x3 (((s.1 41) (Int32.toNatClampNeg ((x4 + 1))))) s).bind (fun q_4 => if (q_4.1 < 0 ∨ 1100 ≤ Int32.toNatClampNeg q_4.1) then none else (fn_M_push N (((q_4.2.2 80) (Int32.toNatClampNeg q_4.1))) q_4.2).bind (fun q_8 => k_3 x2 x3 ((x4 + 3)) q_8.2))) else (if ((s.1 41) (Int32.toNatClampNeg x4)) = 2 then ((fn_M_pop N s).bind (fun q_4 => (fn_M_mask N (((((s.1 41) (Int32.toNatClampNeg ((x4 + 1)))) - ((s.1 41) (Int32.toNatClampNeg ((x4 + 2))))) + 1)) q_4.2).bind (fun q_7 => (fn_M_push N ((((Int64.toUInt64 q_4.1 >>> (Int64.toUInt64 (Int32.toInt64 (((s.1 41) (Int32.toNatClampNeg ((x4 + 2)))))) &&& Int64.toUInt64 63)).toInt64) &&& q_7.1)) q_7.2).bind (fun q_10 => k_3 x2 x3 ((x4 + 3)) q_10.2)))) else (if ((s.1 41) (Int32.toNatClampNeg x4)) = 3 then ((fn_M_pop N s).bind (fun q_4 => (fn_M_pop N q_4.2).bind (fun q_7 => if (lg_cmp q_4.1 0) < 0 then (bk_M_run_199 N k_3 x2 x3 ((x4 + 3)) q_7.2) else (if (lg_cmp q_4.1 ((Int32.toInt64 (((s.1 41) (Int32.toNatClampNeg ((x4 + 1)))))))) < 0 then (bk_M_run_211 N k_3 x2 x3 ((x4 + 3)) ((((Int64.toUInt64 q_7.1 >>> (Int64.toUInt64 (Int32.toInt64 ((Int64.toInt32 q_4.1))) &&& Int64.toUInt64 63)).toInt64) &&& 1)) q_7.2) else (bk_M_run_199 N k_3 x2 x3 ((x4 + 3)) q_7.2))))) else (if ((s.1 41) (Int32.toNatClampNeg x4)) = 4 then ((fn_M_pop N s).bind (fun q_4 => (fn_M_one N (((s.1 41) (Int32.toNatClampNeg ((x4 + 1))))) (((s.1 41) (Int32.toNatClampNeg ((x4 + 2))))) q_4.1 q_4.2).bind (fun q_7 => (fn_M_push N q_7.1 q_7.2).bind (fun q_10 => k_3 x2 x3 ((x4 + 3)) q_10.2)))) else (if ((s.1 41) (Int32.toNatClampNeg x4)) = 5 then ((fn_M_pop N s).bind (fun q_4 => (fn_M_pop N q_4.2).bind (fun q_7 => (fn_M_two N (((s.1 41) (Int32.toNatClampNeg ((x4 + 1))))) (((s.1 41) (Int32.toNatClampNeg ((x4 + 2))))) q_7.1 q_4.1 q_7.2).bind (fun q_10 => (fn_M_push N q_10.1 q_10.2).bind (fun q_13 => k_3 x2 x3 ((x4 + 3)) q_13.2))))) else (if ((s.1 41) (Int32.toNatClampNeg x4)) = 6 then ((fn_M_pop N s).bind (fun q_4 => (fn_M_pop N q_4.2).bind (fun q_7 => (fn_M_pop N q_7.2).bind (fun q_10 => if (lg_cmp q_10.1 0) = 0 then (bk_M_run_294 N k_3 x2 x3 ((x4 + 3)) q_4.1 q_10.2) else (bk_M_run_294 N k_3 x2 x3 ((x4 + 3)) q_7.1 q_10.2))))) else (if ((s.1 41) (Int32.toNatClampNeg x4)) = 7 then ((fn_M_pop N s).bind (fun q_4 => (fn_M_pop N q_4.2).bind (fun q_7 => (fn_M_push N ((((q_7.1 : Int64) <<< ((Int32.toInt64 (((s.1 41) (Int32.toNatClampNeg ((x4 + 1)))))) &&& 63)) ||| q_4.1)) q_7.2).bind (fun q_10 => k_3 x2 x3 ((x4 + 3)) q_10.2)))) else (if ((s.1 41) (Int32.toNatClampNeg x4)) = 8 then ((fn_M_pop N s).bind (fun q_4 => hd_M_run_336 N k_3 N x2 x3 (((s.1 41) (Int32.toNatClampNeg ((x4 + 1))))) (((s.1 41) (Int32.toNatClampNeg ((x4 + 2))))) ((x4 + 3)) q_4.1 q_4.1 1 q_4.2)) else (if ((s.1 41) (Int32.toNatClampNeg x4)) = 9 then ((fn_M_signalOf N x3 (((s.1 41) (Int32.toNatClampNeg ((x4 + 1))))) s).bind (fun q_4 => (fn_M_mask N ((((((s.1 41) (Int32.toNatClampNeg ((x4 + 2)))) / 256) - (((s.1 41) (Int32.toNatClampNeg ((x4 + 2)))) - ((s.1 41) (Int32.toNatClampNeg ((x4 + 2)))) / 256 * 256)) + 1)) q_4.2).bind (fun q_7 => if (q_4.1 < 0 ∨ 1100 ≤ Int32.toNatClampNeg q_4.1) then none else (fn_M_pop N q_7.2).bind (fun q_11 => if (q_4.1 < 0 ∨ 1100 ≤ Int32.toNatClampNeg q_4.1) then none else k_3 x2 x3 ((x4 + 3)) (upJ q_11.2 81 (vp_updL (q_11.2.2 81) (Int32.toNatClampNeg q_4.1) (((((q_7.2.2 81) (Int32.toNatClampNeg q_4.1)) &&& (((q_7.1 : Int64) <<< ((Int32.toInt64 ((((s.1 41) (Int32.toNatClampNeg ((x4 + 2)))) - ((s.1 41) (Int32.toNatClampNeg ((x4 + 2)))) / 256 * 256))) &&& 63)) ^^^ (-1))) ||| ((q_11.1 : Int64) <<< ((Int32.toInt64 ((((s.1 41) (Int32.toNatClampNeg ((x4 + 2)))) - ((s.1 41) (Int32.toNatClampNeg ((x4 + 2)))) / 256 * 256))) &&& 63)))))))))) else (if ((s.1 41) (Int32.toNatClampNeg x4)) = 10 then ((fn_M_pop N s).bind (fun q_4 => if (lg_cmp q_4.1 0) = 0 then (bk_M_run_456 N k_3 x2 x3 (((s.1 41) (Int32.toNatClampNeg ((x4 + 1))))) q_4.2) else (bk_M_run_456 N k_3 x2 x3 ((x4 + 3)) q_4.2))) else (if ((s.1 41) (Int32.toNatClampNeg x4)) = 11 then (k_3 x2 x3 (((s.1 41) (Int32.toNatClampNeg ((x4 + 1))))) s) else (if ((s.1 41) (Int32.toNatClampNeg x4)) = 12 then (if (((s.1 85 0) - 1) < 0 ∨ 4096 ≤ Int32.toNatClampNeg (((s.1 85 0) - 1))) then none else if (((s.1 41) (Int32.toNatClampNeg ((x4 + 2)))) < 0 ∨ (s.1 92 0).toNatClampNeg ≤ Int32.toNatClampNeg (((s.1 41) (Int32.toNatClampNeg ((x4 + 2)))))) then none else if (lg_cmp (((s.2 84) (Int32.toNatClampNeg (((s.1 85 0) - 1))))) (((s.2 43) (Int32.toNatClampNeg (((s.1 41) (Int32.toNatClampNeg ((x4 + 2))))))))) = 0 then (bk_M_run_497 N k_3 x2 x3 (((s.1 41) (Int32.toNatClampNeg ((x4 + 1))))) s) else (bk_M_run_497 N k_3 x2 x3 ((x4 + 3)) s)) else (k_3 x2 x3 ((x4 + 3)) (upI s 85 (fun _ => ((s.1 85 0) - 1)))))))))))))))))
def hd_M_run_3 (N : Nat) : Nat → Int32 → Int32 → Int32 → ms → Option (Unit × ms)
  | 0, _, _, _, _ => none
  | n + 1, x2, x3, x4, s => bd_M_run_3 N (hd_M_run_3 N n) x2 x3 x4 s
def fn_M_run (N : Nat) (v1 : Int32) (v2 : Int32) (v3 : Int32) (s : ms) : Option (Unit × ms) :=
  hd_M_run_3 N N v2 v3 v1 s
theorem mo_M_run_211 (N : Nat) (k_3 : Int32 → Int32 → Int32 → ms → Option (Unit × ms)) (y : (Unit × ms)) (hkm_3 : ∀ (x2 : Int32) (x3 : Int32) (x4 : Int32) (s : ms), k_3 x2 x3 x4 s = some y → gl y.2 = gl s) (x2 : Int32) (x3 : Int32) (x7 : Int32) (t0 : Int64) (s : ms) (hf : bk_M_run_211 N k_3 x2 x3 x7 t0 s = some y) : gl y.2 = gl s := by
  unfold bk_M_run_211 at hf
  have hm : gl s = gl s := rfl
  obtain ⟨q_1, hc_2, hf⟩ := dc_b hf
  have hm := (mn_M_push N t0 s q_1 hc_2).trans hm
  exact (hkm_3 x2 x3 x7 q_1.2 hf).trans hm
theorem mo_M_run_199 (N : Nat) (k_3 : Int32 → Int32 → Int32 → ms → Option (Unit × ms)) (y : (Unit × ms)) (hkm_3 : ∀ (x2 : Int32) (x3 : Int32) (x4 : Int32) (s : ms), k_3 x2 x3 x4 s = some y → gl y.2 = gl s) (x2 : Int32) (x3 : Int32) (x7 : Int32) (s : ms) (hf : bk_M_run_199 N k_3 x2 x3 x7 s = some y) : gl y.2 = gl s := by
  unfold bk_M_run_199 at hf
  have hm : gl s = gl s := rfl
  exact (mo_M_run_211 N k_3 y hkm_3 x2 x3 x7 0 s hf).trans hm
theorem mo_M_run_294 (N : Nat) (k_3 : Int32 → Int32 → Int32 → ms → Option (Unit × ms)) (y : (Unit × ms)) (hkm_3 : ∀ (x2 : Int32) (x3 : Int32) (x4 : Int32) (s : ms), k_3 x2 x3 x4 s = some y → gl y.2 = gl s) (x2 : Int32) (x3 : Int32) (x7 : Int32) (t0 : Int64) (s : ms) (hf : bk_M_run_294 N k_3 x2 x3 x7 t0 s = some y) : gl y.2 = gl s := by
  unfold bk_M_run_294 at hf
  have hm : gl s = gl s := rfl
  obtain ⟨q_1, hc_2, hf⟩ := dc_b hf
  have hm := (mn_M_push N t0 s q_1 hc_2).trans hm
  exact (hkm_3 x2 x3 x7 q_1.2 hf).trans hm
theorem mb_M_run_336 (N : Nat) (k_3 : Int32 → Int32 → Int32 → ms → Option (Unit × ms)) (y : (Unit × ms)) (hkm_3 : ∀ (x2 : Int32) (x3 : Int32) (x4 : Int32) (s : ms), k_3 x2 x3 x4 s = some y → gl y.2 = gl s) (k_336 : Int32 → Int32 → Int32 → Int32 → Int32 → Int64 → Int64 → Int32 → ms → Option (Unit × ms)) (hkm_336 : ∀ (x2 : Int32) (x3 : Int32) (x5 : Int32) (x6 : Int32) (x7 : Int32) (x22 : Int64) (x24 : Int64) (x26 : Int32) (s : ms), k_336 x2 x3 x5 x6 x7 x22 x24 x26 s = some y → gl y.2 = gl s) (x2 : Int32) (x3 : Int32) (x5 : Int32) (x6 : Int32) (x7 : Int32) (x22 : Int64) (x24 : Int64) (x26 : Int32) (s : ms) (hf : bd_M_run_336 N k_3 k_336 x2 x3 x5 x6 x7 x22 x24 x26 s = some y) : gl y.2 = gl s := by
  unfold bd_M_run_336 at hf
  have hm : gl s = gl s := rfl
  by_cases h : x5 ≤ x26
  · have hf := (if_pos h).symm.trans hf
    obtain ⟨q_1, hc_2, hf⟩ := dc_b hf
    have hm := (mn_M_push N x24 s q_1 hc_2).trans hm
    exact (hkm_3 x2 x3 x7 q_1.2 hf).trans hm
  · have hf := (if_neg h).symm.trans hf
    exact (hkm_336 x2 x3 x5 x6 x7 x22 ((((x24 : Int64) <<< ((Int32.toInt64 x6) &&& 63)) ||| x22)) ((x26 + 1)) s hf).trans hm
theorem mh_M_run_336 (N : Nat) (k_3 : Int32 → Int32 → Int32 → ms → Option (Unit × ms)) (y : (Unit × ms)) (hkm_3 : ∀ (x2 : Int32) (x3 : Int32) (x4 : Int32) (s : ms), k_3 x2 x3 x4 s = some y → gl y.2 = gl s) : ∀ (n : Nat) (x2 : Int32) (x3 : Int32) (x5 : Int32) (x6 : Int32) (x7 : Int32) (x22 : Int64) (x24 : Int64) (x26 : Int32) (s : ms), hd_M_run_336 N k_3 n x2 x3 x5 x6 x7 x22 x24 x26 s = some y → gl y.2 = gl s := by
  intro n
  induction n with
  | zero => intro x2 x3 x5 x6 x7 x22 x24 x26 s hf; cases hf
  | succ n ih => intro x2 x3 x5 x6 x7 x22 x24 x26 s hf; exact mb_M_run_336 N k_3 y hkm_3 (hd_M_run_336 N k_3 n) ih x2 x3 x5 x6 x7 x22 x24 x26 s hf
theorem mo_M_run_456 (N : Nat) (k_3 : Int32 → Int32 → Int32 → ms → Option (Unit × ms)) (y : (Unit × ms)) (hkm_3 : ∀ (x2 : Int32) (x3 : Int32) (x4 : Int32) (s : ms), k_3 x2 x3 x4 s = some y → gl y.2 = gl s) (x2 : Int32) (x3 : Int32) (t0 : Int32) (s : ms) (hf : bk_M_run_456 N k_3 x2 x3 t0 s = some y) : gl y.2 = gl s := by
  unfold bk_M_run_456 at hf
  have hm : gl s = gl s := rfl
  exact (hkm_3 x2 x3 t0 s hf).trans hm
theorem mo_M_run_497 (N : Nat) (k_3 : Int32 → Int32 → Int32 → ms → Option (Unit × ms)) (y : (Unit × ms)) (hkm_3 : ∀ (x2 : Int32) (x3 : Int32) (x4 : Int32) (s : ms), k_3 x2 x3 x4 s = some y → gl y.2 = gl s) (x2 : Int32) (x3 : Int32) (t0 : Int32) (s : ms) (hf : bk_M_run_497 N k_3 x2 x3 t0 s = some y) : gl y.2 = gl s := by
  unfold bk_M_run_497 at hf
  have hm : gl s = gl s := rfl
  exact (hkm_3 x2 x3 t0 s hf).trans hm
theorem mb_M_run_3 (N : Nat) (y : (Unit × ms)) (k_3 : Int32 → Int32 → Int32 → ms → Option (Unit × ms)) (hkm_3 : ∀ (x2 : Int32) (x3 : Int32) (x4 : Int32) (s : ms), k_3 x2 x3 x4 s = some y → gl y.2 = gl s) (x2 : Int32) (x3 : Int32) (x4 : Int32) (s : ms) (hf : bd_M_run_3 N k_3 x2 x3 x4 s = some y) : gl y.2 = gl s := by
  unfold bd_M_run_3 at hf
  have hm : gl s = gl s := rfl
  by_cases h : x2 ≤ x4
  · have hf := (if_pos h).symm.trans hf
    rw [← Option.some.inj hf]
    exact hm
  · have hf := (if_neg h).symm.trans hf
    obtain ⟨_, hf⟩ := dc_g hf
    obtain ⟨_, hf⟩ := dc_g hf
    obtain ⟨_, hf⟩ := dc_g hf
    by_cases h_0 : ((s.1 41) (Int32.toNatClampNeg x4)) = 0
    · have hf := (if_pos h_0).symm.trans hf
      obtain ⟨_, hf⟩ := dc_g hf
      obtain ⟨q_5, hc_6, hf⟩ := dc_b hf
      have hm := (mn_M_push N (((s.2 43) (Int32.toNatClampNeg (((s.1 41) (Int32.toNatClampNeg ((x4 + 1)))))))) s q_5 hc_6).trans hm
      exact (hkm_3 x2 x3 ((x4 + 3)) q_5.2 hf).trans hm
    have hf := (if_neg h_0).symm.trans hf
    by_cases h_1 : ((s.1 41) (Int32.toNatClampNeg x4)) = 1
    · have hf := (if_pos h_1).symm.trans hf
      obtain ⟨q_4, hc_5, hf⟩ := dc_b hf
      have hm := (mn_M_signalOf N x3 (((s.1 41) (Int32.toNatClampNeg ((x4 + 1))))) s q_4 hc_5).trans hm
      obtain ⟨_, hf⟩ := dc_g hf
      obtain ⟨q_8, hc_9, hf⟩ := dc_b hf
      have hm := (mn_M_push N (((q_4.2.2 80) (Int32.toNatClampNeg q_4.1))) q_4.2 q_8 hc_9).trans hm
      exact (hkm_3 x2 x3 ((x4 + 3)) q_8.2 hf).trans hm
    have hf := (if_neg h_1).symm.trans hf
    by_cases h_2 : ((s.1 41) (Int32.toNatClampNeg x4)) = 2
    · have hf := (if_pos h_2).symm.trans hf
      obtain ⟨q_4, hc_5, hf⟩ := dc_b hf
      have hm := (mn_M_pop N s q_4 hc_5).trans hm
      obtain ⟨q_7, hc_8, hf⟩ := dc_b hf
      have hm := (mn_M_mask N (((((s.1 41) (Int32.toNatClampNeg ((x4 + 1)))) - ((s.1 41) (Int32.toNatClampNeg ((x4 + 2))))) + 1)) q_4.2 q_7 hc_8).trans hm
      obtain ⟨q_10, hc_11, hf⟩ := dc_b hf
      have hm := (mn_M_push N ((((Int64.toUInt64 q_4.1 >>> (Int64.toUInt64 (Int32.toInt64 (((s.1 41) (Int32.toNatClampNeg ((x4 + 2)))))) &&& Int64.toUInt64 63)).toInt64) &&& q_7.1)) q_7.2 q_10 hc_11).trans hm
      exact (hkm_3 x2 x3 ((x4 + 3)) q_10.2 hf).trans hm
    have hf := (if_neg h_2).symm.trans hf
    by_cases h_3 : ((s.1 41) (Int32.toNatClampNeg x4)) = 3
    · have hf := (if_pos h_3).symm.trans hf
      obtain ⟨q_4, hc_5, hf⟩ := dc_b hf
      have hm := (mn_M_pop N s q_4 hc_5).trans hm
      obtain ⟨q_7, hc_8, hf⟩ := dc_b hf
      have hm := (mn_M_pop N q_4.2 q_7 hc_8).trans hm
      by_cases h : (lg_cmp q_4.1 0) < 0
      · have hf := (if_pos h).symm.trans hf
        exact (mo_M_run_199 N k_3 y hkm_3 x2 x3 ((x4 + 3)) q_7.2 hf).trans hm
      · have hf := (if_neg h).symm.trans hf
        by_cases h : (lg_cmp q_4.1 ((Int32.toInt64 (((s.1 41) (Int32.toNatClampNeg ((x4 + 1)))))))) < 0
        · have hf := (if_pos h).symm.trans hf
          exact (mo_M_run_211 N k_3 y hkm_3 x2 x3 ((x4 + 3)) ((((Int64.toUInt64 q_7.1 >>> (Int64.toUInt64 (Int32.toInt64 ((Int64.toInt32 q_4.1))) &&& Int64.toUInt64 63)).toInt64) &&& 1)) q_7.2 hf).trans hm
        · have hf := (if_neg h).symm.trans hf
          exact (mo_M_run_199 N k_3 y hkm_3 x2 x3 ((x4 + 3)) q_7.2 hf).trans hm
    have hf := (if_neg h_3).symm.trans hf
    by_cases h_4 : ((s.1 41) (Int32.toNatClampNeg x4)) = 4
    · have hf := (if_pos h_4).symm.trans hf
      obtain ⟨q_4, hc_5, hf⟩ := dc_b hf
      have hm := (mn_M_pop N s q_4 hc_5).trans hm
      obtain ⟨q_7, hc_8, hf⟩ := dc_b hf
      have hm := (mn_M_one N (((s.1 41) (Int32.toNatClampNeg ((x4 + 1))))) (((s.1 41) (Int32.toNatClampNeg ((x4 + 2))))) q_4.1 q_4.2 q_7 hc_8).trans hm
      obtain ⟨q_10, hc_11, hf⟩ := dc_b hf
      have hm := (mn_M_push N q_7.1 q_7.2 q_10 hc_11).trans hm
      exact (hkm_3 x2 x3 ((x4 + 3)) q_10.2 hf).trans hm
    have hf := (if_neg h_4).symm.trans hf
    by_cases h_5 : ((s.1 41) (Int32.toNatClampNeg x4)) = 5
    · have hf := (if_pos h_5).symm.trans hf
      obtain ⟨q_4, hc_5, hf⟩ := dc_b hf
      have hm := (mn_M_pop N s q_4 hc_5).trans hm
      obtain ⟨q_7, hc_8, hf⟩ := dc_b hf
      have hm := (mn_M_pop N q_4.2 q_7 hc_8).trans hm
      obtain ⟨q_10, hc_11, hf⟩ := dc_b hf
      have hm := (mn_M_two N (((s.1 41) (Int32.toNatClampNeg ((x4 + 1))))) (((s.1 41) (Int32.toNatClampNeg ((x4 + 2))))) q_7.1 q_4.1 q_7.2 q_10 hc_11).trans hm
      obtain ⟨q_13, hc_14, hf⟩ := dc_b hf
      have hm := (mn_M_push N q_10.1 q_10.2 q_13 hc_14).trans hm
      exact (hkm_3 x2 x3 ((x4 + 3)) q_13.2 hf).trans hm
    have hf := (if_neg h_5).symm.trans hf
    by_cases h_6 : ((s.1 41) (Int32.toNatClampNeg x4)) = 6
    · have hf := (if_pos h_6).symm.trans hf
      obtain ⟨q_4, hc_5, hf⟩ := dc_b hf
      have hm := (mn_M_pop N s q_4 hc_5).trans hm
      obtain ⟨q_7, hc_8, hf⟩ := dc_b hf
      have hm := (mn_M_pop N q_4.2 q_7 hc_8).trans hm
      obtain ⟨q_10, hc_11, hf⟩ := dc_b hf
      have hm := (mn_M_pop N q_7.2 q_10 hc_11).trans hm
      by_cases h : (lg_cmp q_10.1 0) = 0
      · have hf := (if_pos h).symm.trans hf
        exact (mo_M_run_294 N k_3 y hkm_3 x2 x3 ((x4 + 3)) q_4.1 q_10.2 hf).trans hm
      · have hf := (if_neg h).symm.trans hf
        exact (mo_M_run_294 N k_3 y hkm_3 x2 x3 ((x4 + 3)) q_7.1 q_10.2 hf).trans hm
    have hf := (if_neg h_6).symm.trans hf
    by_cases h_7 : ((s.1 41) (Int32.toNatClampNeg x4)) = 7
    · have hf := (if_pos h_7).symm.trans hf
      obtain ⟨q_4, hc_5, hf⟩ := dc_b hf
      have hm := (mn_M_pop N s q_4 hc_5).trans hm
      obtain ⟨q_7, hc_8, hf⟩ := dc_b hf
      have hm := (mn_M_pop N q_4.2 q_7 hc_8).trans hm
      obtain ⟨q_10, hc_11, hf⟩ := dc_b hf
      have hm := (mn_M_push N ((((q_7.1 : Int64) <<< ((Int32.toInt64 (((s.1 41) (Int32.toNatClampNeg ((x4 + 1)))))) &&& 63)) ||| q_4.1)) q_7.2 q_10 hc_11).trans hm
      exact (hkm_3 x2 x3 ((x4 + 3)) q_10.2 hf).trans hm
    have hf := (if_neg h_7).symm.trans hf
    by_cases h_8 : ((s.1 41) (Int32.toNatClampNeg x4)) = 8
    · have hf := (if_pos h_8).symm.trans hf
      obtain ⟨q_4, hc_5, hf⟩ := dc_b hf
      have hm := (mn_M_pop N s q_4 hc_5).trans hm
      exact (mh_M_run_336 N k_3 y hkm_3 N x2 x3 (((s.1 41) (Int32.toNatClampNeg ((x4 + 1))))) (((s.1 41) (Int32.toNatClampNeg ((x4 + 2))))) ((x4 + 3)) q_4.1 q_4.1 1 q_4.2 hf).trans hm
    have hf := (if_neg h_8).symm.trans hf
    by_cases h_9 : ((s.1 41) (Int32.toNatClampNeg x4)) = 9
    · have hf := (if_pos h_9).symm.trans hf
      obtain ⟨q_4, hc_5, hf⟩ := dc_b hf
      have hm := (mn_M_signalOf N x3 (((s.1 41) (Int32.toNatClampNeg ((x4 + 1))))) s q_4 hc_5).trans hm
      obtain ⟨q_7, hc_8, hf⟩ := dc_b hf
      have hm := (mn_M_mask N ((((((s.1 41) (Int32.toNatClampNeg ((x4 + 2)))) / 256) - (((s.1 41) (Int32.toNatClampNeg ((x4 + 2)))) - ((s.1 41) (Int32.toNatClampNeg ((x4 + 2)))) / 256 * 256)) + 1)) q_4.2 q_7 hc_8).trans hm
      obtain ⟨_, hf⟩ := dc_g hf
      obtain ⟨q_11, hc_12, hf⟩ := dc_b hf
      have hm := (mn_M_pop N q_7.2 q_11 hc_12).trans hm
      obtain ⟨_, hf⟩ := dc_g hf
      exact (hkm_3 x2 x3 ((x4 + 3)) (upJ q_11.2 81 (vp_updL (q_11.2.2 81) (Int32.toNatClampNeg q_4.1) (((((q_7.2.2 81) (Int32.toNatClampNeg q_4.1)) &&& (((q_7.1 : Int64) <<< ((Int32.toInt64 ((((s.1 41) (Int32.toNatClampNeg ((x4 + 2)))) - ((s.1 41) (Int32.toNatClampNeg ((x4 + 2)))) / 256 * 256))) &&& 63)) ^^^ (-1))) ||| ((q_11.1 : Int64) <<< ((Int32.toInt64 ((((s.1 41) (Int32.toNatClampNeg ((x4 + 2)))) - ((s.1 41) (Int32.toNatClampNeg ((x4 + 2)))) / 256 * 256))) &&& 63)))))) hf).trans hm
    have hf := (if_neg h_9).symm.trans hf
    by_cases h_10 : ((s.1 41) (Int32.toNatClampNeg x4)) = 10
    · have hf := (if_pos h_10).symm.trans hf
      obtain ⟨q_4, hc_5, hf⟩ := dc_b hf
      have hm := (mn_M_pop N s q_4 hc_5).trans hm
      by_cases h : (lg_cmp q_4.1 0) = 0
      · have hf := (if_pos h).symm.trans hf
        exact (mo_M_run_456 N k_3 y hkm_3 x2 x3 (((s.1 41) (Int32.toNatClampNeg ((x4 + 1))))) q_4.2 hf).trans hm
      · have hf := (if_neg h).symm.trans hf
        exact (mo_M_run_456 N k_3 y hkm_3 x2 x3 ((x4 + 3)) q_4.2 hf).trans hm
    have hf := (if_neg h_10).symm.trans hf
    by_cases h_11 : ((s.1 41) (Int32.toNatClampNeg x4)) = 11
    · have hf := (if_pos h_11).symm.trans hf
      exact (hkm_3 x2 x3 (((s.1 41) (Int32.toNatClampNeg ((x4 + 1))))) s hf).trans hm
    have hf := (if_neg h_11).symm.trans hf
    by_cases h_12 : ((s.1 41) (Int32.toNatClampNeg x4)) = 12
    · have hf := (if_pos h_12).symm.trans hf
      obtain ⟨_, hf⟩ := dc_g hf
      obtain ⟨_, hf⟩ := dc_g hf
      by_cases h : (lg_cmp (((s.2 84) (Int32.toNatClampNeg (((s.1 85 0) - 1))))) (((s.2 43) (Int32.toNatClampNeg (((s.1 41) (Int32.toNatClampNeg ((x4 + 2))))))))) = 0
      · have hf := (if_pos h).symm.trans hf
        exact (mo_M_run_497 N k_3 y hkm_3 x2 x3 (((s.1 41) (Int32.toNatClampNeg ((x4 + 1))))) s hf).trans hm
      · have hf := (if_neg h).symm.trans hf
        exact (mo_M_run_497 N k_3 y hkm_3 x2 x3 ((x4 + 3)) s hf).trans hm
    have hf := (if_neg h_12).symm.trans hf
    exact (hkm_3 x2 x3 ((x4 + 3)) (upI s 85 (fun _ => ((s.1 85 0) - 1))) hf).trans hm
theorem mh_M_run_3 (N : Nat) (y : (Unit × ms)) : ∀ (n : Nat) (x2 : Int32) (x3 : Int32) (x4 : Int32) (s : ms), hd_M_run_3 N n x2 x3 x4 s = some y → gl y.2 = gl s := by
  intro n
  induction n with
  | zero => intro x2 x3 x4 s hf; cases hf
  | succ n ih => intro x2 x3 x4 s hf; exact mb_M_run_3 N y (hd_M_run_3 N n) ih x2 x3 x4 s hf
theorem mn_M_run (N : Nat) (v1 : Int32) (v2 : Int32) (v3 : Int32) (s : ms) (y : (Unit × ms)) (hf : fn_M_run N v1 v2 v3 s = some y) : gl y.2 = gl s := by
  unfold fn_M_run at hf
  have hm : gl s = gl s := rfl
  exact (mh_M_run_3 N y N v2 v3 v1 s hf).trans hm
set_option maxHeartbeats 8000000 in
set_option maxRecDepth 100000 in
theorem ct_M_run (l : Launch) (dC : Nat → ClassId) (dI : Nat → Nat → Nat) (cI cB cJ cZ cQ : ClassId) (N sz : Nat) (h0 : Nat) (a : Nat → Nat) (v1 : Int32) (v2 : Int32) (v3 : Int32) (s : ms) (y : (Unit × ms)) (hf : fn_M_run N v1 v2 v3 s = some y) : Met l yn_M_run (xw yn_M_run bn_M_run 29 none) ({ frames := 2, cells := 0, slots := 0, locals := 48 }) (dc_P (dC, dI) xcl (xt cI cB cJ cZ cQ) [.ref h0, .int v1, .int v2, .int v3] sz (wM h0 a cI cB cJ cZ s)) (xk_Qv (dC, dI) xcl (xt cI cB cJ cZ cQ) (fun _ : Unit => True) (fun u : Unit => (wM h0 a cI cB cJ cZ y.2)) (va_A (wM h0 a cI cB cJ cZ s) sz)) 0 0 (va_A (wM h0 a cI cB cJ cZ s) sz) := by
  refine dc_of (QA := xk_Qv (dC, dI) xcl (xt cI cB cJ cZ cQ) (fun _ : Unit => True) (fun u : Unit => (wM h0 a cI cB cJ cZ y.2))) (by decide) (Nat.le_of_ble_eq_true rfl) ?_
  intro p e s0 m below meth c hx hb hml hown hg hr hlocks hin hP hK hN A hA hD hT ls hl
  have hown : s0.vm.findClass rn_M = some m.cls := hown
  obtain ⟨H, hH⟩ : ∃ z, z = s0.heap := ⟨_, rfl⟩
  rw [← hH] at hP
  have hS : va_S A s0.heap H [] := by rw [hH]; exact va_S.rf
  suffices kk : ∀ QQ : State → Prop, QQ = MQ below (xk_Qv (dC, dI) xcl (xt cI cB cJ cZ cQ) (fun _ : Unit => True) (fun u : Unit => (wM h0 a cI cB cJ cZ y.2)) A) [.ref h0, .int v1, .int v2, .int v3].toArray s0 0 0 A → dcC p l e ({ frames := 2, cells := 0, slots := 0, locals := 48 }) s0 m [.ref h0, .int v1, .int v2, .int v3].toArray below meth c QQ (dC, dI) A (wM h0 a cI cB cJ cZ s) 0 29 [(0, .ref h0), (1, .int v1), (2, .int v2), (3, .int v3)] [] by
    have k9 := kk _ rfl H [] ls hP hD hS hl
    rw [hH] at k9; exact k9
  clear hP hD hS hl hH H ls
  intro QQ hQQ
  have bl_211 : ∀ (k_3 : Int32 → Int32 → Int32 → ms → Option (Unit × ms)) (hk_3 : ∀ (x2 : Int32) (x3 : Int32) (x4 : Int32) (s : ms), k_3 x2 x3 x4 s = some y → dcC p l e ({ frames := 2, cells := 0, slots := 0, locals := 48 }) s0 m [.ref h0, .int v1, .int v2, .int v3].toArray below meth c QQ (dC, dI) A (wM h0 a cI cB cJ cZ s) 3 29 [(0, .ref h0), (2, .int x2), (3, .int x3), (4, .int x4)] []) (x2 : Int32) (x3 : Int32) (x7 : Int32) (t0 : Int64) (s : ms), bk_M_run_211 N k_3 x2 x3 x7 t0 s = some y → dcC p l e ({ frames := 2, cells := 0, slots := 0, locals := 48 }) s0 m [.ref h0, .int v1, .int v2, .int v3].toArray below meth c QQ (dC, dI) A (wM h0 a cI cB cJ cZ s) 211 29 [(0, .ref h0), (2, .int x2), (3, .int x3), (7, .int x7)] [.long t0, .ref h0] := by
    intro k_3 hk_3 x2 x3 x7 t0 s hf H locs ls hP hD hS hl
    unfold bk_M_run_211 at hf
    obtain ⟨q_1, hc_2, hf⟩ := dc_b hf
    refine dc_callv (dc_runV (ar := 1) (As := [.long t0]) (rest := []) (ci := 0) (q0 := 0) ⟨hx, hb, hml, hown, hg⟩ hK hN hT hS hA (ct_M_push l dC dI cI cB cJ cZ cQ N H.size h0 a t0 s q_1 hc_2) hP hD rfl rfl wn_10_212 wn_10_214 sn_M_push wn_1_13 wn_10_215 rfl rfl (by decide +kernel) ⟨Nat.le_of_ble_eq_true rfl, Nat.le_of_ble_eq_true rfl⟩ rfl hl.1 rfl (Nat.le_of_ble_eq_true rfl) dn_M_run_211 ⟨Nat.le_of_ble_eq_true rfl, Nat.le_of_ble_eq_true rfl⟩) hP hD hS hA (fun _ H locs hw hP hD hS => ?_)
    refine lv_goto (tgt := 512) hx hb dn_M_run_214 (by decide) ?_
    refine lv_iload hx hb dn_M_run_512 (lv_at hl 3 rfl) ?_
    refine lv_istore (lv' := [(4, .int x7), (0, .ref h0), (2, .int x2), (3, .int x3), (7, .int x7)]) hx hb dn_M_run_514 hl (by decide) rfl (fun ls hl => ?_)
    refine lv_goto (tgt := 3) hx hb dn_M_run_516 (by decide) ?_
    exact hk_3 x2 x3 x7 q_1.2 hf H locs ls hP hD hS (lv_sub hl [1, 2, 3, 0] rfl)
  have bl_199 : ∀ (k_3 : Int32 → Int32 → Int32 → ms → Option (Unit × ms)) (hk_3 : ∀ (x2 : Int32) (x3 : Int32) (x4 : Int32) (s : ms), k_3 x2 x3 x4 s = some y → dcC p l e ({ frames := 2, cells := 0, slots := 0, locals := 48 }) s0 m [.ref h0, .int v1, .int v2, .int v3].toArray below meth c QQ (dC, dI) A (wM h0 a cI cB cJ cZ s) 3 29 [(0, .ref h0), (2, .int x2), (3, .int x3), (4, .int x4)] []) (x2 : Int32) (x3 : Int32) (x7 : Int32) (s : ms), bk_M_run_199 N k_3 x2 x3 x7 s = some y → dcC p l e ({ frames := 2, cells := 0, slots := 0, locals := 48 }) s0 m [.ref h0, .int v1, .int v2, .int v3].toArray below meth c QQ (dC, dI) A (wM h0 a cI cB cJ cZ s) 199 29 [(0, .ref h0), (2, .int x2), (3, .int x3), (7, .int x7)] [.ref h0] := by
    intro k_3 hk_3 x2 x3 x7 s hf H locs ls hP hD hS hl
    unfold bk_M_run_199 at hf
    refine lv_lconst (v := 0) hx hb dn_M_run_199 (by decide) ?_
    refine lv_goto (tgt := 211) hx hb dn_M_run_200 (by decide) ?_
    exact bl_211 k_3 hk_3 x2 x3 x7 0 s hf H locs ls hP hD hS hl
  have bl_294 : ∀ (k_3 : Int32 → Int32 → Int32 → ms → Option (Unit × ms)) (hk_3 : ∀ (x2 : Int32) (x3 : Int32) (x4 : Int32) (s : ms), k_3 x2 x3 x4 s = some y → dcC p l e ({ frames := 2, cells := 0, slots := 0, locals := 48 }) s0 m [.ref h0, .int v1, .int v2, .int v3].toArray below meth c QQ (dC, dI) A (wM h0 a cI cB cJ cZ s) 3 29 [(0, .ref h0), (2, .int x2), (3, .int x3), (4, .int x4)] []) (x2 : Int32) (x3 : Int32) (x7 : Int32) (t0 : Int64) (s : ms), bk_M_run_294 N k_3 x2 x3 x7 t0 s = some y → dcC p l e ({ frames := 2, cells := 0, slots := 0, locals := 48 }) s0 m [.ref h0, .int v1, .int v2, .int v3].toArray below meth c QQ (dC, dI) A (wM h0 a cI cB cJ cZ s) 294 29 [(0, .ref h0), (2, .int x2), (3, .int x3), (7, .int x7)] [.long t0, .ref h0] := by
    intro k_3 hk_3 x2 x3 x7 t0 s hf H locs ls hP hD hS hl
    unfold bk_M_run_294 at hf
    obtain ⟨q_1, hc_2, hf⟩ := dc_b hf
    refine dc_callv (dc_runV (ar := 1) (As := [.long t0]) (rest := []) (ci := 0) (q0 := 0) ⟨hx, hb, hml, hown, hg⟩ hK hN hT hS hA (ct_M_push l dC dI cI cB cJ cZ cQ N H.size h0 a t0 s q_1 hc_2) hP hD rfl rfl wn_10_212 wn_10_214 sn_M_push wn_1_13 wn_10_215 rfl rfl (by decide +kernel) ⟨Nat.le_of_ble_eq_true rfl, Nat.le_of_ble_eq_true rfl⟩ rfl hl.1 rfl (Nat.le_of_ble_eq_true rfl) dn_M_run_294 ⟨Nat.le_of_ble_eq_true rfl, Nat.le_of_ble_eq_true rfl⟩) hP hD hS hA (fun _ H locs hw hP hD hS => ?_)
    refine lv_goto (tgt := 512) hx hb dn_M_run_297 (by decide) ?_
    refine lv_iload hx hb dn_M_run_512 (lv_at hl 3 rfl) ?_
    refine lv_istore (lv' := [(4, .int x7), (0, .ref h0), (2, .int x2), (3, .int x3), (7, .int x7)]) hx hb dn_M_run_514 hl (by decide) rfl (fun ls hl => ?_)
    refine lv_goto (tgt := 3) hx hb dn_M_run_516 (by decide) ?_
    exact hk_3 x2 x3 x7 q_1.2 hf H locs ls hP hD hS (lv_sub hl [1, 2, 3, 0] rfl)
  have hd_336 : ∀ (k_3 : Int32 → Int32 → Int32 → ms → Option (Unit × ms)) (hk_3 : ∀ (x2 : Int32) (x3 : Int32) (x4 : Int32) (s : ms), k_3 x2 x3 x4 s = some y → dcC p l e ({ frames := 2, cells := 0, slots := 0, locals := 48 }) s0 m [.ref h0, .int v1, .int v2, .int v3].toArray below meth c QQ (dC, dI) A (wM h0 a cI cB cJ cZ s) 3 29 [(0, .ref h0), (2, .int x2), (3, .int x3), (4, .int x4)] []) (n : Nat) (x2 : Int32) (x3 : Int32) (x5 : Int32) (x6 : Int32) (x7 : Int32) (x22 : Int64) (x24 : Int64) (x26 : Int32) (s : ms), hd_M_run_336 N k_3 n x2 x3 x5 x6 x7 x22 x24 x26 s = some y → dcC p l e ({ frames := 2, cells := 0, slots := 0, locals := 48 }) s0 m [.ref h0, .int v1, .int v2, .int v3].toArray below meth c QQ (dC, dI) A (wM h0 a cI cB cJ cZ s) 336 29 [(0, .ref h0), (2, .int x2), (3, .int x3), (5, .int x5), (6, .int x6), (7, .int x7), (22, .long x22), (24, .long x24), (26, .int x26)] [] := by
    intro k_3 hk_3 n
    induction n with
    | zero => intro x2 x3 x5 x6 x7 x22 x24 x26 s hf; cases hf
    | succ n ih =>
      intro x2 x3 x5 x6 x7 x22 x24 x26 s hf H locs ls hP hD hS hl
      have hf : bd_M_run_336 N k_3 (hd_M_run_336 N k_3 n) x2 x3 x5 x6 x7 x22 x24 x26 s = some y := hf
      have hk_336 := ih
      generalize hd_M_run_336 N k_3 n = k_336 at hf hk_336
      unfold bd_M_run_336 at hf
      refine lv_iload hx hb dn_M_run_336 (lv_at hl 8 rfl) ?_
      refine lv_iload hx hb dn_M_run_338 (lv_at hl 3 rfl) ?_
      refine lv_icmp_ge (tgt := 359) hx hb dn_M_run_340 (by decide) (fun h => ?_) (fun h => ?_)
      · have hf := (if_pos h).symm.trans hf
        refine lv_aload_n hx hb dn_M_run_359 rfl (lv_at hl 0 rfl) ?_
        refine lv_lload hx hb dn_M_run_360 (lv_at hl 7 rfl) ?_
        obtain ⟨q_1, hc_2, hf⟩ := dc_b hf
        refine dc_callv (dc_runV (ar := 1) (As := [.long x24]) (rest := []) (ci := 0) (q0 := 0) ⟨hx, hb, hml, hown, hg⟩ hK hN hT hS hA (ct_M_push l dC dI cI cB cJ cZ cQ N H.size h0 a x24 s q_1 hc_2) hP hD rfl rfl wn_10_212 wn_10_214 sn_M_push wn_1_13 wn_10_215 rfl rfl (by decide +kernel) ⟨Nat.le_of_ble_eq_true rfl, Nat.le_of_ble_eq_true rfl⟩ rfl hl.1 rfl (Nat.le_of_ble_eq_true rfl) dn_M_run_362 ⟨Nat.le_of_ble_eq_true rfl, Nat.le_of_ble_eq_true rfl⟩) hP hD hS hA (fun _ H locs hw hP hD hS => ?_)
        refine lv_goto (tgt := 512) hx hb dn_M_run_365 (by decide) ?_
        refine lv_iload hx hb dn_M_run_512 (lv_at hl 5 rfl) ?_
        refine lv_istore (lv' := [(4, .int x7), (0, .ref h0), (2, .int x2), (3, .int x3), (5, .int x5), (6, .int x6), (7, .int x7), (22, .long x22), (24, .long x24), (26, .int x26)]) hx hb dn_M_run_514 hl (by decide) rfl (fun ls hl => ?_)
        refine lv_goto (tgt := 3) hx hb dn_M_run_516 (by decide) ?_
        exact hk_3 x2 x3 x7 q_1.2 hf H locs ls hP hD hS (lv_sub hl [1, 2, 3, 0] rfl)
      · have hf := (if_neg h).symm.trans hf
        refine lv_lload hx hb dn_M_run_343 (lv_at hl 7 rfl) ?_
        refine lv_iload hx hb dn_M_run_345 (lv_at hl 4 rfl) ?_
        refine lv_lshl (v := (x24 : Int64) <<< ((Int32.toInt64 x6) &&& 63)) hx hb dn_M_run_347 rfl ?_
        refine lv_lload hx hb dn_M_run_348 (lv_at hl 6 rfl) ?_
        refine lv_lor hx hb dn_M_run_350 ?_
        refine lv_lstore (lv' := [(24, .long ((((x24 : Int64) <<< ((Int32.toInt64 x6) &&& 63)) ||| x22))), (0, .ref h0), (2, .int x2), (3, .int x3), (5, .int x5), (6, .int x6), (7, .int x7), (22, .long x22), (26, .int x26)]) hx hb dn_M_run_351 hl (by decide) rfl (fun ls hl => ?_)
        refine lv_iinc (v := (x26 + 1)) (lv' := [(26, .int ((x26 + 1))), (24, .long ((((x24 : Int64) <<< ((Int32.toInt64 x6) &&& 63)) ||| x22))), (0, .ref h0), (2, .int x2), (3, .int x3), (5, .int x5), (6, .int x6), (7, .int x7), (22, .long x22)]) hx hb dn_M_run_353 hl (k := 8) rfl (dc_inc (by decide)) (by decide) rfl (fun ls hl => ?_)
        refine lv_goto (tgt := 336) hx hb dn_M_run_356 (by decide) ?_
        exact hk_336 x2 x3 x5 x6 x7 x22 ((((x24 : Int64) <<< ((Int32.toInt64 x6) &&& 63)) ||| x22)) ((x26 + 1)) s hf H locs ls hP hD hS (lv_sub hl [2, 3, 4, 5, 6, 7, 8, 1, 0] rfl)
  have bl_456 : ∀ (k_3 : Int32 → Int32 → Int32 → ms → Option (Unit × ms)) (hk_3 : ∀ (x2 : Int32) (x3 : Int32) (x4 : Int32) (s : ms), k_3 x2 x3 x4 s = some y → dcC p l e ({ frames := 2, cells := 0, slots := 0, locals := 48 }) s0 m [.ref h0, .int v1, .int v2, .int v3].toArray below meth c QQ (dC, dI) A (wM h0 a cI cB cJ cZ s) 3 29 [(0, .ref h0), (2, .int x2), (3, .int x3), (4, .int x4)] []) (x2 : Int32) (x3 : Int32) (t0 : Int32) (s : ms), bk_M_run_456 N k_3 x2 x3 t0 s = some y → dcC p l e ({ frames := 2, cells := 0, slots := 0, locals := 48 }) s0 m [.ref h0, .int v1, .int v2, .int v3].toArray below meth c QQ (dC, dI) A (wM h0 a cI cB cJ cZ s) 456 29 [(0, .ref h0), (2, .int x2), (3, .int x3)] [.int t0] := by
    intro k_3 hk_3 x2 x3 t0 s hf H locs ls hP hD hS hl
    unfold bk_M_run_456 at hf
    refine lv_istore (lv' := [(7, .int t0), (0, .ref h0), (2, .int x2), (3, .int x3)]) hx hb dn_M_run_456 hl (by decide) rfl (fun ls hl => ?_)
    refine lv_goto (tgt := 512) hx hb dn_M_run_458 (by decide) ?_
    refine lv_iload hx hb dn_M_run_512 (lv_at hl 0 rfl) ?_
    refine lv_istore (lv' := [(4, .int t0), (7, .int t0), (0, .ref h0), (2, .int x2), (3, .int x3)]) hx hb dn_M_run_514 hl (by decide) rfl (fun ls hl => ?_)
    refine lv_goto (tgt := 3) hx hb dn_M_run_516 (by decide) ?_
    exact hk_3 x2 x3 t0 s hf H locs ls hP hD hS (lv_sub hl [2, 3, 4, 0] rfl)
  have bl_497 : ∀ (k_3 : Int32 → Int32 → Int32 → ms → Option (Unit × ms)) (hk_3 : ∀ (x2 : Int32) (x3 : Int32) (x4 : Int32) (s : ms), k_3 x2 x3 x4 s = some y → dcC p l e ({ frames := 2, cells := 0, slots := 0, locals := 48 }) s0 m [.ref h0, .int v1, .int v2, .int v3].toArray below meth c QQ (dC, dI) A (wM h0 a cI cB cJ cZ s) 3 29 [(0, .ref h0), (2, .int x2), (3, .int x3), (4, .int x4)] []) (x2 : Int32) (x3 : Int32) (t0 : Int32) (s : ms), bk_M_run_497 N k_3 x2 x3 t0 s = some y → dcC p l e ({ frames := 2, cells := 0, slots := 0, locals := 48 }) s0 m [.ref h0, .int v1, .int v2, .int v3].toArray below meth c QQ (dC, dI) A (wM h0 a cI cB cJ cZ s) 497 29 [(0, .ref h0), (2, .int x2), (3, .int x3)] [.int t0] := by
    intro k_3 hk_3 x2 x3 t0 s hf H locs ls hP hD hS hl
    unfold bk_M_run_497 at hf
    refine lv_istore (lv' := [(7, .int t0), (0, .ref h0), (2, .int x2), (3, .int x3)]) hx hb dn_M_run_497 hl (by decide) rfl (fun ls hl => ?_)
    refine lv_goto (tgt := 512) hx hb dn_M_run_499 (by decide) ?_
    refine lv_iload hx hb dn_M_run_512 (lv_at hl 0 rfl) ?_
    refine lv_istore (lv' := [(4, .int t0), (7, .int t0), (0, .ref h0), (2, .int x2), (3, .int x3)]) hx hb dn_M_run_514 hl (by decide) rfl (fun ls hl => ?_)
    refine lv_goto (tgt := 3) hx hb dn_M_run_516 (by decide) ?_
    exact hk_3 x2 x3 t0 s hf H locs ls hP hD hS (lv_sub hl [2, 3, 4, 0] rfl)
  have hd_3 : ∀ (n : Nat) (x2 : Int32) (x3 : Int32) (x4 : Int32) (s : ms), hd_M_run_3 N n x2 x3 x4 s = some y → dcC p l e ({ frames := 2, cells := 0, slots := 0, locals := 48 }) s0 m [.ref h0, .int v1, .int v2, .int v3].toArray below meth c QQ (dC, dI) A (wM h0 a cI cB cJ cZ s) 3 29 [(0, .ref h0), (2, .int x2), (3, .int x3), (4, .int x4)] [] := by
    intro n
    induction n with
    | zero => intro x2 x3 x4 s hf; cases hf
    | succ n ih =>
      intro x2 x3 x4 s hf H locs ls hP hD hS hl
      have hf : bd_M_run_3 N (hd_M_run_3 N n) x2 x3 x4 s = some y := hf
      have hk_3 := ih
      generalize hd_M_run_3 N n = k_3 at hf hk_3
      unfold bd_M_run_3 at hf
      refine lv_iload hx hb dn_M_run_3 (lv_at hl 3 rfl) ?_
      refine lv_iload_n hx hb dn_M_run_5 rfl (lv_at hl 1 rfl) ?_
      refine lv_icmp_ge (tgt := 519) hx hb dn_M_run_6 (by decide) (fun h => ?_) (fun h => ?_)
      · have hf := (if_pos h).symm.trans hf
        rw [hQQ, ← Option.some.inj hf]
        exact xk_vret (w1 := fun u : Unit => (wM h0 a cI cB cJ cZ s)) () hx hb hr hlocks hK hS dn_M_run_519 hP hD trivial (Nat.le_refl _) (Nat.le_refl _)
      · have hf := (if_neg h).symm.trans hf
        refine lv_aload_n hx hb dn_M_run_9 rfl (lv_at hl 0 rfl) ?_
        refine va_get (D := (dC, dI)) (ci := 0) (v := .ref ((a 41))) (C := rn_M) (T := fn_M) (N := 91) hx hb hg in_M hown hK hP 0 rfl rfl 41 (by decide) (hg _ wn_8_109) (fun _ h9 => h9) rfl dn_M_run_10 ?_
        refine lv_iload hx hb dn_M_run_13 (lv_at hl 3 rfl) ?_
        refine lv_iconst (v := 1) hx hb dn_M_run_15 (by decide) ?_
        refine lv_iadd hx hb dn_M_run_16 ?_
        obtain ⟨hg_1, hf⟩ := dc_g hf
        refine va_iald hx hb hK hP 28 0 rfl rfl hg_1 dn_M_run_17 ?_
        refine xk_ti (y := ((s.1 41) (Int32.toNatClampNeg ((x4 + 1))))) rfl ?_
        refine lv_istore (lv' := [(5, .int (((s.1 41) (Int32.toNatClampNeg ((x4 + 1)))))), (0, .ref h0), (2, .int x2), (3, .int x3), (4, .int x4)]) hx hb dn_M_run_18 hl (by decide) rfl (fun ls hl => ?_)
        refine lv_aload_n hx hb dn_M_run_20 rfl (lv_at hl 1 rfl) ?_
        refine va_get (D := (dC, dI)) (ci := 0) (v := .ref ((a 41))) (C := rn_M) (T := fn_M) (N := 91) hx hb hg in_M hown hK hP 0 rfl rfl 41 (by decide) (hg _ wn_8_109) (fun _ h9 => h9) rfl dn_M_run_21 ?_
        refine lv_iload hx hb dn_M_run_24 (lv_at hl 4 rfl) ?_
        refine lv_iconst (v := 2) hx hb dn_M_run_26 (by decide) ?_
        refine lv_iadd hx hb dn_M_run_27 ?_
        obtain ⟨hg_2, hf⟩ := dc_g hf
        refine va_iald hx hb hK hP 28 0 rfl rfl hg_2 dn_M_run_28 ?_
        refine xk_ti (y := ((s.1 41) (Int32.toNatClampNeg ((x4 + 2))))) rfl ?_
        refine lv_istore (lv' := [(6, .int (((s.1 41) (Int32.toNatClampNeg ((x4 + 2)))))), (5, .int (((s.1 41) (Int32.toNatClampNeg ((x4 + 1)))))), (0, .ref h0), (2, .int x2), (3, .int x3), (4, .int x4)]) hx hb dn_M_run_29 hl (by decide) rfl (fun ls hl => ?_)
        refine lv_iload hx hb dn_M_run_31 (lv_at hl 5 rfl) ?_
        refine lv_iconst (v := 3) hx hb dn_M_run_33 (by decide) ?_
        refine lv_iadd hx hb dn_M_run_34 ?_
        refine lv_istore (lv' := [(7, .int ((x4 + 3))), (6, .int (((s.1 41) (Int32.toNatClampNeg ((x4 + 2)))))), (5, .int (((s.1 41) (Int32.toNatClampNeg ((x4 + 1)))))), (0, .ref h0), (2, .int x2), (3, .int x3), (4, .int x4)]) hx hb dn_M_run_35 hl (by decide) rfl (fun ls hl => ?_)
        refine lv_aload_n hx hb dn_M_run_37 rfl (lv_at hl 3 rfl) ?_
        refine va_get (D := (dC, dI)) (ci := 0) (v := .ref ((a 41))) (C := rn_M) (T := fn_M) (N := 91) hx hb hg in_M hown hK hP 0 rfl rfl 41 (by decide) (hg _ wn_8_109) (fun _ h9 => h9) rfl dn_M_run_38 ?_
        refine lv_iload hx hb dn_M_run_41 (lv_at hl 6 rfl) ?_
        obtain ⟨hg_3, hf⟩ := dc_g hf
        refine va_iald hx hb hK hP 28 0 rfl rfl hg_3 dn_M_run_43 ?_
        refine xk_ti (y := ((s.1 41) (Int32.toNatClampNeg x4))) rfl ?_
        by_cases h_0 : ((s.1 41) (Int32.toNatClampNeg x4)) = 0
        · have hf := (if_pos h_0).symm.trans hf
          refine xk_ti (y := 0) h_0 ?_
          refine lv_tableIn (tgt := 112) hx hb dn_M_run_44 (by decide) (by decide) rfl (by decide) ?_
          refine lv_aload_n hx hb dn_M_run_112 rfl (lv_at hl 3 rfl) ?_
          refine lv_aload_n hx hb dn_M_run_113 rfl (lv_at hl 3 rfl) ?_
          refine va_get (D := (dC, dI)) (ci := 0) (v := .ref ((a 43))) (C := rn_M) (T := fn_M) (N := 91) hx hb hg in_M hown hK hP 0 rfl rfl 43 (by decide) (hg _ wn_8_111) (fun _ h9 => h9) rfl dn_M_run_114 ?_
          refine lv_iload hx hb dn_M_run_117 (lv_at hl 2 rfl) ?_
          obtain ⟨hg_4, hf⟩ := dc_g hf
          refine va_lald hx hb hK hP 29 2 rfl rfl hg_4 dn_M_run_119 ?_
          refine xk_tl (y := ((s.2 43) (Int32.toNatClampNeg (((s.1 41) (Int32.toNatClampNeg ((x4 + 1)))))))) rfl ?_
          obtain ⟨q_5, hc_6, hf⟩ := dc_b hf
          refine dc_callv (dc_runV (ar := 1) (As := [.long (((s.2 43) (Int32.toNatClampNeg (((s.1 41) (Int32.toNatClampNeg ((x4 + 1))))))))]) (rest := []) (ci := 0) (q0 := 0) ⟨hx, hb, hml, hown, hg⟩ hK hN hT hS hA (ct_M_push l dC dI cI cB cJ cZ cQ N H.size h0 a (((s.2 43) (Int32.toNatClampNeg (((s.1 41) (Int32.toNatClampNeg ((x4 + 1)))))))) s q_5 hc_6) hP hD rfl rfl wn_10_212 wn_10_214 sn_M_push wn_1_13 wn_10_215 rfl rfl (by decide +kernel) ⟨Nat.le_of_ble_eq_true rfl, Nat.le_of_ble_eq_true rfl⟩ rfl hl.1 rfl (Nat.le_of_ble_eq_true rfl) dn_M_run_120 ⟨Nat.le_of_ble_eq_true rfl, Nat.le_of_ble_eq_true rfl⟩) hP hD hS hA (fun _ H locs hw hP hD hS => ?_)
          refine lv_goto (tgt := 512) hx hb dn_M_run_123 (by decide) ?_
          refine lv_iload hx hb dn_M_run_512 (lv_at hl 0 rfl) ?_
          refine lv_istore (lv' := [(4, .int ((x4 + 3))), (7, .int ((x4 + 3))), (6, .int (((s.1 41) (Int32.toNatClampNeg ((x4 + 2)))))), (5, .int (((s.1 41) (Int32.toNatClampNeg ((x4 + 1)))))), (0, .ref h0), (2, .int x2), (3, .int x3)]) hx hb dn_M_run_514 hl (by decide) rfl (fun ls hl => ?_)
          refine lv_goto (tgt := 3) hx hb dn_M_run_516 (by decide) ?_
          exact hk_3 x2 x3 ((x4 + 3)) q_5.2 hf H locs ls hP hD hS (lv_sub hl [4, 5, 6, 0] rfl)
        have hf := (if_neg h_0).symm.trans hf
        by_cases h_1 : ((s.1 41) (Int32.toNatClampNeg x4)) = 1
        · have hf := (if_pos h_1).symm.trans hf
          refine xk_ti (y := 1) h_1 ?_
          refine lv_tableIn (tgt := 126) hx hb dn_M_run_44 (by decide) (by decide) rfl (by decide) ?_
          refine lv_aload_n hx hb dn_M_run_126 rfl (lv_at hl 3 rfl) ?_
          refine lv_aload_n hx hb dn_M_run_127 rfl (lv_at hl 3 rfl) ?_
          refine va_get (D := (dC, dI)) (ci := 0) (v := .ref ((a 80))) (C := rn_M) (T := fn_M) (N := 91) hx hb hg in_M hown hK hP 0 rfl rfl 80 (by decide) (hg _ wn_8_148) (fun _ h9 => h9) rfl dn_M_run_128 ?_
          refine lv_aload_n hx hb dn_M_run_131 rfl (lv_at hl 3 rfl) ?_
          refine lv_iload_n hx hb dn_M_run_132 rfl (lv_at hl 5 rfl) ?_
          refine lv_iload hx hb dn_M_run_133 (lv_at hl 2 rfl) ?_
          obtain ⟨q_4, hc_5, hf⟩ := dc_b hf
          refine dc_calli (dc_runV (ar := 2) (As := [.int x3, .int (((s.1 41) (Int32.toNatClampNeg ((x4 + 1)))))]) (rest := [.ref ((a 80)), .ref h0]) (ci := 0) (q0 := 0) ⟨hx, hb, hml, hown, hg⟩ hK hN hT hS hA (ct_M_signalOf l dC dI cI cB cJ cZ cQ N H.size h0 a x3 (((s.1 41) (Int32.toNatClampNeg ((x4 + 1))))) s q_4 hc_5) hP hD rfl rfl wn_10_180 wn_10_182 sn_M_signalOf wn_1_13 wn_10_183 rfl rfl (by decide +kernel) ⟨Nat.le_of_ble_eq_true rfl, Nat.le_of_ble_eq_true rfl⟩ rfl hl.1 rfl (Nat.le_of_ble_eq_true rfl) dn_M_run_135 ⟨Nat.le_of_ble_eq_true rfl, Nat.le_of_ble_eq_true rfl⟩) hP hD hS hA (fun r_6 _ H locs hw hP hD hS => ?_)
          have hw : r_6 = q_4.1 := hw
          subst hw
          obtain ⟨hg_7, hf⟩ := dc_g hf
          refine va_lald hx hb hK hP 54 2 rfl rfl hg_7 dn_M_run_138 ?_
          refine xk_tl (y := ((q_4.2.2 80) (Int32.toNatClampNeg q_4.1))) rfl ?_
          obtain ⟨q_8, hc_9, hf⟩ := dc_b hf
          refine dc_callv (dc_runV (ar := 1) (As := [.long (((q_4.2.2 80) (Int32.toNatClampNeg q_4.1)))]) (rest := []) (ci := 0) (q0 := 0) ⟨hx, hb, hml, hown, hg⟩ hK hN hT hS hA (ct_M_push l dC dI cI cB cJ cZ cQ N H.size h0 a (((q_4.2.2 80) (Int32.toNatClampNeg q_4.1))) q_4.2 q_8 hc_9) hP hD rfl rfl wn_10_212 wn_10_214 sn_M_push wn_1_13 wn_10_215 rfl rfl (by decide +kernel) ⟨Nat.le_of_ble_eq_true rfl, Nat.le_of_ble_eq_true rfl⟩ rfl hl.1 rfl (Nat.le_of_ble_eq_true rfl) dn_M_run_139 ⟨Nat.le_of_ble_eq_true rfl, Nat.le_of_ble_eq_true rfl⟩) hP hD hS hA (fun _ H locs hw hP hD hS => ?_)
          refine lv_goto (tgt := 512) hx hb dn_M_run_142 (by decide) ?_
          refine lv_iload hx hb dn_M_run_512 (lv_at hl 0 rfl) ?_
          refine lv_istore (lv' := [(4, .int ((x4 + 3))), (7, .int ((x4 + 3))), (6, .int (((s.1 41) (Int32.toNatClampNeg ((x4 + 2)))))), (5, .int (((s.1 41) (Int32.toNatClampNeg ((x4 + 1)))))), (0, .ref h0), (2, .int x2), (3, .int x3)]) hx hb dn_M_run_514 hl (by decide) rfl (fun ls hl => ?_)
          refine lv_goto (tgt := 3) hx hb dn_M_run_516 (by decide) ?_
          exact hk_3 x2 x3 ((x4 + 3)) q_8.2 hf H locs ls hP hD hS (lv_sub hl [4, 5, 6, 0] rfl)
        have hf := (if_neg h_1).symm.trans hf
        by_cases h_2 : ((s.1 41) (Int32.toNatClampNeg x4)) = 2
        · have hf := (if_pos h_2).symm.trans hf
          refine xk_ti (y := 2) h_2 ?_
          refine lv_tableIn (tgt := 145) hx hb dn_M_run_44 (by decide) (by decide) rfl (by decide) ?_
          refine lv_aload_n hx hb dn_M_run_145 rfl (lv_at hl 3 rfl) ?_
          refine lv_aload_n hx hb dn_M_run_146 rfl (lv_at hl 3 rfl) ?_
          obtain ⟨q_4, hc_5, hf⟩ := dc_b hf
          refine dc_calll (dc_runV (ar := 0) (As := []) (rest := [.ref h0]) (ci := 0) (q0 := 0) ⟨hx, hb, hml, hown, hg⟩ hK hN hT hS hA (ct_M_pop l dC dI cI cB cJ cZ cQ N H.size h0 a s q_4 hc_5) hP hD rfl rfl wn_10_216 wn_10_218 sn_M_pop wn_1_13 wn_10_219 rfl rfl (by decide +kernel) ⟨Nat.le_of_ble_eq_true rfl, Nat.le_of_ble_eq_true rfl⟩ rfl hl.1 rfl (Nat.le_of_ble_eq_true rfl) dn_M_run_147 ⟨Nat.le_of_ble_eq_true rfl, Nat.le_of_ble_eq_true rfl⟩) hP hD hS hA (fun r_6 _ H locs hw hP hD hS => ?_)
          have hw : r_6 = q_4.1 := hw
          subst hw
          refine lv_iload hx hb dn_M_run_150 (lv_at hl 1 rfl) ?_
          refine lv_lushr (v := (Int64.toUInt64 q_4.1 >>> (Int64.toUInt64 (Int32.toInt64 (((s.1 41) (Int32.toNatClampNeg ((x4 + 2)))))) &&& Int64.toUInt64 63)).toInt64) hx hb dn_M_run_152 rfl ?_
          refine lv_iload hx hb dn_M_run_153 (lv_at hl 2 rfl) ?_
          refine lv_iload hx hb dn_M_run_155 (lv_at hl 1 rfl) ?_
          refine lv_isub hx hb dn_M_run_157 ?_
          refine lv_iconst (v := 1) hx hb dn_M_run_158 (by decide) ?_
          refine lv_iadd hx hb dn_M_run_159 ?_
          obtain ⟨q_7, hc_8, hf⟩ := dc_b hf
          refine dc_calll (dc_runS (ar := 1) (As := [.int (((((s.1 41) (Int32.toNatClampNeg ((x4 + 1)))) - ((s.1 41) (Int32.toNatClampNeg ((x4 + 2))))) + 1))]) (rest := [.long (((Int64.toUInt64 q_4.1 >>> (Int64.toUInt64 (Int32.toInt64 (((s.1 41) (Int32.toNatClampNeg ((x4 + 2)))))) &&& Int64.toUInt64 63)).toInt64)), .ref h0]) ⟨hx, hb, hml, hown, hg⟩ hK hN hT hS hA (ct_M_mask l dC dI cI cB cJ cZ cQ N H.size h0 a (((((s.1 41) (Int32.toNatClampNeg ((x4 + 1)))) - ((s.1 41) (Int32.toNatClampNeg ((x4 + 2))))) + 1)) q_4.2 q_7 hc_8) hP hD wn_10_220 wn_10_221 wn_1_13 wn_10_222 rfl rfl (by decide +kernel) ⟨Nat.le_of_ble_eq_true rfl, Nat.le_of_ble_eq_true rfl⟩ rfl hl.1 rfl (Nat.le_of_ble_eq_true rfl) dn_M_run_160 ⟨Nat.le_of_ble_eq_true rfl, Nat.le_of_ble_eq_true rfl⟩) hP hD hS hA (fun r_9 _ H locs hw hP hD hS => ?_)
          have hw : r_9 = q_7.1 := hw
          subst hw
          refine lv_land hx hb dn_M_run_163 ?_
          obtain ⟨q_10, hc_11, hf⟩ := dc_b hf
          refine dc_callv (dc_runV (ar := 1) (As := [.long ((((Int64.toUInt64 q_4.1 >>> (Int64.toUInt64 (Int32.toInt64 (((s.1 41) (Int32.toNatClampNeg ((x4 + 2)))))) &&& Int64.toUInt64 63)).toInt64) &&& q_7.1))]) (rest := []) (ci := 0) (q0 := 0) ⟨hx, hb, hml, hown, hg⟩ hK hN hT hS hA (ct_M_push l dC dI cI cB cJ cZ cQ N H.size h0 a ((((Int64.toUInt64 q_4.1 >>> (Int64.toUInt64 (Int32.toInt64 (((s.1 41) (Int32.toNatClampNeg ((x4 + 2)))))) &&& Int64.toUInt64 63)).toInt64) &&& q_7.1)) q_7.2 q_10 hc_11) hP hD rfl rfl wn_10_212 wn_10_214 sn_M_push wn_1_13 wn_10_215 rfl rfl (by decide +kernel) ⟨Nat.le_of_ble_eq_true rfl, Nat.le_of_ble_eq_true rfl⟩ rfl hl.1 rfl (Nat.le_of_ble_eq_true rfl) dn_M_run_164 ⟨Nat.le_of_ble_eq_true rfl, Nat.le_of_ble_eq_true rfl⟩) hP hD hS hA (fun _ H locs hw hP hD hS => ?_)
          refine lv_goto (tgt := 512) hx hb dn_M_run_167 (by decide) ?_
          refine lv_iload hx hb dn_M_run_512 (lv_at hl 0 rfl) ?_
          refine lv_istore (lv' := [(4, .int ((x4 + 3))), (7, .int ((x4 + 3))), (6, .int (((s.1 41) (Int32.toNatClampNeg ((x4 + 2)))))), (5, .int (((s.1 41) (Int32.toNatClampNeg ((x4 + 1)))))), (0, .ref h0), (2, .int x2), (3, .int x3)]) hx hb dn_M_run_514 hl (by decide) rfl (fun ls hl => ?_)
          refine lv_goto (tgt := 3) hx hb dn_M_run_516 (by decide) ?_
          exact hk_3 x2 x3 ((x4 + 3)) q_10.2 hf H locs ls hP hD hS (lv_sub hl [4, 5, 6, 0] rfl)
        have hf := (if_neg h_2).symm.trans hf
        by_cases h_3 : ((s.1 41) (Int32.toNatClampNeg x4)) = 3
        · have hf := (if_pos h_3).symm.trans hf
          refine xk_ti (y := 3) h_3 ?_
          refine lv_tableIn (tgt := 170) hx hb dn_M_run_44 (by decide) (by decide) rfl (by decide) ?_
          refine lv_aload_n hx hb dn_M_run_170 rfl (lv_at hl 3 rfl) ?_
          obtain ⟨q_4, hc_5, hf⟩ := dc_b hf
          refine dc_calll (dc_runV (ar := 0) (As := []) (rest := []) (ci := 0) (q0 := 0) ⟨hx, hb, hml, hown, hg⟩ hK hN hT hS hA (ct_M_pop l dC dI cI cB cJ cZ cQ N H.size h0 a s q_4 hc_5) hP hD rfl rfl wn_10_216 wn_10_218 sn_M_pop wn_1_13 wn_10_219 rfl rfl (by decide +kernel) ⟨Nat.le_of_ble_eq_true rfl, Nat.le_of_ble_eq_true rfl⟩ rfl hl.1 rfl (Nat.le_of_ble_eq_true rfl) dn_M_run_171 ⟨Nat.le_of_ble_eq_true rfl, Nat.le_of_ble_eq_true rfl⟩) hP hD hS hA (fun r_6 _ H locs hw hP hD hS => ?_)
          have hw : r_6 = q_4.1 := hw
          subst hw
          refine lv_lstore (lv' := [(8, .long q_4.1), (7, .int ((x4 + 3))), (6, .int (((s.1 41) (Int32.toNatClampNeg ((x4 + 2)))))), (5, .int (((s.1 41) (Int32.toNatClampNeg ((x4 + 1)))))), (0, .ref h0), (2, .int x2), (3, .int x3), (4, .int x4)]) hx hb dn_M_run_174 hl (by decide) rfl (fun ls hl => ?_)
          refine lv_aload_n hx hb dn_M_run_176 rfl (lv_at hl 4 rfl) ?_
          obtain ⟨q_7, hc_8, hf⟩ := dc_b hf
          refine dc_calll (dc_runV (ar := 0) (As := []) (rest := []) (ci := 0) (q0 := 0) ⟨hx, hb, hml, hown, hg⟩ hK hN hT hS hA (ct_M_pop l dC dI cI cB cJ cZ cQ N H.size h0 a q_4.2 q_7 hc_8) hP hD rfl rfl wn_10_216 wn_10_218 sn_M_pop wn_1_13 wn_10_219 rfl rfl (by decide +kernel) ⟨Nat.le_of_ble_eq_true rfl, Nat.le_of_ble_eq_true rfl⟩ rfl hl.1 rfl (Nat.le_of_ble_eq_true rfl) dn_M_run_177 ⟨Nat.le_of_ble_eq_true rfl, Nat.le_of_ble_eq_true rfl⟩) hP hD hS hA (fun r_9 _ H locs hw hP hD hS => ?_)
          have hw : r_9 = q_7.1 := hw
          subst hw
          refine lv_lstore (lv' := [(10, .long q_7.1), (8, .long q_4.1), (7, .int ((x4 + 3))), (6, .int (((s.1 41) (Int32.toNatClampNeg ((x4 + 2)))))), (5, .int (((s.1 41) (Int32.toNatClampNeg ((x4 + 1)))))), (0, .ref h0), (2, .int x2), (3, .int x3), (4, .int x4)]) hx hb dn_M_run_180 hl (by decide) rfl (fun ls hl => ?_)
          refine lv_aload_n hx hb dn_M_run_182 rfl (lv_at hl 5 rfl) ?_
          refine lv_lload hx hb dn_M_run_183 (lv_at hl 1 rfl) ?_
          refine lv_lconst (v := 0) hx hb dn_M_run_185 (by decide) ?_
          refine W.lcmp hx hb dn_M_run_186 ?_
          refine lv_if_lt (tgt := 199) hx hb dn_M_run_187 (by decide) (fun h => ?_) (fun h => ?_)
          · have hf := (if_pos h).symm.trans hf
            exact bl_199 k_3 hk_3 x2 x3 ((x4 + 3)) q_7.2 hf H locs ls hP hD hS (lv_sub hl [5, 6, 7, 2] rfl)
          · have hf := (if_neg h).symm.trans hf
            refine lv_lload hx hb dn_M_run_190 (lv_at hl 1 rfl) ?_
            refine lv_iload hx hb dn_M_run_192 (lv_at hl 4 rfl) ?_
            refine lv_i2l (v := Int32.toInt64 (((s.1 41) (Int32.toNatClampNeg ((x4 + 1)))))) hx hb dn_M_run_194 rfl ?_
            refine W.lcmp hx hb dn_M_run_195 ?_
            refine lv_if_lt (tgt := 203) hx hb dn_M_run_196 (by decide) (fun h => ?_) (fun h => ?_)
            · have hf := (if_pos h).symm.trans hf
              refine lv_lload hx hb dn_M_run_203 (lv_at hl 0 rfl) ?_
              refine lv_lload hx hb dn_M_run_205 (lv_at hl 1 rfl) ?_
              refine lv_l2i (v := Int64.toInt32 q_4.1) hx hb dn_M_run_207 rfl ?_
              refine lv_lushr (v := (Int64.toUInt64 q_7.1 >>> (Int64.toUInt64 (Int32.toInt64 ((Int64.toInt32 q_4.1))) &&& Int64.toUInt64 63)).toInt64) hx hb dn_M_run_208 rfl ?_
              refine lv_lconst (v := 1) hx hb dn_M_run_209 (by decide) ?_
              refine lv_land hx hb dn_M_run_210 ?_
              exact bl_211 k_3 hk_3 x2 x3 ((x4 + 3)) ((((Int64.toUInt64 q_7.1 >>> (Int64.toUInt64 (Int32.toInt64 ((Int64.toInt32 q_4.1))) &&& Int64.toUInt64 63)).toInt64) &&& 1)) q_7.2 hf H locs ls hP hD hS (lv_sub hl [5, 6, 7, 2] rfl)
            · have hf := (if_neg h).symm.trans hf
              exact bl_199 k_3 hk_3 x2 x3 ((x4 + 3)) q_7.2 hf H locs ls hP hD hS (lv_sub hl [5, 6, 7, 2] rfl)
        have hf := (if_neg h_3).symm.trans hf
        by_cases h_4 : ((s.1 41) (Int32.toNatClampNeg x4)) = 4
        · have hf := (if_pos h_4).symm.trans hf
          refine xk_ti (y := 4) h_4 ?_
          refine lv_tableIn (tgt := 217) hx hb dn_M_run_44 (by decide) (by decide) rfl (by decide) ?_
          refine lv_aload_n hx hb dn_M_run_217 rfl (lv_at hl 3 rfl) ?_
          refine lv_iload hx hb dn_M_run_218 (lv_at hl 2 rfl) ?_
          refine lv_iload hx hb dn_M_run_220 (lv_at hl 1 rfl) ?_
          refine lv_aload_n hx hb dn_M_run_222 rfl (lv_at hl 3 rfl) ?_
          obtain ⟨q_4, hc_5, hf⟩ := dc_b hf
          refine dc_calll (dc_runV (ar := 0) (As := []) (rest := [.int (((s.1 41) (Int32.toNatClampNeg ((x4 + 2))))), .int (((s.1 41) (Int32.toNatClampNeg ((x4 + 1))))), .ref h0]) (ci := 0) (q0 := 0) ⟨hx, hb, hml, hown, hg⟩ hK hN hT hS hA (ct_M_pop l dC dI cI cB cJ cZ cQ N H.size h0 a s q_4 hc_5) hP hD rfl rfl wn_10_216 wn_10_218 sn_M_pop wn_1_13 wn_10_219 rfl rfl (by decide +kernel) ⟨Nat.le_of_ble_eq_true rfl, Nat.le_of_ble_eq_true rfl⟩ rfl hl.1 rfl (Nat.le_of_ble_eq_true rfl) dn_M_run_223 ⟨Nat.le_of_ble_eq_true rfl, Nat.le_of_ble_eq_true rfl⟩) hP hD hS hA (fun r_6 _ H locs hw hP hD hS => ?_)
          have hw : r_6 = q_4.1 := hw
          subst hw
          obtain ⟨q_7, hc_8, hf⟩ := dc_b hf
          refine dc_calll (dc_runS (ar := 3) (As := [.int (((s.1 41) (Int32.toNatClampNeg ((x4 + 1))))), .int (((s.1 41) (Int32.toNatClampNeg ((x4 + 2))))), .long q_4.1]) (rest := [.ref h0]) ⟨hx, hb, hml, hown, hg⟩ hK hN hT hS hA (ct_M_one l dC dI cI cB cJ cZ cQ N H.size h0 a (((s.1 41) (Int32.toNatClampNeg ((x4 + 1))))) (((s.1 41) (Int32.toNatClampNeg ((x4 + 2))))) q_4.1 q_4.2 q_7 hc_8) hP hD wn_10_224 wn_10_225 wn_1_13 wn_10_226 rfl rfl (by decide +kernel) ⟨Nat.le_of_ble_eq_true rfl, Nat.le_of_ble_eq_true rfl⟩ rfl hl.1 rfl (Nat.le_of_ble_eq_true rfl) dn_M_run_226 ⟨Nat.le_of_ble_eq_true rfl, Nat.le_of_ble_eq_true rfl⟩) hP hD hS hA (fun r_9 _ H locs hw hP hD hS => ?_)
          have hw : r_9 = q_7.1 := hw
          subst hw
          obtain ⟨q_10, hc_11, hf⟩ := dc_b hf
          refine dc_callv (dc_runV (ar := 1) (As := [.long q_7.1]) (rest := []) (ci := 0) (q0 := 0) ⟨hx, hb, hml, hown, hg⟩ hK hN hT hS hA (ct_M_push l dC dI cI cB cJ cZ cQ N H.size h0 a q_7.1 q_7.2 q_10 hc_11) hP hD rfl rfl wn_10_212 wn_10_214 sn_M_push wn_1_13 wn_10_215 rfl rfl (by decide +kernel) ⟨Nat.le_of_ble_eq_true rfl, Nat.le_of_ble_eq_true rfl⟩ rfl hl.1 rfl (Nat.le_of_ble_eq_true rfl) dn_M_run_229 ⟨Nat.le_of_ble_eq_true rfl, Nat.le_of_ble_eq_true rfl⟩) hP hD hS hA (fun _ H locs hw hP hD hS => ?_)
          refine lv_goto (tgt := 512) hx hb dn_M_run_232 (by decide) ?_
          refine lv_iload hx hb dn_M_run_512 (lv_at hl 0 rfl) ?_
          refine lv_istore (lv' := [(4, .int ((x4 + 3))), (7, .int ((x4 + 3))), (6, .int (((s.1 41) (Int32.toNatClampNeg ((x4 + 2)))))), (5, .int (((s.1 41) (Int32.toNatClampNeg ((x4 + 1)))))), (0, .ref h0), (2, .int x2), (3, .int x3)]) hx hb dn_M_run_514 hl (by decide) rfl (fun ls hl => ?_)
          refine lv_goto (tgt := 3) hx hb dn_M_run_516 (by decide) ?_
          exact hk_3 x2 x3 ((x4 + 3)) q_10.2 hf H locs ls hP hD hS (lv_sub hl [4, 5, 6, 0] rfl)
        have hf := (if_neg h_4).symm.trans hf
        by_cases h_5 : ((s.1 41) (Int32.toNatClampNeg x4)) = 5
        · have hf := (if_pos h_5).symm.trans hf
          refine xk_ti (y := 5) h_5 ?_
          refine lv_tableIn (tgt := 235) hx hb dn_M_run_44 (by decide) (by decide) rfl (by decide) ?_
          refine lv_aload_n hx hb dn_M_run_235 rfl (lv_at hl 3 rfl) ?_
          obtain ⟨q_4, hc_5, hf⟩ := dc_b hf
          refine dc_calll (dc_runV (ar := 0) (As := []) (rest := []) (ci := 0) (q0 := 0) ⟨hx, hb, hml, hown, hg⟩ hK hN hT hS hA (ct_M_pop l dC dI cI cB cJ cZ cQ N H.size h0 a s q_4 hc_5) hP hD rfl rfl wn_10_216 wn_10_218 sn_M_pop wn_1_13 wn_10_219 rfl rfl (by decide +kernel) ⟨Nat.le_of_ble_eq_true rfl, Nat.le_of_ble_eq_true rfl⟩ rfl hl.1 rfl (Nat.le_of_ble_eq_true rfl) dn_M_run_236 ⟨Nat.le_of_ble_eq_true rfl, Nat.le_of_ble_eq_true rfl⟩) hP hD hS hA (fun r_6 _ H locs hw hP hD hS => ?_)
          have hw : r_6 = q_4.1 := hw
          subst hw
          refine lv_lstore (lv' := [(12, .long q_4.1), (7, .int ((x4 + 3))), (6, .int (((s.1 41) (Int32.toNatClampNeg ((x4 + 2)))))), (5, .int (((s.1 41) (Int32.toNatClampNeg ((x4 + 1)))))), (0, .ref h0), (2, .int x2), (3, .int x3), (4, .int x4)]) hx hb dn_M_run_239 hl (by decide) rfl (fun ls hl => ?_)
          refine lv_aload_n hx hb dn_M_run_241 rfl (lv_at hl 4 rfl) ?_
          obtain ⟨q_7, hc_8, hf⟩ := dc_b hf
          refine dc_calll (dc_runV (ar := 0) (As := []) (rest := []) (ci := 0) (q0 := 0) ⟨hx, hb, hml, hown, hg⟩ hK hN hT hS hA (ct_M_pop l dC dI cI cB cJ cZ cQ N H.size h0 a q_4.2 q_7 hc_8) hP hD rfl rfl wn_10_216 wn_10_218 sn_M_pop wn_1_13 wn_10_219 rfl rfl (by decide +kernel) ⟨Nat.le_of_ble_eq_true rfl, Nat.le_of_ble_eq_true rfl⟩ rfl hl.1 rfl (Nat.le_of_ble_eq_true rfl) dn_M_run_242 ⟨Nat.le_of_ble_eq_true rfl, Nat.le_of_ble_eq_true rfl⟩) hP hD hS hA (fun r_9 _ H locs hw hP hD hS => ?_)
          have hw : r_9 = q_7.1 := hw
          subst hw
          refine lv_lstore (lv' := [(14, .long q_7.1), (12, .long q_4.1), (7, .int ((x4 + 3))), (6, .int (((s.1 41) (Int32.toNatClampNeg ((x4 + 2)))))), (5, .int (((s.1 41) (Int32.toNatClampNeg ((x4 + 1)))))), (0, .ref h0), (2, .int x2), (3, .int x3), (4, .int x4)]) hx hb dn_M_run_245 hl (by decide) rfl (fun ls hl => ?_)
          refine lv_aload_n hx hb dn_M_run_247 rfl (lv_at hl 5 rfl) ?_
          refine lv_iload hx hb dn_M_run_248 (lv_at hl 4 rfl) ?_
          refine lv_iload hx hb dn_M_run_250 (lv_at hl 3 rfl) ?_
          refine lv_lload hx hb dn_M_run_252 (lv_at hl 0 rfl) ?_
          refine lv_lload hx hb dn_M_run_254 (lv_at hl 1 rfl) ?_
          obtain ⟨q_10, hc_11, hf⟩ := dc_b hf
          refine dc_calll (dc_runS (ar := 4) (As := [.int (((s.1 41) (Int32.toNatClampNeg ((x4 + 1))))), .int (((s.1 41) (Int32.toNatClampNeg ((x4 + 2))))), .long q_7.1, .long q_4.1]) (rest := [.ref h0]) ⟨hx, hb, hml, hown, hg⟩ hK hN hT hS hA (ct_M_two l dC dI cI cB cJ cZ cQ N H.size h0 a (((s.1 41) (Int32.toNatClampNeg ((x4 + 1))))) (((s.1 41) (Int32.toNatClampNeg ((x4 + 2))))) q_7.1 q_4.1 q_7.2 q_10 hc_11) hP hD wn_10_227 wn_10_228 wn_1_13 wn_10_229 rfl rfl (by decide +kernel) ⟨Nat.le_of_ble_eq_true rfl, Nat.le_of_ble_eq_true rfl⟩ rfl hl.1 rfl (Nat.le_of_ble_eq_true rfl) dn_M_run_256 ⟨Nat.le_of_ble_eq_true rfl, Nat.le_of_ble_eq_true rfl⟩) hP hD hS hA (fun r_12 _ H locs hw hP hD hS => ?_)
          have hw : r_12 = q_10.1 := hw
          subst hw
          obtain ⟨q_13, hc_14, hf⟩ := dc_b hf
          refine dc_callv (dc_runV (ar := 1) (As := [.long q_10.1]) (rest := []) (ci := 0) (q0 := 0) ⟨hx, hb, hml, hown, hg⟩ hK hN hT hS hA (ct_M_push l dC dI cI cB cJ cZ cQ N H.size h0 a q_10.1 q_10.2 q_13 hc_14) hP hD rfl rfl wn_10_212 wn_10_214 sn_M_push wn_1_13 wn_10_215 rfl rfl (by decide +kernel) ⟨Nat.le_of_ble_eq_true rfl, Nat.le_of_ble_eq_true rfl⟩ rfl hl.1 rfl (Nat.le_of_ble_eq_true rfl) dn_M_run_259 ⟨Nat.le_of_ble_eq_true rfl, Nat.le_of_ble_eq_true rfl⟩) hP hD hS hA (fun _ H locs hw hP hD hS => ?_)
          refine lv_goto (tgt := 512) hx hb dn_M_run_262 (by decide) ?_
          refine lv_iload hx hb dn_M_run_512 (lv_at hl 2 rfl) ?_
          refine lv_istore (lv' := [(4, .int ((x4 + 3))), (14, .long q_7.1), (12, .long q_4.1), (7, .int ((x4 + 3))), (6, .int (((s.1 41) (Int32.toNatClampNeg ((x4 + 2)))))), (5, .int (((s.1 41) (Int32.toNatClampNeg ((x4 + 1)))))), (0, .ref h0), (2, .int x2), (3, .int x3)]) hx hb dn_M_run_514 hl (by decide) rfl (fun ls hl => ?_)
          refine lv_goto (tgt := 3) hx hb dn_M_run_516 (by decide) ?_
          exact hk_3 x2 x3 ((x4 + 3)) q_13.2 hf H locs ls hP hD hS (lv_sub hl [6, 7, 8, 0] rfl)
        have hf := (if_neg h_5).symm.trans hf
        by_cases h_6 : ((s.1 41) (Int32.toNatClampNeg x4)) = 6
        · have hf := (if_pos h_6).symm.trans hf
          refine xk_ti (y := 6) h_6 ?_
          refine lv_tableIn (tgt := 265) hx hb dn_M_run_44 (by decide) (by decide) rfl (by decide) ?_
          refine lv_aload_n hx hb dn_M_run_265 rfl (lv_at hl 3 rfl) ?_
          obtain ⟨q_4, hc_5, hf⟩ := dc_b hf
          refine dc_calll (dc_runV (ar := 0) (As := []) (rest := []) (ci := 0) (q0 := 0) ⟨hx, hb, hml, hown, hg⟩ hK hN hT hS hA (ct_M_pop l dC dI cI cB cJ cZ cQ N H.size h0 a s q_4 hc_5) hP hD rfl rfl wn_10_216 wn_10_218 sn_M_pop wn_1_13 wn_10_219 rfl rfl (by decide +kernel) ⟨Nat.le_of_ble_eq_true rfl, Nat.le_of_ble_eq_true rfl⟩ rfl hl.1 rfl (Nat.le_of_ble_eq_true rfl) dn_M_run_266 ⟨Nat.le_of_ble_eq_true rfl, Nat.le_of_ble_eq_true rfl⟩) hP hD hS hA (fun r_6 _ H locs hw hP hD hS => ?_)
          have hw : r_6 = q_4.1 := hw
          subst hw
          refine lv_lstore (lv' := [(16, .long q_4.1), (7, .int ((x4 + 3))), (6, .int (((s.1 41) (Int32.toNatClampNeg ((x4 + 2)))))), (5, .int (((s.1 41) (Int32.toNatClampNeg ((x4 + 1)))))), (0, .ref h0), (2, .int x2), (3, .int x3), (4, .int x4)]) hx hb dn_M_run_269 hl (by decide) rfl (fun ls hl => ?_)
          refine lv_aload_n hx hb dn_M_run_271 rfl (lv_at hl 4 rfl) ?_
          obtain ⟨q_7, hc_8, hf⟩ := dc_b hf
          refine dc_calll (dc_runV (ar := 0) (As := []) (rest := []) (ci := 0) (q0 := 0) ⟨hx, hb, hml, hown, hg⟩ hK hN hT hS hA (ct_M_pop l dC dI cI cB cJ cZ cQ N H.size h0 a q_4.2 q_7 hc_8) hP hD rfl rfl wn_10_216 wn_10_218 sn_M_pop wn_1_13 wn_10_219 rfl rfl (by decide +kernel) ⟨Nat.le_of_ble_eq_true rfl, Nat.le_of_ble_eq_true rfl⟩ rfl hl.1 rfl (Nat.le_of_ble_eq_true rfl) dn_M_run_272 ⟨Nat.le_of_ble_eq_true rfl, Nat.le_of_ble_eq_true rfl⟩) hP hD hS hA (fun r_9 _ H locs hw hP hD hS => ?_)
          have hw : r_9 = q_7.1 := hw
          subst hw
          refine lv_lstore (lv' := [(18, .long q_7.1), (16, .long q_4.1), (7, .int ((x4 + 3))), (6, .int (((s.1 41) (Int32.toNatClampNeg ((x4 + 2)))))), (5, .int (((s.1 41) (Int32.toNatClampNeg ((x4 + 1)))))), (0, .ref h0), (2, .int x2), (3, .int x3), (4, .int x4)]) hx hb dn_M_run_275 hl (by decide) rfl (fun ls hl => ?_)
          refine lv_aload_n hx hb dn_M_run_277 rfl (lv_at hl 5 rfl) ?_
          refine lv_aload_n hx hb dn_M_run_278 rfl (lv_at hl 5 rfl) ?_
          obtain ⟨q_10, hc_11, hf⟩ := dc_b hf
          refine dc_calll (dc_runV (ar := 0) (As := []) (rest := [.ref h0]) (ci := 0) (q0 := 0) ⟨hx, hb, hml, hown, hg⟩ hK hN hT hS hA (ct_M_pop l dC dI cI cB cJ cZ cQ N H.size h0 a q_7.2 q_10 hc_11) hP hD rfl rfl wn_10_216 wn_10_218 sn_M_pop wn_1_13 wn_10_219 rfl rfl (by decide +kernel) ⟨Nat.le_of_ble_eq_true rfl, Nat.le_of_ble_eq_true rfl⟩ rfl hl.1 rfl (Nat.le_of_ble_eq_true rfl) dn_M_run_279 ⟨Nat.le_of_ble_eq_true rfl, Nat.le_of_ble_eq_true rfl⟩) hP hD hS hA (fun r_12 _ H locs hw hP hD hS => ?_)
          have hw : r_12 = q_10.1 := hw
          subst hw
          refine lv_lconst (v := 0) hx hb dn_M_run_282 (by decide) ?_
          refine W.lcmp hx hb dn_M_run_283 ?_
          refine lv_if_eq (tgt := 292) hx hb dn_M_run_284 (by decide) (fun h => ?_) (fun h => ?_)
          · have hf := (if_pos h).symm.trans hf
            refine lv_lload hx hb dn_M_run_292 (lv_at hl 1 rfl) ?_
            exact bl_294 k_3 hk_3 x2 x3 ((x4 + 3)) q_4.1 q_10.2 hf H locs ls hP hD hS (lv_sub hl [5, 6, 7, 2] rfl)
          · have hf := (if_neg h).symm.trans hf
            refine lv_lload hx hb dn_M_run_287 (lv_at hl 0 rfl) ?_
            refine lv_goto (tgt := 294) hx hb dn_M_run_289 (by decide) ?_
            exact bl_294 k_3 hk_3 x2 x3 ((x4 + 3)) q_7.1 q_10.2 hf H locs ls hP hD hS (lv_sub hl [5, 6, 7, 2] rfl)
        have hf := (if_neg h_6).symm.trans hf
        by_cases h_7 : ((s.1 41) (Int32.toNatClampNeg x4)) = 7
        · have hf := (if_pos h_7).symm.trans hf
          refine xk_ti (y := 7) h_7 ?_
          refine lv_tableIn (tgt := 300) hx hb dn_M_run_44 (by decide) (by decide) rfl (by decide) ?_
          refine lv_aload_n hx hb dn_M_run_300 rfl (lv_at hl 3 rfl) ?_
          obtain ⟨q_4, hc_5, hf⟩ := dc_b hf
          refine dc_calll (dc_runV (ar := 0) (As := []) (rest := []) (ci := 0) (q0 := 0) ⟨hx, hb, hml, hown, hg⟩ hK hN hT hS hA (ct_M_pop l dC dI cI cB cJ cZ cQ N H.size h0 a s q_4 hc_5) hP hD rfl rfl wn_10_216 wn_10_218 sn_M_pop wn_1_13 wn_10_219 rfl rfl (by decide +kernel) ⟨Nat.le_of_ble_eq_true rfl, Nat.le_of_ble_eq_true rfl⟩ rfl hl.1 rfl (Nat.le_of_ble_eq_true rfl) dn_M_run_301 ⟨Nat.le_of_ble_eq_true rfl, Nat.le_of_ble_eq_true rfl⟩) hP hD hS hA (fun r_6 _ H locs hw hP hD hS => ?_)
          have hw : r_6 = q_4.1 := hw
          subst hw
          refine lv_lstore (lv' := [(20, .long q_4.1), (7, .int ((x4 + 3))), (6, .int (((s.1 41) (Int32.toNatClampNeg ((x4 + 2)))))), (5, .int (((s.1 41) (Int32.toNatClampNeg ((x4 + 1)))))), (0, .ref h0), (2, .int x2), (3, .int x3), (4, .int x4)]) hx hb dn_M_run_304 hl (by decide) rfl (fun ls hl => ?_)
          refine lv_aload_n hx hb dn_M_run_306 rfl (lv_at hl 4 rfl) ?_
          refine lv_aload_n hx hb dn_M_run_307 rfl (lv_at hl 4 rfl) ?_
          obtain ⟨q_7, hc_8, hf⟩ := dc_b hf
          refine dc_calll (dc_runV (ar := 0) (As := []) (rest := [.ref h0]) (ci := 0) (q0 := 0) ⟨hx, hb, hml, hown, hg⟩ hK hN hT hS hA (ct_M_pop l dC dI cI cB cJ cZ cQ N H.size h0 a q_4.2 q_7 hc_8) hP hD rfl rfl wn_10_216 wn_10_218 sn_M_pop wn_1_13 wn_10_219 rfl rfl (by decide +kernel) ⟨Nat.le_of_ble_eq_true rfl, Nat.le_of_ble_eq_true rfl⟩ rfl hl.1 rfl (Nat.le_of_ble_eq_true rfl) dn_M_run_308 ⟨Nat.le_of_ble_eq_true rfl, Nat.le_of_ble_eq_true rfl⟩) hP hD hS hA (fun r_9 _ H locs hw hP hD hS => ?_)
          have hw : r_9 = q_7.1 := hw
          subst hw
          refine lv_iload hx hb dn_M_run_311 (lv_at hl 3 rfl) ?_
          refine lv_lshl (v := (q_7.1 : Int64) <<< ((Int32.toInt64 (((s.1 41) (Int32.toNatClampNeg ((x4 + 1)))))) &&& 63)) hx hb dn_M_run_313 rfl ?_
          refine lv_lload hx hb dn_M_run_314 (lv_at hl 0 rfl) ?_
          refine lv_lor hx hb dn_M_run_316 ?_
          obtain ⟨q_10, hc_11, hf⟩ := dc_b hf
          refine dc_callv (dc_runV (ar := 1) (As := [.long ((((q_7.1 : Int64) <<< ((Int32.toInt64 (((s.1 41) (Int32.toNatClampNeg ((x4 + 1)))))) &&& 63)) ||| q_4.1))]) (rest := []) (ci := 0) (q0 := 0) ⟨hx, hb, hml, hown, hg⟩ hK hN hT hS hA (ct_M_push l dC dI cI cB cJ cZ cQ N H.size h0 a ((((q_7.1 : Int64) <<< ((Int32.toInt64 (((s.1 41) (Int32.toNatClampNeg ((x4 + 1)))))) &&& 63)) ||| q_4.1)) q_7.2 q_10 hc_11) hP hD rfl rfl wn_10_212 wn_10_214 sn_M_push wn_1_13 wn_10_215 rfl rfl (by decide +kernel) ⟨Nat.le_of_ble_eq_true rfl, Nat.le_of_ble_eq_true rfl⟩ rfl hl.1 rfl (Nat.le_of_ble_eq_true rfl) dn_M_run_317 ⟨Nat.le_of_ble_eq_true rfl, Nat.le_of_ble_eq_true rfl⟩) hP hD hS hA (fun _ H locs hw hP hD hS => ?_)
          refine lv_goto (tgt := 512) hx hb dn_M_run_320 (by decide) ?_
          refine lv_iload hx hb dn_M_run_512 (lv_at hl 1 rfl) ?_
          refine lv_istore (lv' := [(4, .int ((x4 + 3))), (20, .long q_4.1), (7, .int ((x4 + 3))), (6, .int (((s.1 41) (Int32.toNatClampNeg ((x4 + 2)))))), (5, .int (((s.1 41) (Int32.toNatClampNeg ((x4 + 1)))))), (0, .ref h0), (2, .int x2), (3, .int x3)]) hx hb dn_M_run_514 hl (by decide) rfl (fun ls hl => ?_)
          refine lv_goto (tgt := 3) hx hb dn_M_run_516 (by decide) ?_
          exact hk_3 x2 x3 ((x4 + 3)) q_10.2 hf H locs ls hP hD hS (lv_sub hl [5, 6, 7, 0] rfl)
        have hf := (if_neg h_7).symm.trans hf
        by_cases h_8 : ((s.1 41) (Int32.toNatClampNeg x4)) = 8
        · have hf := (if_pos h_8).symm.trans hf
          refine xk_ti (y := 8) h_8 ?_
          refine lv_tableIn (tgt := 323) hx hb dn_M_run_44 (by decide) (by decide) rfl (by decide) ?_
          refine lv_aload_n hx hb dn_M_run_323 rfl (lv_at hl 3 rfl) ?_
          obtain ⟨q_4, hc_5, hf⟩ := dc_b hf
          refine dc_calll (dc_runV (ar := 0) (As := []) (rest := []) (ci := 0) (q0 := 0) ⟨hx, hb, hml, hown, hg⟩ hK hN hT hS hA (ct_M_pop l dC dI cI cB cJ cZ cQ N H.size h0 a s q_4 hc_5) hP hD rfl rfl wn_10_216 wn_10_218 sn_M_pop wn_1_13 wn_10_219 rfl rfl (by decide +kernel) ⟨Nat.le_of_ble_eq_true rfl, Nat.le_of_ble_eq_true rfl⟩ rfl hl.1 rfl (Nat.le_of_ble_eq_true rfl) dn_M_run_324 ⟨Nat.le_of_ble_eq_true rfl, Nat.le_of_ble_eq_true rfl⟩) hP hD hS hA (fun r_6 _ H locs hw hP hD hS => ?_)
          have hw : r_6 = q_4.1 := hw
          subst hw
          refine lv_lstore (lv' := [(22, .long q_4.1), (7, .int ((x4 + 3))), (6, .int (((s.1 41) (Int32.toNatClampNeg ((x4 + 2)))))), (5, .int (((s.1 41) (Int32.toNatClampNeg ((x4 + 1)))))), (0, .ref h0), (2, .int x2), (3, .int x3), (4, .int x4)]) hx hb dn_M_run_327 hl (by decide) rfl (fun ls hl => ?_)
          refine lv_lload hx hb dn_M_run_329 (lv_at hl 0 rfl) ?_
          refine lv_lstore (lv' := [(24, .long q_4.1), (22, .long q_4.1), (7, .int ((x4 + 3))), (6, .int (((s.1 41) (Int32.toNatClampNeg ((x4 + 2)))))), (5, .int (((s.1 41) (Int32.toNatClampNeg ((x4 + 1)))))), (0, .ref h0), (2, .int x2), (3, .int x3), (4, .int x4)]) hx hb dn_M_run_331 hl (by decide) rfl (fun ls hl => ?_)
          refine lv_iconst (v := 1) hx hb dn_M_run_333 (by decide) ?_
          refine lv_istore (lv' := [(26, .int 1), (24, .long q_4.1), (22, .long q_4.1), (7, .int ((x4 + 3))), (6, .int (((s.1 41) (Int32.toNatClampNeg ((x4 + 2)))))), (5, .int (((s.1 41) (Int32.toNatClampNeg ((x4 + 1)))))), (0, .ref h0), (2, .int x2), (3, .int x3), (4, .int x4)]) hx hb dn_M_run_334 hl (by decide) rfl (fun ls hl => ?_)
          exact hd_336 k_3 hk_3 N x2 x3 (((s.1 41) (Int32.toNatClampNeg ((x4 + 1))))) (((s.1 41) (Int32.toNatClampNeg ((x4 + 2))))) ((x4 + 3)) q_4.1 q_4.1 1 q_4.2 hf H locs ls hP hD hS (lv_sub hl [6, 7, 8, 5, 4, 3, 2, 1, 0] rfl)
        have hf := (if_neg h_8).symm.trans hf
        by_cases h_9 : ((s.1 41) (Int32.toNatClampNeg x4)) = 9
        · have hf := (if_pos h_9).symm.trans hf
          refine xk_ti (y := 9) h_9 ?_
          refine lv_tableIn (tgt := 368) hx hb dn_M_run_44 (by decide) (by decide) rfl (by decide) ?_
          refine lv_aload_n hx hb dn_M_run_368 rfl (lv_at hl 3 rfl) ?_
          refine lv_iload_n hx hb dn_M_run_369 rfl (lv_at hl 5 rfl) ?_
          refine lv_iload hx hb dn_M_run_370 (lv_at hl 2 rfl) ?_
          obtain ⟨q_4, hc_5, hf⟩ := dc_b hf
          refine dc_calli (dc_runV (ar := 2) (As := [.int x3, .int (((s.1 41) (Int32.toNatClampNeg ((x4 + 1)))))]) (rest := []) (ci := 0) (q0 := 0) ⟨hx, hb, hml, hown, hg⟩ hK hN hT hS hA (ct_M_signalOf l dC dI cI cB cJ cZ cQ N H.size h0 a x3 (((s.1 41) (Int32.toNatClampNeg ((x4 + 1))))) s q_4 hc_5) hP hD rfl rfl wn_10_180 wn_10_182 sn_M_signalOf wn_1_13 wn_10_183 rfl rfl (by decide +kernel) ⟨Nat.le_of_ble_eq_true rfl, Nat.le_of_ble_eq_true rfl⟩ rfl hl.1 rfl (Nat.le_of_ble_eq_true rfl) dn_M_run_372 ⟨Nat.le_of_ble_eq_true rfl, Nat.le_of_ble_eq_true rfl⟩) hP hD hS hA (fun r_6 _ H locs hw hP hD hS => ?_)
          have hw : r_6 = q_4.1 := hw
          subst hw
          refine lv_istore (lv' := [(26, .int q_4.1), (7, .int ((x4 + 3))), (6, .int (((s.1 41) (Int32.toNatClampNeg ((x4 + 2)))))), (5, .int (((s.1 41) (Int32.toNatClampNeg ((x4 + 1)))))), (0, .ref h0), (2, .int x2), (3, .int x3), (4, .int x4)]) hx hb dn_M_run_375 hl (by decide) rfl (fun ls hl => ?_)
          refine lv_iload hx hb dn_M_run_377 (lv_at hl 2 rfl) ?_
          refine lv_sipush (v := 256) hx hb dn_M_run_379 (by decide) ?_
          refine lv_idiv hx hb dn_M_run_382 (by decide) ?_
          refine lv_iload hx hb dn_M_run_383 (lv_at hl 2 rfl) ?_
          refine lv_sipush (v := 256) hx hb dn_M_run_385 (by decide) ?_
          refine lv_irem hx hb dn_M_run_388 (by decide) ?_
          refine lv_isub hx hb dn_M_run_389 ?_
          refine lv_iconst (v := 1) hx hb dn_M_run_390 (by decide) ?_
          refine lv_iadd hx hb dn_M_run_391 ?_
          obtain ⟨q_7, hc_8, hf⟩ := dc_b hf
          refine dc_calll (dc_runS (ar := 1) (As := [.int ((((((s.1 41) (Int32.toNatClampNeg ((x4 + 2)))) / 256) - (((s.1 41) (Int32.toNatClampNeg ((x4 + 2)))) - ((s.1 41) (Int32.toNatClampNeg ((x4 + 2)))) / 256 * 256)) + 1))]) (rest := []) ⟨hx, hb, hml, hown, hg⟩ hK hN hT hS hA (ct_M_mask l dC dI cI cB cJ cZ cQ N H.size h0 a ((((((s.1 41) (Int32.toNatClampNeg ((x4 + 2)))) / 256) - (((s.1 41) (Int32.toNatClampNeg ((x4 + 2)))) - ((s.1 41) (Int32.toNatClampNeg ((x4 + 2)))) / 256 * 256)) + 1)) q_4.2 q_7 hc_8) hP hD wn_10_220 wn_10_221 wn_1_13 wn_10_222 rfl rfl (by decide +kernel) ⟨Nat.le_of_ble_eq_true rfl, Nat.le_of_ble_eq_true rfl⟩ rfl hl.1 rfl (Nat.le_of_ble_eq_true rfl) dn_M_run_392 ⟨Nat.le_of_ble_eq_true rfl, Nat.le_of_ble_eq_true rfl⟩) hP hD hS hA (fun r_9 _ H locs hw hP hD hS => ?_)
          have hw : r_9 = q_7.1 := hw
          subst hw
          refine lv_iload hx hb dn_M_run_395 (lv_at hl 2 rfl) ?_
          refine lv_sipush (v := 256) hx hb dn_M_run_397 (by decide) ?_
          refine lv_irem hx hb dn_M_run_400 (by decide) ?_
          refine lv_lshl (v := (q_7.1 : Int64) <<< ((Int32.toInt64 ((((s.1 41) (Int32.toNatClampNeg ((x4 + 2)))) - ((s.1 41) (Int32.toNatClampNeg ((x4 + 2)))) / 256 * 256))) &&& 63)) hx hb dn_M_run_401 rfl ?_
          refine lv_lstore (lv' := [(27, .long (((q_7.1 : Int64) <<< ((Int32.toInt64 ((((s.1 41) (Int32.toNatClampNeg ((x4 + 2)))) - ((s.1 41) (Int32.toNatClampNeg ((x4 + 2)))) / 256 * 256))) &&& 63)))), (26, .int q_4.1), (7, .int ((x4 + 3))), (6, .int (((s.1 41) (Int32.toNatClampNeg ((x4 + 2)))))), (5, .int (((s.1 41) (Int32.toNatClampNeg ((x4 + 1)))))), (0, .ref h0), (2, .int x2), (3, .int x3), (4, .int x4)]) hx hb dn_M_run_402 hl (by decide) rfl (fun ls hl => ?_)
          refine lv_aload_n hx hb dn_M_run_404 rfl (lv_at hl 5 rfl) ?_
          refine va_get (D := (dC, dI)) (ci := 0) (v := .ref ((a 81))) (C := rn_M) (T := fn_M) (N := 91) hx hb hg in_M hown hK hP 0 rfl rfl 81 (by decide) (hg _ wn_8_149) (fun _ h9 => h9) rfl dn_M_run_405 ?_
          refine lv_iload hx hb dn_M_run_408 (lv_at hl 1 rfl) ?_
          refine lv_aload_n hx hb dn_M_run_410 rfl (lv_at hl 5 rfl) ?_
          refine va_get (D := (dC, dI)) (ci := 0) (v := .ref ((a 81))) (C := rn_M) (T := fn_M) (N := 91) hx hb hg in_M hown hK hP 0 rfl rfl 81 (by decide) (hg _ wn_8_149) (fun _ h9 => h9) rfl dn_M_run_411 ?_
          refine lv_iload hx hb dn_M_run_414 (lv_at hl 1 rfl) ?_
          obtain ⟨hg_10, hf⟩ := dc_g hf
          refine va_lald hx hb hK hP 55 2 rfl rfl hg_10 dn_M_run_416 ?_
          refine xk_tl (y := ((q_7.2.2 81) (Int32.toNatClampNeg q_4.1))) rfl ?_
          refine lv_lload hx hb dn_M_run_417 (lv_at hl 0 rfl) ?_
          refine lv_ldc2 hx hb hown (hg _ wn_10_223) dn_M_run_419 ?_
          refine lv_lxor hx hb dn_M_run_422 ?_
          refine lv_land hx hb dn_M_run_423 ?_
          refine lv_aload_n hx hb dn_M_run_424 rfl (lv_at hl 5 rfl) ?_
          obtain ⟨q_11, hc_12, hf⟩ := dc_b hf
          refine dc_calll (dc_runV (ar := 0) (As := []) (rest := [.long ((((q_7.2.2 81) (Int32.toNatClampNeg q_4.1)) &&& (((q_7.1 : Int64) <<< ((Int32.toInt64 ((((s.1 41) (Int32.toNatClampNeg ((x4 + 2)))) - ((s.1 41) (Int32.toNatClampNeg ((x4 + 2)))) / 256 * 256))) &&& 63)) ^^^ (-1)))), .int q_4.1, .ref ((a 81))]) (ci := 0) (q0 := 0) ⟨hx, hb, hml, hown, hg⟩ hK hN hT hS hA (ct_M_pop l dC dI cI cB cJ cZ cQ N H.size h0 a q_7.2 q_11 hc_12) hP hD rfl rfl wn_10_216 wn_10_218 sn_M_pop wn_1_13 wn_10_219 rfl rfl (by decide +kernel) ⟨Nat.le_of_ble_eq_true rfl, Nat.le_of_ble_eq_true rfl⟩ rfl hl.1 rfl (Nat.le_of_ble_eq_true rfl) dn_M_run_425 ⟨Nat.le_of_ble_eq_true rfl, Nat.le_of_ble_eq_true rfl⟩) hP hD hS hA (fun r_13 _ H locs hw hP hD hS => ?_)
          have hw : r_13 = q_11.1 := hw
          subst hw
          refine lv_iload hx hb dn_M_run_428 (lv_at hl 3 rfl) ?_
          refine lv_sipush (v := 256) hx hb dn_M_run_430 (by decide) ?_
          refine lv_irem hx hb dn_M_run_433 (by decide) ?_
          refine lv_lshl (v := (q_11.1 : Int64) <<< ((Int32.toInt64 ((((s.1 41) (Int32.toNatClampNeg ((x4 + 2)))) - ((s.1 41) (Int32.toNatClampNeg ((x4 + 2)))) / 256 * 256))) &&& 63)) hx hb dn_M_run_434 rfl ?_
          refine lv_lor hx hb dn_M_run_435 ?_
          obtain ⟨hg_14, hf⟩ := dc_g hf
          refine va_last hx hb hK hP hD hS 55 2 rfl rfl hg_14 dn_M_run_436 (fun H locs hP hD hS => ?_)
          have hP : va_P (dC, dI) xcl (wM h0 a cI cB cJ cZ (upJ q_11.2 81 (vp_updL (q_11.2.2 81) (Int32.toNatClampNeg q_4.1) (((((q_7.2.2 81) (Int32.toNatClampNeg q_4.1)) &&& (((q_7.1 : Int64) <<< ((Int32.toInt64 ((((s.1 41) (Int32.toNatClampNeg ((x4 + 2)))) - ((s.1 41) (Int32.toNatClampNeg ((x4 + 2)))) / 256 * 256))) &&& 63)) ^^^ (-1))) ||| ((q_11.1 : Int64) <<< ((Int32.toInt64 ((((s.1 41) (Int32.toNatClampNeg ((x4 + 2)))) - ((s.1 41) (Int32.toNatClampNeg ((x4 + 2)))) / 256 * 256))) &&& 63))))))) H := hP
          have hD : va_D A (wM h0 a cI cB cJ cZ (upJ q_11.2 81 (vp_updL (q_11.2.2 81) (Int32.toNatClampNeg q_4.1) (((((q_7.2.2 81) (Int32.toNatClampNeg q_4.1)) &&& (((q_7.1 : Int64) <<< ((Int32.toInt64 ((((s.1 41) (Int32.toNatClampNeg ((x4 + 2)))) - ((s.1 41) (Int32.toNatClampNeg ((x4 + 2)))) / 256 * 256))) &&& 63)) ^^^ (-1))) ||| ((q_11.1 : Int64) <<< ((Int32.toInt64 ((((s.1 41) (Int32.toNatClampNeg ((x4 + 2)))) - ((s.1 41) (Int32.toNatClampNeg ((x4 + 2)))) / 256 * 256))) &&& 63))))))) := hD
          refine lv_goto (tgt := 512) hx hb dn_M_run_437 (by decide) ?_
          refine lv_iload hx hb dn_M_run_512 (lv_at hl 2 rfl) ?_
          refine lv_istore (lv' := [(4, .int ((x4 + 3))), (27, .long (((q_7.1 : Int64) <<< ((Int32.toInt64 ((((s.1 41) (Int32.toNatClampNeg ((x4 + 2)))) - ((s.1 41) (Int32.toNatClampNeg ((x4 + 2)))) / 256 * 256))) &&& 63)))), (26, .int q_4.1), (7, .int ((x4 + 3))), (6, .int (((s.1 41) (Int32.toNatClampNeg ((x4 + 2)))))), (5, .int (((s.1 41) (Int32.toNatClampNeg ((x4 + 1)))))), (0, .ref h0), (2, .int x2), (3, .int x3)]) hx hb dn_M_run_514 hl (by decide) rfl (fun ls hl => ?_)
          refine lv_goto (tgt := 3) hx hb dn_M_run_516 (by decide) ?_
          exact hk_3 x2 x3 ((x4 + 3)) (upJ q_11.2 81 (vp_updL (q_11.2.2 81) (Int32.toNatClampNeg q_4.1) (((((q_7.2.2 81) (Int32.toNatClampNeg q_4.1)) &&& (((q_7.1 : Int64) <<< ((Int32.toInt64 ((((s.1 41) (Int32.toNatClampNeg ((x4 + 2)))) - ((s.1 41) (Int32.toNatClampNeg ((x4 + 2)))) / 256 * 256))) &&& 63)) ^^^ (-1))) ||| ((q_11.1 : Int64) <<< ((Int32.toInt64 ((((s.1 41) (Int32.toNatClampNeg ((x4 + 2)))) - ((s.1 41) (Int32.toNatClampNeg ((x4 + 2)))) / 256 * 256))) &&& 63)))))) hf H locs ls hP hD hS (lv_sub hl [6, 7, 8, 0] rfl)
        have hf := (if_neg h_9).symm.trans hf
        by_cases h_10 : ((s.1 41) (Int32.toNatClampNeg x4)) = 10
        · have hf := (if_pos h_10).symm.trans hf
          refine xk_ti (y := 10) h_10 ?_
          refine lv_tableIn (tgt := 440) hx hb dn_M_run_44 (by decide) (by decide) rfl (by decide) ?_
          refine lv_aload_n hx hb dn_M_run_440 rfl (lv_at hl 3 rfl) ?_
          obtain ⟨q_4, hc_5, hf⟩ := dc_b hf
          refine dc_calll (dc_runV (ar := 0) (As := []) (rest := []) (ci := 0) (q0 := 0) ⟨hx, hb, hml, hown, hg⟩ hK hN hT hS hA (ct_M_pop l dC dI cI cB cJ cZ cQ N H.size h0 a s q_4 hc_5) hP hD rfl rfl wn_10_216 wn_10_218 sn_M_pop wn_1_13 wn_10_219 rfl rfl (by decide +kernel) ⟨Nat.le_of_ble_eq_true rfl, Nat.le_of_ble_eq_true rfl⟩ rfl hl.1 rfl (Nat.le_of_ble_eq_true rfl) dn_M_run_441 ⟨Nat.le_of_ble_eq_true rfl, Nat.le_of_ble_eq_true rfl⟩) hP hD hS hA (fun r_6 _ H locs hw hP hD hS => ?_)
          have hw : r_6 = q_4.1 := hw
          subst hw
          refine lv_lconst (v := 0) hx hb dn_M_run_444 (by decide) ?_
          refine W.lcmp hx hb dn_M_run_445 ?_
          refine lv_if_ne (tgt := 454) hx hb dn_M_run_446 (by decide) (fun h => ?_) (fun h => ?_)
          · have hf := (if_neg h).symm.trans hf
            refine lv_iload hx hb dn_M_run_454 (lv_at hl 0 rfl) ?_
            exact bl_456 k_3 hk_3 x2 x3 ((x4 + 3)) q_4.2 hf H locs ls hP hD hS (lv_sub hl [3, 4, 5] rfl)
          · have hf := (if_pos h).symm.trans hf
            refine lv_iload hx hb dn_M_run_449 (lv_at hl 2 rfl) ?_
            refine lv_goto (tgt := 456) hx hb dn_M_run_451 (by decide) ?_
            exact bl_456 k_3 hk_3 x2 x3 (((s.1 41) (Int32.toNatClampNeg ((x4 + 1))))) q_4.2 hf H locs ls hP hD hS (lv_sub hl [3, 4, 5] rfl)
        have hf := (if_neg h_10).symm.trans hf
        by_cases h_11 : ((s.1 41) (Int32.toNatClampNeg x4)) = 11
        · have hf := (if_pos h_11).symm.trans hf
          refine xk_ti (y := 11) h_11 ?_
          refine lv_tableIn (tgt := 461) hx hb dn_M_run_44 (by decide) (by decide) rfl (by decide) ?_
          refine lv_iload hx hb dn_M_run_461 (lv_at hl 2 rfl) ?_
          refine lv_istore (lv' := [(7, .int (((s.1 41) (Int32.toNatClampNeg ((x4 + 1)))))), (6, .int (((s.1 41) (Int32.toNatClampNeg ((x4 + 2)))))), (5, .int (((s.1 41) (Int32.toNatClampNeg ((x4 + 1)))))), (0, .ref h0), (2, .int x2), (3, .int x3), (4, .int x4)]) hx hb dn_M_run_463 hl (by decide) rfl (fun ls hl => ?_)
          refine lv_goto (tgt := 512) hx hb dn_M_run_465 (by decide) ?_
          refine lv_iload hx hb dn_M_run_512 (lv_at hl 0 rfl) ?_
          refine lv_istore (lv' := [(4, .int (((s.1 41) (Int32.toNatClampNeg ((x4 + 1)))))), (7, .int (((s.1 41) (Int32.toNatClampNeg ((x4 + 1)))))), (6, .int (((s.1 41) (Int32.toNatClampNeg ((x4 + 2)))))), (5, .int (((s.1 41) (Int32.toNatClampNeg ((x4 + 1)))))), (0, .ref h0), (2, .int x2), (3, .int x3)]) hx hb dn_M_run_514 hl (by decide) rfl (fun ls hl => ?_)
          refine lv_goto (tgt := 3) hx hb dn_M_run_516 (by decide) ?_
          exact hk_3 x2 x3 (((s.1 41) (Int32.toNatClampNeg ((x4 + 1))))) s hf H locs ls hP hD hS (lv_sub hl [4, 5, 6, 0] rfl)
        have hf := (if_neg h_11).symm.trans hf
        by_cases h_12 : ((s.1 41) (Int32.toNatClampNeg x4)) = 12
        · have hf := (if_pos h_12).symm.trans hf
          refine xk_ti (y := 12) h_12 ?_
          refine lv_tableIn (tgt := 468) hx hb dn_M_run_44 (by decide) (by decide) rfl (by decide) ?_
          refine lv_aload_n hx hb dn_M_run_468 rfl (lv_at hl 3 rfl) ?_
          refine va_get (D := (dC, dI)) (ci := 0) (v := .ref ((a 84))) (C := rn_M) (T := fn_M) (N := 91) hx hb hg in_M hown hK hP 0 rfl rfl 84 (by decide) (hg _ wn_8_152) (fun _ h9 => h9) rfl dn_M_run_469 ?_
          refine lv_aload_n hx hb dn_M_run_472 rfl (lv_at hl 3 rfl) ?_
          refine va_get (D := (dC, dI)) (ci := 0) (v := .int ((s.1 85 0))) (C := rn_M) (T := fn_M) (N := 91) hx hb hg in_M hown hK hP 0 rfl rfl 85 (by decide) (hg _ wn_8_153) (fun _ h9 => h9) rfl dn_M_run_473 ?_
          refine lv_iconst (v := 1) hx hb dn_M_run_476 (by decide) ?_
          refine lv_isub hx hb dn_M_run_477 ?_
          obtain ⟨hg_4, hf⟩ := dc_g hf
          refine va_lald hx hb hK hP 58 2 rfl rfl hg_4 dn_M_run_478 ?_
          refine xk_tl (y := ((s.2 84) (Int32.toNatClampNeg (((s.1 85 0) - 1))))) rfl ?_
          refine lv_aload_n hx hb dn_M_run_479 rfl (lv_at hl 3 rfl) ?_
          refine va_get (D := (dC, dI)) (ci := 0) (v := .ref ((a 43))) (C := rn_M) (T := fn_M) (N := 91) hx hb hg in_M hown hK hP 0 rfl rfl 43 (by decide) (hg _ wn_8_111) (fun _ h9 => h9) rfl dn_M_run_480 ?_
          refine lv_iload hx hb dn_M_run_483 (lv_at hl 1 rfl) ?_
          obtain ⟨hg_5, hf⟩ := dc_g hf
          refine va_lald hx hb hK hP 29 2 rfl rfl hg_5 dn_M_run_485 ?_
          refine xk_tl (y := ((s.2 43) (Int32.toNatClampNeg (((s.1 41) (Int32.toNatClampNeg ((x4 + 2)))))))) rfl ?_
          refine W.lcmp hx hb dn_M_run_486 ?_
          refine lv_if_ne (tgt := 495) hx hb dn_M_run_487 (by decide) (fun h => ?_) (fun h => ?_)
          · have hf := (if_neg h).symm.trans hf
            refine lv_iload hx hb dn_M_run_495 (lv_at hl 0 rfl) ?_
            exact bl_497 k_3 hk_3 x2 x3 ((x4 + 3)) s hf H locs ls hP hD hS (lv_sub hl [3, 4, 5] rfl)
          · have hf := (if_pos h).symm.trans hf
            refine lv_iload hx hb dn_M_run_490 (lv_at hl 2 rfl) ?_
            refine lv_goto (tgt := 497) hx hb dn_M_run_492 (by decide) ?_
            exact bl_497 k_3 hk_3 x2 x3 (((s.1 41) (Int32.toNatClampNeg ((x4 + 1))))) s hf H locs ls hP hD hS (lv_sub hl [3, 4, 5] rfl)
        have hf := (if_neg h_12).symm.trans hf
        refine lv_tableOut (tgt := 502) hx hb dn_M_run_44 (dc_out (fun k h1 h2 => by rcases (show k = 0 ∨ k = 1 ∨ k = 2 ∨ k = 3 ∨ k = 4 ∨ k = 5 ∨ k = 6 ∨ k = 7 ∨ k = 8 ∨ k = 9 ∨ k = 10 ∨ k = 11 ∨ k = 12 by omega) with rfl | rfl | rfl | rfl | rfl | rfl | rfl | rfl | rfl | rfl | rfl | rfl | rfl <;> first | exact lv_neT h_0 (by decide) | exact lv_neT h_1 (by decide) | exact lv_neT h_2 (by decide) | exact lv_neT h_3 (by decide) | exact lv_neT h_4 (by decide) | exact lv_neT h_5 (by decide) | exact lv_neT h_6 (by decide) | exact lv_neT h_7 (by decide) | exact lv_neT h_8 (by decide) | exact lv_neT h_9 (by decide) | exact lv_neT h_10 (by decide) | exact lv_neT h_11 (by decide) | exact lv_neT h_12 (by decide)) (by decide)) (by decide) ?_
        refine lv_aload_n hx hb dn_M_run_502 rfl (lv_at hl 3 rfl) ?_
        refine lv_dup hx hb dn_M_run_503 rfl ?_
        refine va_get (D := (dC, dI)) (ci := 0) (v := .int ((s.1 85 0))) (C := rn_M) (T := fn_M) (N := 91) hx hb hg in_M hown hK hP 0 rfl rfl 85 (by decide) (hg _ wn_8_153) (fun _ h9 => h9) rfl dn_M_run_504 ?_
        refine lv_iconst (v := 1) hx hb dn_M_run_507 (by decide) ?_
        refine lv_isub hx hb dn_M_run_508 ?_
        refine va_put (D := (dC, dI)) (ci := 0) (v := .int (((s.1 85 0) - 1))) (ty := .int) (C := rn_M) (T := fn_M) (N := 91) hx hb hg in_M tn_M tk_M nn_M hown hK hP hD hS 0 rfl rfl 85 (by decide) (hg _ wn_8_153) (fun _ h9 => h9) rfl (tk_M 85 (by decide)) rfl rfl (Nat.le_of_ble_eq_true rfl) dn_M_run_509 (fun H locs hP hD hS => ?_)
        have hP : va_P (dC, dI) xcl (wM h0 a cI cB cJ cZ (upI s 85 (fun _ => ((s.1 85 0) - 1)))) H := hP
        have hD : va_D A (wM h0 a cI cB cJ cZ (upI s 85 (fun _ => ((s.1 85 0) - 1)))) := hD
        refine lv_iload hx hb dn_M_run_512 (lv_at hl 0 rfl) ?_
        refine lv_istore (lv' := [(4, .int ((x4 + 3))), (7, .int ((x4 + 3))), (6, .int (((s.1 41) (Int32.toNatClampNeg ((x4 + 2)))))), (5, .int (((s.1 41) (Int32.toNatClampNeg ((x4 + 1)))))), (0, .ref h0), (2, .int x2), (3, .int x3)]) hx hb dn_M_run_514 hl (by decide) rfl (fun ls hl => ?_)
        refine lv_goto (tgt := 3) hx hb dn_M_run_516 (by decide) ?_
        exact hk_3 x2 x3 ((x4 + 3)) (upI s 85 (fun _ => ((s.1 85 0) - 1))) hf H locs ls hP hD hS (lv_sub hl [4, 5, 6, 0] rfl)
  intro H locs ls hP hD hS hl
  unfold fn_M_run at hf
  refine lv_iload_n hx hb dn_M_run_0 rfl (lv_at hl 1 rfl) ?_
  refine lv_istore (lv' := [(4, .int v1), (0, .ref h0), (1, .int v1), (2, .int v2), (3, .int v3)]) hx hb dn_M_run_1 hl (by decide) rfl (fun ls hl => ?_)
  exact hd_3 N v2 v3 v1 s hf H locs ls hP hD hS (lv_sub hl [1, 3, 4, 0] rfl)
