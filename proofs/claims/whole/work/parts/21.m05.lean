def bd_M_step_35 (k_35 : Int32 → ms → Option (Int32 × ms)) (x1 : Int32) (s : ms) : Option (Int32 × ms) :=
  if (s.1 63 0) ≤ x1 then ((fn_M_settle_82_83 s).bind (fun q_1 => some (((q_1.2.1 86 0) + 1), upI q_1.2 86 (fun _ => ((q_1.2.1 86 0) + 1))))) else (if (x1 < 0 ∨ 1100 ≤ Int32.toNatClampNeg x1) then none else if (x1 < 0 ∨ 1100 ≤ Int32.toNatClampNeg x1) then none else k_35 ((x1 + 1)) (upJ s 82 (vp_updL (s.2 82) (Int32.toNatClampNeg x1) (((s.2 81) (Int32.toNatClampNeg x1))))))
def hd_M_step_35 : Nat → Int32 → ms → Option (Int32 × ms)
  | 0, _, _ => none
  | n + 1, x1, s => bd_M_step_35 (hd_M_step_35 n) x1 s
def bk_M_step_13 (t0 : Int32) (s : ms) : Option (Int32 × ms) :=
  if t0 ≤ 0 then ((fn_M_goOn_82 (upI s 0 (fun _ => t0))).bind (fun q_1 => hd_M_step_35 dc_N 0 q_1.2)) else (some (0, upI s 0 (fun _ => t0)))
def fn_M_step (s : ms) : Option (Int32 × ms) :=
  if (s.1 54 0) = 0 then (bk_M_step_13 1 s) else (bk_M_step_13 0 s)
set_option maxHeartbeats 8000000 in
set_option maxRecDepth 100000 in
theorem ct_M_step (l : Launch) (dC : Nat → ClassId) (dI : Nat → Nat → Nat) (cI cB cJ cZ cQ : ClassId) (sz : Nat) (h0 : Nat) (a : Nat → Nat) (s : ms) (y : (Int32 × ms)) (hf : fn_M_step s = some y) : Met l yn_M_step (xw yn_M_step bn_M_step 2 (some .int)) ({ frames := 4, cells := 0, slots := 0, locals := 120 }) (xk_P (dC, dI) xcl (xt cI cB cJ cZ cQ) [.ref h0] sz (wM h0 a cI cB cJ cZ s)) (xk_Qi (dC, dI) xcl (xt cI cB cJ cZ cQ) (fun (r : Int32) (_ : Unit) => r = y.1) (fun _ : Unit => (wM h0 a cI cB cJ cZ y.2)) (va_A (wM h0 a cI cB cJ cZ s) sz)) 0 0 (va_A (wM h0 a cI cB cJ cZ s) sz) := by
  refine xk_of (QA := xk_Qi (dC, dI) xcl (xt cI cB cJ cZ cQ) (fun (r : Int32) (_ : Unit) => r = y.1) (fun _ : Unit => (wM h0 a cI cB cJ cZ y.2))) (by decide) (Nat.le_of_ble_eq_true rfl) ?_
  intro p e s0 m below meth c hx hb hml hown hg hr hlocks hin hP hK hN A hA hD hS ls hl
  have hown : s0.vm.findClass rn_M = some m.cls := hown
  obtain ⟨H, hH⟩ : ∃ z, z = s0.heap := ⟨_, rfl⟩
  rw [← hH] at hP
  have hS : va_S A s0.heap H [] := by rw [hH]; exact va_S.rf
  suffices kk : ∀ QQ : State → Prop, QQ = MQ below (xk_Qi (dC, dI) xcl (xt cI cB cJ cZ cQ) (fun (r : Int32) (_ : Unit) => r = y.1) (fun _ : Unit => (wM h0 a cI cB cJ cZ y.2)) A) [.ref h0].toArray s0 0 0 A → dcC p l e ({ frames := 4, cells := 0, slots := 0, locals := 120 }) s0 m [.ref h0].toArray below meth c QQ (dC, dI) A (wM h0 a cI cB cJ cZ s) 0 2 [(0, .ref h0)] [] by
    have k9 := kk _ rfl H [] ls hP hD hS hl
    rw [hH] at k9; exact k9
  clear hP hD hS hl hH H ls
  intro QQ hQQ
  have hd_35 : ∀ (n : Nat) (x1 : Int32) (s : ms), hd_M_step_35 n x1 s = some y → dcC p l e ({ frames := 4, cells := 0, slots := 0, locals := 120 }) s0 m [.ref h0].toArray below meth c QQ (dC, dI) A (wM h0 a cI cB cJ cZ s) 35 2 [(0, .ref h0), (1, .int x1)] [] := by
    intro n
    induction n with
    | zero => intro x1 s hf; cases hf
    | succ n ih =>
      intro x1 s hf H locs ls hP hD hS hl
      have hf : bd_M_step_35 (hd_M_step_35 n) x1 s = some y := hf
      have hk_35 := ih
      generalize hd_M_step_35 n = k_35 at hf hk_35
      unfold bd_M_step_35 at hf
      refine lv_iload_n hx hb dn_M_step_35 rfl (lv_at hl 1 rfl) ?_
      refine lv_aload_n hx hb dn_M_step_36 rfl (lv_at hl 0 rfl) ?_
      refine va_get (D := (dC, dI)) (ci := 0) (v := .int ((s.1 63 0))) (C := rn_M) (T := fn_M) (N := 91) hx hb hg in_M hown hK hP 0 rfl rfl 63 (by decide) (hg _ wn_8_131) (fun _ h9 => h9) rfl dn_M_step_37 ?_
      refine lv_icmp_ge (tgt := 61) hx hb dn_M_step_40 (by decide) (fun h => ?_) (fun h => ?_)
      · have hf := (if_pos h).symm.trans hf
        refine lv_aload_n hx hb dn_M_step_61 rfl (lv_at hl 0 rfl) ?_
        refine lv_aload_n hx hb dn_M_step_62 rfl (lv_at hl 0 rfl) ?_
        refine va_get (D := (dC, dI)) (ci := 0) (v := .ref ((a 82))) (C := rn_M) (T := fn_M) (N := 91) hx hb hg in_M hown hK hP 0 rfl rfl 82 (by decide) (hg _ wn_8_150) (fun _ h9 => h9) rfl dn_M_step_63 ?_
        refine lv_aload_n hx hb dn_M_step_66 rfl (lv_at hl 0 rfl) ?_
        refine va_get (D := (dC, dI)) (ci := 0) (v := .ref ((a 83))) (C := rn_M) (T := fn_M) (N := 91) hx hb hg in_M hown hK hP 0 rfl rfl 83 (by decide) (hg _ wn_8_151) (fun _ h9 => h9) rfl dn_M_step_67 ?_
        obtain ⟨q_1, hc_2, hf⟩ := dc_b hf
        refine dc_callv (xk_runV (ar := 2) (As := [.ref ((a 82)), .ref ((a 83))]) (rest := []) (ci := 0) (q0 := 0) ⟨hx, hb, hml, hown, hg⟩ hK hN (ct_M_settle_82_83 l dC dI cI cB cJ cZ cQ H.size h0 a s q_1 hc_2) hP hD rfl rfl wn_10_204 wn_10_206 sn_M_settle wn_1_13 wn_10_207 rfl rfl (by decide +kernel) ⟨Nat.le_of_ble_eq_true rfl, Nat.le_of_ble_eq_true rfl⟩ rfl hl.1 rfl (Nat.le_of_ble_eq_true rfl) dn_M_step_70 ⟨Nat.le_of_ble_eq_true rfl, Nat.le_of_ble_eq_true rfl⟩) hP hD hS hA (fun _ H locs hw hP hD hS => ?_)
        refine lv_aload_n hx hb dn_M_step_73 rfl (lv_at hl 0 rfl) ?_
        refine lv_dup hx hb dn_M_step_74 rfl ?_
        refine va_get (D := (dC, dI)) (ci := 0) (v := .int ((q_1.2.1 86 0))) (C := rn_M) (T := fn_M) (N := 91) hx hb hg in_M hown hK hP 0 rfl rfl 86 (by decide) (hg _ wn_8_154) (fun _ h9 => h9) rfl dn_M_step_75 ?_
        refine lv_iconst (v := 1) hx hb dn_M_step_78 (by decide) ?_
        refine lv_iadd hx hb dn_M_step_79 ?_
        refine va_put (D := (dC, dI)) (ci := 0) (v := .int (((q_1.2.1 86 0) + 1))) (ty := .int) (C := rn_M) (T := fn_M) (N := 91) hx hb hg in_M tn_M tk_M nn_M hown hK hP hD hS 0 rfl rfl 86 (by decide) (hg _ wn_8_154) (fun _ h9 => h9) rfl (tk_M 86 (by decide)) rfl rfl (Nat.le_of_ble_eq_true rfl) dn_M_step_80 (fun H locs hP hD hS => ?_)
        have hP : va_P (dC, dI) xcl (wM h0 a cI cB cJ cZ (upI q_1.2 86 (fun _ => ((q_1.2.1 86 0) + 1)))) H := hP
        have hD : va_D A (wM h0 a cI cB cJ cZ (upI q_1.2 86 (fun _ => ((q_1.2.1 86 0) + 1)))) := hD
        refine lv_aload_n hx hb dn_M_step_83 rfl (lv_at hl 0 rfl) ?_
        refine va_get (D := (dC, dI)) (ci := 0) (v := .int (((q_1.2.1 86 0) + 1))) (C := rn_M) (T := fn_M) (N := 91) hx hb hg in_M hown hK hP 0 rfl rfl 86 (by decide) (hg _ wn_8_154) (fun _ h9 => h9) rfl dn_M_step_84 ?_
        rw [hQQ, ← Option.some.inj hf]
        exact xk_iret (w1 := fun _ : Unit => (wM h0 a cI cB cJ cZ (upI q_1.2 86 (fun _ => ((q_1.2.1 86 0) + 1))))) () hx hb hr hlocks hK hS dn_M_step_87 hP hD rfl (Nat.le_refl _) (Nat.le_refl _)
      · have hf := (if_neg h).symm.trans hf
        refine lv_aload_n hx hb dn_M_step_43 rfl (lv_at hl 0 rfl) ?_
        refine va_get (D := (dC, dI)) (ci := 0) (v := .ref ((a 82))) (C := rn_M) (T := fn_M) (N := 91) hx hb hg in_M hown hK hP 0 rfl rfl 82 (by decide) (hg _ wn_8_150) (fun _ h9 => h9) rfl dn_M_step_44 ?_
        refine lv_iload_n hx hb dn_M_step_47 rfl (lv_at hl 1 rfl) ?_
        refine lv_aload_n hx hb dn_M_step_48 rfl (lv_at hl 0 rfl) ?_
        refine va_get (D := (dC, dI)) (ci := 0) (v := .ref ((a 81))) (C := rn_M) (T := fn_M) (N := 91) hx hb hg in_M hown hK hP 0 rfl rfl 81 (by decide) (hg _ wn_8_149) (fun _ h9 => h9) rfl dn_M_step_49 ?_
        refine lv_iload_n hx hb dn_M_step_52 rfl (lv_at hl 1 rfl) ?_
        obtain ⟨hg_1, hf⟩ := dc_g hf
        refine va_lald hx hb hK hP 55 2 rfl rfl hg_1 dn_M_step_53 ?_
        refine xk_tl (y := ((s.2 81) (Int32.toNatClampNeg x1))) rfl ?_
        obtain ⟨hg_2, hf⟩ := dc_g hf
        refine va_last hx hb hK hP hD hS 56 2 rfl rfl hg_2 dn_M_step_54 (fun H locs hP hD hS => ?_)
        have hP : va_P (dC, dI) xcl (wM h0 a cI cB cJ cZ (upJ s 82 (vp_updL (s.2 82) (Int32.toNatClampNeg x1) (((s.2 81) (Int32.toNatClampNeg x1)))))) H := hP
        have hD : va_D A (wM h0 a cI cB cJ cZ (upJ s 82 (vp_updL (s.2 82) (Int32.toNatClampNeg x1) (((s.2 81) (Int32.toNatClampNeg x1)))))) := hD
        refine lv_iinc (v := (x1 + 1)) (lv' := [(1, .int ((x1 + 1))), (0, .ref h0)]) hx hb dn_M_step_55 hl (k := 1) rfl (dc_inc (by decide)) (by decide) rfl (fun ls hl => ?_)
        refine lv_goto (tgt := 35) hx hb dn_M_step_58 (by decide) ?_
        exact hk_35 ((x1 + 1)) (upJ s 82 (vp_updL (s.2 82) (Int32.toNatClampNeg x1) (((s.2 81) (Int32.toNatClampNeg x1))))) hf H locs ls hP hD hS (lv_sub hl [1, 0] rfl)
  have bl_13 : ∀ (t0 : Int32) (s : ms), bk_M_step_13 t0 s = some y → dcC p l e ({ frames := 4, cells := 0, slots := 0, locals := 120 }) s0 m [.ref h0].toArray below meth c QQ (dC, dI) A (wM h0 a cI cB cJ cZ s) 13 2 [(0, .ref h0)] [.int t0, .ref h0] := by
    intro t0 s hf H locs ls hP hD hS hl
    unfold bk_M_step_13 at hf
    refine va_put (D := (dC, dI)) (ci := 0) (v := .int t0) (ty := .int) (C := rn_M) (T := fn_M) (N := 91) hx hb hg in_M tn_M tk_M nn_M hown hK hP hD hS 0 rfl rfl 0 (by decide) (hg _ wn_8_68) (fun _ h9 => h9) rfl (tk_M 0 (by decide)) rfl rfl (Nat.le_of_ble_eq_true rfl) dn_M_step_13 (fun H locs hP hD hS => ?_)
    have hP : va_P (dC, dI) xcl (wM h0 a cI cB cJ cZ (upI s 0 (fun _ => t0))) H := hP
    have hD : va_D A (wM h0 a cI cB cJ cZ (upI s 0 (fun _ => t0))) := hD
    refine lv_aload_n hx hb dn_M_step_16 rfl (lv_at hl 0 rfl) ?_
    refine va_get (D := (dC, dI)) (ci := 0) (v := .int t0) (C := rn_M) (T := fn_M) (N := 91) hx hb hg in_M hown hK hP 0 rfl rfl 0 (by decide) (hg _ wn_8_68) (fun _ h9 => h9) rfl dn_M_step_17 ?_
    refine lv_if_le (tgt := 25) hx hb dn_M_step_20 (by decide) (fun h => ?_) (fun h => ?_)
    · have hf := (if_pos h).symm.trans hf
      refine lv_aload_n hx hb dn_M_step_25 rfl (lv_at hl 0 rfl) ?_
      refine lv_aload_n hx hb dn_M_step_26 rfl (lv_at hl 0 rfl) ?_
      refine va_get (D := (dC, dI)) (ci := 0) (v := .ref ((a 82))) (C := rn_M) (T := fn_M) (N := 91) hx hb hg in_M hown hK hP 0 rfl rfl 82 (by decide) (hg _ wn_8_150) (fun _ h9 => h9) rfl dn_M_step_27 ?_
      obtain ⟨q_1, hc_2, hf⟩ := dc_b hf
      refine dc_callv (xk_runV (ar := 1) (As := [.ref ((a 82))]) (rest := []) (ci := 0) (q0 := 0) ⟨hx, hb, hml, hown, hg⟩ hK hN (ct_M_goOn_82 l dC dI cI cB cJ cZ cQ H.size h0 a (upI s 0 (fun _ => t0)) q_1 hc_2) hP hD rfl rfl wn_11_46 wn_11_48 sn_M_goOn wn_1_13 wn_11_49 rfl rfl (by decide +kernel) ⟨Nat.le_of_ble_eq_true rfl, Nat.le_of_ble_eq_true rfl⟩ rfl hl.1 rfl (Nat.le_of_ble_eq_true rfl) dn_M_step_30 ⟨Nat.le_of_ble_eq_true rfl, Nat.le_of_ble_eq_true rfl⟩) hP hD hS hA (fun _ H locs hw hP hD hS => ?_)
      refine lv_iconst (v := 0) hx hb dn_M_step_33 (by decide) ?_
      refine lv_istore_n (lv' := [(1, .int 0), (0, .ref h0)]) hx hb dn_M_step_34 rfl hl (by decide) rfl (fun ls hl => ?_)
      exact hd_35 dc_N 0 q_1.2 hf H locs ls hP hD hS (lv_sub hl [1, 0] rfl)
    · have hf := (if_neg h).symm.trans hf
      refine lv_iconst (v := 0) hx hb dn_M_step_23 (by decide) ?_
      rw [hQQ, ← Option.some.inj hf]
      exact xk_iret (w1 := fun _ : Unit => (wM h0 a cI cB cJ cZ (upI s 0 (fun _ => t0)))) () hx hb hr hlocks hK hS dn_M_step_24 hP hD rfl (Nat.le_refl _) (Nat.le_refl _)
  intro H locs ls hP hD hS hl
  unfold fn_M_step at hf
  refine lv_aload_n hx hb dn_M_step_0 rfl (lv_at hl 0 rfl) ?_
  refine lv_aload_n hx hb dn_M_step_1 rfl (lv_at hl 0 rfl) ?_
  refine va_get (D := (dC, dI)) (ci := 0) (v := .int ((s.1 54 0))) (C := rn_M) (T := fn_M) (N := 91) hx hb hg in_M hown hK hP 0 rfl rfl 54 (by decide) (hg _ wn_8_122) (fun _ h9 => h9) rfl dn_M_step_2 ?_
  refine lv_if_eq (tgt := 12) hx hb dn_M_step_5 (by decide) (fun h => ?_) (fun h => ?_)
  · have hf := (if_pos h).symm.trans hf
    refine lv_iconst (v := 1) hx hb dn_M_step_12 (by decide) ?_
    exact bl_13 1 s hf H locs ls hP hD hS hl
  · have hf := (if_neg h).symm.trans hf
    refine lv_iconst (v := 0) hx hb dn_M_step_8 (by decide) ?_
    refine lv_goto (tgt := 13) hx hb dn_M_step_9 (by decide) ?_
    exact bl_13 0 s hf H locs ls hP hD hS hl
def bk_M_value_25 (x1 : Int32) (t0 : Int32) (s : ms) : Option (Int64 × ms) :=
  if t0 ≤ 0 then (if (x1 < 0 ∨ 1100 ≤ Int32.toNatClampNeg x1) then none else some (((s.2 80) (Int32.toNatClampNeg x1)), upI s 0 (fun _ => t0))) else (some (0, upI s 0 (fun _ => t0)))
def fn_M_value (x1 : Int32) (s : ms) : Option (Int64 × ms) :=
  if (s.1 54 0) = 0 then (bk_M_value_25 x1 1 s) else ((fn_M_isSignal x1 s).bind (fun q_1 => if q_1.1 = 0 then (bk_M_value_25 x1 2 q_1.2) else (bk_M_value_25 x1 0 q_1.2)))
set_option maxHeartbeats 8000000 in
set_option maxRecDepth 100000 in
theorem ct_M_value (l : Launch) (dC : Nat → ClassId) (dI : Nat → Nat → Nat) (cI cB cJ cZ cQ : ClassId) (sz : Nat) (h0 : Nat) (a : Nat → Nat) (x1 : Int32) (s : ms) (y : (Int64 × ms)) (hf : fn_M_value x1 s = some y) : Met l yn_M_value (xw yn_M_value bn_M_value 2 (some .long)) ({ frames := 1, cells := 0, slots := 0, locals := 21 }) (xk_P (dC, dI) xcl (xt cI cB cJ cZ cQ) [.ref h0, .int x1] sz (wM h0 a cI cB cJ cZ s)) (xk_Ql (dC, dI) xcl (xt cI cB cJ cZ cQ) (fun (r : Int64) (_ : Unit) => r = y.1) (fun _ : Unit => (wM h0 a cI cB cJ cZ y.2)) (va_A (wM h0 a cI cB cJ cZ s) sz)) 0 0 (va_A (wM h0 a cI cB cJ cZ s) sz) := by
  refine xk_of (QA := xk_Ql (dC, dI) xcl (xt cI cB cJ cZ cQ) (fun (r : Int64) (_ : Unit) => r = y.1) (fun _ : Unit => (wM h0 a cI cB cJ cZ y.2))) (by decide) (Nat.le_of_ble_eq_true rfl) ?_
  intro p e s0 m below meth c hx hb hml hown hg hr hlocks hin hP hK hN A hA hD hS ls hl
  have hown : s0.vm.findClass rn_M = some m.cls := hown
  obtain ⟨H, hH⟩ : ∃ z, z = s0.heap := ⟨_, rfl⟩
  rw [← hH] at hP
  have hS : va_S A s0.heap H [] := by rw [hH]; exact va_S.rf
  suffices kk : ∀ QQ : State → Prop, QQ = MQ below (xk_Ql (dC, dI) xcl (xt cI cB cJ cZ cQ) (fun (r : Int64) (_ : Unit) => r = y.1) (fun _ : Unit => (wM h0 a cI cB cJ cZ y.2)) A) [.ref h0, .int x1].toArray s0 0 0 A → dcC p l e ({ frames := 1, cells := 0, slots := 0, locals := 21 }) s0 m [.ref h0, .int x1].toArray below meth c QQ (dC, dI) A (wM h0 a cI cB cJ cZ s) 0 2 [(0, .ref h0), (1, .int x1)] [] by
    have k9 := kk _ rfl H [] ls hP hD hS hl
    rw [hH] at k9; exact k9
  clear hP hD hS hl hH H ls
  intro QQ hQQ
  have bl_25 : ∀ (x1 : Int32) (t0 : Int32) (s : ms), bk_M_value_25 x1 t0 s = some y → dcC p l e ({ frames := 1, cells := 0, slots := 0, locals := 21 }) s0 m [.ref h0, .int x1].toArray below meth c QQ (dC, dI) A (wM h0 a cI cB cJ cZ s) 25 2 [(0, .ref h0), (1, .int x1)] [.int t0, .ref h0] := by
    intro x1 t0 s hf H locs ls hP hD hS hl
    unfold bk_M_value_25 at hf
    refine va_put (D := (dC, dI)) (ci := 0) (v := .int t0) (ty := .int) (C := rn_M) (T := fn_M) (N := 91) hx hb hg in_M tn_M tk_M nn_M hown hK hP hD hS 0 rfl rfl 0 (by decide) (hg _ wn_8_68) (fun _ h9 => h9) rfl (tk_M 0 (by decide)) rfl rfl (Nat.le_of_ble_eq_true rfl) dn_M_value_25 (fun H locs hP hD hS => ?_)
    have hP : va_P (dC, dI) xcl (wM h0 a cI cB cJ cZ (upI s 0 (fun _ => t0))) H := hP
    have hD : va_D A (wM h0 a cI cB cJ cZ (upI s 0 (fun _ => t0))) := hD
    refine lv_aload_n hx hb dn_M_value_28 rfl (lv_at hl 0 rfl) ?_
    refine va_get (D := (dC, dI)) (ci := 0) (v := .int t0) (C := rn_M) (T := fn_M) (N := 91) hx hb hg in_M hown hK hP 0 rfl rfl 0 (by decide) (hg _ wn_8_68) (fun _ h9 => h9) rfl dn_M_value_29 ?_
    refine lv_if_le (tgt := 39) hx hb dn_M_value_32 (by decide) (fun h => ?_) (fun h => ?_)
    · have hf := (if_pos h).symm.trans hf
      refine lv_aload_n hx hb dn_M_value_39 rfl (lv_at hl 0 rfl) ?_
      refine va_get (D := (dC, dI)) (ci := 0) (v := .ref ((a 80))) (C := rn_M) (T := fn_M) (N := 91) hx hb hg in_M hown hK hP 0 rfl rfl 80 (by decide) (hg _ wn_8_148) (fun _ h9 => h9) rfl dn_M_value_40 ?_
      refine lv_iload_n hx hb dn_M_value_43 rfl (lv_at hl 1 rfl) ?_
      obtain ⟨hg_1, hf⟩ := dc_g hf
      refine va_lald hx hb hK hP 54 2 rfl rfl hg_1 dn_M_value_44 ?_
      refine xk_tl (y := ((s.2 80) (Int32.toNatClampNeg x1))) rfl ?_
      rw [hQQ, ← Option.some.inj hf]
      exact xk_lret (w1 := fun _ : Unit => (wM h0 a cI cB cJ cZ (upI s 0 (fun _ => t0)))) () hx hb hr hlocks hK hS dn_M_value_45 hP hD rfl (Nat.le_refl _) (Nat.le_refl _)
    · have hf := (if_neg h).symm.trans hf
      refine lv_lconst (v := 0) hx hb dn_M_value_35 (by decide) ?_
      refine lv_goto (tgt := 45) hx hb dn_M_value_36 (by decide) ?_
      rw [hQQ, ← Option.some.inj hf]
      exact xk_lret (w1 := fun _ : Unit => (wM h0 a cI cB cJ cZ (upI s 0 (fun _ => t0)))) () hx hb hr hlocks hK hS dn_M_value_45 hP hD rfl (Nat.le_refl _) (Nat.le_refl _)
  intro H locs ls hP hD hS hl
  unfold fn_M_value at hf
  refine lv_aload_n hx hb dn_M_value_0 rfl (lv_at hl 0 rfl) ?_
  refine lv_aload_n hx hb dn_M_value_1 rfl (lv_at hl 0 rfl) ?_
  refine va_get (D := (dC, dI)) (ci := 0) (v := .int ((s.1 54 0))) (C := rn_M) (T := fn_M) (N := 91) hx hb hg in_M hown hK hP 0 rfl rfl 54 (by decide) (hg _ wn_8_122) (fun _ h9 => h9) rfl dn_M_value_2 ?_
  refine lv_if_ne (tgt := 12) hx hb dn_M_value_5 (by decide) (fun h => ?_) (fun h => ?_)
  · have hf := (if_neg h).symm.trans hf
    refine lv_aload_n hx hb dn_M_value_12 rfl (lv_at hl 0 rfl) ?_
    refine lv_iload_n hx hb dn_M_value_13 rfl (lv_at hl 1 rfl) ?_
    obtain ⟨q_1, hc_2, hf⟩ := dc_b hf
    refine dc_calli (xk_runV (ar := 1) (As := [.int x1]) (rest := [.ref h0]) (ci := 0) (q0 := 0) ⟨hx, hb, hml, hown, hg⟩ hK hN (ct_M_isSignal l dC dI cI cB cJ cZ cQ H.size h0 a x1 s q_1 hc_2) hP hD rfl rfl wn_11_26 wn_11_28 sn_M_isSignal wn_1_13 wn_11_29 rfl rfl (by decide +kernel) ⟨Nat.le_of_ble_eq_true rfl, Nat.le_of_ble_eq_true rfl⟩ rfl hl.1 rfl (Nat.le_of_ble_eq_true rfl) dn_M_value_14 ⟨Nat.le_of_ble_eq_true rfl, Nat.le_of_ble_eq_true rfl⟩) hP hD hS hA (fun r_3 _ H locs hw hP hD hS => ?_)
    have hw : r_3 = q_1.1 := hw
    subst hw
    refine lv_if_ne (tgt := 24) hx hb dn_M_value_17 (by decide) (fun h => ?_) (fun h => ?_)
    · have hf := (if_neg h).symm.trans hf
      refine lv_iconst (v := 0) hx hb dn_M_value_24 (by decide) ?_
      exact bl_25 x1 0 q_1.2 hf H locs ls hP hD hS hl
    · have hf := (if_pos h).symm.trans hf
      refine lv_iconst (v := 2) hx hb dn_M_value_20 (by decide) ?_
      refine lv_goto (tgt := 25) hx hb dn_M_value_21 (by decide) ?_
      exact bl_25 x1 2 q_1.2 hf H locs ls hP hD hS hl
  · have hf := (if_pos h).symm.trans hf
    refine lv_iconst (v := 1) hx hb dn_M_value_8 (by decide) ?_
    refine lv_goto (tgt := 25) hx hb dn_M_value_9 (by decide) ?_
    exact bl_25 x1 1 s hf H locs ls hP hD hS hl
def bd_M_failingNow_27 (k_4 : Int32 → Int32 → ms → Option (Int32 × ms)) (k_27 : Int32 → Int32 → Int32 → Int32 → ms → Option (Int32 × ms)) (x1 : Int32) (x2 : Int32) (x3 : Int32) (x4 : Int32) (s : ms) : Option (Int32 × ms) :=
  if ((x3 + 1) < 0 ∨ 3601 ≤ Int32.toNatClampNeg ((x3 + 1))) then none else if ((s.1 16) (Int32.toNatClampNeg ((x3 + 1)))) ≤ x4 then (k_4 x1 ((x2 + 1)) s) else (if (x4 < 0 ∨ 6600 ≤ Int32.toNatClampNeg x4) then none else if (x4 < 0 ∨ 6600 ≤ Int32.toNatClampNeg x4) then none else (fn_M_run (((s.1 36) (Int32.toNatClampNeg x4))) (((s.1 37) (Int32.toNatClampNeg x4))) x2 s).bind (fun q_4 => (fn_M_pop q_4.2).bind (fun q_6 => if (lg_cmp q_6.1 0) = 0 then (k_27 ((x1 + 1)) x2 x3 ((x4 + 1)) q_6.2) else (k_27 x1 x2 x3 ((x4 + 1)) q_6.2))))
def hd_M_failingNow_27 (k_4 : Int32 → Int32 → ms → Option (Int32 × ms)) : Nat → Int32 → Int32 → Int32 → Int32 → ms → Option (Int32 × ms)
  | 0, _, _, _, _, _ => none
  | n + 1, x1, x2, x3, x4, s => bd_M_failingNow_27 k_4 (hd_M_failingNow_27 k_4 n) x1 x2 x3 x4 s
def bd_M_failingNow_4 (k_4 : Int32 → Int32 → ms → Option (Int32 × ms)) (x1 : Int32) (x2 : Int32) (s : ms) : Option (Int32 × ms) :=
  if (s.1 56 0) ≤ x2 then (some (x1, s)) else (if (x2 < 0 ∨ 260 ≤ Int32.toNatClampNeg x2) then none else if (((s.1 57) (Int32.toNatClampNeg x2)) < 0 ∨ 3601 ≤ Int32.toNatClampNeg (((s.1 57) (Int32.toNatClampNeg x2)))) then none else hd_M_failingNow_27 k_4 dc_N x1 x2 (((s.1 57) (Int32.toNatClampNeg x2))) (((s.1 16) (Int32.toNatClampNeg (((s.1 57) (Int32.toNatClampNeg x2)))))) s)
def hd_M_failingNow_4 : Nat → Int32 → Int32 → ms → Option (Int32 × ms)
  | 0, _, _, _ => none
  | n + 1, x1, x2, s => bd_M_failingNow_4 (hd_M_failingNow_4 n) x1 x2 s
def fn_M_failingNow (s : ms) : Option (Int32 × ms) :=
  hd_M_failingNow_4 dc_N 0 0 s
set_option maxHeartbeats 8000000 in
set_option maxRecDepth 100000 in
theorem ct_M_failingNow (l : Launch) (dC : Nat → ClassId) (dI : Nat → Nat → Nat) (cI cB cJ cZ cQ : ClassId) (sz : Nat) (h0 : Nat) (a : Nat → Nat) (s : ms) (y : (Int32 × ms)) (hf : fn_M_failingNow s = some y) : Met l yn_M_failingNow (xw yn_M_failingNow bn_M_failingNow 5 (some .int)) ({ frames := 3, cells := 0, slots := 0, locals := 96 }) (xk_P (dC, dI) xcl (xt cI cB cJ cZ cQ) [.ref h0] sz (wM h0 a cI cB cJ cZ s)) (xk_Qi (dC, dI) xcl (xt cI cB cJ cZ cQ) (fun (r : Int32) (_ : Unit) => r = y.1) (fun _ : Unit => (wM h0 a cI cB cJ cZ y.2)) (va_A (wM h0 a cI cB cJ cZ s) sz)) 0 0 (va_A (wM h0 a cI cB cJ cZ s) sz) := by
  refine xk_of (QA := xk_Qi (dC, dI) xcl (xt cI cB cJ cZ cQ) (fun (r : Int32) (_ : Unit) => r = y.1) (fun _ : Unit => (wM h0 a cI cB cJ cZ y.2))) (by decide) (Nat.le_of_ble_eq_true rfl) ?_
  intro p e s0 m below meth c hx hb hml hown hg hr hlocks hin hP hK hN A hA hD hS ls hl
  have hown : s0.vm.findClass rn_M = some m.cls := hown
  obtain ⟨H, hH⟩ : ∃ z, z = s0.heap := ⟨_, rfl⟩
  rw [← hH] at hP
  have hS : va_S A s0.heap H [] := by rw [hH]; exact va_S.rf
  suffices kk : ∀ QQ : State → Prop, QQ = MQ below (xk_Qi (dC, dI) xcl (xt cI cB cJ cZ cQ) (fun (r : Int32) (_ : Unit) => r = y.1) (fun _ : Unit => (wM h0 a cI cB cJ cZ y.2)) A) [.ref h0].toArray s0 0 0 A → dcC p l e ({ frames := 3, cells := 0, slots := 0, locals := 96 }) s0 m [.ref h0].toArray below meth c QQ (dC, dI) A (wM h0 a cI cB cJ cZ s) 0 5 [(0, .ref h0)] [] by
    have k9 := kk _ rfl H [] ls hP hD hS hl
    rw [hH] at k9; exact k9
  clear hP hD hS hl hH H ls
  intro QQ hQQ
  have hd_27 : ∀ (k_4 : Int32 → Int32 → ms → Option (Int32 × ms)) (hk_4 : ∀ (x1 : Int32) (x2 : Int32) (s : ms), k_4 x1 x2 s = some y → dcC p l e ({ frames := 3, cells := 0, slots := 0, locals := 96 }) s0 m [.ref h0].toArray below meth c QQ (dC, dI) A (wM h0 a cI cB cJ cZ s) 4 5 [(0, .ref h0), (1, .int x1), (2, .int x2)] []) (n : Nat) (x1 : Int32) (x2 : Int32) (x3 : Int32) (x4 : Int32) (s : ms), hd_M_failingNow_27 k_4 n x1 x2 x3 x4 s = some y → dcC p l e ({ frames := 3, cells := 0, slots := 0, locals := 96 }) s0 m [.ref h0].toArray below meth c QQ (dC, dI) A (wM h0 a cI cB cJ cZ s) 27 5 [(0, .ref h0), (1, .int x1), (2, .int x2), (3, .int x3), (4, .int x4)] [] := by
    intro k_4 hk_4 n
    induction n with
    | zero => intro x1 x2 x3 x4 s hf; cases hf
    | succ n ih =>
      intro x1 x2 x3 x4 s hf H locs ls hP hD hS hl
      have hf : bd_M_failingNow_27 k_4 (hd_M_failingNow_27 k_4 n) x1 x2 x3 x4 s = some y := hf
      have hk_27 := ih
      generalize hd_M_failingNow_27 k_4 n = k_27 at hf hk_27
      unfold bd_M_failingNow_27 at hf
      refine lv_iload hx hb dn_M_failingNow_27 (lv_at hl 4 rfl) ?_
      refine lv_aload_n hx hb dn_M_failingNow_29 rfl (lv_at hl 0 rfl) ?_
      refine va_get (D := (dC, dI)) (ci := 0) (v := .ref ((a 16))) (C := rn_M) (T := fn_M) (N := 91) hx hb hg in_M hown hK hP 0 rfl rfl 16 (by decide) (hg _ wn_8_84) (fun _ h9 => h9) rfl dn_M_failingNow_30 ?_
      refine lv_iload_n hx hb dn_M_failingNow_33 rfl (lv_at hl 3 rfl) ?_
      refine lv_iconst (v := 1) hx hb dn_M_failingNow_34 (by decide) ?_
      refine lv_iadd hx hb dn_M_failingNow_35 ?_
      obtain ⟨hg_1, hf⟩ := dc_g hf
      refine va_iald hx hb hK hP 8 0 rfl rfl hg_1 dn_M_failingNow_36 ?_
      refine xk_ti (y := ((s.1 16) (Int32.toNatClampNeg ((x3 + 1))))) rfl ?_
      refine lv_icmp_ge (tgt := 82) hx hb dn_M_failingNow_37 (by decide) (fun h => ?_) (fun h => ?_)
      · have hf := (if_pos h).symm.trans hf
        refine lv_iinc (v := (x2 + 1)) (lv' := [(2, .int ((x2 + 1))), (0, .ref h0), (1, .int x1), (3, .int x3), (4, .int x4)]) hx hb dn_M_failingNow_82 hl (k := 2) rfl (dc_inc (by decide)) (by decide) rfl (fun ls hl => ?_)
        refine lv_goto (tgt := 4) hx hb dn_M_failingNow_85 (by decide) ?_
        exact hk_4 x1 ((x2 + 1)) s hf H locs ls hP hD hS (lv_sub hl [1, 2, 0] rfl)
      · have hf := (if_neg h).symm.trans hf
        refine lv_aload_n hx hb dn_M_failingNow_40 rfl (lv_at hl 0 rfl) ?_
        refine lv_aload_n hx hb dn_M_failingNow_41 rfl (lv_at hl 0 rfl) ?_
        refine va_get (D := (dC, dI)) (ci := 0) (v := .ref ((a 36))) (C := rn_M) (T := fn_M) (N := 91) hx hb hg in_M hown hK hP 0 rfl rfl 36 (by decide) (hg _ wn_8_104) (fun _ h9 => h9) rfl dn_M_failingNow_42 ?_
        refine lv_iload hx hb dn_M_failingNow_45 (lv_at hl 4 rfl) ?_
        obtain ⟨hg_2, hf⟩ := dc_g hf
        refine va_iald hx hb hK hP 24 0 rfl rfl hg_2 dn_M_failingNow_47 ?_
        refine xk_ti (y := ((s.1 36) (Int32.toNatClampNeg x4))) rfl ?_
        refine lv_aload_n hx hb dn_M_failingNow_48 rfl (lv_at hl 0 rfl) ?_
        refine va_get (D := (dC, dI)) (ci := 0) (v := .ref ((a 37))) (C := rn_M) (T := fn_M) (N := 91) hx hb hg in_M hown hK hP 0 rfl rfl 37 (by decide) (hg _ wn_8_105) (fun _ h9 => h9) rfl dn_M_failingNow_49 ?_
        refine lv_iload hx hb dn_M_failingNow_52 (lv_at hl 4 rfl) ?_
        obtain ⟨hg_3, hf⟩ := dc_g hf
        refine va_iald hx hb hK hP 25 0 rfl rfl hg_3 dn_M_failingNow_54 ?_
        refine xk_ti (y := ((s.1 37) (Int32.toNatClampNeg x4))) rfl ?_
        refine lv_iload_n hx hb dn_M_failingNow_55 rfl (lv_at hl 2 rfl) ?_
        obtain ⟨q_4, hc_5, hf⟩ := dc_b hf
        refine dc_callv (xk_runV (ar := 3) (As := [.int (((s.1 36) (Int32.toNatClampNeg x4))), .int (((s.1 37) (Int32.toNatClampNeg x4))), .int x2]) (rest := []) (ci := 0) (q0 := 0) ⟨hx, hb, hml, hown, hg⟩ hK hN (ct_M_run l dC dI cI cB cJ cZ cQ H.size h0 a (((s.1 36) (Int32.toNatClampNeg x4))) (((s.1 37) (Int32.toNatClampNeg x4))) x2 s q_4 hc_5) hP hD rfl rfl wn_10_208 wn_10_210 sn_M_run wn_1_13 wn_10_211 rfl rfl (by decide +kernel) ⟨Nat.le_of_ble_eq_true rfl, Nat.le_of_ble_eq_true rfl⟩ rfl hl.1 rfl (Nat.le_of_ble_eq_true rfl) dn_M_failingNow_56 ⟨Nat.le_of_ble_eq_true rfl, Nat.le_of_ble_eq_true rfl⟩) hP hD hS hA (fun _ H locs hw hP hD hS => ?_)
        refine lv_aload_n hx hb dn_M_failingNow_59 rfl (lv_at hl 0 rfl) ?_
        obtain ⟨q_6, hc_7, hf⟩ := dc_b hf
        refine dc_calll (xk_runV (ar := 0) (As := []) (rest := []) (ci := 0) (q0 := 0) ⟨hx, hb, hml, hown, hg⟩ hK hN (ct_M_pop l dC dI cI cB cJ cZ cQ H.size h0 a q_4.2 q_6 hc_7) hP hD rfl rfl wn_10_216 wn_10_218 sn_M_pop wn_1_13 wn_10_219 rfl rfl (by decide +kernel) ⟨Nat.le_of_ble_eq_true rfl, Nat.le_of_ble_eq_true rfl⟩ rfl hl.1 rfl (Nat.le_of_ble_eq_true rfl) dn_M_failingNow_60 ⟨Nat.le_of_ble_eq_true rfl, Nat.le_of_ble_eq_true rfl⟩) hP hD hS hA (fun r_8 _ H locs hw hP hD hS => ?_)
        have hw : r_8 = q_6.1 := hw
        subst hw
        refine lv_lconst (v := 0) hx hb dn_M_failingNow_63 (by decide) ?_
        refine W.lcmp hx hb dn_M_failingNow_64 ?_
        refine lv_if_ne (tgt := 74) hx hb dn_M_failingNow_65 (by decide) (fun h => ?_) (fun h => ?_)
        · have hf := (if_neg h).symm.trans hf
          refine lv_iload_n hx hb dn_M_failingNow_74 rfl (lv_at hl 1 rfl) ?_
          refine lv_istore_n (lv' := [(1, .int x1), (0, .ref h0), (2, .int x2), (3, .int x3), (4, .int x4)]) hx hb dn_M_failingNow_75 rfl hl (by decide) rfl (fun ls hl => ?_)
          refine lv_iinc (v := (x4 + 1)) (lv' := [(4, .int ((x4 + 1))), (1, .int x1), (0, .ref h0), (2, .int x2), (3, .int x3)]) hx hb dn_M_failingNow_76 hl (k := 4) rfl (dc_inc (by decide)) (by decide) rfl (fun ls hl => ?_)
          refine lv_goto (tgt := 27) hx hb dn_M_failingNow_79 (by decide) ?_
          exact hk_27 x1 x2 x3 ((x4 + 1)) q_6.2 hf H locs ls hP hD hS (lv_sub hl [2, 1, 3, 4, 0] rfl)
        · have hf := (if_pos h).symm.trans hf
          refine lv_iload_n hx hb dn_M_failingNow_68 rfl (lv_at hl 1 rfl) ?_
          refine lv_iconst (v := 1) hx hb dn_M_failingNow_69 (by decide) ?_
          refine lv_iadd hx hb dn_M_failingNow_70 ?_
          refine lv_goto (tgt := 75) hx hb dn_M_failingNow_71 (by decide) ?_
          refine lv_istore_n (lv' := [(1, .int ((x1 + 1))), (0, .ref h0), (2, .int x2), (3, .int x3), (4, .int x4)]) hx hb dn_M_failingNow_75 rfl hl (by decide) rfl (fun ls hl => ?_)
          refine lv_iinc (v := (x4 + 1)) (lv' := [(4, .int ((x4 + 1))), (1, .int ((x1 + 1))), (0, .ref h0), (2, .int x2), (3, .int x3)]) hx hb dn_M_failingNow_76 hl (k := 4) rfl (dc_inc (by decide)) (by decide) rfl (fun ls hl => ?_)
          refine lv_goto (tgt := 27) hx hb dn_M_failingNow_79 (by decide) ?_
          exact hk_27 ((x1 + 1)) x2 x3 ((x4 + 1)) q_6.2 hf H locs ls hP hD hS (lv_sub hl [2, 1, 3, 4, 0] rfl)
  have hd_4 : ∀ (n : Nat) (x1 : Int32) (x2 : Int32) (s : ms), hd_M_failingNow_4 n x1 x2 s = some y → dcC p l e ({ frames := 3, cells := 0, slots := 0, locals := 96 }) s0 m [.ref h0].toArray below meth c QQ (dC, dI) A (wM h0 a cI cB cJ cZ s) 4 5 [(0, .ref h0), (1, .int x1), (2, .int x2)] [] := by
    intro n
    induction n with
    | zero => intro x1 x2 s hf; cases hf
    | succ n ih =>
      intro x1 x2 s hf H locs ls hP hD hS hl
      have hf : bd_M_failingNow_4 (hd_M_failingNow_4 n) x1 x2 s = some y := hf
      have hk_4 := ih
      generalize hd_M_failingNow_4 n = k_4 at hf hk_4
      unfold bd_M_failingNow_4 at hf
      refine lv_iload_n hx hb dn_M_failingNow_4 rfl (lv_at hl 2 rfl) ?_
      refine lv_aload_n hx hb dn_M_failingNow_5 rfl (lv_at hl 0 rfl) ?_
      refine va_get (D := (dC, dI)) (ci := 0) (v := .int ((s.1 56 0))) (C := rn_M) (T := fn_M) (N := 91) hx hb hg in_M hown hK hP 0 rfl rfl 56 (by decide) (hg _ wn_8_124) (fun _ h9 => h9) rfl dn_M_failingNow_6 ?_
      refine lv_icmp_ge (tgt := 88) hx hb dn_M_failingNow_9 (by decide) (fun h => ?_) (fun h => ?_)
      · have hf := (if_pos h).symm.trans hf
        refine lv_iload_n hx hb dn_M_failingNow_88 rfl (lv_at hl 1 rfl) ?_
        rw [hQQ, ← Option.some.inj hf]
        exact xk_iret (w1 := fun _ : Unit => (wM h0 a cI cB cJ cZ s)) () hx hb hr hlocks hK hS dn_M_failingNow_89 hP hD rfl (Nat.le_refl _) (Nat.le_refl _)
      · have hf := (if_neg h).symm.trans hf
        refine lv_aload_n hx hb dn_M_failingNow_12 rfl (lv_at hl 0 rfl) ?_
        refine va_get (D := (dC, dI)) (ci := 0) (v := .ref ((a 57))) (C := rn_M) (T := fn_M) (N := 91) hx hb hg in_M hown hK hP 0 rfl rfl 57 (by decide) (hg _ wn_8_125) (fun _ h9 => h9) rfl dn_M_failingNow_13 ?_
        refine lv_iload_n hx hb dn_M_failingNow_16 rfl (lv_at hl 2 rfl) ?_
        obtain ⟨hg_1, hf⟩ := dc_g hf
        refine va_iald hx hb hK hP 38 0 rfl rfl hg_1 dn_M_failingNow_17 ?_
        refine xk_ti (y := ((s.1 57) (Int32.toNatClampNeg x2))) rfl ?_
        refine lv_istore_n (lv' := [(3, .int (((s.1 57) (Int32.toNatClampNeg x2)))), (0, .ref h0), (1, .int x1), (2, .int x2)]) hx hb dn_M_failingNow_18 rfl hl (by decide) rfl (fun ls hl => ?_)
        refine lv_aload_n hx hb dn_M_failingNow_19 rfl (lv_at hl 1 rfl) ?_
        refine va_get (D := (dC, dI)) (ci := 0) (v := .ref ((a 16))) (C := rn_M) (T := fn_M) (N := 91) hx hb hg in_M hown hK hP 0 rfl rfl 16 (by decide) (hg _ wn_8_84) (fun _ h9 => h9) rfl dn_M_failingNow_20 ?_
        refine lv_iload_n hx hb dn_M_failingNow_23 rfl (lv_at hl 0 rfl) ?_
        obtain ⟨hg_2, hf⟩ := dc_g hf
        refine va_iald hx hb hK hP 8 0 rfl rfl hg_2 dn_M_failingNow_24 ?_
        refine xk_ti (y := ((s.1 16) (Int32.toNatClampNeg (((s.1 57) (Int32.toNatClampNeg x2)))))) rfl ?_
        refine lv_istore (lv' := [(4, .int (((s.1 16) (Int32.toNatClampNeg (((s.1 57) (Int32.toNatClampNeg x2))))))), (3, .int (((s.1 57) (Int32.toNatClampNeg x2)))), (0, .ref h0), (1, .int x1), (2, .int x2)]) hx hb dn_M_failingNow_25 hl (by decide) rfl (fun ls hl => ?_)
        exact hd_27 k_4 hk_4 dc_N x1 x2 (((s.1 57) (Int32.toNatClampNeg x2))) (((s.1 16) (Int32.toNatClampNeg (((s.1 57) (Int32.toNatClampNeg x2)))))) s hf H locs ls hP hD hS (lv_sub hl [2, 3, 4, 1, 0] rfl)
  intro H locs ls hP hD hS hl
  unfold fn_M_failingNow at hf
  refine lv_iconst (v := 0) hx hb dn_M_failingNow_0 (by decide) ?_
  refine lv_istore_n (lv' := [(1, .int 0), (0, .ref h0)]) hx hb dn_M_failingNow_1 rfl hl (by decide) rfl (fun ls hl => ?_)
  refine lv_iconst (v := 0) hx hb dn_M_failingNow_2 (by decide) ?_
  refine lv_istore_n (lv' := [(2, .int 0), (1, .int 0), (0, .ref h0)]) hx hb dn_M_failingNow_3 rfl hl (by decide) rfl (fun ls hl => ?_)
  exact hd_4 dc_N 0 0 s hf H locs ls hP hD hS (lv_sub hl [2, 1, 0] rfl)
def bk_M_failing_13 (t0 : Int32) (s : ms) : Option (Int32 × ms) :=
  if t0 ≤ 0 then ((fn_M_failingNow (upI s 0 (fun _ => t0))).bind (fun q_1 => some (q_1.1, q_1.2))) else (some (0, upI s 0 (fun _ => t0)))
def fn_M_failing (s : ms) : Option (Int32 × ms) :=
  if (s.1 54 0) = 0 then (bk_M_failing_13 1 s) else (bk_M_failing_13 0 s)
set_option maxHeartbeats 8000000 in
set_option maxRecDepth 100000 in
theorem ct_M_failing (l : Launch) (dC : Nat → ClassId) (dI : Nat → Nat → Nat) (cI cB cJ cZ cQ : ClassId) (sz : Nat) (h0 : Nat) (a : Nat → Nat) (s : ms) (y : (Int32 × ms)) (hf : fn_M_failing s = some y) : Met l yn_M_failing (xw yn_M_failing bn_M_failing 1 (some .int)) ({ frames := 4, cells := 0, slots := 0, locals := 120 }) (xk_P (dC, dI) xcl (xt cI cB cJ cZ cQ) [.ref h0] sz (wM h0 a cI cB cJ cZ s)) (xk_Qi (dC, dI) xcl (xt cI cB cJ cZ cQ) (fun (r : Int32) (_ : Unit) => r = y.1) (fun _ : Unit => (wM h0 a cI cB cJ cZ y.2)) (va_A (wM h0 a cI cB cJ cZ s) sz)) 0 0 (va_A (wM h0 a cI cB cJ cZ s) sz) := by
  refine xk_of (QA := xk_Qi (dC, dI) xcl (xt cI cB cJ cZ cQ) (fun (r : Int32) (_ : Unit) => r = y.1) (fun _ : Unit => (wM h0 a cI cB cJ cZ y.2))) (by decide) (Nat.le_of_ble_eq_true rfl) ?_
  intro p e s0 m below meth c hx hb hml hown hg hr hlocks hin hP hK hN A hA hD hS ls hl
  have hown : s0.vm.findClass rn_M = some m.cls := hown
  obtain ⟨H, hH⟩ : ∃ z, z = s0.heap := ⟨_, rfl⟩
  rw [← hH] at hP
  have hS : va_S A s0.heap H [] := by rw [hH]; exact va_S.rf
  suffices kk : ∀ QQ : State → Prop, QQ = MQ below (xk_Qi (dC, dI) xcl (xt cI cB cJ cZ cQ) (fun (r : Int32) (_ : Unit) => r = y.1) (fun _ : Unit => (wM h0 a cI cB cJ cZ y.2)) A) [.ref h0].toArray s0 0 0 A → dcC p l e ({ frames := 4, cells := 0, slots := 0, locals := 120 }) s0 m [.ref h0].toArray below meth c QQ (dC, dI) A (wM h0 a cI cB cJ cZ s) 0 1 [(0, .ref h0)] [] by
    have k9 := kk _ rfl H [] ls hP hD hS hl
    rw [hH] at k9; exact k9
  clear hP hD hS hl hH H ls
  intro QQ hQQ
  have bl_13 : ∀ (t0 : Int32) (s : ms), bk_M_failing_13 t0 s = some y → dcC p l e ({ frames := 4, cells := 0, slots := 0, locals := 120 }) s0 m [.ref h0].toArray below meth c QQ (dC, dI) A (wM h0 a cI cB cJ cZ s) 13 1 [(0, .ref h0)] [.int t0, .ref h0] := by
    intro t0 s hf H locs ls hP hD hS hl
    unfold bk_M_failing_13 at hf
    refine va_put (D := (dC, dI)) (ci := 0) (v := .int t0) (ty := .int) (C := rn_M) (T := fn_M) (N := 91) hx hb hg in_M tn_M tk_M nn_M hown hK hP hD hS 0 rfl rfl 0 (by decide) (hg _ wn_8_68) (fun _ h9 => h9) rfl (tk_M 0 (by decide)) rfl rfl (Nat.le_of_ble_eq_true rfl) dn_M_failing_13 (fun H locs hP hD hS => ?_)
    have hP : va_P (dC, dI) xcl (wM h0 a cI cB cJ cZ (upI s 0 (fun _ => t0))) H := hP
    have hD : va_D A (wM h0 a cI cB cJ cZ (upI s 0 (fun _ => t0))) := hD
    refine lv_aload_n hx hb dn_M_failing_16 rfl (lv_at hl 0 rfl) ?_
    refine va_get (D := (dC, dI)) (ci := 0) (v := .int t0) (C := rn_M) (T := fn_M) (N := 91) hx hb hg in_M hown hK hP 0 rfl rfl 0 (by decide) (hg _ wn_8_68) (fun _ h9 => h9) rfl dn_M_failing_17 ?_
    refine lv_if_le (tgt := 27) hx hb dn_M_failing_20 (by decide) (fun h => ?_) (fun h => ?_)
    · have hf := (if_pos h).symm.trans hf
      refine lv_aload_n hx hb dn_M_failing_27 rfl (lv_at hl 0 rfl) ?_
      obtain ⟨q_1, hc_2, hf⟩ := dc_b hf
      refine dc_calli (xk_runV (ar := 0) (As := []) (rest := []) (ci := 0) (q0 := 0) ⟨hx, hb, hml, hown, hg⟩ hK hN (ct_M_failingNow l dC dI cI cB cJ cZ cQ H.size h0 a (upI s 0 (fun _ => t0)) q_1 hc_2) hP hD rfl rfl wn_11_58 wn_11_60 sn_M_failingNow wn_1_13 wn_11_61 rfl rfl (by decide +kernel) ⟨Nat.le_of_ble_eq_true rfl, Nat.le_of_ble_eq_true rfl⟩ rfl hl.1 rfl (Nat.le_of_ble_eq_true rfl) dn_M_failing_28 ⟨Nat.le_of_ble_eq_true rfl, Nat.le_of_ble_eq_true rfl⟩) hP hD hS hA (fun r_3 _ H locs hw hP hD hS => ?_)
      have hw : r_3 = q_1.1 := hw
      subst hw
      rw [hQQ, ← Option.some.inj hf]
      exact xk_iret (w1 := fun _ : Unit => (wM h0 a cI cB cJ cZ q_1.2)) () hx hb hr hlocks hK hS dn_M_failing_31 hP hD rfl (Nat.le_refl _) (Nat.le_refl _)
    · have hf := (if_neg h).symm.trans hf
      refine lv_iconst (v := 0) hx hb dn_M_failing_23 (by decide) ?_
      refine lv_goto (tgt := 31) hx hb dn_M_failing_24 (by decide) ?_
      rw [hQQ, ← Option.some.inj hf]
      exact xk_iret (w1 := fun _ : Unit => (wM h0 a cI cB cJ cZ (upI s 0 (fun _ => t0)))) () hx hb hr hlocks hK hS dn_M_failing_31 hP hD rfl (Nat.le_refl _) (Nat.le_refl _)
  intro H locs ls hP hD hS hl
  unfold fn_M_failing at hf
  refine lv_aload_n hx hb dn_M_failing_0 rfl (lv_at hl 0 rfl) ?_
  refine lv_aload_n hx hb dn_M_failing_1 rfl (lv_at hl 0 rfl) ?_
  refine va_get (D := (dC, dI)) (ci := 0) (v := .int ((s.1 54 0))) (C := rn_M) (T := fn_M) (N := 91) hx hb hg in_M hown hK hP 0 rfl rfl 54 (by decide) (hg _ wn_8_122) (fun _ h9 => h9) rfl dn_M_failing_2 ?_
  refine lv_if_eq (tgt := 12) hx hb dn_M_failing_5 (by decide) (fun h => ?_) (fun h => ?_)
  · have hf := (if_pos h).symm.trans hf
    refine lv_iconst (v := 1) hx hb dn_M_failing_12 (by decide) ?_
    exact bl_13 1 s hf H locs ls hP hD hS hl
  · have hf := (if_neg h).symm.trans hf
    refine lv_iconst (v := 0) hx hb dn_M_failing_8 (by decide) ?_
    refine lv_goto (tgt := 13) hx hb dn_M_failing_9 (by decide) ?_
    exact bl_13 0 s hf H locs ls hP hD hS hl
