def bk_M_failing_13 (N : Nat) (t0 : Int32) (s : ms) : Option (Int32 × ms) :=
  if t0 ≤ 0 then ((fn_M_failingNow N (upI s 0 (fun _ => t0))).bind (fun q_1 => some (q_1.1, q_1.2))) else (some (0, upI s 0 (fun _ => t0)))
def fn_M_failing (N : Nat) (s : ms) : Option (Int32 × ms) :=
  if (s.1 54 0) = 0 then (bk_M_failing_13 N 1 s) else (bk_M_failing_13 N 0 s)
theorem mo_M_failing_13 (N : Nat) (y : (Int32 × ms)) (t0 : Int32) (s : ms) (hf : bk_M_failing_13 N t0 s = some y) : gl y.2 = gl s := by
  unfold bk_M_failing_13 at hf
  have hm : gl s = gl s := rfl
  by_cases h : t0 ≤ 0
  · have hf := (if_pos h).symm.trans hf
    obtain ⟨q_1, hc_2, hf⟩ := dc_b hf
    have hm := (mn_M_failingNow N (upI s 0 (fun _ => t0)) q_1 hc_2).trans hm
    rw [← Option.some.inj hf]
    exact hm
  · have hf := (if_neg h).symm.trans hf
    rw [← Option.some.inj hf]
    exact hm
theorem mn_M_failing (N : Nat) (s : ms) (y : (Int32 × ms)) (hf : fn_M_failing N s = some y) : gl y.2 = gl s := by
  unfold fn_M_failing at hf
  have hm : gl s = gl s := rfl
  by_cases h : (s.1 54 0) = 0
  · have hf := (if_pos h).symm.trans hf
    exact (mo_M_failing_13 N y 1 s hf).trans hm
  · have hf := (if_neg h).symm.trans hf
    exact (mo_M_failing_13 N y 0 s hf).trans hm
set_option maxHeartbeats 8000000 in
set_option maxRecDepth 100000 in
theorem ct_M_failing (l : Launch) (dC : Nat → ClassId) (dI : Nat → Nat → Nat) (cI cB cJ cZ cQ : ClassId) (N sz : Nat) (h0 : Nat) (a : Nat → Nat) (s : ms) (y : (Int32 × ms)) (hf : fn_M_failing N s = some y) : Met l yn_M_failing (xw yn_M_failing bn_M_failing 1 (some .int)) ({ frames := 4, cells := 0, slots := 0, locals := 120 }) (dc_P (dC, dI) xcl (xt cI cB cJ cZ cQ) [.ref h0] sz (wM h0 a cI cB cJ cZ s)) (xk_Qi (dC, dI) xcl (xt cI cB cJ cZ cQ) (fun (r : Int32) (_ : Unit) => r = y.1) (fun u : Unit => (wM h0 a cI cB cJ cZ y.2)) (va_A (wM h0 a cI cB cJ cZ s) sz)) 0 0 (va_A (wM h0 a cI cB cJ cZ s) sz) := by
  refine dc_of (QA := xk_Qi (dC, dI) xcl (xt cI cB cJ cZ cQ) (fun (r : Int32) (_ : Unit) => r = y.1) (fun u : Unit => (wM h0 a cI cB cJ cZ y.2))) (by decide) (Nat.le_of_ble_eq_true rfl) ?_
  intro p e s0 m below meth c hx hb hml hown hg hr hlocks hin hP hK hN A hA hD hT ls hl
  have hown : s0.vm.findClass rn_M = some m.cls := hown
  obtain ⟨H, hH⟩ : ∃ z, z = s0.heap := ⟨_, rfl⟩
  rw [← hH] at hP
  have hS : va_S A s0.heap H [] := by rw [hH]; exact va_S.rf
  suffices kk : ∀ QQ : State → Prop, QQ = MQ below (xk_Qi (dC, dI) xcl (xt cI cB cJ cZ cQ) (fun (r : Int32) (_ : Unit) => r = y.1) (fun u : Unit => (wM h0 a cI cB cJ cZ y.2)) A) [.ref h0].toArray s0 0 0 A → dcC p l e ({ frames := 4, cells := 0, slots := 0, locals := 120 }) s0 m [.ref h0].toArray below meth c QQ (dC, dI) A (wM h0 a cI cB cJ cZ s) 0 1 [(0, .ref h0)] [] by
    have k9 := kk _ rfl H [] ls hP hD hS hl
    rw [hH] at k9; exact k9
  clear hP hD hS hl hH H ls
  intro QQ hQQ
  have bl_13 : ∀ (t0 : Int32) (s : ms), bk_M_failing_13 N t0 s = some y → dcC p l e ({ frames := 4, cells := 0, slots := 0, locals := 120 }) s0 m [.ref h0].toArray below meth c QQ (dC, dI) A (wM h0 a cI cB cJ cZ s) 13 1 [(0, .ref h0)] [.int t0, .ref h0] := by
    intro t0 s hf H locs ls hP hD hS hl
    unfold bk_M_failing_13 at hf
    refine va_put (D := (dC, dI)) (ci := 0) (v := .int t0) (ty := .int) (C := rn_M) (T := fn_M) (N := 91) hx hb hg in_M tn_M tk_M nn_M hown hK hP hD hS 0 rfl rfl 0 (by decide) (hg _ wn_8_68) (fun _ h9 => h9) rfl (tk_M 0 (by decide)) rfl rfl (Nat.le_of_ble_eq_true rfl) dn_M_failing_13 (fun H locs hP hD hS => ?_)
    have hP : va_P (dC, dI) xcl (wM h0 a cI cB cJ cZ (upI s 0 (fun _ => t0))) H := hP
    have hD : va_D A (wM h0 a cI cB cJ cZ (upI s 0 (fun _ => t0))) := hD
    refine lv_aload_n hx hb dn_M_failing_16 rfl (lv_at hl 0 rfl) ?_
    refine va_get (D := (dC, dI)) (ci := 0) (v := .int t0) (C := rn_M) (T := fn_M) (N := 91) hx hb hg in_M hown hK hP 0 rfl rfl 0 (by decide) (hg _ wn_8_68) (fun _ h9 => h9) rfl dn_M_failing_17 ?_
    refine lv_if_le (tgt := 27) hx hb dn_M_failing_20 (by decide) (fun h => ?_) (fun h => ?_)
    · have hf := (if_pos h).symm.trans hf
      refine lv_aload_n hx hb dn_M_failing_27 rfl (lv_at hl 0 rfl) ?_
      obtain ⟨q_1, hc_2, hf⟩ := dc_b hf
      refine dc_calli (dc_runV (ar := 0) (As := []) (rest := []) (ci := 0) (q0 := 0) ⟨hx, hb, hml, hown, hg⟩ hK hN hT hS hA (ct_M_failingNow l dC dI cI cB cJ cZ cQ N H.size h0 a (upI s 0 (fun _ => t0)) q_1 hc_2) hP hD rfl rfl wn_11_58 wn_11_60 sn_M_failingNow wn_1_13 wn_11_61 rfl rfl (by decide +kernel) ⟨Nat.le_of_ble_eq_true rfl, Nat.le_of_ble_eq_true rfl⟩ rfl hl.1 rfl (Nat.le_of_ble_eq_true rfl) dn_M_failing_28 ⟨Nat.le_of_ble_eq_true rfl, Nat.le_of_ble_eq_true rfl⟩) hP hD hS hA (fun r_3 _ H locs hw hP hD hS => ?_)
      have hw : r_3 = q_1.1 := hw
      subst hw
      rw [hQQ, ← Option.some.inj hf]
      exact xk_iret (w1 := fun u : Unit => (wM h0 a cI cB cJ cZ q_1.2)) () hx hb hr hlocks hK hS dn_M_failing_31 hP hD rfl (Nat.le_refl _) (Nat.le_refl _)
    · have hf := (if_neg h).symm.trans hf
      refine lv_iconst (v := 0) hx hb dn_M_failing_23 (by decide) ?_
      refine lv_goto (tgt := 31) hx hb dn_M_failing_24 (by decide) ?_
      rw [hQQ, ← Option.some.inj hf]
      exact xk_iret (w1 := fun u : Unit => (wM h0 a cI cB cJ cZ (upI s 0 (fun _ => t0)))) () hx hb hr hlocks hK hS dn_M_failing_31 hP hD rfl (Nat.le_refl _) (Nat.le_refl _)
  intro H locs ls hP hD hS hl
  unfold fn_M_failing at hf
  refine lv_aload_n hx hb dn_M_failing_0 rfl (lv_at hl 0 rfl) ?_
  refine lv_aload_n hx hb dn_M_failing_1 rfl (lv_at hl 0 rfl) ?_
  refine va_get (D := (dC, dI)) (ci := 0) (v := .int ((s.1 54 0))) (C := rn_M) (T := fn_M) (N := 91) hx hb hg in_M hown hK hP 0 rfl rfl 54 (by decide) (hg _ wn_8_122) (fun _ h9 => h9) rfl dn_M_failing_2 ?_
  refine lv_if_eq (tgt := 12) hx hb dn_M_failing_5 (by decide) (fun h => ?_) (fun h => ?_)
  · have hf := (if_pos h).symm.trans hf
    refine lv_iconst (v := 1) hx hb dn_M_failing_12 (by decide) ?_
    exact bl_13 1 s hf H locs ls hP hD hS hl
  · have hf := (if_neg h).symm.trans hf
    refine lv_iconst (v := 0) hx hb dn_M_failing_8 (by decide) ?_
    refine lv_goto (tgt := 13) hx hb dn_M_failing_9 (by decide) ?_
    exact bl_13 0 s hf H locs ls hP hD hS hl
