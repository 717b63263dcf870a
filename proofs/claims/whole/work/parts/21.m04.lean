def bd_M_begin0_7 (k_7 : Int32 → ms → Option (Unit × ms)) (x1 : Int32) (s : ms) : Option (Unit × ms) :=
  if (s.1 63 0) ≤ x1 then ((fn_M_settle_82_83 s).bind (fun q_1 => some ((), q_1.2))) else (if (x1 < 0 ∨ 1100 ≤ Int32.toNatClampNeg x1) then none else if (((s.1 64) (Int32.toNatClampNeg x1)) < 0 ∨ 11000 ≤ Int32.toNatClampNeg (((s.1 64) (Int32.toNatClampNeg x1)))) then none else if (x1 < 0 ∨ 1100 ≤ Int32.toNatClampNeg x1) then none else if (x1 < 0 ∨ 1100 ≤ Int32.toNatClampNeg x1) then none else k_7 ((x1 + 1)) (upJ (upJ s 82 (vp_updL (s.2 82) (Int32.toNatClampNeg x1) (((s.2 22) (Int32.toNatClampNeg (((s.1 64) (Int32.toNatClampNeg x1)))))))) 83 (vp_updL (s.2 83) (Int32.toNatClampNeg x1) 0)))
def hd_M_begin0_7 : Nat → Int32 → ms → Option (Unit × ms)
  | 0, _, _ => none
  | n + 1, x1, s => bd_M_begin0_7 (hd_M_begin0_7 n) x1 s
def fn_M_begin0 (s : ms) : Option (Unit × ms) :=
  hd_M_begin0_7 dc_N 0 (upI s 86 (fun _ => 0))
set_option maxHeartbeats 8000000 in
set_option maxRecDepth 100000 in
theorem ct_M_begin0 (l : Launch) (dC : Nat → ClassId) (dI : Nat → Nat → Nat) (cI cB cJ cZ cQ : ClassId) (sz : Nat) (h0 : Nat) (a : Nat → Nat) (s : ms) (y : (Unit × ms)) (hf : fn_M_begin0 s = some y) : Met l yn_M_begin0 (xw yn_M_begin0 bn_M_begin0 2 none) ({ frames := 4, cells := 0, slots := 0, locals := 120 }) (xk_P (dC, dI) xcl (xt cI cB cJ cZ cQ) [.ref h0] sz (wM h0 a cI cB cJ cZ s)) (xk_Qv (dC, dI) xcl (xt cI cB cJ cZ cQ) (fun _ : Unit => True) (fun _ : Unit => (wM h0 a cI cB cJ cZ y.2)) (va_A (wM h0 a cI cB cJ cZ s) sz)) 0 0 (va_A (wM h0 a cI cB cJ cZ s) sz) := by
  refine xk_of (QA := xk_Qv (dC, dI) xcl (xt cI cB cJ cZ cQ) (fun _ : Unit => True) (fun _ : Unit => (wM h0 a cI cB cJ cZ y.2))) (by decide) (Nat.le_of_ble_eq_true rfl) ?_
  intro p e s0 m below meth c hx hb hml hown hg hr hlocks hin hP hK hN A hA hD hS ls hl
  have hown : s0.vm.findClass rn_M = some m.cls := hown
  obtain ⟨H, hH⟩ : ∃ z, z = s0.heap := ⟨_, rfl⟩
  rw [← hH] at hP
  have hS : va_S A s0.heap H [] := by rw [hH]; exact va_S.rf
  suffices kk : ∀ QQ : State → Prop, QQ = MQ below (xk_Qv (dC, dI) xcl (xt cI cB cJ cZ cQ) (fun _ : Unit => True) (fun _ : Unit => (wM h0 a cI cB cJ cZ y.2)) A) [.ref h0].toArray s0 0 0 A → dcC p l e ({ frames := 4, cells := 0, slots := 0, locals := 120 }) s0 m [.ref h0].toArray below meth c QQ (dC, dI) A (wM h0 a cI cB cJ cZ s) 0 2 [(0, .ref h0)] [] by
    have k9 := kk _ rfl H [] ls hP hD hS hl
    rw [hH] at k9; exact k9
  clear hP hD hS hl hH H ls
  intro QQ hQQ
  have hd_7 : ∀ (n : Nat) (x1 : Int32) (s : ms), hd_M_begin0_7 n x1 s = some y → dcC p l e ({ frames := 4, cells := 0, slots := 0, locals := 120 }) s0 m [.ref h0].toArray below meth c QQ (dC, dI) A (wM h0 a cI cB cJ cZ s) 7 2 [(0, .ref h0), (1, .int x1)] [] := by
    intro n
    induction n with
    | zero => intro x1 s hf; cases hf
    | succ n ih =>
      intro x1 s hf H locs ls hP hD hS hl
      have hf : bd_M_begin0_7 (hd_M_begin0_7 n) x1 s = some y := hf
      have hk_7 := ih
      generalize hd_M_begin0_7 n = k_7 at hf hk_7
      unfold bd_M_begin0_7 at hf
      refine lv_iload_n hx hb dn_M_begin0_7 rfl (lv_at hl 1 rfl) ?_
      refine lv_aload_n hx hb dn_M_begin0_8 rfl (lv_at hl 0 rfl) ?_
      refine va_get (D := (dC, dI)) (ci := 0) (v := .int ((s.1 63 0))) (C := rn_M) (T := fn_M) (N := 91) hx hb hg in_M hown hK hP 0 rfl rfl 63 (by decide) (hg _ wn_8_131) (fun _ h9 => h9) rfl dn_M_begin0_9 ?_
      refine lv_icmp_ge (tgt := 45) hx hb dn_M_begin0_12 (by decide) (fun h => ?_) (fun h => ?_)
      · have hf := (if_pos h).symm.trans hf
        refine lv_aload_n hx hb dn_M_begin0_45 rfl (lv_at hl 0 rfl) ?_
        refine lv_aload_n hx hb dn_M_begin0_46 rfl (lv_at hl 0 rfl) ?_
        refine va_get (D := (dC, dI)) (ci := 0) (v := .ref ((a 82))) (C := rn_M) (T := fn_M) (N := 91) hx hb hg in_M hown hK hP 0 rfl rfl 82 (by decide) (hg _ wn_8_150) (fun _ h9 => h9) rfl dn_M_begin0_47 ?_
        refine lv_aload_n hx hb dn_M_begin0_50 rfl (lv_at hl 0 rfl) ?_
        refine va_get (D := (dC, dI)) (ci := 0) (v := .ref ((a 83))) (C := rn_M) (T := fn_M) (N := 91) hx hb hg in_M hown hK hP 0 rfl rfl 83 (by decide) (hg _ wn_8_151) (fun _ h9 => h9) rfl dn_M_begin0_51 ?_
        obtain ⟨q_1, hc_2, hf⟩ := dc_b hf
        refine dc_callv (xk_runV (ar := 2) (As := [.ref ((a 82)), .ref ((a 83))]) (rest := []) (ci := 0) (q0 := 0) ⟨hx, hb, hml, hown, hg⟩ hK hN (ct_M_settle_82_83 l dC dI cI cB cJ cZ cQ H.size h0 a s q_1 hc_2) hP hD rfl rfl wn_10_204 wn_10_206 sn_M_settle wn_1_13 wn_10_207 rfl rfl (by decide +kernel) ⟨Nat.le_of_ble_eq_true rfl, Nat.le_of_ble_eq_true rfl⟩ rfl hl.1 rfl (Nat.le_of_ble_eq_true rfl) dn_M_begin0_54 ⟨Nat.le_of_ble_eq_true rfl, Nat.le_of_ble_eq_true rfl⟩) hP hD hS hA (fun _ H locs hw hP hD hS => ?_)
        rw [hQQ, ← Option.some.inj hf]
        exact xk_vret (w1 := fun _ : Unit => (wM h0 a cI cB cJ cZ q_1.2)) () hx hb hr hlocks hK hS dn_M_begin0_57 hP hD trivial (Nat.le_refl _) (Nat.le_refl _)
      · have hf := (if_neg h).symm.trans hf
        refine lv_aload_n hx hb dn_M_begin0_15 rfl (lv_at hl 0 rfl) ?_
        refine va_get (D := (dC, dI)) (ci := 0) (v := .ref ((a 82))) (C := rn_M) (T := fn_M) (N := 91) hx hb hg in_M hown hK hP 0 rfl rfl 82 (by decide) (hg _ wn_8_150) (fun _ h9 => h9) rfl dn_M_begin0_16 ?_
        refine lv_iload_n hx hb dn_M_begin0_19 rfl (lv_at hl 1 rfl) ?_
        refine lv_aload_n hx hb dn_M_begin0_20 rfl (lv_at hl 0 rfl) ?_
        refine va_get (D := (dC, dI)) (ci := 0) (v := .ref ((a 22))) (C := rn_M) (T := fn_M) (N := 91) hx hb hg in_M hown hK hP 0 rfl rfl 22 (by decide) (hg _ wn_8_90) (fun _ h9 => h9) rfl dn_M_begin0_21 ?_
        refine lv_aload_n hx hb dn_M_begin0_24 rfl (lv_at hl 0 rfl) ?_
        refine va_get (D := (dC, dI)) (ci := 0) (v := .ref ((a 64))) (C := rn_M) (T := fn_M) (N := 91) hx hb hg in_M hown hK hP 0 rfl rfl 64 (by decide) (hg _ wn_8_132) (fun _ h9 => h9) rfl dn_M_begin0_25 ?_
        refine lv_iload_n hx hb dn_M_begin0_28 rfl (lv_at hl 1 rfl) ?_
        obtain ⟨hg_1, hf⟩ := dc_g hf
        refine va_iald hx hb hK hP 44 0 rfl rfl hg_1 dn_M_begin0_29 ?_
        refine xk_ti (y := ((s.1 64) (Int32.toNatClampNeg x1))) rfl ?_
        obtain ⟨hg_2, hf⟩ := dc_g hf
        refine va_lald hx hb hK hP 13 2 rfl rfl hg_2 dn_M_begin0_30 ?_
        refine xk_tl (y := ((s.2 22) (Int32.toNatClampNeg (((s.1 64) (Int32.toNatClampNeg x1)))))) rfl ?_
        obtain ⟨hg_3, hf⟩ := dc_g hf
        refine va_last hx hb hK hP hD hS 56 2 rfl rfl hg_3 dn_M_begin0_31 (fun H locs hP hD hS => ?_)
        have hP : va_P (dC, dI) xcl (wM h0 a cI cB cJ cZ (upJ s 82 (vp_updL (s.2 82) (Int32.toNatClampNeg x1) (((s.2 22) (Int32.toNatClampNeg (((s.1 64) (Int32.toNatClampNeg x1))))))))) H := hP
        have hD : va_D A (wM h0 a cI cB cJ cZ (upJ s 82 (vp_updL (s.2 82) (Int32.toNatClampNeg x1) (((s.2 22) (Int32.toNatClampNeg (((s.1 64) (Int32.toNatClampNeg x1))))))))) := hD
        refine lv_aload_n hx hb dn_M_begin0_32 rfl (lv_at hl 0 rfl) ?_
        refine va_get (D := (dC, dI)) (ci := 0) (v := .ref ((a 83))) (C := rn_M) (T := fn_M) (N := 91) hx hb hg in_M hown hK hP 0 rfl rfl 83 (by decide) (hg _ wn_8_151) (fun _ h9 => h9) rfl dn_M_begin0_33 ?_
        refine lv_iload_n hx hb dn_M_begin0_36 rfl (lv_at hl 1 rfl) ?_
        refine lv_lconst (v := 0) hx hb dn_M_begin0_37 (by decide) ?_
        obtain ⟨hg_4, hf⟩ := dc_g hf
        refine va_last hx hb hK hP hD hS 57 2 rfl rfl hg_4 dn_M_begin0_38 (fun H locs hP hD hS => ?_)
        have hP : va_P (dC, dI) xcl (wM h0 a cI cB cJ cZ (upJ (upJ s 82 (vp_updL (s.2 82) (Int32.toNatClampNeg x1) (((s.2 22) (Int32.toNatClampNeg (((s.1 64) (Int32.toNatClampNeg x1)))))))) 83 (vp_updL (s.2 83) (Int32.toNatClampNeg x1) 0))) H := hP
        have hD : va_D A (wM h0 a cI cB cJ cZ (upJ (upJ s 82 (vp_updL (s.2 82) (Int32.toNatClampNeg x1) (((s.2 22) (Int32.toNatClampNeg (((s.1 64) (Int32.toNatClampNeg x1)))))))) 83 (vp_updL (s.2 83) (Int32.toNatClampNeg x1) 0))) := hD
        refine lv_iinc (v := (x1 + 1)) (lv' := [(1, .int ((x1 + 1))), (0, .ref h0)]) hx hb dn_M_begin0_39 hl (k := 1) rfl (dc_inc (by decide)) (by decide) rfl (fun ls hl => ?_)
        refine lv_goto (tgt := 7) hx hb dn_M_begin0_42 (by decide) ?_
        exact hk_7 ((x1 + 1)) (upJ (upJ s 82 (vp_updL (s.2 82) (Int32.toNatClampNeg x1) (((s.2 22) (Int32.toNatClampNeg (((s.1 64) (Int32.toNatClampNeg x1)))))))) 83 (vp_updL (s.2 83) (Int32.toNatClampNeg x1) 0)) hf H locs ls hP hD hS (lv_sub hl [1, 0] rfl)
  intro H locs ls hP hD hS hl
  unfold fn_M_begin0 at hf
  refine lv_aload_n hx hb dn_M_begin0_0 rfl (lv_at hl 0 rfl) ?_
  refine lv_iconst (v := 0) hx hb dn_M_begin0_1 (by decide) ?_
  refine va_put (D := (dC, dI)) (ci := 0) (v := .int 0) (ty := .int) (C := rn_M) (T := fn_M) (N := 91) hx hb hg in_M tn_M tk_M nn_M hown hK hP hD hS 0 rfl rfl 86 (by decide) (hg _ wn_8_154) (fun _ h9 => h9) rfl (tk_M 86 (by decide)) rfl rfl (Nat.le_of_ble_eq_true rfl) dn_M_begin0_2 (fun H locs hP hD hS => ?_)
  have hP : va_P (dC, dI) xcl (wM h0 a cI cB cJ cZ (upI s 86 (fun _ => 0))) H := hP
  have hD : va_D A (wM h0 a cI cB cJ cZ (upI s 86 (fun _ => 0))) := hD
  refine lv_iconst (v := 0) hx hb dn_M_begin0_5 (by decide) ?_
  refine lv_istore_n (lv' := [(1, .int 0), (0, .ref h0)]) hx hb dn_M_begin0_6 rfl hl (by decide) rfl (fun ls hl => ?_)
  exact hd_7 dc_N 0 (upI s 86 (fun _ => 0)) hf H locs ls hP hD hS (lv_sub hl [1, 0] rfl)
def bk_M_feed_89 (k_36 : Int32 → Int32 → Int32 → Int32 → Int32 → Int32 → ms → Option (Int32 × ms)) (x1 : Int32) (x2 : Int32) (x3 : Int32) (x4 : Int32) (x5 : Int32) (x6 : Int32) (t0 : Int32) (s : ms) : Option (Int32 × ms) :=
  if (((s.1 88 0) + x6) < 0 ∨ 65536 ≤ Int32.toNatClampNeg (((s.1 88 0) + x6))) then none else k_36 x1 x2 x3 x4 x5 ((x6 + 1)) (upI s 1 (upd (s.1 1) (Int32.toNatClampNeg (((s.1 88 0) + x6))) (vp_nar .byte (((Int32.toInt8 (((t0 : Int32) >>> ((24 - (8 * (x6 - x6 / 4 * 4))) &&& 31)))).toInt32)))))
def bd_M_feed_36 (k_36 : Int32 → Int32 → Int32 → Int32 → Int32 → Int32 → ms → Option (Int32 × ms)) (x1 : Int32) (x2 : Int32) (x3 : Int32) (x4 : Int32) (x5 : Int32) (x6 : Int32) (s : ms) : Option (Int32 × ms) :=
  if 20 ≤ x6 then (some (((s.1 88 0) + 20), upI s 88 (fun _ => ((s.1 88 0) + 20)))) else (if 4 ≤ x6 then (if 8 ≤ x6 then (if 12 ≤ x6 then (if 16 ≤ x6 then (bk_M_feed_89 k_36 x1 x2 x3 x4 x5 x6 x5 s) else (bk_M_feed_89 k_36 x1 x2 x3 x4 x5 x6 x4 s)) else (bk_M_feed_89 k_36 x1 x2 x3 x4 x5 x6 x3 s)) else (bk_M_feed_89 k_36 x1 x2 x3 x4 x5 x6 x2 s)) else (bk_M_feed_89 k_36 x1 x2 x3 x4 x5 x6 x1 s))
def hd_M_feed_36 : Nat → Int32 → Int32 → Int32 → Int32 → Int32 → Int32 → ms → Option (Int32 × ms)
  | 0, _, _, _, _, _, _, _ => none
  | n + 1, x1, x2, x3, x4, x5, x6, s => bd_M_feed_36 (hd_M_feed_36 n) x1 x2 x3 x4 x5 x6 s
def bk_M_feed_21 (x1 : Int32) (x2 : Int32) (x3 : Int32) (x4 : Int32) (x5 : Int32) (t0 : Int32) (s : ms) : Option (Int32 × ms) :=
  if t0 ≤ 0 then (hd_M_feed_36 dc_N x1 x2 x3 x4 x5 0 (upI s 0 (fun _ => t0))) else (some (0, upI s 0 (fun _ => t0)))
def fn_M_feed (x1 : Int32) (x2 : Int32) (x3 : Int32) (x4 : Int32) (x5 : Int32) (s : ms) : Option (Int32 × ms) :=
  if ((s.1 88 0) + 20) ≤ 65536 then (bk_M_feed_21 x1 x2 x3 x4 x5 0 s) else (bk_M_feed_21 x1 x2 x3 x4 x5 1 s)
set_option maxHeartbeats 8000000 in
set_option maxRecDepth 100000 in
theorem ct_M_feed (l : Launch) (dC : Nat → ClassId) (dI : Nat → Nat → Nat) (cI cB cJ cZ cQ : ClassId) (sz : Nat) (h0 : Nat) (a : Nat → Nat) (x1 : Int32) (x2 : Int32) (x3 : Int32) (x4 : Int32) (x5 : Int32) (s : ms) (y : (Int32 × ms)) (hf : fn_M_feed x1 x2 x3 x4 x5 s = some y) : Met l yn_M_feed (xw yn_M_feed bn_M_feed 8 (some .int)) ({ frames := 0, cells := 0, slots := 0, locals := 0 }) (xk_P (dC, dI) xcl (xt cI cB cJ cZ cQ) [.ref h0, .int x1, .int x2, .int x3, .int x4, .int x5] sz (wM h0 a cI cB cJ cZ s)) (xk_Qi (dC, dI) xcl (xt cI cB cJ cZ cQ) (fun (r : Int32) (_ : Unit) => r = y.1) (fun _ : Unit => (wM h0 a cI cB cJ cZ y.2)) (va_A (wM h0 a cI cB cJ cZ s) sz)) 0 0 (va_A (wM h0 a cI cB cJ cZ s) sz) := by
  refine xk_of (QA := xk_Qi (dC, dI) xcl (xt cI cB cJ cZ cQ) (fun (r : Int32) (_ : Unit) => r = y.1) (fun _ : Unit => (wM h0 a cI cB cJ cZ y.2))) (by decide) (Nat.le_of_ble_eq_true rfl) ?_
  intro p e s0 m below meth c hx hb hml hown hg hr hlocks hin hP hK hN A hA hD hS ls hl
  have hown : s0.vm.findClass rn_M = some m.cls := hown
  obtain ⟨H, hH⟩ : ∃ z, z = s0.heap := ⟨_, rfl⟩
  rw [← hH] at hP
  have hS : va_S A s0.heap H [] := by rw [hH]; exact va_S.rf
  suffices kk : ∀ QQ : State → Prop, QQ = MQ below (xk_Qi (dC, dI) xcl (xt cI cB cJ cZ cQ) (fun (r : Int32) (_ : Unit) => r = y.1) (fun _ : Unit => (wM h0 a cI cB cJ cZ y.2)) A) [.ref h0, .int x1, .int x2, .int x3, .int x4, .int x5].toArray s0 0 0 A → dcC p l e ({ frames := 0, cells := 0, slots := 0, locals := 0 }) s0 m [.ref h0, .int x1, .int x2, .int x3, .int x4, .int x5].toArray below meth c QQ (dC, dI) A (wM h0 a cI cB cJ cZ s) 0 8 [(0, .ref h0), (1, .int x1), (2, .int x2), (3, .int x3), (4, .int x4), (5, .int x5)] [] by
    have k9 := kk _ rfl H [] ls hP hD hS hl
    rw [hH] at k9; exact k9
  clear hP hD hS hl hH H ls
  intro QQ hQQ
  have bl_89 : ∀ (k_36 : Int32 → Int32 → Int32 → Int32 → Int32 → Int32 → ms → Option (Int32 × ms)) (hk_36 : ∀ (x1 : Int32) (x2 : Int32) (x3 : Int32) (x4 : Int32) (x5 : Int32) (x6 : Int32) (s : ms), k_36 x1 x2 x3 x4 x5 x6 s = some y → dcC p l e ({ frames := 0, cells := 0, slots := 0, locals := 0 }) s0 m [.ref h0, .int x1, .int x2, .int x3, .int x4, .int x5].toArray below meth c QQ (dC, dI) A (wM h0 a cI cB cJ cZ s) 36 8 [(0, .ref h0), (1, .int x1), (2, .int x2), (3, .int x3), (4, .int x4), (5, .int x5), (6, .int x6)] []) (x1 : Int32) (x2 : Int32) (x3 : Int32) (x4 : Int32) (x5 : Int32) (x6 : Int32) (t0 : Int32) (s : ms), bk_M_feed_89 k_36 x1 x2 x3 x4 x5 x6 t0 s = some y → dcC p l e ({ frames := 0, cells := 0, slots := 0, locals := 0 }) s0 m [.ref h0, .int x1, .int x2, .int x3, .int x4, .int x5].toArray below meth c QQ (dC, dI) A (wM h0 a cI cB cJ cZ s) 89 8 [(0, .ref h0), (1, .int x1), (2, .int x2), (3, .int x3), (4, .int x4), (5, .int x5), (6, .int x6)] [.int t0] := by
    intro k_36 hk_36 x1 x2 x3 x4 x5 x6 t0 s hf H locs ls hP hD hS hl
    unfold bk_M_feed_89 at hf
    refine lv_istore (lv' := [(7, .int t0), (0, .ref h0), (1, .int x1), (2, .int x2), (3, .int x3), (4, .int x4), (5, .int x5), (6, .int x6)]) hx hb dn_M_feed_89 hl (by decide) rfl (fun ls hl => ?_)
    refine lv_aload_n hx hb dn_M_feed_91 rfl (lv_at hl 1 rfl) ?_
    refine va_get (D := (dC, dI)) (ci := 0) (v := .ref ((a 1))) (C := rn_M) (T := fn_M) (N := 91) hx hb hg in_M hown hK hP 0 rfl rfl 1 (by decide) (hg _ wn_8_69) (fun _ h9 => h9) rfl dn_M_feed_92 ?_
    refine lv_aload_n hx hb dn_M_feed_95 rfl (lv_at hl 1 rfl) ?_
    refine va_get (D := (dC, dI)) (ci := 0) (v := .int ((s.1 88 0))) (C := rn_M) (T := fn_M) (N := 91) hx hb hg in_M hown hK hP 0 rfl rfl 88 (by decide) (hg _ wn_8_156) (fun _ h9 => h9) rfl dn_M_feed_96 ?_
    refine lv_iload hx hb dn_M_feed_99 (lv_at hl 7 rfl) ?_
    refine lv_iadd hx hb dn_M_feed_101 ?_
    refine lv_iload hx hb dn_M_feed_102 (lv_at hl 0 rfl) ?_
    refine lv_bipush (v := 24) hx hb dn_M_feed_104 (by decide) ?_
    refine lv_bipush (v := 8) hx hb dn_M_feed_106 (by decide) ?_
    refine lv_iload hx hb dn_M_feed_108 (lv_at hl 7 rfl) ?_
    refine lv_iconst (v := 4) hx hb dn_M_feed_110 (by decide) ?_
    refine lv_irem hx hb dn_M_feed_111 (by decide) ?_
    refine lv_imul hx hb dn_M_feed_112 ?_
    refine lv_isub hx hb dn_M_feed_113 ?_
    refine lv_ishr hx hb dn_M_feed_114 ?_
    refine lv_i2b (v := (Int32.toInt8 (((t0 : Int32) >>> ((24 - (8 * (x6 - x6 / 4 * 4))) &&& 31)))).toInt32) hx hb dn_M_feed_115 rfl ?_
    obtain ⟨hg_1, hf⟩ := dc_g hf
    refine va_bast hx hb hK hP hD hS 1 1 rfl rfl hg_1 dn_M_feed_116 (fun H locs hP hD hS => ?_)
    have hP : va_P (dC, dI) xcl (wM h0 a cI cB cJ cZ (upI s 1 (upd (s.1 1) (Int32.toNatClampNeg (((s.1 88 0) + x6))) (vp_nar .byte (((Int32.toInt8 (((t0 : Int32) >>> ((24 - (8 * (x6 - x6 / 4 * 4))) &&& 31)))).toInt32)))))) H := hP
    have hD : va_D A (wM h0 a cI cB cJ cZ (upI s 1 (upd (s.1 1) (Int32.toNatClampNeg (((s.1 88 0) + x6))) (vp_nar .byte (((Int32.toInt8 (((t0 : Int32) >>> ((24 - (8 * (x6 - x6 / 4 * 4))) &&& 31)))).toInt32)))))) := hD
    refine lv_iinc (v := (x6 + 1)) (lv' := [(6, .int ((x6 + 1))), (7, .int t0), (0, .ref h0), (1, .int x1), (2, .int x2), (3, .int x3), (4, .int x4), (5, .int x5)]) hx hb dn_M_feed_117 hl (k := 7) rfl (dc_inc (by decide)) (by decide) rfl (fun ls hl => ?_)
    refine lv_goto (tgt := 36) hx hb dn_M_feed_120 (by decide) ?_
    exact hk_36 x1 x2 x3 x4 x5 ((x6 + 1)) (upI s 1 (upd (s.1 1) (Int32.toNatClampNeg (((s.1 88 0) + x6))) (vp_nar .byte (((Int32.toInt8 (((t0 : Int32) >>> ((24 - (8 * (x6 - x6 / 4 * 4))) &&& 31)))).toInt32))))) hf H locs ls hP hD hS (lv_sub hl [2, 3, 4, 5, 6, 7, 0] rfl)
  have hd_36 : ∀ (n : Nat) (x1 : Int32) (x2 : Int32) (x3 : Int32) (x4 : Int32) (x5 : Int32) (x6 : Int32) (s : ms), hd_M_feed_36 n x1 x2 x3 x4 x5 x6 s = some y → dcC p l e ({ frames := 0, cells := 0, slots := 0, locals := 0 }) s0 m [.ref h0, .int x1, .int x2, .int x3, .int x4, .int x5].toArray below meth c QQ (dC, dI) A (wM h0 a cI cB cJ cZ s) 36 8 [(0, .ref h0), (1, .int x1), (2, .int x2), (3, .int x3), (4, .int x4), (5, .int x5), (6, .int x6)] [] := by
    intro n
    induction n with
    | zero => intro x1 x2 x3 x4 x5 x6 s hf; cases hf
    | succ n ih =>
      intro x1 x2 x3 x4 x5 x6 s hf H locs ls hP hD hS hl
      have hf : bd_M_feed_36 (hd_M_feed_36 n) x1 x2 x3 x4 x5 x6 s = some y := hf
      have hk_36 := ih
      generalize hd_M_feed_36 n = k_36 at hf hk_36
      unfold bd_M_feed_36 at hf
      refine lv_iload hx hb dn_M_feed_36 (lv_at hl 6 rfl) ?_
      refine lv_bipush (v := 20) hx hb dn_M_feed_38 (by decide) ?_
      refine lv_icmp_ge (tgt := 123) hx hb dn_M_feed_40 (by decide) (fun h => ?_) (fun h => ?_)
      · have hf := (if_pos h).symm.trans hf
        refine lv_aload_n hx hb dn_M_feed_123 rfl (lv_at hl 0 rfl) ?_
        refine lv_aload_n hx hb dn_M_feed_124 rfl (lv_at hl 0 rfl) ?_
        refine va_get (D := (dC, dI)) (ci := 0) (v := .int ((s.1 88 0))) (C := rn_M) (T := fn_M) (N := 91) hx hb hg in_M hown hK hP 0 rfl rfl 88 (by decide) (hg _ wn_8_156) (fun _ h9 => h9) rfl dn_M_feed_125 ?_
        refine lv_bipush (v := 20) hx hb dn_M_feed_128 (by decide) ?_
        refine lv_iadd hx hb dn_M_feed_130 ?_
        refine va_put (D := (dC, dI)) (ci := 0) (v := .int (((s.1 88 0) + 20))) (ty := .int) (C := rn_M) (T := fn_M) (N := 91) hx hb hg in_M tn_M tk_M nn_M hown hK hP hD hS 0 rfl rfl 88 (by decide) (hg _ wn_8_156) (fun _ h9 => h9) rfl (tk_M 88 (by decide)) rfl rfl (Nat.le_of_ble_eq_true rfl) dn_M_feed_131 (fun H locs hP hD hS => ?_)
        have hP : va_P (dC, dI) xcl (wM h0 a cI cB cJ cZ (upI s 88 (fun _ => ((s.1 88 0) + 20)))) H := hP
        have hD : va_D A (wM h0 a cI cB cJ cZ (upI s 88 (fun _ => ((s.1 88 0) + 20)))) := hD
        refine lv_aload_n hx hb dn_M_feed_134 rfl (lv_at hl 0 rfl) ?_
        refine va_get (D := (dC, dI)) (ci := 0) (v := .int (((s.1 88 0) + 20))) (C := rn_M) (T := fn_M) (N := 91) hx hb hg in_M hown hK hP 0 rfl rfl 88 (by decide) (hg _ wn_8_156) (fun _ h9 => h9) rfl dn_M_feed_135 ?_
        rw [hQQ, ← Option.some.inj hf]
        exact xk_iret (w1 := fun _ : Unit => (wM h0 a cI cB cJ cZ (upI s 88 (fun _ => ((s.1 88 0) + 20))))) () hx hb hr hlocks hK hS dn_M_feed_138 hP hD rfl (Nat.le_refl _) (Nat.le_refl _)
      · have hf := (if_neg h).symm.trans hf
        refine lv_iload hx hb dn_M_feed_43 (lv_at hl 6 rfl) ?_
        refine lv_iconst (v := 4) hx hb dn_M_feed_45 (by decide) ?_
        refine lv_icmp_ge (tgt := 53) hx hb dn_M_feed_46 (by decide) (fun h => ?_) (fun h => ?_)
        · have hf := (if_pos h).symm.trans hf
          refine lv_iload hx hb dn_M_feed_53 (lv_at hl 6 rfl) ?_
          refine lv_bipush (v := 8) hx hb dn_M_feed_55 (by decide) ?_
          refine lv_icmp_ge (tgt := 64) hx hb dn_M_feed_57 (by decide) (fun h => ?_) (fun h => ?_)
          · have hf := (if_pos h).symm.trans hf
            refine lv_iload hx hb dn_M_feed_64 (lv_at hl 6 rfl) ?_
            refine lv_bipush (v := 12) hx hb dn_M_feed_66 (by decide) ?_
            refine lv_icmp_ge (tgt := 75) hx hb dn_M_feed_68 (by decide) (fun h => ?_) (fun h => ?_)
            · have hf := (if_pos h).symm.trans hf
              refine lv_iload hx hb dn_M_feed_75 (lv_at hl 6 rfl) ?_
              refine lv_bipush (v := 16) hx hb dn_M_feed_77 (by decide) ?_
              refine lv_icmp_ge (tgt := 87) hx hb dn_M_feed_79 (by decide) (fun h => ?_) (fun h => ?_)
              · have hf := (if_pos h).symm.trans hf
                refine lv_iload hx hb dn_M_feed_87 (lv_at hl 5 rfl) ?_
                exact bl_89 k_36 hk_36 x1 x2 x3 x4 x5 x6 x5 s hf H locs ls hP hD hS hl
              · have hf := (if_neg h).symm.trans hf
                refine lv_iload hx hb dn_M_feed_82 (lv_at hl 4 rfl) ?_
                refine lv_goto (tgt := 89) hx hb dn_M_feed_84 (by decide) ?_
                exact bl_89 k_36 hk_36 x1 x2 x3 x4 x5 x6 x4 s hf H locs ls hP hD hS hl
            · have hf := (if_neg h).symm.trans hf
              refine lv_iload_n hx hb dn_M_feed_71 rfl (lv_at hl 3 rfl) ?_
              refine lv_goto (tgt := 89) hx hb dn_M_feed_72 (by decide) ?_
              exact bl_89 k_36 hk_36 x1 x2 x3 x4 x5 x6 x3 s hf H locs ls hP hD hS hl
          · have hf := (if_neg h).symm.trans hf
            refine lv_iload_n hx hb dn_M_feed_60 rfl (lv_at hl 2 rfl) ?_
            refine lv_goto (tgt := 89) hx hb dn_M_feed_61 (by decide) ?_
            exact bl_89 k_36 hk_36 x1 x2 x3 x4 x5 x6 x2 s hf H locs ls hP hD hS hl
        · have hf := (if_neg h).symm.trans hf
          refine lv_iload_n hx hb dn_M_feed_49 rfl (lv_at hl 1 rfl) ?_
          refine lv_goto (tgt := 89) hx hb dn_M_feed_50 (by decide) ?_
          exact bl_89 k_36 hk_36 x1 x2 x3 x4 x5 x6 x1 s hf H locs ls hP hD hS hl
  have bl_21 : ∀ (x1 : Int32) (x2 : Int32) (x3 : Int32) (x4 : Int32) (x5 : Int32) (t0 : Int32) (s : ms), bk_M_feed_21 x1 x2 x3 x4 x5 t0 s = some y → dcC p l e ({ frames := 0, cells := 0, slots := 0, locals := 0 }) s0 m [.ref h0, .int x1, .int x2, .int x3, .int x4, .int x5].toArray below meth c QQ (dC, dI) A (wM h0 a cI cB cJ cZ s) 21 8 [(0, .ref h0), (1, .int x1), (2, .int x2), (3, .int x3), (4, .int x4), (5, .int x5)] [.int t0, .ref h0] := by
    intro x1 x2 x3 x4 x5 t0 s hf H locs ls hP hD hS hl
    unfold bk_M_feed_21 at hf
    refine va_put (D := (dC, dI)) (ci := 0) (v := .int t0) (ty := .int) (C := rn_M) (T := fn_M) (N := 91) hx hb hg in_M tn_M tk_M nn_M hown hK hP hD hS 0 rfl rfl 0 (by decide) (hg _ wn_8_68) (fun _ h9 => h9) rfl (tk_M 0 (by decide)) rfl rfl (Nat.le_of_ble_eq_true rfl) dn_M_feed_21 (fun H locs hP hD hS => ?_)
    have hP : va_P (dC, dI) xcl (wM h0 a cI cB cJ cZ (upI s 0 (fun _ => t0))) H := hP
    have hD : va_D A (wM h0 a cI cB cJ cZ (upI s 0 (fun _ => t0))) := hD
    refine lv_aload_n hx hb dn_M_feed_24 rfl (lv_at hl 0 rfl) ?_
    refine va_get (D := (dC, dI)) (ci := 0) (v := .int t0) (C := rn_M) (T := fn_M) (N := 91) hx hb hg in_M hown hK hP 0 rfl rfl 0 (by decide) (hg _ wn_8_68) (fun _ h9 => h9) rfl dn_M_feed_25 ?_
    refine lv_if_le (tgt := 33) hx hb dn_M_feed_28 (by decide) (fun h => ?_) (fun h => ?_)
    · have hf := (if_pos h).symm.trans hf
      refine lv_iconst (v := 0) hx hb dn_M_feed_33 (by decide) ?_
      refine lv_istore (lv' := [(6, .int 0), (0, .ref h0), (1, .int x1), (2, .int x2), (3, .int x3), (4, .int x4), (5, .int x5)]) hx hb dn_M_feed_34 hl (by decide) rfl (fun ls hl => ?_)
      exact hd_36 dc_N x1 x2 x3 x4 x5 0 (upI s 0 (fun _ => t0)) hf H locs ls hP hD hS (lv_sub hl [1, 2, 3, 4, 5, 6, 0] rfl)
    · have hf := (if_neg h).symm.trans hf
      refine lv_iconst (v := 0) hx hb dn_M_feed_31 (by decide) ?_
      rw [hQQ, ← Option.some.inj hf]
      exact xk_iret (w1 := fun _ : Unit => (wM h0 a cI cB cJ cZ (upI s 0 (fun _ => t0)))) () hx hb hr hlocks hK hS dn_M_feed_32 hP hD rfl (Nat.le_refl _) (Nat.le_refl _)
  intro H locs ls hP hD hS hl
  unfold fn_M_feed at hf
  refine lv_aload_n hx hb dn_M_feed_0 rfl (lv_at hl 0 rfl) ?_
  refine lv_aload_n hx hb dn_M_feed_1 rfl (lv_at hl 0 rfl) ?_
  refine va_get (D := (dC, dI)) (ci := 0) (v := .int ((s.1 88 0))) (C := rn_M) (T := fn_M) (N := 91) hx hb hg in_M hown hK hP 0 rfl rfl 88 (by decide) (hg _ wn_8_156) (fun _ h9 => h9) rfl dn_M_feed_2 ?_
  refine lv_bipush (v := 20) hx hb dn_M_feed_5 (by decide) ?_
  refine lv_iadd hx hb dn_M_feed_7 ?_
  refine lv_aload_n hx hb dn_M_feed_8 rfl (lv_at hl 0 rfl) ?_
  refine va_get (D := (dC, dI)) (ci := 0) (v := .ref ((a 1))) (C := rn_M) (T := fn_M) (N := 91) hx hb hg in_M hown hK hP 0 rfl rfl 1 (by decide) (hg _ wn_8_69) (fun _ h9 => h9) rfl dn_M_feed_9 ?_
  refine va_alen (v := 65536) hx hb hK hP 1 1 rfl rfl rfl dn_M_feed_12 ?_
  refine lv_icmp_le (tgt := 20) hx hb dn_M_feed_13 (by decide) (fun h => ?_) (fun h => ?_)
  · have hf := (if_pos h).symm.trans hf
    refine lv_iconst (v := 0) hx hb dn_M_feed_20 (by decide) ?_
    exact bl_21 x1 x2 x3 x4 x5 0 s hf H locs ls hP hD hS hl
  · have hf := (if_neg h).symm.trans hf
    refine lv_iconst (v := 1) hx hb dn_M_feed_16 (by decide) ?_
    refine lv_goto (tgt := 21) hx hb dn_M_feed_17 (by decide) ?_
    exact bl_21 x1 x2 x3 x4 x5 1 s hf H locs ls hP hD hS hl
def bk_M_end_37 (t0 : Int32) (s : ms) : Option (Unit × ms) :=
  some ((), upI s 88 (fun _ => t0))
def bk_M_end_18 (x1 : Int32) (t0 : Int32) (s : ms) : Option (Unit × ms) :=
  if t0 ≤ 0 then (bk_M_end_37 x1 (upI s 0 (fun _ => t0))) else (bk_M_end_37 ((s.1 88 0)) (upI s 0 (fun _ => t0)))
def bk_M_end_13 (x1 : Int32) (s : ms) : Option (Unit × ms) :=
  bk_M_end_18 x1 1 s
def fn_M_end (x1 : Int32) (s : ms) : Option (Unit × ms) :=
  if x1 < 0 then (bk_M_end_13 x1 s) else (if x1 ≤ (s.1 88 0) then (bk_M_end_18 x1 0 s) else (bk_M_end_13 x1 s))
set_option maxHeartbeats 8000000 in
set_option maxRecDepth 100000 in
theorem ct_M_end (l : Launch) (dC : Nat → ClassId) (dI : Nat → Nat → Nat) (cI cB cJ cZ cQ : ClassId) (sz : Nat) (h0 : Nat) (a : Nat → Nat) (x1 : Int32) (s : ms) (y : (Unit × ms)) (hf : fn_M_end x1 s = some y) : Met l yn_M_end (xw yn_M_end bn_M_end 2 none) ({ frames := 0, cells := 0, slots := 0, locals := 0 }) (xk_P (dC, dI) xcl (xt cI cB cJ cZ cQ) [.ref h0, .int x1] sz (wM h0 a cI cB cJ cZ s)) (xk_Qv (dC, dI) xcl (xt cI cB cJ cZ cQ) (fun _ : Unit => True) (fun _ : Unit => (wM h0 a cI cB cJ cZ y.2)) (va_A (wM h0 a cI cB cJ cZ s) sz)) 0 0 (va_A (wM h0 a cI cB cJ cZ s) sz) := by
  refine xk_of (QA := xk_Qv (dC, dI) xcl (xt cI cB cJ cZ cQ) (fun _ : Unit => True) (fun _ : Unit => (wM h0 a cI cB cJ cZ y.2))) (by decide) (Nat.le_of_ble_eq_true rfl) ?_
  intro p e s0 m below meth c hx hb hml hown hg hr hlocks hin hP hK hN A hA hD hS ls hl
  have hown : s0.vm.findClass rn_M = some m.cls := hown
  obtain ⟨H, hH⟩ : ∃ z, z = s0.heap := ⟨_, rfl⟩
  rw [← hH] at hP
  have hS : va_S A s0.heap H [] := by rw [hH]; exact va_S.rf
  suffices kk : ∀ QQ : State → Prop, QQ = MQ below (xk_Qv (dC, dI) xcl (xt cI cB cJ cZ cQ) (fun _ : Unit => True) (fun _ : Unit => (wM h0 a cI cB cJ cZ y.2)) A) [.ref h0, .int x1].toArray s0 0 0 A → dcC p l e ({ frames := 0, cells := 0, slots := 0, locals := 0 }) s0 m [.ref h0, .int x1].toArray below meth c QQ (dC, dI) A (wM h0 a cI cB cJ cZ s) 0 2 [(0, .ref h0), (1, .int x1)] [] by
    have k9 := kk _ rfl H [] ls hP hD hS hl
    rw [hH] at k9; exact k9
  clear hP hD hS hl hH H ls
  intro QQ hQQ
  have bl_37 : ∀ (t0 : Int32) (s : ms), bk_M_end_37 t0 s = some y → dcC p l e ({ frames := 0, cells := 0, slots := 0, locals := 0 }) s0 m [.ref h0, .int x1].toArray below meth c QQ (dC, dI) A (wM h0 a cI cB cJ cZ s) 37 2 [] [.int t0, .ref h0] := by
    intro t0 s hf H locs ls hP hD hS hl
    unfold bk_M_end_37 at hf
    refine va_put (D := (dC, dI)) (ci := 0) (v := .int t0) (ty := .int) (C := rn_M) (T := fn_M) (N := 91) hx hb hg in_M tn_M tk_M nn_M hown hK hP hD hS 0 rfl rfl 88 (by decide) (hg _ wn_8_156) (fun _ h9 => h9) rfl (tk_M 88 (by decide)) rfl rfl (Nat.le_of_ble_eq_true rfl) dn_M_end_37 (fun H locs hP hD hS => ?_)
    have hP : va_P (dC, dI) xcl (wM h0 a cI cB cJ cZ (upI s 88 (fun _ => t0))) H := hP
    have hD : va_D A (wM h0 a cI cB cJ cZ (upI s 88 (fun _ => t0))) := hD
    rw [hQQ, ← Option.some.inj hf]
    exact xk_vret (w1 := fun _ : Unit => (wM h0 a cI cB cJ cZ (upI s 88 (fun _ => t0)))) () hx hb hr hlocks hK hS dn_M_end_40 hP hD trivial (Nat.le_refl _) (Nat.le_refl _)
  have bl_18 : ∀ (x1 : Int32) (t0 : Int32) (s : ms), bk_M_end_18 x1 t0 s = some y → dcC p l e ({ frames := 0, cells := 0, slots := 0, locals := 0 }) s0 m [.ref h0, .int x1].toArray below meth c QQ (dC, dI) A (wM h0 a cI cB cJ cZ s) 18 2 [(0, .ref h0), (1, .int x1)] [.int t0, .ref h0] := by
    intro x1 t0 s hf H locs ls hP hD hS hl
    unfold bk_M_end_18 at hf
    refine va_put (D := (dC, dI)) (ci := 0) (v := .int t0) (ty := .int) (C := rn_M) (T := fn_M) (N := 91) hx hb hg in_M tn_M tk_M nn_M hown hK hP hD hS 0 rfl rfl 0 (by decide) (hg _ wn_8_68) (fun _ h9 => h9) rfl (tk_M 0 (by decide)) rfl rfl (Nat.le_of_ble_eq_true rfl) dn_M_end_18 (fun H locs hP hD hS => ?_)
    have hP : va_P (dC, dI) xcl (wM h0 a cI cB cJ cZ (upI s 0 (fun _ => t0))) H := hP
    have hD : va_D A (wM h0 a cI cB cJ cZ (upI s 0 (fun _ => t0))) := hD
    refine lv_aload_n hx hb dn_M_end_21 rfl (lv_at hl 0 rfl) ?_
    refine lv_aload_n hx hb dn_M_end_22 rfl (lv_at hl 0 rfl) ?_
    refine va_get (D := (dC, dI)) (ci := 0) (v := .int t0) (C := rn_M) (T := fn_M) (N := 91) hx hb hg in_M hown hK hP 0 rfl rfl 0 (by decide) (hg _ wn_8_68) (fun _ h9 => h9) rfl dn_M_end_23 ?_
    refine lv_if_le (tgt := 36) hx hb dn_M_end_26 (by decide) (fun h => ?_) (fun h => ?_)
    · have hf := (if_pos h).symm.trans hf
      refine lv_iload_n hx hb dn_M_end_36 rfl (lv_at hl 1 rfl) ?_
      exact bl_37 x1 (upI s 0 (fun _ => t0)) hf H locs ls hP hD hS (lv_sub hl [] rfl)
    · have hf := (if_neg h).symm.trans hf
      refine lv_aload_n hx hb dn_M_end_29 rfl (lv_at hl 0 rfl) ?_
      refine va_get (D := (dC, dI)) (ci := 0) (v := .int ((s.1 88 0))) (C := rn_M) (T := fn_M) (N := 91) hx hb hg in_M hown hK hP 0 rfl rfl 88 (by decide) (hg _ wn_8_156) (fun _ h9 => h9) rfl dn_M_end_30 ?_
      refine lv_goto (tgt := 37) hx hb dn_M_end_33 (by decide) ?_
      exact bl_37 ((s.1 88 0)) (upI s 0 (fun _ => t0)) hf H locs ls hP hD hS (lv_sub hl [] rfl)
  have bl_13 : ∀ (x1 : Int32) (s : ms), bk_M_end_13 x1 s = some y → dcC p l e ({ frames := 0, cells := 0, slots := 0, locals := 0 }) s0 m [.ref h0, .int x1].toArray below meth c QQ (dC, dI) A (wM h0 a cI cB cJ cZ s) 13 2 [(0, .ref h0), (1, .int x1)] [.ref h0] := by
    intro x1 s hf H locs ls hP hD hS hl
    unfold bk_M_end_13 at hf
    refine lv_iconst (v := 1) hx hb dn_M_end_13 (by decide) ?_
    refine lv_goto (tgt := 18) hx hb dn_M_end_14 (by decide) ?_
    exact bl_18 x1 1 s hf H locs ls hP hD hS hl
  intro H locs ls hP hD hS hl
  unfold fn_M_end at hf
  refine lv_aload_n hx hb dn_M_end_0 rfl (lv_at hl 0 rfl) ?_
  refine lv_iload_n hx hb dn_M_end_1 rfl (lv_at hl 1 rfl) ?_
  refine lv_if_lt (tgt := 13) hx hb dn_M_end_2 (by decide) (fun h => ?_) (fun h => ?_)
  · have hf := (if_pos h).symm.trans hf
    exact bl_13 x1 s hf H locs ls hP hD hS hl
  · have hf := (if_neg h).symm.trans hf
    refine lv_iload_n hx hb dn_M_end_5 rfl (lv_at hl 1 rfl) ?_
    refine lv_aload_n hx hb dn_M_end_6 rfl (lv_at hl 0 rfl) ?_
    refine va_get (D := (dC, dI)) (ci := 0) (v := .int ((s.1 88 0))) (C := rn_M) (T := fn_M) (N := 91) hx hb hg in_M hown hK hP 0 rfl rfl 88 (by decide) (hg _ wn_8_156) (fun _ h9 => h9) rfl dn_M_end_7 ?_
    refine lv_icmp_le (tgt := 17) hx hb dn_M_end_10 (by decide) (fun h => ?_) (fun h => ?_)
    · have hf := (if_pos h).symm.trans hf
      refine lv_iconst (v := 0) hx hb dn_M_end_17 (by decide) ?_
      exact bl_18 x1 0 s hf H locs ls hP hD hS hl
    · have hf := (if_neg h).symm.trans hf
      exact bl_13 x1 s hf H locs ls hP hD hS hl
def fn_M_fault (s : ms) : Option (Int32 × ms) :=
  some ((s.1 3 0), upI s 0 (fun _ => 0))
set_option maxHeartbeats 8000000 in
set_option maxRecDepth 100000 in
theorem ct_M_fault (l : Launch) (dC : Nat → ClassId) (dI : Nat → Nat → Nat) (cI cB cJ cZ cQ : ClassId) (sz : Nat) (h0 : Nat) (a : Nat → Nat) (s : ms) (y : (Int32 × ms)) (hf : fn_M_fault s = some y) : Met l yn_M_fault (xw yn_M_fault bn_M_fault 1 (some .int)) ({ frames := 0, cells := 0, slots := 0, locals := 0 }) (xk_P (dC, dI) xcl (xt cI cB cJ cZ cQ) [.ref h0] sz (wM h0 a cI cB cJ cZ s)) (xk_Qi (dC, dI) xcl (xt cI cB cJ cZ cQ) (fun (r : Int32) (_ : Unit) => r = y.1) (fun _ : Unit => (wM h0 a cI cB cJ cZ y.2)) (va_A (wM h0 a cI cB cJ cZ s) sz)) 0 0 (va_A (wM h0 a cI cB cJ cZ s) sz) := by
  refine xk_of (QA := xk_Qi (dC, dI) xcl (xt cI cB cJ cZ cQ) (fun (r : Int32) (_ : Unit) => r = y.1) (fun _ : Unit => (wM h0 a cI cB cJ cZ y.2))) (by decide) (Nat.le_of_ble_eq_true rfl) ?_
  intro p e s0 m below meth c hx hb hml hown hg hr hlocks hin hP hK hN A hA hD hS ls hl
  have hown : s0.vm.findClass rn_M = some m.cls := hown
  obtain ⟨H, hH⟩ : ∃ z, z = s0.heap := ⟨_, rfl⟩
  rw [← hH] at hP
  have hS : va_S A s0.heap H [] := by rw [hH]; exact va_S.rf
  suffices kk : ∀ QQ : State → Prop, QQ = MQ below (xk_Qi (dC, dI) xcl (xt cI cB cJ cZ cQ) (fun (r : Int32) (_ : Unit) => r = y.1) (fun _ : Unit => (wM h0 a cI cB cJ cZ y.2)) A) [.ref h0].toArray s0 0 0 A → dcC p l e ({ frames := 0, cells := 0, slots := 0, locals := 0 }) s0 m [.ref h0].toArray below meth c QQ (dC, dI) A (wM h0 a cI cB cJ cZ s) 0 1 [(0, .ref h0)] [] by
    have k9 := kk _ rfl H [] ls hP hD hS hl
    rw [hH] at k9; exact k9
  clear hP hD hS hl hH H ls
  intro QQ hQQ
  intro H locs ls hP hD hS hl
  unfold fn_M_fault at hf
  refine lv_aload_n hx hb dn_M_fault_0 rfl (lv_at hl 0 rfl) ?_
  refine lv_iconst (v := 0) hx hb dn_M_fault_1 (by decide) ?_
  refine va_put (D := (dC, dI)) (ci := 0) (v := .int 0) (ty := .int) (C := rn_M) (T := fn_M) (N := 91) hx hb hg in_M tn_M tk_M nn_M hown hK hP hD hS 0 rfl rfl 0 (by decide) (hg _ wn_8_68) (fun _ h9 => h9) rfl (tk_M 0 (by decide)) rfl rfl (Nat.le_of_ble_eq_true rfl) dn_M_fault_2 (fun H locs hP hD hS => ?_)
  have hP : va_P (dC, dI) xcl (wM h0 a cI cB cJ cZ (upI s 0 (fun _ => 0))) H := hP
  have hD : va_D A (wM h0 a cI cB cJ cZ (upI s 0 (fun _ => 0))) := hD
  refine lv_aload_n hx hb dn_M_fault_5 rfl (lv_at hl 0 rfl) ?_
  refine va_get (D := (dC, dI)) (ci := 0) (v := .int ((s.1 3 0))) (C := rn_M) (T := fn_M) (N := 91) hx hb hg in_M hown hK hP 0 rfl rfl 3 (by decide) (hg _ wn_8_71) (fun _ h9 => h9) rfl dn_M_fault_6 ?_
  rw [hQQ, ← Option.some.inj hf]
  exact xk_iret (w1 := fun _ : Unit => (wM h0 a cI cB cJ cZ (upI s 0 (fun _ => 0)))) () hx hb hr hlocks hK hS dn_M_fault_9 hP hD rfl (Nat.le_refl _) (Nat.le_refl _)
def bk_M_count_27 (x1 : Int32) (t0 : Int32) (s : ms) : Option (Int32 × ms) :=
  if t0 ≤ 0 then (if x1 = 0 then (some ((s.1 75 0), upI s 0 (fun _ => t0))) else (if x1 = 1 then (some (((s.1 56 0) - 1), upI s 0 (fun _ => t0))) else (if x1 = 2 then (some ((s.1 63 0), upI s 0 (fun _ => t0))) else (if x1 = 3 then (some ((s.1 76 0), upI s 0 (fun _ => t0))) else (if x1 = 4 then (some ((s.1 77 0), upI s 0 (fun _ => t0))) else (if x1 = 5 then (some ((s.1 78 0), upI s 0 (fun _ => t0))) else (some ((Int64.toInt32 ((s.2 79 0))), upI s 0 (fun _ => t0))))))))) else (some (0, upI s 0 (fun _ => t0)))
def bk_M_count_22 (x1 : Int32) (s : ms) : Option (Int32 × ms) :=
  bk_M_count_27 x1 2 s
def fn_M_count (x1 : Int32) (s : ms) : Option (Int32 × ms) :=
  if (s.1 54 0) = 0 then (bk_M_count_27 x1 1 s) else (if x1 < 0 then (bk_M_count_22 x1 s) else (if x1 ≤ 6 then (bk_M_count_27 x1 0 s) else (bk_M_count_22 x1 s)))
set_option maxHeartbeats 8000000 in
set_option maxRecDepth 100000 in
theorem ct_M_count (l : Launch) (dC : Nat → ClassId) (dI : Nat → Nat → Nat) (cI cB cJ cZ cQ : ClassId) (sz : Nat) (h0 : Nat) (a : Nat → Nat) (x1 : Int32) (s : ms) (y : (Int32 × ms)) (hf : fn_M_count x1 s = some y) : Met l yn_M_count (xw yn_M_count bn_M_count 2 (some .int)) ({ frames := 0, cells := 0, slots := 0, locals := 0 }) (xk_P (dC, dI) xcl (xt cI cB cJ cZ cQ) [.ref h0, .int x1] sz (wM h0 a cI cB cJ cZ s)) (xk_Qi (dC, dI) xcl (xt cI cB cJ cZ cQ) (fun (r : Int32) (_ : Unit) => r = y.1) (fun _ : Unit => (wM h0 a cI cB cJ cZ y.2)) (va_A (wM h0 a cI cB cJ cZ s) sz)) 0 0 (va_A (wM h0 a cI cB cJ cZ s) sz) := by
  refine xk_of (QA := xk_Qi (dC, dI) xcl (xt cI cB cJ cZ cQ) (fun (r : Int32) (_ : Unit) => r = y.1) (fun _ : Unit => (wM h0 a cI cB cJ cZ y.2))) (by decide) (Nat.le_of_ble_eq_true rfl) ?_
  intro p e s0 m below meth c hx hb hml hown hg hr hlocks hin hP hK hN A hA hD hS ls hl
  have hown : s0.vm.findClass rn_M = some m.cls := hown
  obtain ⟨H, hH⟩ : ∃ z, z = s0.heap := ⟨_, rfl⟩
  rw [← hH] at hP
  have hS : va_S A s0.heap H [] := by rw [hH]; exact va_S.rf
  suffices kk : ∀ QQ : State → Prop, QQ = MQ below (xk_Qi (dC, dI) xcl (xt cI cB cJ cZ cQ) (fun (r : Int32) (_ : Unit) => r = y.1) (fun _ : Unit => (wM h0 a cI cB cJ cZ y.2)) A) [.ref h0, .int x1].toArray s0 0 0 A → dcC p l e ({ frames := 0, cells := 0, slots := 0, locals := 0 }) s0 m [.ref h0, .int x1].toArray below meth c QQ (dC, dI) A (wM h0 a cI cB cJ cZ s) 0 2 [(0, .ref h0), (1, .int x1)] [] by
    have k9 := kk _ rfl H [] ls hP hD hS hl
    rw [hH] at k9; exact k9
  clear hP hD hS hl hH H ls
  intro QQ hQQ
  have bl_27 : ∀ (x1 : Int32) (t0 : Int32) (s : ms), bk_M_count_27 x1 t0 s = some y → dcC p l e ({ frames := 0, cells := 0, slots := 0, locals := 0 }) s0 m [.ref h0, .int x1].toArray below meth c QQ (dC, dI) A (wM h0 a cI cB cJ cZ s) 27 2 [(0, .ref h0), (1, .int x1)] [.int t0, .ref h0] := by
    intro x1 t0 s hf H locs ls hP hD hS hl
    unfold bk_M_count_27 at hf
    refine va_put (D := (dC, dI)) (ci := 0) (v := .int t0) (ty := .int) (C := rn_M) (T := fn_M) (N := 91) hx hb hg in_M tn_M tk_M nn_M hown hK hP hD hS 0 rfl rfl 0 (by decide) (hg _ wn_8_68) (fun _ h9 => h9) rfl (tk_M 0 (by decide)) rfl rfl (Nat.le_of_ble_eq_true rfl) dn_M_count_27 (fun H locs hP hD hS => ?_)
    have hP : va_P (dC, dI) xcl (wM h0 a cI cB cJ cZ (upI s 0 (fun _ => t0))) H := hP
    have hD : va_D A (wM h0 a cI cB cJ cZ (upI s 0 (fun _ => t0))) := hD
    refine lv_aload_n hx hb dn_M_count_30 rfl (lv_at hl 0 rfl) ?_
    refine va_get (D := (dC, dI)) (ci := 0) (v := .int t0) (C := rn_M) (T := fn_M) (N := 91) hx hb hg in_M hown hK hP 0 rfl rfl 0 (by decide) (hg _ wn_8_68) (fun _ h9 => h9) rfl dn_M_count_31 ?_
    refine lv_if_le (tgt := 39) hx hb dn_M_count_34 (by decide) (fun h => ?_) (fun h => ?_)
    · have hf := (if_pos h).symm.trans hf
      refine lv_iload_n hx hb dn_M_count_39 rfl (lv_at hl 1 rfl) ?_
      by_cases h_0 : x1 = 0
      · have hf := (if_pos h_0).symm.trans hf
        refine xk_ti (y := 0) h_0 ?_
        refine lv_tableIn (tgt := 80) hx hb dn_M_count_40 (by decide) (by decide) rfl (by decide) ?_
        refine lv_aload_n hx hb dn_M_count_80 rfl (lv_at hl 0 rfl) ?_
        refine va_get (D := (dC, dI)) (ci := 0) (v := .int ((s.1 75 0))) (C := rn_M) (T := fn_M) (N := 91) hx hb hg in_M hown hK hP 0 rfl rfl 75 (by decide) (hg _ wn_8_143) (fun _ h9 => h9) rfl dn_M_count_81 ?_
        rw [hQQ, ← Option.some.inj hf]
        exact xk_iret (w1 := fun _ : Unit => (wM h0 a cI cB cJ cZ (upI s 0 (fun _ => t0)))) () hx hb hr hlocks hK hS dn_M_count_84 hP hD rfl (Nat.le_refl _) (Nat.le_refl _)
      have hf := (if_neg h_0).symm.trans hf
      by_cases h_1 : x1 = 1
      · have hf := (if_pos h_1).symm.trans hf
        refine xk_ti (y := 1) h_1 ?_
        refine lv_tableIn (tgt := 85) hx hb dn_M_count_40 (by decide) (by decide) rfl (by decide) ?_
        refine lv_aload_n hx hb dn_M_count_85 rfl (lv_at hl 0 rfl) ?_
        refine va_get (D := (dC, dI)) (ci := 0) (v := .int ((s.1 56 0))) (C := rn_M) (T := fn_M) (N := 91) hx hb hg in_M hown hK hP 0 rfl rfl 56 (by decide) (hg _ wn_8_124) (fun _ h9 => h9) rfl dn_M_count_86 ?_
        refine lv_iconst (v := 1) hx hb dn_M_count_89 (by decide) ?_
        refine lv_isub hx hb dn_M_count_90 ?_
        rw [hQQ, ← Option.some.inj hf]
        exact xk_iret (w1 := fun _ : Unit => (wM h0 a cI cB cJ cZ (upI s 0 (fun _ => t0)))) () hx hb hr hlocks hK hS dn_M_count_91 hP hD rfl (Nat.le_refl _) (Nat.le_refl _)
      have hf := (if_neg h_1).symm.trans hf
      by_cases h_2 : x1 = 2
      · have hf := (if_pos h_2).symm.trans hf
        refine xk_ti (y := 2) h_2 ?_
        refine lv_tableIn (tgt := 92) hx hb dn_M_count_40 (by decide) (by decide) rfl (by decide) ?_
        refine lv_aload_n hx hb dn_M_count_92 rfl (lv_at hl 0 rfl) ?_
        refine va_get (D := (dC, dI)) (ci := 0) (v := .int ((s.1 63 0))) (C := rn_M) (T := fn_M) (N := 91) hx hb hg in_M hown hK hP 0 rfl rfl 63 (by decide) (hg _ wn_8_131) (fun _ h9 => h9) rfl dn_M_count_93 ?_
        rw [hQQ, ← Option.some.inj hf]
        exact xk_iret (w1 := fun _ : Unit => (wM h0 a cI cB cJ cZ (upI s 0 (fun _ => t0)))) () hx hb hr hlocks hK hS dn_M_count_96 hP hD rfl (Nat.le_refl _) (Nat.le_refl _)
      have hf := (if_neg h_2).symm.trans hf
      by_cases h_3 : x1 = 3
      · have hf := (if_pos h_3).symm.trans hf
        refine xk_ti (y := 3) h_3 ?_
        refine lv_tableIn (tgt := 97) hx hb dn_M_count_40 (by decide) (by decide) rfl (by decide) ?_
        refine lv_aload_n hx hb dn_M_count_97 rfl (lv_at hl 0 rfl) ?_
        refine va_get (D := (dC, dI)) (ci := 0) (v := .int ((s.1 76 0))) (C := rn_M) (T := fn_M) (N := 91) hx hb hg in_M hown hK hP 0 rfl rfl 76 (by decide) (hg _ wn_8_144) (fun _ h9 => h9) rfl dn_M_count_98 ?_
        rw [hQQ, ← Option.some.inj hf]
        exact xk_iret (w1 := fun _ : Unit => (wM h0 a cI cB cJ cZ (upI s 0 (fun _ => t0)))) () hx hb hr hlocks hK hS dn_M_count_101 hP hD rfl (Nat.le_refl _) (Nat.le_refl _)
      have hf := (if_neg h_3).symm.trans hf
      by_cases h_4 : x1 = 4
      · have hf := (if_pos h_4).symm.trans hf
        refine xk_ti (y := 4) h_4 ?_
        refine lv_tableIn (tgt := 102) hx hb dn_M_count_40 (by decide) (by decide) rfl (by decide) ?_
        refine lv_aload_n hx hb dn_M_count_102 rfl (lv_at hl 0 rfl) ?_
        refine va_get (D := (dC, dI)) (ci := 0) (v := .int ((s.1 77 0))) (C := rn_M) (T := fn_M) (N := 91) hx hb hg in_M hown hK hP 0 rfl rfl 77 (by decide) (hg _ wn_8_145) (fun _ h9 => h9) rfl dn_M_count_103 ?_
        rw [hQQ, ← Option.some.inj hf]
        exact xk_iret (w1 := fun _ : Unit => (wM h0 a cI cB cJ cZ (upI s 0 (fun _ => t0)))) () hx hb hr hlocks hK hS dn_M_count_106 hP hD rfl (Nat.le_refl _) (Nat.le_refl _)
      have hf := (if_neg h_4).symm.trans hf
      by_cases h_5 : x1 = 5
      · have hf := (if_pos h_5).symm.trans hf
        refine xk_ti (y := 5) h_5 ?_
        refine lv_tableIn (tgt := 107) hx hb dn_M_count_40 (by decide) (by decide) rfl (by decide) ?_
        refine lv_aload_n hx hb dn_M_count_107 rfl (lv_at hl 0 rfl) ?_
        refine va_get (D := (dC, dI)) (ci := 0) (v := .int ((s.1 78 0))) (C := rn_M) (T := fn_M) (N := 91) hx hb hg in_M hown hK hP 0 rfl rfl 78 (by decide) (hg _ wn_8_146) (fun _ h9 => h9) rfl dn_M_count_108 ?_
        rw [hQQ, ← Option.some.inj hf]
        exact xk_iret (w1 := fun _ : Unit => (wM h0 a cI cB cJ cZ (upI s 0 (fun _ => t0)))) () hx hb hr hlocks hK hS dn_M_count_111 hP hD rfl (Nat.le_refl _) (Nat.le_refl _)
      have hf := (if_neg h_5).symm.trans hf
      refine lv_tableOut (tgt := 112) hx hb dn_M_count_40 (dc_out (fun k h1 h2 => by rcases (show k = 0 ∨ k = 1 ∨ k = 2 ∨ k = 3 ∨ k = 4 ∨ k = 5 by omega) with rfl | rfl | rfl | rfl | rfl | rfl <;> first | exact lv_neT h_0 (by decide) | exact lv_neT h_1 (by decide) | exact lv_neT h_2 (by decide) | exact lv_neT h_3 (by decide) | exact lv_neT h_4 (by decide) | exact lv_neT h_5 (by decide)) (by decide)) (by decide) ?_
      refine lv_aload_n hx hb dn_M_count_112 rfl (lv_at hl 0 rfl) ?_
      refine va_get (D := (dC, dI)) (ci := 0) (v := .long ((s.2 79 0))) (C := rn_M) (T := fn_M) (N := 91) hx hb hg in_M hown hK hP 0 rfl rfl 79 (by decide) (hg _ wn_8_147) (fun _ h9 => h9) rfl dn_M_count_113 ?_
      refine lv_l2i (v := Int64.toInt32 ((s.2 79 0))) hx hb dn_M_count_116 rfl ?_
      rw [hQQ, ← Option.some.inj hf]
      exact xk_iret (w1 := fun _ : Unit => (wM h0 a cI cB cJ cZ (upI s 0 (fun _ => t0)))) () hx hb hr hlocks hK hS dn_M_count_117 hP hD rfl (Nat.le_refl _) (Nat.le_refl _)
    · have hf := (if_neg h).symm.trans hf
      refine lv_iconst (v := 0) hx hb dn_M_count_37 (by decide) ?_
      rw [hQQ, ← Option.some.inj hf]
      exact xk_iret (w1 := fun _ : Unit => (wM h0 a cI cB cJ cZ (upI s 0 (fun _ => t0)))) () hx hb hr hlocks hK hS dn_M_count_38 hP hD rfl (Nat.le_refl _) (Nat.le_refl _)
  have bl_22 : ∀ (x1 : Int32) (s : ms), bk_M_count_22 x1 s = some y → dcC p l e ({ frames := 0, cells := 0, slots := 0, locals := 0 }) s0 m [.ref h0, .int x1].toArray below meth c QQ (dC, dI) A (wM h0 a cI cB cJ cZ s) 22 2 [(0, .ref h0), (1, .int x1)] [.ref h0] := by
    intro x1 s hf H locs ls hP hD hS hl
    unfold bk_M_count_22 at hf
    refine lv_iconst (v := 2) hx hb dn_M_count_22 (by decide) ?_
    refine lv_goto (tgt := 27) hx hb dn_M_count_23 (by decide) ?_
    exact bl_27 x1 2 s hf H locs ls hP hD hS hl
  intro H locs ls hP hD hS hl
  unfold fn_M_count at hf
  refine lv_aload_n hx hb dn_M_count_0 rfl (lv_at hl 0 rfl) ?_
  refine lv_aload_n hx hb dn_M_count_1 rfl (lv_at hl 0 rfl) ?_
  refine va_get (D := (dC, dI)) (ci := 0) (v := .int ((s.1 54 0))) (C := rn_M) (T := fn_M) (N := 91) hx hb hg in_M hown hK hP 0 rfl rfl 54 (by decide) (hg _ wn_8_122) (fun _ h9 => h9) rfl dn_M_count_2 ?_
  refine lv_if_ne (tgt := 12) hx hb dn_M_count_5 (by decide) (fun h => ?_) (fun h => ?_)
  · have hf := (if_neg h).symm.trans hf
    refine lv_iload_n hx hb dn_M_count_12 rfl (lv_at hl 1 rfl) ?_
    refine lv_if_lt (tgt := 22) hx hb dn_M_count_13 (by decide) (fun h => ?_) (fun h => ?_)
    · have hf := (if_pos h).symm.trans hf
      exact bl_22 x1 s hf H locs ls hP hD hS hl
    · have hf := (if_neg h).symm.trans hf
      refine lv_iload_n hx hb dn_M_count_16 rfl (lv_at hl 1 rfl) ?_
      refine lv_bipush (v := 6) hx hb dn_M_count_17 (by decide) ?_
      refine lv_icmp_le (tgt := 26) hx hb dn_M_count_19 (by decide) (fun h => ?_) (fun h => ?_)
      · have hf := (if_pos h).symm.trans hf
        refine lv_iconst (v := 0) hx hb dn_M_count_26 (by decide) ?_
        exact bl_27 x1 0 s hf H locs ls hP hD hS hl
      · have hf := (if_neg h).symm.trans hf
        exact bl_22 x1 s hf H locs ls hP hD hS hl
  · have hf := (if_pos h).symm.trans hf
    refine lv_iconst (v := 1) hx hb dn_M_count_8 (by decide) ?_
    refine lv_goto (tgt := 27) hx hb dn_M_count_9 (by decide) ?_
    exact bl_27 x1 1 s hf H locs ls hP hD hS hl
def bd_M_goesOn_31 (k_31 : Int32 → Int32 → Int32 → Int32 → ms → Option (Int32 × ms)) (x1 : Int32) (x2 : Int32) (x3 : Int32) (x4 : Int32) (s : ms) : Option (Int32 × ms) :=
  if x3 = 0 then (if ¬ (vp_nar .boolean x3 = x3) then none else some (x3, s)) else (if (x2 < 0 ∨ 65540 ≤ Int32.toNatClampNeg x2) then none else if (x2 < 0 ∨ 65540 ≤ Int32.toNatClampNeg x2) then none else if (((s.1 6) (Int32.toNatClampNeg x2)) - ((s.1 5) (Int32.toNatClampNeg x2))) ≤ x4 then (if ¬ (vp_nar .boolean x3 = x3) then none else some (x3, s)) else (if ((x1 + x4) < 0 ∨ 65536 ≤ Int32.toNatClampNeg ((x1 + x4))) then none else if (x2 < 0 ∨ 65540 ≤ Int32.toNatClampNeg x2) then none else if ((((s.1 5) (Int32.toNatClampNeg x2)) + x4) < 0 ∨ 65536 ≤ Int32.toNatClampNeg ((((s.1 5) (Int32.toNatClampNeg x2)) + x4))) then none else if ((s.1 1) (Int32.toNatClampNeg ((x1 + x4)))) = ((s.1 90) (Int32.toNatClampNeg ((((s.1 5) (Int32.toNatClampNeg x2)) + x4)))) then (k_31 x1 x2 1 ((x4 + 1)) s) else (k_31 x1 x2 0 ((x4 + 1)) s)))
def hd_M_goesOn_31 : Nat → Int32 → Int32 → Int32 → Int32 → ms → Option (Int32 × ms)
  | 0, _, _, _, _, _ => none
  | n + 1, x1, x2, x3, x4, s => bd_M_goesOn_31 (hd_M_goesOn_31 n) x1 x2 x3 x4 s
def fn_M_goesOn (x1 : Int32) (x2 : Int32) (s : ms) : Option (Int32 × ms) :=
  if (x2 < 0 ∨ 65540 ≤ Int32.toNatClampNeg x2) then none else if (x2 < 0 ∨ 65540 ≤ Int32.toNatClampNeg x2) then none else if (s.1 88 0) < ((x1 + ((s.1 6) (Int32.toNatClampNeg x2))) - ((s.1 5) (Int32.toNatClampNeg x2))) then (hd_M_goesOn_31 dc_N x1 x2 0 0 s) else (hd_M_goesOn_31 dc_N x1 x2 1 0 s)
set_option maxHeartbeats 8000000 in
set_option maxRecDepth 100000 in
theorem ct_M_goesOn (l : Launch) (dC : Nat → ClassId) (dI : Nat → Nat → Nat) (cI cB cJ cZ cQ : ClassId) (sz : Nat) (h0 : Nat) (a : Nat → Nat) (x1 : Int32) (x2 : Int32) (s : ms) (y : (Int32 × ms)) (hf : fn_M_goesOn x1 x2 s = some y) : Met l yn_M_goesOn (xw yn_M_goesOn bn_M_goesOn 5 (some .boolean)) ({ frames := 0, cells := 0, slots := 0, locals := 0 }) (xk_P (dC, dI) xcl (xt cI cB cJ cZ cQ) [.ref h0, .int x1, .int x2] sz (wM h0 a cI cB cJ cZ s)) (xk_Qi (dC, dI) xcl (xt cI cB cJ cZ cQ) (fun (r : Int32) (_ : Unit) => r = y.1) (fun _ : Unit => (wM h0 a cI cB cJ cZ y.2)) (va_A (wM h0 a cI cB cJ cZ s) sz)) 0 0 (va_A (wM h0 a cI cB cJ cZ s) sz) := by
  refine xk_of (QA := xk_Qi (dC, dI) xcl (xt cI cB cJ cZ cQ) (fun (r : Int32) (_ : Unit) => r = y.1) (fun _ : Unit => (wM h0 a cI cB cJ cZ y.2))) (by decide) (Nat.le_of_ble_eq_true rfl) ?_
  intro p e s0 m below meth c hx hb hml hown hg hr hlocks hin hP hK hN A hA hD hS ls hl
  have hown : s0.vm.findClass rn_M = some m.cls := hown
  obtain ⟨H, hH⟩ : ∃ z, z = s0.heap := ⟨_, rfl⟩
  rw [← hH] at hP
  have hS : va_S A s0.heap H [] := by rw [hH]; exact va_S.rf
  suffices kk : ∀ QQ : State → Prop, QQ = MQ below (xk_Qi (dC, dI) xcl (xt cI cB cJ cZ cQ) (fun (r : Int32) (_ : Unit) => r = y.1) (fun _ : Unit => (wM h0 a cI cB cJ cZ y.2)) A) [.ref h0, .int x1, .int x2].toArray s0 0 0 A → dcC p l e ({ frames := 0, cells := 0, slots := 0, locals := 0 }) s0 m [.ref h0, .int x1, .int x2].toArray below meth c QQ (dC, dI) A (wM h0 a cI cB cJ cZ s) 0 5 [(0, .ref h0), (1, .int x1), (2, .int x2)] [] by
    have k9 := kk _ rfl H [] ls hP hD hS hl
    rw [hH] at k9; exact k9
  clear hP hD hS hl hH H ls
  intro QQ hQQ
  have hd_31 : ∀ (n : Nat) (x1 : Int32) (x2 : Int32) (x3 : Int32) (x4 : Int32) (s : ms), hd_M_goesOn_31 n x1 x2 x3 x4 s = some y → dcC p l e ({ frames := 0, cells := 0, slots := 0, locals := 0 }) s0 m [.ref h0, .int x1, .int x2].toArray below meth c QQ (dC, dI) A (wM h0 a cI cB cJ cZ s) 31 5 [(0, .ref h0), (1, .int x1), (2, .int x2), (3, .int x3), (4, .int x4)] [] := by
    intro n
    induction n with
    | zero => intro x1 x2 x3 x4 s hf; cases hf
    | succ n ih =>
      intro x1 x2 x3 x4 s hf H locs ls hP hD hS hl
      have hf : bd_M_goesOn_31 (hd_M_goesOn_31 n) x1 x2 x3 x4 s = some y := hf
      have hk_31 := ih
      generalize hd_M_goesOn_31 n = k_31 at hf hk_31
      unfold bd_M_goesOn_31 at hf
      refine lv_iload_n hx hb dn_M_goesOn_31 rfl (lv_at hl 3 rfl) ?_
      refine lv_if_eq (tgt := 91) hx hb dn_M_goesOn_32 (by decide) (fun h => ?_) (fun h => ?_)
      · have hf := (if_pos h).symm.trans hf
        refine lv_iload_n hx hb dn_M_goesOn_91 rfl (lv_at hl 3 rfl) ?_
        obtain ⟨hg_1, hf⟩ := dc_g hf
        rw [hQQ, ← Option.some.inj hf]
        exact xk_zret (w1 := fun _ : Unit => (wM h0 a cI cB cJ cZ s)) () hx hb hr (dc_z (Decidable.not_not.mp hg_1)) hlocks hK hS dn_M_goesOn_92 hP hD rfl (Nat.le_refl _) (Nat.le_refl _)
      · have hf := (if_neg h).symm.trans hf
        refine lv_iload hx hb dn_M_goesOn_35 (lv_at hl 4 rfl) ?_
        refine lv_aload_n hx hb dn_M_goesOn_37 rfl (lv_at hl 0 rfl) ?_
        refine va_get (D := (dC, dI)) (ci := 0) (v := .ref ((a 6))) (C := rn_M) (T := fn_M) (N := 91) hx hb hg in_M hown hK hP 0 rfl rfl 6 (by decide) (hg _ wn_8_74) (fun _ h9 => h9) rfl dn_M_goesOn_38 ?_
        refine lv_iload_n hx hb dn_M_goesOn_41 rfl (lv_at hl 2 rfl) ?_
        obtain ⟨hg_1, hf⟩ := dc_g hf
        refine va_iald hx hb hK hP 4 0 rfl rfl hg_1 dn_M_goesOn_42 ?_
        refine xk_ti (y := ((s.1 6) (Int32.toNatClampNeg x2))) rfl ?_
        refine lv_aload_n hx hb dn_M_goesOn_43 rfl (lv_at hl 0 rfl) ?_
        refine va_get (D := (dC, dI)) (ci := 0) (v := .ref ((a 5))) (C := rn_M) (T := fn_M) (N := 91) hx hb hg in_M hown hK hP 0 rfl rfl 5 (by decide) (hg _ wn_8_73) (fun _ h9 => h9) rfl dn_M_goesOn_44 ?_
        refine lv_iload_n hx hb dn_M_goesOn_47 rfl (lv_at hl 2 rfl) ?_
        obtain ⟨hg_2, hf⟩ := dc_g hf
        refine va_iald hx hb hK hP 3 0 rfl rfl hg_2 dn_M_goesOn_48 ?_
        refine xk_ti (y := ((s.1 5) (Int32.toNatClampNeg x2))) rfl ?_
        refine lv_isub hx hb dn_M_goesOn_49 ?_
        refine lv_icmp_ge (tgt := 91) hx hb dn_M_goesOn_50 (by decide) (fun h => ?_) (fun h => ?_)
        · have hf := (if_pos h).symm.trans hf
          refine lv_iload_n hx hb dn_M_goesOn_91 rfl (lv_at hl 3 rfl) ?_
          obtain ⟨hg_3, hf⟩ := dc_g hf
          rw [hQQ, ← Option.some.inj hf]
          exact xk_zret (w1 := fun _ : Unit => (wM h0 a cI cB cJ cZ s)) () hx hb hr (dc_z (Decidable.not_not.mp hg_3)) hlocks hK hS dn_M_goesOn_92 hP hD rfl (Nat.le_refl _) (Nat.le_refl _)
        · have hf := (if_neg h).symm.trans hf
          refine lv_aload_n hx hb dn_M_goesOn_53 rfl (lv_at hl 0 rfl) ?_
          refine va_get (D := (dC, dI)) (ci := 0) (v := .ref ((a 1))) (C := rn_M) (T := fn_M) (N := 91) hx hb hg in_M hown hK hP 0 rfl rfl 1 (by decide) (hg _ wn_8_69) (fun _ h9 => h9) rfl dn_M_goesOn_54 ?_
          refine lv_iload_n hx hb dn_M_goesOn_57 rfl (lv_at hl 1 rfl) ?_
          refine lv_iload hx hb dn_M_goesOn_58 (lv_at hl 4 rfl) ?_
          refine lv_iadd hx hb dn_M_goesOn_60 ?_
          obtain ⟨hg_3, hf⟩ := dc_g hf
          refine va_bald hx hb hK hP 1 1 rfl rfl hg_3 dn_M_goesOn_61 ?_
          refine xk_ti (y := ((s.1 1) (Int32.toNatClampNeg ((x1 + x4))))) rfl ?_
          refine lv_aload_n hx hb dn_M_goesOn_62 rfl (lv_at hl 0 rfl) ?_
          refine va_get (D := (dC, dI)) (ci := 0) (v := .ref ((a 90))) (C := rn_M) (T := fn_M) (N := 91) hx hb hg in_M hown hK hP 0 rfl rfl 90 (by decide) (hg _ wn_8_158) (fun _ h9 => h9) rfl dn_M_goesOn_63 ?_
          refine lv_aload_n hx hb dn_M_goesOn_66 rfl (lv_at hl 0 rfl) ?_
          refine va_get (D := (dC, dI)) (ci := 0) (v := .ref ((a 5))) (C := rn_M) (T := fn_M) (N := 91) hx hb hg in_M hown hK hP 0 rfl rfl 5 (by decide) (hg _ wn_8_73) (fun _ h9 => h9) rfl dn_M_goesOn_67 ?_
          refine lv_iload_n hx hb dn_M_goesOn_70 rfl (lv_at hl 2 rfl) ?_
          obtain ⟨hg_4, hf⟩ := dc_g hf
          refine va_iald hx hb hK hP 3 0 rfl rfl hg_4 dn_M_goesOn_71 ?_
          refine xk_ti (y := ((s.1 5) (Int32.toNatClampNeg x2))) rfl ?_
          refine lv_iload hx hb dn_M_goesOn_72 (lv_at hl 4 rfl) ?_
          refine lv_iadd hx hb dn_M_goesOn_74 ?_
          obtain ⟨hg_5, hf⟩ := dc_g hf
          refine va_bald hx hb hK hP 59 1 rfl rfl hg_5 dn_M_goesOn_75 ?_
          refine xk_ti (y := ((s.1 90) (Int32.toNatClampNeg ((((s.1 5) (Int32.toNatClampNeg x2)) + x4))))) rfl ?_
          refine lv_icmp_ne (tgt := 83) hx hb dn_M_goesOn_76 (by decide) (fun h => ?_) (fun h => ?_)
          · have hf := (if_neg h).symm.trans hf
            refine lv_iconst (v := 0) hx hb dn_M_goesOn_83 (by decide) ?_
            refine lv_istore_n (lv' := [(3, .int 0), (0, .ref h0), (1, .int x1), (2, .int x2), (4, .int x4)]) hx hb dn_M_goesOn_84 rfl hl (by decide) rfl (fun ls hl => ?_)
            refine lv_iinc (v := (x4 + 1)) (lv' := [(4, .int ((x4 + 1))), (3, .int 0), (0, .ref h0), (1, .int x1), (2, .int x2)]) hx hb dn_M_goesOn_85 hl (k := 4) rfl (dc_inc (by decide)) (by decide) rfl (fun ls hl => ?_)
            refine lv_goto (tgt := 31) hx hb dn_M_goesOn_88 (by decide) ?_
            exact hk_31 x1 x2 0 ((x4 + 1)) s hf H locs ls hP hD hS (lv_sub hl [2, 3, 4, 1, 0] rfl)
          · have hf := (if_pos h).symm.trans hf
            refine lv_iconst (v := 1) hx hb dn_M_goesOn_79 (by decide) ?_
            refine lv_goto (tgt := 84) hx hb dn_M_goesOn_80 (by decide) ?_
            refine lv_istore_n (lv' := [(3, .int 1), (0, .ref h0), (1, .int x1), (2, .int x2), (4, .int x4)]) hx hb dn_M_goesOn_84 rfl hl (by decide) rfl (fun ls hl => ?_)
            refine lv_iinc (v := (x4 + 1)) (lv' := [(4, .int ((x4 + 1))), (3, .int 1), (0, .ref h0), (1, .int x1), (2, .int x2)]) hx hb dn_M_goesOn_85 hl (k := 4) rfl (dc_inc (by decide)) (by decide) rfl (fun ls hl => ?_)
            refine lv_goto (tgt := 31) hx hb dn_M_goesOn_88 (by decide) ?_
            exact hk_31 x1 x2 1 ((x4 + 1)) s hf H locs ls hP hD hS (lv_sub hl [2, 3, 4, 1, 0] rfl)
  intro H locs ls hP hD hS hl
  unfold fn_M_goesOn at hf
  refine lv_iload_n hx hb dn_M_goesOn_0 rfl (lv_at hl 1 rfl) ?_
  refine lv_aload_n hx hb dn_M_goesOn_1 rfl (lv_at hl 0 rfl) ?_
  refine va_get (D := (dC, dI)) (ci := 0) (v := .ref ((a 6))) (C := rn_M) (T := fn_M) (N := 91) hx hb hg in_M hown hK hP 0 rfl rfl 6 (by decide) (hg _ wn_8_74) (fun _ h9 => h9) rfl dn_M_goesOn_2 ?_
  refine lv_iload_n hx hb dn_M_goesOn_5 rfl (lv_at hl 2 rfl) ?_
  obtain ⟨hg_1, hf⟩ := dc_g hf
  refine va_iald hx hb hK hP 4 0 rfl rfl hg_1 dn_M_goesOn_6 ?_
  refine xk_ti (y := ((s.1 6) (Int32.toNatClampNeg x2))) rfl ?_
  refine lv_iadd hx hb dn_M_goesOn_7 ?_
  refine lv_aload_n hx hb dn_M_goesOn_8 rfl (lv_at hl 0 rfl) ?_
  refine va_get (D := (dC, dI)) (ci := 0) (v := .ref ((a 5))) (C := rn_M) (T := fn_M) (N := 91) hx hb hg in_M hown hK hP 0 rfl rfl 5 (by decide) (hg _ wn_8_73) (fun _ h9 => h9) rfl dn_M_goesOn_9 ?_
  refine lv_iload_n hx hb dn_M_goesOn_12 rfl (lv_at hl 2 rfl) ?_
  obtain ⟨hg_2, hf⟩ := dc_g hf
  refine va_iald hx hb hK hP 3 0 rfl rfl hg_2 dn_M_goesOn_13 ?_
  refine xk_ti (y := ((s.1 5) (Int32.toNatClampNeg x2))) rfl ?_
  refine lv_isub hx hb dn_M_goesOn_14 ?_
  refine lv_aload_n hx hb dn_M_goesOn_15 rfl (lv_at hl 0 rfl) ?_
  refine va_get (D := (dC, dI)) (ci := 0) (v := .int ((s.1 88 0))) (C := rn_M) (T := fn_M) (N := 91) hx hb hg in_M hown hK hP 0 rfl rfl 88 (by decide) (hg _ wn_8_156) (fun _ h9 => h9) rfl dn_M_goesOn_16 ?_
  refine lv_icmp_gt (tgt := 26) hx hb dn_M_goesOn_19 (by decide) (fun h => ?_) (fun h => ?_)
  · have hf := (if_pos h).symm.trans hf
    refine lv_iconst (v := 0) hx hb dn_M_goesOn_26 (by decide) ?_
    refine lv_istore_n (lv' := [(3, .int 0), (0, .ref h0), (1, .int x1), (2, .int x2)]) hx hb dn_M_goesOn_27 rfl hl (by decide) rfl (fun ls hl => ?_)
    refine lv_iconst (v := 0) hx hb dn_M_goesOn_28 (by decide) ?_
    refine lv_istore (lv' := [(4, .int 0), (3, .int 0), (0, .ref h0), (1, .int x1), (2, .int x2)]) hx hb dn_M_goesOn_29 hl (by decide) rfl (fun ls hl => ?_)
    exact hd_31 dc_N x1 x2 0 0 s hf H locs ls hP hD hS (lv_sub hl [2, 3, 4, 1, 0] rfl)
  · have hf := (if_neg h).symm.trans hf
    refine lv_iconst (v := 1) hx hb dn_M_goesOn_22 (by decide) ?_
    refine lv_goto (tgt := 27) hx hb dn_M_goesOn_23 (by decide) ?_
    refine lv_istore_n (lv' := [(3, .int 1), (0, .ref h0), (1, .int x1), (2, .int x2)]) hx hb dn_M_goesOn_27 rfl hl (by decide) rfl (fun ls hl => ?_)
    refine lv_iconst (v := 0) hx hb dn_M_goesOn_28 (by decide) ?_
    refine lv_istore (lv' := [(4, .int 0), (3, .int 1), (0, .ref h0), (1, .int x1), (2, .int x2)]) hx hb dn_M_goesOn_29 hl (by decide) rfl (fun ls hl => ?_)
    exact hd_31 dc_N x1 x2 1 0 s hf H locs ls hP hD hS (lv_sub hl [2, 3, 4, 1, 0] rfl)
def bk_M_isNamed_145 (x1 : Int32) (x4 : Int32) (x5 : Int32) (s : ms) : Option (Int32 × ms) :=
  if (x1 < 0 ∨ 1100 ≤ Int32.toNatClampNeg x1) then none else if (((s.1 64) (Int32.toNatClampNeg x1)) < 0 ∨ 11000 ≤ Int32.toNatClampNeg (((s.1 64) (Int32.toNatClampNeg x1)))) then none else if x5 = 0 then (some (0, s)) else ((fn_M_goesOn x4 (((s.1 19) (Int32.toNatClampNeg (((s.1 64) (Int32.toNatClampNeg x1)))))) s).bind (fun q_3 => if q_3.1 = 0 then (some (0, q_3.2)) else (if (((s.1 19) (Int32.toNatClampNeg (((s.1 64) (Int32.toNatClampNeg x1))))) < 0 ∨ 65540 ≤ Int32.toNatClampNeg (((s.1 19) (Int32.toNatClampNeg (((s.1 64) (Int32.toNatClampNeg x1))))))) then none else if (((s.1 19) (Int32.toNatClampNeg (((s.1 64) (Int32.toNatClampNeg x1))))) < 0 ∨ 65540 ≤ Int32.toNatClampNeg (((s.1 19) (Int32.toNatClampNeg (((s.1 64) (Int32.toNatClampNeg x1))))))) then none else if ((x4 + ((q_3.2.1 6) (Int32.toNatClampNeg (((s.1 19) (Int32.toNatClampNeg (((s.1 64) (Int32.toNatClampNeg x1))))))))) - ((q_3.2.1 5) (Int32.toNatClampNeg (((s.1 19) (Int32.toNatClampNeg (((s.1 64) (Int32.toNatClampNeg x1))))))))) = (q_3.2.1 88 0) then (some (1, q_3.2)) else (some (0, q_3.2)))))
def bk_M_isNamed_133 (k_49 : Int32 → Int32 → Int32 → Int32 → ms → Option (Int32 × ms)) (x1 : Int32) (x4 : Int32) (x6 : Int32) (s : ms) : Option (Int32 × ms) :=
  k_49 x1 ((x4 + 1)) 0 ((x6 + (-1))) s
def bd_M_isNamed_49 (k_49 : Int32 → Int32 → Int32 → Int32 → ms → Option (Int32 × ms)) (x1 : Int32) (x4 : Int32) (x5 : Int32) (x6 : Int32) (s : ms) : Option (Int32 × ms) :=
  if x6 < 0 then (bk_M_isNamed_145 x1 x4 x5 s) else (if x5 = 0 then (bk_M_isNamed_145 x1 x4 x5 s) else (if (x6 < 0 ∨ 1100 ≤ Int32.toNatClampNeg x6) then none else if (((s.1 74) (Int32.toNatClampNeg x6)) < 0 ∨ 11000 ≤ Int32.toNatClampNeg (((s.1 74) (Int32.toNatClampNeg x6)))) then none else (fn_M_goesOn x4 (((s.1 29) (Int32.toNatClampNeg (((s.1 74) (Int32.toNatClampNeg x6)))))) s).bind (fun q_3 => if (((s.1 29) (Int32.toNatClampNeg (((s.1 74) (Int32.toNatClampNeg x6))))) < 0 ∨ 65540 ≤ Int32.toNatClampNeg (((s.1 29) (Int32.toNatClampNeg (((s.1 74) (Int32.toNatClampNeg x6))))))) then none else if (((s.1 29) (Int32.toNatClampNeg (((s.1 74) (Int32.toNatClampNeg x6))))) < 0 ∨ 65540 ≤ Int32.toNatClampNeg (((s.1 29) (Int32.toNatClampNeg (((s.1 74) (Int32.toNatClampNeg x6))))))) then none else if q_3.1 = 0 then (bk_M_isNamed_133 k_49 x1 (((x4 + ((q_3.2.1 6) (Int32.toNatClampNeg (((s.1 29) (Int32.toNatClampNeg (((s.1 74) (Int32.toNatClampNeg x6))))))))) - ((q_3.2.1 5) (Int32.toNatClampNeg (((s.1 29) (Int32.toNatClampNeg (((s.1 74) (Int32.toNatClampNeg x6)))))))))) x6 q_3.2) else (if (q_3.2.1 88 0) ≤ ((x4 + ((q_3.2.1 6) (Int32.toNatClampNeg (((s.1 29) (Int32.toNatClampNeg (((s.1 74) (Int32.toNatClampNeg x6))))))))) - ((q_3.2.1 5) (Int32.toNatClampNeg (((s.1 29) (Int32.toNatClampNeg (((s.1 74) (Int32.toNatClampNeg x6))))))))) then (bk_M_isNamed_133 k_49 x1 (((x4 + ((q_3.2.1 6) (Int32.toNatClampNeg (((s.1 29) (Int32.toNatClampNeg (((s.1 74) (Int32.toNatClampNeg x6))))))))) - ((q_3.2.1 5) (Int32.toNatClampNeg (((s.1 29) (Int32.toNatClampNeg (((s.1 74) (Int32.toNatClampNeg x6)))))))))) x6 q_3.2) else (if (((x4 + ((q_3.2.1 6) (Int32.toNatClampNeg (((s.1 29) (Int32.toNatClampNeg (((s.1 74) (Int32.toNatClampNeg x6))))))))) - ((q_3.2.1 5) (Int32.toNatClampNeg (((s.1 29) (Int32.toNatClampNeg (((s.1 74) (Int32.toNatClampNeg x6))))))))) < 0 ∨ 65536 ≤ Int32.toNatClampNeg (((x4 + ((q_3.2.1 6) (Int32.toNatClampNeg (((s.1 29) (Int32.toNatClampNeg (((s.1 74) (Int32.toNatClampNeg x6))))))))) - ((q_3.2.1 5) (Int32.toNatClampNeg (((s.1 29) (Int32.toNatClampNeg (((s.1 74) (Int32.toNatClampNeg x6))))))))))) then none else if ((q_3.2.1 1) (Int32.toNatClampNeg (((x4 + ((q_3.2.1 6) (Int32.toNatClampNeg (((s.1 29) (Int32.toNatClampNeg (((s.1 74) (Int32.toNatClampNeg x6))))))))) - ((q_3.2.1 5) (Int32.toNatClampNeg (((s.1 29) (Int32.toNatClampNeg (((s.1 74) (Int32.toNatClampNeg x6)))))))))))) = 46 then (k_49 x1 ((((x4 + ((q_3.2.1 6) (Int32.toNatClampNeg (((s.1 29) (Int32.toNatClampNeg (((s.1 74) (Int32.toNatClampNeg x6))))))))) - ((q_3.2.1 5) (Int32.toNatClampNeg (((s.1 29) (Int32.toNatClampNeg (((s.1 74) (Int32.toNatClampNeg x6))))))))) + 1)) 1 ((x6 + (-1))) q_3.2) else (bk_M_isNamed_133 k_49 x1 (((x4 + ((q_3.2.1 6) (Int32.toNatClampNeg (((s.1 29) (Int32.toNatClampNeg (((s.1 74) (Int32.toNatClampNeg x6))))))))) - ((q_3.2.1 5) (Int32.toNatClampNeg (((s.1 29) (Int32.toNatClampNeg (((s.1 74) (Int32.toNatClampNeg x6)))))))))) x6 q_3.2))))))
def hd_M_isNamed_49 : Nat → Int32 → Int32 → Int32 → Int32 → ms → Option (Int32 × ms)
  | 0, _, _, _, _, _ => none
  | n + 1, x1, x4, x5, x6, s => bd_M_isNamed_49 (hd_M_isNamed_49 n) x1 x4 x5 x6 s
def bd_M_isNamed_9 (k_9 : Int32 → Int32 → Int32 → ms → Option (Int32 × ms)) (x1 : Int32) (x2 : Int32) (x3 : Int32) (s : ms) : Option (Int32 × ms) :=
  if x3 ≤ 0 then (hd_M_isNamed_49 dc_N x1 0 1 ((x2 - 1)) s) else (if (x3 < 0 ∨ 260 ≤ Int32.toNatClampNeg x3) then none else if (x2 < 0 ∨ 1100 ≤ Int32.toNatClampNeg x2) then none else if (x3 < 0 ∨ 260 ≤ Int32.toNatClampNeg x3) then none else k_9 x1 ((x2 + 1)) (((s.1 59) (Int32.toNatClampNeg x3))) (upI s 74 (upd (s.1 74) (Int32.toNatClampNeg x2) (((s.1 60) (Int32.toNatClampNeg x3))))))
def hd_M_isNamed_9 : Nat → Int32 → Int32 → Int32 → ms → Option (Int32 × ms)
  | 0, _, _, _, _ => none
  | n + 1, x1, x2, x3, s => bd_M_isNamed_9 (hd_M_isNamed_9 n) x1 x2 x3 s
def fn_M_isNamed (x1 : Int32) (s : ms) : Option (Int32 × ms) :=
  if (x1 < 0 ∨ 1100 ≤ Int32.toNatClampNeg x1) then none else hd_M_isNamed_9 dc_N x1 0 (((s.1 65) (Int32.toNatClampNeg x1))) s
set_option maxHeartbeats 8000000 in
set_option maxRecDepth 100000 in
theorem ct_M_isNamed (l : Launch) (dC : Nat → ClassId) (dI : Nat → Nat → Nat) (cI cB cJ cZ cQ : ClassId) (sz : Nat) (h0 : Nat) (a : Nat → Nat) (x1 : Int32) (s : ms) (y : (Int32 × ms)) (hf : fn_M_isNamed x1 s = some y) : Met l yn_M_isNamed (xw yn_M_isNamed bn_M_isNamed 8 (some .boolean)) ({ frames := 1, cells := 0, slots := 0, locals := 24 }) (xk_P (dC, dI) xcl (xt cI cB cJ cZ cQ) [.ref h0, .int x1] sz (wM h0 a cI cB cJ cZ s)) (xk_Qi (dC, dI) xcl (xt cI cB cJ cZ cQ) (fun (r : Int32) (_ : Unit) => r = y.1) (fun _ : Unit => (wM h0 a cI cB cJ cZ y.2)) (va_A (wM h0 a cI cB cJ cZ s) sz)) 0 0 (va_A (wM h0 a cI cB cJ cZ s) sz) := by
  refine xk_of (QA := xk_Qi (dC, dI) xcl (xt cI cB cJ cZ cQ) (fun (r : Int32) (_ : Unit) => r = y.1) (fun _ : Unit => (wM h0 a cI cB cJ cZ y.2))) (by decide) (Nat.le_of_ble_eq_true rfl) ?_
  intro p e s0 m below meth c hx hb hml hown hg hr hlocks hin hP hK hN A hA hD hS ls hl
  have hown : s0.vm.findClass rn_M = some m.cls := hown
  obtain ⟨H, hH⟩ : ∃ z, z = s0.heap := ⟨_, rfl⟩
  rw [← hH] at hP
  have hS : va_S A s0.heap H [] := by rw [hH]; exact va_S.rf
  suffices kk : ∀ QQ : State → Prop, QQ = MQ below (xk_Qi (dC, dI) xcl (xt cI cB cJ cZ cQ) (fun (r : Int32) (_ : Unit) => r = y.1) (fun _ : Unit => (wM h0 a cI cB cJ cZ y.2)) A) [.ref h0, .int x1].toArray s0 0 0 A → dcC p l e ({ frames := 1, cells := 0, slots := 0, locals := 24 }) s0 m [.ref h0, .int x1].toArray below meth c QQ (dC, dI) A (wM h0 a cI cB cJ cZ s) 0 8 [(0, .ref h0), (1, .int x1)] [] by
    have k9 := kk _ rfl H [] ls hP hD hS hl
    rw [hH] at k9; exact k9
  clear hP hD hS hl hH H ls
  intro QQ hQQ
  have bl_145 : ∀ (x1 : Int32) (x4 : Int32) (x5 : Int32) (s : ms), bk_M_isNamed_145 x1 x4 x5 s = some y → dcC p l e ({ frames := 1, cells := 0, slots := 0, locals := 24 }) s0 m [.ref h0, .int x1].toArray below meth c QQ (dC, dI) A (wM h0 a cI cB cJ cZ s) 145 8 [(0, .ref h0), (1, .int x1), (4, .int x4), (5, .int x5)] [] := by
    intro x1 x4 x5 s hf H locs ls hP hD hS hl
    unfold bk_M_isNamed_145 at hf
    refine lv_aload_n hx hb dn_M_isNamed_145 rfl (lv_at hl 0 rfl) ?_
    refine va_get (D := (dC, dI)) (ci := 0) (v := .ref ((a 19))) (C := rn_M) (T := fn_M) (N := 91) hx hb hg in_M hown hK hP 0 rfl rfl 19 (by decide) (hg _ wn_8_87) (fun _ h9 => h9) rfl dn_M_isNamed_146 ?_
    refine lv_aload_n hx hb dn_M_isNamed_149 rfl (lv_at hl 0 rfl) ?_
    refine va_get (D := (dC, dI)) (ci := 0) (v := .ref ((a 64))) (C := rn_M) (T := fn_M) (N := 91) hx hb hg in_M hown hK hP 0 rfl rfl 64 (by decide) (hg _ wn_8_132) (fun _ h9 => h9) rfl dn_M_isNamed_150 ?_
    refine lv_iload_n hx hb dn_M_isNamed_153 rfl (lv_at hl 1 rfl) ?_
    obtain ⟨hg_1, hf⟩ := dc_g hf
    refine va_iald hx hb hK hP 44 0 rfl rfl hg_1 dn_M_isNamed_154 ?_
    refine xk_ti (y := ((s.1 64) (Int32.toNatClampNeg x1))) rfl ?_
    obtain ⟨hg_2, hf⟩ := dc_g hf
    refine va_iald hx hb hK hP 10 0 rfl rfl hg_2 dn_M_isNamed_155 ?_
    refine xk_ti (y := ((s.1 19) (Int32.toNatClampNeg (((s.1 64) (Int32.toNatClampNeg x1)))))) rfl ?_
    refine lv_istore (lv' := [(6, .int (((s.1 19) (Int32.toNatClampNeg (((s.1 64) (Int32.toNatClampNeg x1))))))), (0, .ref h0), (1, .int x1), (4, .int x4), (5, .int x5)]) hx hb dn_M_isNamed_156 hl (by decide) rfl (fun ls hl => ?_)
    refine lv_iload hx hb dn_M_isNamed_158 (lv_at hl 4 rfl) ?_
    refine lv_if_eq (tgt := 203) hx hb dn_M_isNamed_160 (by decide) (fun h => ?_) (fun h => ?_)
    · have hf := (if_pos h).symm.trans hf
      refine lv_iconst (v := 0) hx hb dn_M_isNamed_203 (by decide) ?_
      rw [hQQ, ← Option.some.inj hf]
      exact xk_zret (w1 := fun _ : Unit => (wM h0 a cI cB cJ cZ s)) () hx hb hr rfl hlocks hK hS dn_M_isNamed_204 hP hD rfl (Nat.le_refl _) (Nat.le_refl _)
    · have hf := (if_neg h).symm.trans hf
      refine lv_aload_n hx hb dn_M_isNamed_163 rfl (lv_at hl 1 rfl) ?_
      refine lv_iload hx hb dn_M_isNamed_164 (lv_at hl 3 rfl) ?_
      refine lv_iload hx hb dn_M_isNamed_166 (lv_at hl 0 rfl) ?_
      obtain ⟨q_3, hc_4, hf⟩ := dc_b hf
      refine dc_calli (xk_runV (ar := 2) (As := [.int x4, .int (((s.1 19) (Int32.toNatClampNeg (((s.1 64) (Int32.toNatClampNeg x1))))))]) (rest := []) (ci := 0) (q0 := 0) ⟨hx, hb, hml, hown, hg⟩ hK hN (ct_M_goesOn l dC dI cI cB cJ cZ cQ H.size h0 a x4 (((s.1 19) (Int32.toNatClampNeg (((s.1 64) (Int32.toNatClampNeg x1)))))) s q_3 hc_4) hP hD rfl rfl wn_11_18 wn_11_20 sn_M_goesOn wn_1_13 wn_11_21 rfl rfl (by decide +kernel) ⟨Nat.le_of_ble_eq_true rfl, Nat.le_of_ble_eq_true rfl⟩ rfl hl.1 rfl (Nat.le_of_ble_eq_true rfl) dn_M_isNamed_168 ⟨Nat.le_of_ble_eq_true rfl, Nat.le_of_ble_eq_true rfl⟩) hP hD hS hA (fun r_5 _ H locs hw hP hD hS => ?_)
      have hw : r_5 = q_3.1 := hw
      subst hw
      refine lv_if_eq (tgt := 203) hx hb dn_M_isNamed_171 (by decide) (fun h => ?_) (fun h => ?_)
      · have hf := (if_pos h).symm.trans hf
        refine lv_iconst (v := 0) hx hb dn_M_isNamed_203 (by decide) ?_
        rw [hQQ, ← Option.some.inj hf]
        exact xk_zret (w1 := fun _ : Unit => (wM h0 a cI cB cJ cZ q_3.2)) () hx hb hr rfl hlocks hK hS dn_M_isNamed_204 hP hD rfl (Nat.le_refl _) (Nat.le_refl _)
      · have hf := (if_neg h).symm.trans hf
        refine lv_iload hx hb dn_M_isNamed_174 (lv_at hl 3 rfl) ?_
        refine lv_aload_n hx hb dn_M_isNamed_176 rfl (lv_at hl 1 rfl) ?_
        refine va_get (D := (dC, dI)) (ci := 0) (v := .ref ((a 6))) (C := rn_M) (T := fn_M) (N := 91) hx hb hg in_M hown hK hP 0 rfl rfl 6 (by decide) (hg _ wn_8_74) (fun _ h9 => h9) rfl dn_M_isNamed_177 ?_
        refine lv_iload hx hb dn_M_isNamed_180 (lv_at hl 0 rfl) ?_
        obtain ⟨hg_6, hf⟩ := dc_g hf
        refine va_iald hx hb hK hP 4 0 rfl rfl hg_6 dn_M_isNamed_182 ?_
        refine xk_ti (y := ((q_3.2.1 6) (Int32.toNatClampNeg (((s.1 19) (Int32.toNatClampNeg (((s.1 64) (Int32.toNatClampNeg x1))))))))) rfl ?_
        refine lv_iadd hx hb dn_M_isNamed_183 ?_
        refine lv_aload_n hx hb dn_M_isNamed_184 rfl (lv_at hl 1 rfl) ?_
        refine va_get (D := (dC, dI)) (ci := 0) (v := .ref ((a 5))) (C := rn_M) (T := fn_M) (N := 91) hx hb hg in_M hown hK hP 0 rfl rfl 5 (by decide) (hg _ wn_8_73) (fun _ h9 => h9) rfl dn_M_isNamed_185 ?_
        refine lv_iload hx hb dn_M_isNamed_188 (lv_at hl 0 rfl) ?_
        obtain ⟨hg_7, hf⟩ := dc_g hf
        refine va_iald hx hb hK hP 3 0 rfl rfl hg_7 dn_M_isNamed_190 ?_
        refine xk_ti (y := ((q_3.2.1 5) (Int32.toNatClampNeg (((s.1 19) (Int32.toNatClampNeg (((s.1 64) (Int32.toNatClampNeg x1))))))))) rfl ?_
        refine lv_isub hx hb dn_M_isNamed_191 ?_
        refine lv_aload_n hx hb dn_M_isNamed_192 rfl (lv_at hl 1 rfl) ?_
        refine va_get (D := (dC, dI)) (ci := 0) (v := .int ((q_3.2.1 88 0))) (C := rn_M) (T := fn_M) (N := 91) hx hb hg in_M hown hK hP 0 rfl rfl 88 (by decide) (hg _ wn_8_156) (fun _ h9 => h9) rfl dn_M_isNamed_193 ?_
        refine lv_icmp_ne (tgt := 203) hx hb dn_M_isNamed_196 (by decide) (fun h => ?_) (fun h => ?_)
        · have hf := (if_neg h).symm.trans hf
          refine lv_iconst (v := 0) hx hb dn_M_isNamed_203 (by decide) ?_
          rw [hQQ, ← Option.some.inj hf]
          exact xk_zret (w1 := fun _ : Unit => (wM h0 a cI cB cJ cZ q_3.2)) () hx hb hr rfl hlocks hK hS dn_M_isNamed_204 hP hD rfl (Nat.le_refl _) (Nat.le_refl _)
        · have hf := (if_pos h).symm.trans hf
          refine lv_iconst (v := 1) hx hb dn_M_isNamed_199 (by decide) ?_
          refine lv_goto (tgt := 204) hx hb dn_M_isNamed_200 (by decide) ?_
          rw [hQQ, ← Option.some.inj hf]
          exact xk_zret (w1 := fun _ : Unit => (wM h0 a cI cB cJ cZ q_3.2)) () hx hb hr rfl hlocks hK hS dn_M_isNamed_204 hP hD rfl (Nat.le_refl _) (Nat.le_refl _)
  have bl_133 : ∀ (k_49 : Int32 → Int32 → Int32 → Int32 → ms → Option (Int32 × ms)) (hk_49 : ∀ (x1 : Int32) (x4 : Int32) (x5 : Int32) (x6 : Int32) (s : ms), k_49 x1 x4 x5 x6 s = some y → dcC p l e ({ frames := 1, cells := 0, slots := 0, locals := 24 }) s0 m [.ref h0, .int x1].toArray below meth c QQ (dC, dI) A (wM h0 a cI cB cJ cZ s) 49 8 [(0, .ref h0), (1, .int x1), (4, .int x4), (5, .int x5), (6, .int x6)] []) (x1 : Int32) (x4 : Int32) (x6 : Int32) (s : ms), bk_M_isNamed_133 k_49 x1 x4 x6 s = some y → dcC p l e ({ frames := 1, cells := 0, slots := 0, locals := 24 }) s0 m [.ref h0, .int x1].toArray below meth c QQ (dC, dI) A (wM h0 a cI cB cJ cZ s) 133 8 [(0, .ref h0), (1, .int x1), (4, .int x4), (6, .int x6)] [] := by
    intro k_49 hk_49 x1 x4 x6 s hf H locs ls hP hD hS hl
    unfold bk_M_isNamed_133 at hf
    refine lv_iconst (v := 0) hx hb dn_M_isNamed_133 (by decide) ?_
    refine lv_istore (lv' := [(5, .int 0), (0, .ref h0), (1, .int x1), (4, .int x4), (6, .int x6)]) hx hb dn_M_isNamed_134 hl (by decide) rfl (fun ls hl => ?_)
    refine lv_iinc (v := (x4 + 1)) (lv' := [(4, .int ((x4 + 1))), (5, .int 0), (0, .ref h0), (1, .int x1), (6, .int x6)]) hx hb dn_M_isNamed_136 hl (k := 3) rfl (dc_inc (by decide)) (by decide) rfl (fun ls hl => ?_)
    refine lv_iinc (v := (x6 + (-1))) (lv' := [(6, .int ((x6 + (-1)))), (4, .int ((x4 + 1))), (5, .int 0), (0, .ref h0), (1, .int x1)]) hx hb dn_M_isNamed_139 hl (k := 4) rfl (dc_inc (by decide)) (by decide) rfl (fun ls hl => ?_)
    refine lv_goto (tgt := 49) hx hb dn_M_isNamed_142 (by decide) ?_
    exact hk_49 x1 ((x4 + 1)) 0 ((x6 + (-1))) s hf H locs ls hP hD hS (lv_sub hl [3, 4, 1, 2, 0] rfl)
  have hd_49 : ∀ (n : Nat) (x1 : Int32) (x4 : Int32) (x5 : Int32) (x6 : Int32) (s : ms), hd_M_isNamed_49 n x1 x4 x5 x6 s = some y → dcC p l e ({ frames := 1, cells := 0, slots := 0, locals := 24 }) s0 m [.ref h0, .int x1].toArray below meth c QQ (dC, dI) A (wM h0 a cI cB cJ cZ s) 49 8 [(0, .ref h0), (1, .int x1), (4, .int x4), (5, .int x5), (6, .int x6)] [] := by
    intro n
    induction n with
    | zero => intro x1 x4 x5 x6 s hf; cases hf
    | succ n ih =>
      intro x1 x4 x5 x6 s hf H locs ls hP hD hS hl
      have hf : bd_M_isNamed_49 (hd_M_isNamed_49 n) x1 x4 x5 x6 s = some y := hf
      have hk_49 := ih
      generalize hd_M_isNamed_49 n = k_49 at hf hk_49
      unfold bd_M_isNamed_49 at hf
      refine lv_iload hx hb dn_M_isNamed_49 (lv_at hl 4 rfl) ?_
      refine lv_if_lt (tgt := 145) hx hb dn_M_isNamed_51 (by decide) (fun h => ?_) (fun h => ?_)
      · have hf := (if_pos h).symm.trans hf
        exact bl_145 x1 x4 x5 s hf H locs ls hP hD hS (lv_sub hl [0, 1, 2, 3] rfl)
      · have hf := (if_neg h).symm.trans hf
        refine lv_iload hx hb dn_M_isNamed_54 (lv_at hl 3 rfl) ?_
        refine lv_if_eq (tgt := 145) hx hb dn_M_isNamed_56 (by decide) (fun h => ?_) (fun h => ?_)
        · have hf := (if_pos h).symm.trans hf
          exact bl_145 x1 x4 x5 s hf H locs ls hP hD hS (lv_sub hl [0, 1, 2, 3] rfl)
        · have hf := (if_neg h).symm.trans hf
          refine lv_aload_n hx hb dn_M_isNamed_59 rfl (lv_at hl 0 rfl) ?_
          refine va_get (D := (dC, dI)) (ci := 0) (v := .ref ((a 29))) (C := rn_M) (T := fn_M) (N := 91) hx hb hg in_M hown hK hP 0 rfl rfl 29 (by decide) (hg _ wn_8_97) (fun _ h9 => h9) rfl dn_M_isNamed_60 ?_
          refine lv_aload_n hx hb dn_M_isNamed_63 rfl (lv_at hl 0 rfl) ?_
          refine va_get (D := (dC, dI)) (ci := 0) (v := .ref ((a 74))) (C := rn_M) (T := fn_M) (N := 91) hx hb hg in_M hown hK hP 0 rfl rfl 74 (by decide) (hg _ wn_8_142) (fun _ h9 => h9) rfl dn_M_isNamed_64 ?_
          refine lv_iload hx hb dn_M_isNamed_67 (lv_at hl 4 rfl) ?_
          obtain ⟨hg_1, hf⟩ := dc_g hf
          refine va_iald hx hb hK hP 53 0 rfl rfl hg_1 dn_M_isNamed_69 ?_
          refine xk_ti (y := ((s.1 74) (Int32.toNatClampNeg x6))) rfl ?_
          obtain ⟨hg_2, hf⟩ := dc_g hf
          refine va_iald hx hb hK hP 19 0 rfl rfl hg_2 dn_M_isNamed_70 ?_
          refine xk_ti (y := ((s.1 29) (Int32.toNatClampNeg (((s.1 74) (Int32.toNatClampNeg x6)))))) rfl ?_
          refine lv_istore (lv' := [(7, .int (((s.1 29) (Int32.toNatClampNeg (((s.1 74) (Int32.toNatClampNeg x6))))))), (0, .ref h0), (1, .int x1), (4, .int x4), (5, .int x5), (6, .int x6)]) hx hb dn_M_isNamed_71 hl (by decide) rfl (fun ls hl => ?_)
          refine lv_aload_n hx hb dn_M_isNamed_73 rfl (lv_at hl 1 rfl) ?_
          refine lv_iload hx hb dn_M_isNamed_74 (lv_at hl 3 rfl) ?_
          refine lv_iload hx hb dn_M_isNamed_76 (lv_at hl 0 rfl) ?_
          obtain ⟨q_3, hc_4, hf⟩ := dc_b hf
          refine dc_calli (xk_runV (ar := 2) (As := [.int x4, .int (((s.1 29) (Int32.toNatClampNeg (((s.1 74) (Int32.toNatClampNeg x6))))))]) (rest := []) (ci := 0) (q0 := 0) ⟨hx, hb, hml, hown, hg⟩ hK hN (ct_M_goesOn l dC dI cI cB cJ cZ cQ H.size h0 a x4 (((s.1 29) (Int32.toNatClampNeg (((s.1 74) (Int32.toNatClampNeg x6)))))) s q_3 hc_4) hP hD rfl rfl wn_11_18 wn_11_20 sn_M_goesOn wn_1_13 wn_11_21 rfl rfl (by decide +kernel) ⟨Nat.le_of_ble_eq_true rfl, Nat.le_of_ble_eq_true rfl⟩ rfl hl.1 rfl (Nat.le_of_ble_eq_true rfl) dn_M_isNamed_78 ⟨Nat.le_of_ble_eq_true rfl, Nat.le_of_ble_eq_true rfl⟩) hP hD hS hA (fun r_5 _ H locs hw hP hD hS => ?_)
          have hw : r_5 = q_3.1 := hw
          subst hw
          refine lv_istore (lv' := [(5, .int q_3.1), (7, .int (((s.1 29) (Int32.toNatClampNeg (((s.1 74) (Int32.toNatClampNeg x6))))))), (0, .ref h0), (1, .int x1), (4, .int x4), (6, .int x6)]) hx hb dn_M_isNamed_81 hl (by decide) rfl (fun ls hl => ?_)
          refine lv_iload hx hb dn_M_isNamed_83 (lv_at hl 4 rfl) ?_
          refine lv_aload_n hx hb dn_M_isNamed_85 rfl (lv_at hl 2 rfl) ?_
          refine va_get (D := (dC, dI)) (ci := 0) (v := .ref ((a 6))) (C := rn_M) (T := fn_M) (N := 91) hx hb hg in_M hown hK hP 0 rfl rfl 6 (by decide) (hg _ wn_8_74) (fun _ h9 => h9) rfl dn_M_isNamed_86 ?_
          refine lv_iload hx hb dn_M_isNamed_89 (lv_at hl 1 rfl) ?_
          obtain ⟨hg_6, hf⟩ := dc_g hf
          refine va_iald hx hb hK hP 4 0 rfl rfl hg_6 dn_M_isNamed_91 ?_
          refine xk_ti (y := ((q_3.2.1 6) (Int32.toNatClampNeg (((s.1 29) (Int32.toNatClampNeg (((s.1 74) (Int32.toNatClampNeg x6))))))))) rfl ?_
          refine lv_iadd hx hb dn_M_isNamed_92 ?_
          refine lv_aload_n hx hb dn_M_isNamed_93 rfl (lv_at hl 2 rfl) ?_
          refine va_get (D := (dC, dI)) (ci := 0) (v := .ref ((a 5))) (C := rn_M) (T := fn_M) (N := 91) hx hb hg in_M hown hK hP 0 rfl rfl 5 (by decide) (hg _ wn_8_73) (fun _ h9 => h9) rfl dn_M_isNamed_94 ?_
          refine lv_iload hx hb dn_M_isNamed_97 (lv_at hl 1 rfl) ?_
          obtain ⟨hg_7, hf⟩ := dc_g hf
          refine va_iald hx hb hK hP 3 0 rfl rfl hg_7 dn_M_isNamed_99 ?_
          refine xk_ti (y := ((q_3.2.1 5) (Int32.toNatClampNeg (((s.1 29) (Int32.toNatClampNeg (((s.1 74) (Int32.toNatClampNeg x6))))))))) rfl ?_
          refine lv_isub hx hb dn_M_isNamed_100 ?_
          refine lv_istore (lv' := [(4, .int (((x4 + ((q_3.2.1 6) (Int32.toNatClampNeg (((s.1 29) (Int32.toNatClampNeg (((s.1 74) (Int32.toNatClampNeg x6))))))))) - ((q_3.2.1 5) (Int32.toNatClampNeg (((s.1 29) (Int32.toNatClampNeg (((s.1 74) (Int32.toNatClampNeg x6))))))))))), (5, .int q_3.1), (7, .int (((s.1 29) (Int32.toNatClampNeg (((s.1 74) (Int32.toNatClampNeg x6))))))), (0, .ref h0), (1, .int x1), (6, .int x6)]) hx hb dn_M_isNamed_101 hl (by decide) rfl (fun ls hl => ?_)
          refine lv_iload hx hb dn_M_isNamed_103 (lv_at hl 1 rfl) ?_
          refine lv_if_eq (tgt := 133) hx hb dn_M_isNamed_105 (by decide) (fun h => ?_) (fun h => ?_)
          · have hf := (if_pos h).symm.trans hf
            exact bl_133 k_49 hk_49 x1 (((x4 + ((q_3.2.1 6) (Int32.toNatClampNeg (((s.1 29) (Int32.toNatClampNeg (((s.1 74) (Int32.toNatClampNeg x6))))))))) - ((q_3.2.1 5) (Int32.toNatClampNeg (((s.1 29) (Int32.toNatClampNeg (((s.1 74) (Int32.toNatClampNeg x6)))))))))) x6 q_3.2 hf H locs ls hP hD hS (lv_sub hl [3, 4, 0, 5] rfl)
          · have hf := (if_neg h).symm.trans hf
            refine lv_iload hx hb dn_M_isNamed_108 (lv_at hl 0 rfl) ?_
            refine lv_aload_n hx hb dn_M_isNamed_110 rfl (lv_at hl 3 rfl) ?_
            refine va_get (D := (dC, dI)) (ci := 0) (v := .int ((q_3.2.1 88 0))) (C := rn_M) (T := fn_M) (N := 91) hx hb hg in_M hown hK hP 0 rfl rfl 88 (by decide) (hg _ wn_8_156) (fun _ h9 => h9) rfl dn_M_isNamed_111 ?_
            refine lv_icmp_ge (tgt := 133) hx hb dn_M_isNamed_114 (by decide) (fun h => ?_) (fun h => ?_)
            · have hf := (if_pos h).symm.trans hf
              exact bl_133 k_49 hk_49 x1 (((x4 + ((q_3.2.1 6) (Int32.toNatClampNeg (((s.1 29) (Int32.toNatClampNeg (((s.1 74) (Int32.toNatClampNeg x6))))))))) - ((q_3.2.1 5) (Int32.toNatClampNeg (((s.1 29) (Int32.toNatClampNeg (((s.1 74) (Int32.toNatClampNeg x6)))))))))) x6 q_3.2 hf H locs ls hP hD hS (lv_sub hl [3, 4, 0, 5] rfl)
            · have hf := (if_neg h).symm.trans hf
              refine lv_aload_n hx hb dn_M_isNamed_117 rfl (lv_at hl 3 rfl) ?_
              refine va_get (D := (dC, dI)) (ci := 0) (v := .ref ((a 1))) (C := rn_M) (T := fn_M) (N := 91) hx hb hg in_M hown hK hP 0 rfl rfl 1 (by decide) (hg _ wn_8_69) (fun _ h9 => h9) rfl dn_M_isNamed_118 ?_
              refine lv_iload hx hb dn_M_isNamed_121 (lv_at hl 0 rfl) ?_
              obtain ⟨hg_8, hf⟩ := dc_g hf
              refine va_bald hx hb hK hP 1 1 rfl rfl hg_8 dn_M_isNamed_123 ?_
              refine xk_ti (y := ((q_3.2.1 1) (Int32.toNatClampNeg (((x4 + ((q_3.2.1 6) (Int32.toNatClampNeg (((s.1 29) (Int32.toNatClampNeg (((s.1 74) (Int32.toNatClampNeg x6))))))))) - ((q_3.2.1 5) (Int32.toNatClampNeg (((s.1 29) (Int32.toNatClampNeg (((s.1 74) (Int32.toNatClampNeg x6))))))))))))) rfl ?_
              refine lv_bipush (v := 46) hx hb dn_M_isNamed_124 (by decide) ?_
              refine lv_icmp_ne (tgt := 133) hx hb dn_M_isNamed_126 (by decide) (fun h => ?_) (fun h => ?_)
              · have hf := (if_neg h).symm.trans hf
                exact bl_133 k_49 hk_49 x1 (((x4 + ((q_3.2.1 6) (Int32.toNatClampNeg (((s.1 29) (Int32.toNatClampNeg (((s.1 74) (Int32.toNatClampNeg x6))))))))) - ((q_3.2.1 5) (Int32.toNatClampNeg (((s.1 29) (Int32.toNatClampNeg (((s.1 74) (Int32.toNatClampNeg x6)))))))))) x6 q_3.2 hf H locs ls hP hD hS (lv_sub hl [3, 4, 0, 5] rfl)
              · have hf := (if_pos h).symm.trans hf
                refine lv_iconst (v := 1) hx hb dn_M_isNamed_129 (by decide) ?_
                refine lv_goto (tgt := 134) hx hb dn_M_isNamed_130 (by decide) ?_
                refine lv_istore (lv' := [(5, .int 1), (4, .int (((x4 + ((q_3.2.1 6) (Int32.toNatClampNeg (((s.1 29) (Int32.toNatClampNeg (((s.1 74) (Int32.toNatClampNeg x6))))))))) - ((q_3.2.1 5) (Int32.toNatClampNeg (((s.1 29) (Int32.toNatClampNeg (((s.1 74) (Int32.toNatClampNeg x6))))))))))), (7, .int (((s.1 29) (Int32.toNatClampNeg (((s.1 74) (Int32.toNatClampNeg x6))))))), (0, .ref h0), (1, .int x1), (6, .int x6)]) hx hb dn_M_isNamed_134 hl (by decide) rfl (fun ls hl => ?_)
                refine lv_iinc (v := (((x4 + ((q_3.2.1 6) (Int32.toNatClampNeg (((s.1 29) (Int32.toNatClampNeg (((s.1 74) (Int32.toNatClampNeg x6))))))))) - ((q_3.2.1 5) (Int32.toNatClampNeg (((s.1 29) (Int32.toNatClampNeg (((s.1 74) (Int32.toNatClampNeg x6))))))))) + 1)) (lv' := [(4, .int ((((x4 + ((q_3.2.1 6) (Int32.toNatClampNeg (((s.1 29) (Int32.toNatClampNeg (((s.1 74) (Int32.toNatClampNeg x6))))))))) - ((q_3.2.1 5) (Int32.toNatClampNeg (((s.1 29) (Int32.toNatClampNeg (((s.1 74) (Int32.toNatClampNeg x6))))))))) + 1))), (5, .int 1), (7, .int (((s.1 29) (Int32.toNatClampNeg (((s.1 74) (Int32.toNatClampNeg x6))))))), (0, .ref h0), (1, .int x1), (6, .int x6)]) hx hb dn_M_isNamed_136 hl (k := 1) rfl (dc_inc (by decide)) (by decide) rfl (fun ls hl => ?_)
                refine lv_iinc (v := (x6 + (-1))) (lv' := [(6, .int ((x6 + (-1)))), (4, .int ((((x4 + ((q_3.2.1 6) (Int32.toNatClampNeg (((s.1 29) (Int32.toNatClampNeg (((s.1 74) (Int32.toNatClampNeg x6))))))))) - ((q_3.2.1 5) (Int32.toNatClampNeg (((s.1 29) (Int32.toNatClampNeg (((s.1 74) (Int32.toNatClampNeg x6))))))))) + 1))), (5, .int 1), (7, .int (((s.1 29) (Int32.toNatClampNeg (((s.1 74) (Int32.toNatClampNeg x6))))))), (0, .ref h0), (1, .int x1)]) hx hb dn_M_isNamed_139 hl (k := 5) rfl (dc_inc (by decide)) (by decide) rfl (fun ls hl => ?_)
                refine lv_goto (tgt := 49) hx hb dn_M_isNamed_142 (by decide) ?_
                exact hk_49 x1 ((((x4 + ((q_3.2.1 6) (Int32.toNatClampNeg (((s.1 29) (Int32.toNatClampNeg (((s.1 74) (Int32.toNatClampNeg x6))))))))) - ((q_3.2.1 5) (Int32.toNatClampNeg (((s.1 29) (Int32.toNatClampNeg (((s.1 74) (Int32.toNatClampNeg x6))))))))) + 1)) 1 ((x6 + (-1))) q_3.2 hf H locs ls hP hD hS (lv_sub hl [4, 5, 1, 2, 0] rfl)
  have hd_9 : ∀ (n : Nat) (x1 : Int32) (x2 : Int32) (x3 : Int32) (s : ms), hd_M_isNamed_9 n x1 x2 x3 s = some y → dcC p l e ({ frames := 1, cells := 0, slots := 0, locals := 24 }) s0 m [.ref h0, .int x1].toArray below meth c QQ (dC, dI) A (wM h0 a cI cB cJ cZ s) 9 8 [(0, .ref h0), (1, .int x1), (2, .int x2), (3, .int x3)] [] := by
    intro n
    induction n with
    | zero => intro x1 x2 x3 s hf; cases hf
    | succ n ih =>
      intro x1 x2 x3 s hf H locs ls hP hD hS hl
      have hf : bd_M_isNamed_9 (hd_M_isNamed_9 n) x1 x2 x3 s = some y := hf
      have hk_9 := ih
      generalize hd_M_isNamed_9 n = k_9 at hf hk_9
      unfold bd_M_isNamed_9 at hf
      refine lv_iload_n hx hb dn_M_isNamed_9 rfl (lv_at hl 3 rfl) ?_
      refine lv_if_le (tgt := 38) hx hb dn_M_isNamed_10 (by decide) (fun h => ?_) (fun h => ?_)
      · have hf := (if_pos h).symm.trans hf
        refine lv_iconst (v := 0) hx hb dn_M_isNamed_38 (by decide) ?_
        refine lv_istore (lv' := [(4, .int 0), (0, .ref h0), (1, .int x1), (2, .int x2), (3, .int x3)]) hx hb dn_M_isNamed_39 hl (by decide) rfl (fun ls hl => ?_)
        refine lv_iconst (v := 1) hx hb dn_M_isNamed_41 (by decide) ?_
        refine lv_istore (lv' := [(5, .int 1), (4, .int 0), (0, .ref h0), (1, .int x1), (2, .int x2), (3, .int x3)]) hx hb dn_M_isNamed_42 hl (by decide) rfl (fun ls hl => ?_)
        refine lv_iload_n hx hb dn_M_isNamed_44 rfl (lv_at hl 4 rfl) ?_
        refine lv_iconst (v := 1) hx hb dn_M_isNamed_45 (by decide) ?_
        refine lv_isub hx hb dn_M_isNamed_46 ?_
        refine lv_istore (lv' := [(6, .int ((x2 - 1))), (5, .int 1), (4, .int 0), (0, .ref h0), (1, .int x1), (2, .int x2), (3, .int x3)]) hx hb dn_M_isNamed_47 hl (by decide) rfl (fun ls hl => ?_)
        exact hd_49 dc_N x1 0 1 ((x2 - 1)) s hf H locs ls hP hD hS (lv_sub hl [3, 4, 2, 1, 0] rfl)
      · have hf := (if_neg h).symm.trans hf
        refine lv_aload_n hx hb dn_M_isNamed_13 rfl (lv_at hl 0 rfl) ?_
        refine va_get (D := (dC, dI)) (ci := 0) (v := .ref ((a 74))) (C := rn_M) (T := fn_M) (N := 91) hx hb hg in_M hown hK hP 0 rfl rfl 74 (by decide) (hg _ wn_8_142) (fun _ h9 => h9) rfl dn_M_isNamed_14 ?_
        refine lv_iload_n hx hb dn_M_isNamed_17 rfl (lv_at hl 2 rfl) ?_
        refine lv_aload_n hx hb dn_M_isNamed_18 rfl (lv_at hl 0 rfl) ?_
        refine va_get (D := (dC, dI)) (ci := 0) (v := .ref ((a 60))) (C := rn_M) (T := fn_M) (N := 91) hx hb hg in_M hown hK hP 0 rfl rfl 60 (by decide) (hg _ wn_8_128) (fun _ h9 => h9) rfl dn_M_isNamed_19 ?_
        refine lv_iload_n hx hb dn_M_isNamed_22 rfl (lv_at hl 3 rfl) ?_
        obtain ⟨hg_1, hf⟩ := dc_g hf
        refine va_iald hx hb hK hP 41 0 rfl rfl hg_1 dn_M_isNamed_23 ?_
        refine xk_ti (y := ((s.1 60) (Int32.toNatClampNeg x3))) rfl ?_
        obtain ⟨hg_2, hf⟩ := dc_g hf
        refine va_iast hx hb hK hP hD hS 53 0 rfl rfl hg_2 dn_M_isNamed_24 (fun H locs hP hD hS => ?_)
        have hP : va_P (dC, dI) xcl (wM h0 a cI cB cJ cZ (upI s 74 (upd (s.1 74) (Int32.toNatClampNeg x2) (((s.1 60) (Int32.toNatClampNeg x3)))))) H := hP
        have hD : va_D A (wM h0 a cI cB cJ cZ (upI s 74 (upd (s.1 74) (Int32.toNatClampNeg x2) (((s.1 60) (Int32.toNatClampNeg x3)))))) := hD
        refine lv_iinc (v := (x2 + 1)) (lv' := [(2, .int ((x2 + 1))), (0, .ref h0), (1, .int x1), (3, .int x3)]) hx hb dn_M_isNamed_25 hl (k := 2) rfl (dc_inc (by decide)) (by decide) rfl (fun ls hl => ?_)
        refine lv_aload_n hx hb dn_M_isNamed_28 rfl (lv_at hl 1 rfl) ?_
        refine va_get (D := (dC, dI)) (ci := 0) (v := .ref ((a 59))) (C := rn_M) (T := fn_M) (N := 91) hx hb hg in_M hown hK hP 0 rfl rfl 59 (by decide) (hg _ wn_8_127) (fun _ h9 => h9) rfl dn_M_isNamed_29 ?_
        refine lv_iload_n hx hb dn_M_isNamed_32 rfl (lv_at hl 3 rfl) ?_
        obtain ⟨hg_3, hf⟩ := dc_g hf
        refine va_iald hx hb hK hP 40 0 rfl rfl hg_3 dn_M_isNamed_33 ?_
        refine xk_ti (y := ((s.1 59) (Int32.toNatClampNeg x3))) rfl ?_
        refine lv_istore_n (lv' := [(3, .int (((s.1 59) (Int32.toNatClampNeg x3)))), (2, .int ((x2 + 1))), (0, .ref h0), (1, .int x1)]) hx hb dn_M_isNamed_34 rfl hl (by decide) rfl (fun ls hl => ?_)
        refine lv_goto (tgt := 9) hx hb dn_M_isNamed_35 (by decide) ?_
        exact hk_9 x1 ((x2 + 1)) (((s.1 59) (Int32.toNatClampNeg x3))) (upI s 74 (upd (s.1 74) (Int32.toNatClampNeg x2) (((s.1 60) (Int32.toNatClampNeg x3))))) hf H locs ls hP hD hS (lv_sub hl [2, 3, 1, 0] rfl)
  intro H locs ls hP hD hS hl
  unfold fn_M_isNamed at hf
  refine lv_iconst (v := 0) hx hb dn_M_isNamed_0 (by decide) ?_
  refine lv_istore_n (lv' := [(2, .int 0), (0, .ref h0), (1, .int x1)]) hx hb dn_M_isNamed_1 rfl hl (by decide) rfl (fun ls hl => ?_)
  refine lv_aload_n hx hb dn_M_isNamed_2 rfl (lv_at hl 1 rfl) ?_
  refine va_get (D := (dC, dI)) (ci := 0) (v := .ref ((a 65))) (C := rn_M) (T := fn_M) (N := 91) hx hb hg in_M hown hK hP 0 rfl rfl 65 (by decide) (hg _ wn_8_133) (fun _ h9 => h9) rfl dn_M_isNamed_3 ?_
  refine lv_iload_n hx hb dn_M_isNamed_6 rfl (lv_at hl 2 rfl) ?_
  obtain ⟨hg_1, hf⟩ := dc_g hf
  refine va_iald hx hb hK hP 45 0 rfl rfl hg_1 dn_M_isNamed_7 ?_
  refine xk_ti (y := ((s.1 65) (Int32.toNatClampNeg x1))) rfl ?_
  refine lv_istore_n (lv' := [(3, .int (((s.1 65) (Int32.toNatClampNeg x1)))), (2, .int 0), (0, .ref h0), (1, .int x1)]) hx hb dn_M_isNamed_8 rfl hl (by decide) rfl (fun ls hl => ?_)
  exact hd_9 dc_N x1 0 (((s.1 65) (Int32.toNatClampNeg x1))) s hf H locs ls hP hD hS (lv_sub hl [2, 3, 1, 0] rfl)
def bd_M_find_29 (k_29 : Int32 → Int32 → ms → Option (Int32 × ms)) (x1 : Int32) (x2 : Int32) (s : ms) : Option (Int32 × ms) :=
  if (s.1 63 0) ≤ x2 then (some (x1, upI s 88 (fun _ => 0))) else (if 0 ≤ x1 then (k_29 x1 ((x2 + 1)) s) else ((fn_M_isNamed x2 s).bind (fun q_1 => if q_1.1 = 0 then (k_29 x1 ((x2 + 1)) q_1.2) else (k_29 x2 ((x2 + 1)) q_1.2))))
def hd_M_find_29 : Nat → Int32 → Int32 → ms → Option (Int32 × ms)
  | 0, _, _, _ => none
  | n + 1, x1, x2, s => bd_M_find_29 (hd_M_find_29 n) x1 x2 s
def bk_M_find_13 (t0 : Int32) (s : ms) : Option (Int32 × ms) :=
  if t0 ≤ 0 then (hd_M_find_29 dc_N ((-1)) 0 (upI s 0 (fun _ => t0))) else (some (0, upI s 0 (fun _ => t0)))
def fn_M_find (s : ms) : Option (Int32 × ms) :=
  if (s.1 54 0) = 0 then (bk_M_find_13 1 s) else (bk_M_find_13 0 s)
set_option maxHeartbeats 8000000 in
set_option maxRecDepth 100000 in
theorem ct_M_find (l : Launch) (dC : Nat → ClassId) (dI : Nat → Nat → Nat) (cI cB cJ cZ cQ : ClassId) (sz : Nat) (h0 : Nat) (a : Nat → Nat) (s : ms) (y : (Int32 × ms)) (hf : fn_M_find s = some y) : Met l yn_M_find (xw yn_M_find bn_M_find 3 (some .int)) ({ frames := 2, cells := 0, slots := 0, locals := 51 }) (xk_P (dC, dI) xcl (xt cI cB cJ cZ cQ) [.ref h0] sz (wM h0 a cI cB cJ cZ s)) (xk_Qi (dC, dI) xcl (xt cI cB cJ cZ cQ) (fun (r : Int32) (_ : Unit) => r = y.1) (fun _ : Unit => (wM h0 a cI cB cJ cZ y.2)) (va_A (wM h0 a cI cB cJ cZ s) sz)) 0 0 (va_A (wM h0 a cI cB cJ cZ s) sz) := by
  refine xk_of (QA := xk_Qi (dC, dI) xcl (xt cI cB cJ cZ cQ) (fun (r : Int32) (_ : Unit) => r = y.1) (fun _ : Unit => (wM h0 a cI cB cJ cZ y.2))) (by decide) (Nat.le_of_ble_eq_true rfl) ?_
  intro p e s0 m below meth c hx hb hml hown hg hr hlocks hin hP hK hN A hA hD hS ls hl
  have hown : s0.vm.findClass rn_M = some m.cls := hown
  obtain ⟨H, hH⟩ : ∃ z, z = s0.heap := ⟨_, rfl⟩
  rw [← hH] at hP
  have hS : va_S A s0.heap H [] := by rw [hH]; exact va_S.rf
  suffices kk : ∀ QQ : State → Prop, QQ = MQ below (xk_Qi (dC, dI) xcl (xt cI cB cJ cZ cQ) (fun (r : Int32) (_ : Unit) => r = y.1) (fun _ : Unit => (wM h0 a cI cB cJ cZ y.2)) A) [.ref h0].toArray s0 0 0 A → dcC p l e ({ frames := 2, cells := 0, slots := 0, locals := 51 }) s0 m [.ref h0].toArray below meth c QQ (dC, dI) A (wM h0 a cI cB cJ cZ s) 0 3 [(0, .ref h0)] [] by
    have k9 := kk _ rfl H [] ls hP hD hS hl
    rw [hH] at k9; exact k9
  clear hP hD hS hl hH H ls
  intro QQ hQQ
  have hd_29 : ∀ (n : Nat) (x1 : Int32) (x2 : Int32) (s : ms), hd_M_find_29 n x1 x2 s = some y → dcC p l e ({ frames := 2, cells := 0, slots := 0, locals := 51 }) s0 m [.ref h0].toArray below meth c QQ (dC, dI) A (wM h0 a cI cB cJ cZ s) 29 3 [(0, .ref h0), (1, .int x1), (2, .int x2)] [] := by
    intro n
    induction n with
    | zero => intro x1 x2 s hf; cases hf
    | succ n ih =>
      intro x1 x2 s hf H locs ls hP hD hS hl
      have hf : bd_M_find_29 (hd_M_find_29 n) x1 x2 s = some y := hf
      have hk_29 := ih
      generalize hd_M_find_29 n = k_29 at hf hk_29
      unfold bd_M_find_29 at hf
      refine lv_iload_n hx hb dn_M_find_29 rfl (lv_at hl 2 rfl) ?_
      refine lv_aload_n hx hb dn_M_find_30 rfl (lv_at hl 0 rfl) ?_
      refine va_get (D := (dC, dI)) (ci := 0) (v := .int ((s.1 63 0))) (C := rn_M) (T := fn_M) (N := 91) hx hb hg in_M hown hK hP 0 rfl rfl 63 (by decide) (hg _ wn_8_131) (fun _ h9 => h9) rfl dn_M_find_31 ?_
      refine lv_icmp_ge (tgt := 61) hx hb dn_M_find_34 (by decide) (fun h => ?_) (fun h => ?_)
      · have hf := (if_pos h).symm.trans hf
        refine lv_aload_n hx hb dn_M_find_61 rfl (lv_at hl 0 rfl) ?_
        refine lv_iconst (v := 0) hx hb dn_M_find_62 (by decide) ?_
        refine va_put (D := (dC, dI)) (ci := 0) (v := .int 0) (ty := .int) (C := rn_M) (T := fn_M) (N := 91) hx hb hg in_M tn_M tk_M nn_M hown hK hP hD hS 0 rfl rfl 88 (by decide) (hg _ wn_8_156) (fun _ h9 => h9) rfl (tk_M 88 (by decide)) rfl rfl (Nat.le_of_ble_eq_true rfl) dn_M_find_63 (fun H locs hP hD hS => ?_)
        have hP : va_P (dC, dI) xcl (wM h0 a cI cB cJ cZ (upI s 88 (fun _ => 0))) H := hP
        have hD : va_D A (wM h0 a cI cB cJ cZ (upI s 88 (fun _ => 0))) := hD
        refine lv_iload_n hx hb dn_M_find_66 rfl (lv_at hl 1 rfl) ?_
        rw [hQQ, ← Option.some.inj hf]
        exact xk_iret (w1 := fun _ : Unit => (wM h0 a cI cB cJ cZ (upI s 88 (fun _ => 0)))) () hx hb hr hlocks hK hS dn_M_find_67 hP hD rfl (Nat.le_refl _) (Nat.le_refl _)
      · have hf := (if_neg h).symm.trans hf
        refine lv_iload_n hx hb dn_M_find_37 rfl (lv_at hl 1 rfl) ?_
        refine lv_if_ge (tgt := 53) hx hb dn_M_find_38 (by decide) (fun h => ?_) (fun h => ?_)
        · have hf := (if_pos h).symm.trans hf
          refine lv_iload_n hx hb dn_M_find_53 rfl (lv_at hl 1 rfl) ?_
          refine lv_istore_n (lv' := [(1, .int x1), (0, .ref h0), (2, .int x2)]) hx hb dn_M_find_54 rfl hl (by decide) rfl (fun ls hl => ?_)
          refine lv_iinc (v := (x2 + 1)) (lv' := [(2, .int ((x2 + 1))), (1, .int x1), (0, .ref h0)]) hx hb dn_M_find_55 hl (k := 2) rfl (dc_inc (by decide)) (by decide) rfl (fun ls hl => ?_)
          refine lv_goto (tgt := 29) hx hb dn_M_find_58 (by decide) ?_
          exact hk_29 x1 ((x2 + 1)) s hf H locs ls hP hD hS (lv_sub hl [2, 1, 0] rfl)
        · have hf := (if_neg h).symm.trans hf
          refine lv_aload_n hx hb dn_M_find_41 rfl (lv_at hl 0 rfl) ?_
          refine lv_iload_n hx hb dn_M_find_42 rfl (lv_at hl 2 rfl) ?_
          obtain ⟨q_1, hc_2, hf⟩ := dc_b hf
          refine dc_calli (xk_runV (ar := 1) (As := [.int x2]) (rest := []) (ci := 0) (q0 := 0) ⟨hx, hb, hml, hown, hg⟩ hK hN (ct_M_isNamed l dC dI cI cB cJ cZ cQ H.size h0 a x2 s q_1 hc_2) hP hD rfl rfl wn_11_14 wn_11_16 sn_M_isNamed wn_1_13 wn_11_17 rfl rfl (by decide +kernel) ⟨Nat.le_of_ble_eq_true rfl, Nat.le_of_ble_eq_true rfl⟩ rfl hl.1 rfl (Nat.le_of_ble_eq_true rfl) dn_M_find_43 ⟨Nat.le_of_ble_eq_true rfl, Nat.le_of_ble_eq_true rfl⟩) hP hD hS hA (fun r_3 _ H locs hw hP hD hS => ?_)
          have hw : r_3 = q_1.1 := hw
          subst hw
          refine lv_if_eq (tgt := 53) hx hb dn_M_find_46 (by decide) (fun h => ?_) (fun h => ?_)
          · have hf := (if_pos h).symm.trans hf
            refine lv_iload_n hx hb dn_M_find_53 rfl (lv_at hl 1 rfl) ?_
            refine lv_istore_n (lv' := [(1, .int x1), (0, .ref h0), (2, .int x2)]) hx hb dn_M_find_54 rfl hl (by decide) rfl (fun ls hl => ?_)
            refine lv_iinc (v := (x2 + 1)) (lv' := [(2, .int ((x2 + 1))), (1, .int x1), (0, .ref h0)]) hx hb dn_M_find_55 hl (k := 2) rfl (dc_inc (by decide)) (by decide) rfl (fun ls hl => ?_)
            refine lv_goto (tgt := 29) hx hb dn_M_find_58 (by decide) ?_
            exact hk_29 x1 ((x2 + 1)) q_1.2 hf H locs ls hP hD hS (lv_sub hl [2, 1, 0] rfl)
          · have hf := (if_neg h).symm.trans hf
            refine lv_iload_n hx hb dn_M_find_49 rfl (lv_at hl 2 rfl) ?_
            refine lv_goto (tgt := 54) hx hb dn_M_find_50 (by decide) ?_
            refine lv_istore_n (lv' := [(1, .int x2), (0, .ref h0), (2, .int x2)]) hx hb dn_M_find_54 rfl hl (by decide) rfl (fun ls hl => ?_)
            refine lv_iinc (v := (x2 + 1)) (lv' := [(2, .int ((x2 + 1))), (1, .int x2), (0, .ref h0)]) hx hb dn_M_find_55 hl (k := 2) rfl (dc_inc (by decide)) (by decide) rfl (fun ls hl => ?_)
            refine lv_goto (tgt := 29) hx hb dn_M_find_58 (by decide) ?_
            exact hk_29 x2 ((x2 + 1)) q_1.2 hf H locs ls hP hD hS (lv_sub hl [2, 1, 0] rfl)
  have bl_13 : ∀ (t0 : Int32) (s : ms), bk_M_find_13 t0 s = some y → dcC p l e ({ frames := 2, cells := 0, slots := 0, locals := 51 }) s0 m [.ref h0].toArray below meth c QQ (dC, dI) A (wM h0 a cI cB cJ cZ s) 13 3 [(0, .ref h0)] [.int t0, .ref h0] := by
    intro t0 s hf H locs ls hP hD hS hl
    unfold bk_M_find_13 at hf
    refine va_put (D := (dC, dI)) (ci := 0) (v := .int t0) (ty := .int) (C := rn_M) (T := fn_M) (N := 91) hx hb hg in_M tn_M tk_M nn_M hown hK hP hD hS 0 rfl rfl 0 (by decide) (hg _ wn_8_68) (fun _ h9 => h9) rfl (tk_M 0 (by decide)) rfl rfl (Nat.le_of_ble_eq_true rfl) dn_M_find_13 (fun H locs hP hD hS => ?_)
    have hP : va_P (dC, dI) xcl (wM h0 a cI cB cJ cZ (upI s 0 (fun _ => t0))) H := hP
    have hD : va_D A (wM h0 a cI cB cJ cZ (upI s 0 (fun _ => t0))) := hD
    refine lv_aload_n hx hb dn_M_find_16 rfl (lv_at hl 0 rfl) ?_
    refine va_get (D := (dC, dI)) (ci := 0) (v := .int t0) (C := rn_M) (T := fn_M) (N := 91) hx hb hg in_M hown hK hP 0 rfl rfl 0 (by decide) (hg _ wn_8_68) (fun _ h9 => h9) rfl dn_M_find_17 ?_
    refine lv_if_le (tgt := 25) hx hb dn_M_find_20 (by decide) (fun h => ?_) (fun h => ?_)
    · have hf := (if_pos h).symm.trans hf
      refine lv_iconst (v := (-1)) hx hb dn_M_find_25 (by decide) ?_
      refine lv_istore_n (lv' := [(1, .int ((-1))), (0, .ref h0)]) hx hb dn_M_find_26 rfl hl (by decide) rfl (fun ls hl => ?_)
      refine lv_iconst (v := 0) hx hb dn_M_find_27 (by decide) ?_
      refine lv_istore_n (lv' := [(2, .int 0), (1, .int ((-1))), (0, .ref h0)]) hx hb dn_M_find_28 rfl hl (by decide) rfl (fun ls hl => ?_)
      exact hd_29 dc_N ((-1)) 0 (upI s 0 (fun _ => t0)) hf H locs ls hP hD hS (lv_sub hl [2, 1, 0] rfl)
    · have hf := (if_neg h).symm.trans hf
      refine lv_iconst (v := 0) hx hb dn_M_find_23 (by decide) ?_
      rw [hQQ, ← Option.some.inj hf]
      exact xk_iret (w1 := fun _ : Unit => (wM h0 a cI cB cJ cZ (upI s 0 (fun _ => t0)))) () hx hb hr hlocks hK hS dn_M_find_24 hP hD rfl (Nat.le_refl _) (Nat.le_refl _)
  intro H locs ls hP hD hS hl
  unfold fn_M_find at hf
  refine lv_aload_n hx hb dn_M_find_0 rfl (lv_at hl 0 rfl) ?_
  refine lv_aload_n hx hb dn_M_find_1 rfl (lv_at hl 0 rfl) ?_
  refine va_get (D := (dC, dI)) (ci := 0) (v := .int ((s.1 54 0))) (C := rn_M) (T := fn_M) (N := 91) hx hb hg in_M hown hK hP 0 rfl rfl 54 (by decide) (hg _ wn_8_122) (fun _ h9 => h9) rfl dn_M_find_2 ?_
  refine lv_if_eq (tgt := 12) hx hb dn_M_find_5 (by decide) (fun h => ?_) (fun h => ?_)
  · have hf := (if_pos h).symm.trans hf
    refine lv_iconst (v := 1) hx hb dn_M_find_12 (by decide) ?_
    exact bl_13 1 s hf H locs ls hP hD hS hl
  · have hf := (if_neg h).symm.trans hf
    refine lv_iconst (v := 0) hx hb dn_M_find_8 (by decide) ?_
    refine lv_goto (tgt := 13) hx hb dn_M_find_9 (by decide) ?_
    exact bl_13 0 s hf H locs ls hP hD hS hl
def fn_M_isSignal (x1 : Int32) (s : ms) : Option (Int32 × ms) :=
  if x1 < 0 then (some (0, s)) else (if (s.1 63 0) ≤ x1 then (some (0, s)) else (some (1, s)))
set_option maxHeartbeats 8000000 in
set_option maxRecDepth 100000 in
theorem ct_M_isSignal (l : Launch) (dC : Nat → ClassId) (dI : Nat → Nat → Nat) (cI cB cJ cZ cQ : ClassId) (sz : Nat) (h0 : Nat) (a : Nat → Nat) (x1 : Int32) (s : ms) (y : (Int32 × ms)) (hf : fn_M_isSignal x1 s = some y) : Met l yn_M_isSignal (xw yn_M_isSignal bn_M_isSignal 2 (some .boolean)) ({ frames := 0, cells := 0, slots := 0, locals := 0 }) (xk_P (dC, dI) xcl (xt cI cB cJ cZ cQ) [.ref h0, .int x1] sz (wM h0 a cI cB cJ cZ s)) (xk_Qi (dC, dI) xcl (xt cI cB cJ cZ cQ) (fun (r : Int32) (_ : Unit) => r = y.1) (fun _ : Unit => (wM h0 a cI cB cJ cZ y.2)) (va_A (wM h0 a cI cB cJ cZ s) sz)) 0 0 (va_A (wM h0 a cI cB cJ cZ s) sz) := by
  refine xk_of (QA := xk_Qi (dC, dI) xcl (xt cI cB cJ cZ cQ) (fun (r : Int32) (_ : Unit) => r = y.1) (fun _ : Unit => (wM h0 a cI cB cJ cZ y.2))) (by decide) (Nat.le_of_ble_eq_true rfl) ?_
  intro p e s0 m below meth c hx hb hml hown hg hr hlocks hin hP hK hN A hA hD hS ls hl
  have hown : s0.vm.findClass rn_M = some m.cls := hown
  obtain ⟨H, hH⟩ : ∃ z, z = s0.heap := ⟨_, rfl⟩
  rw [← hH] at hP
  have hS : va_S A s0.heap H [] := by rw [hH]; exact va_S.rf
  suffices kk : ∀ QQ : State → Prop, QQ = MQ below (xk_Qi (dC, dI) xcl (xt cI cB cJ cZ cQ) (fun (r : Int32) (_ : Unit) => r = y.1) (fun _ : Unit => (wM h0 a cI cB cJ cZ y.2)) A) [.ref h0, .int x1].toArray s0 0 0 A → dcC p l e ({ frames := 0, cells := 0, slots := 0, locals := 0 }) s0 m [.ref h0, .int x1].toArray below meth c QQ (dC, dI) A (wM h0 a cI cB cJ cZ s) 0 2 [(0, .ref h0), (1, .int x1)] [] by
    have k9 := kk _ rfl H [] ls hP hD hS hl
    rw [hH] at k9; exact k9
  clear hP hD hS hl hH H ls
  intro QQ hQQ
  intro H locs ls hP hD hS hl
  unfold fn_M_isSignal at hf
  refine lv_iload_n hx hb dn_M_isSignal_0 rfl (lv_at hl 1 rfl) ?_
  refine lv_if_lt (tgt := 16) hx hb dn_M_isSignal_1 (by decide) (fun h => ?_) (fun h => ?_)
  · have hf := (if_pos h).symm.trans hf
    refine lv_iconst (v := 0) hx hb dn_M_isSignal_16 (by decide) ?_
    rw [hQQ, ← Option.some.inj hf]
    exact xk_zret (w1 := fun _ : Unit => (wM h0 a cI cB cJ cZ s)) () hx hb hr rfl hlocks hK hS dn_M_isSignal_17 hP hD rfl (Nat.le_refl _) (Nat.le_refl _)
  · have hf := (if_neg h).symm.trans hf
    refine lv_iload_n hx hb dn_M_isSignal_4 rfl (lv_at hl 1 rfl) ?_
    refine lv_aload_n hx hb dn_M_isSignal_5 rfl (lv_at hl 0 rfl) ?_
    refine va_get (D := (dC, dI)) (ci := 0) (v := .int ((s.1 63 0))) (C := rn_M) (T := fn_M) (N := 91) hx hb hg in_M hown hK hP 0 rfl rfl 63 (by decide) (hg _ wn_8_131) (fun _ h9 => h9) rfl dn_M_isSignal_6 ?_
    refine lv_icmp_ge (tgt := 16) hx hb dn_M_isSignal_9 (by decide) (fun h => ?_) (fun h => ?_)
    · have hf := (if_pos h).symm.trans hf
      refine lv_iconst (v := 0) hx hb dn_M_isSignal_16 (by decide) ?_
      rw [hQQ, ← Option.some.inj hf]
      exact xk_zret (w1 := fun _ : Unit => (wM h0 a cI cB cJ cZ s)) () hx hb hr rfl hlocks hK hS dn_M_isSignal_17 hP hD rfl (Nat.le_refl _) (Nat.le_refl _)
    · have hf := (if_neg h).symm.trans hf
      refine lv_iconst (v := 1) hx hb dn_M_isSignal_12 (by decide) ?_
      refine lv_goto (tgt := 17) hx hb dn_M_isSignal_13 (by decide) ?_
      rw [hQQ, ← Option.some.inj hf]
      exact xk_zret (w1 := fun _ : Unit => (wM h0 a cI cB cJ cZ s)) () hx hb hr rfl hlocks hK hS dn_M_isSignal_17 hP hD rfl (Nat.le_refl _) (Nat.le_refl _)
def fn_M_kindOf (x1 : Int32) (s : ms) : Option (Int32 × ms) :=
  if (x1 < 0 ∨ 1100 ≤ Int32.toNatClampNeg x1) then none else (fn_M_isRegister (((s.1 64) (Int32.toNatClampNeg x1))) s).bind (fun q_2 => if q_2.1 = 0 then (if (((s.1 64) (Int32.toNatClampNeg x1)) < 0 ∨ 11000 ≤ Int32.toNatClampNeg (((s.1 64) (Int32.toNatClampNeg x1)))) then none else if ((q_2.2.1 21) (Int32.toNatClampNeg (((s.1 64) (Int32.toNatClampNeg x1))))) = 0 then (if (x1 < 0 ∨ 1100 ≤ Int32.toNatClampNeg x1) then none else if ((q_2.2.1 65) (Int32.toNatClampNeg x1)) = 0 then (some (0, q_2.2)) else (some (1, q_2.2))) else (some (1, q_2.2))) else (some (2, q_2.2)))
set_option maxHeartbeats 8000000 in
set_option maxRecDepth 100000 in
theorem ct_M_kindOf (l : Launch) (dC : Nat → ClassId) (dI : Nat → Nat → Nat) (cI cB cJ cZ cQ : ClassId) (sz : Nat) (h0 : Nat) (a : Nat → Nat) (x1 : Int32) (s : ms) (y : (Int32 × ms)) (hf : fn_M_kindOf x1 s = some y) : Met l yn_M_kindOf (xw yn_M_kindOf bn_M_kindOf 3 (some .int)) ({ frames := 1, cells := 0, slots := 0, locals := 21 }) (xk_P (dC, dI) xcl (xt cI cB cJ cZ cQ) [.ref h0, .int x1] sz (wM h0 a cI cB cJ cZ s)) (xk_Qi (dC, dI) xcl (xt cI cB cJ cZ cQ) (fun (r : Int32) (_ : Unit) => r = y.1) (fun _ : Unit => (wM h0 a cI cB cJ cZ y.2)) (va_A (wM h0 a cI cB cJ cZ s) sz)) 0 0 (va_A (wM h0 a cI cB cJ cZ s) sz) := by
  refine xk_of (QA := xk_Qi (dC, dI) xcl (xt cI cB cJ cZ cQ) (fun (r : Int32) (_ : Unit) => r = y.1) (fun _ : Unit => (wM h0 a cI cB cJ cZ y.2))) (by decide) (Nat.le_of_ble_eq_true rfl) ?_
  intro p e s0 m below meth c hx hb hml hown hg hr hlocks hin hP hK hN A hA hD hS ls hl
  have hown : s0.vm.findClass rn_M = some m.cls := hown
  obtain ⟨H, hH⟩ : ∃ z, z = s0.heap := ⟨_, rfl⟩
  rw [← hH] at hP
  have hS : va_S A s0.heap H [] := by rw [hH]; exact va_S.rf
  suffices kk : ∀ QQ : State → Prop, QQ = MQ below (xk_Qi (dC, dI) xcl (xt cI cB cJ cZ cQ) (fun (r : Int32) (_ : Unit) => r = y.1) (fun _ : Unit => (wM h0 a cI cB cJ cZ y.2)) A) [.ref h0, .int x1].toArray s0 0 0 A → dcC p l e ({ frames := 1, cells := 0, slots := 0, locals := 21 }) s0 m [.ref h0, .int x1].toArray below meth c QQ (dC, dI) A (wM h0 a cI cB cJ cZ s) 0 3 [(0, .ref h0), (1, .int x1)] [] by
    have k9 := kk _ rfl H [] ls hP hD hS hl
    rw [hH] at k9; exact k9
  clear hP hD hS hl hH H ls
  intro QQ hQQ
  intro H locs ls hP hD hS hl
  unfold fn_M_kindOf at hf
  refine lv_aload_n hx hb dn_M_kindOf_0 rfl (lv_at hl 0 rfl) ?_
  refine va_get (D := (dC, dI)) (ci := 0) (v := .ref ((a 64))) (C := rn_M) (T := fn_M) (N := 91) hx hb hg in_M hown hK hP 0 rfl rfl 64 (by decide) (hg _ wn_8_132) (fun _ h9 => h9) rfl dn_M_kindOf_1 ?_
  refine lv_iload_n hx hb dn_M_kindOf_4 rfl (lv_at hl 1 rfl) ?_
  obtain ⟨hg_1, hf⟩ := dc_g hf
  refine va_iald hx hb hK hP 44 0 rfl rfl hg_1 dn_M_kindOf_5 ?_
  refine xk_ti (y := ((s.1 64) (Int32.toNatClampNeg x1))) rfl ?_
  refine lv_istore_n (lv' := [(2, .int (((s.1 64) (Int32.toNatClampNeg x1)))), (0, .ref h0), (1, .int x1)]) hx hb dn_M_kindOf_6 rfl hl (by decide) rfl (fun ls hl => ?_)
  refine lv_aload_n hx hb dn_M_kindOf_7 rfl (lv_at hl 1 rfl) ?_
  refine lv_iload_n hx hb dn_M_kindOf_8 rfl (lv_at hl 0 rfl) ?_
  obtain ⟨q_2, hc_3, hf⟩ := dc_b hf
  refine dc_calli (xk_runV (ar := 1) (As := [.int (((s.1 64) (Int32.toNatClampNeg x1)))]) (rest := []) (ci := 0) (q0 := 0) ⟨hx, hb, hml, hown, hg⟩ hK hN (ct_M_isRegister l dC dI cI cB cJ cZ cQ H.size h0 a (((s.1 64) (Int32.toNatClampNeg x1))) s q_2 hc_3) hP hD rfl rfl wn_10_132 wn_10_134 sn_M_isRegister wn_1_13 wn_10_135 rfl rfl (by decide +kernel) ⟨Nat.le_of_ble_eq_true rfl, Nat.le_of_ble_eq_true rfl⟩ rfl hl.1 rfl (Nat.le_of_ble_eq_true rfl) dn_M_kindOf_9 ⟨Nat.le_of_ble_eq_true rfl, Nat.le_of_ble_eq_true rfl⟩) hP hD hS hA (fun r_4 _ H locs hw hP hD hS => ?_)
  have hw : r_4 = q_2.1 := hw
  subst hw
  refine lv_if_eq (tgt := 19) hx hb dn_M_kindOf_12 (by decide) (fun h => ?_) (fun h => ?_)
  · have hf := (if_pos h).symm.trans hf
    refine lv_aload_n hx hb dn_M_kindOf_19 rfl (lv_at hl 1 rfl) ?_
    refine va_get (D := (dC, dI)) (ci := 0) (v := .ref ((a 21))) (C := rn_M) (T := fn_M) (N := 91) hx hb hg in_M hown hK hP 0 rfl rfl 21 (by decide) (hg _ wn_8_89) (fun _ h9 => h9) rfl dn_M_kindOf_20 ?_
    refine lv_iload_n hx hb dn_M_kindOf_23 rfl (lv_at hl 0 rfl) ?_
    obtain ⟨hg_5, hf⟩ := dc_g hf
    refine va_iald hx hb hK hP 12 0 rfl rfl hg_5 dn_M_kindOf_24 ?_
    refine xk_ti (y := ((q_2.2.1 21) (Int32.toNatClampNeg (((s.1 64) (Int32.toNatClampNeg x1)))))) rfl ?_
    refine lv_if_ne (tgt := 41) hx hb dn_M_kindOf_25 (by decide) (fun h => ?_) (fun h => ?_)
    · have hf := (if_neg h).symm.trans hf
      refine lv_iconst (v := 1) hx hb dn_M_kindOf_41 (by decide) ?_
      rw [hQQ, ← Option.some.inj hf]
      exact xk_iret (w1 := fun _ : Unit => (wM h0 a cI cB cJ cZ q_2.2)) () hx hb hr hlocks hK hS dn_M_kindOf_42 hP hD rfl (Nat.le_refl _) (Nat.le_refl _)
    · have hf := (if_pos h).symm.trans hf
      refine lv_aload_n hx hb dn_M_kindOf_28 rfl (lv_at hl 1 rfl) ?_
      refine va_get (D := (dC, dI)) (ci := 0) (v := .ref ((a 65))) (C := rn_M) (T := fn_M) (N := 91) hx hb hg in_M hown hK hP 0 rfl rfl 65 (by decide) (hg _ wn_8_133) (fun _ h9 => h9) rfl dn_M_kindOf_29 ?_
      refine lv_iload_n hx hb dn_M_kindOf_32 rfl (lv_at hl 2 rfl) ?_
      obtain ⟨hg_6, hf⟩ := dc_g hf
      refine va_iald hx hb hK hP 45 0 rfl rfl hg_6 dn_M_kindOf_33 ?_
      refine xk_ti (y := ((q_2.2.1 65) (Int32.toNatClampNeg x1))) rfl ?_
      refine lv_if_ne (tgt := 41) hx hb dn_M_kindOf_34 (by decide) (fun h => ?_) (fun h => ?_)
      · have hf := (if_neg h).symm.trans hf
        refine lv_iconst (v := 1) hx hb dn_M_kindOf_41 (by decide) ?_
        rw [hQQ, ← Option.some.inj hf]
        exact xk_iret (w1 := fun _ : Unit => (wM h0 a cI cB cJ cZ q_2.2)) () hx hb hr hlocks hK hS dn_M_kindOf_42 hP hD rfl (Nat.le_refl _) (Nat.le_refl _)
      · have hf := (if_pos h).symm.trans hf
        refine lv_iconst (v := 0) hx hb dn_M_kindOf_37 (by decide) ?_
        refine lv_goto (tgt := 42) hx hb dn_M_kindOf_38 (by decide) ?_
        rw [hQQ, ← Option.some.inj hf]
        exact xk_iret (w1 := fun _ : Unit => (wM h0 a cI cB cJ cZ q_2.2)) () hx hb hr hlocks hK hS dn_M_kindOf_42 hP hD rfl (Nat.le_refl _) (Nat.le_refl _)
  · have hf := (if_neg h).symm.trans hf
    refine lv_iconst (v := 2) hx hb dn_M_kindOf_15 (by decide) ?_
    refine lv_goto (tgt := 42) hx hb dn_M_kindOf_16 (by decide) ?_
    rw [hQQ, ← Option.some.inj hf]
    exact xk_iret (w1 := fun _ : Unit => (wM h0 a cI cB cJ cZ q_2.2)) () hx hb hr hlocks hK hS dn_M_kindOf_42 hP hD rfl (Nat.le_refl _) (Nat.le_refl _)
def bk_M_signal_38 (x1 : Int32) (x2 : Int32) (t0 : Int32) (s : ms) : Option (Int32 × ms) :=
  if t0 ≤ 0 then (if x2 = 0 then (if (x1 < 0 ∨ 1100 ≤ Int32.toNatClampNeg x1) then none else if (((s.1 64) (Int32.toNatClampNeg x1)) < 0 ∨ 11000 ≤ Int32.toNatClampNeg (((s.1 64) (Int32.toNatClampNeg x1)))) then none else some (((s.1 20) (Int32.toNatClampNeg (((s.1 64) (Int32.toNatClampNeg x1))))), upI s 0 (fun _ => t0))) else (if x2 = 1 then ((fn_M_kindOf x1 (upI s 0 (fun _ => t0))).bind (fun q_1 => some (q_1.1, q_1.2))) else (if (x1 < 0 ∨ 1100 ≤ Int32.toNatClampNeg x1) then none else if (((s.1 64) (Int32.toNatClampNeg x1)) < 0 ∨ 11000 ≤ Int32.toNatClampNeg (((s.1 64) (Int32.toNatClampNeg x1)))) then none else if (((s.1 19) (Int32.toNatClampNeg (((s.1 64) (Int32.toNatClampNeg x1))))) < 0 ∨ 65540 ≤ Int32.toNatClampNeg (((s.1 19) (Int32.toNatClampNeg (((s.1 64) (Int32.toNatClampNeg x1))))))) then none else some (((s.1 5) (Int32.toNatClampNeg (((s.1 19) (Int32.toNatClampNeg (((s.1 64) (Int32.toNatClampNeg x1)))))))), upI s 0 (fun _ => t0))))) else (some (0, upI s 0 (fun _ => t0)))
def bk_M_signal_33 (x1 : Int32) (x2 : Int32) (s : ms) : Option (Int32 × ms) :=
  bk_M_signal_38 x1 x2 3 s
def fn_M_signal (x1 : Int32) (x2 : Int32) (s : ms) : Option (Int32 × ms) :=
  if (s.1 54 0) = 0 then (bk_M_signal_38 x1 x2 1 s) else ((fn_M_isSignal x1 s).bind (fun q_1 => if q_1.1 = 0 then (bk_M_signal_38 x1 x2 2 q_1.2) else (if x2 < 0 then (bk_M_signal_33 x1 x2 q_1.2) else (if x2 ≤ 2 then (bk_M_signal_38 x1 x2 0 q_1.2) else (bk_M_signal_33 x1 x2 q_1.2)))))
set_option maxHeartbeats 8000000 in
set_option maxRecDepth 100000 in
theorem ct_M_signal (l : Launch) (dC : Nat → ClassId) (dI : Nat → Nat → Nat) (cI cB cJ cZ cQ : ClassId) (sz : Nat) (h0 : Nat) (a : Nat → Nat) (x1 : Int32) (x2 : Int32) (s : ms) (y : (Int32 × ms)) (hf : fn_M_signal x1 x2 s = some y) : Met l yn_M_signal (xw yn_M_signal bn_M_signal 3 (some .int)) ({ frames := 2, cells := 0, slots := 0, locals := 43 }) (xk_P (dC, dI) xcl (xt cI cB cJ cZ cQ) [.ref h0, .int x1, .int x2] sz (wM h0 a cI cB cJ cZ s)) (xk_Qi (dC, dI) xcl (xt cI cB cJ cZ cQ) (fun (r : Int32) (_ : Unit) => r = y.1) (fun _ : Unit => (wM h0 a cI cB cJ cZ y.2)) (va_A (wM h0 a cI cB cJ cZ s) sz)) 0 0 (va_A (wM h0 a cI cB cJ cZ s) sz) := by
  refine xk_of (QA := xk_Qi (dC, dI) xcl (xt cI cB cJ cZ cQ) (fun (r : Int32) (_ : Unit) => r = y.1) (fun _ : Unit => (wM h0 a cI cB cJ cZ y.2))) (by decide) (Nat.le_of_ble_eq_true rfl) ?_
  intro p e s0 m below meth c hx hb hml hown hg hr hlocks hin hP hK hN A hA hD hS ls hl
  have hown : s0.vm.findClass rn_M = some m.cls := hown
  obtain ⟨H, hH⟩ : ∃ z, z = s0.heap := ⟨_, rfl⟩
  rw [← hH] at hP
  have hS : va_S A s0.heap H [] := by rw [hH]; exact va_S.rf
  suffices kk : ∀ QQ : State → Prop, QQ = MQ below (xk_Qi (dC, dI) xcl (xt cI cB cJ cZ cQ) (fun (r : Int32) (_ : Unit) => r = y.1) (fun _ : Unit => (wM h0 a cI cB cJ cZ y.2)) A) [.ref h0, .int x1, .int x2].toArray s0 0 0 A → dcC p l e ({ frames := 2, cells := 0, slots := 0, locals := 43 }) s0 m [.ref h0, .int x1, .int x2].toArray below meth c QQ (dC, dI) A (wM h0 a cI cB cJ cZ s) 0 3 [(0, .ref h0), (1, .int x1), (2, .int x2)] [] by
    have k9 := kk _ rfl H [] ls hP hD hS hl
    rw [hH] at k9; exact k9
  clear hP hD hS hl hH H ls
  intro QQ hQQ
  have bl_38 : ∀ (x1 : Int32) (x2 : Int32) (t0 : Int32) (s : ms), bk_M_signal_38 x1 x2 t0 s = some y → dcC p l e ({ frames := 2, cells := 0, slots := 0, locals := 43 }) s0 m [.ref h0, .int x1, .int x2].toArray below meth c QQ (dC, dI) A (wM h0 a cI cB cJ cZ s) 38 3 [(0, .ref h0), (1, .int x1), (2, .int x2)] [.int t0, .ref h0] := by
    intro x1 x2 t0 s hf H locs ls hP hD hS hl
    unfold bk_M_signal_38 at hf
    refine va_put (D := (dC, dI)) (ci := 0) (v := .int t0) (ty := .int) (C := rn_M) (T := fn_M) (N := 91) hx hb hg in_M tn_M tk_M nn_M hown hK hP hD hS 0 rfl rfl 0 (by decide) (hg _ wn_8_68) (fun _ h9 => h9) rfl (tk_M 0 (by decide)) rfl rfl (Nat.le_of_ble_eq_true rfl) dn_M_signal_38 (fun H locs hP hD hS => ?_)
    have hP : va_P (dC, dI) xcl (wM h0 a cI cB cJ cZ (upI s 0 (fun _ => t0))) H := hP
    have hD : va_D A (wM h0 a cI cB cJ cZ (upI s 0 (fun _ => t0))) := hD
    refine lv_aload_n hx hb dn_M_signal_41 rfl (lv_at hl 0 rfl) ?_
    refine va_get (D := (dC, dI)) (ci := 0) (v := .int t0) (C := rn_M) (T := fn_M) (N := 91) hx hb hg in_M hown hK hP 0 rfl rfl 0 (by decide) (hg _ wn_8_68) (fun _ h9 => h9) rfl dn_M_signal_42 ?_
    refine lv_if_le (tgt := 50) hx hb dn_M_signal_45 (by decide) (fun h => ?_) (fun h => ?_)
    · have hf := (if_pos h).symm.trans hf
      refine lv_iload_n hx hb dn_M_signal_50 rfl (lv_at hl 2 rfl) ?_
      refine lv_if_ne (tgt := 68) hx hb dn_M_signal_51 (by decide) (fun h => ?_) (fun h => ?_)
      · have hf := (if_neg h).symm.trans hf
        refine lv_iload_n hx hb dn_M_signal_68 rfl (lv_at hl 2 rfl) ?_
        refine lv_iconst (v := 1) hx hb dn_M_signal_69 (by decide) ?_
        refine lv_icmp_ne (tgt := 81) hx hb dn_M_signal_70 (by decide) (fun h => ?_) (fun h => ?_)
        · have hf := (if_neg h).symm.trans hf
          refine lv_aload_n hx hb dn_M_signal_81 rfl (lv_at hl 0 rfl) ?_
          refine va_get (D := (dC, dI)) (ci := 0) (v := .ref ((a 5))) (C := rn_M) (T := fn_M) (N := 91) hx hb hg in_M hown hK hP 0 rfl rfl 5 (by decide) (hg _ wn_8_73) (fun _ h9 => h9) rfl dn_M_signal_82 ?_
          refine lv_aload_n hx hb dn_M_signal_85 rfl (lv_at hl 0 rfl) ?_
          refine va_get (D := (dC, dI)) (ci := 0) (v := .ref ((a 19))) (C := rn_M) (T := fn_M) (N := 91) hx hb hg in_M hown hK hP 0 rfl rfl 19 (by decide) (hg _ wn_8_87) (fun _ h9 => h9) rfl dn_M_signal_86 ?_
          refine lv_aload_n hx hb dn_M_signal_89 rfl (lv_at hl 0 rfl) ?_
          refine va_get (D := (dC, dI)) (ci := 0) (v := .ref ((a 64))) (C := rn_M) (T := fn_M) (N := 91) hx hb hg in_M hown hK hP 0 rfl rfl 64 (by decide) (hg _ wn_8_132) (fun _ h9 => h9) rfl dn_M_signal_90 ?_
          refine lv_iload_n hx hb dn_M_signal_93 rfl (lv_at hl 1 rfl) ?_
          obtain ⟨hg_1, hf⟩ := dc_g hf
          refine va_iald hx hb hK hP 44 0 rfl rfl hg_1 dn_M_signal_94 ?_
          refine xk_ti (y := ((s.1 64) (Int32.toNatClampNeg x1))) rfl ?_
          obtain ⟨hg_2, hf⟩ := dc_g hf
          refine va_iald hx hb hK hP 10 0 rfl rfl hg_2 dn_M_signal_95 ?_
          refine xk_ti (y := ((s.1 19) (Int32.toNatClampNeg (((s.1 64) (Int32.toNatClampNeg x1)))))) rfl ?_
          obtain ⟨hg_3, hf⟩ := dc_g hf
          refine va_iald hx hb hK hP 3 0 rfl rfl hg_3 dn_M_signal_96 ?_
          refine xk_ti (y := ((s.1 5) (Int32.toNatClampNeg (((s.1 19) (Int32.toNatClampNeg (((s.1 64) (Int32.toNatClampNeg x1))))))))) rfl ?_
          rw [hQQ, ← Option.some.inj hf]
          exact xk_iret (w1 := fun _ : Unit => (wM h0 a cI cB cJ cZ (upI s 0 (fun _ => t0)))) () hx hb hr hlocks hK hS dn_M_signal_97 hP hD rfl (Nat.le_refl _) (Nat.le_refl _)
        · have hf := (if_pos h).symm.trans hf
          refine lv_aload_n hx hb dn_M_signal_73 rfl (lv_at hl 0 rfl) ?_
          refine lv_iload_n hx hb dn_M_signal_74 rfl (lv_at hl 1 rfl) ?_
          obtain ⟨q_1, hc_2, hf⟩ := dc_b hf
          refine dc_calli (xk_runV (ar := 1) (As := [.int x1]) (rest := []) (ci := 0) (q0 := 0) ⟨hx, hb, hml, hown, hg⟩ hK hN (ct_M_kindOf l dC dI cI cB cJ cZ cQ H.size h0 a x1 (upI s 0 (fun _ => t0)) q_1 hc_2) hP hD rfl rfl wn_11_30 wn_11_32 sn_M_kindOf wn_1_13 wn_11_33 rfl rfl (by decide +kernel) ⟨Nat.le_of_ble_eq_true rfl, Nat.le_of_ble_eq_true rfl⟩ rfl hl.1 rfl (Nat.le_of_ble_eq_true rfl) dn_M_signal_75 ⟨Nat.le_of_ble_eq_true rfl, Nat.le_of_ble_eq_true rfl⟩) hP hD hS hA (fun r_3 _ H locs hw hP hD hS => ?_)
          have hw : r_3 = q_1.1 := hw
          subst hw
          refine lv_goto (tgt := 97) hx hb dn_M_signal_78 (by decide) ?_
          rw [hQQ, ← Option.some.inj hf]
          exact xk_iret (w1 := fun _ : Unit => (wM h0 a cI cB cJ cZ q_1.2)) () hx hb hr hlocks hK hS dn_M_signal_97 hP hD rfl (Nat.le_refl _) (Nat.le_refl _)
      · have hf := (if_pos h).symm.trans hf
        refine lv_aload_n hx hb dn_M_signal_54 rfl (lv_at hl 0 rfl) ?_
        refine va_get (D := (dC, dI)) (ci := 0) (v := .ref ((a 20))) (C := rn_M) (T := fn_M) (N := 91) hx hb hg in_M hown hK hP 0 rfl rfl 20 (by decide) (hg _ wn_8_88) (fun _ h9 => h9) rfl dn_M_signal_55 ?_
        refine lv_aload_n hx hb dn_M_signal_58 rfl (lv_at hl 0 rfl) ?_
        refine va_get (D := (dC, dI)) (ci := 0) (v := .ref ((a 64))) (C := rn_M) (T := fn_M) (N := 91) hx hb hg in_M hown hK hP 0 rfl rfl 64 (by decide) (hg _ wn_8_132) (fun _ h9 => h9) rfl dn_M_signal_59 ?_
        refine lv_iload_n hx hb dn_M_signal_62 rfl (lv_at hl 1 rfl) ?_
        obtain ⟨hg_1, hf⟩ := dc_g hf
        refine va_iald hx hb hK hP 44 0 rfl rfl hg_1 dn_M_signal_63 ?_
        refine xk_ti (y := ((s.1 64) (Int32.toNatClampNeg x1))) rfl ?_
        obtain ⟨hg_2, hf⟩ := dc_g hf
        refine va_iald hx hb hK hP 11 0 rfl rfl hg_2 dn_M_signal_64 ?_
        refine xk_ti (y := ((s.1 20) (Int32.toNatClampNeg (((s.1 64) (Int32.toNatClampNeg x1)))))) rfl ?_
        refine lv_goto (tgt := 97) hx hb dn_M_signal_65 (by decide) ?_
        rw [hQQ, ← Option.some.inj hf]
        exact xk_iret (w1 := fun _ : Unit => (wM h0 a cI cB cJ cZ (upI s 0 (fun _ => t0)))) () hx hb hr hlocks hK hS dn_M_signal_97 hP hD rfl (Nat.le_refl _) (Nat.le_refl _)
    · have hf := (if_neg h).symm.trans hf
      refine lv_iconst (v := 0) hx hb dn_M_signal_48 (by decide) ?_
      rw [hQQ, ← Option.some.inj hf]
      exact xk_iret (w1 := fun _ : Unit => (wM h0 a cI cB cJ cZ (upI s 0 (fun _ => t0)))) () hx hb hr hlocks hK hS dn_M_signal_49 hP hD rfl (Nat.le_refl _) (Nat.le_refl _)
  have bl_33 : ∀ (x1 : Int32) (x2 : Int32) (s : ms), bk_M_signal_33 x1 x2 s = some y → dcC p l e ({ frames := 2, cells := 0, slots := 0, locals := 43 }) s0 m [.ref h0, .int x1, .int x2].toArray below meth c QQ (dC, dI) A (wM h0 a cI cB cJ cZ s) 33 3 [(0, .ref h0), (1, .int x1), (2, .int x2)] [.ref h0] := by
    intro x1 x2 s hf H locs ls hP hD hS hl
    unfold bk_M_signal_33 at hf
    refine lv_iconst (v := 3) hx hb dn_M_signal_33 (by decide) ?_
    refine lv_goto (tgt := 38) hx hb dn_M_signal_34 (by decide) ?_
    exact bl_38 x1 x2 3 s hf H locs ls hP hD hS hl
  intro H locs ls hP hD hS hl
  unfold fn_M_signal at hf
  refine lv_aload_n hx hb dn_M_signal_0 rfl (lv_at hl 0 rfl) ?_
  refine lv_aload_n hx hb dn_M_signal_1 rfl (lv_at hl 0 rfl) ?_
  refine va_get (D := (dC, dI)) (ci := 0) (v := .int ((s.1 54 0))) (C := rn_M) (T := fn_M) (N := 91) hx hb hg in_M hown hK hP 0 rfl rfl 54 (by decide) (hg _ wn_8_122) (fun _ h9 => h9) rfl dn_M_signal_2 ?_
  refine lv_if_ne (tgt := 12) hx hb dn_M_signal_5 (by decide) (fun h => ?_) (fun h => ?_)
  · have hf := (if_neg h).symm.trans hf
    refine lv_aload_n hx hb dn_M_signal_12 rfl (lv_at hl 0 rfl) ?_
    refine lv_iload_n hx hb dn_M_signal_13 rfl (lv_at hl 1 rfl) ?_
    obtain ⟨q_1, hc_2, hf⟩ := dc_b hf
    refine dc_calli (xk_runV (ar := 1) (As := [.int x1]) (rest := [.ref h0]) (ci := 0) (q0 := 0) ⟨hx, hb, hml, hown, hg⟩ hK hN (ct_M_isSignal l dC dI cI cB cJ cZ cQ H.size h0 a x1 s q_1 hc_2) hP hD rfl rfl wn_11_26 wn_11_28 sn_M_isSignal wn_1_13 wn_11_29 rfl rfl (by decide +kernel) ⟨Nat.le_of_ble_eq_true rfl, Nat.le_of_ble_eq_true rfl⟩ rfl hl.1 rfl (Nat.le_of_ble_eq_true rfl) dn_M_signal_14 ⟨Nat.le_of_ble_eq_true rfl, Nat.le_of_ble_eq_true rfl⟩) hP hD hS hA (fun r_3 _ H locs hw hP hD hS => ?_)
    have hw : r_3 = q_1.1 := hw
    subst hw
    refine lv_if_ne (tgt := 24) hx hb dn_M_signal_17 (by decide) (fun h => ?_) (fun h => ?_)
    · have hf := (if_neg h).symm.trans hf
      refine lv_iload_n hx hb dn_M_signal_24 rfl (lv_at hl 2 rfl) ?_
      refine lv_if_lt (tgt := 33) hx hb dn_M_signal_25 (by decide) (fun h => ?_) (fun h => ?_)
      · have hf := (if_pos h).symm.trans hf
        exact bl_33 x1 x2 q_1.2 hf H locs ls hP hD hS hl
      · have hf := (if_neg h).symm.trans hf
        refine lv_iload_n hx hb dn_M_signal_28 rfl (lv_at hl 2 rfl) ?_
        refine lv_iconst (v := 2) hx hb dn_M_signal_29 (by decide) ?_
        refine lv_icmp_le (tgt := 37) hx hb dn_M_signal_30 (by decide) (fun h => ?_) (fun h => ?_)
        · have hf := (if_pos h).symm.trans hf
          refine lv_iconst (v := 0) hx hb dn_M_signal_37 (by decide) ?_
          exact bl_38 x1 x2 0 q_1.2 hf H locs ls hP hD hS hl
        · have hf := (if_neg h).symm.trans hf
          exact bl_33 x1 x2 q_1.2 hf H locs ls hP hD hS hl
    · have hf := (if_pos h).symm.trans hf
      refine lv_iconst (v := 2) hx hb dn_M_signal_20 (by decide) ?_
      refine lv_goto (tgt := 38) hx hb dn_M_signal_21 (by decide) ?_
      exact bl_38 x1 x2 2 q_1.2 hf H locs ls hP hD hS hl
  · have hf := (if_pos h).symm.trans hf
    refine lv_iconst (v := 1) hx hb dn_M_signal_8 (by decide) ?_
    refine lv_goto (tgt := 38) hx hb dn_M_signal_9 (by decide) ?_
    exact bl_38 x1 x2 1 s hf H locs ls hP hD hS hl
def bk_M_reset_13 (t0 : Int32) (s : ms) : Option (Unit × ms) :=
  if (s.1 54 0) = 0 then (some ((), upI s 0 (fun _ => t0))) else ((fn_M_begin0 (upI s 0 (fun _ => t0))).bind (fun q_1 => some ((), q_1.2)))
def fn_M_reset (s : ms) : Option (Unit × ms) :=
  if (s.1 54 0) = 0 then (bk_M_reset_13 1 s) else (bk_M_reset_13 0 s)
set_option maxHeartbeats 8000000 in
set_option maxRecDepth 100000 in
theorem ct_M_reset (l : Launch) (dC : Nat → ClassId) (dI : Nat → Nat → Nat) (cI cB cJ cZ cQ : ClassId) (sz : Nat) (h0 : Nat) (a : Nat → Nat) (s : ms) (y : (Unit × ms)) (hf : fn_M_reset s = some y) : Met l yn_M_reset (xw yn_M_reset bn_M_reset 1 none) ({ frames := 5, cells := 0, slots := 0, locals := 141 }) (xk_P (dC, dI) xcl (xt cI cB cJ cZ cQ) [.ref h0] sz (wM h0 a cI cB cJ cZ s)) (xk_Qv (dC, dI) xcl (xt cI cB cJ cZ cQ) (fun _ : Unit => True) (fun _ : Unit => (wM h0 a cI cB cJ cZ y.2)) (va_A (wM h0 a cI cB cJ cZ s) sz)) 0 0 (va_A (wM h0 a cI cB cJ cZ s) sz) := by
  refine xk_of (QA := xk_Qv (dC, dI) xcl (xt cI cB cJ cZ cQ) (fun _ : Unit => True) (fun _ : Unit => (wM h0 a cI cB cJ cZ y.2))) (by decide) (Nat.le_of_ble_eq_true rfl) ?_
  intro p e s0 m below meth c hx hb hml hown hg hr hlocks hin hP hK hN A hA hD hS ls hl
  have hown : s0.vm.findClass rn_M = some m.cls := hown
  obtain ⟨H, hH⟩ : ∃ z, z = s0.heap := ⟨_, rfl⟩
  rw [← hH] at hP
  have hS : va_S A s0.heap H [] := by rw [hH]; exact va_S.rf
  suffices kk : ∀ QQ : State → Prop, QQ = MQ below (xk_Qv (dC, dI) xcl (xt cI cB cJ cZ cQ) (fun _ : Unit => True) (fun _ : Unit => (wM h0 a cI cB cJ cZ y.2)) A) [.ref h0].toArray s0 0 0 A → dcC p l e ({ frames := 5, cells := 0, slots := 0, locals := 141 }) s0 m [.ref h0].toArray below meth c QQ (dC, dI) A (wM h0 a cI cB cJ cZ s) 0 1 [(0, .ref h0)] [] by
    have k9 := kk _ rfl H [] ls hP hD hS hl
    rw [hH] at k9; exact k9
  clear hP hD hS hl hH H ls
  intro QQ hQQ
  have bl_13 : ∀ (t0 : Int32) (s : ms), bk_M_reset_13 t0 s = some y → dcC p l e ({ frames := 5, cells := 0, slots := 0, locals := 141 }) s0 m [.ref h0].toArray below meth c QQ (dC, dI) A (wM h0 a cI cB cJ cZ s) 13 1 [(0, .ref h0)] [.int t0, .ref h0] := by
    intro t0 s hf H locs ls hP hD hS hl
    unfold bk_M_reset_13 at hf
    refine va_put (D := (dC, dI)) (ci := 0) (v := .int t0) (ty := .int) (C := rn_M) (T := fn_M) (N := 91) hx hb hg in_M tn_M tk_M nn_M hown hK hP hD hS 0 rfl rfl 0 (by decide) (hg _ wn_8_68) (fun _ h9 => h9) rfl (tk_M 0 (by decide)) rfl rfl (Nat.le_of_ble_eq_true rfl) dn_M_reset_13 (fun H locs hP hD hS => ?_)
    have hP : va_P (dC, dI) xcl (wM h0 a cI cB cJ cZ (upI s 0 (fun _ => t0))) H := hP
    have hD : va_D A (wM h0 a cI cB cJ cZ (upI s 0 (fun _ => t0))) := hD
    refine lv_aload_n hx hb dn_M_reset_16 rfl (lv_at hl 0 rfl) ?_
    refine va_get (D := (dC, dI)) (ci := 0) (v := .int ((s.1 54 0))) (C := rn_M) (T := fn_M) (N := 91) hx hb hg in_M hown hK hP 0 rfl rfl 54 (by decide) (hg _ wn_8_122) (fun _ h9 => h9) rfl dn_M_reset_17 ?_
    refine lv_if_eq (tgt := 27) hx hb dn_M_reset_20 (by decide) (fun h => ?_) (fun h => ?_)
    · have hf := (if_pos h).symm.trans hf
      rw [hQQ, ← Option.some.inj hf]
      exact xk_vret (w1 := fun _ : Unit => (wM h0 a cI cB cJ cZ (upI s 0 (fun _ => t0)))) () hx hb hr hlocks hK hS dn_M_reset_27 hP hD trivial (Nat.le_refl _) (Nat.le_refl _)
    · have hf := (if_neg h).symm.trans hf
      refine lv_aload_n hx hb dn_M_reset_23 rfl (lv_at hl 0 rfl) ?_
      obtain ⟨q_1, hc_2, hf⟩ := dc_b hf
      refine dc_callv (xk_runV (ar := 0) (As := []) (rest := []) (ci := 0) (q0 := 0) ⟨hx, hb, hml, hown, hg⟩ hK hN (ct_M_begin0 l dC dI cI cB cJ cZ cQ H.size h0 a (upI s 0 (fun _ => t0)) q_1 hc_2) hP hD rfl rfl wn_10_200 wn_10_202 sn_M_begin0 wn_1_13 wn_10_203 rfl rfl (by decide +kernel) ⟨Nat.le_of_ble_eq_true rfl, Nat.le_of_ble_eq_true rfl⟩ rfl hl.1 rfl (Nat.le_of_ble_eq_true rfl) dn_M_reset_24 ⟨Nat.le_of_ble_eq_true rfl, Nat.le_of_ble_eq_true rfl⟩) hP hD hS hA (fun _ H locs hw hP hD hS => ?_)
      rw [hQQ, ← Option.some.inj hf]
      exact xk_vret (w1 := fun _ : Unit => (wM h0 a cI cB cJ cZ q_1.2)) () hx hb hr hlocks hK hS dn_M_reset_27 hP hD trivial (Nat.le_refl _) (Nat.le_refl _)
  intro H locs ls hP hD hS hl
  unfold fn_M_reset at hf
  refine lv_aload_n hx hb dn_M_reset_0 rfl (lv_at hl 0 rfl) ?_
  refine lv_aload_n hx hb dn_M_reset_1 rfl (lv_at hl 0 rfl) ?_
  refine va_get (D := (dC, dI)) (ci := 0) (v := .int ((s.1 54 0))) (C := rn_M) (T := fn_M) (N := 91) hx hb hg in_M hown hK hP 0 rfl rfl 54 (by decide) (hg _ wn_8_122) (fun _ h9 => h9) rfl dn_M_reset_2 ?_
  refine lv_if_eq (tgt := 12) hx hb dn_M_reset_5 (by decide) (fun h => ?_) (fun h => ?_)
  · have hf := (if_pos h).symm.trans hf
    refine lv_iconst (v := 1) hx hb dn_M_reset_12 (by decide) ?_
    exact bl_13 1 s hf H locs ls hP hD hS hl
  · have hf := (if_neg h).symm.trans hf
    refine lv_iconst (v := 0) hx hb dn_M_reset_8 (by decide) ?_
    refine lv_goto (tgt := 13) hx hb dn_M_reset_9 (by decide) ?_
    exact bl_13 0 s hf H locs ls hP hD hS hl
def bk_M_set_57 (x1 : Int32) (x2 : Int32) (t0 : Int32) (s : ms) : Option (Unit × ms) :=
  if t0 = 0 then (if (x1 < 0 ∨ 1100 ≤ Int32.toNatClampNeg x1) then none else (fn_M_settle_82_83 (upJ (upI s 0 (fun _ => t0)) 83 (vp_updL (s.2 83) (Int32.toNatClampNeg x1) ((Int32.toInt64 x2))))).bind (fun q_2 => some ((), q_2.2))) else (some ((), upI s 0 (fun _ => t0)))
def bk_M_set_52 (x1 : Int32) (x2 : Int32) (s : ms) : Option (Unit × ms) :=
  bk_M_set_57 x1 x2 3 s
def fn_M_set (x1 : Int32) (x2 : Int32) (s : ms) : Option (Unit × ms) :=
  if (s.1 54 0) = 0 then (bk_M_set_57 x1 x2 1 s) else ((fn_M_isSignal x1 s).bind (fun q_1 => if q_1.1 = 0 then (bk_M_set_57 x1 x2 2 q_1.2) else ((fn_M_kindOf x1 q_1.2).bind (fun q_4 => if q_4.1 = 0 then (if x2 < 0 then (bk_M_set_52 x1 x2 q_4.2) else (if (x1 < 0 ∨ 1100 ≤ Int32.toNatClampNeg x1) then none else if (((q_4.2.1 64) (Int32.toNatClampNeg x1)) < 0 ∨ 11000 ≤ Int32.toNatClampNeg (((q_4.2.1 64) (Int32.toNatClampNeg x1)))) then none else if ((x2 : Int32) >>> (((q_4.2.1 20) (Int32.toNatClampNeg (((q_4.2.1 64) (Int32.toNatClampNeg x1))))) &&& 31)) = 0 then (bk_M_set_57 x1 x2 0 q_4.2) else (bk_M_set_52 x1 x2 q_4.2))) else (bk_M_set_52 x1 x2 q_4.2)))))
set_option maxHeartbeats 8000000 in
set_option maxRecDepth 100000 in
theorem ct_M_set (l : Launch) (dC : Nat → ClassId) (dI : Nat → Nat → Nat) (cI cB cJ cZ cQ : ClassId) (sz : Nat) (h0 : Nat) (a : Nat → Nat) (x1 : Int32) (x2 : Int32) (s : ms) (y : (Unit × ms)) (hf : fn_M_set x1 x2 s = some y) : Met l yn_M_set (xw yn_M_set bn_M_set 3 none) ({ frames := 4, cells := 0, slots := 0, locals := 120 }) (xk_P (dC, dI) xcl (xt cI cB cJ cZ cQ) [.ref h0, .int x1, .int x2] sz (wM h0 a cI cB cJ cZ s)) (xk_Qv (dC, dI) xcl (xt cI cB cJ cZ cQ) (fun _ : Unit => True) (fun _ : Unit => (wM h0 a cI cB cJ cZ y.2)) (va_A (wM h0 a cI cB cJ cZ s) sz)) 0 0 (va_A (wM h0 a cI cB cJ cZ s) sz) := by
  refine xk_of (QA := xk_Qv (dC, dI) xcl (xt cI cB cJ cZ cQ) (fun _ : Unit => True) (fun _ : Unit => (wM h0 a cI cB cJ cZ y.2))) (by decide) (Nat.le_of_ble_eq_true rfl) ?_
  intro p e s0 m below meth c hx hb hml hown hg hr hlocks hin hP hK hN A hA hD hS ls hl
  have hown : s0.vm.findClass rn_M = some m.cls := hown
  obtain ⟨H, hH⟩ : ∃ z, z = s0.heap := ⟨_, rfl⟩
  rw [← hH] at hP
  have hS : va_S A s0.heap H [] := by rw [hH]; exact va_S.rf
  suffices kk : ∀ QQ : State → Prop, QQ = MQ below (xk_Qv (dC, dI) xcl (xt cI cB cJ cZ cQ) (fun _ : Unit => True) (fun _ : Unit => (wM h0 a cI cB cJ cZ y.2)) A) [.ref h0, .int x1, .int x2].toArray s0 0 0 A → dcC p l e ({ frames := 4, cells := 0, slots := 0, locals := 120 }) s0 m [.ref h0, .int x1, .int x2].toArray below meth c QQ (dC, dI) A (wM h0 a cI cB cJ cZ s) 0 3 [(0, .ref h0), (1, .int x1), (2, .int x2)] [] by
    have k9 := kk _ rfl H [] ls hP hD hS hl
    rw [hH] at k9; exact k9
  clear hP hD hS hl hH H ls
  intro QQ hQQ
  have bl_57 : ∀ (x1 : Int32) (x2 : Int32) (t0 : Int32) (s : ms), bk_M_set_57 x1 x2 t0 s = some y → dcC p l e ({ frames := 4, cells := 0, slots := 0, locals := 120 }) s0 m [.ref h0, .int x1, .int x2].toArray below meth c QQ (dC, dI) A (wM h0 a cI cB cJ cZ s) 57 3 [(0, .ref h0), (1, .int x1), (2, .int x2)] [.int t0, .ref h0] := by
    intro x1 x2 t0 s hf H locs ls hP hD hS hl
    unfold bk_M_set_57 at hf
    refine va_put (D := (dC, dI)) (ci := 0) (v := .int t0) (ty := .int) (C := rn_M) (T := fn_M) (N := 91) hx hb hg in_M tn_M tk_M nn_M hown hK hP hD hS 0 rfl rfl 0 (by decide) (hg _ wn_8_68) (fun _ h9 => h9) rfl (tk_M 0 (by decide)) rfl rfl (Nat.le_of_ble_eq_true rfl) dn_M_set_57 (fun H locs hP hD hS => ?_)
    have hP : va_P (dC, dI) xcl (wM h0 a cI cB cJ cZ (upI s 0 (fun _ => t0))) H := hP
    have hD : va_D A (wM h0 a cI cB cJ cZ (upI s 0 (fun _ => t0))) := hD
    refine lv_aload_n hx hb dn_M_set_60 rfl (lv_at hl 0 rfl) ?_
    refine va_get (D := (dC, dI)) (ci := 0) (v := .int t0) (C := rn_M) (T := fn_M) (N := 91) hx hb hg in_M hown hK hP 0 rfl rfl 0 (by decide) (hg _ wn_8_68) (fun _ h9 => h9) rfl dn_M_set_61 ?_
    refine lv_if_ne (tgt := 87) hx hb dn_M_set_64 (by decide) (fun h => ?_) (fun h => ?_)
    · have hf := (if_neg h).symm.trans hf
      rw [hQQ, ← Option.some.inj hf]
      exact xk_vret (w1 := fun _ : Unit => (wM h0 a cI cB cJ cZ (upI s 0 (fun _ => t0)))) () hx hb hr hlocks hK hS dn_M_set_87 hP hD trivial (Nat.le_refl _) (Nat.le_refl _)
    · have hf := (if_pos h).symm.trans hf
      refine lv_aload_n hx hb dn_M_set_67 rfl (lv_at hl 0 rfl) ?_
      refine va_get (D := (dC, dI)) (ci := 0) (v := .ref ((a 83))) (C := rn_M) (T := fn_M) (N := 91) hx hb hg in_M hown hK hP 0 rfl rfl 83 (by decide) (hg _ wn_8_151) (fun _ h9 => h9) rfl dn_M_set_68 ?_
      refine lv_iload_n hx hb dn_M_set_71 rfl (lv_at hl 1 rfl) ?_
      refine lv_iload_n hx hb dn_M_set_72 rfl (lv_at hl 2 rfl) ?_
      refine lv_i2l (v := Int32.toInt64 x2) hx hb dn_M_set_73 rfl ?_
      obtain ⟨hg_1, hf⟩ := dc_g hf
      refine va_last hx hb hK hP hD hS 57 2 rfl rfl hg_1 dn_M_set_74 (fun H locs hP hD hS => ?_)
      have hP : va_P (dC, dI) xcl (wM h0 a cI cB cJ cZ (upJ (upI s 0 (fun _ => t0)) 83 (vp_updL (s.2 83) (Int32.toNatClampNeg x1) ((Int32.toInt64 x2))))) H := hP
      have hD : va_D A (wM h0 a cI cB cJ cZ (upJ (upI s 0 (fun _ => t0)) 83 (vp_updL (s.2 83) (Int32.toNatClampNeg x1) ((Int32.toInt64 x2))))) := hD
      refine lv_aload_n hx hb dn_M_set_75 rfl (lv_at hl 0 rfl) ?_
      refine lv_aload_n hx hb dn_M_set_76 rfl (lv_at hl 0 rfl) ?_
      refine va_get (D := (dC, dI)) (ci := 0) (v := .ref ((a 82))) (C := rn_M) (T := fn_M) (N := 91) hx hb hg in_M hown hK hP 0 rfl rfl 82 (by decide) (hg _ wn_8_150) (fun _ h9 => h9) rfl dn_M_set_77 ?_
      refine lv_aload_n hx hb dn_M_set_80 rfl (lv_at hl 0 rfl) ?_
      refine va_get (D := (dC, dI)) (ci := 0) (v := .ref ((a 83))) (C := rn_M) (T := fn_M) (N := 91) hx hb hg in_M hown hK hP 0 rfl rfl 83 (by decide) (hg _ wn_8_151) (fun _ h9 => h9) rfl dn_M_set_81 ?_
      obtain ⟨q_2, hc_3, hf⟩ := dc_b hf
      refine dc_callv (xk_runV (ar := 2) (As := [.ref ((a 82)), .ref ((a 83))]) (rest := []) (ci := 0) (q0 := 0) ⟨hx, hb, hml, hown, hg⟩ hK hN (ct_M_settle_82_83 l dC dI cI cB cJ cZ cQ H.size h0 a (upJ (upI s 0 (fun _ => t0)) 83 (vp_updL (s.2 83) (Int32.toNatClampNeg x1) ((Int32.toInt64 x2)))) q_2 hc_3) hP hD rfl rfl wn_10_204 wn_10_206 sn_M_settle wn_1_13 wn_10_207 rfl rfl (by decide +kernel) ⟨Nat.le_of_ble_eq_true rfl, Nat.le_of_ble_eq_true rfl⟩ rfl hl.1 rfl (Nat.le_of_ble_eq_true rfl) dn_M_set_84 ⟨Nat.le_of_ble_eq_true rfl, Nat.le_of_ble_eq_true rfl⟩) hP hD hS hA (fun _ H locs hw hP hD hS => ?_)
      rw [hQQ, ← Option.some.inj hf]
      exact xk_vret (w1 := fun _ : Unit => (wM h0 a cI cB cJ cZ q_2.2)) () hx hb hr hlocks hK hS dn_M_set_87 hP hD trivial (Nat.le_refl _) (Nat.le_refl _)
  have bl_52 : ∀ (x1 : Int32) (x2 : Int32) (s : ms), bk_M_set_52 x1 x2 s = some y → dcC p l e ({ frames := 4, cells := 0, slots := 0, locals := 120 }) s0 m [.ref h0, .int x1, .int x2].toArray below meth c QQ (dC, dI) A (wM h0 a cI cB cJ cZ s) 52 3 [(0, .ref h0), (1, .int x1), (2, .int x2)] [.ref h0] := by
    intro x1 x2 s hf H locs ls hP hD hS hl
    unfold bk_M_set_52 at hf
    refine lv_iconst (v := 3) hx hb dn_M_set_52 (by decide) ?_
    refine lv_goto (tgt := 57) hx hb dn_M_set_53 (by decide) ?_
    exact bl_57 x1 x2 3 s hf H locs ls hP hD hS hl
  intro H locs ls hP hD hS hl
  unfold fn_M_set at hf
  refine lv_aload_n hx hb dn_M_set_0 rfl (lv_at hl 0 rfl) ?_
  refine lv_aload_n hx hb dn_M_set_1 rfl (lv_at hl 0 rfl) ?_
  refine va_get (D := (dC, dI)) (ci := 0) (v := .int ((s.1 54 0))) (C := rn_M) (T := fn_M) (N := 91) hx hb hg in_M hown hK hP 0 rfl rfl 54 (by decide) (hg _ wn_8_122) (fun _ h9 => h9) rfl dn_M_set_2 ?_
  refine lv_if_ne (tgt := 12) hx hb dn_M_set_5 (by decide) (fun h => ?_) (fun h => ?_)
  · have hf := (if_neg h).symm.trans hf
    refine lv_aload_n hx hb dn_M_set_12 rfl (lv_at hl 0 rfl) ?_
    refine lv_iload_n hx hb dn_M_set_13 rfl (lv_at hl 1 rfl) ?_
    obtain ⟨q_1, hc_2, hf⟩ := dc_b hf
    refine dc_calli (xk_runV (ar := 1) (As := [.int x1]) (rest := [.ref h0]) (ci := 0) (q0 := 0) ⟨hx, hb, hml, hown, hg⟩ hK hN (ct_M_isSignal l dC dI cI cB cJ cZ cQ H.size h0 a x1 s q_1 hc_2) hP hD rfl rfl wn_11_26 wn_11_28 sn_M_isSignal wn_1_13 wn_11_29 rfl rfl (by decide +kernel) ⟨Nat.le_of_ble_eq_true rfl, Nat.le_of_ble_eq_true rfl⟩ rfl hl.1 rfl (Nat.le_of_ble_eq_true rfl) dn_M_set_14 ⟨Nat.le_of_ble_eq_true rfl, Nat.le_of_ble_eq_true rfl⟩) hP hD hS hA (fun r_3 _ H locs hw hP hD hS => ?_)
    have hw : r_3 = q_1.1 := hw
    subst hw
    refine lv_if_ne (tgt := 24) hx hb dn_M_set_17 (by decide) (fun h => ?_) (fun h => ?_)
    · have hf := (if_neg h).symm.trans hf
      refine lv_aload_n hx hb dn_M_set_24 rfl (lv_at hl 0 rfl) ?_
      refine lv_iload_n hx hb dn_M_set_25 rfl (lv_at hl 1 rfl) ?_
      obtain ⟨q_4, hc_5, hf⟩ := dc_b hf
      refine dc_calli (xk_runV (ar := 1) (As := [.int x1]) (rest := [.ref h0]) (ci := 0) (q0 := 0) ⟨hx, hb, hml, hown, hg⟩ hK hN (ct_M_kindOf l dC dI cI cB cJ cZ cQ H.size h0 a x1 q_1.2 q_4 hc_5) hP hD rfl rfl wn_11_30 wn_11_32 sn_M_kindOf wn_1_13 wn_11_33 rfl rfl (by decide +kernel) ⟨Nat.le_of_ble_eq_true rfl, Nat.le_of_ble_eq_true rfl⟩ rfl hl.1 rfl (Nat.le_of_ble_eq_true rfl) dn_M_set_26 ⟨Nat.le_of_ble_eq_true rfl, Nat.le_of_ble_eq_true rfl⟩) hP hD hS hA (fun r_6 _ H locs hw hP hD hS => ?_)
      have hw : r_6 = q_4.1 := hw
      subst hw
      refine lv_if_ne (tgt := 52) hx hb dn_M_set_29 (by decide) (fun h => ?_) (fun h => ?_)
      · have hf := (if_neg h).symm.trans hf
        exact bl_52 x1 x2 q_4.2 hf H locs ls hP hD hS hl
      · have hf := (if_pos h).symm.trans hf
        refine lv_iload_n hx hb dn_M_set_32 rfl (lv_at hl 2 rfl) ?_
        refine lv_if_lt (tgt := 52) hx hb dn_M_set_33 (by decide) (fun h => ?_) (fun h => ?_)
        · have hf := (if_pos h).symm.trans hf
          exact bl_52 x1 x2 q_4.2 hf H locs ls hP hD hS hl
        · have hf := (if_neg h).symm.trans hf
          refine lv_iload_n hx hb dn_M_set_36 rfl (lv_at hl 2 rfl) ?_
          refine lv_aload_n hx hb dn_M_set_37 rfl (lv_at hl 0 rfl) ?_
          refine va_get (D := (dC, dI)) (ci := 0) (v := .ref ((a 20))) (C := rn_M) (T := fn_M) (N := 91) hx hb hg in_M hown hK hP 0 rfl rfl 20 (by decide) (hg _ wn_8_88) (fun _ h9 => h9) rfl dn_M_set_38 ?_
          refine lv_aload_n hx hb dn_M_set_41 rfl (lv_at hl 0 rfl) ?_
          refine va_get (D := (dC, dI)) (ci := 0) (v := .ref ((a 64))) (C := rn_M) (T := fn_M) (N := 91) hx hb hg in_M hown hK hP 0 rfl rfl 64 (by decide) (hg _ wn_8_132) (fun _ h9 => h9) rfl dn_M_set_42 ?_
          refine lv_iload_n hx hb dn_M_set_45 rfl (lv_at hl 1 rfl) ?_
          obtain ⟨hg_7, hf⟩ := dc_g hf
          refine va_iald hx hb hK hP 44 0 rfl rfl hg_7 dn_M_set_46 ?_
          refine xk_ti (y := ((q_4.2.1 64) (Int32.toNatClampNeg x1))) rfl ?_
          obtain ⟨hg_8, hf⟩ := dc_g hf
          refine va_iald hx hb hK hP 11 0 rfl rfl hg_8 dn_M_set_47 ?_
          refine xk_ti (y := ((q_4.2.1 20) (Int32.toNatClampNeg (((q_4.2.1 64) (Int32.toNatClampNeg x1)))))) rfl ?_
          refine lv_ishr hx hb dn_M_set_48 ?_
          refine lv_if_eq (tgt := 56) hx hb dn_M_set_49 (by decide) (fun h => ?_) (fun h => ?_)
          · have hf := (if_pos h).symm.trans hf
            refine lv_iconst (v := 0) hx hb dn_M_set_56 (by decide) ?_
            exact bl_57 x1 x2 0 q_4.2 hf H locs ls hP hD hS hl
          · have hf := (if_neg h).symm.trans hf
            exact bl_52 x1 x2 q_4.2 hf H locs ls hP hD hS hl
    · have hf := (if_pos h).symm.trans hf
      refine lv_iconst (v := 2) hx hb dn_M_set_20 (by decide) ?_
      refine lv_goto (tgt := 57) hx hb dn_M_set_21 (by decide) ?_
      exact bl_57 x1 x2 2 q_1.2 hf H locs ls hP hD hS hl
  · have hf := (if_pos h).symm.trans hf
    refine lv_iconst (v := 1) hx hb dn_M_set_8 (by decide) ?_
    refine lv_goto (tgt := 57) hx hb dn_M_set_9 (by decide) ?_
    exact bl_57 x1 x2 1 s hf H locs ls hP hD hS hl
def bd_M_goOn_82_50 (k_27 : Int32 → ms → Option (Unit × ms)) (k_50 : Int32 → Int32 → Int32 → ms → Option (Unit × ms)) (x2 : Int32) (x3 : Int32) (x4 : Int32) (s : ms) : Option (Unit × ms) :=
  if ((x3 + 1) < 0 ∨ 3601 ≤ Int32.toNatClampNeg ((x3 + 1))) then none else if ((s.1 17) (Int32.toNatClampNeg ((x3 + 1)))) ≤ x4 then (k_27 ((x2 + 1)) s) else (if (x4 < 0 ∨ 6600 ≤ Int32.toNatClampNeg x4) then none else if (x4 < 0 ∨ 6600 ≤ Int32.toNatClampNeg x4) then none else (fn_M_run (((s.1 39) (Int32.toNatClampNeg x4))) (((s.1 40) (Int32.toNatClampNeg x4))) x2 s).bind (fun q_4 => k_50 x2 x3 ((x4 + 1)) q_4.2))
def hd_M_goOn_82_50 (k_27 : Int32 → ms → Option (Unit × ms)) : Nat → Int32 → Int32 → Int32 → ms → Option (Unit × ms)
  | 0, _, _, _, _ => none
  | n + 1, x2, x3, x4, s => bd_M_goOn_82_50 k_27 (hd_M_goOn_82_50 k_27 n) x2 x3 x4 s
def bd_M_goOn_82_27 (k_27 : Int32 → ms → Option (Unit × ms)) (x2 : Int32) (s : ms) : Option (Unit × ms) :=
  if (s.1 56 0) ≤ x2 then (some ((), s)) else (if (x2 < 0 ∨ 260 ≤ Int32.toNatClampNeg x2) then none else if (((s.1 57) (Int32.toNatClampNeg x2)) < 0 ∨ 3601 ≤ Int32.toNatClampNeg (((s.1 57) (Int32.toNatClampNeg x2)))) then none else hd_M_goOn_82_50 k_27 dc_N x2 (((s.1 57) (Int32.toNatClampNeg x2))) (((s.1 17) (Int32.toNatClampNeg (((s.1 57) (Int32.toNatClampNeg x2)))))) s)
def hd_M_goOn_82_27 : Nat → Int32 → ms → Option (Unit × ms)
  | 0, _, _ => none
  | n + 1, x2, s => bd_M_goOn_82_27 (hd_M_goOn_82_27 n) x2 s
def bd_M_goOn_82_2 (k_2 : Int32 → ms → Option (Unit × ms)) (x2 : Int32) (s : ms) : Option (Unit × ms) :=
  if (s.1 63 0) ≤ x2 then (hd_M_goOn_82_27 dc_N 0 s) else (if (x2 < 0 ∨ 1100 ≤ Int32.toNatClampNeg x2) then none else if (x2 < 0 ∨ 1100 ≤ Int32.toNatClampNeg x2) then none else k_2 ((x2 + 1)) (upJ s 81 (vp_updL (s.2 81) (Int32.toNatClampNeg x2) (((s.2 82) (Int32.toNatClampNeg x2))))))
def hd_M_goOn_82_2 : Nat → Int32 → ms → Option (Unit × ms)
  | 0, _, _ => none
  | n + 1, x2, s => bd_M_goOn_82_2 (hd_M_goOn_82_2 n) x2 s
def fn_M_goOn_82 (s : ms) : Option (Unit × ms) :=
  hd_M_goOn_82_2 dc_N 0 s
set_option maxHeartbeats 8000000 in
set_option maxRecDepth 100000 in
theorem ct_M_goOn_82 (l : Launch) (dC : Nat → ClassId) (dI : Nat → Nat → Nat) (cI cB cJ cZ cQ : ClassId) (sz : Nat) (h0 : Nat) (a : Nat → Nat) (s : ms) (y : (Unit × ms)) (hf : fn_M_goOn_82 s = some y) : Met l yn_M_goOn (xw yn_M_goOn bn_M_goOn 5 none) ({ frames := 3, cells := 0, slots := 0, locals := 96 }) (xk_P (dC, dI) xcl (xt cI cB cJ cZ cQ) [.ref h0, .ref ((a 82))] sz (wM h0 a cI cB cJ cZ s)) (xk_Qv (dC, dI) xcl (xt cI cB cJ cZ cQ) (fun _ : Unit => True) (fun _ : Unit => (wM h0 a cI cB cJ cZ y.2)) (va_A (wM h0 a cI cB cJ cZ s) sz)) 0 0 (va_A (wM h0 a cI cB cJ cZ s) sz) := by
  refine xk_of (QA := xk_Qv (dC, dI) xcl (xt cI cB cJ cZ cQ) (fun _ : Unit => True) (fun _ : Unit => (wM h0 a cI cB cJ cZ y.2))) (by decide) (Nat.le_of_ble_eq_true rfl) ?_
  intro p e s0 m below meth c hx hb hml hown hg hr hlocks hin hP hK hN A hA hD hS ls hl
  have hown : s0.vm.findClass rn_M = some m.cls := hown
  obtain ⟨H, hH⟩ : ∃ z, z = s0.heap := ⟨_, rfl⟩
  rw [← hH] at hP
  have hS : va_S A s0.heap H [] := by rw [hH]; exact va_S.rf
  suffices kk : ∀ QQ : State → Prop, QQ = MQ below (xk_Qv (dC, dI) xcl (xt cI cB cJ cZ cQ) (fun _ : Unit => True) (fun _ : Unit => (wM h0 a cI cB cJ cZ y.2)) A) [.ref h0, .ref ((a 82))].toArray s0 0 0 A → dcC p l e ({ frames := 3, cells := 0, slots := 0, locals := 96 }) s0 m [.ref h0, .ref ((a 82))].toArray below meth c QQ (dC, dI) A (wM h0 a cI cB cJ cZ s) 0 5 [(0, .ref h0), (1, .ref ((a 82)))] [] by
    have k9 := kk _ rfl H [] ls hP hD hS hl
    rw [hH] at k9; exact k9
  clear hP hD hS hl hH H ls
  intro QQ hQQ
  have hd_50 : ∀ (k_27 : Int32 → ms → Option (Unit × ms)) (hk_27 : ∀ (x2 : Int32) (s : ms), k_27 x2 s = some y → dcC p l e ({ frames := 3, cells := 0, slots := 0, locals := 96 }) s0 m [.ref h0, .ref ((a 82))].toArray below meth c QQ (dC, dI) A (wM h0 a cI cB cJ cZ s) 27 5 [(0, .ref h0), (2, .int x2)] []) (n : Nat) (x2 : Int32) (x3 : Int32) (x4 : Int32) (s : ms), hd_M_goOn_82_50 k_27 n x2 x3 x4 s = some y → dcC p l e ({ frames := 3, cells := 0, slots := 0, locals := 96 }) s0 m [.ref h0, .ref ((a 82))].toArray below meth c QQ (dC, dI) A (wM h0 a cI cB cJ cZ s) 50 5 [(0, .ref h0), (2, .int x2), (3, .int x3), (4, .int x4)] [] := by
    intro k_27 hk_27 n
    induction n with
    | zero => intro x2 x3 x4 s hf; cases hf
    | succ n ih =>
      intro x2 x3 x4 s hf H locs ls hP hD hS hl
      have hf : bd_M_goOn_82_50 k_27 (hd_M_goOn_82_50 k_27 n) x2 x3 x4 s = some y := hf
      have hk_50 := ih
      generalize hd_M_goOn_82_50 k_27 n = k_50 at hf hk_50
      unfold bd_M_goOn_82_50 at hf
      refine lv_iload hx hb dn_M_goOn_50 (lv_at hl 3 rfl) ?_
      refine lv_aload_n hx hb dn_M_goOn_52 rfl (lv_at hl 0 rfl) ?_
      refine va_get (D := (dC, dI)) (ci := 0) (v := .ref ((a 17))) (C := rn_M) (T := fn_M) (N := 91) hx hb hg in_M hown hK hP 0 rfl rfl 17 (by decide) (hg _ wn_8_85) (fun _ h9 => h9) rfl dn_M_goOn_53 ?_
      refine lv_iload_n hx hb dn_M_goOn_56 rfl (lv_at hl 2 rfl) ?_
      refine lv_iconst (v := 1) hx hb dn_M_goOn_57 (by decide) ?_
      refine lv_iadd hx hb dn_M_goOn_58 ?_
      obtain ⟨hg_1, hf⟩ := dc_g hf
      refine va_iald hx hb hK hP 9 0 rfl rfl hg_1 dn_M_goOn_59 ?_
      refine xk_ti (y := ((s.1 17) (Int32.toNatClampNeg ((x3 + 1))))) rfl ?_
      refine lv_icmp_ge (tgt := 88) hx hb dn_M_goOn_60 (by decide) (fun h => ?_) (fun h => ?_)
      · have hf := (if_pos h).symm.trans hf
        refine lv_iinc (v := (x2 + 1)) (lv' := [(2, .int ((x2 + 1))), (0, .ref h0), (3, .int x3), (4, .int x4)]) hx hb dn_M_goOn_88 hl (k := 1) rfl (dc_inc (by decide)) (by decide) rfl (fun ls hl => ?_)
        refine lv_goto (tgt := 27) hx hb dn_M_goOn_91 (by decide) ?_
        exact hk_27 ((x2 + 1)) s hf H locs ls hP hD hS (lv_sub hl [1, 0] rfl)
      · have hf := (if_neg h).symm.trans hf
        refine lv_aload_n hx hb dn_M_goOn_63 rfl (lv_at hl 0 rfl) ?_
        refine lv_aload_n hx hb dn_M_goOn_64 rfl (lv_at hl 0 rfl) ?_
        refine va_get (D := (dC, dI)) (ci := 0) (v := .ref ((a 39))) (C := rn_M) (T := fn_M) (N := 91) hx hb hg in_M hown hK hP 0 rfl rfl 39 (by decide) (hg _ wn_8_107) (fun _ h9 => h9) rfl dn_M_goOn_65 ?_
        refine lv_iload hx hb dn_M_goOn_68 (lv_at hl 3 rfl) ?_
        obtain ⟨hg_2, hf⟩ := dc_g hf
        refine va_iald hx hb hK hP 26 0 rfl rfl hg_2 dn_M_goOn_70 ?_
        refine xk_ti (y := ((s.1 39) (Int32.toNatClampNeg x4))) rfl ?_
        refine lv_aload_n hx hb dn_M_goOn_71 rfl (lv_at hl 0 rfl) ?_
        refine va_get (D := (dC, dI)) (ci := 0) (v := .ref ((a 40))) (C := rn_M) (T := fn_M) (N := 91) hx hb hg in_M hown hK hP 0 rfl rfl 40 (by decide) (hg _ wn_8_108) (fun _ h9 => h9) rfl dn_M_goOn_72 ?_
        refine lv_iload hx hb dn_M_goOn_75 (lv_at hl 3 rfl) ?_
        obtain ⟨hg_3, hf⟩ := dc_g hf
        refine va_iald hx hb hK hP 27 0 rfl rfl hg_3 dn_M_goOn_77 ?_
        refine xk_ti (y := ((s.1 40) (Int32.toNatClampNeg x4))) rfl ?_
        refine lv_iload_n hx hb dn_M_goOn_78 rfl (lv_at hl 1 rfl) ?_
        obtain ⟨q_4, hc_5, hf⟩ := dc_b hf
        refine dc_callv (xk_runV (ar := 3) (As := [.int (((s.1 39) (Int32.toNatClampNeg x4))), .int (((s.1 40) (Int32.toNatClampNeg x4))), .int x2]) (rest := []) (ci := 0) (q0 := 0) ⟨hx, hb, hml, hown, hg⟩ hK hN (ct_M_run l dC dI cI cB cJ cZ cQ H.size h0 a (((s.1 39) (Int32.toNatClampNeg x4))) (((s.1 40) (Int32.toNatClampNeg x4))) x2 s q_4 hc_5) hP hD rfl rfl wn_10_208 wn_10_210 sn_M_run wn_1_13 wn_10_211 rfl rfl (by decide +kernel) ⟨Nat.le_of_ble_eq_true rfl, Nat.le_of_ble_eq_true rfl⟩ rfl hl.1 rfl (Nat.le_of_ble_eq_true rfl) dn_M_goOn_79 ⟨Nat.le_of_ble_eq_true rfl, Nat.le_of_ble_eq_true rfl⟩) hP hD hS hA (fun _ H locs hw hP hD hS => ?_)
        refine lv_iinc (v := (x4 + 1)) (lv' := [(4, .int ((x4 + 1))), (0, .ref h0), (2, .int x2), (3, .int x3)]) hx hb dn_M_goOn_82 hl (k := 3) rfl (dc_inc (by decide)) (by decide) rfl (fun ls hl => ?_)
        refine lv_goto (tgt := 50) hx hb dn_M_goOn_85 (by decide) ?_
        exact hk_50 x2 x3 ((x4 + 1)) q_4.2 hf H locs ls hP hD hS (lv_sub hl [1, 2, 3, 0] rfl)
  have hd_27 : ∀ (n : Nat) (x2 : Int32) (s : ms), hd_M_goOn_82_27 n x2 s = some y → dcC p l e ({ frames := 3, cells := 0, slots := 0, locals := 96 }) s0 m [.ref h0, .ref ((a 82))].toArray below meth c QQ (dC, dI) A (wM h0 a cI cB cJ cZ s) 27 5 [(0, .ref h0), (2, .int x2)] [] := by
    intro n
    induction n with
    | zero => intro x2 s hf; cases hf
    | succ n ih =>
      intro x2 s hf H locs ls hP hD hS hl
      have hf : bd_M_goOn_82_27 (hd_M_goOn_82_27 n) x2 s = some y := hf
      have hk_27 := ih
      generalize hd_M_goOn_82_27 n = k_27 at hf hk_27
      unfold bd_M_goOn_82_27 at hf
      refine lv_iload_n hx hb dn_M_goOn_27 rfl (lv_at hl 1 rfl) ?_
      refine lv_aload_n hx hb dn_M_goOn_28 rfl (lv_at hl 0 rfl) ?_
      refine va_get (D := (dC, dI)) (ci := 0) (v := .int ((s.1 56 0))) (C := rn_M) (T := fn_M) (N := 91) hx hb hg in_M hown hK hP 0 rfl rfl 56 (by decide) (hg _ wn_8_124) (fun _ h9 => h9) rfl dn_M_goOn_29 ?_
      refine lv_icmp_ge (tgt := 94) hx hb dn_M_goOn_32 (by decide) (fun h => ?_) (fun h => ?_)
      · have hf := (if_pos h).symm.trans hf
        rw [hQQ, ← Option.some.inj hf]
        exact xk_vret (w1 := fun _ : Unit => (wM h0 a cI cB cJ cZ s)) () hx hb hr hlocks hK hS dn_M_goOn_94 hP hD trivial (Nat.le_refl _) (Nat.le_refl _)
      · have hf := (if_neg h).symm.trans hf
        refine lv_aload_n hx hb dn_M_goOn_35 rfl (lv_at hl 0 rfl) ?_
        refine va_get (D := (dC, dI)) (ci := 0) (v := .ref ((a 57))) (C := rn_M) (T := fn_M) (N := 91) hx hb hg in_M hown hK hP 0 rfl rfl 57 (by decide) (hg _ wn_8_125) (fun _ h9 => h9) rfl dn_M_goOn_36 ?_
        refine lv_iload_n hx hb dn_M_goOn_39 rfl (lv_at hl 1 rfl) ?_
        obtain ⟨hg_1, hf⟩ := dc_g hf
        refine va_iald hx hb hK hP 38 0 rfl rfl hg_1 dn_M_goOn_40 ?_
        refine xk_ti (y := ((s.1 57) (Int32.toNatClampNeg x2))) rfl ?_
        refine lv_istore_n (lv' := [(3, .int (((s.1 57) (Int32.toNatClampNeg x2)))), (0, .ref h0), (2, .int x2)]) hx hb dn_M_goOn_41 rfl hl (by decide) rfl (fun ls hl => ?_)
        refine lv_aload_n hx hb dn_M_goOn_42 rfl (lv_at hl 1 rfl) ?_
        refine va_get (D := (dC, dI)) (ci := 0) (v := .ref ((a 17))) (C := rn_M) (T := fn_M) (N := 91) hx hb hg in_M hown hK hP 0 rfl rfl 17 (by decide) (hg _ wn_8_85) (fun _ h9 => h9) rfl dn_M_goOn_43 ?_
        refine lv_iload_n hx hb dn_M_goOn_46 rfl (lv_at hl 0 rfl) ?_
        obtain ⟨hg_2, hf⟩ := dc_g hf
        refine va_iald hx hb hK hP 9 0 rfl rfl hg_2 dn_M_goOn_47 ?_
        refine xk_ti (y := ((s.1 17) (Int32.toNatClampNeg (((s.1 57) (Int32.toNatClampNeg x2)))))) rfl ?_
        refine lv_istore (lv' := [(4, .int (((s.1 17) (Int32.toNatClampNeg (((s.1 57) (Int32.toNatClampNeg x2))))))), (3, .int (((s.1 57) (Int32.toNatClampNeg x2)))), (0, .ref h0), (2, .int x2)]) hx hb dn_M_goOn_48 hl (by decide) rfl (fun ls hl => ?_)
        exact hd_50 k_27 hk_27 dc_N x2 (((s.1 57) (Int32.toNatClampNeg x2))) (((s.1 17) (Int32.toNatClampNeg (((s.1 57) (Int32.toNatClampNeg x2)))))) s hf H locs ls hP hD hS (lv_sub hl [2, 3, 1, 0] rfl)
  have hd_2 : ∀ (n : Nat) (x2 : Int32) (s : ms), hd_M_goOn_82_2 n x2 s = some y → dcC p l e ({ frames := 3, cells := 0, slots := 0, locals := 96 }) s0 m [.ref h0, .ref ((a 82))].toArray below meth c QQ (dC, dI) A (wM h0 a cI cB cJ cZ s) 2 5 [(0, .ref h0), (1, .ref ((a 82))), (2, .int x2)] [] := by
    intro n
    induction n with
    | zero => intro x2 s hf; cases hf
    | succ n ih =>
      intro x2 s hf H locs ls hP hD hS hl
      have hf : bd_M_goOn_82_2 (hd_M_goOn_82_2 n) x2 s = some y := hf
      have hk_2 := ih
      generalize hd_M_goOn_82_2 n = k_2 at hf hk_2
      unfold bd_M_goOn_82_2 at hf
      refine lv_iload_n hx hb dn_M_goOn_2 rfl (lv_at hl 2 rfl) ?_
      refine lv_aload_n hx hb dn_M_goOn_3 rfl (lv_at hl 0 rfl) ?_
      refine va_get (D := (dC, dI)) (ci := 0) (v := .int ((s.1 63 0))) (C := rn_M) (T := fn_M) (N := 91) hx hb hg in_M hown hK hP 0 rfl rfl 63 (by decide) (hg _ wn_8_131) (fun _ h9 => h9) rfl dn_M_goOn_4 ?_
      refine lv_icmp_ge (tgt := 25) hx hb dn_M_goOn_7 (by decide) (fun h => ?_) (fun h => ?_)
      · have hf := (if_pos h).symm.trans hf
        refine lv_iconst (v := 0) hx hb dn_M_goOn_25 (by decide) ?_
        refine lv_istore_n (lv' := [(2, .int 0), (0, .ref h0), (1, .ref ((a 82)))]) hx hb dn_M_goOn_26 rfl hl (by decide) rfl (fun ls hl => ?_)
        exact hd_27 dc_N 0 s hf H locs ls hP hD hS (lv_sub hl [1, 0] rfl)
      · have hf := (if_neg h).symm.trans hf
        refine lv_aload_n hx hb dn_M_goOn_10 rfl (lv_at hl 0 rfl) ?_
        refine va_get (D := (dC, dI)) (ci := 0) (v := .ref ((a 81))) (C := rn_M) (T := fn_M) (N := 91) hx hb hg in_M hown hK hP 0 rfl rfl 81 (by decide) (hg _ wn_8_149) (fun _ h9 => h9) rfl dn_M_goOn_11 ?_
        refine lv_iload_n hx hb dn_M_goOn_14 rfl (lv_at hl 2 rfl) ?_
        refine lv_aload_n hx hb dn_M_goOn_15 rfl (lv_at hl 1 rfl) ?_
        refine lv_iload_n hx hb dn_M_goOn_16 rfl (lv_at hl 2 rfl) ?_
        obtain ⟨hg_1, hf⟩ := dc_g hf
        refine va_lald hx hb hK hP 56 2 rfl rfl hg_1 dn_M_goOn_17 ?_
        refine xk_tl (y := ((s.2 82) (Int32.toNatClampNeg x2))) rfl ?_
        obtain ⟨hg_2, hf⟩ := dc_g hf
        refine va_last hx hb hK hP hD hS 55 2 rfl rfl hg_2 dn_M_goOn_18 (fun H locs hP hD hS => ?_)
        have hP : va_P (dC, dI) xcl (wM h0 a cI cB cJ cZ (upJ s 81 (vp_updL (s.2 81) (Int32.toNatClampNeg x2) (((s.2 82) (Int32.toNatClampNeg x2)))))) H := hP
        have hD : va_D A (wM h0 a cI cB cJ cZ (upJ s 81 (vp_updL (s.2 81) (Int32.toNatClampNeg x2) (((s.2 82) (Int32.toNatClampNeg x2)))))) := hD
        refine lv_iinc (v := (x2 + 1)) (lv' := [(2, .int ((x2 + 1))), (0, .ref h0), (1, .ref ((a 82)))]) hx hb dn_M_goOn_19 hl (k := 2) rfl (dc_inc (by decide)) (by decide) rfl (fun ls hl => ?_)
        refine lv_goto (tgt := 2) hx hb dn_M_goOn_22 (by decide) ?_
        exact hk_2 ((x2 + 1)) (upJ s 81 (vp_updL (s.2 81) (Int32.toNatClampNeg x2) (((s.2 82) (Int32.toNatClampNeg x2))))) hf H locs ls hP hD hS (lv_sub hl [1, 2, 0] rfl)
  intro H locs ls hP hD hS hl
  unfold fn_M_goOn_82 at hf
  refine lv_iconst (v := 0) hx hb dn_M_goOn_0 (by decide) ?_
  refine lv_istore_n (lv' := [(2, .int 0), (0, .ref h0), (1, .ref ((a 82)))]) hx hb dn_M_goOn_1 rfl hl (by decide) rfl (fun ls hl => ?_)
  exact hd_2 dc_N 0 s hf H locs ls hP hD hS (lv_sub hl [1, 2, 0] rfl)
