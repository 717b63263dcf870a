/-! The two methods of the reference whose rows grow. -/
theorem dc_e {R : Type} {v : R} {t : ms} {y : R × ms} (h : some (v, t) = some y) : gl y.2 = gl t := by
  cases h; rfl
theorem lay_put_gl {v1 : Int32} {v2 : Int32} {v3 : Int32} {s : ms} {y : (Unit × ms)} (hf : lay_put v1 v2 v3 s = some y) : gl y.2 = gl s := by
  unfold lay_put at hf
  obtain ⟨_, hf⟩ := dc_g hf
  obtain ⟨_, hf⟩ := dc_g hf
  obtain ⟨_, hf⟩ := dc_g hf
  rw [← Option.some.inj hf]
  rfl
theorem lay_grow_gl {s : ms} (h : ¬ 400000 < (s.1 91 0).toNatClampNeg) : gl (lay_grow s) = gl s + (s.1 91 0).toNatClampNeg := by
  show (nI (2 * (s.1 91 0).toNatClampNeg)).toNatClampNeg + (s.1 92 0).toNatClampNeg = (s.1 91 0).toNatClampNeg + (s.1 92 0).toNatClampNeg + (s.1 91 0).toNatClampNeg
  rw [nI_clamp (by omega)]; omega
theorem mn_M_lay (N : Nat) (v1 : Int32) (v2 : Int32) (v3 : Int32) (s : ms) (y : (Unit × ms)) (hf : fn_M_lay N v1 v2 v3 s = some y) : gl s ≤ gl y.2 := by
  unfold fn_M_lay at hf
  by_cases h : s.1 42 0 + 3 ≤ Int32.ofNat (s.1 91 0).toNatClampNeg
  · have hf := (if_pos h).symm.trans hf
    exact Nat.le_of_eq (lay_put_gl hf).symm
  · have hf := (if_neg h).symm.trans hf
    obtain ⟨hg, hf⟩ := dc_g hf
    rw [lay_put_gl hf, lay_grow_gl (fun h => hg (Or.inl h))]
    omega
set_option maxHeartbeats 8000000 in
set_option maxRecDepth 100000 in
theorem ct_M_lay (l : Launch) (dC : Nat → ClassId) (dI : Nat → Nat → Nat) (cI cB cJ cZ cQ : ClassId) (N sz : Nat) (h0 : Nat) (a : Nat → Nat) (v1 : Int32) (v2 : Int32) (v3 : Int32) (s : ms) (y : (Unit × ms)) (hf : fn_M_lay N v1 v2 v3 s = some y) : Met l yn_M_lay (xw yn_M_lay bn_M_lay 6 none) ({ frames := 0, cells := 2 * (gl y.2 - gl s), slots := 2 * (gl y.2 - gl s), locals := 0 }) (dc_P (dC, dI) xcl (xt cI cB cJ cZ cQ) [.ref h0, .int v1, .int v2, .int v3] sz (wM h0 a cI cB cJ cZ s)) (xk_Qv (dC, dI) xcl (xt cI cB cJ cZ cQ) (fun _ : Nat → Nat => True) (fun u : Nat → Nat => (wM h0 u cI cB cJ cZ y.2)) (va_A (wM h0 a cI cB cJ cZ s) sz)) (2 * (gl y.2 - gl s)) (2 * (gl y.2 - gl s)) (va_A (wM h0 a cI cB cJ cZ s) sz) := by
  have hml0 := mn_M_lay N v1 v2 v3 s y hf
  refine dc_of (QA := xk_Qv (dC, dI) xcl (xt cI cB cJ cZ cQ) (fun _ : Nat → Nat => True) (fun u : Nat → Nat => (wM h0 u cI cB cJ cZ y.2))) (by decide) (Nat.le_of_ble_eq_true rfl) ?_
  intro p e s0 m below meth c hx hb hml hown hg hr hlocks hin hP hK hN A hA hD hT ls hl
  have hown : s0.vm.findClass rn_M = some m.cls := hown
  have hl : lv_has ls 6 [(0, .ref h0), (1, .int v1), (2, .int v2), (3, .int v3)] := hl
  obtain ⟨H, hH⟩ : ∃ z, z = s0.heap := ⟨_, rfl⟩
  rw [← hH] at hP
  have hS : va_S A s0.heap H [] := by rw [hH]; exact va_S.rf
  suffices kk : ∀ QQ : State → Prop, QQ = MQ below (xk_Qv (dC, dI) xcl (xt cI cB cJ cZ cQ) (fun _ : Nat → Nat => True) (fun u : Nat → Nat => (wM h0 u cI cB cJ cZ y.2)) A) [.ref h0, .int v1, .int v2, .int v3].toArray s0 (2 * (gl y.2 - gl s)) (2 * (gl y.2 - gl s)) A → W p l e ({ frames := 0, cells := 2 * (gl y.2 - gl s), slots := 2 * (gl y.2 - gl s), locals := 0 }) s0 m [.ref h0, .int v1, .int v2, .int v3].toArray below meth c H [] 0 0 QQ (F0 m 0 ls []) by
    have k9 := kk _ rfl
    rw [hH] at k9; exact k9
  intro QQ hQQ
  have put : ∀ (a : Nat → Nat) (s1 : ms) (k : Nat) (H : Heap) (locs : List Loc) (ls : Array Slot), lay_put v1 v2 v3 s1 = some y → k ≤ 2 * (gl y.2 - gl s) → va_P (dC, dI) xcl (wM h0 a cI cB cJ cZ s1) H → va_D A (wM h0 a cI cB cJ cZ s1) → va_S A s0.heap H locs → lv_has ls 6 [(0, .ref h0), (1, .int v1), (2, .int v2), (3, .int v3)] → W p l e ({ frames := 0, cells := 2 * (gl y.2 - gl s), slots := 2 * (gl y.2 - gl s), locals := 0 }) s0 m [.ref h0, .int v1, .int v2, .int v3].toArray below meth c H locs k k QQ (F0 m 61 ls []) := by
    intro a s1 k H locs ls hf hk hP hD hS hl
    unfold lay_put at hf
    refine lv_aload_n hx hb dn_M_lay_61 rfl (lv_at hl 0 rfl) ?_
    refine va_get (D := (dC, dI)) (ci := 0) (v := .ref ((a 41))) (C := rn_M) (T := fn_M) (N := 91) hx hb hg in_M hown hK hP 0 rfl rfl 41 (by decide) (hg _ wn_8_114) (fun _ h9 => h9) rfl dn_M_lay_62 ?_
    refine lv_aload_n hx hb dn_M_lay_65 rfl (lv_at hl 0 rfl) ?_
    refine va_get (D := (dC, dI)) (ci := 0) (v := .int ((s1.1 42 0))) (C := rn_M) (T := fn_M) (N := 91) hx hb hg in_M hown hK hP 0 rfl rfl 42 (by decide) (hg _ wn_8_115) (fun _ h9 => h9) rfl dn_M_lay_66 ?_
    refine lv_iload_n hx hb dn_M_lay_69 rfl (lv_at hl 1 rfl) ?_
    obtain ⟨hg_1, hf⟩ := dc_g hf
    refine va_iast hx hb hK hP hD hS 28 0 rfl rfl hg_1 dn_M_lay_70 (fun H locs hP hD hS => ?_)
    have hP : va_P (dC, dI) xcl ((wM h0 a cI cB cJ cZ s1).set 28 ((a 41), .inl (cI, (s1.1 91 0).toNatClampNeg, .inl (upd (s1.1 41) (Int32.toNatClampNeg ((s1.1 42 0))) v1)))) H := hP
    have hD : va_D A ((wM h0 a cI cB cJ cZ s1).set 28 ((a 41), .inl (cI, (s1.1 91 0).toNatClampNeg, .inl (upd (s1.1 41) (Int32.toNatClampNeg ((s1.1 42 0))) v1)))) := hD
    have hP := wM_P_41 hP
    have hD := wM_D_41 hD
    refine lv_aload_n hx hb dn_M_lay_71 rfl (lv_at hl 0 rfl) ?_
    refine va_get (D := (dC, dI)) (ci := 0) (v := .ref ((a 41))) (C := rn_M) (T := fn_M) (N := 91) hx hb hg in_M hown hK hP 0 rfl rfl 41 (by decide) (hg _ wn_8_114) (fun _ h9 => h9) rfl dn_M_lay_72 ?_
    refine lv_aload_n hx hb dn_M_lay_75 rfl (lv_at hl 0 rfl) ?_
    refine va_get (D := (dC, dI)) (ci := 0) (v := .int ((s1.1 42 0))) (C := rn_M) (T := fn_M) (N := 91) hx hb hg in_M hown hK hP 0 rfl rfl 42 (by decide) (hg _ wn_8_115) (fun _ h9 => h9) rfl dn_M_lay_76 ?_
    refine lv_iconst (v := 1) hx hb dn_M_lay_79 (by decide) ?_
    refine lv_iadd hx hb dn_M_lay_80 ?_
    refine lv_iload_n hx hb dn_M_lay_81 rfl (lv_at hl 2 rfl) ?_
    obtain ⟨hg_2, hf⟩ := dc_g hf
    refine va_iast hx hb hK hP hD hS 28 0 rfl rfl hg_2 dn_M_lay_82 (fun H locs hP hD hS => ?_)
    have hP : va_P (dC, dI) xcl ((wM h0 a cI cB cJ cZ (upI s1 41 (upd (s1.1 41) (Int32.toNatClampNeg ((s1.1 42 0))) v1))).set 28 ((a 41), .inl (cI, ((upI s1 41 (upd (s1.1 41) (Int32.toNatClampNeg ((s1.1 42 0))) v1)).1 91 0).toNatClampNeg, .inl (upd (upd (s1.1 41) (Int32.toNatClampNeg ((s1.1 42 0))) v1) (Int32.toNatClampNeg (((s1.1 42 0) + 1))) v2)))) H := hP
    have hD : va_D A ((wM h0 a cI cB cJ cZ (upI s1 41 (upd (s1.1 41) (Int32.toNatClampNeg ((s1.1 42 0))) v1))).set 28 ((a 41), .inl (cI, ((upI s1 41 (upd (s1.1 41) (Int32.toNatClampNeg ((s1.1 42 0))) v1)).1 91 0).toNatClampNeg, .inl (upd (upd (s1.1 41) (Int32.toNatClampNeg ((s1.1 42 0))) v1) (Int32.toNatClampNeg (((s1.1 42 0) + 1))) v2)))) := hD
    have hP := wM_P_41 hP
    have hD := wM_D_41 hD
    refine lv_aload_n hx hb dn_M_lay_83 rfl (lv_at hl 0 rfl) ?_
    refine va_get (D := (dC, dI)) (ci := 0) (v := .ref ((a 41))) (C := rn_M) (T := fn_M) (N := 91) hx hb hg in_M hown hK hP 0 rfl rfl 41 (by decide) (hg _ wn_8_114) (fun _ h9 => h9) rfl dn_M_lay_84 ?_
    refine lv_aload_n hx hb dn_M_lay_87 rfl (lv_at hl 0 rfl) ?_
    refine va_get (D := (dC, dI)) (ci := 0) (v := .int ((s1.1 42 0))) (C := rn_M) (T := fn_M) (N := 91) hx hb hg in_M hown hK hP 0 rfl rfl 42 (by decide) (hg _ wn_8_115) (fun _ h9 => h9) rfl dn_M_lay_88 ?_
    refine lv_iconst (v := 2) hx hb dn_M_lay_91 (by decide) ?_
    refine lv_iadd hx hb dn_M_lay_92 ?_
    refine lv_iload_n hx hb dn_M_lay_93 rfl (lv_at hl 3 rfl) ?_
    obtain ⟨hg_3, hf⟩ := dc_g hf
    refine va_iast hx hb hK hP hD hS 28 0 rfl rfl hg_3 dn_M_lay_94 (fun H locs hP hD hS => ?_)
    have hP : va_P (dC, dI) xcl ((wM h0 a cI cB cJ cZ (upI (upI s1 41 (upd (s1.1 41) (Int32.toNatClampNeg ((s1.1 42 0))) v1)) 41 (upd (upd (s1.1 41) (Int32.toNatClampNeg ((s1.1 42 0))) v1) (Int32.toNatClampNeg (((s1.1 42 0) + 1))) v2))).set 28 ((a 41), .inl (cI, ((upI (upI s1 41 (upd (s1.1 41) (Int32.toNatClampNeg ((s1.1 42 0))) v1)) 41 (upd (upd (s1.1 41) (Int32.toNatClampNeg ((s1.1 42 0))) v1) (Int32.toNatClampNeg (((s1.1 42 0) + 1))) v2)).1 91 0).toNatClampNeg, .inl (upd (upd (upd (s1.1 41) (Int32.toNatClampNeg ((s1.1 42 0))) v1) (Int32.toNatClampNeg (((s1.1 42 0) + 1))) v2) (Int32.toNatClampNeg (((s1.1 42 0) + 2))) v3)))) H := hP
    have hD : va_D A ((wM h0 a cI cB cJ cZ (upI (upI s1 41 (upd (s1.1 41) (Int32.toNatClampNeg ((s1.1 42 0))) v1)) 41 (upd (upd (s1.1 41) (Int32.toNatClampNeg ((s1.1 42 0))) v1) (Int32.toNatClampNeg (((s1.1 42 0) + 1))) v2))).set 28 ((a 41), .inl (cI, ((upI (upI s1 41 (upd (s1.1 41) (Int32.toNatClampNeg ((s1.1 42 0))) v1)) 41 (upd (upd (s1.1 41) (Int32.toNatClampNeg ((s1.1 42 0))) v1) (Int32.toNatClampNeg (((s1.1 42 0) + 1))) v2)).1 91 0).toNatClampNeg, .inl (upd (upd (upd (s1.1 41) (Int32.toNatClampNeg ((s1.1 42 0))) v1) (Int32.toNatClampNeg (((s1.1 42 0) + 1))) v2) (Int32.toNatClampNeg (((s1.1 42 0) + 2))) v3)))) := hD
    have hP := wM_P_41 hP
    have hD := wM_D_41 hD
    refine lv_aload_n hx hb dn_M_lay_95 rfl (lv_at hl 0 rfl) ?_
    refine lv_aload_n hx hb dn_M_lay_96 rfl (lv_at hl 0 rfl) ?_
    refine va_get (D := (dC, dI)) (ci := 0) (v := .int ((s1.1 42 0))) (C := rn_M) (T := fn_M) (N := 91) hx hb hg in_M hown hK hP 0 rfl rfl 42 (by decide) (hg _ wn_8_115) (fun _ h9 => h9) rfl dn_M_lay_97 ?_
    refine lv_iconst (v := 3) hx hb dn_M_lay_100 (by decide) ?_
    refine lv_iadd hx hb dn_M_lay_101 ?_
    refine va_put (D := (dC, dI)) (ci := 0) (v := .int (((s1.1 42 0) + 3))) (ty := .int) (C := rn_M) (T := fn_M) (N := 91) hx hb hg in_M tn_M tk_M nn_M hown hK hP hD hS 0 rfl rfl 42 (by decide) (hg _ wn_8_115) (fun _ h9 => h9) rfl (tk_M 42 (by decide)) rfl rfl (Nat.le_of_ble_eq_true rfl) dn_M_lay_102 (fun H locs hP hD hS => ?_)
    have hP := wM_P_42 hP
    have hD := wM_D_42 hD
    rw [← Option.some.inj hf] at hk
    rw [hQQ, ← Option.some.inj hf]
    exact xk_vret (w1 := fun u : Nat → Nat => (wM h0 u cI cB cJ cZ (upI (upI (upI (upI s1 41 (upd (s1.1 41) (Int32.toNatClampNeg ((s1.1 42 0))) v1)) 41 (upd (upd (s1.1 41) (Int32.toNatClampNeg ((s1.1 42 0))) v1) (Int32.toNatClampNeg (((s1.1 42 0) + 1))) v2)) 41 (upd (upd (upd (s1.1 41) (Int32.toNatClampNeg ((s1.1 42 0))) v1) (Int32.toNatClampNeg (((s1.1 42 0) + 1))) v2) (Int32.toNatClampNeg (((s1.1 42 0) + 2))) v3)) 42 (fun _ => ((s1.1 42 0) + 3))))) a hx hb hr hlocks hK hS dn_M_lay_105 hP hD trivial hk hk
  unfold fn_M_lay at hf
  refine lv_aload_n hx hb dn_M_lay_0 rfl (lv_at hl 0 rfl) ?_
  refine va_get (D := (dC, dI)) (ci := 0) (v := .int ((s.1 42 0))) (C := rn_M) (T := fn_M) (N := 91) hx hb hg in_M hown hK hP 0 rfl rfl 42 (by decide) (hg _ wn_8_115) (fun _ h9 => h9) rfl dn_M_lay_1 ?_
  refine lv_iconst (v := 3) hx hb dn_M_lay_4 (by decide) ?_
  refine lv_iadd hx hb dn_M_lay_5 ?_
  refine lv_aload_n hx hb dn_M_lay_6 rfl (lv_at hl 0 rfl) ?_
  refine va_get (D := (dC, dI)) (ci := 0) (v := .ref ((a 41))) (C := rn_M) (T := fn_M) (N := 91) hx hb hg in_M hown hK hP 0 rfl rfl 41 (by decide) (hg _ wn_8_114) (fun _ h9 => h9) rfl dn_M_lay_7 ?_
  refine va_alen (v := Int32.ofNat ((s.1 91 0).toNatClampNeg)) hx hb hK hP 28 0 rfl rfl rfl dn_M_lay_10 ?_
  refine lv_icmp_le (tgt := 61) hx hb dn_M_lay_11 (by decide) (fun h => ?_) (fun h => ?_)
  · have hf := (if_pos h).symm.trans hf
    exact put a s 0 H [] ls hf (Nat.zero_le _) hP hD hS hl
  · have hf := (if_neg h).symm.trans hf
    obtain ⟨hq, hf⟩ := dc_g hf
    have q1 : ¬ 400000 < (s.1 91 0).toNatClampNeg := fun h => hq (Or.inl h)
    have q2 : ¬ (s.1 91 0).toNatClampNeg = 0 := fun h => hq (Or.inr (Or.inl h))
    have q3 : ¬ s.1 42 0 < 0 := fun h => hq (Or.inr (Or.inr (Or.inl h)))
    have q4 : (s.1 42 0).toNatClampNeg ≤ (s.1 91 0).toNatClampNeg := Nat.not_lt.mp (fun h => hq (Or.inr (Or.inr (Or.inr h))))
    have hgl := (lay_put_gl hf).trans (lay_grow_gl q1)
    obtain ⟨j, hj, ej⟩ := nI_of q3
    have ejc : (s.1 42 0).toNatClampNeg = j := by rw [ej]; exact nI_clamp hj
    refine lv_iconst (v := 2) hx hb dn_M_lay_14 (by decide) ?_
    refine lv_aload_n hx hb dn_M_lay_15 rfl (lv_at hl 0 rfl) ?_
    refine va_get (D := (dC, dI)) (ci := 0) (v := .ref ((a 41))) (C := rn_M) (T := fn_M) (N := 91) hx hb hg in_M hown hK hP 0 rfl rfl 41 (by decide) (hg _ wn_8_114) (fun _ h9 => h9) rfl dn_M_lay_16 ?_
    refine va_alen (v := Int32.ofNat ((s.1 91 0).toNatClampNeg)) hx hb hK hP 28 0 rfl rfl rfl dn_M_lay_19 ?_
    refine lv_imul hx hb dn_M_lay_20 ?_
    refine xk_newI (2 * (s.1 91 0).toNatClampNeg) hx hb (hg _ wn_1_119) hK hP hD hS hA 0 rfl (by have e2 := Int32.ofNat_mul 2 (s.1 91 0).toNatClampNeg; exact e2.symm) (by omega) (show 0 + 1 ≤ 2 * (gl y.2 - gl s) by omega) (show 0 + 2 * (s.1 91 0).toNatClampNeg ≤ 2 * (gl y.2 - gl s) by omega) dn_M_lay_21 (fun q H hP hD hS => ?_)
    refine lv_astore (lv' := [(4, .ref q), (0, .ref h0), (1, .int v1), (2, .int v2), (3, .int v3)]) hx hb dn_M_lay_23 hl (by decide) rfl (fun ls hl => ?_)
    refine lv_iconst (v := nI 0) hx hb dn_M_lay_25 (by decide) ?_
    refine lv_istore (lv' := [(5, .int (nI 0)), (4, .ref q), (0, .ref h0), (1, .int v1), (2, .int v2), (3, .int v3)]) hx hb dn_M_lay_26 hl (by decide) rfl (fun ls hl => ?_)
    have loop : ∀ (d i : Nat) (H : Heap) (locs : List Loc) (ls : Array Slot), i + d = j → va_P (dC, dI) xcl ((wM h0 a cI cB cJ cZ s) ++ [(q, Sum.inl (cI, 2 * (s.1 91 0).toNatClampNeg, Sum.inl (fun k => if k < i then s.1 41 k else 0)))]) H → va_D A ((wM h0 a cI cB cJ cZ s) ++ [(q, Sum.inl (cI, 2 * (s.1 91 0).toNatClampNeg, Sum.inl (fun k => if k < i then s.1 41 k else 0)))]) → va_S A s0.heap H locs → lv_has ls 6 [(5, .int (nI i)), (4, .ref q), (0, .ref h0), (1, .int v1), (2, .int v2), (3, .int v3)] → W p l e ({ frames := 0, cells := 2 * (gl y.2 - gl s), slots := 2 * (gl y.2 - gl s), locals := 0 }) s0 m [.ref h0, .int v1, .int v2, .int v3].toArray below meth c H locs (0 + 1) (0 + 2 * (s.1 91 0).toNatClampNeg) QQ (F0 m 28 ls []) := by
      intro d
      induction d with
      | zero =>
        intro i H locs ls hi hP hD hS hl
        have hi : i = j := by omega
        subst hi
        refine lv_iload hx hb dn_M_lay_28 (lv_at hl 0 rfl) ?_
        refine lv_aload_n hx hb dn_M_lay_30 rfl (lv_at hl 2 rfl) ?_
        refine va_get (D := (dC, dI)) (ci := 0) (v := .int ((s.1 42 0))) (C := rn_M) (T := fn_M) (N := 91) hx hb hg in_M hown hK hP 0 rfl rfl 42 (by decide) (hg _ wn_8_115) (fun _ h9 => h9) rfl dn_M_lay_31 ?_
        refine lv_icmp_ge (tgt := 55) hx hb dn_M_lay_34 (by decide) (fun _ => ?_) (fun h9 => absurd (show s.1 42 0 ≤ nI i by rw [ej]; exact nI_le (Nat.le_refl _) hj) h9)
        refine lv_aload_n hx hb dn_M_lay_55 rfl (lv_at hl 2 rfl) ?_
        refine lv_aload hx hb dn_M_lay_56 (lv_at hl 1 rfl) ?_
        refine va_put (D := (dC, dI)) (ci := 0) (v := .ref q) (ty := (.array .int)) (C := rn_M) (T := fn_M) (N := 91) hx hb hg in_M tn_M tk_M nn_M hown hK hP hD hS 0 rfl rfl 41 (by decide) (hg _ wn_8_114) (fun _ h9 => h9) rfl (tk_M 41 (by decide)) rfl rfl (Nat.le_of_ble_eq_true rfl) dn_M_lay_58 (fun H locs hP hD hS => ?_)
        have eN : (nI (2 * (s.1 91 0).toNatClampNeg)).toNatClampNeg = 2 * (s.1 91 0).toNatClampNeg := nI_clamp (by omega)
        have eW : (wM h0 (fun k => if k = 41 then q else a k) cI cB cJ cZ (lay_grow s)) = [0, 1, 2, 3, 4, 5, 6, 7, 8, 9, 10, 11, 12, 13, 14, 15, 16, 17, 18, 19, 20, 21, 22, 23, 24, 25, 26, 27, 60, 29, 30, 31, 32, 33, 34, 35, 36, 37, 38, 39, 40, 41, 42, 43, 44, 45, 46, 47, 48, 49, 50, 51, 52, 53, 54, 55, 56, 57, 58, 59].filterMap (fun z9 => ((((wM h0 a cI cB cJ cZ s) ++ [(q, Sum.inl (cI, 2 * (s.1 91 0).toNatClampNeg, Sum.inl (fun k => if k < i then s.1 41 k else 0)))]).set 0 (h0, Sum.inr (0, (oM a s).set 41 (.ref q)))) : va_W)[z9]?) := by
          have e3 : (lay_grow s).1 41 = fun k => if k < i then s.1 41 k else 0 := by show (fun k => if k < (s.1 42 0).toNatClampNeg then s.1 41 k else 0) = _; rw [ejc]
          have e4 : ((q, .inl (cI, (nI (2 * (s.1 91 0).toNatClampNeg)).toNatClampNeg, .inl ((lay_grow s).1 41))) : Nat × va_E) = ((q, Sum.inl (cI, 2 * (s.1 91 0).toNatClampNeg, Sum.inl (fun k => if k < i then s.1 41 k else 0))) : Nat × va_E) := by rw [eN, e3]
          exact congrArg (fun z : Nat × va_E => ((wM h0 (fun k => if k = 41 then q else a k) cI cB cJ cZ (lay_grow s))).set 28 z) e4
        have hP := hP.sub (ws' := (wM h0 (fun k => if k = 41 then q else a k) cI cB cJ cZ (lay_grow s))) [0, 1, 2, 3, 4, 5, 6, 7, 8, 9, 10, 11, 12, 13, 14, 15, 16, 17, 18, 19, 20, 21, 22, 23, 24, 25, 26, 27, 60, 29, 30, 31, 32, 33, 34, 35, 36, 37, 38, 39, 40, 41, 42, 43, 44, 45, 46, 47, 48, 49, 50, 51, 52, 53, 54, 55, 56, 57, 58, 59] eW.symm
        have eW2 : ((wM h0 (fun k => if k = 41 then q else a k) cI cB cJ cZ (lay_grow s))).map some = [0, 1, 2, 3, 4, 5, 6, 7, 8, 9, 10, 11, 12, 13, 14, 15, 16, 17, 18, 19, 20, 21, 22, 23, 24, 25, 26, 27, 60, 29, 30, 31, 32, 33, 34, 35, 36, 37, 38, 39, 40, 41, 42, 43, 44, 45, 46, 47, 48, 49, 50, 51, 52, 53, 54, 55, 56, 57, 58, 59].map (fun z9 => ((((wM h0 a cI cB cJ cZ s) ++ [(q, Sum.inl (cI, 2 * (s.1 91 0).toNatClampNeg, Sum.inl (fun k => if k < i then s.1 41 k else 0)))]).set 0 (h0, Sum.inr (0, (oM a s).set 41 (.ref q)))) : va_W)[z9]?) := by
          have e3 : (lay_grow s).1 41 = fun k => if k < i then s.1 41 k else 0 := by show (fun k => if k < (s.1 42 0).toNatClampNeg then s.1 41 k else 0) = _; rw [ejc]
          have e4 : ((q, .inl (cI, (nI (2 * (s.1 91 0).toNatClampNeg)).toNatClampNeg, .inl ((lay_grow s).1 41))) : Nat × va_E) = ((q, Sum.inl (cI, 2 * (s.1 91 0).toNatClampNeg, Sum.inl (fun k => if k < i then s.1 41 k else 0))) : Nat × va_E) := by rw [eN, e3]
          exact congrArg (fun z : Nat × va_E => (((wM h0 (fun k => if k = 41 then q else a k) cI cB cJ cZ (lay_grow s))).set 28 z).map some) e4
        have hD := hD.sub (ws' := (wM h0 (fun k => if k = 41 then q else a k) cI cB cJ cZ (lay_grow s))) [0, 1, 2, 3, 4, 5, 6, 7, 8, 9, 10, 11, 12, 13, 14, 15, 16, 17, 18, 19, 20, 21, 22, 23, 24, 25, 26, 27, 60, 29, 30, 31, 32, 33, 34, 35, 36, 37, 38, 39, 40, 41, 42, 43, 44, 45, 46, 47, 48, 49, 50, 51, 52, 53, 54, 55, 56, 57, 58, 59] (by decide) eW2.symm
        refine W.widen (k := 2 * (s.1 91 0).toNatClampNeg) (n := 2 * (s.1 91 0).toNatClampNeg) (by omega) (by omega) ?_
        exact put (fun k => if k = 41 then q else a k) (lay_grow s) (2 * (s.1 91 0).toNatClampNeg) H _ ls hf (by omega) hP hD hS (lv_sub hl [2, 3, 4, 5] rfl)
      | succ d ih =>
        intro i H locs ls hi hP hD hS hl
        refine lv_iload hx hb dn_M_lay_28 (lv_at hl 0 rfl) ?_
        refine lv_aload_n hx hb dn_M_lay_30 rfl (lv_at hl 2 rfl) ?_
        refine va_get (D := (dC, dI)) (ci := 0) (v := .int ((s.1 42 0))) (C := rn_M) (T := fn_M) (N := 91) hx hb hg in_M hown hK hP 0 rfl rfl 42 (by decide) (hg _ wn_8_115) (fun _ h9 => h9) rfl dn_M_lay_31 ?_
        refine lv_icmp_ge (tgt := 55) hx hb dn_M_lay_34 (by decide) (fun h9 => absurd (show s.1 42 0 ≤ nI i from h9) (by rw [ej]; exact nI_ge (by omega) hj)) (fun _ => ?_)
        refine lv_aload hx hb dn_M_lay_37 (lv_at hl 1 rfl) ?_
        refine lv_iload hx hb dn_M_lay_39 (lv_at hl 0 rfl) ?_
        refine lv_aload_n hx hb dn_M_lay_41 rfl (lv_at hl 2 rfl) ?_
        refine va_get (D := (dC, dI)) (ci := 0) (v := .ref (a 41)) (C := rn_M) (T := fn_M) (N := 91) hx hb hg in_M hown hK hP 0 rfl rfl 41 (by decide) (hg _ wn_8_114) (fun _ h9 => h9) rfl dn_M_lay_42 ?_
        refine lv_iload hx hb dn_M_lay_45 (lv_at hl 0 rfl) ?_
        refine va_iald hx hb hK hP 28 0 rfl rfl (vp_in_nI (by omega) (by omega)) dn_M_lay_47 ?_
        refine va_iast hx hb hK hP hD hS 60 0 rfl rfl (vp_in_nI (by omega) (by omega)) dn_M_lay_48 (fun H locs hP hD hS => ?_)
        rw [nI_clamp (show i < 2 ^ 31 by omega)] at hP hD
        have e5 : upd (fun k => if k < i then s.1 41 k else 0) i (s.1 41 i) = (fun k => if k < (i + 1) then s.1 41 k else 0) := by
          funext k
          simp only [upd]
          by_cases h1 : k = i
          · subst h1; simp
          · rw [if_neg h1]
            by_cases h2 : k < i
            · rw [if_pos h2, if_pos (by omega)]
            · rw [if_neg h2, if_neg (by omega)]
        have hP : va_P (dC, dI) xcl ((wM h0 a cI cB cJ cZ s) ++ [(q, .inl (cI, 2 * (s.1 91 0).toNatClampNeg, .inl (upd (fun k => if k < i then s.1 41 k else 0) i (s.1 41 i))))]) H := hP
        have hD : va_D A ((wM h0 a cI cB cJ cZ s) ++ [(q, .inl (cI, 2 * (s.1 91 0).toNatClampNeg, .inl (upd (fun k => if k < i then s.1 41 k else 0) i (s.1 41 i))))]) := hD
        rw [e5] at hP hD
        refine lv_iinc (v := nI (i + 1)) (lv' := [(5, .int (nI (i + 1))), (4, .ref q), (0, .ref h0), (1, .int v1), (2, .int v2), (3, .int v3)]) hx hb dn_M_lay_49 hl (k := 0) rfl (nI_succ i).symm (by decide) rfl (fun ls hl => ?_)
        refine lv_goto (tgt := 28) hx hb dn_M_lay_52 (by decide) ?_
        exact ih (i + 1) H locs ls (by omega) hP hD hS hl
    have e0 : (fun _ : Nat => (0 : Int32)) = (fun k => if k < 0 then s.1 41 k else 0) := by funext k; simp
    rw [e0] at hP hD
    exact loop j 0 H _ ls (by omega) hP hD hS hl
theorem keep_put_gl {v1 : Int64} {s : ms} {y : (Int32 × ms)} (hf : keep_put v1 s = some y) : gl y.2 = gl s := by
  unfold keep_put at hf
  obtain ⟨_, hf⟩ := dc_g hf
  rw [← Option.some.inj hf]
  rfl
theorem keep_grow_gl {s : ms} (h : ¬ 400000 < (s.1 92 0).toNatClampNeg) (h2 : (s.1 44 0).toNatClampNeg = (s.1 92 0).toNatClampNeg) : gl (keep_grow s) = gl s + (s.1 92 0).toNatClampNeg := by
  show (s.1 91 0).toNatClampNeg + (nI (2 * (s.1 44 0).toNatClampNeg)).toNatClampNeg = (s.1 91 0).toNatClampNeg + (s.1 92 0).toNatClampNeg + (s.1 92 0).toNatClampNeg
  rw [nI_clamp (by omega)]; omega
theorem mn_M_keepNumber (N : Nat) (v1 : Int64) (s : ms) (y : (Int32 × ms)) (hf : fn_M_keepNumber N v1 s = some y) : gl s ≤ gl y.2 := by
  unfold fn_M_keepNumber at hf
  by_cases h : s.1 44 0 = Int32.ofNat (s.1 92 0).toNatClampNeg
  · have hf := (if_pos h).symm.trans hf
    obtain ⟨hg, hf⟩ := dc_g hf
    rw [keep_put_gl hf, keep_grow_gl (fun h => hg (Or.inl h)) (Decidable.not_not.mp (fun h => hg (Or.inr (Or.inr (Or.inr h)))))]
    omega
  · have hf := (if_neg h).symm.trans hf
    exact Nat.le_of_eq (keep_put_gl hf).symm
set_option maxHeartbeats 8000000 in
set_option maxRecDepth 100000 in
theorem ct_M_keepNumber (l : Launch) (dC : Nat → ClassId) (dI : Nat → Nat → Nat) (cI cB cJ cZ cQ : ClassId) (N sz : Nat) (h0 : Nat) (a : Nat → Nat) (v1 : Int64) (s : ms) (y : (Int32 × ms)) (hf : fn_M_keepNumber N v1 s = some y) : Met l yn_M_keepNumber (xw yn_M_keepNumber bn_M_keepNumber 5 (some .int)) ({ frames := 0, cells := 2 * (gl y.2 - gl s), slots := 2 * (gl y.2 - gl s), locals := 0 }) (dc_P (dC, dI) xcl (xt cI cB cJ cZ cQ) [.ref h0, .long v1] sz (wM h0 a cI cB cJ cZ s)) (xk_Qi (dC, dI) xcl (xt cI cB cJ cZ cQ) (fun (r : Int32) (_ : Nat → Nat) => r = y.1) (fun u : Nat → Nat => (wM h0 u cI cB cJ cZ y.2)) (va_A (wM h0 a cI cB cJ cZ s) sz)) (2 * (gl y.2 - gl s)) (2 * (gl y.2 - gl s)) (va_A (wM h0 a cI cB cJ cZ s) sz) := by
  have hml0 := mn_M_keepNumber N v1 s y hf
  refine dc_of (QA := xk_Qi (dC, dI) xcl (xt cI cB cJ cZ cQ) (fun (r : Int32) (_ : Nat → Nat) => r = y.1) (fun u : Nat → Nat => (wM h0 u cI cB cJ cZ y.2))) (by decide) (Nat.le_of_ble_eq_true rfl) ?_
  intro p e s0 m below meth c hx hb hml hown hg hr hlocks hin hP hK hN A hA hD hT ls hl
  have hown : s0.vm.findClass rn_M = some m.cls := hown
  have hl : lv_has ls 5 [(0, .ref h0), (1, .long v1)] := hl
  obtain ⟨H, hH⟩ : ∃ z, z = s0.heap := ⟨_, rfl⟩
  rw [← hH] at hP
  have hS : va_S A s0.heap H [] := by rw [hH]; exact va_S.rf
  suffices kk : ∀ QQ : State → Prop, QQ = MQ below (xk_Qi (dC, dI) xcl (xt cI cB cJ cZ cQ) (fun (r : Int32) (_ : Nat → Nat) => r = y.1) (fun u : Nat → Nat => (wM h0 u cI cB cJ cZ y.2)) A) [.ref h0, .long v1].toArray s0 (2 * (gl y.2 - gl s)) (2 * (gl y.2 - gl s)) A → W p l e ({ frames := 0, cells := 2 * (gl y.2 - gl s), slots := 2 * (gl y.2 - gl s), locals := 0 }) s0 m [.ref h0, .long v1].toArray below meth c H [] 0 0 QQ (F0 m 0 ls []) by
    have k9 := kk _ rfl
    rw [hH] at k9; exact k9
  intro QQ hQQ
  have put : ∀ (a : Nat → Nat) (s1 : ms) (k : Nat) (H : Heap) (locs : List Loc) (ls : Array Slot), keep_put v1 s1 = some y → k ≤ 2 * (gl y.2 - gl s) → va_P (dC, dI) xcl (wM h0 a cI cB cJ cZ s1) H → va_D A (wM h0 a cI cB cJ cZ s1) → va_S A s0.heap H locs → lv_has ls 5 [(0, .ref h0), (1, .long v1)] → W p l e ({ frames := 0, cells := 2 * (gl y.2 - gl s), slots := 2 * (gl y.2 - gl s), locals := 0 }) s0 m [.ref h0, .long v1].toArray below meth c H locs k k QQ (F0 m 55 ls []) := by
    intro a s1 k H locs ls hf hk hP hD hS hl
    unfold keep_put at hf
    refine lv_aload_n hx hb dn_M_keepNumber_55 rfl (lv_at hl 0 rfl) ?_
    refine va_get (D := (dC, dI)) (ci := 0) (v := .ref ((a 43))) (C := rn_M) (T := fn_M) (N := 91) hx hb hg in_M hown hK hP 0 rfl rfl 43 (by decide) (hg _ wn_8_116) (fun _ h9 => h9) rfl dn_M_keepNumber_56 ?_
    refine lv_aload_n hx hb dn_M_keepNumber_59 rfl (lv_at hl 0 rfl) ?_
    refine va_get (D := (dC, dI)) (ci := 0) (v := .int ((s1.1 44 0))) (C := rn_M) (T := fn_M) (N := 91) hx hb hg in_M hown hK hP 0 rfl rfl 44 (by decide) (hg _ wn_8_117) (fun _ h9 => h9) rfl dn_M_keepNumber_60 ?_
    refine lv_lload_n hx hb dn_M_keepNumber_63 rfl (lv_at hl 1 rfl) ?_
    obtain ⟨hg_1, hf⟩ := dc_g hf
    refine va_last hx hb hK hP hD hS 29 2 rfl rfl hg_1 dn_M_keepNumber_64 (fun H locs hP hD hS => ?_)
    have hP : va_P (dC, dI) xcl ((wM h0 a cI cB cJ cZ s1).set 29 ((a 43), .inl (cJ, (s1.1 92 0).toNatClampNeg, .inr (.inl (vp_updL (s1.2 43) (Int32.toNatClampNeg ((s1.1 44 0))) v1))))) H := hP
    have hD : va_D A ((wM h0 a cI cB cJ cZ s1).set 29 ((a 43), .inl (cJ, (s1.1 92 0).toNatClampNeg, .inr (.inl (vp_updL (s1.2 43) (Int32.toNatClampNeg ((s1.1 44 0))) v1))))) := hD
    have hP := wM_P_43 hP
    have hD := wM_D_43 hD
    refine lv_aload_n hx hb dn_M_keepNumber_65 rfl (lv_at hl 0 rfl) ?_
    refine lv_dup hx hb dn_M_keepNumber_66 rfl ?_
    refine va_get (D := (dC, dI)) (ci := 0) (v := .int ((s1.1 44 0))) (C := rn_M) (T := fn_M) (N := 91) hx hb hg in_M hown hK hP 0 rfl rfl 44 (by decide) (hg _ wn_8_117) (fun _ h9 => h9) rfl dn_M_keepNumber_67 ?_
    refine lv_iconst (v := 1) hx hb dn_M_keepNumber_70 (by decide) ?_
    refine lv_iadd hx hb dn_M_keepNumber_71 ?_
    refine va_put (D := (dC, dI)) (ci := 0) (v := .int (((s1.1 44 0) + 1))) (ty := .int) (C := rn_M) (T := fn_M) (N := 91) hx hb hg in_M tn_M tk_M nn_M hown hK hP hD hS 0 rfl rfl 44 (by decide) (hg _ wn_8_117) (fun _ h9 => h9) rfl (tk_M 44 (by decide)) rfl rfl (Nat.le_of_ble_eq_true rfl) dn_M_keepNumber_72 (fun H locs hP hD hS => ?_)
    have hP := wM_P_44 hP
    have hD := wM_D_44 hD
    refine lv_aload_n hx hb dn_M_keepNumber_75 rfl (lv_at hl 0 rfl) ?_
    refine va_get (D := (dC, dI)) (ci := 0) (v := .int (((s1.1 44 0) + 1))) (C := rn_M) (T := fn_M) (N := 91) hx hb hg in_M hown hK hP 0 rfl rfl 44 (by decide) (hg _ wn_8_117) (fun _ h9 => h9) rfl dn_M_keepNumber_76 ?_
    refine lv_iconst (v := 1) hx hb dn_M_keepNumber_79 (by decide) ?_
    refine lv_isub hx hb dn_M_keepNumber_80 ?_
    rw [← Option.some.inj hf] at hk
    rw [hQQ, ← Option.some.inj hf]
    exact xk_iret (w1 := fun u : Nat → Nat => (wM h0 u cI cB cJ cZ (upI (upJ s1 43 (vp_updL (s1.2 43) (Int32.toNatClampNeg ((s1.1 44 0))) v1)) 44 (fun _ => ((s1.1 44 0) + 1))))) a hx hb hr hlocks hK hS dn_M_keepNumber_81 hP hD rfl hk hk
  unfold fn_M_keepNumber at hf
  refine lv_aload_n hx hb dn_M_keepNumber_0 rfl (lv_at hl 0 rfl) ?_
  refine va_get (D := (dC, dI)) (ci := 0) (v := .int ((s.1 44 0))) (C := rn_M) (T := fn_M) (N := 91) hx hb hg in_M hown hK hP 0 rfl rfl 44 (by decide) (hg _ wn_8_117) (fun _ h9 => h9) rfl dn_M_keepNumber_1 ?_
  refine lv_aload_n hx hb dn_M_keepNumber_4 rfl (lv_at hl 0 rfl) ?_
  refine va_get (D := (dC, dI)) (ci := 0) (v := .ref ((a 43))) (C := rn_M) (T := fn_M) (N := 91) hx hb hg in_M hown hK hP 0 rfl rfl 43 (by decide) (hg _ wn_8_116) (fun _ h9 => h9) rfl dn_M_keepNumber_5 ?_
  refine va_alen (v := Int32.ofNat ((s.1 92 0).toNatClampNeg)) hx hb hK hP 29 2 rfl rfl rfl dn_M_keepNumber_8 ?_
  refine lv_icmp_ne (tgt := 55) hx hb dn_M_keepNumber_9 (by decide) (fun h => ?_) (fun h => ?_)
  · have hf := (if_neg h).symm.trans hf
    exact put a s 0 H [] ls hf (Nat.zero_le _) hP hD hS hl
  · have hf := (if_pos h).symm.trans hf
    obtain ⟨hq, hf⟩ := dc_g hf
    have q1 : ¬ 400000 < (s.1 92 0).toNatClampNeg := fun h => hq (Or.inl h)
    have q2 : ¬ (s.1 92 0).toNatClampNeg = 0 := fun h => hq (Or.inr (Or.inl h))
    have q3 : ¬ s.1 44 0 < 0 := fun h => hq (Or.inr (Or.inr (Or.inl h)))
    have q5 : (s.1 44 0).toNatClampNeg = (s.1 92 0).toNatClampNeg := Decidable.not_not.mp (fun h => hq (Or.inr (Or.inr (Or.inr h))))
    have q4 := Nat.le_of_eq q5
    have hgl := (keep_put_gl hf).trans (keep_grow_gl q1 q5)
    obtain ⟨j, hj, ej⟩ := nI_of q3
    have ejc : (s.1 44 0).toNatClampNeg = j := by rw [ej]; exact nI_clamp hj
    refine lv_iconst (v := 2) hx hb dn_M_keepNumber_12 (by decide) ?_
    refine lv_aload_n hx hb dn_M_keepNumber_13 rfl (lv_at hl 0 rfl) ?_
    refine va_get (D := (dC, dI)) (ci := 0) (v := .int ((s.1 44 0))) (C := rn_M) (T := fn_M) (N := 91) hx hb hg in_M hown hK hP 0 rfl rfl 44 (by decide) (hg _ wn_8_117) (fun _ h9 => h9) rfl dn_M_keepNumber_14 ?_
    refine lv_imul hx hb dn_M_keepNumber_17 ?_
    refine xk_newJ (2 * (s.1 44 0).toNatClampNeg) hx hb (hg _ wn_1_82) hK hP hD hS hA 2 rfl (by rw [ej, nI_clamp hj]; exact (Int32.ofNat_mul 2 j).symm) (by omega) (show 0 + 1 ≤ 2 * (gl y.2 - gl s) by omega) (show 0 + 2 * (s.1 44 0).toNatClampNeg ≤ 2 * (gl y.2 - gl s) by omega) dn_M_keepNumber_18 (fun q H hP hD hS => ?_)
    refine lv_astore_n (lv' := [(3, .ref q), (0, .ref h0), (1, .long v1)]) hx hb dn_M_keepNumber_20 rfl hl (by decide) rfl (fun ls hl => ?_)
    refine lv_iconst (v := nI 0) hx hb dn_M_keepNumber_21 (by decide) ?_
    refine lv_istore (lv' := [(4, .int (nI 0)), (3, .ref q), (0, .ref h0), (1, .long v1)]) hx hb dn_M_keepNumber_22 hl (by decide) rfl (fun ls hl => ?_)
    have loop : ∀ (d i : Nat) (H : Heap) (locs : List Loc) (ls : Array Slot), i + d = j → va_P (dC, dI) xcl ((wM h0 a cI cB cJ cZ s) ++ [(q, Sum.inl (cJ, 2 * (s.1 44 0).toNatClampNeg, Sum.inr (Sum.inl (fun k => if k < i then s.2 43 k else 0))))]) H → va_D A ((wM h0 a cI cB cJ cZ s) ++ [(q, Sum.inl (cJ, 2 * (s.1 44 0).toNatClampNeg, Sum.inr (Sum.inl (fun k => if k < i then s.2 43 k else 0))))]) → va_S A s0.heap H locs → lv_has ls 5 [(4, .int (nI i)), (3, .ref q), (0, .ref h0), (1, .long v1)] → W p l e ({ frames := 0, cells := 2 * (gl y.2 - gl s), slots := 2 * (gl y.2 - gl s), locals := 0 }) s0 m [.ref h0, .long v1].toArray below meth c H locs (0 + 1) (0 + 2 * (s.1 44 0).toNatClampNeg) QQ (F0 m 24 ls []) := by
      intro d
      induction d with
      | zero =>
        intro i H locs ls hi hP hD hS hl
        have hi : i = j := by omega
        subst hi
        refine lv_iload hx hb dn_M_keepNumber_24 (lv_at hl 0 rfl) ?_
        refine lv_aload_n hx hb dn_M_keepNumber_26 rfl (lv_at hl 2 rfl) ?_
        refine va_get (D := (dC, dI)) (ci := 0) (v := .int ((s.1 44 0))) (C := rn_M) (T := fn_M) (N := 91) hx hb hg in_M hown hK hP 0 rfl rfl 44 (by decide) (hg _ wn_8_117) (fun _ h9 => h9) rfl dn_M_keepNumber_27 ?_
        refine lv_icmp_ge (tgt := 50) hx hb dn_M_keepNumber_30 (by decide) (fun _ => ?_) (fun h9 => absurd (show s.1 44 0 ≤ nI i by rw [ej]; exact nI_le (Nat.le_refl _) hj) h9)
        refine lv_aload_n hx hb dn_M_keepNumber_50 rfl (lv_at hl 2 rfl) ?_
        refine lv_aload_n hx hb dn_M_keepNumber_51 rfl (lv_at hl 1 rfl) ?_
        refine va_put (D := (dC, dI)) (ci := 0) (v := .ref q) (ty := (.array .long)) (C := rn_M) (T := fn_M) (N := 91) hx hb hg in_M tn_M tk_M nn_M hown hK hP hD hS 0 rfl rfl 43 (by decide) (hg _ wn_8_116) (fun _ h9 => h9) rfl (tk_M 43 (by decide)) rfl rfl (Nat.le_of_ble_eq_true rfl) dn_M_keepNumber_52 (fun H locs hP hD hS => ?_)
        have eN : (nI (2 * (s.1 44 0).toNatClampNeg)).toNatClampNeg = 2 * (s.1 44 0).toNatClampNeg := nI_clamp (by omega)
        have eW : (wM h0 (fun k => if k = 43 then q else a k) cI cB cJ cZ (keep_grow s)) = [0, 1, 2, 3, 4, 5, 6, 7, 8, 9, 10, 11, 12, 13, 14, 15, 16, 17, 18, 19, 20, 21, 22, 23, 24, 25, 26, 27, 28, 60, 30, 31, 32, 33, 34, 35, 36, 37, 38, 39, 40, 41, 42, 43, 44, 45, 46, 47, 48, 49, 50, 51, 52, 53, 54, 55, 56, 57, 58, 59].filterMap (fun z9 => ((((wM h0 a cI cB cJ cZ s) ++ [(q, Sum.inl (cJ, 2 * (s.1 44 0).toNatClampNeg, Sum.inr (Sum.inl (fun k => if k < i then s.2 43 k else 0))))]).set 0 (h0, Sum.inr (0, (oM a s).set 43 (.ref q)))) : va_W)[z9]?) := by
          have e3 : (keep_grow s).2 43 = fun k => if k < i then s.2 43 k else 0 := by show (fun k => if k < (s.1 44 0).toNatClampNeg then s.2 43 k else 0) = _; rw [ejc]
          have e4 : ((q, .inl (cJ, (nI (2 * (s.1 44 0).toNatClampNeg)).toNatClampNeg, .inr (.inl ((keep_grow s).2 43)))) : Nat × va_E) = ((q, Sum.inl (cJ, 2 * (s.1 44 0).toNatClampNeg, Sum.inr (Sum.inl (fun k => if k < i then s.2 43 k else 0)))) : Nat × va_E) := by rw [eN, e3]
          exact congrArg (fun z : Nat × va_E => ((wM h0 (fun k => if k = 43 then q else a k) cI cB cJ cZ (keep_grow s))).set 29 z) e4
        have hP := hP.sub (ws' := (wM h0 (fun k => if k = 43 then q else a k) cI cB cJ cZ (keep_grow s))) [0, 1, 2, 3, 4, 5, 6, 7, 8, 9, 10, 11, 12, 13, 14, 15, 16, 17, 18, 19, 20, 21, 22, 23, 24, 25, 26, 27, 28, 60, 30, 31, 32, 33, 34, 35, 36, 37, 38, 39, 40, 41, 42, 43, 44, 45, 46, 47, 48, 49, 50, 51, 52, 53, 54, 55, 56, 57, 58, 59] eW.symm
        have eW2 : ((wM h0 (fun k => if k = 43 then q else a k) cI cB cJ cZ (keep_grow s))).map some = [0, 1, 2, 3, 4, 5, 6, 7, 8, 9, 10, 11, 12, 13, 14, 15, 16, 17, 18, 19, 20, 21, 22, 23, 24, 25, 26, 27, 28, 60, 30, 31, 32, 33, 34, 35, 36, 37, 38, 39, 40, 41, 42, 43, 44, 45, 46, 47, 48, 49, 50, 51, 52, 53, 54, 55, 56, 57, 58, 59].map (fun z9 => ((((wM h0 a cI cB cJ cZ s) ++ [(q, Sum.inl (cJ, 2 * (s.1 44 0).toNatClampNeg, Sum.inr (Sum.inl (fun k => if k < i then s.2 43 k else 0))))]).set 0 (h0, Sum.inr (0, (oM a s).set 43 (.ref q)))) : va_W)[z9]?) := by
          have e3 : (keep_grow s).2 43 = fun k => if k < i then s.2 43 k else 0 := by show (fun k => if k < (s.1 44 0).toNatClampNeg then s.2 43 k else 0) = _; rw [ejc]
          have e4 : ((q, .inl (cJ, (nI (2 * (s.1 44 0).toNatClampNeg)).toNatClampNeg, .inr (.inl ((keep_grow s).2 43)))) : Nat × va_E) = ((q, Sum.inl (cJ, 2 * (s.1 44 0).toNatClampNeg, Sum.inr (Sum.inl (fun k => if k < i then s.2 43 k else 0)))) : Nat × va_E) := by rw [eN, e3]
          exact congrArg (fun z : Nat × va_E => (((wM h0 (fun k => if k = 43 then q else a k) cI cB cJ cZ (keep_grow s))).set 29 z).map some) e4
        have hD := hD.sub (ws' := (wM h0 (fun k => if k = 43 then q else a k) cI cB cJ cZ (keep_grow s))) [0, 1, 2, 3, 4, 5, 6, 7, 8, 9, 10, 11, 12, 13, 14, 15, 16, 17, 18, 19, 20, 21, 22, 23, 24, 25, 26, 27, 28, 60, 30, 31, 32, 33, 34, 35, 36, 37, 38, 39, 40, 41, 42, 43, 44, 45, 46, 47, 48, 49, 50, 51, 52, 53, 54, 55, 56, 57, 58, 59] (by decide) eW2.symm
        refine W.widen (k := 2 * (s.1 44 0).toNatClampNeg) (n := 2 * (s.1 44 0).toNatClampNeg) (by omega) (by omega) ?_
        exact put (fun k => if k = 43 then q else a k) (keep_grow s) (2 * (s.1 44 0).toNatClampNeg) H _ ls hf (by omega) hP hD hS (lv_sub hl [2, 3] rfl)
      | succ d ih =>
        intro i H locs ls hi hP hD hS hl
        refine lv_iload hx hb dn_M_keepNumber_24 (lv_at hl 0 rfl) ?_
        refine lv_aload_n hx hb dn_M_keepNumber_26 rfl (lv_at hl 2 rfl) ?_
        refine va_get (D := (dC, dI)) (ci := 0) (v := .int ((s.1 44 0))) (C := rn_M) (T := fn_M) (N := 91) hx hb hg in_M hown hK hP 0 rfl rfl 44 (by decide) (hg _ wn_8_117) (fun _ h9 => h9) rfl dn_M_keepNumber_27 ?_
        refine lv_icmp_ge (tgt := 50) hx hb dn_M_keepNumber_30 (by decide) (fun h9 => absurd (show s.1 44 0 ≤ nI i from h9) (by rw [ej]; exact nI_ge (by omega) hj)) (fun _ => ?_)
        refine lv_aload_n hx hb dn_M_keepNumber_33 rfl (lv_at hl 1 rfl) ?_
        refine lv_iload hx hb dn_M_keepNumber_34 (lv_at hl 0 rfl) ?_
        refine lv_aload_n hx hb dn_M_keepNumber_36 rfl (lv_at hl 2 rfl) ?_
        refine va_get (D := (dC, dI)) (ci := 0) (v := .ref (a 43)) (C := rn_M) (T := fn_M) (N := 91) hx hb hg in_M hown hK hP 0 rfl rfl 43 (by decide) (hg _ wn_8_116) (fun _ h9 => h9) rfl dn_M_keepNumber_37 ?_
        refine lv_iload hx hb dn_M_keepNumber_40 (lv_at hl 0 rfl) ?_
        refine va_lald hx hb hK hP 29 2 rfl rfl (vp_in_nI (by omega) (by omega)) dn_M_keepNumber_42 ?_
        refine va_last hx hb hK hP hD hS 60 2 rfl rfl (vp_in_nI (by omega) (by omega)) dn_M_keepNumber_43 (fun H locs hP hD hS => ?_)
        rw [nI_clamp (show i < 2 ^ 31 by omega)] at hP hD
        have e5 : vp_updL (fun k => if k < i then s.2 43 k else 0) i (s.2 43 i) = (fun k => if k < (i + 1) then s.2 43 k else 0) := by
          funext k
          simp only [vp_updL]
          by_cases h1 : k = i
          · subst h1; simp
          · rw [if_neg h1]
            by_cases h2 : k < i
            · rw [if_pos h2, if_pos (by omega)]
            · rw [if_neg h2, if_neg (by omega)]
        have hP : va_P (dC, dI) xcl ((wM h0 a cI cB cJ cZ s) ++ [(q, .inl (cJ, 2 * (s.1 44 0).toNatClampNeg, .inr (.inl (vp_updL (fun k => if k < i then s.2 43 k else 0) i (s.2 43 i)))))]) H := hP
        have hD : va_D A ((wM h0 a cI cB cJ cZ s) ++ [(q, .inl (cJ, 2 * (s.1 44 0).toNatClampNeg, .inr (.inl (vp_updL (fun k => if k < i then s.2 43 k else 0) i (s.2 43 i)))))]) := hD
        rw [e5] at hP hD
        refine lv_iinc (v := nI (i + 1)) (lv' := [(4, .int (nI (i + 1))), (3, .ref q), (0, .ref h0), (1, .long v1)]) hx hb dn_M_keepNumber_44 hl (k := 0) rfl (nI_succ i).symm (by decide) rfl (fun ls hl => ?_)
        refine lv_goto (tgt := 24) hx hb dn_M_keepNumber_47 (by decide) ?_
        exact ih (i + 1) H locs ls (by omega) hP hD hS hl
    have e0 : (fun _ : Nat => (0 : Int64)) = (fun k => if k < 0 then s.2 43 k else 0) := by funext k; simp
    rw [e0] at hP hD
    exact loop j 0 H _ ls (by omega) hP hD hS hl
