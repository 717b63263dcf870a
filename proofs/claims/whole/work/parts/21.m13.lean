def bk_M_canBe_81 (N : Nat) (k_31 : Int32 → Int32 → Int32 → ms → Option (Int32 × ms)) (x1 : Int32) (x3 : Int32) (s : ms) : Option (Int32 × ms) :=
  k_31 x1 1 ((x3 + 3)) s
def bd_M_canBe_31 (N : Nat) (k_31 : Int32 → Int32 → Int32 → ms → Option (Int32 × ms)) (x1 : Int32) (x2 : Int32) (x3 : Int32) (s : ms) : Option (Int32 × ms) :=
  if (x1 < 0 ∨ 1100 ≤ Int32.toNatClampNeg x1) then none else if ((s.1 68) (Int32.toNatClampNeg x1)) ≤ x3 then (if ¬ (x2 = 0 ∨ x2 = 1) then none else some (x2, s)) else (if x2 = 0 then (k_31 x1 0 ((x3 + 3)) s) else (if (x3 < 0 ∨ (s.1 91 0).toNatClampNeg ≤ Int32.toNatClampNeg x3) then none else if ((s.1 41) (Int32.toNatClampNeg x3)) = 1 then (if (x1 < 0 ∨ 1100 ≤ Int32.toNatClampNeg x1) then none else if ((x3 + 1) < 0 ∨ (s.1 91 0).toNatClampNeg ≤ Int32.toNatClampNeg ((x3 + 1))) then none else (fn_M_signalOf N (((s.1 69) (Int32.toNatClampNeg x1))) (((s.1 41) (Int32.toNatClampNeg ((x3 + 1))))) s).bind (fun q_5 => if (q_5.1 < 0 ∨ 1100 ≤ Int32.toNatClampNeg q_5.1) then none else if ((q_5.2.1 72) (Int32.toNatClampNeg q_5.1)) = 0 then (k_31 x1 0 ((x3 + 3)) q_5.2) else (bk_M_canBe_81 N k_31 x1 x3 q_5.2))) else (bk_M_canBe_81 N k_31 x1 x3 s)))
def hd_M_canBe_31 (N : Nat) : Nat → Int32 → Int32 → Int32 → ms → Option (Int32 × ms)
  | 0, _, _, _, _ => none
  | n + 1, x1, x2, x3, s => bd_M_canBe_31 N (hd_M_canBe_31 N n) x1 x2 x3 s
def fn_M_canBe (N : Nat) (v1 : Int32) (s : ms) : Option (Int32 × ms) :=
  if (v1 < 0 ∨ 1100 ≤ Int32.toNatClampNeg v1) then none else if ((s.1 66) (Int32.toNatClampNeg v1)) = 2 then (if (v1 < 0 ∨ 1100 ≤ Int32.toNatClampNeg v1) then none else if (((s.1 67) (Int32.toNatClampNeg v1)) < 0 ∨ 1100 ≤ Int32.toNatClampNeg (((s.1 67) (Int32.toNatClampNeg v1)))) then none else if ¬ (((s.1 72) (Int32.toNatClampNeg (((s.1 67) (Int32.toNatClampNeg v1))))) = 0 ∨ ((s.1 72) (Int32.toNatClampNeg (((s.1 67) (Int32.toNatClampNeg v1))))) = 1) then none else some (((s.1 72) (Int32.toNatClampNeg (((s.1 67) (Int32.toNatClampNeg v1))))), s)) else (if (v1 < 0 ∨ 1100 ≤ Int32.toNatClampNeg v1) then none else hd_M_canBe_31 N N v1 1 (((s.1 67) (Int32.toNatClampNeg v1))) s)
theorem mo_M_canBe_81 (N : Nat) (k_31 : Int32 → Int32 → Int32 → ms → Option (Int32 × ms)) (y : (Int32 × ms)) (hkm_31 : ∀ (x1 : Int32) (x2 : Int32) (x3 : Int32) (s : ms), k_31 x1 x2 x3 s = some y → gl y.2 = gl s) (x1 : Int32) (x3 : Int32) (s : ms) (hf : bk_M_canBe_81 N k_31 x1 x3 s = some y) : gl y.2 = gl s := by
  unfold bk_M_canBe_81 at hf
  have hm : gl s = gl s := rfl
  exact (hkm_31 x1 1 ((x3 + 3)) s hf).trans hm
theorem mb_M_canBe_31 (N : Nat) (y : (Int32 × ms)) (k_31 : Int32 → Int32 → Int32 → ms → Option (Int32 × ms)) (hkm_31 : ∀ (x1 : Int32) (x2 : Int32) (x3 : Int32) (s : ms), k_31 x1 x2 x3 s = some y → gl y.2 = gl s) (x1 : Int32) (x2 : Int32) (x3 : Int32) (s : ms) (hf : bd_M_canBe_31 N k_31 x1 x2 x3 s = some y) : gl y.2 = gl s := by
  unfold bd_M_canBe_31 at hf
  have hm : gl s = gl s := rfl
  obtain ⟨_, hf⟩ := dc_g hf
  by_cases h : ((s.1 68) (Int32.toNatClampNeg x1)) ≤ x3
  · have hf := (if_pos h).symm.trans hf
    obtain ⟨_, hf⟩ := dc_g hf
    rw [← Option.some.inj hf]
    exact hm
  · have hf := (if_neg h).symm.trans hf
    by_cases h : x2 = 0
    · have hf := (if_pos h).symm.trans hf
      exact (hkm_31 x1 0 ((x3 + 3)) s hf).trans hm
    · have hf := (if_neg h).symm.trans hf
      obtain ⟨_, hf⟩ := dc_g hf
      by_cases h : ((s.1 41) (Int32.toNatClampNeg x3)) = 1
      · have hf := (if_pos h).symm.trans hf
        obtain ⟨_, hf⟩ := dc_g hf
        obtain ⟨_, hf⟩ := dc_g hf
        obtain ⟨q_5, hc_6, hf⟩ := dc_b hf
        have hm := (mn_M_signalOf N (((s.1 69) (Int32.toNatClampNeg x1))) (((s.1 41) (Int32.toNatClampNeg ((x3 + 1))))) s q_5 hc_6).trans hm
        obtain ⟨_, hf⟩ := dc_g hf
        by_cases h : ((q_5.2.1 72) (Int32.toNatClampNeg q_5.1)) = 0
        · have hf := (if_pos h).symm.trans hf
          exact (hkm_31 x1 0 ((x3 + 3)) q_5.2 hf).trans hm
        · have hf := (if_neg h).symm.trans hf
          exact (mo_M_canBe_81 N k_31 y hkm_31 x1 x3 q_5.2 hf).trans hm
      · have hf := (if_neg h).symm.trans hf
        exact (mo_M_canBe_81 N k_31 y hkm_31 x1 x3 s hf).trans hm
theorem mh_M_canBe_31 (N : Nat) (y : (Int32 × ms)) : ∀ (n : Nat) (x1 : Int32) (x2 : Int32) (x3 : Int32) (s : ms), hd_M_canBe_31 N n x1 x2 x3 s = some y → gl y.2 = gl s := by
  intro n
  induction n with
  | zero => intro x1 x2 x3 s hf; cases hf
  | succ n ih => intro x1 x2 x3 s hf; exact mb_M_canBe_31 N y (hd_M_canBe_31 N n) ih x1 x2 x3 s hf
theorem mn_M_canBe (N : Nat) (v1 : Int32) (s : ms) (y : (Int32 × ms)) (hf : fn_M_canBe N v1 s = some y) : gl y.2 = gl s := by
  unfold fn_M_canBe at hf
  have hm : gl s = gl s := rfl
  obtain ⟨_, hf⟩ := dc_g hf
  by_cases h : ((s.1 66) (Int32.toNatClampNeg v1)) = 2
  · have hf := (if_pos h).symm.trans hf
    obtain ⟨_, hf⟩ := dc_g hf
    obtain ⟨_, hf⟩ := dc_g hf
    obtain ⟨_, hf⟩ := dc_g hf
    rw [← Option.some.inj hf]
    exact hm
  · have hf := (if_neg h).symm.trans hf
    obtain ⟨_, hf⟩ := dc_g hf
    exact (mh_M_canBe_31 N y N v1 1 (((s.1 67) (Int32.toNatClampNeg v1))) s hf).trans hm
set_option maxHeartbeats 8000000 in
set_option maxRecDepth 100000 in
theorem ct_M_canBe (l : Launch) (dC : Nat → ClassId) (dI : Nat → Nat → Nat) (cI cB cJ cZ cQ : ClassId) (N sz : Nat) (h0 : Nat) (a : Nat → Nat) (v1 : Int32) (s : ms) (y : (Int32 × ms)) (hf : fn_M_canBe N v1 s = some y) : Met l yn_M_canBe (xw yn_M_canBe bn_M_canBe 4 (some .boolean)) ({ frames := 1, cells := 0, slots := 0, locals := 22 }) (dc_P (dC, dI) xcl (xt cI cB cJ cZ cQ) [.ref h0, .int v1] sz (wM h0 a cI cB cJ cZ s)) (xk_Qi (dC, dI) xcl (xt cI cB cJ cZ cQ) (fun (r : Int32) (_ : Unit) => r = y.1) (fun u : Unit => (wM h0 a cI cB cJ cZ y.2)) (va_A (wM h0 a cI cB cJ cZ s) sz)) 0 0 (va_A (wM h0 a cI cB cJ cZ s) sz) := by
  refine dc_of (QA := xk_Qi (dC, dI) xcl (xt cI cB cJ cZ cQ) (fun (r : Int32) (_ : Unit) => r = y.1) (fun u : Unit => (wM h0 a cI cB cJ cZ y.2))) (by decide) (Nat.le_of_ble_eq_true rfl) ?_
  intro p e s0 m below meth c hx hb hml hown hg hr hlocks hin hP hK hN A hA hD hT ls hl
  have hown : s0.vm.findClass rn_M = some m.cls := hown
  obtain ⟨H, hH⟩ : ∃ z, z = s0.heap := ⟨_, rfl⟩
  rw [← hH] at hP
  have hS : va_S A s0.heap H [] := by rw [hH]; exact va_S.rf
  suffices kk : ∀ QQ : State → Prop, QQ = MQ below (xk_Qi (dC, dI) xcl (xt cI cB cJ cZ cQ) (fun (r : Int32) (_ : Unit) => r = y.1) (fun u : Unit => (wM h0 a cI cB cJ cZ y.2)) A) [.ref h0, .int v1].toArray s0 0 0 A → dcC p l e ({ frames := 1, cells := 0, slots := 0, locals := 22 }) s0 m [.ref h0, .int v1].toArray below meth c QQ (dC, dI) A (wM h0 a cI cB cJ cZ s) 0 4 [(0, .ref h0), (1, .int v1)] [] by
    have k9 := kk _ rfl H [] ls hP hD hS hl
    rw [hH] at k9; exact k9
  clear hP hD hS hl hH H ls
  intro QQ hQQ
  have bl_81 : ∀ (k_31 : Int32 → Int32 → Int32 → ms → Option (Int32 × ms)) (hk_31 : ∀ (x1 : Int32) (x2 : Int32) (x3 : Int32) (s : ms), k_31 x1 x2 x3 s = some y → dcC p l e ({ frames := 1, cells := 0, slots := 0, locals := 22 }) s0 m [.ref h0, .int v1].toArray below meth c QQ (dC, dI) A (wM h0 a cI cB cJ cZ s) 31 4 [(0, .ref h0), (1, .int x1), (2, .int x2), (3, .int x3)] []) (x1 : Int32) (x3 : Int32) (s : ms), bk_M_canBe_81 N k_31 x1 x3 s = some y → dcC p l e ({ frames := 1, cells := 0, slots := 0, locals := 22 }) s0 m [.ref h0, .int v1].toArray below meth c QQ (dC, dI) A (wM h0 a cI cB cJ cZ s) 81 4 [(0, .ref h0), (1, .int x1), (3, .int x3)] [] := by
    intro k_31 hk_31 x1 x3 s hf H locs ls hP hD hS hl
    unfold bk_M_canBe_81 at hf
    refine lv_iconst (v := 1) hx hb dn_M_canBe_81 (by decide) ?_
    refine lv_goto (tgt := 86) hx hb dn_M_canBe_82 (by decide) ?_
    refine lv_istore_n (lv' := [(2, .int 1), (0, .ref h0), (1, .int x1), (3, .int x3)]) hx hb dn_M_canBe_86 rfl hl (by decide) rfl (fun ls hl => ?_)
    refine lv_iinc (v := (x3 + 3)) (lv' := [(3, .int ((x3 + 3))), (2, .int 1), (0, .ref h0), (1, .int x1)]) hx hb dn_M_canBe_87 hl (k := 3) rfl (dc_inc (by decide)) (by decide) rfl (fun ls hl => ?_)
    refine lv_goto (tgt := 31) hx hb dn_M_canBe_90 (by decide) ?_
    exact hk_31 x1 1 ((x3 + 3)) s hf H locs ls hP hD hS (lv_sub hl [2, 3, 1, 0] rfl)
  have hd_31 : ∀ (n : Nat) (x1 : Int32) (x2 : Int32) (x3 : Int32) (s : ms), hd_M_canBe_31 N n x1 x2 x3 s = some y → dcC p l e ({ frames := 1, cells := 0, slots := 0, locals := 22 }) s0 m [.ref h0, .int v1].toArray below meth c QQ (dC, dI) A (wM h0 a cI cB cJ cZ s) 31 4 [(0, .ref h0), (1, .int x1), (2, .int x2), (3, .int x3)] [] := by
    intro n
    induction n with
    | zero => intro x1 x2 x3 s hf; cases hf
    | succ n ih =>
      intro x1 x2 x3 s hf H locs ls hP hD hS hl
      have hf : bd_M_canBe_31 N (hd_M_canBe_31 N n) x1 x2 x3 s = some y := hf
      have hk_31 := ih
      generalize hd_M_canBe_31 N n = k_31 at hf hk_31
      unfold bd_M_canBe_31 at hf
      refine lv_iload_n hx hb dn_M_canBe_31 rfl (lv_at hl 3 rfl) ?_
      refine lv_aload_n hx hb dn_M_canBe_32 rfl (lv_at hl 0 rfl) ?_
      refine va_get (D := (dC, dI)) (ci := 0) (v := .ref ((a 68))) (C := rn_M) (T := fn_M) (N := 91) hx hb hg in_M hown hK hP 0 rfl rfl 68 (by decide) (hg _ wn_8_136) (fun _ h9 => h9) rfl dn_M_canBe_33 ?_
      refine lv_iload_n hx hb dn_M_canBe_36 rfl (lv_at hl 1 rfl) ?_
      obtain ⟨hg_1, hf⟩ := dc_g hf
      refine va_iald hx hb hK hP 48 0 rfl rfl hg_1 dn_M_canBe_37 ?_
      refine xk_ti (y := ((s.1 68) (Int32.toNatClampNeg x1))) rfl ?_
      refine lv_icmp_ge (tgt := 93) hx hb dn_M_canBe_38 (by decide) (fun h => ?_) (fun h => ?_)
      · have hf := (if_pos h).symm.trans hf
        refine lv_iload_n hx hb dn_M_canBe_93 rfl (lv_at hl 2 rfl) ?_
        obtain ⟨hg_2, hf⟩ := dc_g hf
        rw [hQQ, ← Option.some.inj hf]
        exact xk_zret (w1 := fun u : Unit => (wM h0 a cI cB cJ cZ s)) () hx hb hr (dc_z hg_2) hlocks hK hS dn_M_canBe_94 hP hD rfl (Nat.le_refl _) (Nat.le_refl _)
      · have hf := (if_neg h).symm.trans hf
        refine lv_iload_n hx hb dn_M_canBe_41 rfl (lv_at hl 2 rfl) ?_
        refine lv_if_eq (tgt := 85) hx hb dn_M_canBe_42 (by decide) (fun h => ?_) (fun h => ?_)
        · have hf := (if_pos h).symm.trans hf
          refine lv_iconst (v := 0) hx hb dn_M_canBe_85 (by decide) ?_
          refine lv_istore_n (lv' := [(2, .int 0), (0, .ref h0), (1, .int x1), (3, .int x3)]) hx hb dn_M_canBe_86 rfl hl (by decide) rfl (fun ls hl => ?_)
          refine lv_iinc (v := (x3 + 3)) (lv' := [(3, .int ((x3 + 3))), (2, .int 0), (0, .ref h0), (1, .int x1)]) hx hb dn_M_canBe_87 hl (k := 3) rfl (dc_inc (by decide)) (by decide) rfl (fun ls hl => ?_)
          refine lv_goto (tgt := 31) hx hb dn_M_canBe_90 (by decide) ?_
          exact hk_31 x1 0 ((x3 + 3)) s hf H locs ls hP hD hS (lv_sub hl [2, 3, 1, 0] rfl)
        · have hf := (if_neg h).symm.trans hf
          refine lv_aload_n hx hb dn_M_canBe_45 rfl (lv_at hl 0 rfl) ?_
          refine va_get (D := (dC, dI)) (ci := 0) (v := .ref ((a 41))) (C := rn_M) (T := fn_M) (N := 91) hx hb hg in_M hown hK hP 0 rfl rfl 41 (by decide) (hg _ wn_8_109) (fun _ h9 => h9) rfl dn_M_canBe_46 ?_
          refine lv_iload_n hx hb dn_M_canBe_49 rfl (lv_at hl 3 rfl) ?_
          obtain ⟨hg_2, hf⟩ := dc_g hf
          refine va_iald hx hb hK hP 28 0 rfl rfl hg_2 dn_M_canBe_50 ?_
          refine xk_ti (y := ((s.1 41) (Int32.toNatClampNeg x3))) rfl ?_
          refine lv_iconst (v := 1) hx hb dn_M_canBe_51 (by decide) ?_
          refine lv_icmp_ne (tgt := 81) hx hb dn_M_canBe_52 (by decide) (fun h => ?_) (fun h => ?_)
          · have hf := (if_neg h).symm.trans hf
            exact bl_81 k_31 hk_31 x1 x3 s hf H locs ls hP hD hS (lv_sub hl [0, 1, 3] rfl)
          · have hf := (if_pos h).symm.trans hf
            refine lv_aload_n hx hb dn_M_canBe_55 rfl (lv_at hl 0 rfl) ?_
            refine va_get (D := (dC, dI)) (ci := 0) (v := .ref ((a 72))) (C := rn_M) (T := fn_M) (N := 91) hx hb hg in_M hown hK hP 0 rfl rfl 72 (by decide) (hg _ wn_8_140) (fun _ h9 => h9) rfl dn_M_canBe_56 ?_
            refine lv_aload_n hx hb dn_M_canBe_59 rfl (lv_at hl 0 rfl) ?_
            refine lv_aload_n hx hb dn_M_canBe_60 rfl (lv_at hl 0 rfl) ?_
            refine va_get (D := (dC, dI)) (ci := 0) (v := .ref ((a 69))) (C := rn_M) (T := fn_M) (N := 91) hx hb hg in_M hown hK hP 0 rfl rfl 69 (by decide) (hg _ wn_8_137) (fun _ h9 => h9) rfl dn_M_canBe_61 ?_
            refine lv_iload_n hx hb dn_M_canBe_64 rfl (lv_at hl 1 rfl) ?_
            obtain ⟨hg_3, hf⟩ := dc_g hf
            refine va_iald hx hb hK hP 49 0 rfl rfl hg_3 dn_M_canBe_65 ?_
            refine xk_ti (y := ((s.1 69) (Int32.toNatClampNeg x1))) rfl ?_
            refine lv_aload_n hx hb dn_M_canBe_66 rfl (lv_at hl 0 rfl) ?_
            refine va_get (D := (dC, dI)) (ci := 0) (v := .ref ((a 41))) (C := rn_M) (T := fn_M) (N := 91) hx hb hg in_M hown hK hP 0 rfl rfl 41 (by decide) (hg _ wn_8_109) (fun _ h9 => h9) rfl dn_M_canBe_67 ?_
            refine lv_iload_n hx hb dn_M_canBe_70 rfl (lv_at hl 3 rfl) ?_
            refine lv_iconst (v := 1) hx hb dn_M_canBe_71 (by decide) ?_
            refine lv_iadd hx hb dn_M_canBe_72 ?_
            obtain ⟨hg_4, hf⟩ := dc_g hf
            refine va_iald hx hb hK hP 28 0 rfl rfl hg_4 dn_M_canBe_73 ?_
            refine xk_ti (y := ((s.1 41) (Int32.toNatClampNeg ((x3 + 1))))) rfl ?_
            obtain ⟨q_5, hc_6, hf⟩ := dc_b hf
            refine dc_calli (dc_runV (ar := 2) (As := [.int (((s.1 69) (Int32.toNatClampNeg x1))), .int (((s.1 41) (Int32.toNatClampNeg ((x3 + 1)))))]) (rest := [.ref ((a 72))]) (ci := 0) (q0 := 0) ⟨hx, hb, hml, hown, hg⟩ hK hN hT hS hA (ct_M_signalOf l dC dI cI cB cJ cZ cQ N H.size h0 a (((s.1 69) (Int32.toNatClampNeg x1))) (((s.1 41) (Int32.toNatClampNeg ((x3 + 1))))) s q_5 hc_6) hP hD rfl rfl wn_10_180 wn_10_182 sn_M_signalOf wn_1_13 wn_10_183 rfl rfl (by decide +kernel) ⟨Nat.le_of_ble_eq_true rfl, Nat.le_of_ble_eq_true rfl⟩ rfl hl.1 rfl (Nat.le_of_ble_eq_true rfl) dn_M_canBe_74 ⟨Nat.le_of_ble_eq_true rfl, Nat.le_of_ble_eq_true rfl⟩) hP hD hS hA (fun r_7 _ H locs hw hP hD hS => ?_)
            have hw : r_7 = q_5.1 := hw
            subst hw
            obtain ⟨hg_8, hf⟩ := dc_g hf
            refine va_zald hx hb hK hP 51 3 rfl rfl hg_8 dn_M_canBe_77 ?_
            refine xk_ti (y := ((q_5.2.1 72) (Int32.toNatClampNeg q_5.1))) rfl ?_
            refine lv_if_eq (tgt := 85) hx hb dn_M_canBe_78 (by decide) (fun h => ?_) (fun h => ?_)
            · have hf := (if_pos h).symm.trans hf
              refine lv_iconst (v := 0) hx hb dn_M_canBe_85 (by decide) ?_
              refine lv_istore_n (lv' := [(2, .int 0), (0, .ref h0), (1, .int x1), (3, .int x3)]) hx hb dn_M_canBe_86 rfl hl (by decide) rfl (fun ls hl => ?_)
              refine lv_iinc (v := (x3 + 3)) (lv' := [(3, .int ((x3 + 3))), (2, .int 0), (0, .ref h0), (1, .int x1)]) hx hb dn_M_canBe_87 hl (k := 3) rfl (dc_inc (by decide)) (by decide) rfl (fun ls hl => ?_)
              refine lv_goto (tgt := 31) hx hb dn_M_canBe_90 (by decide) ?_
              exact hk_31 x1 0 ((x3 + 3)) q_5.2 hf H locs ls hP hD hS (lv_sub hl [2, 3, 1, 0] rfl)
            · have hf := (if_neg h).symm.trans hf
              exact bl_81 k_31 hk_31 x1 x3 q_5.2 hf H locs ls hP hD hS (lv_sub hl [0, 1, 3] rfl)
  intro H locs ls hP hD hS hl
  unfold fn_M_canBe at hf
  refine lv_aload_n hx hb dn_M_canBe_0 rfl (lv_at hl 0 rfl) ?_
  refine va_get (D := (dC, dI)) (ci := 0) (v := .ref ((a 66))) (C := rn_M) (T := fn_M) (N := 91) hx hb hg in_M hown hK hP 0 rfl rfl 66 (by decide) (hg _ wn_8_134) (fun _ h9 => h9) rfl dn_M_canBe_1 ?_
  refine lv_iload_n hx hb dn_M_canBe_4 rfl (lv_at hl 1 rfl) ?_
  obtain ⟨hg_1, hf⟩ := dc_g hf
  refine va_iald hx hb hK hP 46 0 rfl rfl hg_1 dn_M_canBe_5 ?_
  refine xk_ti (y := ((s.1 66) (Int32.toNatClampNeg v1))) rfl ?_
  refine lv_iconst (v := 2) hx hb dn_M_canBe_6 (by decide) ?_
  refine lv_icmp_ne (tgt := 22) hx hb dn_M_canBe_7 (by decide) (fun h => ?_) (fun h => ?_)
  · have hf := (if_neg h).symm.trans hf
    refine lv_iconst (v := 1) hx hb dn_M_canBe_22 (by decide) ?_
    refine lv_istore_n (lv' := [(2, .int 1), (0, .ref h0), (1, .int v1)]) hx hb dn_M_canBe_23 rfl hl (by decide) rfl (fun ls hl => ?_)
    refine lv_aload_n hx hb dn_M_canBe_24 rfl (lv_at hl 1 rfl) ?_
    refine va_get (D := (dC, dI)) (ci := 0) (v := .ref ((a 67))) (C := rn_M) (T := fn_M) (N := 91) hx hb hg in_M hown hK hP 0 rfl rfl 67 (by decide) (hg _ wn_8_135) (fun _ h9 => h9) rfl dn_M_canBe_25 ?_
    refine lv_iload_n hx hb dn_M_canBe_28 rfl (lv_at hl 2 rfl) ?_
    obtain ⟨hg_2, hf⟩ := dc_g hf
    refine va_iald hx hb hK hP 47 0 rfl rfl hg_2 dn_M_canBe_29 ?_
    refine xk_ti (y := ((s.1 67) (Int32.toNatClampNeg v1))) rfl ?_
    refine lv_istore_n (lv' := [(3, .int (((s.1 67) (Int32.toNatClampNeg v1)))), (2, .int 1), (0, .ref h0), (1, .int v1)]) hx hb dn_M_canBe_30 rfl hl (by decide) rfl (fun ls hl => ?_)
    exact hd_31 N v1 1 (((s.1 67) (Int32.toNatClampNeg v1))) s hf H locs ls hP hD hS (lv_sub hl [2, 3, 1, 0] rfl)
  · have hf := (if_pos h).symm.trans hf
    refine lv_aload_n hx hb dn_M_canBe_10 rfl (lv_at hl 0 rfl) ?_
    refine va_get (D := (dC, dI)) (ci := 0) (v := .ref ((a 72))) (C := rn_M) (T := fn_M) (N := 91) hx hb hg in_M hown hK hP 0 rfl rfl 72 (by decide) (hg _ wn_8_140) (fun _ h9 => h9) rfl dn_M_canBe_11 ?_
    refine lv_aload_n hx hb dn_M_canBe_14 rfl (lv_at hl 0 rfl) ?_
    refine va_get (D := (dC, dI)) (ci := 0) (v := .ref ((a 67))) (C := rn_M) (T := fn_M) (N := 91) hx hb hg in_M hown hK hP 0 rfl rfl 67 (by decide) (hg _ wn_8_135) (fun _ h9 => h9) rfl dn_M_canBe_15 ?_
    refine lv_iload_n hx hb dn_M_canBe_18 rfl (lv_at hl 1 rfl) ?_
    obtain ⟨hg_2, hf⟩ := dc_g hf
    refine va_iald hx hb hK hP 47 0 rfl rfl hg_2 dn_M_canBe_19 ?_
    refine xk_ti (y := ((s.1 67) (Int32.toNatClampNeg v1))) rfl ?_
    obtain ⟨hg_3, hf⟩ := dc_g hf
    refine va_zald hx hb hK hP 51 3 rfl rfl hg_3 dn_M_canBe_20 ?_
    refine xk_ti (y := ((s.1 72) (Int32.toNatClampNeg (((s.1 67) (Int32.toNatClampNeg v1)))))) rfl ?_
    obtain ⟨hg_4, hf⟩ := dc_g hf
    rw [hQQ, ← Option.some.inj hf]
    exact xk_zret (w1 := fun u : Unit => (wM h0 a cI cB cJ cZ s)) () hx hb hr (dc_z hg_4) hlocks hK hS dn_M_canBe_21 hP hD rfl (Nat.le_refl _) (Nat.le_refl _)
def bd_M_putInOrder_116 (N : Nat) (k_116 : Int32 → ms → Option (Unit × ms)) (x2 : Int32) (s : ms) : Option (Unit × ms) :=
  if (s.1 63 0) ≤ x2 then (some ((), s)) else (if (s.1 9 0) = 0 then (if (x2 < 0 ∨ 1100 ≤ Int32.toNatClampNeg x2) then none else if ((s.1 72) (Int32.toNatClampNeg x2)) = 0 then ((fn_M_dependsOnItself N x2 s).bind (fun q_2 => if q_2.1 = 0 then (k_116 ((x2 + 1)) q_2.2) else (if (x2 < 0 ∨ 1100 ≤ Int32.toNatClampNeg x2) then none else if (((q_2.2.1 64) (Int32.toNatClampNeg x2)) < 0 ∨ 11000 ≤ Int32.toNatClampNeg (((q_2.2.1 64) (Int32.toNatClampNeg x2)))) then none else if (((q_2.2.1 19) (Int32.toNatClampNeg (((q_2.2.1 64) (Int32.toNatClampNeg x2))))) < 0 ∨ 65540 ≤ Int32.toNatClampNeg (((q_2.2.1 19) (Int32.toNatClampNeg (((q_2.2.1 64) (Int32.toNatClampNeg x2))))))) then none else (fn_M_fail N 45 (((q_2.2.1 5) (Int32.toNatClampNeg (((q_2.2.1 19) (Int32.toNatClampNeg (((q_2.2.1 64) (Int32.toNatClampNeg x2))))))))) q_2.2).bind (fun q_8 => k_116 ((x2 + 1)) q_8.2)))) else (k_116 ((x2 + 1)) s)) else (some ((), s)))
def hd_M_putInOrder_116 (N : Nat) : Nat → Int32 → ms → Option (Unit × ms)
  | 0, _, _ => none
  | n + 1, x2, s => bd_M_putInOrder_116 N (hd_M_putInOrder_116 N n) x2 s
def bd_M_putInOrder_51 (N : Nat) (k_43 : Int32 → ms → Option (Unit × ms)) (k_51 : Int32 → Int32 → ms → Option (Unit × ms)) (x1 : Int32) (x2 : Int32) (s : ms) : Option (Unit × ms) :=
  if (s.1 63 0) ≤ x2 then (k_43 x1 s) else (if (x2 < 0 ∨ 1100 ≤ Int32.toNatClampNeg x2) then none else if ((s.1 72) (Int32.toNatClampNeg x2)) = 0 then ((fn_M_canBe N x2 s).bind (fun q_2 => if q_2.1 = 0 then (k_51 x1 ((x2 + 1)) q_2.2) else (if (x2 < 0 ∨ 1100 ≤ Int32.toNatClampNeg x2) then none else if ((q_2.2.1 71 0) < 0 ∨ 1100 ≤ Int32.toNatClampNeg ((q_2.2.1 71 0))) then none else k_51 1 ((x2 + 1)) (upI (upI (upI q_2.2 72 (upd (q_2.2.1 72) (Int32.toNatClampNeg x2) (vp_nar .boolean 1))) 70 (upd (q_2.2.1 70) (Int32.toNatClampNeg ((q_2.2.1 71 0))) x2)) 71 (fun _ => ((q_2.2.1 71 0) + 1)))))) else (k_51 x1 ((x2 + 1)) s))
def hd_M_putInOrder_51 (N : Nat) (k_43 : Int32 → ms → Option (Unit × ms)) : Nat → Int32 → Int32 → ms → Option (Unit × ms)
  | 0, _, _, _ => none
  | n + 1, x1, x2, s => bd_M_putInOrder_51 N k_43 (hd_M_putInOrder_51 N k_43 n) x1 x2 s
def bd_M_putInOrder_43 (N : Nat) (k_43 : Int32 → ms → Option (Unit × ms)) (x1 : Int32) (s : ms) : Option (Unit × ms) :=
  if x1 = 0 then (hd_M_putInOrder_116 N N 0 s) else (hd_M_putInOrder_51 N k_43 N 0 0 s)
def hd_M_putInOrder_43 (N : Nat) : Nat → Int32 → ms → Option (Unit × ms)
  | 0, _, _ => none
  | n + 1, x1, s => bd_M_putInOrder_43 N (hd_M_putInOrder_43 N n) x1 s
def bk_M_putInOrder_34 (N : Nat) (k_7 : Int32 → ms → Option (Unit × ms)) (x1 : Int32) (t0 : Int32) (t1 : Int32) (s : ms) : Option (Unit × ms) :=
  if (t1 < 0 ∨ 1100 ≤ Int32.toNatClampNeg t1) then none else k_7 ((x1 + 1)) (upI s 72 (upd (s.1 72) (Int32.toNatClampNeg t1) (vp_nar .boolean t0)))
def bd_M_putInOrder_7 (N : Nat) (k_7 : Int32 → ms → Option (Unit × ms)) (x1 : Int32) (s : ms) : Option (Unit × ms) :=
  if (s.1 63 0) ≤ x1 then (hd_M_putInOrder_43 N N 1 s) else (if (x1 < 0 ∨ 1100 ≤ Int32.toNatClampNeg x1) then none else if ((s.1 66) (Int32.toNatClampNeg x1)) = 0 then (bk_M_putInOrder_34 N k_7 x1 1 x1 s) else (bk_M_putInOrder_34 N k_7 x1 0 x1 s))
def hd_M_putInOrder_7 (N : Nat) : Nat → Int32 → ms → Option (Unit × ms)
  | 0, _, _ => none
  | n + 1, x1, s => bd_M_putInOrder_7 N (hd_M_putInOrder_7 N n) x1 s
def fn_M_putInOrder (N : Nat) (s : ms) : Option (Unit × ms) :=
  hd_M_putInOrder_7 N N 0 (upI s 71 (fun _ => 0))
theorem mb_M_putInOrder_116 (N : Nat) (y : (Unit × ms)) (k_116 : Int32 → ms → Option (Unit × ms)) (hkm_116 : ∀ (x2 : Int32) (s : ms), k_116 x2 s = some y → gl y.2 = gl s) (x2 : Int32) (s : ms) (hf : bd_M_putInOrder_116 N k_116 x2 s = some y) : gl y.2 = gl s := by
  unfold bd_M_putInOrder_116 at hf
  have hm : gl s = gl s := rfl
  by_cases h : (s.1 63 0) ≤ x2
  · have hf := (if_pos h).symm.trans hf
    rw [← Option.some.inj hf]
    exact hm
  · have hf := (if_neg h).symm.trans hf
    by_cases h : (s.1 9 0) = 0
    · have hf := (if_pos h).symm.trans hf
      obtain ⟨_, hf⟩ := dc_g hf
      by_cases h : ((s.1 72) (Int32.toNatClampNeg x2)) = 0
      · have hf := (if_pos h).symm.trans hf
        obtain ⟨q_2, hc_3, hf⟩ := dc_b hf
        have hm := (mn_M_dependsOnItself N x2 s q_2 hc_3).trans hm
        by_cases h : q_2.1 = 0
        · have hf := (if_pos h).symm.trans hf
          exact (hkm_116 ((x2 + 1)) q_2.2 hf).trans hm
        · have hf := (if_neg h).symm.trans hf
          obtain ⟨_, hf⟩ := dc_g hf
          obtain ⟨_, hf⟩ := dc_g hf
          obtain ⟨_, hf⟩ := dc_g hf
          obtain ⟨q_8, hc_9, hf⟩ := dc_b hf
          have hm := (mn_M_fail N 45 (((q_2.2.1 5) (Int32.toNatClampNeg (((q_2.2.1 19) (Int32.toNatClampNeg (((q_2.2.1 64) (Int32.toNatClampNeg x2))))))))) q_2.2 q_8 hc_9).trans hm
          exact (hkm_116 ((x2 + 1)) q_8.2 hf).trans hm
      · have hf := (if_neg h).symm.trans hf
        exact (hkm_116 ((x2 + 1)) s hf).trans hm
    · have hf := (if_neg h).symm.trans hf
      rw [← Option.some.inj hf]
      exact hm
theorem mh_M_putInOrder_116 (N : Nat) (y : (Unit × ms)) : ∀ (n : Nat) (x2 : Int32) (s : ms), hd_M_putInOrder_116 N n x2 s = some y → gl y.2 = gl s := by
  intro n
  induction n with
  | zero => intro x2 s hf; cases hf
  | succ n ih => intro x2 s hf; exact mb_M_putInOrder_116 N y (hd_M_putInOrder_116 N n) ih x2 s hf
theorem mb_M_putInOrder_51 (N : Nat) (k_43 : Int32 → ms → Option (Unit × ms)) (y : (Unit × ms)) (hkm_43 : ∀ (x1 : Int32) (s : ms), k_43 x1 s = some y → gl y.2 = gl s) (k_51 : Int32 → Int32 → ms → Option (Unit × ms)) (hkm_51 : ∀ (x1 : Int32) (x2 : Int32) (s : ms), k_51 x1 x2 s = some y → gl y.2 = gl s) (x1 : Int32) (x2 : Int32) (s : ms) (hf : bd_M_putInOrder_51 N k_43 k_51 x1 x2 s = some y) : gl y.2 = gl s := by
  unfold bd_M_putInOrder_51 at hf
  have hm : gl s = gl s := rfl
  by_cases h : (s.1 63 0) ≤ x2
  · have hf := (if_pos h).symm.trans hf
    exact (hkm_43 x1 s hf).trans hm
  · have hf := (if_neg h).symm.trans hf
    obtain ⟨_, hf⟩ := dc_g hf
    by_cases h : ((s.1 72) (Int32.toNatClampNeg x2)) = 0
    · have hf := (if_pos h).symm.trans hf
      obtain ⟨q_2, hc_3, hf⟩ := dc_b hf
      have hm := (mn_M_canBe N x2 s q_2 hc_3).trans hm
      by_cases h : q_2.1 = 0
      · have hf := (if_pos h).symm.trans hf
        exact (hkm_51 x1 ((x2 + 1)) q_2.2 hf).trans hm
      · have hf := (if_neg h).symm.trans hf
        obtain ⟨_, hf⟩ := dc_g hf
        obtain ⟨_, hf⟩ := dc_g hf
        exact (hkm_51 1 ((x2 + 1)) (upI (upI (upI q_2.2 72 (upd (q_2.2.1 72) (Int32.toNatClampNeg x2) (vp_nar .boolean 1))) 70 (upd (q_2.2.1 70) (Int32.toNatClampNeg ((q_2.2.1 71 0))) x2)) 71 (fun _ => ((q_2.2.1 71 0) + 1))) hf).trans hm
    · have hf := (if_neg h).symm.trans hf
      exact (hkm_51 x1 ((x2 + 1)) s hf).trans hm
theorem mh_M_putInOrder_51 (N : Nat) (k_43 : Int32 → ms → Option (Unit × ms)) (y : (Unit × ms)) (hkm_43 : ∀ (x1 : Int32) (s : ms), k_43 x1 s = some y → gl y.2 = gl s) : ∀ (n : Nat) (x1 : Int32) (x2 : Int32) (s : ms), hd_M_putInOrder_51 N k_43 n x1 x2 s = some y → gl y.2 = gl s := by
  intro n
  induction n with
  | zero => intro x1 x2 s hf; cases hf
  | succ n ih => intro x1 x2 s hf; exact mb_M_putInOrder_51 N k_43 y hkm_43 (hd_M_putInOrder_51 N k_43 n) ih x1 x2 s hf
theorem mb_M_putInOrder_43 (N : Nat) (y : (Unit × ms)) (k_43 : Int32 → ms → Option (Unit × ms)) (hkm_43 : ∀ (x1 : Int32) (s : ms), k_43 x1 s = some y → gl y.2 = gl s) (x1 : Int32) (s : ms) (hf : bd_M_putInOrder_43 N k_43 x1 s = some y) : gl y.2 = gl s := by
  unfold bd_M_putInOrder_43 at hf
  have hm : gl s = gl s := rfl
  by_cases h : x1 = 0
  · have hf := (if_pos h).symm.trans hf
    exact (mh_M_putInOrder_116 N y N 0 s hf).trans hm
  · have hf := (if_neg h).symm.trans hf
    exact (mh_M_putInOrder_51 N k_43 y hkm_43 N 0 0 s hf).trans hm
theorem mh_M_putInOrder_43 (N : Nat) (y : (Unit × ms)) : ∀ (n : Nat) (x1 : Int32) (s : ms), hd_M_putInOrder_43 N n x1 s = some y → gl y.2 = gl s := by
  intro n
  induction n with
  | zero => intro x1 s hf; cases hf
  | succ n ih => intro x1 s hf; exact mb_M_putInOrder_43 N y (hd_M_putInOrder_43 N n) ih x1 s hf
theorem mo_M_putInOrder_34 (N : Nat) (k_7 : Int32 → ms → Option (Unit × ms)) (y : (Unit × ms)) (hkm_7 : ∀ (x1 : Int32) (s : ms), k_7 x1 s = some y → gl y.2 = gl s) (x1 : Int32) (t0 : Int32) (t1 : Int32) (s : ms) (hf : bk_M_putInOrder_34 N k_7 x1 t0 t1 s = some y) : gl y.2 = gl s := by
  unfold bk_M_putInOrder_34 at hf
  have hm : gl s = gl s := rfl
  obtain ⟨_, hf⟩ := dc_g hf
  exact (hkm_7 ((x1 + 1)) (upI s 72 (upd (s.1 72) (Int32.toNatClampNeg t1) (vp_nar .boolean t0))) hf).trans hm
theorem mb_M_putInOrder_7 (N : Nat) (y : (Unit × ms)) (k_7 : Int32 → ms → Option (Unit × ms)) (hkm_7 : ∀ (x1 : Int32) (s : ms), k_7 x1 s = some y → gl y.2 = gl s) (x1 : Int32) (s : ms) (hf : bd_M_putInOrder_7 N k_7 x1 s = some y) : gl y.2 = gl s := by
  unfold bd_M_putInOrder_7 at hf
  have hm : gl s = gl s := rfl
  by_cases h : (s.1 63 0) ≤ x1
  · have hf := (if_pos h).symm.trans hf
    exact (mh_M_putInOrder_43 N y N 1 s hf).trans hm
  · have hf := (if_neg h).symm.trans hf
    obtain ⟨_, hf⟩ := dc_g hf
    by_cases h : ((s.1 66) (Int32.toNatClampNeg x1)) = 0
    · have hf := (if_pos h).symm.trans hf
      exact (mo_M_putInOrder_34 N k_7 y hkm_7 x1 1 x1 s hf).trans hm
    · have hf := (if_neg h).symm.trans hf
      exact (mo_M_putInOrder_34 N k_7 y hkm_7 x1 0 x1 s hf).trans hm
theorem mh_M_putInOrder_7 (N : Nat) (y : (Unit × ms)) : ∀ (n : Nat) (x1 : Int32) (s : ms), hd_M_putInOrder_7 N n x1 s = some y → gl y.2 = gl s := by
  intro n
  induction n with
  | zero => intro x1 s hf; cases hf
  | succ n ih => intro x1 s hf; exact mb_M_putInOrder_7 N y (hd_M_putInOrder_7 N n) ih x1 s hf
theorem mn_M_putInOrder (N : Nat) (s : ms) (y : (Unit × ms)) (hf : fn_M_putInOrder N s = some y) : gl y.2 = gl s := by
  unfold fn_M_putInOrder at hf
  have hm : gl s = gl s := rfl
  exact (mh_M_putInOrder_7 N y N 0 (upI s 71 (fun _ => 0)) hf).trans hm
set_option maxHeartbeats 8000000 in
set_option maxRecDepth 100000 in
theorem ct_M_putInOrder (l : Launch) (dC : Nat → ClassId) (dI : Nat → Nat → Nat) (cI cB cJ cZ cQ : ClassId) (N sz : Nat) (h0 : Nat) (a : Nat → Nat) (s : ms) (y : (Unit × ms)) (hf : fn_M_putInOrder N s = some y) : Met l yn_M_putInOrder (xw yn_M_putInOrder bn_M_putInOrder 3 none) ({ frames := 2, cells := 0, slots := 0, locals := 50 }) (dc_P (dC, dI) xcl (xt cI cB cJ cZ cQ) [.ref h0] sz (wM h0 a cI cB cJ cZ s)) (xk_Qv (dC, dI) xcl (xt cI cB cJ cZ cQ) (fun _ : Unit => True) (fun u : Unit => (wM h0 a cI cB cJ cZ y.2)) (va_A (wM h0 a cI cB cJ cZ s) sz)) 0 0 (va_A (wM h0 a cI cB cJ cZ s) sz) := by
  refine dc_of (QA := xk_Qv (dC, dI) xcl (xt cI cB cJ cZ cQ) (fun _ : Unit => True) (fun u : Unit => (wM h0 a cI cB cJ cZ y.2))) (by decide) (Nat.le_of_ble_eq_true rfl) ?_
  intro p e s0 m below meth c hx hb hml hown hg hr hlocks hin hP hK hN A hA hD hT ls hl
  have hown : s0.vm.findClass rn_M = some m.cls := hown
  obtain ⟨H, hH⟩ : ∃ z, z = s0.heap := ⟨_, rfl⟩
  rw [← hH] at hP
  have hS : va_S A s0.heap H [] := by rw [hH]; exact va_S.rf
  suffices kk : ∀ QQ : State → Prop, QQ = MQ below (xk_Qv (dC, dI) xcl (xt cI cB cJ cZ cQ) (fun _ : Unit => True) (fun u : Unit => (wM h0 a cI cB cJ cZ y.2)) A) [.ref h0].toArray s0 0 0 A → dcC p l e ({ frames := 2, cells := 0, slots := 0, locals := 50 }) s0 m [.ref h0].toArray below meth c QQ (dC, dI) A (wM h0 a cI cB cJ cZ s) 0 3 [(0, .ref h0)] [] by
    have k9 := kk _ rfl H [] ls hP hD hS hl
    rw [hH] at k9; exact k9
  clear hP hD hS hl hH H ls
  intro QQ hQQ
  have hd_116 : ∀ (n : Nat) (x2 : Int32) (s : ms), hd_M_putInOrder_116 N n x2 s = some y → dcC p l e ({ frames := 2, cells := 0, slots := 0, locals := 50 }) s0 m [.ref h0].toArray below meth c QQ (dC, dI) A (wM h0 a cI cB cJ cZ s) 116 3 [(0, .ref h0), (2, .int x2)] [] := by
    intro n
    induction n with
    | zero => intro x2 s hf; cases hf
    | succ n ih =>
      intro x2 s hf H locs ls hP hD hS hl
      have hf : bd_M_putInOrder_116 N (hd_M_putInOrder_116 N n) x2 s = some y := hf
      have hk_116 := ih
      generalize hd_M_putInOrder_116 N n = k_116 at hf hk_116
      unfold bd_M_putInOrder_116 at hf
      refine lv_iload_n hx hb dn_M_putInOrder_116 rfl (lv_at hl 1 rfl) ?_
      refine lv_aload_n hx hb dn_M_putInOrder_117 rfl (lv_at hl 0 rfl) ?_
      refine va_get (D := (dC, dI)) (ci := 0) (v := .int ((s.1 63 0))) (C := rn_M) (T := fn_M) (N := 91) hx hb hg in_M hown hK hP 0 rfl rfl 63 (by decide) (hg _ wn_8_131) (fun _ h9 => h9) rfl dn_M_putInOrder_118 ?_
      refine lv_icmp_ge (tgt := 176) hx hb dn_M_putInOrder_121 (by decide) (fun h => ?_) (fun h => ?_)
      · have hf := (if_pos h).symm.trans hf
        rw [hQQ, ← Option.some.inj hf]
        exact xk_vret (w1 := fun u : Unit => (wM h0 a cI cB cJ cZ s)) () hx hb hr hlocks hK hS dn_M_putInOrder_176 hP hD trivial (Nat.le_refl _) (Nat.le_refl _)
      · have hf := (if_neg h).symm.trans hf
        refine lv_aload_n hx hb dn_M_putInOrder_124 rfl (lv_at hl 0 rfl) ?_
        refine va_get (D := (dC, dI)) (ci := 0) (v := .int ((s.1 9 0))) (C := rn_M) (T := fn_M) (N := 91) hx hb hg in_M hown hK hP 0 rfl rfl 9 (by decide) (hg _ wn_8_77) (fun _ h9 => h9) rfl dn_M_putInOrder_125 ?_
        refine lv_if_ne (tgt := 176) hx hb dn_M_putInOrder_128 (by decide) (fun h => ?_) (fun h => ?_)
        · have hf := (if_neg h).symm.trans hf
          rw [hQQ, ← Option.some.inj hf]
          exact xk_vret (w1 := fun u : Unit => (wM h0 a cI cB cJ cZ s)) () hx hb hr hlocks hK hS dn_M_putInOrder_176 hP hD trivial (Nat.le_refl _) (Nat.le_refl _)
        · have hf := (if_pos h).symm.trans hf
          refine lv_aload_n hx hb dn_M_putInOrder_131 rfl (lv_at hl 0 rfl) ?_
          refine va_get (D := (dC, dI)) (ci := 0) (v := .ref ((a 72))) (C := rn_M) (T := fn_M) (N := 91) hx hb hg in_M hown hK hP 0 rfl rfl 72 (by decide) (hg _ wn_8_140) (fun _ h9 => h9) rfl dn_M_putInOrder_132 ?_
          refine lv_iload_n hx hb dn_M_putInOrder_135 rfl (lv_at hl 1 rfl) ?_
          obtain ⟨hg_1, hf⟩ := dc_g hf
          refine va_zald hx hb hK hP 51 3 rfl rfl hg_1 dn_M_putInOrder_136 ?_
          refine xk_ti (y := ((s.1 72) (Int32.toNatClampNeg x2))) rfl ?_
          refine lv_if_ne (tgt := 170) hx hb dn_M_putInOrder_137 (by decide) (fun h => ?_) (fun h => ?_)
          · have hf := (if_neg h).symm.trans hf
            refine lv_iinc (v := (x2 + 1)) (lv' := [(2, .int ((x2 + 1))), (0, .ref h0)]) hx hb dn_M_putInOrder_170 hl (k := 1) rfl (dc_inc (by decide)) (by decide) rfl (fun ls hl => ?_)
            refine lv_goto (tgt := 116) hx hb dn_M_putInOrder_173 (by decide) ?_
            exact hk_116 ((x2 + 1)) s hf H locs ls hP hD hS (lv_sub hl [1, 0] rfl)
          · have hf := (if_pos h).symm.trans hf
            refine lv_aload_n hx hb dn_M_putInOrder_140 rfl (lv_at hl 0 rfl) ?_
            refine lv_iload_n hx hb dn_M_putInOrder_141 rfl (lv_at hl 1 rfl) ?_
            obtain ⟨q_2, hc_3, hf⟩ := dc_b hf
            refine dc_calli (dc_runV (ar := 1) (As := [.int x2]) (rest := []) (ci := 0) (q0 := 0) ⟨hx, hb, hml, hown, hg⟩ hK hN hT hS hA (ct_M_dependsOnItself l dC dI cI cB cJ cZ cQ N H.size h0 a x2 s q_2 hc_3) hP hD rfl rfl wn_10_192 wn_10_194 sn_M_dependsOnItself wn_1_13 wn_10_195 rfl rfl (by decide +kernel) ⟨Nat.le_of_ble_eq_true rfl, Nat.le_of_ble_eq_true rfl⟩ rfl hl.1 rfl (Nat.le_of_ble_eq_true rfl) dn_M_putInOrder_142 ⟨Nat.le_of_ble_eq_true rfl, Nat.le_of_ble_eq_true rfl⟩) hP hD hS hA (fun r_4 _ H locs hw hP hD hS => ?_)
            have hw : r_4 = q_2.1 := hw
            subst hw
            refine lv_if_eq (tgt := 170) hx hb dn_M_putInOrder_145 (by decide) (fun h => ?_) (fun h => ?_)
            · have hf := (if_pos h).symm.trans hf
              refine lv_iinc (v := (x2 + 1)) (lv' := [(2, .int ((x2 + 1))), (0, .ref h0)]) hx hb dn_M_putInOrder_170 hl (k := 1) rfl (dc_inc (by decide)) (by decide) rfl (fun ls hl => ?_)
              refine lv_goto (tgt := 116) hx hb dn_M_putInOrder_173 (by decide) ?_
              exact hk_116 ((x2 + 1)) q_2.2 hf H locs ls hP hD hS (lv_sub hl [1, 0] rfl)
            · have hf := (if_neg h).symm.trans hf
              refine lv_aload_n hx hb dn_M_putInOrder_148 rfl (lv_at hl 0 rfl) ?_
              refine lv_bipush (v := 45) hx hb dn_M_putInOrder_149 (by decide) ?_
              refine lv_aload_n hx hb dn_M_putInOrder_151 rfl (lv_at hl 0 rfl) ?_
              refine va_get (D := (dC, dI)) (ci := 0) (v := .ref ((a 5))) (C := rn_M) (T := fn_M) (N := 91) hx hb hg in_M hown hK hP 0 rfl rfl 5 (by decide) (hg _ wn_8_73) (fun _ h9 => h9) rfl dn_M_putInOrder_152 ?_
              refine lv_aload_n hx hb dn_M_putInOrder_155 rfl (lv_at hl 0 rfl) ?_
              refine va_get (D := (dC, dI)) (ci := 0) (v := .ref ((a 19))) (C := rn_M) (T := fn_M) (N := 91) hx hb hg in_M hown hK hP 0 rfl rfl 19 (by decide) (hg _ wn_8_87) (fun _ h9 => h9) rfl dn_M_putInOrder_156 ?_
              refine lv_aload_n hx hb dn_M_putInOrder_159 rfl (lv_at hl 0 rfl) ?_
              refine va_get (D := (dC, dI)) (ci := 0) (v := .ref ((a 64))) (C := rn_M) (T := fn_M) (N := 91) hx hb hg in_M hown hK hP 0 rfl rfl 64 (by decide) (hg _ wn_8_132) (fun _ h9 => h9) rfl dn_M_putInOrder_160 ?_
              refine lv_iload_n hx hb dn_M_putInOrder_163 rfl (lv_at hl 1 rfl) ?_
              obtain ⟨hg_5, hf⟩ := dc_g hf
              refine va_iald hx hb hK hP 44 0 rfl rfl hg_5 dn_M_putInOrder_164 ?_
              refine xk_ti (y := ((q_2.2.1 64) (Int32.toNatClampNeg x2))) rfl ?_
              obtain ⟨hg_6, hf⟩ := dc_g hf
              refine va_iald hx hb hK hP 10 0 rfl rfl hg_6 dn_M_putInOrder_165 ?_
              refine xk_ti (y := ((q_2.2.1 19) (Int32.toNatClampNeg (((q_2.2.1 64) (Int32.toNatClampNeg x2)))))) rfl ?_
              obtain ⟨hg_7, hf⟩ := dc_g hf
              refine va_iald hx hb hK hP 3 0 rfl rfl hg_7 dn_M_putInOrder_166 ?_
              refine xk_ti (y := ((q_2.2.1 5) (Int32.toNatClampNeg (((q_2.2.1 19) (Int32.toNatClampNeg (((q_2.2.1 64) (Int32.toNatClampNeg x2))))))))) rfl ?_
              obtain ⟨q_8, hc_9, hf⟩ := dc_b hf
              refine dc_callv (dc_runV (ar := 2) (As := [.int 45, .int (((q_2.2.1 5) (Int32.toNatClampNeg (((q_2.2.1 19) (Int32.toNatClampNeg (((q_2.2.1 64) (Int32.toNatClampNeg x2)))))))))]) (rest := []) (ci := 0) (q0 := 0) ⟨hx, hb, hml, hown, hg⟩ hK hN hT hS hA (ct_M_fail l dC dI cI cB cJ cZ cQ N H.size h0 a 45 (((q_2.2.1 5) (Int32.toNatClampNeg (((q_2.2.1 19) (Int32.toNatClampNeg (((q_2.2.1 64) (Int32.toNatClampNeg x2))))))))) q_2.2 q_8 hc_9) hP hD rfl rfl wn_9_181 wn_9_183 sn_M_fail wn_1_13 wn_9_184 rfl rfl (by decide +kernel) ⟨Nat.le_of_ble_eq_true rfl, Nat.le_of_ble_eq_true rfl⟩ rfl hl.1 rfl (Nat.le_of_ble_eq_true rfl) dn_M_putInOrder_167 ⟨Nat.le_of_ble_eq_true rfl, Nat.le_of_ble_eq_true rfl⟩) hP hD hS hA (fun _ H locs hw hP hD hS => ?_)
              refine lv_iinc (v := (x2 + 1)) (lv' := [(2, .int ((x2 + 1))), (0, .ref h0)]) hx hb dn_M_putInOrder_170 hl (k := 1) rfl (dc_inc (by decide)) (by decide) rfl (fun ls hl => ?_)
              refine lv_goto (tgt := 116) hx hb dn_M_putInOrder_173 (by decide) ?_
              exact hk_116 ((x2 + 1)) q_8.2 hf H locs ls hP hD hS (lv_sub hl [1, 0] rfl)
  have hd_51 : ∀ (k_43 : Int32 → ms → Option (Unit × ms)) (hk_43 : ∀ (x1 : Int32) (s : ms), k_43 x1 s = some y → dcC p l e ({ frames := 2, cells := 0, slots := 0, locals := 50 }) s0 m [.ref h0].toArray below meth c QQ (dC, dI) A (wM h0 a cI cB cJ cZ s) 43 3 [(0, .ref h0), (1, .int x1)] []) (n : Nat) (x1 : Int32) (x2 : Int32) (s : ms), hd_M_putInOrder_51 N k_43 n x1 x2 s = some y → dcC p l e ({ frames := 2, cells := 0, slots := 0, locals := 50 }) s0 m [.ref h0].toArray below meth c QQ (dC, dI) A (wM h0 a cI cB cJ cZ s) 51 3 [(0, .ref h0), (1, .int x1), (2, .int x2)] [] := by
    intro k_43 hk_43 n
    induction n with
    | zero => intro x1 x2 s hf; cases hf
    | succ n ih =>
      intro x1 x2 s hf H locs ls hP hD hS hl
      have hf : bd_M_putInOrder_51 N k_43 (hd_M_putInOrder_51 N k_43 n) x1 x2 s = some y := hf
      have hk_51 := ih
      generalize hd_M_putInOrder_51 N k_43 n = k_51 at hf hk_51
      unfold bd_M_putInOrder_51 at hf
      refine lv_iload_n hx hb dn_M_putInOrder_51 rfl (lv_at hl 2 rfl) ?_
      refine lv_aload_n hx hb dn_M_putInOrder_52 rfl (lv_at hl 0 rfl) ?_
      refine va_get (D := (dC, dI)) (ci := 0) (v := .int ((s.1 63 0))) (C := rn_M) (T := fn_M) (N := 91) hx hb hg in_M hown hK hP 0 rfl rfl 63 (by decide) (hg _ wn_8_131) (fun _ h9 => h9) rfl dn_M_putInOrder_53 ?_
      refine lv_icmp_ge (tgt := 111) hx hb dn_M_putInOrder_56 (by decide) (fun h => ?_) (fun h => ?_)
      · have hf := (if_pos h).symm.trans hf
        refine lv_goto (tgt := 43) hx hb dn_M_putInOrder_111 (by decide) ?_
        exact hk_43 x1 s hf H locs ls hP hD hS (lv_sub hl [0, 1] rfl)
      · have hf := (if_neg h).symm.trans hf
        refine lv_aload_n hx hb dn_M_putInOrder_59 rfl (lv_at hl 0 rfl) ?_
        refine va_get (D := (dC, dI)) (ci := 0) (v := .ref ((a 72))) (C := rn_M) (T := fn_M) (N := 91) hx hb hg in_M hown hK hP 0 rfl rfl 72 (by decide) (hg _ wn_8_140) (fun _ h9 => h9) rfl dn_M_putInOrder_60 ?_
        refine lv_iload_n hx hb dn_M_putInOrder_63 rfl (lv_at hl 2 rfl) ?_
        obtain ⟨hg_1, hf⟩ := dc_g hf
        refine va_zald hx hb hK hP 51 3 rfl rfl hg_1 dn_M_putInOrder_64 ?_
        refine xk_ti (y := ((s.1 72) (Int32.toNatClampNeg x2))) rfl ?_
        refine lv_if_ne (tgt := 105) hx hb dn_M_putInOrder_65 (by decide) (fun h => ?_) (fun h => ?_)
        · have hf := (if_neg h).symm.trans hf
          refine lv_iinc (v := (x2 + 1)) (lv' := [(2, .int ((x2 + 1))), (0, .ref h0), (1, .int x1)]) hx hb dn_M_putInOrder_105 hl (k := 2) rfl (dc_inc (by decide)) (by decide) rfl (fun ls hl => ?_)
          refine lv_goto (tgt := 51) hx hb dn_M_putInOrder_108 (by decide) ?_
          exact hk_51 x1 ((x2 + 1)) s hf H locs ls hP hD hS (lv_sub hl [1, 2, 0] rfl)
        · have hf := (if_pos h).symm.trans hf
          refine lv_aload_n hx hb dn_M_putInOrder_68 rfl (lv_at hl 0 rfl) ?_
          refine lv_iload_n hx hb dn_M_putInOrder_69 rfl (lv_at hl 2 rfl) ?_
          obtain ⟨q_2, hc_3, hf⟩ := dc_b hf
          refine dc_calli (dc_runV (ar := 1) (As := [.int x2]) (rest := []) (ci := 0) (q0 := 0) ⟨hx, hb, hml, hown, hg⟩ hK hN hT hS hA (ct_M_canBe l dC dI cI cB cJ cZ cQ N H.size h0 a x2 s q_2 hc_3) hP hD rfl rfl wn_10_188 wn_10_190 sn_M_canBe wn_1_13 wn_10_191 rfl rfl (by decide +kernel) ⟨Nat.le_of_ble_eq_true rfl, Nat.le_of_ble_eq_true rfl⟩ rfl hl.1 rfl (Nat.le_of_ble_eq_true rfl) dn_M_putInOrder_70 ⟨Nat.le_of_ble_eq_true rfl, Nat.le_of_ble_eq_true rfl⟩) hP hD hS hA (fun r_4 _ H locs hw hP hD hS => ?_)
          have hw : r_4 = q_2.1 := hw
          subst hw
          refine lv_if_eq (tgt := 105) hx hb dn_M_putInOrder_73 (by decide) (fun h => ?_) (fun h => ?_)
          · have hf := (if_pos h).symm.trans hf
            refine lv_iinc (v := (x2 + 1)) (lv' := [(2, .int ((x2 + 1))), (0, .ref h0), (1, .int x1)]) hx hb dn_M_putInOrder_105 hl (k := 2) rfl (dc_inc (by decide)) (by decide) rfl (fun ls hl => ?_)
            refine lv_goto (tgt := 51) hx hb dn_M_putInOrder_108 (by decide) ?_
            exact hk_51 x1 ((x2 + 1)) q_2.2 hf H locs ls hP hD hS (lv_sub hl [1, 2, 0] rfl)
          · have hf := (if_neg h).symm.trans hf
            refine lv_aload_n hx hb dn_M_putInOrder_76 rfl (lv_at hl 0 rfl) ?_
            refine va_get (D := (dC, dI)) (ci := 0) (v := .ref ((a 72))) (C := rn_M) (T := fn_M) (N := 91) hx hb hg in_M hown hK hP 0 rfl rfl 72 (by decide) (hg _ wn_8_140) (fun _ h9 => h9) rfl dn_M_putInOrder_77 ?_
            refine lv_iload_n hx hb dn_M_putInOrder_80 rfl (lv_at hl 2 rfl) ?_
            refine lv_iconst (v := 1) hx hb dn_M_putInOrder_81 (by decide) ?_
            obtain ⟨hg_5, hf⟩ := dc_g hf
            refine va_zast hx hb hK hP hD hS 51 3 rfl rfl hg_5 dn_M_putInOrder_82 (fun H locs hP hD hS => ?_)
            have hP : va_P (dC, dI) xcl (wM h0 a cI cB cJ cZ (upI q_2.2 72 (upd (q_2.2.1 72) (Int32.toNatClampNeg x2) (vp_nar .boolean 1)))) H := hP
            have hD : va_D A (wM h0 a cI cB cJ cZ (upI q_2.2 72 (upd (q_2.2.1 72) (Int32.toNatClampNeg x2) (vp_nar .boolean 1)))) := hD
            refine lv_aload_n hx hb dn_M_putInOrder_83 rfl (lv_at hl 0 rfl) ?_
            refine va_get (D := (dC, dI)) (ci := 0) (v := .ref ((a 70))) (C := rn_M) (T := fn_M) (N := 91) hx hb hg in_M hown hK hP 0 rfl rfl 70 (by decide) (hg _ wn_8_138) (fun _ h9 => h9) rfl dn_M_putInOrder_84 ?_
            refine lv_aload_n hx hb dn_M_putInOrder_87 rfl (lv_at hl 0 rfl) ?_
            refine va_get (D := (dC, dI)) (ci := 0) (v := .int ((q_2.2.1 71 0))) (C := rn_M) (T := fn_M) (N := 91) hx hb hg in_M hown hK hP 0 rfl rfl 71 (by decide) (hg _ wn_8_139) (fun _ h9 => h9) rfl dn_M_putInOrder_88 ?_
            refine lv_iload_n hx hb dn_M_putInOrder_91 rfl (lv_at hl 2 rfl) ?_
            obtain ⟨hg_6, hf⟩ := dc_g hf
            refine va_iast hx hb hK hP hD hS 50 0 rfl rfl hg_6 dn_M_putInOrder_92 (fun H locs hP hD hS => ?_)
            have hP : va_P (dC, dI) xcl (wM h0 a cI cB cJ cZ (upI (upI q_2.2 72 (upd (q_2.2.1 72) (Int32.toNatClampNeg x2) (vp_nar .boolean 1))) 70 (upd (q_2.2.1 70) (Int32.toNatClampNeg ((q_2.2.1 71 0))) x2))) H := hP
            have hD : va_D A (wM h0 a cI cB cJ cZ (upI (upI q_2.2 72 (upd (q_2.2.1 72) (Int32.toNatClampNeg x2) (vp_nar .boolean 1))) 70 (upd (q_2.2.1 70) (Int32.toNatClampNeg ((q_2.2.1 71 0))) x2))) := hD
            refine lv_aload_n hx hb dn_M_putInOrder_93 rfl (lv_at hl 0 rfl) ?_
            refine lv_dup hx hb dn_M_putInOrder_94 rfl ?_
            refine va_get (D := (dC, dI)) (ci := 0) (v := .int ((q_2.2.1 71 0))) (C := rn_M) (T := fn_M) (N := 91) hx hb hg in_M hown hK hP 0 rfl rfl 71 (by decide) (hg _ wn_8_139) (fun _ h9 => h9) rfl dn_M_putInOrder_95 ?_
            refine lv_iconst (v := 1) hx hb dn_M_putInOrder_98 (by decide) ?_
            refine lv_iadd hx hb dn_M_putInOrder_99 ?_
            refine va_put (D := (dC, dI)) (ci := 0) (v := .int (((q_2.2.1 71 0) + 1))) (ty := .int) (C := rn_M) (T := fn_M) (N := 91) hx hb hg in_M tn_M tk_M nn_M hown hK hP hD hS 0 rfl rfl 71 (by decide) (hg _ wn_8_139) (fun _ h9 => h9) rfl (tk_M 71 (by decide)) rfl rfl (Nat.le_of_ble_eq_true rfl) dn_M_putInOrder_100 (fun H locs hP hD hS => ?_)
            have hP : va_P (dC, dI) xcl (wM h0 a cI cB cJ cZ (upI (upI (upI q_2.2 72 (upd (q_2.2.1 72) (Int32.toNatClampNeg x2) (vp_nar .boolean 1))) 70 (upd (q_2.2.1 70) (Int32.toNatClampNeg ((q_2.2.1 71 0))) x2)) 71 (fun _ => ((q_2.2.1 71 0) + 1)))) H := hP
            have hD : va_D A (wM h0 a cI cB cJ cZ (upI (upI (upI q_2.2 72 (upd (q_2.2.1 72) (Int32.toNatClampNeg x2) (vp_nar .boolean 1))) 70 (upd (q_2.2.1 70) (Int32.toNatClampNeg ((q_2.2.1 71 0))) x2)) 71 (fun _ => ((q_2.2.1 71 0) + 1)))) := hD
            refine lv_iconst (v := 1) hx hb dn_M_putInOrder_103 (by decide) ?_
            refine lv_istore_n (lv' := [(1, .int 1), (0, .ref h0), (2, .int x2)]) hx hb dn_M_putInOrder_104 rfl hl (by decide) rfl (fun ls hl => ?_)
            refine lv_iinc (v := (x2 + 1)) (lv' := [(2, .int ((x2 + 1))), (1, .int 1), (0, .ref h0)]) hx hb dn_M_putInOrder_105 hl (k := 2) rfl (dc_inc (by decide)) (by decide) rfl (fun ls hl => ?_)
            refine lv_goto (tgt := 51) hx hb dn_M_putInOrder_108 (by decide) ?_
            exact hk_51 1 ((x2 + 1)) (upI (upI (upI q_2.2 72 (upd (q_2.2.1 72) (Int32.toNatClampNeg x2) (vp_nar .boolean 1))) 70 (upd (q_2.2.1 70) (Int32.toNatClampNeg ((q_2.2.1 71 0))) x2)) 71 (fun _ => ((q_2.2.1 71 0) + 1))) hf H locs ls hP hD hS (lv_sub hl [2, 1, 0] rfl)
  have hd_43 : ∀ (n : Nat) (x1 : Int32) (s : ms), hd_M_putInOrder_43 N n x1 s = some y → dcC p l e ({ frames := 2, cells := 0, slots := 0, locals := 50 }) s0 m [.ref h0].toArray below meth c QQ (dC, dI) A (wM h0 a cI cB cJ cZ s) 43 3 [(0, .ref h0), (1, .int x1)] [] := by
    intro n
    induction n with
    | zero => intro x1 s hf; cases hf
    | succ n ih =>
      intro x1 s hf H locs ls hP hD hS hl
      have hf : bd_M_putInOrder_43 N (hd_M_putInOrder_43 N n) x1 s = some y := hf
      have hk_43 := ih
      generalize hd_M_putInOrder_43 N n = k_43 at hf hk_43
      unfold bd_M_putInOrder_43 at hf
      refine lv_iload_n hx hb dn_M_putInOrder_43 rfl (lv_at hl 1 rfl) ?_
      refine lv_if_eq (tgt := 114) hx hb dn_M_putInOrder_44 (by decide) (fun h => ?_) (fun h => ?_)
      · have hf := (if_pos h).symm.trans hf
        refine lv_iconst (v := 0) hx hb dn_M_putInOrder_114 (by decide) ?_
        refine lv_istore_n (lv' := [(2, .int 0), (0, .ref h0), (1, .int x1)]) hx hb dn_M_putInOrder_115 rfl hl (by decide) rfl (fun ls hl => ?_)
        exact hd_116 N 0 s hf H locs ls hP hD hS (lv_sub hl [1, 0] rfl)
      · have hf := (if_neg h).symm.trans hf
        refine lv_iconst (v := 0) hx hb dn_M_putInOrder_47 (by decide) ?_
        refine lv_istore_n (lv' := [(1, .int 0), (0, .ref h0)]) hx hb dn_M_putInOrder_48 rfl hl (by decide) rfl (fun ls hl => ?_)
        refine lv_iconst (v := 0) hx hb dn_M_putInOrder_49 (by decide) ?_
        refine lv_istore_n (lv' := [(2, .int 0), (1, .int 0), (0, .ref h0)]) hx hb dn_M_putInOrder_50 rfl hl (by decide) rfl (fun ls hl => ?_)
        exact hd_51 k_43 hk_43 N 0 0 s hf H locs ls hP hD hS (lv_sub hl [2, 1, 0] rfl)
  have bl_34 : ∀ (k_7 : Int32 → ms → Option (Unit × ms)) (hk_7 : ∀ (x1 : Int32) (s : ms), k_7 x1 s = some y → dcC p l e ({ frames := 2, cells := 0, slots := 0, locals := 50 }) s0 m [.ref h0].toArray below meth c QQ (dC, dI) A (wM h0 a cI cB cJ cZ s) 7 3 [(0, .ref h0), (1, .int x1)] []) (x1 : Int32) (t0 : Int32) (t1 : Int32) (s : ms), bk_M_putInOrder_34 N k_7 x1 t0 t1 s = some y → dcC p l e ({ frames := 2, cells := 0, slots := 0, locals := 50 }) s0 m [.ref h0].toArray below meth c QQ (dC, dI) A (wM h0 a cI cB cJ cZ s) 34 3 [(0, .ref h0), (1, .int x1)] [.int t0, .int t1, .ref ((a 72))] := by
    intro k_7 hk_7 x1 t0 t1 s hf H locs ls hP hD hS hl
    unfold bk_M_putInOrder_34 at hf
    obtain ⟨hg_1, hf⟩ := dc_g hf
    refine va_zast hx hb hK hP hD hS 51 3 rfl rfl hg_1 dn_M_putInOrder_34 (fun H locs hP hD hS => ?_)
    have hP : va_P (dC, dI) xcl (wM h0 a cI cB cJ cZ (upI s 72 (upd (s.1 72) (Int32.toNatClampNeg t1) (vp_nar .boolean t0)))) H := hP
    have hD : va_D A (wM h0 a cI cB cJ cZ (upI s 72 (upd (s.1 72) (Int32.toNatClampNeg t1) (vp_nar .boolean t0)))) := hD
    refine lv_iinc (v := (x1 + 1)) (lv' := [(1, .int ((x1 + 1))), (0, .ref h0)]) hx hb dn_M_putInOrder_35 hl (k := 1) rfl (dc_inc (by decide)) (by decide) rfl (fun ls hl => ?_)
    refine lv_goto (tgt := 7) hx hb dn_M_putInOrder_38 (by decide) ?_
    exact hk_7 ((x1 + 1)) (upI s 72 (upd (s.1 72) (Int32.toNatClampNeg t1) (vp_nar .boolean t0))) hf H locs ls hP hD hS (lv_sub hl [1, 0] rfl)
  have hd_7 : ∀ (n : Nat) (x1 : Int32) (s : ms), hd_M_putInOrder_7 N n x1 s = some y → dcC p l e ({ frames := 2, cells := 0, slots := 0, locals := 50 }) s0 m [.ref h0].toArray below meth c QQ (dC, dI) A (wM h0 a cI cB cJ cZ s) 7 3 [(0, .ref h0), (1, .int x1)] [] := by
    intro n
    induction n with
    | zero => intro x1 s hf; cases hf
    | succ n ih =>
      intro x1 s hf H locs ls hP hD hS hl
      have hf : bd_M_putInOrder_7 N (hd_M_putInOrder_7 N n) x1 s = some y := hf
      have hk_7 := ih
      generalize hd_M_putInOrder_7 N n = k_7 at hf hk_7
      unfold bd_M_putInOrder_7 at hf
      refine lv_iload_n hx hb dn_M_putInOrder_7 rfl (lv_at hl 1 rfl) ?_
      refine lv_aload_n hx hb dn_M_putInOrder_8 rfl (lv_at hl 0 rfl) ?_
      refine va_get (D := (dC, dI)) (ci := 0) (v := .int ((s.1 63 0))) (C := rn_M) (T := fn_M) (N := 91) hx hb hg in_M hown hK hP 0 rfl rfl 63 (by decide) (hg _ wn_8_131) (fun _ h9 => h9) rfl dn_M_putInOrder_9 ?_
      refine lv_icmp_ge (tgt := 41) hx hb dn_M_putInOrder_12 (by decide) (fun h => ?_) (fun h => ?_)
      · have hf := (if_pos h).symm.trans hf
        refine lv_iconst (v := 1) hx hb dn_M_putInOrder_41 (by decide) ?_
        refine lv_istore_n (lv' := [(1, .int 1), (0, .ref h0)]) hx hb dn_M_putInOrder_42 rfl hl (by decide) rfl (fun ls hl => ?_)
        exact hd_43 N 1 s hf H locs ls hP hD hS (lv_sub hl [1, 0] rfl)
      · have hf := (if_neg h).symm.trans hf
        refine lv_aload_n hx hb dn_M_putInOrder_15 rfl (lv_at hl 0 rfl) ?_
        refine va_get (D := (dC, dI)) (ci := 0) (v := .ref ((a 72))) (C := rn_M) (T := fn_M) (N := 91) hx hb hg in_M hown hK hP 0 rfl rfl 72 (by decide) (hg _ wn_8_140) (fun _ h9 => h9) rfl dn_M_putInOrder_16 ?_
        refine lv_iload_n hx hb dn_M_putInOrder_19 rfl (lv_at hl 1 rfl) ?_
        refine lv_aload_n hx hb dn_M_putInOrder_20 rfl (lv_at hl 0 rfl) ?_
        refine va_get (D := (dC, dI)) (ci := 0) (v := .ref ((a 66))) (C := rn_M) (T := fn_M) (N := 91) hx hb hg in_M hown hK hP 0 rfl rfl 66 (by decide) (hg _ wn_8_134) (fun _ h9 => h9) rfl dn_M_putInOrder_21 ?_
        refine lv_iload_n hx hb dn_M_putInOrder_24 rfl (lv_at hl 1 rfl) ?_
        obtain ⟨hg_1, hf⟩ := dc_g hf
        refine va_iald hx hb hK hP 46 0 rfl rfl hg_1 dn_M_putInOrder_25 ?_
        refine xk_ti (y := ((s.1 66) (Int32.toNatClampNeg x1))) rfl ?_
        refine lv_if_ne (tgt := 33) hx hb dn_M_putInOrder_26 (by decide) (fun h => ?_) (fun h => ?_)
        · have hf := (if_neg h).symm.trans hf
          refine lv_iconst (v := 0) hx hb dn_M_putInOrder_33 (by decide) ?_
          exact bl_34 k_7 hk_7 x1 0 x1 s hf H locs ls hP hD hS hl
        · have hf := (if_pos h).symm.trans hf
          refine lv_iconst (v := 1) hx hb dn_M_putInOrder_29 (by decide) ?_
          refine lv_goto (tgt := 34) hx hb dn_M_putInOrder_30 (by decide) ?_
          exact bl_34 k_7 hk_7 x1 1 x1 s hf H locs ls hP hD hS hl
  intro H locs ls hP hD hS hl
  unfold fn_M_putInOrder at hf
  refine lv_aload_n hx hb dn_M_putInOrder_0 rfl (lv_at hl 0 rfl) ?_
  refine lv_iconst (v := 0) hx hb dn_M_putInOrder_1 (by decide) ?_
  refine va_put (D := (dC, dI)) (ci := 0) (v := .int 0) (ty := .int) (C := rn_M) (T := fn_M) (N := 91) hx hb hg in_M tn_M tk_M nn_M hown hK hP hD hS 0 rfl rfl 71 (by decide) (hg _ wn_8_139) (fun _ h9 => h9) rfl (tk_M 71 (by decide)) rfl rfl (Nat.le_of_ble_eq_true rfl) dn_M_putInOrder_2 (fun H locs hP hD hS => ?_)
  have hP : va_P (dC, dI) xcl (wM h0 a cI cB cJ cZ (upI s 71 (fun _ => 0))) H := hP
  have hD : va_D A (wM h0 a cI cB cJ cZ (upI s 71 (fun _ => 0))) := hD
  refine lv_iconst (v := 0) hx hb dn_M_putInOrder_5 (by decide) ?_
  refine lv_istore_n (lv' := [(1, .int 0), (0, .ref h0)]) hx hb dn_M_putInOrder_6 rfl hl (by decide) rfl (fun ls hl => ?_)
  exact hd_7 N 0 (upI s 71 (fun _ => 0)) hf H locs ls hP hD hS (lv_sub hl [1, 0] rfl)
def bk_M_readSource_40 (N : Nat) (s : ms) : Option (Unit × ms) :=
  if (s.1 9 0) = 0 then ((fn_M_writeOut N s).bind (fun q_1 => (fn_M_putInOrder N q_1.2).bind (fun q_3 => some ((), q_3.2)))) else (some ((), s))
def bk_M_readSource_29 (N : Nat) (s : ms) : Option (Unit × ms) :=
  if (s.1 9 0) = 0 then ((fn_M_limits N s).bind (fun q_1 => bk_M_readSource_40 N q_1.2)) else (bk_M_readSource_40 N s)
def fn_M_readSource (N : Nat) (s1 : ms) : Option (Unit × ms) :=
  (fn_M_cutTokens N (upI (upI s1 9 (fun _ => 0)) 10 (fun _ => (-1)))).bind (fun q_1 => (fn_M_designGrammar N q_1.2).bind (fun q_3 => if (q_3.2.1 9 0) = 0 then ((fn_M_design N q_3.2).bind (fun q_5 => bk_M_readSource_29 N q_5.2)) else (bk_M_readSource_29 N q_3.2)))
theorem mo_M_readSource_40 (N : Nat) (y : (Unit × ms)) (s : ms) (hf : bk_M_readSource_40 N s = some y) : gl s ≤ gl y.2 := by
  unfold bk_M_readSource_40 at hf
  have hm : gl s ≤ gl s := Nat.le_refl _
  by_cases h : (s.1 9 0) = 0
  · have hf := (if_pos h).symm.trans hf
    obtain ⟨q_1, hc_2, hf⟩ := dc_b hf
    have hm := Nat.le_trans hm (Nat.le_of_eq (mn_M_writeOut N s q_1 hc_2).symm)
    obtain ⟨q_3, hc_4, hf⟩ := dc_b hf
    have hm := Nat.le_trans hm (Nat.le_of_eq (mn_M_putInOrder N q_1.2 q_3 hc_4).symm)
    rw [← Option.some.inj hf]
    exact hm
  · have hf := (if_neg h).symm.trans hf
    rw [← Option.some.inj hf]
    exact hm
theorem mo_M_readSource_29 (N : Nat) (y : (Unit × ms)) (s : ms) (hf : bk_M_readSource_29 N s = some y) : gl s ≤ gl y.2 := by
  unfold bk_M_readSource_29 at hf
  have hm : gl s ≤ gl s := Nat.le_refl _
  by_cases h : (s.1 9 0) = 0
  · have hf := (if_pos h).symm.trans hf
    obtain ⟨q_1, hc_2, hf⟩ := dc_b hf
    have hm := Nat.le_trans hm (Nat.le_of_eq (mn_M_limits N s q_1 hc_2).symm)
    exact Nat.le_trans hm (mo_M_readSource_40 N y q_1.2 hf)
  · have hf := (if_neg h).symm.trans hf
    exact Nat.le_trans hm (mo_M_readSource_40 N y s hf)
theorem mn_M_readSource (N : Nat) (s1 : ms) (y : (Unit × ms)) (hf : fn_M_readSource N s1 = some y) : gl s1 ≤ gl y.2 := by
  unfold fn_M_readSource at hf
  have hm : gl s1 ≤ gl s1 := Nat.le_refl _
  obtain ⟨q_1, hc_2, hf⟩ := dc_b hf
  have hm := Nat.le_trans hm (Nat.le_of_eq (mn_M_cutTokens N (upI (upI s1 9 (fun _ => 0)) 10 (fun _ => (-1))) q_1 hc_2).symm)
  obtain ⟨q_3, hc_4, hf⟩ := dc_b hf
  have hm := Nat.le_trans hm (Nat.le_of_eq (mn_M_designGrammar N q_1.2 q_3 hc_4).symm)
  by_cases h : (q_3.2.1 9 0) = 0
  · have hf := (if_pos h).symm.trans hf
    obtain ⟨q_5, hc_6, hf⟩ := dc_b hf
    have hm := Nat.le_trans hm (mn_M_design N q_3.2 q_5 hc_6)
    exact Nat.le_trans hm (mo_M_readSource_29 N y q_5.2 hf)
  · have hf := (if_neg h).symm.trans hf
    exact Nat.le_trans hm (mo_M_readSource_29 N y q_3.2 hf)
set_option maxHeartbeats 8000000 in
set_option maxRecDepth 100000 in
theorem ct_M_readSource (l : Launch) (dC : Nat → ClassId) (dI : Nat → Nat → Nat) (cI cB cJ cZ cQ : ClassId) (N sz : Nat) (h0 : Nat) (a : Nat → Nat) (s1 : ms) (y : (Unit × ms)) (hf : fn_M_readSource N s1 = some y) : Met l yn_M_readSource (xw yn_M_readSource bn_M_readSource 1 none) ({ frames := 811, cells := 2 * (gl y.2 - gl s1), slots := 2 * (gl y.2 - gl s1), locals := 19859 }) (dc_P (dC, dI) xcl (xt cI cB cJ cZ cQ) [.ref h0] sz (wM h0 a cI cB cJ cZ s1)) (xk_Qv (dC, dI) xcl (xt cI cB cJ cZ cQ) (fun _ : Nat → Nat => True) (fun u : Nat → Nat => (wM h0 u cI cB cJ cZ y.2)) (va_A (wM h0 a cI cB cJ cZ s1) sz)) (2 * (gl y.2 - gl s1)) (2 * (gl y.2 - gl s1)) (va_A (wM h0 a cI cB cJ cZ s1) sz) := by
  refine dc_of (QA := xk_Qv (dC, dI) xcl (xt cI cB cJ cZ cQ) (fun _ : Nat → Nat => True) (fun u : Nat → Nat => (wM h0 u cI cB cJ cZ y.2))) (by decide) (Nat.le_of_ble_eq_true rfl) ?_
  intro p e s0 m below meth c hx hb hml hown hg hr hlocks hin hP hK hN A hA hD hT ls hl
  have hown : s0.vm.findClass rn_M = some m.cls := hown
  obtain ⟨H, hH⟩ : ∃ z, z = s0.heap := ⟨_, rfl⟩
  rw [← hH] at hP
  have hS : va_S A s0.heap H [] := by rw [hH]; exact va_S.rf
  suffices kk : ∀ QQ : State → Prop, QQ = MQ below (xk_Qv (dC, dI) xcl (xt cI cB cJ cZ cQ) (fun _ : Nat → Nat => True) (fun u : Nat → Nat => (wM h0 u cI cB cJ cZ y.2)) A) [.ref h0].toArray s0 (2 * (gl y.2 - gl s1)) (2 * (gl y.2 - gl s1)) A → gl s1 ≤ gl s1 → dcG p l e ({ frames := 811, cells := 2 * (gl y.2 - gl s1), slots := 2 * (gl y.2 - gl s1), locals := 19859 }) s0 m [.ref h0].toArray below meth c QQ (dC, dI) A (fun a => (wM h0 a cI cB cJ cZ s1)) (2 * (gl s1 - gl s1)) 0 1 [(0, .ref h0)] [] by
    have k9 := kk _ rfl (Nat.le_refl _) a H [] ls hP hD hS hl
    rw [hH, Nat.sub_self] at k9; exact k9
  clear hP hD hS hl hH H ls
  intro QQ hQQ
  have bl_40 : ∀ (s : ms), bk_M_readSource_40 N s = some y → gl s1 ≤ gl s → dcG p l e ({ frames := 811, cells := 2 * (gl y.2 - gl s1), slots := 2 * (gl y.2 - gl s1), locals := 19859 }) s0 m [.ref h0].toArray below meth c QQ (dC, dI) A (fun a => (wM h0 a cI cB cJ cZ s)) (2 * (gl s - gl s1)) 40 1 [(0, .ref h0)] [] := by
    intro s hf hge a H locs ls hP hD hS hl
    have hle := mo_M_readSource_40 N y s hf
    unfold bk_M_readSource_40 at hf
    refine lv_aload_n hx hb dn_M_readSource_40 rfl (lv_at hl 0 rfl) ?_
    refine va_get (D := (dC, dI)) (ci := 0) (v := .int ((s.1 9 0))) (C := rn_M) (T := fn_M) (N := 91) hx hb hg in_M hown hK hP 0 rfl rfl 9 (by decide) (hg _ wn_8_77) (fun _ h9 => h9) rfl dn_M_readSource_41 ?_
    refine lv_if_ne (tgt := 55) hx hb dn_M_readSource_44 (by decide) (fun h => ?_) (fun h => ?_)
    · have hf := (if_neg h).symm.trans hf
      rw [hQQ, ← Option.some.inj hf]
      exact xk_vret (w1 := fun u : Nat → Nat => (wM h0 u cI cB cJ cZ s)) a hx hb hr hlocks hK hS dn_M_readSource_55 hP hD trivial (Nat.le_refl _) (Nat.le_refl _)
    · have hf := (if_pos h).symm.trans hf
      refine lv_aload_n hx hb dn_M_readSource_47 rfl (lv_at hl 0 rfl) ?_
      obtain ⟨q_1, hc_2, hf⟩ := dc_b hf
      have hme := mn_M_writeOut N s q_1 hc_2
      refine dc_callv (dc_runV (ar := 0) (As := []) (rest := []) (ci := 0) (q0 := 0) ⟨hx, hb, hml, hown, hg⟩ hK hN hT hS hA (ct_M_writeOut l dC dI cI cB cJ cZ cQ N H.size h0 a s q_1 hc_2) hP hD rfl rfl wn_10_168 wn_10_170 sn_M_writeOut wn_1_13 wn_10_171 rfl rfl (by decide +kernel) ⟨Nat.le_of_ble_eq_true rfl, Nat.le_of_ble_eq_true rfl⟩ rfl hl.1 rfl (Nat.le_of_ble_eq_true rfl) dn_M_readSource_48 (dc_rm0 hle)) hP hD hS hA (fun _ H locs hw hP hD hS => ?_)
      refine W.widen (k := 2 * (gl q_1.2 - gl s1)) (n := 2 * (gl q_1.2 - gl s1)) (dc_we hme) (dc_we hme) ?_
      have hge := Nat.le_trans hge (Nat.le_of_eq hme.symm)
      have hle := Nat.le_trans (Nat.le_of_eq hme) hle
      refine lv_aload_n hx hb dn_M_readSource_51 rfl (lv_at hl 0 rfl) ?_
      obtain ⟨q_3, hc_4, hf⟩ := dc_b hf
      have hme := mn_M_putInOrder N q_1.2 q_3 hc_4
      refine dc_callv (dc_runV (ar := 0) (As := []) (rest := []) (ci := 0) (q0 := 0) ⟨hx, hb, hml, hown, hg⟩ hK hN hT hS hA (ct_M_putInOrder l dC dI cI cB cJ cZ cQ N H.size h0 a q_1.2 q_3 hc_4) hP hD rfl rfl wn_10_184 wn_10_186 sn_M_putInOrder wn_1_13 wn_10_187 rfl rfl (by decide +kernel) ⟨Nat.le_of_ble_eq_true rfl, Nat.le_of_ble_eq_true rfl⟩ rfl hl.1 rfl (Nat.le_of_ble_eq_true rfl) dn_M_readSource_52 (dc_rm0 hle)) hP hD hS hA (fun _ H locs hw hP hD hS => ?_)
      refine W.widen (k := 2 * (gl q_3.2 - gl s1)) (n := 2 * (gl q_3.2 - gl s1)) (dc_we hme) (dc_we hme) ?_
      have hge := Nat.le_trans hge (Nat.le_of_eq hme.symm)
      have hle := Nat.le_trans (Nat.le_of_eq hme) hle
      rw [hQQ, ← Option.some.inj hf]
      exact xk_vret (w1 := fun u : Nat → Nat => (wM h0 u cI cB cJ cZ q_3.2)) a hx hb hr hlocks hK hS dn_M_readSource_55 hP hD trivial (Nat.le_refl _) (Nat.le_refl _)
  have bl_29 : ∀ (s : ms), bk_M_readSource_29 N s = some y → gl s1 ≤ gl s → dcG p l e ({ frames := 811, cells := 2 * (gl y.2 - gl s1), slots := 2 * (gl y.2 - gl s1), locals := 19859 }) s0 m [.ref h0].toArray below meth c QQ (dC, dI) A (fun a => (wM h0 a cI cB cJ cZ s)) (2 * (gl s - gl s1)) 29 1 [(0, .ref h0)] [] := by
    intro s hf hge a H locs ls hP hD hS hl
    have hle := mo_M_readSource_29 N y s hf
    unfold bk_M_readSource_29 at hf
    refine lv_aload_n hx hb dn_M_readSource_29 rfl (lv_at hl 0 rfl) ?_
    refine va_get (D := (dC, dI)) (ci := 0) (v := .int ((s.1 9 0))) (C := rn_M) (T := fn_M) (N := 91) hx hb hg in_M hown hK hP 0 rfl rfl 9 (by decide) (hg _ wn_8_77) (fun _ h9 => h9) rfl dn_M_readSource_30 ?_
    refine lv_if_ne (tgt := 40) hx hb dn_M_readSource_33 (by decide) (fun h => ?_) (fun h => ?_)
    · have hf := (if_neg h).symm.trans hf
      exact bl_40 s hf hge a H locs ls hP hD hS hl
    · have hf := (if_pos h).symm.trans hf
      refine lv_aload_n hx hb dn_M_readSource_36 rfl (lv_at hl 0 rfl) ?_
      obtain ⟨q_1, hc_2, hf⟩ := dc_b hf
      have hme := mn_M_limits N s q_1 hc_2
      refine dc_callv (dc_runV (ar := 0) (As := []) (rest := []) (ci := 0) (q0 := 0) ⟨hx, hb, hml, hown, hg⟩ hK hN hT hS hA (ct_M_limits l dC dI cI cB cJ cZ cQ N H.size h0 a s q_1 hc_2) hP hD rfl rfl wn_10_152 wn_10_154 sn_M_limits wn_1_13 wn_10_155 rfl rfl (by decide +kernel) ⟨Nat.le_of_ble_eq_true rfl, Nat.le_of_ble_eq_true rfl⟩ rfl hl.1 rfl (Nat.le_of_ble_eq_true rfl) dn_M_readSource_37 (dc_rm0 hle)) hP hD hS hA (fun _ H locs hw hP hD hS => ?_)
      refine W.widen (k := 2 * (gl q_1.2 - gl s1)) (n := 2 * (gl q_1.2 - gl s1)) (dc_we hme) (dc_we hme) ?_
      have hge := Nat.le_trans hge (Nat.le_of_eq hme.symm)
      have hle := Nat.le_trans (Nat.le_of_eq hme) hle
      exact bl_40 q_1.2 hf hge a H locs ls hP hD hS hl
  intro hge a H locs ls hP hD hS hl
  have hle := mn_M_readSource N s1 y hf
  unfold fn_M_readSource at hf
  refine lv_aload_n hx hb dn_M_readSource_0 rfl (lv_at hl 0 rfl) ?_
  refine lv_iconst (v := 0) hx hb dn_M_readSource_1 (by decide) ?_
  refine va_put (D := (dC, dI)) (ci := 0) (v := .int 0) (ty := .int) (C := rn_M) (T := fn_M) (N := 91) hx hb hg in_M tn_M tk_M nn_M hown hK hP hD hS 0 rfl rfl 9 (by decide) (hg _ wn_8_77) (fun _ h9 => h9) rfl (tk_M 9 (by decide)) rfl rfl (Nat.le_of_ble_eq_true rfl) dn_M_readSource_2 (fun H locs hP hD hS => ?_)
  have hP : va_P (dC, dI) xcl (wM h0 a cI cB cJ cZ (upI s1 9 (fun _ => 0))) H := hP
  have hD : va_D A (wM h0 a cI cB cJ cZ (upI s1 9 (fun _ => 0))) := hD
  refine lv_aload_n hx hb dn_M_readSource_5 rfl (lv_at hl 0 rfl) ?_
  refine lv_iconst (v := (-1)) hx hb dn_M_readSource_6 (by decide) ?_
  refine va_put (D := (dC, dI)) (ci := 0) (v := .int ((-1))) (ty := .int) (C := rn_M) (T := fn_M) (N := 91) hx hb hg in_M tn_M tk_M nn_M hown hK hP hD hS 0 rfl rfl 10 (by decide) (hg _ wn_8_78) (fun _ h9 => h9) rfl (tk_M 10 (by decide)) rfl rfl (Nat.le_of_ble_eq_true rfl) dn_M_readSource_7 (fun H locs hP hD hS => ?_)
  have hP : va_P (dC, dI) xcl (wM h0 a cI cB cJ cZ (upI (upI s1 9 (fun _ => 0)) 10 (fun _ => (-1)))) H := hP
  have hD : va_D A (wM h0 a cI cB cJ cZ (upI (upI s1 9 (fun _ => 0)) 10 (fun _ => (-1)))) := hD
  refine lv_aload_n hx hb dn_M_readSource_10 rfl (lv_at hl 0 rfl) ?_
  obtain ⟨q_1, hc_2, hf⟩ := dc_b hf
  have hme := mn_M_cutTokens N (upI (upI s1 9 (fun _ => 0)) 10 (fun _ => (-1))) q_1 hc_2
  refine dc_callv (dc_runV (ar := 0) (As := []) (rest := []) (ci := 0) (q0 := 0) ⟨hx, hb, hml, hown, hg⟩ hK hN hT hS hA (ct_M_cutTokens l dC dI cI cB cJ cZ cQ N H.size h0 a (upI (upI s1 9 (fun _ => 0)) 10 (fun _ => (-1))) q_1 hc_2) hP hD rfl rfl wn_9_115 wn_9_117 sn_M_cutTokens wn_1_13 wn_9_118 rfl rfl (by decide +kernel) ⟨Nat.le_of_ble_eq_true rfl, Nat.le_of_ble_eq_true rfl⟩ rfl hl.1 rfl (Nat.le_of_ble_eq_true rfl) dn_M_readSource_11 (dc_rm0 hle)) hP hD hS hA (fun _ H locs hw hP hD hS => ?_)
  refine W.widen (k := 2 * (gl q_1.2 - gl s1)) (n := 2 * (gl q_1.2 - gl s1)) (dc_we hme) (dc_we hme) ?_
  have hge := Nat.le_trans hge (Nat.le_of_eq hme.symm)
  have hle := Nat.le_trans (Nat.le_of_eq hme) hle
  refine lv_aload_n hx hb dn_M_readSource_14 rfl (lv_at hl 0 rfl) ?_
  obtain ⟨q_3, hc_4, hf⟩ := dc_b hf
  have hme := mn_M_designGrammar N q_1.2 q_3 hc_4
  refine dc_callv (dc_runV (ar := 0) (As := []) (rest := []) (ci := 0) (q0 := 0) ⟨hx, hb, hml, hown, hg⟩ hK hN hT hS hA (ct_M_designGrammar l dC dI cI cB cJ cZ cQ N H.size h0 a q_1.2 q_3 hc_4) hP hD rfl rfl wn_9_169 wn_9_171 sn_M_designGrammar wn_1_13 wn_9_172 rfl rfl (by decide +kernel) ⟨Nat.le_of_ble_eq_true rfl, Nat.le_of_ble_eq_true rfl⟩ rfl hl.1 rfl (Nat.le_of_ble_eq_true rfl) dn_M_readSource_15 (dc_rm0 hle)) hP hD hS hA (fun _ H locs hw hP hD hS => ?_)
  refine W.widen (k := 2 * (gl q_3.2 - gl s1)) (n := 2 * (gl q_3.2 - gl s1)) (dc_we hme) (dc_we hme) ?_
  have hge := Nat.le_trans hge (Nat.le_of_eq hme.symm)
  have hle := Nat.le_trans (Nat.le_of_eq hme) hle
  refine lv_aload_n hx hb dn_M_readSource_18 rfl (lv_at hl 0 rfl) ?_
  refine va_get (D := (dC, dI)) (ci := 0) (v := .int ((q_3.2.1 9 0))) (C := rn_M) (T := fn_M) (N := 91) hx hb hg in_M hown hK hP 0 rfl rfl 9 (by decide) (hg _ wn_8_77) (fun _ h9 => h9) rfl dn_M_readSource_19 ?_
  refine lv_if_ne (tgt := 29) hx hb dn_M_readSource_22 (by decide) (fun h => ?_) (fun h => ?_)
  · have hf := (if_neg h).symm.trans hf
    exact bl_29 q_3.2 hf hge a H locs ls hP hD hS hl
  · have hf := (if_pos h).symm.trans hf
    refine lv_aload_n hx hb dn_M_readSource_25 rfl (lv_at hl 0 rfl) ?_
    obtain ⟨q_5, hc_6, hf⟩ := dc_b hf
    have hmg := mn_M_design N q_3.2 q_5 hc_6
    have hle2 : gl q_5.2 ≤ gl y.2 := mo_M_readSource_29 N y _ hf
    refine dc_callv (dc_runV (ar := 0) (As := []) (rest := []) (ci := 0) (q0 := 0) ⟨hx, hb, hml, hown, hg⟩ hK hN hT hS hA (ct_M_design l dC dI cI cB cJ cZ cQ N H.size h0 a q_3.2 q_5 hc_6) hP hD rfl rfl wn_10_11 wn_10_13 sn_M_design wn_1_13 wn_10_14 rfl rfl (by decide +kernel) ⟨Nat.le_of_ble_eq_true rfl, Nat.le_of_ble_eq_true rfl⟩ rfl hl.1 rfl (Nat.le_of_ble_eq_true rfl) dn_M_readSource_26 (dc_rm hge hmg hle2)) hP hD hS hA (fun a H locs hw hP hD hS => ?_)
    refine W.widen (k := 2 * (gl q_5.2 - gl s1)) (n := 2 * (gl q_5.2 - gl s1)) (dc_wa hge hmg) (dc_wa hge hmg) ?_
    have hge := Nat.le_trans hge hmg
    have hle := hle2
    exact bl_29 q_5.2 hf hge a H locs ls hP hD hS hl
def bd_M_sumUp_116 (N : Nat) (k_116 : Int32 → ms → Option (Unit × ms)) (x2 : Int32) (s : ms) : Option (Unit × ms) :=
  if (s.1 56 0) ≤ x2 then (some ((), s)) else (if (x2 < 0 ∨ 260 ≤ Int32.toNatClampNeg x2) then none else if ((((s.1 57) (Int32.toNatClampNeg x2)) + 1) < 0 ∨ 3601 ≤ Int32.toNatClampNeg ((((s.1 57) (Int32.toNatClampNeg x2)) + 1))) then none else if (((s.1 57) (Int32.toNatClampNeg x2)) < 0 ∨ 3601 ≤ Int32.toNatClampNeg (((s.1 57) (Int32.toNatClampNeg x2)))) then none else k_116 ((x2 + 1)) (upI s 78 (fun _ => (((s.1 78 0) + ((s.1 16) (Int32.toNatClampNeg ((((s.1 57) (Int32.toNatClampNeg x2)) + 1))))) - ((s.1 16) (Int32.toNatClampNeg (((s.1 57) (Int32.toNatClampNeg x2)))))))))
def hd_M_sumUp_116 (N : Nat) : Nat → Int32 → ms → Option (Unit × ms)
  | 0, _, _ => none
  | n + 1, x2, s => bd_M_sumUp_116 N (hd_M_sumUp_116 N n) x2 s
def bk_M_sumUp_100 (N : Nat) (k_43 : Int32 → Int32 → ms → Option (Unit × ms)) (x1 : Int32) (x2 : Int32) (t0 : Int32) (s : ms) : Option (Unit × ms) :=
  k_43 x1 ((x2 + 1)) (upI s 77 (fun _ => t0))
def bd_M_sumUp_43 (N : Nat) (k_43 : Int32 → Int32 → ms → Option (Unit × ms)) (x1 : Int32) (x2 : Int32) (s : ms) : Option (Unit × ms) :=
  if ((x1 + 1) < 0 ∨ 3601 ≤ Int32.toNatClampNeg ((x1 + 1))) then none else if (x1 < 0 ∨ 3601 ≤ Int32.toNatClampNeg x1) then none else if (((s.1 14) (Int32.toNatClampNeg ((x1 + 1)))) - ((s.1 14) (Int32.toNatClampNeg x1))) ≤ x2 then (hd_M_sumUp_116 N N 0 (upI s 78 (fun _ => 0))) else (if (x2 < 0 ∨ 1100 ≤ Int32.toNatClampNeg x2) then none else if (((s.1 64) (Int32.toNatClampNeg x2)) < 0 ∨ 11000 ≤ Int32.toNatClampNeg (((s.1 64) (Int32.toNatClampNeg x2)))) then none else if ((s.1 21) (Int32.toNatClampNeg (((s.1 64) (Int32.toNatClampNeg x2))))) = 0 then (if (x2 < 0 ∨ 1100 ≤ Int32.toNatClampNeg x2) then none else if (((s.1 64) (Int32.toNatClampNeg x2)) < 0 ∨ 11000 ≤ Int32.toNatClampNeg (((s.1 64) (Int32.toNatClampNeg x2)))) then none else bk_M_sumUp_100 N k_43 x1 x2 (((s.1 77 0) + ((s.1 20) (Int32.toNatClampNeg (((s.1 64) (Int32.toNatClampNeg x2))))))) s) else (bk_M_sumUp_100 N k_43 x1 x2 ((s.1 77 0)) s))
def hd_M_sumUp_43 (N : Nat) : Nat → Int32 → Int32 → ms → Option (Unit × ms)
  | 0, _, _, _ => none
  | n + 1, x1, x2, s => bd_M_sumUp_43 N (hd_M_sumUp_43 N n) x1 x2 s
def fn_M_sumUp (N : Nat) (s : ms) : Option (Unit × ms) :=
  if (((s.1 12 0) - 1) < 0 ∨ 3600 ≤ Int32.toNatClampNeg (((s.1 12 0) - 1))) then none else if (((s.1 12 0) - 1) < 0 ∨ 3600 ≤ Int32.toNatClampNeg (((s.1 12 0) - 1))) then none else hd_M_sumUp_43 N N (((s.1 12 0) - 1)) 0 (upI (upJ (upI (upI s 75 (fun _ => (s.1 12 0))) 76 (fun _ => (Int64.toInt32 (((s.2 48) (Int32.toNatClampNeg (((s.1 12 0) - 1)))))))) 79 (fun _ => ((s.2 45) (Int32.toNatClampNeg (((s.1 12 0) - 1)))))) 77 (fun _ => 0))
theorem mb_M_sumUp_116 (N : Nat) (y : (Unit × ms)) (k_116 : Int32 → ms → Option (Unit × ms)) (hkm_116 : ∀ (x2 : Int32) (s : ms), k_116 x2 s = some y → gl y.2 = gl s) (x2 : Int32) (s : ms) (hf : bd_M_sumUp_116 N k_116 x2 s = some y) : gl y.2 = gl s := by
  unfold bd_M_sumUp_116 at hf
  have hm : gl s = gl s := rfl
  by_cases h : (s.1 56 0) ≤ x2
  · have hf := (if_pos h).symm.trans hf
    rw [← Option.some.inj hf]
    exact hm
  · have hf := (if_neg h).symm.trans hf
    obtain ⟨_, hf⟩ := dc_g hf
    obtain ⟨_, hf⟩ := dc_g hf
    obtain ⟨_, hf⟩ := dc_g hf
    exact (hkm_116 ((x2 + 1)) (upI s 78 (fun _ => (((s.1 78 0) + ((s.1 16) (Int32.toNatClampNeg ((((s.1 57) (Int32.toNatClampNeg x2)) + 1))))) - ((s.1 16) (Int32.toNatClampNeg (((s.1 57) (Int32.toNatClampNeg x2)))))))) hf).trans hm
theorem mh_M_sumUp_116 (N : Nat) (y : (Unit × ms)) : ∀ (n : Nat) (x2 : Int32) (s : ms), hd_M_sumUp_116 N n x2 s = some y → gl y.2 = gl s := by
  intro n
  induction n with
  | zero => intro x2 s hf; cases hf
  | succ n ih => intro x2 s hf; exact mb_M_sumUp_116 N y (hd_M_sumUp_116 N n) ih x2 s hf
theorem mo_M_sumUp_100 (N : Nat) (k_43 : Int32 → Int32 → ms → Option (Unit × ms)) (y : (Unit × ms)) (hkm_43 : ∀ (x1 : Int32) (x2 : Int32) (s : ms), k_43 x1 x2 s = some y → gl y.2 = gl s) (x1 : Int32) (x2 : Int32) (t0 : Int32) (s : ms) (hf : bk_M_sumUp_100 N k_43 x1 x2 t0 s = some y) : gl y.2 = gl s := by
  unfold bk_M_sumUp_100 at hf
  have hm : gl s = gl s := rfl
  exact (hkm_43 x1 ((x2 + 1)) (upI s 77 (fun _ => t0)) hf).trans hm
theorem mb_M_sumUp_43 (N : Nat) (y : (Unit × ms)) (k_43 : Int32 → Int32 → ms → Option (Unit × ms)) (hkm_43 : ∀ (x1 : Int32) (x2 : Int32) (s : ms), k_43 x1 x2 s = some y → gl y.2 = gl s) (x1 : Int32) (x2 : Int32) (s : ms) (hf : bd_M_sumUp_43 N k_43 x1 x2 s = some y) : gl y.2 = gl s := by
  unfold bd_M_sumUp_43 at hf
  have hm : gl s = gl s := rfl
  obtain ⟨_, hf⟩ := dc_g hf
  obtain ⟨_, hf⟩ := dc_g hf
  by_cases h : (((s.1 14) (Int32.toNatClampNeg ((x1 + 1)))) - ((s.1 14) (Int32.toNatClampNeg x1))) ≤ x2
  · have hf := (if_pos h).symm.trans hf
    exact (mh_M_sumUp_116 N y N 0 (upI s 78 (fun _ => 0)) hf).trans hm
  · have hf := (if_neg h).symm.trans hf
    obtain ⟨_, hf⟩ := dc_g hf
    obtain ⟨_, hf⟩ := dc_g hf
    by_cases h : ((s.1 21) (Int32.toNatClampNeg (((s.1 64) (Int32.toNatClampNeg x2))))) = 0
    · have hf := (if_pos h).symm.trans hf
      obtain ⟨_, hf⟩ := dc_g hf
      obtain ⟨_, hf⟩ := dc_g hf
      exact (mo_M_sumUp_100 N k_43 y hkm_43 x1 x2 (((s.1 77 0) + ((s.1 20) (Int32.toNatClampNeg (((s.1 64) (Int32.toNatClampNeg x2))))))) s hf).trans hm
    · have hf := (if_neg h).symm.trans hf
      exact (mo_M_sumUp_100 N k_43 y hkm_43 x1 x2 ((s.1 77 0)) s hf).trans hm
theorem mh_M_sumUp_43 (N : Nat) (y : (Unit × ms)) : ∀ (n : Nat) (x1 : Int32) (x2 : Int32) (s : ms), hd_M_sumUp_43 N n x1 x2 s = some y → gl y.2 = gl s := by
  intro n
  induction n with
  | zero => intro x1 x2 s hf; cases hf
  | succ n ih => intro x1 x2 s hf; exact mb_M_sumUp_43 N y (hd_M_sumUp_43 N n) ih x1 x2 s hf
theorem mn_M_sumUp (N : Nat) (s : ms) (y : (Unit × ms)) (hf : fn_M_sumUp N s = some y) : gl y.2 = gl s := by
  unfold fn_M_sumUp at hf
  have hm : gl s = gl s := rfl
  obtain ⟨_, hf⟩ := dc_g hf
  obtain ⟨_, hf⟩ := dc_g hf
  exact (mh_M_sumUp_43 N y N (((s.1 12 0) - 1)) 0 (upI (upJ (upI (upI s 75 (fun _ => (s.1 12 0))) 76 (fun _ => (Int64.toInt32 (((s.2 48) (Int32.toNatClampNeg (((s.1 12 0) - 1)))))))) 79 (fun _ => ((s.2 45) (Int32.toNatClampNeg (((s.1 12 0) - 1)))))) 77 (fun _ => 0)) hf).trans hm
set_option maxHeartbeats 8000000 in
set_option maxRecDepth 100000 in
theorem ct_M_sumUp (l : Launch) (dC : Nat → ClassId) (dI : Nat → Nat → Nat) (cI cB cJ cZ cQ : ClassId) (N sz : Nat) (h0 : Nat) (a : Nat → Nat) (s : ms) (y : (Unit × ms)) (hf : fn_M_sumUp N s = some y) : Met l yn_M_sumUp (xw yn_M_sumUp bn_M_sumUp 4 none) ({ frames := 0, cells := 0, slots := 0, locals := 0 }) (dc_P (dC, dI) xcl (xt cI cB cJ cZ cQ) [.ref h0] sz (wM h0 a cI cB cJ cZ s)) (xk_Qv (dC, dI) xcl (xt cI cB cJ cZ cQ) (fun _ : Unit => True) (fun u : Unit => (wM h0 a cI cB cJ cZ y.2)) (va_A (wM h0 a cI cB cJ cZ s) sz)) 0 0 (va_A (wM h0 a cI cB cJ cZ s) sz) := by
  refine dc_of (QA := xk_Qv (dC, dI) xcl (xt cI cB cJ cZ cQ) (fun _ : Unit => True) (fun u : Unit => (wM h0 a cI cB cJ cZ y.2))) (by decide) (Nat.le_of_ble_eq_true rfl) ?_
  intro p e s0 m below meth c hx hb hml hown hg hr hlocks hin hP hK hN A hA hD hT ls hl
  have hown : s0.vm.findClass rn_M = some m.cls := hown
  obtain ⟨H, hH⟩ : ∃ z, z = s0.heap := ⟨_, rfl⟩
  rw [← hH] at hP
  have hS : va_S A s0.heap H [] := by rw [hH]; exact va_S.rf
  suffices kk : ∀ QQ : State → Prop, QQ = MQ below (xk_Qv (dC, dI) xcl (xt cI cB cJ cZ cQ) (fun _ : Unit => True) (fun u : Unit => (wM h0 a cI cB cJ cZ y.2)) A) [.ref h0].toArray s0 0 0 A → dcC p l e ({ frames := 0, cells := 0, slots := 0, locals := 0 }) s0 m [.ref h0].toArray below meth c QQ (dC, dI) A (wM h0 a cI cB cJ cZ s) 0 4 [(0, .ref h0)] [] by
    have k9 := kk _ rfl H [] ls hP hD hS hl
    rw [hH] at k9; exact k9
  clear hP hD hS hl hH H ls
  intro QQ hQQ
  have hd_116 : ∀ (n : Nat) (x2 : Int32) (s : ms), hd_M_sumUp_116 N n x2 s = some y → dcC p l e ({ frames := 0, cells := 0, slots := 0, locals := 0 }) s0 m [.ref h0].toArray below meth c QQ (dC, dI) A (wM h0 a cI cB cJ cZ s) 116 4 [(0, .ref h0), (2, .int x2)] [] := by
    intro n
    induction n with
    | zero => intro x2 s hf; cases hf
    | succ n ih =>
      intro x2 s hf H locs ls hP hD hS hl
      have hf : bd_M_sumUp_116 N (hd_M_sumUp_116 N n) x2 s = some y := hf
      have hk_116 := ih
      generalize hd_M_sumUp_116 N n = k_116 at hf hk_116
      unfold bd_M_sumUp_116 at hf
      refine lv_iload_n hx hb dn_M_sumUp_116 rfl (lv_at hl 1 rfl) ?_
      refine lv_aload_n hx hb dn_M_sumUp_117 rfl (lv_at hl 0 rfl) ?_
      refine va_get (D := (dC, dI)) (ci := 0) (v := .int ((s.1 56 0))) (C := rn_M) (T := fn_M) (N := 91) hx hb hg in_M hown hK hP 0 rfl rfl 56 (by decide) (hg _ wn_8_124) (fun _ h9 => h9) rfl dn_M_sumUp_118 ?_
      refine lv_icmp_ge (tgt := 161) hx hb dn_M_sumUp_121 (by decide) (fun h => ?_) (fun h => ?_)
      · have hf := (if_pos h).symm.trans hf
        rw [hQQ, ← Option.some.inj hf]
        exact xk_vret (w1 := fun u : Unit => (wM h0 a cI cB cJ cZ s)) () hx hb hr hlocks hK hS dn_M_sumUp_161 hP hD trivial (Nat.le_refl _) (Nat.le_refl _)
      · have hf := (if_neg h).symm.trans hf
        refine lv_aload_n hx hb dn_M_sumUp_124 rfl (lv_at hl 0 rfl) ?_
        refine va_get (D := (dC, dI)) (ci := 0) (v := .ref ((a 57))) (C := rn_M) (T := fn_M) (N := 91) hx hb hg in_M hown hK hP 0 rfl rfl 57 (by decide) (hg _ wn_8_125) (fun _ h9 => h9) rfl dn_M_sumUp_125 ?_
        refine lv_iload_n hx hb dn_M_sumUp_128 rfl (lv_at hl 1 rfl) ?_
        obtain ⟨hg_1, hf⟩ := dc_g hf
        refine va_iald hx hb hK hP 38 0 rfl rfl hg_1 dn_M_sumUp_129 ?_
        refine xk_ti (y := ((s.1 57) (Int32.toNatClampNeg x2))) rfl ?_
        refine lv_istore_n (lv' := [(3, .int (((s.1 57) (Int32.toNatClampNeg x2)))), (0, .ref h0), (2, .int x2)]) hx hb dn_M_sumUp_130 rfl hl (by decide) rfl (fun ls hl => ?_)
        refine lv_aload_n hx hb dn_M_sumUp_131 rfl (lv_at hl 1 rfl) ?_
        refine lv_aload_n hx hb dn_M_sumUp_132 rfl (lv_at hl 1 rfl) ?_
        refine va_get (D := (dC, dI)) (ci := 0) (v := .int ((s.1 78 0))) (C := rn_M) (T := fn_M) (N := 91) hx hb hg in_M hown hK hP 0 rfl rfl 78 (by decide) (hg _ wn_8_146) (fun _ h9 => h9) rfl dn_M_sumUp_133 ?_
        refine lv_aload_n hx hb dn_M_sumUp_136 rfl (lv_at hl 1 rfl) ?_
        refine va_get (D := (dC, dI)) (ci := 0) (v := .ref ((a 16))) (C := rn_M) (T := fn_M) (N := 91) hx hb hg in_M hown hK hP 0 rfl rfl 16 (by decide) (hg _ wn_8_84) (fun _ h9 => h9) rfl dn_M_sumUp_137 ?_
        refine lv_iload_n hx hb dn_M_sumUp_140 rfl (lv_at hl 0 rfl) ?_
        refine lv_iconst (v := 1) hx hb dn_M_sumUp_141 (by decide) ?_
        refine lv_iadd hx hb dn_M_sumUp_142 ?_
        obtain ⟨hg_2, hf⟩ := dc_g hf
        refine va_iald hx hb hK hP 8 0 rfl rfl hg_2 dn_M_sumUp_143 ?_
        refine xk_ti (y := ((s.1 16) (Int32.toNatClampNeg ((((s.1 57) (Int32.toNatClampNeg x2)) + 1))))) rfl ?_
        refine lv_iadd hx hb dn_M_sumUp_144 ?_
        refine lv_aload_n hx hb dn_M_sumUp_145 rfl (lv_at hl 1 rfl) ?_
        refine va_get (D := (dC, dI)) (ci := 0) (v := .ref ((a 16))) (C := rn_M) (T := fn_M) (N := 91) hx hb hg in_M hown hK hP 0 rfl rfl 16 (by decide) (hg _ wn_8_84) (fun _ h9 => h9) rfl dn_M_sumUp_146 ?_
        refine lv_iload_n hx hb dn_M_sumUp_149 rfl (lv_at hl 0 rfl) ?_
        obtain ⟨hg_3, hf⟩ := dc_g hf
        refine va_iald hx hb hK hP 8 0 rfl rfl hg_3 dn_M_sumUp_150 ?_
        refine xk_ti (y := ((s.1 16) (Int32.toNatClampNeg (((s.1 57) (Int32.toNatClampNeg x2)))))) rfl ?_
        refine lv_isub hx hb dn_M_sumUp_151 ?_
        refine va_put (D := (dC, dI)) (ci := 0) (v := .int ((((s.1 78 0) + ((s.1 16) (Int32.toNatClampNeg ((((s.1 57) (Int32.toNatClampNeg x2)) + 1))))) - ((s.1 16) (Int32.toNatClampNeg (((s.1 57) (Int32.toNatClampNeg x2)))))))) (ty := .int) (C := rn_M) (T := fn_M) (N := 91) hx hb hg in_M tn_M tk_M nn_M hown hK hP hD hS 0 rfl rfl 78 (by decide) (hg _ wn_8_146) (fun _ h9 => h9) rfl (tk_M 78 (by decide)) rfl rfl (Nat.le_of_ble_eq_true rfl) dn_M_sumUp_152 (fun H locs hP hD hS => ?_)
        have hP : va_P (dC, dI) xcl (wM h0 a cI cB cJ cZ (upI s 78 (fun _ => (((s.1 78 0) + ((s.1 16) (Int32.toNatClampNeg ((((s.1 57) (Int32.toNatClampNeg x2)) + 1))))) - ((s.1 16) (Int32.toNatClampNeg (((s.1 57) (Int32.toNatClampNeg x2))))))))) H := hP
        have hD : va_D A (wM h0 a cI cB cJ cZ (upI s 78 (fun _ => (((s.1 78 0) + ((s.1 16) (Int32.toNatClampNeg ((((s.1 57) (Int32.toNatClampNeg x2)) + 1))))) - ((s.1 16) (Int32.toNatClampNeg (((s.1 57) (Int32.toNatClampNeg x2))))))))) := hD
        refine lv_iinc (v := (x2 + 1)) (lv' := [(2, .int ((x2 + 1))), (3, .int (((s.1 57) (Int32.toNatClampNeg x2)))), (0, .ref h0)]) hx hb dn_M_sumUp_155 hl (k := 2) rfl (dc_inc (by decide)) (by decide) rfl (fun ls hl => ?_)
        refine lv_goto (tgt := 116) hx hb dn_M_sumUp_158 (by decide) ?_
        exact hk_116 ((x2 + 1)) (upI s 78 (fun _ => (((s.1 78 0) + ((s.1 16) (Int32.toNatClampNeg ((((s.1 57) (Int32.toNatClampNeg x2)) + 1))))) - ((s.1 16) (Int32.toNatClampNeg (((s.1 57) (Int32.toNatClampNeg x2)))))))) hf H locs ls hP hD hS (lv_sub hl [2, 0] rfl)
  have bl_100 : ∀ (k_43 : Int32 → Int32 → ms → Option (Unit × ms)) (hk_43 : ∀ (x1 : Int32) (x2 : Int32) (s : ms), k_43 x1 x2 s = some y → dcC p l e ({ frames := 0, cells := 0, slots := 0, locals := 0 }) s0 m [.ref h0].toArray below meth c QQ (dC, dI) A (wM h0 a cI cB cJ cZ s) 43 4 [(0, .ref h0), (1, .int x1), (2, .int x2)] []) (x1 : Int32) (x2 : Int32) (t0 : Int32) (s : ms), bk_M_sumUp_100 N k_43 x1 x2 t0 s = some y → dcC p l e ({ frames := 0, cells := 0, slots := 0, locals := 0 }) s0 m [.ref h0].toArray below meth c QQ (dC, dI) A (wM h0 a cI cB cJ cZ s) 100 4 [(0, .ref h0), (1, .int x1), (2, .int x2)] [.int t0, .ref h0] := by
    intro k_43 hk_43 x1 x2 t0 s hf H locs ls hP hD hS hl
    unfold bk_M_sumUp_100 at hf
    refine va_put (D := (dC, dI)) (ci := 0) (v := .int t0) (ty := .int) (C := rn_M) (T := fn_M) (N := 91) hx hb hg in_M tn_M tk_M nn_M hown hK hP hD hS 0 rfl rfl 77 (by decide) (hg _ wn_8_145) (fun _ h9 => h9) rfl (tk_M 77 (by decide)) rfl rfl (Nat.le_of_ble_eq_true rfl) dn_M_sumUp_100 (fun H locs hP hD hS => ?_)
    have hP : va_P (dC, dI) xcl (wM h0 a cI cB cJ cZ (upI s 77 (fun _ => t0))) H := hP
    have hD : va_D A (wM h0 a cI cB cJ cZ (upI s 77 (fun _ => t0))) := hD
    refine lv_iinc (v := (x2 + 1)) (lv' := [(2, .int ((x2 + 1))), (0, .ref h0), (1, .int x1)]) hx hb dn_M_sumUp_103 hl (k := 2) rfl (dc_inc (by decide)) (by decide) rfl (fun ls hl => ?_)
    refine lv_goto (tgt := 43) hx hb dn_M_sumUp_106 (by decide) ?_
    exact hk_43 x1 ((x2 + 1)) (upI s 77 (fun _ => t0)) hf H locs ls hP hD hS (lv_sub hl [1, 2, 0] rfl)
  have hd_43 : ∀ (n : Nat) (x1 : Int32) (x2 : Int32) (s : ms), hd_M_sumUp_43 N n x1 x2 s = some y → dcC p l e ({ frames := 0, cells := 0, slots := 0, locals := 0 }) s0 m [.ref h0].toArray below meth c QQ (dC, dI) A (wM h0 a cI cB cJ cZ s) 43 4 [(0, .ref h0), (1, .int x1), (2, .int x2)] [] := by
    intro n
    induction n with
    | zero => intro x1 x2 s hf; cases hf
    | succ n ih =>
      intro x1 x2 s hf H locs ls hP hD hS hl
      have hf : bd_M_sumUp_43 N (hd_M_sumUp_43 N n) x1 x2 s = some y := hf
      have hk_43 := ih
      generalize hd_M_sumUp_43 N n = k_43 at hf hk_43
      unfold bd_M_sumUp_43 at hf
      refine lv_iload_n hx hb dn_M_sumUp_43 rfl (lv_at hl 2 rfl) ?_
      refine lv_aload_n hx hb dn_M_sumUp_44 rfl (lv_at hl 0 rfl) ?_
      refine va_get (D := (dC, dI)) (ci := 0) (v := .ref ((a 14))) (C := rn_M) (T := fn_M) (N := 91) hx hb hg in_M hown hK hP 0 rfl rfl 14 (by decide) (hg _ wn_8_82) (fun _ h9 => h9) rfl dn_M_sumUp_45 ?_
      refine lv_iload_n hx hb dn_M_sumUp_48 rfl (lv_at hl 1 rfl) ?_
      refine lv_iconst (v := 1) hx hb dn_M_sumUp_49 (by decide) ?_
      refine lv_iadd hx hb dn_M_sumUp_50 ?_
      obtain ⟨hg_1, hf⟩ := dc_g hf
      refine va_iald hx hb hK hP 6 0 rfl rfl hg_1 dn_M_sumUp_51 ?_
      refine xk_ti (y := ((s.1 14) (Int32.toNatClampNeg ((x1 + 1))))) rfl ?_
      refine lv_aload_n hx hb dn_M_sumUp_52 rfl (lv_at hl 0 rfl) ?_
      refine va_get (D := (dC, dI)) (ci := 0) (v := .ref ((a 14))) (C := rn_M) (T := fn_M) (N := 91) hx hb hg in_M hown hK hP 0 rfl rfl 14 (by decide) (hg _ wn_8_82) (fun _ h9 => h9) rfl dn_M_sumUp_53 ?_
      refine lv_iload_n hx hb dn_M_sumUp_56 rfl (lv_at hl 1 rfl) ?_
      obtain ⟨hg_2, hf⟩ := dc_g hf
      refine va_iald hx hb hK hP 6 0 rfl rfl hg_2 dn_M_sumUp_57 ?_
      refine xk_ti (y := ((s.1 14) (Int32.toNatClampNeg x1))) rfl ?_
      refine lv_isub hx hb dn_M_sumUp_58 ?_
      refine lv_icmp_ge (tgt := 109) hx hb dn_M_sumUp_59 (by decide) (fun h => ?_) (fun h => ?_)
      · have hf := (if_pos h).symm.trans hf
        refine lv_aload_n hx hb dn_M_sumUp_109 rfl (lv_at hl 0 rfl) ?_
        refine lv_iconst (v := 0) hx hb dn_M_sumUp_110 (by decide) ?_
        refine va_put (D := (dC, dI)) (ci := 0) (v := .int 0) (ty := .int) (C := rn_M) (T := fn_M) (N := 91) hx hb hg in_M tn_M tk_M nn_M hown hK hP hD hS 0 rfl rfl 78 (by decide) (hg _ wn_8_146) (fun _ h9 => h9) rfl (tk_M 78 (by decide)) rfl rfl (Nat.le_of_ble_eq_true rfl) dn_M_sumUp_111 (fun H locs hP hD hS => ?_)
        have hP : va_P (dC, dI) xcl (wM h0 a cI cB cJ cZ (upI s 78 (fun _ => 0))) H := hP
        have hD : va_D A (wM h0 a cI cB cJ cZ (upI s 78 (fun _ => 0))) := hD
        refine lv_iconst (v := 0) hx hb dn_M_sumUp_114 (by decide) ?_
        refine lv_istore_n (lv' := [(2, .int 0), (0, .ref h0), (1, .int x1)]) hx hb dn_M_sumUp_115 rfl hl (by decide) rfl (fun ls hl => ?_)
        exact hd_116 N 0 (upI s 78 (fun _ => 0)) hf H locs ls hP hD hS (lv_sub hl [1, 0] rfl)
      · have hf := (if_neg h).symm.trans hf
        refine lv_aload_n hx hb dn_M_sumUp_62 rfl (lv_at hl 0 rfl) ?_
        refine lv_aload_n hx hb dn_M_sumUp_63 rfl (lv_at hl 0 rfl) ?_
        refine va_get (D := (dC, dI)) (ci := 0) (v := .ref ((a 21))) (C := rn_M) (T := fn_M) (N := 91) hx hb hg in_M hown hK hP 0 rfl rfl 21 (by decide) (hg _ wn_8_89) (fun _ h9 => h9) rfl dn_M_sumUp_64 ?_
        refine lv_aload_n hx hb dn_M_sumUp_67 rfl (lv_at hl 0 rfl) ?_
        refine va_get (D := (dC, dI)) (ci := 0) (v := .ref ((a 64))) (C := rn_M) (T := fn_M) (N := 91) hx hb hg in_M hown hK hP 0 rfl rfl 64 (by decide) (hg _ wn_8_132) (fun _ h9 => h9) rfl dn_M_sumUp_68 ?_
        refine lv_iload_n hx hb dn_M_sumUp_71 rfl (lv_at hl 2 rfl) ?_
        obtain ⟨hg_3, hf⟩ := dc_g hf
        refine va_iald hx hb hK hP 44 0 rfl rfl hg_3 dn_M_sumUp_72 ?_
        refine xk_ti (y := ((s.1 64) (Int32.toNatClampNeg x2))) rfl ?_
        obtain ⟨hg_4, hf⟩ := dc_g hf
        refine va_iald hx hb hK hP 12 0 rfl rfl hg_4 dn_M_sumUp_73 ?_
        refine xk_ti (y := ((s.1 21) (Int32.toNatClampNeg (((s.1 64) (Int32.toNatClampNeg x2)))))) rfl ?_
        refine lv_if_ne (tgt := 96) hx hb dn_M_sumUp_74 (by decide) (fun h => ?_) (fun h => ?_)
        · have hf := (if_neg h).symm.trans hf
          refine lv_aload_n hx hb dn_M_sumUp_96 rfl (lv_at hl 0 rfl) ?_
          refine va_get (D := (dC, dI)) (ci := 0) (v := .int ((s.1 77 0))) (C := rn_M) (T := fn_M) (N := 91) hx hb hg in_M hown hK hP 0 rfl rfl 77 (by decide) (hg _ wn_8_145) (fun _ h9 => h9) rfl dn_M_sumUp_97 ?_
          exact bl_100 k_43 hk_43 x1 x2 ((s.1 77 0)) s hf H locs ls hP hD hS hl
        · have hf := (if_pos h).symm.trans hf
          refine lv_aload_n hx hb dn_M_sumUp_77 rfl (lv_at hl 0 rfl) ?_
          refine va_get (D := (dC, dI)) (ci := 0) (v := .int ((s.1 77 0))) (C := rn_M) (T := fn_M) (N := 91) hx hb hg in_M hown hK hP 0 rfl rfl 77 (by decide) (hg _ wn_8_145) (fun _ h9 => h9) rfl dn_M_sumUp_78 ?_
          refine lv_aload_n hx hb dn_M_sumUp_81 rfl (lv_at hl 0 rfl) ?_
          refine va_get (D := (dC, dI)) (ci := 0) (v := .ref ((a 20))) (C := rn_M) (T := fn_M) (N := 91) hx hb hg in_M hown hK hP 0 rfl rfl 20 (by decide) (hg _ wn_8_88) (fun _ h9 => h9) rfl dn_M_sumUp_82 ?_
          refine lv_aload_n hx hb dn_M_sumUp_85 rfl (lv_at hl 0 rfl) ?_
          refine va_get (D := (dC, dI)) (ci := 0) (v := .ref ((a 64))) (C := rn_M) (T := fn_M) (N := 91) hx hb hg in_M hown hK hP 0 rfl rfl 64 (by decide) (hg _ wn_8_132) (fun _ h9 => h9) rfl dn_M_sumUp_86 ?_
          refine lv_iload_n hx hb dn_M_sumUp_89 rfl (lv_at hl 2 rfl) ?_
          obtain ⟨hg_5, hf⟩ := dc_g hf
          refine va_iald hx hb hK hP 44 0 rfl rfl hg_5 dn_M_sumUp_90 ?_
          refine xk_ti (y := ((s.1 64) (Int32.toNatClampNeg x2))) rfl ?_
          obtain ⟨hg_6, hf⟩ := dc_g hf
          refine va_iald hx hb hK hP 11 0 rfl rfl hg_6 dn_M_sumUp_91 ?_
          refine xk_ti (y := ((s.1 20) (Int32.toNatClampNeg (((s.1 64) (Int32.toNatClampNeg x2)))))) rfl ?_
          refine lv_iadd hx hb dn_M_sumUp_92 ?_
          refine lv_goto (tgt := 100) hx hb dn_M_sumUp_93 (by decide) ?_
          exact bl_100 k_43 hk_43 x1 x2 (((s.1 77 0) + ((s.1 20) (Int32.toNatClampNeg (((s.1 64) (Int32.toNatClampNeg x2))))))) s hf H locs ls hP hD hS hl
  intro H locs ls hP hD hS hl
  unfold fn_M_sumUp at hf
  refine lv_aload_n hx hb dn_M_sumUp_0 rfl (lv_at hl 0 rfl) ?_
  refine va_get (D := (dC, dI)) (ci := 0) (v := .int ((s.1 12 0))) (C := rn_M) (T := fn_M) (N := 91) hx hb hg in_M hown hK hP 0 rfl rfl 12 (by decide) (hg _ wn_8_80) (fun _ h9 => h9) rfl dn_M_sumUp_1 ?_
  refine lv_iconst (v := 1) hx hb dn_M_sumUp_4 (by decide) ?_
  refine lv_isub hx hb dn_M_sumUp_5 ?_
  refine lv_istore_n (lv' := [(1, .int (((s.1 12 0) - 1))), (0, .ref h0)]) hx hb dn_M_sumUp_6 rfl hl (by decide) rfl (fun ls hl => ?_)
  refine lv_aload_n hx hb dn_M_sumUp_7 rfl (lv_at hl 1 rfl) ?_
  refine lv_aload_n hx hb dn_M_sumUp_8 rfl (lv_at hl 1 rfl) ?_
  refine va_get (D := (dC, dI)) (ci := 0) (v := .int ((s.1 12 0))) (C := rn_M) (T := fn_M) (N := 91) hx hb hg in_M hown hK hP 0 rfl rfl 12 (by decide) (hg _ wn_8_80) (fun _ h9 => h9) rfl dn_M_sumUp_9 ?_
  refine va_put (D := (dC, dI)) (ci := 0) (v := .int ((s.1 12 0))) (ty := .int) (C := rn_M) (T := fn_M) (N := 91) hx hb hg in_M tn_M tk_M nn_M hown hK hP hD hS 0 rfl rfl 75 (by decide) (hg _ wn_8_143) (fun _ h9 => h9) rfl (tk_M 75 (by decide)) rfl rfl (Nat.le_of_ble_eq_true rfl) dn_M_sumUp_12 (fun H locs hP hD hS => ?_)
  have hP : va_P (dC, dI) xcl (wM h0 a cI cB cJ cZ (upI s 75 (fun _ => (s.1 12 0)))) H := hP
  have hD : va_D A (wM h0 a cI cB cJ cZ (upI s 75 (fun _ => (s.1 12 0)))) := hD
  refine lv_aload_n hx hb dn_M_sumUp_15 rfl (lv_at hl 1 rfl) ?_
  refine lv_aload_n hx hb dn_M_sumUp_16 rfl (lv_at hl 1 rfl) ?_
  refine va_get (D := (dC, dI)) (ci := 0) (v := .ref ((a 48))) (C := rn_M) (T := fn_M) (N := 91) hx hb hg in_M hown hK hP 0 rfl rfl 48 (by decide) (hg _ wn_8_116) (fun _ h9 => h9) rfl dn_M_sumUp_17 ?_
  refine lv_iload_n hx hb dn_M_sumUp_20 rfl (lv_at hl 0 rfl) ?_
  obtain ⟨hg_1, hf⟩ := dc_g hf
  refine va_lald hx hb hK hP 33 2 rfl rfl hg_1 dn_M_sumUp_21 ?_
  refine xk_tl (y := ((s.2 48) (Int32.toNatClampNeg (((s.1 12 0) - 1))))) rfl ?_
  refine lv_l2i (v := Int64.toInt32 (((s.2 48) (Int32.toNatClampNeg (((s.1 12 0) - 1)))))) hx hb dn_M_sumUp_22 rfl ?_
  refine va_put (D := (dC, dI)) (ci := 0) (v := .int ((Int64.toInt32 (((s.2 48) (Int32.toNatClampNeg (((s.1 12 0) - 1)))))))) (ty := .int) (C := rn_M) (T := fn_M) (N := 91) hx hb hg in_M tn_M tk_M nn_M hown hK hP hD hS 0 rfl rfl 76 (by decide) (hg _ wn_8_144) (fun _ h9 => h9) rfl (tk_M 76 (by decide)) rfl rfl (Nat.le_of_ble_eq_true rfl) dn_M_sumUp_23 (fun H locs hP hD hS => ?_)
  have hP : va_P (dC, dI) xcl (wM h0 a cI cB cJ cZ (upI (upI s 75 (fun _ => (s.1 12 0))) 76 (fun _ => (Int64.toInt32 (((s.2 48) (Int32.toNatClampNeg (((s.1 12 0) - 1))))))))) H := hP
  have hD : va_D A (wM h0 a cI cB cJ cZ (upI (upI s 75 (fun _ => (s.1 12 0))) 76 (fun _ => (Int64.toInt32 (((s.2 48) (Int32.toNatClampNeg (((s.1 12 0) - 1))))))))) := hD
  refine lv_aload_n hx hb dn_M_sumUp_26 rfl (lv_at hl 1 rfl) ?_
  refine lv_aload_n hx hb dn_M_sumUp_27 rfl (lv_at hl 1 rfl) ?_
  refine va_get (D := (dC, dI)) (ci := 0) (v := .ref ((a 45))) (C := rn_M) (T := fn_M) (N := 91) hx hb hg in_M hown hK hP 0 rfl rfl 45 (by decide) (hg _ wn_8_113) (fun _ h9 => h9) rfl dn_M_sumUp_28 ?_
  refine lv_iload_n hx hb dn_M_sumUp_31 rfl (lv_at hl 0 rfl) ?_
  obtain ⟨hg_2, hf⟩ := dc_g hf
  refine va_lald hx hb hK hP 30 2 rfl rfl hg_2 dn_M_sumUp_32 ?_
  refine xk_tl (y := ((s.2 45) (Int32.toNatClampNeg (((s.1 12 0) - 1))))) rfl ?_
  refine va_put (D := (dC, dI)) (ci := 0) (v := .long (((s.2 45) (Int32.toNatClampNeg (((s.1 12 0) - 1)))))) (ty := .long) (C := rn_M) (T := fn_M) (N := 91) hx hb hg in_M tn_M tk_M nn_M hown hK hP hD hS 0 rfl rfl 79 (by decide) (hg _ wn_8_147) (fun _ h9 => h9) rfl (tk_M 79 (by decide)) rfl rfl (Nat.le_of_ble_eq_true rfl) dn_M_sumUp_33 (fun H locs hP hD hS => ?_)
  have hP : va_P (dC, dI) xcl (wM h0 a cI cB cJ cZ (upJ (upI (upI s 75 (fun _ => (s.1 12 0))) 76 (fun _ => (Int64.toInt32 (((s.2 48) (Int32.toNatClampNeg (((s.1 12 0) - 1)))))))) 79 (fun _ => ((s.2 45) (Int32.toNatClampNeg (((s.1 12 0) - 1))))))) H := hP
  have hD : va_D A (wM h0 a cI cB cJ cZ (upJ (upI (upI s 75 (fun _ => (s.1 12 0))) 76 (fun _ => (Int64.toInt32 (((s.2 48) (Int32.toNatClampNeg (((s.1 12 0) - 1)))))))) 79 (fun _ => ((s.2 45) (Int32.toNatClampNeg (((s.1 12 0) - 1))))))) := hD
  refine lv_aload_n hx hb dn_M_sumUp_36 rfl (lv_at hl 1 rfl) ?_
  refine lv_iconst (v := 0) hx hb dn_M_sumUp_37 (by decide) ?_
  refine va_put (D := (dC, dI)) (ci := 0) (v := .int 0) (ty := .int) (C := rn_M) (T := fn_M) (N := 91) hx hb hg in_M tn_M tk_M nn_M hown hK hP hD hS 0 rfl rfl 77 (by decide) (hg _ wn_8_145) (fun _ h9 => h9) rfl (tk_M 77 (by decide)) rfl rfl (Nat.le_of_ble_eq_true rfl) dn_M_sumUp_38 (fun H locs hP hD hS => ?_)
  have hP : va_P (dC, dI) xcl (wM h0 a cI cB cJ cZ (upI (upJ (upI (upI s 75 (fun _ => (s.1 12 0))) 76 (fun _ => (Int64.toInt32 (((s.2 48) (Int32.toNatClampNeg (((s.1 12 0) - 1)))))))) 79 (fun _ => ((s.2 45) (Int32.toNatClampNeg (((s.1 12 0) - 1)))))) 77 (fun _ => 0))) H := hP
  have hD : va_D A (wM h0 a cI cB cJ cZ (upI (upJ (upI (upI s 75 (fun _ => (s.1 12 0))) 76 (fun _ => (Int64.toInt32 (((s.2 48) (Int32.toNatClampNeg (((s.1 12 0) - 1)))))))) 79 (fun _ => ((s.2 45) (Int32.toNatClampNeg (((s.1 12 0) - 1)))))) 77 (fun _ => 0))) := hD
  refine lv_iconst (v := 0) hx hb dn_M_sumUp_41 (by decide) ?_
  refine lv_istore_n (lv' := [(2, .int 0), (1, .int (((s.1 12 0) - 1))), (0, .ref h0)]) hx hb dn_M_sumUp_42 rfl hl (by decide) rfl (fun ls hl => ?_)
  exact hd_43 N (((s.1 12 0) - 1)) 0 (upI (upJ (upI (upI s 75 (fun _ => (s.1 12 0))) 76 (fun _ => (Int64.toInt32 (((s.2 48) (Int32.toNatClampNeg (((s.1 12 0) - 1)))))))) 79 (fun _ => ((s.2 45) (Int32.toNatClampNeg (((s.1 12 0) - 1)))))) 77 (fun _ => 0)) hf H locs ls hP hD hS (lv_sub hl [2, 1, 0] rfl)
