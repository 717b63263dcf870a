theorem mo_M_wordKind_97 (N : Nat) (k_5 : Int32 → Int32 → Int32 → Int32 → ms → Option (Int32 × ms)) (y : (Int32 × ms)) (hkm_5 : ∀ (x1 : Int32) (x2 : Int32) (x3 : Int32) (x4 : Int32) (s : ms), k_5 x1 x2 x3 x4 s = some y → gl y.2 = gl s) (x1 : Int32) (x2 : Int32) (x3 : Int32) (x4 : Int32) (x5 : Int32) (s : ms) (hf : bk_M_wordKind_97 N k_5 x1 x2 x3 x4 x5 s = some y) : gl y.2 = gl s := by
  unfold bk_M_wordKind_97 at hf
  have hm : gl s = gl s := rfl
  exact (hkm_5 x1 x2 (((x3 + x5) + 1)) ((x4 + 1)) s hf).trans hm
theorem mb_M_wordKind_19 (N : Nat) (k_5 : Int32 → Int32 → Int32 → Int32 → ms → Option (Int32 × ms)) (y : (Int32 × ms)) (hkm_5 : ∀ (x1 : Int32) (x2 : Int32) (x3 : Int32) (x4 : Int32) (s : ms), k_5 x1 x2 x3 x4 s = some y → gl y.2 = gl s) (k_19 : Int32 → Int32 → Int32 → Int32 → Int32 → Int32 → ms → Option (Int32 × ms)) (hkm_19 : ∀ (x1 : Int32) (x2 : Int32) (x3 : Int32) (x4 : Int32) (x5 : Int32) (x6 : Int32) (s : ms), k_19 x1 x2 x3 x4 x5 x6 s = some y → gl y.2 = gl s) (x1 : Int32) (x2 : Int32) (x3 : Int32) (x4 : Int32) (x5 : Int32) (x6 : Int32) (s : ms) (hf : bd_M_wordKind_19 N k_5 k_19 x1 x2 x3 x4 x5 x6 s = some y) : gl y.2 = gl s := by
  unfold bd_M_wordKind_19 at hf
  have hm : gl s = gl s := rfl
  obtain ⟨_, hf⟩ := dc_g hf
  by_cases h : (dc_wd (Int32.toNatClampNeg ((x3 + x5)))) = 32
  · have hf := (if_pos h).symm.trans hf
    by_cases h : x6 = 0
    · have hf := (if_pos h).symm.trans hf
      exact (mo_M_wordKind_97 N k_5 y hkm_5 x1 x2 x3 x4 x5 s hf).trans hm
    · have hf := (if_neg h).symm.trans hf
      by_cases h : x5 = (x2 - x1)
      · have hf := (if_pos h).symm.trans hf
        exact (dc_e hf).trans hm
      · have hf := (if_neg h).symm.trans hf
        exact (mo_M_wordKind_97 N k_5 y hkm_5 x1 x2 x3 x4 x5 s hf).trans hm
  · have hf := (if_neg h).symm.trans hf
    by_cases h : x6 = 0
    · have hf := (if_pos h).symm.trans hf
      exact (hkm_19 x1 x2 x3 x4 ((x5 + 1)) 0 s hf).trans hm
    · have hf := (if_neg h).symm.trans hf
      by_cases h : x2 ≤ (x1 + x5)
      · have hf := (if_pos h).symm.trans hf
        exact (hkm_19 x1 x2 x3 x4 ((x5 + 1)) 0 s hf).trans hm
      · have hf := (if_neg h).symm.trans hf
        obtain ⟨q_2, hc_3, hf⟩ := dc_b hf
        have hm := (mn_M_at N ((x1 + x5)) s q_2 hc_3).trans hm
        obtain ⟨_, hf⟩ := dc_g hf
        by_cases h : q_2.1 = (dc_wd (Int32.toNatClampNeg ((x3 + x5))))
        · have hf := (if_pos h).symm.trans hf
          exact (hkm_19 x1 x2 x3 x4 ((x5 + 1)) 1 q_2.2 hf).trans hm
        · have hf := (if_neg h).symm.trans hf
          exact (hkm_19 x1 x2 x3 x4 ((x5 + 1)) 0 q_2.2 hf).trans hm
theorem mh_M_wordKind_19 (N : Nat) (k_5 : Int32 → Int32 → Int32 → Int32 → ms → Option (Int32 × ms)) (y : (Int32 × ms)) (hkm_5 : ∀ (x1 : Int32) (x2 : Int32) (x3 : Int32) (x4 : Int32) (s : ms), k_5 x1 x2 x3 x4 s = some y → gl y.2 = gl s) : ∀ (n : Nat) (x1 : Int32) (x2 : Int32) (x3 : Int32) (x4 : Int32) (x5 : Int32) (x6 : Int32) (s : ms), hd_M_wordKind_19 N k_5 n x1 x2 x3 x4 x5 x6 s = some y → gl y.2 = gl s := by
  intro n
  induction n with
  | zero => intro x1 x2 x3 x4 x5 x6 s hf; cases hf
  | succ n ih => intro x1 x2 x3 x4 x5 x6 s hf; exact mb_M_wordKind_19 N k_5 y hkm_5 (hd_M_wordKind_19 N k_5 n) ih x1 x2 x3 x4 x5 x6 s hf
theorem mb_M_wordKind_5 (N : Nat) (y : (Int32 × ms)) (k_5 : Int32 → Int32 → Int32 → Int32 → ms → Option (Int32 × ms)) (hkm_5 : ∀ (x1 : Int32) (x2 : Int32) (x3 : Int32) (x4 : Int32) (s : ms), k_5 x1 x2 x3 x4 s = some y → gl y.2 = gl s) (x1 : Int32) (x2 : Int32) (x3 : Int32) (x4 : Int32) (s : ms) (hf : bd_M_wordKind_5 N k_5 x1 x2 x3 x4 s = some y) : gl y.2 = gl s := by
  unfold bd_M_wordKind_5 at hf
  have hm : gl s = gl s := rfl
  by_cases h : 113 ≤ x3
  · have hf := (if_pos h).symm.trans hf
    exact (dc_e hf).trans hm
  · have hf := (if_neg h).symm.trans hf
    exact (mh_M_wordKind_19 N k_5 y hkm_5 N x1 x2 x3 x4 0 1 s hf).trans hm
theorem mh_M_wordKind_5 (N : Nat) (y : (Int32 × ms)) : ∀ (n : Nat) (x1 : Int32) (x2 : Int32) (x3 : Int32) (x4 : Int32) (s : ms), hd_M_wordKind_5 N n x1 x2 x3 x4 s = some y → gl y.2 = gl s := by
  intro n
  induction n with
  | zero => intro x1 x2 x3 x4 s hf; cases hf
  | succ n ih => intro x1 x2 x3 x4 s hf; exact mb_M_wordKind_5 N y (hd_M_wordKind_5 N n) ih x1 x2 x3 x4 s hf
theorem mn_M_wordKind (N : Nat) (v1 : Int32) (v2 : Int32) (s : ms) (y : (Int32 × ms)) (hf : fn_M_wordKind N v1 v2 s = some y) : gl y.2 = gl s := by
  unfold fn_M_wordKind at hf
  have hm : gl s = gl s := rfl
  exact (mh_M_wordKind_5 N y N v1 v2 0 0 s hf).trans hm
set_option maxHeartbeats 8000000 in
set_option maxRecDepth 100000 in
theorem ct_M_wordKind (l : Launch) (dC : Nat → ClassId) (dI : Nat → Nat → Nat) (cI cB cJ cZ cQ : ClassId) (N sz : Nat) (h0 : Nat) (a : Nat → Nat) (v1 : Int32) (v2 : Int32) (s : ms) (y : (Int32 × ms)) (hf : fn_M_wordKind N v1 v2 s = some y) : Met l yn_M_wordKind (xw yn_M_wordKind bn_M_wordKind 7 (some .int)) ({ frames := 1, cells := 0, slots := 0, locals := 21 }) (dc_P (dC, dI) xcl (xt cI cB cJ cZ cQ) [.ref h0, .int v1, .int v2] sz (wM h0 a cI cB cJ cZ s)) (xk_Qi (dC, dI) xcl (xt cI cB cJ cZ cQ) (fun (r : Int32) (_ : Unit) => r = y.1) (fun u : Unit => (wM h0 a cI cB cJ cZ y.2)) (va_A (wM h0 a cI cB cJ cZ s) sz)) 0 0 (va_A (wM h0 a cI cB cJ cZ s) sz) := by
  refine dc_of (QA := xk_Qi (dC, dI) xcl (xt cI cB cJ cZ cQ) (fun (r : Int32) (_ : Unit) => r = y.1) (fun u : Unit => (wM h0 a cI cB cJ cZ y.2))) (by decide) (Nat.le_of_ble_eq_true rfl) ?_
  intro p e s0 m below meth c hx hb hml hown hg hr hlocks hin hP hK hN A hA hD hT ls hl
  have hown : s0.vm.findClass rn_M = some m.cls := hown
  obtain ⟨H, hH⟩ : ∃ z, z = s0.heap := ⟨_, rfl⟩
  rw [← hH] at hP
  have hS : va_S A s0.heap H [] := by rw [hH]; exact va_S.rf
  suffices kk : ∀ QQ : State → Prop, QQ = MQ below (xk_Qi (dC, dI) xcl (xt cI cB cJ cZ cQ) (fun (r : Int32) (_ : Unit) => r = y.1) (fun u : Unit => (wM h0 a cI cB cJ cZ y.2)) A) [.ref h0, .int v1, .int v2].toArray s0 0 0 A → dcC p l e ({ frames := 1, cells := 0, slots := 0, locals := 21 }) s0 m [.ref h0, .int v1, .int v2].toArray below meth c QQ (dC, dI) A (wM h0 a cI cB cJ cZ s) 0 7 [(0, .ref h0), (1, .int v1), (2, .int v2)] [] by
    have k9 := kk _ rfl H [] ls hP hD hS hl
    rw [hH] at k9; exact k9
  clear hP hD hS hl hH H ls
  intro QQ hQQ
  obtain ⟨tw, hZ, hTT⟩ := id hT
  have bl_97 : ∀ (k_5 : Int32 → Int32 → Int32 → Int32 → ms → Option (Int32 × ms)) (hk_5 : ∀ (x1 : Int32) (x2 : Int32) (x3 : Int32) (x4 : Int32) (s : ms), k_5 x1 x2 x3 x4 s = some y → dcC p l e ({ frames := 1, cells := 0, slots := 0, locals := 21 }) s0 m [.ref h0, .int v1, .int v2].toArray below meth c QQ (dC, dI) A (wM h0 a cI cB cJ cZ s) 5 7 [(0, .ref h0), (1, .int x1), (2, .int x2), (3, .int x3), (4, .int x4)] []) (x1 : Int32) (x2 : Int32) (x3 : Int32) (x4 : Int32) (x5 : Int32) (s : ms), bk_M_wordKind_97 N k_5 x1 x2 x3 x4 x5 s = some y → dcC p l e ({ frames := 1, cells := 0, slots := 0, locals := 21 }) s0 m [.ref h0, .int v1, .int v2].toArray below meth c QQ (dC, dI) A (wM h0 a cI cB cJ cZ s) 97 7 [(0, .ref h0), (1, .int x1), (2, .int x2), (3, .int x3), (4, .int x4), (5, .int x5)] [] := by
    intro k_5 hk_5 x1 x2 x3 x4 x5 s hf H locs ls hP hD hS hl
    unfold bk_M_wordKind_97 at hf
    refine lv_iload_n hx hb dn_M_wordKind_97 rfl (lv_at hl 3 rfl) ?_
    refine lv_iload hx hb dn_M_wordKind_98 (lv_at hl 5 rfl) ?_
    refine lv_iadd hx hb dn_M_wordKind_100 ?_
    refine lv_iconst (v := 1) hx hb dn_M_wordKind_101 (by decide) ?_
    refine lv_iadd hx hb dn_M_wordKind_102 ?_
    refine lv_istore_n (lv' := [(3, .int (((x3 + x5) + 1))), (0, .ref h0), (1, .int x1), (2, .int x2), (4, .int x4), (5, .int x5)]) hx hb dn_M_wordKind_103 rfl hl (by decide) rfl (fun ls hl => ?_)
    refine lv_iinc (v := (x4 + 1)) (lv' := [(4, .int ((x4 + 1))), (3, .int (((x3 + x5) + 1))), (0, .ref h0), (1, .int x1), (2, .int x2), (5, .int x5)]) hx hb dn_M_wordKind_104 hl (k := 4) rfl (dc_inc (by decide)) (by decide) rfl (fun ls hl => ?_)
    refine lv_goto (tgt := 5) hx hb dn_M_wordKind_107 (by decide) ?_
    exact hk_5 x1 x2 (((x3 + x5) + 1)) ((x4 + 1)) s hf H locs ls hP hD hS (lv_sub hl [2, 3, 4, 1, 0] rfl)
  have hd_19 : ∀ (k_5 : Int32 → Int32 → Int32 → Int32 → ms → Option (Int32 × ms)) (hk_5 : ∀ (x1 : Int32) (x2 : Int32) (x3 : Int32) (x4 : Int32) (s : ms), k_5 x1 x2 x3 x4 s = some y → dcC p l e ({ frames := 1, cells := 0, slots := 0, locals := 21 }) s0 m [.ref h0, .int v1, .int v2].toArray below meth c QQ (dC, dI) A (wM h0 a cI cB cJ cZ s) 5 7 [(0, .ref h0), (1, .int x1), (2, .int x2), (3, .int x3), (4, .int x4)] []) (n : Nat) (x1 : Int32) (x2 : Int32) (x3 : Int32) (x4 : Int32) (x5 : Int32) (x6 : Int32) (s : ms), hd_M_wordKind_19 N k_5 n x1 x2 x3 x4 x5 x6 s = some y → dcC p l e ({ frames := 1, cells := 0, slots := 0, locals := 21 }) s0 m [.ref h0, .int v1, .int v2].toArray below meth c QQ (dC, dI) A (wM h0 a cI cB cJ cZ s) 19 7 [(0, .ref h0), (1, .int x1), (2, .int x2), (3, .int x3), (4, .int x4), (5, .int x5), (6, .int x6)] [] := by
    intro k_5 hk_5 n
    induction n with
    | zero => intro x1 x2 x3 x4 x5 x6 s hf; cases hf
    | succ n ih =>
      intro x1 x2 x3 x4 x5 x6 s hf H locs ls hP hD hS hl
      have hf : bd_M_wordKind_19 N k_5 (hd_M_wordKind_19 N k_5 n) x1 x2 x3 x4 x5 x6 s = some y := hf
      have hk_19 := ih
      generalize hd_M_wordKind_19 N k_5 n = k_19 at hf hk_19
      unfold bd_M_wordKind_19 at hf
      refine va_gets hx hb hZ hS hown (hg _ wn_9_149) (fun _ h9 => h9) dn_M_wordKind_19 ?_
      refine lv_iload_n hx hb dn_M_wordKind_22 rfl (lv_at hl 3 rfl) ?_
      refine lv_iload hx hb dn_M_wordKind_23 (lv_at hl 5 rfl) ?_
      refine lv_iadd hx hb dn_M_wordKind_25 ?_
      obtain ⟨hg_1, hf⟩ := dc_g hf
      refine va_tb hx hb hTT hS hg_1 rfl dn_M_wordKind_26 ?_
      refine W.eq (g2 := F0 m 27 _ (.int ((dc_wd (Int32.toNatClampNeg ((x3 + x5))))) :: [])) rfl ?_
      refine lv_bipush (v := 32) hx hb dn_M_wordKind_27 (by decide) ?_
      refine lv_icmp_eq (tgt := 77) hx hb dn_M_wordKind_29 (by decide) (fun h => ?_) (fun h => ?_)
      · have hf := (if_pos h).symm.trans hf
        refine lv_iload hx hb dn_M_wordKind_77 (lv_at hl 6 rfl) ?_
        refine lv_if_eq (tgt := 97) hx hb dn_M_wordKind_79 (by decide) (fun h => ?_) (fun h => ?_)
        · have hf := (if_pos h).symm.trans hf
          exact bl_97 k_5 hk_5 x1 x2 x3 x4 x5 s hf H locs ls hP hD hS (lv_sub hl [0, 1, 2, 3, 4, 5] rfl)
        · have hf := (if_neg h).symm.trans hf
          refine lv_iload hx hb dn_M_wordKind_82 (lv_at hl 5 rfl) ?_
          refine lv_iload_n hx hb dn_M_wordKind_84 rfl (lv_at hl 2 rfl) ?_
          refine lv_iload_n hx hb dn_M_wordKind_85 rfl (lv_at hl 1 rfl) ?_
          refine lv_isub hx hb dn_M_wordKind_86 ?_
          refine lv_icmp_ne (tgt := 97) hx hb dn_M_wordKind_87 (by decide) (fun h => ?_) (fun h => ?_)
          · have hf := (if_neg h).symm.trans hf
            exact bl_97 k_5 hk_5 x1 x2 x3 x4 x5 s hf H locs ls hP hD hS (lv_sub hl [0, 1, 2, 3, 4, 5] rfl)
          · have hf := (if_pos h).symm.trans hf
            refine lv_sipush (v := 300) hx hb dn_M_wordKind_90 (by decide) ?_
            refine lv_iload hx hb dn_M_wordKind_93 (lv_at hl 4 rfl) ?_
            refine lv_iadd hx hb dn_M_wordKind_95 ?_
            rw [hQQ, ← Option.some.inj hf]
            exact xk_iret (w1 := fun u : Unit => (wM h0 a cI cB cJ cZ s)) () hx hb hr hlocks hK hS dn_M_wordKind_96 hP hD rfl (Nat.le_refl _) (Nat.le_refl _)
      · have hf := (if_neg h).symm.trans hf
        refine lv_iload hx hb dn_M_wordKind_32 (lv_at hl 6 rfl) ?_
        refine lv_if_eq (tgt := 68) hx hb dn_M_wordKind_34 (by decide) (fun h => ?_) (fun h => ?_)
        · have hf := (if_pos h).symm.trans hf
          refine lv_iconst (v := 0) hx hb dn_M_wordKind_68 (by decide) ?_
          refine lv_istore (lv' := [(6, .int 0), (0, .ref h0), (1, .int x1), (2, .int x2), (3, .int x3), (4, .int x4), (5, .int x5)]) hx hb dn_M_wordKind_69 hl (by decide) rfl (fun ls hl => ?_)
          refine lv_iinc (v := (x5 + 1)) (lv' := [(5, .int ((x5 + 1))), (6, .int 0), (0, .ref h0), (1, .int x1), (2, .int x2), (3, .int x3), (4, .int x4)]) hx hb dn_M_wordKind_71 hl (k := 6) rfl (dc_inc (by decide)) (by decide) rfl (fun ls hl => ?_)
          refine lv_goto (tgt := 19) hx hb dn_M_wordKind_74 (by decide) ?_
          exact hk_19 x1 x2 x3 x4 ((x5 + 1)) 0 s hf H locs ls hP hD hS (lv_sub hl [2, 3, 4, 5, 6, 0, 1] rfl)
        · have hf := (if_neg h).symm.trans hf
          refine lv_iload_n hx hb dn_M_wordKind_37 rfl (lv_at hl 1 rfl) ?_
          refine lv_iload hx hb dn_M_wordKind_38 (lv_at hl 5 rfl) ?_
          refine lv_iadd hx hb dn_M_wordKind_40 ?_
          refine lv_iload_n hx hb dn_M_wordKind_41 rfl (lv_at hl 2 rfl) ?_
          refine lv_icmp_ge (tgt := 68) hx hb dn_M_wordKind_42 (by decide) (fun h => ?_) (fun h => ?_)
          · have hf := (if_pos h).symm.trans hf
            refine lv_iconst (v := 0) hx hb dn_M_wordKind_68 (by decide) ?_
            refine lv_istore (lv' := [(6, .int 0), (0, .ref h0), (1, .int x1), (2, .int x2), (3, .int x3), (4, .int x4), (5, .int x5)]) hx hb dn_M_wordKind_69 hl (by decide) rfl (fun ls hl => ?_)
            refine lv_iinc (v := (x5 + 1)) (lv' := [(5, .int ((x5 + 1))), (6, .int 0), (0, .ref h0), (1, .int x1), (2, .int x2), (3, .int x3), (4, .int x4)]) hx hb dn_M_wordKind_71 hl (k := 6) rfl (dc_inc (by decide)) (by decide) rfl (fun ls hl => ?_)
            refine lv_goto (tgt := 19) hx hb dn_M_wordKind_74 (by decide) ?_
            exact hk_19 x1 x2 x3 x4 ((x5 + 1)) 0 s hf H locs ls hP hD hS (lv_sub hl [2, 3, 4, 5, 6, 0, 1] rfl)
          · have hf := (if_neg h).symm.trans hf
            refine lv_aload_n hx hb dn_M_wordKind_45 rfl (lv_at hl 0 rfl) ?_
            refine lv_iload_n hx hb dn_M_wordKind_46 rfl (lv_at hl 1 rfl) ?_
            refine lv_iload hx hb dn_M_wordKind_47 (lv_at hl 5 rfl) ?_
            refine lv_iadd hx hb dn_M_wordKind_49 ?_
            obtain ⟨q_2, hc_3, hf⟩ := dc_b hf
            refine dc_calli (dc_runV (ar := 1) (As := [.int ((x1 + x5))]) (rest := []) (ci := 0) (q0 := 0) ⟨hx, hb, hml, hown, hg⟩ hK hN hT hS hA (ct_M_at l dC dI cI cB cJ cZ cQ N H.size h0 a ((x1 + x5)) s q_2 hc_3) hP hD rfl rfl wn_9_128 wn_9_130 sn_M_at wn_1_13 wn_9_131 rfl rfl (by decide +kernel) ⟨Nat.le_of_ble_eq_true rfl, Nat.le_of_ble_eq_true rfl⟩ rfl hl.1 rfl (Nat.le_of_ble_eq_true rfl) dn_M_wordKind_50 ⟨Nat.le_of_ble_eq_true rfl, Nat.le_of_ble_eq_true rfl⟩) hP hD hS hA (fun r_4 _ H locs hw hP hD hS => ?_)
            have hw : r_4 = q_2.1 := hw
            subst hw
            refine va_gets hx hb hZ hS hown (hg _ wn_9_149) (fun _ h9 => h9) dn_M_wordKind_53 ?_
            refine lv_iload_n hx hb dn_M_wordKind_56 rfl (lv_at hl 3 rfl) ?_
            refine lv_iload hx hb dn_M_wordKind_57 (lv_at hl 5 rfl) ?_
            refine lv_iadd hx hb dn_M_wordKind_59 ?_
            obtain ⟨hg_5, hf⟩ := dc_g hf
            refine va_tb hx hb hTT hS hg_5 rfl dn_M_wordKind_60 ?_
            refine W.eq (g2 := F0 m 61 _ (.int ((dc_wd (Int32.toNatClampNeg ((x3 + x5))))) :: [.int q_2.1])) rfl ?_
            refine lv_icmp_ne (tgt := 68) hx hb dn_M_wordKind_61 (by decide) (fun h => ?_) (fun h => ?_)
            · have hf := (if_neg h).symm.trans hf
              refine lv_iconst (v := 0) hx hb dn_M_wordKind_68 (by decide) ?_
              refine lv_istore (lv' := [(6, .int 0), (0, .ref h0), (1, .int x1), (2, .int x2), (3, .int x3), (4, .int x4), (5, .int x5)]) hx hb dn_M_wordKind_69 hl (by decide) rfl (fun ls hl => ?_)
              refine lv_iinc (v := (x5 + 1)) (lv' := [(5, .int ((x5 + 1))), (6, .int 0), (0, .ref h0), (1, .int x1), (2, .int x2), (3, .int x3), (4, .int x4)]) hx hb dn_M_wordKind_71 hl (k := 6) rfl (dc_inc (by decide)) (by decide) rfl (fun ls hl => ?_)
              refine lv_goto (tgt := 19) hx hb dn_M_wordKind_74 (by decide) ?_
              exact hk_19 x1 x2 x3 x4 ((x5 + 1)) 0 q_2.2 hf H locs ls hP hD hS (lv_sub hl [2, 3, 4, 5, 6, 0, 1] rfl)
            · have hf := (if_pos h).symm.trans hf
              refine lv_iconst (v := 1) hx hb dn_M_wordKind_64 (by decide) ?_
              refine lv_goto (tgt := 69) hx hb dn_M_wordKind_65 (by decide) ?_
              refine lv_istore (lv' := [(6, .int 1), (0, .ref h0), (1, .int x1), (2, .int x2), (3, .int x3), (4, .int x4), (5, .int x5)]) hx hb dn_M_wordKind_69 hl (by decide) rfl (fun ls hl => ?_)
              refine lv_iinc (v := (x5 + 1)) (lv' := [(5, .int ((x5 + 1))), (6, .int 1), (0, .ref h0), (1, .int x1), (2, .int x2), (3, .int x3), (4, .int x4)]) hx hb dn_M_wordKind_71 hl (k := 6) rfl (dc_inc (by decide)) (by decide) rfl (fun ls hl => ?_)
              refine lv_goto (tgt := 19) hx hb dn_M_wordKind_74 (by decide) ?_
              exact hk_19 x1 x2 x3 x4 ((x5 + 1)) 1 q_2.2 hf H locs ls hP hD hS (lv_sub hl [2, 3, 4, 5, 6, 0, 1] rfl)
  have hd_5 : ∀ (n : Nat) (x1 : Int32) (x2 : Int32) (x3 : Int32) (x4 : Int32) (s : ms), hd_M_wordKind_5 N n x1 x2 x3 x4 s = some y → dcC p l e ({ frames := 1, cells := 0, slots := 0, locals := 21 }) s0 m [.ref h0, .int v1, .int v2].toArray below meth c QQ (dC, dI) A (wM h0 a cI cB cJ cZ s) 5 7 [(0, .ref h0), (1, .int x1), (2, .int x2), (3, .int x3), (4, .int x4)] [] := by
    intro n
    induction n with
    | zero => intro x1 x2 x3 x4 s hf; cases hf
    | succ n ih =>
      intro x1 x2 x3 x4 s hf H locs ls hP hD hS hl
      have hf : bd_M_wordKind_5 N (hd_M_wordKind_5 N n) x1 x2 x3 x4 s = some y := hf
      have hk_5 := ih
      generalize hd_M_wordKind_5 N n = k_5 at hf hk_5
      unfold bd_M_wordKind_5 at hf
      refine lv_iload_n hx hb dn_M_wordKind_5 rfl (lv_at hl 3 rfl) ?_
      refine va_gets hx hb hZ hS hown (hg _ wn_9_149) (fun _ h9 => h9) dn_M_wordKind_6 ?_
      refine va_tlen (v := 113) hx hb hTT hS rfl dn_M_wordKind_9 ?_
      refine lv_icmp_ge (tgt := 110) hx hb dn_M_wordKind_10 (by decide) (fun h => ?_) (fun h => ?_)
      · have hf := (if_pos h).symm.trans hf
        refine lv_sipush (v := 400) hx hb dn_M_wordKind_110 (by decide) ?_
        rw [hQQ, ← Option.some.inj hf]
        exact xk_iret (w1 := fun u : Unit => (wM h0 a cI cB cJ cZ s)) () hx hb hr hlocks hK hS dn_M_wordKind_113 hP hD rfl (Nat.le_refl _) (Nat.le_refl _)
      · have hf := (if_neg h).symm.trans hf
        refine lv_iconst (v := 0) hx hb dn_M_wordKind_13 (by decide) ?_
        refine lv_istore (lv' := [(5, .int 0), (0, .ref h0), (1, .int x1), (2, .int x2), (3, .int x3), (4, .int x4)]) hx hb dn_M_wordKind_14 hl (by decide) rfl (fun ls hl => ?_)
        refine lv_iconst (v := 1) hx hb dn_M_wordKind_16 (by decide) ?_
        refine lv_istore (lv' := [(6, .int 1), (5, .int 0), (0, .ref h0), (1, .int x1), (2, .int x2), (3, .int x3), (4, .int x4)]) hx hb dn_M_wordKind_17 hl (by decide) rfl (fun ls hl => ?_)
        exact hd_19 k_5 hk_5 N x1 x2 x3 x4 0 1 s hf H locs ls hP hD hS (lv_sub hl [2, 3, 4, 5, 6, 1, 0] rfl)
  intro H locs ls hP hD hS hl
  unfold fn_M_wordKind at hf
  refine lv_iconst (v := 0) hx hb dn_M_wordKind_0 (by decide) ?_
  refine lv_istore_n (lv' := [(3, .int 0), (0, .ref h0), (1, .int v1), (2, .int v2)]) hx hb dn_M_wordKind_1 rfl hl (by decide) rfl (fun ls hl => ?_)
  refine lv_iconst (v := 0) hx hb dn_M_wordKind_2 (by decide) ?_
  refine lv_istore (lv' := [(4, .int 0), (3, .int 0), (0, .ref h0), (1, .int v1), (2, .int v2)]) hx hb dn_M_wordKind_3 hl (by decide) rfl (fun ls hl => ?_)
  exact hd_5 N v1 v2 0 0 s hf H locs ls hP hD hS (lv_sub hl [2, 3, 4, 1, 0] rfl)
theorem mo_M_cutTokens_193 (N : Nat) (k_7 : Int32 → ms → Option (Unit × ms)) (y : (Unit × ms)) (hkm_7 : ∀ (x1 : Int32) (s : ms), k_7 x1 s = some y → gl y.2 = gl s) (x1 : Int32) (s : ms) (hf : bk_M_cutTokens_193 N k_7 x1 s = some y) : gl y.2 = gl s := by
  unfold bk_M_cutTokens_193 at hf
  have hm : gl s = gl s := rfl
  obtain ⟨_, hf⟩ := dc_g hf
  by_cases h : ((s.1 4) (Int32.toNatClampNeg (((s.1 7 0) - 1)))) = 404
  · have hf := (if_pos h).symm.trans hf
    exact (dc_e hf).trans hm
  · have hf := (if_neg h).symm.trans hf
    exact (hkm_7 x1 s hf).trans hm
theorem mo_M_cutTokens_188 (N : Nat) (k_7 : Int32 → ms → Option (Unit × ms)) (y : (Unit × ms)) (hkm_7 : ∀ (x1 : Int32) (s : ms), k_7 x1 s = some y → gl y.2 = gl s) (x1 : Int32) (x2 : Int32) (t0 : Int32) (s : ms) (hf : bk_M_cutTokens_188 N k_7 x1 x2 t0 s = some y) : gl y.2 = gl s := by
  unfold bk_M_cutTokens_188 at hf
  have hm : gl s = gl s := rfl
  obtain ⟨q_1, hc_2, hf⟩ := dc_b hf
  have hm := (mn_M_token N t0 x2 x1 s q_1 hc_2).trans hm
  exact (mo_M_cutTokens_193 N k_7 y hkm_7 x1 q_1.2 hf).trans hm
theorem mb_M_cutTokens_71 (N : Nat) (k_7 : Int32 → ms → Option (Unit × ms)) (y : (Unit × ms)) (hkm_7 : ∀ (x1 : Int32) (s : ms), k_7 x1 s = some y → gl y.2 = gl s) (k_71 : Int32 → Int32 → ms → Option (Unit × ms)) (hkm_71 : ∀ (x1 : Int32) (x2 : Int32) (s : ms), k_71 x1 x2 s = some y → gl y.2 = gl s) (x1 : Int32) (x2 : Int32) (s : ms) (hf : bd_M_cutTokens_71 N k_7 k_71 x1 x2 s = some y) : gl y.2 = gl s := by
  unfold bd_M_cutTokens_71 at hf
  have hm : gl s = gl s := rfl
  obtain ⟨q_1, hc_2, hf⟩ := dc_b hf
  have hm := (mn_M_at N x1 s q_1 hc_2).trans hm
  obtain ⟨q_4, hc_5, hf⟩ := dc_b hf
  have hm := (mn_M_isIn N q_1.1 q_1.2 q_4 hc_5).trans hm
  by_cases h : q_4.1 = 0
  · have hf := (if_pos h).symm.trans hf
    obtain ⟨q_7, hc_8, hf⟩ := dc_b hf
    have hm := (mn_M_wordKind N x2 x1 q_4.2 q_7 hc_8).trans hm
    obtain ⟨q_10, hc_11, hf⟩ := dc_b hf
    have hm := (mn_M_token N q_7.1 x2 x1 q_7.2 q_10 hc_11).trans hm
    exact (mo_M_cutTokens_193 N k_7 y hkm_7 x1 q_10.2 hf).trans hm
  · have hf := (if_neg h).symm.trans hf
    exact (hkm_71 ((x1 + 1)) x2 q_4.2 hf).trans hm
theorem mh_M_cutTokens_71 (N : Nat) (k_7 : Int32 → ms → Option (Unit × ms)) (y : (Unit × ms)) (hkm_7 : ∀ (x1 : Int32) (s : ms), k_7 x1 s = some y → gl y.2 = gl s) : ∀ (n : Nat) (x1 : Int32) (x2 : Int32) (s : ms), hd_M_cutTokens_71 N k_7 n x1 x2 s = some y → gl y.2 = gl s := by
  intro n
  induction n with
  | zero => intro x1 x2 s hf; cases hf
  | succ n ih => intro x1 x2 s hf; exact mb_M_cutTokens_71 N k_7 y hkm_7 (hd_M_cutTokens_71 N k_7 n) ih x1 x2 s hf
theorem mb_M_cutTokens_7 (N : Nat) (y : (Unit × ms)) (k_7 : Int32 → ms → Option (Unit × ms)) (hkm_7 : ∀ (x1 : Int32) (s : ms), k_7 x1 s = some y → gl y.2 = gl s) (x1 : Int32) (s : ms) (hf : bd_M_cutTokens_7 N k_7 x1 s = some y) : gl y.2 = gl s := by
  unfold bd_M_cutTokens_7 at hf
  have hm : gl s = gl s := rfl
  obtain ⟨q_1, hc_2, hf⟩ := dc_b hf
  have hm := (mn_M_skip N x1 s q_1 hc_2).trans hm
  by_cases h : 0 ≤ q_1.1
  · have hf := (if_pos h).symm.trans hf
    by_cases h : q_1.1 < (q_1.2.1 2 0)
    · have hf := (if_pos h).symm.trans hf
      obtain ⟨q_4, hc_5, hf⟩ := dc_b hf
      have hm := (mn_M_at N q_1.1 q_1.2 q_4 hc_5).trans hm
      obtain ⟨q_7, hc_8, hf⟩ := dc_b hf
      have hm := (mn_M_isLetter N q_4.1 q_4.2 q_7 hc_8).trans hm
      by_cases h : q_7.1 = 0
      · have hf := (if_pos h).symm.trans hf
        obtain ⟨q_10, hc_11, hf⟩ := dc_b hf
        have hm := (mn_M_isDigit N q_4.1 q_7.2 q_10 hc_11).trans hm
        by_cases h : q_10.1 = 0
        · have hf := (if_pos h).symm.trans hf
          obtain ⟨q_13, hc_14, hf⟩ := dc_b hf
          have hm := (mn_M_at N ((q_1.1 + 1)) q_10.2 q_13 hc_14).trans hm
          obtain ⟨q_16, hc_17, hf⟩ := dc_b hf
          have hm := (mn_M_pair N q_4.1 q_13.1 q_13.2 q_16 hc_17).trans hm
          by_cases h : q_16.1 ≤ 0
          · have hf := (if_pos h).symm.trans hf
            obtain ⟨q_19, hc_20, hf⟩ := dc_b hf
            have hm := (mn_M_isSign N q_4.1 q_16.2 q_19 hc_20).trans hm
            by_cases h : q_19.1 = 0
            · have hf := (if_pos h).symm.trans hf
              exact (mo_M_cutTokens_188 N k_7 y hkm_7 ((q_1.1 + 1)) q_1.1 404 q_19.2 hf).trans hm
            · have hf := (if_neg h).symm.trans hf
              exact (mo_M_cutTokens_188 N k_7 y hkm_7 ((q_1.1 + 1)) q_1.1 q_4.1 q_19.2 hf).trans hm
          · have hf := (if_neg h).symm.trans hf
            obtain ⟨q_19, hc_20, hf⟩ := dc_b hf
            have hm := (mn_M_at N ((q_1.1 + 1)) q_16.2 q_19 hc_20).trans hm
            obtain ⟨q_22, hc_23, hf⟩ := dc_b hf
            have hm := (mn_M_pair N q_4.1 q_19.1 q_19.2 q_22 hc_23).trans hm
            obtain ⟨q_25, hc_26, hf⟩ := dc_b hf
            have hm := (mn_M_token N q_22.1 q_1.1 ((q_1.1 + 2)) q_22.2 q_25 hc_26).trans hm
            exact (mo_M_cutTokens_193 N k_7 y hkm_7 ((q_1.1 + 2)) q_25.2 hf).trans hm
        · have hf := (if_neg h).symm.trans hf
          obtain ⟨q_13, hc_14, hf⟩ := dc_b hf
          have hm := (mn_M_numberEnd N q_1.1 q_10.2 q_13 hc_14).trans hm
          obtain ⟨q_16, hc_17, hf⟩ := dc_b hf
          have hm := (mn_M_numberKind N q_1.1 q_13.1 q_13.2 q_16 hc_17).trans hm
          obtain ⟨q_19, hc_20, hf⟩ := dc_b hf
          have hm := (mn_M_token N q_16.1 q_1.1 q_13.1 q_16.2 q_19 hc_20).trans hm
          exact (mo_M_cutTokens_193 N k_7 y hkm_7 q_13.1 q_19.2 hf).trans hm
      · have hf := (if_neg h).symm.trans hf
        exact (mh_M_cutTokens_71 N k_7 y hkm_7 N q_1.1 q_1.1 q_7.2 hf).trans hm
    · have hf := (if_neg h).symm.trans hf
      obtain ⟨q_4, hc_5, hf⟩ := dc_b hf
      have hm := (mn_M_token N 403 ((q_1.2.1 2 0)) ((q_1.2.1 2 0)) q_1.2 q_4 hc_5).trans hm
      exact (dc_e hf).trans hm
  · have hf := (if_neg h).symm.trans hf
    obtain ⟨q_4, hc_5, hf⟩ := dc_b hf
    have hm := (mn_M_token N 404 (((-1) - q_1.1)) ((q_1.2.1 2 0)) q_1.2 q_4 hc_5).trans hm
    exact (dc_e hf).trans hm
theorem mh_M_cutTokens_7 (N : Nat) (y : (Unit × ms)) : ∀ (n : Nat) (x1 : Int32) (s : ms), hd_M_cutTokens_7 N n x1 s = some y → gl y.2 = gl s := by
  intro n
  induction n with
  | zero => intro x1 s hf; cases hf
  | succ n ih => intro x1 s hf; exact mb_M_cutTokens_7 N y (hd_M_cutTokens_7 N n) ih x1 s hf
theorem mn_M_cutTokens (N : Nat) (s : ms) (y : (Unit × ms)) (hf : fn_M_cutTokens N s = some y) : gl y.2 = gl s := by
  unfold fn_M_cutTokens at hf
  have hm : gl s = gl s := rfl
  exact (mh_M_cutTokens_7 N y N 0 (upI s 7 (fun _ => 0)) hf).trans hm
set_option maxHeartbeats 8000000 in
set_option maxRecDepth 100000 in
theorem ct_M_cutTokens (l : Launch) (dC : Nat → ClassId) (dI : Nat → Nat → Nat) (cI cB cJ cZ cQ : ClassId) (N sz : Nat) (h0 : Nat) (a : Nat → Nat) (s : ms) (y : (Unit × ms)) (hf : fn_M_cutTokens N s = some y) : Met l yn_M_cutTokens (xw yn_M_cutTokens bn_M_cutTokens 4 none) ({ frames := 4, cells := 0, slots := 0, locals := 100 }) (dc_P (dC, dI) xcl (xt cI cB cJ cZ cQ) [.ref h0] sz (wM h0 a cI cB cJ cZ s)) (xk_Qv (dC, dI) xcl (xt cI cB cJ cZ cQ) (fun _ : Unit => True) (fun u : Unit => (wM h0 a cI cB cJ cZ y.2)) (va_A (wM h0 a cI cB cJ cZ s) sz)) 0 0 (va_A (wM h0 a cI cB cJ cZ s) sz) := by
  refine dc_of (QA := xk_Qv (dC, dI) xcl (xt cI cB cJ cZ cQ) (fun _ : Unit => True) (fun u : Unit => (wM h0 a cI cB cJ cZ y.2))) (by decide) (Nat.le_of_ble_eq_true rfl) ?_
  intro p e s0 m below meth c hx hb hml hown hg hr hlocks hin hP hK hN A hA hD hT ls hl
  have hown : s0.vm.findClass rn_M = some m.cls := hown
  obtain ⟨H, hH⟩ : ∃ z, z = s0.heap := ⟨_, rfl⟩
  rw [← hH] at hP
  have hS : va_S A s0.heap H [] := by rw [hH]; exact va_S.rf
  suffices kk : ∀ QQ : State → Prop, QQ = MQ below (xk_Qv (dC, dI) xcl (xt cI cB cJ cZ cQ) (fun _ : Unit => True) (fun u : Unit => (wM h0 a cI cB cJ cZ y.2)) A) [.ref h0].toArray s0 0 0 A → dcC p l e ({ frames := 4, cells := 0, slots := 0, locals := 100 }) s0 m [.ref h0].toArray below meth c QQ (dC, dI) A (wM h0 a cI cB cJ cZ s) 0 4 [(0, .ref h0)] [] by
    have k9 := kk _ rfl H [] ls hP hD hS hl
    rw [hH] at k9; exact k9
  clear hP hD hS hl hH H ls
  intro QQ hQQ
  have bl_193 : ∀ (k_7 : Int32 → ms → Option (Unit × ms)) (hk_7 : ∀ (x1 : Int32) (s : ms), k_7 x1 s = some y → dcC p l e ({ frames := 4, cells := 0, slots := 0, locals := 100 }) s0 m [.ref h0].toArray below meth c QQ (dC, dI) A (wM h0 a cI cB cJ cZ s) 7 4 [(0, .ref h0), (1, .int x1)] []) (x1 : Int32) (s : ms), bk_M_cutTokens_193 N k_7 x1 s = some y → dcC p l e ({ frames := 4, cells := 0, slots := 0, locals := 100 }) s0 m [.ref h0].toArray below meth c QQ (dC, dI) A (wM h0 a cI cB cJ cZ s) 193 4 [(0, .ref h0), (1, .int x1)] [] := by
    intro k_7 hk_7 x1 s hf H locs ls hP hD hS hl
    unfold bk_M_cutTokens_193 at hf
    refine lv_aload_n hx hb dn_M_cutTokens_193 rfl (lv_at hl 0 rfl) ?_
    refine va_get (D := (dC, dI)) (ci := 0) (v := .ref ((a 4))) (C := rn_M) (T := fn_M) (N := 91) hx hb hg in_M hown hK hP 0 rfl rfl 4 (by decide) (hg _ wn_8_77) (fun _ h9 => h9) rfl dn_M_cutTokens_194 ?_
    refine lv_aload_n hx hb dn_M_cutTokens_197 rfl (lv_at hl 0 rfl) ?_
    refine va_get (D := (dC, dI)) (ci := 0) (v := .int ((s.1 7 0))) (C := rn_M) (T := fn_M) (N := 91) hx hb hg in_M hown hK hP 0 rfl rfl 7 (by decide) (hg _ wn_8_80) (fun _ h9 => h9) rfl dn_M_cutTokens_198 ?_
    refine lv_iconst (v := 1) hx hb dn_M_cutTokens_201 (by decide) ?_
    refine lv_isub hx hb dn_M_cutTokens_202 ?_
    obtain ⟨hg_1, hf⟩ := dc_g hf
    refine va_iald hx hb hK hP 2 0 rfl rfl hg_1 dn_M_cutTokens_203 ?_
    refine xk_ti (y := ((s.1 4) (Int32.toNatClampNeg (((s.1 7 0) - 1))))) rfl ?_
    refine lv_sipush (v := 404) hx hb dn_M_cutTokens_204 (by decide) ?_
    refine lv_icmp_ne (tgt := 211) hx hb dn_M_cutTokens_207 (by decide) (fun h => ?_) (fun h => ?_)
    · have hf := (if_neg h).symm.trans hf
      refine lv_goto (tgt := 7) hx hb dn_M_cutTokens_211 (by decide) ?_
      exact hk_7 x1 s hf H locs ls hP hD hS hl
    · have hf := (if_pos h).symm.trans hf
      rw [hQQ, ← Option.some.inj hf]
      exact xk_vret (w1 := fun u : Unit => (wM h0 a cI cB cJ cZ s)) () hx hb hr hlocks hK hS dn_M_cutTokens_210 hP hD trivial (Nat.le_refl _) (Nat.le_refl _)
  have bl_188 : ∀ (k_7 : Int32 → ms → Option (Unit × ms)) (hk_7 : ∀ (x1 : Int32) (s : ms), k_7 x1 s = some y → dcC p l e ({ frames := 4, cells := 0, slots := 0, locals := 100 }) s0 m [.ref h0].toArray below meth c QQ (dC, dI) A (wM h0 a cI cB cJ cZ s) 7 4 [(0, .ref h0), (1, .int x1)] []) (x1 : Int32) (x2 : Int32) (t0 : Int32) (s : ms), bk_M_cutTokens_188 N k_7 x1 x2 t0 s = some y → dcC p l e ({ frames := 4, cells := 0, slots := 0, locals := 100 }) s0 m [.ref h0].toArray below meth c QQ (dC, dI) A (wM h0 a cI cB cJ cZ s) 188 4 [(0, .ref h0), (1, .int x1), (2, .int x2)] [.int t0, .ref h0] := by
    intro k_7 hk_7 x1 x2 t0 s hf H locs ls hP hD hS hl
    unfold bk_M_cutTokens_188 at hf
    refine lv_iload_n hx hb dn_M_cutTokens_188 rfl (lv_at hl 2 rfl) ?_
    refine lv_iload_n hx hb dn_M_cutTokens_189 rfl (lv_at hl 1 rfl) ?_
    obtain ⟨q_1, hc_2, hf⟩ := dc_b hf
    refine dc_callv (dc_runV (ar := 3) (As := [.int t0, .int x2, .int x1]) (rest := []) (ci := 0) (q0 := 0) ⟨hx, hb, hml, hown, hg⟩ hK hN hT hS hA (ct_M_token l dC dI cI cB cJ cZ cQ N H.size h0 a t0 x2 x1 s q_1 hc_2) hP hD rfl rfl wn_9_132 wn_9_134 sn_M_token wn_1_13 wn_9_135 rfl rfl (by decide +kernel) ⟨Nat.le_of_ble_eq_true rfl, Nat.le_of_ble_eq_true rfl⟩ rfl hl.1 rfl (Nat.le_of_ble_eq_true rfl) dn_M_cutTokens_190 ⟨Nat.le_of_ble_eq_true rfl, Nat.le_of_ble_eq_true rfl⟩) hP hD hS hA (fun _ H locs hw hP hD hS => ?_)
    exact bl_193 k_7 hk_7 x1 q_1.2 hf H locs ls hP hD hS (lv_sub hl [0, 1] rfl)
  have hd_71 : ∀ (k_7 : Int32 → ms → Option (Unit × ms)) (hk_7 : ∀ (x1 : Int32) (s : ms), k_7 x1 s = some y → dcC p l e ({ frames := 4, cells := 0, slots := 0, locals := 100 }) s0 m [.ref h0].toArray below meth c QQ (dC, dI) A (wM h0 a cI cB cJ cZ s) 7 4 [(0, .ref h0), (1, .int x1)] []) (n : Nat) (x1 : Int32) (x2 : Int32) (s : ms), hd_M_cutTokens_71 N k_7 n x1 x2 s = some y → dcC p l e ({ frames := 4, cells := 0, slots := 0, locals := 100 }) s0 m [.ref h0].toArray below meth c QQ (dC, dI) A (wM h0 a cI cB cJ cZ s) 71 4 [(0, .ref h0), (1, .int x1), (2, .int x2)] [] := by
    intro k_7 hk_7 n
    induction n with
    | zero => intro x1 x2 s hf; cases hf
    | succ n ih =>
      intro x1 x2 s hf H locs ls hP hD hS hl
      have hf : bd_M_cutTokens_71 N k_7 (hd_M_cutTokens_71 N k_7 n) x1 x2 s = some y := hf
      have hk_71 := ih
      generalize hd_M_cutTokens_71 N k_7 n = k_71 at hf hk_71
      unfold bd_M_cutTokens_71 at hf
      refine lv_aload_n hx hb dn_M_cutTokens_71 rfl (lv_at hl 0 rfl) ?_
      refine lv_iload_n hx hb dn_M_cutTokens_72 rfl (lv_at hl 1 rfl) ?_
      obtain ⟨q_1, hc_2, hf⟩ := dc_b hf
      refine dc_calli (dc_runV (ar := 1) (As := [.int x1]) (rest := []) (ci := 0) (q0 := 0) ⟨hx, hb, hml, hown, hg⟩ hK hN hT hS hA (ct_M_at l dC dI cI cB cJ cZ cQ N H.size h0 a x1 s q_1 hc_2) hP hD rfl rfl wn_9_128 wn_9_130 sn_M_at wn_1_13 wn_9_131 rfl rfl (by decide +kernel) ⟨Nat.le_of_ble_eq_true rfl, Nat.le_of_ble_eq_true rfl⟩ rfl hl.1 rfl (Nat.le_of_ble_eq_true rfl) dn_M_cutTokens_73 ⟨Nat.le_of_ble_eq_true rfl, Nat.le_of_ble_eq_true rfl⟩) hP hD hS hA (fun r_3 _ H locs hw hP hD hS => ?_)
      have hw : r_3 = q_1.1 := hw
      subst hw
      obtain ⟨q_4, hc_5, hf⟩ := dc_b hf
      refine dc_calli (dc_runS (ar := 1) (As := [.int q_1.1]) (rest := []) ⟨hx, hb, hml, hown, hg⟩ hK hN hT hS hA (ct_M_isIn l dC dI cI cB cJ cZ cQ N H.size h0 a q_1.1 q_1.2 q_4 hc_5) hP hD wn_9_139 wn_9_140 wn_1_13 wn_9_141 rfl rfl (by decide +kernel) ⟨Nat.le_of_ble_eq_true rfl, Nat.le_of_ble_eq_true rfl⟩ rfl hl.1 rfl (Nat.le_of_ble_eq_true rfl) dn_M_cutTokens_76 ⟨Nat.le_of_ble_eq_true rfl, Nat.le_of_ble_eq_true rfl⟩) hP hD hS hA (fun r_6 _ H locs hw hP hD hS => ?_)
      have hw : r_6 = q_4.1 := hw
      subst hw
      refine lv_if_eq (tgt := 88) hx hb dn_M_cutTokens_79 (by decide) (fun h => ?_) (fun h => ?_)
      · have hf := (if_pos h).symm.trans hf
        refine lv_aload_n hx hb dn_M_cutTokens_88 rfl (lv_at hl 0 rfl) ?_
        refine lv_aload_n hx hb dn_M_cutTokens_89 rfl (lv_at hl 0 rfl) ?_
        refine lv_iload_n hx hb dn_M_cutTokens_90 rfl (lv_at hl 2 rfl) ?_
        refine lv_iload_n hx hb dn_M_cutTokens_91 rfl (lv_at hl 1 rfl) ?_
        obtain ⟨q_7, hc_8, hf⟩ := dc_b hf
        refine dc_calli (dc_runV (ar := 2) (As := [.int x2, .int x1]) (rest := [.ref h0]) (ci := 0) (q0 := 0) ⟨hx, hb, hml, hown, hg⟩ hK hN hT hS hA (ct_M_wordKind l dC dI cI cB cJ cZ cQ N H.size h0 a x2 x1 q_4.2 q_7 hc_8) hP hD rfl rfl wn_9_145 wn_9_147 sn_M_wordKind wn_1_13 wn_9_148 rfl rfl (by decide +kernel) ⟨Nat.le_of_ble_eq_true rfl, Nat.le_of_ble_eq_true rfl⟩ rfl hl.1 rfl (Nat.le_of_ble_eq_true rfl) dn_M_cutTokens_92 ⟨Nat.le_of_ble_eq_true rfl, Nat.le_of_ble_eq_true rfl⟩) hP hD hS hA (fun r_9 _ H locs hw hP hD hS => ?_)
        have hw : r_9 = q_7.1 := hw
        subst hw
        refine lv_iload_n hx hb dn_M_cutTokens_95 rfl (lv_at hl 2 rfl) ?_
        refine lv_iload_n hx hb dn_M_cutTokens_96 rfl (lv_at hl 1 rfl) ?_
        obtain ⟨q_10, hc_11, hf⟩ := dc_b hf
        refine dc_callv (dc_runV (ar := 3) (As := [.int q_7.1, .int x2, .int x1]) (rest := []) (ci := 0) (q0 := 0) ⟨hx, hb, hml, hown, hg⟩ hK hN hT hS hA (ct_M_token l dC dI cI cB cJ cZ cQ N H.size h0 a q_7.1 x2 x1 q_7.2 q_10 hc_11) hP hD rfl rfl wn_9_132 wn_9_134 sn_M_token wn_1_13 wn_9_135 rfl rfl (by decide +kernel) ⟨Nat.le_of_ble_eq_true rfl, Nat.le_of_ble_eq_true rfl⟩ rfl hl.1 rfl (Nat.le_of_ble_eq_true rfl) dn_M_cutTokens_97 ⟨Nat.le_of_ble_eq_true rfl, Nat.le_of_ble_eq_true rfl⟩) hP hD hS hA (fun _ H locs hw hP hD hS => ?_)
        refine lv_goto (tgt := 193) hx hb dn_M_cutTokens_100 (by decide) ?_
        exact bl_193 k_7 hk_7 x1 q_10.2 hf H locs ls hP hD hS (lv_sub hl [0, 1] rfl)
      · have hf := (if_neg h).symm.trans hf
        refine lv_iinc (v := (x1 + 1)) (lv' := [(1, .int ((x1 + 1))), (0, .ref h0), (2, .int x2)]) hx hb dn_M_cutTokens_82 hl (k := 1) rfl (dc_inc (by decide)) (by decide) rfl (fun ls hl => ?_)
        refine lv_goto (tgt := 71) hx hb dn_M_cutTokens_85 (by decide) ?_
        exact hk_71 ((x1 + 1)) x2 q_4.2 hf H locs ls hP hD hS (lv_sub hl [1, 0, 2] rfl)
  have hd_7 : ∀ (n : Nat) (x1 : Int32) (s : ms), hd_M_cutTokens_7 N n x1 s = some y → dcC p l e ({ frames := 4, cells := 0, slots := 0, locals := 100 }) s0 m [.ref h0].toArray below meth c QQ (dC, dI) A (wM h0 a cI cB cJ cZ s) 7 4 [(0, .ref h0), (1, .int x1)] [] := by
    intro n
    induction n with
    | zero => intro x1 s hf; cases hf
    | succ n ih =>
      intro x1 s hf H locs ls hP hD hS hl
      have hf : bd_M_cutTokens_7 N (hd_M_cutTokens_7 N n) x1 s = some y := hf
      have hk_7 := ih
      generalize hd_M_cutTokens_7 N n = k_7 at hf hk_7
      unfold bd_M_cutTokens_7 at hf
      refine lv_aload_n hx hb dn_M_cutTokens_7 rfl (lv_at hl 0 rfl) ?_
      refine lv_iload_n hx hb dn_M_cutTokens_8 rfl (lv_at hl 1 rfl) ?_
      obtain ⟨q_1, hc_2, hf⟩ := dc_b hf
      refine dc_calli (dc_runV (ar := 1) (As := [.int x1]) (rest := []) (ci := 0) (q0 := 0) ⟨hx, hb, hml, hown, hg⟩ hK hN hT hS hA (ct_M_skip l dC dI cI cB cJ cZ cQ N H.size h0 a x1 s q_1 hc_2) hP hD rfl rfl wn_9_124 wn_9_126 sn_M_skip wn_1_13 wn_9_127 rfl rfl (by decide +kernel) ⟨Nat.le_of_ble_eq_true rfl, Nat.le_of_ble_eq_true rfl⟩ rfl hl.1 rfl (Nat.le_of_ble_eq_true rfl) dn_M_cutTokens_9 ⟨Nat.le_of_ble_eq_true rfl, Nat.le_of_ble_eq_true rfl⟩) hP hD hS hA (fun r_3 _ H locs hw hP hD hS => ?_)
      have hw : r_3 = q_1.1 := hw
      subst hw
      refine lv_istore_n (lv' := [(2, .int q_1.1), (0, .ref h0), (1, .int x1)]) hx hb dn_M_cutTokens_12 rfl hl (by decide) rfl (fun ls hl => ?_)
      refine lv_iload_n hx hb dn_M_cutTokens_13 rfl (lv_at hl 0 rfl) ?_
      refine lv_if_ge (tgt := 32) hx hb dn_M_cutTokens_14 (by decide) (fun h => ?_) (fun h => ?_)
      · have hf := (if_pos h).symm.trans hf
        refine lv_iload_n hx hb dn_M_cutTokens_32 rfl (lv_at hl 0 rfl) ?_
        refine lv_aload_n hx hb dn_M_cutTokens_33 rfl (lv_at hl 1 rfl) ?_
        refine va_get (D := (dC, dI)) (ci := 0) (v := .int ((q_1.2.1 2 0))) (C := rn_M) (T := fn_M) (N := 91) hx hb hg in_M hown hK hP 0 rfl rfl 2 (by decide) (hg _ wn_8_75) (fun _ h9 => h9) rfl dn_M_cutTokens_34 ?_
        refine lv_icmp_lt (tgt := 56) hx hb dn_M_cutTokens_37 (by decide) (fun h => ?_) (fun h => ?_)
        · have hf := (if_pos h).symm.trans hf
          refine lv_aload_n hx hb dn_M_cutTokens_56 rfl (lv_at hl 1 rfl) ?_
          refine lv_iload_n hx hb dn_M_cutTokens_57 rfl (lv_at hl 0 rfl) ?_
          obtain ⟨q_4, hc_5, hf⟩ := dc_b hf
          refine dc_calli (dc_runV (ar := 1) (As := [.int q_1.1]) (rest := []) (ci := 0) (q0 := 0) ⟨hx, hb, hml, hown, hg⟩ hK hN hT hS hA (ct_M_at l dC dI cI cB cJ cZ cQ N H.size h0 a q_1.1 q_1.2 q_4 hc_5) hP hD rfl rfl wn_9_128 wn_9_130 sn_M_at wn_1_13 wn_9_131 rfl rfl (by decide +kernel) ⟨Nat.le_of_ble_eq_true rfl, Nat.le_of_ble_eq_true rfl⟩ rfl hl.1 rfl (Nat.le_of_ble_eq_true rfl) dn_M_cutTokens_58 ⟨Nat.le_of_ble_eq_true rfl, Nat.le_of_ble_eq_true rfl⟩) hP hD hS hA (fun r_6 _ H locs hw hP hD hS => ?_)
          have hw : r_6 = q_4.1 := hw
          subst hw
          refine lv_istore_n (lv' := [(3, .int q_4.1), (2, .int q_1.1), (0, .ref h0), (1, .int x1)]) hx hb dn_M_cutTokens_61 rfl hl (by decide) rfl (fun ls hl => ?_)
          refine lv_iload_n hx hb dn_M_cutTokens_62 rfl (lv_at hl 0 rfl) ?_
          obtain ⟨q_7, hc_8, hf⟩ := dc_b hf
          refine dc_calli (dc_runS (ar := 1) (As := [.int q_4.1]) (rest := []) ⟨hx, hb, hml, hown, hg⟩ hK hN hT hS hA (ct_M_isLetter l dC dI cI cB cJ cZ cQ N H.size h0 a q_4.1 q_4.2 q_7 hc_8) hP hD wn_9_136 wn_9_137 wn_1_13 wn_9_138 rfl rfl (by decide +kernel) ⟨Nat.le_of_ble_eq_true rfl, Nat.le_of_ble_eq_true rfl⟩ rfl hl.1 rfl (Nat.le_of_ble_eq_true rfl) dn_M_cutTokens_63 ⟨Nat.le_of_ble_eq_true rfl, Nat.le_of_ble_eq_true rfl⟩) hP hD hS hA (fun r_9 _ H locs hw hP hD hS => ?_)
          have hw : r_9 = q_7.1 := hw
          subst hw
          refine lv_if_eq (tgt := 103) hx hb dn_M_cutTokens_66 (by decide) (fun h => ?_) (fun h => ?_)
          · have hf := (if_pos h).symm.trans hf
            refine lv_iload_n hx hb dn_M_cutTokens_103 rfl (lv_at hl 0 rfl) ?_
            obtain ⟨q_10, hc_11, hf⟩ := dc_b hf
            refine dc_calli (dc_runS (ar := 1) (As := [.int q_4.1]) (rest := []) ⟨hx, hb, hml, hown, hg⟩ hK hN hT hS hA (ct_M_isDigit l dC dI cI cB cJ cZ cQ N H.size h0 a q_4.1 q_7.2 q_10 hc_11) hP hD wn_9_142 wn_9_143 wn_1_13 wn_9_144 rfl rfl (by decide +kernel) ⟨Nat.le_of_ble_eq_true rfl, Nat.le_of_ble_eq_true rfl⟩ rfl hl.1 rfl (Nat.le_of_ble_eq_true rfl) dn_M_cutTokens_104 ⟨Nat.le_of_ble_eq_true rfl, Nat.le_of_ble_eq_true rfl⟩) hP hD hS hA (fun r_12 _ H locs hw hP hD hS => ?_)
            have hw : r_12 = q_10.1 := hw
            subst hw
            refine lv_if_eq (tgt := 131) hx hb dn_M_cutTokens_107 (by decide) (fun h => ?_) (fun h => ?_)
            · have hf := (if_pos h).symm.trans hf
              refine lv_iload_n hx hb dn_M_cutTokens_131 rfl (lv_at hl 0 rfl) ?_
              refine lv_aload_n hx hb dn_M_cutTokens_132 rfl (lv_at hl 2 rfl) ?_
              refine lv_iload_n hx hb dn_M_cutTokens_133 rfl (lv_at hl 1 rfl) ?_
              refine lv_iconst (v := 1) hx hb dn_M_cutTokens_134 (by decide) ?_
              refine lv_iadd hx hb dn_M_cutTokens_135 ?_
              obtain ⟨q_13, hc_14, hf⟩ := dc_b hf
              refine dc_calli (dc_runV (ar := 1) (As := [.int ((q_1.1 + 1))]) (rest := [.int q_4.1]) (ci := 0) (q0 := 0) ⟨hx, hb, hml, hown, hg⟩ hK hN hT hS hA (ct_M_at l dC dI cI cB cJ cZ cQ N H.size h0 a ((q_1.1 + 1)) q_10.2 q_13 hc_14) hP hD rfl rfl wn_9_128 wn_9_130 sn_M_at wn_1_13 wn_9_131 rfl rfl (by decide +kernel) ⟨Nat.le_of_ble_eq_true rfl, Nat.le_of_ble_eq_true rfl⟩ rfl hl.1 rfl (Nat.le_of_ble_eq_true rfl) dn_M_cutTokens_136 ⟨Nat.le_of_ble_eq_true rfl, Nat.le_of_ble_eq_true rfl⟩) hP hD hS hA (fun r_15 _ H locs hw hP hD hS => ?_)
              have hw : r_15 = q_13.1 := hw
              subst hw
              obtain ⟨q_16, hc_17, hf⟩ := dc_b hf
              refine dc_calli (dc_runS (ar := 2) (As := [.int q_4.1, .int q_13.1]) (rest := []) ⟨hx, hb, hml, hown, hg⟩ hK hN hT hS hA (ct_M_pair l dC dI cI cB cJ cZ cQ N H.size h0 a q_4.1 q_13.1 q_13.2 q_16 hc_17) hP hD wn_9_168 wn_9_169 wn_1_13 wn_9_170 rfl rfl (by decide +kernel) ⟨Nat.le_of_ble_eq_true rfl, Nat.le_of_ble_eq_true rfl⟩ rfl hl.1 rfl (Nat.le_of_ble_eq_true rfl) dn_M_cutTokens_139 ⟨Nat.le_of_ble_eq_true rfl, Nat.le_of_ble_eq_true rfl⟩) hP hD hS hA (fun r_18 _ H locs hw hP hD hS => ?_)
              have hw : r_18 = q_16.1 := hw
              subst hw
              refine lv_if_le (tgt := 169) hx hb dn_M_cutTokens_142 (by decide) (fun h => ?_) (fun h => ?_)
              · have hf := (if_pos h).symm.trans hf
                refine lv_iload_n hx hb dn_M_cutTokens_169 rfl (lv_at hl 1 rfl) ?_
                refine lv_iconst (v := 1) hx hb dn_M_cutTokens_170 (by decide) ?_
                refine lv_iadd hx hb dn_M_cutTokens_171 ?_
                refine lv_istore_n (lv' := [(1, .int ((q_1.1 + 1))), (3, .int q_4.1), (2, .int q_1.1), (0, .ref h0)]) hx hb dn_M_cutTokens_172 rfl hl (by decide) rfl (fun ls hl => ?_)
                refine lv_aload_n hx hb dn_M_cutTokens_173 rfl (lv_at hl 3 rfl) ?_
                refine lv_iload_n hx hb dn_M_cutTokens_174 rfl (lv_at hl 1 rfl) ?_
                obtain ⟨q_19, hc_20, hf⟩ := dc_b hf
                refine dc_calli (dc_runS (ar := 1) (As := [.int q_4.1]) (rest := [.ref h0]) ⟨hx, hb, hml, hown, hg⟩ hK hN hT hS hA (ct_M_isSign l dC dI cI cB cJ cZ cQ N H.size h0 a q_4.1 q_16.2 q_19 hc_20) hP hD wn_9_171 wn_9_172 wn_1_13 wn_9_173 rfl rfl (by decide +kernel) ⟨Nat.le_of_ble_eq_true rfl, Nat.le_of_ble_eq_true rfl⟩ rfl hl.1 rfl (Nat.le_of_ble_eq_true rfl) dn_M_cutTokens_175 ⟨Nat.le_of_ble_eq_true rfl, Nat.le_of_ble_eq_true rfl⟩) hP hD hS hA (fun r_21 _ H locs hw hP hD hS => ?_)
                have hw : r_21 = q_19.1 := hw
                subst hw
                refine lv_if_eq (tgt := 185) hx hb dn_M_cutTokens_178 (by decide) (fun h => ?_) (fun h => ?_)
                · have hf := (if_pos h).symm.trans hf
                  refine lv_sipush (v := 404) hx hb dn_M_cutTokens_185 (by decide) ?_
                  exact bl_188 k_7 hk_7 ((q_1.1 + 1)) q_1.1 404 q_19.2 hf H locs ls hP hD hS (lv_sub hl [3, 0, 2] rfl)
                · have hf := (if_neg h).symm.trans hf
                  refine lv_iload_n hx hb dn_M_cutTokens_181 rfl (lv_at hl 1 rfl) ?_
                  refine lv_goto (tgt := 188) hx hb dn_M_cutTokens_182 (by decide) ?_
                  exact bl_188 k_7 hk_7 ((q_1.1 + 1)) q_1.1 q_4.1 q_19.2 hf H locs ls hP hD hS (lv_sub hl [3, 0, 2] rfl)
              · have hf := (if_neg h).symm.trans hf
                refine lv_iload_n hx hb dn_M_cutTokens_145 rfl (lv_at hl 1 rfl) ?_
                refine lv_iconst (v := 2) hx hb dn_M_cutTokens_146 (by decide) ?_
                refine lv_iadd hx hb dn_M_cutTokens_147 ?_
                refine lv_istore_n (lv' := [(1, .int ((q_1.1 + 2))), (3, .int q_4.1), (2, .int q_1.1), (0, .ref h0)]) hx hb dn_M_cutTokens_148 rfl hl (by decide) rfl (fun ls hl => ?_)
                refine lv_aload_n hx hb dn_M_cutTokens_149 rfl (lv_at hl 3 rfl) ?_
                refine lv_iload_n hx hb dn_M_cutTokens_150 rfl (lv_at hl 1 rfl) ?_
                refine lv_aload_n hx hb dn_M_cutTokens_151 rfl (lv_at hl 3 rfl) ?_
                refine lv_iload_n hx hb dn_M_cutTokens_152 rfl (lv_at hl 2 rfl) ?_
                refine lv_iconst (v := 1) hx hb dn_M_cutTokens_153 (by decide) ?_
                refine lv_iadd hx hb dn_M_cutTokens_154 ?_
                obtain ⟨q_19, hc_20, hf⟩ := dc_b hf
                refine dc_calli (dc_runV (ar := 1) (As := [.int ((q_1.1 + 1))]) (rest := [.int q_4.1, .ref h0]) (ci := 0) (q0 := 0) ⟨hx, hb, hml, hown, hg⟩ hK hN hT hS hA (ct_M_at l dC dI cI cB cJ cZ cQ N H.size h0 a ((q_1.1 + 1)) q_16.2 q_19 hc_20) hP hD rfl rfl wn_9_128 wn_9_130 sn_M_at wn_1_13 wn_9_131 rfl rfl (by decide +kernel) ⟨Nat.le_of_ble_eq_true rfl, Nat.le_of_ble_eq_true rfl⟩ rfl hl.1 rfl (Nat.le_of_ble_eq_true rfl) dn_M_cutTokens_155 ⟨Nat.le_of_ble_eq_true rfl, Nat.le_of_ble_eq_true rfl⟩) hP hD hS hA (fun r_21 _ H locs hw hP hD hS => ?_)
                have hw : r_21 = q_19.1 := hw
                subst hw
                obtain ⟨q_22, hc_23, hf⟩ := dc_b hf
                refine dc_calli (dc_runS (ar := 2) (As := [.int q_4.1, .int q_19.1]) (rest := [.ref h0]) ⟨hx, hb, hml, hown, hg⟩ hK hN hT hS hA (ct_M_pair l dC dI cI cB cJ cZ cQ N H.size h0 a q_4.1 q_19.1 q_19.2 q_22 hc_23) hP hD wn_9_168 wn_9_169 wn_1_13 wn_9_170 rfl rfl (by decide +kernel) ⟨Nat.le_of_ble_eq_true rfl, Nat.le_of_ble_eq_true rfl⟩ rfl hl.1 rfl (Nat.le_of_ble_eq_true rfl) dn_M_cutTokens_158 ⟨Nat.le_of_ble_eq_true rfl, Nat.le_of_ble_eq_true rfl⟩) hP hD hS hA (fun r_24 _ H locs hw hP hD hS => ?_)
                have hw : r_24 = q_22.1 := hw
                subst hw
                refine lv_iload_n hx hb dn_M_cutTokens_161 rfl (lv_at hl 2 rfl) ?_
                refine lv_iload_n hx hb dn_M_cutTokens_162 rfl (lv_at hl 0 rfl) ?_
                obtain ⟨q_25, hc_26, hf⟩ := dc_b hf
                refine dc_callv (dc_runV (ar := 3) (As := [.int q_22.1, .int q_1.1, .int ((q_1.1 + 2))]) (rest := []) (ci := 0) (q0 := 0) ⟨hx, hb, hml, hown, hg⟩ hK hN hT hS hA (ct_M_token l dC dI cI cB cJ cZ cQ N H.size h0 a q_22.1 q_1.1 ((q_1.1 + 2)) q_22.2 q_25 hc_26) hP hD rfl rfl wn_9_132 wn_9_134 sn_M_token wn_1_13 wn_9_135 rfl rfl (by decide +kernel) ⟨Nat.le_of_ble_eq_true rfl, Nat.le_of_ble_eq_true rfl⟩ rfl hl.1 rfl (Nat.le_of_ble_eq_true rfl) dn_M_cutTokens_163 ⟨Nat.le_of_ble_eq_true rfl, Nat.le_of_ble_eq_true rfl⟩) hP hD hS hA (fun _ H locs hw hP hD hS => ?_)
                refine lv_goto (tgt := 193) hx hb dn_M_cutTokens_166 (by decide) ?_
                exact bl_193 k_7 hk_7 ((q_1.1 + 2)) q_25.2 hf H locs ls hP hD hS (lv_sub hl [3, 0] rfl)
            · have hf := (if_neg h).symm.trans hf
              refine lv_aload_n hx hb dn_M_cutTokens_110 rfl (lv_at hl 2 rfl) ?_
              refine lv_iload_n hx hb dn_M_cutTokens_111 rfl (lv_at hl 1 rfl) ?_
              obtain ⟨q_13, hc_14, hf⟩ := dc_b hf
              refine dc_calli (dc_runV (ar := 1) (As := [.int q_1.1]) (rest := []) (ci := 0) (q0 := 0) ⟨hx, hb, hml, hown, hg⟩ hK hN hT hS hA (ct_M_numberEnd l dC dI cI cB cJ cZ cQ N H.size h0 a q_1.1 q_10.2 q_13 hc_14) hP hD rfl rfl wn_9_151 wn_9_153 sn_M_numberEnd wn_1_13 wn_9_154 rfl rfl (by decide +kernel) ⟨Nat.le_of_ble_eq_true rfl, Nat.le_of_ble_eq_true rfl⟩ rfl hl.1 rfl (Nat.le_of_ble_eq_true rfl) dn_M_cutTokens_112 ⟨Nat.le_of_ble_eq_true rfl, Nat.le_of_ble_eq_true rfl⟩) hP hD hS hA (fun r_15 _ H locs hw hP hD hS => ?_)
              have hw : r_15 = q_13.1 := hw
              subst hw
              refine lv_istore_n (lv' := [(1, .int q_13.1), (3, .int q_4.1), (2, .int q_1.1), (0, .ref h0)]) hx hb dn_M_cutTokens_115 rfl hl (by decide) rfl (fun ls hl => ?_)
              refine lv_aload_n hx hb dn_M_cutTokens_116 rfl (lv_at hl 3 rfl) ?_
              refine lv_aload_n hx hb dn_M_cutTokens_117 rfl (lv_at hl 3 rfl) ?_
              refine lv_iload_n hx hb dn_M_cutTokens_118 rfl (lv_at hl 2 rfl) ?_
              refine lv_iload_n hx hb dn_M_cutTokens_119 rfl (lv_at hl 0 rfl) ?_
              obtain ⟨q_16, hc_17, hf⟩ := dc_b hf
              refine dc_calli (dc_runV (ar := 2) (As := [.int q_1.1, .int q_13.1]) (rest := [.ref h0]) (ci := 0) (q0 := 0) ⟨hx, hb, hml, hown, hg⟩ hK hN hT hS hA (ct_M_numberKind l dC dI cI cB cJ cZ cQ N H.size h0 a q_1.1 q_13.1 q_13.2 q_16 hc_17) hP hD rfl rfl wn_9_155 wn_9_157 sn_M_numberKind wn_1_13 wn_9_158 rfl rfl (by decide +kernel) ⟨Nat.le_of_ble_eq_true rfl, Nat.le_of_ble_eq_true rfl⟩ rfl hl.1 rfl (Nat.le_of_ble_eq_true rfl) dn_M_cutTokens_120 ⟨Nat.le_of_ble_eq_true rfl, Nat.le_of_ble_eq_true rfl⟩) hP hD hS hA (fun r_18 _ H locs hw hP hD hS => ?_)
              have hw : r_18 = q_16.1 := hw
              subst hw
              refine lv_iload_n hx hb dn_M_cutTokens_123 rfl (lv_at hl 2 rfl) ?_
              refine lv_iload_n hx hb dn_M_cutTokens_124 rfl (lv_at hl 0 rfl) ?_
              obtain ⟨q_19, hc_20, hf⟩ := dc_b hf
              refine dc_callv (dc_runV (ar := 3) (As := [.int q_16.1, .int q_1.1, .int q_13.1]) (rest := []) (ci := 0) (q0 := 0) ⟨hx, hb, hml, hown, hg⟩ hK hN hT hS hA (ct_M_token l dC dI cI cB cJ cZ cQ N H.size h0 a q_16.1 q_1.1 q_13.1 q_16.2 q_19 hc_20) hP hD rfl rfl wn_9_132 wn_9_134 sn_M_token wn_1_13 wn_9_135 rfl rfl (by decide +kernel) ⟨Nat.le_of_ble_eq_true rfl, Nat.le_of_ble_eq_true rfl⟩ rfl hl.1 rfl (Nat.le_of_ble_eq_true rfl) dn_M_cutTokens_125 ⟨Nat.le_of_ble_eq_true rfl, Nat.le_of_ble_eq_true rfl⟩) hP hD hS hA (fun _ H locs hw hP hD hS => ?_)
              refine lv_goto (tgt := 193) hx hb dn_M_cutTokens_128 (by decide) ?_
              exact bl_193 k_7 hk_7 q_13.1 q_19.2 hf H locs ls hP hD hS (lv_sub hl [3, 0] rfl)
          · have hf := (if_neg h).symm.trans hf
            refine lv_iload_n hx hb dn_M_cutTokens_69 rfl (lv_at hl 1 rfl) ?_
            refine lv_istore_n (lv' := [(1, .int q_1.1), (3, .int q_4.1), (2, .int q_1.1), (0, .ref h0)]) hx hb dn_M_cutTokens_70 rfl hl (by decide) rfl (fun ls hl => ?_)
            exact hd_71 k_7 hk_7 N q_1.1 q_1.1 q_7.2 hf H locs ls hP hD hS (lv_sub hl [3, 0, 2] rfl)
        · have hf := (if_neg h).symm.trans hf
          refine lv_aload_n hx hb dn_M_cutTokens_40 rfl (lv_at hl 1 rfl) ?_
          refine lv_sipush (v := 403) hx hb dn_M_cutTokens_41 (by decide) ?_
          refine lv_aload_n hx hb dn_M_cutTokens_44 rfl (lv_at hl 1 rfl) ?_
          refine va_get (D := (dC, dI)) (ci := 0) (v := .int ((q_1.2.1 2 0))) (C := rn_M) (T := fn_M) (N := 91) hx hb hg in_M hown hK hP 0 rfl rfl 2 (by decide) (hg _ wn_8_75) (fun _ h9 => h9) rfl dn_M_cutTokens_45 ?_
          refine lv_aload_n hx hb dn_M_cutTokens_48 rfl (lv_at hl 1 rfl) ?_
          refine va_get (D := (dC, dI)) (ci := 0) (v := .int ((q_1.2.1 2 0))) (C := rn_M) (T := fn_M) (N := 91) hx hb hg in_M hown hK hP 0 rfl rfl 2 (by decide) (hg _ wn_8_75) (fun _ h9 => h9) rfl dn_M_cutTokens_49 ?_
          obtain ⟨q_4, hc_5, hf⟩ := dc_b hf
          refine dc_callv (dc_runV (ar := 3) (As := [.int 403, .int ((q_1.2.1 2 0)), .int ((q_1.2.1 2 0))]) (rest := []) (ci := 0) (q0 := 0) ⟨hx, hb, hml, hown, hg⟩ hK hN hT hS hA (ct_M_token l dC dI cI cB cJ cZ cQ N H.size h0 a 403 ((q_1.2.1 2 0)) ((q_1.2.1 2 0)) q_1.2 q_4 hc_5) hP hD rfl rfl wn_9_132 wn_9_134 sn_M_token wn_1_13 wn_9_135 rfl rfl (by decide +kernel) ⟨Nat.le_of_ble_eq_true rfl, Nat.le_of_ble_eq_true rfl⟩ rfl hl.1 rfl (Nat.le_of_ble_eq_true rfl) dn_M_cutTokens_52 ⟨Nat.le_of_ble_eq_true rfl, Nat.le_of_ble_eq_true rfl⟩) hP hD hS hA (fun _ H locs hw hP hD hS => ?_)
          rw [hQQ, ← Option.some.inj hf]
          exact xk_vret (w1 := fun u : Unit => (wM h0 a cI cB cJ cZ q_4.2)) () hx hb hr hlocks hK hS dn_M_cutTokens_55 hP hD trivial (Nat.le_refl _) (Nat.le_refl _)
      · have hf := (if_neg h).symm.trans hf
        refine lv_aload_n hx hb dn_M_cutTokens_17 rfl (lv_at hl 1 rfl) ?_
        refine lv_sipush (v := 404) hx hb dn_M_cutTokens_18 (by decide) ?_
        refine lv_iconst (v := (-1)) hx hb dn_M_cutTokens_21 (by decide) ?_
        refine lv_iload_n hx hb dn_M_cutTokens_22 rfl (lv_at hl 0 rfl) ?_
        refine lv_isub hx hb dn_M_cutTokens_23 ?_
        refine lv_aload_n hx hb dn_M_cutTokens_24 rfl (lv_at hl 1 rfl) ?_
        refine va_get (D := (dC, dI)) (ci := 0) (v := .int ((q_1.2.1 2 0))) (C := rn_M) (T := fn_M) (N := 91) hx hb hg in_M hown hK hP 0 rfl rfl 2 (by decide) (hg _ wn_8_75) (fun _ h9 => h9) rfl dn_M_cutTokens_25 ?_
        obtain ⟨q_4, hc_5, hf⟩ := dc_b hf
        refine dc_callv (dc_runV (ar := 3) (As := [.int 404, .int (((-1) - q_1.1)), .int ((q_1.2.1 2 0))]) (rest := []) (ci := 0) (q0 := 0) ⟨hx, hb, hml, hown, hg⟩ hK hN hT hS hA (ct_M_token l dC dI cI cB cJ cZ cQ N H.size h0 a 404 (((-1) - q_1.1)) ((q_1.2.1 2 0)) q_1.2 q_4 hc_5) hP hD rfl rfl wn_9_132 wn_9_134 sn_M_token wn_1_13 wn_9_135 rfl rfl (by decide +kernel) ⟨Nat.le_of_ble_eq_true rfl, Nat.le_of_ble_eq_true rfl⟩ rfl hl.1 rfl (Nat.le_of_ble_eq_true rfl) dn_M_cutTokens_28 ⟨Nat.le_of_ble_eq_true rfl, Nat.le_of_ble_eq_true rfl⟩) hP hD hS hA (fun _ H locs hw hP hD hS => ?_)
        rw [hQQ, ← Option.some.inj hf]
        exact xk_vret (w1 := fun u : Unit => (wM h0 a cI cB cJ cZ q_4.2)) () hx hb hr hlocks hK hS dn_M_cutTokens_31 hP hD trivial (Nat.le_refl _) (Nat.le_refl _)
  intro H locs ls hP hD hS hl
  unfold fn_M_cutTokens at hf
  refine lv_aload_n hx hb dn_M_cutTokens_0 rfl (lv_at hl 0 rfl) ?_
  refine lv_iconst (v := 0) hx hb dn_M_cutTokens_1 (by decide) ?_
  refine va_put (D := (dC, dI)) (ci := 0) (v := .int 0) (ty := .int) (C := rn_M) (T := fn_M) (N := 91) hx hb hg in_M tn_M tk_M nn_M hown hK hP hD hS 0 rfl rfl 7 (by decide) (hg _ wn_8_80) (fun _ h9 => h9) rfl (tk_M 7 (by decide)) rfl rfl (Nat.le_of_ble_eq_true rfl) dn_M_cutTokens_2 (fun H locs hP hD hS => ?_)
  have hP := wM_P_7 hP
  have hD := wM_D_7 hD
  refine lv_iconst (v := 0) hx hb dn_M_cutTokens_5 (by decide) ?_
  refine lv_istore_n (lv' := [(1, .int 0), (0, .ref h0)]) hx hb dn_M_cutTokens_6 rfl hl (by decide) rfl (fun ls hl => ?_)
  exact hd_7 N 0 (upI s 7 (fun _ => 0)) hf H locs ls hP hD hS (lv_sub hl [1, 0] rfl)
theorem mn_M_fail (N : Nat) (v1 : Int32) (v2 : Int32) (s : ms) (y : (Unit × ms)) (hf : fn_M_fail N v1 v2 s = some y) : gl y.2 = gl s := by
  unfold fn_M_fail at hf
  have hm : gl s = gl s := rfl
  by_cases h : (s.1 9 0) = 0
  · have hf := (if_pos h).symm.trans hf
    exact (dc_e hf).trans hm
  · have hf := (if_neg h).symm.trans hf
    exact (dc_e hf).trans hm
set_option maxHeartbeats 8000000 in
set_option maxRecDepth 100000 in
theorem ct_M_fail (l : Launch) (dC : Nat → ClassId) (dI : Nat → Nat → Nat) (cI cB cJ cZ cQ : ClassId) (N sz : Nat) (h0 : Nat) (a : Nat → Nat) (v1 : Int32) (v2 : Int32) (s : ms) (y : (Unit × ms)) (hf : fn_M_fail N v1 v2 s = some y) : Met l yn_M_fail (xw yn_M_fail bn_M_fail 3 none) ({ frames := 0, cells := 0, slots := 0, locals := 0 }) (dc_P (dC, dI) xcl (xt cI cB cJ cZ cQ) [.ref h0, .int v1, .int v2] sz (wM h0 a cI cB cJ cZ s)) (xk_Qv (dC, dI) xcl (xt cI cB cJ cZ cQ) (fun _ : Unit => True) (fun u : Unit => (wM h0 a cI cB cJ cZ y.2)) (va_A (wM h0 a cI cB cJ cZ s) sz)) 0 0 (va_A (wM h0 a cI cB cJ cZ s) sz) := by
  refine dc_of (QA := xk_Qv (dC, dI) xcl (xt cI cB cJ cZ cQ) (fun _ : Unit => True) (fun u : Unit => (wM h0 a cI cB cJ cZ y.2))) (by decide) (Nat.le_of_ble_eq_true rfl) ?_
  intro p e s0 m below meth c hx hb hml hown hg hr hlocks hin hP hK hN A hA hD hT ls hl
  have hown : s0.vm.findClass rn_M = some m.cls := hown
  obtain ⟨H, hH⟩ : ∃ z, z = s0.heap := ⟨_, rfl⟩
  rw [← hH] at hP
  have hS : va_S A s0.heap H [] := by rw [hH]; exact va_S.rf
  suffices kk : ∀ QQ : State → Prop, QQ = MQ below (xk_Qv (dC, dI) xcl (xt cI cB cJ cZ cQ) (fun _ : Unit => True) (fun u : Unit => (wM h0 a cI cB cJ cZ y.2)) A) [.ref h0, .int v1, .int v2].toArray s0 0 0 A → dcC p l e ({ frames := 0, cells := 0, slots := 0, locals := 0 }) s0 m [.ref h0, .int v1, .int v2].toArray below meth c QQ (dC, dI) A (wM h0 a cI cB cJ cZ s) 0 3 [(0, .ref h0), (1, .int v1), (2, .int v2)] [] by
    have k9 := kk _ rfl H [] ls hP hD hS hl
    rw [hH] at k9; exact k9
  clear hP hD hS hl hH H ls
  intro QQ hQQ
  intro H locs ls hP hD hS hl
  unfold fn_M_fail at hf
  refine lv_aload_n hx hb dn_M_fail_0 rfl (lv_at hl 0 rfl) ?_
  refine va_get (D := (dC, dI)) (ci := 0) (v := .int ((s.1 9 0))) (C := rn_M) (T := fn_M) (N := 91) hx hb hg in_M hown hK hP 0 rfl rfl 9 (by decide) (hg _ wn_8_82) (fun _ h9 => h9) rfl dn_M_fail_1 ?_
  refine lv_if_ne (tgt := 17) hx hb dn_M_fail_4 (by decide) (fun h => ?_) (fun h => ?_)
  · have hf := (if_neg h).symm.trans hf
    rw [hQQ, ← Option.some.inj hf]
    exact xk_vret (w1 := fun u : Unit => (wM h0 a cI cB cJ cZ s)) () hx hb hr hlocks hK hS dn_M_fail_17 hP hD trivial (Nat.le_refl _) (Nat.le_refl _)
  · have hf := (if_pos h).symm.trans hf
    refine lv_aload_n hx hb dn_M_fail_7 rfl (lv_at hl 0 rfl) ?_
    refine lv_iload_n hx hb dn_M_fail_8 rfl (lv_at hl 1 rfl) ?_
    refine va_put (D := (dC, dI)) (ci := 0) (v := .int v1) (ty := .int) (C := rn_M) (T := fn_M) (N := 91) hx hb hg in_M tn_M tk_M nn_M hown hK hP hD hS 0 rfl rfl 9 (by decide) (hg _ wn_8_82) (fun _ h9 => h9) rfl (tk_M 9 (by decide)) rfl rfl (Nat.le_of_ble_eq_true rfl) dn_M_fail_9 (fun H locs hP hD hS => ?_)
    have hP := wM_P_9 hP
    have hD := wM_D_9 hD
    refine lv_aload_n hx hb dn_M_fail_12 rfl (lv_at hl 0 rfl) ?_
    refine lv_iload_n hx hb dn_M_fail_13 rfl (lv_at hl 2 rfl) ?_
    refine va_put (D := (dC, dI)) (ci := 0) (v := .int v2) (ty := .int) (C := rn_M) (T := fn_M) (N := 91) hx hb hg in_M tn_M tk_M nn_M hown hK hP hD hS 0 rfl rfl 10 (by decide) (hg _ wn_8_83) (fun _ h9 => h9) rfl (tk_M 10 (by decide)) rfl rfl (Nat.le_of_ble_eq_true rfl) dn_M_fail_14 (fun H locs hP hD hS => ?_)
    have hP := wM_P_10 hP
    have hD := wM_D_10 hD
    rw [hQQ, ← Option.some.inj hf]
    exact xk_vret (w1 := fun u : Unit => (wM h0 a cI cB cJ cZ (upI (upI s 9 (fun _ => v1)) 10 (fun _ => v2)))) () hx hb hr hlocks hK hS dn_M_fail_17 hP hD trivial (Nat.le_refl _) (Nat.le_refl _)
theorem mo_M_no_21 (N : Nat) (y : (Unit × ms)) (t0 : Int32) (s : ms) (hf : bk_M_no_21 N t0 s = some y) : gl y.2 = gl s := by
  unfold bk_M_no_21 at hf
  have hm : gl s = gl s := rfl
  obtain ⟨_, hf⟩ := dc_g hf
  obtain ⟨q_2, hc_3, hf⟩ := dc_b hf
  have hm := (mn_M_fail N t0 (((s.1 5) (Int32.toNatClampNeg ((s.1 8 0))))) s q_2 hc_3).trans hm
  exact (dc_e hf).trans hm
theorem mn_M_no (N : Nat) (s : ms) (y : (Unit × ms)) (hf : fn_M_no N s = some y) : gl y.2 = gl s := by
  unfold fn_M_no at hf
  have hm : gl s = gl s := rfl
  obtain ⟨_, hf⟩ := dc_g hf
  by_cases h : ((s.1 4) (Int32.toNatClampNeg ((s.1 8 0)))) = 404
  · have hf := (if_pos h).symm.trans hf
    exact (mo_M_no_21 N y 1 s hf).trans hm
  · have hf := (if_neg h).symm.trans hf
    exact (mo_M_no_21 N y 2 s hf).trans hm
set_option maxHeartbeats 8000000 in
set_option maxRecDepth 100000 in
theorem ct_M_no (l : Launch) (dC : Nat → ClassId) (dI : Nat → Nat → Nat) (cI cB cJ cZ cQ : ClassId) (N sz : Nat) (h0 : Nat) (a : Nat → Nat) (s : ms) (y : (Unit × ms)) (hf : fn_M_no N s = some y) : Met l yn_M_no (xw yn_M_no bn_M_no 1 none) ({ frames := 1, cells := 0, slots := 0, locals := 22 }) (dc_P (dC, dI) xcl (xt cI cB cJ cZ cQ) [.ref h0] sz (wM h0 a cI cB cJ cZ s)) (xk_Qv (dC, dI) xcl (xt cI cB cJ cZ cQ) (fun _ : Unit => True) (fun u : Unit => (wM h0 a cI cB cJ cZ y.2)) (va_A (wM h0 a cI cB cJ cZ s) sz)) 0 0 (va_A (wM h0 a cI cB cJ cZ s) sz) := by
  refine dc_of (QA := xk_Qv (dC, dI) xcl (xt cI cB cJ cZ cQ) (fun _ : Unit => True) (fun u : Unit => (wM h0 a cI cB cJ cZ y.2))) (by decide) (Nat.le_of_ble_eq_true rfl) ?_
  intro p e s0 m below meth c hx hb hml hown hg hr hlocks hin hP hK hN A hA hD hT ls hl
  have hown : s0.vm.findClass rn_M = some m.cls := hown
  obtain ⟨H, hH⟩ : ∃ z, z = s0.heap := ⟨_, rfl⟩
  rw [← hH] at hP
  have hS : va_S A s0.heap H [] := by rw [hH]; exact va_S.rf
  suffices kk : ∀ QQ : State → Prop, QQ = MQ below (xk_Qv (dC, dI) xcl (xt cI cB cJ cZ cQ) (fun _ : Unit => True) (fun u : Unit => (wM h0 a cI cB cJ cZ y.2)) A) [.ref h0].toArray s0 0 0 A → dcC p l e ({ frames := 1, cells := 0, slots := 0, locals := 22 }) s0 m [.ref h0].toArray below meth c QQ (dC, dI) A (wM h0 a cI cB cJ cZ s) 0 1 [(0, .ref h0)] [] by
    have k9 := kk _ rfl H [] ls hP hD hS hl
    rw [hH] at k9; exact k9
  clear hP hD hS hl hH H ls
  intro QQ hQQ
  have bl_21 : ∀ (t0 : Int32) (s : ms), bk_M_no_21 N t0 s = some y → dcC p l e ({ frames := 1, cells := 0, slots := 0, locals := 22 }) s0 m [.ref h0].toArray below meth c QQ (dC, dI) A (wM h0 a cI cB cJ cZ s) 21 1 [(0, .ref h0)] [.int t0, .ref h0] := by
    intro t0 s hf H locs ls hP hD hS hl
    unfold bk_M_no_21 at hf
    refine lv_aload_n hx hb dn_M_no_21 rfl (lv_at hl 0 rfl) ?_
    refine va_get (D := (dC, dI)) (ci := 0) (v := .ref ((a 5))) (C := rn_M) (T := fn_M) (N := 91) hx hb hg in_M hown hK hP 0 rfl rfl 5 (by decide) (hg _ wn_8_78) (fun _ h9 => h9) rfl dn_M_no_22 ?_
    refine lv_aload_n hx hb dn_M_no_25 rfl (lv_at hl 0 rfl) ?_
    refine va_get (D := (dC, dI)) (ci := 0) (v := .int ((s.1 8 0))) (C := rn_M) (T := fn_M) (N := 91) hx hb hg in_M hown hK hP 0 rfl rfl 8 (by decide) (hg _ wn_8_81) (fun _ h9 => h9) rfl dn_M_no_26 ?_
    obtain ⟨hg_1, hf⟩ := dc_g hf
    refine va_iald hx hb hK hP 3 0 rfl rfl hg_1 dn_M_no_29 ?_
    refine xk_ti (y := ((s.1 5) (Int32.toNatClampNeg ((s.1 8 0))))) rfl ?_
    obtain ⟨q_2, hc_3, hf⟩ := dc_b hf
    refine dc_callv (dc_runV (ar := 2) (As := [.int t0, .int (((s.1 5) (Int32.toNatClampNeg ((s.1 8 0)))))]) (rest := []) (ci := 0) (q0 := 0) ⟨hx, hb, hml, hown, hg⟩ hK hN hT hS hA (ct_M_fail l dC dI cI cB cJ cZ cQ N H.size h0 a t0 (((s.1 5) (Int32.toNatClampNeg ((s.1 8 0))))) s q_2 hc_3) hP hD rfl rfl wn_9_186 wn_9_188 sn_M_fail wn_1_13 wn_9_189 rfl rfl (by decide +kernel) ⟨Nat.le_of_ble_eq_true rfl, Nat.le_of_ble_eq_true rfl⟩ rfl hl.1 rfl (Nat.le_of_ble_eq_true rfl) dn_M_no_30 ⟨Nat.le_of_ble_eq_true rfl, Nat.le_of_ble_eq_true rfl⟩) hP hD hS hA (fun _ H locs hw hP hD hS => ?_)
    rw [hQQ, ← Option.some.inj hf]
    exact xk_vret (w1 := fun u : Unit => (wM h0 a cI cB cJ cZ q_2.2)) () hx hb hr hlocks hK hS dn_M_no_33 hP hD trivial (Nat.le_refl _) (Nat.le_refl _)
  intro H locs ls hP hD hS hl
  unfold fn_M_no at hf
  refine lv_aload_n hx hb dn_M_no_0 rfl (lv_at hl 0 rfl) ?_
  refine lv_aload_n hx hb dn_M_no_1 rfl (lv_at hl 0 rfl) ?_
  refine va_get (D := (dC, dI)) (ci := 0) (v := .ref ((a 4))) (C := rn_M) (T := fn_M) (N := 91) hx hb hg in_M hown hK hP 0 rfl rfl 4 (by decide) (hg _ wn_8_77) (fun _ h9 => h9) rfl dn_M_no_2 ?_
  refine lv_aload_n hx hb dn_M_no_5 rfl (lv_at hl 0 rfl) ?_
  refine va_get (D := (dC, dI)) (ci := 0) (v := .int ((s.1 8 0))) (C := rn_M) (T := fn_M) (N := 91) hx hb hg in_M hown hK hP 0 rfl rfl 8 (by decide) (hg _ wn_8_81) (fun _ h9 => h9) rfl dn_M_no_6 ?_
  obtain ⟨hg_1, hf⟩ := dc_g hf
  refine va_iald hx hb hK hP 2 0 rfl rfl hg_1 dn_M_no_9 ?_
  refine xk_ti (y := ((s.1 4) (Int32.toNatClampNeg ((s.1 8 0))))) rfl ?_
  refine lv_sipush (v := 404) hx hb dn_M_no_10 (by decide) ?_
  refine lv_icmp_ne (tgt := 20) hx hb dn_M_no_13 (by decide) (fun h => ?_) (fun h => ?_)
  · have hf := (if_neg h).symm.trans hf
    refine lv_iconst (v := 2) hx hb dn_M_no_20 (by decide) ?_
    exact bl_21 2 s hf H locs ls hP hD hS hl
  · have hf := (if_pos h).symm.trans hf
    refine lv_iconst (v := 1) hx hb dn_M_no_16 (by decide) ?_
    refine lv_goto (tgt := 21) hx hb dn_M_no_17 (by decide) ?_
    exact bl_21 1 s hf H locs ls hP hD hS hl
theorem mo_M_take_33 (N : Nat) (y : (Unit × ms)) (s : ms) (hf : bk_M_take_33 N s = some y) : gl y.2 = gl s := by
  unfold bk_M_take_33 at hf
  have hm : gl s = gl s := rfl
  obtain ⟨q_1, hc_2, hf⟩ := dc_b hf
  have hm := (mn_M_no N s q_1 hc_2).trans hm
  exact (dc_e hf).trans hm
theorem mn_M_take (N : Nat) (v1 : Int32) (s : ms) (y : (Unit × ms)) (hf : fn_M_take N v1 s = some y) : gl y.2 = gl s := by
  unfold fn_M_take at hf
  have hm : gl s = gl s := rfl
  by_cases h : (s.1 9 0) = 0
  · have hf := (if_pos h).symm.trans hf
    obtain ⟨_, hf⟩ := dc_g hf
    by_cases h : ((s.1 4) (Int32.toNatClampNeg ((s.1 8 0)))) = v1
    · have hf := (if_pos h).symm.trans hf
      exact (dc_e hf).trans hm
    · have hf := (if_neg h).symm.trans hf
      exact (mo_M_take_33 N y s hf).trans hm
  · have hf := (if_neg h).symm.trans hf
    exact (mo_M_take_33 N y s hf).trans hm
set_option maxHeartbeats 8000000 in
set_option maxRecDepth 100000 in
theorem ct_M_take (l : Launch) (dC : Nat → ClassId) (dI : Nat → Nat → Nat) (cI cB cJ cZ cQ : ClassId) (N sz : Nat) (h0 : Nat) (a : Nat → Nat) (v1 : Int32) (s : ms) (y : (Unit × ms)) (hf : fn_M_take N v1 s = some y) : Met l yn_M_take (xw yn_M_take bn_M_take 2 none) ({ frames := 2, cells := 0, slots := 0, locals := 42 }) (dc_P (dC, dI) xcl (xt cI cB cJ cZ cQ) [.ref h0, .int v1] sz (wM h0 a cI cB cJ cZ s)) (xk_Qv (dC, dI) xcl (xt cI cB cJ cZ cQ) (fun _ : Unit => True) (fun u : Unit => (wM h0 a cI cB cJ cZ y.2)) (va_A (wM h0 a cI cB cJ cZ s) sz)) 0 0 (va_A (wM h0 a cI cB cJ cZ s) sz) := by
  refine dc_of (QA := xk_Qv (dC, dI) xcl (xt cI cB cJ cZ cQ) (fun _ : Unit => True) (fun u : Unit => (wM h0 a cI cB cJ cZ y.2))) (by decide) (Nat.le_of_ble_eq_true rfl) ?_
  intro p e s0 m below meth c hx hb hml hown hg hr hlocks hin hP hK hN A hA hD hT ls hl
  have hown : s0.vm.findClass rn_M = some m.cls := hown
  obtain ⟨H, hH⟩ : ∃ z, z = s0.heap := ⟨_, rfl⟩
  rw [← hH] at hP
  have hS : va_S A s0.heap H [] := by rw [hH]; exact va_S.rf
  suffices kk : ∀ QQ : State → Prop, QQ = MQ below (xk_Qv (dC, dI) xcl (xt cI cB cJ cZ cQ) (fun _ : Unit => True) (fun u : Unit => (wM h0 a cI cB cJ cZ y.2)) A) [.ref h0, .int v1].toArray s0 0 0 A → dcC p l e ({ frames := 2, cells := 0, slots := 0, locals := 42 }) s0 m [.ref h0, .int v1].toArray below meth c QQ (dC, dI) A (wM h0 a cI cB cJ cZ s) 0 2 [(0, .ref h0), (1, .int v1)] [] by
    have k9 := kk _ rfl H [] ls hP hD hS hl
    rw [hH] at k9; exact k9
  clear hP hD hS hl hH H ls
  intro QQ hQQ
  have bl_33 : ∀ (s : ms), bk_M_take_33 N s = some y → dcC p l e ({ frames := 2, cells := 0, slots := 0, locals := 42 }) s0 m [.ref h0, .int v1].toArray below meth c QQ (dC, dI) A (wM h0 a cI cB cJ cZ s) 33 2 [(0, .ref h0)] [] := by
    intro s hf H locs ls hP hD hS hl
    unfold bk_M_take_33 at hf
    refine lv_aload_n hx hb dn_M_take_33 rfl (lv_at hl 0 rfl) ?_
    obtain ⟨q_1, hc_2, hf⟩ := dc_b hf
    refine dc_callv (dc_runV (ar := 0) (As := []) (rest := []) (ci := 0) (q0 := 0) ⟨hx, hb, hml, hown, hg⟩ hK hN hT hS hA (ct_M_no l dC dI cI cB cJ cZ cQ N H.size h0 a s q_1 hc_2) hP hD rfl rfl wn_9_182 wn_9_184 sn_M_no wn_1_13 wn_9_185 rfl rfl (by decide +kernel) ⟨Nat.le_of_ble_eq_true rfl, Nat.le_of_ble_eq_true rfl⟩ rfl hl.1 rfl (Nat.le_of_ble_eq_true rfl) dn_M_take_34 ⟨Nat.le_of_ble_eq_true rfl, Nat.le_of_ble_eq_true rfl⟩) hP hD hS hA (fun _ H locs hw hP hD hS => ?_)
    rw [hQQ, ← Option.some.inj hf]
    exact xk_vret (w1 := fun u : Unit => (wM h0 a cI cB cJ cZ q_1.2)) () hx hb hr hlocks hK hS dn_M_take_37 hP hD trivial (Nat.le_refl _) (Nat.le_refl _)
  intro H locs ls hP hD hS hl
  unfold fn_M_take at hf
  refine lv_aload_n hx hb dn_M_take_0 rfl (lv_at hl 0 rfl) ?_
  refine va_get (D := (dC, dI)) (ci := 0) (v := .int ((s.1 9 0))) (C := rn_M) (T := fn_M) (N := 91) hx hb hg in_M hown hK hP 0 rfl rfl 9 (by decide) (hg _ wn_8_82) (fun _ h9 => h9) rfl dn_M_take_1 ?_
  refine lv_if_ne (tgt := 33) hx hb dn_M_take_4 (by decide) (fun h => ?_) (fun h => ?_)
  · have hf := (if_neg h).symm.trans hf
    exact bl_33 s hf H locs ls hP hD hS (lv_sub hl [0] rfl)
  · have hf := (if_pos h).symm.trans hf
    refine lv_aload_n hx hb dn_M_take_7 rfl (lv_at hl 0 rfl) ?_
    refine va_get (D := (dC, dI)) (ci := 0) (v := .ref ((a 4))) (C := rn_M) (T := fn_M) (N := 91) hx hb hg in_M hown hK hP 0 rfl rfl 4 (by decide) (hg _ wn_8_77) (fun _ h9 => h9) rfl dn_M_take_8 ?_
    refine lv_aload_n hx hb dn_M_take_11 rfl (lv_at hl 0 rfl) ?_
    refine va_get (D := (dC, dI)) (ci := 0) (v := .int ((s.1 8 0))) (C := rn_M) (T := fn_M) (N := 91) hx hb hg in_M hown hK hP 0 rfl rfl 8 (by decide) (hg _ wn_8_81) (fun _ h9 => h9) rfl dn_M_take_12 ?_
    obtain ⟨hg_1, hf⟩ := dc_g hf
    refine va_iald hx hb hK hP 2 0 rfl rfl hg_1 dn_M_take_15 ?_
    refine xk_ti (y := ((s.1 4) (Int32.toNatClampNeg ((s.1 8 0))))) rfl ?_
    refine lv_iload_n hx hb dn_M_take_16 rfl (lv_at hl 1 rfl) ?_
    refine lv_icmp_ne (tgt := 33) hx hb dn_M_take_17 (by decide) (fun h => ?_) (fun h => ?_)
    · have hf := (if_neg h).symm.trans hf
      exact bl_33 s hf H locs ls hP hD hS (lv_sub hl [0] rfl)
    · have hf := (if_pos h).symm.trans hf
      refine lv_aload_n hx hb dn_M_take_20 rfl (lv_at hl 0 rfl) ?_
      refine lv_dup hx hb dn_M_take_21 rfl ?_
      refine va_get (D := (dC, dI)) (ci := 0) (v := .int ((s.1 8 0))) (C := rn_M) (T := fn_M) (N := 91) hx hb hg in_M hown hK hP 0 rfl rfl 8 (by decide) (hg _ wn_8_81) (fun _ h9 => h9) rfl dn_M_take_22 ?_
      refine lv_iconst (v := 1) hx hb dn_M_take_25 (by decide) ?_
      refine lv_iadd hx hb dn_M_take_26 ?_
      refine va_put (D := (dC, dI)) (ci := 0) (v := .int (((s.1 8 0) + 1))) (ty := .int) (C := rn_M) (T := fn_M) (N := 91) hx hb hg in_M tn_M tk_M nn_M hown hK hP hD hS 0 rfl rfl 8 (by decide) (hg _ wn_8_81) (fun _ h9 => h9) rfl (tk_M 8 (by decide)) rfl rfl (Nat.le_of_ble_eq_true rfl) dn_M_take_27 (fun H locs hP hD hS => ?_)
      have hP := wM_P_8 hP
      have hD := wM_D_8 hD
      refine lv_goto (tgt := 37) hx hb dn_M_take_30 (by decide) ?_
      rw [hQQ, ← Option.some.inj hf]
      exact xk_vret (w1 := fun u : Unit => (wM h0 a cI cB cJ cZ (upI s 8 (fun _ => ((s.1 8 0) + 1))))) () hx hb hr hlocks hK hS dn_M_take_37 hP hD trivial (Nat.le_refl _) (Nat.le_refl _)
theorem mn_M_is (N : Nat) (v1 : Int32) (s : ms) (y : (Int32 × ms)) (hf : fn_M_is N v1 s = some y) : gl y.2 = gl s := by
  unfold fn_M_is at hf
  have hm : gl s = gl s := rfl
  by_cases h : (s.1 9 0) = 0
  · have hf := (if_pos h).symm.trans hf
    obtain ⟨_, hf⟩ := dc_g hf
    by_cases h : ((s.1 4) (Int32.toNatClampNeg ((s.1 8 0)))) = v1
    · have hf := (if_pos h).symm.trans hf
      exact (dc_e hf).trans hm
    · have hf := (if_neg h).symm.trans hf
      exact (dc_e hf).trans hm
  · have hf := (if_neg h).symm.trans hf
    exact (dc_e hf).trans hm
set_option maxHeartbeats 8000000 in
set_option maxRecDepth 100000 in
theorem ct_M_is (l : Launch) (dC : Nat → ClassId) (dI : Nat → Nat → Nat) (cI cB cJ cZ cQ : ClassId) (N sz : Nat) (h0 : Nat) (a : Nat → Nat) (v1 : Int32) (s : ms) (y : (Int32 × ms)) (hf : fn_M_is N v1 s = some y) : Met l yn_M_is (xw yn_M_is bn_M_is 2 (some .boolean)) ({ frames := 0, cells := 0, slots := 0, locals := 0 }) (dc_P (dC, dI) xcl (xt cI cB cJ cZ cQ) [.ref h0, .int v1] sz (wM h0 a cI cB cJ cZ s)) (xk_Qi (dC, dI) xcl (xt cI cB cJ cZ cQ) (fun (r : Int32) (_ : Unit) => r = y.1) (fun u : Unit => (wM h0 a cI cB cJ cZ y.2)) (va_A (wM h0 a cI cB cJ cZ s) sz)) 0 0 (va_A (wM h0 a cI cB cJ cZ s) sz) := by
  refine dc_of (QA := xk_Qi (dC, dI) xcl (xt cI cB cJ cZ cQ) (fun (r : Int32) (_ : Unit) => r = y.1) (fun u : Unit => (wM h0 a cI cB cJ cZ y.2))) (by decide) (Nat.le_of_ble_eq_true rfl) ?_
  intro p e s0 m below meth c hx hb hml hown hg hr hlocks hin hP hK hN A hA hD hT ls hl
  have hown : s0.vm.findClass rn_M = some m.cls := hown
  obtain ⟨H, hH⟩ : ∃ z, z = s0.heap := ⟨_, rfl⟩
  rw [← hH] at hP
  have hS : va_S A s0.heap H [] := by rw [hH]; exact va_S.rf
  suffices kk : ∀ QQ : State → Prop, QQ = MQ below (xk_Qi (dC, dI) xcl (xt cI cB cJ cZ cQ) (fun (r : Int32) (_ : Unit) => r = y.1) (fun u : Unit => (wM h0 a cI cB cJ cZ y.2)) A) [.ref h0, .int v1].toArray s0 0 0 A → dcC p l e ({ frames := 0, cells := 0, slots := 0, locals := 0 }) s0 m [.ref h0, .int v1].toArray below meth c QQ (dC, dI) A (wM h0 a cI cB cJ cZ s) 0 2 [(0, .ref h0), (1, .int v1)] [] by
    have k9 := kk _ rfl H [] ls hP hD hS hl
    rw [hH] at k9; exact k9
  clear hP hD hS hl hH H ls
  intro QQ hQQ
  intro H locs ls hP hD hS hl
  unfold fn_M_is at hf
  refine lv_aload_n hx hb dn_M_is_0 rfl (lv_at hl 0 rfl) ?_
  refine va_get (D := (dC, dI)) (ci := 0) (v := .int ((s.1 9 0))) (C := rn_M) (T := fn_M) (N := 91) hx hb hg in_M hown hK hP 0 rfl rfl 9 (by decide) (hg _ wn_8_82) (fun _ h9 => h9) rfl dn_M_is_1 ?_
  refine lv_if_ne (tgt := 24) hx hb dn_M_is_4 (by decide) (fun h => ?_) (fun h => ?_)
  · have hf := (if_neg h).symm.trans hf
    refine lv_iconst (v := 0) hx hb dn_M_is_24 (by decide) ?_
    rw [hQQ, ← Option.some.inj hf]
    exact xk_zret (w1 := fun u : Unit => (wM h0 a cI cB cJ cZ s)) () hx hb hr rfl hlocks hK hS dn_M_is_25 hP hD rfl (Nat.le_refl _) (Nat.le_refl _)
  · have hf := (if_pos h).symm.trans hf
    refine lv_aload_n hx hb dn_M_is_7 rfl (lv_at hl 0 rfl) ?_
    refine va_get (D := (dC, dI)) (ci := 0) (v := .ref ((a 4))) (C := rn_M) (T := fn_M) (N := 91) hx hb hg in_M hown hK hP 0 rfl rfl 4 (by decide) (hg _ wn_8_77) (fun _ h9 => h9) rfl dn_M_is_8 ?_
    refine lv_aload_n hx hb dn_M_is_11 rfl (lv_at hl 0 rfl) ?_
    refine va_get (D := (dC, dI)) (ci := 0) (v := .int ((s.1 8 0))) (C := rn_M) (T := fn_M) (N := 91) hx hb hg in_M hown hK hP 0 rfl rfl 8 (by decide) (hg _ wn_8_81) (fun _ h9 => h9) rfl dn_M_is_12 ?_
    obtain ⟨hg_1, hf⟩ := dc_g hf
    refine va_iald hx hb hK hP 2 0 rfl rfl hg_1 dn_M_is_15 ?_
    refine xk_ti (y := ((s.1 4) (Int32.toNatClampNeg ((s.1 8 0))))) rfl ?_
    refine lv_iload_n hx hb dn_M_is_16 rfl (lv_at hl 1 rfl) ?_
    refine lv_icmp_ne (tgt := 24) hx hb dn_M_is_17 (by decide) (fun h => ?_) (fun h => ?_)
    · have hf := (if_neg h).symm.trans hf
      refine lv_iconst (v := 0) hx hb dn_M_is_24 (by decide) ?_
      rw [hQQ, ← Option.some.inj hf]
      exact xk_zret (w1 := fun u : Unit => (wM h0 a cI cB cJ cZ s)) () hx hb hr rfl hlocks hK hS dn_M_is_25 hP hD rfl (Nat.le_refl _) (Nat.le_refl _)
    · have hf := (if_pos h).symm.trans hf
      refine lv_iconst (v := 1) hx hb dn_M_is_20 (by decide) ?_
      refine lv_goto (tgt := 25) hx hb dn_M_is_21 (by decide) ?_
      rw [hQQ, ← Option.some.inj hf]
      exact xk_zret (w1 := fun u : Unit => (wM h0 a cI cB cJ cZ s)) () hx hb hr rfl hlocks hK hS dn_M_is_25 hP hD rfl (Nat.le_refl _) (Nat.le_refl _)
theorem mo_M_open_41 (N : Nat) (y : (Unit × ms)) (x1 : Int32) (s : ms) (hf : bk_M_open_41 N x1 s = some y) : gl y.2 = gl s := by
  unfold bk_M_open_41 at hf
  have hm : gl s = gl s := rfl
  obtain ⟨q_1, hc_2, hf⟩ := dc_b hf
  have hm := (mn_M_take N x1 s q_1 hc_2).trans hm
  exact (dc_e hf).trans hm
theorem mn_M_open (N : Nat) (v1 : Int32) (s : ms) (y : (Unit × ms)) (hf : fn_M_open N v1 s = some y) : gl y.2 = gl s := by
  unfold fn_M_open at hf
  have hm : gl s = gl s := rfl
  obtain ⟨q_1, hc_2, hf⟩ := dc_b hf
  have hm := (mn_M_is N v1 s q_1 hc_2).trans hm
  by_cases h : q_1.1 = 0
  · have hf := (if_pos h).symm.trans hf
    exact (mo_M_open_41 N y v1 q_1.2 hf).trans hm
  · have hf := (if_neg h).symm.trans hf
    by_cases h : ((q_1.2.1 11 0) + 1) ≤ 60
    · have hf := (if_pos h).symm.trans hf
      exact (mo_M_open_41 N y v1 (upI q_1.2 11 (fun _ => ((q_1.2.1 11 0) + 1))) hf).trans hm
    · have hf := (if_neg h).symm.trans hf
      obtain ⟨_, hf⟩ := dc_g hf
      obtain ⟨q_5, hc_6, hf⟩ := dc_b hf
      have hm := (mn_M_fail N 3 (((q_1.2.1 5) (Int32.toNatClampNeg ((q_1.2.1 8 0))))) (upI q_1.2 11 (fun _ => ((q_1.2.1 11 0) + 1))) q_5 hc_6).trans hm
      exact (mo_M_open_41 N y v1 q_5.2 hf).trans hm
set_option maxHeartbeats 8000000 in
set_option maxRecDepth 100000 in
theorem ct_M_open (l : Launch) (dC : Nat → ClassId) (dI : Nat → Nat → Nat) (cI cB cJ cZ cQ : ClassId) (N sz : Nat) (h0 : Nat) (a : Nat → Nat) (v1 : Int32) (s : ms) (y : (Unit × ms)) (hf : fn_M_open N v1 s = some y) : Met l yn_M_open (xw yn_M_open bn_M_open 2 none) ({ frames := 3, cells := 0, slots := 0, locals := 63 }) (dc_P (dC, dI) xcl (xt cI cB cJ cZ cQ) [.ref h0, .int v1] sz (wM h0 a cI cB cJ cZ s)) (xk_Qv (dC, dI) xcl (xt cI cB cJ cZ cQ) (fun _ : Unit => True) (fun u : Unit => (wM h0 a cI cB cJ cZ y.2)) (va_A (wM h0 a cI cB cJ cZ s) sz)) 0 0 (va_A (wM h0 a cI cB cJ cZ s) sz) := by
  refine dc_of (QA := xk_Qv (dC, dI) xcl (xt cI cB cJ cZ cQ) (fun _ : Unit => True) (fun u : Unit => (wM h0 a cI cB cJ cZ y.2))) (by decide) (Nat.le_of_ble_eq_true rfl) ?_
  intro p e s0 m below meth c hx hb hml hown hg hr hlocks hin hP hK hN A hA hD hT ls hl
  have hown : s0.vm.findClass rn_M = some m.cls := hown
  obtain ⟨H, hH⟩ : ∃ z, z = s0.heap := ⟨_, rfl⟩
  rw [← hH] at hP
  have hS : va_S A s0.heap H [] := by rw [hH]; exact va_S.rf
  suffices kk : ∀ QQ : State → Prop, QQ = MQ below (xk_Qv (dC, dI) xcl (xt cI cB cJ cZ cQ) (fun _ : Unit => True) (fun u : Unit => (wM h0 a cI cB cJ cZ y.2)) A) [.ref h0, .int v1].toArray s0 0 0 A → dcC p l e ({ frames := 3, cells := 0, slots := 0, locals := 63 }) s0 m [.ref h0, .int v1].toArray below meth c QQ (dC, dI) A (wM h0 a cI cB cJ cZ s) 0 2 [(0, .ref h0), (1, .int v1)] [] by
    have k9 := kk _ rfl H [] ls hP hD hS hl
    rw [hH] at k9; exact k9
  clear hP hD hS hl hH H ls
  intro QQ hQQ
  have bl_41 : ∀ (x1 : Int32) (s : ms), bk_M_open_41 N x1 s = some y → dcC p l e ({ frames := 3, cells := 0, slots := 0, locals := 63 }) s0 m [.ref h0, .int v1].toArray below meth c QQ (dC, dI) A (wM h0 a cI cB cJ cZ s) 41 2 [(0, .ref h0), (1, .int x1)] [] := by
    intro x1 s hf H locs ls hP hD hS hl
    unfold bk_M_open_41 at hf
    refine lv_aload_n hx hb dn_M_open_41 rfl (lv_at hl 0 rfl) ?_
    refine lv_iload_n hx hb dn_M_open_42 rfl (lv_at hl 1 rfl) ?_
    obtain ⟨q_1, hc_2, hf⟩ := dc_b hf
    refine dc_callv (dc_runV (ar := 1) (As := [.int x1]) (rest := []) (ci := 0) (q0 := 0) ⟨hx, hb, hml, hown, hg⟩ hK hN hT hS hA (ct_M_take l dC dI cI cB cJ cZ cQ N H.size h0 a x1 s q_1 hc_2) hP hD rfl rfl wn_9_178 wn_9_180 sn_M_take wn_1_13 wn_9_181 rfl rfl (by decide +kernel) ⟨Nat.le_of_ble_eq_true rfl, Nat.le_of_ble_eq_true rfl⟩ rfl hl.1 rfl (Nat.le_of_ble_eq_true rfl) dn_M_open_43 ⟨Nat.le_of_ble_eq_true rfl, Nat.le_of_ble_eq_true rfl⟩) hP hD hS hA (fun _ H locs hw hP hD hS => ?_)
    rw [hQQ, ← Option.some.inj hf]
    exact xk_vret (w1 := fun u : Unit => (wM h0 a cI cB cJ cZ q_1.2)) () hx hb hr hlocks hK hS dn_M_open_46 hP hD trivial (Nat.le_refl _) (Nat.le_refl _)
  intro H locs ls hP hD hS hl
  unfold fn_M_open at hf
  refine lv_aload_n hx hb dn_M_open_0 rfl (lv_at hl 0 rfl) ?_
  refine lv_iload_n hx hb dn_M_open_1 rfl (lv_at hl 1 rfl) ?_
  obtain ⟨q_1, hc_2, hf⟩ := dc_b hf
  refine dc_calli (dc_runV (ar := 1) (As := [.int v1]) (rest := []) (ci := 0) (q0 := 0) ⟨hx, hb, hml, hown, hg⟩ hK hN hT hS hA (ct_M_is l dC dI cI cB cJ cZ cQ N H.size h0 a v1 s q_1 hc_2) hP hD rfl rfl wn_9_194 wn_9_196 sn_M_is wn_1_13 wn_9_197 rfl rfl (by decide +kernel) ⟨Nat.le_of_ble_eq_true rfl, Nat.le_of_ble_eq_true rfl⟩ rfl hl.1 rfl (Nat.le_of_ble_eq_true rfl) dn_M_open_2 ⟨Nat.le_of_ble_eq_true rfl, Nat.le_of_ble_eq_true rfl⟩) hP hD hS hA (fun r_3 _ H locs hw hP hD hS => ?_)
  have hw : r_3 = q_1.1 := hw
  subst hw
  refine lv_if_eq (tgt := 41) hx hb dn_M_open_5 (by decide) (fun h => ?_) (fun h => ?_)
  · have hf := (if_pos h).symm.trans hf
    exact bl_41 v1 q_1.2 hf H locs ls hP hD hS hl
  · have hf := (if_neg h).symm.trans hf
    refine lv_aload_n hx hb dn_M_open_8 rfl (lv_at hl 0 rfl) ?_
    refine lv_dup hx hb dn_M_open_9 rfl ?_
    refine va_get (D := (dC, dI)) (ci := 0) (v := .int ((q_1.2.1 11 0))) (C := rn_M) (T := fn_M) (N := 91) hx hb hg in_M hown hK hP 0 rfl rfl 11 (by decide) (hg _ wn_8_84) (fun _ h9 => h9) rfl dn_M_open_10 ?_
    refine lv_iconst (v := 1) hx hb dn_M_open_13 (by decide) ?_
    refine lv_iadd hx hb dn_M_open_14 ?_
    refine va_put (D := (dC, dI)) (ci := 0) (v := .int (((q_1.2.1 11 0) + 1))) (ty := .int) (C := rn_M) (T := fn_M) (N := 91) hx hb hg in_M tn_M tk_M nn_M hown hK hP hD hS 0 rfl rfl 11 (by decide) (hg _ wn_8_84) (fun _ h9 => h9) rfl (tk_M 11 (by decide)) rfl rfl (Nat.le_of_ble_eq_true rfl) dn_M_open_15 (fun H locs hP hD hS => ?_)
    have hP := wM_P_11 hP
    have hD := wM_D_11 hD
    refine lv_aload_n hx hb dn_M_open_18 rfl (lv_at hl 0 rfl) ?_
    refine va_get (D := (dC, dI)) (ci := 0) (v := .int (((q_1.2.1 11 0) + 1))) (C := rn_M) (T := fn_M) (N := 91) hx hb hg in_M hown hK hP 0 rfl rfl 11 (by decide) (hg _ wn_8_84) (fun _ h9 => h9) rfl dn_M_open_19 ?_
    refine lv_bipush (v := 60) hx hb dn_M_open_22 (by decide) ?_
    refine lv_icmp_le (tgt := 41) hx hb dn_M_open_24 (by decide) (fun h => ?_) (fun h => ?_)
    · have hf := (if_pos h).symm.trans hf
      exact bl_41 v1 (upI q_1.2 11 (fun _ => ((q_1.2.1 11 0) + 1))) hf H locs ls hP hD hS hl
    · have hf := (if_neg h).symm.trans hf
      refine lv_aload_n hx hb dn_M_open_27 rfl (lv_at hl 0 rfl) ?_
      refine lv_iconst (v := 3) hx hb dn_M_open_28 (by decide) ?_
      refine lv_aload_n hx hb dn_M_open_29 rfl (lv_at hl 0 rfl) ?_
      refine va_get (D := (dC, dI)) (ci := 0) (v := .ref ((a 5))) (C := rn_M) (T := fn_M) (N := 91) hx hb hg in_M hown hK hP 0 rfl rfl 5 (by decide) (hg _ wn_8_78) (fun _ h9 => h9) rfl dn_M_open_30 ?_
      refine lv_aload_n hx hb dn_M_open_33 rfl (lv_at hl 0 rfl) ?_
      refine va_get (D := (dC, dI)) (ci := 0) (v := .int ((q_1.2.1 8 0))) (C := rn_M) (T := fn_M) (N := 91) hx hb hg in_M hown hK hP 0 rfl rfl 8 (by decide) (hg _ wn_8_81) (fun _ h9 => h9) rfl dn_M_open_34 ?_
      obtain ⟨hg_4, hf⟩ := dc_g hf
      refine va_iald hx hb hK hP 3 0 rfl rfl hg_4 dn_M_open_37 ?_
      refine xk_ti (y := ((q_1.2.1 5) (Int32.toNatClampNeg ((q_1.2.1 8 0))))) rfl ?_
      obtain ⟨q_5, hc_6, hf⟩ := dc_b hf
      refine dc_callv (dc_runV (ar := 2) (As := [.int 3, .int (((q_1.2.1 5) (Int32.toNatClampNeg ((q_1.2.1 8 0)))))]) (rest := []) (ci := 0) (q0 := 0) ⟨hx, hb, hml, hown, hg⟩ hK hN hT hS hA (ct_M_fail l dC dI cI cB cJ cZ cQ N H.size h0 a 3 (((q_1.2.1 5) (Int32.toNatClampNeg ((q_1.2.1 8 0))))) (upI q_1.2 11 (fun _ => ((q_1.2.1 11 0) + 1))) q_5 hc_6) hP hD rfl rfl wn_9_186 wn_9_188 sn_M_fail wn_1_13 wn_9_189 rfl rfl (by decide +kernel) ⟨Nat.le_of_ble_eq_true rfl, Nat.le_of_ble_eq_true rfl⟩ rfl hl.1 rfl (Nat.le_of_ble_eq_true rfl) dn_M_open_38 ⟨Nat.le_of_ble_eq_true rfl, Nat.le_of_ble_eq_true rfl⟩) hP hD hS hA (fun _ H locs hw hP hD hS => ?_)
      exact bl_41 v1 q_5.2 hf H locs ls hP hD hS hl
theorem mn_M_shut (N : Nat) (v1 : Int32) (s : ms) (y : (Unit × ms)) (hf : fn_M_shut N v1 s = some y) : gl y.2 = gl s := by
  unfold fn_M_shut at hf
  have hm : gl s = gl s := rfl
  obtain ⟨q_1, hc_2, hf⟩ := dc_b hf
  have hm := (mn_M_take N v1 s q_1 hc_2).trans hm
  exact (dc_e hf).trans hm
set_option maxHeartbeats 8000000 in
set_option maxRecDepth 100000 in
theorem ct_M_shut (l : Launch) (dC : Nat → ClassId) (dI : Nat → Nat → Nat) (cI cB cJ cZ cQ : ClassId) (N sz : Nat) (h0 : Nat) (a : Nat → Nat) (v1 : Int32) (s : ms) (y : (Unit × ms)) (hf : fn_M_shut N v1 s = some y) : Met l yn_M_shut (xw yn_M_shut bn_M_shut 2 none) ({ frames := 3, cells := 0, slots := 0, locals := 63 }) (dc_P (dC, dI) xcl (xt cI cB cJ cZ cQ) [.ref h0, .int v1] sz (wM h0 a cI cB cJ cZ s)) (xk_Qv (dC, dI) xcl (xt cI cB cJ cZ cQ) (fun _ : Unit => True) (fun u : Unit => (wM h0 a cI cB cJ cZ y.2)) (va_A (wM h0 a cI cB cJ cZ s) sz)) 0 0 (va_A (wM h0 a cI cB cJ cZ s) sz) := by
  refine dc_of (QA := xk_Qv (dC, dI) xcl (xt cI cB cJ cZ cQ) (fun _ : Unit => True) (fun u : Unit => (wM h0 a cI cB cJ cZ y.2))) (by decide) (Nat.le_of_ble_eq_true rfl) ?_
  intro p e s0 m below meth c hx hb hml hown hg hr hlocks hin hP hK hN A hA hD hT ls hl
  have hown : s0.vm.findClass rn_M = some m.cls := hown
  obtain ⟨H, hH⟩ : ∃ z, z = s0.heap := ⟨_, rfl⟩
  rw [← hH] at hP
  have hS : va_S A s0.heap H [] := by rw [hH]; exact va_S.rf
  suffices kk : ∀ QQ : State → Prop, QQ = MQ below (xk_Qv (dC, dI) xcl (xt cI cB cJ cZ cQ) (fun _ : Unit => True) (fun u : Unit => (wM h0 a cI cB cJ cZ y.2)) A) [.ref h0, .int v1].toArray s0 0 0 A → dcC p l e ({ frames := 3, cells := 0, slots := 0, locals := 63 }) s0 m [.ref h0, .int v1].toArray below meth c QQ (dC, dI) A (wM h0 a cI cB cJ cZ s) 0 2 [(0, .ref h0), (1, .int v1)] [] by
    have k9 := kk _ rfl H [] ls hP hD hS hl
    rw [hH] at k9; exact k9
  clear hP hD hS hl hH H ls
  intro QQ hQQ
  intro H locs ls hP hD hS hl
  unfold fn_M_shut at hf
  refine lv_aload_n hx hb dn_M_shut_0 rfl (lv_at hl 0 rfl) ?_
  refine lv_iload_n hx hb dn_M_shut_1 rfl (lv_at hl 1 rfl) ?_
  obtain ⟨q_1, hc_2, hf⟩ := dc_b hf
  refine dc_callv (dc_runV (ar := 1) (As := [.int v1]) (rest := []) (ci := 0) (q0 := 0) ⟨hx, hb, hml, hown, hg⟩ hK hN hT hS hA (ct_M_take l dC dI cI cB cJ cZ cQ N H.size h0 a v1 s q_1 hc_2) hP hD rfl rfl wn_9_178 wn_9_180 sn_M_take wn_1_13 wn_9_181 rfl rfl (by decide +kernel) ⟨Nat.le_of_ble_eq_true rfl, Nat.le_of_ble_eq_true rfl⟩ rfl hl.1 rfl (Nat.le_of_ble_eq_true rfl) dn_M_shut_2 ⟨Nat.le_of_ble_eq_true rfl, Nat.le_of_ble_eq_true rfl⟩) hP hD hS hA (fun _ H locs hw hP hD hS => ?_)
  refine lv_aload_n hx hb dn_M_shut_5 rfl (lv_at hl 0 rfl) ?_
  refine lv_dup hx hb dn_M_shut_6 rfl ?_
  refine va_get (D := (dC, dI)) (ci := 0) (v := .int ((q_1.2.1 11 0))) (C := rn_M) (T := fn_M) (N := 91) hx hb hg in_M hown hK hP 0 rfl rfl 11 (by decide) (hg _ wn_8_84) (fun _ h9 => h9) rfl dn_M_shut_7 ?_
  refine lv_iconst (v := 1) hx hb dn_M_shut_10 (by decide) ?_
  refine lv_isub hx hb dn_M_shut_11 ?_
  refine va_put (D := (dC, dI)) (ci := 0) (v := .int (((q_1.2.1 11 0) - 1))) (ty := .int) (C := rn_M) (T := fn_M) (N := 91) hx hb hg in_M tn_M tk_M nn_M hown hK hP hD hS 0 rfl rfl 11 (by decide) (hg _ wn_8_84) (fun _ h9 => h9) rfl (tk_M 11 (by decide)) rfl rfl (Nat.le_of_ble_eq_true rfl) dn_M_shut_12 (fun H locs hP hD hS => ?_)
  have hP := wM_P_11 hP
  have hD := wM_D_11 hD
  rw [hQQ, ← Option.some.inj hf]
  exact xk_vret (w1 := fun u : Unit => (wM h0 a cI cB cJ cZ (upI q_1.2 11 (fun _ => ((q_1.2.1 11 0) - 1))))) () hx hb hr hlocks hK hS dn_M_shut_15 hP hD trivial (Nat.le_refl _) (Nat.le_refl _)
