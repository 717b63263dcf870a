def rn_Arrays : String := "java/util/Arrays"
def yn_Arrays_fill : MethodName := ⟨rn_Arrays, "fill", "([II)V"⟩
abbrev bn_Arrays_fill : ByteArray := prog_29_method_103_code
/-! java.util.Arrays.fill of a row of 256 ints. By hand. -/
theorem xk_fill0 (x : Int32) (g : Nat → Int32) : xk_fillv 0 x g = g := by funext k; simp [xk_fillv]
theorem xk_fillS (i : Nat) (x : Int32) (g : Nat → Int32) : upd (xk_fillv i x g) i x = xk_fillv (i + 1) x g := by
  funext k
  simp only [upd, xk_fillv]
  by_cases h1 : k = i
  · subst h1; simp
  · rw [if_neg h1]
    by_cases h2 : k < i
    · rw [if_pos h2, if_pos (by omega)]
    · rw [if_neg h2, if_neg (by omega)]
theorem dn_Arrays_fill_0 : decode bn_Arrays_fill 0 = .ok (.iconst 0, 1) := by decide +kernel
theorem dn_Arrays_fill_1 : decode bn_Arrays_fill 1 = .ok (.istore_n 2, 1) := by decide +kernel
theorem dn_Arrays_fill_2 : decode bn_Arrays_fill 2 = .ok (.aload_n 0, 1) := by decide +kernel
theorem dn_Arrays_fill_3 : decode bn_Arrays_fill 3 = .ok (.arraylength, 1) := by decide +kernel
theorem dn_Arrays_fill_4 : decode bn_Arrays_fill 4 = .ok (.istore_n 3, 1) := by decide +kernel
theorem dn_Arrays_fill_5 : decode bn_Arrays_fill 5 = .ok (.iload_n 2, 1) := by decide +kernel
theorem dn_Arrays_fill_6 : decode bn_Arrays_fill 6 = .ok (.iload_n 3, 1) := by decide +kernel
theorem dn_Arrays_fill_7 : decode bn_Arrays_fill 7 = .ok (.if_icmp .ge 13, 3) := by decide +kernel
theorem dn_Arrays_fill_10 : decode bn_Arrays_fill 10 = .ok (.aload_n 0, 1) := by decide +kernel
theorem dn_Arrays_fill_11 : decode bn_Arrays_fill 11 = .ok (.iload_n 2, 1) := by decide +kernel
theorem dn_Arrays_fill_12 : decode bn_Arrays_fill 12 = .ok (.iload_n 1, 1) := by decide +kernel
theorem dn_Arrays_fill_13 : decode bn_Arrays_fill 13 = .ok (.iastore, 1) := by decide +kernel
theorem dn_Arrays_fill_14 : decode bn_Arrays_fill 14 = .ok (.iinc 2 1, 3) := by decide +kernel
theorem dn_Arrays_fill_17 : decode bn_Arrays_fill 17 = .ok (.goto (-12), 3) := by decide +kernel
theorem dn_Arrays_fill_20 : decode bn_Arrays_fill 20 = .ok (.return_, 1) := by decide +kernel
theorem upI_upI (s : ms) (k : Nat) (g h : Nat → Int32) : upI (upI s k g) k h = upI s k h := by
  unfold upI
  congr 1
  funext j
  by_cases e : j = k
  · simp [e]
  · simp [e]
theorem upI_id (s : ms) (k : Nat) : upI s k (s.1 k) = s := by
  unfold upI
  have e : (fun j => if j = k then s.1 k else s.1 j) = s.1 := by
    funext j
    by_cases e : j = k
    · subst e; simp
    · simp [e]
  rw [e]
set_option maxHeartbeats 4000000 in
theorem ct_fill (l : Launch) (dC : Nat → ClassId) (dI : Nat → Nat → Nat) (cI cB cJ cZ cQ : ClassId) (N sz : Nat) (a : Nat → Nat) (v : Nat → Value) (x0 : Int32) (s : ms) : Met l yn_Arrays_fill (xw yn_Arrays_fill bn_Arrays_fill 4 none) ({ frames := 0, cells := 0, slots := 0, locals := 0 }) (dc_P (dC, dI) xcl (xt cI cB cJ cZ cQ) [.ref (a 224), .int x0] sz (wC a v cI cB cJ cZ cQ s)) (xk_Qv (dC, dI) xcl (xt cI cB cJ cZ cQ) (fun _ : Unit => True) (fun _ : Unit => (wC a v cI cB cJ cZ cQ (upI s 224 (xk_fillv 256 x0 (s.1 224))))) (va_A (wC a v cI cB cJ cZ cQ s) sz)) 0 0 (va_A (wC a v cI cB cJ cZ cQ s) sz) := by
  refine dc_of (QA := xk_Qv (dC, dI) xcl (xt cI cB cJ cZ cQ) (fun _ : Unit => True) (fun _ : Unit => (wC a v cI cB cJ cZ cQ (upI s 224 (xk_fillv 256 x0 (s.1 224)))))) (by decide) (Nat.le_of_ble_eq_true rfl) ?_
  intro p e s0 m below meth c hx hb hml hown hg hr hlocks hin hP hK hN A hA hD hT ls hl
  have hl : lv_has ls 4 [(0, .ref (a 224)), (1, .int x0)] := hl
  obtain ⟨H, hH⟩ : ∃ z, z = s0.heap := ⟨_, rfl⟩
  rw [← hH] at hP
  have hS : va_S A s0.heap H [] := by rw [hH]; exact va_S.rf
  suffices kk : ∀ QQ : State → Prop, QQ = MQ below (xk_Qv (dC, dI) xcl (xt cI cB cJ cZ cQ) (fun _ : Unit => True) (fun _ : Unit => (wC a v cI cB cJ cZ cQ (upI s 224 (xk_fillv 256 x0 (s.1 224))))) A) [.ref (a 224), .int x0].toArray s0 0 0 A → W p l e ({ frames := 0, cells := 0, slots := 0, locals := 0 }) s0 m [.ref (a 224), .int x0].toArray below meth c H [] 0 0 QQ (F0 m 0 ls []) by
    have k9 := kk _ rfl
    rw [hH] at k9; exact k9
  intro QQ hQQ
  refine lv_iconst (v := 0) hx hb dn_Arrays_fill_0 (by decide) ?_
  refine lv_istore_n (lv' := [(2, .int 0), (0, .ref (a 224)), (1, .int x0)]) hx hb dn_Arrays_fill_1 rfl hl (by decide) rfl (fun ls hl => ?_)
  refine lv_aload_n hx hb dn_Arrays_fill_2 rfl (lv_at hl 1 rfl) ?_
  refine va_alen (v := nI 256) hx hb hK hP 17 0 rfl rfl rfl dn_Arrays_fill_3 ?_
  refine lv_istore_n (lv' := [(3, .int (nI 256)), (2, .int (nI 0)), (0, .ref (a 224)), (1, .int x0)]) hx hb dn_Arrays_fill_4 rfl hl (by decide) rfl (fun ls hl => ?_)
  have loop : ∀ (d i : Nat) (H : Heap) (locs : List Loc) (ls : Array Slot), i + d = 256 → va_P (dC, dI) xcl (wC a v cI cB cJ cZ cQ (upI s 224 (xk_fillv i x0 (s.1 224)))) H → va_D A (wC a v cI cB cJ cZ cQ (upI s 224 (xk_fillv i x0 (s.1 224)))) → va_S A s0.heap H locs → lv_has ls 4 [(3, .int (nI 256)), (2, .int (nI i)), (0, .ref (a 224)), (1, .int x0)] → W p l e ({ frames := 0, cells := 0, slots := 0, locals := 0 }) s0 m [.ref (a 224), .int x0].toArray below meth c H locs 0 0 QQ (F0 m 5 ls []) := by
    intro d
    induction d with
    | zero =>
      intro i H locs ls hi hP hD hS hl
      have hi : i = 256 := by omega
      subst hi
      refine lv_iload_n hx hb dn_Arrays_fill_5 rfl (lv_at hl 1 rfl) ?_
      refine lv_iload_n hx hb dn_Arrays_fill_6 rfl (lv_at hl 0 rfl) ?_
      refine lv_icmp_ge (tgt := 20) hx hb dn_Arrays_fill_7 (by decide) (fun _ => ?_) (fun h9 => absurd (by decide) h9)
      rw [hQQ]
      exact xk_vret (w1 := fun _ : Unit => (wC a v cI cB cJ cZ cQ (upI s 224 (xk_fillv 256 x0 (s.1 224))))) () hx hb hr hlocks hK hS dn_Arrays_fill_20 hP hD trivial (Nat.le_refl _) (Nat.le_refl _)
    | succ d ih =>
      intro i H locs ls hi hP hD hS hl
      refine lv_iload_n hx hb dn_Arrays_fill_5 rfl (lv_at hl 1 rfl) ?_
      refine lv_iload_n hx hb dn_Arrays_fill_6 rfl (lv_at hl 0 rfl) ?_
      refine lv_icmp_ge (tgt := 20) hx hb dn_Arrays_fill_7 (by decide) (fun h9 => absurd h9 (nI_ge (by omega) (by decide))) (fun _ => ?_)
      refine lv_aload_n hx hb dn_Arrays_fill_10 rfl (lv_at hl 2 rfl) ?_
      refine lv_iload_n hx hb dn_Arrays_fill_11 rfl (lv_at hl 1 rfl) ?_
      refine lv_iload_n hx hb dn_Arrays_fill_12 rfl (lv_at hl 3 rfl) ?_
      refine va_iast hx hb hK hP hD hS 17 0 rfl rfl (vp_in_nI (by omega) (by decide)) dn_Arrays_fill_13 (fun H locs hP hD hS => ?_)
      rw [nI_clamp (show i < 2 ^ 31 by omega)] at hP hD
      have hP : va_P (dC, dI) xcl ((wC a v cI cB cJ cZ cQ (upI s 224 (xk_fillv i x0 (s.1 224)))).set 17 (a 224, .inl (cI, 256, .inl (upd (xk_fillv i x0 (s.1 224)) i x0)))) H := hP
      have hD : va_D A ((wC a v cI cB cJ cZ cQ (upI s 224 (xk_fillv i x0 (s.1 224)))).set 17 (a 224, .inl (cI, 256, .inl (upd (xk_fillv i x0 (s.1 224)) i x0)))) := hD
      rw [xk_fillS] at hP hD
      have hP := wC_P_224 hP
      have hD := wC_D_224 hD
      rw [upI_upI] at hP hD
      refine lv_iinc (v := nI (i + 1)) (lv' := [(2, .int (nI (i + 1))), (3, .int (nI 256)), (0, .ref (a 224)), (1, .int x0)]) hx hb dn_Arrays_fill_14 hl (k := 1) rfl (nI_succ i).symm (by decide) rfl (fun ls hl => ?_)
      refine lv_goto (tgt := 5) hx hb dn_Arrays_fill_17 (by decide) ?_
      exact ih (i + 1) H locs ls (by omega) hP hD hS (lv_sub hl [1, 0, 2, 3] rfl)
  have e0 : upI s 224 (xk_fillv 0 x0 (s.1 224)) = s := by rw [xk_fill0]; exact upI_id s 224
  exact loop 256 0 H _ ls rfl (by rw [e0]; exact hP) (by rw [e0]; exact hD) hS hl
