set_option maxHeartbeats 8000000 in
set_option maxRecDepth 100000 in
/-- THE LAW, from its entry, for a launch without stack traces -/
theorem whole_start {p : Program} {e : Env} {s : State} {m : MethodId} {below : List Frame} {meth : Method} {c : Code} (l : Launch) (hlt : l.stackTraces = false) {b L : Nat} {xs : Nat → Int32} (hL : L ≤ 6) (C0 : lw_At p s m meth c b L xs) : W p l e room_1 s m #[Value.ref b] below meth c s.heap [] 0 0 (lw_Z below #[Value.ref b] s) (entryFrame m ([Value.ref b] : List Value).toArray 8) := by
  obtain ⟨hx, hb, hr, hml, hown, hts, hX, hbl, hlocks, hgv⟩ := id C0
  have hg : ∀ w ∈ xw_G, w.before #[Value.ref b] s = true := fun w h => hts w (List.mem_filter.mp h).1
  have hown : s.vm.findClass rn_L = some m.cls := hown
  obtain ⟨A, hAe⟩ : ∃ z : Nat → Prop, z = fun q : Nat => s.heap.size ≤ q := ⟨_, rfl⟩
  have hA : ∀ q : Nat, s.heap.size ≤ q → A q := by rw [hAe]; exact fun _ h => h
  have hnA : ∀ q : Nat, q < s.heap.size → ¬ A q := by rw [hAe]; exact fun q h h2 => absurd h (Nat.not_lt.mpr h2)
  have hbA : ¬ A b := hnA b hbl
  have hsg := flat_of_before _ hgv
  have hz1 : (Cond.isRef xs_u).before #[Value.ref b] s = true := hsg _ (by decide +kernel)
  have hz2 : (Cond.isRef xs_n).before #[Value.ref b] s = true := hsg _ (by decide +kernel)
  obtain ⟨dC, dI, cI, cB, cJ, cZ, hK⟩ := xl_K hg
  have hN : xn_St s := fun w hw => by obtain ⟨a1, a2, a3, a4, e9⟩ := xn_is hw; rw [e9] at hw ⊢; exact va_tabs rfl rfl (hts _ (List.mem_append_right _ (List.mem_filter.mp hw).1))
  obtain ⟨H, hH⟩ : ∃ z, z = s.heap := ⟨_, rfl⟩
  have hS : va_S A s.heap H [] := by rw [hH]; exact va_S.rf
  have hP : va_P (dC, dI) xcl [] H := fun k q h => by simp at h
  have hD : va_D A [] := ⟨fun i j p q h => by simp at h, fun k q h => by simp at h⟩
  have hl := lv_entry ([.ref b]) (n := 8) (Nat.le_of_ble_eq_true rfl)
  rw [lg_entry_eq]
  generalize (lg_sl ([.ref b]) ++ List.replicate (8 - (lg_sl ([.ref b])).length) Slot.unset).toArray = ls at hl ⊢
  have hl : lv_has ls 8 [(0, .ref b)] := hl
  suffices kk : W p l e room_1 s m #[Value.ref b] below meth c H [] 0 0 (lw_Z below #[Value.ref b] s) (F0 m 0 ls []) by rw [hH] at kk; exact kk
  refine va_new (ci := 1) (fs := xo_C dv_C) (C := rn_C) (T := fn_C) (N := 11) hx hb hg in_C tn_C tk_C hown (hg _ wn_1_30) (hg _ wn_1_31) (hg _ wn_1_1) hK hP hD hS hA rfl dk_C (Nat.le_of_ble_eq_true rfl) (Nat.le_of_ble_eq_true rfl) dn_L_law_0 (fun q_1 H hP hD hS => ?_)
  have hP : va_P (dC, dI) xcl [(q_1, .inr (1, xo_C dv_C))] H := hP
  have hD : va_D A [(q_1, .inr (1, xo_C dv_C))] := hD
  refine lv_dup hx hb dn_L_law_3 rfl ?_
  have hPc := hP.sub (ws' := [(q_1, .inr (1, xo_C dv_C))]) [0] rfl
  have hDc := hD.sub (ws' := [(q_1, .inr (1, xo_C dv_C))]) [0] (by decide) rfl
  refine xk_callv (wr := []) (xk_runI (ar := 0) (As := []) (rest := [.ref q_1]) ⟨hx, hb, hml, hown, hg⟩ hK hN (ct_C_init l dC dI cI cB cJ cZ H.size q_1 dv_C (show dv_C 0 = .null from rfl) (show dv_C 1 = .int 0 from rfl) (show dv_C 2 = .int 0 from rfl) (show dv_C 3 = .null from rfl) (show dv_C 4 = .null from rfl) (show dv_C 5 = .null from rfl) (show dv_C 6 = .null from rfl) (show dv_C 7 = .null from rfl) (show dv_C 8 = .null from rfl) (show dv_C 9 = .null from rfl) (show dv_C 10 = .null from rfl)) hPc hDc wn_1_32 wn_1_33 wn_1_1 wn_1_34 rfl rfl rfl (by decide +kernel) ⟨Nat.le_of_ble_eq_true rfl, Nat.le_of_ble_eq_true rfl⟩ rfl hl.1 rfl (Nat.le_of_ble_eq_true rfl) dn_L_law_4 ⟨Nat.le_of_ble_eq_true rfl, Nat.le_of_ble_eq_true rfl⟩) hP hD hS hA [0] [] rfl rfl (by decide) (by decide) (fun u H locs hw hP hD hS => ?_)
  obtain ⟨q_2, f_3⟩ := u
  obtain ⟨hb_4, hb_5, hb_6, hb_7⟩ := hw
  have hP : va_P (dC, dI) xcl [(q_1, .inr (1, xo_C f_3)), (q_2, .inl (cB, 512, .inl (fun _ => 0)))] H := hP
  have hD : va_D A [(q_1, .inr (1, xo_C f_3)), (q_2, .inl (cB, 512, .inl (fun _ => 0)))] := hD
  refine lv_astore_n (lv' := [(1, .ref q_1), (0, .ref b)]) hx hb dn_L_law_7 rfl hl (by decide) rfl (fun ls hl => ?_)
  refine va_new (ci := 0) (fs := xo_M dv_M) (C := rn_M) (T := fn_M) (N := 91) hx hb hg in_M tn_M tk_M hown (hg _ wn_8_82) (hg _ wn_8_83) (hg _ wn_1_13) hK hP hD hS hA rfl dk_M (Nat.le_of_ble_eq_true rfl) (Nat.le_of_ble_eq_true rfl) dn_L_law_8 (fun q_8 H hP hD hS => ?_)
  have hP : va_P (dC, dI) xcl [(q_1, .inr (1, xo_C f_3)), (q_2, .inl (cB, 512, .inl (fun _ => 0))), (q_8, .inr (0, xo_M dv_M))] H := hP
  have hD : va_D A [(q_1, .inr (1, xo_C f_3)), (q_2, .inl (cB, 512, .inl (fun _ => 0))), (q_8, .inr (0, xo_M dv_M))] := hD
  refine lv_dup hx hb dn_L_law_11 rfl ?_
  have hPc := hP.sub (ws' := [(q_8, .inr (0, xo_M dv_M))]) [2] rfl
  have hDc := hD.sub (ws' := [(q_8, .inr (0, xo_M dv_M))]) [2] (by decide) rfl
  refine xk_callv (wr := [(q_1, .inr (1, xo_C f_3)), (q_2, .inl (cB, 512, .inl (fun _ => 0)))]) (xk_runI (ar := 0) (As := []) (rest := [.ref q_8]) ⟨hx, hb, hml, hown, hg⟩ hK hN (ct_M_init l dC dI cI cB cJ cZ H.size q_8 dv_M (show fk_M dv_M from ⟨rfl, rfl, rfl, rfl, rfl, rfl, rfl, rfl, rfl, rfl, rfl, rfl, rfl, rfl, rfl, rfl, rfl, rfl, rfl, rfl, rfl, rfl, rfl, rfl, rfl, rfl, rfl, rfl, rfl, rfl, rfl, rfl⟩)) hPc hDc wn_8_84 wn_8_85 wn_1_13 wn_8_86 rfl rfl rfl (by decide +kernel) ⟨Nat.le_of_ble_eq_true rfl, Nat.le_of_ble_eq_true rfl⟩ rfl hl.1 rfl (Nat.le_of_ble_eq_true rfl) dn_L_law_12 ⟨Nat.le_of_ble_eq_true rfl, Nat.le_of_ble_eq_true rfl⟩) hP hD hS hA [2] [0, 1] rfl rfl (by decide) (by decide) (fun u H locs hw hP hD hS => ?_)
  obtain ⟨q_9, q_10, q_11, q_12, q_13, f_14⟩ := u
  obtain ⟨hb_15, hb_16, hb_17, hb_18, hb_19, hb_20⟩ := hw
  have hP : va_P (dC, dI) xcl [(q_1, .inr (1, xo_C f_3)), (q_2, .inl (cB, 512, .inl (fun _ => 0))), (q_8, .inr (0, xo_M f_14)), (q_9, .inl (cB, 65536, .inl (fun _ => 0))), (q_10, .inl (cI, 65540, .inl (fun _ => 0))), (q_11, .inl (cI, 65540, .inl (fun _ => 0))), (q_12, .inl (cI, 65540, .inl (fun _ => 0))), (q_13, .inl (cB, 65536, .inl (fun _ => 0)))] H := hP
  have hD : va_D A [(q_1, .inr (1, xo_C f_3)), (q_2, .inl (cB, 512, .inl (fun _ => 0))), (q_8, .inr (0, xo_M f_14)), (q_9, .inl (cB, 65536, .inl (fun _ => 0))), (q_10, .inl (cI, 65540, .inl (fun _ => 0))), (q_11, .inl (cI, 65540, .inl (fun _ => 0))), (q_12, .inl (cI, 65540, .inl (fun _ => 0))), (q_13, .inl (cB, 65536, .inl (fun _ => 0)))] := hD
  refine lv_astore_n (lv' := [(2, .ref q_8), (1, .ref q_1), (0, .ref b)]) hx hb dn_L_law_15 rfl hl (by decide) rfl (fun ls hl => ?_)
  refine lv_iconst (v := 1) hx hb dn_L_law_16 (by decide) ?_
  refine xk_newJ 1 hx hb (hg _ wn_2_109) hK hP hD hS hA 2 rfl rfl (Nat.le_of_ble_eq_true rfl) (Nat.le_of_ble_eq_true rfl) (Nat.le_of_ble_eq_true rfl) dn_L_law_17 (fun q_21 H hP hD hS => ?_)
  have hP : va_P (dC, dI) xcl [(q_1, .inr (1, xo_C f_3)), (q_2, .inl (cB, 512, .inl (fun _ => 0))), (q_8, .inr (0, xo_M f_14)), (q_9, .inl (cB, 65536, .inl (fun _ => 0))), (q_10, .inl (cI, 65540, .inl (fun _ => 0))), (q_11, .inl (cI, 65540, .inl (fun _ => 0))), (q_12, .inl (cI, 65540, .inl (fun _ => 0))), (q_13, .inl (cB, 65536, .inl (fun _ => 0))), (q_21, .inl (cJ, 1, .inr (.inl (fun _ => 0))))] H := hP
  have hD : va_D A [(q_1, .inr (1, xo_C f_3)), (q_2, .inl (cB, 512, .inl (fun _ => 0))), (q_8, .inr (0, xo_M f_14)), (q_9, .inl (cB, 65536, .inl (fun _ => 0))), (q_10, .inl (cI, 65540, .inl (fun _ => 0))), (q_11, .inl (cI, 65540, .inl (fun _ => 0))), (q_12, .inl (cI, 65540, .inl (fun _ => 0))), (q_13, .inl (cB, 65536, .inl (fun _ => 0))), (q_21, .inl (cJ, 1, .inr (.inl (fun _ => 0))))] := hD
  refine lv_astore_n (lv' := [(3, .ref q_21), (2, .ref q_8), (1, .ref q_1), (0, .ref b)]) hx hb dn_L_law_19 rfl hl (by decide) rfl (fun ls hl => ?_)
  refine lv_iconst (v := 0) hx hb dn_L_law_20 (by decide) ?_
  refine lv_istore (lv' := [(4, .int 0), (3, .ref q_21), (2, .ref q_8), (1, .ref q_1), (0, .ref b)]) hx hb dn_L_law_21 hl (by decide) rfl (fun ls hl => ?_)
  rcases (show L = 0 ∨ L = 1 ∨ L = 2 ∨ L = 3 ∨ L = 4 ∨ L = 5 ∨ L = 6 by omega) with rfl | rfl | rfl | rfl | rfl | rfl | rfl
  · refine lv_iload hx hb dn_L_law_23 (lv_at hl 0 rfl) ?_
    refine lv_aload_n hx hb dn_L_law_25 rfl (lv_at hl 4 rfl) ?_
    refine va_slen hx hb hX hbl hbA hS dn_L_law_26 ?_
    refine xk_ti (y := 0) rfl ?_
    refine lv_bipush (v := 6) hx hb dn_L_law_27 (by decide) ?_
    refine lv_isub hx hb dn_L_law_29 ?_
    refine xk_ti (y := (-6)) (by decide) ?_
    refine lv_icmp_gt (tgt := 659) hx hb dn_L_law_30 (by decide) (fun _ => ?_) (fun h9 => absurd h9 (by decide))
    refine lv_iconst (v := 1) hx hb dn_L_law_659 (by decide) ?_
    refine va_forget (fun q hq => by have h7 := hS.2.2 q hq; rw [hAe] at h7; exact h7) ?_
    refine W.widen (k := 600002) (n := 7302232) (Nat.le_of_ble_eq_true rfl) (Nat.le_of_ble_eq_true rfl) ?_
    exact lw_ret hx hb hr hlocks dn_L_law_660
  · refine lv_iload hx hb dn_L_law_23 (lv_at hl 0 rfl) ?_
    refine lv_aload_n hx hb dn_L_law_25 rfl (lv_at hl 4 rfl) ?_
    refine va_slen hx hb hX hbl hbA hS dn_L_law_26 ?_
    refine xk_ti (y := 1) rfl ?_
    refine lv_bipush (v := 6) hx hb dn_L_law_27 (by decide) ?_
    refine lv_isub hx hb dn_L_law_29 ?_
    refine xk_ti (y := (-5)) (by decide) ?_
    refine lv_icmp_gt (tgt := 659) hx hb dn_L_law_30 (by decide) (fun _ => ?_) (fun h9 => absurd h9 (by decide))
    refine lv_iconst (v := 1) hx hb dn_L_law_659 (by decide) ?_
    refine va_forget (fun q hq => by have h7 := hS.2.2 q hq; rw [hAe] at h7; exact h7) ?_
    refine W.widen (k := 600002) (n := 7302232) (Nat.le_of_ble_eq_true rfl) (Nat.le_of_ble_eq_true rfl) ?_
    exact lw_ret hx hb hr hlocks dn_L_law_660
  · refine lv_iload hx hb dn_L_law_23 (lv_at hl 0 rfl) ?_
    refine lv_aload_n hx hb dn_L_law_25 rfl (lv_at hl 4 rfl) ?_
    refine va_slen hx hb hX hbl hbA hS dn_L_law_26 ?_
    refine xk_ti (y := 2) rfl ?_
    refine lv_bipush (v := 6) hx hb dn_L_law_27 (by decide) ?_
    refine lv_isub hx hb dn_L_law_29 ?_
    refine xk_ti (y := (-4)) (by decide) ?_
    refine lv_icmp_gt (tgt := 659) hx hb dn_L_law_30 (by decide) (fun _ => ?_) (fun h9 => absurd h9 (by decide))
    refine lv_iconst (v := 1) hx hb dn_L_law_659 (by decide) ?_
    refine va_forget (fun q hq => by have h7 := hS.2.2 q hq; rw [hAe] at h7; exact h7) ?_
    refine W.widen (k := 600002) (n := 7302232) (Nat.le_of_ble_eq_true rfl) (Nat.le_of_ble_eq_true rfl) ?_
    exact lw_ret hx hb hr hlocks dn_L_law_660
  · refine lv_iload hx hb dn_L_law_23 (lv_at hl 0 rfl) ?_
    refine lv_aload_n hx hb dn_L_law_25 rfl (lv_at hl 4 rfl) ?_
    refine va_slen hx hb hX hbl hbA hS dn_L_law_26 ?_
    refine xk_ti (y := 3) rfl ?_
    refine lv_bipush (v := 6) hx hb dn_L_law_27 (by decide) ?_
    refine lv_isub hx hb dn_L_law_29 ?_
    refine xk_ti (y := (-3)) (by decide) ?_
    refine lv_icmp_gt (tgt := 659) hx hb dn_L_law_30 (by decide) (fun _ => ?_) (fun h9 => absurd h9 (by decide))
    refine lv_iconst (v := 1) hx hb dn_L_law_659 (by decide) ?_
    refine va_forget (fun q hq => by have h7 := hS.2.2 q hq; rw [hAe] at h7; exact h7) ?_
    refine W.widen (k := 600002) (n := 7302232) (Nat.le_of_ble_eq_true rfl) (Nat.le_of_ble_eq_true rfl) ?_
    exact lw_ret hx hb hr hlocks dn_L_law_660
  · refine lv_iload hx hb dn_L_law_23 (lv_at hl 0 rfl) ?_
    refine lv_aload_n hx hb dn_L_law_25 rfl (lv_at hl 4 rfl) ?_
    refine va_slen hx hb hX hbl hbA hS dn_L_law_26 ?_
    refine xk_ti (y := 4) rfl ?_
    refine lv_bipush (v := 6) hx hb dn_L_law_27 (by decide) ?_
    refine lv_isub hx hb dn_L_law_29 ?_
    refine xk_ti (y := (-2)) (by decide) ?_
    refine lv_icmp_gt (tgt := 659) hx hb dn_L_law_30 (by decide) (fun _ => ?_) (fun h9 => absurd h9 (by decide))
    refine lv_iconst (v := 1) hx hb dn_L_law_659 (by decide) ?_
    refine va_forget (fun q hq => by have h7 := hS.2.2 q hq; rw [hAe] at h7; exact h7) ?_
    refine W.widen (k := 600002) (n := 7302232) (Nat.le_of_ble_eq_true rfl) (Nat.le_of_ble_eq_true rfl) ?_
    exact lw_ret hx hb hr hlocks dn_L_law_660
  · refine lv_iload hx hb dn_L_law_23 (lv_at hl 0 rfl) ?_
    refine lv_aload_n hx hb dn_L_law_25 rfl (lv_at hl 4 rfl) ?_
    refine va_slen hx hb hX hbl hbA hS dn_L_law_26 ?_
    refine xk_ti (y := 5) rfl ?_
    refine lv_bipush (v := 6) hx hb dn_L_law_27 (by decide) ?_
    refine lv_isub hx hb dn_L_law_29 ?_
    refine xk_ti (y := (-1)) (by decide) ?_
    refine lv_icmp_gt (tgt := 659) hx hb dn_L_law_30 (by decide) (fun _ => ?_) (fun h9 => absurd h9 (by decide))
    refine lv_iconst (v := 1) hx hb dn_L_law_659 (by decide) ?_
    refine va_forget (fun q hq => by have h7 := hS.2.2 q hq; rw [hAe] at h7; exact h7) ?_
    refine W.widen (k := 600002) (n := 7302232) (Nat.le_of_ble_eq_true rfl) (Nat.le_of_ble_eq_true rfl) ?_
    exact lw_ret hx hb hr hlocks dn_L_law_660
  · refine lv_iload hx hb dn_L_law_23 (lv_at hl 0 rfl) ?_
    refine lv_aload_n hx hb dn_L_law_25 rfl (lv_at hl 4 rfl) ?_
    refine va_slen hx hb hX hbl hbA hS dn_L_law_26 ?_
    refine xk_ti (y := 6) rfl ?_
    refine lv_bipush (v := 6) hx hb dn_L_law_27 (by decide) ?_
    refine lv_isub hx hb dn_L_law_29 ?_
    refine xk_ti (y := 0) (by decide) ?_
    refine lv_icmp_gt (tgt := 659) hx hb dn_L_law_30 (by decide) (fun h9 => absurd h9 (by decide)) (fun _ => ?_)
    refine lv_aload_n hx hb dn_L_law_33 rfl (lv_at hl 4 rfl) ?_
    refine lv_iload hx hb dn_L_law_34 (lv_at hl 0 rfl) ?_
    refine va_sld hx hb hX hbl hbA hS (show ¬ (_ ∨ _) by decide) dn_L_law_36 ?_
    refine xk_ti (y := xs 0) rfl ?_
    refine lv_bipush (v := 15) hx hb dn_L_law_37 (by decide) ?_
    refine lv_iand hx hb dn_L_law_39 ?_
    obtain ⟨j, hj, ej⟩ := pk_andE (xs 0) (m := 15) 4 (by decide)
    refine xk_ti (y := nI j) ej ?_
    clear ej
    rcases (show j = 0 ∨ j = 1 ∨ j = 2 ∨ j = 3 ∨ j = 4 ∨ j = 5 ∨ j = 6 ∨ j = 7 ∨ j = 8 ∨ j = 9 ∨ j = 10 ∨ j = 11 ∨ j = 12 ∨ j = 13 ∨ j = 14 ∨ j = 15 by omega) with rfl | rfl | rfl | rfl | rfl | rfl | rfl | rfl | rfl | rfl | rfl | rfl | rfl | rfl | rfl | rfl
    · refine lv_tableIn (tgt := 104) hx hb dn_L_law_40 (by decide) (by decide) rfl (by decide) ?_
      refine lv_aload_n hx hb dn_L_law_104 rfl (lv_at hl 3 rfl) ?_
      refine lv_aload_n hx hb dn_L_law_105 rfl (lv_at hl 4 rfl) ?_
      refine lv_iload hx hb dn_L_law_106 (lv_at hl 0 rfl) ?_
      refine lv_iconst (v := 1) hx hb dn_L_law_108 (by decide) ?_
      refine lv_iadd hx hb dn_L_law_109 ?_
      refine xk_ti (y := 1) (by decide) ?_
      refine va_sld hx hb hX hbl hbA hS (show ¬ (_ ∨ _) by decide) dn_L_law_110 ?_
      refine xk_ti (y := xs 1) rfl ?_
      refine lv_aload_n hx hb dn_L_law_111 rfl (lv_at hl 4 rfl) ?_
      refine lv_iload hx hb dn_L_law_112 (lv_at hl 0 rfl) ?_
      refine lv_iconst (v := 2) hx hb dn_L_law_114 (by decide) ?_
      refine lv_iadd hx hb dn_L_law_115 ?_
      refine xk_ti (y := 2) (by decide) ?_
      refine va_sld hx hb hX hbl hbA hS (show ¬ (_ ∨ _) by decide) dn_L_law_116 ?_
      refine xk_ti (y := xs 2) rfl ?_
      refine lv_aload_n hx hb dn_L_law_117 rfl (lv_at hl 4 rfl) ?_
      refine lv_iload hx hb dn_L_law_118 (lv_at hl 0 rfl) ?_
      refine lv_iconst (v := 3) hx hb dn_L_law_120 (by decide) ?_
      refine lv_iadd hx hb dn_L_law_121 ?_
      refine xk_ti (y := 3) (by decide) ?_
      refine va_sld hx hb hX hbl hbA hS (show ¬ (_ ∨ _) by decide) dn_L_law_122 ?_
      refine xk_ti (y := xs 3) rfl ?_
      refine lv_aload_n hx hb dn_L_law_123 rfl (lv_at hl 4 rfl) ?_
      refine lv_iload hx hb dn_L_law_124 (lv_at hl 0 rfl) ?_
      refine lv_iconst (v := 4) hx hb dn_L_law_126 (by decide) ?_
      refine lv_iadd hx hb dn_L_law_127 ?_
      refine xk_ti (y := 4) (by decide) ?_
      refine va_sld hx hb hX hbl hbA hS (show ¬ (_ ∨ _) by decide) dn_L_law_128 ?_
      refine xk_ti (y := xs 4) rfl ?_
      refine lv_aload_n hx hb dn_L_law_129 rfl (lv_at hl 4 rfl) ?_
      refine lv_iload hx hb dn_L_law_130 (lv_at hl 0 rfl) ?_
      refine lv_iconst (v := 5) hx hb dn_L_law_132 (by decide) ?_
      refine lv_iadd hx hb dn_L_law_133 ?_
      refine xk_ti (y := 5) (by decide) ?_
      refine va_sld hx hb hX hbl hbA hS (show ¬ (_ ∨ _) by decide) dn_L_law_134 ?_
      refine xk_ti (y := xs 5) rfl ?_
      refine lv_aload_n hx hb dn_L_law_135 rfl (lv_at hl 1 rfl) ?_
      have hPc := hP.sub (ws' := [(q_1, .inr (1, xo_C f_3)), (q_2, .inl (cB, 512, .inl (fun _ => 0))), (q_21, .inl (cJ, 1, .inr (.inl (fun _ => 0))))]) [0, 1, 8] rfl
      have hDc := hD.sub (ws' := [(q_1, .inr (1, xo_C f_3)), (q_2, .inl (cB, 512, .inl (fun _ => 0))), (q_21, .inl (cJ, 1, .inr (.inl (fun _ => 0))))]) [0, 1, 8] (by decide) rfl
      refine xk_calli (wr := [(q_8, .inr (0, xo_M f_14)), (q_9, .inl (cB, 65536, .inl (fun _ => 0))), (q_10, .inl (cI, 65540, .inl (fun _ => 0))), (q_11, .inl (cI, 65540, .inl (fun _ => 0))), (q_12, .inl (cI, 65540, .inl (fun _ => 0))), (q_13, .inl (cB, 65536, .inl (fun _ => 0)))]) (xk_runSH (ar := 7) (As := [.ref q_1, .int (xs 1), .int (xs 2), .int (xs 3), .int (xs 4), .int (xs 5), .ref q_21]) (rest := []) ⟨hx, hb, hml, hown, hg⟩ (ct_L_feed_0 l hlt dC dI cI cB cJ cZ H.size q_1 q_2 q_21 ((xs 1)) ((xs 2)) ((xs 3)) ((xs 4)) ((xs 5)) f_3 (fun _ => 0) (fun _ => 0) hb_4 hb_5) xk_blindX (fun U hU hW => ⟨⟨rfl, by rw [hU], by rw [hU]; exact hPc, va_K.moved hW.alike hK, hDc.weaken (fun _ _ _ _ => trivial), xn_moved hW hN⟩, xl_St hts hz1 hz2 hW (fun q hq => by rw [hU]; exact hS.2.1 q hq (hnA q hq))⟩) wn_7_29 wn_7_30 wn_1_0 wn_7_31 rfl rfl (by decide +kernel) ⟨Nat.le_of_ble_eq_true rfl, Nat.le_of_ble_eq_true rfl⟩ rfl hl.1 rfl (Nat.le_of_ble_eq_true rfl) dn_L_law_136 ⟨Nat.le_of_ble_eq_true rfl, Nat.le_of_ble_eq_true rfl⟩) hP hD hS hA [0, 1, 8] [2, 3, 4, 5, 6, 7] rfl rfl (by decide) (by decide) (fun r_23 g_22 H locs hw hP hD hS => ?_)
      have hP : va_P (dC, dI) xcl [(q_8, .inr (0, xo_M f_14)), (q_9, .inl (cB, 65536, .inl (fun _ => 0))), (q_10, .inl (cI, 65540, .inl (fun _ => 0))), (q_11, .inl (cI, 65540, .inl (fun _ => 0))), (q_12, .inl (cI, 65540, .inl (fun _ => 0))), (q_13, .inl (cB, 65536, .inl (fun _ => 0))), (q_21, .inl (cJ, 1, .inr (.inl (vp_updL (fun _ => 0) 0 20)))), (q_1, .inr (1, xo_C (va_up (va_up (va_up (va_up (va_up (va_up (va_up (va_up (va_up (va_up (va_up (va_up (va_up (va_up (va_up (va_up (va_up (va_up (va_up (va_up f_3 1 (.int 1)) 1 (.int 2)) 1 (.int 3)) 1 (.int 4)) 1 (.int 5)) 1 (.int 6)) 1 (.int 7)) 1 (.int 8)) 1 (.int 9)) 1 (.int 10)) 1 (.int 11)) 1 (.int 12)) 1 (.int 13)) 1 (.int 14)) 1 (.int 15)) 1 (.int 16)) 1 (.int 17)) 1 (.int 18)) 1 (.int 19)) 1 (.int 20)))), (q_2, .inl (cB, 512, .inl g_22))] H := hP
      have hD : va_D A [(q_8, .inr (0, xo_M f_14)), (q_9, .inl (cB, 65536, .inl (fun _ => 0))), (q_10, .inl (cI, 65540, .inl (fun _ => 0))), (q_11, .inl (cI, 65540, .inl (fun _ => 0))), (q_12, .inl (cI, 65540, .inl (fun _ => 0))), (q_13, .inl (cB, 65536, .inl (fun _ => 0))), (q_21, .inl (cJ, 1, .inr (.inl (vp_updL (fun _ => 0) 0 20)))), (q_1, .inr (1, xo_C (va_up (va_up (va_up (va_up (va_up (va_up (va_up (va_up (va_up (va_up (va_up (va_up (va_up (va_up (va_up (va_up (va_up (va_up (va_up (va_up f_3 1 (.int 1)) 1 (.int 2)) 1 (.int 3)) 1 (.int 4)) 1 (.int 5)) 1 (.int 6)) 1 (.int 7)) 1 (.int 8)) 1 (.int 9)) 1 (.int 10)) 1 (.int 11)) 1 (.int 12)) 1 (.int 13)) 1 (.int 14)) 1 (.int 15)) 1 (.int 16)) 1 (.int 17)) 1 (.int 18)) 1 (.int 19)) 1 (.int 20)))), (q_2, .inl (cB, 512, .inl g_22))] := hD
      have hw : r_23 = 0 := hw
      subst hw
      refine lv_istore (lv' := [(5, .int 0), (4, .int 0), (3, .ref q_21), (2, .ref q_8), (1, .ref q_1), (0, .ref b)]) hx hb dn_L_law_139 hl (by decide) rfl (fun ls hl => ?_)
      refine lv_aload_n hx hb dn_L_law_141 rfl (lv_at hl 3 rfl) ?_
      refine lv_aload_n hx hb dn_L_law_142 rfl (lv_at hl 5 rfl) ?_
      refine lv_iload hx hb dn_L_law_143 (lv_at hl 1 rfl) ?_
      refine lv_iconst (v := 1) hx hb dn_L_law_145 (by decide) ?_
      refine lv_iadd hx hb dn_L_law_146 ?_
      refine xk_ti (y := 1) (by decide) ?_
      refine va_sld hx hb hX hbl hbA hS (show ¬ (_ ∨ _) by decide) dn_L_law_147 ?_
      refine xk_ti (y := xs 1) rfl ?_
      refine lv_aload_n hx hb dn_L_law_148 rfl (lv_at hl 5 rfl) ?_
      refine lv_iload hx hb dn_L_law_149 (lv_at hl 1 rfl) ?_
      refine lv_iconst (v := 2) hx hb dn_L_law_151 (by decide) ?_
      refine lv_iadd hx hb dn_L_law_152 ?_
      refine xk_ti (y := 2) (by decide) ?_
      refine va_sld hx hb hX hbl hbA hS (show ¬ (_ ∨ _) by decide) dn_L_law_153 ?_
      refine xk_ti (y := xs 2) rfl ?_
      refine lv_aload_n hx hb dn_L_law_154 rfl (lv_at hl 5 rfl) ?_
      refine lv_iload hx hb dn_L_law_155 (lv_at hl 1 rfl) ?_
      refine lv_iconst (v := 3) hx hb dn_L_law_157 (by decide) ?_
      refine lv_iadd hx hb dn_L_law_158 ?_
      refine xk_ti (y := 3) (by decide) ?_
      refine va_sld hx hb hX hbl hbA hS (show ¬ (_ ∨ _) by decide) dn_L_law_159 ?_
      refine xk_ti (y := xs 3) rfl ?_
      refine lv_aload_n hx hb dn_L_law_160 rfl (lv_at hl 5 rfl) ?_
      refine lv_iload hx hb dn_L_law_161 (lv_at hl 1 rfl) ?_
      refine lv_iconst (v := 4) hx hb dn_L_law_163 (by decide) ?_
      refine lv_iadd hx hb dn_L_law_164 ?_
      refine xk_ti (y := 4) (by decide) ?_
      refine va_sld hx hb hX hbl hbA hS (show ¬ (_ ∨ _) by decide) dn_L_law_165 ?_
      refine xk_ti (y := xs 4) rfl ?_
      refine lv_aload_n hx hb dn_L_law_166 rfl (lv_at hl 5 rfl) ?_
      refine lv_iload hx hb dn_L_law_167 (lv_at hl 1 rfl) ?_
      refine lv_iconst (v := 5) hx hb dn_L_law_169 (by decide) ?_
      refine lv_iadd hx hb dn_L_law_170 ?_
      refine xk_ti (y := 5) (by decide) ?_
      refine va_sld hx hb hX hbl hbA hS (show ¬ (_ ∨ _) by decide) dn_L_law_171 ?_
      refine xk_ti (y := xs 5) rfl ?_
      have hPc := hP.sub (ws' := [(q_8, .inr (0, xo_M f_14)), (q_9, .inl (cB, 65536, .inl (fun _ => 0)))]) [0, 1] rfl
      have hDc := hD.sub (ws' := [(q_8, .inr (0, xo_M f_14)), (q_9, .inl (cB, 65536, .inl (fun _ => 0)))]) [0, 1] (by decide) rfl
      refine xk_calli (wr := [(q_10, .inl (cI, 65540, .inl (fun _ => 0))), (q_11, .inl (cI, 65540, .inl (fun _ => 0))), (q_12, .inl (cI, 65540, .inl (fun _ => 0))), (q_13, .inl (cB, 65536, .inl (fun _ => 0))), (q_21, .inl (cJ, 1, .inr (.inl (vp_updL (fun _ => 0) 0 20)))), (q_1, .inr (1, xo_C (va_up (va_up (va_up (va_up (va_up (va_up (va_up (va_up (va_up (va_up (va_up (va_up (va_up (va_up (va_up (va_up (va_up (va_up (va_up (va_up f_3 1 (.int 1)) 1 (.int 2)) 1 (.int 3)) 1 (.int 4)) 1 (.int 5)) 1 (.int 6)) 1 (.int 7)) 1 (.int 8)) 1 (.int 9)) 1 (.int 10)) 1 (.int 11)) 1 (.int 12)) 1 (.int 13)) 1 (.int 14)) 1 (.int 15)) 1 (.int 16)) 1 (.int 17)) 1 (.int 18)) 1 (.int 19)) 1 (.int 20)))), (q_2, .inl (cB, 512, .inl g_22))]) (xk_runV (ar := 5) (As := [.int (xs 1), .int (xs 2), .int (xs 3), .int (xs 4), .int (xs 5)]) (rest := []) (ci := 0) (q0 := 0) ⟨hx, hb, hml, hown, hg⟩ hK hN (ct_M_feed_1 l dC dI cI cB cJ cZ H.size q_8 q_9 ((xs 1)) ((xs 2)) ((xs 3)) ((xs 4)) ((xs 5)) f_14 hb_16 hb_15.2.2.2.2.2.2.2.2.2.2.2.2.2.2.2.2.2.2.2.2.2.2.2.2.2.2.2.2.2.2.1) hPc hDc rfl rfl wn_11_16 wn_11_17 wn_11_18 wn_1_13 wn_11_19 rfl rfl (by decide +kernel) ⟨Nat.le_of_ble_eq_true rfl, Nat.le_of_ble_eq_true rfl⟩ rfl hl.1 rfl (Nat.le_of_ble_eq_true rfl) dn_L_law_172 ⟨Nat.le_of_ble_eq_true rfl, Nat.le_of_ble_eq_true rfl⟩) hP hD hS hA [0, 1] [2, 3, 4, 5, 6, 7, 8] rfl rfl (by decide) (by decide) (fun r_25 g_24 H locs hw hP hD hS => ?_)
      have hP : va_P (dC, dI) xcl [(q_10, .inl (cI, 65540, .inl (fun _ => 0))), (q_11, .inl (cI, 65540, .inl (fun _ => 0))), (q_12, .inl (cI, 65540, .inl (fun _ => 0))), (q_13, .inl (cB, 65536, .inl (fun _ => 0))), (q_21, .inl (cJ, 1, .inr (.inl (vp_updL (fun _ => 0) 0 20)))), (q_1, .inr (1, xo_C (va_up (va_up (va_up (va_up (va_up (va_up (va_up (va_up (va_up (va_up (va_up (va_up (va_up (va_up (va_up (va_up (va_up (va_up (va_up (va_up f_3 1 (.int 1)) 1 (.int 2)) 1 (.int 3)) 1 (.int 4)) 1 (.int 5)) 1 (.int 6)) 1 (.int 7)) 1 (.int 8)) 1 (.int 9)) 1 (.int 10)) 1 (.int 11)) 1 (.int 12)) 1 (.int 13)) 1 (.int 14)) 1 (.int 15)) 1 (.int 16)) 1 (.int 17)) 1 (.int 18)) 1 (.int 19)) 1 (.int 20)))), (q_2, .inl (cB, 512, .inl g_22)), (q_8, .inr (0, xo_M (va_up (va_up f_14 0 (.int 0)) 88 (.int 20)))), (q_9, .inl (cB, 65536, .inl g_24))] H := hP
      have hD : va_D A [(q_10, .inl (cI, 65540, .inl (fun _ => 0))), (q_11, .inl (cI, 65540, .inl (fun _ => 0))), (q_12, .inl (cI, 65540, .inl (fun _ => 0))), (q_13, .inl (cB, 65536, .inl (fun _ => 0))), (q_21, .inl (cJ, 1, .inr (.inl (vp_updL (fun _ => 0) 0 20)))), (q_1, .inr (1, xo_C (va_up (va_up (va_up (va_up (va_up (va_up (va_up (va_up (va_up (va_up (va_up (va_up (va_up (va_up (va_up (va_up (va_up (va_up (va_up (va_up f_3 1 (.int 1)) 1 (.int 2)) 1 (.int 3)) 1 (.int 4)) 1 (.int 5)) 1 (.int 6)) 1 (.int 7)) 1 (.int 8)) 1 (.int 9)) 1 (.int 10)) 1 (.int 11)) 1 (.int 12)) 1 (.int 13)) 1 (.int 14)) 1 (.int 15)) 1 (.int 16)) 1 (.int 17)) 1 (.int 18)) 1 (.int 19)) 1 (.int 20)))), (q_2, .inl (cB, 512, .inl g_22)), (q_8, .inr (0, xo_M (va_up (va_up f_14 0 (.int 0)) 88 (.int 20)))), (q_9, .inl (cB, 65536, .inl g_24))] := hD
      have hw : r_25 = 20 := hw
      subst hw
      refine lv_istore (lv' := [(6, .int 20), (5, .int 0), (4, .int 0), (3, .ref q_21), (2, .ref q_8), (1, .ref q_1), (0, .ref b)]) hx hb dn_L_law_175 hl (by decide) rfl (fun ls hl => ?_)
      refine lv_aload_n hx hb dn_L_law_177 rfl (lv_at hl 4 rfl) ?_
      have hPc := hP.sub (ws' := [(q_8, .inr (0, xo_M (va_up (va_up f_14 0 (.int 0)) 88 (.int 20))))]) [7] rfl
      have hDc := hD.sub (ws' := [(q_8, .inr (0, xo_M (va_up (va_up f_14 0 (.int 0)) 88 (.int 20))))]) [7] (by decide) rfl
      refine xk_calli (wr := [(q_10, .inl (cI, 65540, .inl (fun _ => 0))), (q_11, .inl (cI, 65540, .inl (fun _ => 0))), (q_12, .inl (cI, 65540, .inl (fun _ => 0))), (q_13, .inl (cB, 65536, .inl (fun _ => 0))), (q_21, .inl (cJ, 1, .inr (.inl (vp_updL (fun _ => 0) 0 20)))), (q_1, .inr (1, xo_C (va_up (va_up (va_up (va_up (va_up (va_up (va_up (va_up (va_up (va_up (va_up (va_up (va_up (va_up (va_up (va_up (va_up (va_up (va_up (va_up f_3 1 (.int 1)) 1 (.int 2)) 1 (.int 3)) 1 (.int 4)) 1 (.int 5)) 1 (.int 6)) 1 (.int 7)) 1 (.int 8)) 1 (.int 9)) 1 (.int 10)) 1 (.int 11)) 1 (.int 12)) 1 (.int 13)) 1 (.int 14)) 1 (.int 15)) 1 (.int 16)) 1 (.int 17)) 1 (.int 18)) 1 (.int 19)) 1 (.int 20)))), (q_2, .inl (cB, 512, .inl g_22)), (q_9, .inl (cB, 65536, .inl g_24))]) (xk_runV (ar := 0) (As := []) (rest := []) (ci := 0) (q0 := 0) ⟨hx, hb, hml, hown, hg⟩ hK hN (ct_M_thrown_0 l dC dI cI cB cJ cZ H.size q_8 (va_up (va_up f_14 0 (.int 0)) 88 (.int 20)) (show (va_up (va_up f_14 0 (.int 0)) 88 (.int 20)) 0 = .int 0 from rfl)) hPc hDc rfl rfl wn_9_125 wn_9_126 wn_9_127 wn_1_13 wn_9_128 rfl rfl (by decide +kernel) ⟨Nat.le_of_ble_eq_true rfl, Nat.le_of_ble_eq_true rfl⟩ rfl hl.1 rfl (Nat.le_of_ble_eq_true rfl) dn_L_law_178 ⟨Nat.le_of_ble_eq_true rfl, Nat.le_of_ble_eq_true rfl⟩) hP hD hS hA [7] [0, 1, 2, 3, 4, 5, 6, 8] rfl rfl (by decide) (by decide) (fun r_26 _ H locs hw hP hD hS => ?_)
      have hP : va_P (dC, dI) xcl [(q_10, .inl (cI, 65540, .inl (fun _ => 0))), (q_11, .inl (cI, 65540, .inl (fun _ => 0))), (q_12, .inl (cI, 65540, .inl (fun _ => 0))), (q_13, .inl (cB, 65536, .inl (fun _ => 0))), (q_21, .inl (cJ, 1, .inr (.inl (vp_updL (fun _ => 0) 0 20)))), (q_1, .inr (1, xo_C (va_up (va_up (va_up (va_up (va_up (va_up (va_up (va_up (va_up (va_up (va_up (va_up (va_up (va_up (va_up (va_up (va_up (va_up (va_up (va_up f_3 1 (.int 1)) 1 (.int 2)) 1 (.int 3)) 1 (.int 4)) 1 (.int 5)) 1 (.int 6)) 1 (.int 7)) 1 (.int 8)) 1 (.int 9)) 1 (.int 10)) 1 (.int 11)) 1 (.int 12)) 1 (.int 13)) 1 (.int 14)) 1 (.int 15)) 1 (.int 16)) 1 (.int 17)) 1 (.int 18)) 1 (.int 19)) 1 (.int 20)))), (q_2, .inl (cB, 512, .inl g_22)), (q_9, .inl (cB, 65536, .inl g_24)), (q_8, .inr (0, xo_M ((va_up (va_up f_14 0 (.int 0)) 88 (.int 20)))))] H := hP
      have hD : va_D A [(q_10, .inl (cI, 65540, .inl (fun _ => 0))), (q_11, .inl (cI, 65540, .inl (fun _ => 0))), (q_12, .inl (cI, 65540, .inl (fun _ => 0))), (q_13, .inl (cB, 65536, .inl (fun _ => 0))), (q_21, .inl (cJ, 1, .inr (.inl (vp_updL (fun _ => 0) 0 20)))), (q_1, .inr (1, xo_C (va_up (va_up (va_up (va_up (va_up (va_up (va_up (va_up (va_up (va_up (va_up (va_up (va_up (va_up (va_up (va_up (va_up (va_up (va_up (va_up f_3 1 (.int 1)) 1 (.int 2)) 1 (.int 3)) 1 (.int 4)) 1 (.int 5)) 1 (.int 6)) 1 (.int 7)) 1 (.int 8)) 1 (.int 9)) 1 (.int 10)) 1 (.int 11)) 1 (.int 12)) 1 (.int 13)) 1 (.int 14)) 1 (.int 15)) 1 (.int 16)) 1 (.int 17)) 1 (.int 18)) 1 (.int 19)) 1 (.int 20)))), (q_2, .inl (cB, 512, .inl g_22)), (q_9, .inl (cB, 65536, .inl g_24)), (q_8, .inr (0, xo_M ((va_up (va_up f_14 0 (.int 0)) 88 (.int 20)))))] := hD
      have hw : r_26 = 0 := hw
      subst hw
      refine lv_iload hx hb dn_L_law_181 (lv_at hl 1 rfl) ?_
      refine lv_icmp_eq (tgt := 188) hx hb dn_L_law_183 (by decide) (fun _ => ?_) (fun h9 => absurd h9 (by decide))
      refine lv_iload hx hb dn_L_law_188 (lv_at hl 1 rfl) ?_
      refine lv_if_ne (tgt := 205) hx hb dn_L_law_190 (by decide) (fun h9 => absurd h9 (by decide)) (fun _ => ?_)
      refine lv_aload_n hx hb dn_L_law_193 rfl (lv_at hl 3 rfl) ?_
      refine lv_iconst (v := 0) hx hb dn_L_law_194 (by decide) ?_
      refine va_lald hx hb hK hP 4 2 rfl rfl (show ¬ (_ ∨ _) by decide) dn_L_law_195 ?_
      refine xk_tl (y := 20) rfl ?_
      refine lv_iload hx hb dn_L_law_196 (lv_at hl 0 rfl) ?_
      refine lv_i2l (v := 20) hx hb dn_L_law_198 (by decide) ?_
      refine xk_lcmp (v := 0) hx hb dn_L_law_199 (by decide) ?_
      refine lv_if_eq (tgt := 205) hx hb dn_L_law_200 (by decide) (fun _ => ?_) (fun h9 => absurd h9 (by decide))
      refine lv_goto (tgt := 653) hx hb dn_L_law_205 (by decide) ?_
      refine lv_iinc (v := 6) (lv' := [(4, .int 6), (6, .int 20), (5, .int 0), (3, .ref q_21), (2, .ref q_8), (1, .ref q_1), (0, .ref b)]) hx hb dn_L_law_653 hl (k := 2) rfl (by decide) (by decide) rfl (fun ls hl => ?_)
      refine lv_goto (tgt := 23) hx hb dn_L_law_656 (by decide) ?_
      refine lv_iload hx hb dn_L_law_23 (lv_at hl 0 rfl) ?_
      refine lv_aload_n hx hb dn_L_law_25 rfl (lv_at hl 6 rfl) ?_
      refine va_slen hx hb hX hbl hbA hS dn_L_law_26 ?_
      refine xk_ti (y := 6) rfl ?_
      refine lv_bipush (v := 6) hx hb dn_L_law_27 (by decide) ?_
      refine lv_isub hx hb dn_L_law_29 ?_
      refine xk_ti (y := 0) (by decide) ?_
      refine lv_icmp_gt (tgt := 659) hx hb dn_L_law_30 (by decide) (fun _ => ?_) (fun h9 => absurd h9 (by decide))
      refine lv_iconst (v := 1) hx hb dn_L_law_659 (by decide) ?_
      refine va_forget (fun q hq => by have h7 := hS.2.2 q hq; rw [hAe] at h7; exact h7) ?_
      refine W.widen (k := 600002) (n := 7302232) (Nat.le_of_ble_eq_true rfl) (Nat.le_of_ble_eq_true rfl) ?_
      exact lw_ret hx hb hr hlocks dn_L_law_660
    · obtain ⟨n1, en1⟩ : ∃ z, z = xs 1 := ⟨_, rfl⟩
      by_cases hn : n1 < 0
      · refine lv_tableIn (tgt := 208) hx hb dn_L_law_40 (by decide) (by decide) rfl (by decide) ?_
        refine lv_aload_n hx hb dn_L_law_208 rfl (lv_at hl 3 rfl) ?_
        refine lv_aload_n hx hb dn_L_law_209 rfl (lv_at hl 4 rfl) ?_
        refine lv_iload hx hb dn_L_law_210 (lv_at hl 0 rfl) ?_
        refine lv_iconst (v := 1) hx hb dn_L_law_212 (by decide) ?_
        refine lv_iadd hx hb dn_L_law_213 ?_
        refine xk_ti (y := 1) (by decide) ?_
        refine va_sld hx hb hX hbl hbA hS (show ¬ (_ ∨ _) by decide) dn_L_law_214 ?_
        refine xk_ti (y := n1) en1.symm ?_
        have hPc := hP.sub (ws' := [(q_1, .inr (1, xo_C f_3))]) [0] rfl
        have hDc := hD.sub (ws' := [(q_1, .inr (1, xo_C f_3))]) [0] (by decide) rfl
        refine xk_calli (wr := [(q_2, .inl (cB, 512, .inl (fun _ => 0))), (q_8, .inr (0, xo_M f_14)), (q_9, .inl (cB, 65536, .inl (fun _ => 0))), (q_10, .inl (cI, 65540, .inl (fun _ => 0))), (q_11, .inl (cI, 65540, .inl (fun _ => 0))), (q_12, .inl (cI, 65540, .inl (fun _ => 0))), (q_13, .inl (cB, 65536, .inl (fun _ => 0))), (q_21, .inl (cJ, 1, .inr (.inl (fun _ => 0))))]) (xk_runSH (ar := 2) (As := [.ref q_1, .int n1]) (rest := []) ⟨hx, hb, hml, hown, hg⟩ (ct_L_end_t1 l hlt dC dI cI cB cJ cZ H.size q_1 f_3 n1 hn) xk_blindX (fun U hU hW => ⟨⟨rfl, by rw [hU], by rw [hU]; exact hPc, va_K.moved hW.alike hK, hDc.weaken (fun _ _ _ _ => trivial), xn_moved hW hN⟩, xl_St hts hz1 hz2 hW (fun q hq => by rw [hU]; exact hS.2.1 q hq (hnA q hq))⟩) wn_7_118 wn_7_119 wn_1_0 wn_7_120 rfl rfl (by decide +kernel) ⟨Nat.le_of_ble_eq_true rfl, Nat.le_of_ble_eq_true rfl⟩ rfl hl.1 rfl (Nat.le_of_ble_eq_true rfl) dn_L_law_215 ⟨Nat.le_of_ble_eq_true rfl, Nat.le_of_ble_eq_true rfl⟩) hP hD hS hA [0] [1, 2, 3, 4, 5, 6, 7, 8] rfl rfl (by decide) (by decide) (fun r_22 _ H locs hw hP hD hS => ?_)
        have hP : va_P (dC, dI) xcl [(q_2, .inl (cB, 512, .inl (fun _ => 0))), (q_8, .inr (0, xo_M f_14)), (q_9, .inl (cB, 65536, .inl (fun _ => 0))), (q_10, .inl (cI, 65540, .inl (fun _ => 0))), (q_11, .inl (cI, 65540, .inl (fun _ => 0))), (q_12, .inl (cI, 65540, .inl (fun _ => 0))), (q_13, .inl (cB, 65536, .inl (fun _ => 0))), (q_21, .inl (cJ, 1, .inr (.inl (fun _ => 0)))), (q_1, .inr (1, xo_C f_3))] H := hP
        have hD : va_D A [(q_2, .inl (cB, 512, .inl (fun _ => 0))), (q_8, .inr (0, xo_M f_14)), (q_9, .inl (cB, 65536, .inl (fun _ => 0))), (q_10, .inl (cI, 65540, .inl (fun _ => 0))), (q_11, .inl (cI, 65540, .inl (fun _ => 0))), (q_12, .inl (cI, 65540, .inl (fun _ => 0))), (q_13, .inl (cB, 65536, .inl (fun _ => 0))), (q_21, .inl (cJ, 1, .inr (.inl (fun _ => 0)))), (q_1, .inr (1, xo_C f_3))] := hD
        have hw : r_22 = 1 := hw
        subst hw
        refine lv_istore (lv' := [(5, .int 1), (4, .int 0), (3, .ref q_21), (2, .ref q_8), (1, .ref q_1), (0, .ref b)]) hx hb dn_L_law_218 hl (by decide) rfl (fun ls hl => ?_)
        refine lv_aload_n hx hb dn_L_law_220 rfl (lv_at hl 3 rfl) ?_
        refine lv_aload_n hx hb dn_L_law_221 rfl (lv_at hl 5 rfl) ?_
        refine lv_iload hx hb dn_L_law_222 (lv_at hl 1 rfl) ?_
        refine lv_iconst (v := 1) hx hb dn_L_law_224 (by decide) ?_
        refine lv_iadd hx hb dn_L_law_225 ?_
        refine xk_ti (y := 1) (by decide) ?_
        refine va_sld hx hb hX hbl hbA hS (show ¬ (_ ∨ _) by decide) dn_L_law_226 ?_
        refine xk_ti (y := n1) en1.symm ?_
        have hPc := hP.sub (ws' := [(q_8, .inr (0, xo_M f_14))]) [1] rfl
        have hDc := hD.sub (ws' := [(q_8, .inr (0, xo_M f_14))]) [1] (by decide) rfl
        refine xk_callv (wr := [(q_2, .inl (cB, 512, .inl (fun _ => 0))), (q_9, .inl (cB, 65536, .inl (fun _ => 0))), (q_10, .inl (cI, 65540, .inl (fun _ => 0))), (q_11, .inl (cI, 65540, .inl (fun _ => 0))), (q_12, .inl (cI, 65540, .inl (fun _ => 0))), (q_13, .inl (cB, 65536, .inl (fun _ => 0))), (q_21, .inl (cJ, 1, .inr (.inl (fun _ => 0)))), (q_1, .inr (1, xo_C f_3))]) (xk_runV (ar := 1) (As := [.int n1]) (rest := []) (ci := 0) (q0 := 0) ⟨hx, hb, hml, hown, hg⟩ hK hN (ct_M_end_1 l dC dI cI cB cJ cZ H.size q_8 n1 f_14 hb_15.2.2.2.2.2.2.2.2.2.2.2.2.2.2.2.2.2.2.2.2.2.2.2.2.2.2.2.2.2.2.1 hn) hPc hDc rfl rfl wn_11_20 wn_11_21 wn_11_22 wn_1_13 wn_11_23 rfl rfl (by decide +kernel) ⟨Nat.le_of_ble_eq_true rfl, Nat.le_of_ble_eq_true rfl⟩ rfl hl.1 rfl (Nat.le_of_ble_eq_true rfl) dn_L_law_227 ⟨Nat.le_of_ble_eq_true rfl, Nat.le_of_ble_eq_true rfl⟩) hP hD hS hA [1] [0, 2, 3, 4, 5, 6, 7, 8] rfl rfl (by decide) (by decide) (fun _ H locs hw hP hD hS => ?_)
        have hP : va_P (dC, dI) xcl [(q_2, .inl (cB, 512, .inl (fun _ => 0))), (q_9, .inl (cB, 65536, .inl (fun _ => 0))), (q_10, .inl (cI, 65540, .inl (fun _ => 0))), (q_11, .inl (cI, 65540, .inl (fun _ => 0))), (q_12, .inl (cI, 65540, .inl (fun _ => 0))), (q_13, .inl (cB, 65536, .inl (fun _ => 0))), (q_21, .inl (cJ, 1, .inr (.inl (fun _ => 0)))), (q_1, .inr (1, xo_C f_3)), (q_8, .inr (0, xo_M (va_up (va_up f_14 0 (.int 1)) 88 (.int 0))))] H := hP
        have hD : va_D A [(q_2, .inl (cB, 512, .inl (fun _ => 0))), (q_9, .inl (cB, 65536, .inl (fun _ => 0))), (q_10, .inl (cI, 65540, .inl (fun _ => 0))), (q_11, .inl (cI, 65540, .inl (fun _ => 0))), (q_12, .inl (cI, 65540, .inl (fun _ => 0))), (q_13, .inl (cB, 65536, .inl (fun _ => 0))), (q_21, .inl (cJ, 1, .inr (.inl (fun _ => 0)))), (q_1, .inr (1, xo_C f_3)), (q_8, .inr (0, xo_M (va_up (va_up f_14 0 (.int 1)) 88 (.int 0))))] := hD
        refine lv_aload_n hx hb dn_L_law_230 rfl (lv_at hl 3 rfl) ?_
        have hPc := hP.sub (ws' := [(q_8, .inr (0, xo_M (va_up (va_up f_14 0 (.int 1)) 88 (.int 0))))]) [8] rfl
        have hDc := hD.sub (ws' := [(q_8, .inr (0, xo_M (va_up (va_up f_14 0 (.int 1)) 88 (.int 0))))]) [8] (by decide) rfl
        refine xk_calli (wr := [(q_2, .inl (cB, 512, .inl (fun _ => 0))), (q_9, .inl (cB, 65536, .inl (fun _ => 0))), (q_10, .inl (cI, 65540, .inl (fun _ => 0))), (q_11, .inl (cI, 65540, .inl (fun _ => 0))), (q_12, .inl (cI, 65540, .inl (fun _ => 0))), (q_13, .inl (cB, 65536, .inl (fun _ => 0))), (q_21, .inl (cJ, 1, .inr (.inl (fun _ => 0)))), (q_1, .inr (1, xo_C f_3))]) (xk_runV (ar := 0) (As := []) (rest := []) (ci := 0) (q0 := 0) ⟨hx, hb, hml, hown, hg⟩ hK hN (ct_M_thrown_1 l dC dI cI cB cJ cZ H.size q_8 (va_up (va_up f_14 0 (.int 1)) 88 (.int 0)) (show (va_up (va_up f_14 0 (.int 1)) 88 (.int 0)) 0 = .int 1 from rfl)) hPc hDc rfl rfl wn_9_125 wn_9_126 wn_9_127 wn_1_13 wn_9_128 rfl rfl (by decide +kernel) ⟨Nat.le_of_ble_eq_true rfl, Nat.le_of_ble_eq_true rfl⟩ rfl hl.1 rfl (Nat.le_of_ble_eq_true rfl) dn_L_law_231 ⟨Nat.le_of_ble_eq_true rfl, Nat.le_of_ble_eq_true rfl⟩) hP hD hS hA [8] [0, 1, 2, 3, 4, 5, 6, 7] rfl rfl (by decide) (by decide) (fun r_23 _ H locs hw hP hD hS => ?_)
        have hP : va_P (dC, dI) xcl [(q_2, .inl (cB, 512, .inl (fun _ => 0))), (q_9, .inl (cB, 65536, .inl (fun _ => 0))), (q_10, .inl (cI, 65540, .inl (fun _ => 0))), (q_11, .inl (cI, 65540, .inl (fun _ => 0))), (q_12, .inl (cI, 65540, .inl (fun _ => 0))), (q_13, .inl (cB, 65536, .inl (fun _ => 0))), (q_21, .inl (cJ, 1, .inr (.inl (fun _ => 0)))), (q_1, .inr (1, xo_C f_3)), (q_8, .inr (0, xo_M ((va_up (va_up f_14 0 (.int 1)) 88 (.int 0)))))] H := hP
        have hD : va_D A [(q_2, .inl (cB, 512, .inl (fun _ => 0))), (q_9, .inl (cB, 65536, .inl (fun _ => 0))), (q_10, .inl (cI, 65540, .inl (fun _ => 0))), (q_11, .inl (cI, 65540, .inl (fun _ => 0))), (q_12, .inl (cI, 65540, .inl (fun _ => 0))), (q_13, .inl (cB, 65536, .inl (fun _ => 0))), (q_21, .inl (cJ, 1, .inr (.inl (fun _ => 0)))), (q_1, .inr (1, xo_C f_3)), (q_8, .inr (0, xo_M ((va_up (va_up f_14 0 (.int 1)) 88 (.int 0)))))] := hD
        have hw : r_23 = 1 := hw
        subst hw
        refine lv_iload hx hb dn_L_law_234 (lv_at hl 0 rfl) ?_
        refine lv_icmp_eq (tgt := 241) hx hb dn_L_law_236 (by decide) (fun _ => ?_) (fun h9 => absurd h9 (by decide))
        refine lv_goto (tgt := 653) hx hb dn_L_law_241 (by decide) ?_
        refine lv_iinc (v := 6) (lv' := [(4, .int 6), (5, .int 1), (3, .ref q_21), (2, .ref q_8), (1, .ref q_1), (0, .ref b)]) hx hb dn_L_law_653 hl (k := 1) rfl (by decide) (by decide) rfl (fun ls hl => ?_)
        refine lv_goto (tgt := 23) hx hb dn_L_law_656 (by decide) ?_
        refine lv_iload hx hb dn_L_law_23 (lv_at hl 0 rfl) ?_
        refine lv_aload_n hx hb dn_L_law_25 rfl (lv_at hl 5 rfl) ?_
        refine va_slen hx hb hX hbl hbA hS dn_L_law_26 ?_
        refine xk_ti (y := 6) rfl ?_
        refine lv_bipush (v := 6) hx hb dn_L_law_27 (by decide) ?_
        refine lv_isub hx hb dn_L_law_29 ?_
        refine xk_ti (y := 0) (by decide) ?_
        refine lv_icmp_gt (tgt := 659) hx hb dn_L_law_30 (by decide) (fun _ => ?_) (fun h9 => absurd h9 (by decide))
        refine lv_iconst (v := 1) hx hb dn_L_law_659 (by decide) ?_
        refine va_forget (fun q hq => by have h7 := hS.2.2 q hq; rw [hAe] at h7; exact h7) ?_
        refine W.widen (k := 600002) (n := 7302232) (Nat.le_of_ble_eq_true rfl) (Nat.le_of_ble_eq_true rfl) ?_
        exact lw_ret hx hb hr hlocks dn_L_law_660
      · by_cases hn2 : n1 ≤ 0
        · have e0 : n1 = 0 := Int32.le_antisymm hn2 (Int32.not_lt.mp hn)
          subst e0
          refine lv_tableIn (tgt := 208) hx hb dn_L_law_40 (by decide) (by decide) rfl (by decide) ?_
          refine lv_aload_n hx hb dn_L_law_208 rfl (lv_at hl 3 rfl) ?_
          refine lv_aload_n hx hb dn_L_law_209 rfl (lv_at hl 4 rfl) ?_
          refine lv_iload hx hb dn_L_law_210 (lv_at hl 0 rfl) ?_
          refine lv_iconst (v := 1) hx hb dn_L_law_212 (by decide) ?_
          refine lv_iadd hx hb dn_L_law_213 ?_
          refine xk_ti (y := 1) (by decide) ?_
          refine va_sld hx hb hX hbl hbA hS (show ¬ (_ ∨ _) by decide) dn_L_law_214 ?_
          refine xk_ti (y := 0) en1.symm ?_
          have hPc := hP.sub (ws' := [(q_1, .inr (1, xo_C f_3))]) [0] rfl
          have hDc := hD.sub (ws' := [(q_1, .inr (1, xo_C f_3))]) [0] (by decide) rfl
          refine xk_calli (wr := [(q_2, .inl (cB, 512, .inl (fun _ => 0))), (q_8, .inr (0, xo_M f_14)), (q_9, .inl (cB, 65536, .inl (fun _ => 0))), (q_10, .inl (cI, 65540, .inl (fun _ => 0))), (q_11, .inl (cI, 65540, .inl (fun _ => 0))), (q_12, .inl (cI, 65540, .inl (fun _ => 0))), (q_13, .inl (cB, 65536, .inl (fun _ => 0))), (q_21, .inl (cJ, 1, .inr (.inl (fun _ => 0))))]) (xk_runSH (ar := 2) (As := [.ref q_1, .int 0]) (rest := []) ⟨hx, hb, hml, hown, hg⟩ (ct_L_end_0 l hlt dC dI cI cB cJ cZ H.size q_1 f_3 hb_5) xk_blindX (fun U hU hW => ⟨⟨rfl, by rw [hU], by rw [hU]; exact hPc, va_K.moved hW.alike hK, hDc.weaken (fun _ _ _ _ => trivial), xn_moved hW hN⟩, xl_St hts hz1 hz2 hW (fun q hq => by rw [hU]; exact hS.2.1 q hq (hnA q hq))⟩) wn_7_118 wn_7_119 wn_1_0 wn_7_120 rfl rfl (by decide +kernel) ⟨Nat.le_of_ble_eq_true rfl, Nat.le_of_ble_eq_true rfl⟩ rfl hl.1 rfl (Nat.le_of_ble_eq_true rfl) dn_L_law_215 ⟨Nat.le_of_ble_eq_true rfl, Nat.le_of_ble_eq_true rfl⟩) hP hD hS hA [0] [1, 2, 3, 4, 5, 6, 7, 8] rfl rfl (by decide) (by decide) (fun r_22 _ H locs hw hP hD hS => ?_)
          have hP : va_P (dC, dI) xcl [(q_2, .inl (cB, 512, .inl (fun _ => 0))), (q_8, .inr (0, xo_M f_14)), (q_9, .inl (cB, 65536, .inl (fun _ => 0))), (q_10, .inl (cI, 65540, .inl (fun _ => 0))), (q_11, .inl (cI, 65540, .inl (fun _ => 0))), (q_12, .inl (cI, 65540, .inl (fun _ => 0))), (q_13, .inl (cB, 65536, .inl (fun _ => 0))), (q_21, .inl (cJ, 1, .inr (.inl (fun _ => 0)))), (q_1, .inr (1, xo_C (va_up f_3 1 (.int 0))))] H := hP
          have hD : va_D A [(q_2, .inl (cB, 512, .inl (fun _ => 0))), (q_8, .inr (0, xo_M f_14)), (q_9, .inl (cB, 65536, .inl (fun _ => 0))), (q_10, .inl (cI, 65540, .inl (fun _ => 0))), (q_11, .inl (cI, 65540, .inl (fun _ => 0))), (q_12, .inl (cI, 65540, .inl (fun _ => 0))), (q_13, .inl (cB, 65536, .inl (fun _ => 0))), (q_21, .inl (cJ, 1, .inr (.inl (fun _ => 0)))), (q_1, .inr (1, xo_C (va_up f_3 1 (.int 0))))] := hD
          have hw : r_22 = 0 := hw
          subst hw
          refine lv_istore (lv' := [(5, .int 0), (4, .int 0), (3, .ref q_21), (2, .ref q_8), (1, .ref q_1), (0, .ref b)]) hx hb dn_L_law_218 hl (by decide) rfl (fun ls hl => ?_)
          refine lv_aload_n hx hb dn_L_law_220 rfl (lv_at hl 3 rfl) ?_
          refine lv_aload_n hx hb dn_L_law_221 rfl (lv_at hl 5 rfl) ?_
          refine lv_iload hx hb dn_L_law_222 (lv_at hl 1 rfl) ?_
          refine lv_iconst (v := 1) hx hb dn_L_law_224 (by decide) ?_
          refine lv_iadd hx hb dn_L_law_225 ?_
          refine xk_ti (y := 1) (by decide) ?_
          refine va_sld hx hb hX hbl hbA hS (show ¬ (_ ∨ _) by decide) dn_L_law_226 ?_
          refine xk_ti (y := 0) en1.symm ?_
          have hPc := hP.sub (ws' := [(q_8, .inr (0, xo_M f_14))]) [1] rfl
          have hDc := hD.sub (ws' := [(q_8, .inr (0, xo_M f_14))]) [1] (by decide) rfl
          refine xk_callv (wr := [(q_2, .inl (cB, 512, .inl (fun _ => 0))), (q_9, .inl (cB, 65536, .inl (fun _ => 0))), (q_10, .inl (cI, 65540, .inl (fun _ => 0))), (q_11, .inl (cI, 65540, .inl (fun _ => 0))), (q_12, .inl (cI, 65540, .inl (fun _ => 0))), (q_13, .inl (cB, 65536, .inl (fun _ => 0))), (q_21, .inl (cJ, 1, .inr (.inl (fun _ => 0)))), (q_1, .inr (1, xo_C (va_up f_3 1 (.int 0))))]) (xk_runV (ar := 1) (As := [.int 0]) (rest := []) (ci := 0) (q0 := 0) ⟨hx, hb, hml, hown, hg⟩ hK hN (ct_M_end_0 l dC dI cI cB cJ cZ H.size q_8 f_14 hb_15.2.2.2.2.2.2.2.2.2.2.2.2.2.2.2.2.2.2.2.2.2.2.2.2.2.2.2.2.2.2.1) hPc hDc rfl rfl wn_11_20 wn_11_21 wn_11_22 wn_1_13 wn_11_23 rfl rfl (by decide +kernel) ⟨Nat.le_of_ble_eq_true rfl, Nat.le_of_ble_eq_true rfl⟩ rfl hl.1 rfl (Nat.le_of_ble_eq_true rfl) dn_L_law_227 ⟨Nat.le_of_ble_eq_true rfl, Nat.le_of_ble_eq_true rfl⟩) hP hD hS hA [1] [0, 2, 3, 4, 5, 6, 7, 8] rfl rfl (by decide) (by decide) (fun _ H locs hw hP hD hS => ?_)
          have hP : va_P (dC, dI) xcl [(q_2, .inl (cB, 512, .inl (fun _ => 0))), (q_9, .inl (cB, 65536, .inl (fun _ => 0))), (q_10, .inl (cI, 65540, .inl (fun _ => 0))), (q_11, .inl (cI, 65540, .inl (fun _ => 0))), (q_12, .inl (cI, 65540, .inl (fun _ => 0))), (q_13, .inl (cB, 65536, .inl (fun _ => 0))), (q_21, .inl (cJ, 1, .inr (.inl (fun _ => 0)))), (q_1, .inr (1, xo_C (va_up f_3 1 (.int 0)))), (q_8, .inr (0, xo_M (va_up (va_up f_14 0 (.int 0)) 88 (.int 0))))] H := hP
          have hD : va_D A [(q_2, .inl (cB, 512, .inl (fun _ => 0))), (q_9, .inl (cB, 65536, .inl (fun _ => 0))), (q_10, .inl (cI, 65540, .inl (fun _ => 0))), (q_11, .inl (cI, 65540, .inl (fun _ => 0))), (q_12, .inl (cI, 65540, .inl (fun _ => 0))), (q_13, .inl (cB, 65536, .inl (fun _ => 0))), (q_21, .inl (cJ, 1, .inr (.inl (fun _ => 0)))), (q_1, .inr (1, xo_C (va_up f_3 1 (.int 0)))), (q_8, .inr (0, xo_M (va_up (va_up f_14 0 (.int 0)) 88 (.int 0))))] := hD
          refine lv_aload_n hx hb dn_L_law_230 rfl (lv_at hl 3 rfl) ?_
          have hPc := hP.sub (ws' := [(q_8, .inr (0, xo_M (va_up (va_up f_14 0 (.int 0)) 88 (.int 0))))]) [8] rfl
          have hDc := hD.sub (ws' := [(q_8, .inr (0, xo_M (va_up (va_up f_14 0 (.int 0)) 88 (.int 0))))]) [8] (by decide) rfl
          refine xk_calli (wr := [(q_2, .inl (cB, 512, .inl (fun _ => 0))), (q_9, .inl (cB, 65536, .inl (fun _ => 0))), (q_10, .inl (cI, 65540, .inl (fun _ => 0))), (q_11, .inl (cI, 65540, .inl (fun _ => 0))), (q_12, .inl (cI, 65540, .inl (fun _ => 0))), (q_13, .inl (cB, 65536, .inl (fun _ => 0))), (q_21, .inl (cJ, 1, .inr (.inl (fun _ => 0)))), (q_1, .inr (1, xo_C (va_up f_3 1 (.int 0))))]) (xk_runV (ar := 0) (As := []) (rest := []) (ci := 0) (q0 := 0) ⟨hx, hb, hml, hown, hg⟩ hK hN (ct_M_thrown_0 l dC dI cI cB cJ cZ H.size q_8 (va_up (va_up f_14 0 (.int 0)) 88 (.int 0)) (show (va_up (va_up f_14 0 (.int 0)) 88 (.int 0)) 0 = .int 0 from rfl)) hPc hDc rfl rfl wn_9_125 wn_9_126 wn_9_127 wn_1_13 wn_9_128 rfl rfl (by decide +kernel) ⟨Nat.le_of_ble_eq_true rfl, Nat.le_of_ble_eq_true rfl⟩ rfl hl.1 rfl (Nat.le_of_ble_eq_true rfl) dn_L_law_231 ⟨Nat.le_of_ble_eq_true rfl, Nat.le_of_ble_eq_true rfl⟩) hP hD hS hA [8] [0, 1, 2, 3, 4, 5, 6, 7] rfl rfl (by decide) (by decide) (fun r_23 _ H locs hw hP hD hS => ?_)
          have hP : va_P (dC, dI) xcl [(q_2, .inl (cB, 512, .inl (fun _ => 0))), (q_9, .inl (cB, 65536, .inl (fun _ => 0))), (q_10, .inl (cI, 65540, .inl (fun _ => 0))), (q_11, .inl (cI, 65540, .inl (fun _ => 0))), (q_12, .inl (cI, 65540, .inl (fun _ => 0))), (q_13, .inl (cB, 65536, .inl (fun _ => 0))), (q_21, .inl (cJ, 1, .inr (.inl (fun _ => 0)))), (q_1, .inr (1, xo_C (va_up f_3 1 (.int 0)))), (q_8, .inr (0, xo_M ((va_up (va_up f_14 0 (.int 0)) 88 (.int 0)))))] H := hP
          have hD : va_D A [(q_2, .inl (cB, 512, .inl (fun _ => 0))), (q_9, .inl (cB, 65536, .inl (fun _ => 0))), (q_10, .inl (cI, 65540, .inl (fun _ => 0))), (q_11, .inl (cI, 65540, .inl (fun _ => 0))), (q_12, .inl (cI, 65540, .inl (fun _ => 0))), (q_13, .inl (cB, 65536, .inl (fun _ => 0))), (q_21, .inl (cJ, 1, .inr (.inl (fun _ => 0)))), (q_1, .inr (1, xo_C (va_up f_3 1 (.int 0)))), (q_8, .inr (0, xo_M ((va_up (va_up f_14 0 (.int 0)) 88 (.int 0)))))] := hD
          have hw : r_23 = 0 := hw
          subst hw
          refine lv_iload hx hb dn_L_law_234 (lv_at hl 0 rfl) ?_
          refine lv_icmp_eq (tgt := 241) hx hb dn_L_law_236 (by decide) (fun _ => ?_) (fun h9 => absurd h9 (by decide))
          refine lv_goto (tgt := 653) hx hb dn_L_law_241 (by decide) ?_
          refine lv_iinc (v := 6) (lv' := [(4, .int 6), (5, .int 0), (3, .ref q_21), (2, .ref q_8), (1, .ref q_1), (0, .ref b)]) hx hb dn_L_law_653 hl (k := 1) rfl (by decide) (by decide) rfl (fun ls hl => ?_)
          refine lv_goto (tgt := 23) hx hb dn_L_law_656 (by decide) ?_
          refine lv_iload hx hb dn_L_law_23 (lv_at hl 0 rfl) ?_
          refine lv_aload_n hx hb dn_L_law_25 rfl (lv_at hl 5 rfl) ?_
          refine va_slen hx hb hX hbl hbA hS dn_L_law_26 ?_
          refine xk_ti (y := 6) rfl ?_
          refine lv_bipush (v := 6) hx hb dn_L_law_27 (by decide) ?_
          refine lv_isub hx hb dn_L_law_29 ?_
          refine xk_ti (y := 0) (by decide) ?_
          refine lv_icmp_gt (tgt := 659) hx hb dn_L_law_30 (by decide) (fun _ => ?_) (fun h9 => absurd h9 (by decide))
          refine lv_iconst (v := 1) hx hb dn_L_law_659 (by decide) ?_
          refine va_forget (fun q hq => by have h7 := hS.2.2 q hq; rw [hAe] at h7; exact h7) ?_
          refine W.widen (k := 600002) (n := 7302232) (Nat.le_of_ble_eq_true rfl) (Nat.le_of_ble_eq_true rfl) ?_
          exact lw_ret hx hb hr hlocks dn_L_law_660
        · refine lv_tableIn (tgt := 208) hx hb dn_L_law_40 (by decide) (by decide) rfl (by decide) ?_
          refine lv_aload_n hx hb dn_L_law_208 rfl (lv_at hl 3 rfl) ?_
          refine lv_aload_n hx hb dn_L_law_209 rfl (lv_at hl 4 rfl) ?_
          refine lv_iload hx hb dn_L_law_210 (lv_at hl 0 rfl) ?_
          refine lv_iconst (v := 1) hx hb dn_L_law_212 (by decide) ?_
          refine lv_iadd hx hb dn_L_law_213 ?_
          refine xk_ti (y := 1) (by decide) ?_
          refine va_sld hx hb hX hbl hbA hS (show ¬ (_ ∨ _) by decide) dn_L_law_214 ?_
          refine xk_ti (y := n1) en1.symm ?_
          have hPc := hP.sub (ws' := [(q_1, .inr (1, xo_C f_3))]) [0] rfl
          have hDc := hD.sub (ws' := [(q_1, .inr (1, xo_C f_3))]) [0] (by decide) rfl
          refine xk_calli (wr := [(q_2, .inl (cB, 512, .inl (fun _ => 0))), (q_8, .inr (0, xo_M f_14)), (q_9, .inl (cB, 65536, .inl (fun _ => 0))), (q_10, .inl (cI, 65540, .inl (fun _ => 0))), (q_11, .inl (cI, 65540, .inl (fun _ => 0))), (q_12, .inl (cI, 65540, .inl (fun _ => 0))), (q_13, .inl (cB, 65536, .inl (fun _ => 0))), (q_21, .inl (cJ, 1, .inr (.inl (fun _ => 0))))]) (xk_runSH (ar := 2) (As := [.ref q_1, .int n1]) (rest := []) ⟨hx, hb, hml, hown, hg⟩ (ct_L_end_t2 l hlt dC dI cI cB cJ cZ H.size q_1 f_3 n1 hb_5 hn hn2) xk_blindX (fun U hU hW => ⟨⟨rfl, by rw [hU], by rw [hU]; exact hPc, va_K.moved hW.alike hK, hDc.weaken (fun _ _ _ _ => trivial), xn_moved hW hN⟩, xl_St hts hz1 hz2 hW (fun q hq => by rw [hU]; exact hS.2.1 q hq (hnA q hq))⟩) wn_7_118 wn_7_119 wn_1_0 wn_7_120 rfl rfl (by decide +kernel) ⟨Nat.le_of_ble_eq_true rfl, Nat.le_of_ble_eq_true rfl⟩ rfl hl.1 rfl (Nat.le_of_ble_eq_true rfl) dn_L_law_215 ⟨Nat.le_of_ble_eq_true rfl, Nat.le_of_ble_eq_true rfl⟩) hP hD hS hA [0] [1, 2, 3, 4, 5, 6, 7, 8] rfl rfl (by decide) (by decide) (fun r_22 _ H locs hw hP hD hS => ?_)
          have hP : va_P (dC, dI) xcl [(q_2, .inl (cB, 512, .inl (fun _ => 0))), (q_8, .inr (0, xo_M f_14)), (q_9, .inl (cB, 65536, .inl (fun _ => 0))), (q_10, .inl (cI, 65540, .inl (fun _ => 0))), (q_11, .inl (cI, 65540, .inl (fun _ => 0))), (q_12, .inl (cI, 65540, .inl (fun _ => 0))), (q_13, .inl (cB, 65536, .inl (fun _ => 0))), (q_21, .inl (cJ, 1, .inr (.inl (fun _ => 0)))), (q_1, .inr (1, xo_C f_3))] H := hP
          have hD : va_D A [(q_2, .inl (cB, 512, .inl (fun _ => 0))), (q_8, .inr (0, xo_M f_14)), (q_9, .inl (cB, 65536, .inl (fun _ => 0))), (q_10, .inl (cI, 65540, .inl (fun _ => 0))), (q_11, .inl (cI, 65540, .inl (fun _ => 0))), (q_12, .inl (cI, 65540, .inl (fun _ => 0))), (q_13, .inl (cB, 65536, .inl (fun _ => 0))), (q_21, .inl (cJ, 1, .inr (.inl (fun _ => 0)))), (q_1, .inr (1, xo_C f_3))] := hD
          have hw : r_22 = 1 := hw
          subst hw
          refine lv_istore (lv' := [(5, .int 1), (4, .int 0), (3, .ref q_21), (2, .ref q_8), (1, .ref q_1), (0, .ref b)]) hx hb dn_L_law_218 hl (by decide) rfl (fun ls hl => ?_)
          refine lv_aload_n hx hb dn_L_law_220 rfl (lv_at hl 3 rfl) ?_
          refine lv_aload_n hx hb dn_L_law_221 rfl (lv_at hl 5 rfl) ?_
          refine lv_iload hx hb dn_L_law_222 (lv_at hl 1 rfl) ?_
          refine lv_iconst (v := 1) hx hb dn_L_law_224 (by decide) ?_
          refine lv_iadd hx hb dn_L_law_225 ?_
          refine xk_ti (y := 1) (by decide) ?_
          refine va_sld hx hb hX hbl hbA hS (show ¬ (_ ∨ _) by decide) dn_L_law_226 ?_
          refine xk_ti (y := n1) en1.symm ?_
          have hPc := hP.sub (ws' := [(q_8, .inr (0, xo_M f_14))]) [1] rfl
          have hDc := hD.sub (ws' := [(q_8, .inr (0, xo_M f_14))]) [1] (by decide) rfl
          refine xk_callv (wr := [(q_2, .inl (cB, 512, .inl (fun _ => 0))), (q_9, .inl (cB, 65536, .inl (fun _ => 0))), (q_10, .inl (cI, 65540, .inl (fun _ => 0))), (q_11, .inl (cI, 65540, .inl (fun _ => 0))), (q_12, .inl (cI, 65540, .inl (fun _ => 0))), (q_13, .inl (cB, 65536, .inl (fun _ => 0))), (q_21, .inl (cJ, 1, .inr (.inl (fun _ => 0)))), (q_1, .inr (1, xo_C f_3))]) (xk_runV (ar := 1) (As := [.int n1]) (rest := []) (ci := 0) (q0 := 0) ⟨hx, hb, hml, hown, hg⟩ hK hN (ct_M_end_2 l dC dI cI cB cJ cZ H.size q_8 n1 f_14 hb_15.2.2.2.2.2.2.2.2.2.2.2.2.2.2.2.2.2.2.2.2.2.2.2.2.2.2.2.2.2.2.1 hn hn2) hPc hDc rfl rfl wn_11_20 wn_11_21 wn_11_22 wn_1_13 wn_11_23 rfl rfl (by decide +kernel) ⟨Nat.le_of_ble_eq_true rfl, Nat.le_of_ble_eq_true rfl⟩ rfl hl.1 rfl (Nat.le_of_ble_eq_true rfl) dn_L_law_227 ⟨Nat.le_of_ble_eq_true rfl, Nat.le_of_ble_eq_true rfl⟩) hP hD hS hA [1] [0, 2, 3, 4, 5, 6, 7, 8] rfl rfl (by decide) (by decide) (fun _ H locs hw hP hD hS => ?_)
          have hP : va_P (dC, dI) xcl [(q_2, .inl (cB, 512, .inl (fun _ => 0))), (q_9, .inl (cB, 65536, .inl (fun _ => 0))), (q_10, .inl (cI, 65540, .inl (fun _ => 0))), (q_11, .inl (cI, 65540, .inl (fun _ => 0))), (q_12, .inl (cI, 65540, .inl (fun _ => 0))), (q_13, .inl (cB, 65536, .inl (fun _ => 0))), (q_21, .inl (cJ, 1, .inr (.inl (fun _ => 0)))), (q_1, .inr (1, xo_C f_3)), (q_8, .inr (0, xo_M (va_up (va_up f_14 0 (.int 1)) 88 (.int 0))))] H := hP
          have hD : va_D A [(q_2, .inl (cB, 512, .inl (fun _ => 0))), (q_9, .inl (cB, 65536, .inl (fun _ => 0))), (q_10, .inl (cI, 65540, .inl (fun _ => 0))), (q_11, .inl (cI, 65540, .inl (fun _ => 0))), (q_12, .inl (cI, 65540, .inl (fun _ => 0))), (q_13, .inl (cB, 65536, .inl (fun _ => 0))), (q_21, .inl (cJ, 1, .inr (.inl (fun _ => 0)))), (q_1, .inr (1, xo_C f_3)), (q_8, .inr (0, xo_M (va_up (va_up f_14 0 (.int 1)) 88 (.int 0))))] := hD
          refine lv_aload_n hx hb dn_L_law_230 rfl (lv_at hl 3 rfl) ?_
          have hPc := hP.sub (ws' := [(q_8, .inr (0, xo_M (va_up (va_up f_14 0 (.int 1)) 88 (.int 0))))]) [8] rfl
          have hDc := hD.sub (ws' := [(q_8, .inr (0, xo_M (va_up (va_up f_14 0 (.int 1)) 88 (.int 0))))]) [8] (by decide) rfl
          refine xk_calli (wr := [(q_2, .inl (cB, 512, .inl (fun _ => 0))), (q_9, .inl (cB, 65536, .inl (fun _ => 0))), (q_10, .inl (cI, 65540, .inl (fun _ => 0))), (q_11, .inl (cI, 65540, .inl (fun _ => 0))), (q_12, .inl (cI, 65540, .inl (fun _ => 0))), (q_13, .inl (cB, 65536, .inl (fun _ => 0))), (q_21, .inl (cJ, 1, .inr (.inl (fun _ => 0)))), (q_1, .inr (1, xo_C f_3))]) (xk_runV (ar := 0) (As := []) (rest := []) (ci := 0) (q0 := 0) ⟨hx, hb, hml, hown, hg⟩ hK hN (ct_M_thrown_2 l dC dI cI cB cJ cZ H.size q_8 (va_up (va_up f_14 0 (.int 1)) 88 (.int 0)) (show (va_up (va_up f_14 0 (.int 1)) 88 (.int 0)) 0 = .int 1 from rfl)) hPc hDc rfl rfl wn_9_125 wn_9_126 wn_9_127 wn_1_13 wn_9_128 rfl rfl (by decide +kernel) ⟨Nat.le_of_ble_eq_true rfl, Nat.le_of_ble_eq_true rfl⟩ rfl hl.1 rfl (Nat.le_of_ble_eq_true rfl) dn_L_law_231 ⟨Nat.le_of_ble_eq_true rfl, Nat.le_of_ble_eq_true rfl⟩) hP hD hS hA [8] [0, 1, 2, 3, 4, 5, 6, 7] rfl rfl (by decide) (by decide) (fun r_23 _ H locs hw hP hD hS => ?_)
          have hP : va_P (dC, dI) xcl [(q_2, .inl (cB, 512, .inl (fun _ => 0))), (q_9, .inl (cB, 65536, .inl (fun _ => 0))), (q_10, .inl (cI, 65540, .inl (fun _ => 0))), (q_11, .inl (cI, 65540, .inl (fun _ => 0))), (q_12, .inl (cI, 65540, .inl (fun _ => 0))), (q_13, .inl (cB, 65536, .inl (fun _ => 0))), (q_21, .inl (cJ, 1, .inr (.inl (fun _ => 0)))), (q_1, .inr (1, xo_C f_3)), (q_8, .inr (0, xo_M ((va_up (va_up f_14 0 (.int 1)) 88 (.int 0)))))] H := hP
          have hD : va_D A [(q_2, .inl (cB, 512, .inl (fun _ => 0))), (q_9, .inl (cB, 65536, .inl (fun _ => 0))), (q_10, .inl (cI, 65540, .inl (fun _ => 0))), (q_11, .inl (cI, 65540, .inl (fun _ => 0))), (q_12, .inl (cI, 65540, .inl (fun _ => 0))), (q_13, .inl (cB, 65536, .inl (fun _ => 0))), (q_21, .inl (cJ, 1, .inr (.inl (fun _ => 0)))), (q_1, .inr (1, xo_C f_3)), (q_8, .inr (0, xo_M ((va_up (va_up f_14 0 (.int 1)) 88 (.int 0)))))] := hD
          have hw : r_23 = 1 := hw
          subst hw
          refine lv_iload hx hb dn_L_law_234 (lv_at hl 0 rfl) ?_
          refine lv_icmp_eq (tgt := 241) hx hb dn_L_law_236 (by decide) (fun _ => ?_) (fun h9 => absurd h9 (by decide))
          refine lv_goto (tgt := 653) hx hb dn_L_law_241 (by decide) ?_
          refine lv_iinc (v := 6) (lv' := [(4, .int 6), (5, .int 1), (3, .ref q_21), (2, .ref q_8), (1, .ref q_1), (0, .ref b)]) hx hb dn_L_law_653 hl (k := 1) rfl (by decide) (by decide) rfl (fun ls hl => ?_)
          refine lv_goto (tgt := 23) hx hb dn_L_law_656 (by decide) ?_
          refine lv_iload hx hb dn_L_law_23 (lv_at hl 0 rfl) ?_
          refine lv_aload_n hx hb dn_L_law_25 rfl (lv_at hl 5 rfl) ?_
          refine va_slen hx hb hX hbl hbA hS dn_L_law_26 ?_
          refine xk_ti (y := 6) rfl ?_
          refine lv_bipush (v := 6) hx hb dn_L_law_27 (by decide) ?_
          refine lv_isub hx hb dn_L_law_29 ?_
          refine xk_ti (y := 0) (by decide) ?_
          refine lv_icmp_gt (tgt := 659) hx hb dn_L_law_30 (by decide) (fun _ => ?_) (fun h9 => absurd h9 (by decide))
          refine lv_iconst (v := 1) hx hb dn_L_law_659 (by decide) ?_
          refine va_forget (fun q hq => by have h7 := hS.2.2 q hq; rw [hAe] at h7; exact h7) ?_
          refine W.widen (k := 600002) (n := 7302232) (Nat.le_of_ble_eq_true rfl) (Nat.le_of_ble_eq_true rfl) ?_
          exact lw_ret hx hb hr hlocks dn_L_law_660
    · refine lv_tableIn (tgt := 244) hx hb dn_L_law_40 (by decide) (by decide) rfl (by decide) ?_
      refine lv_aload_n hx hb dn_L_law_244 rfl (lv_at hl 3 rfl) ?_
      have hPc := hP.sub (ws' := [(q_1, .inr (1, xo_C f_3))]) [0] rfl
      have hDc := hD.sub (ws' := [(q_1, .inr (1, xo_C f_3))]) [0] (by decide) rfl
      refine xk_calli (wr := [(q_2, .inl (cB, 512, .inl (fun _ => 0))), (q_8, .inr (0, xo_M f_14)), (q_9, .inl (cB, 65536, .inl (fun _ => 0))), (q_10, .inl (cI, 65540, .inl (fun _ => 0))), (q_11, .inl (cI, 65540, .inl (fun _ => 0))), (q_12, .inl (cI, 65540, .inl (fun _ => 0))), (q_13, .inl (cB, 65536, .inl (fun _ => 0))), (q_21, .inl (cJ, 1, .inr (.inl (fun _ => 0))))]) (xk_runV (ar := 0) (As := []) (rest := []) (ci := 1) (q0 := 0) ⟨hx, hb, hml, hown, hg⟩ hK hN (ct_C_read_0 l dC dI cI cB cJ cZ H.size q_1 f_3 hb_5 hb_6 hb_7) hPc hDc rfl rfl wn_3_179 wn_3_180 wn_3_181 wn_1_1 wn_3_182 rfl rfl (by decide +kernel) ⟨Nat.le_of_ble_eq_true rfl, Nat.le_of_ble_eq_true rfl⟩ rfl hl.1 rfl (Nat.le_of_ble_eq_true rfl) dn_L_law_245 ⟨Nat.le_of_ble_eq_true rfl, Nat.le_of_ble_eq_true rfl⟩) hP hD hS hA [0] [1, 2, 3, 4, 5, 6, 7, 8] rfl rfl (by decide) (by decide) (fun r_22 _ H locs hw hP hD hS => ?_)
      have hP : va_P (dC, dI) xcl [(q_2, .inl (cB, 512, .inl (fun _ => 0))), (q_8, .inr (0, xo_M f_14)), (q_9, .inl (cB, 65536, .inl (fun _ => 0))), (q_10, .inl (cI, 65540, .inl (fun _ => 0))), (q_11, .inl (cI, 65540, .inl (fun _ => 0))), (q_12, .inl (cI, 65540, .inl (fun _ => 0))), (q_13, .inl (cB, 65536, .inl (fun _ => 0))), (q_21, .inl (cJ, 1, .inr (.inl (fun _ => 0)))), (q_1, .inr (1, xo_C f_3))] H := hP
      have hD : va_D A [(q_2, .inl (cB, 512, .inl (fun _ => 0))), (q_8, .inr (0, xo_M f_14)), (q_9, .inl (cB, 65536, .inl (fun _ => 0))), (q_10, .inl (cI, 65540, .inl (fun _ => 0))), (q_11, .inl (cI, 65540, .inl (fun _ => 0))), (q_12, .inl (cI, 65540, .inl (fun _ => 0))), (q_13, .inl (cB, 65536, .inl (fun _ => 0))), (q_21, .inl (cJ, 1, .inr (.inl (fun _ => 0)))), (q_1, .inr (1, xo_C f_3))] := hD
      have hw : r_22 = 0 := hw
      subst hw
      refine lv_aload_n hx hb dn_L_law_248 rfl (lv_at hl 2 rfl) ?_
      have hPc := hP.sub (ws' := [(q_8, .inr (0, xo_M f_14)), (q_10, .inl (cI, 65540, .inl (fun _ => 0))), (q_11, .inl (cI, 65540, .inl (fun _ => 0))), (q_12, .inl (cI, 65540, .inl (fun _ => 0)))]) [1, 3, 4, 5] rfl
      have hDc := hD.sub (ws' := [(q_8, .inr (0, xo_M f_14)), (q_10, .inl (cI, 65540, .inl (fun _ => 0))), (q_11, .inl (cI, 65540, .inl (fun _ => 0))), (q_12, .inl (cI, 65540, .inl (fun _ => 0)))]) [1, 3, 4, 5] (by decide) rfl
      refine xk_calli (wr := [(q_2, .inl (cB, 512, .inl (fun _ => 0))), (q_9, .inl (cB, 65536, .inl (fun _ => 0))), (q_13, .inl (cB, 65536, .inl (fun _ => 0))), (q_21, .inl (cJ, 1, .inr (.inl (fun _ => 0)))), (q_1, .inr (1, xo_C f_3))]) (xk_runV (ar := 0) (As := []) (rest := [.int 0]) (ci := 0) (q0 := 0) ⟨hx, hb, hml, hown, hg⟩ hK hN (ct_M_read_I_0 l dC dI cI cB cJ cZ H.size q_8 q_10 q_11 q_12 f_14 hb_17 hb_18 hb_19 hb_15.2.2.2.2.2.2.2.2.2.2.2.2.2.2.2.2.2.2.1 hb_15.2.2.2.2.2.2.2.2.2.2.2.2.2.2.2.2.2.2.2.2.2.2.2.2.2.2.2.2.2.2.1) hPc hDc rfl rfl wn_9_129 wn_9_130 wn_9_131 wn_1_13 wn_9_132 rfl rfl (by decide +kernel) ⟨Nat.le_of_ble_eq_true rfl, Nat.le_of_ble_eq_true rfl⟩ rfl hl.1 rfl (Nat.le_of_ble_eq_true rfl) dn_L_law_249 ⟨Nat.le_of_ble_eq_true rfl, Nat.le_of_ble_eq_true rfl⟩) hP hD hS hA [1, 3, 4, 5] [0, 2, 6, 7, 8] rfl rfl (by decide) (by decide) (fun r_23 _ H locs hw hP hD hS => ?_)
      have hP : va_P (dC, dI) xcl [(q_2, .inl (cB, 512, .inl (fun _ => 0))), (q_9, .inl (cB, 65536, .inl (fun _ => 0))), (q_13, .inl (cB, 65536, .inl (fun _ => 0))), (q_21, .inl (cJ, 1, .inr (.inl (fun _ => 0)))), (q_1, .inr (1, xo_C f_3)), (q_12, .inl (cI, 65540, .inl (upd (fun _ => 0) 0 0))), (q_10, .inl (cI, 65540, .inl ((upd (fun _ => 0) 0 403)))), (q_11, .inl (cI, 65540, .inl ((upd (fun _ => 0) 0 0)))), (q_8, .inr (0, xo_M (va_up (((va_up (((((va_up (va_up (va_up (va_up (va_up ((va_up (va_up (va_up (va_up (va_up (va_up f_14 0 (.int 0)) 2 (.int 0)) 88 (.int 0)) 9 (.int 0)) 10 (.int (-1))) 7 (.int 0))) 7 (.int 1)) 8 (.int 0)) 11 (.int 0)) 9 (.int 2)) 10 (.int 0)))))) 11 (.int (-1))))) 3 (.int 2))))] H := hP
      have hD : va_D A [(q_2, .inl (cB, 512, .inl (fun _ => 0))), (q_9, .inl (cB, 65536, .inl (fun _ => 0))), (q_13, .inl (cB, 65536, .inl (fun _ => 0))), (q_21, .inl (cJ, 1, .inr (.inl (fun _ => 0)))), (q_1, .inr (1, xo_C f_3)), (q_12, .inl (cI, 65540, .inl (upd (fun _ => 0) 0 0))), (q_10, .inl (cI, 65540, .inl ((upd (fun _ => 0) 0 403)))), (q_11, .inl (cI, 65540, .inl ((upd (fun _ => 0) 0 0)))), (q_8, .inr (0, xo_M (va_up (((va_up (((((va_up (va_up (va_up (va_up (va_up ((va_up (va_up (va_up (va_up (va_up (va_up f_14 0 (.int 0)) 2 (.int 0)) 88 (.int 0)) 9 (.int 0)) 10 (.int (-1))) 7 (.int 0))) 7 (.int 1)) 8 (.int 0)) 11 (.int 0)) 9 (.int 2)) 10 (.int 0)))))) 11 (.int (-1))))) 3 (.int 2))))] := hD
      have hw : r_23 = 0 := hw
      subst hw
      refine lv_icmp_eq (tgt := 653) hx hb dn_L_law_252 (by decide) (fun _ => ?_) (fun h9 => absurd h9 (by decide))
      refine lv_iinc (v := 6) (lv' := [(4, .int 6), (3, .ref q_21), (2, .ref q_8), (1, .ref q_1), (0, .ref b)]) hx hb dn_L_law_653 hl (k := 0) rfl (by decide) (by decide) rfl (fun ls hl => ?_)
      refine lv_goto (tgt := 23) hx hb dn_L_law_656 (by decide) ?_
      refine lv_iload hx hb dn_L_law_23 (lv_at hl 0 rfl) ?_
      refine lv_aload_n hx hb dn_L_law_25 rfl (lv_at hl 4 rfl) ?_
      refine va_slen hx hb hX hbl hbA hS dn_L_law_26 ?_
      refine xk_ti (y := 6) rfl ?_
      refine lv_bipush (v := 6) hx hb dn_L_law_27 (by decide) ?_
      refine lv_isub hx hb dn_L_law_29 ?_
      refine xk_ti (y := 0) (by decide) ?_
      refine lv_icmp_gt (tgt := 659) hx hb dn_L_law_30 (by decide) (fun _ => ?_) (fun h9 => absurd h9 (by decide))
      refine lv_iconst (v := 1) hx hb dn_L_law_659 (by decide) ?_
      refine va_forget (fun q hq => by have h7 := hS.2.2 q hq; rw [hAe] at h7; exact h7) ?_
      refine W.widen (k := 600002) (n := 7302232) (Nat.le_of_ble_eq_true rfl) (Nat.le_of_ble_eq_true rfl) ?_
      exact lw_ret hx hb hr hlocks dn_L_law_660
    · refine lv_tableIn (tgt := 257) hx hb dn_L_law_40 (by decide) (by decide) rfl (by decide) ?_
      refine lv_aload_n hx hb dn_L_law_257 rfl (lv_at hl 3 rfl) ?_
      have hPc := hP.sub (ws' := [(q_1, .inr (1, xo_C f_3))]) [0] rfl
      have hDc := hD.sub (ws' := [(q_1, .inr (1, xo_C f_3))]) [0] (by decide) rfl
      refine xk_calli (wr := [(q_2, .inl (cB, 512, .inl (fun _ => 0))), (q_8, .inr (0, xo_M f_14)), (q_9, .inl (cB, 65536, .inl (fun _ => 0))), (q_10, .inl (cI, 65540, .inl (fun _ => 0))), (q_11, .inl (cI, 65540, .inl (fun _ => 0))), (q_12, .inl (cI, 65540, .inl (fun _ => 0))), (q_13, .inl (cB, 65536, .inl (fun _ => 0))), (q_21, .inl (cJ, 1, .inr (.inl (fun _ => 0))))]) (xk_runV (ar := 0) (As := []) (rest := []) (ci := 1) (q0 := 0) ⟨hx, hb, hml, hown, hg⟩ hK hN (ct_C_fault_0 l dC dI cI cB cJ cZ H.size q_1 f_3 hb_6) hPc hDc rfl rfl wn_7_25 wn_7_26 wn_7_27 wn_1_1 wn_7_28 rfl rfl (by decide +kernel) ⟨Nat.le_of_ble_eq_true rfl, Nat.le_of_ble_eq_true rfl⟩ rfl hl.1 rfl (Nat.le_of_ble_eq_true rfl) dn_L_law_258 ⟨Nat.le_of_ble_eq_true rfl, Nat.le_of_ble_eq_true rfl⟩) hP hD hS hA [0] [1, 2, 3, 4, 5, 6, 7, 8] rfl rfl (by decide) (by decide) (fun r_22 _ H locs hw hP hD hS => ?_)
      have hP : va_P (dC, dI) xcl [(q_2, .inl (cB, 512, .inl (fun _ => 0))), (q_8, .inr (0, xo_M f_14)), (q_9, .inl (cB, 65536, .inl (fun _ => 0))), (q_10, .inl (cI, 65540, .inl (fun _ => 0))), (q_11, .inl (cI, 65540, .inl (fun _ => 0))), (q_12, .inl (cI, 65540, .inl (fun _ => 0))), (q_13, .inl (cB, 65536, .inl (fun _ => 0))), (q_21, .inl (cJ, 1, .inr (.inl (fun _ => 0)))), (q_1, .inr (1, xo_C f_3))] H := hP
      have hD : va_D A [(q_2, .inl (cB, 512, .inl (fun _ => 0))), (q_8, .inr (0, xo_M f_14)), (q_9, .inl (cB, 65536, .inl (fun _ => 0))), (q_10, .inl (cI, 65540, .inl (fun _ => 0))), (q_11, .inl (cI, 65540, .inl (fun _ => 0))), (q_12, .inl (cI, 65540, .inl (fun _ => 0))), (q_13, .inl (cB, 65536, .inl (fun _ => 0))), (q_21, .inl (cJ, 1, .inr (.inl (fun _ => 0)))), (q_1, .inr (1, xo_C f_3))] := hD
      have hw : r_22 = 0 := hw
      subst hw
      refine lv_aload_n hx hb dn_L_law_261 rfl (lv_at hl 2 rfl) ?_
      have hPc := hP.sub (ws' := [(q_8, .inr (0, xo_M f_14))]) [1] rfl
      have hDc := hD.sub (ws' := [(q_8, .inr (0, xo_M f_14))]) [1] (by decide) rfl
      refine xk_calli (wr := [(q_2, .inl (cB, 512, .inl (fun _ => 0))), (q_9, .inl (cB, 65536, .inl (fun _ => 0))), (q_10, .inl (cI, 65540, .inl (fun _ => 0))), (q_11, .inl (cI, 65540, .inl (fun _ => 0))), (q_12, .inl (cI, 65540, .inl (fun _ => 0))), (q_13, .inl (cB, 65536, .inl (fun _ => 0))), (q_21, .inl (cJ, 1, .inr (.inl (fun _ => 0)))), (q_1, .inr (1, xo_C f_3))]) (xk_runV (ar := 0) (As := []) (rest := [.int 0]) (ci := 0) (q0 := 0) ⟨hx, hb, hml, hown, hg⟩ hK hN (ct_M_fault_0 l dC dI cI cB cJ cZ H.size q_8 f_14 hb_15.2.2.1) hPc hDc rfl rfl wn_11_24 wn_11_25 wn_11_26 wn_1_13 wn_11_27 rfl rfl (by decide +kernel) ⟨Nat.le_of_ble_eq_true rfl, Nat.le_of_ble_eq_true rfl⟩ rfl hl.1 rfl (Nat.le_of_ble_eq_true rfl) dn_L_law_262 ⟨Nat.le_of_ble_eq_true rfl, Nat.le_of_ble_eq_true rfl⟩) hP hD hS hA [1] [0, 2, 3, 4, 5, 6, 7, 8] rfl rfl (by decide) (by decide) (fun r_23 _ H locs hw hP hD hS => ?_)
      have hP : va_P (dC, dI) xcl [(q_2, .inl (cB, 512, .inl (fun _ => 0))), (q_9, .inl (cB, 65536, .inl (fun _ => 0))), (q_10, .inl (cI, 65540, .inl (fun _ => 0))), (q_11, .inl (cI, 65540, .inl (fun _ => 0))), (q_12, .inl (cI, 65540, .inl (fun _ => 0))), (q_13, .inl (cB, 65536, .inl (fun _ => 0))), (q_21, .inl (cJ, 1, .inr (.inl (fun _ => 0)))), (q_1, .inr (1, xo_C f_3)), (q_8, .inr (0, xo_M (va_up f_14 0 (.int 0))))] H := hP
      have hD : va_D A [(q_2, .inl (cB, 512, .inl (fun _ => 0))), (q_9, .inl (cB, 65536, .inl (fun _ => 0))), (q_10, .inl (cI, 65540, .inl (fun _ => 0))), (q_11, .inl (cI, 65540, .inl (fun _ => 0))), (q_12, .inl (cI, 65540, .inl (fun _ => 0))), (q_13, .inl (cB, 65536, .inl (fun _ => 0))), (q_21, .inl (cJ, 1, .inr (.inl (fun _ => 0)))), (q_1, .inr (1, xo_C f_3)), (q_8, .inr (0, xo_M (va_up f_14 0 (.int 0))))] := hD
      have hw : r_23 = 0 := hw
      subst hw
      refine lv_icmp_eq (tgt := 653) hx hb dn_L_law_265 (by decide) (fun _ => ?_) (fun h9 => absurd h9 (by decide))
      refine lv_iinc (v := 6) (lv' := [(4, .int 6), (3, .ref q_21), (2, .ref q_8), (1, .ref q_1), (0, .ref b)]) hx hb dn_L_law_653 hl (k := 0) rfl (by decide) (by decide) rfl (fun ls hl => ?_)
      refine lv_goto (tgt := 23) hx hb dn_L_law_656 (by decide) ?_
      refine lv_iload hx hb dn_L_law_23 (lv_at hl 0 rfl) ?_
      refine lv_aload_n hx hb dn_L_law_25 rfl (lv_at hl 4 rfl) ?_
      refine va_slen hx hb hX hbl hbA hS dn_L_law_26 ?_
      refine xk_ti (y := 6) rfl ?_
      refine lv_bipush (v := 6) hx hb dn_L_law_27 (by decide) ?_
      refine lv_isub hx hb dn_L_law_29 ?_
      refine xk_ti (y := 0) (by decide) ?_
      refine lv_icmp_gt (tgt := 659) hx hb dn_L_law_30 (by decide) (fun _ => ?_) (fun h9 => absurd h9 (by decide))
      refine lv_iconst (v := 1) hx hb dn_L_law_659 (by decide) ?_
      refine va_forget (fun q hq => by have h7 := hS.2.2 q hq; rw [hAe] at h7; exact h7) ?_
      refine W.widen (k := 600002) (n := 7302232) (Nat.le_of_ble_eq_true rfl) (Nat.le_of_ble_eq_true rfl) ?_
      exact lw_ret hx hb hr hlocks dn_L_law_660
    · refine lv_tableIn (tgt := 270) hx hb dn_L_law_40 (by decide) (by decide) rfl (by decide) ?_
      refine lv_aload_n hx hb dn_L_law_270 rfl (lv_at hl 3 rfl) ?_
      refine lv_aload_n hx hb dn_L_law_271 rfl (lv_at hl 4 rfl) ?_
      refine lv_iload hx hb dn_L_law_272 (lv_at hl 0 rfl) ?_
      refine lv_iconst (v := 1) hx hb dn_L_law_274 (by decide) ?_
      refine lv_iadd hx hb dn_L_law_275 ?_
      refine xk_ti (y := 1) (by decide) ?_
      refine va_sld hx hb hX hbl hbA hS (show ¬ (_ ∨ _) by decide) dn_L_law_276 ?_
      refine xk_ti (y := xs 1) rfl ?_
      refine lv_aload_n hx hb dn_L_law_277 rfl (lv_at hl 1 rfl) ?_
      have hPc := hP.sub (ws' := [(q_1, .inr (1, xo_C f_3))]) [0] rfl
      have hDc := hD.sub (ws' := [(q_1, .inr (1, xo_C f_3))]) [0] (by decide) rfl
      refine xk_calli (wr := [(q_2, .inl (cB, 512, .inl (fun _ => 0))), (q_8, .inr (0, xo_M f_14)), (q_9, .inl (cB, 65536, .inl (fun _ => 0))), (q_10, .inl (cI, 65540, .inl (fun _ => 0))), (q_11, .inl (cI, 65540, .inl (fun _ => 0))), (q_12, .inl (cI, 65540, .inl (fun _ => 0))), (q_13, .inl (cB, 65536, .inl (fun _ => 0))), (q_21, .inl (cJ, 1, .inr (.inl (fun _ => 0))))]) (xk_runSH (ar := 3) (As := [.ref q_1, .int (xs 1), .ref q_21]) (rest := []) ⟨hx, hb, hml, hown, hg⟩ (ct_L_count_t l hlt dC dI cI cB cJ cZ H.size q_1 f_3 ((xs 1)) q_21 hb_7) xk_blindX (fun U hU hW => ⟨⟨rfl, by rw [hU], by rw [hU]; exact hPc, va_K.moved hW.alike hK, hDc.weaken (fun _ _ _ _ => trivial), xn_moved hW hN⟩, xl_St hts hz1 hz2 hW (fun q hq => by rw [hU]; exact hS.2.1 q hq (hnA q hq))⟩) wn_7_141 wn_7_142 wn_1_0 wn_7_143 rfl rfl (by decide +kernel) ⟨Nat.le_of_ble_eq_true rfl, Nat.le_of_ble_eq_true rfl⟩ rfl hl.1 rfl (Nat.le_of_ble_eq_true rfl) dn_L_law_278 ⟨Nat.le_of_ble_eq_true rfl, Nat.le_of_ble_eq_true rfl⟩) hP hD hS hA [0] [1, 2, 3, 4, 5, 6, 7, 8] rfl rfl (by decide) (by decide) (fun r_22 _ H locs hw hP hD hS => ?_)
      have hP : va_P (dC, dI) xcl [(q_2, .inl (cB, 512, .inl (fun _ => 0))), (q_8, .inr (0, xo_M f_14)), (q_9, .inl (cB, 65536, .inl (fun _ => 0))), (q_10, .inl (cI, 65540, .inl (fun _ => 0))), (q_11, .inl (cI, 65540, .inl (fun _ => 0))), (q_12, .inl (cI, 65540, .inl (fun _ => 0))), (q_13, .inl (cB, 65536, .inl (fun _ => 0))), (q_21, .inl (cJ, 1, .inr (.inl (fun _ => 0)))), (q_1, .inr (1, xo_C f_3))] H := hP
      have hD : va_D A [(q_2, .inl (cB, 512, .inl (fun _ => 0))), (q_8, .inr (0, xo_M f_14)), (q_9, .inl (cB, 65536, .inl (fun _ => 0))), (q_10, .inl (cI, 65540, .inl (fun _ => 0))), (q_11, .inl (cI, 65540, .inl (fun _ => 0))), (q_12, .inl (cI, 65540, .inl (fun _ => 0))), (q_13, .inl (cB, 65536, .inl (fun _ => 0))), (q_21, .inl (cJ, 1, .inr (.inl (fun _ => 0)))), (q_1, .inr (1, xo_C f_3))] := hD
      have hw : r_22 = 1 := hw
      subst hw
      refine lv_istore (lv' := [(5, .int 1), (4, .int 0), (3, .ref q_21), (2, .ref q_8), (1, .ref q_1), (0, .ref b)]) hx hb dn_L_law_281 hl (by decide) rfl (fun ls hl => ?_)
      refine lv_aload_n hx hb dn_L_law_283 rfl (lv_at hl 3 rfl) ?_
      refine lv_aload_n hx hb dn_L_law_284 rfl (lv_at hl 5 rfl) ?_
      refine lv_iload hx hb dn_L_law_285 (lv_at hl 1 rfl) ?_
      refine lv_iconst (v := 1) hx hb dn_L_law_287 (by decide) ?_
      refine lv_iadd hx hb dn_L_law_288 ?_
      refine xk_ti (y := 1) (by decide) ?_
      refine va_sld hx hb hX hbl hbA hS (show ¬ (_ ∨ _) by decide) dn_L_law_289 ?_
      refine xk_ti (y := xs 1) rfl ?_
      have hPc := hP.sub (ws' := [(q_8, .inr (0, xo_M f_14))]) [1] rfl
      have hDc := hD.sub (ws' := [(q_8, .inr (0, xo_M f_14))]) [1] (by decide) rfl
      refine xk_calli (wr := [(q_2, .inl (cB, 512, .inl (fun _ => 0))), (q_9, .inl (cB, 65536, .inl (fun _ => 0))), (q_10, .inl (cI, 65540, .inl (fun _ => 0))), (q_11, .inl (cI, 65540, .inl (fun _ => 0))), (q_12, .inl (cI, 65540, .inl (fun _ => 0))), (q_13, .inl (cB, 65536, .inl (fun _ => 0))), (q_21, .inl (cJ, 1, .inr (.inl (fun _ => 0)))), (q_1, .inr (1, xo_C f_3))]) (xk_runV (ar := 1) (As := [.int (xs 1)]) (rest := []) (ci := 0) (q0 := 0) ⟨hx, hb, hml, hown, hg⟩ hK hN (ct_M_count_0 l dC dI cI cB cJ cZ H.size q_8 ((xs 1)) f_14 hb_15.2.2.2.2.2.2.2.2.2.2.2.2.2.2.2.2.2.2.1) hPc hDc rfl rfl wn_11_28 wn_11_29 wn_11_30 wn_1_13 wn_11_31 rfl rfl (by decide +kernel) ⟨Nat.le_of_ble_eq_true rfl, Nat.le_of_ble_eq_true rfl⟩ rfl hl.1 rfl (Nat.le_of_ble_eq_true rfl) dn_L_law_290 ⟨Nat.le_of_ble_eq_true rfl, Nat.le_of_ble_eq_true rfl⟩) hP hD hS hA [1] [0, 2, 3, 4, 5, 6, 7, 8] rfl rfl (by decide) (by decide) (fun r_23 _ H locs hw hP hD hS => ?_)
      have hP : va_P (dC, dI) xcl [(q_2, .inl (cB, 512, .inl (fun _ => 0))), (q_9, .inl (cB, 65536, .inl (fun _ => 0))), (q_10, .inl (cI, 65540, .inl (fun _ => 0))), (q_11, .inl (cI, 65540, .inl (fun _ => 0))), (q_12, .inl (cI, 65540, .inl (fun _ => 0))), (q_13, .inl (cB, 65536, .inl (fun _ => 0))), (q_21, .inl (cJ, 1, .inr (.inl (fun _ => 0)))), (q_1, .inr (1, xo_C f_3)), (q_8, .inr (0, xo_M (va_up f_14 0 (.int 1))))] H := hP
      have hD : va_D A [(q_2, .inl (cB, 512, .inl (fun _ => 0))), (q_9, .inl (cB, 65536, .inl (fun _ => 0))), (q_10, .inl (cI, 65540, .inl (fun _ => 0))), (q_11, .inl (cI, 65540, .inl (fun _ => 0))), (q_12, .inl (cI, 65540, .inl (fun _ => 0))), (q_13, .inl (cB, 65536, .inl (fun _ => 0))), (q_21, .inl (cJ, 1, .inr (.inl (fun _ => 0)))), (q_1, .inr (1, xo_C f_3)), (q_8, .inr (0, xo_M (va_up f_14 0 (.int 1))))] := hD
      have hw : r_23 = 0 := hw
      subst hw
      refine lv_istore (lv' := [(6, .int 0), (5, .int 1), (4, .int 0), (3, .ref q_21), (2, .ref q_8), (1, .ref q_1), (0, .ref b)]) hx hb dn_L_law_293 hl (by decide) rfl (fun ls hl => ?_)
      refine lv_aload_n hx hb dn_L_law_295 rfl (lv_at hl 4 rfl) ?_
      have hPc := hP.sub (ws' := [(q_8, .inr (0, xo_M (va_up f_14 0 (.int 1))))]) [8] rfl
      have hDc := hD.sub (ws' := [(q_8, .inr (0, xo_M (va_up f_14 0 (.int 1))))]) [8] (by decide) rfl
      refine xk_calli (wr := [(q_2, .inl (cB, 512, .inl (fun _ => 0))), (q_9, .inl (cB, 65536, .inl (fun _ => 0))), (q_10, .inl (cI, 65540, .inl (fun _ => 0))), (q_11, .inl (cI, 65540, .inl (fun _ => 0))), (q_12, .inl (cI, 65540, .inl (fun _ => 0))), (q_13, .inl (cB, 65536, .inl (fun _ => 0))), (q_21, .inl (cJ, 1, .inr (.inl (fun _ => 0)))), (q_1, .inr (1, xo_C f_3))]) (xk_runV (ar := 0) (As := []) (rest := []) (ci := 0) (q0 := 0) ⟨hx, hb, hml, hown, hg⟩ hK hN (ct_M_thrown_3 l dC dI cI cB cJ cZ H.size q_8 (va_up f_14 0 (.int 1)) (show (va_up f_14 0 (.int 1)) 0 = .int 1 from rfl)) hPc hDc rfl rfl wn_9_125 wn_9_126 wn_9_127 wn_1_13 wn_9_128 rfl rfl (by decide +kernel) ⟨Nat.le_of_ble_eq_true rfl, Nat.le_of_ble_eq_true rfl⟩ rfl hl.1 rfl (Nat.le_of_ble_eq_true rfl) dn_L_law_296 ⟨Nat.le_of_ble_eq_true rfl, Nat.le_of_ble_eq_true rfl⟩) hP hD hS hA [8] [0, 1, 2, 3, 4, 5, 6, 7] rfl rfl (by decide) (by decide) (fun r_24 _ H locs hw hP hD hS => ?_)
      have hP : va_P (dC, dI) xcl [(q_2, .inl (cB, 512, .inl (fun _ => 0))), (q_9, .inl (cB, 65536, .inl (fun _ => 0))), (q_10, .inl (cI, 65540, .inl (fun _ => 0))), (q_11, .inl (cI, 65540, .inl (fun _ => 0))), (q_12, .inl (cI, 65540, .inl (fun _ => 0))), (q_13, .inl (cB, 65536, .inl (fun _ => 0))), (q_21, .inl (cJ, 1, .inr (.inl (fun _ => 0)))), (q_1, .inr (1, xo_C f_3)), (q_8, .inr (0, xo_M ((va_up f_14 0 (.int 1)))))] H := hP
      have hD : va_D A [(q_2, .inl (cB, 512, .inl (fun _ => 0))), (q_9, .inl (cB, 65536, .inl (fun _ => 0))), (q_10, .inl (cI, 65540, .inl (fun _ => 0))), (q_11, .inl (cI, 65540, .inl (fun _ => 0))), (q_12, .inl (cI, 65540, .inl (fun _ => 0))), (q_13, .inl (cB, 65536, .inl (fun _ => 0))), (q_21, .inl (cJ, 1, .inr (.inl (fun _ => 0)))), (q_1, .inr (1, xo_C f_3)), (q_8, .inr (0, xo_M ((va_up f_14 0 (.int 1)))))] := hD
      have hw : r_24 = 1 := hw
      subst hw
      refine lv_iload hx hb dn_L_law_299 (lv_at hl 1 rfl) ?_
      refine lv_icmp_eq (tgt := 306) hx hb dn_L_law_301 (by decide) (fun _ => ?_) (fun h9 => absurd h9 (by decide))
      refine lv_iload hx hb dn_L_law_306 (lv_at hl 1 rfl) ?_
      refine lv_if_ne (tgt := 323) hx hb dn_L_law_308 (by decide) (fun _ => ?_) (fun h9 => absurd h9 (by decide))
      refine lv_goto (tgt := 653) hx hb dn_L_law_323 (by decide) ?_
      refine lv_iinc (v := 6) (lv' := [(4, .int 6), (6, .int 0), (5, .int 1), (3, .ref q_21), (2, .ref q_8), (1, .ref q_1), (0, .ref b)]) hx hb dn_L_law_653 hl (k := 2) rfl (by decide) (by decide) rfl (fun ls hl => ?_)
      refine lv_goto (tgt := 23) hx hb dn_L_law_656 (by decide) ?_
      refine lv_iload hx hb dn_L_law_23 (lv_at hl 0 rfl) ?_
      refine lv_aload_n hx hb dn_L_law_25 rfl (lv_at hl 6 rfl) ?_
      refine va_slen hx hb hX hbl hbA hS dn_L_law_26 ?_
      refine xk_ti (y := 6) rfl ?_
      refine lv_bipush (v := 6) hx hb dn_L_law_27 (by decide) ?_
      refine lv_isub hx hb dn_L_law_29 ?_
      refine xk_ti (y := 0) (by decide) ?_
      refine lv_icmp_gt (tgt := 659) hx hb dn_L_law_30 (by decide) (fun _ => ?_) (fun h9 => absurd h9 (by decide))
      refine lv_iconst (v := 1) hx hb dn_L_law_659 (by decide) ?_
      refine va_forget (fun q hq => by have h7 := hS.2.2 q hq; rw [hAe] at h7; exact h7) ?_
      refine W.widen (k := 600002) (n := 7302232) (Nat.le_of_ble_eq_true rfl) (Nat.le_of_ble_eq_true rfl) ?_
      exact lw_ret hx hb hr hlocks dn_L_law_660
    · refine lv_tableIn (tgt := 326) hx hb dn_L_law_40 (by decide) (by decide) rfl (by decide) ?_
      refine lv_aload_n hx hb dn_L_law_326 rfl (lv_at hl 3 rfl) ?_
      refine lv_aload_n hx hb dn_L_law_327 rfl (lv_at hl 1 rfl) ?_
      have hPc := hP.sub (ws' := [(q_1, .inr (1, xo_C f_3))]) [0] rfl
      have hDc := hD.sub (ws' := [(q_1, .inr (1, xo_C f_3))]) [0] (by decide) rfl
      refine xk_calli (wr := [(q_2, .inl (cB, 512, .inl (fun _ => 0))), (q_8, .inr (0, xo_M f_14)), (q_9, .inl (cB, 65536, .inl (fun _ => 0))), (q_10, .inl (cI, 65540, .inl (fun _ => 0))), (q_11, .inl (cI, 65540, .inl (fun _ => 0))), (q_12, .inl (cI, 65540, .inl (fun _ => 0))), (q_13, .inl (cB, 65536, .inl (fun _ => 0))), (q_21, .inl (cJ, 1, .inr (.inl (fun _ => 0))))]) (xk_runSH (ar := 2) (As := [.ref q_1, .ref q_21]) (rest := []) ⟨hx, hb, hml, hown, hg⟩ (ct_L_find_t l hlt dC dI cI cB cJ cZ H.size q_1 f_3 q_21 hb_7) xk_blindX (fun U hU hW => ⟨⟨rfl, by rw [hU], by rw [hU]; exact hPc, va_K.moved hW.alike hK, hDc.weaken (fun _ _ _ _ => trivial), xn_moved hW hN⟩, xl_St hts hz1 hz2 hW (fun q hq => by rw [hU]; exact hS.2.1 q hq (hnA q hq))⟩) wn_7_165 wn_7_166 wn_1_0 wn_7_167 rfl rfl (by decide +kernel) ⟨Nat.le_of_ble_eq_true rfl, Nat.le_of_ble_eq_true rfl⟩ rfl hl.1 rfl (Nat.le_of_ble_eq_true rfl) dn_L_law_328 ⟨Nat.le_of_ble_eq_true rfl, Nat.le_of_ble_eq_true rfl⟩) hP hD hS hA [0] [1, 2, 3, 4, 5, 6, 7, 8] rfl rfl (by decide) (by decide) (fun r_22 _ H locs hw hP hD hS => ?_)
      have hP : va_P (dC, dI) xcl [(q_2, .inl (cB, 512, .inl (fun _ => 0))), (q_8, .inr (0, xo_M f_14)), (q_9, .inl (cB, 65536, .inl (fun _ => 0))), (q_10, .inl (cI, 65540, .inl (fun _ => 0))), (q_11, .inl (cI, 65540, .inl (fun _ => 0))), (q_12, .inl (cI, 65540, .inl (fun _ => 0))), (q_13, .inl (cB, 65536, .inl (fun _ => 0))), (q_21, .inl (cJ, 1, .inr (.inl (fun _ => 0)))), (q_1, .inr (1, xo_C f_3))] H := hP
      have hD : va_D A [(q_2, .inl (cB, 512, .inl (fun _ => 0))), (q_8, .inr (0, xo_M f_14)), (q_9, .inl (cB, 65536, .inl (fun _ => 0))), (q_10, .inl (cI, 65540, .inl (fun _ => 0))), (q_11, .inl (cI, 65540, .inl (fun _ => 0))), (q_12, .inl (cI, 65540, .inl (fun _ => 0))), (q_13, .inl (cB, 65536, .inl (fun _ => 0))), (q_21, .inl (cJ, 1, .inr (.inl (fun _ => 0)))), (q_1, .inr (1, xo_C f_3))] := hD
      have hw : r_22 = 1 := hw
      subst hw
      refine lv_istore (lv' := [(5, .int 1), (4, .int 0), (3, .ref q_21), (2, .ref q_8), (1, .ref q_1), (0, .ref b)]) hx hb dn_L_law_331 hl (by decide) rfl (fun ls hl => ?_)
      refine lv_aload_n hx hb dn_L_law_333 rfl (lv_at hl 3 rfl) ?_
      have hPc := hP.sub (ws' := [(q_8, .inr (0, xo_M f_14))]) [1] rfl
      have hDc := hD.sub (ws' := [(q_8, .inr (0, xo_M f_14))]) [1] (by decide) rfl
      refine xk_calli (wr := [(q_2, .inl (cB, 512, .inl (fun _ => 0))), (q_9, .inl (cB, 65536, .inl (fun _ => 0))), (q_10, .inl (cI, 65540, .inl (fun _ => 0))), (q_11, .inl (cI, 65540, .inl (fun _ => 0))), (q_12, .inl (cI, 65540, .inl (fun _ => 0))), (q_13, .inl (cB, 65536, .inl (fun _ => 0))), (q_21, .inl (cJ, 1, .inr (.inl (fun _ => 0)))), (q_1, .inr (1, xo_C f_3))]) (xk_runV (ar := 0) (As := []) (rest := []) (ci := 0) (q0 := 0) ⟨hx, hb, hml, hown, hg⟩ hK hN (ct_M_find_0 l dC dI cI cB cJ cZ H.size q_8 f_14 hb_15.2.2.2.2.2.2.2.2.2.2.2.2.2.2.2.2.2.2.1) hPc hDc rfl rfl wn_11_32 wn_11_33 wn_11_34 wn_1_13 wn_11_35 rfl rfl (by decide +kernel) ⟨Nat.le_of_ble_eq_true rfl, Nat.le_of_ble_eq_true rfl⟩ rfl hl.1 rfl (Nat.le_of_ble_eq_true rfl) dn_L_law_334 ⟨Nat.le_of_ble_eq_true rfl, Nat.le_of_ble_eq_true rfl⟩) hP hD hS hA [1] [0, 2, 3, 4, 5, 6, 7, 8] rfl rfl (by decide) (by decide) (fun r_23 _ H locs hw hP hD hS => ?_)
      have hP : va_P (dC, dI) xcl [(q_2, .inl (cB, 512, .inl (fun _ => 0))), (q_9, .inl (cB, 65536, .inl (fun _ => 0))), (q_10, .inl (cI, 65540, .inl (fun _ => 0))), (q_11, .inl (cI, 65540, .inl (fun _ => 0))), (q_12, .inl (cI, 65540, .inl (fun _ => 0))), (q_13, .inl (cB, 65536, .inl (fun _ => 0))), (q_21, .inl (cJ, 1, .inr (.inl (fun _ => 0)))), (q_1, .inr (1, xo_C f_3)), (q_8, .inr (0, xo_M (va_up f_14 0 (.int 1))))] H := hP
      have hD : va_D A [(q_2, .inl (cB, 512, .inl (fun _ => 0))), (q_9, .inl (cB, 65536, .inl (fun _ => 0))), (q_10, .inl (cI, 65540, .inl (fun _ => 0))), (q_11, .inl (cI, 65540, .inl (fun _ => 0))), (q_12, .inl (cI, 65540, .inl (fun _ => 0))), (q_13, .inl (cB, 65536, .inl (fun _ => 0))), (q_21, .inl (cJ, 1, .inr (.inl (fun _ => 0)))), (q_1, .inr (1, xo_C f_3)), (q_8, .inr (0, xo_M (va_up f_14 0 (.int 1))))] := hD
      have hw : r_23 = 0 := hw
      subst hw
      refine lv_istore (lv' := [(6, .int 0), (5, .int 1), (4, .int 0), (3, .ref q_21), (2, .ref q_8), (1, .ref q_1), (0, .ref b)]) hx hb dn_L_law_337 hl (by decide) rfl (fun ls hl => ?_)
      refine lv_aload_n hx hb dn_L_law_339 rfl (lv_at hl 4 rfl) ?_
      have hPc := hP.sub (ws' := [(q_8, .inr (0, xo_M (va_up f_14 0 (.int 1))))]) [8] rfl
      have hDc := hD.sub (ws' := [(q_8, .inr (0, xo_M (va_up f_14 0 (.int 1))))]) [8] (by decide) rfl
      refine xk_calli (wr := [(q_2, .inl (cB, 512, .inl (fun _ => 0))), (q_9, .inl (cB, 65536, .inl (fun _ => 0))), (q_10, .inl (cI, 65540, .inl (fun _ => 0))), (q_11, .inl (cI, 65540, .inl (fun _ => 0))), (q_12, .inl (cI, 65540, .inl (fun _ => 0))), (q_13, .inl (cB, 65536, .inl (fun _ => 0))), (q_21, .inl (cJ, 1, .inr (.inl (fun _ => 0)))), (q_1, .inr (1, xo_C f_3))]) (xk_runV (ar := 0) (As := []) (rest := []) (ci := 0) (q0 := 0) ⟨hx, hb, hml, hown, hg⟩ hK hN (ct_M_thrown_3 l dC dI cI cB cJ cZ H.size q_8 (va_up f_14 0 (.int 1)) (show (va_up f_14 0 (.int 1)) 0 = .int 1 from rfl)) hPc hDc rfl rfl wn_9_125 wn_9_126 wn_9_127 wn_1_13 wn_9_128 rfl rfl (by decide +kernel) ⟨Nat.le_of_ble_eq_true rfl, Nat.le_of_ble_eq_true rfl⟩ rfl hl.1 rfl (Nat.le_of_ble_eq_true rfl) dn_L_law_340 ⟨Nat.le_of_ble_eq_true rfl, Nat.le_of_ble_eq_true rfl⟩) hP hD hS hA [8] [0, 1, 2, 3, 4, 5, 6, 7] rfl rfl (by decide) (by decide) (fun r_24 _ H locs hw hP hD hS => ?_)
      have hP : va_P (dC, dI) xcl [(q_2, .inl (cB, 512, .inl (fun _ => 0))), (q_9, .inl (cB, 65536, .inl (fun _ => 0))), (q_10, .inl (cI, 65540, .inl (fun _ => 0))), (q_11, .inl (cI, 65540, .inl (fun _ => 0))), (q_12, .inl (cI, 65540, .inl (fun _ => 0))), (q_13, .inl (cB, 65536, .inl (fun _ => 0))), (q_21, .inl (cJ, 1, .inr (.inl (fun _ => 0)))), (q_1, .inr (1, xo_C f_3)), (q_8, .inr (0, xo_M ((va_up f_14 0 (.int 1)))))] H := hP
      have hD : va_D A [(q_2, .inl (cB, 512, .inl (fun _ => 0))), (q_9, .inl (cB, 65536, .inl (fun _ => 0))), (q_10, .inl (cI, 65540, .inl (fun _ => 0))), (q_11, .inl (cI, 65540, .inl (fun _ => 0))), (q_12, .inl (cI, 65540, .inl (fun _ => 0))), (q_13, .inl (cB, 65536, .inl (fun _ => 0))), (q_21, .inl (cJ, 1, .inr (.inl (fun _ => 0)))), (q_1, .inr (1, xo_C f_3)), (q_8, .inr (0, xo_M ((va_up f_14 0 (.int 1)))))] := hD
      have hw : r_24 = 1 := hw
      subst hw
      refine lv_iload hx hb dn_L_law_343 (lv_at hl 1 rfl) ?_
      refine lv_icmp_eq (tgt := 350) hx hb dn_L_law_345 (by decide) (fun _ => ?_) (fun h9 => absurd h9 (by decide))
      refine lv_iload hx hb dn_L_law_350 (lv_at hl 1 rfl) ?_
      refine lv_if_ne (tgt := 367) hx hb dn_L_law_352 (by decide) (fun _ => ?_) (fun h9 => absurd h9 (by decide))
      refine lv_goto (tgt := 653) hx hb dn_L_law_367 (by decide) ?_
      refine lv_iinc (v := 6) (lv' := [(4, .int 6), (6, .int 0), (5, .int 1), (3, .ref q_21), (2, .ref q_8), (1, .ref q_1), (0, .ref b)]) hx hb dn_L_law_653 hl (k := 2) rfl (by decide) (by decide) rfl (fun ls hl => ?_)
      refine lv_goto (tgt := 23) hx hb dn_L_law_656 (by decide) ?_
      refine lv_iload hx hb dn_L_law_23 (lv_at hl 0 rfl) ?_
      refine lv_aload_n hx hb dn_L_law_25 rfl (lv_at hl 6 rfl) ?_
      refine va_slen hx hb hX hbl hbA hS dn_L_law_26 ?_
      refine xk_ti (y := 6) rfl ?_
      refine lv_bipush (v := 6) hx hb dn_L_law_27 (by decide) ?_
      refine lv_isub hx hb dn_L_law_29 ?_
      refine xk_ti (y := 0) (by decide) ?_
      refine lv_icmp_gt (tgt := 659) hx hb dn_L_law_30 (by decide) (fun _ => ?_) (fun h9 => absurd h9 (by decide))
      refine lv_iconst (v := 1) hx hb dn_L_law_659 (by decide) ?_
      refine va_forget (fun q hq => by have h7 := hS.2.2 q hq; rw [hAe] at h7; exact h7) ?_
      refine W.widen (k := 600002) (n := 7302232) (Nat.le_of_ble_eq_true rfl) (Nat.le_of_ble_eq_true rfl) ?_
      exact lw_ret hx hb hr hlocks dn_L_law_660
    · refine lv_tableIn (tgt := 370) hx hb dn_L_law_40 (by decide) (by decide) rfl (by decide) ?_
      refine lv_aload_n hx hb dn_L_law_370 rfl (lv_at hl 3 rfl) ?_
      refine lv_aload_n hx hb dn_L_law_371 rfl (lv_at hl 4 rfl) ?_
      refine lv_iload hx hb dn_L_law_372 (lv_at hl 0 rfl) ?_
      refine lv_iconst (v := 1) hx hb dn_L_law_374 (by decide) ?_
      refine lv_iadd hx hb dn_L_law_375 ?_
      refine xk_ti (y := 1) (by decide) ?_
      refine va_sld hx hb hX hbl hbA hS (show ¬ (_ ∨ _) by decide) dn_L_law_376 ?_
      refine xk_ti (y := xs 1) rfl ?_
      refine lv_aload_n hx hb dn_L_law_377 rfl (lv_at hl 4 rfl) ?_
      refine lv_iload hx hb dn_L_law_378 (lv_at hl 0 rfl) ?_
      refine lv_iconst (v := 2) hx hb dn_L_law_380 (by decide) ?_
      refine lv_iadd hx hb dn_L_law_381 ?_
      refine xk_ti (y := 2) (by decide) ?_
      refine va_sld hx hb hX hbl hbA hS (show ¬ (_ ∨ _) by decide) dn_L_law_382 ?_
      refine xk_ti (y := xs 2) rfl ?_
      refine lv_aload_n hx hb dn_L_law_383 rfl (lv_at hl 1 rfl) ?_
      have hPc := hP.sub (ws' := [(q_1, .inr (1, xo_C f_3))]) [0] rfl
      have hDc := hD.sub (ws' := [(q_1, .inr (1, xo_C f_3))]) [0] (by decide) rfl
      refine xk_calli (wr := [(q_2, .inl (cB, 512, .inl (fun _ => 0))), (q_8, .inr (0, xo_M f_14)), (q_9, .inl (cB, 65536, .inl (fun _ => 0))), (q_10, .inl (cI, 65540, .inl (fun _ => 0))), (q_11, .inl (cI, 65540, .inl (fun _ => 0))), (q_12, .inl (cI, 65540, .inl (fun _ => 0))), (q_13, .inl (cB, 65536, .inl (fun _ => 0))), (q_21, .inl (cJ, 1, .inr (.inl (fun _ => 0))))]) (xk_runSH (ar := 4) (As := [.ref q_1, .int (xs 1), .int (xs 2), .ref q_21]) (rest := []) ⟨hx, hb, hml, hown, hg⟩ (ct_L_signal_t l hlt dC dI cI cB cJ cZ H.size q_1 f_3 ((xs 1)) ((xs 2)) q_21 hb_7) xk_blindX (fun U hU hW => ⟨⟨rfl, by rw [hU], by rw [hU]; exact hPc, va_K.moved hW.alike hK, hDc.weaken (fun _ _ _ _ => trivial), xn_moved hW hN⟩, xl_St hts hz1 hz2 hW (fun q hq => by rw [hU]; exact hS.2.1 q hq (hnA q hq))⟩) wn_7_190 wn_7_191 wn_1_0 wn_7_192 rfl rfl (by decide +kernel) ⟨Nat.le_of_ble_eq_true rfl, Nat.le_of_ble_eq_true rfl⟩ rfl hl.1 rfl (Nat.le_of_ble_eq_true rfl) dn_L_law_384 ⟨Nat.le_of_ble_eq_true rfl, Nat.le_of_ble_eq_true rfl⟩) hP hD hS hA [0] [1, 2, 3, 4, 5, 6, 7, 8] rfl rfl (by decide) (by decide) (fun r_22 _ H locs hw hP hD hS => ?_)
      have hP : va_P (dC, dI) xcl [(q_2, .inl (cB, 512, .inl (fun _ => 0))), (q_8, .inr (0, xo_M f_14)), (q_9, .inl (cB, 65536, .inl (fun _ => 0))), (q_10, .inl (cI, 65540, .inl (fun _ => 0))), (q_11, .inl (cI, 65540, .inl (fun _ => 0))), (q_12, .inl (cI, 65540, .inl (fun _ => 0))), (q_13, .inl (cB, 65536, .inl (fun _ => 0))), (q_21, .inl (cJ, 1, .inr (.inl (fun _ => 0)))), (q_1, .inr (1, xo_C f_3))] H := hP
      have hD : va_D A [(q_2, .inl (cB, 512, .inl (fun _ => 0))), (q_8, .inr (0, xo_M f_14)), (q_9, .inl (cB, 65536, .inl (fun _ => 0))), (q_10, .inl (cI, 65540, .inl (fun _ => 0))), (q_11, .inl (cI, 65540, .inl (fun _ => 0))), (q_12, .inl (cI, 65540, .inl (fun _ => 0))), (q_13, .inl (cB, 65536, .inl (fun _ => 0))), (q_21, .inl (cJ, 1, .inr (.inl (fun _ => 0)))), (q_1, .inr (1, xo_C f_3))] := hD
      have hw : r_22 = 1 := hw
      subst hw
      refine lv_istore (lv' := [(5, .int 1), (4, .int 0), (3, .ref q_21), (2, .ref q_8), (1, .ref q_1), (0, .ref b)]) hx hb dn_L_law_387 hl (by decide) rfl (fun ls hl => ?_)
      refine lv_aload_n hx hb dn_L_law_389 rfl (lv_at hl 3 rfl) ?_
      refine lv_aload_n hx hb dn_L_law_390 rfl (lv_at hl 5 rfl) ?_
      refine lv_iload hx hb dn_L_law_391 (lv_at hl 1 rfl) ?_
      refine lv_iconst (v := 1) hx hb dn_L_law_393 (by decide) ?_
      refine lv_iadd hx hb dn_L_law_394 ?_
      refine xk_ti (y := 1) (by decide) ?_
      refine va_sld hx hb hX hbl hbA hS (show ¬ (_ ∨ _) by decide) dn_L_law_395 ?_
      refine xk_ti (y := xs 1) rfl ?_
      refine lv_aload_n hx hb dn_L_law_396 rfl (lv_at hl 5 rfl) ?_
      refine lv_iload hx hb dn_L_law_397 (lv_at hl 1 rfl) ?_
      refine lv_iconst (v := 2) hx hb dn_L_law_399 (by decide) ?_
      refine lv_iadd hx hb dn_L_law_400 ?_
      refine xk_ti (y := 2) (by decide) ?_
      refine va_sld hx hb hX hbl hbA hS (show ¬ (_ ∨ _) by decide) dn_L_law_401 ?_
      refine xk_ti (y := xs 2) rfl ?_
      have hPc := hP.sub (ws' := [(q_8, .inr (0, xo_M f_14))]) [1] rfl
      have hDc := hD.sub (ws' := [(q_8, .inr (0, xo_M f_14))]) [1] (by decide) rfl
      refine xk_calli (wr := [(q_2, .inl (cB, 512, .inl (fun _ => 0))), (q_9, .inl (cB, 65536, .inl (fun _ => 0))), (q_10, .inl (cI, 65540, .inl (fun _ => 0))), (q_11, .inl (cI, 65540, .inl (fun _ => 0))), (q_12, .inl (cI, 65540, .inl (fun _ => 0))), (q_13, .inl (cB, 65536, .inl (fun _ => 0))), (q_21, .inl (cJ, 1, .inr (.inl (fun _ => 0)))), (q_1, .inr (1, xo_C f_3))]) (xk_runV (ar := 2) (As := [.int (xs 1), .int (xs 2)]) (rest := []) (ci := 0) (q0 := 0) ⟨hx, hb, hml, hown, hg⟩ hK hN (ct_M_signal_0 l dC dI cI cB cJ cZ H.size q_8 ((xs 1)) ((xs 2)) f_14 hb_15.2.2.2.2.2.2.2.2.2.2.2.2.2.2.2.2.2.2.1) hPc hDc rfl rfl wn_11_44 wn_11_45 wn_11_46 wn_1_13 wn_11_47 rfl rfl (by decide +kernel) ⟨Nat.le_of_ble_eq_true rfl, Nat.le_of_ble_eq_true rfl⟩ rfl hl.1 rfl (Nat.le_of_ble_eq_true rfl) dn_L_law_402 ⟨Nat.le_of_ble_eq_true rfl, Nat.le_of_ble_eq_true rfl⟩) hP hD hS hA [1] [0, 2, 3, 4, 5, 6, 7, 8] rfl rfl (by decide) (by decide) (fun r_23 _ H locs hw hP hD hS => ?_)
      have hP : va_P (dC, dI) xcl [(q_2, .inl (cB, 512, .inl (fun _ => 0))), (q_9, .inl (cB, 65536, .inl (fun _ => 0))), (q_10, .inl (cI, 65540, .inl (fun _ => 0))), (q_11, .inl (cI, 65540, .inl (fun _ => 0))), (q_12, .inl (cI, 65540, .inl (fun _ => 0))), (q_13, .inl (cB, 65536, .inl (fun _ => 0))), (q_21, .inl (cJ, 1, .inr (.inl (fun _ => 0)))), (q_1, .inr (1, xo_C f_3)), (q_8, .inr (0, xo_M (va_up f_14 0 (.int 1))))] H := hP
      have hD : va_D A [(q_2, .inl (cB, 512, .inl (fun _ => 0))), (q_9, .inl (cB, 65536, .inl (fun _ => 0))), (q_10, .inl (cI, 65540, .inl (fun _ => 0))), (q_11, .inl (cI, 65540, .inl (fun _ => 0))), (q_12, .inl (cI, 65540, .inl (fun _ => 0))), (q_13, .inl (cB, 65536, .inl (fun _ => 0))), (q_21, .inl (cJ, 1, .inr (.inl (fun _ => 0)))), (q_1, .inr (1, xo_C f_3)), (q_8, .inr (0, xo_M (va_up f_14 0 (.int 1))))] := hD
      have hw : r_23 = 0 := hw
      subst hw
      refine lv_istore (lv' := [(6, .int 0), (5, .int 1), (4, .int 0), (3, .ref q_21), (2, .ref q_8), (1, .ref q_1), (0, .ref b)]) hx hb dn_L_law_405 hl (by decide) rfl (fun ls hl => ?_)
      refine lv_aload_n hx hb dn_L_law_407 rfl (lv_at hl 4 rfl) ?_
      have hPc := hP.sub (ws' := [(q_8, .inr (0, xo_M (va_up f_14 0 (.int 1))))]) [8] rfl
      have hDc := hD.sub (ws' := [(q_8, .inr (0, xo_M (va_up f_14 0 (.int 1))))]) [8] (by decide) rfl
      refine xk_calli (wr := [(q_2, .inl (cB, 512, .inl (fun _ => 0))), (q_9, .inl (cB, 65536, .inl (fun _ => 0))), (q_10, .inl (cI, 65540, .inl (fun _ => 0))), (q_11, .inl (cI, 65540, .inl (fun _ => 0))), (q_12, .inl (cI, 65540, .inl (fun _ => 0))), (q_13, .inl (cB, 65536, .inl (fun _ => 0))), (q_21, .inl (cJ, 1, .inr (.inl (fun _ => 0)))), (q_1, .inr (1, xo_C f_3))]) (xk_runV (ar := 0) (As := []) (rest := []) (ci := 0) (q0 := 0) ⟨hx, hb, hml, hown, hg⟩ hK hN (ct_M_thrown_3 l dC dI cI cB cJ cZ H.size q_8 (va_up f_14 0 (.int 1)) (show (va_up f_14 0 (.int 1)) 0 = .int 1 from rfl)) hPc hDc rfl rfl wn_9_125 wn_9_126 wn_9_127 wn_1_13 wn_9_128 rfl rfl (by decide +kernel) ⟨Nat.le_of_ble_eq_true rfl, Nat.le_of_ble_eq_true rfl⟩ rfl hl.1 rfl (Nat.le_of_ble_eq_true rfl) dn_L_law_408 ⟨Nat.le_of_ble_eq_true rfl, Nat.le_of_ble_eq_true rfl⟩) hP hD hS hA [8] [0, 1, 2, 3, 4, 5, 6, 7] rfl rfl (by decide) (by decide) (fun r_24 _ H locs hw hP hD hS => ?_)
      have hP : va_P (dC, dI) xcl [(q_2, .inl (cB, 512, .inl (fun _ => 0))), (q_9, .inl (cB, 65536, .inl (fun _ => 0))), (q_10, .inl (cI, 65540, .inl (fun _ => 0))), (q_11, .inl (cI, 65540, .inl (fun _ => 0))), (q_12, .inl (cI, 65540, .inl (fun _ => 0))), (q_13, .inl (cB, 65536, .inl (fun _ => 0))), (q_21, .inl (cJ, 1, .inr (.inl (fun _ => 0)))), (q_1, .inr (1, xo_C f_3)), (q_8, .inr (0, xo_M ((va_up f_14 0 (.int 1)))))] H := hP
      have hD : va_D A [(q_2, .inl (cB, 512, .inl (fun _ => 0))), (q_9, .inl (cB, 65536, .inl (fun _ => 0))), (q_10, .inl (cI, 65540, .inl (fun _ => 0))), (q_11, .inl (cI, 65540, .inl (fun _ => 0))), (q_12, .inl (cI, 65540, .inl (fun _ => 0))), (q_13, .inl (cB, 65536, .inl (fun _ => 0))), (q_21, .inl (cJ, 1, .inr (.inl (fun _ => 0)))), (q_1, .inr (1, xo_C f_3)), (q_8, .inr (0, xo_M ((va_up f_14 0 (.int 1)))))] := hD
      have hw : r_24 = 1 := hw
      subst hw
      refine lv_iload hx hb dn_L_law_411 (lv_at hl 1 rfl) ?_
      refine lv_icmp_eq (tgt := 418) hx hb dn_L_law_413 (by decide) (fun _ => ?_) (fun h9 => absurd h9 (by decide))
      refine lv_iload hx hb dn_L_law_418 (lv_at hl 1 rfl) ?_
      refine lv_if_ne (tgt := 435) hx hb dn_L_law_420 (by decide) (fun _ => ?_) (fun h9 => absurd h9 (by decide))
      refine lv_goto (tgt := 653) hx hb dn_L_law_435 (by decide) ?_
      refine lv_iinc (v := 6) (lv' := [(4, .int 6), (6, .int 0), (5, .int 1), (3, .ref q_21), (2, .ref q_8), (1, .ref q_1), (0, .ref b)]) hx hb dn_L_law_653 hl (k := 2) rfl (by decide) (by decide) rfl (fun ls hl => ?_)
      refine lv_goto (tgt := 23) hx hb dn_L_law_656 (by decide) ?_
      refine lv_iload hx hb dn_L_law_23 (lv_at hl 0 rfl) ?_
      refine lv_aload_n hx hb dn_L_law_25 rfl (lv_at hl 6 rfl) ?_
      refine va_slen hx hb hX hbl hbA hS dn_L_law_26 ?_
      refine xk_ti (y := 6) rfl ?_
      refine lv_bipush (v := 6) hx hb dn_L_law_27 (by decide) ?_
      refine lv_isub hx hb dn_L_law_29 ?_
      refine xk_ti (y := 0) (by decide) ?_
      refine lv_icmp_gt (tgt := 659) hx hb dn_L_law_30 (by decide) (fun _ => ?_) (fun h9 => absurd h9 (by decide))
      refine lv_iconst (v := 1) hx hb dn_L_law_659 (by decide) ?_
      refine va_forget (fun q hq => by have h7 := hS.2.2 q hq; rw [hAe] at h7; exact h7) ?_
      refine W.widen (k := 600002) (n := 7302232) (Nat.le_of_ble_eq_true rfl) (Nat.le_of_ble_eq_true rfl) ?_
      exact lw_ret hx hb hr hlocks dn_L_law_660
    · refine lv_tableIn (tgt := 438) hx hb dn_L_law_40 (by decide) (by decide) rfl (by decide) ?_
      refine lv_aload_n hx hb dn_L_law_438 rfl (lv_at hl 3 rfl) ?_
      have hPc := hP.sub (ws' := [(q_1, .inr (1, xo_C f_3))]) [0] rfl
      have hDc := hD.sub (ws' := [(q_1, .inr (1, xo_C f_3))]) [0] (by decide) rfl
      refine xk_calli (wr := [(q_2, .inl (cB, 512, .inl (fun _ => 0))), (q_8, .inr (0, xo_M f_14)), (q_9, .inl (cB, 65536, .inl (fun _ => 0))), (q_10, .inl (cI, 65540, .inl (fun _ => 0))), (q_11, .inl (cI, 65540, .inl (fun _ => 0))), (q_12, .inl (cI, 65540, .inl (fun _ => 0))), (q_13, .inl (cB, 65536, .inl (fun _ => 0))), (q_21, .inl (cJ, 1, .inr (.inl (fun _ => 0))))]) (xk_runSH (ar := 1) (As := [.ref q_1]) (rest := []) ⟨hx, hb, hml, hown, hg⟩ (ct_L_reset_t l hlt dC dI cI cB cJ cZ H.size q_1 f_3 hb_7) xk_blindX (fun U hU hW => ⟨⟨rfl, by rw [hU], by rw [hU]; exact hPc, va_K.moved hW.alike hK, hDc.weaken (fun _ _ _ _ => trivial), xn_moved hW hN⟩, xl_St hts hz1 hz2 hW (fun q hq => by rw [hU]; exact hS.2.1 q hq (hnA q hq))⟩) wn_7_221 wn_7_222 wn_1_0 wn_7_223 rfl rfl (by decide +kernel) ⟨Nat.le_of_ble_eq_true rfl, Nat.le_of_ble_eq_true rfl⟩ rfl hl.1 rfl (Nat.le_of_ble_eq_true rfl) dn_L_law_439 ⟨Nat.le_of_ble_eq_true rfl, Nat.le_of_ble_eq_true rfl⟩) hP hD hS hA [0] [1, 2, 3, 4, 5, 6, 7, 8] rfl rfl (by decide) (by decide) (fun r_22 _ H locs hw hP hD hS => ?_)
      have hP : va_P (dC, dI) xcl [(q_2, .inl (cB, 512, .inl (fun _ => 0))), (q_8, .inr (0, xo_M f_14)), (q_9, .inl (cB, 65536, .inl (fun _ => 0))), (q_10, .inl (cI, 65540, .inl (fun _ => 0))), (q_11, .inl (cI, 65540, .inl (fun _ => 0))), (q_12, .inl (cI, 65540, .inl (fun _ => 0))), (q_13, .inl (cB, 65536, .inl (fun _ => 0))), (q_21, .inl (cJ, 1, .inr (.inl (fun _ => 0)))), (q_1, .inr (1, xo_C f_3))] H := hP
      have hD : va_D A [(q_2, .inl (cB, 512, .inl (fun _ => 0))), (q_8, .inr (0, xo_M f_14)), (q_9, .inl (cB, 65536, .inl (fun _ => 0))), (q_10, .inl (cI, 65540, .inl (fun _ => 0))), (q_11, .inl (cI, 65540, .inl (fun _ => 0))), (q_12, .inl (cI, 65540, .inl (fun _ => 0))), (q_13, .inl (cB, 65536, .inl (fun _ => 0))), (q_21, .inl (cJ, 1, .inr (.inl (fun _ => 0)))), (q_1, .inr (1, xo_C f_3))] := hD
      have hw : r_22 = 1 := hw
      subst hw
      refine lv_istore (lv' := [(5, .int 1), (4, .int 0), (3, .ref q_21), (2, .ref q_8), (1, .ref q_1), (0, .ref b)]) hx hb dn_L_law_442 hl (by decide) rfl (fun ls hl => ?_)
      refine lv_aload_n hx hb dn_L_law_444 rfl (lv_at hl 3 rfl) ?_
      have hPc := hP.sub (ws' := [(q_8, .inr (0, xo_M f_14))]) [1] rfl
      have hDc := hD.sub (ws' := [(q_8, .inr (0, xo_M f_14))]) [1] (by decide) rfl
      refine xk_callv (wr := [(q_2, .inl (cB, 512, .inl (fun _ => 0))), (q_9, .inl (cB, 65536, .inl (fun _ => 0))), (q_10, .inl (cI, 65540, .inl (fun _ => 0))), (q_11, .inl (cI, 65540, .inl (fun _ => 0))), (q_12, .inl (cI, 65540, .inl (fun _ => 0))), (q_13, .inl (cB, 65536, .inl (fun _ => 0))), (q_21, .inl (cJ, 1, .inr (.inl (fun _ => 0)))), (q_1, .inr (1, xo_C f_3))]) (xk_runV (ar := 0) (As := []) (rest := []) (ci := 0) (q0 := 0) ⟨hx, hb, hml, hown, hg⟩ hK hN (ct_M_reset_0 l dC dI cI cB cJ cZ H.size q_8 f_14 hb_15.2.2.2.2.2.2.2.2.2.2.2.2.2.2.2.2.2.2.1) hPc hDc rfl rfl wn_11_56 wn_11_57 wn_11_58 wn_1_13 wn_11_59 rfl rfl (by decide +kernel) ⟨Nat.le_of_ble_eq_true rfl, Nat.le_of_ble_eq_true rfl⟩ rfl hl.1 rfl (Nat.le_of_ble_eq_true rfl) dn_L_law_445 ⟨Nat.le_of_ble_eq_true rfl, Nat.le_of_ble_eq_true rfl⟩) hP hD hS hA [1] [0, 2, 3, 4, 5, 6, 7, 8] rfl rfl (by decide) (by decide) (fun _ H locs hw hP hD hS => ?_)
      have hP : va_P (dC, dI) xcl [(q_2, .inl (cB, 512, .inl (fun _ => 0))), (q_9, .inl (cB, 65536, .inl (fun _ => 0))), (q_10, .inl (cI, 65540, .inl (fun _ => 0))), (q_11, .inl (cI, 65540, .inl (fun _ => 0))), (q_12, .inl (cI, 65540, .inl (fun _ => 0))), (q_13, .inl (cB, 65536, .inl (fun _ => 0))), (q_21, .inl (cJ, 1, .inr (.inl (fun _ => 0)))), (q_1, .inr (1, xo_C f_3)), (q_8, .inr (0, xo_M (va_up f_14 0 (.int 1))))] H := hP
      have hD : va_D A [(q_2, .inl (cB, 512, .inl (fun _ => 0))), (q_9, .inl (cB, 65536, .inl (fun _ => 0))), (q_10, .inl (cI, 65540, .inl (fun _ => 0))), (q_11, .inl (cI, 65540, .inl (fun _ => 0))), (q_12, .inl (cI, 65540, .inl (fun _ => 0))), (q_13, .inl (cB, 65536, .inl (fun _ => 0))), (q_21, .inl (cJ, 1, .inr (.inl (fun _ => 0)))), (q_1, .inr (1, xo_C f_3)), (q_8, .inr (0, xo_M (va_up f_14 0 (.int 1))))] := hD
      refine lv_aload_n hx hb dn_L_law_448 rfl (lv_at hl 3 rfl) ?_
      have hPc := hP.sub (ws' := [(q_8, .inr (0, xo_M (va_up f_14 0 (.int 1))))]) [8] rfl
      have hDc := hD.sub (ws' := [(q_8, .inr (0, xo_M (va_up f_14 0 (.int 1))))]) [8] (by decide) rfl
      refine xk_calli (wr := [(q_2, .inl (cB, 512, .inl (fun _ => 0))), (q_9, .inl (cB, 65536, .inl (fun _ => 0))), (q_10, .inl (cI, 65540, .inl (fun _ => 0))), (q_11, .inl (cI, 65540, .inl (fun _ => 0))), (q_12, .inl (cI, 65540, .inl (fun _ => 0))), (q_13, .inl (cB, 65536, .inl (fun _ => 0))), (q_21, .inl (cJ, 1, .inr (.inl (fun _ => 0)))), (q_1, .inr (1, xo_C f_3))]) (xk_runV (ar := 0) (As := []) (rest := []) (ci := 0) (q0 := 0) ⟨hx, hb, hml, hown, hg⟩ hK hN (ct_M_thrown_3 l dC dI cI cB cJ cZ H.size q_8 (va_up f_14 0 (.int 1)) (show (va_up f_14 0 (.int 1)) 0 = .int 1 from rfl)) hPc hDc rfl rfl wn_9_125 wn_9_126 wn_9_127 wn_1_13 wn_9_128 rfl rfl (by decide +kernel) ⟨Nat.le_of_ble_eq_true rfl, Nat.le_of_ble_eq_true rfl⟩ rfl hl.1 rfl (Nat.le_of_ble_eq_true rfl) dn_L_law_449 ⟨Nat.le_of_ble_eq_true rfl, Nat.le_of_ble_eq_true rfl⟩) hP hD hS hA [8] [0, 1, 2, 3, 4, 5, 6, 7] rfl rfl (by decide) (by decide) (fun r_23 _ H locs hw hP hD hS => ?_)
      have hP : va_P (dC, dI) xcl [(q_2, .inl (cB, 512, .inl (fun _ => 0))), (q_9, .inl (cB, 65536, .inl (fun _ => 0))), (q_10, .inl (cI, 65540, .inl (fun _ => 0))), (q_11, .inl (cI, 65540, .inl (fun _ => 0))), (q_12, .inl (cI, 65540, .inl (fun _ => 0))), (q_13, .inl (cB, 65536, .inl (fun _ => 0))), (q_21, .inl (cJ, 1, .inr (.inl (fun _ => 0)))), (q_1, .inr (1, xo_C f_3)), (q_8, .inr (0, xo_M ((va_up f_14 0 (.int 1)))))] H := hP
      have hD : va_D A [(q_2, .inl (cB, 512, .inl (fun _ => 0))), (q_9, .inl (cB, 65536, .inl (fun _ => 0))), (q_10, .inl (cI, 65540, .inl (fun _ => 0))), (q_11, .inl (cI, 65540, .inl (fun _ => 0))), (q_12, .inl (cI, 65540, .inl (fun _ => 0))), (q_13, .inl (cB, 65536, .inl (fun _ => 0))), (q_21, .inl (cJ, 1, .inr (.inl (fun _ => 0)))), (q_1, .inr (1, xo_C f_3)), (q_8, .inr (0, xo_M ((va_up f_14 0 (.int 1)))))] := hD
      have hw : r_23 = 1 := hw
      subst hw
      refine lv_iload hx hb dn_L_law_452 (lv_at hl 0 rfl) ?_
      refine lv_icmp_eq (tgt := 459) hx hb dn_L_law_454 (by decide) (fun _ => ?_) (fun h9 => absurd h9 (by decide))
      refine lv_goto (tgt := 653) hx hb dn_L_law_459 (by decide) ?_
      refine lv_iinc (v := 6) (lv' := [(4, .int 6), (5, .int 1), (3, .ref q_21), (2, .ref q_8), (1, .ref q_1), (0, .ref b)]) hx hb dn_L_law_653 hl (k := 1) rfl (by decide) (by decide) rfl (fun ls hl => ?_)
      refine lv_goto (tgt := 23) hx hb dn_L_law_656 (by decide) ?_
      refine lv_iload hx hb dn_L_law_23 (lv_at hl 0 rfl) ?_
      refine lv_aload_n hx hb dn_L_law_25 rfl (lv_at hl 5 rfl) ?_
      refine va_slen hx hb hX hbl hbA hS dn_L_law_26 ?_
      refine xk_ti (y := 6) rfl ?_
      refine lv_bipush (v := 6) hx hb dn_L_law_27 (by decide) ?_
      refine lv_isub hx hb dn_L_law_29 ?_
      refine xk_ti (y := 0) (by decide) ?_
      refine lv_icmp_gt (tgt := 659) hx hb dn_L_law_30 (by decide) (fun _ => ?_) (fun h9 => absurd h9 (by decide))
      refine lv_iconst (v := 1) hx hb dn_L_law_659 (by decide) ?_
      refine va_forget (fun q hq => by have h7 := hS.2.2 q hq; rw [hAe] at h7; exact h7) ?_
      refine W.widen (k := 600002) (n := 7302232) (Nat.le_of_ble_eq_true rfl) (Nat.le_of_ble_eq_true rfl) ?_
      exact lw_ret hx hb hr hlocks dn_L_law_660
    · refine lv_tableIn (tgt := 462) hx hb dn_L_law_40 (by decide) (by decide) rfl (by decide) ?_
      refine lv_aload_n hx hb dn_L_law_462 rfl (lv_at hl 3 rfl) ?_
      refine lv_aload_n hx hb dn_L_law_463 rfl (lv_at hl 4 rfl) ?_
      refine lv_iload hx hb dn_L_law_464 (lv_at hl 0 rfl) ?_
      refine lv_iconst (v := 1) hx hb dn_L_law_466 (by decide) ?_
      refine lv_iadd hx hb dn_L_law_467 ?_
      refine xk_ti (y := 1) (by decide) ?_
      refine va_sld hx hb hX hbl hbA hS (show ¬ (_ ∨ _) by decide) dn_L_law_468 ?_
      refine xk_ti (y := xs 1) rfl ?_
      refine lv_aload_n hx hb dn_L_law_469 rfl (lv_at hl 4 rfl) ?_
      refine lv_iload hx hb dn_L_law_470 (lv_at hl 0 rfl) ?_
      refine lv_iconst (v := 2) hx hb dn_L_law_472 (by decide) ?_
      refine lv_iadd hx hb dn_L_law_473 ?_
      refine xk_ti (y := 2) (by decide) ?_
      refine va_sld hx hb hX hbl hbA hS (show ¬ (_ ∨ _) by decide) dn_L_law_474 ?_
      refine xk_ti (y := xs 2) rfl ?_
      have hPc := hP.sub (ws' := [(q_1, .inr (1, xo_C f_3))]) [0] rfl
      have hDc := hD.sub (ws' := [(q_1, .inr (1, xo_C f_3))]) [0] (by decide) rfl
      refine xk_calli (wr := [(q_2, .inl (cB, 512, .inl (fun _ => 0))), (q_8, .inr (0, xo_M f_14)), (q_9, .inl (cB, 65536, .inl (fun _ => 0))), (q_10, .inl (cI, 65540, .inl (fun _ => 0))), (q_11, .inl (cI, 65540, .inl (fun _ => 0))), (q_12, .inl (cI, 65540, .inl (fun _ => 0))), (q_13, .inl (cB, 65536, .inl (fun _ => 0))), (q_21, .inl (cJ, 1, .inr (.inl (fun _ => 0))))]) (xk_runSH (ar := 3) (As := [.ref q_1, .int (xs 1), .int (xs 2)]) (rest := []) ⟨hx, hb, hml, hown, hg⟩ (ct_L_set_t l hlt dC dI cI cB cJ cZ H.size q_1 f_3 ((xs 1)) ((xs 2)) hb_7) xk_blindX (fun U hU hW => ⟨⟨rfl, by rw [hU], by rw [hU]; exact hPc, va_K.moved hW.alike hK, hDc.weaken (fun _ _ _ _ => trivial), xn_moved hW hN⟩, xl_St hts hz1 hz2 hW (fun q hq => by rw [hU]; exact hS.2.1 q hq (hnA q hq))⟩) wn_7_228 wn_7_229 wn_1_0 wn_7_230 rfl rfl (by decide +kernel) ⟨Nat.le_of_ble_eq_true rfl, Nat.le_of_ble_eq_true rfl⟩ rfl hl.1 rfl (Nat.le_of_ble_eq_true rfl) dn_L_law_475 ⟨Nat.le_of_ble_eq_true rfl, Nat.le_of_ble_eq_true rfl⟩) hP hD hS hA [0] [1, 2, 3, 4, 5, 6, 7, 8] rfl rfl (by decide) (by decide) (fun r_22 _ H locs hw hP hD hS => ?_)
      have hP : va_P (dC, dI) xcl [(q_2, .inl (cB, 512, .inl (fun _ => 0))), (q_8, .inr (0, xo_M f_14)), (q_9, .inl (cB, 65536, .inl (fun _ => 0))), (q_10, .inl (cI, 65540, .inl (fun _ => 0))), (q_11, .inl (cI, 65540, .inl (fun _ => 0))), (q_12, .inl (cI, 65540, .inl (fun _ => 0))), (q_13, .inl (cB, 65536, .inl (fun _ => 0))), (q_21, .inl (cJ, 1, .inr (.inl (fun _ => 0)))), (q_1, .inr (1, xo_C f_3))] H := hP
      have hD : va_D A [(q_2, .inl (cB, 512, .inl (fun _ => 0))), (q_8, .inr (0, xo_M f_14)), (q_9, .inl (cB, 65536, .inl (fun _ => 0))), (q_10, .inl (cI, 65540, .inl (fun _ => 0))), (q_11, .inl (cI, 65540, .inl (fun _ => 0))), (q_12, .inl (cI, 65540, .inl (fun _ => 0))), (q_13, .inl (cB, 65536, .inl (fun _ => 0))), (q_21, .inl (cJ, 1, .inr (.inl (fun _ => 0)))), (q_1, .inr (1, xo_C f_3))] := hD
      have hw : r_22 = 1 := hw
      subst hw
      refine lv_istore (lv' := [(5, .int 1), (4, .int 0), (3, .ref q_21), (2, .ref q_8), (1, .ref q_1), (0, .ref b)]) hx hb dn_L_law_478 hl (by decide) rfl (fun ls hl => ?_)
      refine lv_aload_n hx hb dn_L_law_480 rfl (lv_at hl 3 rfl) ?_
      refine lv_aload_n hx hb dn_L_law_481 rfl (lv_at hl 5 rfl) ?_
      refine lv_iload hx hb dn_L_law_482 (lv_at hl 1 rfl) ?_
      refine lv_iconst (v := 1) hx hb dn_L_law_484 (by decide) ?_
      refine lv_iadd hx hb dn_L_law_485 ?_
      refine xk_ti (y := 1) (by decide) ?_
      refine va_sld hx hb hX hbl hbA hS (show ¬ (_ ∨ _) by decide) dn_L_law_486 ?_
      refine xk_ti (y := xs 1) rfl ?_
      refine lv_aload_n hx hb dn_L_law_487 rfl (lv_at hl 5 rfl) ?_
      refine lv_iload hx hb dn_L_law_488 (lv_at hl 1 rfl) ?_
      refine lv_iconst (v := 2) hx hb dn_L_law_490 (by decide) ?_
      refine lv_iadd hx hb dn_L_law_491 ?_
      refine xk_ti (y := 2) (by decide) ?_
      refine va_sld hx hb hX hbl hbA hS (show ¬ (_ ∨ _) by decide) dn_L_law_492 ?_
      refine xk_ti (y := xs 2) rfl ?_
      have hPc := hP.sub (ws' := [(q_8, .inr (0, xo_M f_14))]) [1] rfl
      have hDc := hD.sub (ws' := [(q_8, .inr (0, xo_M f_14))]) [1] (by decide) rfl
      refine xk_callv (wr := [(q_2, .inl (cB, 512, .inl (fun _ => 0))), (q_9, .inl (cB, 65536, .inl (fun _ => 0))), (q_10, .inl (cI, 65540, .inl (fun _ => 0))), (q_11, .inl (cI, 65540, .inl (fun _ => 0))), (q_12, .inl (cI, 65540, .inl (fun _ => 0))), (q_13, .inl (cB, 65536, .inl (fun _ => 0))), (q_21, .inl (cJ, 1, .inr (.inl (fun _ => 0)))), (q_1, .inr (1, xo_C f_3))]) (xk_runV (ar := 2) (As := [.int (xs 1), .int (xs 2)]) (rest := []) (ci := 0) (q0 := 0) ⟨hx, hb, hml, hown, hg⟩ hK hN (ct_M_set_0 l dC dI cI cB cJ cZ H.size q_8 ((xs 1)) ((xs 2)) f_14 hb_15.2.2.2.2.2.2.2.2.2.2.2.2.2.2.2.2.2.2.1) hPc hDc rfl rfl wn_11_60 wn_11_61 wn_11_62 wn_1_13 wn_11_63 rfl rfl (by decide +kernel) ⟨Nat.le_of_ble_eq_true rfl, Nat.le_of_ble_eq_true rfl⟩ rfl hl.1 rfl (Nat.le_of_ble_eq_true rfl) dn_L_law_493 ⟨Nat.le_of_ble_eq_true rfl, Nat.le_of_ble_eq_true rfl⟩) hP hD hS hA [1] [0, 2, 3, 4, 5, 6, 7, 8] rfl rfl (by decide) (by decide) (fun _ H locs hw hP hD hS => ?_)
      have hP : va_P (dC, dI) xcl [(q_2, .inl (cB, 512, .inl (fun _ => 0))), (q_9, .inl (cB, 65536, .inl (fun _ => 0))), (q_10, .inl (cI, 65540, .inl (fun _ => 0))), (q_11, .inl (cI, 65540, .inl (fun _ => 0))), (q_12, .inl (cI, 65540, .inl (fun _ => 0))), (q_13, .inl (cB, 65536, .inl (fun _ => 0))), (q_21, .inl (cJ, 1, .inr (.inl (fun _ => 0)))), (q_1, .inr (1, xo_C f_3)), (q_8, .inr (0, xo_M (va_up f_14 0 (.int 1))))] H := hP
      have hD : va_D A [(q_2, .inl (cB, 512, .inl (fun _ => 0))), (q_9, .inl (cB, 65536, .inl (fun _ => 0))), (q_10, .inl (cI, 65540, .inl (fun _ => 0))), (q_11, .inl (cI, 65540, .inl (fun _ => 0))), (q_12, .inl (cI, 65540, .inl (fun _ => 0))), (q_13, .inl (cB, 65536, .inl (fun _ => 0))), (q_21, .inl (cJ, 1, .inr (.inl (fun _ => 0)))), (q_1, .inr (1, xo_C f_3)), (q_8, .inr (0, xo_M (va_up f_14 0 (.int 1))))] := hD
      refine lv_aload_n hx hb dn_L_law_496 rfl (lv_at hl 3 rfl) ?_
      have hPc := hP.sub (ws' := [(q_8, .inr (0, xo_M (va_up f_14 0 (.int 1))))]) [8] rfl
      have hDc := hD.sub (ws' := [(q_8, .inr (0, xo_M (va_up f_14 0 (.int 1))))]) [8] (by decide) rfl
      refine xk_calli (wr := [(q_2, .inl (cB, 512, .inl (fun _ => 0))), (q_9, .inl (cB, 65536, .inl (fun _ => 0))), (q_10, .inl (cI, 65540, .inl (fun _ => 0))), (q_11, .inl (cI, 65540, .inl (fun _ => 0))), (q_12, .inl (cI, 65540, .inl (fun _ => 0))), (q_13, .inl (cB, 65536, .inl (fun _ => 0))), (q_21, .inl (cJ, 1, .inr (.inl (fun _ => 0)))), (q_1, .inr (1, xo_C f_3))]) (xk_runV (ar := 0) (As := []) (rest := []) (ci := 0) (q0 := 0) ⟨hx, hb, hml, hown, hg⟩ hK hN (ct_M_thrown_3 l dC dI cI cB cJ cZ H.size q_8 (va_up f_14 0 (.int 1)) (show (va_up f_14 0 (.int 1)) 0 = .int 1 from rfl)) hPc hDc rfl rfl wn_9_125 wn_9_126 wn_9_127 wn_1_13 wn_9_128 rfl rfl (by decide +kernel) ⟨Nat.le_of_ble_eq_true rfl, Nat.le_of_ble_eq_true rfl⟩ rfl hl.1 rfl (Nat.le_of_ble_eq_true rfl) dn_L_law_497 ⟨Nat.le_of_ble_eq_true rfl, Nat.le_of_ble_eq_true rfl⟩) hP hD hS hA [8] [0, 1, 2, 3, 4, 5, 6, 7] rfl rfl (by decide) (by decide) (fun r_23 _ H locs hw hP hD hS => ?_)
      have hP : va_P (dC, dI) xcl [(q_2, .inl (cB, 512, .inl (fun _ => 0))), (q_9, .inl (cB, 65536, .inl (fun _ => 0))), (q_10, .inl (cI, 65540, .inl (fun _ => 0))), (q_11, .inl (cI, 65540, .inl (fun _ => 0))), (q_12, .inl (cI, 65540, .inl (fun _ => 0))), (q_13, .inl (cB, 65536, .inl (fun _ => 0))), (q_21, .inl (cJ, 1, .inr (.inl (fun _ => 0)))), (q_1, .inr (1, xo_C f_3)), (q_8, .inr (0, xo_M ((va_up f_14 0 (.int 1)))))] H := hP
      have hD : va_D A [(q_2, .inl (cB, 512, .inl (fun _ => 0))), (q_9, .inl (cB, 65536, .inl (fun _ => 0))), (q_10, .inl (cI, 65540, .inl (fun _ => 0))), (q_11, .inl (cI, 65540, .inl (fun _ => 0))), (q_12, .inl (cI, 65540, .inl (fun _ => 0))), (q_13, .inl (cB, 65536, .inl (fun _ => 0))), (q_21, .inl (cJ, 1, .inr (.inl (fun _ => 0)))), (q_1, .inr (1, xo_C f_3)), (q_8, .inr (0, xo_M ((va_up f_14 0 (.int 1)))))] := hD
      have hw : r_23 = 1 := hw
      subst hw
      refine lv_iload hx hb dn_L_law_500 (lv_at hl 0 rfl) ?_
      refine lv_icmp_eq (tgt := 507) hx hb dn_L_law_502 (by decide) (fun _ => ?_) (fun h9 => absurd h9 (by decide))
      refine lv_goto (tgt := 653) hx hb dn_L_law_507 (by decide) ?_
      refine lv_iinc (v := 6) (lv' := [(4, .int 6), (5, .int 1), (3, .ref q_21), (2, .ref q_8), (1, .ref q_1), (0, .ref b)]) hx hb dn_L_law_653 hl (k := 1) rfl (by decide) (by decide) rfl (fun ls hl => ?_)
      refine lv_goto (tgt := 23) hx hb dn_L_law_656 (by decide) ?_
      refine lv_iload hx hb dn_L_law_23 (lv_at hl 0 rfl) ?_
      refine lv_aload_n hx hb dn_L_law_25 rfl (lv_at hl 5 rfl) ?_
      refine va_slen hx hb hX hbl hbA hS dn_L_law_26 ?_
      refine xk_ti (y := 6) rfl ?_
      refine lv_bipush (v := 6) hx hb dn_L_law_27 (by decide) ?_
      refine lv_isub hx hb dn_L_law_29 ?_
      refine xk_ti (y := 0) (by decide) ?_
      refine lv_icmp_gt (tgt := 659) hx hb dn_L_law_30 (by decide) (fun _ => ?_) (fun h9 => absurd h9 (by decide))
      refine lv_iconst (v := 1) hx hb dn_L_law_659 (by decide) ?_
      refine va_forget (fun q hq => by have h7 := hS.2.2 q hq; rw [hAe] at h7; exact h7) ?_
      refine W.widen (k := 600002) (n := 7302232) (Nat.le_of_ble_eq_true rfl) (Nat.le_of_ble_eq_true rfl) ?_
      exact lw_ret hx hb hr hlocks dn_L_law_660
    · refine lv_tableIn (tgt := 510) hx hb dn_L_law_40 (by decide) (by decide) rfl (by decide) ?_
      refine lv_aload_n hx hb dn_L_law_510 rfl (lv_at hl 3 rfl) ?_
      refine lv_aload_n hx hb dn_L_law_511 rfl (lv_at hl 1 rfl) ?_
      have hPc := hP.sub (ws' := [(q_1, .inr (1, xo_C f_3))]) [0] rfl
      have hDc := hD.sub (ws' := [(q_1, .inr (1, xo_C f_3))]) [0] (by decide) rfl
      refine xk_calli (wr := [(q_2, .inl (cB, 512, .inl (fun _ => 0))), (q_8, .inr (0, xo_M f_14)), (q_9, .inl (cB, 65536, .inl (fun _ => 0))), (q_10, .inl (cI, 65540, .inl (fun _ => 0))), (q_11, .inl (cI, 65540, .inl (fun _ => 0))), (q_12, .inl (cI, 65540, .inl (fun _ => 0))), (q_13, .inl (cB, 65536, .inl (fun _ => 0))), (q_21, .inl (cJ, 1, .inr (.inl (fun _ => 0))))]) (xk_runSH (ar := 2) (As := [.ref q_1, .ref q_21]) (rest := []) ⟨hx, hb, hml, hown, hg⟩ (ct_L_step_t l hlt dC dI cI cB cJ cZ H.size q_1 f_3 q_21 hb_7) xk_blindX (fun U hU hW => ⟨⟨rfl, by rw [hU], by rw [hU]; exact hPc, va_K.moved hW.alike hK, hDc.weaken (fun _ _ _ _ => trivial), xn_moved hW hN⟩, xl_St hts hz1 hz2 hW (fun q hq => by rw [hU]; exact hS.2.1 q hq (hnA q hq))⟩) wn_8_0 wn_8_1 wn_1_0 wn_8_2 rfl rfl (by decide +kernel) ⟨Nat.le_of_ble_eq_true rfl, Nat.le_of_ble_eq_true rfl⟩ rfl hl.1 rfl (Nat.le_of_ble_eq_true rfl) dn_L_law_512 ⟨Nat.le_of_ble_eq_true rfl, Nat.le_of_ble_eq_true rfl⟩) hP hD hS hA [0] [1, 2, 3, 4, 5, 6, 7, 8] rfl rfl (by decide) (by decide) (fun r_22 _ H locs hw hP hD hS => ?_)
      have hP : va_P (dC, dI) xcl [(q_2, .inl (cB, 512, .inl (fun _ => 0))), (q_8, .inr (0, xo_M f_14)), (q_9, .inl (cB, 65536, .inl (fun _ => 0))), (q_10, .inl (cI, 65540, .inl (fun _ => 0))), (q_11, .inl (cI, 65540, .inl (fun _ => 0))), (q_12, .inl (cI, 65540, .inl (fun _ => 0))), (q_13, .inl (cB, 65536, .inl (fun _ => 0))), (q_21, .inl (cJ, 1, .inr (.inl (fun _ => 0)))), (q_1, .inr (1, xo_C f_3))] H := hP
      have hD : va_D A [(q_2, .inl (cB, 512, .inl (fun _ => 0))), (q_8, .inr (0, xo_M f_14)), (q_9, .inl (cB, 65536, .inl (fun _ => 0))), (q_10, .inl (cI, 65540, .inl (fun _ => 0))), (q_11, .inl (cI, 65540, .inl (fun _ => 0))), (q_12, .inl (cI, 65540, .inl (fun _ => 0))), (q_13, .inl (cB, 65536, .inl (fun _ => 0))), (q_21, .inl (cJ, 1, .inr (.inl (fun _ => 0)))), (q_1, .inr (1, xo_C f_3))] := hD
      have hw : r_22 = 1 := hw
      subst hw
      refine lv_istore (lv' := [(5, .int 1), (4, .int 0), (3, .ref q_21), (2, .ref q_8), (1, .ref q_1), (0, .ref b)]) hx hb dn_L_law_515 hl (by decide) rfl (fun ls hl => ?_)
      refine lv_aload_n hx hb dn_L_law_517 rfl (lv_at hl 3 rfl) ?_
      have hPc := hP.sub (ws' := [(q_8, .inr (0, xo_M f_14))]) [1] rfl
      have hDc := hD.sub (ws' := [(q_8, .inr (0, xo_M f_14))]) [1] (by decide) rfl
      refine xk_calli (wr := [(q_2, .inl (cB, 512, .inl (fun _ => 0))), (q_9, .inl (cB, 65536, .inl (fun _ => 0))), (q_10, .inl (cI, 65540, .inl (fun _ => 0))), (q_11, .inl (cI, 65540, .inl (fun _ => 0))), (q_12, .inl (cI, 65540, .inl (fun _ => 0))), (q_13, .inl (cB, 65536, .inl (fun _ => 0))), (q_21, .inl (cJ, 1, .inr (.inl (fun _ => 0)))), (q_1, .inr (1, xo_C f_3))]) (xk_runV (ar := 0) (As := []) (rest := []) (ci := 0) (q0 := 0) ⟨hx, hb, hml, hown, hg⟩ hK hN (ct_M_step_0 l dC dI cI cB cJ cZ H.size q_8 f_14 hb_15.2.2.2.2.2.2.2.2.2.2.2.2.2.2.2.2.2.2.1) hPc hDc rfl rfl wn_11_64 wn_11_65 wn_11_66 wn_1_13 wn_11_67 rfl rfl (by decide +kernel) ⟨Nat.le_of_ble_eq_true rfl, Nat.le_of_ble_eq_true rfl⟩ rfl hl.1 rfl (Nat.le_of_ble_eq_true rfl) dn_L_law_518 ⟨Nat.le_of_ble_eq_true rfl, Nat.le_of_ble_eq_true rfl⟩) hP hD hS hA [1] [0, 2, 3, 4, 5, 6, 7, 8] rfl rfl (by decide) (by decide) (fun r_23 _ H locs hw hP hD hS => ?_)
      have hP : va_P (dC, dI) xcl [(q_2, .inl (cB, 512, .inl (fun _ => 0))), (q_9, .inl (cB, 65536, .inl (fun _ => 0))), (q_10, .inl (cI, 65540, .inl (fun _ => 0))), (q_11, .inl (cI, 65540, .inl (fun _ => 0))), (q_12, .inl (cI, 65540, .inl (fun _ => 0))), (q_13, .inl (cB, 65536, .inl (fun _ => 0))), (q_21, .inl (cJ, 1, .inr (.inl (fun _ => 0)))), (q_1, .inr (1, xo_C f_3)), (q_8, .inr (0, xo_M (va_up f_14 0 (.int 1))))] H := hP
      have hD : va_D A [(q_2, .inl (cB, 512, .inl (fun _ => 0))), (q_9, .inl (cB, 65536, .inl (fun _ => 0))), (q_10, .inl (cI, 65540, .inl (fun _ => 0))), (q_11, .inl (cI, 65540, .inl (fun _ => 0))), (q_12, .inl (cI, 65540, .inl (fun _ => 0))), (q_13, .inl (cB, 65536, .inl (fun _ => 0))), (q_21, .inl (cJ, 1, .inr (.inl (fun _ => 0)))), (q_1, .inr (1, xo_C f_3)), (q_8, .inr (0, xo_M (va_up f_14 0 (.int 1))))] := hD
      have hw : r_23 = 0 := hw
      subst hw
      refine lv_istore (lv' := [(6, .int 0), (5, .int 1), (4, .int 0), (3, .ref q_21), (2, .ref q_8), (1, .ref q_1), (0, .ref b)]) hx hb dn_L_law_521 hl (by decide) rfl (fun ls hl => ?_)
      refine lv_aload_n hx hb dn_L_law_523 rfl (lv_at hl 4 rfl) ?_
      have hPc := hP.sub (ws' := [(q_8, .inr (0, xo_M (va_up f_14 0 (.int 1))))]) [8] rfl
      have hDc := hD.sub (ws' := [(q_8, .inr (0, xo_M (va_up f_14 0 (.int 1))))]) [8] (by decide) rfl
      refine xk_calli (wr := [(q_2, .inl (cB, 512, .inl (fun _ => 0))), (q_9, .inl (cB, 65536, .inl (fun _ => 0))), (q_10, .inl (cI, 65540, .inl (fun _ => 0))), (q_11, .inl (cI, 65540, .inl (fun _ => 0))), (q_12, .inl (cI, 65540, .inl (fun _ => 0))), (q_13, .inl (cB, 65536, .inl (fun _ => 0))), (q_21, .inl (cJ, 1, .inr (.inl (fun _ => 0)))), (q_1, .inr (1, xo_C f_3))]) (xk_runV (ar := 0) (As := []) (rest := []) (ci := 0) (q0 := 0) ⟨hx, hb, hml, hown, hg⟩ hK hN (ct_M_thrown_3 l dC dI cI cB cJ cZ H.size q_8 (va_up f_14 0 (.int 1)) (show (va_up f_14 0 (.int 1)) 0 = .int 1 from rfl)) hPc hDc rfl rfl wn_9_125 wn_9_126 wn_9_127 wn_1_13 wn_9_128 rfl rfl (by decide +kernel) ⟨Nat.le_of_ble_eq_true rfl, Nat.le_of_ble_eq_true rfl⟩ rfl hl.1 rfl (Nat.le_of_ble_eq_true rfl) dn_L_law_524 ⟨Nat.le_of_ble_eq_true rfl, Nat.le_of_ble_eq_true rfl⟩) hP hD hS hA [8] [0, 1, 2, 3, 4, 5, 6, 7] rfl rfl (by decide) (by decide) (fun r_24 _ H locs hw hP hD hS => ?_)
      have hP : va_P (dC, dI) xcl [(q_2, .inl (cB, 512, .inl (fun _ => 0))), (q_9, .inl (cB, 65536, .inl (fun _ => 0))), (q_10, .inl (cI, 65540, .inl (fun _ => 0))), (q_11, .inl (cI, 65540, .inl (fun _ => 0))), (q_12, .inl (cI, 65540, .inl (fun _ => 0))), (q_13, .inl (cB, 65536, .inl (fun _ => 0))), (q_21, .inl (cJ, 1, .inr (.inl (fun _ => 0)))), (q_1, .inr (1, xo_C f_3)), (q_8, .inr (0, xo_M ((va_up f_14 0 (.int 1)))))] H := hP
      have hD : va_D A [(q_2, .inl (cB, 512, .inl (fun _ => 0))), (q_9, .inl (cB, 65536, .inl (fun _ => 0))), (q_10, .inl (cI, 65540, .inl (fun _ => 0))), (q_11, .inl (cI, 65540, .inl (fun _ => 0))), (q_12, .inl (cI, 65540, .inl (fun _ => 0))), (q_13, .inl (cB, 65536, .inl (fun _ => 0))), (q_21, .inl (cJ, 1, .inr (.inl (fun _ => 0)))), (q_1, .inr (1, xo_C f_3)), (q_8, .inr (0, xo_M ((va_up f_14 0 (.int 1)))))] := hD
      have hw : r_24 = 1 := hw
      subst hw
      refine lv_iload hx hb dn_L_law_527 (lv_at hl 1 rfl) ?_
      refine lv_icmp_eq (tgt := 534) hx hb dn_L_law_529 (by decide) (fun _ => ?_) (fun h9 => absurd h9 (by decide))
      refine lv_iload hx hb dn_L_law_534 (lv_at hl 1 rfl) ?_
      refine lv_if_ne (tgt := 551) hx hb dn_L_law_536 (by decide) (fun _ => ?_) (fun h9 => absurd h9 (by decide))
      refine lv_goto (tgt := 653) hx hb dn_L_law_551 (by decide) ?_
      refine lv_iinc (v := 6) (lv' := [(4, .int 6), (6, .int 0), (5, .int 1), (3, .ref q_21), (2, .ref q_8), (1, .ref q_1), (0, .ref b)]) hx hb dn_L_law_653 hl (k := 2) rfl (by decide) (by decide) rfl (fun ls hl => ?_)
      refine lv_goto (tgt := 23) hx hb dn_L_law_656 (by decide) ?_
      refine lv_iload hx hb dn_L_law_23 (lv_at hl 0 rfl) ?_
      refine lv_aload_n hx hb dn_L_law_25 rfl (lv_at hl 6 rfl) ?_
      refine va_slen hx hb hX hbl hbA hS dn_L_law_26 ?_
      refine xk_ti (y := 6) rfl ?_
      refine lv_bipush (v := 6) hx hb dn_L_law_27 (by decide) ?_
      refine lv_isub hx hb dn_L_law_29 ?_
      refine xk_ti (y := 0) (by decide) ?_
      refine lv_icmp_gt (tgt := 659) hx hb dn_L_law_30 (by decide) (fun _ => ?_) (fun h9 => absurd h9 (by decide))
      refine lv_iconst (v := 1) hx hb dn_L_law_659 (by decide) ?_
      refine va_forget (fun q hq => by have h7 := hS.2.2 q hq; rw [hAe] at h7; exact h7) ?_
      refine W.widen (k := 600002) (n := 7302232) (Nat.le_of_ble_eq_true rfl) (Nat.le_of_ble_eq_true rfl) ?_
      exact lw_ret hx hb hr hlocks dn_L_law_660
    · refine lv_tableIn (tgt := 554) hx hb dn_L_law_40 (by decide) (by decide) rfl (by decide) ?_
      refine lv_aload_n hx hb dn_L_law_554 rfl (lv_at hl 3 rfl) ?_
      refine lv_aload_n hx hb dn_L_law_555 rfl (lv_at hl 4 rfl) ?_
      refine lv_iload hx hb dn_L_law_556 (lv_at hl 0 rfl) ?_
      refine lv_iconst (v := 1) hx hb dn_L_law_558 (by decide) ?_
      refine lv_iadd hx hb dn_L_law_559 ?_
      refine xk_ti (y := 1) (by decide) ?_
      refine va_sld hx hb hX hbl hbA hS (show ¬ (_ ∨ _) by decide) dn_L_law_560 ?_
      refine xk_ti (y := xs 1) rfl ?_
      refine lv_aload_n hx hb dn_L_law_561 rfl (lv_at hl 1 rfl) ?_
      have hPc := hP.sub (ws' := [(q_1, .inr (1, xo_C f_3))]) [0] rfl
      have hDc := hD.sub (ws' := [(q_1, .inr (1, xo_C f_3))]) [0] (by decide) rfl
      refine xk_calli (wr := [(q_2, .inl (cB, 512, .inl (fun _ => 0))), (q_8, .inr (0, xo_M f_14)), (q_9, .inl (cB, 65536, .inl (fun _ => 0))), (q_10, .inl (cI, 65540, .inl (fun _ => 0))), (q_11, .inl (cI, 65540, .inl (fun _ => 0))), (q_12, .inl (cI, 65540, .inl (fun _ => 0))), (q_13, .inl (cB, 65536, .inl (fun _ => 0))), (q_21, .inl (cJ, 1, .inr (.inl (fun _ => 0))))]) (xk_runSH (ar := 3) (As := [.ref q_1, .int (xs 1), .ref q_21]) (rest := []) ⟨hx, hb, hml, hown, hg⟩ (ct_L_value_t l hlt dC dI cI cB cJ cZ H.size q_1 f_3 ((xs 1)) q_21 hb_7) xk_blindX (fun U hU hW => ⟨⟨rfl, by rw [hU], by rw [hU]; exact hPc, va_K.moved hW.alike hK, hDc.weaken (fun _ _ _ _ => trivial), xn_moved hW hN⟩, xl_St hts hz1 hz2 hW (fun q hq => by rw [hU]; exact hS.2.1 q hq (hnA q hq))⟩) wn_8_60 wn_8_61 wn_1_0 wn_8_62 rfl rfl (by decide +kernel) ⟨Nat.le_of_ble_eq_true rfl, Nat.le_of_ble_eq_true rfl⟩ rfl hl.1 rfl (Nat.le_of_ble_eq_true rfl) dn_L_law_562 ⟨Nat.le_of_ble_eq_true rfl, Nat.le_of_ble_eq_true rfl⟩) hP hD hS hA [0] [1, 2, 3, 4, 5, 6, 7, 8] rfl rfl (by decide) (by decide) (fun r_22 _ H locs hw hP hD hS => ?_)
      have hP : va_P (dC, dI) xcl [(q_2, .inl (cB, 512, .inl (fun _ => 0))), (q_8, .inr (0, xo_M f_14)), (q_9, .inl (cB, 65536, .inl (fun _ => 0))), (q_10, .inl (cI, 65540, .inl (fun _ => 0))), (q_11, .inl (cI, 65540, .inl (fun _ => 0))), (q_12, .inl (cI, 65540, .inl (fun _ => 0))), (q_13, .inl (cB, 65536, .inl (fun _ => 0))), (q_21, .inl (cJ, 1, .inr (.inl (fun _ => 0)))), (q_1, .inr (1, xo_C f_3))] H := hP
      have hD : va_D A [(q_2, .inl (cB, 512, .inl (fun _ => 0))), (q_8, .inr (0, xo_M f_14)), (q_9, .inl (cB, 65536, .inl (fun _ => 0))), (q_10, .inl (cI, 65540, .inl (fun _ => 0))), (q_11, .inl (cI, 65540, .inl (fun _ => 0))), (q_12, .inl (cI, 65540, .inl (fun _ => 0))), (q_13, .inl (cB, 65536, .inl (fun _ => 0))), (q_21, .inl (cJ, 1, .inr (.inl (fun _ => 0)))), (q_1, .inr (1, xo_C f_3))] := hD
      have hw : r_22 = 1 := hw
      subst hw
      refine lv_istore (lv' := [(5, .int 1), (4, .int 0), (3, .ref q_21), (2, .ref q_8), (1, .ref q_1), (0, .ref b)]) hx hb dn_L_law_565 hl (by decide) rfl (fun ls hl => ?_)
      refine lv_aload_n hx hb dn_L_law_567 rfl (lv_at hl 3 rfl) ?_
      refine lv_aload_n hx hb dn_L_law_568 rfl (lv_at hl 5 rfl) ?_
      refine lv_iload hx hb dn_L_law_569 (lv_at hl 1 rfl) ?_
      refine lv_iconst (v := 1) hx hb dn_L_law_571 (by decide) ?_
      refine lv_iadd hx hb dn_L_law_572 ?_
      refine xk_ti (y := 1) (by decide) ?_
      refine va_sld hx hb hX hbl hbA hS (show ¬ (_ ∨ _) by decide) dn_L_law_573 ?_
      refine xk_ti (y := xs 1) rfl ?_
      have hPc := hP.sub (ws' := [(q_8, .inr (0, xo_M f_14))]) [1] rfl
      have hDc := hD.sub (ws' := [(q_8, .inr (0, xo_M f_14))]) [1] (by decide) rfl
      refine xk_calll (wr := [(q_2, .inl (cB, 512, .inl (fun _ => 0))), (q_9, .inl (cB, 65536, .inl (fun _ => 0))), (q_10, .inl (cI, 65540, .inl (fun _ => 0))), (q_11, .inl (cI, 65540, .inl (fun _ => 0))), (q_12, .inl (cI, 65540, .inl (fun _ => 0))), (q_13, .inl (cB, 65536, .inl (fun _ => 0))), (q_21, .inl (cJ, 1, .inr (.inl (fun _ => 0)))), (q_1, .inr (1, xo_C f_3))]) (xk_runV (ar := 1) (As := [.int (xs 1)]) (rest := []) (ci := 0) (q0 := 0) ⟨hx, hb, hml, hown, hg⟩ hK hN (ct_M_value_0 l dC dI cI cB cJ cZ H.size q_8 ((xs 1)) f_14 hb_15.2.2.2.2.2.2.2.2.2.2.2.2.2.2.2.2.2.2.1) hPc hDc rfl rfl wn_11_72 wn_11_73 wn_11_74 wn_1_13 wn_11_75 rfl rfl (by decide +kernel) ⟨Nat.le_of_ble_eq_true rfl, Nat.le_of_ble_eq_true rfl⟩ rfl hl.1 rfl (Nat.le_of_ble_eq_true rfl) dn_L_law_574 ⟨Nat.le_of_ble_eq_true rfl, Nat.le_of_ble_eq_true rfl⟩) hP hD hS hA [1] [0, 2, 3, 4, 5, 6, 7, 8] rfl rfl (by decide) (by decide) (fun r_23 _ H locs hw hP hD hS => ?_)
      have hP : va_P (dC, dI) xcl [(q_2, .inl (cB, 512, .inl (fun _ => 0))), (q_9, .inl (cB, 65536, .inl (fun _ => 0))), (q_10, .inl (cI, 65540, .inl (fun _ => 0))), (q_11, .inl (cI, 65540, .inl (fun _ => 0))), (q_12, .inl (cI, 65540, .inl (fun _ => 0))), (q_13, .inl (cB, 65536, .inl (fun _ => 0))), (q_21, .inl (cJ, 1, .inr (.inl (fun _ => 0)))), (q_1, .inr (1, xo_C f_3)), (q_8, .inr (0, xo_M (va_up f_14 0 (.int 1))))] H := hP
      have hD : va_D A [(q_2, .inl (cB, 512, .inl (fun _ => 0))), (q_9, .inl (cB, 65536, .inl (fun _ => 0))), (q_10, .inl (cI, 65540, .inl (fun _ => 0))), (q_11, .inl (cI, 65540, .inl (fun _ => 0))), (q_12, .inl (cI, 65540, .inl (fun _ => 0))), (q_13, .inl (cB, 65536, .inl (fun _ => 0))), (q_21, .inl (cJ, 1, .inr (.inl (fun _ => 0)))), (q_1, .inr (1, xo_C f_3)), (q_8, .inr (0, xo_M (va_up f_14 0 (.int 1))))] := hD
      have hw : r_23 = 0 := hw
      subst hw
      refine lv_lstore (lv' := [(6, .long 0), (5, .int 1), (4, .int 0), (3, .ref q_21), (2, .ref q_8), (1, .ref q_1), (0, .ref b)]) hx hb dn_L_law_577 hl (by decide) rfl (fun ls hl => ?_)
      refine lv_aload_n hx hb dn_L_law_579 rfl (lv_at hl 4 rfl) ?_
      have hPc := hP.sub (ws' := [(q_8, .inr (0, xo_M (va_up f_14 0 (.int 1))))]) [8] rfl
      have hDc := hD.sub (ws' := [(q_8, .inr (0, xo_M (va_up f_14 0 (.int 1))))]) [8] (by decide) rfl
      refine xk_calli (wr := [(q_2, .inl (cB, 512, .inl (fun _ => 0))), (q_9, .inl (cB, 65536, .inl (fun _ => 0))), (q_10, .inl (cI, 65540, .inl (fun _ => 0))), (q_11, .inl (cI, 65540, .inl (fun _ => 0))), (q_12, .inl (cI, 65540, .inl (fun _ => 0))), (q_13, .inl (cB, 65536, .inl (fun _ => 0))), (q_21, .inl (cJ, 1, .inr (.inl (fun _ => 0)))), (q_1, .inr (1, xo_C f_3))]) (xk_runV (ar := 0) (As := []) (rest := []) (ci := 0) (q0 := 0) ⟨hx, hb, hml, hown, hg⟩ hK hN (ct_M_thrown_3 l dC dI cI cB cJ cZ H.size q_8 (va_up f_14 0 (.int 1)) (show (va_up f_14 0 (.int 1)) 0 = .int 1 from rfl)) hPc hDc rfl rfl wn_9_125 wn_9_126 wn_9_127 wn_1_13 wn_9_128 rfl rfl (by decide +kernel) ⟨Nat.le_of_ble_eq_true rfl, Nat.le_of_ble_eq_true rfl⟩ rfl hl.1 rfl (Nat.le_of_ble_eq_true rfl) dn_L_law_580 ⟨Nat.le_of_ble_eq_true rfl, Nat.le_of_ble_eq_true rfl⟩) hP hD hS hA [8] [0, 1, 2, 3, 4, 5, 6, 7] rfl rfl (by decide) (by decide) (fun r_24 _ H locs hw hP hD hS => ?_)
      have hP : va_P (dC, dI) xcl [(q_2, .inl (cB, 512, .inl (fun _ => 0))), (q_9, .inl (cB, 65536, .inl (fun _ => 0))), (q_10, .inl (cI, 65540, .inl (fun _ => 0))), (q_11, .inl (cI, 65540, .inl (fun _ => 0))), (q_12, .inl (cI, 65540, .inl (fun _ => 0))), (q_13, .inl (cB, 65536, .inl (fun _ => 0))), (q_21, .inl (cJ, 1, .inr (.inl (fun _ => 0)))), (q_1, .inr (1, xo_C f_3)), (q_8, .inr (0, xo_M ((va_up f_14 0 (.int 1)))))] H := hP
      have hD : va_D A [(q_2, .inl (cB, 512, .inl (fun _ => 0))), (q_9, .inl (cB, 65536, .inl (fun _ => 0))), (q_10, .inl (cI, 65540, .inl (fun _ => 0))), (q_11, .inl (cI, 65540, .inl (fun _ => 0))), (q_12, .inl (cI, 65540, .inl (fun _ => 0))), (q_13, .inl (cB, 65536, .inl (fun _ => 0))), (q_21, .inl (cJ, 1, .inr (.inl (fun _ => 0)))), (q_1, .inr (1, xo_C f_3)), (q_8, .inr (0, xo_M ((va_up f_14 0 (.int 1)))))] := hD
      have hw : r_24 = 1 := hw
      subst hw
      refine lv_iload hx hb dn_L_law_583 (lv_at hl 1 rfl) ?_
      refine lv_icmp_eq (tgt := 590) hx hb dn_L_law_585 (by decide) (fun _ => ?_) (fun h9 => absurd h9 (by decide))
      refine lv_iload hx hb dn_L_law_590 (lv_at hl 1 rfl) ?_
      refine lv_if_ne (tgt := 606) hx hb dn_L_law_592 (by decide) (fun _ => ?_) (fun h9 => absurd h9 (by decide))
      refine lv_goto (tgt := 653) hx hb dn_L_law_606 (by decide) ?_
      refine lv_iinc (v := 6) (lv' := [(4, .int 6), (6, .long 0), (5, .int 1), (3, .ref q_21), (2, .ref q_8), (1, .ref q_1), (0, .ref b)]) hx hb dn_L_law_653 hl (k := 2) rfl (by decide) (by decide) rfl (fun ls hl => ?_)
      refine lv_goto (tgt := 23) hx hb dn_L_law_656 (by decide) ?_
      refine lv_iload hx hb dn_L_law_23 (lv_at hl 0 rfl) ?_
      refine lv_aload_n hx hb dn_L_law_25 rfl (lv_at hl 6 rfl) ?_
      refine va_slen hx hb hX hbl hbA hS dn_L_law_26 ?_
      refine xk_ti (y := 6) rfl ?_
      refine lv_bipush (v := 6) hx hb dn_L_law_27 (by decide) ?_
      refine lv_isub hx hb dn_L_law_29 ?_
      refine xk_ti (y := 0) (by decide) ?_
      refine lv_icmp_gt (tgt := 659) hx hb dn_L_law_30 (by decide) (fun _ => ?_) (fun h9 => absurd h9 (by decide))
      refine lv_iconst (v := 1) hx hb dn_L_law_659 (by decide) ?_
      refine va_forget (fun q hq => by have h7 := hS.2.2 q hq; rw [hAe] at h7; exact h7) ?_
      refine W.widen (k := 600002) (n := 7302232) (Nat.le_of_ble_eq_true rfl) (Nat.le_of_ble_eq_true rfl) ?_
      exact lw_ret hx hb hr hlocks dn_L_law_660
    · refine lv_tableIn (tgt := 609) hx hb dn_L_law_40 (by decide) (by decide) rfl (by decide) ?_
      refine lv_aload_n hx hb dn_L_law_609 rfl (lv_at hl 3 rfl) ?_
      refine lv_aload_n hx hb dn_L_law_610 rfl (lv_at hl 1 rfl) ?_
      have hPc := hP.sub (ws' := [(q_1, .inr (1, xo_C f_3))]) [0] rfl
      have hDc := hD.sub (ws' := [(q_1, .inr (1, xo_C f_3))]) [0] (by decide) rfl
      refine xk_calli (wr := [(q_2, .inl (cB, 512, .inl (fun _ => 0))), (q_8, .inr (0, xo_M f_14)), (q_9, .inl (cB, 65536, .inl (fun _ => 0))), (q_10, .inl (cI, 65540, .inl (fun _ => 0))), (q_11, .inl (cI, 65540, .inl (fun _ => 0))), (q_12, .inl (cI, 65540, .inl (fun _ => 0))), (q_13, .inl (cB, 65536, .inl (fun _ => 0))), (q_21, .inl (cJ, 1, .inr (.inl (fun _ => 0))))]) (xk_runSH (ar := 2) (As := [.ref q_1, .ref q_21]) (rest := []) ⟨hx, hb, hml, hown, hg⟩ (ct_L_failing_t l hlt dC dI cI cB cJ cZ H.size q_1 f_3 q_21 hb_7) xk_blindX (fun U hU hW => ⟨⟨rfl, by rw [hU], by rw [hU]; exact hPc, va_K.moved hW.alike hK, hDc.weaken (fun _ _ _ _ => trivial), xn_moved hW hN⟩, xl_St hts hz1 hz2 hW (fun q hq => by rw [hU]; exact hS.2.1 q hq (hnA q hq))⟩) wn_8_71 wn_8_72 wn_1_0 wn_8_73 rfl rfl (by decide +kernel) ⟨Nat.le_of_ble_eq_true rfl, Nat.le_of_ble_eq_true rfl⟩ rfl hl.1 rfl (Nat.le_of_ble_eq_true rfl) dn_L_law_611 ⟨Nat.le_of_ble_eq_true rfl, Nat.le_of_ble_eq_true rfl⟩) hP hD hS hA [0] [1, 2, 3, 4, 5, 6, 7, 8] rfl rfl (by decide) (by decide) (fun r_22 _ H locs hw hP hD hS => ?_)
      have hP : va_P (dC, dI) xcl [(q_2, .inl (cB, 512, .inl (fun _ => 0))), (q_8, .inr (0, xo_M f_14)), (q_9, .inl (cB, 65536, .inl (fun _ => 0))), (q_10, .inl (cI, 65540, .inl (fun _ => 0))), (q_11, .inl (cI, 65540, .inl (fun _ => 0))), (q_12, .inl (cI, 65540, .inl (fun _ => 0))), (q_13, .inl (cB, 65536, .inl (fun _ => 0))), (q_21, .inl (cJ, 1, .inr (.inl (fun _ => 0)))), (q_1, .inr (1, xo_C f_3))] H := hP
      have hD : va_D A [(q_2, .inl (cB, 512, .inl (fun _ => 0))), (q_8, .inr (0, xo_M f_14)), (q_9, .inl (cB, 65536, .inl (fun _ => 0))), (q_10, .inl (cI, 65540, .inl (fun _ => 0))), (q_11, .inl (cI, 65540, .inl (fun _ => 0))), (q_12, .inl (cI, 65540, .inl (fun _ => 0))), (q_13, .inl (cB, 65536, .inl (fun _ => 0))), (q_21, .inl (cJ, 1, .inr (.inl (fun _ => 0)))), (q_1, .inr (1, xo_C f_3))] := hD
      have hw : r_22 = 1 := hw
      subst hw
      refine lv_istore (lv' := [(5, .int 1), (4, .int 0), (3, .ref q_21), (2, .ref q_8), (1, .ref q_1), (0, .ref b)]) hx hb dn_L_law_614 hl (by decide) rfl (fun ls hl => ?_)
      refine lv_aload_n hx hb dn_L_law_616 rfl (lv_at hl 3 rfl) ?_
      have hPc := hP.sub (ws' := [(q_8, .inr (0, xo_M f_14))]) [1] rfl
      have hDc := hD.sub (ws' := [(q_8, .inr (0, xo_M f_14))]) [1] (by decide) rfl
      refine xk_calli (wr := [(q_2, .inl (cB, 512, .inl (fun _ => 0))), (q_9, .inl (cB, 65536, .inl (fun _ => 0))), (q_10, .inl (cI, 65540, .inl (fun _ => 0))), (q_11, .inl (cI, 65540, .inl (fun _ => 0))), (q_12, .inl (cI, 65540, .inl (fun _ => 0))), (q_13, .inl (cB, 65536, .inl (fun _ => 0))), (q_21, .inl (cJ, 1, .inr (.inl (fun _ => 0)))), (q_1, .inr (1, xo_C f_3))]) (xk_runV (ar := 0) (As := []) (rest := []) (ci := 0) (q0 := 0) ⟨hx, hb, hml, hown, hg⟩ hK hN (ct_M_failing_0 l dC dI cI cB cJ cZ H.size q_8 f_14 hb_15.2.2.2.2.2.2.2.2.2.2.2.2.2.2.2.2.2.2.1) hPc hDc rfl rfl wn_11_76 wn_11_77 wn_11_78 wn_1_13 wn_11_79 rfl rfl (by decide +kernel) ⟨Nat.le_of_ble_eq_true rfl, Nat.le_of_ble_eq_true rfl⟩ rfl hl.1 rfl (Nat.le_of_ble_eq_true rfl) dn_L_law_617 ⟨Nat.le_of_ble_eq_true rfl, Nat.le_of_ble_eq_true rfl⟩) hP hD hS hA [1] [0, 2, 3, 4, 5, 6, 7, 8] rfl rfl (by decide) (by decide) (fun r_23 _ H locs hw hP hD hS => ?_)
      have hP : va_P (dC, dI) xcl [(q_2, .inl (cB, 512, .inl (fun _ => 0))), (q_9, .inl (cB, 65536, .inl (fun _ => 0))), (q_10, .inl (cI, 65540, .inl (fun _ => 0))), (q_11, .inl (cI, 65540, .inl (fun _ => 0))), (q_12, .inl (cI, 65540, .inl (fun _ => 0))), (q_13, .inl (cB, 65536, .inl (fun _ => 0))), (q_21, .inl (cJ, 1, .inr (.inl (fun _ => 0)))), (q_1, .inr (1, xo_C f_3)), (q_8, .inr (0, xo_M (va_up f_14 0 (.int 1))))] H := hP
      have hD : va_D A [(q_2, .inl (cB, 512, .inl (fun _ => 0))), (q_9, .inl (cB, 65536, .inl (fun _ => 0))), (q_10, .inl (cI, 65540, .inl (fun _ => 0))), (q_11, .inl (cI, 65540, .inl (fun _ => 0))), (q_12, .inl (cI, 65540, .inl (fun _ => 0))), (q_13, .inl (cB, 65536, .inl (fun _ => 0))), (q_21, .inl (cJ, 1, .inr (.inl (fun _ => 0)))), (q_1, .inr (1, xo_C f_3)), (q_8, .inr (0, xo_M (va_up f_14 0 (.int 1))))] := hD
      have hw : r_23 = 0 := hw
      subst hw
      refine lv_istore (lv' := [(6, .int 0), (5, .int 1), (4, .int 0), (3, .ref q_21), (2, .ref q_8), (1, .ref q_1), (0, .ref b)]) hx hb dn_L_law_620 hl (by decide) rfl (fun ls hl => ?_)
      refine lv_aload_n hx hb dn_L_law_622 rfl (lv_at hl 4 rfl) ?_
      have hPc := hP.sub (ws' := [(q_8, .inr (0, xo_M (va_up f_14 0 (.int 1))))]) [8] rfl
      have hDc := hD.sub (ws' := [(q_8, .inr (0, xo_M (va_up f_14 0 (.int 1))))]) [8] (by decide) rfl
      refine xk_calli (wr := [(q_2, .inl (cB, 512, .inl (fun _ => 0))), (q_9, .inl (cB, 65536, .inl (fun _ => 0))), (q_10, .inl (cI, 65540, .inl (fun _ => 0))), (q_11, .inl (cI, 65540, .inl (fun _ => 0))), (q_12, .inl (cI, 65540, .inl (fun _ => 0))), (q_13, .inl (cB, 65536, .inl (fun _ => 0))), (q_21, .inl (cJ, 1, .inr (.inl (fun _ => 0)))), (q_1, .inr (1, xo_C f_3))]) (xk_runV (ar := 0) (As := []) (rest := []) (ci := 0) (q0 := 0) ⟨hx, hb, hml, hown, hg⟩ hK hN (ct_M_thrown_3 l dC dI cI cB cJ cZ H.size q_8 (va_up f_14 0 (.int 1)) (show (va_up f_14 0 (.int 1)) 0 = .int 1 from rfl)) hPc hDc rfl rfl wn_9_125 wn_9_126 wn_9_127 wn_1_13 wn_9_128 rfl rfl (by decide +kernel) ⟨Nat.le_of_ble_eq_true rfl, Nat.le_of_ble_eq_true rfl⟩ rfl hl.1 rfl (Nat.le_of_ble_eq_true rfl) dn_L_law_623 ⟨Nat.le_of_ble_eq_true rfl, Nat.le_of_ble_eq_true rfl⟩) hP hD hS hA [8] [0, 1, 2, 3, 4, 5, 6, 7] rfl rfl (by decide) (by decide) (fun r_24 _ H locs hw hP hD hS => ?_)
      have hP : va_P (dC, dI) xcl [(q_2, .inl (cB, 512, .inl (fun _ => 0))), (q_9, .inl (cB, 65536, .inl (fun _ => 0))), (q_10, .inl (cI, 65540, .inl (fun _ => 0))), (q_11, .inl (cI, 65540, .inl (fun _ => 0))), (q_12, .inl (cI, 65540, .inl (fun _ => 0))), (q_13, .inl (cB, 65536, .inl (fun _ => 0))), (q_21, .inl (cJ, 1, .inr (.inl (fun _ => 0)))), (q_1, .inr (1, xo_C f_3)), (q_8, .inr (0, xo_M ((va_up f_14 0 (.int 1)))))] H := hP
      have hD : va_D A [(q_2, .inl (cB, 512, .inl (fun _ => 0))), (q_9, .inl (cB, 65536, .inl (fun _ => 0))), (q_10, .inl (cI, 65540, .inl (fun _ => 0))), (q_11, .inl (cI, 65540, .inl (fun _ => 0))), (q_12, .inl (cI, 65540, .inl (fun _ => 0))), (q_13, .inl (cB, 65536, .inl (fun _ => 0))), (q_21, .inl (cJ, 1, .inr (.inl (fun _ => 0)))), (q_1, .inr (1, xo_C f_3)), (q_8, .inr (0, xo_M ((va_up f_14 0 (.int 1)))))] := hD
      have hw : r_24 = 1 := hw
      subst hw
      refine lv_iload hx hb dn_L_law_626 (lv_at hl 1 rfl) ?_
      refine lv_icmp_eq (tgt := 633) hx hb dn_L_law_628 (by decide) (fun _ => ?_) (fun h9 => absurd h9 (by decide))
      refine lv_iload hx hb dn_L_law_633 (lv_at hl 1 rfl) ?_
      refine lv_if_ne (tgt := 650) hx hb dn_L_law_635 (by decide) (fun _ => ?_) (fun h9 => absurd h9 (by decide))
      refine lv_goto (tgt := 653) hx hb dn_L_law_650 (by decide) ?_
      refine lv_iinc (v := 6) (lv' := [(4, .int 6), (6, .int 0), (5, .int 1), (3, .ref q_21), (2, .ref q_8), (1, .ref q_1), (0, .ref b)]) hx hb dn_L_law_653 hl (k := 2) rfl (by decide) (by decide) rfl (fun ls hl => ?_)
      refine lv_goto (tgt := 23) hx hb dn_L_law_656 (by decide) ?_
      refine lv_iload hx hb dn_L_law_23 (lv_at hl 0 rfl) ?_
      refine lv_aload_n hx hb dn_L_law_25 rfl (lv_at hl 6 rfl) ?_
      refine va_slen hx hb hX hbl hbA hS dn_L_law_26 ?_
      refine xk_ti (y := 6) rfl ?_
      refine lv_bipush (v := 6) hx hb dn_L_law_27 (by decide) ?_
      refine lv_isub hx hb dn_L_law_29 ?_
      refine xk_ti (y := 0) (by decide) ?_
      refine lv_icmp_gt (tgt := 659) hx hb dn_L_law_30 (by decide) (fun _ => ?_) (fun h9 => absurd h9 (by decide))
      refine lv_iconst (v := 1) hx hb dn_L_law_659 (by decide) ?_
      refine va_forget (fun q hq => by have h7 := hS.2.2 q hq; rw [hAe] at h7; exact h7) ?_
      refine W.widen (k := 600002) (n := 7302232) (Nat.le_of_ble_eq_true rfl) (Nat.le_of_ble_eq_true rfl) ?_
      exact lw_ret hx hb hr hlocks dn_L_law_660
    · refine lv_tableOut (tgt := 653) hx hb dn_L_law_40 (by decide) (by decide) ?_
      refine lv_iinc (v := 6) (lv' := [(4, .int 6), (3, .ref q_21), (2, .ref q_8), (1, .ref q_1), (0, .ref b)]) hx hb dn_L_law_653 hl (k := 0) rfl (by decide) (by decide) rfl (fun ls hl => ?_)
      refine lv_goto (tgt := 23) hx hb dn_L_law_656 (by decide) ?_
      refine lv_iload hx hb dn_L_law_23 (lv_at hl 0 rfl) ?_
      refine lv_aload_n hx hb dn_L_law_25 rfl (lv_at hl 4 rfl) ?_
      refine va_slen hx hb hX hbl hbA hS dn_L_law_26 ?_
      refine xk_ti (y := 6) rfl ?_
      refine lv_bipush (v := 6) hx hb dn_L_law_27 (by decide) ?_
      refine lv_isub hx hb dn_L_law_29 ?_
      refine xk_ti (y := 0) (by decide) ?_
      refine lv_icmp_gt (tgt := 659) hx hb dn_L_law_30 (by decide) (fun _ => ?_) (fun h9 => absurd h9 (by decide))
      refine lv_iconst (v := 1) hx hb dn_L_law_659 (by decide) ?_
      refine va_forget (fun q hq => by have h7 := hS.2.2 q hq; rw [hAe] at h7; exact h7) ?_
      refine W.widen (k := 600002) (n := 7302232) (Nat.le_of_ble_eq_true rfl) (Nat.le_of_ble_eq_true rfl) ?_
      exact lw_ret hx hb hr hlocks dn_L_law_660
    · refine lv_tableOut (tgt := 653) hx hb dn_L_law_40 (by decide) (by decide) ?_
      refine lv_iinc (v := 6) (lv' := [(4, .int 6), (3, .ref q_21), (2, .ref q_8), (1, .ref q_1), (0, .ref b)]) hx hb dn_L_law_653 hl (k := 0) rfl (by decide) (by decide) rfl (fun ls hl => ?_)
      refine lv_goto (tgt := 23) hx hb dn_L_law_656 (by decide) ?_
      refine lv_iload hx hb dn_L_law_23 (lv_at hl 0 rfl) ?_
      refine lv_aload_n hx hb dn_L_law_25 rfl (lv_at hl 4 rfl) ?_
      refine va_slen hx hb hX hbl hbA hS dn_L_law_26 ?_
      refine xk_ti (y := 6) rfl ?_
      refine lv_bipush (v := 6) hx hb dn_L_law_27 (by decide) ?_
      refine lv_isub hx hb dn_L_law_29 ?_
      refine xk_ti (y := 0) (by decide) ?_
      refine lv_icmp_gt (tgt := 659) hx hb dn_L_law_30 (by decide) (fun _ => ?_) (fun h9 => absurd h9 (by decide))
      refine lv_iconst (v := 1) hx hb dn_L_law_659 (by decide) ?_
      refine va_forget (fun q hq => by have h7 := hS.2.2 q hq; rw [hAe] at h7; exact h7) ?_
      refine W.widen (k := 600002) (n := 7302232) (Nat.le_of_ble_eq_true rfl) (Nat.le_of_ble_eq_true rfl) ?_
      exact lw_ret hx hb hr hlocks dn_L_law_660
    · refine lv_tableOut (tgt := 653) hx hb dn_L_law_40 (by decide) (by decide) ?_
      refine lv_iinc (v := 6) (lv' := [(4, .int 6), (3, .ref q_21), (2, .ref q_8), (1, .ref q_1), (0, .ref b)]) hx hb dn_L_law_653 hl (k := 0) rfl (by decide) (by decide) rfl (fun ls hl => ?_)
      refine lv_goto (tgt := 23) hx hb dn_L_law_656 (by decide) ?_
      refine lv_iload hx hb dn_L_law_23 (lv_at hl 0 rfl) ?_
      refine lv_aload_n hx hb dn_L_law_25 rfl (lv_at hl 4 rfl) ?_
      refine va_slen hx hb hX hbl hbA hS dn_L_law_26 ?_
      refine xk_ti (y := 6) rfl ?_
      refine lv_bipush (v := 6) hx hb dn_L_law_27 (by decide) ?_
      refine lv_isub hx hb dn_L_law_29 ?_
      refine xk_ti (y := 0) (by decide) ?_
      refine lv_icmp_gt (tgt := 659) hx hb dn_L_law_30 (by decide) (fun _ => ?_) (fun h9 => absurd h9 (by decide))
      refine lv_iconst (v := 1) hx hb dn_L_law_659 (by decide) ?_
      refine va_forget (fun q hq => by have h7 := hS.2.2 q hq; rw [hAe] at h7; exact h7) ?_
      refine W.widen (k := 600002) (n := 7302232) (Nat.le_of_ble_eq_true rfl) (Nat.le_of_ble_eq_true rfl) ?_
      exact lw_ret hx hb hr hlocks dn_L_law_660
    · refine lv_tableOut (tgt := 653) hx hb dn_L_law_40 (by decide) (by decide) ?_
      refine lv_iinc (v := 6) (lv' := [(4, .int 6), (3, .ref q_21), (2, .ref q_8), (1, .ref q_1), (0, .ref b)]) hx hb dn_L_law_653 hl (k := 0) rfl (by decide) (by decide) rfl (fun ls hl => ?_)
      refine lv_goto (tgt := 23) hx hb dn_L_law_656 (by decide) ?_
      refine lv_iload hx hb dn_L_law_23 (lv_at hl 0 rfl) ?_
      refine lv_aload_n hx hb dn_L_law_25 rfl (lv_at hl 4 rfl) ?_
      refine va_slen hx hb hX hbl hbA hS dn_L_law_26 ?_
      refine xk_ti (y := 6) rfl ?_
      refine lv_bipush (v := 6) hx hb dn_L_law_27 (by decide) ?_
      refine lv_isub hx hb dn_L_law_29 ?_
      refine xk_ti (y := 0) (by decide) ?_
      refine lv_icmp_gt (tgt := 659) hx hb dn_L_law_30 (by decide) (fun _ => ?_) (fun h9 => absurd h9 (by decide))
      refine lv_iconst (v := 1) hx hb dn_L_law_659 (by decide) ?_
      refine va_forget (fun q hq => by have h7 := hS.2.2 q hq; rw [hAe] at h7; exact h7) ?_
      refine W.widen (k := 600002) (n := 7302232) (Nat.le_of_ble_eq_true rfl) (Nat.le_of_ble_eq_true rfl) ?_
      exact lw_ret hx hb hr hlocks dn_L_law_660
