/-! The class: a step of its machine, and a run. -/
section CSTP
variable {N F sz lc fd fr e p p' : Nat} {row lit v n n' : Nat → Int64} {P : Nat → Prop} {st st' : List Int64} {c : ms}
theorem jmp_C (h : p < p') (h2 : p' < 2 ^ 31) : (if nI p < nI p' - 1 then nI p' - 1 else nI p) + 1 = nI p' := by
  obtain ⟨q, rfl⟩ : ∃ q, p' = q + 1 := ⟨p' - 1, by omega⟩
  rw [show nI (q + 1) - 1 = nI q by rw [show (1 : Int32) = nI 1 from rfl, nI_sub (by omega), Nat.add_sub_cancel]]
  by_cases z : p < q
  · rw [if_pos (nI_lt z (by omega)), nI_1]
  · obtain rfl : p = q := by omega
    rw [if_neg (Int32.lt_irrefl), nI_1]
theorem store_C {d h l : Nat} {x : Int64} (hl : l ≤ h) (hh : h < 64) (hf : fd ≤ d) (hd : d < 10923) (hi : fr + (d - fd) < 1024) : fn_Machine_store_Ma N (nI fr) (nI ((d - fd) * 16384 + l * 128 + (h - l + 1))) x c = some ((), upJ c 287 (vp_updL (c.2 287) (fr + (d - fd)) (aSt h l (c.2 287 (fr + (d - fd))) x))) := by
  unfold fn_Machine_store_Ma
  rw [nI_ushr (by omega), nI_ushr (by omega), show (Int32.toUInt32 14 &&& Int32.toUInt32 31).toNat % 32 = 14 by decide, show (Int32.toUInt32 7 &&& Int32.toUInt32 31).toNat % 32 = 7 by decide, show ((d - fd) * 16384 + l * 128 + (h - l + 1)) / 2 ^ 14 = d - fd by omega, nI_add, nI_and127, nI_and127, show ((d - fd) * 16384 + l * 128 + (h - l + 1)) % 128 = h - l + 1 by omega, show ((d - fd) * 16384 + l * 128 + (h - l + 1)) / 2 ^ 7 % 128 = l by rw [show ((d - fd) * 16384 + l * 128 + (h - l + 1)) / 2 ^ 7 = (d - fd) * 128 + l by omega]; omega, if_neg (nI_pos (by omega)), if_pos (show nI (fr + (d - fd)) < 1024 from nI_lt (b := 1024) hi (by omega)), maskC (by omega), obind]
  dsimp only
  rw [if_neg (nI_in hi (by decide)), if_neg (nI_in hi (by decide)), nI_clamp (by omega)]
  rfl
theorem step_C (hN : 100 < N) (hc : Cst c sz lc row lit) (hp : p < e) (he : e ≤ sz) (hs : st.length ≤ 1000) (hR : CRn c fd fr P v n st) (h : cS row fd lit lc P v (p, st, n) (p', st', n')) (hp' : p' ≤ e) : ∃ c', hd_Machine_run_Ma_Kc_20 N (F + 1) (nI fr) (nI (st.length + 3)) (nI e) (nI p) c = hd_Machine_run_Ma_Kc_20 N F (nI fr) (nI (st'.length + 3)) (nI e) (nI p') c' ∧ CRn c' fd fr P v n' st' ∧ Eb [] [287, 288] c c' ∧ ∀ x, (∀ d, P d → x ≠ fr + (d - fd)) → c'.2 287 x = c.2 287 x := by
  obtain ⟨h1, h2, h⟩ := h
  have h1 : p < p' := h1
  have h2 : st'.length ≤ 960 := h2
  obtain ⟨hS, hM⟩ := id hR
  obtain ⟨g1, g2, g3, g4, g5, g6⟩ := id hc
  rcases h with ⟨o, a1, a2, a3, a4, a5, a6, a7⟩ | ⟨d, h, l, x, a1, a2, a3, a4, a5, a6, a7, a8, a9⟩ | ⟨x, a1, a2, a3⟩ | ⟨a1, a2⟩ | ⟨x, y, st0, a1, a2, a3, a4⟩ | ⟨x, g, a1, a2, a3, a4⟩
  · have a6 : p' = p + 1 := a6
    have a7 : n' = n := a7
    subst a6 a7
    exact op_C hN hc hp he hs hR a1 a3 a4 a5
  · have a7 : st = x :: st' := a7
    have a8 : n' = vp_updL n d (aSt h l (n d) x) := a8
    have a9 : p' = p + 1 := a9
    have a1 : row p = crw 515 (nI ((d - fd) * 16384 + l * 128 + (h - l + 1))) := a1
    subst a7 a8 a9
    obtain ⟨m1, m2, m3, m4⟩ := hM _ a6
    rw [mhead_C (N := N) (F := F) (fr := fr) hc hp he hs a1]
    simp (decide := true) only [reduceIte]
    rw [show (x :: st').length + 3 = st'.length + 3 + 1 from rfl, if_neg (nI_in (show st'.length + 3 + 1 < 1024 by omega) (by decide)), nI_clamp (show st'.length + 3 + 1 < 2 ^ 31 by omega), show c.2 288 (st'.length + 3 + 1) = x from hS.1, store_C a2 a3 a4 a5 m2, obind]
    dsimp only
    rw [m1_nI]
    refine ⟨_, rfl, ⟨hS.2, fun d' hd' => ?_⟩, Eb.rfl.upJ (by decide), fun y hy => ?_⟩
    · obtain ⟨q1, q2, q3, q4⟩ := hM _ hd'
      refine ⟨q1, q2, q3, ?_⟩
      show vp_updL n d _ d' = vp_updL (c.2 287) (fr + (d - fd)) _ (fr + (d' - fd))
      by_cases z : d' = d
      · subst z; rw [updL_at, updL_at, m4]
      · rw [updL_ne z, updL_ne (by omega)]; exact q4
    · show vp_updL (c.2 287) (fr + (d - fd)) _ y = _
      rw [updL_ne (hy _ a6)]
  · have a1 : st = x :: st' := a1
    have a2 : n' = n := a2
    subst a1 a2
    have hl : (x :: st').length + 3 = st'.length + 3 + 1 := rfl
    rcases a3 with ⟨b1, b2⟩ | ⟨b1, ⟨g, b2⟩, b3⟩
    · have b2 : row p = crw 518 (nI p') := b2
      rw [mhead_C (N := N) (F := F) (fr := fr) hc hp he hs b2]
      simp (decide := true) only [reduceIte]
      rw [hl, if_neg (nI_in (show st'.length + 3 + 1 < 1024 by omega) (by decide)), nI_clamp (show st'.length + 3 + 1 < 2 ^ 31 by omega), show c.2 288 (st'.length + 3 + 1) = x from hS.1, if_pos (lgE.mpr b1), m1_nI, jmp_C h1 (by omega)]
      exact ⟨_, rfl, ⟨hS.2, hM⟩, Eb.rfl, fun _ _ => rfl⟩
    · have b2 : row p = crw 518 g := b2
      have b3 : p' = p + 1 := b3
      subst b3
      rw [mhead_C (N := N) (F := F) (fr := fr) hc hp he hs b2]
      simp (decide := true) only [reduceIte]
      rw [hl, if_neg (nI_in (show st'.length + 3 + 1 < 1024 by omega) (by decide)), nI_clamp (show st'.length + 3 + 1 < 2 ^ 31 by omega), show c.2 288 (st'.length + 3 + 1) = x from hS.1, if_neg (fun q => b1 (lgE.mp q)), m1_nI]
      exact ⟨_, rfl, ⟨hS.2, hM⟩, Eb.rfl, fun _ _ => rfl⟩
  · have a1 : row p = crw 517 (nI p') := a1
    have a2 : (st', n') = (st, n) := a2
    cases a2
    rw [mhead_C (N := N) (F := F) (fr := fr) hc hp he hs a1]
    simp (decide := true) only [reduceIte]
    rw [jmp_C h1 (by omega)]
    exact ⟨_, rfl, ⟨hS, hM⟩, Eb.rfl, fun _ _ => rfl⟩
  · have a1 : st = y :: x :: st0 := a1
    have a2 : st' = x :: st0 := a2
    have a3 : n' = n := a3
    subst a1 a2 a3
    have hl : (y :: x :: st0).length + 3 = st0.length + 4 + 1 := rfl
    have hl2 : (x :: st0).length + 3 = st0.length + 4 := rfl
    have hs' : st0.length + 1 + 1 ≤ 1000 := hs
    rcases a4 with ⟨b1, b2⟩ | ⟨b1, ⟨g, b2⟩, b3⟩
    · have b2 : row p = crw 519 (nI p') := b2
      rw [mhead_C (N := N) (F := F) (fr := fr) hc hp he hs b2]
      simp (decide := true) only [reduceIte]
      rw [hl, hl2, m1_nI, if_neg (nI_in (show st0.length + 4 < 1024 by omega) (by decide)), show nI (st0.length + 4) + 1 = nI (st0.length + 4 + 1) from nI_1 _, if_neg (nI_in (show st0.length + 4 + 1 < 1024 by omega) (by decide)), nI_clamp (show st0.length + 4 + 1 < 2 ^ 31 by omega), nI_clamp (show st0.length + 4 < 2 ^ 31 by omega), show c.2 288 (st0.length + 4 + 1) = y from hS.1, show c.2 288 (st0.length + 4) = x from hS.2.1, if_pos (lgE.mpr b1), jmp_C h1 (by omega)]
      exact ⟨_, rfl, ⟨hS.2, hM⟩, Eb.rfl, fun _ _ => rfl⟩
    · have b2 : row p = crw 519 g := b2
      have b3 : p' = p + 1 := b3
      subst b3
      rw [mhead_C (N := N) (F := F) (fr := fr) hc hp he hs b2]
      simp (decide := true) only [reduceIte]
      rw [hl, hl2, m1_nI, if_neg (nI_in (show st0.length + 4 < 1024 by omega) (by decide)), show nI (st0.length + 4) + 1 = nI (st0.length + 4 + 1) from nI_1 _, if_neg (nI_in (show st0.length + 4 + 1 < 1024 by omega) (by decide)), nI_clamp (show st0.length + 4 + 1 < 2 ^ 31 by omega), nI_clamp (show st0.length + 4 < 2 ^ 31 by omega), show c.2 288 (st0.length + 4 + 1) = y from hS.1, show c.2 288 (st0.length + 4) = x from hS.2.1, if_neg (fun q => b1 (lgE.mp q))]
      exact ⟨_, rfl, ⟨hS.2, hM⟩, Eb.rfl, fun _ _ => rfl⟩
  · have a1 : row p = crw 516 g := a1
    have a2 : st = x :: st' := a2
    have a3 : n' = n := a3
    have a4 : p' = p + 1 := a4
    subst a4
    subst a3
    subst a2
    have hl : (x :: st').length + 3 = st'.length + 3 + 1 := rfl
    rw [mhead_C (N := N) (F := F) (fr := fr) hc hp he hs a1]
    simp (decide := true) only [reduceIte]
    rw [hl, if_neg (nI_in (show st'.length + 3 + 1 < 1024 by omega) (by decide)), m1_nI]
    exact ⟨_, rfl, ⟨hS.2, hM⟩, Eb.rfl, fun _ _ => rfl⟩
theorem runs_C (hN : 100 < N) (he : e ≤ sz) : ∀ (k : Nat) {p : Nat} {st : List Int64} {n : Nat → Int64} {c : ms} {F : Nat}, Cst c sz lc row lit → st.length ≤ 1000 → CRn c fd fr P v n st → Rn (cS row fd lit lc P v) k (p, st, n) (p', st', n') → p' ≤ e → ∃ c', hd_Machine_run_Ma_Kc_20 N (F + k) (nI fr) (nI (st.length + 3)) (nI e) (nI p) c = hd_Machine_run_Ma_Kc_20 N F (nI fr) (nI (st'.length + 3)) (nI e) (nI p') c' ∧ CRn c' fd fr P v n' st' ∧ Eb [] [287, 288] c c' ∧ ∀ x, (∀ d, P d → x ≠ fr + (d - fd)) → c'.2 287 x = c.2 287 x
  | 0, p, st, n, c, F, hc, hs, hR, h, hp => by
    cases h
    exact ⟨c, rfl, hR, Eb.rfl, fun _ _ => rfl⟩
  | k + 1, p, st, n, c, F, hc, hs, hR, h, hp => by
    obtain ⟨⟨p1, st1, n1⟩, h1, h2⟩ := h
    have l1 := Rn.le cS.fw h2
    have l1 : p1 + k ≤ p' := l1
    have l2 : p < p1 := h1.1
    have l3 : st1.length ≤ 960 := h1.2.1
    obtain ⟨c1, a1, a2, a3, a4⟩ := step_C (N := N) (F := F + k) hN hc (show p < e by omega) he hs hR h1 (by omega)
    obtain ⟨c2, b1, b2, b3, b4⟩ := runs_C hN he k (F := F) (hc.keep a3) (by omega) a2 h2 hp
    exact ⟨c2, by rw [show F + (k + 1) = F + k + 1 by omega, a1, b1], b2, a3.trans b3, fun x hx => (b4 x hx).trans (a4 x hx)⟩
/-- a piece of code run by itself -/
theorem run_C {a b : Nat} (hN : 20000 < N) (hc : Cst c sz lc row lit) (hab : a ≤ b) (hb : b ≤ sz) (hR : CRn c fd fr P v n []) (h : Rt (cS row fd lit lc P v) (a, [], n) (b, st', n')) : ∃ c', fn_Machine_run_Ma_Kc N (nI a) (nI b) (nI fr) c = some (c'.2 288 (st'.length + 3), c') ∧ CRn c' fd fr P v n' st' ∧ Eb [] [287, 288] c c' ∧ ∀ x, (∀ d, P d → x ≠ fr + (d - fd)) → c'.2 287 x = c.2 287 x := by
  obtain ⟨k, h⟩ := h
  have g1 := hc.1
  have g2 := hc.2.1
  have l1 : a + k ≤ b := Rn.le cS.fw h
  have l2 : st'.length ≤ 960 := by
    cases k with
    | zero => cases h; exact Nat.zero_le _
    | succ k =>
      have : ∀ (k : Nat) (x y : vst), Rn (cS row fd lit lc P v) (k + 1) x y → y.2.1.length ≤ 960 := by
        intro k
        induction k with
        | zero => intro x y h; obtain ⟨z, h1, h2⟩ := h; cases h2; exact h1.2.1
        | succ k ih => intro x y h; obtain ⟨z, h1, h2⟩ := h; exact ih z y h2
      exact this k _ _ h
  obtain ⟨c', e1, e2, e3, e4⟩ := runs_C (N := N) (e := b) (F := N - k) (by omega) hb k hc (by simp) hR h (Nat.le_refl _)
  refine ⟨c', ?_, e2, e3, e4⟩
  unfold fn_Machine_run_Ma_Kc
  rw [g1, if_neg (nI_pos (by omega)), show (if nI sz < nI b then nI sz else nI b) = nI b by
    by_cases z : nI sz < nI b
    · exact absurd z (Int32.not_lt.mpr (nI_le hb (by omega)))
    · rw [if_neg z]]
  rw [show N - k + k = N by omega] at e1
  refine (show hd_Machine_run_Ma_Kc_20 N N (nI fr) 3 (nI b) (nI a) c = _ from e1).trans ?_
  obtain ⟨m, hm⟩ : ∃ m, N - k = m + 1 := ⟨N - k - 1, by omega⟩
  rw [hm]
  show bd_Machine_run_Ma_Kc_20 N (hd_Machine_run_Ma_Kc_20 N m) (nI fr) (nI (st'.length + 3)) (nI b) (nI b) c' = _
  unfold bd_Machine_run_Ma_Kc_20 bk_Machine_run_Ma_Kc_408
  rw [if_pos (nI_le (Nat.le_refl _) (by omega)), if_neg (nI_pos (by omega)), if_neg (show ¬ (1024 : Int32) ≤ nI (st'.length + 3) from nI_ge (b := 1024) (by omega) (by omega)), if_neg (nI_in (show st'.length + 3 < 1024 by omega) (by decide)), nI_clamp (by omega)]
end CSTP
