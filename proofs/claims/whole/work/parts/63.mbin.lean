/-! The reference's binary exps; all of its exps. -/
section MBIN
variable {tk pl vl wi : Nat → Nat} {nm : Nat → Option (Nat × Nat)} {nt m N N0 : Nat} {s0 s : ms} {la0 nc0 W F C0 : Nat}
theorem bCost_le {k a b : Nat} (ha : a ≤ 64) (hb : b ≤ 64) : bCost k a b ≤ 4096 := by
  unfold bCost
  have : a * a ≤ 64 * 64 := Nat.mul_le_mul ha ha
  split
  · omega
  · split <;> omega
theorem bMade_in {k a : Nat} (h1 : 1 ≤ a) (h2 : a ≤ 64) : 1 ≤ bMade k a ∧ bMade k a ≤ 64 := by unfold bMade; split <;> omega
theorem Pg.reck {S : ms} {t CC nc W' F' k a b : Nat} {L : List aop} (hS : SM tk pl vl wi nm nt m N s0) (h : Pg m s0 s la0 nc0 W F C0 S t L CC nc (W' + 2) (F' + 1)) (hl : la0 + L.length + 1 < 33000) (hW : W ≤ W') (hk : isB k) (ha : a ≤ 64) (hb : b ≤ 64) (hK : S.1 49 F' = nI k) (hA : S.1 52 W' = nI a) (hB : S.1 52 (W' + 1) = nI b) :
    ((bAny k = true ∨ a = b) → ∃ S', fn_M_reckon N S = some ((), S') ∧ Pg m s0 s la0 nc0 W F C0 S' t (L ++ [(5, k, a)]) (CC + bCost k a b) nc (W' + 1) F' ∧ S'.1 52 = upd (S.1 52) W' (nI (bMade k a)) ∧ S'.1 49 = S.1 49 ∧ S'.1 50 = S.1 50)
    ∧ (¬ (bAny k = true ∨ a = b) → ∀ p bb, S.1 50 F' = nI p → t ≤ bb → la0 + L.length + 1 ≤ bb → nc ≤ bb → ∃ S', fn_M_reckon N S = some ((), S') ∧ Zg m s0 s la0 nc0 W F S' 30 p bb (W' + 1) F') := by
  obtain ⟨a1, a2, a3, a4, a5, a6, a7⟩ := h
  have c12 : S.1 12 0 = nI m := by rw [a1.1 12 (by decide)]; exact hS.1
  obtain ⟨r1, r2⟩ := reck_M (N := N) a5 hl c12 hS.2.1 hk ha hb hK hA hB
  constructor
  · intro q
    obtain ⟨S', b1, b2, b3, b4, b5, b6, b7⟩ := r1 q
    have e43 : S'.2 43 = S.2 43 := b6.2 43 (by decide)
    refine ⟨S', b1, ⟨a1.trans (b6.mono (by decide) (by decide)), a2.trans (la' := la0 + L.length) (nc' := nc) (W' := W') (F' := F) ⟨b5.1, fun k _ => by rw [e43], fun k _ => ⟨by rw [b6.1 49 (by decide)], by rw [b6.1 50 (by decide)]⟩, fun k hk => by rw [b4, upd_ne (by omega)], b7⟩ (by omega) a3 hW (Nat.le_refl _), a3, by simp; omega, by simpa [Nat.add_assoc] using b2, ?_, by rw [b3, a7, lN_add]; congr 1; omega⟩, b4, b6.1 49 (by decide), b6.1 50 (by decide)⟩
    refine rEnc.app (a6.mono b5.1 (fun k _ => by rw [e43]) (Nat.le_refl _)) (rEnc.one ?_)
    exact rop_5 b5.2.1 b5.2.2.1 b5.2.2.2
  · intro q p bb hp h1 h2 h3
    obtain ⟨S', b1, b2, b3, b4, b5, b6, b7⟩ := r2 q
    exact ⟨S', b1, a1.trans (b4.mono (by decide) (by decide)), a2.trans (la' := la0 + L.length) (nc' := nc) (W' := W') (F' := F) ⟨b6, fun k _ => by rw [b4.2 43 (by decide)], fun k _ => ⟨by rw [b4.1 49 (by decide)], by rw [b4.1 50 (by decide)]⟩, b5, b7⟩ (by omega) a3 hW (Nat.le_refl _), by decide, by rw [b3, hp], t, _, nc, b2, h1, h2, h3, by omega, a3⟩
/-- on the way through operators -/
def Bg (m : Nat) (s0 s : ms) (la0 nc0 W F C0 : Nat) (S : ms) (t : Nat) (ops : List (Nat × Nat)) (ws : List Nat) (L : List aop) (CC nc : Nat) : Prop :=
  Pg m s0 s la0 nc0 W F C0 S t L CC nc (W + ws.length) (F + ops.length) ∧ wsR (S.1 52) W ws ∧ opR (S.1 49) (S.1 50) F ops ∧ ws.length = ops.length + 1
theorem red38 {d n0 b t nc r : Nat} (hd : 2 ≤ d) (T : Tv tk pl nt) (hS : SM tk pl vl wi nm nt m N s0) (hN : 13002 < N) (hr : 0 < r) (hr2 : r ≤ 11) (ht : t ≤ nt + 1) (hW : W + 30 < 2000) (hF : F + 30 < 2000) (hb : 13000 ≤ b ∧ b + 100 < 33000) (hnc : nc ≤ b) :
    ∀ (ops : List (Nat × Nat)) (ws : List Nat) (L : List aop) (CC n x : Nat) (S : ms) (q : Sum (Nat × Nat) (List (Nat × Nat) × List Nat × List aop × Nat)), Bg m s0 s la0 nc0 W F C0 S t ops ws L CC nc → opS ops x → x ≤ 11 → ops.length < n → la0 + L.length + ops.length ≤ 12500 → eRed r ops ws L CC = some q →
      (∀ ops' ws' L' C', q = .inr (ops', ws', L', C') → ∃ S', hd_M_binary_38 N (sg_M_exp N d).1 (sg_M_exp N d).2.1 (sg_M_exp N d).2.2.1 (sg_M_exp N d).2.2.2.1 (sg_M_exp N d).2.2.2.2 (hd_M_binary_13 N (sg_M_exp N d).1 (sg_M_exp N d).2.1 (sg_M_exp N d).2.2.1 (sg_M_exp N d).2.2.2.1 (sg_M_exp N d).2.2.2.2 (n0 + 1)) n (nI F) (nI r) S = bk_M_binary_71 N (sg_M_exp N d).1 (sg_M_exp N d).2.1 (sg_M_exp N d).2.2.1 (sg_M_exp N d).2.2.2.1 (sg_M_exp N d).2.2.2.2 (hd_M_binary_13 N (sg_M_exp N d).1 (sg_M_exp N d).2.1 (sg_M_exp N d).2.2.1 (sg_M_exp N d).2.2.2.1 (sg_M_exp N d).2.2.2.2 (n0 + 1)) (nI F) S' ∧ Bg m s0 s la0 nc0 W F C0 S' t ops' ws' L' C' nc ∧ opS ops' r ∧ L'.length + ops'.length = L.length + ops.length ∧ C' + 4200 * ops'.length ≤ CC + 4200 * ops.length)
      ∧ (∀ f p, q = .inl (f, p) → ∃ v S', hd_M_binary_38 N (sg_M_exp N d).1 (sg_M_exp N d).2.1 (sg_M_exp N d).2.2.1 (sg_M_exp N d).2.2.2.1 (sg_M_exp N d).2.2.2.2 (hd_M_binary_13 N (sg_M_exp N d).1 (sg_M_exp N d).2.1 (sg_M_exp N d).2.2.1 (sg_M_exp N d).2.2.2.1 (sg_M_exp N d).2.2.2.2 (n0 + 1)) n (nI F) (nI r) S = some (v, S') ∧ ∃ b', b' ≤ b + 30 ∧ Zg m s0 s la0 nc0 W F S' f p b' W F) := by
  have l1 := T.2.1
  intro ops
  induction ops with
  | nil =>
    intro ws L CC n x S q hB hO hx hn hl h
    obtain ⟨n, rfl⟩ : ∃ n', n = n' + 1 := ⟨n - 1, by omega⟩
    cases h
    refine ⟨fun ops' ws' L' C' e => ?_, fun f p e => by cases e⟩
    cases e
    refine ⟨S, ?_, hB, trivial, rfl, Nat.le_refl _⟩
    show bd_M_binary_38 N _ _ _ _ _ _ (hd_M_binary_38 N _ _ _ _ _ _ n) (nI F) (nI r) S = _
    unfold bd_M_binary_38
    have x11 : S.1 51 0 = nI (F + 0) := hB.1.2.2.2.2.1.2.2.2.2.2.2.2.2.2.2.1
    rw [x11, Nat.add_zero, if_pos (nI_le (Nat.le_refl _) (by omega))]
  | cons o ops ih =>
    intro ws L CC n x S q hB hO hx hn hl h
    obtain ⟨k, p0⟩ := o
    obtain ⟨n, rfl⟩ : ∃ n', n = n' + 1 := ⟨n - 1, by omega⟩
    obtain ⟨hP, hw, ⟨o1, o2, o3, o4⟩, hlen⟩ := id hB
    have oplen : ops.length < 11 := by
      rcases opS.len hO with z | z
      · simp at z; omega
      · cases z
    have x11 : S.1 51 0 = nI (F + ops.length + 1) := hP.2.2.2.2.1.2.2.2.2.2.2.2.2.2.2.1
    have kl := isB_lt o3
    have rl := rk_lt k
    dsimp only at o1 o2 o3
    have start : hd_M_binary_38 N (sg_M_exp N d).1 (sg_M_exp N d).2.1 (sg_M_exp N d).2.2.1 (sg_M_exp N d).2.2.2.1 (sg_M_exp N d).2.2.2.2 (hd_M_binary_13 N (sg_M_exp N d).1 (sg_M_exp N d).2.1 (sg_M_exp N d).2.2.1 (sg_M_exp N d).2.2.2.1 (sg_M_exp N d).2.2.2.2 (n0 + 1)) (n + 1) (nI F) (nI r) S = if rk k < r then bk_M_binary_71 N (sg_M_exp N d).1 (sg_M_exp N d).2.1 (sg_M_exp N d).2.2.1 (sg_M_exp N d).2.2.2.1 (sg_M_exp N d).2.2.2.2 (hd_M_binary_13 N (sg_M_exp N d).1 (sg_M_exp N d).2.1 (sg_M_exp N d).2.2.1 (sg_M_exp N d).2.2.2.1 (sg_M_exp N d).2.2.2.2 (n0 + 1)) (nI F) S else (fn_M_reckon N S).bind (fun q_5 => hd_M_binary_38 N (sg_M_exp N d).1 (sg_M_exp N d).2.1 (sg_M_exp N d).2.2.1 (sg_M_exp N d).2.2.2.1 (sg_M_exp N d).2.2.2.2 (hd_M_binary_13 N (sg_M_exp N d).1 (sg_M_exp N d).2.1 (sg_M_exp N d).2.2.1 (sg_M_exp N d).2.2.2.1 (sg_M_exp N d).2.2.2.2 (n0 + 1)) n (nI F) (nI r) q_5.2) := by
      show bd_M_binary_38 N _ _ _ _ _ _ (hd_M_binary_38 N _ _ _ _ _ _ n) (nI F) (nI r) S = _
      unfold bd_M_binary_38 bk_M_binary_68
      rw [x11, if_neg (nI_ge (by omega) (by omega)), nI_pred, if_neg (nI_in (show F + ops.length < 4096 by omega) (by decide)), nI_clamp (by omega), o1, rank_1 kl, obind]
      dsimp only
      by_cases c : rk k < r
      · rw [if_pos (nI_lt c (by omega)), if_pos c]
      · rw [if_neg (nI_nlt (by omega) (by omega)), if_neg c]
    unfold eRed at h
    by_cases c : r ≤ rk k
    · rw [if_pos c] at h
      rw [start, if_neg (by omega)]
      match ws, hw, hlen, h, hP, hB with
      | [], hw, hlen, h, hP, hB => simp at hlen
      | [w], hw, hlen, h, hP, hB => simp at hlen
      | bb :: a :: ws, hw, hlen, h, hP, hB =>
        obtain ⟨w1, w2, w3, w4, w5, w6, w7⟩ := hw
        simp only [List.length_cons] at w1 hlen hl hP ⊢
        have wl : ws.length = ops.length := by omega
        obtain ⟨r1, r2⟩ := Pg.reck (k := k) (a := a) (b := bb) (W' := W + ws.length) (F' := F + ops.length) hS hP (by omega) (by omega) o3 w6 w3 o1 w4 (by rw [← w1]; congr 1)
        by_cases g : bAny k = true ∨ a = bb
        · dsimp only at h
          rw [if_pos g] at h
          obtain ⟨S1, b1, b2, b3, b4, b5⟩ := r1 g
          rw [b1, obind]
          have B1 : Bg m s0 s la0 nc0 W F C0 S1 t ops (bMade k a :: ws) (L ++ [(5, k, a)]) (CC + bCost k a bb) nc := by
            refine ⟨b2, ⟨?_, (bMade_in w5 w6).1, (bMade_in w5 w6).2, ?_⟩, ?_, by simp; omega⟩
            · rw [b3, upd_at]
            · exact w7.mono (fun i hi => by rw [b3, upd_ne (by omega)])
            · exact o4.mono (fun i hi => ⟨by rw [b4], by rw [b5]⟩)
          obtain ⟨i1, i2⟩ := ih _ _ _ n (rk k) S1 q B1 hO.2.2 (by omega) (by simp at hn; omega) (by simp; omega) h
          have bc := bCost_le (k := k) w6 w3
          refine ⟨fun ops' ws' L' C' e => ?_, i2⟩
          obtain ⟨S', j1, j2, j3, j4, j5⟩ := i1 _ _ _ _ e
          exact ⟨S', j1, j2, j3, by rw [j4]; simp; omega, by omega⟩
        · dsimp only at h
          rw [if_neg g] at h
          cases h
          refine ⟨fun ops' ws' L' C' e => (by cases e), fun f p e => ?_⟩
          cases e
          obtain ⟨S1, b1, b2⟩ := r2 g p0 b o2 (by omega) (by omega) hnc
          rw [b1, obind]
          rw [wl] at b2
          obtain ⟨v, S', c1, c2⟩ := Zg.loop38 (d := d) (n0 := n0) (r := nI r) hd hS hN ops.length n S1 30 p0 b b2 hb.1 (by omega) (by simp at hn; omega) (by omega) (by omega) (by omega)
          exact ⟨v, S', c1, _, by omega, c2⟩
    · rw [if_neg c] at h
      cases h
      rw [start, if_pos (by omega)]
      refine ⟨fun ops' ws' L' C' e => ?_, fun f p e => by cases e⟩
      cases e
      exact ⟨S, rfl, hB, ⟨by show rk k < r; omega, hO.2.1, hO.2.2⟩, rfl, Nat.le_refl _⟩
theorem red133 {d b t nc : Nat} (T : Tv tk pl nt) (hS : SM tk pl vl wi nm nt m N s0) (hN : 13002 < N) (ht : t ≤ nt + 1) (hW : W + 30 < 2000) (hF : F + 30 < 2000) (hb : 13000 ≤ b ∧ b + 100 < 33000) (hnc : nc ≤ b) :
    ∀ (ops : List (Nat × Nat)) (ws : List Nat) (L : List aop) (CC n x : Nat) (S : ms) (q : Sum (Nat × Nat) (List (Nat × Nat) × List Nat × List aop × Nat)), Bg m s0 s la0 nc0 W F C0 S t ops ws L CC nc → opS ops x → x ≤ 11 → ops.length < n → la0 + L.length + ops.length ≤ 12500 → eRed 1 ops ws L CC = some q →
      (∀ ops' ws' L' C', q = .inr (ops', ws', L', C') → ∃ w S', ws' = [w] ∧ hd_M_binary_133 N (sg_M_exp N d).1 (sg_M_exp N d).2.1 (sg_M_exp N d).2.2.1 (sg_M_exp N d).2.2.2.1 (sg_M_exp N d).2.2.2.2 n (nI F) S = some (nI w, S') ∧ Pg m s0 s la0 nc0 W F C0 S' t L' C' nc W F ∧ 1 ≤ w ∧ w ≤ 64 ∧ L'.length = L.length + ops.length ∧ C' ≤ CC + 4200 * ops.length)
      ∧ (∀ f p, q = .inl (f, p) → ∃ v S', hd_M_binary_133 N (sg_M_exp N d).1 (sg_M_exp N d).2.1 (sg_M_exp N d).2.2.1 (sg_M_exp N d).2.2.2.1 (sg_M_exp N d).2.2.2.2 n (nI F) S = some (v, S') ∧ ∃ b', b' ≤ b + 30 ∧ Zg m s0 s la0 nc0 W F S' f p b' W F) := by
  have l1 := T.2.1
  intro ops
  induction ops with
  | nil =>
    intro ws L CC n x S q hB hO hx hn hl h
    obtain ⟨n, rfl⟩ : ∃ n', n = n' + 1 := ⟨n - 1, by omega⟩
    cases h
    refine ⟨fun ops' ws' L' C' e => ?_, fun f p e => by cases e⟩
    cases e
    obtain ⟨hP, hw, -, hlen⟩ := hB
    match ws, hw, hlen, hP with
    | [], hw, hlen, hP => simp at hlen
    | a :: b :: ws, hw, hlen, hP => simp at hlen
    | [w], hw, hlen, hP =>
      obtain ⟨a1, a2, a3, a4, a5, a6, a7⟩ := hP
      obtain ⟨x1, x2, x3, x4, x5, x6, x7, x8, x9, x10, x11, x12, x13⟩ := id a5
      have e1 : S.1 51 0 = nI F := x11
      have e2 : S.1 53 0 = nI (W + 1) := x9
      have e3 : S.1 52 W = nI w := hw.1
      refine ⟨w, upI S 53 (fun _ => nI W), rfl, ?_, ⟨a1.upI (by decide), a2.trans (la' := la0) (nc' := nc0) (W' := W) (F' := F) (Lo.of (ks := [53]) (Eb.rfl.upI (by decide)) (by decide)) (Nat.le_refl _) (Nat.le_refl _) (Nat.le_refl _) (Nat.le_refl _), a3, a4, ⟨x1, x2, x3, x4, x5, x6, x7, x8, rfl, by omega, x11, by omega, x13⟩, a6, a7⟩, hw.2.1, hw.2.2.1, by simp, by omega⟩
      show bd_M_binary_133 N _ _ _ _ _ (hd_M_binary_133 N _ _ _ _ _ n) (nI F) S = _
      unfold bd_M_binary_133
      rw [e1, if_pos (nI_le (Nat.le_refl _) (by omega)), e2, nI_pred, if_neg (nI_in (show W < 4096 by omega) (by decide)), nI_clamp (by omega), e3]
  | cons o ops ih =>
    intro ws L CC n x S q hB hO hx hn hl h
    obtain ⟨k, p0⟩ := o
    obtain ⟨n, rfl⟩ : ∃ n', n = n' + 1 := ⟨n - 1, by omega⟩
    obtain ⟨hP, hw, ⟨o1, o2, o3, o4⟩, hlen⟩ := id hB
    have oplen : ops.length < 11 := by
      rcases opS.len hO with z | z
      · simp at z; omega
      · cases z
    have x11 : S.1 51 0 = nI (F + ops.length + 1) := hP.2.2.2.2.1.2.2.2.2.2.2.2.2.2.2.1
    have kl := isB_lt o3
    have rl := rk_lt k
    have r0 : 0 < rk k := hO.2.1
    dsimp only at o1 o2 o3
    have start : hd_M_binary_133 N (sg_M_exp N d).1 (sg_M_exp N d).2.1 (sg_M_exp N d).2.2.1 (sg_M_exp N d).2.2.2.1 (sg_M_exp N d).2.2.2.2 (n + 1) (nI F) S = (fn_M_reckon N S).bind (fun q_5 => hd_M_binary_133 N (sg_M_exp N d).1 (sg_M_exp N d).2.1 (sg_M_exp N d).2.2.1 (sg_M_exp N d).2.2.2.1 (sg_M_exp N d).2.2.2.2 n (nI F) q_5.2) := by
      show bd_M_binary_133 N _ _ _ _ _ (hd_M_binary_133 N _ _ _ _ _ n) (nI F) S = _
      unfold bd_M_binary_133 bk_M_binary_145
      rw [x11, if_neg (nI_ge (by omega) (by omega))]
    unfold eRed at h
    rw [if_pos (by omega)] at h
    rw [start]
    match ws, hw, hlen, h, hP, hB with
    | [], hw, hlen, h, hP, hB => simp at hlen
    | [w], hw, hlen, h, hP, hB => simp at hlen
    | bb :: a :: ws, hw, hlen, h, hP, hB =>
      obtain ⟨w1, w2, w3, w4, w5, w6, w7⟩ := hw
      simp only [List.length_cons] at w1 hlen hl hP ⊢
      have wl : ws.length = ops.length := by omega
      obtain ⟨r1, r2⟩ := Pg.reck (k := k) (a := a) (b := bb) (W' := W + ws.length) (F' := F + ops.length) hS hP (by omega) (by omega) o3 w6 w3 o1 w4 (by rw [← w1]; congr 1)
      by_cases g : bAny k = true ∨ a = bb
      · dsimp only at h
        rw [if_pos g] at h
        obtain ⟨S1, b1, b2, b3, b4, b5⟩ := r1 g
        rw [b1, obind]
        have B1 : Bg m s0 s la0 nc0 W F C0 S1 t ops (bMade k a :: ws) (L ++ [(5, k, a)]) (CC + bCost k a bb) nc := by
          refine ⟨b2, ⟨?_, (bMade_in w5 w6).1, (bMade_in w5 w6).2, ?_⟩, ?_, by simp; omega⟩
          · rw [b3, upd_at]
          · exact w7.mono (fun i hi => by rw [b3, upd_ne (by omega)])
          · exact o4.mono (fun i hi => ⟨by rw [b4], by rw [b5]⟩)
        obtain ⟨i1, i2⟩ := ih _ _ _ n (rk k) S1 q B1 hO.2.2 (by omega) (by simp at hn; omega) (by simp; omega) h
        have bc := bCost_le (k := k) w6 w3
        refine ⟨fun ops' ws' L' C' e => ?_, i2⟩
        obtain ⟨w, S', j1, j2, j3, j4, j5, j6, j7⟩ := i1 _ _ _ _ e
        exact ⟨w, S', j1, j2, j3, j4, j5, by rw [j6]; simp; omega, by omega⟩
      · dsimp only at h
        rw [if_neg g] at h
        cases h
        refine ⟨fun ops' ws' L' C' e => (by cases e), fun f p e => ?_⟩
        cases e
        obtain ⟨S1, b1, b2⟩ := r2 g p0 b o2 (by omega) (by omega) hnc
        rw [b1, obind]
        rw [wl] at b2
        obtain ⟨v, S', c1, c2⟩ := Zg.all (S := S1) (b := b) (d := d) hS ops.length n S1 b b2 (by omega) (by simp at hn; omega) (by omega) (by omega)
        exact ⟨v, S', c1, _, by omega, c2⟩
end MBIN
