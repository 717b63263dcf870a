/-! All exps of the reference. -/
section MALL
variable {tk pl vl wi : Nat → Nat} {nm : Nat → Option (Nat × Nat)} {nt m N N0 : Nat} {s0 s : ms} {la0 nc0 W F C0 : Nat}
theorem bin_M {d : Nat} (T : Tv tk pl nt) (hS : SM tk pl vl wi nm nt m N s0) (hN : 13002 < N) (hN0 : N = N0 + 1) (hd2 : ∀ t q, (eG tk pl vl wi nm nt N0 d).2.2.1 t = some q → 2 ≤ d)
    (iO : ∀ s t la nc W F C, SE s0 s → Xm s 0 t la nc W F → s.2 45 m = lN C → Bd nt t la nc C → W + 3 * d ≤ 1505 → F + 3 * d ≤ 1505 → Ex m nt (13000 + 20 * d) s0 s t la nc W F C ((sg_M_exp N d).2.2.1 s) ((eG tk pl vl wi nm nt N0 d).2.2.1 t)) (hd : d ≤ 400) :
    ∀ s t la nc W F C, SE s0 s → Xm s 0 t la nc W F → s.2 45 m = lN C → Bd nt t la nc C → W + 3 * (d + 1) + 3 ≤ 1500 → F + 3 * (d + 1) + 3 ≤ 1500 → Ex m nt (13000 + 20 * (d + 1) + 15) s0 s t la nc W F C ((sg_M_exp N (d + 1)).2.1 s) ((eG tk pl vl wi nm nt N0 (d + 1)).2.1 t) := by
  intro s t0 la nc W F C e hX hC hB hW hF q hq
  have l1 := T.2.1
  obtain ⟨j1, j2, j3, j4, j5⟩ := id hB
  have hq : eBin tk pl nt N0 (eG tk pl vl wi nm nt N0 d).2.2.1 t0 = some q := hq
  unfold eBin at hq
  show ∃ v s', fb_M_binary N _ _ _ _ _ s = _ ∧ _
  unfold fb_M_binary
  have P0 : Pg m s0 s la nc W F C s t0 [] 0 nc W F := Pg.start e hX hC
  have x51 : s.1 51 0 = nI F := hX.2.2.2.2.2.2.2.2.2.2.1
  rw [x51]
  have E0 := iO s t0 _ nc W F _ P0.1 P0.2.2.2.2.1 P0.2.2.2.2.2.2 ⟨by omega, by omega, by simp; omega, by omega, by omega⟩ (by omega) (by omega)
  -- the loop
  have loop : ∀ (n : Nat) (ops : List (Nat × Nat)) (ws : List Nat) (L : List aop) (CC t nc' x : Nat) (S : ms), Bg m s0 s la nc W F C S t ops ws L CC nc' → opS ops x → x ≤ 11 → t0 + L.length + ops.length ≤ t → t0 < t → t ≤ nt + 1 → CC + 4200 * ops.length + 5000 * t0 ≤ 5000 * t → nc' ≤ t → 2 ≤ d → eBl tk pl nt (eG tk pl vl wi nm nt N0 d).2.2.1 n ops ws L CC t = some q → ∃ v s', hd_M_binary_13 N (sg_M_exp N d).1 (sg_M_exp N d).2.1 (sg_M_exp N d).2.2.1 (sg_M_exp N d).2.2.2.1 (sg_M_exp N d).2.2.2.2 (n + 1) (nI F) S = some (v, s') ∧ SE s0 s' ∧ Lo m s s' la nc W F ∧ XPo m nt (13000 + 20 * (d + 1) + 15) t0 la nc W F C v s' q := by
    intro n
    induction n with
    | zero => intro ops ws L CC t nc' x S _ _ _ _ _ _ _ _ _ h; cases h
    | succ n ih =>
      intro ops ws L CC t nc' x S hB hO hx g1 g2 g3 g4 g5 d2 h
      unfold eBl at h
      by_cases c0 : nt ≤ t
      · rw [if_pos c0] at h; cases h
      rw [if_neg c0] at h
      have kv := T.lt (show t < nt by omega)
      have oplen : ops.length < 11 := by
        rcases opS.len hO with z | z
        · omega
        · rw [z]; simp
      show ∃ v s', bd_M_binary_13 N _ _ _ _ _ (hd_M_binary_13 N _ _ _ _ _ (n + 1)) (nI F) S = some (v, s') ∧ _
      unfold bd_M_binary_13
      rw [if_pos hB.1.nine, kind_M (hS.mono hB.1.1) hB.1.2.2.2.2.1 (by omega), obind]
      dsimp only
      have rl := rk_lt (tk t)
      rw [rank_1 kv, obind]
      dsimp only
      by_cases c1 : 0 < rk (tk t)
      · rw [if_pos c1] at h
        rw [if_neg (nI_nle c1 (by omega)), kind_M (hS.mono hB.1.1) hB.1.2.2.2.2.1 (by omega), obind]
        dsimp only
        rw [rank_1 kv, obind]
        dsimp only
        have t1n := T.more (show t < nt by omega) rfl (rk_ne c1).1 (rk_ne c1).2
        match hr : eRed (rk (tk t)) ops ws L CC, h with
        | none, h => cases h
        | some (.inl f), h =>
          obtain ⟨r1, r2⟩ := red38 (d := d) (n0 := n) (b := 13000 + 20 * d) d2 T hS hN c1 (by omega) g3 (by omega) (by omega) ⟨by omega, by omega⟩ (by omega) ops ws L CC N x S _ hB hO hx (by omega) (by omega) hr
          obtain ⟨v, S', z1, b', z2, z3⟩ := r2 f.1 f.2 rfl
          rw [z1]
          cases h
          exact z3.done rfl (by omega)
        | some (.inr y), h =>
          obtain ⟨r1, r2⟩ := red38 (d := d) (n0 := n) (b := 13000 + 20 * d) d2 T hS hN c1 (by omega) g3 (by omega) (by omega) ⟨by omega, by omega⟩ (by omega) ops ws L CC N x S _ hB hO hx (by omega) (by omega) hr
          obtain ⟨S1, z1, z2, z3, z4, z5⟩ := r1 y.1 y.2.1 y.2.2.1 y.2.2.2 rfl
          rw [z1]
          obtain ⟨ops', ws', L', C'⟩ := y
          dsimp only at z1 z2 z3 z4 z5 h
          have oplen' : ops'.length < 10 := by
            rcases opS.len z3 with z | z
            · omega
            · rw [z]; simp
          have wslen' := z2.2.2.2
          unfold bk_M_binary_71
          rw [kind_M (hS.mono z2.1.1) z2.1.2.2.2.2.1 (by omega), obind]
          dsimp only
          have y51 : S1.1 51 0 = nI (F + ops'.length) := z2.1.2.2.2.2.1.2.2.2.2.2.2.2.2.2.2.1
          have y5 : S1.1 5 t = nI (pl t) := by rw [z2.1.1.1 5 (by decide)]; exact (hS.2.2.1 _ (by omega)).2
          rw [y51, z2.1.eight, if_neg (nI_in (show F + ops'.length < 4096 by omega) (by decide)), if_neg (nI_in (show t < 65540 by omega) (by decide)), if_neg (nI_in (show F + ops'.length < 4096 by omega) (by decide)), nI_clamp (by omega), nI_clamp (by omega), nI_1, nI_1, y5]
          obtain ⟨⟨a1, a2, a3, a4, a5, a6, a7⟩, b2, b3, b4⟩ := z2
          obtain ⟨x1, x2, x3, x4, x5, x6, x7, x8, x9, x10, x11, x12, x13⟩ := id a5
          have P2 : Pg m s0 s la nc W F C (upI (upI (upI (upI S1 49 (upd (S1.1 49) (F + ops'.length) (nI (tk t)))) 50 (upd (S1.1 50) (F + ops'.length) (nI (pl t)))) 51 (fun _ => nI (F + ops'.length + 1))) 8 (fun _ => nI (t + 1))) (t + 1) L' C' nc' (W + ws'.length) (F + (ops'.length + 1)) :=
            ⟨(((a1.upI (by decide)).upI (by decide)).upI (by decide)).upI (by decide), a2.trans (la' := la) (nc' := nc) (W' := W) (F' := F) ⟨fun _ _ => rfl, fun _ _ => rfl, fun k hk => ⟨upd_ne (by omega), upd_ne (by omega)⟩, fun _ _ => rfl, fun _ _ => rfl⟩ (Nat.le_refl _) (Nat.le_refl _) (Nat.le_refl _) (Nat.le_refl _), a3, a4, ⟨x1, x2, rfl, by omega, x5, x6, x7, x8, x9, x10, rfl, by omega, x13⟩, a6, a7⟩
          have E := iO _ (t + 1) _ nc' _ _ _ P2.1 P2.2.2.2.2.1 P2.2.2.2.2.2.2 ⟨by omega, by omega, by omega, by omega, by omega⟩ (by omega) (by omega)
          rcases xb_some h with ⟨f, p', r3, rfl⟩ | ⟨w, t2, L2, C2, r3, h⟩
          · obtain ⟨v, S3, q1, q2, -⟩ := P2.sub E r3 (by omega) (by omega)
            have Z := q2 f p' rfl
            have q1' := q1
            rw [q1', obind]
            unfold bk_M_binary_127
            dsimp only
            obtain ⟨S4, c1, c2⟩ := Z.pushW (N := N) (v := v) (by omega) (by omega)
            rw [c1, obind]
            obtain ⟨v5, S5, d1, d2⟩ := Zg.loop13 (q := ops'.length + 1) (d := d) (n := n) hS hN (by rw [show W + (ops'.length + 1) + 1 = W + ws'.length + 1 by omega]; exact c2) (by omega) (by omega) (by omega) (by omega)
            dsimp only
            rw [d1]
            exact d2.done rfl (by omega)
          · obtain ⟨v, S3, q1, -, q2⟩ := P2.sub E r3 (by omega) (by omega)
            obtain ⟨rfl, w1, w2, w3, w4, w5, w6, nc2, w7, w8⟩ := q2 _ _ _ _ rfl
            obtain ⟨v', S3', e1, -, e3, -⟩ := E _ r3
            have es : S3' = S3 := by rw [q1] at e1; cases e1; rfl
            subst es
            rw [q1, obind]
            unfold bk_M_binary_127
            dsimp only
            obtain ⟨S4, y1, y2, y3, y4⟩ := pushW_M (N := N) (w := nI w) w7.2.2.2.2.1 (by omega)
            rw [y1, obind]
            dsimp only
            refine ih ((tk t, pl t) :: ops') (w :: ws') (L' ++ L2) (C' + C2) t2 nc2 (rk (tk t) + 1) S4 ?_ ⟨by show rk (tk t) < rk (tk t) + 1; omega, c1, z3⟩ (by omega) (by simp; omega) (by omega) (by omega) (by simp; omega) (by omega) d2 h
            obtain ⟨f1, f2, f3, f4, f5, f6, f7⟩ := w7
            refine ⟨⟨f1.trans (y4.mono (by decide) (by decide)), f2.trans (la' := la) (nc' := nc) (W' := W) (F' := F) ⟨fun k _ => by rw [y4.1 41 (by decide)], fun k _ => by rw [y4.2 43 (by decide)], fun k _ => ⟨by rw [y4.1 49 (by decide)], by rw [y4.1 50 (by decide)]⟩, fun k hk => by rw [y3, upd_ne (by omega)], fun k _ => by rw [y4.2 45 (by decide)]⟩ (Nat.le_refl _) (Nat.le_refl _) (Nat.le_refl _) (Nat.le_refl _), f3, f4, y2, ?_, by rw [y4.2 45 (by decide)]; exact f7⟩, ⟨?_, w1, w2, ?_⟩, ⟨?_, ?_, isB_of c1, ?_⟩, by simp; omega⟩
            · rw [y4.1 41 (by decide), y4.2 43 (by decide)]; exact f6
            · rw [y3, upd_at]
            · refine b2.mono (fun k hk => ?_)
              rw [y3, upd_ne (by omega), e3.2.2.2.1 k hk]; rfl
            · rw [y4.1 49 (by decide), (e3.2.2.1 _ (by omega)).1]
              exact upd_at _ _ _
            · rw [y4.1 50 (by decide), (e3.2.2.1 _ (by omega)).2]
              exact upd_at _ _ _
            · refine b3.mono (fun k hk => ?_)
              rw [y4.1 49 (by decide), y4.1 50 (by decide), (e3.2.2.1 k (by omega)).1, (e3.2.2.1 k (by omega)).2]
              exact ⟨upd_ne (by omega), upd_ne (by omega)⟩
      · rw [if_neg c1] at h
        rw [if_pos (show nI (rk (tk t)) ≤ 0 by rw [show rk (tk t) = 0 by omega]; decide)]
        match hr : eRed 1 ops ws L CC, h with
        | none, h => cases h
        | some (.inl f), h =>
          obtain ⟨r1, r2⟩ := red133 (d := d) (b := 13000 + 20 * d) T hS hN g3 (by omega) (by omega) ⟨by omega, by omega⟩ (by omega) ops ws L CC N x S _ hB hO hx (by omega) (by omega) hr
          obtain ⟨v, S', z1, b', z2, z3⟩ := r2 f.1 f.2 rfl
          rw [z1]
          cases h
          exact z3.done rfl (by omega)
        | some (.inr y), h =>
          obtain ⟨r1, r2⟩ := red133 (d := d) (b := 13000 + 20 * d) T hS hN g3 (by omega) (by omega) ⟨by omega, by omega⟩ (by omega) ops ws L CC N x S _ hB hO hx (by omega) (by omega) hr
          obtain ⟨w, S1, z1, z2, z3, z4, z5, z6, z7⟩ := r1 y.1 y.2.1 y.2.2.1 y.2.2.2 rfl
          rw [z2]
          dsimp only at h
          rw [z1] at h
          unfold xok at h
          cases h
          exact z3.done (t := t0) (nt := nt) rfl z4 z5 (by omega) (by omega) (by omega) (by omega)
  rcases xb_some hq with ⟨f, p', r1, rfl⟩ | ⟨w, t2, L2, C2, r1, hq⟩
  · obtain ⟨v, S1, a1, a2, -⟩ := P0.sub E0 r1 (Nat.le_refl _) (Nat.le_refl _)
    have Z := a2 f p' rfl
    rw [a1, obind]
    unfold bk_M_binary_10
    dsimp only
    obtain ⟨S2, b1, b2⟩ := Z.pushW (N := N) (v := v) (by omega) (by omega)
    rw [b1, obind]
    obtain ⟨v5, S5, d1, d2⟩ := Zg.loop13 (q := 0) (d := d) (n := N0) hS hN b2 (by omega) (by omega) (by omega) (by omega)
    rw [← hN0] at d1
    dsimp only
    rw [d1]
    exact d2.done rfl (by omega)
  · obtain ⟨v, S1, a1, -, a2⟩ := P0.sub E0 r1 (Nat.le_refl _) (Nat.le_refl _)
    obtain ⟨rfl, w1, w2, w3, w4, w5, w6, nc2, w7, w8⟩ := a2 _ _ _ _ rfl
    simp only [List.nil_append, Nat.zero_add] at w7
    rw [a1, obind]
    unfold bk_M_binary_10
    dsimp only
    obtain ⟨S4, y1, y2, y3, y4⟩ := pushW_M (N := N) (w := nI w) w7.2.2.2.2.1 (by omega)
    rw [y1, obind]
    dsimp only
    obtain ⟨f1, f2, f3, f4, f5, f6, f7⟩ := w7
    have B0 : Bg m s0 s la nc W F C S4 t2 [] [w] L2 C2 nc2 := by
      refine ⟨⟨f1.trans (y4.mono (by decide) (by decide)), f2.trans (la' := la) (nc' := nc) (W' := W) (F' := F) ⟨fun k _ => by rw [y4.1 41 (by decide)], fun k _ => by rw [y4.2 43 (by decide)], fun k _ => ⟨by rw [y4.1 49 (by decide)], by rw [y4.1 50 (by decide)]⟩, fun k hk => by rw [y3, upd_ne (by omega)], fun k _ => by rw [y4.2 45 (by decide)]⟩ (Nat.le_refl _) (Nat.le_refl _) (Nat.le_refl _) (Nat.le_refl _), f3, f4, y2, ?_, by rw [y4.2 45 (by decide)]; exact f7⟩, ⟨?_, w1, w2, trivial⟩, trivial, rfl⟩
      · rw [y4.1 41 (by decide), y4.2 43 (by decide)]; exact f6
      · rw [y3]; exact upd_at _ _ _
    obtain ⟨v, s', a1, a2⟩ := loop N0 [] [w] L2 C2 t2 nc2 11 S4 B0 trivial (by omega) (by simp; omega) (by omega) (by omega) (by simp; omega) (by omega) (hd2 _ _ r1) hq
    exact ⟨v, s', by rw [← a1, hN0], a2⟩
theorem Ex.mono {b b' : Nat} {s0 s : ms} {t la nc W F C : Nat} {o : Option (Int32 × ms)} {r : xr} (h : Ex m nt b s0 s t la nc W F C o r) (hb : b ≤ b') : Ex m nt b' s0 s t la nc W F C o r := fun q hq => by
  obtain ⟨v, s', a1, a2, a3, a4⟩ := h q hq
  refine ⟨v, s', a1, a2, a3, ?_⟩
  match q, a4 with
  | .inl (f, p'), a4 => exact a4.fault hb (Nat.le_refl _) (Nat.le_refl _)
  | .inr (w', t', L', C'), a4 => exact ⟨fun _ _ z => (by cases z), a4.2⟩
/-- how deep the functions go at least -/
theorem eG_deep : ∀ d, (∀ t q, (eG tk pl vl wi nm nt N0 d).2.2.2.1 t = some q → 1 ≤ d) ∧ (∀ t q, (eG tk pl vl wi nm nt N0 d).2.2.1 t = some q → 2 ≤ d) ∧ (∀ t q, (eG tk pl vl wi nm nt N0 d).2.1 t = some q → 3 ≤ d) ∧ (∀ t q, (eG tk pl vl wi nm nt N0 d).1 t = some q → 4 ≤ d) := by
  intro d
  have xbn : ∀ (r : xr) k q, xb r k = some q → ∃ q', r = some q' := by
    intro r k q h
    rcases xb_some h with ⟨f, p, e, -⟩ | ⟨w, t, L, C, e, -⟩ <;> exact ⟨_, e⟩
  have xol : ∀ (eP : Nat → xr) t0 n t q, eOl tk nt eP t0 n t = some q → ∃ t' q', eP t' = some q' := by
    intro eP t0 n
    induction n with
    | zero => intro t q h; cases h
    | succ n ih =>
      intro t q h
      unfold eOl at h
      split at h
      · cases h
      · split at h
        · exact ih _ _ h
        · obtain ⟨q', e⟩ := xbn _ _ _ h
          exact ⟨_, q', e⟩
  induction d with
  | zero => exact ⟨fun t q h => (by cases h), fun t q h => (by cases h), fun t q h => (by cases h), fun t q h => (by cases h)⟩
  | succ d ih =>
    obtain ⟨i1, i2, i3, i4⟩ := ih
    refine ⟨fun t q h => by omega, fun t q h => ?_, fun t q h => ?_, fun t q h => ?_⟩
    · obtain ⟨t', q', e⟩ := xol _ _ _ _ _ h
      have := i1 _ _ e; omega
    · have h : eBin tk pl nt N0 (eG tk pl vl wi nm nt N0 d).2.2.1 t = some q := h
      unfold eBin at h
      obtain ⟨q', e⟩ := xbn _ _ _ h
      have := i2 _ _ e; omega
    · have h : eX1 tk pl (eG tk pl vl wi nm nt N0 d).1 (eG tk pl vl wi nm nt N0 d).2.1 t = some q := h
      unfold eX1 at h
      obtain ⟨q', e⟩ := xbn _ _ _ h
      have := i3 _ _ e; omega
/-- all exps -/
theorem exps_M (T : Tv tk pl nt) (hS : SM tk pl vl wi nm nt m N s0) (hN : 13002 < N) (hN0 : N = N0 + 1) : ∀ d, d ≤ 400 →
    (∀ s t la nc W F C, SE s0 s → Xm s 0 t la nc W F → s.2 45 m = lN C → Bd nt t la nc C → W + 3 * d ≤ 1500 → F + 3 * d ≤ 1500 → Ex m nt (13000 + 20 * d) s0 s t la nc W F C ((sg_M_exp N d).1 s) ((eG tk pl vl wi nm nt N0 d).1 t)) ∧
    (∀ s t la nc W F C, SE s0 s → Xm s 0 t la nc W F → s.2 45 m = lN C → Bd nt t la nc C → W + 3 * d + 3 ≤ 1500 → F + 3 * d + 3 ≤ 1500 → Ex m nt (13000 + 20 * d + 15) s0 s t la nc W F C ((sg_M_exp N d).2.1 s) ((eG tk pl vl wi nm nt N0 d).2.1 t)) ∧
    (∀ s t la nc W F C, SE s0 s → Xm s 0 t la nc W F → s.2 45 m = lN C → Bd nt t la nc C → W + 3 * d ≤ 1505 → F + 3 * d ≤ 1505 → Ex m nt (13000 + 20 * d) s0 s t la nc W F C ((sg_M_exp N d).2.2.1 s) ((eG tk pl vl wi nm nt N0 d).2.2.1 t)) ∧
    (∀ s t la nc W F C, t < nt → SE s0 s → Xm s 0 t la nc W F → s.2 45 m = lN C → Bd nt t la nc C → W + 3 * d ≤ 1502 → F + 3 * d ≤ 1502 → Ex m nt (13000 + 20 * d) s0 s t la nc W F C ((sg_M_exp N d).2.2.2.1 s) ((eG tk pl vl wi nm nt N0 d).2.2.2.1 t)) ∧
    (∀ s t la nc W F C p, SE s0 s → Xm s 0 t la nc W F → s.2 45 m = lN C → Bd nt t la nc C → W + 3 * d ≤ 1501 → F + 3 * d ≤ 1501 → Ex m nt (13000 + 20 * d) s0 s t la nc W F C ((sg_M_exp N d).2.2.2.2 (nI p) s) ((eG tk pl vl wi nm nt N0 d).2.2.2.2 p t)) := by
  intro d
  induction d with
  | zero => intro _; exact ⟨fun _ _ _ _ _ _ _ _ _ _ _ _ _ => Ex.no, fun _ _ _ _ _ _ _ _ _ _ _ _ _ => Ex.no, fun _ _ _ _ _ _ _ _ _ _ _ _ _ => Ex.no, fun _ _ _ _ _ _ _ _ _ _ _ _ _ _ => Ex.no, fun _ _ _ _ _ _ _ _ _ _ _ _ _ _ => Ex.no⟩
  | succ d ih =>
    intro hd
    obtain ⟨iE, iB, iO, iP, iR⟩ := ih (by omega)
    refine ⟨?_, ?_, oper_M T hS hN hN0 iP (by omega), prim_M T hS hN iE iR (by omega), braces_M T hS hN hN0 iE (by omega)⟩
    · exact exp_M T hS hN iE iB (eG_deep d).2.2.2 (by omega)
    · intro s t la nc W F C h1 h2 h3 h4 h5 h6
      exact (bin_M T hS hN hN0 (eG_deep d).2.1 iO (by omega) s t la nc W F C h1 h2 h3 h4 h5 h6).mono (by omega)
theorem exp_ok (T : Tv tk pl nt) (hS : SM tk pl vl wi nm nt m N s0) (hN : 13002 < N) (hN0 : N = N0 + 1) {s : ms} {t la nc C : Nat} (e : SE s0 s) (hX : Xm s 0 t la nc 0 0) (hC : s.2 45 m = lN C) (hB : Bd nt t la nc C) : Ex m nt 21000 s0 s t la nc 0 0 C (fn_M_exp N s) (eE tk pl vl wi nm nt N0 t) := (exps_M T hS hN hN0 400 (by omega)).1 s t la nc 0 0 C e hX hC hB (by omega) (by omega)
end MALL
