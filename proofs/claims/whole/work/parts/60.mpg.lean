/-! On the way through an exp of the reference: what is told so far (Pg), or a fault (Zg). -/
section MPG
variable {tk pl vl wi : Nat → Nat} {nm : Nat → Option (Nat × Nat)} {nt m N N0 : Nat} {s0 s : ms} {la0 nc0 W F C0 : Nat}
def Pg (m : Nat) (s0 s : ms) (la0 nc0 W F C0 : Nat) (S : ms) (t : Nat) (L : List aop) (CC nc W' F' : Nat) : Prop :=
  SE s0 S ∧ Lo m s S la0 nc0 W F ∧ nc0 ≤ nc ∧ nc ≤ nc0 + L.length ∧ Xm S 0 t (la0 + L.length) nc W' F' ∧ rEnc (S.1 41) (S.2 43) nc la0 L ∧ S.2 45 m = lN (C0 + CC)
def Zg (m : Nat) (s0 s : ms) (la0 nc0 W F : Nat) (S : ms) (f p b W' F' : Nat) : Prop :=
  SE s0 S ∧ Lo m s S la0 nc0 W F ∧ 0 < f ∧ S.1 10 0 = nI p ∧ ∃ t la nc, Xm S f t la nc W' F' ∧ t ≤ b ∧ la ≤ b ∧ nc ≤ b ∧ la0 ≤ la ∧ nc0 ≤ nc
theorem Pg.start {t : Nat} (e : SE s0 s) (h : Xm s 0 t la0 nc0 W F) (hC : s.2 45 m = lN C0) : Pg m s0 s la0 nc0 W F C0 s t [] 0 nc0 W F := ⟨e, Lo.refl, Nat.le_refl _, by simp, by simpa using h, rEnc.nil, by simpa using hC⟩
theorem Pg.tset {S : ms} {t t' CC nc W' F' : Nat} {L : List aop} {x : Int32} (h : Pg m s0 s la0 nc0 W F C0 S t L CC nc W' F') (hx : x = nI t') (ht : t' < 33000) : Pg m s0 s la0 nc0 W F C0 (upI S 8 (fun _ => x)) t' L CC nc W' F' := by
  obtain ⟨a1, a2, a3, a4, a5, a6, a7⟩ := h
  exact ⟨a1.upI (by decide), a2.trans (la' := la0) (nc' := nc0) (W' := W) (F' := F) (Lo.of (ks := [8]) (Eb.rfl.upI (by decide)) (by decide)) (Nat.le_refl _) (Nat.le_refl _) (Nat.le_refl _) (Nat.le_refl _), a3, a4, a5.tset hx ht, a6, a7⟩
theorem Zg.tset {S : ms} {f p b t' W' F' : Nat} {x : Int32} (h : Zg m s0 s la0 nc0 W F S f p b W' F') (hx : x = nI t') (ht : t' < 33000) (hb : t' ≤ b) : Zg m s0 s la0 nc0 W F (upI S 8 (fun _ => x)) f p b W' F' := by
  obtain ⟨a1, a2, a3, a4, t, la, nc, a5, a6, a7, a8, a9, a10⟩ := h
  exact ⟨a1.upI (by decide), a2.trans (la' := la0) (nc' := nc0) (W' := W) (F' := F) (Lo.of (ks := [8]) (Eb.rfl.upI (by decide)) (by decide)) (Nat.le_refl _) (Nat.le_refl _) (Nat.le_refl _) (Nat.le_refl _), a3, a4, t', la, nc, a5.tset hx ht, hb, a7, a8, a9, a10⟩
theorem Zg.mono {S : ms} {f p b b' W' F' : Nat} (h : Zg m s0 s la0 nc0 W F S f p b W' F') (hb : b ≤ b') : Zg m s0 s la0 nc0 W F S f p b' W' F' := by
  obtain ⟨a1, a2, a3, a4, t, la, nc, a5, a6, a7, a8, a9, a10⟩ := h
  exact ⟨a1, a2, a3, a4, t, la, nc, a5, by omega, by omega, by omega, a9, a10⟩
theorem Pg.cost {S : ms} {t CC nc W' F' n : Nat} {L : List aop} (hS : SM tk pl vl wi nm nt m N s0) (h : Pg m s0 s la0 nc0 W F C0 S t L CC nc W' F') : ∃ S', fn_M_cost N (lN n) S = some ((), S') ∧ Pg m s0 s la0 nc0 W F C0 S' t L (CC + n) nc W' F' := by
  obtain ⟨a1, a2, a3, a4, a5, a6, a7⟩ := h
  have c12 : S.1 12 0 = nI m := by rw [a1.1 12 (by decide)]; exact hS.1
  rw [cost_M c12 hS.2.1]
  refine ⟨_, rfl, a1.upJ (by decide), a2.trans (la' := la0) (nc' := nc0) (W' := W) (F' := F) (⟨fun _ _ => rfl, fun _ _ => rfl, fun _ _ => ⟨rfl, rfl⟩, fun _ _ => rfl, fun k hk => updL_ne hk⟩) (Nat.le_refl _) (Nat.le_refl _) (Nat.le_refl _) (Nat.le_refl _), a3, a4, a5.any (Eb.rfl.upJ (by decide)), a6, ?_⟩
  show vp_updL (S.2 45) m (S.2 45 m + lN n) m = _
  rw [updL_at, a7, lN_add]
  congr 1; omega
theorem Zg.cost {S : ms} {f p b W' F' : Nat} {n : Int64} (hS : SM tk pl vl wi nm nt m N s0) (h : Zg m s0 s la0 nc0 W F S f p b W' F') : ∃ S', fn_M_cost N n S = some ((), S') ∧ Zg m s0 s la0 nc0 W F S' f p b W' F' := by
  obtain ⟨a1, a2, a3, a4, t, la, nc, a5, a6⟩ := h
  have c12 : S.1 12 0 = nI m := by rw [a1.1 12 (by decide)]; exact hS.1
  rw [cost_M c12 hS.2.1]
  exact ⟨_, rfl, a1.upJ (by decide), a2.trans (la' := la0) (nc' := nc0) (W' := W) (F' := F) (⟨fun _ _ => rfl, fun _ _ => rfl, fun _ _ => ⟨rfl, rfl⟩, fun _ _ => rfl, fun k hk => updL_ne hk⟩) (Nat.le_refl _) (Nat.le_refl _) (Nat.le_refl _) (Nat.le_refl _), a3, a4, t, la, nc, a5.any (Eb.rfl.upJ (by decide)), a6⟩
/-- an op is laid: it is what rop asks for -/
theorem Pg.lay {S : ms} {t CC nc W' F' : Nat} {L : List aop} {a b c : Int32} {o : aop} (h : Pg m s0 s la0 nc0 W F C0 S t L CC nc W' F') (hl : la0 + L.length + 1 < 33000) (ho : ∀ (code : Nat → Int32) (j : Nat), code (3 * j) = a → code (3 * j + 1) = b → code (3 * j + 2) = c → rop code (S.2 43) nc j o) : ∃ S', fn_M_lay N a b c S = some ((), S') ∧ Pg m s0 s la0 nc0 W F C0 S' t (L ++ [o]) CC nc W' F' := by
  obtain ⟨a1, a2, a3, a4, a5, a6, a7⟩ := h
  obtain ⟨S', z1, z2, z3, z4⟩ := lay_M (N := N) (a := a) (b := b) (c := c) a5 hl
  have e43 : S'.2 43 = S.2 43 := z4.2 43 (by decide)
  refine ⟨S', z1, a1.trans (z4.mono (by decide) (by decide)), a2.trans (Lo.op (js := []) (nc := nc0) (W := W) (F := F) z3 z4) (by omega) (Nat.le_refl _) (Nat.le_refl _) (Nat.le_refl _), a3, by simp; omega, by simpa [Nat.add_assoc] using z2, ?_, by rw [z4.2 45 (by decide)]; exact a7⟩
  refine rEnc.app (a6.mono (fun k hk => z3.1 k hk) (fun k _ => by rw [e43]) (Nat.le_refl _)) (rEnc.one ?_)
  rw [e43]
  exact ho _ _ z3.2.1 z3.2.2.1 z3.2.2.2
theorem Zg.lay {S : ms} {f p b W' F' : Nat} {x y z : Int32} (h : Zg m s0 s la0 nc0 W F S f p b W' F') (hb : b + 1 < 33000) : ∃ S', fn_M_lay N x y z S = some ((), S') ∧ Zg m s0 s la0 nc0 W F S' f p (b + 1) W' F' := by
  obtain ⟨a1, a2, a3, a4, t, la, nc, a5, a6, a7, a8, a9, a10⟩ := h
  obtain ⟨S', z1, z2, z3, z4⟩ := lay_M (N := N) (a := x) (b := y) (c := z) a5 (by omega)
  exact ⟨S', z1, a1.trans (z4.mono (by decide) (by decide)), a2.trans (Lo.op (js := []) (nc := nc0) (W := W) (F := F) z3 z4) a9 (Nat.le_refl _) (Nat.le_refl _) (Nat.le_refl _), a3, by rw [z4.1 10 (by decide)]; exact a4, t, la + 1, nc, z2, by omega, by omega, by omega, by omega, a10⟩
theorem Pg.fail {S : ms} {t CC nc W' F' w p b : Nat} {L : List aop} (h : Pg m s0 s la0 nc0 W F C0 S t L CC nc W' F') (hw : 0 < w ∧ w < 100) (hb : t ≤ b ∧ la0 + L.length ≤ b ∧ nc ≤ b) : ∃ S', fn_M_fail N (nI w) (nI p) S = some ((), S') ∧ Zg m s0 s la0 nc0 W F S' w p b W' F' := by
  obtain ⟨a1, a2, a3, a4, a5, a6, a7⟩ := h
  obtain ⟨S', z1, z2, z3, z4⟩ := fail_M (N := N) (w := w) (y := nI p) a5 hw.2
  exact ⟨S', z1, a1.trans (z4.mono (by decide) (by decide)), a2.trans (la' := la0) (nc' := nc0) (W' := W) (F' := F) (Lo.of z4 (by decide)) (Nat.le_refl _) (Nat.le_refl _) (Nat.le_refl _) (Nat.le_refl _), hw.1, z3, t, _, nc, z2, hb.1, hb.2.1, hb.2.2, by omega, a3⟩
theorem Zg.fail {S : ms} {f p b W' F' : Nat} {x y : Int32} (h : Zg m s0 s la0 nc0 W F S f p b W' F') : fn_M_fail N x y S = some ((), S) := by
  obtain ⟨a1, a2, a3, a4, t, la, nc, a5, -⟩ := h
  exact failZ_M a5.1 a3 a5.2.1
theorem Zg.nine {S : ms} {f p b W' F' : Nat} (h : Zg m s0 s la0 nc0 W F S f p b W' F') : ¬ S.1 9 0 = 0 := by
  obtain ⟨a1, a2, a3, a4, t, la, nc, a5, -⟩ := h
  rw [a5.1]
  have := a5.2.1
  exact fun q => by have := (nI_eq (b := 0) (by omega) (by omega)).mp q; omega
theorem Pg.nine {S : ms} {t CC nc W' F' : Nat} {L : List aop} (h : Pg m s0 s la0 nc0 W F C0 S t L CC nc W' F') : S.1 9 0 = 0 := h.2.2.2.2.1.1
theorem Zg.eight {S : ms} {f p b W' F' : Nat} (h : Zg m s0 s la0 nc0 W F S f p b W' F') : ∃ t, S.1 8 0 = nI t ∧ t ≤ b := by
  obtain ⟨a1, a2, a3, a4, t, la, nc, a5, a6, -⟩ := h
  exact ⟨t, a5.2.2.1, a6⟩
theorem Pg.eight {S : ms} {t CC nc W' F' : Nat} {L : List aop} (h : Pg m s0 s la0 nc0 W F C0 S t L CC nc W' F') : S.1 8 0 = nI t := h.2.2.2.2.1.2.2.1
/-- an exp within: the ways on -/
theorem Pg.sub {S : ms} {t CC nc W' F' b : Nat} {L : List aop} {o : Option (Int32 × ms)} {r : xr} {q : Sum (Nat × Nat) (Nat × Nat × List aop × Nat)} (h : Pg m s0 s la0 nc0 W F C0 S t L CC nc W' F') (hE : Ex m nt b s0 S t (la0 + L.length) nc W' F' (C0 + CC) o r) (hr : r = some q) (hW : W ≤ W') (hF : F ≤ F') :
    ∃ v S', o = some (v, S') ∧ (∀ f p, q = .inl (f, p) → Zg m s0 s la0 nc0 W F S' f p b W' F') ∧ (∀ w t' L2 C2, q = .inr (w, t', L2, C2) → v = nI w ∧ 1 ≤ w ∧ w ≤ 64 ∧ t + L2.length ≤ t' ∧ t < t' ∧ t' ≤ nt + 1 ∧ C2 + 5000 * t ≤ 5000 * t' ∧ ∃ nc', Pg m s0 s la0 nc0 W F C0 S' t' (L ++ L2) (CC + C2) nc' W' F' ∧ nc' ≤ nc + L2.length) := by
  obtain ⟨a1, a2, a3, a4, a5, a6, a7⟩ := h
  obtain ⟨v, S', b1, b2, b3, b4⟩ := hE q hr
  refine ⟨v, S', b1, fun f p e => ?_, fun w t' L2 C2 e => ?_⟩
  · obtain ⟨c1, c2, t', la', nc', c3, c4, c5, c6, c7, c8⟩ := b4.1 f p e
    exact ⟨b2, a2.trans b3 (by omega) a3 hW hF, c1, c2, t', la', nc', c3, c4, c5, c6, by omega, by omega⟩
  · obtain ⟨c1, c2, c3, c4, c5, c6, c7, c8, nc', c9, c10, c11, c12⟩ := b4.2 _ _ _ _ e
    refine ⟨c1, c2, c3, c4, c5, c6, c7, nc', ⟨b2, a2.trans b3 (by omega) a3 hW hF, by omega, by simp; omega, by simpa [Nat.add_assoc] using c11, ?_, by rw [c8]; congr 1; omega⟩, c10⟩
    exact rEnc.app (a6.mono b3.1 b3.2.1 c9) c12
theorem Zg.exp {S : ms} {f p b W' F' d : Nat} (hd : 4 ≤ d) (hS : SM tk pl vl wi nm nt m N s0) (hN : 13002 < N) (h : Zg m s0 s la0 nc0 W F S f p b W' F') (hb : 13000 ≤ b) (hW' : W' + 1 < 2000) (hW : W ≤ W') (hF : F ≤ F') : ∃ v S', (sg_M_exp N d).1 S = some (v, S') ∧ Zg m s0 s la0 nc0 W F S' f p b W' F' := by
  obtain ⟨a1, a2, a3, a4, t, la, nc, a5, a6, a7, a8, a9, a10⟩ := h
  obtain ⟨v, S', t', b1, b2, b3, b4, b5, b6⟩ := expZ4 hd hS hN a1 a5 a3 hW'
  exact ⟨v, S', b1, b5, a2.trans b6 a9 a10 hW hF, a3, by rw [b4]; exact a4, t', la, nc, b2, by omega, a7, a8, a9, a10⟩
theorem Zg.is {S : ms} {f p b W' F' k : Nat} (h : Zg m s0 s la0 nc0 W F S f p b W' F') : fn_M_is N (nI k) S = some (0, S) := by
  obtain ⟨a1, a2, a3, a4, t, la, nc, a5, -⟩ := h
  exact isZ a5 a3
/-- the ends -/
theorem Zg.done {S : ms} {f p b b' t : Nat} {v : Int32} {o : Option (Int32 × ms)} (h : Zg m s0 s la0 nc0 W F S f p b W F) (ho : o = some (v, S)) (hb : b ≤ b') : ∃ v s', o = some (v, s') ∧ SE s0 s' ∧ Lo m s s' la0 nc0 W F ∧ XPo m nt b' t la0 nc0 W F C0 v s' (.inl (f, p)) := by
  obtain ⟨a1, a2, a3, a4, t', la, nc, a5, a6, a7, a8, a9, a10⟩ := h
  exact ⟨v, S, ho, a1, a2, XPo.mk a5 a3 a4 (by omega) (by omega) (by omega) a9 a10⟩
theorem Pg.done {S : ms} {t t' CC nc w b : Nat} {L : List aop} {o : Option (Int32 × ms)} (h : Pg m s0 s la0 nc0 W F C0 S t' L CC nc W F) (ho : o = some (nI w, S)) (h0 : 1 ≤ w) (h1 : w ≤ 64) (h2 : t + L.length ≤ t') (h3 : t < t') (h4 : t' ≤ nt + 1) (h5 : CC + 5000 * t ≤ 5000 * t') : ∃ v s', o = some (v, s') ∧ SE s0 s' ∧ Lo m s s' la0 nc0 W F ∧ XPo m nt b t la0 nc0 W F C0 v s' (.inr (w, t', L, CC)) := by
  obtain ⟨a1, a2, a3, a4, a5, a6, a7⟩ := h
  exact ⟨nI w, S, ho, a1, a2, XPo.ok h0 h1 h2 h3 h4 h5 a7 a3 a4 a5 a6⟩
/-! braces -/
theorem lgle {a b : Nat} (ha : a < 2 ^ 62) (hb : b < 2 ^ 62) : (lg_cmp (lN a) (lN b) ≤ 0) ↔ a ≤ b := by
  rw [lg_cmp_le, lN_le63 (by omega) (by omega)]
theorem bracesJ_M {d b : Nat} (T : Tv tk pl nt) (hS : SM tk pl vl wi nm nt m N s0) (hN : 13002 < N)
    (iE : ∀ s t la nc W F C, SE s0 s → Xm s 0 t la nc W F → s.2 45 m = lN C → Bd nt t la nc C → W + 3 * d ≤ 1500 → F + 3 * d ≤ 1500 → Ex m nt b s0 s t la nc W F C ((sg_M_exp N d).1 s) ((eG tk pl vl wi nm nt N0 d).1 t))
    (hW : W + 3 * d ≤ 1500) (hF : F + 3 * d ≤ 1500) (hb : 12003 ≤ b ∧ b + 20 < 33000) (p t0 : Nat) :
    ∀ n u t L CC nc S q, Pg m s0 s la0 nc0 W F C0 S t L CC nc W F → u < 10000000 → u ≤ 64 * t → 1 ≤ u → t0 + L.length ≤ t → t0 < t → CC + 5000 * t0 ≤ 5000 * t → Bd nt t0 la0 nc0 C0 → t ≤ nt + 1 → eJl tk nt (eG tk pl vl wi nm nt N0 d).1 p n u t L CC = some q →
      ∃ v s', hd_M_braces_110 N (sg_M_exp N d).1 (sg_M_exp N d).2.1 (sg_M_exp N d).2.2.1 (sg_M_exp N d).2.2.2.1 (sg_M_exp N d).2.2.2.2 (n + 1) (nI p) (lN u) S = some (v, s') ∧ SE s0 s' ∧ Lo m s s' la0 nc0 W F ∧ XPo m nt (b + 5) t0 la0 nc0 W F C0 v s' q := by
  intro n
  have l1 := T.2.1
  induction n with
  | zero => intro u t L CC nc S q _ _ _ _ _ _ _ _ _ h; cases h
  | succ n ih =>
    intro u t L CC nc S q hP hu hut hu1 g1 g2 g3 g4 g5 h
    obtain ⟨j1, j2, j3, j4, j5⟩ := id g4
    show ∃ v s', bd_M_braces_110 N _ _ _ _ _ (hd_M_braces_110 N _ _ _ _ _ (n + 1)) (nI p) (lN u) S = _ ∧ _
    unfold eJl at h
    by_cases c0 : nt ≤ t
    · rw [if_pos c0] at h; cases h
    · rw [if_neg c0] at h
      have kv := T.lt (show t < nt by omega)
      unfold bd_M_braces_110
      rw [show fn_M_is N 44 S = _ from is_M (k := 44) (hS.mono hP.1) hP.2.2.2.2.1 (by omega) (by decide) (by omega), obind]
      by_cases c1 : tk t = 44
      · rw [if_pos c1] at h
        rw [if_neg (by simp [c1, b01])]
        dsimp only
        rw [hP.eight, nI_1]
        have P1 := hP.tset (x := nI (t + 1)) rfl (show t + 1 < 33000 by omega)
        have E := iE _ (t + 1) (la0 + L.length) nc W F (C0 + CC) P1.1 P1.2.2.2.2.1 P1.2.2.2.2.2.2 ⟨by omega, by omega, by omega, by have := hP.2.2.2.1; omega, by omega⟩ hW hF
        rcases xb_some h with ⟨f, p', r1, rfl⟩ | ⟨w, t2, L2, C2, r1, h⟩
        · obtain ⟨v, S1, a1, a2, -⟩ := P1.sub E r1 (Nat.le_refl _) (Nat.le_refl _)
          have Z := a2 f p' rfl
          rw [a1, obind]
          unfold bk_M_braces_133 bk_M_braces_144
          dsimp only
          obtain ⟨S2, b1, b2⟩ := Z.lay (N := N) (x := 7) (y := v) (z := 0) (by omega)
          rw [b1, obind]
          dsimp only
          show ∃ v9 s9, bd_M_braces_110 N _ _ _ _ _ (hd_M_braces_110 N _ _ _ _ _ n) (nI p) (lN u + Int32.toInt64 v) S2 = some (v9, s9) ∧ _
          unfold bd_M_braces_110
          rw [show fn_M_is N 44 S2 = some (0, S2) from b2.is, obind, if_pos rfl]
          dsimp only
          rw [if_neg b2.nine]
          obtain ⟨t8, e8, l8⟩ := b2.eight
          rw [e8, nI_1]
          have Z3 := (b2.mono (show b + 1 ≤ b + 2 by omega)).tset (x := nI (t8 + 1)) rfl (by omega) (by omega)
          unfold bk_M_braces_185
          rw [if_neg Z3.nine]
          exact Z3.done rfl (by omega)
        · obtain ⟨v, S1, a1, -, a2⟩ := P1.sub E r1 (Nat.le_refl _) (Nat.le_refl _)
          obtain ⟨rfl, w1, w2, w3, w4, w5, w6, nc2, w7, w8⟩ := a2 _ _ _ _ rfl
          have t2n := (eG_lt _ _ _ _ _ _).1 r1
          rw [a1, obind]
          unfold bk_M_braces_133 bk_M_braces_144
          dsimp only
          obtain ⟨S2, b1, b2⟩ := w7.lay (N := N) (a := 7) (b := nI w) (c := 0) (o := (7, w, 0)) (by simp; omega) (fun code j e1 e2 e3 => rop_7 e1 e2)
          rw [b1, obind]
          dsimp only
          rw [nI_l (by omega), lN_add]
          exact ih (u + w) t2 _ _ _ S2 q b2 (by omega) (by omega) (by omega) (by simp; omega) (by omega) (by omega) g4 (by omega) h
      · rw [if_neg c1] at h
        rw [if_pos (by simp [c1, b01])]
        dsimp only
        rw [if_pos hP.nine, hP.eight, nI_1]
        have P1 := hP.tset (x := nI (t + 1)) rfl (show t + 1 < 33000 by omega)
        by_cases c2 : 64 < u
        · rw [if_pos c2] at h
          unfold xno at h
          cases h
          rw [if_neg (show ¬ lg_cmp (lN u) 64 ≤ 0 from fun z => by have := (lgle (b := 64) (by omega) (by decide)).mp z; omega)]
          obtain ⟨S2, b1, b2⟩ := P1.fail (N := N) (w := 30) (p := p) (b := b) (by decide) ⟨by omega, by omega, by have := hP.2.2.2.1; omega⟩
          rw [show (30 : Int32) = nI 30 from rfl, b1, obind]
          unfold bk_M_braces_185
          dsimp only
          rw [if_neg b2.nine]
          exact b2.done rfl (by omega)
        · rw [if_neg c2] at h
          unfold xok at h
          cases h
          rw [if_pos (show lg_cmp (lN u) 64 ≤ 0 from (lgle (b := 64) (by omega) (by decide)).mpr (by omega))]
          unfold bk_M_braces_185
          rw [if_pos P1.nine, l32]
          exact P1.done rfl hu1 (by omega) (by omega) (by omega) (by omega) (by omega)
theorem braces_M {d : Nat} (T : Tv tk pl nt) (hS : SM tk pl vl wi nm nt m N s0) (hN : 13002 < N) (hN0 : N = N0 + 1)
    (iE : ∀ s t la nc W F C, SE s0 s → Xm s 0 t la nc W F → s.2 45 m = lN C → Bd nt t la nc C → W + 3 * d ≤ 1500 → F + 3 * d ≤ 1500 → Ex m nt (13000 + 20 * d) s0 s t la nc W F C ((sg_M_exp N d).1 s) ((eG tk pl vl wi nm nt N0 d).1 t)) (hd : d ≤ 400) :
    ∀ s t la nc W F C p, SE s0 s → Xm s 0 t la nc W F → s.2 45 m = lN C → Bd nt t la nc C → W + 3 * (d + 1) ≤ 1501 → F + 3 * (d + 1) ≤ 1501 → Ex m nt (13000 + 20 * (d + 1)) s0 s t la nc W F C ((sg_M_exp N (d + 1)).2.2.2.2 (nI p) s) ((eG tk pl vl wi nm nt N0 (d + 1)).2.2.2.2 p t) := by
  intro s t la nc W F C p e hX hC hB hW hF q hq
  have l1 := T.2.1
  obtain ⟨j1, j2, j3, j4, j5⟩ := id hB
  have hq : eBr1 tk vl nt N0 (eG tk pl vl wi nm nt N0 d).1 p t = some q := hq
  unfold eBr1 at hq
  by_cases c0 : nt ≤ t
  · rw [if_pos c0] at hq; cases hq
  rw [if_neg c0] at hq
  have kv := T.lt (show t < nt by omega)
  have P0 : Pg m s0 s la nc W F C s t [] 0 nc W F := Pg.start e hX hC
  show ∃ v s', fb_M_braces N _ _ _ _ _ (nI p) s = _ ∧ _
  unfold fb_M_braces
  rw [kind_M (hS.mono e) hX (by omega), obind]
  dsimp only
  by_cases c1 : tk t = 401
  · rw [if_pos c1] at hq
    rw [if_pos (show nI (tk t) = 401 by rw [c1]; rfl), P0.eight]
    obtain ⟨g, hg⟩ := hS.2.2.2.2.1 s e t (by omega) (Or.inl c1)
    have vlt := (hS.2.2.2.2.2.2.2.2 t (by omega)).1 c1
    rw [hg, obind]
    dsimp only
    have P1 : Pg m s0 s la nc W F C (upI s 87 g) t [] 0 nc W F := by
      obtain ⟨a1, a2, a3, a4, a5, a6, a7⟩ := P0
      exact ⟨a1.upI (by decide), a2.trans (la' := la) (nc' := nc) (W' := W) (F' := F) (Lo.of (ks := [87]) (Eb.rfl.upI (by decide)) (by decide)) (Nat.le_refl _) (Nat.le_refl _) (Nat.le_refl _) (Nat.le_refl _), a3, a4, a5.any (Eb.rfl.upI (by decide)), a6, a7⟩
    rw [P1.eight, lit_nI 2, nI_add]
    have P2 := P1.tset (x := nI (t + 2)) rfl (show t + 2 < 33000 by omega)
    have t1n := T.more (show t < nt by omega) c1 (by decide) (by decide)
    have E := iE _ (t + 2) _ nc W F _ P2.1 P2.2.2.2.2.1 P2.2.2.2.2.2.2 ⟨by omega, by omega, by simp; omega, by omega, by omega⟩ (by omega) (by omega)
    rcases xb_some hq with ⟨f, p', r1, rfl⟩ | ⟨w, t2, L2, C2, r1, hq⟩
    · obtain ⟨v, S1, a1, a2, -⟩ := P2.sub E r1 (Nat.le_refl _) (Nat.le_refl _)
      have Z := a2 f p' rfl
      rw [a1, obind]
      unfold bk_M_braces_33 bk_M_braces_77 bk_M_braces_87
      dsimp only
      rw [if_neg Z.nine]
      obtain ⟨t8, e8, l8⟩ := Z.eight
      rw [e8, lit_nI 2, nI_add]
      have Z2 := (Z.mono (show 13000 + 20 * d ≤ 13000 + 20 * d + 2 by omega)).tset (x := nI (t8 + 2)) rfl (by omega) (by omega)
      obtain ⟨S3, b1, b2⟩ := Z2.lay (N := N) (x := 8) (y := Int64.toInt32 (lN (vl t))) (z := v) (by omega)
      rw [b1, obind]
      dsimp only
      rw [if_neg b2.nine]
      exact b2.done rfl (by omega)
    · obtain ⟨v, S1, a1, -, a2⟩ := P2.sub E r1 (Nat.le_refl _) (Nat.le_refl _)
      obtain ⟨rfl, w1, w2, w3, w4, w5, w6, nc2, w7, w8⟩ := a2 _ _ _ _ rfl
      have t2n := (eG_lt _ _ _ _ _ _).1 r1
      rw [a1, obind]
      have vw : vl t * w ≤ 65536 * 64 := Nat.mul_le_mul (by omega) w2
      unfold bk_M_braces_33 bk_M_braces_70
      dsimp only
      rw [if_pos w7.nine, w7.eight, lit_nI 2, nI_add, nI_l (by omega), lN_mul]
      have P3 := w7.tset (x := nI (t2 + 2)) rfl (show t2 + 2 < 33000 by omega)
      have fin : vl t = 0 ∨ 64 < vl t * w → ∃ v s', (fn_M_fail N 30 (nI p) (upI S1 8 (fun _ => nI (t2 + 2)))).bind (fun q_1 => bk_M_braces_77 N (sg_M_exp N d).1 (sg_M_exp N d).2.1 (sg_M_exp N d).2.2.1 (sg_M_exp N d).2.2.2.1 (sg_M_exp N d).2.2.2.2 (lN (vl t)) (nI w) q_1.2) = some (v, s') ∧ SE s0 s' ∧ Lo m s s' la nc W F ∧ XPo m nt (13000 + 20 * (d + 1)) t la nc W F C v s' q := by
        intro k
        rw [if_pos k] at hq
        unfold xno at hq
        cases hq
        obtain ⟨S2, b1, b2⟩ := P3.fail (N := N) (w := 30) (p := p) (b := 13000 + 20 * d) (by decide) ⟨by omega, by simp; omega, by omega⟩
        rw [show (30 : Int32) = nI 30 from rfl, b1, obind]
        unfold bk_M_braces_77 bk_M_braces_87
        dsimp only
        obtain ⟨S3, d1, d2⟩ := b2.lay (N := N) (x := 8) (y := Int64.toInt32 (lN (vl t))) (z := nI w) (by omega)
        rw [d1, obind]
        dsimp only
        rw [if_neg d2.nine]
        exact d2.done rfl (by omega)
      by_cases k1 : vl t = 0
      · rw [if_pos (show lg_cmp (lN (vl t)) 0 = 0 by rw [k1]; decide)]
        exact fin (Or.inl k1)
      · rw [if_neg (show ¬ lg_cmp (lN (vl t)) 0 = 0 from fun z => k1 ((lN_eq63 (by omega) (by decide)).mp ((lg_cmp_eq _ _).mp z)))]
        by_cases k2 : 64 < vl t * w
        · rw [if_neg (show ¬ lg_cmp (lN (vl t * w)) 64 ≤ 0 from fun z => by have := (lgle (b := 64) (by omega) (by decide)).mp z; omega)]
          exact fin (Or.inr k2)
        · rw [if_pos (show lg_cmp (lN (vl t * w)) 64 ≤ 0 from (lgle (b := 64) (by omega) (by decide)).mpr (by omega))]
          rw [if_neg (by omega)] at hq
          unfold xok at hq
          cases hq
          unfold bk_M_braces_77 bk_M_braces_87
          obtain ⟨S3, d1, d2⟩ := P3.lay (N := N) (a := 8) (b := Int64.toInt32 (lN (vl t))) (c := nI w) (o := (8, vl t, w)) (by simp; omega) (fun code j e1 e2 e3 => rop_8 e1 (by rw [e2, l32]) e3)
          rw [d1, obind]
          dsimp only
          rw [if_pos d2.nine, l32, nI_mul]
          have : 1 ≤ vl t * w := Nat.mul_pos (by omega) w1
          simp only [List.nil_append, Nat.zero_add] at d2 ⊢
          exact d2.done (t := t) (nt := nt) rfl this (by omega) (by simp; omega) (by omega) (by omega) (by omega)
  · rw [if_neg c1] at hq
    rw [if_neg (show ¬ nI (tk t) = 401 from fun z => c1 ((nI_eq (b := 401) (by omega) (by omega)).mp z))]
    have E := iE s t _ nc W F _ P0.1 P0.2.2.2.2.1 P0.2.2.2.2.2.2 ⟨by omega, by omega, by simp; omega, by omega, by omega⟩ (by omega) (by omega)
    rcases xb_some hq with ⟨f, p', r1, rfl⟩ | ⟨w, t2, L2, C2, r1, hq⟩
    · obtain ⟨v, S1, a1, a2, -⟩ := P0.sub E r1 (Nat.le_refl _) (Nat.le_refl _)
      have Z := a2 f p' rfl
      rw [a1, obind]
      unfold bk_M_braces_108
      dsimp only
      subst hN0
      show ∃ v9 s9, bd_M_braces_110 _ _ _ _ _ _ (hd_M_braces_110 _ _ _ _ _ _ N0) (nI p) (Int32.toInt64 v) S1 = some (v9, s9) ∧ _
      unfold bd_M_braces_110
      rw [show fn_M_is (N0 + 1) 44 S1 = some (0, S1) from Z.is, obind, if_pos rfl]
      dsimp only
      rw [if_neg Z.nine]
      obtain ⟨t8, e8, l8⟩ := Z.eight
      rw [e8, nI_1]
      have Z3 := (Z.mono (show 13000 + 20 * d ≤ 13000 + 20 * d + 2 by omega)).tset (x := nI (t8 + 1)) rfl (by omega) (by omega)
      unfold bk_M_braces_185
      rw [if_neg Z3.nine]
      exact Z3.done rfl (by omega)
    · obtain ⟨v, S1, a1, -, a2⟩ := P0.sub E r1 (Nat.le_refl _) (Nat.le_refl _)
      obtain ⟨rfl, w1, w2, w3, w4, w5, w6, nc2, w7, w8⟩ := a2 _ _ _ _ rfl
      rw [a1, obind]
      unfold bk_M_braces_108
      dsimp only
      rw [nI_l (by omega)]
      simp only [List.nil_append, Nat.zero_add] at w7 hq
      obtain ⟨v2, s2, b1, b2, b3, b4⟩ := bracesJ_M (N := N) (N0 := N0) T hS hN iE (by omega) (by omega) ⟨by omega, by omega⟩ p t N0 w t2 L2 C2 nc2 S1 q w7 (by omega) (by omega) w1 (by omega) (by omega) (by omega) hB (by omega) hq
      refine ⟨v2, s2, by rw [← b1, hN0], b2, b3, ?_⟩
      match q, b4 with
      | .inl (f, p'), b4 => exact b4.fault (by omega) (Nat.le_refl _) (Nat.le_refl _)
      | .inr (w', t', L', C'), b4 => exact ⟨fun _ _ z => (by cases z), b4.2⟩
end MPG
