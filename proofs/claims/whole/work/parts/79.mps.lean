/-! The reference within statements. -/
abbrev SE2 (s s' : ms) : Prop := Eb [8, 9, 10, 26, 41, 42, 44, 49, 50, 51, 52, 53, 87, 91, 92] [43, 45] s s'
section MPS
variable {tk pl vl wi : Nat → Nat} {nm : Nat → Option (Nat × Nat)} {nt m N N0 : Nat} {s0 s : ms} {la0 nc0 C0 : Nat}
def Ps (m : Nat) (s0 s : ms) (la0 nc0 C0 : Nat) (S : ms) (t la nc CC : Nat) : Prop := SE2 s0 S ∧ Lo m s S la0 nc0 0 0 ∧ la0 ≤ la ∧ nc0 ≤ nc ∧ Xm S 0 t la nc 0 0 ∧ S.2 45 m = lN (C0 + CC)
def Zs (m : Nat) (s0 s : ms) (la0 nc0 : Nat) (S : ms) (f p b : Nat) : Prop := SE2 s0 S ∧ Lo m s S la0 nc0 0 0 ∧ 0 < f ∧ S.1 10 0 = nI p ∧ ∃ t la nc, Xm S f t la nc 0 0 ∧ t ≤ b ∧ la ≤ b ∧ nc ≤ b ∧ la0 ≤ la ∧ nc0 ≤ nc
/-- static facts, whatever registers are set -/
def SM2 (tk pl vl wi : Nat → Nat) (nm : Nat → Option (Nat × Nat)) (nt m N : Nat) (s0 : ms) : Prop := ∀ s', SE2 s0 s' → SM tk pl vl wi nm nt m N s'
theorem SE.toSE2 {s s' : ms} (h : SE s s') : SE2 s s' := h.mono (by decide) (by decide)
theorem Ps.start {t : Nat} (e : SE2 s0 s) (h : Xm s 0 t la0 nc0 0 0) (hC : s.2 45 m = lN C0) : Ps m s0 s la0 nc0 C0 s t la0 nc0 0 := ⟨e, Lo.refl, Nat.le_refl _, Nat.le_refl _, h, by simpa using hC⟩
theorem Ps.nine {S : ms} {t la nc CC : Nat} (h : Ps m s0 s la0 nc0 C0 S t la nc CC) : S.1 9 0 = 0 := h.2.2.2.2.1.1
theorem Ps.eight {S : ms} {t la nc CC : Nat} (h : Ps m s0 s la0 nc0 C0 S t la nc CC) : S.1 8 0 = nI t := h.2.2.2.2.1.2.2.1
theorem Zs.nine {S : ms} {f p b : Nat} (h : Zs m s0 s la0 nc0 S f p b) : ¬ S.1 9 0 = 0 := by
  obtain ⟨a1, a2, a3, a4, t, la, nc, a5, -⟩ := h
  rw [a5.1]
  exact nI_ne0 a3 (by have := a5.2.1; omega)
theorem Zs.eight {S : ms} {f p b : Nat} (h : Zs m s0 s la0 nc0 S f p b) : ∃ t, S.1 8 0 = nI t ∧ t ≤ b := by
  obtain ⟨a1, a2, a3, a4, t, la, nc, a5, a6, -⟩ := h
  exact ⟨t, a5.2.2.1, a6⟩
theorem Zs.mono {S : ms} {f p b b' : Nat} (h : Zs m s0 s la0 nc0 S f p b) (hb : b ≤ b') : Zs m s0 s la0 nc0 S f p b' := by
  obtain ⟨a1, a2, a3, a4, t, la, nc, a5, a6, a7, a8, a9, a10⟩ := h
  exact ⟨a1, a2, a3, a4, t, la, nc, a5, by omega, by omega, by omega, a9, a10⟩
theorem Ps.sub {S S' : ms} {t t' la la' nc nc' CC C2 : Nat} (h : Ps m s0 s la0 nc0 C0 S t la nc CC) (g : Ps m s0 S la nc (C0 + CC) S' t' la' nc' C2) : Ps m s0 s la0 nc0 C0 S' t' la' nc' (CC + C2) := by
  obtain ⟨a1, a2, a3, a4, a5, a6⟩ := h
  obtain ⟨b1, b2, b3, b4, b5, b6⟩ := g
  exact ⟨b1, a2.trans b2 a3 a4 (Nat.le_refl _) (Nat.le_refl _), by omega, by omega, b5, by rw [b6]; congr 1; omega⟩
theorem Ps.zub {S S' : ms} {t la nc CC f p b : Nat} (h : Ps m s0 s la0 nc0 C0 S t la nc CC) (g : Zs m s0 S la nc S' f p b) : Zs m s0 s la0 nc0 S' f p b := by
  obtain ⟨a1, a2, a3, a4, a5, a6⟩ := h
  obtain ⟨b1, b2, b3, b4, t', la', nc', b5, b6, b7, b8, b9, b10⟩ := g
  exact ⟨b1, a2.trans b2 a3 a4 (Nat.le_refl _) (Nat.le_refl _), b3, b4, t', la', nc', b5, b6, b7, b8, by omega, by omega⟩
theorem Lo.self {S S' : ms} {la nc : Nat} {ks : List Nat} (e : Eb ks [] S S') (h : 41 ∉ ks) : Lo m S S' la nc 0 0 :=
  ⟨fun k _ => by rw [e.1 41 h], fun k _ => by rw [e.2 43 (by decide)], fun k hk => (by omega), fun k hk => (by omega), fun k _ => by rw [e.2 45 (by decide)]⟩
theorem Ps.tset {S : ms} {t t' la nc CC : Nat} {x : Int32} (h : Ps m s0 s la0 nc0 C0 S t la nc CC) (hx : x = nI t') (ht : t' < 33000) : Ps m s0 s la0 nc0 C0 (upI S 8 (fun _ => x)) t' la nc CC := by
  obtain ⟨a1, a2, a3, a4, a5, a6⟩ := h
  exact ⟨a1.upI (by decide), a2.trans (la' := la0) (nc' := nc0) (W' := 0) (F' := 0) (Lo.self (ks := [8]) (Eb.rfl.upI (by decide)) (by decide)) (Nat.le_refl _) (Nat.le_refl _) (Nat.le_refl _) (Nat.le_refl _), a3, a4, a5.tset hx ht, a6⟩
theorem Zs.tset {S : ms} {f p b t' : Nat} {x : Int32} (h : Zs m s0 s la0 nc0 S f p b) (hx : x = nI t') (ht : t' < 33000) (hb : t' ≤ b) : Zs m s0 s la0 nc0 (upI S 8 (fun _ => x)) f p b := by
  obtain ⟨a1, a2, a3, a4, t, la, nc, a5, a6, a7, a8, a9, a10⟩ := h
  exact ⟨a1.upI (by decide), a2.trans (la' := la0) (nc' := nc0) (W' := 0) (F' := 0) (Lo.self (ks := [8]) (Eb.rfl.upI (by decide)) (by decide)) (Nat.le_refl _) (Nat.le_refl _) (Nat.le_refl _) (Nat.le_refl _), a3, a4, t', la, nc, a5.tset hx ht, hb, a7, a8, a9, a10⟩
/-- some tokens further on -/
theorem Zs.more {S : ms} {f p b k : Nat} (h : Zs m s0 s la0 nc0 S f p b) (hb : b + k < 33000) : Zs m s0 s la0 nc0 (upI S 8 (fun _ => S.1 8 0 + nI k)) f p (b + k) := by
  obtain ⟨t, e, ht⟩ := h.eight
  exact (h.mono (by omega)).tset (t' := t + k) (by rw [e, nI_add]) (by omega) (by omega)
theorem Ps.cost {S : ms} {t la nc CC n : Nat} (hS : SM2 tk pl vl wi nm nt m N s0) (h : Ps m s0 s la0 nc0 C0 S t la nc CC) : ∃ S', fn_M_cost N (lN n) S = some ((), S') ∧ Ps m s0 s la0 nc0 C0 S' t la nc (CC + n) ∧ Eb [] [45] S S' := by
  obtain ⟨a1, a2, a3, a4, a5, a6⟩ := h
  have sm := hS S a1
  rw [cost_M sm.1 sm.2.1]
  refine ⟨_, rfl, ⟨a1.upJ (by decide), a2.trans (la' := la0) (nc' := nc0) (W' := 0) (F' := 0) (⟨fun _ _ => rfl, fun _ _ => rfl, fun _ _ => ⟨rfl, rfl⟩, fun _ _ => rfl, fun k hk => updL_ne hk⟩) (Nat.le_refl _) (Nat.le_refl _) (Nat.le_refl _) (Nat.le_refl _), a3, a4, a5.any (Eb.rfl.upJ (by decide)), ?_⟩, Eb.rfl.upJ (by decide)⟩
  show vp_updL (S.2 45) m (S.2 45 m + lN n) m = _
  rw [updL_at, a6, lN_add]
  congr 1; omega
theorem Zs.cost {S : ms} {f p b : Nat} {n : Int64} (hS : SM2 tk pl vl wi nm nt m N s0) (h : Zs m s0 s la0 nc0 S f p b) : ∃ S', fn_M_cost N n S = some ((), S') ∧ Zs m s0 s la0 nc0 S' f p b ∧ Eb [] [45] S S' := by
  obtain ⟨a1, a2, a3, a4, t, la, nc, a5, a6⟩ := h
  have sm := hS S a1
  rw [cost_M sm.1 sm.2.1]
  exact ⟨_, rfl, ⟨a1.upJ (by decide), a2.trans (la' := la0) (nc' := nc0) (W' := 0) (F' := 0) (⟨fun _ _ => rfl, fun _ _ => rfl, fun _ _ => ⟨rfl, rfl⟩, fun _ _ => rfl, fun k hk => updL_ne hk⟩) (Nat.le_refl _) (Nat.le_refl _) (Nat.le_refl _) (Nat.le_refl _), a3, a4, t, la, nc, a5.any (Eb.rfl.upJ (by decide)), a6⟩, Eb.rfl.upJ (by decide)⟩
theorem Lo.op0 {S S' : ms} {la nc : Nat} {a b c : Int32} (o : Op1 S S' la a b c) (e : Eb [41, 42, 91] [] S S') : Lo m S S' la nc 0 0 := Lo.op (js := []) o e
theorem Ps.lay {S : ms} {t la nc CC : Nat} {a b c : Int32} (h : Ps m s0 s la0 nc0 C0 S t la nc CC) (hl : la + 1 < 33000) : ∃ S', fn_M_lay N a b c S = some ((), S') ∧ Ps m s0 s la0 nc0 C0 S' t (la + 1) nc CC ∧ Op1 S S' la a b c ∧ Eb [41, 42, 91] [] S S' := by
  obtain ⟨a1, a2, a3, a4, a5, a6⟩ := h
  obtain ⟨S', z1, z2, z3, z4⟩ := lay_M (N := N) (a := a) (b := b) (c := c) a5 hl
  exact ⟨S', z1, ⟨a1.trans (z4.mono (by decide) (by decide)), a2.trans (Lo.op0 (nc := nc0) z3 z4) a3 (Nat.le_refl _) (Nat.le_refl _) (Nat.le_refl _), by omega, a4, z2, by rw [z4.2 45 (by decide)]; exact a6⟩, z3, z4⟩
theorem Zs.lay {S : ms} {f p b : Nat} {x y z : Int32} (h : Zs m s0 s la0 nc0 S f p b) (hb : b + 1 < 33000) : ∃ S' la, fn_M_lay N x y z S = some ((), S') ∧ Zs m s0 s la0 nc0 S' f p (b + 1) ∧ S.1 42 0 = nI (3 * la) ∧ S'.1 42 0 = nI (3 * (la + 1)) ∧ la ≤ b ∧ la0 ≤ la ∧ Op1 S S' la x y z ∧ Eb [41, 42, 91] [] S S' := by
  obtain ⟨a1, a2, a3, a4, t, la, nc, a5, a6, a7, a8, a9, a10⟩ := h
  obtain ⟨S', z1, z2, z3, z4⟩ := lay_M (N := N) (a := x) (b := y) (c := z) a5 (by omega)
  exact ⟨S', la, z1, ⟨a1.trans (z4.mono (by decide) (by decide)), a2.trans (Lo.op0 (nc := nc0) z3 z4) a9 (Nat.le_refl _) (Nat.le_refl _) (Nat.le_refl _), a3, by rw [z4.1 10 (by decide)]; exact a4, t, la + 1, nc, z2, by omega, by omega, by omega, by omega, a10⟩, a5.2.2.2.2.1, z2.2.2.2.2.1, a7, a9, z3, z4⟩
theorem Ps.fail {S : ms} {t la nc CC w p b : Nat} (h : Ps m s0 s la0 nc0 C0 S t la nc CC) (hw : 0 < w ∧ w < 100) (hb : t ≤ b ∧ la ≤ b ∧ nc ≤ b) : ∃ S', fn_M_fail N (nI w) (nI p) S = some ((), S') ∧ Zs m s0 s la0 nc0 S' w p b ∧ Eb [9, 10] [] S S' := by
  obtain ⟨a1, a2, a3, a4, a5, a6⟩ := h
  obtain ⟨S', z1, z2, z3, z4⟩ := fail_M (N := N) (w := w) (y := nI p) a5 hw.2
  exact ⟨S', z1, ⟨a1.trans (z4.mono (by decide) (by decide)), a2.trans (la' := la0) (nc' := nc0) (W' := 0) (F' := 0) (Lo.self z4 (by decide)) (Nat.le_refl _) (Nat.le_refl _) (Nat.le_refl _) (Nat.le_refl _), hw.1, z3, t, la, nc, z2, hb.1, hb.2.1, hb.2.2, a3, a4⟩, z4⟩
theorem Zs.fail {S : ms} {f p b : Nat} {x y : Int32} (h : Zs m s0 s la0 nc0 S f p b) : fn_M_fail N x y S = some ((), S) := by
  obtain ⟨a1, a2, a3, a4, t, la, nc, a5, -⟩ := h
  exact failZ_M a5.1 a3 a5.2.1
theorem Zs.is {S : ms} {f p b k : Nat} (h : Zs m s0 s la0 nc0 S f p b) : fn_M_is N (nI k) S = some (0, S) := by
  obtain ⟨a1, a2, a3, a4, t, la, nc, a5, -⟩ := h
  exact isZ a5 a3
/-- an aim is written into an op that lies there -/
theorem upd41 {S : ms} {j : Nat} {x : Int32} : Eb [41] [] S (upI S 41 (upd (S.1 41) (3 * j + 1) x)) := Eb.rfl.upI (by decide)
theorem Ps.aim {S : ms} {t la nc CC j : Nat} {x : Int32} (h : Ps m s0 s la0 nc0 C0 S t la nc CC) (hj : la0 ≤ j) : Ps m s0 s la0 nc0 C0 (upI S 41 (upd (S.1 41) (3 * j + 1) x)) t la nc CC := by
  obtain ⟨a1, a2, a3, a4, a5, a6⟩ := h
  exact ⟨a1.upI (by decide), a2.trans (la' := la0) (nc' := nc0) (W' := 0) (F' := 0) ⟨fun k hk => by show upd (S.1 41) (3 * j + 1) x k = _; rw [upd_ne (by omega)], fun _ _ => rfl, fun _ _ => ⟨rfl, rfl⟩, fun _ _ => rfl, fun _ _ => rfl⟩ (Nat.le_refl _) (Nat.le_refl _) (Nat.le_refl _) (Nat.le_refl _), a3, a4, a5.any ((upd41).mono (by decide) (by decide)), a6⟩
theorem Zs.aim {S : ms} {f p b j : Nat} {x : Int32} (h : Zs m s0 s la0 nc0 S f p b) (hj : la0 ≤ j) : Zs m s0 s la0 nc0 (upI S 41 (upd (S.1 41) (3 * j + 1) x)) f p b := by
  obtain ⟨a1, a2, a3, a4, t, la, nc, a5, a6⟩ := h
  exact ⟨a1.upI (by decide), a2.trans (la' := la0) (nc' := nc0) (W' := 0) (F' := 0) ⟨fun k hk => by show upd (S.1 41) (3 * j + 1) x k = _; rw [upd_ne (by omega)], fun _ _ => rfl, fun _ _ => ⟨rfl, rfl⟩, fun _ _ => rfl, fun _ _ => rfl⟩ (Nat.le_refl _) (Nat.le_refl _) (Nat.le_refl _) (Nat.le_refl _), a3, a4, t, la, nc, a5.any ((upd41).mono (by decide) (by decide)), a6⟩
/-- the index of an aim lies in the code -/
theorem Xm.idx {S : ms} {f t la nc W F j : Nat} (h : Xm S f t la nc W F) (hj : j < la) : ¬ (nI (3 * j) + 1 < 0 ∨ (S.1 91 0).toNatClampNeg ≤ (nI (3 * j) + 1).toNatClampNeg) ∧ (nI (3 * j) + 1).toNatClampNeg = 3 * j + 1 := by
  obtain ⟨len, nlen, l1, l2, l3, l4, l5⟩ := h.2.2.2.2.2.2.2.2.2.2.2.2
  rw [l1, nI_1, nI_clamp (by omega), nI_clamp (by omega)]
  refine ⟨fun z => ?_, rfl⟩
  rcases z with z | z
  · exact nI_pos (by omega) z
  · omega
/-- an exp within a statement -/
theorem Ps.exp {S : ms} {t la nc CC : Nat} {q : Sum (Nat × Nat) (Nat × Nat × List aop × Nat)} (T : Tv tk pl nt) (hS : SM2 tk pl vl wi nm nt m N s0) (hN : 13002 < N) (hN0 : N = N0 + 1) (hl : ∀ i, tk i = 402 → vl i < 2 ^ wi i ∧ 1 ≤ wi i ∧ wi i ≤ 64) (hn : ∀ i q, nm i = some q → 1 ≤ q.2 ∧ q.2 ≤ 64)
    (h : Ps m s0 s la0 nc0 C0 S t la nc CC) (hB : Bd nt t la nc (C0 + CC)) (hr : eF tk pl vl wi nm nt N0 t = some q) :
    ∃ v S', fn_M_exp N S = some (v, S') ∧ SE S S' ∧ Lo m S S' la nc 0 0 ∧ (∀ f p, q = .inl (f, p) → Zs m s0 s la0 nc0 S' f p 21000) ∧ (∀ w t' L C2, q = .inr (w, t', L, C2) → v = nI w ∧ 1 ≤ w ∧ w ≤ 64 ∧ t + L.length ≤ t' ∧ t < t' ∧ t' < nt ∧ C2 + 5000 * t ≤ 5000 * t' ∧ Hk 900 L 0 1 ∧ Ty nm L [] [w] ∧ ∃ nc', nc ≤ nc' ∧ nc' ≤ nc + L.length ∧ Ps m s0 s la0 nc0 C0 S' t' (la + L.length) nc' (CC + C2) ∧ rEnc (S'.1 41) (S'.2 43) nc' la L) := by
  obtain ⟨a1, a2, a3, a4, a5, a6⟩ := h
  have ee : eE tk pl vl wi nm nt N0 t = some q ∧ (∀ w t' L C2, q = .inr (w, t', L, C2) → Hk 900 L 0 1) := by
    unfold eF at hr
    match e : eE tk pl vl wi nm nt N0 t, hr with
    | some (.inl f), hr => cases hr; exact ⟨rfl, fun _ _ _ _ z => (by cases z)⟩
    | some (.inr (w, t', L, C2)), hr =>
      dsimp only at hr
      by_cases z : hkB 900 L 0 1 = true
      · rw [if_pos z] at hr; cases hr; exact ⟨rfl, fun _ _ _ _ y => (by cases y; exact hkB_iff.mp z)⟩
      · rw [if_neg z] at hr; cases hr
    | none, hr => cases hr
  obtain ⟨v, S', b1, b2, b3, b4⟩ := exp_ok T (hS S a1) hN hN0 (e := Eb.rfl) a5 a6 hB q ee.1
  refine ⟨v, S', b1, b2, b3, fun f p e => ?_, fun w t' L C2 e => ?_⟩
  · obtain ⟨c1, c2, t', la', nc', c3, c4, c5, c6, c7, c8⟩ := b4.1 f p e
    exact ⟨a1.trans (SE.toSE2 b2), a2.trans b3 a3 a4 (Nat.le_refl _) (Nat.le_refl _), c1, c2, t', la', nc', c3, c4, c5, c6, by omega, by omega⟩
  · obtain ⟨c1, c2, c3, c4, c5, c6, c7, c8, nc', c9, c10, c11, c12⟩ := b4.2 _ _ _ _ e
    have ty := (eG_ty (pl := pl) (nt := nt) (N0 := N0) hl hn 400).1 t w t' L C2 (by rw [← e]; exact ee.1)
    have tn := (eG_lt (tk := tk) (pl := pl) (vl := vl) (wi := wi) (nm := nm) (nt := nt) (N0 := N0) 400 t w t' L C2).1 (by rw [← e]; exact ee.1)
    exact ⟨c1, c2, c3, c4, c5, tn, c7, ee.2 _ _ _ _ e, ty.2.2, nc', c9, c10, ⟨a1.trans (SE.toSE2 b2), a2.trans b3 a3 a4 (Nat.le_refl _) (Nat.le_refl _), by omega, by omega, c11, by rw [c8]; congr 1; omega⟩, c12⟩
theorem Zs.exp {S : ms} {f p b : Nat} (hS : SM2 tk pl vl wi nm nt m N s0) (hN : 13002 < N) (h : Zs m s0 s la0 nc0 S f p b) (hb : 13000 ≤ b) : ∃ v S', fn_M_exp N S = some (v, S') ∧ Zs m s0 s la0 nc0 S' f p b ∧ SE S S' := by
  obtain ⟨a1, a2, a3, a4, t, la, nc, a5, a6, a7, a8, a9, a10⟩ := h
  obtain ⟨v, S', t', b1, b2, b3, b4, b5, b6⟩ := expZ4 (d := 400) (by omega) (hS S a1) hN Eb.rfl a5 a3 (by omega)
  exact ⟨v, S', b1, ⟨a1.trans (SE.toSE2 b5), a2.trans b6 a9 a10 (Nat.le_refl _) (Nat.le_refl _), a3, by rw [b4]; exact a4, t', la, nc, b2, by omega, a7, a8, a9, a10⟩, b5⟩
end MPS
