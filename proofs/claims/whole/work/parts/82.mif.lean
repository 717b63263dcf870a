/-! The reference: begin and if. -/
section MIF
variable {tk pl vl wi : Nat → Nat} {nm : Nat → Option (Nat × Nat)} {nt m N N0 : Nat} {rg : Nat → Bool} {an : Nat} {P : pw} {s0 : ms}
/-- a statement within, b the bound behind a fault -/
def StI (tk pl vl wi : Nat → Nat) (nm : Nat → Option (Nat × Nat)) (nt m : Nat) (P : pw) (s0 : ms) (b : Nat) (r : ms → Option (Unit × ms)) (sS : Nat → (Nat → Nat) → sr) : Prop :=
  (∀ (s : ms) (t la nc C : Nat) (S : Nat → Nat), SE2 s0 s → Xm s 0 t la nc 0 0 → s.2 45 m = lN C → Bd nt t la nc C → R26 P s S → Sx 2 b m nt P s0 s t la nc C (r s) (sS t S)) ∧ (∀ s : ms, ¬ s.1 9 0 = 0 → r s = some ((), s))
theorem Zs.idx {S s : ms} {f p b la0 nc0 j : Nat} (h : Zs m s0 s la0 nc0 S f p b) (hj : j < la0) : ¬ (nI (3 * j) + 1 < 0 ∨ (S.1 91 0).toNatClampNeg ≤ (nI (3 * j) + 1).toNatClampNeg) ∧ (nI (3 * j) + 1).toNatClampNeg = 3 * j + 1 := by
  obtain ⟨a1, a2, a3, a4, t, la, nc, a5, a6, a7, a8, a9, a10⟩ := h
  exact a5.idx (by omega)
theorem Ps.idx {S s : ms} {t la nc CC la0 nc0 C0 j : Nat} (h : Ps m s0 s la0 nc0 C0 S t la nc CC) (hj : j < la) : ¬ (nI (3 * j) + 1 < 0 ∨ (S.1 91 0).toNatClampNeg ≤ (nI (3 * j) + 1).toNatClampNeg) ∧ (nI (3 * j) + 1).toNatClampNeg = 3 * j + 1 := h.2.2.2.2.1.idx hj
theorem Ps.laid {S s : ms} {t la nc CC la0 nc0 C0 : Nat} (h : Ps m s0 s la0 nc0 C0 S t la nc CC) : S.1 42 0 = nI (3 * la) := h.2.2.2.2.1.2.2.2.2.1
theorem Ps.is {S s : ms} {t la nc CC la0 nc0 C0 k : Nat} (hM : MC tk pl vl wi nm nt m N N0 rg an P s0) (h : Ps m s0 s la0 nc0 C0 S t la nc CC) (ht : t < nt) (hk : k < 1000) : fn_M_is N (nI k) S = some (b01 (decide (tk t = k)), S) := is_M (hM.2.1 S h.1) h.2.2.2.2.1 ht hk (by have := hM.1.lt ht; omega)
theorem Ps.kind {S s : ms} {t la nc CC la0 nc0 C0 : Nat} (hM : MC tk pl vl wi nm nt m N N0 rg an P s0) (h : Ps m s0 s la0 nc0 C0 S t la nc CC) (ht : t < nt) : fn_M_kind N S = some (nI (tk t), S) := kind_M (hM.2.1 S h.1) h.2.2.2.2.1 ht
theorem Sp.sub {e e2 b b2 t t2 la la2 nc nc2 C C2 : Nat} {s S s' : ms} {f p : Nat} (h : Ps m s0 s la nc C S t2 la2 nc2 C2) (g : Sp e b m nt P s0 S t2 la2 nc2 (C + C2) s' (.inl (f, p))) : Zs m s0 s la nc s' f p b := h.zub (g.1 f p rfl)
theorem sb_some {r : sr} {k : Nat → (Nat → Nat) → Bool → DT → Nat → sr} {q : Sum (Nat × Nat) (Nat × (Nat → Nat) × Bool × DT × Nat)} (h : sb r k = some q) : (∃ f p, r = some (.inl (f, p)) ∧ q = .inl (f, p)) ∨ ∃ t S b D C, r = some (.inr (t, S, b, D, C)) ∧ k t S b D C = some q := by
  unfold sb at h
  match r with
  | none => cases h
  | some (.inl f) => exact Or.inl ⟨f.1, f.2, rfl, by cases h; rfl⟩
  | some (.inr q) => exact Or.inr ⟨q.1, q.2.1, q.2.2.1, q.2.2.2.1, q.2.2.2.2, rfl, h⟩
theorem sx_some {r : xr} {k : Nat → Nat → List aop → Nat → sr} {q : Sum (Nat × Nat) (Nat × (Nat → Nat) × Bool × DT × Nat)} (h : sx r k = some q) : (∃ f p, r = some (.inl (f, p)) ∧ q = .inl (f, p)) ∨ ∃ w t L C, r = some (.inr (w, t, L, C)) ∧ k w t L C = some q := by
  unfold sx at h
  match r with
  | none => cases h
  | some (.inl f) => exact Or.inl ⟨f.1, f.2, rfl, by cases h; rfl⟩
  | some (.inr q) => exact Or.inr ⟨q.1, q.2.1, q.2.2.1, q.2.2.2, rfl, h⟩
theorem beg_M {r rc : ms → Option (Unit × ms)} {sS : Nat → (Nat → Nat) → sr} {b : Nat} (hM : MC tk pl vl wi nm nt m N N0 rg an P s0) (hI : StI tk pl vl wi nm nt m P s0 b r sS) (hb : b + 20 < 30000) : ∀ (n : Nat) (s : ms) (t la nc C : Nat) (S : Nat → Nat), SE2 s0 s → Xm s 0 t la nc 0 0 → s.2 45 m = lN C → Bd nt t la nc C → R26 P s S → Sx 1 (b + 1) m nt P s0 s t la nc C (hd_M_statement_28 N r rc (n + 1) s) (sBl tk nt sS n t S) := by
  intro n
  induction n with
  | zero => intro s t la nc C S _ _ _ _ _ q hq; cases hq
  | succ n ih =>
    intro s t la nc C S e hX hC hB hR q hq
    obtain ⟨j1, j2, j3, j4, j5⟩ := id hB
    have p0 : Ps m s0 s la nc C s t la nc 0 := Ps.start e hX hC
    unfold sBl at hq
    by_cases tn : nt ≤ t
    · rw [if_pos tn] at hq; cases hq
    rw [if_neg tn] at hq
    have kl : tk t < 405 := hM.1.lt (by omega)
    show ∃ s', bd_M_statement_28 N r rc (hd_M_statement_28 N r rc (n + 1)) s = _ ∧ _
    unfold bd_M_statement_28
    rw [if_pos p0.nine, p0.kind hM (by omega), obind]
    dsimp only
    by_cases k : tk t = 311
    · rw [if_pos k] at hq
      cases hq
      rw [if_pos (show nI (tk t) = 311 by rw [k]; rfl)]
      unfold bk_M_statement_52 bk_M_statement_221
      refine ⟨_, rfl, fun _ _ z => (by cases z), fun t' S' bb D CC z => ?_⟩
      cases z
      exact ⟨la, nc, p0.tset (by rw [p0.eight, nI_1]) (by omega), by omega, by omega, by omega, by omega, hR, fun v n st hv hs => Rt.refl⟩
    · rw [if_neg k] at hq
      rw [if_neg (show ¬ nI (tk t) = 311 from fun z => k ((nI_eq (b := 311) (by omega) (by omega)).mp z))]
      rcases sb_some hq with ⟨f, p, r1, rfl⟩ | ⟨t1, S1, b1, D1, C1, r1, hq⟩
      · obtain ⟨s1, a1, a2⟩ := hI.1 s t la nc C S e hX hC hB hR _ r1
        rw [a1, obind]
        have z := a2.1 f p rfl
        show ∃ s', bd_M_statement_28 N r rc (hd_M_statement_28 N r rc n) s1 = _ ∧ _
        unfold bd_M_statement_28
        rw [if_neg z.nine]
        unfold bk_M_statement_52 bk_M_statement_221
        exact ⟨_, rfl, Sp.fault (z.more (k := 1) (by omega))⟩
      · obtain ⟨s1, a1, a2⟩ := hI.1 s t la nc C S e hX hC hB hR _ r1
        rw [a1, obind]
        obtain ⟨la1, nc1, x1, x2, x3, x4, x5, x6, x7⟩ := a2.2 _ _ _ _ _ rfl
        have g := x1.2.2.1
        have hB1 : Bd nt t1 la1 nc1 (C + C1) := ⟨by omega, j2, by omega, by omega, by omega⟩
        show ∃ s', hd_M_statement_28 N r rc (n + 1) s1 = _ ∧ _
        rcases sb_some hq with ⟨f, p, r2, rfl⟩ | ⟨t2, S2, b2, D2, C2, r2, hq⟩
        · obtain ⟨s2, c1, c2⟩ := ih s1 t1 la1 nc1 (C + C1) S1 x1.1 x1.2.2.2.2.1 x1.2.2.2.2.2 hB1 x6 _ r2
          exact ⟨s2, c1, Sp.fault (x1.zub (c2.1 f p rfl))⟩
        · obtain ⟨s2, c1, c2⟩ := ih s1 t1 la1 nc1 (C + C1) S1 x1.1 x1.2.2.2.2.1 x1.2.2.2.2.2 hB1 x6 _ r2
          cases hq
          refine ⟨s2, c1, fun _ _ z => (by cases z), fun t' S' bb D CC z => ?_⟩
          cases z
          obtain ⟨la2, nc2, y1, y2, y3, y4, y5, y6, y7⟩ := c2.2 _ _ _ _ _ rfl
          have g2 := y1.2.2.1
          refine ⟨la2, nc2, x1.sub y1, by omega, by omega, y4, by omega, y6, fun v n st hv hs => ?_⟩
          have x7' : Rg (s2.1 41) (s2.2 43) nc2 P la la1 D1 := x7.mono (fun k _ hk => y1.2.1.1 k hk) (fun k hk => y1.2.1.2.1 k hk) y1.2.2.2.1
          exact (x7' v n st hv hs).trans (y7 v (D1 v n) st hv hs)
/-- an if -/
theorem if_M {r rc : ms → Option (Unit × ms)} {sS : Nat → (Nat → Nat) → sr} {b : Nat} (hM : MC tk pl vl wi nm nt m N N0 rg an P s0) (hI : StI tk pl vl wi nm nt m P s0 b r sS) (hb : b + 20 < 30000) (hb2 : 21000 ≤ b) (s : ms) (t la nc C : Nat) (S : Nat → Nat) (ht : t < nt) (e : SE2 s0 s) (hX : Xm s 0 t la nc 0 0) (hC : s.2 45 m = lN C) (hB : Bd nt t la nc C) (hR : R26 P s S) : Sx 2 (b + 5) m nt P s0 s t la nc C ((fn_M_exp N (upI s 8 (fun _ => s.1 8 0 + 2))).bind (fun q_7 => bk_M_statement_90 N r rc q_7.1 q_7.2)) (sIf tk pl vl wi nm nt N0 sS t S) := by
  intro q hq
  have hM' := hM
  obtain ⟨hT, hS, hN, hN0, hl, hn, -⟩ := hM
  obtain ⟨j1, j2, j3, j4, j5⟩ := id hB
  have p0 : Ps m s0 s la nc C s t la nc 0 := Ps.start e hX hC
  have p1 : Ps m s0 s la nc C (upI s 8 (fun _ => s.1 8 0 + 2)) (t + 2) la nc 0 := p0.tset (by rw [p0.eight, lit_nI 2, nI_add]) (by omega)
  unfold sIf at hq
  have zfin : ∀ (f p : Nat) (S1 : ms) (x : Int32), Zs m s0 s la nc S1 f p b → ∃ s', bk_M_statement_90 N r rc x S1 = some ((), s') ∧ Zs m s0 s la nc s' f p (b + 5) := by
    intro f p S1 x z
    unfold bk_M_statement_90
    obtain ⟨S2, b1, b2, b3⟩ := z.cost (n := Int32.toInt64 x) hS
    rw [b1, obind]
    dsimp only
    obtain ⟨S3, la3, c1, c2, c3, c4, c5, c6, c7, c8⟩ := (b2.more (k := 1) (by omega)).lay (N := N) (x := 10) (y := 0) (z := 0) (by omega)
    rw [show S2.1 8 0 + 1 = S2.1 8 0 + nI 1 from rfl, c1, obind]
    dsimp only
    unfold bk_M_statement_117
    rw [hI.2 S3 c2.nine, obind]
    dsimp only
    unfold bk_M_statement_121
    rw [lit_nI 313, c2.is, obind]
    dsimp only
    rw [if_pos rfl]
    have x1 : S2.1 42 0 = nI (3 * la3) := c3
    obtain ⟨a1, a2, a3, a4, t4, la4, nc4, a5, -⟩ := c2
    have l4 : la4 = la3 + 1 := by
      have q1 : S3.1 42 0 = nI (3 * la4) := a5.2.2.2.2.1
      rw [c4] at q1
      have := (nI_eq (by omega) (by have := a5.2.2.2.2.2.1; omega)).mp q1
      omega
    have ix := a5.idx (j := la3) (by omega)
    rw [x1, if_neg ix.1, ix.2]
    unfold bk_M_statement_221
    refine ⟨_, rfl, Zs.mono (Zs.aim ?_ c6) (show b + 1 + 1 ≤ b + 5 by omega)⟩
    obtain ⟨S3', la3', c1', c2', -⟩ := (b2.more (k := 1) (by omega)).lay (N := N) (x := 10) (y := 0) (z := 0) (by omega)
    rw [c1] at c1'
    cases c1'
    exact c2'
  rcases sx_some hq with ⟨f, p, r1, rfl⟩ | ⟨w, t1, L, C1, r1, hq⟩
  · obtain ⟨v, S1, a1, a2, a3, a4, a5⟩ := p1.exp hT hS hN hN0 hl hM'.wid ⟨by omega, j2, by omega, by omega, by omega⟩ r1
    rw [a1, obind]
    obtain ⟨s', z1, z2⟩ := zfin f p S1 v ((a4 f p rfl).mono hb2)
    exact ⟨s', z1, Sp.fault z2⟩
  · obtain ⟨v, S1, a1, a2, a3, a4, a5⟩ := p1.exp hT hS hN hN0 hl hM'.wid ⟨by omega, j2, by omega, by omega, by omega⟩ r1
    obtain ⟨v1, w1, w2, x1, x2, x3, x4, x5, x6, nc1, x7, x8, x9, x10⟩ := a5 _ _ _ _ rfl
    rw [a1, obind]
    dsimp only
    unfold bk_M_statement_90
    obtain ⟨S2, b1, b2, b3⟩ := x9.cost (n := w) hS
    rw [v1, i64nI (by omega), b1, obind]
    dsimp only
    have b2' := b2.tset (x := S2.1 8 0 + 1) (t' := t1 + 1) (by rw [b2.eight, nI_1]) (by omega)
    obtain ⟨S3, c1, c2, c3, c4⟩ := b2'.lay (N := N) (a := 10) (b := 0) (c := 0) (by omega)
    rw [c1, obind]
    dsimp only
    rw [b2.laid]
    have ax : rEnc (S3.1 41) (S3.2 43) nc1 la L := x10.mono (fun k hk => by rw [c3.1 k hk]; show S2.1 41 k = _; rw [b3.1 41 (by decide)]) (fun k _ => by rw [c4.2 43 (by decide)]; show S2.2 43 k = _; rw [b3.2 43 (by decide)]) (Nat.le_refl _)
    have r26 : R26 P S3 S := hR.mono (by rw [c4.1 26 (by decide)]; show S2.1 26 = _; rw [b3.1 26 (by decide), a2.1 26 (by decide)]; rfl)
    have hB3 : Bd nt (t1 + 1) (la + L.length + 1) nc1 (C + (0 + C1 + w)) := ⟨by omega, j2, by omega, by omega, by omega⟩
    unfold bk_M_statement_117
    rcases sb_some hq with ⟨f, p, r2, rfl⟩ | ⟨t2, S2', b2b, D2, C2, r2, hq⟩
    · obtain ⟨s4, d1, d2⟩ := hI.1 S3 (t1 + 1) _ nc1 _ S c2.1 c2.2.2.2.2.1 c2.2.2.2.2.2 hB3 r26 _ r2
      rw [d1, obind]
      dsimp only
      have z := d2.1 f p rfl
      unfold bk_M_statement_121
      rw [lit_nI 313, z.is, obind]
      dsimp only
      have ix := z.idx (j := la + L.length) (by omega)
      rw [if_pos rfl, if_neg ix.1, ix.2]
      unfold bk_M_statement_221
      exact ⟨_, rfl, Sp.fault (((c2.zub z).aim (by omega)).mono (by omega))⟩
    · obtain ⟨s4, d1, d2⟩ := hI.1 S3 (t1 + 1) _ nc1 _ S c2.1 c2.2.2.2.2.1 c2.2.2.2.2.2 hB3 r26 _ r2
      obtain ⟨la2, nc2, y1, y2, y3, y4, y5, y6, y7⟩ := d2.2 _ _ _ _ _ rfl
      have p4 := c2.sub y1
      have g2 := y1.2.2.1
      have g3 := y1.2.2.2.1
      rw [d1, obind]
      dsimp only
      unfold bk_M_statement_121
      by_cases tn : nt ≤ t2
      · rw [if_pos tn] at hq; cases hq
      rw [if_neg tn] at hq
      rw [lit_nI 313, p4.is hM' (by omega) (by omega), obind]
      dsimp only
      have o10 : s4.1 41 (3 * (la + L.length)) = nI 10 := by rw [y1.2.1.1 _ (by omega)]; exact c3.2.1
      have ax4 : rEnc (s4.1 41) (s4.2 43) nc2 la L := ax.mono (fun k hk => y1.2.1.1 k (by omega)) (fun k hk => y1.2.1.2.1 k hk) g3
      by_cases el : tk t2 = 313
      · -- with else
        rw [if_pos el] at hq
        rw [show decide (tk t2 = 313) = true from decide_eq_true el, if_neg (show ¬ b01 true = 0 by decide)]
        have p4' := p4.tset (x := s4.1 8 0 + 1) (t' := t2 + 1) (by rw [p4.eight, nI_1]) (by omega)
        obtain ⟨S5, f1, f2, f3, f4⟩ := p4'.lay (N := N) (a := 11) (b := 0) (c := 0) (by omega)
        rw [f1, obind]
        dsimp only
        unfold bk_M_statement_154
        have ix := f2.idx (j := la + L.length) (by omega)
        rw [if_neg ix.1, ix.2, p4.laid, f2.laid]
        have p6 := f2.aim (j := la + L.length) (x := nI (3 * (la2 + 1))) (by omega)
        generalize hS6 : upI S5 41 (upd (S5.1 41) (3 * (la + L.length) + 1) (nI (3 * (la2 + 1)))) = S6 at *
        have c6 : ∀ k, k < 3 * la2 → k ≠ 3 * (la + L.length) + 1 → S6.1 41 k = s4.1 41 k := fun k hk hk2 => by
          rw [← hS6]; show upd (S5.1 41) _ _ k = _; rw [upd_ne hk2, f3.1 k hk]; rfl
        have c6a : S6.1 41 (3 * (la + L.length) + 1) = nI (3 * (la2 + 1)) := by rw [← hS6]; exact upd_at _ _ _
        have c6b : S6.1 41 (3 * la2) = nI 11 := by rw [← hS6]; show upd (S5.1 41) _ _ _ = _; rw [upd_ne (by omega)]; exact f3.2.1
        have c6n : S6.2 43 = s4.2 43 := by rw [← hS6]; show S5.2 43 = _; rw [f4.2 43 (by decide)]; rfl
        have r26' : R26 P S6 S2' := y6.mono (by rw [← hS6]; show S5.1 26 = _; rw [f4.1 26 (by decide)]; rfl)
        have hB6 : Bd nt (t2 + 1) (la2 + 1) nc2 (C + (0 + C1 + w + C2)) := ⟨by omega, j2, by omega, by omega, by omega⟩
        rcases sb_some hq with ⟨f, p, r3, rfl⟩ | ⟨t3, S3', b3b, D3, C3, r3, hq⟩
        · obtain ⟨s7, h1, h2⟩ := hI.1 S6 (t2 + 1) _ nc2 _ S2' p6.1 p6.2.2.2.2.1 p6.2.2.2.2.2 hB6 r26' _ r3
          rw [h1, obind]
          have z := h2.1 f p rfl
          unfold bk_M_statement_170
          have ix2 := z.idx (j := la2) (by omega)
          dsimp only
          rw [if_neg ix2.1, ix2.2]
          unfold bk_M_statement_221
          exact ⟨_, rfl, Sp.fault (((p6.zub z).aim (by omega)).mono (by omega))⟩
        · obtain ⟨s7, h1, h2⟩ := hI.1 S6 (t2 + 1) _ nc2 _ S2' p6.1 p6.2.2.2.2.1 p6.2.2.2.2.2 hB6 r26' _ r3
          obtain ⟨la3, nc3, u1, u2, u3, u4, u5, u6, u7⟩ := h2.2 _ _ _ _ _ rfl
          have p7 := p6.sub u1
          have g4 := u1.2.2.1
          have g5 := u1.2.2.2.1
          cases hq
          rw [h1, obind]
          dsimp only
          unfold bk_M_statement_170
          have ix2 := p7.idx (j := la2) (by omega)
          rw [if_neg ix2.1, ix2.2, p7.laid]
          unfold bk_M_statement_221
          have p8 := p7.aim (j := la2) (x := nI (3 * la3)) (by omega)
          generalize hS8 : upI s7 41 (upd (s7.1 41) (3 * la2 + 1) (nI (3 * la3))) = S8 at *
          refine ⟨S8, rfl, fun _ _ z => (by cases z), fun t' S' bb D CC z => ?_⟩
          cases z
          have n8 : S8.2 43 = s7.2 43 := by rw [← hS8]; rfl
          have k8 : ∀ k, k ≠ 3 * la2 + 1 → S8.1 41 k = s7.1 41 k := fun k hk => by rw [← hS8]; exact upd_ne hk
          have k8a : S8.1 41 (3 * la2 + 1) = nI (3 * la3) := by rw [← hS8]; exact upd_at _ _ _
          have k7 : ∀ k, k < 3 * (la2 + 1) → s7.1 41 k = S6.1 41 k := fun k hk => u1.2.1.1 k hk
          have m7 : ∀ k, k < nc2 → S8.2 43 k = s4.2 43 k := fun k hk => by rw [n8, u1.2.1.2.1 k hk, c6n]
          refine ⟨la3, nc3, by rw [show C1 + w + C2 + C3 = 0 + C1 + w + C2 + C3 by omega]; exact p8, by omega, by omega, u4, by omega, u6.mono (by rw [← hS8]; rfl), fun vv n st hv hs => ?_⟩
          have ax8 : rEnc (S8.1 41) (S8.2 43) nc3 la L := ax4.mono (fun k hk => by rw [k8 k (by omega), k7 k (by omega), c6 k (by omega) (by omega)]) (fun k hk => m7 k hk) g5
          have D2r : Rg (S8.1 41) (S8.2 43) nc3 P (la + L.length + 1) la2 D2 := y7.mono (fun k k1 k2 => by rw [k8 k (by omega), k7 k (by omega), c6 k (by omega) (by omega)]) m7 g5
          have D3r : Rg (S8.1 41) (S8.2 43) nc3 P (la2 + 1) la3 D3 := u7.mono (fun k k1 k2 => by rw [k8 k (by omega)]) (fun k _ => by rw [n8]) (Nat.le_refl _)
          have q10 : S8.1 41 (3 * (la + L.length)) = nI 10 := by rw [k8 _ (by omega), k7 _ (by omega), c6 _ (by omega) (by omega)]; exact o10
          have q10a : S8.1 41 (3 * (la + L.length) + 1) = nI (3 * (la2 + 1)) := by rw [k8 _ (by omega), k7 _ (by omega)]; exact c6a
          have q11 : S8.1 41 (3 * la2) = nI 11 := by rw [k8 _ (by omega), k7 _ (by omega)]; exact c6b
          refine (ax8.val (P := P) (v := vv) (n := n) (st := st) x5 x6 (fun i q hq => (hn i q hq).1) hv hs).trans ?_
          dsimp only
          by_cases zz : xval vv L = 0
          · rw [if_pos zz]
            exact (Rt.one (b := (la2 + 1, st, n)) ⟨by show la + L.length < la2 + 1; omega, by show st.length ≤ 960; omega, Or.inr (Or.inr (Or.inl ⟨xval vv L, q10, rfl, rfl, Or.inl ⟨zz, q10a⟩⟩))⟩).trans (D3r vv n st hv hs)
          · rw [if_neg zz]
            refine (Rt.one (b := (la + L.length + 1, st, n)) ⟨by show la + L.length < la + L.length + 1; omega, by show st.length ≤ 960; omega, Or.inr (Or.inr (Or.inl ⟨xval vv L, q10, rfl, rfl, Or.inr ⟨zz, rfl⟩⟩))⟩).trans ((D2r vv n st hv hs).trans (Rt.one (b := (la3, st, D2 vv n)) ⟨by show la2 < la3; omega, by show st.length ≤ 960; omega, Or.inr (Or.inr (Or.inr (Or.inl ⟨q11, k8a, rfl⟩)))⟩))
      · -- without else
        rw [if_neg el] at hq
        cases hq
        rw [show decide (tk t2 = 313) = false from decide_eq_false el, if_pos (show b01 false = 0 from rfl)]
        have ix := p4.idx (j := la + L.length) (by omega)
        rw [if_neg ix.1, ix.2, p4.laid]
        unfold bk_M_statement_221
        have p8 := p4.aim (j := la + L.length) (x := nI (3 * la2)) (by omega)
        generalize hS8 : upI s4 41 (upd (s4.1 41) (3 * (la + L.length) + 1) (nI (3 * la2))) = S8 at *
        refine ⟨S8, rfl, fun _ _ z => (by cases z), fun t' S' bb D CC z => ?_⟩
        cases z
        have n8 : S8.2 43 = s4.2 43 := by rw [← hS8]; rfl
        have k8 : ∀ k, k ≠ 3 * (la + L.length) + 1 → S8.1 41 k = s4.1 41 k := fun k hk => by rw [← hS8]; exact upd_ne hk
        have k8a : S8.1 41 (3 * (la + L.length) + 1) = nI (3 * la2) := by rw [← hS8]; exact upd_at _ _ _
        refine ⟨la2, nc2, by rw [show C1 + w + C2 = 0 + C1 + w + C2 by omega]; exact p8, by omega, by omega, y4, by omega, y6.mono (by rw [← hS8]; rfl), fun vv n st hv hs => ?_⟩
        have ax8 : rEnc (S8.1 41) (S8.2 43) nc2 la L := ax4.mono (fun k hk => k8 k (by omega)) (fun k _ => by rw [n8]) (Nat.le_refl _)
        have D2r : Rg (S8.1 41) (S8.2 43) nc2 P (la + L.length + 1) la2 D2 := y7.mono (fun k k1 k2 => k8 k (by omega)) (fun k _ => by rw [n8]) (Nat.le_refl _)
        have q10 : S8.1 41 (3 * (la + L.length)) = nI 10 := by rw [k8 _ (by omega)]; exact o10
        refine (ax8.val (P := P) (v := vv) (n := n) (st := st) x5 x6 (fun i q hq => (hn i q hq).1) hv hs).trans ?_
        dsimp only
        by_cases zz : xval vv L = 0
        · rw [if_pos zz]
          exact Rt.one (b := (la2, st, n)) ⟨by show la + L.length < la2; omega, by show st.length ≤ 960; omega, Or.inr (Or.inr (Or.inl ⟨xval vv L, q10, rfl, rfl, Or.inl ⟨zz, k8a⟩⟩))⟩
        · rw [if_neg zz]
          exact (Rt.one (b := (la + L.length + 1, st, n)) ⟨by show la + L.length < la + L.length + 1; omega, by show st.length ≤ 960; omega, Or.inr (Or.inr (Or.inl ⟨xval vv L, q10, rfl, rfl, Or.inr ⟨zz, rfl⟩⟩))⟩).trans (D2r vv n st hv hs)
end MIF
