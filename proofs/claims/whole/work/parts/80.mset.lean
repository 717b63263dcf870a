/-! The reference: a register is set. -/
def R26 (P : pw) (s : ms) (S : Nat → Nat) : Prop := (∀ k, k < 11000 → (P k).1 → s.1 26 k = nI (S k)) ∧ ∀ k, S k ≤ 20000
theorem R26.mono {P : pw} {s s' : ms} {S : Nat → Nat} (h : R26 P s S) (e : s'.1 26 = s.1 26) : R26 P s' S := ⟨by rw [e]; exact h.1, h.2⟩
/-- what statements stand on -/
def MC (tk pl vl wi : Nat → Nat) (nm : Nat → Option (Nat × Nat)) (nt m N N0 : Nat) (rg : Nat → Bool) (an : Nat) (P : pw) (s0 : ms) : Prop :=
  Tv tk pl nt ∧ SM2 tk pl vl wi nm nt m N s0 ∧ 13002 < N ∧ N = N0 + 1 ∧ (∀ i, tk i = 402 → vl i < 2 ^ wi i ∧ 1 ≤ wi i ∧ wi i ≤ 64) ∧ (∀ i q, nm i = some q → ((P q.1).1 ∧ (P q.1).2 = q.2) ∧ (rg q.1 = true ↔ s0.1 21 q.1 = 2 ∨ s0.1 21 q.1 = 4)) ∧ s0.1 38 0 = nI (an - 1) ∧ 1 ≤ an ∧ an ≤ 20000
/-- where a statement of the reference ends -/
def Sp (e b m nt : Nat) (P : pw) (s0 s : ms) (t la nc C : Nat) (s' : ms) (q : Sum (Nat × Nat) (Nat × (Nat → Nat) × Bool × DT × Nat)) : Prop :=
  (∀ f p, q = .inl (f, p) → Zs m s0 s la nc s' f p b) ∧ (∀ t' S' bb D CC, q = .inr (t', S', bb, D, CC) → ∃ la' nc', Ps m s0 s la nc C s' t' la' nc' CC ∧ la' + e + t ≤ la + t' ∧ nc' + e + t ≤ nc + t' ∧ t' ≤ nt ∧ CC + 5000 * t ≤ 5000 * t' ∧ R26 P s' S' ∧ Rg (s'.1 41) (s'.2 43) nc' P la la' D)
def Sx (e b m nt : Nat) (P : pw) (s0 s : ms) (t la nc C : Nat) (o : Option (Unit × ms)) (r : sr) : Prop := ∀ q, r = some q → ∃ s', o = some ((), s') ∧ Sp e b m nt P s0 s t la nc C s' q
section MSET
variable {tk pl vl wi : Nat → Nat} {nm : Nat → Option (Nat × Nat)} {nt m N N0 : Nat} {rg : Nat → Bool} {an : Nat} {P : pw} {s0 : ms}
theorem Sp.fault {e b t la nc C f p : Nat} {s s' : ms} (h : Zs m s0 s la nc s' f p b) : Sp e b m nt P s0 s t la nc C s' (.inl (f, p)) := ⟨fun _ _ z => (by cases z; exact h), fun _ _ _ _ _ z => (by cases z)⟩
theorem MC.wid (h : MC tk pl vl wi nm nt m N N0 rg an P s0) : ∀ i q, nm i = some q → 1 ≤ q.2 ∧ q.2 ≤ 64 := fun i q hq => ((h.2.1 s0 Eb.rfl).2.2.2.2.2.2.2.1 i q hq).2.2
theorem i64nI {n : Nat} (h : n < 2 ^ 31) : Int32.toInt64 (nI n) = lN n := by
  apply Int64.toInt_inj.mp
  rw [Int32.toInt_toInt64]
  unfold nI lN
  rw [Int32.toInt_ofNat_of_lt (by omega), Int64.toInt_ofNat_of_lt (by omega)]
/-- behind the part: in zombie mode -/
theorem set126Z {b f p la0 nc0 : Nat} {s S : ms} {x1 x2 : Int32} (hM : MC tk pl vl wi nm nt m N N0 rg an P s0) (h : Zs m s0 s la0 nc0 S f p b) (hb : 13000 ≤ b) (hb2 : b + 10 < 30000) : ∃ s', bk_M_setting_126 N x1 x2 S = some ((), s') ∧ Zs m s0 s la0 nc0 s' f p (b + 3) := by
  obtain ⟨hT, hS, hN, -⟩ := hM
  obtain ⟨t, e8, ht⟩ := h.eight
  unfold bk_M_setting_126
  rw [e8, if_neg (nI_in (show t < 65540 by omega) (by decide)), nI_clamp (by omega)]
  have h1 := (h.mono (b' := b + 1) (by omega)).tset (x := nI t + 1) (t' := t + 1) (nI_1 t) (by omega) (by omega)
  obtain ⟨v, S1, a1, a2, a3⟩ := h1.exp hS hN (by omega)
  rw [a1, obind]
  dsimp only
  unfold bk_M_setting_150
  rw [if_neg a2.nine]
  unfold bk_M_setting_188
  obtain ⟨S2, b1, b2, b3⟩ := a2.cost (n := Int32.toInt64 (((x2 / 256) - (x2 - x2 / 256 * 256)) + 1)) hS
  rw [b1, obind]
  dsimp only
  obtain ⟨S3, la, c1, c2, -⟩ := b2.lay (N := N) (x := 9) (y := x1) (z := x2) (by omega)
  rw [c1, obind]
  exact ⟨_, rfl, c2.more (k := 1) (by omega)⟩
/-- behind the part -/
theorem set126 {d h l t1 la0 nc0 C0 : Nat} {S : Nat → Nat} {s S1 : ms} (hM : MC tk pl vl wi nm nt m N N0 rg an P s0) (hp : Ps m s0 s la0 nc0 C0 S1 t1 la0 nc0 0) (hB : Bd nt t1 la0 nc0 C0) (hd : (P d).1) (hd2 : d < 11000) (hlh : l ≤ h) (hh : h < 64) (hR : R26 P S1 (updN S d an)) : ∀ q, sSe tk pl vl wi nm nt N0 an d h l t1 S = some q → ∃ s', bk_M_setting_126 N (nI d) (nI (256 * h + l)) S1 = some ((), s') ∧ Sp 1 21010 m nt P s0 s t1 la0 nc0 C0 s' q := by
  intro q hq
  have hM' := hM
  obtain ⟨hT, hS, hN, hN0, hl, hn, -⟩ := hM
  obtain ⟨j1, j2, j3, j4, j5⟩ := id hB
  unfold sSe at hq
  by_cases tn : nt ≤ t1
  · rw [if_pos tn] at hq; cases hq
  rw [if_neg tn] at hq
  have sm := hS S1 hp.1
  have e5 : S1.1 5 t1 = nI (pl t1) := (sm.2.2.1 t1 (by omega)).2
  unfold bk_M_setting_126
  rw [hp.eight, if_neg (nI_in (show t1 < 65540 by omega) (by decide)), nI_clamp (by omega), e5]
  have h1 := hp.tset (x := nI t1 + 1) (t' := t1 + 1) (nI_1 t1) (by omega)
  have x256 : (nI (256 * h + l) / 256 - (nI (256 * h + l) - nI (256 * h + l) / 256 * 256)) + 1 = nI (h - l + 1) := by
    rw [nI_rem256 (by omega), nI_div256 (by omega), show (256 * h + l) / 256 = h by omega, show (256 * h + l) % 256 = l by omega, nI_sub hlh, nI_1]
  -- cost, the op, the token behind
  have fin : ∀ (S3 : ms) (t la nc CC : Nat), Ps m s0 s la0 nc0 C0 S3 t la nc CC → la + 1 < 33000 → t + 1 < 33000 → ∃ S5, bk_M_setting_188 N (nI d) (nI (256 * h + l)) (nI (h - l + 1)) S3 = some ((), S5) ∧ Ps m s0 s la0 nc0 C0 S5 (t + 1) (la + 1) nc (CC + (h - l + 1)) ∧ (∀ k, k < 3 * la → S5.1 41 k = S3.1 41 k) ∧ S5.1 41 (3 * la) = nI 9 ∧ S5.1 41 (3 * la + 1) = nI d ∧ S5.1 41 (3 * la + 2) = nI (256 * h + l) ∧ S5.2 43 = S3.2 43 ∧ S5.1 26 = S3.1 26 := by
    intro S3 t la nc CC g1 g2 g3
    unfold bk_M_setting_188
    obtain ⟨S4, b1, b2, b3⟩ := g1.cost (n := h - l + 1) hS
    rw [i64nI (by omega), b1, obind]
    dsimp only
    obtain ⟨S5, c1, c2, c3, c4⟩ := b2.lay (N := N) (a := 9) (b := nI d) (c := nI (256 * h + l)) g2
    rw [c1, obind]
    refine ⟨_, rfl, c2.tset (by show S5.1 8 0 + 1 = _; rw [c2.eight, nI_1]) (by omega), fun k hk => ?_, c3.2.1, c3.2.2.1, c3.2.2.2, ?_, ?_⟩
    · show S5.1 41 k = _
      rw [c3.1 k hk, b3.1 41 (by decide)]
    · show S5.2 43 = _
      rw [c4.2 43 (by decide), b3.2 43 (by decide)]
    · show S5.1 26 = _
      rw [c4.1 26 (by decide), b3.1 26 (by decide)]
  match e : eF tk pl vl wi nm nt N0 (t1 + 1), hq with
  | none, hq => cases hq
  | some (.inl (f, p)), hq =>
    cases hq
    obtain ⟨v, S2, a1, a2, a3, a4, a5⟩ := h1.exp hT hS hN hN0 hl hM'.wid ⟨by omega, j2, by omega, by omega, by omega⟩ e
    rw [a1, obind]
    dsimp only
    have z := a4 f p rfl
    unfold bk_M_setting_150
    rw [if_neg z.nine, x256]
    unfold bk_M_setting_188
    obtain ⟨S4, b1, b2, b3⟩ := z.cost (n := Int32.toInt64 (nI (h - l + 1))) hS
    rw [b1, obind]
    dsimp only
    obtain ⟨S5, la, c1, c2, -⟩ := b2.lay (N := N) (x := 9) (y := nI d) (z := nI (256 * h + l)) (by omega)
    rw [c1, obind]
    exact ⟨_, rfl, Sp.fault ((c2.more (k := 1) (by omega)).mono (by omega))⟩
  | some (.inr (w, t2, L, C2)), hq =>
    obtain ⟨v, S2, a1, a2, a3, a4, a5⟩ := h1.exp hT hS hN hN0 hl hM'.wid ⟨by omega, j2, by omega, by omega, by omega⟩ e
    obtain ⟨v1, w1, w2, x1, x2, x3, x4, x5, x6, nc', x7, x8, x9, x10⟩ := a5 _ _ _ _ rfl
    rw [a1, obind]
    dsimp only
    unfold bk_M_setting_150
    rw [if_pos x9.nine, x256, v1]
    have hq : (if w = h - l + 1 then sok (t2 + 1) (updN S d an) true (fun v n => vp_updL n d (aSt h l (n d) (xval v L))) (C2 + w) else sno 30 (pl t1)) = some q := hq
    by_cases ww : w = h - l + 1
    · rw [if_pos ww] at hq
      cases hq
      rw [if_pos (by rw [ww])]
      obtain ⟨S5, f1, f2, f3, f4, f5, f6, f7, f8⟩ := fin S2 t2 (la0 + L.length) nc' (0 + C2) x9 (by omega) (by omega)
      refine ⟨S5, f1, fun _ _ z => (by cases z), fun t' S' bb D CC z => ?_⟩
      cases z
      refine ⟨la0 + L.length + 1, nc', by rw [Nat.zero_add, ← ww] at f2; exact f2, by omega, by omega, by omega, by omega, hR.mono ?_, fun vv n st hv hs => ?_⟩
      · rw [f8, a2.1 26 (by decide)]; rfl
      · have r1 : rEnc (S5.1 41) (S5.2 43) nc' la0 L := x10.mono (fun k hk => f3 k hk) (fun k _ => by rw [f7]) (Nat.le_refl _)
        have r2 := r1.val (P := P) (v := vv) (n := n) (st := st) x5 x6 (fun i q hq => (hn i q hq).1) hv hs
        refine r2.trans (Rt.one ⟨by show la0 + L.length < la0 + L.length + 1; omega, by show st.length ≤ 960; omega, Or.inr (Or.inl ⟨d, h, l, xval vv L, f4, f5, f6, hlh, hh, hd, rfl, rfl, rfl⟩)⟩)
    · rw [if_neg ww] at hq
      cases hq
      rw [if_neg (fun z => ww ((nI_eq (by omega) (by omega)).mp z))]
      obtain ⟨S3, b1, b2, b3⟩ := x9.fail (N := N) (w := 30) (p := pl t1) (b := 21000) (by decide) ⟨by omega, by omega, by omega⟩
      rw [show fn_M_fail N 30 (nI (pl t1)) S2 = some ((), S3) from b1, obind]
      dsimp only
      unfold bk_M_setting_188
      obtain ⟨S4, c1, c2, c3⟩ := b2.cost (n := Int32.toInt64 (nI (h - l + 1))) hS
      rw [c1, obind]
      dsimp only
      obtain ⟨S5, la, d1, d2, -⟩ := c2.lay (N := N) (x := 9) (y := nI d) (z := nI (256 * h + l)) (by omega)
      rw [d1, obind]
      have z := (d2.more (k := 1) (by omega)).mono (b' := 21010) (by decide)
      exact ⟨_, rfl, Sp.fault z⟩
end MSET
