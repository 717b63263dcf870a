/-! The reference: statements, whole. -/
section MSTM
variable {tk pl vl wi : Nat → Nat} {nm : Nat → Option (Nat × Nat)} {nt m N N0 : Nat} {rg : Nat → Bool} {an : Nat} {P : pw} {s0 : ms}
theorem case_M {r rc : ms → Option (Unit × ms)} {sS : Nat → (Nat → Nat) → sr} {b : Nat} (hM : MC tk pl vl wi nm nt m N N0 rg an P s0) (hI : StI tk pl vl wi nm nt m P s0 b r sS) (hb : b + 40 < 30000) (hb2 : 21000 ≤ b) (s : ms) (t la nc C : Nat) (S : Nat → Nat) (ht : t < nt) (e : SE2 s0 s) (hX : Xm s 0 t la nc 0 0) (hC : s.2 45 m = lN C) (hB : Bd nt t la nc C) (hR : R26 P s S) : Sx 2 (b + 8) m nt P s0 s t la nc C (fb_M_caseOf N r rc s) (sCa tk pl vl wi nm nt N0 sS t S) := by
  intro q hq
  have hM' := hM
  obtain ⟨hT, hS, hN, hN0, hl, hn, -⟩ := hM
  obtain ⟨j1, j2, j3, j4, j5⟩ := id hB
  have p0 : Ps m s0 s la nc C s t la nc 0 := Ps.start e hX hC
  have p1 : Ps m s0 s la nc C (upI s 8 (fun _ => s.1 8 0 + 2)) (t + 2) la nc 0 := p0.tset (by rw [p0.eight, lit_nI 2, nI_add]) (by omega)
  unfold sCa at hq
  unfold fb_M_caseOf
  rcases sx_some hq with ⟨f, p, r1, rfl⟩ | ⟨w, t1, L, C1, r1, hq⟩
  · obtain ⟨v, S1, a1, a2, a3, a4, a5⟩ := p1.exp hT hS hN hN0 hl hM'.wid ⟨by omega, j2, by omega, by omega, by omega⟩ r1
    rw [a1, obind]
    dsimp only
    unfold bk_M_caseOf_14
    obtain ⟨tz, lz, nz, zl, z1, z2, z3⟩ := (a4 f p rfl).zl
    have zl2 := zl.tset (x := S1.1 8 0 + 1) (t' := tz + 1) (by rw [zl.eight, nI_1]) (by omega)
    rw [show hd_M_caseOf_27 N r rc N = hd_M_caseOf_27 N r rc (N0 + 1) by rw [hN0]]
    obtain ⟨S3, b1, b2⟩ := c27Z (N := N) (r := r) (rc := rc) (n := N0) (w := v) (x2 := -1) (E := []) zl2 (by omega) (by omega) rfl (fun j hj => by simp at hj) (by simp; omega)
    exact ⟨S3, b1, Sp.fault (b2.zs ⟨by omega, by omega, by omega⟩)⟩
  · obtain ⟨v, S1, a1, a2, a3, a4, a5⟩ := p1.exp hT hS hN hN0 hl hM'.wid ⟨by omega, j2, by omega, by omega, by omega⟩ r1
    obtain ⟨v1, w1, w2, x1, x2, x3, x4, x5, x6, nc1, x7, x8, x9, x10⟩ := a5 _ _ _ _ rfl
    rw [a1, obind]
    dsimp only
    unfold bk_M_caseOf_14
    rw [v1, show hd_M_caseOf_27 N r rc N = hd_M_caseOf_27 N r rc (N0 + 1) by rw [hN0]]
    have p2 := x9.tset (x := S1.1 8 0 + 1) (t' := t1 + 1) (by rw [x9.eight, nI_1]) (by omega)
    have r2 : R26 P (upI S1 8 (fun _ => S1.1 8 0 + 1)) S := hR.mono (by show S1.1 26 = _; rw [a2.1 26 (by decide)]; rfl)
    have run := fun q => cas_M (r := r) (rc := rc) (w := w) hM' hI hb hb2 w2 N0 (upI S1 8 (fun _ => S1.1 8 0 + 1)) (t1 + 1) (la + L.length) nc1 (0 + C1) [] (-1) S p2 ⟨by omega, j2, by omega, by omega, by omega⟩ r2 rfl (fun j hj => by simp at hj) (by simp) (by omega) q
    match ec : sCl tk pl vl wi nt N0 sS w N0 (t1 + 1) S with
    | none => rw [ec] at hq; cases hq
    | some (.inl (f, p)) =>
      rw [ec] at hq
      cases hq
      obtain ⟨s3, b1, b2⟩ := run _ ec
      exact ⟨s3, b1, Sp.fault (b2.1 f p rfl)⟩
    | some (.inr (t2, S2, b2b, F, C2)) =>
      rw [ec] at hq
      cases hq
      obtain ⟨s3, b1, b2⟩ := run _ ec
      refine ⟨s3, b1, fun _ _ z => (by cases z), fun t' S' bb D CC z => ?_⟩
      cases z
      obtain ⟨la3, nc3, h1, h2, h3, h4, h5, h6, h7, h8, h9, h10, h11, h12⟩ := b2.2 _ _ _ _ _ rfl
      refine ⟨la3, nc3, by rw [show C1 + C2 = 0 + C1 + C2 by omega]; exact h1, by omega, by omega, h6, by omega, h8, fun vv n st hv hs => ?_⟩
      have ax : rEnc (s3.1 41) (s3.2 43) nc3 la L := x10.mono (fun k hk => h10 k hk (fun j hj => by simp at hj)) (fun k hk => h11 k hk) h4
      exact (ax.val (P := P) (v := vv) (n := n) (st := st) x5 x6 (fun i q hq => (hn i q hq).1) hv hs).trans (h12 vv n st _ hv hs)
/-- statements and cases of depth d -/
theorem stm_all (hM : MC tk pl vl wi nm nt m N N0 rg an P s0) : ∀ d, d ≤ 399 → StI tk pl vl wi nm nt m P s0 (21030 + 20 * d) (sg_M_statement N (d + 1)).1 (sT tk pl vl wi nm nt rg N0 an d).1 ∧ (∀ (s : ms) (t la nc C : Nat) (S : Nat → Nat), t < nt → SE2 s0 s → Xm s 0 t la nc 0 0 → s.2 45 m = lN C → Bd nt t la nc C → R26 P s S → Sx 2 (21030 + 20 * d) m nt P s0 s t la nc C ((sg_M_statement N (d + 1)).2 s) ((sT tk pl vl wi nm nt rg N0 an d).2 t S)) := by
  intro d
  have rz : ∀ d (s : ms), ¬ s.1 9 0 = 0 → (sg_M_statement N (d + 1)).1 s = some ((), s) := fun d s h => by
    show fb_M_statement N _ _ s = _
    unfold fb_M_statement
    rw [if_neg h]
  induction d with
  | zero =>
    intro _
    exact ⟨⟨fun s t la nc C S _ _ _ _ _ q hq => (by cases hq), rz 0⟩, fun s t la nc C S _ _ _ _ _ _ q hq => (by cases hq)⟩
  | succ d ih =>
    intro hd
    obtain ⟨iS, iC⟩ := ih (by omega)
    refine ⟨⟨fun s t la nc C S e hX hC hB hR q hq => ?_, rz (d + 1)⟩, fun s t la nc C S ht e hX hC hB hR q hq => ?_⟩
    · have hq : sS1 tk pl vl wi nm nt rg N0 an (sT tk pl vl wi nm nt rg N0 an d).1 (sT tk pl vl wi nm nt rg N0 an d).2 t S = some q := hq
      show ∃ s', fb_M_statement N (sg_M_statement N (d + 1)).1 (sg_M_statement N (d + 1)).2 s = _ ∧ _
      obtain ⟨j1, j2, j3, j4, j5⟩ := id hB
      have p0 : Ps m s0 s la nc C s t la nc 0 := Ps.start e hX hC
      unfold sS1 at hq
      by_cases tn : nt ≤ t
      · rw [if_pos tn] at hq; cases hq
      rw [if_neg tn] at hq
      have kl : tk t < 405 := hM.1.lt (by omega)
      have kk : fn_M_kind N s = some (nI (tk t), s) := p0.kind hM (by omega)
      have up : ∀ {b b' s'}, b ≤ b' → Sp 2 b m nt P s0 s t la nc C s' q → Sp 2 b' m nt P s0 s t la nc C s' q := fun hb g => ⟨fun f p z => (g.1 f p z).mono hb, g.2⟩
      unfold fb_M_statement
      rw [if_pos p0.nine, kk, obind]
      dsimp only
      by_cases k0 : tk t = 310
      · rw [if_pos k0] at hq
        rw [if_pos (show nI (tk t) = 310 by rw [k0]; rfl), show hd_M_statement_28 N (sg_M_statement N (d + 1)).1 (sg_M_statement N (d + 1)).2 N = hd_M_statement_28 N (sg_M_statement N (d + 1)).1 (sg_M_statement N (d + 1)).2 (N0 + 1) by rw [hM.2.2.2.1]]
        have p1 := p0.tset (x := s.1 8 0 + 1) (t' := t + 1) (by rw [p0.eight, nI_1]) (by omega)
        obtain ⟨s', a1, a2⟩ := beg_M (rc := (sg_M_statement N (d + 1)).2) hM iS (by omega) N0 (upI s 8 (fun _ => s.1 8 0 + 1)) (t + 1) la nc C S p1.1 p1.2.2.2.2.1 (by simpa using p1.2.2.2.2.2) ⟨by omega, j2, by omega, by omega, by omega⟩ hR q hq
        refine ⟨s', a1, fun f p z => (p1.zub (a2.1 f p z)).mono (by omega), fun t' S' bb D CC z => ?_⟩
        obtain ⟨la', nc', y1, y2, y3, y4, y5, y6, y7⟩ := a2.2 _ _ _ _ _ z
        refine ⟨la', nc', ?_, by omega, by omega, y4, by omega, y6, y7⟩
        have := p1.sub y1
        rw [Nat.zero_add] at this; exact this
      rw [if_neg k0] at hq
      rw [if_neg (show ¬ nI (tk t) = 310 from fun z => k0 ((nI_eq (b := 310) (by omega) (by omega)).mp z)), kk, obind]
      dsimp only
      by_cases k2 : tk t = 312
      · rw [if_pos k2] at hq
        rw [if_pos (show nI (tk t) = 312 by rw [k2]; rfl)]
        obtain ⟨s', a1, a2⟩ := if_M (rc := (sg_M_statement N (d + 1)).2) hM iS (by omega) (by omega) s t la nc C S (by omega) e hX hC hB hR q hq
        exact ⟨s', a1, up (by omega) a2⟩
      rw [if_neg k2] at hq
      rw [if_neg (show ¬ nI (tk t) = 312 from fun z => k2 ((nI_eq (b := 312) (by omega) (by omega)).mp z)), kk, obind]
      dsimp only
      by_cases k4 : tk t = 314
      · rw [if_pos k4] at hq
        rw [if_pos (show nI (tk t) = 314 by rw [k4]; rfl)]
        obtain ⟨s', a1, a2⟩ := iC s t la nc C S (by omega) e hX hC hB hR q hq
        rw [a1, obind]
        exact ⟨s', rfl, up (by omega) a2⟩
      rw [if_neg k4] at hq
      rw [if_neg (show ¬ nI (tk t) = 314 from fun z => k4 ((nI_eq (b := 314) (by omega) (by omega)).mp z))]
      obtain ⟨s', a1, a2⟩ := set_M hM s t la nc C S (by omega) e hX hC hB hR q hq
      rw [a1, obind]
      exact ⟨s', rfl, up (by omega) a2⟩
    · obtain ⟨s', a1, a2⟩ := case_M (rc := (sg_M_statement N (d + 1)).2) hM iS (by omega) (by omega) s t la nc C S ht e hX hC hB hR q hq
      exact ⟨s', a1, fun f p z => (a2.1 f p z).mono (by omega), a2.2⟩
/-- a statement of the reference -/
theorem stm_M (hM : MC tk pl vl wi nm nt m N N0 rg an P s0) (s : ms) (t la nc C : Nat) (S : Nat → Nat) (e : SE2 s0 s) (hX : Xm s 0 t la nc 0 0) (hC : s.2 45 m = lN C) (hB : Bd nt t la nc C) (hR : R26 P s S) : Sx 2 29010 m nt P s0 s t la nc C (fn_M_statement N s) ((sT tk pl vl wi nm nt rg N0 an 399).1 t S) := (stm_all hM 399 (by omega)).1.1 s t la nc C S e hX hC hB hR
end MSTM
