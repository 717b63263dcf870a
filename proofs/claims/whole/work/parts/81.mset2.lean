/-! The reference: a register is set, from its name on. -/
section MSET2
variable {tk pl vl wi : Nat → Nat} {nm : Nat → Option (Nat × Nat)} {nt m N N0 : Nat} {rg : Nat → Bool} {an : Nat} {P : pw} {s0 : ms}
theorem partZ {S : ms} {f t la nc d w h l t2 : Nat} (T : Tv tk pl nt) (hS : SM tk pl vl wi nm nt m N S) (hX : Xm S f t la nc 0 0) (hf : 0 < f) (ht : t < nt) (h91 : tk t = 91) (h401 : tk (t + 1) = 401) (hp : ptw tk vl nt t = some (h, l, t2)) (hd : d < 11000) : t2 ≤ nt + 1 ∧ ∃ v S', fn_M_part N (nI d) S = some (v, S') ∧ Eb [8, 87] [] S S' ∧ S'.1 8 0 = nI t2 := by
  have l1 := T.2.1
  have t1n := T.more ht h91 (by decide) (by decide)
  have t2n := T.more t1n h401 (by decide) (by decide)
  have k2 : tk (t + 2) < 405 := T.lt t2n
  have v1 := (hS.2.2.2.2.2.2.2.2 (t + 1) t1n).1 h401
  obtain ⟨g, hg⟩ := hS.2.2.2.2.1 S Eb.rfl (t + 1) t1n (Or.inl h401)
  have e5 : S.1 5 t = nI (pl t) := (hS.2.2.1 _ ht).2
  have e8 : S.1 8 0 = nI t := hX.2.2.1
  have fz : ∀ S' : ms, S'.1 9 0 = nI f → ∀ x y, fn_M_fail N x y S' = some ((), S') := fun S' e x y => failZ_M e hf hX.2.1
  have fin : ∀ (S' : ms) (x2 x3 x4 : Int32) (tt : Nat), Eb [8, 87] [] S S' → S'.1 8 0 = nI tt → ∃ v S'', bk_M_part_67 N (nI d) x2 x3 x4 S' = some (v, S'') ∧ Eb [8, 87] [] S S'' ∧ S''.1 8 0 = nI (tt + 1) := by
    intro S' x2 x3 x4 tt e q
    have e9 : (upI S' 8 (fun _ => S'.1 8 0 + 1)).1 9 0 = nI f := by show S'.1 9 0 = _; rw [e.1 9 (by decide)]; exact hX.1
    unfold bk_M_part_67 bk_M_part_93
    rw [fz _ e9, obind]
    have done : Eb [8, 87] [] S (upI S' 8 (fun _ => S'.1 8 0 + 1)) ∧ (upI S' 8 (fun _ => S'.1 8 0 + 1)).1 8 0 = nI (tt + 1) := ⟨e.upI (by decide), by show S'.1 8 0 + 1 = _; rw [q, nI_1]⟩
    by_cases c : x3 < x4
    · rw [if_pos c]; exact ⟨_, _, rfl, done⟩
    rw [if_neg c, if_neg (nI_in hd (by decide))]
    by_cases c2 : x3 < S'.1 20 (Int32.toNatClampNeg (nI d))
    · rw [if_pos c2]; exact ⟨_, _, rfl, done⟩
    · rw [if_neg c2]; exact ⟨_, _, rfl, done⟩
  unfold fn_M_part
  rw [e8, if_neg (nI_in (show t < 65540 by omega) (by decide)), nI_clamp (by omega), nI_1, hg, obind]
  dsimp only
  have e8' : (upI S 87 g).1 8 0 = nI t := e8
  have X1 : Xm (upI (upI S 87 g) 8 (fun _ => nI (t + 2))) f (t + 2) la nc 0 0 := (hX.any (Eb.rfl.upI (by decide))).tset rfl (by omega)
  have sm1 : SM tk pl vl wi nm nt m N (upI (upI S 87 g) 8 (fun _ => nI (t + 2))) := hS.mono ((Eb.rfl.upI (by decide)).upI (by decide))
  rw [e8', lit_nI 2, nI_add, kind_M sm1 X1 t2n, obind]
  dsimp only
  unfold ptw at hp
  by_cases c : tk (t + 2) = 58
  · rw [if_pos c] at hp
    have t3n := T.more t2n c (by decide) (by decide)
    by_cases c2 : nt ≤ t + 4 ∨ tk (t + 3) ≠ 401
    · rw [if_pos c2] at hp; cases hp
    · rw [if_neg c2] at hp
      cases hp
      have h401' : tk (t + 3) = 401 := by
        by_cases z : tk (t + 3) = 401
        · exact z
        · exact absurd (Or.inr z) c2
      obtain ⟨g2, hg2⟩ := sm1.2.2.2.2.1 _ Eb.rfl (t + 3) t3n (Or.inl h401')
      rw [if_pos (show nI (tk (t + 2)) = 58 by rw [c]; rfl), X1.2.2.1, nI_1, show t + 2 + 1 = t + 3 by omega, hg2, obind]
      dsimp only
      have e82 : (upI (upI (upI S 87 g) 8 (fun _ => nI (t + 2))) 87 g2).1 8 0 = nI (t + 2) := rfl
      rw [e82, nI_add]
      exact ⟨by omega, fin _ _ _ _ (t + 4) ((((Eb.rfl.upI (by decide)).upI (by decide)).upI (by decide)).upI (by decide)) rfl⟩
  · rw [if_neg c] at hp
    cases hp
    rw [if_neg (show ¬ nI (tk (t + 2)) = 58 from fun z => c ((nI_eq (b := 58) (by omega) (by omega)).mp z))]
    exact ⟨by omega, fin _ _ _ _ (t + 2) ((Eb.rfl.upI (by decide)).upI (by decide)) rfl⟩
theorem set_M (hM : MC tk pl vl wi nm nt m N N0 rg an P s0) : ∀ (s : ms) (t la nc C : Nat) (S : Nat → Nat), t < nt → SE2 s0 s → Xm s 0 t la nc 0 0 → s.2 45 m = lN C → Bd nt t la nc C → R26 P s S → Sx 2 21020 m nt P s0 s t la nc C (fn_M_setting N s) (sSet tk pl vl wi nm nt rg N0 an t S) := by
  intro s t la nc C S ht e hX hC hB hR q hq
  have hM' := hM
  obtain ⟨hT, hS, hN, hN0, hl, hn, h38, an1, an2⟩ := hM
  obtain ⟨j1, j2, j3, j4, j5⟩ := id hB
  have sm := hS s e
  have p0 : Ps m s0 s la nc C s t la nc 0 := Ps.start e hX hC
  unfold sSet at hq
  by_cases c0 : tk t ≠ 400 ∨ (tk (t + 1) = 91 ∧ (tk (t + 2) ≠ 401 ∨ ptw tk vl nt (t + 1) = none))
  · rw [if_pos c0] at hq; cases hq
  rw [if_neg c0] at hq
  have c400 : tk t = 400 := by
    by_cases z : tk t = 400
    · exact z
    · exact absurd (Or.inl z) c0
  have c91 : tk (t + 1) = 91 → tk (t + 2) = 401 ∧ ∃ p, ptw tk vl nt (t + 1) = some p := fun z => by
    constructor
    · by_cases y : tk (t + 2) = 401
      · exact y
      · exact absurd (Or.inr ⟨z, Or.inl y⟩) c0
    · match y : ptw tk vl nt (t + 1) with
      | none => exact absurd (Or.inr ⟨z, Or.inr y⟩) c0
      | some p => exact ⟨p, rfl⟩
  have t1n := hT.more ht c400 (by decide) (by decide)
  have e5 : s.1 5 t = nI (pl t) := (sm.2.2.1 t ht).2
  have k21 : ∃ s', bk_M_setting_21 N s = some ((), s') ∧ Zs m s0 s la nc s' 22 (pl t) 21020 := by
    unfold bk_M_setting_21
    rw [p0.eight, if_neg (nI_in (show t < 65540 by omega) (by decide)), nI_clamp (by omega), e5]
    obtain ⟨S', b1, b2, b3⟩ := p0.fail (N := N) (w := 22) (p := pl t) (b := 21020) (by decide) ⟨by omega, by omega, by omega⟩
    rw [show fn_M_fail N 22 (nI (pl t)) s = some ((), S') from b1, obind]
    exact ⟨S', rfl, b2⟩
  unfold fn_M_setting
  rw [p0.eight, sm.2.2.2.2.2.2.1 s Eb.rfl t ht c400, obind]
  dsimp only
  match en : nm t, hq with
  | none, hq =>
    cases hq
    rw [if_pos (show (-1 : Int32) < 0 by decide)]
    obtain ⟨s', b1, b2⟩ := k21
    exact ⟨s', b1, Sp.fault b2⟩
  | some (d, w), hq =>
    dsimp only at hq ⊢
    have nd0 := sm.2.2.2.2.2.2.2.1 t (d, w) en
    dsimp only at nd0
    have hn0 := hn t (d, w) en
    have e21 : s.1 21 = s0.1 21 := e.1 21 (by decide)
    rw [if_neg (nI_pos (by omega))]
    have reg : fn_M_isRegister N (nI d) s = some (b01 (rg d), s) := by
      unfold fn_M_isRegister
      rw [if_neg (nI_in nd0.1 (by decide)), nI_clamp (by omega), e21]
      have iff := hn0.2
      by_cases z : s0.1 21 d = 2
      · rw [if_pos z, iff.mpr (Or.inl z)]; rfl
      · rw [if_neg z, if_neg (nI_inN nd0.1 (by omega))]
        by_cases y : s0.1 21 d = 4
        · rw [if_pos y, iff.mpr (Or.inr y)]; rfl
        · rw [if_neg y]
          have : rg d = false := by
            cases g : rg d
            · rfl
            · rcases iff.mp g with q | q
              · exact absurd q z
              · exact absurd q y
          rw [this]; rfl
    rw [reg, obind]
    dsimp only
    by_cases rgd : rg d = false
    · rw [rgd, if_pos (show b01 false = 0 from rfl)]
      rw [if_pos rgd] at hq
      cases hq
      obtain ⟨s', b1, b2⟩ := k21
      exact ⟨s', b1, Sp.fault b2⟩
    rw [if_neg rgd] at hq
    have rgt : rg d = true := by cases g : rg d; exact absurd g rgd; rfl
    rw [rgt, if_neg (show ¬ b01 true = 0 by decide), if_neg (nI_in nd0.1 (by decide)), nI_clamp (by omega), hR.1 d nd0.1 hn0.1.1]
    have sd := hR.2 d
    have e38 : s.1 38 0 = nI (an - 1) := by rw [e.1 38 (by decide)]; exact h38
    have e38' : nI (an - 1) + 1 = nI an := by rw [nI_1]; congr 1; omega
    -- the state behind the name
    have p1 : ∀ S' : ms, Ps m s0 s la nc C S' t la nc 0 → S'.1 26 = s.1 26 → Ps m s0 s la nc C (upI (upI S' 26 (upd (S'.1 26) d (nI an))) 8 (fun _ => nI (t + 1))) (t + 1) la nc 0 ∧ R26 P (upI (upI S' 26 (upd (S'.1 26) d (nI an))) 8 (fun _ => nI (t + 1))) (updN S d an) := by
      intro S' g e26
      obtain ⟨a1, a2, a3, a4, a5, a6⟩ := g
      refine ⟨⟨(a1.upI (by decide)).upI (by decide), a2.trans (la' := la) (nc' := nc) (W' := 0) (F' := 0) (Lo.self (ks := [8, 26]) ((Eb.rfl.upI (by decide)).upI (by decide)) (by decide)) (Nat.le_refl _) (Nat.le_refl _) (Nat.le_refl _) (Nat.le_refl _), a3, a4, ?_, a6⟩, fun k hk hPk => ?_, fun k => ?_⟩
      · obtain ⟨h1, h2, h3, h4, h5, h6, h7, h8, h9, h10, h11, h12, h13⟩ := a5
        exact ⟨h1, h2, rfl, by omega, h5, h6, h7, h8, h9, h10, h11, h12, h13⟩
      · show upd (S'.1 26) d (nI an) k = _
        unfold updN
        by_cases z : k = d
        · rw [z, upd_at, if_pos rfl]
        · rw [upd_ne z, if_neg z, e26]; exact hR.1 k hk hPk
      · unfold updN
        split
        · exact an2
        · exact hR.2 k
    by_cases bad : S d ≠ 0 ∧ S d ≠ an
    · -- set elsewhere
      rw [if_pos bad] at hq
      cases hq
      rw [if_neg (nI_ne0 (by omega) (by omega)), if_neg (nI_inN nd0.1 (by omega)), e38, e38', if_neg (fun z => bad.2 ((nI_eq (by omega) (by omega)).mp z)), p0.eight, if_neg (nI_in (show t < 65540 by omega) (by decide)), nI_clamp (by omega), e5]
      obtain ⟨S', b1, b2, b3⟩ := p0.fail (N := N) (w := 32) (p := pl t) (b := 21000) (by decide) ⟨by omega, by omega, by omega⟩
      rw [show fn_M_fail N 32 (nI (pl t)) s = some ((), S') from b1, obind]
      dsimp only
      unfold bk_M_setting_76
      rw [if_neg (nI_in nd0.1 (by decide)), if_neg (nI_in nd0.1 (by decide)), nI_clamp (by omega)]
      obtain ⟨a1, a2, a3, a4, t', la', nc', a5, a6, a7, a8, a9, a10⟩ := b2
      have et : t' = t := by
        have q1 : S'.1 8 0 = nI t' := a5.2.2.1
        rw [b3.1 8 (by decide), p0.eight] at q1
        exact ((nI_eq (by omega) (by have := a5.2.2.2.1; omega)).mp q1).symm
      subst et
      rw [a5.2.2.1, nI_1]
      generalize hg : upd (S'.1 26) d (S'.1 38 0 + 1) = g26
      have z2 : Zs m s0 s la nc (upI (upI S' 26 g26) 8 (fun _ => nI (t' + 1))) 32 (pl t') 21000 := by
        refine ⟨(a1.upI (by decide)).upI (by decide), a2.trans (la' := la) (nc' := nc) (W' := 0) (F' := 0) (Lo.self (ks := [8, 26]) ((Eb.rfl.upI (by decide)).upI (by decide)) (by decide)) (Nat.le_refl _) (Nat.le_refl _) (Nat.le_refl _) (Nat.le_refl _), a3, a4, t' + 1, la', nc', ?_, by omega, a7, a8, a9, a10⟩
        obtain ⟨h1, h2, h3, h4, h5, h6, h7, h8, h9, h10, h11, h12, h13⟩ := a5
        exact ⟨h1, h2, rfl, by omega, h5, h6, h7, h8, h9, h10, h11, h12, h13⟩
      have X2 : Xm (upI (upI S' 26 g26) 8 (fun _ => nI (t' + 1))) 32 (t' + 1) la' nc' 0 0 := by
        obtain ⟨h1, h2, h3, h4, h5, h6, h7, h8, h9, h10, h11, h12, h13⟩ := a5
        exact ⟨h1, h2, rfl, by omega, h5, h6, h7, h8, h9, h10, h11, h12, h13⟩
      have sm2 := hS _ z2.1
      rw [kind_M sm2 X2 t1n, obind]
      dsimp only
      by_cases k91 : tk (t' + 1) = 91
      · obtain ⟨c401, p, ep⟩ := c91 k91
        rw [if_pos (show nI (tk (t' + 1)) = 91 by rw [k91]; rfl)]
        obtain ⟨q1, v, S3, q2, q3, q4⟩ := partZ (d := d) (w := w) (h := p.1) (l := p.2.1) (t2 := p.2.2) hT sm2 X2 (by decide) t1n k91 (by rw [show t' + 1 + 1 = t' + 2 by omega]; exact c401) ep nd0.1
        rw [q2, obind]
        dsimp only
        have z3 : Zs m s0 s la nc S3 32 (pl t') 21000 := by
          obtain ⟨a1, a2, a3, a4, t2, la2, nc2, a5, a6, a7, a8, a9, a10⟩ := z2
          refine ⟨a1.trans (q3.mono (by decide) (by decide)), a2.trans (la' := la) (nc' := nc) (W' := 0) (F' := 0) (Lo.self q3 (by decide)) (Nat.le_refl _) (Nat.le_refl _) (Nat.le_refl _) (Nat.le_refl _), a3, by rw [q3.1 10 (by decide)]; exact a4, p.2.2, la2, nc2, ?_, by omega, a7, a8, a9, a10⟩
          obtain ⟨h1, h2, h3, h4, h5, h6, h7, h8, h9, h10, h11, h12, h13⟩ := a5
          refine ⟨by rw [q3.1 9 (by decide)]; exact h1, h2, q4, by omega, by rw [q3.1 42 (by decide)]; exact h5, h6, by rw [q3.1 44 (by decide)]; exact h7, h8, by rw [q3.1 53 (by decide)]; exact h9, h10, by rw [q3.1 51 (by decide)]; exact h11, h12, ?_⟩
          unfold Ln at h13 ⊢
          rw [q3.1 91 (by decide), q3.1 92 (by decide)]; exact h13
        obtain ⟨s', r1, r2⟩ := set126Z (x1 := nI d) (x2 := v) hM' z3 (by omega) (by omega)
        exact ⟨s', r1, Sp.fault (r2.mono (by omega))⟩
      · have kl : tk (t' + 1) < 405 := hT.lt t1n
        rw [if_neg (show ¬ nI (tk (t' + 1)) = 91 from fun z => k91 ((nI_eq (b := 91) (by omega) (by omega)).mp z))]
        obtain ⟨s', r1, r2⟩ := set126Z (x1 := nI d) (x2 := 256 * (S'.1 20 d - 1)) hM' z2 (by omega) (by omega)
        exact ⟨s', r1, Sp.fault (r2.mono (by omega))⟩
    · rw [if_neg bad] at hq
      -- set here
      have go : ∃ s', bk_M_setting_76 N (nI d) s = some ((), s') ∧ Sp 2 21020 m nt P s0 s t la nc C s' q := by
        unfold bk_M_setting_76
        rw [if_neg (nI_in nd0.1 (by decide)), if_neg (nI_in nd0.1 (by decide)), nI_clamp (by omega), e38, e38', p0.eight, nI_1, nd0.2.1]
        obtain ⟨p2, r2⟩ := p1 s p0 rfl
        generalize hS1 : upI (upI s 26 (upd (s.1 26) d (nI an))) 8 (fun _ => nI (t + 1)) = S1 at *
        have sm2 := hS _ p2.1
        rw [kind_M sm2 p2.2.2.2.2.1 t1n, obind]
        dsimp only
        by_cases k91 : tk (t + 1) = 91
        · obtain ⟨c401, p, ep⟩ := c91 k91
          rw [if_pos k91, ep] at hq
          dsimp only at hq
          rw [if_pos (show nI (tk (t + 1)) = 91 by rw [k91]; rfl)]
          have pg : Pg m S1 S1 la nc 0 0 (C + 0) S1 (t + 1) [] 0 nc 0 0 := Pg.start Eb.rfl p2.2.2.2.2.1 p2.2.2.2.2.2
          have e20 : S1.1 20 d = nI w := by rw [← hS1]; exact nd0.2.1
          obtain ⟨q1, q2, q3, q4, q5, q6⟩ := part_M (d := d) (w := w) (h := p.1) (l := p.2.1) (t2 := p.2.2) (b := 20000) hT sm2 pg t1n k91 (by rw [show t + 1 + 1 = t + 2 by omega]; exact c401) ep nd0.1 e20 nd0.2.2.2 ⟨by omega, by simp; omega, by omega⟩
          by_cases bd : p.1 < p.2.1 ∨ w ≤ p.1
          · rw [if_pos bd] at hq
            cases hq
            obtain ⟨v, S3, u1, u2⟩ := q6 bd
            rw [u1, obind]
            dsimp only
            have z3 : Zs m s0 s la nc S3 30 (pl (t + 1)) 20000 := by
              obtain ⟨a1, a2, a3, a4, t2, la2, nc2, a5, a6, a7, a8, a9, a10⟩ := u2
              exact ⟨p2.1.trans (SE.toSE2 a1), p2.2.1.trans a2 (Nat.le_refl _) (Nat.le_refl _) (Nat.le_refl _) (Nat.le_refl _), a3, a4, t2, la2, nc2, a5, a6, a7, a8, a9, a10⟩
            obtain ⟨s', r1, r2⟩ := set126Z (x1 := nI d) (x2 := v) hM' z3 (by omega) (by omega)
            exact ⟨s', r1, Sp.fault (r2.mono (by omega))⟩
          · rw [if_neg bd] at hq
            obtain ⟨S3, u1, u2⟩ := q5 bd
            rw [u1, obind]
            dsimp only
            obtain ⟨b1, b2, b3, b4, b5, b6, b7⟩ := u2
            have p3 : Ps m s0 s la nc C S3 p.2.2 la nc 0 := ⟨p2.1.trans (SE.toSE2 b1), p2.2.1.trans b2 (Nat.le_refl _) (Nat.le_refl _) (Nat.le_refl _) (Nat.le_refl _), Nat.le_refl _, Nat.le_refl _, by simpa using b5, by simpa using b7⟩
            obtain ⟨s', r1, r3⟩ := set126 (d := d) (h := p.1) (l := p.2.1) hM' p3 ⟨q1, j2, by omega, by omega, by omega⟩ hn0.1.1 nd0.1 (by omega) (by have := nd0.2.2.2; omega) (r2.mono (b1.1 26 (by decide))) q hq
            refine ⟨s', r1, fun f p' z => (r3.1 f p' z).mono (by omega), fun t' S' bb D CC z => ?_⟩
            obtain ⟨la', nc', x1, x2, x3, x4, x5, x6, x7⟩ := r3.2 _ _ _ _ _ z
            exact ⟨la', nc', x1, by omega, by omega, x4, by omega, x6, x7⟩
        · have kl : tk (t + 1) < 405 := hT.lt t1n
          rw [if_neg k91] at hq
          rw [if_neg (show ¬ nI (tk (t + 1)) = 91 from fun z => k91 ((nI_eq (b := 91) (by omega) (by omega)).mp z))]
          have w12 := nd0.2.2
          obtain ⟨s', r1, r3⟩ := set126 (d := d) (h := w - 1) (l := 0) hM' p2 ⟨by omega, j2, by omega, by omega, by omega⟩ hn0.1.1 nd0.1 (by omega) (by omega) r2 q hq
          have xe : 256 * (nI w - 1) = nI (256 * (w - 1) + 0) := by
            rw [show w = (w - 1) + 1 by omega, nI_pred, lit_nI 256, nI_mul]; rfl
          rw [xe]
          refine ⟨s', r1, fun f p' z => (r3.1 f p' z).mono (by omega), fun t' S' bb D CC z => ?_⟩
          obtain ⟨la', nc', x1, x2, x3, x4, x5, x6, x7⟩ := r3.2 _ _ _ _ _ z
          exact ⟨la', nc', x1, by omega, by omega, x4, by omega, x6, x7⟩
      by_cases z : S d = 0
      · rw [z, if_pos (show nI 0 = 0 from rfl)]; exact go
      · have y : S d = an := by
          by_cases y : S d = an
          · exact y
          · exact absurd ⟨z, y⟩ bad
        rw [if_neg (nI_ne0 (by omega) (by omega)), if_neg (nI_inN nd0.1 (by omega)), e38, e38', if_pos (by rw [y])]
        exact go
end MSET2
