/-! The reference's primaries and operands. -/
theorem nI_div {a b : Nat} (ha : a < 2 ^ 31) (hb : b < 2 ^ 31) (h0 : 0 < b) : nI a / nI b = nI (a / b) := by
  have hle : a / b ≤ a := Nat.div_le_self a b
  apply Int32.toInt_inj.mp
  rw [Int32.toInt_div, nI_toInt ha, nI_toInt hb, nI_toInt (by omega)]
  have e : ((a : Int).tdiv (b : Int)) = ((a / b : Nat) : Int) := by
    rw [Int.tdiv_eq_ediv_of_nonneg (by omega)]; rfl
  rw [e]
  clear e
  generalize a / b = c at hle
  exact Int.bmod_eq_of_le (by omega) (by omega)
theorem nI_div256 {a : Nat} (ha : a < 2 ^ 31) : nI a / 256 = nI (a / 256) := nI_div (b := 256) ha (by decide) (by decide)
theorem nI_rem256 {a : Nat} (ha : a < 2 ^ 31) : nI a - nI a / 256 * 256 = nI (a % 256) := by
  rw [nI_div256 ha, show (256 : Int32) = nI 256 from rfl, nI_mul, nI_sub (by omega)]
  congr 1; omega
theorem nI_m1 (x : Int32) : x + (-1) = x - 1 := (Int32.sub_eq_add_neg x 1).symm
theorem nI_prelt {a : Nat} (h : a < 2 ^ 30) : nI a - 1 < nI a := by
  cases a with
  | zero => decide
  | succ a => rw [nI_pred]; exact nI_lt (by omega) (by omega)
section MPR
variable {tk pl vl wi : Nat → Nat} {nm : Nat → Option (Nat × Nat)} {nt m N N0 : Nat} {s0 s : ms} {la0 nc0 W F C0 : Nat}
theorem Pg.set87 {S : ms} {t CC nc W' F' : Nat} {L : List aop} {g : Nat → Int32} (h : Pg m s0 s la0 nc0 W F C0 S t L CC nc W' F') : Pg m s0 s la0 nc0 W F C0 (upI S 87 g) t L CC nc W' F' := by
  obtain ⟨a1, a2, a3, a4, a5, a6, a7⟩ := h
  exact ⟨a1.upI (by decide), a2.trans (la' := la0) (nc' := nc0) (W' := W) (F' := F) (Lo.of (ks := [87]) (Eb.rfl.upI (by decide)) (by decide)) (Nat.le_refl _) (Nat.le_refl _) (Nat.le_refl _) (Nat.le_refl _), a3, a4, a5.any (Eb.rfl.upI (by decide)), a6, a7⟩
/-- a number is kept and its op laid -/
theorem Pg.const {S : ms} {t CC nc W' F' v : Nat} {L : List aop} (h : Pg m s0 s la0 nc0 W F C0 S t L CC nc W' F') (hl : la0 + L.length + 1 < 33000) (hn : nc + 1 < 30000) : ∃ S1 S2, fn_M_keepNumber N (lN v) S = some (nI nc, S1) ∧ fn_M_lay N 0 (nI nc) 0 S1 = some ((), S2) ∧ Pg m s0 s la0 nc0 W F C0 S2 t (L ++ [(0, v, 0)]) CC (nc + 1) W' F' := by
  obtain ⟨a1, a2, a3, a4, a5, a6, a7⟩ := h
  obtain ⟨S1, b1, b2, b3, b4, b5⟩ := keep_M (N := N) (v := lN v) a5 hn
  obtain ⟨S2, c1, c2, c3, c4⟩ := lay_M (N := N) (a := 0) (b := nI nc) (c := 0) b2 hl
  have e43 : S2.2 43 = S1.2 43 := c4.2 43 (by decide)
  have e41 : S1.1 41 = S.1 41 := b5.1 41 (by decide)
  refine ⟨S1, S2, b1, c1, (a1.trans (b5.mono (by decide) (by decide))).trans (c4.mono (by decide) (by decide)), ?_, by omega, by simp; omega, by simpa [Nat.add_assoc] using c2, ?_, by rw [c4.2 45 (by decide), b5.2 45 (by decide)]; exact a7⟩
  · refine (a2.trans (la' := la0) (nc' := nc0) (W' := W) (F' := F) (⟨fun k _ => by rw [e41], fun k hk => b3 k (by omega), fun k _ => ⟨by rw [b5.1 49 (by decide)], by rw [b5.1 50 (by decide)]⟩, fun k _ => by rw [b5.1 52 (by decide)], fun k _ => by rw [b5.2 45 (by decide)]⟩) (Nat.le_refl _) (Nat.le_refl _) (Nat.le_refl _) (Nat.le_refl _)).trans (Lo.op (js := []) (nc := nc0) (W := W) (F := F) c3 c4) (by omega) (Nat.le_refl _) (Nat.le_refl _) (Nat.le_refl _)
  · refine rEnc.app (a6.mono (fun k hk => by rw [c3.1 k hk, e41]) (fun k hk => by rw [e43, b3 k hk]) (by omega)) (rEnc.one ?_)
    exact rop_0 (n := nc) c3.2.1 c3.2.2.1 (by omega) (by rw [e43]; exact b4)
/-- the two numbers of a part, the token behind it -/
def ptw (tk vl : Nat → Nat) (nt t : Nat) : Option (Nat × Nat × Nat) := if tk (t + 2) = 58 then (if nt ≤ t + 4 ∨ tk (t + 3) ≠ 401 then none else some (vl (t + 1), vl (t + 3), t + 5)) else some (vl (t + 1), vl (t + 1), t + 3)
theorem part_M {S : ms} {t CC nc W' F' d w h l t2 b : Nat} {L : List aop} (T : Tv tk pl nt) (hS : SM tk pl vl wi nm nt m N s0) (P : Pg m s0 s la0 nc0 W F C0 S t L CC nc W' F') (ht : t < nt) (h91 : tk t = 91) (h401 : tk (t + 1) = 401) (hp : ptw tk vl nt t = some (h, l, t2)) (hd : d < 11000) (hw : S.1 20 d = nI w) (hw2 : w ≤ 64) (hb : nt + 6 ≤ b ∧ la0 + L.length ≤ b ∧ nc ≤ b) :
    t2 ≤ nt + 1 ∧ t + 3 ≤ t2 ∧ h < 65536 ∧ l < 65536 ∧ (¬ (h < l ∨ w ≤ h) → ∃ S', fn_M_part N (nI d) S = some (nI (256 * h + l), S') ∧ Pg m s0 s la0 nc0 W F C0 S' t2 L CC nc W' F') ∧ ((h < l ∨ w ≤ h) → ∃ v S', fn_M_part N (nI d) S = some (v, S') ∧ Zg m s0 s la0 nc0 W F S' 30 (pl t) b W' F') := by
  have l1 := T.2.1
  have t1n := T.more ht h91 (by decide) (by decide)
  have t2n := T.more t1n h401 (by decide) (by decide)
  have k2 : tk (t + 2) < 405 := T.lt t2n
  have v1 := (hS.2.2.2.2.2.2.2.2 (t + 1) t1n).1 h401
  obtain ⟨g, hg⟩ := hS.2.2.2.2.1 S P.1 (t + 1) t1n (Or.inl h401)
  have P1 := (P.set87 (g := g)).tset (x := nI (t + 2)) rfl (show t + 2 < 33000 by omega)
  have e5 : S.1 5 t = nI (pl t) := by rw [P.1.1 5 (by decide)]; exact (hS.2.2.1 _ ht).2
  have start : ∀ h l t2, ptw tk vl nt t = some (h, l, t2) → t2 ≤ nt + 1 ∧ t + 3 ≤ t2 ∧ h < 65536 ∧ l < 65536 ∧ ∃ S', fn_M_part N (nI d) S = bk_M_part_67 N (nI d) (nI (pl t)) (nI h) (nI l) S' ∧ ∃ tt, tt + 1 = t2 ∧ Pg m s0 s la0 nc0 W F C0 S' tt L CC nc W' F' := by
    intro h l t2 hp
    unfold fn_M_part
    rw [P.eight, if_neg (nI_in (show t < 65540 by omega) (by decide)), nI_clamp (by omega), e5, nI_1, hg, obind]
    dsimp only
    have e8 : (upI S 87 g).1 8 0 = nI t := P.eight
    rw [e8, lit_nI 2, nI_add, kind_M (hS.mono P1.1) P1.2.2.2.2.1 t2n, obind]
    dsimp only
    unfold ptw at hp
    by_cases c : tk (t + 2) = 58
    · rw [if_pos c] at hp
      have t3n := T.more t2n c (by decide) (by decide)
      by_cases c2 : nt ≤ t + 4 ∨ tk (t + 3) ≠ 401
      · rw [if_pos c2] at hp; cases hp
      · rw [if_neg c2] at hp
        cases hp
        have h401' : tk (t + 3) = 401 := by
          by_cases z : tk (t + 3) = 401
          · exact z
          · exact absurd (Or.inr z) c2
        have v3 := (hS.2.2.2.2.2.2.2.2 (t + 3) t3n).1 h401'
        rw [if_pos (show nI (tk (t + 2)) = 58 by rw [c]; rfl), P1.eight, nI_1]
        obtain ⟨g2, hg2⟩ := hS.2.2.2.2.1 _ P1.1 (t + 3) t3n (Or.inl h401')
        rw [show t + 2 + 1 = t + 3 by omega, hg2, obind]
        dsimp only
        have P2 := (P1.set87 (g := g2)).tset (x := nI (t + 4)) rfl (show t + 4 < 33000 by omega)
        have e82 : (upI (upI (upI S 87 g) 8 (fun _ => nI (t + 2))) 87 g2).1 8 0 = nI (t + 2) := rfl
        rw [e82, nI_add, l32, l32]
        exact ⟨by omega, by omega, v1, v3, _, rfl, t + 4, by omega, P2⟩
    · rw [if_neg c] at hp
      cases hp
      rw [if_neg (show ¬ nI (tk (t + 2)) = 58 from fun z => c ((nI_eq (b := 58) (by omega) (by omega)).mp z)), l32]
      exact ⟨by omega, by omega, v1, v1, _, rfl, t + 2, by omega, P1⟩
  obtain ⟨q1, q2, q3, q4, S', q5, tt, q6, q7⟩ := start h l t2 hp
  refine ⟨q1, q2, q3, q4, fun k => ?_, fun k => ?_⟩
  · rw [q5]
    unfold bk_M_part_67
    have e20 : S'.1 20 d = nI w := by rw [q7.1.1 20 (by decide), ← P.1.1 20 (by decide)]; exact hw
    rw [if_neg (nI_nlt (by omega) (by omega)), if_neg (nI_in hd (by decide)), nI_clamp (by omega), e20, if_pos (nI_lt (by omega) (by omega)), q7.eight, nI_1, show (256 : Int32) = nI 256 from rfl, nI_mul, nI_add, q6]
    exact ⟨_, rfl, q7.tset rfl (by omega)⟩
  · rw [q5]
    unfold bk_M_part_67 bk_M_part_93
    have e20 : S'.1 20 d = nI w := by rw [q7.1.1 20 (by decide), ← P.1.1 20 (by decide)]; exact hw
    rw [q7.eight, nI_1, q6]
    have P8 := q7.tset (x := nI t2) rfl (by omega)
    obtain ⟨S2, b1, b2⟩ := P8.fail (N := N) (w := 30) (p := pl t) (b := b) (by decide) ⟨by omega, hb.2.1, hb.2.2⟩
    have b1' : fn_M_fail N 30 (nI (pl t)) (upI S' 8 (fun _ => nI t2)) = some ((), S2) := b1
    rw [b1', obind]
    by_cases c : h < l
    · rw [if_pos (nI_lt c (by omega))]
      exact ⟨_, S2, rfl, b2⟩
    · rw [if_neg (nI_nlt (by omega) (by omega)), if_neg (nI_in hd (by decide)), nI_clamp (by omega), e20, if_neg (nI_nlt (by omega) (by omega))]
      exact ⟨_, S2, rfl, b2⟩
theorem prim_M {d : Nat} (T : Tv tk pl nt) (hS : SM tk pl vl wi nm nt m N s0) (hN : 13002 < N)
    (iE : ∀ s t la nc W F C, SE s0 s → Xm s 0 t la nc W F → s.2 45 m = lN C → Bd nt t la nc C → W + 3 * d ≤ 1500 → F + 3 * d ≤ 1500 → Ex m nt (13000 + 20 * d) s0 s t la nc W F C ((sg_M_exp N d).1 s) ((eG tk pl vl wi nm nt N0 d).1 t))
    (iR : ∀ s t la nc W F C p, SE s0 s → Xm s 0 t la nc W F → s.2 45 m = lN C → Bd nt t la nc C → W + 3 * d ≤ 1501 → F + 3 * d ≤ 1501 → Ex m nt (13000 + 20 * d) s0 s t la nc W F C ((sg_M_exp N d).2.2.2.2 (nI p) s) ((eG tk pl vl wi nm nt N0 d).2.2.2.2 p t)) (hd : d ≤ 400) :
    ∀ s t la nc W F C, t < nt → SE s0 s → Xm s 0 t la nc W F → s.2 45 m = lN C → Bd nt t la nc C → W + 3 * (d + 1) ≤ 1502 → F + 3 * (d + 1) ≤ 1502 → Ex m nt (13000 + 20 * (d + 1)) s0 s t la nc W F C ((sg_M_exp N (d + 1)).2.2.2.1 s) ((eG tk pl vl wi nm nt N0 (d + 1)).2.2.2.1 t) := by
  intro s t la nc W F C ht e hX hC hB hW hF q hq
  have l1 := T.2.1
  obtain ⟨j1, j2, j3, j4, j5⟩ := id hB
  have hq : eP1 tk pl vl wi nm nt (eG tk pl vl wi nm nt N0 d).1 (eG tk pl vl wi nm nt N0 d).2.2.2.2 t = some q := hq
  unfold eP1 at hq
  have kv := T.lt ht
  have P0 : Pg m s0 s la nc W F C s t [] 0 nc W F := Pg.start e hX hC
  have e4 : s.1 4 t = nI (tk t) := by rw [e.1 4 (by decide)]; exact (hS.2.2.1 _ ht).1
  have e5 : s.1 5 t = nI (pl t) := by rw [e.1 5 (by decide)]; exact (hS.2.2.1 _ ht).2
  have P1 := P0.tset (x := nI (t + 1)) rfl (show t + 1 < 33000 by omega)
  show ∃ v s', fb_M_primary N _ _ _ _ _ s = _ ∧ _
  unfold fb_M_primary
  rw [if_pos P0.nine, P0.eight, if_neg (nI_in (show t < 65540 by omega) (by decide)), if_neg (nI_in (show t < 65540 by omega) (by decide)), if_neg (nI_in (show t < 65540 by omega) (by decide)), if_neg (nI_in (show t < 65540 by omega) (by decide)), nI_clamp (by omega), e4, e5, nI_1]
  by_cases c1 : tk t = 402
  · rw [if_pos c1] at hq
    unfold xok at hq
    cases hq
    rw [if_pos (show nI (tk t) = 402 by rw [c1]; rfl)]
    obtain ⟨v1, v2, v3⟩ := (hS.2.2.2.2.2.2.2.2 t ht).2 c1
    obtain ⟨g, hg⟩ := hS.2.2.2.2.1 _ P1.1 t ht (Or.inr c1)
    rw [hg, obind]
    dsimp only
    obtain ⟨S1, S2, b1, b2, b3⟩ := (P1.set87 (g := g)).const (N := N) (v := vl t) (by simp; omega) (by omega)
    rw [b1, obind]
    unfold bk_M_primary_47 bk_M_primary_51
    dsimp only
    rw [b2, obind, hS.2.2.2.2.2.1 S2 b3.1 t ht c1, obind]
    exact b3.done (t := t) (nt := nt) rfl v2 v3 (by simp) (by omega) (by omega) (by omega)
  rw [if_neg c1] at hq
  rw [if_neg (show ¬ nI (tk t) = 402 from fun z => c1 ((nI_eq (b := 402) (by omega) (by omega)).mp z))]
  by_cases c2 : tk t = 40
  · rw [if_pos c2] at hq
    rw [if_pos (show nI (tk t) = 40 by rw [c2]; rfl)]
    have t1n := T.more ht c2 (by decide) (by decide)
    have E := iE _ (t + 1) _ nc W F _ P1.1 P1.2.2.2.2.1 P1.2.2.2.2.2.2 ⟨by omega, by omega, by simp; omega, by omega, by omega⟩ (by omega) (by omega)
    rcases xb_some hq with ⟨f, p', r1, rfl⟩ | ⟨w, t2, L2, C2, r1, hq⟩
    · obtain ⟨v, S1, a1, a2, -⟩ := P1.sub E r1 (Nat.le_refl _) (Nat.le_refl _)
      have Z := a2 f p' rfl
      rw [a1, obind]
      unfold bk_M_primary_72
      obtain ⟨t8, e8, l8⟩ := Z.eight
      have Z3 := (Z.mono (show 13000 + 20 * d ≤ 13000 + 20 * d + 2 by omega)).tset (x := S1.1 8 0 + 1) (by rw [e8, nI_1]) (show t8 + 1 < 33000 by omega) (by omega)
      exact Z3.done rfl (by omega)
    · obtain ⟨v, S1, a1, -, a2⟩ := P1.sub E r1 (Nat.le_refl _) (Nat.le_refl _)
      obtain ⟨rfl, w1, w2, w3, w4, w5, w6, nc2, w7, w8⟩ := a2 _ _ _ _ rfl
      have t2n := (eG_lt _ _ _ _ _ _).1 r1
      unfold xok at hq
      cases hq
      rw [a1, obind]
      unfold bk_M_primary_72
      simp only [List.nil_append, Nat.zero_add] at w7
      have P2 := w7.tset (x := S1.1 8 0 + 1) (t' := t2 + 1) (by rw [w7.eight, nI_1]) (by omega)
      exact P2.done (t := t) (nt := nt) rfl w1 w2 (by omega) (by omega) (by omega) (by omega)
  rw [if_neg c2] at hq
  rw [if_neg (show ¬ nI (tk t) = 40 from fun z => c2 ((nI_eq (b := 40) (by omega) (by omega)).mp z))]
  by_cases c3 : tk t = 123
  · rw [if_pos c3] at hq
    rw [if_pos (show nI (tk t) = 123 by rw [c3]; rfl)]
    have t1n := T.more ht c3 (by decide) (by decide)
    have E := iR _ (t + 1) _ nc W F _ (pl t) P1.1 P1.2.2.2.2.1 P1.2.2.2.2.2.2 ⟨by omega, by omega, by simp; omega, by omega, by omega⟩ (by omega) (by omega)
    obtain ⟨v, S1, a1, a2, a3⟩ := P1.sub E hq (Nat.le_refl _) (Nat.le_refl _)
    rw [a1, obind]
    unfold bk_M_primary_106
    match q, a2, a3 with
    | .inl (f, p'), a2, _ => exact (a2 f p' rfl).done rfl (by omega)
    | .inr (w, t2, L2, C2), _, a3 =>
      obtain ⟨rfl, w1, w2, w3, w4, w5, w6, nc2, w7, w8⟩ := a3 _ _ _ _ rfl
      simp only [List.nil_append, Nat.zero_add] at w7
      exact w7.done (t := t) (nt := nt) rfl w1 w2 (by omega) (by omega) (by omega) (by omega)
  rw [if_neg c3] at hq
  rw [if_neg (show ¬ nI (tk t) = 123 from fun z => c3 ((nI_eq (b := 123) (by omega) (by omega)).mp z))]
  by_cases c4 : tk t = 400
  · rw [if_pos c4] at hq
    have t1n := T.more ht c4 (by decide) (by decide)
    have k1 := T.lt t1n
    rw [hS.2.2.2.2.2.2.1 _ P1.1 t ht c4, obind]
    dsimp only
    cases hn : nm t with
    | none =>
      rw [hn] at hq
      unfold xno at hq
      cases hq
      dsimp only
      rw [if_neg (show ¬ (0 : Int32) ≤ -1 by decide)]
      have e5' : (upI s 8 (fun _ => nI (t + 1))).1 5 t = nI (pl t) := e5
      rw [e5']
      obtain ⟨S2, b1, b2⟩ := P1.fail (N := N) (w := 22) (p := pl t) (b := 13000) (by decide) ⟨by omega, by simp; omega, by omega⟩
      rw [show (22 : Int32) = nI 22 from rfl, b1, obind, if_neg (nI_inN (show t < 65540 by omega) (by omega))]
      exact b2.done rfl (by omega)
    | some x =>
      rw [hn] at hq
      obtain ⟨n1, n2, n3, n4⟩ := hS.2.2.2.2.2.2.2.1 t x hn
      dsimp only at hq ⊢
      rw [if_pos (nI_pos' (show x.1 < 2 ^ 31 by omega))]
      obtain ⟨S1, b1, b2⟩ := P1.lay (N := N) (a := 1) (b := nI x.1) (c := 0) (o := (1, x.1, 0)) (by simp; omega) (fun code j e1 e2 e3 => rop_1 e1 e2)
      rw [b1, obind]
      unfold bk_M_primary_138
      dsimp only
      simp only [List.nil_append] at b2
      rw [kind_M (hS.mono b2.1) b2.2.2.2.2.1 t1n, obind]
      dsimp only
      have e20 : S1.1 20 x.1 = nI x.2 := by rw [b2.1.1 20 (by decide)]; exact n2
      by_cases c5 : tk (t + 1) = 91
      · rw [if_pos c5] at hq
        have t2n := T.more t1n c5 (by decide) (by decide)
        have k2 : tk (t + 2) < 405 := T.lt t2n
        have e42 : S1.1 4 (t + 2) = nI (tk (t + 2)) := by rw [b2.1.1 4 (by decide)]; exact (hS.2.2.1 _ t2n).1
        rw [if_pos (show nI (tk (t + 1)) = 91 by rw [c5]; rfl), b2.eight, nI_1, if_neg (nI_in (show t + 1 + 1 < 65540 by omega) (by decide)), nI_clamp (by omega), show t + 1 + 1 = t + 2 by omega, e42]
        by_cases c6 : tk (t + 2) = 401
        · rw [if_pos c6] at hq
          rw [if_pos (show nI (tk (t + 2)) = 401 by rw [c6]; rfl)]
          have key : ∀ h l t3, ptw tk vl nt (t + 1) = some (h, l, t3) → (if h < l ∨ x.2 ≤ h then xno 30 (pl (t + 1)) else xok (h - l + 1) t3 [(1, x.1, 0), (2, h, l)] 0) = some q → ∃ v s', ((fn_M_part N (nI x.1) S1).bind (fun q_5 => (fn_M_lay N 2 (q_5.1 / 256) (q_5.1 - q_5.1 / 256 * 256) q_5.2).bind (fun q_8 => bk_M_primary_192 N (sg_M_exp N d).1 (sg_M_exp N d).2.1 (sg_M_exp N d).2.2.1 (sg_M_exp N d).2.2.2.1 (sg_M_exp N d).2.2.2.2 q_5.1 q_8.2))) = some (v, s') ∧ SE s0 s' ∧ Lo m s s' la nc W F ∧ XPo m nt (13000 + 20 * (d + 1)) t la nc W F C v s' q := by
            intro h l t3 hp hq
            obtain ⟨p1, p2, p3, p4, p5, p6⟩ := part_M (b := 13000 + 20 * d) T hS b2 t1n c5 (by rw [show t + 1 + 1 = t + 2 by omega]; exact c6) hp n1 e20 n4 ⟨by omega, by simp; omega, by omega⟩
            by_cases k : h < l ∨ x.2 ≤ h
            · rw [if_pos k] at hq
              unfold xno at hq
              cases hq
              obtain ⟨v, S2, d1, d2⟩ := p6 k
              rw [d1, obind]
              dsimp only
              obtain ⟨S3, f1, f2⟩ := d2.lay (N := N) (x := 2) (y := v / 256) (z := v - v / 256 * 256) (by omega)
              rw [f1, obind]
              unfold bk_M_primary_192
              exact f2.done rfl (by omega)
            · rw [if_neg k] at hq
              unfold xok at hq
              cases hq
              obtain ⟨S2, d1, d2⟩ := p5 k
              rw [d1, obind]
              dsimp only
              have dv : (256 * h + l) / 256 = h := by omega
              have dm : (256 * h + l) % 256 = l := by omega
              rw [nI_rem256 (by omega), nI_div256 (by omega), dv, dm]
              obtain ⟨S3, f1, f2⟩ := d2.lay (N := N) (a := 2) (b := nI h) (c := nI l) (o := (2, h, l)) (by simp; omega) (fun code j e1 e2 e3 => rop_2 e1 e2 e3)
              rw [f1, obind]
              unfold bk_M_primary_192
              rw [nI_rem256 (by omega), nI_div256 (by omega), dv, dm, nI_sub (by omega), nI_1]
              exact f2.done (t := t) (nt := nt) rfl (by omega) (by omega) (by simp; omega) (by omega) (by omega) (by omega)
          refine key (vl (t + 2)) (if tk (t + 3) = 58 then vl (t + 4) else vl (t + 2)) (if tk (t + 3) = 58 then t + 6 else t + 4) ?_ ?_
          · unfold ptw
            rw [show t + 1 + 2 = t + 3 by omega, show t + 1 + 3 = t + 4 by omega, show t + 1 + 1 = t + 2 by omega, show t + 1 + 4 = t + 5 by omega, show t + 1 + 5 = t + 6 by omega]
            by_cases z : tk (t + 3) = 58
            · rw [if_pos z] at hq ⊢
              by_cases y : nt ≤ t + 5 ∨ tk (t + 4) ≠ 401
              · rw [if_pos y] at hq; cases hq
              · rw [if_neg y, if_pos z, if_pos z]
            · rw [if_neg z, if_neg z, if_neg z]
          · by_cases z : tk (t + 3) = 58
            · rw [if_pos z] at hq
              rw [if_pos z, if_pos z]
              by_cases y : nt ≤ t + 5 ∨ tk (t + 4) ≠ 401
              · rw [if_pos y] at hq; cases hq
              · rw [if_neg y] at hq; exact hq
            · rw [if_neg z] at hq
              rw [if_neg z, if_neg z]
              by_cases y : x.2 ≤ vl (t + 2)
              · rw [if_pos y] at hq; rw [if_pos (Or.inr y)]; exact hq
              · rw [if_neg y] at hq; rw [if_neg (by omega), Nat.sub_self]; exact hq
        · rw [if_neg c6] at hq
          rw [if_neg (show ¬ nI (tk (t + 2)) = 401 from fun z => c6 ((nI_eq (b := 401) (by omega) (by omega)).mp z))]
          have P2 := b2.tset (x := nI (t + 2)) rfl (show t + 2 < 33000 by omega)
          have E := iE _ (t + 2) _ nc W F _ P2.1 P2.2.2.2.2.1 P2.2.2.2.2.2.2 ⟨by omega, by omega, by simp; omega, by omega, by omega⟩ (by omega) (by omega)
          rcases xb_some hq with ⟨f, p', r1, rfl⟩ | ⟨w, t2, L2, C2, r1, hq⟩
          · obtain ⟨v, S2, a1, a2, -⟩ := P2.sub E r1 (Nat.le_refl _) (Nat.le_refl _)
            have Z := a2 f p' rfl
            rw [a1, obind]
            unfold bk_M_primary_220 bk_M_primary_254 bk_M_primary_269
            dsimp only
            rw [if_neg (nI_in n1 (by decide)), if_neg (nI_in n1 (by decide))]
            obtain ⟨t8, e8, l8⟩ := Z.eight
            rw [e8, nI_1]
            have Z3 := (Z.mono (show 13000 + 20 * d ≤ 13000 + 20 * d + 2 by omega)).tset (x := nI (t8 + 1)) rfl (show t8 + 1 < 33000 by omega) (by omega)
            have go : ∀ n : Int64, ∃ v s', ((fn_M_cost N n (upI S2 8 (fun _ => nI (t8 + 1)))).bind (fun q_1 => if (nI x.1 < 0 ∨ 11000 ≤ Int32.toNatClampNeg (nI x.1)) then none else (fn_M_lay N 3 (((q_1.2.1 20) (Int32.toNatClampNeg (nI x.1)))) 0 q_1.2).bind (fun q_4 => some (1, q_4.2)))) = some (v, s') ∧ SE s0 s' ∧ Lo m s s' la nc W F ∧ XPo m nt (13000 + 20 * (d + 1)) t la nc W F C v s' (.inl (f, p')) := by
              intro n
              obtain ⟨S3, f1, f2⟩ := Z3.cost (N := N) (n := n) hS
              rw [f1, obind, if_neg (nI_in n1 (by decide))]
              dsimp only
              obtain ⟨S4, g1, g2⟩ := f2.lay (N := N) (x := 3) (y := S3.1 20 (nI x.1).toNatClampNeg) (z := 0) (by omega)
              rw [g1, obind]
              exact g2.done rfl (by omega)
            by_cases y : v ≤ S2.1 20 (nI x.1).toNatClampNeg
            · rw [if_pos y]; exact go _
            · rw [if_neg y]; exact go _
          · obtain ⟨v, S2, a1, -, a2⟩ := P2.sub E r1 (Nat.le_refl _) (Nat.le_refl _)
            obtain ⟨rfl, w1, w2, w3, w4, w5, w6, nc2, w7, w8⟩ := a2 _ _ _ _ rfl
            have t2n' := (eG_lt _ _ _ _ _ _).1 r1
            unfold xok at hq
            cases hq
            rw [a1, obind]
            have e20' : S2.1 20 x.1 = nI x.2 := by rw [w7.1.1 20 (by decide)]; exact n2
            have P3 := w7.tset (x := nI (t2 + 1)) rfl (show t2 + 1 < 33000 by omega)
            have go : bk_M_primary_220 N (sg_M_exp N d).1 (sg_M_exp N d).2.1 (sg_M_exp N d).2.2.1 (sg_M_exp N d).2.2.2.1 (sg_M_exp N d).2.2.2.2 (nI x.1) (nI w) S2 = bk_M_primary_254 N (sg_M_exp N d).1 (sg_M_exp N d).2.1 (sg_M_exp N d).2.2.1 (sg_M_exp N d).2.2.2.1 (sg_M_exp N d).2.2.2.2 (nI x.1) (lN (max w x.2)) (upI S2 8 (fun _ => nI (t2 + 1))) := by
              unfold bk_M_primary_220
              rw [if_neg (nI_in n1 (by decide)), if_neg (nI_in n1 (by decide)), nI_clamp (by omega), e20', w7.eight, nI_1]
              by_cases y : w ≤ x.2
              · rw [if_pos (nI_le y (by omega)), nI_l (by omega), show max w x.2 = x.2 by omega]
              · rw [if_neg (nI_ge (by omega) (by omega)), nI_l (by omega), show max w x.2 = w by omega]
            dsimp only
            rw [go]
            unfold bk_M_primary_254 bk_M_primary_269
            obtain ⟨S3, f1, f2⟩ := P3.cost (N := N) (n := max w x.2) hS
            have e203 : S3.1 20 x.1 = nI x.2 := by rw [f2.1.1 20 (by decide)]; exact n2
            rw [f1, obind, if_neg (nI_in n1 (by decide)), nI_clamp (by omega)]
            dsimp only
            rw [e203]
            obtain ⟨S4, g1, g2⟩ := f2.lay (N := N) (a := 3) (b := nI x.2) (c := 0) (o := (3, x.2, 0)) (by simp; omega) (fun code j e1 e2 e3 => rop_3 e1 e2)
            rw [g1, obind]
            simp only [Nat.zero_add] at g2
            exact g2.done (t := t) (nt := nt) (w := 1) rfl (by omega) (by omega) (by simp; omega) (by omega) (by omega) (by omega)
      · rw [if_neg c5] at hq
        unfold xok at hq
        cases hq
        rw [if_neg (show ¬ nI (tk (t + 1)) = 91 from fun z => c5 ((nI_eq (b := 91) (by omega) (by omega)).mp z)), if_neg (nI_in n1 (by decide)), nI_clamp (by omega), e20]
        exact b2.done (t := t) (nt := nt) rfl n3 n4 (by simp) (by omega) (by omega) (by omega)
  · rw [if_neg c4] at hq; cases hq
end MPR
