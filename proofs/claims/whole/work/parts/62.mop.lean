/-! The reference's operands and operators. -/
section MOP
variable {tk pl vl wi : Nat → Nat} {nm : Nat → Option (Nat × Nat)} {nt m N N0 : Nat} {s0 s : ms} {la0 nc0 W F C0 : Nat}
/-- signs before an operand -/
theorem un_M {d t0 t2 : Nat} (T : Tv tk pl nt) (hS : SM tk pl vl wi nm nt m N s0) : ∀ (n : Nat) (f w : Nat) (L : List aop) (CC nc : Nat) (S : ms), Pg m s0 s la0 nc0 W F C0 S t2 L CC nc W F → 1 ≤ w → w ≤ 64 → t0 + n ≤ nt → n < f → la0 + L.length + n < 32000 → (∀ i, i < n → isU (tk (t0 + i)) = true) →
    ∃ w' L' C' S', eUa tk t0 n w L CC = (w', L', C') ∧ hd_M_operand_43 N (sg_M_exp N d).1 (sg_M_exp N d).2.1 (sg_M_exp N d).2.2.1 (sg_M_exp N d).2.2.2.1 (sg_M_exp N d).2.2.2.2 f (nI t0) (nI w) (nI (t0 + n) - 1) S = some (nI w', S') ∧ Pg m s0 s la0 nc0 W F C0 S' t2 L' C' nc W F ∧ 1 ≤ w' ∧ w' ≤ 64 ∧ L'.length = L.length + n ∧ C' ≤ CC + 64 * n := by
  intro n
  have l1 := T.2.1
  induction n with
  | zero =>
    intro f w L CC nc S P h1 h2 h3 h4 h5 h6
    obtain ⟨f, rfl⟩ : ∃ f', f = f' + 1 := ⟨f - 1, by omega⟩
    refine ⟨w, L, CC, S, rfl, ?_, P, h1, h2, by omega, by omega⟩
    show bd_M_operand_43 N _ _ _ _ _ (hd_M_operand_43 N _ _ _ _ _ f) (nI t0) (nI w) (nI (t0 + 0) - 1) S = _
    unfold bd_M_operand_43
    rw [Nat.add_zero, if_pos (nI_prelt (by omega))]
  | succ n ih =>
    intro f w L CC nc S P h1 h2 h3 h4 h5 h6
    obtain ⟨f, rfl⟩ : ∃ f', f = f' + 1 := ⟨f - 1, by omega⟩
    obtain ⟨S1, a1, a2⟩ := P.cost (N := N) (n := w) hS
    have tn : t0 + n < nt := by omega
    have k1 := T.lt tn
    have e4 : S1.1 4 (t0 + n) = nI (tk (t0 + n)) := by rw [a2.1.1 4 (by decide)]; exact (hS.2.2.1 _ tn).1
    obtain ⟨S2, b1, b2⟩ := a2.lay (N := N) (a := 4) (b := nI (tk (t0 + n))) (c := nI w) (o := (4, tk (t0 + n), w)) (by omega) (fun code j e1 e2 e3 => rop_4 e1 e2 e3)
    have e42 : S2.1 4 (t0 + n) = nI (tk (t0 + n)) := by rw [b2.1.1 4 (by decide)]; exact (hS.2.2.1 _ tn).1
    have step : hd_M_operand_43 N (sg_M_exp N d).1 (sg_M_exp N d).2.1 (sg_M_exp N d).2.2.1 (sg_M_exp N d).2.2.2.1 (sg_M_exp N d).2.2.2.2 (f + 1) (nI t0) (nI w) (nI (t0 + (n + 1)) - 1) S = hd_M_operand_43 N (sg_M_exp N d).1 (sg_M_exp N d).2.1 (sg_M_exp N d).2.2.1 (sg_M_exp N d).2.2.2.1 (sg_M_exp N d).2.2.2.2 f (nI t0) (nI (if tk (t0 + n) = 126 ∨ tk (t0 + n) = 45 then w else 1)) (nI (t0 + n) - 1) S2 := by
      show bd_M_operand_43 N _ _ _ _ _ (hd_M_operand_43 N _ _ _ _ _ f) (nI t0) (nI w) (nI (t0 + (n + 1)) - 1) S = _
      unfold bd_M_operand_43 bk_M_operand_75 bk_M_operand_99
      rw [show nI (t0 + (n + 1)) - 1 = nI (t0 + n) from nI_pred _, if_neg (nI_nlt (by omega) (by omega)), if_pos P.nine, nI_l (by omega), a1, obind, if_neg (nI_in (show t0 + n < 65540 by omega) (by decide)), nI_clamp (by omega)]
      dsimp only
      rw [e4, b1, obind, if_neg (nI_inN (show t0 + n < 65540 by omega) (by omega)), if_neg (nI_inN (show t0 + n < 65540 by omega) (by omega))]
      dsimp only
      rw [e42, nI_m1]
      by_cases c1 : tk (t0 + n) = 126
      · rw [if_pos (show nI (tk (t0 + n)) = 126 by rw [c1]; rfl), if_pos (Or.inl c1)]
      · rw [if_neg (show ¬ nI (tk (t0 + n)) = 126 from fun z => c1 ((nI_eq (b := 126) (by omega) (by omega)).mp z))]
        by_cases c2 : tk (t0 + n) = 45
        · rw [if_pos (show nI (tk (t0 + n)) = 45 by rw [c2]; rfl), if_pos (Or.inr c2)]
        · rw [if_neg (show ¬ nI (tk (t0 + n)) = 45 from fun z => c2 ((nI_eq (b := 45) (by omega) (by omega)).mp z)), if_neg (by omega)]
          rfl
    rw [step]
    obtain ⟨w', L', C', S', c1, c2, c3, c4, c5, c6, c7⟩ := ih f (if tk (t0 + n) = 126 ∨ tk (t0 + n) = 45 then w else 1) _ _ nc S2 b2 (by split <;> omega) (by split <;> omega) (by omega) (by omega) (by simp; omega) (fun i hi => h6 i (by omega))
    exact ⟨w', L', C', S', c1, c2, c3, c4, c5, by rw [c6]; simp; omega, by omega⟩
theorem oper_M {d : Nat} (T : Tv tk pl nt) (hS : SM tk pl vl wi nm nt m N s0) (hN : 13002 < N) (hN0 : N = N0 + 1)
    (iP : ∀ s t la nc W F C, t < nt → SE s0 s → Xm s 0 t la nc W F → s.2 45 m = lN C → Bd nt t la nc C → W + 3 * d ≤ 1502 → F + 3 * d ≤ 1502 → Ex m nt (13000 + 20 * d) s0 s t la nc W F C ((sg_M_exp N d).2.2.2.1 s) ((eG tk pl vl wi nm nt N0 d).2.2.2.1 t)) (hd : d ≤ 400) :
    ∀ s t la nc W F C, SE s0 s → Xm s 0 t la nc W F → s.2 45 m = lN C → Bd nt t la nc C → W + 3 * (d + 1) ≤ 1505 → F + 3 * (d + 1) ≤ 1505 → Ex m nt (13000 + 20 * (d + 1)) s0 s t la nc W F C ((sg_M_exp N (d + 1)).2.2.1 s) ((eG tk pl vl wi nm nt N0 (d + 1)).2.2.1 t) := by
  intro s t0 la nc W F C e hX hC hB hW hF q hq
  have l1 := T.2.1
  obtain ⟨j1, j2, j3, j4, j5⟩ := id hB
  have hq : eOl tk nt (eG tk pl vl wi nm nt N0 d).2.2.2.1 t0 N0 t0 = some q := hq
  show ∃ v s', fb_M_operand N _ _ _ _ _ s = _ ∧ _
  unfold fb_M_operand
  have P0 : Pg m s0 s la nc W F C s t0 [] 0 nc W F := Pg.start e hX hC
  rw [P0.eight]
  have loop : ∀ (n t : Nat) (S : ms), t0 ≤ t → Pg m s0 s la nc W F C S t [] 0 nc W F → (∀ i, t0 + i < t → isU (tk (t0 + i)) = true) → t ≤ nt + 1 → eOl tk nt (eG tk pl vl wi nm nt N0 d).2.2.2.1 t0 n t = some q → ∃ v s', hd_M_operand_5 N (sg_M_exp N d).1 (sg_M_exp N d).2.1 (sg_M_exp N d).2.2.1 (sg_M_exp N d).2.2.2.1 (sg_M_exp N d).2.2.2.2 (n + 1) (nI t0) S = some (v, s') ∧ SE s0 s' ∧ Lo m s s' la nc W F ∧ XPo m nt (13000 + 20 * (d + 1)) t0 la nc W F C v s' q := by
    intro n
    induction n with
    | zero => intro t S _ _ _ _ h; cases h
    | succ n ih =>
      intro t S h1 P h2 h3 h
      unfold eOl at h
      by_cases c0 : nt ≤ t
      · rw [if_pos c0] at h; cases h
      rw [if_neg c0] at h
      have kv := T.lt (show t < nt by omega)
      show ∃ v s', bd_M_operand_5 N _ _ _ _ _ (hd_M_operand_5 N _ _ _ _ _ (n + 1)) (nI t0) S = some (v, s') ∧ _
      unfold bd_M_operand_5
      rw [kind_M (hS.mono P.1) P.2.2.2.2.1 (by omega), obind]
      dsimp only
      rw [isU_1 kv, obind]
      dsimp only
      cases c1 : isU (tk t)
      · rw [if_neg (by rw [c1]; decide)] at h
        rw [if_pos (show b01 false = 0 from rfl)]
        have E := iP S t _ nc W F _ (by omega) P.1 P.2.2.2.2.1 P.2.2.2.2.2.2 ⟨by omega, by omega, by simp; omega, by omega, by omega⟩ (by omega) (by omega)
        rcases xb_some h with ⟨f, p', r1, rfl⟩ | ⟨w, t2, L2, C2, r1, h⟩
        · obtain ⟨v, S1, a1, a2, -⟩ := P.sub E r1 (Nat.le_refl _) (Nat.le_refl _)
          have Z := a2 f p' rfl
          rw [a1, obind]
          unfold bk_M_operand_37
          obtain ⟨N', hN'⟩ : ∃ N', N = N' + 1 := ⟨N - 1, by omega⟩
          rw [show hd_M_operand_43 N (sg_M_exp N d).1 (sg_M_exp N d).2.1 (sg_M_exp N d).2.2.1 (sg_M_exp N d).2.2.2.1 (sg_M_exp N d).2.2.2.2 N = hd_M_operand_43 N (sg_M_exp N d).1 (sg_M_exp N d).2.1 (sg_M_exp N d).2.2.1 (sg_M_exp N d).2.2.2.1 (sg_M_exp N d).2.2.2.2 (N' + 1) by rw [← hN']]
          show ∃ v9 s9, bd_M_operand_43 N _ _ _ _ _ (hd_M_operand_43 N _ _ _ _ _ N') (nI t0) v (S.1 8 0 - 1) S1 = some (v9, s9) ∧ _
          unfold bd_M_operand_43
          rw [if_neg Z.nine, ite_self]
          exact Z.done rfl (by omega)
        · obtain ⟨v, S1, a1, -, a2⟩ := P.sub E r1 (Nat.le_refl _) (Nat.le_refl _)
          obtain ⟨rfl, w1, w2, w3, w4, w5, w6, nc2, w7, w8⟩ := a2 _ _ _ _ rfl
          simp only [List.nil_append, Nat.zero_add] at w7
          rw [a1, obind]
          unfold bk_M_operand_37
          dsimp only
          rw [P.eight]
          obtain ⟨w', L', C', S', b1, b2, b3, b4, b5, b6, b7⟩ := un_M (d := d) (t0 := t0) T hS (t - t0) N w L2 C2 nc2 S1 w7 w1 w2 (by omega) (by omega) (by omega) (fun i hi => h2 i (by omega))
          rw [show t0 + (t - t0) = t by omega] at b2
          rw [b2]
          rw [b1] at h
          unfold xok at h
          cases h
          exact b3.done (t := t0) (nt := nt) rfl b4 b5 (by omega) (by omega) (by omega) (by omega)
      · rw [if_pos c1] at h
        rw [if_neg (show ¬ b01 true = 0 by decide), P.eight, nI_1]
        have t1n := T.more (show t < nt by omega) rfl (isU_ne c1).1 (isU_ne c1).2
        refine ih (t + 1) _ (by omega) (P.tset rfl (by omega)) (fun i hi => ?_) (by omega) h
        by_cases z : t0 + i = t
        · rw [z]; exact c1
        · exact h2 i (by omega)
  obtain ⟨v, s', a1, a2⟩ := loop N0 t0 s (Nat.le_refl _) P0 (fun i hi => by omega) j1 hq
  exact ⟨v, s', by rw [← a1, hN0], a2⟩
/-! what waits: widths, operators -/
def wsR (row : Nat → Int32) (W : Nat) : List Nat → Prop
  | [] => True
  | w :: ws => row (W + ws.length) = nI w ∧ 1 ≤ w ∧ w ≤ 64 ∧ wsR row W ws
def opR (r49 r50 : Nat → Int32) (F : Nat) : List (Nat × Nat) → Prop
  | [] => True
  | o :: ops => r49 (F + ops.length) = nI o.1 ∧ r50 (F + ops.length) = nI o.2 ∧ isB o.1 ∧ opR r49 r50 F ops
/-- ranks grow -/
def opS : List (Nat × Nat) → Nat → Prop
  | [], _ => True
  | o :: ops, r => rk o.1 < r ∧ 0 < rk o.1 ∧ opS ops (rk o.1)
theorem opS.len : ∀ {ops : List (Nat × Nat)} {r : Nat}, opS ops r → ops.length < r ∨ ops = []
  | [], _, _ => Or.inr rfl
  | o :: ops, r, h => by
    left
    rcases opS.len h.2.2 with z | z
    · have := h.1; simp; omega
    · subst z; have := h.1; have := h.2.1; simp; omega
theorem wsR.mono {row row' : Nat → Int32} {W : Nat} : ∀ {ws : List Nat}, wsR row W ws → (∀ k, k < W + ws.length → row' k = row k) → wsR row' W ws
  | [], _, _ => trivial
  | w :: ws, h, g => ⟨by rw [g _ (by simp)]; exact h.1, h.2.1, h.2.2.1, wsR.mono h.2.2.2 (fun k hk => g k (by simp; omega))⟩
theorem opR.mono {r49 r50 r49' r50' : Nat → Int32} {F : Nat} : ∀ {ops : List (Nat × Nat)}, opR r49 r50 F ops → (∀ k, k < F + ops.length → r49' k = r49 k ∧ r50' k = r50 k) → opR r49' r50' F ops
  | [], _, _ => trivial
  | o :: ops, h, g => ⟨by rw [(g _ (by simp)).1]; exact h.1, by rw [(g _ (by simp)).2]; exact h.2.1, h.2.2.1, opR.mono h.2.2.2 (fun k hk => g k (by simp; omega))⟩
theorem Zg.reck {S : ms} {f p b W' F' : Nat} (hS : SM tk pl vl wi nm nt m N s0) (h : Zg m s0 s la0 nc0 W F S f p b (W' + 2) (F' + 1)) (hb : b + 1 < 33000) (hW : W ≤ W') : ∃ S', fn_M_reckon N S = some ((), S') ∧ Zg m s0 s la0 nc0 W F S' f p (b + 1) (W' + 1) F' := by
  obtain ⟨a1, a2, a3, a4, t, la, nc, a5, a6, a7, a8, a9, a10⟩ := h
  have c12 : S.1 12 0 = nI m := by rw [a1.1 12 (by decide)]; exact hS.1
  obtain ⟨S', b1, b2, b3, b4, b5, b6, b7⟩ := reckZ_M (N := N) a5 a3 (by omega) c12 hS.2.1
  refine ⟨S', b1, a1.trans (b4.mono (by decide) (by decide)), a2.trans (la' := la) (nc' := nc) (W' := W') (F' := F) ⟨b6, fun k _ => by rw [b4.2 43 (by decide)], fun k _ => ⟨by rw [b4.1 49 (by decide)], by rw [b4.1 50 (by decide)]⟩, b5, b7⟩ a9 a10 hW (Nat.le_refl _), a3, by rw [b3]; exact a4, t, la + 1, nc, b2, by omega, by omega, by omega, by omega, a10⟩
/-- behind a fault: all that waits is reckoned -/
theorem Zg.all {S : ms} {f p b d : Nat} (hS : SM tk pl vl wi nm nt m N s0) : ∀ (q n : Nat) (S : ms) (b : Nat), Zg m s0 s la0 nc0 W F S f p b (W + q + 1) (F + q) → b + q < 33000 → q < n → W + q < 2000 → F + q < 2000 → ∃ v S', hd_M_binary_133 N (sg_M_exp N d).1 (sg_M_exp N d).2.1 (sg_M_exp N d).2.2.1 (sg_M_exp N d).2.2.2.1 (sg_M_exp N d).2.2.2.2 n (nI F) S = some (v, S') ∧ Zg m s0 s la0 nc0 W F S' f p (b + q) W F := by
  intro q
  induction q with
  | zero =>
    intro n S b h h1 h2 h3 h4
    obtain ⟨n, rfl⟩ : ∃ n', n = n' + 1 := ⟨n - 1, by omega⟩
    obtain ⟨a1, a2, a3, a4, t, la, nc, a5, a6, a7, a8, a9, a10⟩ := h
    obtain ⟨x1, x2, x3, x4, x5, x6, x7, x8, x9, x10, x11, x12, x13⟩ := id a5
    show ∃ v S', bd_M_binary_133 N _ _ _ _ _ (hd_M_binary_133 N _ _ _ _ _ n) (nI F) S = some (v, S') ∧ _
    unfold bd_M_binary_133
    rw [x11, if_pos (nI_le (by omega) (by omega)), x9, Nat.add_zero, nI_pred, if_neg (nI_in (show W < 4096 by omega) (by decide))]
    refine ⟨_, _, rfl, a1.upI (by decide), a2.trans (la' := la0) (nc' := nc0) (W' := W) (F' := F) (Lo.of (ks := [53]) (Eb.rfl.upI (by decide)) (by decide)) (Nat.le_refl _) (Nat.le_refl _) (Nat.le_refl _) (Nat.le_refl _), a3, a4, t, la, nc, ⟨x1, x2, x3, x4, x5, x6, x7, x8, rfl, by omega, x11, by omega, x13⟩, by omega, by omega, by omega, a9, a10⟩
  | succ q ih =>
    intro n S b h h1 h2 h3 h4
    obtain ⟨n, rfl⟩ : ∃ n', n = n' + 1 := ⟨n - 1, by omega⟩
    show ∃ v S', bd_M_binary_133 N _ _ _ _ _ (hd_M_binary_133 N _ _ _ _ _ n) (nI F) S = some (v, S') ∧ _
    unfold bd_M_binary_133 bk_M_binary_145
    obtain ⟨S1, b1, b2⟩ := Zg.reck (N := N) (W' := W + q) (F' := F + q) hS h (by omega) (by omega)
    obtain ⟨-, -, -, -, t, la, nc, a5, -⟩ := id h
    have x11 : S.1 51 0 = nI (F + (q + 1)) := a5.2.2.2.2.2.2.2.2.2.2.1
    rw [x11, if_neg (nI_ge (by omega) (by omega)), b1, obind]
    obtain ⟨v, S', c1, c2⟩ := ih n S1 (b + 1) b2 (by omega) (by omega) (by omega) (by omega)
    exact ⟨v, S', c1, c2.mono (by omega)⟩
theorem Zg.oper {S : ms} {f p b W' F' d : Nat} (hd : 2 ≤ d) (hS : SM tk pl vl wi nm nt m N s0) (hN : 13002 < N) (h : Zg m s0 s la0 nc0 W F S f p b W' F') (hb : 13000 ≤ b) (hW : W ≤ W') (hF : F ≤ F') : ∃ v S', (sg_M_exp N d).2.2.1 S = some (v, S') ∧ Zg m s0 s la0 nc0 W F S' f p b W' F' := by
  obtain ⟨a1, a2, a3, a4, t, la, nc, a5, a6, a7, a8, a9, a10⟩ := h
  obtain ⟨v, S', t', b1, b2, b3, b4, b5, b6⟩ := operZ2 hd hS hN a1 a5 a3
  exact ⟨v, S', b1, b5, a2.trans b6 a9 a10 hW hF, a3, by rw [b4]; exact a4, t', la, nc, b2, by omega, a7, a8, a9, a10⟩
theorem Zg.pushW {S : ms} {f p b W' F' : Nat} {v : Int32} (h : Zg m s0 s la0 nc0 W F S f p b W' F') (hW : W ≤ W') (hW' : W' + 1 < 2000) : ∃ S', fn_M_pushWidth N v S = some ((), S') ∧ Zg m s0 s la0 nc0 W F S' f p b (W' + 1) F' := by
  obtain ⟨a1, a2, a3, a4, t, la, nc, a5, a6, a7, a8, a9, a10⟩ := h
  obtain ⟨S', b1, b2, b3, b4⟩ := pushW_M (N := N) (w := v) a5 hW'
  exact ⟨S', b1, a1.trans (b4.mono (by decide) (by decide)), a2.trans (la' := la0) (nc' := nc0) (W' := W) (F' := F) ⟨fun k _ => by rw [b4.1 41 (by decide)], fun k _ => by rw [b4.2 43 (by decide)], fun k _ => ⟨by rw [b4.1 49 (by decide)], by rw [b4.1 50 (by decide)]⟩, fun k hk => by rw [b3, upd_ne (by omega)], fun k _ => by rw [b4.2 45 (by decide)]⟩ (Nat.le_refl _) (Nat.le_refl _) (Nat.le_refl _) (Nat.le_refl _), a3, by rw [b4.1 10 (by decide)]; exact a4, t, la, nc, b2, a6, a7, a8, a9, a10⟩
/-- behind a fault, the operand pushed: the loop ends -/
theorem Zg.loop13 {S : ms} {f p b q d n : Nat} (hS : SM tk pl vl wi nm nt m N s0) (hN : 13002 < N) (h : Zg m s0 s la0 nc0 W F S f p b (W + q + 1) (F + q)) (h1 : b + q < 33000) (h2 : q < 13000) (h3 : W + q < 2000) (h4 : F + q < 2000) : ∃ v S', hd_M_binary_13 N (sg_M_exp N d).1 (sg_M_exp N d).2.1 (sg_M_exp N d).2.2.1 (sg_M_exp N d).2.2.2.1 (sg_M_exp N d).2.2.2.2 (n + 1) (nI F) S = some (v, S') ∧ Zg m s0 s la0 nc0 W F S' f p (b + q) W F := by
  show ∃ v S', bd_M_binary_13 N _ _ _ _ _ (hd_M_binary_13 N _ _ _ _ _ n) (nI F) S = some (v, S') ∧ _
  unfold bd_M_binary_13
  rw [if_neg h.nine]
  exact Zg.all (S := S) (b := b) hS q N S b h h1 (by omega) h3 h4
/-- behind a fault, within the loop that reckons before an operator -/
theorem Zg.loop38 {d n0 : Nat} {r : Int32} (hd : 2 ≤ d) (hS : SM tk pl vl wi nm nt m N s0) (hN : 13002 < N) : ∀ (q n : Nat) (S : ms) (f p b : Nat), Zg m s0 s la0 nc0 W F S f p b (W + q + 1) (F + q) → 13000 ≤ b → b + 2 * q + 5 < 33000 → q < n → q < 1000 → W + q + 3 < 2000 → F + q + 3 < 2000 → ∃ v S', hd_M_binary_38 N (sg_M_exp N d).1 (sg_M_exp N d).2.1 (sg_M_exp N d).2.2.1 (sg_M_exp N d).2.2.2.1 (sg_M_exp N d).2.2.2.2 (hd_M_binary_13 N (sg_M_exp N d).1 (sg_M_exp N d).2.1 (sg_M_exp N d).2.2.1 (sg_M_exp N d).2.2.2.1 (sg_M_exp N d).2.2.2.2 (n0 + 1)) n (nI F) r S = some (v, S') ∧ Zg m s0 s la0 nc0 W F S' f p (b + 2 * q + 3) W F := by
  intro q
  have s71 : ∀ (q : Nat) (S : ms) (f p b : Nat), Zg m s0 s la0 nc0 W F S f p b (W + q + 1) (F + q) → 13000 ≤ b → b + q + 5 < 33000 → q < 1000 → W + q + 3 < 2000 → F + q + 3 < 2000 → ∃ v S', bk_M_binary_71 N (sg_M_exp N d).1 (sg_M_exp N d).2.1 (sg_M_exp N d).2.2.1 (sg_M_exp N d).2.2.2.1 (sg_M_exp N d).2.2.2.2 (hd_M_binary_13 N (sg_M_exp N d).1 (sg_M_exp N d).2.1 (sg_M_exp N d).2.2.1 (sg_M_exp N d).2.2.2.1 (sg_M_exp N d).2.2.2.2 (n0 + 1)) (nI F) S = some (v, S') ∧ Zg m s0 s la0 nc0 W F S' f p (b + q + 3) W F := by
    intro q S f p b h hb0 h1 h2 h3 h4
    obtain ⟨a1, a2, a3, a4, t, la, nc, a5, a6, a7, a8, a9, a10⟩ := h
    obtain ⟨x1, x2, x3, x4, x5, x6, x7, x8, x9, x10, x11, x12, x13⟩ := id a5
    unfold bk_M_binary_71
    rw [kindZ a5, obind]
    dsimp only
    rw [x11, x3, if_neg (nI_in (show F + q < 4096 by omega) (by decide)), if_neg (nI_in (show t < 65540 by omega) (by decide)), if_neg (nI_in (show F + q < 4096 by omega) (by decide)), nI_clamp (by omega), nI_clamp (by omega), nI_1, nI_1]
    have Z2 : Zg m s0 s la0 nc0 W F (upI (upI (upI (upI S 49 (upd (S.1 49) (F + q) (S.1 4 t))) 50 (upd (S.1 50) (F + q) (S.1 5 t))) 51 (fun _ => nI (F + q + 1))) 8 (fun _ => nI (t + 1))) f p (b + 1) (W + q + 1) (F + q + 1) := by
      refine ⟨(((a1.upI (by decide)).upI (by decide)).upI (by decide)).upI (by decide), a2.trans (la' := la0) (nc' := nc0) (W' := W) (F' := F) ⟨fun _ _ => rfl, fun _ _ => rfl, fun k hk => ⟨upd_ne (by omega), upd_ne (by omega)⟩, fun _ _ => rfl, fun _ _ => rfl⟩ (Nat.le_refl _) (Nat.le_refl _) (Nat.le_refl _) (Nat.le_refl _), a3, a4, t + 1, la, nc, ⟨x1, x2, rfl, by omega, x5, x6, x7, x8, x9, x10, rfl, by omega, x13⟩, by omega, by omega, by omega, a9, a10⟩
    obtain ⟨v, S3, b1, b2⟩ := Z2.oper hd hS hN (by omega) (by omega) (by omega)
    have b1' : (sg_M_exp N d).2.2.1 (upI (upI (upI (upI S 49 (upd (S.1 49) (F + q) (S.1 4 t))) 50 (upd ((upI S 49 (upd (S.1 49) (F + q) (S.1 4 t))).1 50) (F + q) ((upI S 49 (upd (S.1 49) (F + q) (S.1 4 t))).1 5 t))) 51 (fun _ => nI (F + q + 1))) 8 (fun _ => nI (t + 1))) = some (v, S3) := b1
    first
      | rw [b1', obind]
      | (rw [b1, obind])
    unfold bk_M_binary_127
    dsimp only
    obtain ⟨S4, c1, c2⟩ := b2.pushW (N := N) (v := v) (by omega) (by omega)
    rw [c1, obind]
    obtain ⟨v5, S5, d1, d2⟩ := Zg.loop13 (q := q + 1) (d := d) (n := n0) hS hN (by rw [show W + (q + 1) + 1 = W + q + 1 + 1 by omega, show F + (q + 1) = F + q + 1 by omega]; exact c2) (by omega) (by omega) (by omega) (by omega)
    exact ⟨v5, S5, d1, d2.mono (by omega)⟩
  induction q with
  | zero =>
    intro n S f p b h hb0 h1 h2 h2b h3 h4
    obtain ⟨n, rfl⟩ : ∃ n', n = n' + 1 := ⟨n - 1, by omega⟩
    show ∃ v S', bd_M_binary_38 N _ _ _ _ _ _ (hd_M_binary_38 N _ _ _ _ _ _ n) (nI F) r S = some (v, S') ∧ _
    unfold bd_M_binary_38
    obtain ⟨-, -, -, -, t, la, nc, a5, -⟩ := id h
    have x11 : S.1 51 0 = nI (F + 0) := a5.2.2.2.2.2.2.2.2.2.2.1
    rw [x11, Nat.add_zero, if_pos (nI_le (Nat.le_refl _) (by omega))]
    obtain ⟨v, S', c1, c2⟩ := s71 0 S f p b h hb0 (by omega) (by omega) (by omega) (by omega)
    exact ⟨v, S', c1, c2.mono (by omega)⟩
  | succ q ih =>
    intro n S f p b h hb0 h1 h2 h2b h3 h4
    obtain ⟨n, rfl⟩ : ∃ n', n = n' + 1 := ⟨n - 1, by omega⟩
    show ∃ v S', bd_M_binary_38 N _ _ _ _ _ _ (hd_M_binary_38 N _ _ _ _ _ _ n) (nI F) r S = some (v, S') ∧ _
    unfold bd_M_binary_38 bk_M_binary_68
    obtain ⟨-, -, -, -, t, la, nc, a5, -⟩ := id h
    have x11 : S.1 51 0 = nI (F + q + 1) := a5.2.2.2.2.2.2.2.2.2.2.1
    rw [x11, if_neg (nI_ge (by omega) (by omega)), nI_pred, if_neg (nI_in (show F + q < 4096 by omega) (by decide))]
    obtain ⟨x, hx⟩ := rank_any N (S.1 49 (nI (F + q)).toNatClampNeg) S
    rw [hx, obind]
    dsimp only
    by_cases c : x < r
    · rw [if_pos c]
      obtain ⟨v, S', c1, c2⟩ := s71 (q + 1) S f p b h hb0 (by omega) (by omega) (by omega) (by omega)
      exact ⟨v, S', c1, c2.mono (by omega)⟩
    · rw [if_neg c]
      obtain ⟨S1, b1, b2⟩ := Zg.reck (N := N) (W' := W + q) (F' := F + q) hS h (by omega) (by omega)
      rw [b1, obind]
      obtain ⟨v, S', c1, c2⟩ := ih n S1 f p (b + 1) b2 (by omega) (by omega) (by omega) (by omega) (by omega) (by omega)
      exact ⟨v, S', c1, c2.mono (by omega)⟩
end MOP
