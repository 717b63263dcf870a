/-! The class: labels of a case. -/
def mC (B : Nat) : Nat → List Nat
  | 0 => []
  | n + 1 => (B + 2 * n + 1) :: mC B n
theorem mC_mem {B : Nat} : ∀ {n j : Nat}, j ∈ mC B n ↔ ∃ i, i < n ∧ j = B + 2 * i + 1
  | 0, j => by unfold mC; simp
  | n + 1, j => by
    unfold mC
    rw [List.mem_cons, mC_mem]
    constructor
    · rintro (h | ⟨i, h1, h2⟩)
      · exact ⟨n, by omega, h⟩
      · exact ⟨i, by omega, h2⟩
    · rintro ⟨i, h1, h2⟩
      by_cases c : i = n
      · exact Or.inl (by rw [h2, c])
      · exact Or.inr ⟨i, by omega, h2⟩
theorem mC_len {B : Nat} : ∀ {n : Nat}, (mC B n).length = n
  | 0 => rfl
  | n + 1 => by unfold mC; rw [List.length_cons, mC_len]
/-- labels lie in the code from B on -/
def CLab (row : Nat → Int64) (fd : Nat) (lit : Nat → Int64) (lc B : Nat) (ls : List Nat) : Prop := ∀ i u, ls[i]? = some u → cop row fd lit lc (B + 2 * i) (0, u, 0) ∧ ∃ g, row (B + 2 * i + 1) = crw 519 g
section CLAB
variable {tk pl vl wi : Nat → Nat} {nm : Nat → Option (Nat × Nat)} {nt : Nat} {ex : Nat → Int32} {N N0 N1 fd lc : Nat} {lit : Nat → Int64} {rg : Nat → Bool} {fz : Nat → Int32} {an dc : Nat} {P : Nat → Prop} {c0 : ms}
theorem copLit {row : Nat → Int64} {j li v : Nat} (e : row j = crw 513 (nI li)) (hl : li < lc) (hv : lit li = lN v) : cop row fd lit lc j (0, v, 0) := ⟨513, nI li, e, fun _ => ⟨rfl, li, rfl, hl, hv⟩, (fun z => absurd z (by simp)), (fun z => absurd z (by simp)), (fun z => absurd z (by simp)), (fun z => absurd z (by simp)), (fun z => absurd z (by simp)), (fun z => absurd z (by simp)), (fun z => absurd z (by simp)), (fun z => absurd z (by simp)), by simp⟩
/-- the meaning within labels -/
def LaS (fd : Nat) (lit : Nat → Int64) (lc : Nat) (c : ms) (μ : Option (Nat × Nat)) (B C w md t : Nat) (ls : List Nat) : Prop :=
  (∀ fp, μ = some fp → Off c fp.1 fp.2) ∧ (μ = none → (∃ T, Xc c T (B + 2 * ls.length) C) ∧ B + 2 * ls.length ≤ t ∧ c.1 260 0 = nI (md + 1) ∧ md < 60 ∧ c.1 259 md = nI w ∧ jch (c.2 336) 519 (c.1 258 md) (mC B ls.length) ∧ CLab (c.2 336) fd lit lc B ls)
theorem LaS.mono {c c' : ms} {μ : Option (Nat × Nat)} {B C w md t t' : Nat} {ls : List Nat} {ks : List Nat} (h : LaS fd lit lc c μ B C w md t ls) (e : Eb ks [] c c') (hk : (242 ∉ ks ∧ 239 ∉ ks ∧ 337 ∉ ks ∧ 241 ∉ ks) ∧ 243 ∉ ks ∧ 258 ∉ ks ∧ 259 ∉ ks ∧ 260 ∉ ks) (h2 : c'.1 217 0 = nI 0) (ht : t ≤ t') : LaS fd lit lc c' μ B C w md t' ls := by
  refine ⟨fun fp z => (h.1 fp z).mono e hk.1.1 hk.2.1, fun z => ?_⟩
  obtain ⟨⟨T, X⟩, x2, x3, x4, x5, x6, x7⟩ := h.2 z
  exact ⟨⟨T, X.mono e hk.1 h2⟩, by omega, by rw [e.1 260 hk.2.2.2.2]; exact x3, x4, by rw [e.1 259 hk.2.2.2.1]; exact x5, by rw [e.2 336 (by decide), e.1 258 hk.2.2.1]; exact x6, by rw [e.2 336 (by decide)]; exact x7⟩
/-- one label -/
theorem lab1_C {c : ms} {σ : gs} {μ : Option (Nat × Nat)} {B C w md : Nat} {ls : List Nat} (hQ : CQ tk pl vl wi nm nt ex N N0 N1 fd lit lc rg an dc P c0) (e : CE2 c0 c) (h0 : σ.2.2.1 = 0) (hG : CG tk pl nt ex c σ) (hk : tk σ.1 = 402) (hw : w ≤ 64) (hs : LaS fd lit lc c μ B C w md σ.1 ls) :
    ∃ c' μ', fn_Meaning_label_Me N (c.1 216 0) (c.1 215 0) c = some ((), c') ∧ Eb [238, 239, 241, 242, 243, 258, 337] [336] c c' ∧ LaS fd lit lc c' μ' B (C + w) w md (σ.1 + 2) (ls ++ [vl σ.1]) ∧ (∀ fp, μ = some fp → μ' = some fp) ∧ (μ = none → (wi σ.1 ≠ w → μ' = some (30, pl σ.1)) ∧ (wi σ.1 = w → μ' = none)) ∧ (μ' = none → (∀ k, k < B → c'.2 336 k = c.2 336 k) ∧ ∀ k, k ≠ md → c'.1 258 k = c.1 258 k) := by
  obtain ⟨T, hN, hN1, hN0, hS, hl, hn, -⟩ := hQ
  have l1 := T.2.1
  have cs := hS c e
  obtain ⟨g1, g2, g3, g4, g5, g6, g7⟩ := hG.2.2.2.1 h0
  have tn := hG.2.1
  obtain ⟨li, e1, e2, e3, e4, e5, e6⟩ := cs.2.2.2.2.2.2.1 _ hG.2.1 hk
  rw [g4, e1, g3]
  cases hμ : μ with
  | some fp =>
    have o := hs.1 fp hμ
    exact ⟨c, some fp, off_label o.off, Eb.rfl, ⟨fun q z => (by cases z; exact o), fun z => (by cases z)⟩, fun q z => (by cases z; rfl), fun z => (by cases z), fun z => (by cases z)⟩
  | none =>
    obtain ⟨⟨T0, X⟩, x2, x3, x4, x5, x6, x7⟩ := hs.2 hμ
    obtain ⟨p1, p2⟩ := label_C (N := N) (p := pl σ.1) X (by omega) x3 x4 x5 hw e2 cs.2.2.1 cs.2.1 e3 e5
    by_cases q : wi σ.1 = w
    · obtain ⟨c', a1, a2, a3, a4, a5⟩ := p1 q
      have ll : (ls ++ [vl σ.1]).length = ls.length + 1 := by simp
      refine ⟨c', none, a1, a5, ⟨fun _ z => (by cases z), fun _ => ?_⟩, fun _ z => (by cases z), fun _ => ⟨fun z => absurd q z, fun _ => rfl⟩, fun _ => ⟨fun k hk => ?_, fun k hk => ?_⟩⟩
      · rw [ll]
        refine ⟨⟨T0, by rw [show B + 2 * (ls.length + 1) = B + 2 * ls.length + 2 by omega]; exact a2⟩, by omega, by rw [a5.1 260 (by decide)]; exact x3, x4, by rw [a5.1 259 (by decide)]; exact x5, ?_, ?_⟩
        · rw [a4, upd_at]
          refine ⟨rfl, fun i hi => ?_, c.1 258 md, by rw [a3, updL_at], x6.mono (fun j hj => ?_)⟩
          · obtain ⟨i', h1, h2⟩ := mC_mem.mp hi
            omega
          · obtain ⟨i', h1, h2⟩ := mC_mem.mp hj
            rw [a3, updL_ne (by omega), updL_ne (by omega)]
        · intro i u hi
          by_cases il : i < ls.length
          · rw [List.getElem?_append_left il] at hi
            obtain ⟨u1, g, u2⟩ := x7 i u hi
            exact ⟨u1.at (by rw [a3, updL_ne (by omega), updL_ne (by omega)]), g, by rw [a3, updL_ne (by omega), updL_ne (by omega)]; exact u2⟩
          · rw [List.getElem?_append_right (by omega)] at hi
            have i0 : i = ls.length := by
              by_cases z : i = ls.length
              · exact z
              · rw [show i - ls.length = (i - ls.length - 1) + 1 by omega] at hi; simp at hi
            rw [i0, Nat.sub_self] at hi
            cases hi
            rw [i0]
            exact ⟨copLit (by rw [a3, updL_ne (by omega), updL_at]) e2 e6, _, by rw [a3, updL_at]⟩
      · rw [a3, updL_ne (by omega), updL_ne (by omega)]
      · rw [a4, upd_ne hk]
    · obtain ⟨c', a1, a2, a3⟩ := p2 q
      exact ⟨c', some (30, pl σ.1), a1, a3, ⟨fun fp z => (by cases z; exact a2), fun z => (by cases z)⟩, fun _ z => (by cases z), fun _ => ⟨fun _ => rfl, fun z => absurd z q⟩, fun z => (by cases z)⟩
/-- an arm's begin: labels are aimed, the class is before its statement -/
def ArmS (fd : Nat) (lit : Nat → Int64) (lc : Nat) (c c' : ms) (μ : Option (Nat × Nat)) (B C md : Nat) (ls : List Nat) : Prop :=
  (∀ fp, μ = some fp → Off c' fp.1 fp.2) ∧ (μ = none → (∃ T, Xc c' T (B + 2 * ls.length + 1) C) ∧ CLab (c'.2 336) fd lit lc B ls ∧ (∀ i, i < ls.length → c'.2 336 (B + 2 * i + 1) = crw 519 (nI (B + 2 * ls.length + 1))) ∧ c'.2 336 (B + 2 * ls.length) = crw 517 (-1) ∧ c'.1 256 = upd (c.1 256) md (nI (B + 2 * ls.length)) ∧ c'.1 258 md = -1 ∧ (∀ k, k ≠ md → c'.1 258 k = c.1 258 k) ∧ (∀ k, k < B → c'.2 336 k = c.2 336 k))
theorem arm116 {c : ms} {σ : gs} {μ : Option (Nat × Nat)} {B C w md kd : Nat} {ls : List Nat} (T : Tv tk pl nt) (hN : 40000 < N) (hG : CG tk pl nt ex c σ) (hkd : c.1 271 0 = nI (kd + 1)) (hk2 : kd < 60) (hs : σ.2.2.1 = 0 → LaS fd lit lc c μ B C w md (σ.1 + 1) ls) :
    ∃ c', bk_Grammar_arm_Gr_116 N c = some ((), c') ∧ CG tk pl nt ex c' (gTake tk pl 58 σ) ∧ c'.1 264 0 = 4 ∧ c'.1 271 0 = nI (kd + 1) ∧ c'.1 270 = upd (c.1 270) kd 201 ∧ Eb [213, 214, 215, 216, 217, 218, 219, 238, 239, 241, 242, 243, 256, 258, 264, 270, 337] [336] c c' ∧ ((gTake tk pl 58 σ).2.2.1 = 0 → ArmS fd lit lc c c' μ B C md ls) := by
  have l1 := T.2.1
  obtain ⟨c1, a1, a2, a3⟩ := kneed (N := N) T 58 (by decide) hG
  have k1 : c1.1 271 0 = nI (kd + 1) := by rw [a3.1 271 (by decide)]; exact hkd
  have fin : ∀ c2, fn_Meaning_labelsEnd_Me N c1 = some ((), c2) → Eb [238, 239, 241, 242, 243, 256, 258, 337] [336] c1 c2 → ((gTake tk pl 58 σ).2.2.1 = 0 → ArmS fd lit lc c c2 μ B C md ls) → ∃ c', bk_Grammar_arm_Gr_116 N c = some ((), c') ∧ CG tk pl nt ex c' (gTake tk pl 58 σ) ∧ c'.1 264 0 = 4 ∧ c'.1 271 0 = nI (kd + 1) ∧ c'.1 270 = upd (c.1 270) kd 201 ∧ Eb [213, 214, 215, 216, 217, 218, 219, 238, 239, 241, 242, 243, 256, 258, 264, 270, 337] [336] c c' ∧ ((gTake tk pl 58 σ).2.2.1 = 0 → ArmS fd lit lc c c' μ B C md ls) := by
    intro c2 b1 b2 b3
    have k2 : c2.1 271 0 = nI (kd + 1) := by rw [b2.1 271 (by decide)]; exact k1
    refine ⟨upI (upI c2 270 (upd (c2.1 270) kd 201)) 264 (fun _ => 4), ?_, ((a2.mono b2 (fun k _ _ => by simp; omega) (by decide)).upI (by decide)).upI (by decide), rfl, k2, ?_, (((a3.mono (by decide) (by decide)).trans (b2.mono (by decide) (by decide))).upI (by decide)).upI (by decide), fun z => ?_⟩
    · unfold bk_Grammar_arm_Gr_116
      rw [show fn_Tokens_need_Tk N 58 c = some ((), c1) from a1, obind]
      dsimp only
      rw [b1, obind]
      dsimp only
      (rw [goOn_C k2 hk2, obind]) <;> rfl
    · show upd (c2.1 270) kd 201 = _
      rw [b2.1 270 (by decide), a3.1 270 (by decide)]
    · obtain ⟨w1, w2⟩ := b3 z
      refine ⟨fun fp y => (w1 fp y), fun y => ?_⟩
      obtain ⟨⟨T0, X⟩, x2⟩ := w2 y
      exact ⟨⟨T0, X⟩, x2⟩
  by_cases d : (gTake tk pl 58 σ).2.2.1 = 0
  · have s0 : σ.2.2.1 = 0 := by
      by_cases z : σ.2.2.1 = 0
      · exact z
      · rw [gTake_dead z] at d; exact d
    have al : c1.1 217 0 = nI 0 := a2.alive d
    obtain ⟨h1, h2⟩ := (hs s0).mono (t' := σ.1 + 1) a3 (by decide) al (by omega)
    cases hμ : μ with
    | some fp =>
      have o := h1 fp hμ
      have := fin c1 (off_labelsEnd o.off) Eb.rfl (fun _ => ⟨fun q z => (by rw [hμ] at z; cases z; exact o), fun z => (by rw [hμ] at z; cases z)⟩)
      rw [hμ] at this; exact this
    | none =>
      obtain ⟨⟨T0, X⟩, x2, x3, x4, x5, x6, x7⟩ := h2 hμ
      have tn := hG.2.1
      obtain ⟨c2, b1, b2, b3, b4, b5, b6, b7, b8⟩ := labelsEnd_C (N := N) (M := mC B ls.length) X (by omega) hN x3 x4 x6 (fun j hj => by obtain ⟨i, h1, h2⟩ := mC_mem.mp hj; omega) (by rw [mC_len]; omega)
      have nM : ∀ k, (∀ i, i < ls.length → k ≠ B + 2 * i + 1) → k ∉ mC B ls.length := fun k hk z => by
        obtain ⟨i, h1, h2⟩ := mC_mem.mp z
        exact hk i h1 h2
      have := fin c2 b1 b8 (fun _ => ⟨fun q z => (by rw [hμ] at z; cases z), fun _ => ⟨⟨T0, b2⟩, fun i u hi => ?_, fun i hi => b4 _ (mC_mem.mpr ⟨i, hi, rfl⟩), b3, by rw [b6, a3.1 256 (by decide)], by rw [b7, upd_at], fun k hk => by rw [b7, upd_ne hk, a3.1 258 (by decide)], fun k hk => by rw [b5 k (nM k (fun i hi => by omega)) (by omega), a3.2 336 (by decide)]⟩⟩)
      · rw [hμ] at this; exact this
      · have il : i < ls.length := (List.getElem?_eq_some_iff.mp hi).1
        obtain ⟨u1, g, u2⟩ := x7 i u hi
        exact ⟨u1.at (b5 _ (nM _ (fun i hi => by omega)) (by omega)), _, b4 _ (mC_mem.mpr ⟨i, il, rfl⟩)⟩
  · exact fin c1 (off_labelsEnd (Or.inr (a2.dead d))) Eb.rfl (fun z => absurd z d)
/-- behind a label: what the labels mean -/
def sLk (tk pl vl wi : Nat → Nat) (nt w n u : Nat) (ls : List Nat) : Option (Sum (Nat × Nat) (Nat × List Nat)) := if tk u = 44 then sLl tk pl vl wi nt w n (u + 1) ls else some (.inr (u + 1, ls))
theorem sLl_succ {w n t : Nat} {ls : List Nat} (h1 : t + 1 < nt) (h2 : tk t = 402) : sLl tk pl vl wi nt w (n + 1) t ls = if wi t = w then sLk tk pl vl wi nt w n (t + 1) (ls ++ [vl t]) else some (.inl (30, pl t)) := by
  unfold sLk
  conv => lhs; unfold sLl
  rw [if_neg (by omega)]
/-- labels up to the colon -/
theorem labL {w md kd B : Nat} (hQ : CQ tk pl vl wi nm nt ex N N0 N1 fd lit lc rg an dc P c0) (hw : w ≤ 64) (hk2 : kd < 60) : ∀ (n n1 n2 n0 i : Nat) (c : ms) (σ : gs) (μ : Option (Nat × Nat)) (C : Nat) (ls : List Nat), nt ≤ σ.1 + n → n < n1 → n < n2 → n ≤ n0 → i ≤ σ.1 → CE2 c0 c → CG tk pl nt ex c σ → c.1 271 0 = nI (kd + 1) → σ.2.2.1 = 0 → LaS fd lit lc c μ B C w md (σ.1 + 1) ls →
    ∃ c' σ', hd_Grammar_arm_Gr_41 N n2 (nI i) c = some ((), c') ∧ (∀ gS k, gLl tk pl gS k n1 σ = (gS σ').bind k) ∧ CG tk pl nt ex c' σ' ∧ c'.1 264 0 = 4 ∧ c'.1 271 0 = nI (kd + 1) ∧ c'.1 270 = upd (c.1 270) kd 201 ∧ Eb [213, 214, 215, 216, 217, 218, 219, 238, 239, 241, 242, 243, 256, 258, 264, 270, 337] [336] c c' ∧ σ.1 ≤ σ'.1 ∧ (σ'.2.2.1 = 0 → σ'.2.1 = σ.2.1 ∧ σ.1 < σ'.1 ∧ (∀ fp, μ = some fp → Off c' fp.1 fp.2) ∧ (μ = none → ∃ q, sLk tk pl vl wi nt w n0 σ.1 ls = some q ∧ (∀ f p, q = .inl (f, p) → Off c' f p) ∧ (∀ t1 ls', q = .inr (t1, ls') → t1 = σ'.1 ∧ ls.length ≤ ls'.length ∧ σ.1 + 2 * (ls'.length - ls.length) + 1 = t1 ∧ ArmS fd lit lc c c' none B (C + w * (ls'.length - ls.length)) md ls'))) := by
  intro n
  induction n with
  | zero => intro n1 n2 n0 i c σ μ C ls i1 i2 i3 i4 i5 i6 i7; have := i7.2.1; omega
  | succ n ih =>
    intro n1 n2 n0 i c σ μ C ls i1 i2 i3 i4 i5 i6 i7 i8 i9 i10
    obtain ⟨n1, rfl⟩ : ∃ n', n1 = n' + 1 := ⟨n1 - 1, by omega⟩
    obtain ⟨n2, rfl⟩ : ∃ n', n2 = n' + 1 := ⟨n2 - 1, by omega⟩
    obtain ⟨n0, rfl⟩ : ∃ n', n0 = n' + 1 := ⟨n0 - 1, by omega⟩
    have hQ' := hQ
    obtain ⟨T, hN, -⟩ := hQ
    have l1 := T.2.1
    have tn := i7.2.1
    have h212 : c.1 212 0 = nI nt := i7.1.1
    show ∃ c' σ', bd_Grammar_arm_Gr_41 N (hd_Grammar_arm_Gr_41 N n2) (nI i) c = some ((), c') ∧ _
    unfold bd_Grammar_arm_Gr_41
    rw [h212, if_neg (nI_ge (show i < nt by omega) (by omega))]
    by_cases k44 : tk σ.1 = 44
    · have t1n := T.more tn k44 (by decide) (by decide)
      rw [if_pos (show c.1 214 0 = 44 from kpos (k := 44) i7 i9 k44)]
      obtain ⟨c1, a1, a2, a3⟩ := ktake (N := N) T i7 (fun _ => t1n)
      rw [if_pos i9] at a2
      have al1 : c1.1 217 0 = nI 0 := a2.alive i9
      have hL1 := i10.mono (t' := σ.1 + 1) a3 (by decide) al1 (by omega)
      rw [a1, obind]
      dsimp only
      obtain ⟨c2, b1, b2, b3, b4⟩ := kdue (N := N) T 402 (by decide) a2
      rw [show fn_Tokens_due_Tk N 4 c1 = some (b01 (gIs tk 402 (gInc σ)), c2) from b1, obind]
      dsimp only
      have gl : ∀ gS k, gLl tk pl gS k (n1 + 1) σ = gLl tk pl gS k n1 (gTake tk pl 402 (gInc σ)) := fun gS k => by
        conv => lhs; unfold gLl
        rw [gIs_t i9 k44, if_pos rfl]
      by_cases k402 : tk (σ.1 + 1) = 402
      · rw [gIs_t (σ := gInc σ) i9 k402, if_neg (show ¬ b01 true = 0 by decide)]
        have e21 := b4 (gIs_t (σ := gInc σ) i9 k402)
        subst e21
        have t2n := T.more t1n k402 (by decide) (by decide)
        obtain ⟨c3, μ', d1, d2, d3, d4, d5, d6⟩ := lab1_C (σ := gInc σ) hQ' (i6.trans (a3.mono (by decide) (by decide))) i9 a2 k402 hw hL1
        rw [d1, obind]
        dsimp only
        unfold bk_Grammar_arm_Gr_103
        have hG3 : CG tk pl nt ex c3 (gInc σ) := a2.mono d2 (fun k _ _ => by simp; omega) (by decide)
        obtain ⟨c4, f1, f2, f3⟩ := ktake (N := N) T hG3 (fun _ => t2n)
        rw [if_pos (show (gInc σ).2.2.1 = 0 from i9)] at f2
        have al4 : c4.1 217 0 = nI 0 := f2.alive i9
        rw [f1, obind, nI_1]
        dsimp only
        have ek : Eb [213, 214, 215, 216, 217, 218, 219, 238, 239, 241, 242, 243, 256, 258, 264, 270, 337] [336] c c4 := ((a3.mono (by decide) (by decide)).trans (d2.mono (by decide) (by decide))).trans (f3.mono (by decide) (by decide))
        have c4n : ∀ j, j ∈ [256, 270, 271] → c4.1 j = c.1 j := fun j hj => by
          simp only [List.mem_cons, List.not_mem_nil, or_false] at hj
          rcases hj with rfl | rfl | rfl <;> rw [f3.1 _ (by decide), d2.1 _ (by decide), a3.1 _ (by decide)]
        obtain ⟨c', σ', h1, h2, h3, h4, h5, h6, h7, h8, h9⟩ := ih n1 n2 n0 (i + 1) c4 (gInc (gInc σ)) μ' (C + w) (ls ++ [vl (σ.1 + 1)]) (by show nt ≤ σ.1 + 1 + 1 + n; omega) (by omega) (by omega) (by omega) (by show i + 1 ≤ σ.1 + 1 + 1; omega) (i6.trans (ek.mono (by decide) (by decide))) f2 (by rw [c4n 271 (by decide)]; exact i8) i9 (d3.mono (t' := σ.1 + 1 + 1 + 1) f3 (by decide) al4 (by show σ.1 + 1 + 2 ≤ _; omega))
        have h8' : σ.1 + 1 + 1 ≤ σ'.1 := h8
        refine ⟨c', σ', h1, fun gS k => ?_, h3, h4, h5, by rw [h6, c4n 270 (by decide)], ek.trans h7, by omega, fun z => ?_⟩
        · rw [gl gS k, show gTake tk pl 402 (gInc σ) = gInc (gInc σ) by unfold gTake; rw [gIs_t (σ := gInc σ) i9 k402, if_pos rfl]]
          exact h2 gS k
        · obtain ⟨v1, v2, v3, v4⟩ := h9 z
          refine ⟨v1, by omega, fun fp y => v3 fp (d4 fp y), fun y => ?_⟩
          have ll : (ls ++ [vl (σ.1 + 1)]).length = ls.length + 1 := by simp
          obtain ⟨d5a, d5b⟩ := d5 y
          have es : sLk tk pl vl wi nt w (n0 + 1) σ.1 ls = if wi (σ.1 + 1) = w then sLk tk pl vl wi nt w n0 (σ.1 + 2) (ls ++ [vl (σ.1 + 1)]) else some (.inl (30, pl (σ.1 + 1))) := by
            conv => lhs; unfold sLk
            rw [if_pos k44, sLl_succ (by omega) k402]
          by_cases q : wi (σ.1 + 1) = w
          · have μ0 : μ' = none := d5b q
            obtain ⟨r, w1, w2, w3⟩ := v4 μ0
            refine ⟨r, by rw [es, if_pos q]; exact w1, w2, fun t1 ls' hr => ?_⟩
            obtain ⟨x1, x2, x3, x4, x5⟩ := w3 t1 ls' hr
            rw [ll] at x2 x3 x5
            have x3' : σ.1 + 1 + 1 + 2 * (ls'.length - (ls.length + 1)) + 1 = t1 := x3
            refine ⟨x1, by omega, by omega, fun _ z => (by cases z), fun _ => ?_⟩
            obtain ⟨y1, y2, y3, y4, y5, y6, y7, y8⟩ := x5 rfl
            obtain ⟨d6a, d6b⟩ := d6 μ0
            refine ⟨?_, y2, y3, y4, by rw [y5, c4n 256 (by decide)], y6, fun k hk => by rw [y7 k hk, f3.1 258 (by decide), d6b k hk, a3.1 258 (by decide)], fun k hk => by rw [y8 k hk, f3.2 336 (by decide), d6a k hk, a3.2 336 (by decide)]⟩
            rw [show C + w * (ls'.length - ls.length) = C + w + w * (ls'.length - (ls.length + 1)) by
              rw [show ls'.length - ls.length = (ls'.length - (ls.length + 1)) + 1 by omega, Nat.mul_add]; omega]
            exact y1
          · refine ⟨.inl (30, pl (σ.1 + 1)), by rw [es, if_neg q], fun f p hr => ?_, fun _ _ hr => (by cases hr)⟩
            cases hr
            exact v3 _ (d5a q)
      · have gf : gIs tk 402 (gInc σ) = false := gIs_f (σ := gInc σ) k402
        rw [gf, if_pos (show b01 false = 0 from rfl)]
        rw [gf, if_neg (by decide)] at b2
        have dd : (gNo tk pl (gInc σ)).2.2.1 ≠ 0 := by
          rcases gTake_cases (tk := tk) (pl := pl) 402 (gInc σ) i9 with ⟨z, -⟩ | ⟨-, z1, z2, -⟩
          · exact absurd z k402
          · rw [z1] at z2; exact z2
        have gt : gTake tk pl 402 (gInc σ) = gNo tk pl (gInc σ) := by unfold gTake; rw [gf, if_neg (by decide)]
        have g1 : (gNo tk pl (gInc σ)).1 = σ.1 + 1 := by unfold gNo; split <;> rfl
        unfold bk_Grammar_arm_Gr_103
        obtain ⟨c3, f1, f2, f3⟩ := ktake (N := N) T b2 (fun z => absurd z dd)
        rw [if_neg dd] at f2
        rw [f1, obind]
        dsimp only
        obtain ⟨n2, rfl⟩ : ∃ n', n2 = n' + 1 := ⟨n2 - 1, by omega⟩
        obtain ⟨n1, rfl⟩ : ∃ n', n1 = n' + 1 := ⟨n1 - 1, by omega⟩
        have eh : hd_Grammar_arm_Gr_41 N (n2 + 1) (nI i + 1) c3 = bk_Grammar_arm_Gr_116 N c3 := by
          show bd_Grammar_arm_Gr_41 N (hd_Grammar_arm_Gr_41 N n2) (nI i + 1) c3 = _
          unfold bd_Grammar_arm_Gr_41
          rw [if_neg (show ¬ c3.1 214 0 = 44 from kneg (k := 44) T f2 (by decide) (fun z => absurd z dd)), ite_self]
        rw [eh]
        have ek : F7 c c3 := (a3.trans b3).trans f3
        obtain ⟨c', p1, p2, p3, p4, p5, p6, p7⟩ := arm116 (N := N) (fd := fd) (lit := lit) (lc := lc) (μ := μ) (B := B) (C := C) (w := w) (md := md) (ls := ls) T hN f2 (by rw [ek.1 271 (by decide)]; exact i8) hk2 (fun z => absurd z dd)
        rw [gTake_dead dd] at p2
        refine ⟨c', gNo tk pl (gInc σ), p1, fun gS k => ?_, p2, p3, p4, by rw [p5, ek.1 270 (by decide)], (ek.mono (by decide) (by decide)).trans p6, by rw [g1]; omega, fun z => absurd z dd⟩
        rw [gl gS k, gt]
        unfold gLl
        rw [gIs_dead dd, if_neg (by decide), gTake_dead dd]
    · rw [if_neg (show ¬ c.1 214 0 = 44 from kneg (k := 44) T i7 (by decide) (fun _ => k44))]
      obtain ⟨c', p1, p2, p3, p4, p5, p6, p7⟩ := arm116 (N := N) (fd := fd) (lit := lit) (lc := lc) (μ := μ) (B := B) (C := C) (w := w) (md := md) (ls := ls) T hN i7 i8 hk2 (fun _ => i10)
      refine ⟨c', gTake tk pl 58 σ, p1, fun gS k => ?_, p2, p3, p4, p5, p6, ?_, fun z => ?_⟩
      · unfold gLl
        rw [gIs_f k44, if_neg (by decide)]
      · rcases gTake_cases (tk := tk) (pl := pl) 58 σ i9 with ⟨-, y⟩ | ⟨-, -, -, y⟩
        · rw [y]; show σ.1 ≤ σ.1 + 1; omega
        · rw [y]; omega
      · obtain ⟨y1, y2⟩ := p7 z
        rcases gTake_cases (tk := tk) (pl := pl) 58 σ i9 with ⟨-, y⟩ | ⟨-, -, y, -⟩
        · rw [y]
          refine ⟨rfl, by show σ.1 < σ.1 + 1; omega, y1, fun hμ => ⟨.inr (σ.1 + 1, ls), by unfold sLk; rw [if_neg k44], fun _ _ h => (by cases h), fun t1 ls' h => ?_⟩⟩
          cases h
          refine ⟨rfl, Nat.le_refl _, by omega, fun _ z => (by cases z), fun _ => ?_⟩
          rw [Nat.sub_self, Nat.mul_zero, Nat.add_zero]
          exact y2 hμ
        · exact absurd z y
end CLAB
