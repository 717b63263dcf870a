/-! The reference: declarations. -/
section MDEC
variable {tk pl vl wi wd : Nat → Nat} {nt N : Nat} {s0 s s' : ms} {A : ds} {t la nc : Nat}
theorem lg0 {a : Nat} (ha : a < 2 ^ 62) : (lg_cmp (lN a) 0 = 0) ↔ a = 0 := by
  rw [show (0 : Int64) = lN 0 from rfl]
  unfold lg_cmp
  have h1 := lgle (a := a) (b := 0) ha (by decide)
  by_cases z : a = 0
  · subst z
    exact ⟨fun _ => rfl, fun _ => (by decide)⟩
  · constructor
    · intro q
      have : lg_cmp (lN a) (lN 0) ≤ 0 := by unfold lg_cmp; rw [q]; decide
      have := h1.mp this
      omega
    · exact fun q => absurd q z
theorem lg63 {a : Nat} (ha : a < 2 ^ 62) : (0 < lg_cmp (lN a) 63) ↔ 63 < a := by
  have h1 := lgle (a := a) (b := 63) ha (by decide)
  rw [show (63 : Int64) = lN 63 from rfl]
  constructor
  · intro q
    by_cases z : 63 < a
    · exact z
    · exact absurd q (Int32.not_lt.mpr (h1.mpr (by omega)))
  · intro q
    by_cases z : 0 < lg_cmp (lN a) (lN 63)
    · exact z
    · have := h1.mp (Int32.not_lt.mp z); omega
theorem kindD (hS : SD tk pl vl wi wd nt N s0) (hnt : nt ≤ 12001) (e : DE s0 s) (h8 : s.1 8 0 = nI t) (ht : t < nt) : fn_M_kind N s = some (nI (tk t), s) := by
  unfold fn_M_kind
  rw [h8, if_neg (nI_in (show t < 65540 by omega) (by decide)), nI_clamp (by omega), e.1 4 (by decide), (hS.1 t ht).1]
theorem isD {k : Nat} (hS : SD tk pl vl wi wd nt N s0) (T : Tv tk pl nt) (e : DE s0 s) (h9 : s.1 9 0 = 0) (h8 : s.1 8 0 = nI t) (ht : t < nt) (hk : k < 1000) : fn_M_is N (nI k) s = some (b01 (decide (tk t = k)), s) := by
  have l1 := T.2.1
  have l2 : tk t < 405 := T.lt ht
  unfold fn_M_is
  rw [if_pos h9, h8, if_neg (nI_in (show t < 65540 by omega) (by decide)), nI_clamp (by omega), e.1 4 (by decide), (hS.1 t ht).1]
  by_cases c : tk t = k
  · rw [if_pos (by rw [c]), c]; simp [b01]
  · rw [if_neg (fun z => c ((nI_eq (by omega) (by omega)).mp z))]; simp [b01, c]
theorem isZ9 {x : Int32} (h9 : ¬ s.1 9 0 = 0) : fn_M_is N x s = some (0, s) := by
  unfold fn_M_is
  rw [if_neg h9]
theorem five (hS : SD tk pl vl wi wd nt N s0) (e : DE s0 s) (ht : t < nt) : s.1 5 t = nI (pl t) := by rw [e.1 5 (by decide)]; exact (hS.1 t ht).2
theorem range_M (hS : SD tk pl vl wi wd nt N s0) (T : Tv tk pl nt) (e : DE s0 s) (h9 : s.1 9 0 = 0) (h8 : s.1 8 0 = nI t) (ht : t < nt) : ∀ q, dRng tk pl vl nt t = some q → ∃ v s', fn_M_range N s = some (v, s') ∧ (∀ f p, q = .inl (f, p) → f = 30 ∧ s'.1 9 0 = nI 30 ∧ s'.1 10 0 = nI p ∧ s'.1 8 0 = nI (t + 5) ∧ Eb [8, 9, 10, 87] [] s s') ∧ (∀ t1 w, q = .inr (t1, w) → v = nI w ∧ s'.1 8 0 = nI t1 ∧ Eb [8, 87] [] s s') := by
  have l1 := T.2.1
  intro q hq
  unfold dRng at hq
  unfold fn_M_range
  rw [lit_nI 91, isD hS T e h9 h8 ht (by decide), obind]
  dsimp only
  by_cases c1 : tk t = 91
  · rw [if_pos c1] at hq
    rw [if_neg (fun z => (b01_dec0.mp z) c1)]
    by_cases c2 : nt ≤ t + 5 ∨ tk (t + 1) ≠ 401 ∨ tk (t + 3) ≠ 401
    · rw [if_pos c2] at hq; cases hq
    rw [if_neg c2] at hq
    have k1 : tk (t + 1) = 401 := by
      by_cases z : tk (t + 1) = 401
      · exact z
      · exact absurd (Or.inr (Or.inl z)) c2
    have k3 : tk (t + 3) = 401 := by
      by_cases z : tk (t + 3) = 401
      · exact z
      · exact absurd (Or.inr (Or.inr z)) c2
    have l5 : t + 5 < nt := by
      by_cases z : nt ≤ t + 5
      · exact absurd (Or.inl z) c2
      · omega
    obtain ⟨g1, n1⟩ := hS.2.2.1 s e (t + 1) (by omega) (Or.inl k1)
    have e1 : Eb [87] [] s (upI s 87 g1) := Eb.rfl.upI (by decide)
    obtain ⟨g3, n3⟩ := hS.2.2.1 (upI s 87 g1) (e.trans (e1.mono (by decide) (by decide))) (t + 3) (by omega) (Or.inl k3)
    have v1 := (hS.2.2.2.2.2 (t + 1)).1 k1
    have v3 := (hS.2.2.2.2.2 (t + 3)).1 k3
    rw [h8, nI_1, n1, obind]
    dsimp only
    have h8' : (upI s 87 g1).1 8 0 = nI t := h8
    rw [h8', lit_nI 3, nI_add, n3, obind]
    dsimp only
    have e3 : Eb [8, 87] [] s (upI (upI s 87 g1) 87 g3) := (Eb.rfl.upI (by decide)).upI (by decide)
    have f62 : ∀ (σ : ms), σ.1 8 0 = nI t → bk_M_range_62 N (lN (vl (t + 1))) σ = some (nI (vl (t + 1) + 1), upI σ 8 (fun _ => nI (t + 5))) := fun σ hσ => by
      unfold bk_M_range_62
      rw [hσ, l32, nI_1, lit_nI 5, nI_add]
    have f47 : ∃ σ, bk_M_range_47 N (lN (vl (t + 1))) (upI (upI s 87 g1) 87 g3) = some (nI (vl (t + 1) + 1), σ) ∧ σ.1 9 0 = nI 30 ∧ σ.1 10 0 = nI (pl t) ∧ σ.1 8 0 = nI (t + 5) ∧ Eb [8, 9, 10, 87] [] s σ := by
      unfold bk_M_range_47 fn_M_fail
      have q8 : (upI (upI s 87 g1) 87 g3).1 8 0 = nI t := h8
      have q9 : (upI (upI s 87 g1) 87 g3).1 9 0 = 0 := h9
      have q5 : (upI (upI s 87 g1) 87 g3).1 5 t = nI (pl t) := (five hS e ht : s.1 5 t = nI (pl t))
      rw [q8, if_neg (nI_in (show t < 65540 by omega) (by decide)), nI_clamp (by omega), q5, if_pos q9, obind]
      dsimp only
      rw [f62 (upI (upI (upI (upI s 87 g1) 87 g3) 9 (fun _ => 30)) 10 (fun _ => nI (pl t))) h8]
      exact ⟨_, rfl, rfl, rfl, rfl, (((e3.mono (by decide) (by decide)).upI (by decide)).upI (by decide)).upI (by decide)⟩
    by_cases c3 : 63 < vl (t + 1)
    · rw [if_pos (Or.inl c3)] at hq
      rw [if_pos ((lg63 (by omega)).mpr c3)]
      cases hq
      obtain ⟨σ, p1, p2, p3, p4, p5⟩ := f47
      exact ⟨_, σ, p1, fun f p z => (by cases z; exact ⟨rfl, p2, p3, p4, p5⟩), fun _ _ z => (by cases z)⟩
    · rw [if_neg (fun z => c3 ((lg63 (by omega)).mp z))]
      by_cases c4 : vl (t + 3) = 0
      · rw [if_neg (fun z => by rcases z with z | z; exact c3 z; exact z c4)] at hq
        cases hq
        rw [if_pos ((lg0 (by omega)).mpr c4), f62 (upI (upI s 87 g1) 87 g3) h8]
        exact ⟨_, _, rfl, fun _ _ z => (by cases z), fun t1 w z => (by cases z; exact ⟨rfl, rfl, e3.upI (by decide)⟩)⟩
      · rw [if_pos (Or.inr c4)] at hq
        cases hq
        rw [if_neg (fun z => c4 ((lg0 (by omega)).mp z))]
        obtain ⟨σ, p1, p2, p3, p4, p5⟩ := f47
        exact ⟨_, σ, p1, fun f p z => (by cases z; exact ⟨rfl, p2, p3, p4, p5⟩), fun _ _ z => (by cases z)⟩
  · rw [if_neg c1] at hq
    rw [if_pos (b01_dec0.mpr c1)]
    cases hq
    exact ⟨_, s, rfl, fun _ _ z => (by cases z), fun t1 w z => (by cases z; exact ⟨rfl, h8, Eb.rfl⟩)⟩
/-- the rows of a declaration -/
def decS (s : ms) (dc : Nat) (t k w : Int32) : ms := upI (upI (upI (upI (upJ (upI (upI (upI s 19 (upd (s.1 19) dc t)) 20 (upd (s.1 20) dc w)) 21 (upd (s.1 21) dc k)) 22 (vp_updL (s.2 22) dc 0)) 23 (upd (s.1 23) dc 0)) 26 (upd (s.1 26) dc 0)) 18 (fun _ => nI (dc + 1))) 8 (fun _ => t + 1)
theorem dec44 {dc : Nat} {k w : Int32} (h18 : s.1 18 0 = nI dc) (hdc : dc < 10900) : bk_M_declare_44 N k w s = (fn_M_is N 61 (decS s dc (s.1 8 0) k w)).bind (fun q_7 => if q_7.1 = 0 then (some ((), q_7.2)) else ((fn_M_widthOfNumber N (((q_7.2.1 8 0) + 1)) (upI q_7.2 8 (fun _ => ((q_7.2.1 8 0) + 1)))).bind (fun q_10 => if q_10.1 = w then (bk_M_declare_173 N q_10.2) else (if ((q_10.2.1 8 0) < 0 ∨ 65540 ≤ Int32.toNatClampNeg ((q_10.2.1 8 0))) then none else (fn_M_fail N 30 (((q_10.2.1 5) (Int32.toNatClampNeg ((q_10.2.1 8 0))))) q_10.2).bind (fun q_14 => bk_M_declare_173 N q_14.2))))) := by
  unfold bk_M_declare_44 decS
  rw [h18, if_neg (nI_in (show dc < 11000 by omega) (by decide)), if_neg (nI_in (show dc < 11000 by omega) (by decide)), if_neg (nI_in (show dc < 11000 by omega) (by decide)), if_neg (nI_in (show dc < 11000 by omega) (by decide)), if_neg (nI_in (show dc < 11000 by omega) (by decide)), if_neg (nI_in (show dc < 11000 by omega) (by decide)), nI_clamp (by omega), nI_1]
theorem decS_E {dc : Nat} {t k w : Int32} : Eb [8, 18, 19, 20, 21, 23, 26] [22] s (decS s dc t k w) := ((((((((Eb.rfl.upI (by decide)).upI (by decide)).upI (by decide)).upJ (by decide)).upI (by decide)).upI (by decide)).upI (by decide)).upI (by decide))
theorem Rg.re {code : Nat → Int32} {nums : Nat → Int64} {a b : Nat} {P Q : pw} {D : DT} (h : Rg code nums nc P a b D) (hPQ : ∀ d, (P d).1 → (Q d).1 ∧ (Q d).2 = (P d).2) : Rg code nums nc Q a b D := fun v n st hv hs =>
  (h v n st (fun d hd => by have := hPQ d hd; rw [← this.2]; exact hv d this.1) hs).mono rS.fw (lo := a) (hi := b) (fun x y x1 x2 g => by
    obtain ⟨g1, g2, g3⟩ := g
    refine ⟨g1, g2, ?_⟩
    rcases g3 with ⟨o, k1, k2, k3, k4⟩ | ⟨d, h, l, x, k1, k2, k3, k4, k5, k6, k7⟩ | g3
    · exact Or.inl ⟨o, k1, k2, fun z => (hPQ _ (k3 z)).1, k4⟩
    · exact Or.inr (Or.inl ⟨d, h, l, x, k1, k2, k3, k4, k5, (hPQ _ k6).1, k7⟩)
    · exact Or.inr (Or.inr g3)) (Nat.le_refl _) (Nat.le_refl _)
/-- what a declaration makes of the tables -/
theorem Dtb.dec {w k u : Nat} (h : Dtb A s) : Dtb (dAdd A u w k) (decS s (A.1 40 0) (nI u) (nI k) (nI w)) := by
  obtain ⟨⟨g1, g2, g3, g4, g5, g6⟩, h2, h3, h4, h5, h6⟩ := h
  unfold Dtb dAdd
  simp only [tu1, tu2, uu1, uu2, uu3, vu1, vu2, vu3, su1, su2, Nat.reduceEqDiff, false_and, true_and, reduceIte, Bool.false_eq_true, if_true, if_false]
  refine ⟨⟨g1, rfl, g3, g4, g5, g6⟩, fun d hd => ?_, h3, h4, h5, h6⟩
  show upd (s.1 19) (A.1 40 0) (nI u) d = _ ∧ upd (s.1 20) (A.1 40 0) (nI w) d = _ ∧ upd (s.1 21) (A.1 40 0) (nI k) d = _ ∧ vp_updL (s.2 22) (A.1 40 0) 0 d = _ ∧ upd (s.1 23) (A.1 40 0) 0 d = _
  by_cases e : d = A.1 40 0
  · subst e
    simp only [reduceIte, upd_at, updL_at]
    exact ⟨trivial, trivial, trivial, rfl, rfl⟩
  · rw [upd_ne e, upd_ne e, upd_ne e, updL_ne e, upd_ne e]
    simp only [e, reduceIte]
    exact h2 d (by omega)
theorem DM.dec {w k u : Nat} (h : DM nt s0 A t la nc s) (hu : t ≤ u) (hu2 : u ≤ nt) (hnt : nt ≤ 12001) : DM nt s0 (dAdd A u w k) (u + 1) la nc (decS s (A.1 40 0) (nI u) (nI k) (nI w)) := by
  obtain ⟨g1, g2, ⟨b1, b2, b3, b4, b5⟩, g4, g5, g6, g7, g8⟩ := h
  have e : Eb [8, 18, 19, 20, 21, 23, 26] [22] s (decS s (A.1 40 0) (nI u) (nI k) (nI w)) := decS_E
  refine ⟨g1.trans (e.mono (by decide) (by decide)), ?_, ?_, g4.dec, ?_, ?_, ?_, ?_⟩
  · obtain ⟨h1, h2, h3, h4, h5⟩ := g2
    exact ⟨h1, h2, by show nI u + 1 = nI (u + 1); rw [nI_1], by omega, h5⟩
  · unfold dAdd
    simp only [tu1, tu2, uu1, uu2, uu3, vu1, vu2, vu3, su1, su2, Nat.reduceEqDiff, false_and, true_and, reduceIte, Bool.false_eq_true, if_true, if_false]
    exact ⟨by omega, b2, by omega, by omega, by omega⟩
  · unfold Dset dAdd
    simp only [tu1, tu2, uu1, uu2, uu3, vu1, vu2, vu3, su1, su2, Nat.reduceEqDiff, false_and, true_and, reduceIte, Bool.false_eq_true, if_true, if_false]
    refine ⟨fun d hd0 hd => ?_, fun d => ?_⟩
    · show upd (s.1 26) (A.1 40 0) 0 d = _
      by_cases e : d = A.1 40 0
      · subst e
        simp only [reduceIte, upd_at]
        rfl
      · rw [upd_ne e]
        simp only [e, reduceIte]
        exact g5.1 d hd0 (by omega)
    · split
      · omega
      · exact g5.2 d
  · obtain ⟨h1, h2, h3, h4⟩ := g6
    unfold Dcd dAdd
    simp only [tu1, tu2, uu1, uu2, uu3, vu1, vu2, vu3, su1, su2, Nat.reduceEqDiff, false_and, true_and, reduceIte, Bool.false_eq_true, if_true, if_false]
    refine ⟨fun d hd => ?_, h2, h3, fun a ha => ?_⟩
    · by_cases e : d = A.1 40 0
      · subst e
        simp only [reduceIte]
        exact ⟨fun z => absurd z (by omega), fun z => absurd z (by omega)⟩
      · simp only [e, reduceIte]
        exact h1 d (by omega)
    · obtain ⟨x, y, x1, x2, x3, x4, x5, x6⟩ := h4 a ha
      exact ⟨x, y, x1, x2, x3, x4, x5.re (fun d hd => ⟨hd, if_neg (by have := hd.2; omega)⟩), by omega⟩
  · intro m hm
    have h46 : (dAdd A u w k).1 46 0 = A.1 46 0 := by unfold dAdd; simp only [tu1, tu2, uu1, uu2, uu3, vu1, vu2, vu3, su1, su2, Nat.reduceEqDiff, false_and, true_and, reduceIte, Bool.false_eq_true, if_true, if_false]
    rw [h46] at hm
    have := g7 m hm
    unfold dAdd
    simp only [tu1, tu2, uu1, uu2, uu3, vu1, vu2, vu3, su1, su2, Nat.reduceEqDiff, false_and, true_and, reduceIte, Bool.false_eq_true, if_true, if_false]
    exact this
  · unfold dAdd
    simp only [tu1, tu2, uu1, uu2, uu3, vu1, vu2, vu3, su1, su2, Nat.reduceEqDiff, false_and, true_and, reduceIte, Bool.false_eq_true, if_true, if_false]
    exact g8
/-- behind a fault a declaration is made all the same -/
theorem decZ {dc : Nat} {k w : Int32} (h9 : ¬ s.1 9 0 = 0) (h18 : s.1 18 0 = nI dc) (hdc : dc < 10900) : bk_M_declare_44 N k w s = some ((), decS s dc (s.1 8 0) k w) := by
  rw [dec44 h18 hdc, isZ9 (s := decS s dc (s.1 8 0) k w) h9, obind]
  exact if_pos rfl
theorem DM.nine (h : DM nt s0 A t la nc s) : s.1 9 0 = 0 := h.2.1.1
theorem DM.eight (h : DM nt s0 A t la nc s) : s.1 8 0 = nI t := h.2.1.2.2.1
/-- only tokens are passed -/
theorem DM.tset {u : Nat} (h : DM nt s0 A t la nc s) (e : Eb [8, 87] [] s s') (h8 : s'.1 8 0 = nI u) (hu : t ≤ u) (hu2 : u ≤ nt + 1) (hnt : nt ≤ 12001) : DM nt s0 A u la nc s' := by
  obtain ⟨g1, g2, ⟨b1, b2, b3, b4, b5⟩, g4, g5, g6, g7, g8⟩ := h
  refine ⟨g1.trans (e.mono (by decide) (by decide)), ?_, ⟨hu2, b2, by omega, by omega, by omega⟩, g4.keep e (by decide) (by decide) (fun k _ => by rw [e.2 45 (by decide)]), g5.keep e (by decide), g6.keep e (by decide) (fun k _ => by rw [e.1 41 (by decide)]) (fun k _ => by rw [e.2 43 (by decide)]) (Nat.le_refl _) (Nat.le_refl _), g7.keep e (by decide), by rw [e.2 45 (by decide)]; exact g8⟩
  obtain ⟨h1, h2, h3, h4, h5, h6, h7, h8', h9, h10, h11, h12, h13⟩ := g2
  refine ⟨by rw [e.1 9 (by decide)]; exact h1, h2, h8, by omega, by rw [e.1 42 (by decide)]; exact h5, h6, by rw [e.1 44 (by decide)]; exact h7, h8', by rw [e.1 53 (by decide)]; exact h9, h10, by rw [e.1 51 (by decide)]; exact h11, h12, ?_⟩
  unfold Ln
  rw [e.1 91 (by decide), e.1 92 (by decide)]
  exact h13
theorem hereD {u x : Nat} (hN : 13002 < N) (hnt : nt ≤ 12001) (hS : SD tk pl vl wi wd nt N s0) (h : DM nt s0 A t la nc s) (hW : WF tk nt A u) (hu : u ≤ nt + 1) (hx : x < nt) (k4 : tk x = 400) {σ : ms} (e : SE s σ) : fn_M_here N (nI x) σ = some (oI (dHere wd A x), σ) := by
  have := (SM_of hN hnt hS h.1 hu hW h.2.2.2.1 h.2.2.2.2.2.2.1).2.2.2.2.2.2.1 σ e x hx k4
  rw [this]
  unfold dNm
  cases dHere wd A x <;> rfl
theorem instD {u x : Nat} (hN : 13002 < N) (hnt : nt ≤ 12001) (hS : SD tk pl vl wi wd nt N s0) (h : DM nt s0 A t la nc s) (hW : WF tk nt A u) (hu : u ≤ nt + 1) (hx : x < nt) (k4 : tk x = 400) {σ : ms} (e : SE s σ) : fn_M_isInstanceName N (nI x) σ = some (b01 (dInst wd A x).isSome, σ) := by
  obtain ⟨g1, g2, g3, g4, g5, g6, g7, g8⟩ := h
  obtain ⟨⟨a1, a2, a3, a4, a5, a6, a7⟩, w2, w3, w4, w5, w6, w7⟩ := hW
  have le := (w3 _ (Nat.le_refl _)).2
  have e12 : σ.1 12 0 = nI (A.1 46 0) := by rw [e.1 12 (by decide)]; exact g4.1.1
  have e27 : σ.1 27 0 = nI (A.1 41 0) := by rw [e.1 27 (by decide)]; exact g4.1.2.2.1
  have e15 : σ.1 15 (A.1 46 0) = nI (A.1 22 (A.1 46 0)) := by rw [e.1 15 (by decide)]; exact (g7 _ (by omega)).2.1
  unfold fn_M_isInstanceName
  rw [e12, if_neg (nI_in (show A.1 46 0 < 3601 by omega) (by decide)), nI_clamp (by omega), e15]
  exact instN_M (g := A.1 11) hS (g1.trans (SE.toDE e)) hx k4 e27 (by omega) (A.1 41 0 - A.1 22 (A.1 46 0)) (A.1 22 (A.1 46 0)) N (by omega) (by omega) (fun d d1 d2 => ⟨by rw [e.1 29 (by decide)]; exact (g4.2.2.1 d d2).2, (w5 d d2).2⟩)
theorem dHere_lt {u x : Nat} (hW : WF tk nt A u) (hu : u ≤ nt + 1) (hnt : nt ≤ 12001) : ∀ d, dHere wd A x = some d → d < 2 ^ 31 := fun d e => by
  have := (dHere_in hW e).1
  have := hW.1.1
  omega
end MDEC
