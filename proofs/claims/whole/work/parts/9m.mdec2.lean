/-! The reference: a declaration. -/
section MDEC2
variable {tk pl vl wi wd : Nat → Nat} {nt N : Nat} {s0 s s' : ms} {A : ds} {t la nc : Nat}
/-- a first value is written -/
theorem DM.first {d v u : Nat} {g : Nat → Int32} (h : DM nt s0 A t la nc s) (hu : t ≤ u) (hu2 : u ≤ nt + 1) (hnt : nt ≤ 12001) : DM nt s0 (tu A 3 d v) u la nc (upI (upJ (upI s 87 g) 22 (vp_updL (s.2 22) d (lN v))) 8 (fun _ => nI u)) := by
  have e : Eb [8, 87] [22] s (upI (upJ (upI s 87 g) 22 (vp_updL (s.2 22) d (lN v))) 8 (fun _ => nI u)) := ((Eb.rfl.upI (by decide)).upJ (by decide)).upI (by decide)
  obtain ⟨g1, g2, ⟨b1, b2, b3, b4, b5⟩, g4, g5, g6, g7, g8⟩ := h
  refine ⟨g1.trans (e.mono (by decide) (by decide)), ?_, ?_, ?_, ?_, ?_, ?_, ?_⟩
  · obtain ⟨h1, h2, h3, h4, h5⟩ := g2
    exact ⟨h1, h2, rfl, by omega, h5⟩
  · simp only [tu1, tu2, uu1, uu2, uu3, vu1, vu2, vu3, su1, su2, Nat.reduceEqDiff, false_and, true_and, reduceIte, Bool.false_eq_true, if_true, if_false]
    exact ⟨hu2, b2, by omega, by omega, by omega⟩
  · obtain ⟨h1, h2, h3⟩ := g4
    unfold Dtb
    simp only [tu1, tu2, uu1, uu2, uu3, vu1, vu2, vu3, su1, su2, Nat.reduceEqDiff, false_and, true_and, reduceIte, Bool.false_eq_true, if_true, if_false]
    refine ⟨h1, fun x hx => ?_, h3⟩
    obtain ⟨c1, c2, c3, c4, c5⟩ := h2 x hx
    refine ⟨c1, c2, c3, ?_, c5⟩
    show vp_updL (s.2 22) d (lN v) x = _
    by_cases z : x = d
    · rw [z, updL_at, if_pos rfl]
    · rw [updL_ne z, if_neg z]; exact c4
  · unfold Dset
    simp only [tu1, tu2, uu1, uu2, uu3, vu1, vu2, vu3, su1, su2, Nat.reduceEqDiff, false_and, true_and, reduceIte, Bool.false_eq_true, if_true, if_false]
    exact g5
  · unfold Dcd
    simp only [tu1, tu2, uu1, uu2, uu3, vu1, vu2, vu3, su1, su2, Nat.reduceEqDiff, false_and, true_and, reduceIte, Bool.false_eq_true, if_true, if_false]
    exact g6
  · intro m hm
    exact g7 m hm
  · simp only [tu1, tu2, uu1, uu2, uu3, vu1, vu2, vu3, su1, su2, Nat.reduceEqDiff, false_and, true_and, reduceIte, Bool.false_eq_true, if_true, if_false]
    exact g8
theorem declare_M {w k u : Nat} (hN : 13002 < N) (T : Tv tk pl nt) (hS : SD tk pl vl wi wd nt N s0) (hV : Vb tk vl wi) (hW : WF tk nt A t) (h : DM nt s0 A u la nc s) (hu : t < u) (w2 : w ≤ 64) (k4 : k ≤ 4) : Dx 20000 nt s0 (fn_M_declare N (nI k) (nI w) s) (dDec tk pl vl wi wd nt k u w A) := by
  have hnt := T.2.1
  intro q hq
  unfold dDec at hq
  by_cases c1 : nt ≤ u + 1 ∨ tk u ≠ 400
  · rw [if_pos c1] at hq; cases hq
  rw [if_neg c1] at hq
  have u1 : u + 1 < nt := by
    by_cases z : nt ≤ u + 1
    · exact absurd (Or.inl z) c1
    · omega
  have u4 : tk u = 400 := by
    by_cases z : tk u = 400
    · exact z
    · exact absurd (Or.inr z) c1
  have hWu : WF tk nt A u := hW.later (by omega)
  have dcl : A.1 40 0 < 10900 := by have := hW.1.1; omega
  have h18 : s.1 18 0 = nI (A.1 40 0) := h.2.2.2.1.1.2.1
  have h9 := h.nine
  have h8 := h.eight
  unfold fn_M_declare
  rw [if_pos h9, h8, hereD hN hnt hS h hWu (by omega) (by omega) u4 Eb.rfl, obind]
  dsimp only
  -- a fault: all the same it is declared
  have bad : ∃ s', bk_M_declare_29 N (nI k) (nI w) s = some ((), s') ∧ Zd 20000 s0 s' 21 (pl u) := by
    unfold bk_M_declare_29 fn_M_fail
    rw [h8, if_neg (nI_in (show u < 65540 by omega) (by decide)), nI_clamp (by omega), five hS h.1 (by omega), if_pos h9, obind]
    dsimp only
    have z9 : ¬ (upI (upI s 9 (fun _ => 21)) 10 (fun _ => nI (pl u))).1 9 0 = 0 := show ¬ (21 : Int32) = 0 by decide
    have z18 : (upI (upI s 9 (fun _ => 21)) 10 (fun _ => nI (pl u))).1 18 0 = nI (A.1 40 0) := h18
    rw [decZ z9 z18 dcl]
    have z8 : (upI (upI s 9 (fun _ => 21)) 10 (fun _ => nI (pl u))).1 8 0 = nI u := h8
    rw [z8]
    have e : Eb [8, 9, 10, 18, 19, 20, 21, 23, 26] [22] s (decS (upI (upI s 9 (fun _ => 21)) 10 (fun _ => nI (pl u))) (A.1 40 0) (nI u) (nI k) (nI w)) := ((Eb.rfl.upI (by decide)).upI (by decide)).trans (decS_E.mono (by decide) (by decide))
    exact ⟨_, rfl, Zd.mk (x := u + 1) (dc := A.1 40 0 + 1) (it := A.1 41 0) hWu (by omega) hnt h (e.mono (by decide) (by decide)) (by decide) ⟨by decide, h.2.1.lk.keep e (by decide) (by decide)⟩ rfl rfl (by show nI u + 1 = _; rw [nI_1]) (by omega) (e.1 12 (by decide)) (e.1 14 (by decide)) (e.1 15 (by decide)) rfl (by omega) (Nat.le_refl _) (by rw [e.1 27 (by decide)]; exact h.2.2.2.1.1.2.2.1) (Nat.le_refl _) (by omega) (by rw [e.1 28 (by decide)]; exact h.i28 hWu (by omega) hnt)⟩
  by_cases c2 : dHere wd A u ≠ none ∨ dInst wd A u ≠ none
  · rw [if_pos c2] at hq
    cases hq
    obtain ⟨s', p1, p2⟩ := bad
    refine ⟨s', ?_, fun f p z => (by cases z; exact p2), fun _ _ z => (by cases z)⟩
    by_cases c3 : dHere wd A u = none
    · rw [if_neg (fun z => ((oI_nn (dHere_lt hWu (by omega) hnt)).mp z) c3), h8, instD hN hnt hS h hWu (by omega) (by omega) u4 Eb.rfl, obind]
      dsimp only
      have : (dInst wd A u).isSome = true := by
        rcases c2 with c2 | c2
        · exact absurd c3 c2
        · cases z : dInst wd A u with
          | none => exact absurd z c2
          | some x => rfl
      rw [this, if_neg (show ¬ b01 true = 0 by decide)]
      exact p1
    · rw [if_pos ((oI_nn (dHere_lt hWu (by omega) hnt)).mpr c3)]
      exact p1
  · rw [if_neg c2] at hq
    have c3 : dHere wd A u = none := by
      by_cases z : dHere wd A u = none
      · exact z
      · exact absurd (Or.inl z) c2
    have c3b : dInst wd A u = none := by
      by_cases z : dInst wd A u = none
      · exact z
      · exact absurd (Or.inr z) c2
    rw [if_neg (fun z => ((oI_nn (dHere_lt hWu (by omega) hnt)).mp z) c3), h8, instD hN hnt hS h hWu (by omega) (by omega) u4 Eb.rfl, obind, c3b]
    dsimp only
    rw [if_pos (show b01 (none : Option Nat).isSome = 0 from rfl), dec44 h18 dcl, h8]
    have D1 : DM nt s0 (dAdd A u w k) (u + 1) la nc (decS s (A.1 40 0) (nI u) (nI k) (nI w)) := h.dec (Nat.le_refl _) (by omega) hnt
    have e1 : Eb [8, 18, 19, 20, 21, 23, 26] [22] s (decS s (A.1 40 0) (nI u) (nI k) (nI w)) := decS_E
    have q18 : (decS s (A.1 40 0) (nI u) (nI k) (nI w)).1 18 0 = nI (A.1 40 0 + 1) := rfl
    generalize decS s (A.1 40 0) (nI u) (nI k) (nI w) = s1 at *
    rw [lit_nI 61, isD hS T D1.1 D1.nine D1.eight u1 (by decide), obind]
    dsimp only
    by_cases c4 : tk (u + 1) = 61
    · rw [if_pos c4] at hq
      rw [if_neg (fun z => (b01_dec0.mp z) c4)]
      by_cases c5 : nt ≤ u + 3 ∨ tk (u + 2) ≠ 402 ∨ (k ≠ 2 ∧ k ≠ 4)
      · rw [if_pos c5] at hq; cases hq
      rw [if_neg c5] at hq
      have u3 : u + 3 < nt := by
        by_cases z : nt ≤ u + 3
        · exact absurd (Or.inl z) c5
        · omega
      have k2 : tk (u + 2) = 402 := by
        by_cases z : tk (u + 2) = 402
        · exact z
        · exact absurd (Or.inr (Or.inl z)) c5
      have D2 : DM nt s0 (dAdd A u w k) (u + 2) la nc (upI s1 8 (fun _ => s1.1 8 0 + 1)) := D1.tset (Eb.rfl.upI (by decide)) (by show s1.1 8 0 + 1 = _; rw [D1.eight, nI_1]) (by omega) (by omega) hnt
      have e2 : Eb [8, 18, 19, 20, 21, 23, 26] [22] s (upI s1 8 (fun _ => s1.1 8 0 + 1)) := e1.upI (by decide)
      have r18 : (upI s1 8 (fun _ => s1.1 8 0 + 1)).1 18 0 = nI (A.1 40 0 + 1) := q18
      rw [show s1.1 8 0 + 1 = nI (u + 2) by rw [D1.eight, nI_1]] at D2 e2 r18 ⊢
      generalize upI s1 8 (fun _ => nI (u + 2)) = s2 at *
      rw [hS.2.2.2.1 s2 D2.1 (u + 2) (by omega) k2, obind]
      dsimp only
      have wl := ((hV (u + 2)).2 k2).2
      have f173 : ∀ σ : ms, DE s0 σ → σ.1 8 0 = nI (u + 2) → σ.1 18 0 = nI (A.1 40 0 + 1) → ∃ g, bk_M_declare_173 N σ = some ((), upI (upJ (upI σ 87 g) 22 (vp_updL (σ.2 22) (A.1 40 0) (lN (vl (u + 2))))) 8 (fun _ => nI (u + 3))) := fun σ h1 h2 h3 => by
        obtain ⟨g, hg⟩ := hS.2.2.1 σ h1 (u + 2) (by omega) (Or.inr k2)
        refine ⟨g, ?_⟩
        unfold bk_M_declare_173
        have h2' : (upI σ 87 g).1 8 0 = nI (u + 2) := h2
        rw [h2, hg, obind]
        dsimp only
        rw [h3, nI_pred, if_neg (nI_in (show A.1 40 0 < 11000 by omega) (by decide)), nI_clamp (by omega), h2', nI_1]
        rfl
      by_cases c6 : wi (u + 2) = w
      · rw [if_pos c6] at hq
        cases hq
        rw [if_pos (by rw [c6])]
        obtain ⟨g, hg⟩ := f173 s2 D2.1 D2.eight r18
        rw [hg]
        exact ⟨_, rfl, fun _ _ z => (by cases z), fun t' A' z => (by cases z; exact ⟨la, nc, D2.first (by omega) (by omega) hnt⟩)⟩
      · rw [if_neg c6] at hq
        cases hq
        rw [if_neg (fun z => c6 ((nI_eq (by omega) (by omega)).mp z)), D2.eight, if_neg (nI_in (show u + 2 < 65540 by omega) (by decide)), nI_clamp (by omega), five hS D2.1 (by omega)]
        unfold fn_M_fail
        rw [if_pos D2.nine, obind]
        dsimp only
        obtain ⟨g, hg⟩ := f173 (upI (upI s2 9 (fun _ => 30)) 10 (fun _ => nI (pl (u + 2)))) ((D2.1.upI (by decide)).upI (by decide)) D2.eight r18
        rw [hg]
        generalize hs3 : upI (upJ (upI (upI (upI s2 9 (fun _ => 30)) 10 (fun _ => nI (pl (u + 2)))) 87 g) 22 (vp_updL ((upI (upI s2 9 (fun _ => 30)) 10 (fun _ => nI (pl (u + 2)))).2 22) (A.1 40 0) (lN (vl (u + 2))))) 8 (fun _ => nI (u + 3)) = s3
        have e3 : Eb [8, 9, 10, 18, 19, 20, 21, 23, 26, 87] [22] s s3 := by rw [← hs3]; exact (((((e2.mono (by decide) (by decide)).upI (by decide)).upI (by decide)).upI (by decide)).upJ (by decide)).upI (by decide)
        refine ⟨s3, rfl, fun f p z => ?_, fun _ _ z => (by cases z)⟩
        cases z
        exact Zd.mk (x := u + 3) (dc := A.1 40 0 + 1) (it := A.1 41 0) hWu (by omega) hnt h (e3.mono (by decide) (by decide)) (by decide) ⟨by decide, h.2.1.lk.keep e3 (by decide) (by decide)⟩ (by rw [← hs3]; rfl) (by rw [← hs3]; rfl) (by rw [← hs3]; rfl) (by omega) (e3.1 12 (by decide)) (e3.1 14 (by decide)) (e3.1 15 (by decide)) (by rw [← hs3]; exact r18) (by omega) (Nat.le_refl _) (by rw [e3.1 27 (by decide)]; exact h.2.2.2.1.1.2.2.1) (Nat.le_refl _) (by omega) (by rw [e3.1 28 (by decide)]; exact h.i28 hWu (by omega) hnt)
    · rw [if_neg c4] at hq
      cases hq
      rw [if_pos (b01_dec0.mpr c4)]
      exact ⟨_, rfl, fun _ _ z => (by cases z), fun t' A' z => (by cases z; exact ⟨la, nc, D1⟩)⟩
/-- a range and a declaration -/
theorem rdec_M {k u : Nat} (hN : 13002 < N) (T : Tv tk pl nt) (hS : SD tk pl vl wi wd nt N s0) (hV : Vb tk vl wi) (hW : WF tk nt A t) (h : DM nt s0 A u la nc s) (hu : t < u) (k4 : k ≤ 4) : Dx 20000 nt s0 ((fn_M_range N s).bind (fun q_1 => fn_M_declare N (nI k) q_1.1 q_1.2)) (dDecl tk pl vl wi wd nt k u A) := by
  have hnt := T.2.1
  intro q hq
  unfold dDecl at hq
  by_cases c0 : nt ≤ u
  · rw [if_pos c0] at hq; cases hq
  rw [if_neg c0] at hq
  match er : dRng tk pl vl nt u with
  | none => rw [er] at hq; cases hq
  | some (.inl (f, p)) =>
    rw [er] at hq
    cases hq
    obtain ⟨v, s1, a1, a2, -⟩ := range_M hS T h.1 h.nine h.eight (by omega) _ er
    obtain ⟨rfl, b1, b2, b3, b4⟩ := a2 f p rfl
    rw [a1, obind]
    dsimp only
    have dcl : A.1 40 0 < 10900 := by have := hW.1.1; omega
    have h18 : s1.1 18 0 = nI (A.1 40 0) := by rw [b4.1 18 (by decide)]; exact h.2.2.2.1.1.2.1
    have z9 : ¬ s1.1 9 0 = 0 := by rw [b1]; decide
    have u5 : u + 5 < nt := by
      unfold dRng at er
      split at er
      · split at er
        · cases er
        · omega
      · cases er
    unfold fn_M_declare
    rw [if_neg z9, decZ z9 h18 dcl, b3]
    have e : Eb [8, 9, 10, 18, 19, 20, 21, 23, 26, 87] [22] s (decS s1 (A.1 40 0) (nI (u + 5)) (nI k) v) := (b4.mono (by decide) (by decide)).trans (decS_E.mono (by decide) (by decide))
    refine ⟨_, rfl, fun f p z => ?_, fun _ _ z => (by cases z)⟩
    cases z
    have hWu : WF tk nt A u := hW.later (by omega)
    exact Zd.mk (x := u + 6) (dc := A.1 40 0 + 1) (it := A.1 41 0) hWu (by omega) hnt h (e.mono (by decide) (by decide)) (by decide) ⟨by decide, h.2.1.lk.keep e (by decide) (by decide)⟩ b1 b2 (by show nI (u + 5) + 1 = _; rw [nI_1]) (by omega) (e.1 12 (by decide)) (e.1 14 (by decide)) (e.1 15 (by decide)) rfl (by omega) (Nat.le_refl _) (by rw [e.1 27 (by decide)]; exact h.2.2.2.1.1.2.2.1) (Nat.le_refl _) (by omega) (by rw [e.1 28 (by decide)]; exact h.i28 hWu (by omega) hnt)
  | some (.inr (t1, w)) =>
    rw [er] at hq
    obtain ⟨v, s1, a1, -, a3⟩ := range_M hS T h.1 h.nine h.eight (by omega) _ er
    obtain ⟨rfl, b1, b2⟩ := a3 t1 w rfl
    rw [a1, obind]
    dsimp only
    have tw : u ≤ t1 ∧ t1 ≤ nt ∧ w ≤ 64 := by
      unfold dRng at er
      split at er
      · split at er
        · cases er
        · split at er
          · cases er
          · cases er; omega
      · cases er; omega
    exact declare_M hN T hS hV hW (h.tset b2 b1 tw.1 (by omega) hnt) (by omega) tw.2.2 k4 q hq
end MDEC2
