/-! The reference: always. -/
section MALW
variable {tk pl vl wi wd : Nat → Nat} {nt N N0 : Nat} {s0 s s' : ms} {A : ds} {t la nc : Nat}
theorem always_M (hN : 13002 < N) (hN0 : N = N0 + 1) (T : Tv tk pl nt) (hS : SD tk pl vl wi wd nt N s0) (hV : Vb tk vl wi) (hW : WF tk nt A t) (h : DM nt s0 A t la nc s) (ht : t < nt) : Dx 45000 nt s0 (if ((s.1 38 0) < 0 ∨ 6600 ≤ Int32.toNatClampNeg ((s.1 38 0))) then none else (fn_M_statement N (upI (upI s 8 (fun _ => ((s.1 8 0) + 6))) 39 (upd (s.1 39) (Int32.toNatClampNeg ((s.1 38 0))) ((s.1 42 0))))).bind (fun q_14 => bk_M_item_131 N q_14.2)) (dAlways tk pl vl wi wd nt N0 t A) := by
  have hnt := T.2.1
  intro q hq
  unfold dAlways at hq
  by_cases c0 : nt ≤ t + 6
  · rw [if_pos c0] at hq; cases hq
  rw [if_neg c0] at hq
  have cnt := hW.1
  have e38 : s.1 38 0 = nI (A.1 44 0) := h.2.2.2.1.1.2.2.2.2.2
  have e42 : s.1 42 0 = nI (3 * la) := h.2.1.2.2.2.2.1
  rw [e38, if_neg (nI_in (show A.1 44 0 < 6600 by omega) (by decide)), nI_clamp (by omega), h.eight, lit_nI 6, nI_add, e42]
  have e1 : Eb [8, 36, 39] [] s (upI (upI s 8 (fun _ => nI (t + 6))) 39 (upd (s.1 39) (A.1 44 0) (nI (3 * la)))) := (Eb.rfl.upI (by decide)).upI (by decide)
  have D1 : DM nt s0 A (t + 6) la nc (upI (upI s 8 (fun _ => nI (t + 6))) 39 (upd (s.1 39) (A.1 44 0) (nI (3 * la)))) := h.pre e1 (fun a _ => rfl) (fun a ha => by show upd (s.1 39) (A.1 44 0) (nI (3 * la)) a = _; rw [upd_ne (by omega)]) rfl (by omega) (by omega) hnt
  have r39 : (upI (upI s 8 (fun _ => nI (t + 6))) 39 (upd (s.1 39) (A.1 44 0) (nI (3 * la)))).1 39 (A.1 44 0) = nI (3 * la) := upd_at _ _ _
  generalize upI (upI s 8 (fun _ => nI (t + 6))) 39 (upd (s.1 39) (A.1 44 0) (nI (3 * la))) = s1 at *
  have f131 : ∀ σ : ms, σ.1 38 0 = nI (A.1 44 0) → bk_M_item_131 N σ = some ((), upI (upI σ 40 (upd (σ.1 40) (A.1 44 0) (σ.1 42 0))) 38 (fun _ => nI (A.1 44 0 + 1))) := fun σ h1 => by
    unfold bk_M_item_131 bk_M_item_239
    rw [h1, if_neg (nI_in (show A.1 44 0 < 6600 by omega) (by decide)), nI_clamp (by omega), nI_1]
  have hM : MC tk pl vl wi (dNm wd A) nt (A.1 46 0) N N0 (dRf A) (A.1 44 0 + 1) (fun d => (A.1 21 (A.1 46 0) ≤ d ∧ d < A.1 40 0, A.1 1 d)) s1 := by
    refine ⟨T, SM2_of hN hnt hS D1.1 (u := t) (by omega) hW D1.2.2.2.1 D1.2.2.2.2.2.2.1, hN, hN0, fun i hi => (hV i).2 hi, fun i q hq => ?_, by rw [Nat.add_sub_cancel]; exact D1.2.2.2.1.1.2.2.2.2.2, by omega, by omega⟩
    unfold dNm at hq
    match er : dHere wd A i with
    | none => rw [er] at hq; cases hq
    | some d =>
      rw [er] at hq
      cases hq
      have hd := dHere_in hW er
      have k4 := (hW.2.1 d hd.1).2.2.2.2.1
      refine ⟨⟨⟨hd.2.1, hd.1⟩, rfl⟩, ?_⟩
      rw [(D1.2.2.2.1.2.1 d hd.1).2.2.1]
      have nf : ¬ d = 99999 := by omega
      unfold dRf dRg
      simp only [nf, decide_false, Bool.or_false]
      rw [decide_eq_true_iff, show (2 : Int32) = nI 2 from rfl, show (4 : Int32) = nI 4 from rfl, nI_eq (by show A.1 2 d < _; omega) (by decide), nI_eq (by show A.1 2 d < _; omega) (by decide)]
  have st := stm_M hM s1 (t + 6) la nc (A.1 47 0) (A.1 5) Eb.rfl D1.2.1 D1.2.2.2.2.2.2.2 D1.2.2.1 ⟨fun k _ hk => D1.2.2.2.2.1.1 k hk.1 hk.2, D1.2.2.2.2.1.2⟩
  match es : (sT tk pl vl wi (dNm wd A) nt (dRf A) N0 (A.1 44 0 + 1) 399).1 (t + 6) (A.1 5) with
  | none => rw [es] at hq; cases hq
  | some (.inl (f, p)) =>
    rw [es] at hq
    cases hq
    obtain ⟨S', a1, a2⟩ := st _ es
    obtain ⟨b1, b2, b3, b4, x, la', nc', b5, b6, -⟩ := a2.1 f p rfl
    rw [a1, obind]
    dsimp only
    rw [f131 S' (by rw [b1.1 38 (by decide)]; exact D1.2.2.2.1.1.2.2.2.2.2)]
    refine ⟨_, rfl, fun f p z => ?_, fun _ _ z => (by cases z)⟩
    cases z
    have e2 : Eb [8, 9, 10, 26, 38, 40, 41, 42, 44, 49, 50, 51, 52, 53, 87, 91, 92] [43, 45] s1 (upI (upI S' 40 (upd (S'.1 40) (A.1 44 0) (S'.1 42 0))) 38 (fun _ => nI (A.1 44 0 + 1))) := ((b1.mono (by decide) (by decide)).upI (by decide)).upI (by decide)
    exact Zd.mk (x := x) (dc := A.1 40 0) (it := A.1 41 0) hW (by omega) hnt D1 (e2.mono (by decide) (by decide)) b3 ⟨b5.2.1, b5.lk⟩ b5.1 b4 b5.2.2.1 (by omega) (e2.1 12 (by decide)) (e2.1 14 (by decide)) (e2.1 15 (by decide)) (by rw [e2.1 18 (by decide)]; exact D1.2.2.2.1.1.2.1) (Nat.le_refl _) (by omega) (by rw [e2.1 27 (by decide)]; exact D1.2.2.2.1.1.2.2.1) (Nat.le_refl _) (by omega) (by rw [e2.1 28 (by decide)]; exact D1.i28 hW (by omega) hnt)
  | some (.inr (t1, S1, b, D, C)) =>
    rw [es] at hq
    dsimp only at hq
    by_cases c1 : nt ≤ t1 ∨ t1 ≤ t + 6
    · rw [if_pos c1] at hq; cases hq
    rw [if_neg c1] at hq
    cases hq
    obtain ⟨S', a1, a2⟩ := st _ es
    obtain ⟨la', nc', ⟨p1, p2, p3, p4, p5, p6⟩, b2, b3, b4, b5, b6, b7⟩ := a2.2 _ _ _ _ _ rfl
    rw [a1, obind]
    dsimp only
    rw [f131 S' (by rw [p1.1 38 (by decide)]; exact D1.2.2.2.1.1.2.2.2.2.2)]
    refine ⟨_, rfl, fun _ _ z => (by cases z), fun t' A' z => ?_⟩
    cases z
    refine ⟨la', nc', ?_⟩
    obtain ⟨g1, g2, g3, g4, g5, g6, g7, g8⟩ := D1
    have ee : Eb [38, 40] [] S' (upI (upI S' 40 (upd (S'.1 40) (A.1 44 0) (S'.1 42 0))) 38 (fun _ => nI (A.1 44 0 + 1))) := (Eb.rfl.upI (by decide)).upI (by decide)
    have e42' : S'.1 42 0 = nI (3 * la') := p5.2.2.2.2.1
    have k4 := g4.keep (s' := S') p1 (by decide) (by decide) (fun k hk => p2.2.2.2.2 k (by omega))
    have k6 := g6.keep (s' := S') (la' := la') (nc' := nc') p1 (by decide) p2.1 p2.2.1 p3 p4
    have k7 := g7.keep (s' := S') p1 (by decide)
    have r39' : S'.1 39 (A.1 44 0) = nI (3 * la) := by rw [p1.1 39 (by decide)]; exact r39
    have hcost : (dAlw A S1 b D C).1 47 0 = A.1 47 0 + C := by unfold dAlw; cases b <;> simp only [tu1, tu2, uu1, uu2, uu3, vu1, vu2, vu3, su1, su2, Nat.reduceEqDiff, false_and, true_and, reduceIte, Bool.false_eq_true, if_true, if_false]
    have h46 : (dAlw A S1 b D C).1 46 0 = A.1 46 0 := by unfold dAlw; cases b <;> simp only [tu1, tu2, uu1, uu2, uu3, vu1, vu2, vu3, su1, su2, Nat.reduceEqDiff, false_and, true_and, reduceIte, Bool.false_eq_true, if_true, if_false]
    refine ⟨(g1.trans (SE2.toDE p1)).trans (ee.mono (by decide) (by decide)), ?_, ?_, ?_, ?_, ?_, ?_, ?_⟩
    · obtain ⟨h1, h2, h3, h4, h5⟩ := p5
      exact ⟨h1, h2, h3, h4, h5⟩
    · obtain ⟨j1, j2, j3, j4, j5⟩ := g3
      rw [hcost]
      exact ⟨by omega, j2, by omega, by omega, by omega⟩
    · obtain ⟨⟨y1, y2, y3, y4, y5, y6⟩, h2, h3, h4, h5, h6⟩ := k4
      unfold Dtb dAlw
      cases b
      · simp only [tu1, tu2, uu1, uu2, uu3, vu1, vu2, vu3, su1, su2, Nat.reduceEqDiff, false_and, true_and, reduceIte, Bool.false_eq_true, if_true, if_false]
        exact ⟨⟨y1, y2, y3, y4, y5, rfl⟩, h2, h3, h4, h5, h6⟩
      · simp only [tu1, tu2, uu1, uu2, uu3, vu1, vu2, vu3, su1, su2, Nat.reduceEqDiff, false_and, true_and, reduceIte, Bool.false_eq_true, if_true, if_false]
        exact ⟨⟨y1, y2, y3, y4, y5, rfl⟩, h2, h3, h4, h5, h6⟩
    · unfold Dset dAlw
      have r26 : ∀ d, A.1 21 (A.1 46 0) ≤ d → d < A.1 40 0 → S'.1 26 d = nI (S1 d) := fun d d1 d2 => b6.1 d (by omega) ⟨d1, d2⟩
      cases b
      · simp only [tu1, tu2, uu1, uu2, uu3, vu1, vu2, vu3, su1, su2, Nat.reduceEqDiff, false_and, true_and, reduceIte, Bool.false_eq_true, if_true, if_false]
        exact ⟨r26, b6.2⟩
      · simp only [tu1, tu2, uu1, uu2, uu3, vu1, vu2, vu3, su1, su2, Nat.reduceEqDiff, false_and, true_and, reduceIte, Bool.false_eq_true, if_true, if_false]
        exact ⟨r26, b6.2⟩
    · obtain ⟨h1, h2, h3, h4⟩ := k6
      have al : ∀ a, a < A.1 44 0 + 1 → ∃ x y, S'.1 39 a = nI (3 * x) ∧ upd (S'.1 40) (A.1 44 0) (S'.1 42 0) a = nI (3 * y) ∧ x ≤ y ∧ y ≤ la' ∧ Rg (S'.1 41) (S'.2 43) nc' (fun d => ((if a = A.1 44 0 then A.1 21 (A.1 46 0) else A.1 34 a) ≤ d ∧ d < (if a = A.1 44 0 then A.1 40 0 else A.1 33 a), A.1 1 d)) x y (if a = A.1 44 0 then D else A.2.2 a) ∧ (if a = A.1 44 0 then A.1 40 0 else A.1 33 a) ≤ A.1 40 0 := by
        intro a ha
        by_cases z : a = A.1 44 0
        · subst z
          simp only [reduceIte]
          exact ⟨la, la', r39', by rw [upd_at, e42'], p3, Nat.le_refl _, b7, Nat.le_refl _⟩
        · simp only [z, reduceIte]
          obtain ⟨x, y, x1, x2, x3⟩ := h4 a (by omega)
          exact ⟨x, y, x1, by rw [upd_ne z]; exact x2, x3⟩
      unfold Dcd dAlw
      cases b
      · simp only [tu1, tu2, uu1, uu2, uu3, vu1, vu2, vu3, su1, su2, Nat.reduceEqDiff, false_and, true_and, reduceIte, Bool.false_eq_true, if_true, if_false]
        exact ⟨h1, h2, h3, al⟩
      · simp only [tu1, tu2, uu1, uu2, uu3, vu1, vu2, vu3, su1, su2, Nat.reduceEqDiff, false_and, true_and, reduceIte, Bool.false_eq_true, if_true, if_false]
        exact ⟨h1, h2, h3, al⟩
    · intro m hm
      rw [h46] at hm
      have := k7 m hm
      unfold dAlw
      cases b
      · simp only [tu1, tu2, uu1, uu2, uu3, vu1, vu2, vu3, su1, su2, Nat.reduceEqDiff, false_and, true_and, reduceIte, Bool.false_eq_true, if_true, if_false]
        exact this
      · simp only [tu1, tu2, uu1, uu2, uu3, vu1, vu2, vu3, su1, su2, Nat.reduceEqDiff, false_and, true_and, reduceIte, Bool.false_eq_true, if_true, if_false]
        exact this
    · rw [hcost, h46]
      exact p6
end MALW
