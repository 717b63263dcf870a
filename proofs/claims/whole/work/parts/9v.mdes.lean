/-! The reference: a design. -/
section MDES
variable {tk pl vl wi wd : Nat → Nat} {nt N N0 : Nat} {s0 s s' : ms} {A : ds} {t la nc : Nat}
theorem module_M (hN : 13002 < N) (hN0 : N = N0 + 1) (T : Tv tk pl nt) (hS : SD tk pl vl wi wd nt N s0) (hV : Vb tk vl wi) (hW : WF tk nt A t) (h : DN nt s0 A t la nc s) (ht : t < nt) : ∀ q, dModule tk pl vl wi wd nt N0 t A = some q → ∃ s', fn_M_module N s = some ((), s') ∧ (∀ f p, q = .inl (f, p) → Zm s0 s' f p) ∧ (∀ t' A', q = .inr (t', A') → (∃ la' nc', DN nt s0 A' t' la' nc' s') ∧ WF tk nt A' t' ∧ t < t') := by
  have hnt := T.2.1
  intro q hq
  unfold dModule at hq
  by_cases c0 : nt ≤ t + 3 ∨ tk (t + 1) ≠ 400
  · rw [if_pos c0] at hq; cases hq
  rw [if_neg c0] at hq
  have t3 : t + 3 < nt := by
    by_cases z : nt ≤ t + 3
    · exact absurd (Or.inl z) c0
    · omega
  have k4 : tk (t + 1) = 400 := by
    by_cases z : tk (t + 1) = 400
    · exact z
    · exact absurd (Or.inr z) c0
  have cnt := hW.1
  obtain ⟨g1, g2, ⟨b1, b3, b4⟩, g4, g5, g6, g7⟩ := id h
  have h8 : s.1 8 0 = nI t := g2.2.2.1
  have h9 : s.1 9 0 = 0 := g2.1
  have e12 : s.1 12 0 = nI (A.1 46 0) := g4.1.1
  have D1 : DN nt s0 A (t + 1) la nc (upI s 8 (fun _ => nI (t + 1))) := by
    refine ⟨g1.upI (by decide), ?_, ⟨by omega, by omega, by omega⟩, g4, g5, g6, g7⟩
    obtain ⟨h1, h2, h3, h4, h5⟩ := g2
    exact ⟨h1, h2, rfl, by omega, h5⟩
  have N1 : N = N0 + 1 := hN0
  unfold fn_M_module fn_M_moduleNamed
  rw [h8, nI_1, e12]
  have q12 : (upI s 8 (fun _ => nI (t + 1))).1 12 0 = nI (A.1 46 0) := e12
  have q9 : (upI s 8 (fun _ => nI (t + 1))).1 9 0 = 0 := h9
  have q8 : (upI s 8 (fun _ => nI (t + 1))).1 8 0 = nI (t + 1) := rfl
  have e1 : Eb [8] [] s (upI s 8 (fun _ => nI (t + 1))) := Eb.rfl.upI (by decide)
  generalize upI s 8 (fun _ => nI (t + 1)) = s1 at *
  obtain ⟨d1, d2, d3, d4, d5, d6, d7⟩ := id D1
  rw [show hd_M_moduleNamed_2 N N (nI (t + 1)) (nI (A.1 46 0)) 0 s1 = hd_M_moduleNamed_2 N N (nI (t + 1)) (nI (A.1 46 0)) (nI 0) s1 from rfl, moduleNamed_M (g := A.1 20) hS d1 (by omega) k4 (by omega) (A.1 46 0) 0 N (by omega) (by omega) (fun d _ d2 => ⟨(d4.2.2.2.2.2 d d2).1, (hW.2.2.2.1 d d2).1, (hW.2.2.2.1 d d2).2.1⟩), obind]
  dsimp only
  have dm : dMod wd A (t + 1) = fnd (fun d => decide (wd (A.1 20 d) = wd (t + 1))) (A.1 46 0) 0 := rfl
  rw [← dm]
  have ml : ∀ d, dMod wd A (t + 1) = some d → d < 2 ^ 31 := fun d e => by have := (dMod_in e).1; omega
  have ff : hd_M_module_125 N N = hd_M_module_125 N (N0 + 1) := by rw [← N1]
  by_cases c1 : dMod wd A (t + 1) = none
  · rw [if_neg (fun z => z c1)] at hq
    rw [if_pos ((oI_neg ml).mpr c1), f40 (m := A.1 46 0) q12 (by omega) d4.1.2.1 d4.1.2.2.1 d4.1.2.2.2.2.1 d4.1.2.2.2.2.2, q8, lit_nI 2, nI_add, ff]
    have D3 : DM nt s0 (dBeg A (t + 1)) (t + 3) la nc (begS s1 (A.1 46 0) (A.1 40 0) (A.1 41 0) (A.1 43 0) (A.1 44 0) (nI (t + 1)) (nI (t + 1 + 2))) := DN.beg (hW.later (t' := t + 1) (by omega)) D1 (Nat.le_refl _) (by omega) hnt
    generalize begS s1 (A.1 46 0) (A.1 40 0) (A.1 41 0) (A.1 43 0) (A.1 44 0) (nI (t + 1)) (nI (t + 1 + 2)) = s3 at *
    have wB : WF tk nt (dBeg A (t + 1)) (t + 3) := hW.beg.later (by omega)
    have B46 : (dBeg A (t + 1)).1 46 0 = A.1 46 0 := by unfold dBeg dFirsts; simp only [tu1, tu2, uu1, uu2, uu3, vu1, vu2, vu3, su1, su2, Nat.reduceEqDiff, false_and, true_and, reduceIte, Bool.false_eq_true, if_true, if_false]
    have B20 : (dBeg A (t + 1)).1 20 (A.1 46 0) = t + 1 := by unfold dBeg dFirsts; simp only [tu1, tu2, uu1, uu2, uu3, vu1, vu2, vu3, su1, su2, Nat.reduceEqDiff, false_and, true_and, reduceIte, Bool.false_eq_true, if_true, if_false]
    match ep : dPorts tk pl vl wi wd nt N0 (t + 3) (dBeg A (t + 1)) with
    | none => rw [ep] at hq; cases hq
    | some (.inl (f, p)) =>
      rw [ep] at hq
      cases hq
      obtain ⟨a1, -⟩ := ports_M hN T hS hV N0 (t + 3) (dBeg A (t + 1)) la nc s3 wB D3 _ ep
      obtain ⟨s', p1, p2⟩ := a1 f p rfl
      exact ⟨s', p1, fun f p z => (by cases z; exact p2), fun _ _ z => (by cases z)⟩
    | some (.inr (t1, A1)) =>
      rw [ep, db_inr] at hq
      obtain ⟨-, a2⟩ := ports_M hN T hS hV N0 (t + 3) (dBeg A (t + 1)) la nc s3 wB D3 _ ep
      obtain ⟨⟨s4, la4, nc4, y1, y2⟩, y3, y4⟩ := a2 t1 A1 rfl
      obtain ⟨w1, w2⟩ := dPorts_wo hV N0 (t + 3) (dBeg A (t + 1)) wB t1 A1 ep
      by_cases c2 : nt ≤ t1 + 2
      · rw [if_pos c2] at hq; cases hq
      rw [if_neg c2] at hq
      have D5 : DM nt s0 (tu A1 26 (A1.1 46 0) (A1.1 40 0 - A1.1 21 (A1.1 46 0))) (t1 + 2) la4 nc4 (upI s4 8 (fun _ => nI (t1 + 2))) := (y2.tset (Eb.rfl.upI (by decide)) rfl (by omega) (by omega) hnt).p26
      have w5 : WF tk nt (tu A1 26 (A1.1 46 0) (A1.1 40 0 - A1.1 21 (A1.1 46 0))) (t1 + 2) := (w1.later (by omega)).p26
      have ff2 : hd_M_module_188 N N = hd_M_module_188 N (N0 + 1) := by rw [← N1]
      rw [y1, ff2]
      match ei : dItems tk pl vl wi wd nt N0 N0 (t1 + 2) (tu A1 26 (A1.1 46 0) (A1.1 40 0 - A1.1 21 (A1.1 46 0))) with
      | none => rw [ei] at hq; cases hq
      | some (.inl (f, p)) =>
        rw [ei] at hq
        cases hq
        obtain ⟨a1, -⟩ := items_M hN hN0 T hS hV N0 (t1 + 2) _ la4 nc4 _ w5 D5 _ ei
        obtain ⟨s', p1, p2⟩ := a1 f p rfl
        exact ⟨s', p1, fun f p z => (by cases z; exact p2), fun _ _ z => (by cases z)⟩
      | some (.inr (t2, A2)) =>
        rw [ei, db_inr] at hq
        obtain ⟨-, a3⟩ := items_M hN hN0 T hS hV N0 (t1 + 2) _ la4 nc4 _ w5 D5 _ ei
        obtain ⟨⟨s6, la6, nc6, z1, z2⟩, z3, z4, z5, z6⟩ := a3 t2 A2 rfl
        have C46 : A2.1 46 0 = A.1 46 0 := by
          rw [z6 46 (by decide)]
          simp only [tu1, tu2, uu1, uu2, uu3, vu1, vu2, vu3, su1, su2, Nat.reduceEqDiff, false_and, true_and, reduceIte, Bool.false_eq_true, if_true, if_false]
          rw [y4 46 (by decide), B46]
        have C20 : A2.1 20 (A.1 46 0) = t + 1 := by
          rw [z6 20 (by decide)]
          simp only [tu1, tu2, uu1, uu2, uu3, vu1, vu2, vu3, su1, su2, Nat.reduceEqDiff, false_and, true_and, reduceIte, Bool.false_eq_true, if_true, if_false]
          rw [y4 20 (by decide), B20]
        rw [z1]
        obtain ⟨f1, f2⟩ := fin_M hN hnt hS z5 z3 z2
        match eu : dUnd A2 with
        | some d =>
          rw [eu] at hq
          cases hq
          obtain ⟨s', p1, p2⟩ := f1 d eu
          exact ⟨s', p1, fun f p z => (by cases z; exact p2), fun _ _ z => (by cases z)⟩
        | none =>
          rw [eu] at hq
          cases hq
          obtain ⟨s', p1, p2⟩ := f2 eu
          refine ⟨s', p1, fun _ _ z => (by cases z), fun t' A' z => ?_⟩
          cases z
          exact ⟨⟨la6, nc6, p2⟩, z5.fin (by omega) (by rw [C46]; omega) (by rw [C46, C20]; exact ⟨by omega, k4⟩), by omega⟩
  · rw [if_pos c1] at hq
    cases hq
    rw [if_neg (fun z => c1 ((oI_neg ml).mp z)), q8, if_neg (nI_in (show t + 1 < 65540 by omega) (by decide)), nI_clamp (by omega), five hS d1 (by omega)]
    unfold fn_M_fail
    rw [if_pos q9, obind]
    dsimp only
    have r12 : (upI (upI s1 9 (fun _ => 20)) 10 (fun _ => nI (pl (t + 1)))).1 12 0 = nI (A.1 46 0) := q12
    rw [f40 (s := upI (upI s1 9 (fun _ => 20)) 10 (fun _ => nI (pl (t + 1)))) (m := A.1 46 0) r12 (by omega) d4.1.2.1 d4.1.2.2.1 d4.1.2.2.2.2.1 d4.1.2.2.2.2.2, ff]
    have z : Zd 45000 s0 (begS (upI (upI s1 9 (fun _ => 20)) 10 (fun _ => nI (pl (t + 1)))) (A.1 46 0) (A.1 40 0) (A.1 41 0) (A.1 43 0) (A.1 44 0) ((upI (upI s1 9 (fun _ => 20)) 10 (fun _ => nI (pl (t + 1)))).1 8 0) ((upI (upI s1 9 (fun _ => 20)) 10 (fun _ => nI (pl (t + 1)))).1 8 0 + 2)) 20 (pl (t + 1)) := by
      have e : Eb [8, 9, 10, 13, 14, 15, 16, 17] [45] s1 (begS (upI (upI s1 9 (fun _ => 20)) 10 (fun _ => nI (pl (t + 1)))) (A.1 46 0) (A.1 40 0) (A.1 41 0) (A.1 43 0) (A.1 44 0) ((upI (upI s1 9 (fun _ => 20)) 10 (fun _ => nI (pl (t + 1)))).1 8 0) ((upI (upI s1 9 (fun _ => 20)) 10 (fun _ => nI (pl (t + 1)))).1 8 0 + 2)) := ((Eb.rfl.upI (by decide)).upI (by decide)).trans (begS_E.mono (by decide) (by decide))
      refine ⟨d1.trans (e.mono (by decide) (by decide)), by decide, ⟨by decide, d2.lk.keep e (by decide) (by decide)⟩, rfl, rfl, ⟨t + 3, by omega, by show s1.1 8 0 + 2 = _; rw [q8, lit_nI 2, nI_add]⟩, A.1 46 0, A.1 40 0, A.1 41 0, by rw [e.1 12 (by decide)]; exact q12, by omega, by rw [e.1 18 (by decide)]; exact d4.1.2.1, by omega, by rw [e.1 27 (by decide)]; exact d4.1.2.2.1, by omega, ⟨A.1 40 0, upd_at _ _ _, Nat.le_refl _⟩, ⟨A.1 41 0, upd_at _ _ _, Nat.le_refl _⟩, fun k hk => ⟨A.1 10 k, by have := (hW.2.2.2.2.1 k hk).1; omega, by rw [e.1 28 (by decide)]; exact (d4.2.2.1 k hk).1⟩⟩
    obtain ⟨s', p1, p2⟩ := z.r125 (N := N) (n := N0) hN (by omega)
    exact ⟨s', p1, fun f p z => (by cases z; exact p2), fun _ _ z => (by cases z)⟩
theorem design_M0 (hN : 13002 < N) (hN0 : N = N0 + 1) (T : Tv tk pl nt) (hS : SD tk pl vl wi wd nt N s0) (hV : Vb tk vl wi) : ∀ (n t : Nat) (A : ds) (la nc : Nat) (s : ms), WF tk nt A t → DN nt s0 A t la nc s → ∀ q, dDesign tk pl vl wi wd nt N0 n t A = some q → ∃ s', hd_M_design_62 N (n + 1) s = some ((), s') ∧ (∀ f p, q = .inl (f, p) → Zm s0 s' f p) ∧ (∀ t' A', q = .inr (t', A') → (∃ la' nc', DN nt s0 A' t' la' nc' s') ∧ WF tk nt A' t') := by
  have hnt := T.2.1
  intro n
  induction n with
  | zero => intro t A la nc s hW h q hq; cases hq
  | succ n ih =>
    intro t A la nc s hW h q hq
    unfold dDesign at hq
    by_cases c0 : nt ≤ t
    · rw [if_pos c0] at hq; cases hq
    rw [if_neg c0] at hq
    have kl : tk t < 405 := T.lt (by omega)
    show ∃ s', bd_M_design_62 N (hd_M_design_62 N (n + 1)) s = _ ∧ _
    unfold bd_M_design_62
    rw [if_pos (show s.1 9 0 = 0 from h.2.1.1), kindD hS hnt h.1 h.2.1.2.2.1 (by omega), obind]
    dsimp only
    by_cases c1 : tk t = 403
    · rw [if_pos c1] at hq
      cases hq
      rw [if_pos (show nI (tk t) = 403 by rw [c1]; rfl)]
      exact ⟨s, rfl, fun _ _ z => (by cases z), fun t' A' z => (by cases z; exact ⟨⟨la, nc, h⟩, hW⟩)⟩
    · rw [if_neg c1] at hq
      rw [if_neg (show ¬ nI (tk t) = 403 from fun z => c1 ((nI_eq (b := 403) (by omega) (by omega)).mp z))]
      have mm := module_M hN hN0 T hS hV hW h (by omega)
      match er : dModule tk pl vl wi wd nt N0 t A with
      | none => rw [er] at hq; cases hq
      | some (.inl (f, p)) =>
        rw [er] at hq
        cases hq
        obtain ⟨s1, a1, a2, -⟩ := mm _ er
        rw [a1, obind]
        have z := a2 f p rfl
        refine ⟨s1, ?_, fun f p e => (by cases e; exact z), fun _ _ e => (by cases e)⟩
        show bd_M_design_62 N (hd_M_design_62 N n) s1 = _
        unfold bd_M_design_62
        rw [if_neg (show ¬ s1.1 9 0 = 0 by rw [z.2.2.2.1]; exact nI_ne0 z.2.1 (by have := z.2.2.1; omega))]
      | some (.inr (t1, A1)) =>
        rw [er, db_inr] at hq
        obtain ⟨s1, a1, -, a3⟩ := mm _ er
        obtain ⟨⟨la1, nc1, b1⟩, b2, b3⟩ := a3 t1 A1 rfl
        rw [a1, obind]
        exact ih t1 A1 la1 nc1 s1 b2 b1 q hq
/-- the reference's second pass -/
theorem design_M (hN : 13002 < N) (hN0 : N = N0 + 1) (T : Tv tk pl nt) (hS : SD tk pl vl wi wd nt N s) (hV : Vb tk vl wi) (h9 : s.1 9 0 = 0) (hL : ∃ len nlen, s.1 91 0 = nI len ∧ 4096 ≤ len ∧ len ≤ 200000 ∧ s.1 92 0 = nI nlen ∧ 256 ≤ nlen ∧ nlen ≤ 60000) : ∀ q, dDesign tk pl vl wi wd nt N0 N0 0 dA0 = some q → ∃ s', fn_M_design N s = some ((), s') ∧ (∀ f p, q = .inl (f, p) → Zm s s' f p) ∧ (∀ t' A', q = .inr (t', A') → (∃ la' nc', DN nt s A' t' la' nc' s') ∧ WF tk nt A' t') := by
  intro q hq
  unfold fn_M_design
  have ff : hd_M_design_62 N N = hd_M_design_62 N (N0 + 1) := by rw [← hN0]
  rw [ff]
  generalize hs1 : upI (upI (upI (upI (upI (upI (upI (upI (upI (upI (upI (upI s 8 (fun _ => 0)) 12 (fun _ => 0)) 18 (fun _ => 0)) 27 (fun _ => 0)) 31 (fun _ => 0)) 35 (fun _ => 0)) 38 (fun _ => 0)) 42 (fun _ => 0)) 44 (fun _ => 0)) 51 (fun _ => 0)) 53 (fun _ => 0)) 30 (upd (s.1 30) 0 0) = s1
  have e : DE s s1 := by
    rw [← hs1]
    exact ((((((((((((Eb.rfl.upI (by decide)).upI (by decide)).upI (by decide)).upI (by decide)).upI (by decide)).upI (by decide)).upI (by decide)).upI (by decide)).upI (by decide)).upI (by decide)).upI (by decide)).upI (by decide))
  obtain ⟨len, nlen, l1, l2, l3, l4, l5, l6⟩ := hL
  refine design_M0 hN hN0 T hS hV N0 0 dA0 0 0 s1 ?_ ⟨e, ?_, ⟨by omega, by omega, by omega⟩, ?_, fun d => (by show 0 ≤ 20000; omega), ?_, fun m _ z => (by cases z)⟩ q hq
  · refine ⟨⟨by decide, by decide, by decide, by decide, by decide, by decide, by decide⟩, fun d hd => (by cases hd), fun m hm => ⟨Nat.le_refl _, Nat.le_refl _⟩, fun m hm => (by cases hm), fun i hi => (by cases hi), fun i hi => Nat.le_refl _, fun k hk => (by cases hk)⟩
  · rw [← hs1]
    exact ⟨h9, by decide, rfl, by decide, rfl, by decide, rfl, by decide, rfl, by decide, rfl, by decide, len, nlen, l1, l2, l3, by omega, l4, l5, l6, by omega⟩
  · rw [← hs1]
    refine ⟨⟨rfl, rfl, rfl, rfl, rfl, rfl⟩, fun d hd => (by cases hd), fun i hi => (by cases hi), fun i hi => ?_, fun k hk => (by cases hk), fun m hm => (by cases hm)⟩
    have hi' : i ≤ 0 := hi
    have : i = 0 := by omega
    subst this
    show upd (s.1 30) 0 0 0 = nI 0
    rw [upd_at]
    rfl
  · exact ⟨fun d hd => (by cases hd), fun k hk => (by cases hk), fun a ha => (by cases ha), fun a ha => (by cases ha)⟩
end MDES
