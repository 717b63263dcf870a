/-! The reference: ports, assigns, asserts, always. -/
section MITM
variable {tk pl vl wi wd : Nat → Nat} {nt N N0 : Nat} {s0 s s' : ms} {A : ds} {t la nc : Nat}
theorem Dx.bind {B : Nat} {o : Option (Unit × ms)} {r : dr} {k : ms → Option (Unit × ms)} (h : Dx B nt s0 o r) (hk : ∀ s' : ms, k s' = some ((), s')) : Dx B nt s0 (o.bind (fun q => k q.2)) r := by
  intro q hq
  obtain ⟨s', a1, a2⟩ := h q hq
  exact ⟨s', by rw [a1, obind]; exact hk s', a2⟩
theorem bind3 {α : Type} {o : Option (α × ms)} {k : α → ms → Option (Unit × ms)} : (o.bind (fun q_1 => (k q_1.1 q_1.2).bind (fun q_4 => some ((), q_4.2)))) = (o.bind (fun q_1 => k q_1.1 q_1.2)) := by
  cases o with
  | none => rfl
  | some q =>
    show (k q.1 q.2).bind _ = k q.1 q.2
    cases k q.1 q.2 <;> rfl
theorem port_M (hN : 13002 < N) (T : Tv tk pl nt) (hS : SD tk pl vl wi wd nt N s0) (hV : Vb tk vl wi) (hW : WF tk nt A t) (h : DM nt s0 A t la nc s) (ht : t < nt) : Dx 20000 nt s0 (fn_M_port N s) (dPort tk pl vl wi wd nt t A) := by
  have hnt := T.2.1
  have kl : tk t < 405 := T.lt ht
  unfold dPort fn_M_port
  by_cases c0 : nt ≤ t + 1
  · rw [if_pos c0]; intro q hq; cases hq
  rw [if_neg c0, kindD hS hnt h.1 h.eight ht, obind]
  dsimp only
  have D1 : DM nt s0 A (t + 1) la nc (upI s 8 (fun _ => s.1 8 0 + 1)) := h.tset (Eb.rfl.upI (by decide)) (by show s.1 8 0 + 1 = _; rw [h.eight, nI_1]) (by omega) (by omega) hnt
  generalize hs1 : upI s 8 (fun _ => s.1 8 0 + 1) = s1 at *
  by_cases c1 : tk t = 302
  · rw [if_pos c1, if_pos (show nI (tk t) = 302 by rw [c1]; rfl), bind3]
    exact rdec_M (k := 0) hN T hS hV hW D1 (by omega) (by omega)
  · have kl1 : tk (t + 1) < 405 := T.lt (by omega)
    rw [if_neg c1, if_neg (show ¬ nI (tk t) = 302 from fun z => c1 ((nI_eq (b := 302) (by omega) (by omega)).mp z)), kindD hS hnt D1.1 D1.eight (by omega), obind]
    dsimp only
    by_cases c2 : tk (t + 1) = 305
    · rw [if_pos c2, if_pos (show nI (tk (t + 1)) = 305 by rw [c2]; rfl)]
      unfold bk_M_port_57
      rw [if_neg (by decide)]
      unfold bk_M_port_76
      rw [if_neg (by decide), D1.eight, nI_1]
      unfold bk_M_port_89
      rw [bind3]
      exact rdec_M (k := 2) hN T hS hV hW (D1.tset (Eb.rfl.upI (by decide)) rfl (by omega) (by omega) hnt) (by omega) (by omega)
    · rw [if_neg c2, if_neg (show ¬ nI (tk (t + 1)) = 305 from fun z => c2 ((nI_eq (b := 305) (by omega) (by omega)).mp z))]
      unfold bk_M_port_57
      rw [if_pos rfl]
      unfold bk_M_port_76
      rw [if_pos rfl, D1.eight]
      unfold bk_M_port_89
      rw [bind3]
      exact rdec_M (k := 1) hN T hS hV hW (D1.tset (Eb.rfl.upI (by decide)) rfl (by omega) (by omega) hnt) (by omega) (by omega)
theorem dNm_w {u : Nat} (hW : WF tk nt A u) : ∀ i q, dNm wd A i = some q → 1 ≤ q.2 ∧ q.2 ≤ 64 := by
  intro i q hq
  unfold dNm at hq
  match er : dHere wd A i with
  | none => rw [er] at hq; cases hq
  | some d =>
    rw [er] at hq
    cases hq
    have := hW.2.1 d (dHere_in hW er).1
    exact ⟨this.2.2.1, this.2.2.2.1⟩
/-- an exp within an item -/
theorem DM.exp {u : Nat} {q : Sum (Nat × Nat) (Nat × Nat × List aop × Nat)} (hN : 13002 < N) (hN0 : N = N0 + 1) (T : Tv tk pl nt) (hS : SD tk pl vl wi wd nt N s0) (hV : Vb tk vl wi) (hW : WF tk nt A u) (hu : u ≤ nt + 1) (h : DM nt s0 A t la nc s) (hq : dX tk pl vl wi wd nt N0 A t = some q) :
    ∃ v S', fn_M_exp N s = some (v, S') ∧ SE s S' ∧ (∀ f p, q = .inl (f, p) → Zs (A.1 46 0) s s la nc S' f p 21000) ∧ (∀ w t1 L C, q = .inr (w, t1, L, C) → v = nI w ∧ 1 ≤ w ∧ w ≤ 64 ∧ t + L.length ≤ t1 ∧ t < t1 ∧ t1 + 1 < nt ∧ ∃ nc', nc ≤ nc' ∧ nc' ≤ nc + L.length ∧ DM nt s0 (tu A 47 0 (A.1 47 0 + C)) t1 (la + L.length) nc' S' ∧ rEnc (S'.1 41) (S'.2 43) nc' la L) := by
  have hnt := T.2.1
  obtain ⟨g1, g2, g3, g4, g5, g6, g7, g8⟩ := h
  have hF : eF tk pl vl wi (dNm wd A) nt N0 t = some q := by
    unfold dX at hq
    match er : eF tk pl vl wi (dNm wd A) nt N0 t with
    | none => rw [er] at hq; cases hq
    | some (.inl f) => rw [er] at hq; exact hq
    | some (.inr (w, t1, L, C)) =>
      rw [er] at hq
      dsimp only at hq
      split at hq
      · cases hq
      · exact hq
  obtain ⟨v, S', a1, a2, a3, a4, a5⟩ := (Ps.start (m := A.1 46 0) (C0 := A.1 47 0) (s0 := s) (s := s) Eb.rfl g2 g8).exp T (SM2_of hN hnt hS g1 hu hW g4 g7) hN hN0 (fun i hi => (hV i).2 hi) (dNm_w hW) g3 hF
  refine ⟨v, S', a1, a2, a4, fun w t1 L C e => ?_⟩
  subst e
  obtain ⟨b1, b2, b3, b4, b5, b6, b7, b8, b9, nc', b10, b11, b12, b13⟩ := a5 _ _ _ _ rfl
  have i1 := (dX_in hq).2.1
  refine ⟨b1, b2, b3, b4, b5, i1, nc', b10, b11, ⟨g1.trans (SE.toDE a2), b12.2.2.2.2.1, ?_, ?_, ?_, ?_, ?_, ?_⟩, b13⟩
  · obtain ⟨j1, j2, j3, j4, j5⟩ := g3
    simp only [tu1, tu2, uu1, uu2, uu3, vu1, vu2, vu3, su1, su2, Nat.reduceEqDiff, false_and, true_and, reduceIte, Bool.false_eq_true, if_true, if_false]
    exact ⟨by omega, j2, by omega, by omega, by omega⟩
  · have := g4.keep (s' := S') a2 (by decide) (by decide) (fun k hk => a3.2.2.2.2 k (by omega))
    unfold Dtb at *
    simp only [tu1, tu2, uu1, uu2, uu3, vu1, vu2, vu3, su1, su2, Nat.reduceEqDiff, false_and, true_and, reduceIte, Bool.false_eq_true, if_true, if_false]
    exact this
  · have := g5.keep (s' := S') a2 (by decide)
    unfold Dset at *
    simp only [tu1, tu2, uu1, uu2, uu3, vu1, vu2, vu3, su1, su2, Nat.reduceEqDiff, false_and, true_and, reduceIte, Bool.false_eq_true, if_true, if_false]
    exact this
  · have := g6.keep (s' := S') (la' := la + L.length) (nc' := nc') a2 (by decide) a3.1 a3.2.1 (by omega) b10
    unfold Dcd at *
    simp only [tu1, tu2, uu1, uu2, uu3, vu1, vu2, vu3, su1, su2, Nat.reduceEqDiff, false_and, true_and, reduceIte, Bool.false_eq_true, if_true, if_false]
    exact this
  · intro m hm
    exact (g7.keep (s' := S') a2 (by decide)) m hm
  · simp only [tu1, tu2, uu1, uu2, uu3, vu1, vu2, vu3, su1, su2, Nat.reduceEqDiff, false_and, true_and, reduceIte, Bool.false_eq_true, if_true, if_false]
    have := b12.2.2.2.2.2
    rw [Nat.zero_add] at this
    exact this
theorem Zs.zd {m f p b u : Nat} (hW : WF tk nt A u) (hu : u ≤ nt + 1) (hnt : nt ≤ 12001) (h : DM nt s0 A t la nc s) (z : Zs m s s la nc s' f p b) (hb : b < 40000) : Zd 45000 s0 s' f p := by
  obtain ⟨a1, a2, a3, a4, x, la', nc', a5, a6, -⟩ := z
  exact Zd.z hW hu hnt h a1 a3 ⟨a5.2.1, a5.lk⟩ a5.1 a4 a5.2.2.1 (by omega)
/-- which is driven -/
theorem isDriven_M {d u : Nat} (hW : WF tk nt A u) (hu : u ≤ nt + 1) (hnt : nt ≤ 12001) (hd : d < A.1 40 0) (h : s.1 21 d = nI (A.1 2 d)) : fn_M_isDriven N (nI d) s = some (b01 (dDrv A d), s) := by
  have := hW.1.1
  have k4 := (hW.2.1 d hd).2.2.2.2.1
  unfold fn_M_isDriven dDrv
  rw [if_neg (nI_in (show d < 11000 by omega) (by decide)), nI_clamp (by omega), h]
  by_cases c1 : A.1 2 d = 1
  · rw [if_pos (show nI (A.1 2 d) = 1 by rw [c1]; rfl)]; simp [c1, b01]
  · rw [if_neg (show ¬ nI (A.1 2 d) = 1 from fun z => c1 ((nI_eq (b := 1) (by omega) (by omega)).mp z)), if_neg (nI_inN (show d < 11000 by omega) (by omega))]
    by_cases c3 : A.1 2 d = 3
    · rw [if_pos (show nI (A.1 2 d) = 3 by rw [c3]; rfl)]; simp [c3, b01]
    · rw [if_neg (show ¬ nI (A.1 2 d) = 3 from fun z => c3 ((nI_eq (b := 3) (by omega) (by omega)).mp z))]; simp [c1, c3, b01]
theorem assign_M (hN : 13002 < N) (hN0 : N = N0 + 1) (T : Tv tk pl nt) (hS : SD tk pl vl wi wd nt N s0) (hV : Vb tk vl wi) (hW : WF tk nt A t) (h : DM nt s0 A t la nc s) (ht : t < nt) : Dx 45000 nt s0 (fn_M_assign N s) (dAssign tk pl vl wi wd nt N0 t A) := by
  have hnt := T.2.1
  intro q hq
  unfold dAssign at hq
  by_cases c0 : nt ≤ t + 3 ∨ tk (t + 1) ≠ 400
  · rw [if_pos c0] at hq; cases hq
  rw [if_neg c0] at hq
  have t3 : t + 3 < nt := by
    by_cases z : nt ≤ t + 3
    · exact absurd (Or.inl z) c0
    · omega
  have k4 : tk (t + 1) = 400 := by
    by_cases z : tk (t + 1) = 400
    · exact z
    · exact absurd (Or.inr z) c0
  unfold fn_M_assign
  rw [h.eight, nI_1]
  have D1 : DM nt s0 A (t + 1) la nc (upI s 8 (fun _ => nI (t + 1))) := h.tset (Eb.rfl.upI (by decide)) rfl (by omega) (by omega) hnt
  generalize upI s 8 (fun _ => nI (t + 1)) = s1 at *
  rw [hereD hN hnt hS D1 hW (by omega) (by omega) k4 Eb.rfl, obind]
  dsimp only
  have e22 : ∃ s', bk_M_assign_31 N s1 = some ((), s') ∧ Zd 45000 s0 s' 22 (pl (t + 1)) := by
    unfold bk_M_assign_31 fn_M_fail
    rw [D1.eight, if_neg (nI_in (show t + 1 < 65540 by omega) (by decide)), nI_clamp (by omega), five hS D1.1 (by omega), if_pos D1.nine, obind]
    exact ⟨_, rfl, Zd.z (x := t + 1) hW (by omega) hnt D1 ((Eb.rfl.upI (by decide)).upI (by decide)) (by decide) ⟨by decide, D1.2.1.lk⟩ rfl rfl D1.eight (by omega)⟩
  match er : dHere wd A (t + 1) with
  | none =>
    rw [er] at hq
    cases hq
    rw [if_pos (show oI none < 0 by decide)]
    obtain ⟨s', p1, p2⟩ := e22
    exact ⟨s', p1, fun f p z => (by cases z; exact p2), fun _ _ z => (by cases z)⟩
  | some d =>
    rw [er] at hq
    dsimp only at hq
    have hd := dHere_in hW er
    have dl : d < 11000 := by have := hW.1.1; omega
    have tb := D1.2.2.2.1.2.1 d hd.1
    have wd4 := hW.2.1 d hd.1
    show ∃ s', (if nI d < 0 then bk_M_assign_31 N s1 else _) = _ ∧ _
    rw [if_neg (nI_pos (by omega))]
    show ∃ s', (Option.bind (fn_M_isDriven N (nI d) s1) _) = _ ∧ _
    rw [isDriven_M hW (by omega) hnt hd.1 tb.2.2.1, obind]
    dsimp only
    cases dv : dDrv A d with
    | false =>
      rw [dv, if_pos rfl] at hq
      cases hq
      rw [if_pos (show b01 false = 0 from rfl)]
      obtain ⟨s', p1, p2⟩ := e22
      exact ⟨s', p1, fun f p z => (by cases z; exact p2), fun _ _ z => (by cases z)⟩
    | true =>
      rw [dv, if_neg (by decide)] at hq
      rw [if_neg (show ¬ b01 true = 0 by decide)]
      show ∃ s', (if (nI d < 0 ∨ 11000 ≤ Int32.toNatClampNeg (nI d)) then none else if s1.1 23 (Int32.toNatClampNeg (nI d)) = 0 then bk_M_assign_71 N (nI d) s1 else _) = _ ∧ _
      rw [if_neg (nI_in dl (by decide)), nI_clamp (by omega), tb.2.2.2.2]
      -- the exp, behind a fault
      have f137 : ∀ (σ : ms) (x3 : Int32), bk_M_assign_137 N (nI d) x3 σ = some ((), upI (upI (upI (upI σ 23 (upd (σ.1 23) d 1)) 24 (upd (σ.1 24) d x3)) 25 (upd (σ.1 25) d (σ.1 42 0))) 8 (fun _ => σ.1 8 0 + 1)) := fun σ x3 => by
        unfold bk_M_assign_137
        rw [if_neg (nI_in dl (by decide)), if_neg (nI_in dl (by decide)), if_neg (nI_in dl (by decide)), nI_clamp (by omega)]
      have z137 : ∀ (σ : ms) (x3 : Int32) (f p b : Nat), Zs (A.1 46 0) s1 s1 la nc σ f p b → b < 39000 → ∃ s', bk_M_assign_137 N (nI d) x3 σ = some ((), s') ∧ Zd 45000 s0 s' f p := fun σ x3 f p b z hb => by
        rw [f137]
        obtain ⟨a1, a2, a3, a4, x, la', nc', a5, a6, -⟩ := z
        refine ⟨_, rfl, ?_⟩
        have e : Eb [8, 9, 10, 23, 24, 25, 26, 41, 42, 44, 49, 50, 51, 52, 53, 87, 91, 92] [43, 45] s1 (upI (upI (upI (upI σ 23 (upd (σ.1 23) d 1)) 24 (upd (σ.1 24) d x3)) 25 (upd (σ.1 25) d (σ.1 42 0))) 8 (fun _ => σ.1 8 0 + 1)) := ((((a1.mono (by decide) (by decide)).upI (by decide)).upI (by decide)).upI (by decide)).upI (by decide)
        exact Zd.mk (x := x + 1) (dc := A.1 40 0) (it := A.1 41 0) hW (by omega) hnt D1 (e.mono (by decide) (by decide)) a3 ⟨a5.2.1, a5.lk⟩ a5.1 a4 (by show σ.1 8 0 + 1 = _; rw [a5.2.2.1, nI_1]) (by omega) (e.1 12 (by decide)) (e.1 14 (by decide)) (e.1 15 (by decide)) (by rw [e.1 18 (by decide)]; exact D1.2.2.2.1.1.2.1) (Nat.le_refl _) (by omega) (by rw [e.1 27 (by decide)]; exact D1.2.2.2.1.1.2.2.1) (Nat.le_refl _) (by omega) (by rw [e.1 28 (by decide)]; exact D1.i28 hW (by omega) hnt)
      have z110 : ∀ (σ : ms) (x2 x3 x4 : Int32) (f p b : Nat), Zs (A.1 46 0) s1 s1 la nc σ f p b → b < 39000 → ∃ s', bk_M_assign_110 N (nI d) x2 x3 x4 σ = some ((), s') ∧ Zd 45000 s0 s' f p := fun σ x2 x3 x4 f p b z hb => by
        unfold bk_M_assign_110
        rw [if_neg z.nine]
        exact z137 σ x3 f p b z hb
      by_cases c4 : A.1 4 d = 0
      · rw [if_neg (by omega)] at hq
        rw [if_pos (show nI (A.1 4 d) = 0 by rw [c4]; rfl)]
        unfold bk_M_assign_71
        rw [D1.eight, nI_1, if_neg (nI_in (show t + 1 + 1 < 65540 by omega) (by decide)), nI_clamp (by omega), five hS D1.1 (by omega), nI_1]
        have D3 : DM nt s0 A (t + 3) la nc (upI (upI s1 8 (fun _ => nI (t + 1 + 1))) 8 (fun _ => nI (t + 1 + 1 + 1))) := D1.tset ((Eb.rfl.upI (by decide)).upI (by decide)) rfl (by omega) (by omega) hnt
        have e13 : Eb [8] [] s1 (upI (upI s1 8 (fun _ => nI (t + 1 + 1))) 8 (fun _ => nI (t + 1 + 1 + 1))) := (Eb.rfl.upI (by decide)).upI (by decide)
        have l42 : s1.1 42 0 = nI (3 * la) := D1.2.1.2.2.2.2.1
        generalize upI (upI s1 8 (fun _ => nI (t + 1 + 1))) 8 (fun _ => nI (t + 1 + 1 + 1)) = s3 at *
        have zup : ∀ (σ : ms) (f p b : Nat), Zs (A.1 46 0) s3 s3 la nc σ f p b → Zs (A.1 46 0) s1 s1 la nc σ f p b := fun σ f p b z => by
          obtain ⟨a1, a2, a3⟩ := z
          exact ⟨(e13.mono (by decide) (by decide)).trans a1, (Lo.self e13 (by decide)).trans a2 (Nat.le_refl _) (Nat.le_refl _) (Nat.le_refl _) (Nat.le_refl _), a3⟩
        match ex : dX tk pl vl wi wd nt N0 A (t + 3) with
        | none => rw [ex] at hq; cases hq
        | some (.inl (f, p)) =>
          rw [ex] at hq
          cases hq
          obtain ⟨v, S', a1, a2, a3, -⟩ := D3.exp hN hN0 T hS hV hW (by omega) ex
          rw [a1, obind]
          dsimp only
          obtain ⟨s', p1, p2⟩ := z110 S' (nI (pl (t + 1 + 1))) (s1.1 42 0) v f p 21000 (zup _ _ _ _ (a3 f p rfl)) (by omega)
          exact ⟨s', p1, fun f p z => (by cases z; exact p2), fun _ _ z => (by cases z)⟩
        | some (.inr (w, t1, L, C)) =>
          rw [ex] at hq
          dsimp only at hq
          obtain ⟨v, S', a1, a2, -, a4⟩ := D3.exp hN hN0 T hS hV hW (by omega) ex
          obtain ⟨b1, b2, b3, b4, b5, b6, nc', b7, b8, b9, b10⟩ := a4 _ _ _ _ rfl
          rw [a1, obind]
          dsimp only
          unfold bk_M_assign_110
          have e20 : S'.1 20 d = nI (A.1 1 d) := by
            have := (b9.2.2.2.1.2.1 d (by simp only [tu1, tu2, uu1, uu2, uu3, vu1, vu2, vu3, su1, su2, Nat.reduceEqDiff, false_and, true_and, reduceIte, Bool.false_eq_true, if_true, if_false]; exact hd.1)).2.1
            revert this
            simp only [tu1, tu2, uu1, uu2, uu3, vu1, vu2, vu3, su1, su2, Nat.reduceEqDiff, false_and, true_and, reduceIte, Bool.false_eq_true, if_true, if_false]
            exact fun z => z
          rw [if_pos b9.nine, if_neg (nI_in dl (by decide)), nI_clamp (by omega), e20, b1]
          by_cases cw : w = A.1 1 d
          · rw [if_pos cw] at hq
            cases hq
            rw [if_pos (by rw [cw]), f137]
            refine ⟨_, rfl, fun _ _ z => (by cases z), fun t' A' z => ?_⟩
            cases z
            refine ⟨la + L.length, nc', ?_⟩
            obtain ⟨g1, g2, g3, g4, g5, g6, g7, g8⟩ := b9
            have e8 : S'.1 8 0 = nI t1 := g2.2.2.1
            have e42 : S'.1 42 0 = nI (3 * (la + L.length)) := g2.2.2.2.2.1
            have ee : Eb [8, 23, 24, 25] [] S' (upI (upI (upI (upI S' 23 (upd (S'.1 23) d 1)) 24 (upd (S'.1 24) d (s1.1 42 0))) 25 (upd (S'.1 25) d (S'.1 42 0))) 8 (fun _ => S'.1 8 0 + 1)) := (((Eb.rfl.upI (by decide)).upI (by decide)).upI (by decide)).upI (by decide)
            refine ⟨g1.trans (ee.mono (by decide) (by decide)), ?_, ?_, ?_, ?_, ?_, ?_, ?_⟩
            · obtain ⟨h1, h2, h3, h4, h5⟩ := g2
              exact ⟨h1, h2, by show S'.1 8 0 + 1 = _; rw [e8, nI_1], by omega, h5⟩
            · obtain ⟨j1, j2, j3, j4, j5⟩ := g3
              simp only [tu1, tu2, uu1, uu2, uu3, vu1, vu2, vu3, su1, su2, Nat.reduceEqDiff, false_and, true_and, reduceIte, Bool.false_eq_true, if_true, if_false] at j5
              simp only [tu1, tu2, uu1, uu2, uu3, vu1, vu2, vu3, su1, su2, Nat.reduceEqDiff, false_and, true_and, reduceIte, Bool.false_eq_true, if_true, if_false]
              exact ⟨by omega, j2, by omega, by omega, by omega⟩
            · obtain ⟨h1, h2, h3, h4, h5, h6⟩ := g4
              simp only [tu1, tu2, uu1, uu2, uu3, vu1, vu2, vu3, su1, su2, Nat.reduceEqDiff, false_and, true_and, reduceIte, Bool.false_eq_true, if_true, if_false] at h1 h2 h3 h4 h5 h6
              unfold Dtb
              simp only [tu1, tu2, uu1, uu2, uu3, vu1, vu2, vu3, su1, su2, Nat.reduceEqDiff, false_and, true_and, reduceIte, Bool.false_eq_true, if_true, if_false]
              refine ⟨h1, fun x hx => ?_, h3, h4, h5, h6⟩
              obtain ⟨c1, c2, c3, c4, c5⟩ := h2 x hx
              refine ⟨c1, c2, c3, c4, ?_⟩
              show upd (S'.1 23) d 1 x = _
              by_cases z : x = d
              · rw [z, upd_at, if_pos rfl]; rfl
              · rw [upd_ne z, if_neg z]; exact c5
            · unfold Dset at *
              simp only [tu1, tu2, uu1, uu2, uu3, vu1, vu2, vu3, su1, su2, Nat.reduceEqDiff, false_and, true_and, reduceIte, Bool.false_eq_true, if_true, if_false] at g5
              simp only [tu1, tu2, uu1, uu2, uu3, vu1, vu2, vu3, su1, su2, Nat.reduceEqDiff, false_and, true_and, reduceIte, Bool.false_eq_true, if_true, if_false]
              exact g5
            · obtain ⟨h1, h2, h3, h4⟩ := g6
              simp only [tu1, tu2, uu1, uu2, uu3, vu1, vu2, vu3, su1, su2, Nat.reduceEqDiff, false_and, true_and, reduceIte, Bool.false_eq_true, if_true, if_false] at h1 h2 h3 h4
              unfold Dcd
              simp only [tu1, tu2, uu1, uu2, uu3, vu1, vu2, vu3, su1, su2, Nat.reduceEqDiff, false_and, true_and, reduceIte, Bool.false_eq_true, if_true, if_false]
              refine ⟨fun x hx => ?_, h2, h3, h4⟩
              by_cases z : x = d
              · subst z
                simp only [reduceIte]
                refine ⟨fun _ => ⟨la, ?_, ?_, Nat.le_refl _, b10⟩, fun y => absurd y (by omega)⟩
                · show upd (S'.1 24) x (s1.1 42 0) x = _
                  rw [upd_at, l42]
                · show upd (S'.1 25) x (S'.1 42 0) x = _
                  rw [upd_at, e42]
              · simp only [z, reduceIte]
                obtain ⟨y1, y2⟩ := h1 x hx
                refine ⟨fun y => ?_, fun y => ?_⟩
                · refine (y1 y).keep ?_ ?_ (fun _ _ => rfl) (fun _ _ => rfl) (Nat.le_refl _) (Nat.le_refl _)
                  · show upd (S'.1 24) d (s1.1 42 0) x = _
                    rw [upd_ne z]
                  · show upd (S'.1 25) d (S'.1 42 0) x = _
                    rw [upd_ne z]
                · show upd (S'.1 24) d (s1.1 42 0) x = _ ∧ upd (S'.1 25) d (S'.1 42 0) x = _
                  rw [upd_ne z, upd_ne z]
                  exact y2 y
            · intro m hm
              exact g7 m hm
            · simp only [tu1, tu2, uu1, uu2, uu3, vu1, vu2, vu3, su1, su2, Nat.reduceEqDiff, false_and, true_and, reduceIte, Bool.false_eq_true, if_true, if_false] at g8
              simp only [tu1, tu2, uu1, uu2, uu3, vu1, vu2, vu3, su1, su2, Nat.reduceEqDiff, false_and, true_and, reduceIte, Bool.false_eq_true, if_true, if_false]
              exact g8
          · rw [if_neg cw] at hq
            cases hq
            have wl := wd4.2.2.2.1
            rw [if_neg (fun z => cw ((nI_eq (by omega) (by omega)).mp z))]
            have zs : ∃ S2, fn_M_fail N 30 (nI (pl (t + 1 + 1))) S' = some ((), S2) ∧ Zs (A.1 46 0) s1 s1 la nc S2 30 (pl (t + 2)) 21000 := by
              unfold fn_M_fail
              rw [if_pos b9.nine]
              obtain ⟨g1, g2, g3, -⟩ := b9
              obtain ⟨h1, h2, h3, h4, h5, h6, h7, h8', h9', h10, h11, h12, h13⟩ := g2
              have ps := Ps.start (m := A.1 46 0) (C0 := A.1 47 0) (s0 := s3) (s := s3) Eb.rfl D3.2.1 D3.2.2.2.2.2.2.2
              refine ⟨_, rfl, zup _ _ _ _ ⟨((SE.toSE2 a2).upI (by decide)).upI (by decide), ?_, by decide, rfl, t1, la + L.length, nc', ⟨rfl, by decide, h3, h4, h5, h6, h7, h8', h9', h10, h11, h12, h13⟩, by omega, ?_, ?_, by omega, b7⟩⟩
              · obtain ⟨v2, S2, q1, q2, q3, -⟩ := ps.exp T (SM2_of hN hnt hS D3.1 (by omega) hW D3.2.2.2.1 D3.2.2.2.2.2.2.1) hN hN0 (fun i hi => (hV i).2 hi) (dNm_w hW) D3.2.2.1 (dX_in ex).1
                rw [a1] at q1
                cases q1
                exact ⟨q3.1, q3.2.1, q3.2.2.1, q3.2.2.2.1, q3.2.2.2.2⟩
              · have := g3.2.2.1; omega
              · have := g3.2.2.2.1; omega
            obtain ⟨S2, y1, y2⟩ := zs
            rw [y1, obind]
            dsimp only
            obtain ⟨s', p1, p2⟩ := z137 S2 (s1.1 42 0) 30 (pl (t + 2)) 21000 y2 (by omega)
            exact ⟨s', p1, fun f p z => (by cases z; exact p2), fun _ _ z => (by cases z)⟩
      · rw [if_pos c4] at hq
        cases hq
        rw [if_neg (show ¬ nI (A.1 4 d) = 0 from fun z => c4 ((nI_eq (b := 0) (by have := wd4.2.2.2.2.2.1; omega) (by omega)).mp z)), D1.eight, if_neg (nI_in (show t + 1 < 65540 by omega) (by decide)), nI_clamp (by omega), five hS D1.1 (by omega)]
        obtain ⟨S2, y1, y2, y3⟩ := (Ps.start (m := A.1 46 0) (C0 := A.1 47 0) (s0 := s1) (s := s1) Eb.rfl D1.2.1 D1.2.2.2.2.2.2.2).fail (N := N) (w := 31) (p := pl (t + 1)) (b := 21000) (by decide) (by have := D1.2.2.1; unfold Bd at this; omega)
        rw [show fn_M_fail N 31 (nI (pl (t + 1))) s1 = some ((), S2) from y1, obind]
        dsimp only
        unfold bk_M_assign_71
        have e8 : S2.1 8 0 = nI (t + 1) := by rw [y3.1 8 (by decide)]; exact D1.eight
        rw [e8, nI_1, if_neg (nI_in (show t + 1 + 1 < 65540 by omega) (by decide)), nI_clamp (by omega), nI_1]
        have y4 := (y2.tset (x := nI (t + 1 + 1)) (t' := t + 1 + 1) rfl (by omega) (by omega)).tset (x := nI (t + 1 + 1 + 1)) (t' := t + 1 + 1 + 1) rfl (by omega) (by omega)
        obtain ⟨v, S3, x1, x2, -⟩ := y4.exp (SM2_of hN hnt hS D1.1 (by omega) hW D1.2.2.2.1 D1.2.2.2.2.2.2.1) hN (by omega)
        rw [x1, obind]
        dsimp only
        obtain ⟨s', p1, p2⟩ := z110 S3 (S2.1 5 (t + 1 + 1)) (S2.1 42 0) v 31 (pl (t + 1)) 21000 x2 (by omega)
        exact ⟨s', p1, fun f p z => (by cases z; exact p2), fun _ _ z => (by cases z)⟩
/-- rows of what is told next -/
theorem DM.pre {u : Nat} (h : DM nt s0 A t la nc s) (e : Eb [8, 36, 39] [] s s') (h36 : ∀ a, a < A.1 43 0 → s'.1 36 a = s.1 36 a) (h39 : ∀ a, a < A.1 44 0 → s'.1 39 a = s.1 39 a) (h8 : s'.1 8 0 = nI u) (hu : t ≤ u) (hu2 : u ≤ nt + 1) (hnt : nt ≤ 12001) : DM nt s0 A u la nc s' := by
  obtain ⟨g1, g2, ⟨b1, b2, b3, b4, b5⟩, g4, g5, g6, g7, g8⟩ := h
  refine ⟨g1.trans (e.mono (by decide) (by decide)), ?_, ⟨hu2, b2, by omega, by omega, by omega⟩, g4.keep e (by decide) (by decide) (fun k _ => by rw [e.2 45 (by decide)]), g5.keep e (by decide), ?_, g7.keep e (by decide), by rw [e.2 45 (by decide)]; exact g8⟩
  · obtain ⟨h1, h2, h3, h4, h5, h6, h7, h8', h9, h10, h11, h12, h13⟩ := g2
    refine ⟨by rw [e.1 9 (by decide)]; exact h1, h2, h8, by omega, by rw [e.1 42 (by decide)]; exact h5, h6, by rw [e.1 44 (by decide)]; exact h7, h8', by rw [e.1 53 (by decide)]; exact h9, h10, by rw [e.1 51 (by decide)]; exact h11, h12, ?_⟩
    unfold Ln
    rw [e.1 91 (by decide), e.1 92 (by decide)]
    exact h13
  · obtain ⟨h1, h2, h3, h4⟩ := g6
    have e41 : ∀ k, k < 3 * la → s'.1 41 k = s.1 41 k := fun k _ => by rw [e.1 41 (by decide)]
    have e43 : ∀ k, k < nc → s'.2 43 k = s.2 43 k := fun k _ => by rw [e.2 43 (by decide)]
    refine ⟨fun d hd => ⟨fun z => ((h1 d hd).1 z).keep (by rw [e.1 24 (by decide)]) (by rw [e.1 25 (by decide)]) e41 e43 (Nat.le_refl _) (Nat.le_refl _), by rw [e.1 24 (by decide), e.1 25 (by decide)]; exact (h1 d hd).2⟩, fun k hk => (h2 k hk).keep (by rw [e.1 33 (by decide)]) (by rw [e.1 34 (by decide)]) e41 e43 (Nat.le_refl _) (Nat.le_refl _), fun a ha => (h3 a ha).keep (h36 a ha) (by rw [e.1 37 (by decide)]) e41 e43 (Nat.le_refl _) (Nat.le_refl _), fun a ha => ?_⟩
    obtain ⟨x, y, a1, a2, a3, a4, a5⟩ := h4 a ha
    exact ⟨x, y, by rw [h39 a ha]; exact a1, by rw [e.1 40 (by decide)]; exact a2, a3, a4, a5.1.mono (fun k k1 k2 => e41 k (by omega)) e43 (Nat.le_refl _), a5.2⟩
theorem assert_M (hN : 13002 < N) (hN0 : N = N0 + 1) (T : Tv tk pl nt) (hS : SD tk pl vl wi wd nt N s0) (hV : Vb tk vl wi) (hW : WF tk nt A t) (h : DM nt s0 A t la nc s) (ht : t < nt) : Dx 45000 nt s0 (if ((s.1 35 0) < 0 ∨ 6600 ≤ Int32.toNatClampNeg ((s.1 35 0))) then none else (fn_M_exp N (upI (upI s 8 (fun _ => ((s.1 8 0) + 2))) 36 (upd (s.1 36) (Int32.toNatClampNeg ((s.1 35 0))) ((s.1 42 0))))).bind (fun q_17 => bk_M_item_195 N q_17.1 q_17.2)) (dAssert tk pl vl wi wd nt N0 t A) := by
  have hnt := T.2.1
  intro q hq
  unfold dAssert at hq
  by_cases c0 : nt ≤ t + 2
  · rw [if_pos c0] at hq; cases hq
  rw [if_neg c0] at hq
  have cnt := hW.1
  have e35 : s.1 35 0 = nI (A.1 43 0) := h.2.2.2.1.1.2.2.2.2.1
  have e42 : s.1 42 0 = nI (3 * la) := h.2.1.2.2.2.2.1
  rw [e35, if_neg (nI_in (show A.1 43 0 < 6600 by omega) (by decide)), nI_clamp (by omega), h.eight, lit_nI 2, nI_add, e42]
  have e1 : Eb [8, 36, 39] [] s (upI (upI s 8 (fun _ => nI (t + 2))) 36 (upd (s.1 36) (A.1 43 0) (nI (3 * la)))) := (Eb.rfl.upI (by decide)).upI (by decide)
  have D1 : DM nt s0 A (t + 2) la nc (upI (upI s 8 (fun _ => nI (t + 2))) 36 (upd (s.1 36) (A.1 43 0) (nI (3 * la)))) := h.pre e1 (fun a ha => by show upd (s.1 36) (A.1 43 0) (nI (3 * la)) a = _; rw [upd_ne (by omega)]) (fun a _ => rfl) rfl (by omega) (by omega) hnt
  have r36 : (upI (upI s 8 (fun _ => nI (t + 2))) 36 (upd (s.1 36) (A.1 43 0) (nI (3 * la)))).1 36 (A.1 43 0) = nI (3 * la) := upd_at _ _ _
  generalize upI (upI s 8 (fun _ => nI (t + 2))) 36 (upd (s.1 36) (A.1 43 0) (nI (3 * la))) = s1 at *
  have f195 : ∀ (σ : ms) (x : Int32) (m : Nat), σ.1 12 0 = nI m → m < 3600 → σ.1 35 0 = nI (A.1 43 0) → bk_M_item_195 N x σ = some ((), upI (upI (upI (upJ σ 45 (vp_updL (σ.2 45) m (σ.2 45 m + Int32.toInt64 x))) 37 (upd (σ.1 37) (A.1 43 0) (σ.1 42 0))) 35 (fun _ => nI (A.1 43 0 + 1))) 8 (fun _ => σ.1 8 0 + 2)) := fun σ x m h1 h2 h3 => by
    unfold bk_M_item_195 bk_M_item_239
    rw [cost_M h1 h2, obind]
    have h3' : (upJ σ 45 (vp_updL (σ.2 45) m (σ.2 45 m + Int32.toInt64 x))).1 35 0 = nI (A.1 43 0) := h3
    dsimp only
    rw [h3', if_neg (nI_in (show A.1 43 0 < 6600 by omega) (by decide)), nI_clamp (by omega), nI_1]
    rfl
  match ex : dX tk pl vl wi wd nt N0 A (t + 2) with
  | none => rw [ex] at hq; cases hq
  | some (.inl (f, p)) =>
    rw [ex] at hq
    cases hq
    obtain ⟨v, S', a1, a2, a3, -⟩ := D1.exp hN hN0 T hS hV hW (by omega) ex
    rw [a1, obind]
    dsimp only
    obtain ⟨b1, b2, b3, b4, x, la', nc', b5, b6, -⟩ := a3 f p rfl
    rw [f195 S' v (A.1 46 0) (by rw [b1.1 12 (by decide)]; exact D1.2.2.2.1.1.1) (by omega) (by rw [b1.1 35 (by decide)]; exact D1.2.2.2.1.1.2.2.2.2.1)]
    refine ⟨_, rfl, fun f p z => ?_, fun _ _ z => (by cases z)⟩
    cases z
    generalize hs2 : upI (upI (upI (upJ S' 45 (vp_updL (S'.2 45) (A.1 46 0) (S'.2 45 (A.1 46 0) + Int32.toInt64 v))) 37 (upd (S'.1 37) (A.1 43 0) (S'.1 42 0))) 35 (fun _ => nI (A.1 43 0 + 1))) 8 (fun _ => S'.1 8 0 + 2) = s2
    have e2 : Eb [8, 9, 10, 26, 35, 37, 41, 42, 44, 49, 50, 51, 52, 53, 87, 91, 92] [43, 45] s1 s2 := by rw [← hs2]; exact ((((b1.mono (by decide) (by decide)).upJ (by decide)).upI (by decide)).upI (by decide)).upI (by decide)
    exact Zd.mk (x := x + 2) (dc := A.1 40 0) (it := A.1 41 0) hW (by omega) hnt D1 (e2.mono (by decide) (by decide)) b3 ⟨b5.2.1, by rw [← hs2]; exact b5.lk⟩ (by rw [← hs2]; exact b5.1) (by rw [← hs2]; exact b4) (by rw [← hs2]; show S'.1 8 0 + 2 = _; rw [b5.2.2.1, lit_nI 2, nI_add]) (by omega) (e2.1 12 (by decide)) (e2.1 14 (by decide)) (e2.1 15 (by decide)) (by rw [e2.1 18 (by decide)]; exact D1.2.2.2.1.1.2.1) (Nat.le_refl _) (by omega) (by rw [e2.1 27 (by decide)]; exact D1.2.2.2.1.1.2.2.1) (Nat.le_refl _) (by omega) (by rw [e2.1 28 (by decide)]; exact D1.i28 hW (by omega) hnt)
  | some (.inr (w, t1, L, C)) =>
    rw [ex] at hq
    cases hq
    obtain ⟨v, S', a1, a2, -, a4⟩ := D1.exp hN hN0 T hS hV hW (by omega) ex
    obtain ⟨b1, b2, b3, b4, b5, b6, nc', b7, b8, b9, b10⟩ := a4 _ _ _ _ rfl
    rw [a1, obind]
    dsimp only
    obtain ⟨g1, g2, g3, g4, g5, g6, g7, g8⟩ := b9
    have e8 : S'.1 8 0 = nI t1 := g2.2.2.1
    have e42' : S'.1 42 0 = nI (3 * (la + L.length)) := g2.2.2.2.2.1
    have r36' : S'.1 36 (A.1 43 0) = nI (3 * la) := by rw [a2.1 36 (by decide)]; exact r36
    rw [f195 S' v (A.1 46 0) (by rw [a2.1 12 (by decide)]; exact D1.2.2.2.1.1.1) (by omega) (by rw [a2.1 35 (by decide)]; exact D1.2.2.2.1.1.2.2.2.2.1), b1, i64nI (by omega), e8, lit_nI 2, nI_add, e42']
    refine ⟨_, rfl, fun _ _ z => (by cases z), fun t' A' z => ?_⟩
    cases z
    refine ⟨la + L.length, nc', ?_⟩
    have ee : Eb [8, 35, 37] [45] S' (upI (upI (upI (upJ S' 45 (vp_updL (S'.2 45) (A.1 46 0) (S'.2 45 (A.1 46 0) + lN w))) 37 (upd (S'.1 37) (A.1 43 0) (nI (3 * (la + L.length))))) 35 (fun _ => nI (A.1 43 0 + 1))) 8 (fun _ => nI (t1 + 2))) := (((Eb.rfl.upJ (by decide)).upI (by decide)).upI (by decide)).upI (by decide)
    refine ⟨g1.trans (ee.mono (by decide) (by decide)), ?_, ?_, ?_, ?_, ?_, ?_, ?_⟩
    · obtain ⟨h1, h2, h3, h4, h5⟩ := g2
      exact ⟨h1, h2, rfl, by omega, h5⟩
    · obtain ⟨j1, j2, j3, j4, j5⟩ := g3
      simp only [tu1, tu2, uu1, uu2, uu3, vu1, vu2, vu3, su1, su2, Nat.reduceEqDiff, false_and, true_and, reduceIte, Bool.false_eq_true, if_true, if_false] at j5
      unfold dAss
      simp only [tu1, tu2, uu1, uu2, uu3, vu1, vu2, vu3, su1, su2, Nat.reduceEqDiff, false_and, true_and, reduceIte, Bool.false_eq_true, if_true, if_false]
      exact ⟨by omega, j2, by omega, by omega, by omega⟩
    · obtain ⟨⟨y1, y2, y3, y4, y5, y6⟩, h2, h3, h4, h5, h6⟩ := g4
      simp only [tu1, tu2, uu1, uu2, uu3, vu1, vu2, vu3, su1, su2, Nat.reduceEqDiff, false_and, true_and, reduceIte, Bool.false_eq_true, if_true, if_false] at y1 y2 y3 y4 y5 y6 h2 h3 h4 h5 h6
      unfold Dtb dAss
      simp only [tu1, tu2, uu1, uu2, uu3, vu1, vu2, vu3, su1, su2, Nat.reduceEqDiff, false_and, true_and, reduceIte, Bool.false_eq_true, if_true, if_false]
      refine ⟨⟨y1, y2, y3, y4, rfl, y6⟩, h2, h3, h4, h5, fun m hm => ?_⟩
      obtain ⟨c1, c2, c3⟩ := h6 m hm
      refine ⟨c1, ?_, c3⟩
      show vp_updL (S'.2 45) (A.1 46 0) (S'.2 45 (A.1 46 0) + lN w) m = _
      rw [updL_ne (by omega)]; exact c2
    · unfold Dset dAss at *
      simp only [tu1, tu2, uu1, uu2, uu3, vu1, vu2, vu3, su1, su2, Nat.reduceEqDiff, false_and, true_and, reduceIte, Bool.false_eq_true, if_true, if_false] at g5
      simp only [tu1, tu2, uu1, uu2, uu3, vu1, vu2, vu3, su1, su2, Nat.reduceEqDiff, false_and, true_and, reduceIte, Bool.false_eq_true, if_true, if_false]
      exact g5
    · obtain ⟨h1, h2, h3, h4⟩ := g6
      simp only [tu1, tu2, uu1, uu2, uu3, vu1, vu2, vu3, su1, su2, Nat.reduceEqDiff, false_and, true_and, reduceIte, Bool.false_eq_true, if_true, if_false] at h1 h2 h3 h4
      unfold Dcd dAss
      simp only [tu1, tu2, uu1, uu2, uu3, vu1, vu2, vu3, su1, su2, Nat.reduceEqDiff, false_and, true_and, reduceIte, Bool.false_eq_true, if_true, if_false]
      refine ⟨h1, h2, fun a ha => ?_, h4⟩
      by_cases z : a = A.1 43 0
      · subst z
        simp only [reduceIte]
        refine ⟨la, r36', ?_, Nat.le_refl _, b10⟩
        show upd (S'.1 37) (A.1 43 0) (nI (3 * (la + L.length))) (A.1 43 0) = _
        rw [upd_at]
      · simp only [z, reduceIte]
        refine (h3 a (by omega)).keep rfl ?_ (fun _ _ => rfl) (fun _ _ => rfl) (Nat.le_refl _) (Nat.le_refl _)
        show upd (S'.1 37) (A.1 43 0) (nI (3 * (la + L.length))) a = _
        rw [upd_ne z]
    · intro m hm
      exact g7 m hm
    · simp only [tu1, tu2, uu1, uu2, uu3, vu1, vu2, vu3, su1, su2, Nat.reduceEqDiff, false_and, true_and, reduceIte, Bool.false_eq_true, if_true, if_false] at g8
      unfold dAss
      simp only [tu1, tu2, uu1, uu2, uu3, vu1, vu2, vu3, su1, su2, Nat.reduceEqDiff, false_and, true_and, reduceIte, Bool.false_eq_true, if_true, if_false]
      show vp_updL (S'.2 45) (A.1 46 0) (S'.2 45 (A.1 46 0) + lN w) (A.1 46 0) = _
      rw [updL_at, g8, lN_add]
      congr 1
      omega
end MITM
