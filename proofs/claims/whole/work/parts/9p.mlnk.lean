/-! The reference: links. -/
abbrev LKE (s s' : ms) : Prop := Eb [8, 9, 10, 23, 24, 25, 26, 31, 32, 33, 34, 41, 42, 44, 49, 50, 51, 52, 53, 87, 91, 92] [43, 45] s s'
def Zk (s s' : ms) (f p : Nat) : Prop := LKE s s' ∧ 0 < f ∧ (f < 100 ∧ Lk s') ∧ s'.1 9 0 = nI f ∧ s'.1 10 0 = nI p ∧ ∃ x, x < 39000 ∧ s'.1 8 0 = nI x
section MLNK
variable {tk pl vl wi wd : Nat → Nat} {nt N N0 : Nat} {s0 s s' : ms} {A : ds} {t la nc : Nat}
theorem Zk.nine {f p : Nat} (h : Zk s s' f p) : ¬ s'.1 9 0 = 0 := by
  rw [h.2.2.2.1]; exact nI_ne0 h.2.1 (by have := h.2.2.1; omega)
theorem f261_0 {lk : Nat} {x3 x5 x8 : Int32} {σ : ms} (h31 : σ.1 31 0 = nI lk) (hl : lk < 11000) : bk_M_link_261 N x3 x5 0 x8 σ = some ((), upI (upI (upI (upI (upI σ 32 (upd (σ.1 32) lk x3)) 33 (upd (σ.1 33) lk x5)) 34 (upd (σ.1 34) lk (σ.1 42 0))) 31 (fun _ => nI (lk + 1))) 8 (fun _ => σ.1 8 0 + 1)) := by
  unfold bk_M_link_261 bk_M_link_337
  rw [h31, if_neg (nI_in hl (by decide)), if_neg (nI_in hl (by decide)), if_neg (nI_in hl (by decide)), if_pos rfl, nI_clamp (by omega), nI_1]
  rfl
theorem f261_1 {lk d : Nat} {x3 x5 : Int32} {σ : ms} (h31 : σ.1 31 0 = nI lk) (hl : lk < 11000) (hd : d < 11000) : bk_M_link_261 N x3 x5 1 (nI d) σ = some ((), upI (upI (upI (upI (upI (upI (upI (upI σ 32 (upd (σ.1 32) lk x3)) 33 (upd (σ.1 33) lk x5)) 34 (upd (σ.1 34) lk (σ.1 42 0))) 31 (fun _ => nI (lk + 1))) 23 (upd (σ.1 23) d 2)) 24 (upd (σ.1 24) d (σ.1 27 0))) 25 (upd (σ.1 25) d x3)) 8 (fun _ => σ.1 8 0 + 1)) := by
  unfold bk_M_link_261 bk_M_link_337
  rw [h31, if_neg (nI_in hl (by decide)), if_neg (nI_in hl (by decide)), if_neg (nI_in hl (by decide)), if_neg (by decide), if_neg (nI_in hd (by decide)), if_neg (nI_in hd (by decide)), if_neg (nI_in hd (by decide)), nI_clamp (by omega), nI_clamp (by omega), nI_1]
  rfl
/-- a link's rows, behind an exp -/
theorem DM.li {p C : Nat} {L : List aop} {nc' t1 : Nat} (h : DM nt s0 (tu A 47 0 (A.1 47 0 + C)) t1 (la + L.length) nc' s) (hE : rEnc (s.1 41) (s.2 43) nc' la L) (ht : t1 + 1 ≤ nt + 1) (hnt : nt ≤ 12001) : DM nt s0 (dLi A p L C) (t1 + 1) (la + L.length) nc' (upI (upI (upI (upI (upI s 32 (upd (s.1 32) (A.1 42 0) (nI p))) 33 (upd (s.1 33) (A.1 42 0) (nI (3 * la)))) 34 (upd (s.1 34) (A.1 42 0) (s.1 42 0))) 31 (fun _ => nI (A.1 42 0 + 1))) 8 (fun _ => s.1 8 0 + 1)) := by
  obtain ⟨g1, g2, g3, g4, g5, g6, g7, g8⟩ := h
  have e8 : s.1 8 0 = nI t1 := g2.2.2.1
  have e42 : s.1 42 0 = nI (3 * (la + L.length)) := g2.2.2.2.2.1
  have ee : Eb [8, 31, 32, 33, 34] [] s (upI (upI (upI (upI (upI s 32 (upd (s.1 32) (A.1 42 0) (nI p))) 33 (upd (s.1 33) (A.1 42 0) (nI (3 * la)))) 34 (upd (s.1 34) (A.1 42 0) (s.1 42 0))) 31 (fun _ => nI (A.1 42 0 + 1))) 8 (fun _ => s.1 8 0 + 1)) := ((((Eb.rfl.upI (by decide)).upI (by decide)).upI (by decide)).upI (by decide)).upI (by decide)
  refine ⟨g1.trans (ee.mono (by decide) (by decide)), ?_, ?_, ?_, ?_, ?_, ?_, ?_⟩
  · obtain ⟨h1, h2, h3, h4, h5⟩ := g2
    exact ⟨h1, h2, by show s.1 8 0 + 1 = _; rw [e8, nI_1], by omega, h5⟩
  · obtain ⟨j1, j2, j3, j4, j5⟩ := g3
    simp only [tu1, tu2, uu1, uu2, uu3, vu1, vu2, vu3, su1, su2, Nat.reduceEqDiff, false_and, true_and, reduceIte, Bool.false_eq_true, if_true, if_false] at j5
    unfold dLi
    simp only [tu1, tu2, uu1, uu2, uu3, vu1, vu2, vu3, su1, su2, Nat.reduceEqDiff, false_and, true_and, reduceIte, Bool.false_eq_true, if_true, if_false]
    exact ⟨ht, j2, by omega, by omega, by omega⟩
  · obtain ⟨⟨y1, y2, y3, y4, y5, y6⟩, h2, h3, h4, h5, h6⟩ := g4
    simp only [tu1, tu2, uu1, uu2, uu3, vu1, vu2, vu3, su1, su2, Nat.reduceEqDiff, false_and, true_and, reduceIte, Bool.false_eq_true, if_true, if_false] at y1 y2 y3 y4 y5 y6 h2 h3 h4 h5 h6
    unfold Dtb dLi
    simp only [tu1, tu2, uu1, uu2, uu3, vu1, vu2, vu3, su1, su2, Nat.reduceEqDiff, false_and, true_and, reduceIte, Bool.false_eq_true, if_true, if_false]
    refine ⟨⟨y1, y2, y3, rfl, y5, y6⟩, h2, h3, h4, fun k hk => ?_, h6⟩
    show upd (s.1 32) (A.1 42 0) (nI p) k = _
    by_cases z : k = A.1 42 0
    · rw [z, upd_at, if_pos rfl]
    · rw [upd_ne z, if_neg z]; exact h5 k (by omega)
  · unfold Dset dLi at *
    simp only [tu1, tu2, uu1, uu2, uu3, vu1, vu2, vu3, su1, su2, Nat.reduceEqDiff, false_and, true_and, reduceIte, Bool.false_eq_true, if_true, if_false] at g5
    simp only [tu1, tu2, uu1, uu2, uu3, vu1, vu2, vu3, su1, su2, Nat.reduceEqDiff, false_and, true_and, reduceIte, Bool.false_eq_true, if_true, if_false]
    exact g5
  · obtain ⟨h1, h2, h3, h4⟩ := g6
    simp only [tu1, tu2, uu1, uu2, uu3, vu1, vu2, vu3, su1, su2, Nat.reduceEqDiff, false_and, true_and, reduceIte, Bool.false_eq_true, if_true, if_false] at h1 h2 h3 h4
    unfold Dcd dLi
    simp only [tu1, tu2, uu1, uu2, uu3, vu1, vu2, vu3, su1, su2, Nat.reduceEqDiff, false_and, true_and, reduceIte, Bool.false_eq_true, if_true, if_false]
    refine ⟨h1, fun k hk => ?_, h3, h4⟩
    by_cases z : k = A.1 42 0
    · subst z
      simp only [reduceIte]
      refine ⟨la, ?_, ?_, Nat.le_refl _, hE⟩
      · show upd (s.1 33) (A.1 42 0) (nI (3 * la)) (A.1 42 0) = _
        rw [upd_at]
      · show upd (s.1 34) (A.1 42 0) (s.1 42 0) (A.1 42 0) = _
        rw [upd_at, e42]
    · simp only [z, reduceIte]
      refine (h2 k (by omega)).keep ?_ ?_ (fun _ _ => rfl) (fun _ _ => rfl) (Nat.le_refl _) (Nat.le_refl _)
      · show upd (s.1 33) (A.1 42 0) (nI (3 * la)) k = _
        rw [upd_ne z]
      · show upd (s.1 34) (A.1 42 0) (s.1 42 0) k = _
        rw [upd_ne z]
  · intro m hm
    exact g7 m hm
  · simp only [tu1, tu2, uu1, uu2, uu3, vu1, vu2, vu3, su1, su2, Nat.reduceEqDiff, false_and, true_and, reduceIte, Bool.false_eq_true, if_true, if_false] at g8
    unfold dLi
    simp only [tu1, tu2, uu1, uu2, uu3, vu1, vu2, vu3, su1, su2, Nat.reduceEqDiff, false_and, true_and, reduceIte, Bool.false_eq_true, if_true, if_false]
    exact g8
theorem DM.lo {p C d : Nat} {L : List aop} {nc' t1 : Nat} (h : DM nt s0 (tu A 47 0 (A.1 47 0 + C)) t1 (la + L.length) nc' s) (hE : rEnc (s.1 41) (s.2 43) nc' la L) (ht : t1 + 1 ≤ nt + 1) (hnt : nt ≤ 12001) : DM nt s0 (dLo A p d L C) (t1 + 1) (la + L.length) nc' (upI (upI (upI (upI (upI (upI (upI (upI s 32 (upd (s.1 32) (A.1 42 0) (nI p))) 33 (upd (s.1 33) (A.1 42 0) (nI (3 * la)))) 34 (upd (s.1 34) (A.1 42 0) (s.1 42 0))) 31 (fun _ => nI (A.1 42 0 + 1))) 23 (upd (s.1 23) d 2)) 24 (upd (s.1 24) d (s.1 27 0))) 25 (upd (s.1 25) d (nI p))) 8 (fun _ => s.1 8 0 + 1)) := by
  obtain ⟨g1, g2, g3, g4, g5, g6, g7, g8⟩ := h
  have e8 : s.1 8 0 = nI t1 := g2.2.2.1
  have e42 : s.1 42 0 = nI (3 * (la + L.length)) := g2.2.2.2.2.1
  have ee : Eb [8, 23, 24, 25, 31, 32, 33, 34] [] s (upI (upI (upI (upI (upI (upI (upI (upI s 32 (upd (s.1 32) (A.1 42 0) (nI p))) 33 (upd (s.1 33) (A.1 42 0) (nI (3 * la)))) 34 (upd (s.1 34) (A.1 42 0) (s.1 42 0))) 31 (fun _ => nI (A.1 42 0 + 1))) 23 (upd (s.1 23) d 2)) 24 (upd (s.1 24) d (s.1 27 0))) 25 (upd (s.1 25) d (nI p))) 8 (fun _ => s.1 8 0 + 1)) := (((((((Eb.rfl.upI (by decide)).upI (by decide)).upI (by decide)).upI (by decide)).upI (by decide)).upI (by decide)).upI (by decide)).upI (by decide)
  refine ⟨g1.trans (ee.mono (by decide) (by decide)), ?_, ?_, ?_, ?_, ?_, ?_, ?_⟩
  · obtain ⟨h1, h2, h3, h4, h5⟩ := g2
    exact ⟨h1, h2, by show s.1 8 0 + 1 = _; rw [e8, nI_1], by omega, h5⟩
  · obtain ⟨j1, j2, j3, j4, j5⟩ := g3
    simp only [tu1, tu2, uu1, uu2, uu3, vu1, vu2, vu3, su1, su2, Nat.reduceEqDiff, false_and, true_and, reduceIte, Bool.false_eq_true, if_true, if_false] at j5
    unfold dLo
    simp only [tu1, tu2, uu1, uu2, uu3, vu1, vu2, vu3, su1, su2, Nat.reduceEqDiff, false_and, true_and, reduceIte, Bool.false_eq_true, if_true, if_false]
    exact ⟨ht, j2, by omega, by omega, by omega⟩
  · obtain ⟨⟨y1, y2, y3, y4, y5, y6⟩, h2, h3, h4, h5, h6⟩ := g4
    simp only [tu1, tu2, uu1, uu2, uu3, vu1, vu2, vu3, su1, su2, Nat.reduceEqDiff, false_and, true_and, reduceIte, Bool.false_eq_true, if_true, if_false] at y1 y2 y3 y4 y5 y6 h2 h3 h4 h5 h6
    unfold Dtb dLo
    simp only [tu1, tu2, uu1, uu2, uu3, vu1, vu2, vu3, su1, su2, Nat.reduceEqDiff, false_and, true_and, reduceIte, Bool.false_eq_true, if_true, if_false]
    refine ⟨⟨y1, y2, y3, rfl, y5, y6⟩, fun x hx => ?_, h3, h4, fun k hk => ?_, h6⟩
    · obtain ⟨c1, c2, c3, c4, c5⟩ := h2 x hx
      refine ⟨c1, c2, c3, c4, ?_⟩
      show upd (s.1 23) d 2 x = _
      by_cases z : x = d
      · rw [z, upd_at, if_pos rfl]; rfl
      · rw [upd_ne z, if_neg z]; exact c5
    · show upd (s.1 32) (A.1 42 0) (nI p) k = _
      by_cases z : k = A.1 42 0
      · rw [z, upd_at, if_pos rfl]
      · rw [upd_ne z, if_neg z]; exact h5 k (by omega)
  · unfold Dset dLo at *
    simp only [tu1, tu2, uu1, uu2, uu3, vu1, vu2, vu3, su1, su2, Nat.reduceEqDiff, false_and, true_and, reduceIte, Bool.false_eq_true, if_true, if_false] at g5
    simp only [tu1, tu2, uu1, uu2, uu3, vu1, vu2, vu3, su1, su2, Nat.reduceEqDiff, false_and, true_and, reduceIte, Bool.false_eq_true, if_true, if_false]
    exact g5
  · obtain ⟨h1, h2, h3, h4⟩ := g6
    have e27 : s.1 27 0 = nI (A.1 41 0) := by
      have := g4.1.2.2.1
      simp only [tu1, tu2, uu1, uu2, uu3, vu1, vu2, vu3, su1, su2, Nat.reduceEqDiff, false_and, true_and, reduceIte, Bool.false_eq_true, if_true, if_false] at this
      exact this
    simp only [tu1, tu2, uu1, uu2, uu3, vu1, vu2, vu3, su1, su2, Nat.reduceEqDiff, false_and, true_and, reduceIte, Bool.false_eq_true, if_true, if_false] at h1 h2 h3 h4
    unfold Dcd dLo
    simp only [tu1, tu2, uu1, uu2, uu3, vu1, vu2, vu3, su1, su2, Nat.reduceEqDiff, false_and, true_and, reduceIte, Bool.false_eq_true, if_true, if_false]
    refine ⟨fun x hx => ?_, fun k hk => ?_, h3, h4⟩
    · show (_ → RL _ _ _ _ _ _ _) ∧ (_ → upd (s.1 24) d (s.1 27 0) x = _ ∧ upd (s.1 25) d (nI p) x = _)
      by_cases z : x = d
      · subst z
        simp only [reduceIte]
        refine ⟨fun y => absurd y (by omega), fun _ => ?_⟩
        rw [upd_at, upd_at, e27]
        exact ⟨rfl, rfl⟩
      · simp only [z, reduceIte]
        obtain ⟨y1, y2⟩ := h1 x hx
        refine ⟨fun y => ?_, fun y => ?_⟩
        · refine (y1 y).keep ?_ ?_ (fun _ _ => rfl) (fun _ _ => rfl) (Nat.le_refl _) (Nat.le_refl _)
          · show upd (s.1 24) d (s.1 27 0) x = _
            rw [upd_ne z]
          · show upd (s.1 25) d (nI p) x = _
            rw [upd_ne z]
        · rw [upd_ne z, upd_ne z]
          exact y2 y
    · by_cases z : k = A.1 42 0
      · subst z
        simp only [reduceIte]
        refine ⟨la, ?_, ?_, Nat.le_refl _, hE⟩
        · show upd (s.1 33) (A.1 42 0) (nI (3 * la)) (A.1 42 0) = _
          rw [upd_at]
        · show upd (s.1 34) (A.1 42 0) (s.1 42 0) (A.1 42 0) = _
          rw [upd_at, e42]
      · simp only [z, reduceIte]
        refine (h2 k (by omega)).keep ?_ ?_ (fun _ _ => rfl) (fun _ _ => rfl) (Nat.le_refl _) (Nat.le_refl _)
        · show upd (s.1 33) (A.1 42 0) (nI (3 * la)) k = _
          rw [upd_ne z]
        · show upd (s.1 34) (A.1 42 0) (s.1 42 0) k = _
          rw [upd_ne z]
  · intro m hm
    exact g7 m hm
  · simp only [tu1, tu2, uu1, uu2, uu3, vu1, vu2, vu3, su1, su2, Nat.reduceEqDiff, false_and, true_and, reduceIte, Bool.false_eq_true, if_true, if_false] at g8
    unfold dLo
    simp only [tu1, tu2, uu1, uu2, uu3, vu1, vu2, vu3, su1, su2, Nat.reduceEqDiff, false_and, true_and, reduceIte, Bool.false_eq_true, if_true, if_false]
    exact g8
theorem link_M {m : Nat} (hN : 13002 < N) (hN0 : N = N0 + 1) (T : Tv tk pl nt) (hS : SD tk pl vl wi wd nt N s0) (hV : Vb tk vl wi) (hW : WF tk nt A t) (hm : m < A.1 46 0) (h : DM nt s0 A t la nc s) (ht : t < nt) : ∀ q, dLink tk pl vl wi wd nt N0 m t A = some q → ∃ s', fn_M_link N (nI m) s = some ((), s') ∧ (∀ f p, q = .inl (f, p) → Zk s s' f p) ∧ (∀ t' A', q = .inr (t', A') → LKE s s' ∧ ∃ la' nc', DM nt s0 A' t' la' nc' s') := by
  have hnt := T.2.1
  intro q hq
  unfold dLink at hq
  by_cases c0 : nt ≤ t + 3 ∨ tk (t + 1) ≠ 400
  · rw [if_pos c0] at hq; cases hq
  rw [if_neg c0] at hq
  have t3 : t + 3 < nt := by
    by_cases z : nt ≤ t + 3
    · exact absurd (Or.inl z) c0
    · omega
  have k4 : tk (t + 1) = 400 := by
    by_cases z : tk (t + 1) = 400
    · exact z
    · exact absurd (Or.inr z) c0
  have cnt := hW.1
  have f7 := h.2.2.2.2.2.2.1
  have w4 := hW.2.2.2.1 m hm
  have w3 := (hW.2.2.1 (m + 1) (by omega)).1
  unfold fn_M_link fn_M_signalNamed
  rw [h.eight, if_neg (nI_in (show t < 65540 by omega) (by decide)), if_neg (nI_in (show m < 3601 by omega) (by decide)), nI_1, if_neg (nI_in (show m + 1 < 3601 by omega) (by decide)), nI_clamp (by omega), nI_clamp (by omega), nI_clamp (by omega), (f7 m (by omega)).1, (f7 (m + 1) (by omega)).1, five hS h.1 ht, nI_1]
  have D1 : DM nt s0 A (t + 1) la nc (upI s 8 (fun _ => nI (t + 1))) := h.tset (Eb.rfl.upI (by decide)) rfl (by omega) (by omega) hnt
  have e1 : Eb [8] [] s (upI s 8 (fun _ => nI (t + 1))) := Eb.rfl.upI (by decide)
  generalize upI s 8 (fun _ => nI (t + 1)) = s1 at *
  rw [signalNamed_M (g := A.1 0) hS D1.1 (by omega) k4 (by omega) (A.1 21 (m + 1) - A.1 21 m) (A.1 21 m) N (by omega) (by omega) (fun d d1 d2 => ⟨(D1.2.2.2.1.2.1 d (by omega)).1, (hW.2.1 d (by omega)).1, (hW.2.1 d (by omega)).2.1⟩), obind]
  dsimp only
  have e23 : ∃ s', bk_M_link_73 N s1 = some ((), s') ∧ Zk s s' 23 (pl (t + 1)) := by
    unfold bk_M_link_73 fn_M_fail
    rw [D1.eight, if_neg (nI_in (show t + 1 < 65540 by omega) (by decide)), nI_clamp (by omega), five hS D1.1 (by omega), if_pos D1.nine, obind]
    exact ⟨_, rfl, ((e1.mono (by decide) (by decide)).upI (by decide)).upI (by decide), by decide, ⟨by decide, D1.2.1.lk⟩, rfl, rfl, t + 1, by omega, D1.eight⟩
  have dp : dPrt wd A m (t + 1) = fnd (fun d => decide (wd (A.1 0 d) = wd (t + 1))) (A.1 21 (m + 1) - A.1 21 m) (A.1 21 m) := rfl
  rw [← dp]
  match er : dPrt wd A m (t + 1) with
  | none =>
    rw [er] at hq
    cases hq
    rw [if_pos (show oI none < 0 by decide)]
    obtain ⟨s', p1, p2⟩ := e23
    exact ⟨s', p1, fun f p z => (by cases z; exact p2), fun _ _ z => (by cases z)⟩
  | some p =>
    rw [er] at hq
    dsimp only at hq
    have hp := dPrt_in hW hm er
    have pl1 : p < 11000 := by omega
    have tb := D1.2.2.2.1.2.1 p hp.1
    have wp := hW.2.1 p hp.1
    show ∃ s', (if nI p < 0 then bk_M_link_73 N s1 else if (nI p < 0 ∨ 11000 ≤ Int32.toNatClampNeg (nI p)) then none else if 2 < s1.1 21 (Int32.toNatClampNeg (nI p)) then bk_M_link_73 N s1 else (fn_M_linkOf N (s1.1 27 0) (s1.1 31 0) (nI p) s1).bind (fun q_8 => if q_8.1 < 0 then ((fn_M_exp N (upI q_8.2 8 (fun _ => ((q_8.2.1 8 0) + 2)))).bind (fun q_11 => bk_M_link_115 N (nI (pl t)) (nI p) (((q_8.2.1 8 0) + 2)) ((q_8.2.1 42 0)) q_11.1 q_11.2)) else (bk_M_link_73 N q_8.2))) = _ ∧ _
    rw [if_neg (nI_pos (by omega)), if_neg (nI_in pl1 (by decide)), nI_clamp (by omega), tb.2.2.1]
    by_cases c1 : 2 < A.1 2 p
    · rw [if_pos (Or.inl c1)] at hq
      cases hq
      rw [if_pos (show (2 : Int32) < nI (A.1 2 p) from nI_lt (a := 2) c1 (by omega))]
      obtain ⟨s', p1, p2⟩ := e23
      exact ⟨s', p1, fun f p z => (by cases z; exact p2), fun _ _ z => (by cases z)⟩
    rw [if_neg (show ¬ (2 : Int32) < nI (A.1 2 p) from nI_nlt (a := 2) (b := A.1 2 p) (by omega) (by omega))]
    have e27 : s1.1 27 0 = nI (A.1 41 0) := D1.2.2.2.1.1.2.2.1
    have e31 : s1.1 31 0 = nI (A.1 42 0) := D1.2.2.2.1.1.2.2.2.1
    have w12 := hW.2.2.2.2.2.1 (A.1 41 0) (Nat.le_refl _)
    have lo : fn_M_linkOf N (s1.1 27 0) (s1.1 31 0) (nI p) s1 = some (oI (dLkd A p), s1) := by
      unfold fn_M_linkOf
      rw [e27, e31, if_neg (nI_in (show A.1 41 0 < 11001 by omega) (by decide)), nI_clamp (by omega), D1.2.2.2.1.2.2.2.1 (A.1 41 0) (Nat.le_refl _)]
      exact linkOf_M (g := A.1 13) (by omega) (by omega) (A.1 42 0 - A.1 12 (A.1 41 0)) (A.1 12 (A.1 41 0)) N (by omega) (by omega) (fun d d1 d2 => ⟨D1.2.2.2.1.2.2.2.2.1 d d2, by have := hW.2.2.2.2.2.2 d d2; omega⟩)
    rw [lo, obind]
    dsimp only
    have ll : ∀ d, dLkd A p = some d → d < 2 ^ 31 := fun d e => by
      have := (fnd_some e).2.1
      omega
    by_cases c2 : dLkd A p = none
    · rw [if_neg (fun z => by rcases z with z | z; exact c1 z; exact z c2)] at hq
      rw [if_pos ((oI_neg ll).mpr c2), D1.eight, lit_nI 2, nI_add]
      have D3 : DM nt s0 A (t + 3) la nc (upI s1 8 (fun _ => nI (t + 1 + 2))) := D1.tset (Eb.rfl.upI (by decide)) rfl (by omega) (by omega) hnt
      have e3 : Eb [8] [] s (upI s1 8 (fun _ => nI (t + 1 + 2))) := e1.upI (by decide)
      have l42 : s1.1 42 0 = nI (3 * la) := D1.2.1.2.2.2.2.1
      generalize upI s1 8 (fun _ => nI (t + 1 + 2)) = s3 at *
      match ex : dX tk pl vl wi wd nt N0 A (t + 3) with
      | none => rw [ex] at hq; cases hq
      | some (.inl (f, p)) =>
        rw [ex] at hq
        cases hq
        obtain ⟨v, S', a1, a2, a3, -⟩ := D3.exp hN hN0 T hS hV hW (by omega) ex
        obtain ⟨b1, b2, b3, b4, x, la', nc', b5, b6, -⟩ := a3 f p rfl
        rw [a1, obind]
        dsimp only
        unfold bk_M_link_115
        rw [if_neg (a3 f p rfl).nine]
        exact ⟨S', rfl, fun f p z => (by cases z; exact ⟨(e3.mono (by decide) (by decide)).trans (b1.mono (by decide) (by decide)), b3, ⟨b5.2.1, b5.lk⟩, b5.1, b4, x, by omega, b5.2.2.1⟩), fun _ _ z => (by cases z)⟩
      | some (.inr (w, t1, L, C)) =>
        rw [ex] at hq
        dsimp only at hq
        obtain ⟨v, S', a1, a2, -, a4⟩ := D3.exp hN hN0 T hS hV hW (by omega) ex
        obtain ⟨b1, b2, b3, b4, b5, b6, nc', b7, b8, b9, b10⟩ := a4 _ _ _ _ rfl
        rw [a1, obind]
        dsimp only
        have eS : LKE s S' := (e3.mono (by decide) (by decide)).trans (a2.mono (by decide) (by decide))
        have tbS : S'.1 20 p = nI (A.1 1 p) ∧ S'.1 21 p = nI (A.1 2 p) := by
          rw [a2.1 20 (by decide), a2.1 21 (by decide)]
          exact ⟨(D3.2.2.2.1.2.1 p hp.1).2.1, (D3.2.2.2.1.2.1 p hp.1).2.2.1⟩
        have S31 : S'.1 31 0 = nI (A.1 42 0) := by rw [a2.1 31 (by decide)]; exact D3.2.2.2.1.1.2.2.2.1
        have S8 : S'.1 8 0 = nI t1 := b9.eight
        have fl : ∀ (x : Nat) (pp : Nat), 0 < x → x < 100 → ∃ S2, fn_M_fail N (nI x) (nI pp) S' = some ((), S2) ∧ S2 = upI (upI S' 9 (fun _ => nI x)) 10 (fun _ => nI pp) := fun x pp _ _ => by
          unfold fn_M_fail
          rw [if_pos b9.nine]
          exact ⟨_, rfl, rfl⟩
        unfold bk_M_link_115
        rw [if_pos b9.nine, if_neg (nI_in pl1 (by decide)), nI_clamp (by omega), tbS.2, b1]
        -- a fault, and the rows all the same
        have z261 : ∀ (x : Nat) (pp : Nat) (x7 : Int32) (d : Nat), 0 < x → x < 100 → (x7 = 0 ∨ (x7 = 1 ∧ d < 11000)) → ∃ s', bk_M_link_261 N (nI p) (s1.1 42 0) x7 (nI d) (upI (upI S' 9 (fun _ => nI x)) 10 (fun _ => nI pp)) = some ((), s') ∧ Zk s s' x pp := fun x pp x7 d x0 x1 x2 => by
          have e' : LKE s (upI (upI S' 9 (fun _ => nI x)) 10 (fun _ => nI pp)) := (eS.upI (by decide)).upI (by decide)
          rcases x2 with rfl | ⟨rfl, hd⟩
          · rw [f261_0 (σ := upI (upI S' 9 (fun _ => nI x)) 10 (fun _ => nI pp)) S31 (by omega)]
            exact ⟨_, rfl, ((((e'.upI (by decide)).upI (by decide)).upI (by decide)).upI (by decide)).upI (by decide), x0, ⟨x1, b9.2.1.lk⟩, rfl, rfl, t1 + 1, by omega, by show S'.1 8 0 + 1 = _; rw [S8, nI_1]⟩
          · rw [f261_1 (σ := upI (upI S' 9 (fun _ => nI x)) 10 (fun _ => nI pp)) S31 (by omega) hd]
            exact ⟨_, rfl, (((((((e'.upI (by decide)).upI (by decide)).upI (by decide)).upI (by decide)).upI (by decide)).upI (by decide)).upI (by decide)).upI (by decide), x0, ⟨x1, b9.2.1.lk⟩, rfl, rfl, t1 + 1, by omega, by show S'.1 8 0 + 1 = _; rw [S8, nI_1]⟩
        by_cases c3 : A.1 2 p = 0
        · rw [if_pos c3] at hq
          rw [if_pos (show nI (A.1 2 p) = 0 by rw [c3]; rfl)]
          unfold bk_M_link_139
          rw [if_pos rfl]
          unfold bk_M_link_179 bk_M_link_180
          rw [if_pos rfl]
          unfold bk_M_link_215
          rw [if_neg (nI_in pl1 (by decide)), nI_clamp (by omega), tbS.1]
          by_cases cw : w = A.1 1 p
          · rw [if_pos cw] at hq
            cases hq
            rw [if_pos (by rw [cw])]
            unfold bk_M_link_233
            rw [if_pos rfl, f261_0 S31 (by omega), l42]
            refine ⟨_, rfl, fun _ _ z => (by cases z), fun t' A' z => ?_⟩
            cases z
            exact ⟨((((eS.upI (by decide)).upI (by decide)).upI (by decide)).upI (by decide)).upI (by decide), _, _, b9.li b10 (by omega) hnt⟩
          · rw [if_neg cw] at hq
            cases hq
            have wl := wp.2.2.2.1
            rw [if_neg (fun z => cw ((nI_eq (by omega) (by omega)).mp z))]
            obtain ⟨S2, y1, y2⟩ := fl 30 (pl t) (by decide) (by decide)
            rw [show fn_M_fail N 30 (nI (pl t)) S' = some ((), S2) from y1, obind]
            dsimp only
            unfold bk_M_link_233
            rw [if_pos rfl, y2]
            obtain ⟨s', p1, p2⟩ := z261 30 (pl t) 0 0 (by decide) (by decide) (Or.inl rfl)
            have x8 : ∀ x8 : Int32, bk_M_link_261 N (nI p) (s1.1 42 0) 0 x8 (upI (upI S' 9 (fun _ => nI 30)) 10 (fun _ => nI (pl t))) = bk_M_link_261 N (nI p) (s1.1 42 0) 0 (nI 0) (upI (upI S' 9 (fun _ => nI 30)) 10 (fun _ => nI (pl t))) := fun x8 => by
              rw [f261_0 (σ := upI (upI S' 9 (fun _ => nI 30)) 10 (fun _ => nI (pl t))) S31 (by omega), f261_0 (σ := upI (upI S' 9 (fun _ => nI 30)) 10 (fun _ => nI (pl t))) S31 (by omega)]
            rw [x8]
            exact ⟨s', p1, fun f p z => (by cases z; exact p2), fun _ _ z => (by cases z)⟩
        · rw [if_neg c3] at hq
          rw [if_neg (show ¬ nI (A.1 2 p) = 0 from fun z => c3 ((nI_eq (b := 0) (by omega) (by omega)).mp z))]
          unfold bk_M_link_139
          have k3 : S'.1 4 (t + 3) = nI (tk (t + 3)) := by rw [b9.1.1 4 (by decide)]; exact (hS.1 (t + 3) t3).1
          have kl : tk (t + 3) < 405 := T.lt t3
          rw [if_neg (show ¬ (1 : Int32) = 0 by decide), if_neg (nI_in (show t + 1 + 2 < 65540 by omega) (by decide)), nI_clamp (by omega), show t + 1 + 2 = t + 3 by omega, k3]
          have e25 : ∃ s', bk_M_link_201 N (nI (t + 3)) S' = some ((), s') ∧ Zk s s' 25 (pl (t + 3)) := by
            unfold bk_M_link_201
            rw [if_neg (nI_in (show t + 3 < 65540 by omega) (by decide)), nI_clamp (by omega), five hS b9.1 t3]
            obtain ⟨S2, y1, y2⟩ := fl 25 (pl (t + 3)) (by decide) (by decide)
            rw [show fn_M_fail N 25 (nI (pl (t + 3))) S' = some ((), S2) from y1, obind]
            rw [y2]
            exact ⟨_, rfl, (eS.upI (by decide)).upI (by decide), by decide, ⟨by decide, b9.2.1.lk⟩, rfl, rfl, t1, by omega, S8⟩
          have e179 : ∃ s', bk_M_link_179 N (nI (pl t)) (nI p) (nI (t + 3)) (s1.1 42 0) (nI w) 1 S' = some ((), s') ∧ Zk s s' 25 (pl (t + 3)) := by
            unfold bk_M_link_179 bk_M_link_180
            rw [if_neg (show ¬ (1 : Int32) = 0 by decide), if_pos (show (-1 : Int32) < 0 by decide)]
            exact e25
          by_cases c4 : tk (t + 3) ≠ 400 ∨ t1 ≠ t + 4
          · rw [if_pos c4] at hq
            cases hq
            have : ∃ s', (if nI (tk (t + 3)) = 400 then (if S'.1 8 0 = nI (t + 3) + 1 then ((fn_M_here N (nI (t + 3)) S').bind (fun q_2 => bk_M_link_180 N (nI (pl t)) (nI p) (nI (t + 3)) (s1.1 42 0) (nI w) 1 q_2.1 q_2.2)) else (bk_M_link_179 N (nI (pl t)) (nI p) (nI (t + 3)) (s1.1 42 0) (nI w) 1 S')) else (bk_M_link_179 N (nI (pl t)) (nI p) (nI (t + 3)) (s1.1 42 0) (nI w) 1 S')) = some ((), s') ∧ Zk s s' 25 (pl (t + 3)) := by
              by_cases c5 : tk (t + 3) = 400
              · rcases c4 with c4 | c4
                · exact absurd c5 c4
                · rw [if_pos (show nI (tk (t + 3)) = 400 by rw [c5]; rfl), S8, nI_1, if_neg (fun z => c4 (by have := (nI_eq (by omega) (by omega)).mp z; omega))]
                  exact e179
              · rw [if_neg (show ¬ nI (tk (t + 3)) = 400 from fun z => c5 ((nI_eq (b := 400) (by omega) (by omega)).mp z))]
                exact e179
            obtain ⟨s', p1, p2⟩ := this
            exact ⟨s', p1, fun f p z => (by cases z; exact p2), fun _ _ z => (by cases z)⟩
          · rw [if_neg c4] at hq
            have c5 : tk (t + 3) = 400 := by
              by_cases z : tk (t + 3) = 400
              · exact z
              · exact absurd (Or.inl z) c4
            have c6 : t1 = t + 4 := by
              by_cases z : t1 = t + 4
              · exact z
              · exact absurd (Or.inr z) c4
            rw [if_pos (show nI (tk (t + 3)) = 400 by rw [c5]; rfl), S8, nI_1, if_pos (by rw [c6]), hereD hN hnt hS D3 hW (by omega) t3 c5 a2, obind]
            dsimp only
            unfold bk_M_link_180
            rw [if_neg (show ¬ (1 : Int32) = 0 by decide)]
            match eh : dHere wd A (t + 3) with
            | none =>
              rw [eh] at hq
              cases hq
              rw [if_pos (show oI none < 0 by decide)]
              obtain ⟨s', p1, p2⟩ := e25
              exact ⟨s', p1, fun f p z => (by cases z; exact p2), fun _ _ z => (by cases z)⟩
            | some d =>
              rw [eh] at hq
              dsimp only at hq
              have hd := dHere_in hW eh
              have dl : d < 11000 := by omega
              show ∃ s', (if nI d < 0 then bk_M_link_201 N (nI (t + 3)) S' else (fn_M_isDriven N (nI d) S').bind (fun q_1 => if q_1.1 = 0 then (bk_M_link_201 N (nI (t + 3)) q_1.2) else (bk_M_link_215 N (nI (pl t)) (nI p) (nI (t + 3)) (s1.1 42 0) (nI w) 1 (nI d) q_1.2))) = _ ∧ _
              rw [if_neg (nI_pos (by omega)), isDriven_M hW (by omega) hnt hd.1 (by rw [a2.1 21 (by decide)]; exact (D3.2.2.2.1.2.1 d hd.1).2.2.1), obind]
              dsimp only
              cases dv : dDrv A d with
              | false =>
                rw [dv, if_pos rfl] at hq
                cases hq
                rw [if_pos (show b01 false = 0 from rfl)]
                obtain ⟨s', p1, p2⟩ := e25
                exact ⟨s', p1, fun f p z => (by cases z; exact p2), fun _ _ z => (by cases z)⟩
              | true =>
                rw [dv, if_neg (by decide)] at hq
                rw [if_neg (show ¬ b01 true = 0 by decide)]
                unfold bk_M_link_215
                rw [if_neg (nI_in pl1 (by decide)), nI_clamp (by omega), tbS.1]
                have S23 : S'.1 23 d = nI (A.1 4 d) := by rw [a2.1 23 (by decide)]; exact (D3.2.2.2.1.2.1 d hd.1).2.2.2.2
                have w4d := (hW.2.1 d hd.1).2.2.2.2.2.1
                by_cases cw : w = A.1 1 p
                · rw [if_neg (fun z => z cw)] at hq
                  rw [if_pos (by rw [cw])]
                  unfold bk_M_link_233
                  rw [if_neg (show ¬ (1 : Int32) = 0 by decide), if_neg (nI_in dl (by decide)), nI_clamp (by omega), S23]
                  by_cases c7 : A.1 4 d = 0
                  · rw [if_neg (fun z => z c7)] at hq
                    cases hq
                    rw [if_pos (show nI (A.1 4 d) = 0 by rw [c7]; rfl), f261_1 S31 (by omega) dl, l42]
                    refine ⟨_, rfl, fun _ _ z => (by cases z), fun t' A' z => ?_⟩
                    cases z
                    exact ⟨(((((((eS.upI (by decide)).upI (by decide)).upI (by decide)).upI (by decide)).upI (by decide)).upI (by decide)).upI (by decide)).upI (by decide), _, _, b9.lo b10 (by omega) hnt⟩
                  · rw [if_pos c7] at hq
                    cases hq
                    rw [if_neg (show ¬ nI (A.1 4 d) = 0 from fun z => c7 ((nI_eq (b := 0) (by omega) (by omega)).mp z)), if_neg (nI_in (show t + 3 < 65540 by omega) (by decide)), nI_clamp (by omega), five hS b9.1 t3]
                    obtain ⟨S2, y1, y2⟩ := fl 31 (pl (t + 3)) (by decide) (by decide)
                    rw [show fn_M_fail N 31 (nI (pl (t + 3))) S' = some ((), S2) from y1, obind]
                    dsimp only
                    rw [y2]
                    obtain ⟨s', p1, p2⟩ := z261 31 (pl (t + 3)) 1 d (by decide) (by decide) (Or.inr ⟨rfl, dl⟩)
                    exact ⟨s', p1, fun f p z => (by cases z; exact p2), fun _ _ z => (by cases z)⟩
                · rw [if_pos cw] at hq
                  cases hq
                  have wl := wp.2.2.2.1
                  rw [if_neg (fun z => cw ((nI_eq (by omega) (by omega)).mp z))]
                  obtain ⟨S2, y1, y2⟩ := fl 30 (pl t) (by decide) (by decide)
                  rw [show fn_M_fail N 30 (nI (pl t)) S' = some ((), S2) from y1, obind]
                  dsimp only
                  unfold bk_M_link_233
                  have S23' : S2.1 23 d = nI (A.1 4 d) := by rw [y2]; exact S23
                  obtain ⟨s', p1, p2⟩ := z261 30 (pl t) 1 d (by decide) (by decide) (Or.inr ⟨rfl, dl⟩)
                  rw [if_neg (show ¬ (1 : Int32) = 0 by decide), if_neg (nI_in dl (by decide)), nI_clamp (by omega), S23']
                  have fz : ∀ x y : Int32, fn_M_fail N x y S2 = some ((), S2) := fun x y => by
                    unfold fn_M_fail
                    rw [if_neg (show ¬ S2.1 9 0 = 0 by rw [y2]; show ¬ (30 : Int32) = 0; decide)]
                  refine ⟨s', ?_, fun f p z => (by cases z; exact p2), fun _ _ z => (by cases z)⟩
                  by_cases c7 : nI (A.1 4 d) = 0
                  · rw [if_pos c7, y2]; exact p1
                  · rw [if_neg c7, if_neg (nI_in (show t + 3 < 65540 by omega) (by decide)), fz, obind, y2]; exact p1
    · rw [if_pos (Or.inr c2)] at hq
      cases hq
      rw [if_neg (fun z => c2 ((oI_neg ll).mp z))]
      obtain ⟨s', p1, p2⟩ := e23
      exact ⟨s', p1, fun f p z => (by cases z; exact p2), fun _ _ z => (by cases z)⟩
end MLNK
