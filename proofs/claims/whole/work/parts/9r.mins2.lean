/-! The reference: an item. -/
section MINS2
variable {tk pl vl wi wd : Nat → Nat} {nt N N0 : Nat} {s0 s s' : ms} {A : ds} {t la nc : Nat}
/-- the rows of a new item -/
def itS (s : ms) (it : Nat) (m u lk t : Int32) : ms := upI (upI (upI (upI s 28 (upd (s.1 28) it m)) 29 (upd (s.1 29) it u)) 30 (upd (s.1 30) it lk)) 8 (fun _ => t)
theorem itS_E {it : Nat} {m u lk x : Int32} : Eb [8, 28, 29, 30] [] s (itS s it m u lk x) := (((Eb.rfl.upI (by decide)).upI (by decide)).upI (by decide)).upI (by decide)
theorem f85 {it : Nat} {x1 x2 : Int32} (h27 : s.1 27 0 = nI it) (hi : it < 10900) : bk_M_instance_85 N x1 x2 s = hd_M_instance_131 N N x1 x2 (itS s it x1 (s.1 8 0) (s.1 31 0) (s.1 8 0 + 2)) := by
  unfold bk_M_instance_85 itS
  rw [h27, if_neg (nI_in (show it < 11000 by omega) (by decide)), if_neg (nI_in (show it < 11000 by omega) (by decide)), if_neg (nI_in (show it < 11001 by omega) (by decide)), nI_clamp (by omega)]
theorem DM.it {m u : Nat} (h : DM nt s0 A t la nc s) (hu : t ≤ u) (hu2 : u + 2 ≤ nt + 1) (hnt : nt ≤ 12001) : DM nt s0 (dIt A m u) (u + 2) la nc (itS s (A.1 41 0) (nI m) (nI u) (s.1 31 0) (nI (u + 2))) := by
  obtain ⟨g1, g2, ⟨b1, b2, b3, b4, b5⟩, g4, g5, g6, g7, g8⟩ := h
  have e : Eb [8, 28, 29, 30] [] s (itS s (A.1 41 0) (nI m) (nI u) (s.1 31 0) (nI (u + 2))) := itS_E
  have k6 := g6.keep (s' := itS s (A.1 41 0) (nI m) (nI u) (s.1 31 0) (nI (u + 2))) e (by decide) (fun k _ => by rw [e.1 41 (by decide)]) (fun k _ => by rw [e.2 43 (by decide)]) (Nat.le_refl _) (Nat.le_refl _)
  refine ⟨g1.trans (e.mono (by decide) (by decide)), ?_, ?_, ?_, ?_, ?_, ?_, ?_⟩
  · obtain ⟨h1, h2, h3, h4, h5⟩ := g2
    exact ⟨h1, h2, rfl, by omega, h5⟩
  · unfold dIt
    simp only [tu1, tu2, uu1, uu2, uu3, vu1, vu2, vu3, su1, su2, Nat.reduceEqDiff, false_and, true_and, reduceIte, Bool.false_eq_true, if_true, if_false]
    exact ⟨by omega, b2, by omega, by omega, by omega⟩
  · obtain ⟨⟨y1, y2, y3, y4, y5, y6⟩, h2, h3, h4, h5, h6⟩ := g4
    unfold Dtb dIt
    simp only [tu1, tu2, uu1, uu2, uu3, vu1, vu2, vu3, su1, su2, Nat.reduceEqDiff, false_and, true_and, reduceIte, Bool.false_eq_true, if_true, if_false]
    refine ⟨⟨y1, y2, y3, y4, y5, y6⟩, h2, fun i hi => ?_, fun i hi => ?_, h5, h6⟩
    · have z : ¬ i = A.1 41 0 := by omega
      simp only [z, reduceIte]
      show upd (s.1 28) (A.1 41 0) (nI m) i = _ ∧ upd (s.1 29) (A.1 41 0) (nI u) i = _
      rw [upd_ne z, upd_ne z]
      exact h3 i hi
    · show upd (s.1 30) (A.1 41 0) (s.1 31 0) i = _
      by_cases z : i = A.1 41 0
      · rw [z, upd_at, if_pos rfl]; exact y4
      · rw [upd_ne z, if_neg z]; exact h4 i hi
  · unfold Dset dIt at *
    simp only [tu1, tu2, uu1, uu2, uu3, vu1, vu2, vu3, su1, su2, Nat.reduceEqDiff, false_and, true_and, reduceIte, Bool.false_eq_true, if_true, if_false]
    exact g5
  · unfold Dcd dIt at *
    simp only [tu1, tu2, uu1, uu2, uu3, vu1, vu2, vu3, su1, su2, Nat.reduceEqDiff, false_and, true_and, reduceIte, Bool.false_eq_true, if_true, if_false]
    exact k6
  · intro m' hm'
    exact g7 m' hm'
  · unfold dIt
    simp only [tu1, tu2, uu1, uu2, uu3, vu1, vu2, vu3, su1, su2, Nat.reduceEqDiff, false_and, true_and, reduceIte, Bool.false_eq_true, if_true, if_false]
    exact g8
theorem DM.itE {t1 : Nat} (h : DM nt s0 A t la nc s) (h28 : s.1 28 (A.1 41 0) = nI (A.1 10 (A.1 41 0))) (h29 : s.1 29 (A.1 41 0) = nI (A.1 11 (A.1 41 0))) (ht : t ≤ t1) (ht2 : t1 ≤ nt + 1) (hnt : nt ≤ 12001) : DM nt s0 (dItE A) t1 la nc (upI (upI (upI (upI s 8 (fun _ => nI (t + 1))) 8 (fun _ => nI t1)) 27 (fun _ => nI (A.1 41 0 + 1))) 30 (upd (s.1 30) (A.1 41 0 + 1) (s.1 31 0))) := by
  obtain ⟨g1, g2, ⟨b1, b2, b3, b4, b5⟩, g4, g5, g6, g7, g8⟩ := h
  have e : Eb [8, 27, 30] [] s (upI (upI (upI (upI s 8 (fun _ => nI (t + 1))) 8 (fun _ => nI t1)) 27 (fun _ => nI (A.1 41 0 + 1))) 30 (upd (s.1 30) (A.1 41 0 + 1) (s.1 31 0))) := (((Eb.rfl.upI (by decide)).upI (by decide)).upI (by decide)).upI (by decide)
  refine ⟨g1.trans (e.mono (by decide) (by decide)), ?_, ?_, ?_, ?_, ?_, ?_, ?_⟩
  · obtain ⟨h1, h2, h3, h4, h5⟩ := g2
    exact ⟨h1, h2, rfl, by omega, h5⟩
  · unfold dItE
    simp only [tu1, tu2, uu1, uu2, uu3, vu1, vu2, vu3, su1, su2, Nat.reduceEqDiff, false_and, true_and, reduceIte, Bool.false_eq_true, if_true, if_false]
    exact ⟨by omega, b2, by omega, by omega, by omega⟩
  · obtain ⟨⟨y1, y2, y3, y4, y5, y6⟩, h2, h3, h4, h5, h6⟩ := g4
    unfold Dtb dItE
    simp only [tu1, tu2, uu1, uu2, uu3, vu1, vu2, vu3, su1, su2, Nat.reduceEqDiff, false_and, true_and, reduceIte, Bool.false_eq_true, if_true, if_false]
    refine ⟨⟨y1, y2, rfl, y4, y5, y6⟩, h2, fun i hi => ?_, fun i hi => ?_, h5, h6⟩
    · by_cases z : i = A.1 41 0
      · subst z; exact ⟨h28, h29⟩
      · exact h3 i (by omega)
    · show upd (s.1 30) (A.1 41 0 + 1) (s.1 31 0) i = _
      by_cases z : i = A.1 41 0 + 1
      · rw [z, upd_at, if_pos rfl]; exact y4
      · rw [upd_ne z, if_neg z]; exact h4 i (by omega)
  · unfold Dset dItE at *
    simp only [tu1, tu2, uu1, uu2, uu3, vu1, vu2, vu3, su1, su2, Nat.reduceEqDiff, false_and, true_and, reduceIte, Bool.false_eq_true, if_true, if_false]
    exact g5
  · unfold Dcd dItE at *
    simp only [tu1, tu2, uu1, uu2, uu3, vu1, vu2, vu3, su1, su2, Nat.reduceEqDiff, false_and, true_and, reduceIte, Bool.false_eq_true, if_true, if_false]
    exact g6
  · intro m' hm'
    exact g7 m' hm'
  · unfold dItE
    simp only [tu1, tu2, uu1, uu2, uu3, vu1, vu2, vu3, su1, su2, Nat.reduceEqDiff, false_and, true_and, reduceIte, Bool.false_eq_true, if_true, if_false]
    exact g8
theorem instance_M (hN : 13002 < N) (hN0 : N = N0 + 1) (T : Tv tk pl nt) (hS : SD tk pl vl wi wd nt N s0) (hV : Vb tk vl wi) (hW : WF tk nt A t) (h : DM nt s0 A t la nc s) (ht : t < nt) : Dx 45000 nt s0 (fn_M_instance N s) (dInstance tk pl vl wi wd nt N0 t A) := by
  have hnt := T.2.1
  intro q hq
  unfold dInstance at hq
  by_cases c0 : nt ≤ t + 3 ∨ tk t ≠ 400 ∨ tk (t + 1) ≠ 400
  · rw [if_pos c0] at hq; cases hq
  rw [if_neg c0] at hq
  have t3 : t + 3 < nt := by
    by_cases z : nt ≤ t + 3
    · exact absurd (Or.inl z) c0
    · omega
  have k0 : tk t = 400 := by
    by_cases z : tk t = 400
    · exact z
    · exact absurd (Or.inr (Or.inl z)) c0
  have k1 : tk (t + 1) = 400 := by
    by_cases z : tk (t + 1) = 400
    · exact z
    · exact absurd (Or.inr (Or.inr z)) c0
  have cnt := hW.1
  have e12 : s.1 12 0 = nI (A.1 46 0) := h.2.2.2.1.1.1
  unfold fn_M_instance fn_M_moduleNamed
  rw [h.eight, e12, show (0 : Int32) = nI 0 from rfl, moduleNamed_M (g := A.1 20) hS h.1 ht k0 (by omega) (A.1 46 0) 0 N (by omega) (by omega) (fun d _ d2 => ⟨(h.2.2.2.1.2.2.2.2.2 d d2).1, (hW.2.2.2.1 d d2).1, (hW.2.2.2.1 d d2).2.1⟩), obind]
  dsimp only
  have dm : dMod wd A t = fnd (fun d => decide (wd (A.1 20 d) = wd t)) (A.1 46 0) 0 := rfl
  rw [← dm]
  match er : dMod wd A t with
  | none =>
    rw [er] at hq
    cases hq
    rw [if_neg (show ¬ nI 0 ≤ oI none by decide), h.eight, if_neg (show ¬ (nI t < nI 0 ∨ 65540 ≤ (nI t).toNatClampNeg) from nI_in (show t < 65540 by omega) (by decide)), nI_clamp (by omega), five hS h.1 ht]
    unfold fn_M_fail
    rw [if_pos h.nine, obind]
    exact ⟨_, rfl, fun f p z => (by cases z; exact Zd.z (x := t) hW (by omega) hnt h ((Eb.rfl.upI (by decide)).upI (by decide)) (by decide) ⟨by decide, h.2.1.lk⟩ rfl rfl h.eight (by omega)), fun _ _ z => (by cases z)⟩
  | some m =>
    rw [er] at hq
    dsimp only at hq
    have hm := (dMod_in er).1
    show ∃ s', (if nI 0 ≤ nI m then (fn_M_here N (s.1 8 0 + 1) (upI s 8 (fun _ => s.1 8 0 + 1))).bind (fun q_4 => if nI 0 ≤ q_4.1 then (bk_M_instance_70 N (nI m) (s.1 8 0 + 1) q_4.2) else ((fn_M_isInstanceName N ((q_4.2.1 8 0)) q_4.2).bind (fun q_7 => if q_7.1 = nI 0 then (bk_M_instance_85 N (nI m) (s.1 8 0 + 1) q_7.2) else (bk_M_instance_70 N (nI m) (s.1 8 0 + 1) q_7.2)))) else _) = _ ∧ _
    rw [if_pos (nI_le (Nat.zero_le _) (by omega)), h.eight, nI_1]
    have D1 : DM nt s0 A (t + 1) la nc (upI s 8 (fun _ => nI (t + 1))) := h.tset (Eb.rfl.upI (by decide)) rfl (by omega) (by omega) hnt
    have e1 : Eb [8] [] s (upI s 8 (fun _ => nI (t + 1))) := Eb.rfl.upI (by decide)
    generalize upI s 8 (fun _ => nI (t + 1)) = s1 at *
    have hW1 : WF tk nt A (t + 1) := hW.later (by omega)
    have e27 : s1.1 27 0 = nI (A.1 41 0) := D1.2.2.2.1.1.2.2.1
    rw [hereD hN hnt hS D1 hW (by omega) (by omega) k1 Eb.rfl, obind]
    dsimp only
    have hl := dHere_lt (wd := wd) (x := t + 1) hW (by omega) hnt
    -- what the item's rows are
    have r28 : ∀ σ : ms, (itS σ (A.1 41 0) (nI m) (σ.1 8 0) (σ.1 31 0) (σ.1 8 0 + 2)).1 28 (A.1 41 0) = nI m := fun σ => upd_at _ _ _
    have zdi : ∀ (σ s' : ms) (f p : Nat), Eb [8, 9, 10, 28, 29, 30] [] s1 σ → (∀ k, k < A.1 41 0 → σ.1 28 k = s1.1 28 k) → σ.1 28 (A.1 41 0) = nI m → Zi σ s' (A.1 41 0) f p → Zd 45000 s0 s' f p := by
      intro σ s' f p y1 y2 y3 y4
      obtain ⟨z1, z2, z3, z4, z5, ⟨x, z6, z7⟩, z8⟩ := y4
      have e' : Eb [8, 9, 10, 23, 24, 25, 26, 27, 28, 29, 30, 31, 32, 33, 34, 41, 42, 44, 49, 50, 51, 52, 53, 87, 91, 92] [43, 45] s1 s' := (y1.mono (by decide) (by decide)).trans (z1.mono (by decide) (by decide))
      refine Zd.mk (x := x) (dc := A.1 40 0) (it := A.1 41 0 + 1) hW (by omega) hnt D1 (e'.mono (by decide) (by decide)) z2 z3 z4 z5 z7 (by omega) (e'.1 12 (by decide)) (e'.1 14 (by decide)) (e'.1 15 (by decide)) (by rw [e'.1 18 (by decide)]; exact D1.2.2.2.1.1.2.1) (Nat.le_refl _) (by omega) z8 (by omega) (Nat.le_refl _) (fun k hk => ?_)
      rw [z1.1 28 (by decide)]
      by_cases c : k = A.1 41 0
      · exact ⟨m, by omega, by rw [c]; exact y3⟩
      · rw [y2 k (by omega)]
        exact D1.i28 hW (by omega) hnt k (by omega)
    have e70 : ∃ s', bk_M_instance_70 N (nI m) (nI (t + 1)) s1 = some ((), s') ∧ Zd 45000 s0 s' 21 (pl (t + 1)) := by
      unfold bk_M_instance_70 fn_M_fail
      rw [D1.eight, if_neg (nI_in (show t + 1 < 65540 by omega) (by decide)), nI_clamp (by omega), five hS D1.1 (by omega), if_pos D1.nine, obind]
      dsimp only
      have q27 : (upI (upI s1 9 (fun _ => 21)) 10 (fun _ => nI (pl (t + 1)))).1 27 0 = nI (A.1 41 0) := e27
      have q8 : (upI (upI s1 9 (fun _ => 21)) 10 (fun _ => nI (pl (t + 1)))).1 8 0 = nI (t + 1) := D1.eight
      rw [f85 q27 (by omega)]
      have eσ : Eb [8, 9, 10, 28, 29, 30] [] s1 (itS (upI (upI s1 9 (fun _ => 21)) 10 (fun _ => nI (pl (t + 1)))) (A.1 41 0) (nI m) ((upI (upI s1 9 (fun _ => 21)) 10 (fun _ => nI (pl (t + 1)))).1 8 0) ((upI (upI s1 9 (fun _ => 21)) 10 (fun _ => nI (pl (t + 1)))).1 31 0) ((upI (upI s1 9 (fun _ => 21)) 10 (fun _ => nI (pl (t + 1)))).1 8 0 + 2)) := ((Eb.rfl.upI (by decide)).upI (by decide)).trans (itS_E.mono (by decide) (by decide))
      have σ28 := r28 (upI (upI s1 9 (fun _ => 21)) 10 (fun _ => nI (pl (t + 1))))
      have σk : ∀ k, k < A.1 41 0 → (itS (upI (upI s1 9 (fun _ => 21)) 10 (fun _ => nI (pl (t + 1)))) (A.1 41 0) (nI m) ((upI (upI s1 9 (fun _ => 21)) 10 (fun _ => nI (pl (t + 1)))).1 8 0) ((upI (upI s1 9 (fun _ => 21)) 10 (fun _ => nI (pl (t + 1)))).1 31 0) ((upI (upI s1 9 (fun _ => 21)) 10 (fun _ => nI (pl (t + 1)))).1 8 0 + 2)).1 28 k = s1.1 28 k := fun k hk => upd_ne (by omega)
      have zk : Zk (itS (upI (upI s1 9 (fun _ => 21)) 10 (fun _ => nI (pl (t + 1)))) (A.1 41 0) (nI m) ((upI (upI s1 9 (fun _ => 21)) 10 (fun _ => nI (pl (t + 1)))).1 8 0) ((upI (upI s1 9 (fun _ => 21)) 10 (fun _ => nI (pl (t + 1)))).1 31 0) ((upI (upI s1 9 (fun _ => 21)) 10 (fun _ => nI (pl (t + 1)))).1 8 0 + 2)) (itS (upI (upI s1 9 (fun _ => 21)) 10 (fun _ => nI (pl (t + 1)))) (A.1 41 0) (nI m) ((upI (upI s1 9 (fun _ => 21)) 10 (fun _ => nI (pl (t + 1)))).1 8 0) ((upI (upI s1 9 (fun _ => 21)) 10 (fun _ => nI (pl (t + 1)))).1 31 0) ((upI (upI s1 9 (fun _ => 21)) 10 (fun _ => nI (pl (t + 1)))).1 8 0 + 2)) 21 (pl (t + 1)) := ⟨Eb.rfl, by decide, ⟨by decide, D1.2.1.lk.keep eσ (by decide) (by decide)⟩, rfl, rfl, t + 3, by omega, by show s1.1 8 0 + 2 = _; rw [D1.eight, lit_nI 2, nI_add]⟩
      have σ27 : (itS (upI (upI s1 9 (fun _ => 21)) 10 (fun _ => nI (pl (t + 1)))) (A.1 41 0) (nI m) ((upI (upI s1 9 (fun _ => 21)) 10 (fun _ => nI (pl (t + 1)))).1 8 0) ((upI (upI s1 9 (fun _ => 21)) 10 (fun _ => nI (pl (t + 1)))).1 31 0) ((upI (upI s1 9 (fun _ => 21)) 10 (fun _ => nI (pl (t + 1)))).1 8 0 + 2)).1 27 0 = nI (A.1 41 0) := e27
      generalize itS (upI (upI s1 9 (fun _ => 21)) 10 (fun _ => nI (pl (t + 1)))) (A.1 41 0) (nI m) ((upI (upI s1 9 (fun _ => 21)) 10 (fun _ => nI (pl (t + 1)))).1 8 0) ((upI (upI s1 9 (fun _ => 21)) 10 (fun _ => nI (pl (t + 1)))).1 31 0) ((upI (upI s1 9 (fun _ => 21)) 10 (fun _ => nI (pl (t + 1)))).1 8 0 + 2) = σ at *
      have ff : hd_M_instance_131 N N = hd_M_instance_131 N (N0 + 1) := by rw [hN0]
      rw [ff]
      obtain ⟨s', p1, p2⟩ := z131 (n := N0) (x2 := nI (t + 1)) (show 0 < N by omega) (show m < 3500 by omega) σ27 (by omega) zk
      exact ⟨s', p1, zdi σ s' _ _ eσ σk σ28 p2⟩
    by_cases c2 : dHere wd A (t + 1) ≠ none ∨ dInst wd A (t + 1) ≠ none
    · rw [if_pos c2] at hq
      cases hq
      obtain ⟨s', p1, p2⟩ := e70
      refine ⟨s', ?_, fun f p z => (by cases z; exact p2), fun _ _ z => (by cases z)⟩
      by_cases c3 : dHere wd A (t + 1) = none
      · rw [if_neg (show ¬ nI 0 ≤ oI (dHere wd A (t + 1)) from fun z => ((oI_nn hl).mp z) c3), D1.eight, instD hN hnt hS D1 hW (by omega) (by omega) k1 Eb.rfl, obind]
        dsimp only
        have : (dInst wd A (t + 1)).isSome = true := by
          rcases c2 with c2 | c2
          · exact absurd c3 c2
          · cases z : dInst wd A (t + 1) with
            | none => exact absurd z c2
            | some x => rfl
        rw [this, if_neg (show ¬ b01 true = nI 0 by decide)]
        exact p1
      · rw [if_pos (show nI 0 ≤ oI (dHere wd A (t + 1)) from (oI_nn hl).mpr c3)]
        exact p1
    · rw [if_neg c2] at hq
      have c3 : dHere wd A (t + 1) = none := by
        by_cases z : dHere wd A (t + 1) = none
        · exact z
        · exact absurd (Or.inl z) c2
      have c3b : dInst wd A (t + 1) = none := by
        by_cases z : dInst wd A (t + 1) = none
        · exact z
        · exact absurd (Or.inr z) c2
      rw [if_neg (show ¬ nI 0 ≤ oI (dHere wd A (t + 1)) from fun z => ((oI_nn hl).mp z) c3), D1.eight, instD hN hnt hS D1 hW (by omega) (by omega) k1 Eb.rfl, obind, c3b]
      dsimp only
      rw [if_pos (show b01 (none : Option Nat).isSome = nI 0 from rfl), f85 e27 (by omega), D1.eight, lit_nI 2, nI_add]
      have D3 : DM nt s0 (dIt A m (t + 1)) (t + 3) la nc (itS s1 (A.1 41 0) (nI m) (nI (t + 1)) (s1.1 31 0) (nI (t + 1 + 2))) := D1.it (Nat.le_refl _) (by omega) hnt
      have eσ : Eb [8, 9, 10, 28, 29, 30] [] s1 (itS s1 (A.1 41 0) (nI m) (nI (t + 1)) (s1.1 31 0) (nI (t + 1 + 2))) := itS_E.mono (by decide) (by decide)
      have σ28 : (itS s1 (A.1 41 0) (nI m) (nI (t + 1)) (s1.1 31 0) (nI (t + 1 + 2))).1 28 (A.1 41 0) = nI m := upd_at _ _ _
      have σ29 : (itS s1 (A.1 41 0) (nI m) (nI (t + 1)) (s1.1 31 0) (nI (t + 1 + 2))).1 29 (A.1 41 0) = nI (t + 1) := upd_at _ _ _
      have σk : ∀ k, k < A.1 41 0 → (itS s1 (A.1 41 0) (nI m) (nI (t + 1)) (s1.1 31 0) (nI (t + 1 + 2))).1 28 k = s1.1 28 k := fun k hk => upd_ne (by omega)
      generalize itS s1 (A.1 41 0) (nI m) (nI (t + 1)) (s1.1 31 0) (nI (t + 1 + 2)) = s3 at *
      have e46 : (dIt A m (t + 1)).1 46 0 = A.1 46 0 := by unfold dIt; simp only [tu1, tu2, uu1, uu2, uu3, vu1, vu2, vu3, su1, su2, Nat.reduceEqDiff, false_and, true_and, reduceIte, Bool.false_eq_true, if_true, if_false]
      have e41 : (dIt A m (t + 1)).1 41 0 = A.1 41 0 := by unfold dIt; simp only [tu1, tu2, uu1, uu2, uu3, vu1, vu2, vu3, su1, su2, Nat.reduceEqDiff, false_and, true_and, reduceIte, Bool.false_eq_true, if_true, if_false]
      have e21 : (dIt A m (t + 1)).1 21 = A.1 21 := by funext i; unfold dIt; simp only [tu1, tu2, uu1, uu2, uu3, vu1, vu2, vu3, su1, su2, Nat.reduceEqDiff, false_and, true_and, reduceIte, Bool.false_eq_true, if_true, if_false]
      have e10 : (dIt A m (t + 1)).1 10 (A.1 41 0) = m := by unfold dIt; simp only [tu1, tu2, uu1, uu2, uu3, vu1, vu2, vu3, su1, su2, Nat.reduceEqDiff, false_and, true_and, reduceIte, Bool.false_eq_true, if_true, if_false]
      have e11 : (dIt A m (t + 1)).1 11 (A.1 41 0) = t + 1 := by unfold dIt; simp only [tu1, tu2, uu1, uu2, uu3, vu1, vu2, vu3, su1, su2, Nat.reduceEqDiff, false_and, true_and, reduceIte, Bool.false_eq_true, if_true, if_false]
      have wi3 : WF tk nt (dIt A m (t + 1)) (t + 3) := hW.it.later (by omega)
      have ff : hd_M_instance_131 N N = hd_M_instance_131 N (N0 + 1) := by rw [hN0]
      rw [ff]
      match el : dLinks tk pl vl wi wd nt N0 m N0 (t + 3) (dIt A m (t + 1)) with
      | none => rw [el] at hq; cases hq
      | some (.inl (f, p)) =>
        rw [el] at hq
        cases hq
        obtain ⟨a1, -⟩ := links_M (x2 := nI (t + 1)) hN hN0 T hS hV N0 (t + 3) (dIt A m (t + 1)) la nc s3 wi3 (by rw [e46]; exact hm) D3 _ el
        obtain ⟨s', p1, p2⟩ := a1 f p rfl
        rw [e41] at p2
        exact ⟨s', p1, fun f p z => (by cases z; exact zdi s3 s' _ _ eσ σk σ28 p2), fun _ _ z => (by cases z)⟩
      | some (.inr (t1, A1)) =>
        rw [el, db_inr] at hq
        obtain ⟨-, a2⟩ := links_M (x2 := nI (t + 1)) hN hN0 T hS hV N0 (t + 3) (dIt A m (t + 1)) la nc s3 wi3 (by rw [e46]; exact hm) D3 _ el
        obtain ⟨s4, la4, nc4, b1, b2, b3, b4⟩ := a2 t1 A1 rfl
        obtain ⟨x1, x2, x3, x4, x5⟩ := dLinks_wo N0 (t + 3) (dIt A m (t + 1)) wi3 (by rw [e46]; exact hm) t1 A1 el
        have it := dLinks_it N0 (t + 3) (dIt A m (t + 1)) t1 A1 el
        rw [e46] at x3
        rw [e41] at x4
        by_cases c4 : nt ≤ t1 + 1
        · rw [if_pos c4] at hq; cases hq
        rw [if_neg c4] at hq
        rw [b1, e21]
        have D5 : DM nt s0 A1 (t1 + 1) la4 nc4 (upI s4 8 (fun _ => nI (t1 + 1))) := b2.tset (Eb.rfl.upI (by decide)) rfl (by omega) (by omega) hnt
        have A21 : A1.1 21 = A.1 21 := by rw [it 21 (by decide), e21]
        have hm1 : m < A1.1 46 0 := by rw [x3]; exact hm
        have w21 := (x1.2.2.2.1 m hm1).2.2
        have w40 := (x1.2.2.1 (m + 1) (by omega)).1
        have cnt1 := x1.1
        rw [← A21, open_M hnt hS (x1.later (t' := t1 + 1) (by omega)) (by omega) hN hm1 D5 (show t + 1 < nt by omega) (A1.1 21 (m + 1) - A1.1 21 m) (A1.1 21 m) N (by omega) (by omega)]
        have dop : dOpn A1 m = fnd (fun d => decide (A1.1 2 d < 3 ∧ dLkd A1 d = none)) (A1.1 21 (m + 1) - A1.1 21 m) (A1.1 21 m) := rfl
        rw [← dop]
        have s27 : s4.1 27 0 = nI (A.1 41 0) := by rw [← x4]; exact b2.2.2.2.1.1.2.2.1
        match eo : dOpn A1 m with
        | none =>
          rw [eo, if_neg (fun z => z rfl)] at hq
          cases hq
          dsimp only
          unfold bk_M_instance_254
          have q27 : (upI s4 8 (fun _ => nI (t1 + 1))).1 27 0 = nI (A.1 41 0) := s27
          have q8 : (upI s4 8 (fun _ => nI (t1 + 1))).1 8 0 = nI (t1 + 1) := rfl
          rw [q27, q8, nI_1, nI_1, if_neg (nI_in (show A.1 41 0 + 1 < 11001 by omega) (by decide)), nI_clamp (by omega)]
          refine ⟨_, rfl, fun _ _ z => (by cases z), fun t' A' z => ?_⟩
          cases z
          have := b2.itE (t1 := t1 + 2) (by rw [x4, b3.1 28 (by decide), it 10 (by decide), e10]; exact σ28) (by rw [x4, b3.1 29 (by decide), it 11 (by decide), e11]; exact σ29) (by omega) (by omega) hnt
          rw [x4] at this
          exact ⟨la4, nc4, this⟩
        | some d =>
          rw [eo, if_pos (fun z => by cases z)] at hq
          cases hq
          dsimp only
          have zk : Zk s3 (upI (upI (upI s4 8 (fun _ => nI (t1 + 1))) 9 (fun _ => 24)) 10 (fun _ => nI (pl (t + 1)))) 24 (pl (t + 1)) := ⟨((b3.upI (by decide)).upI (by decide)).upI (by decide), by decide, ⟨by decide, b2.2.1.lk⟩, rfl, rfl, t1 + 1, by omega, rfl⟩
          have s327 : s3.1 27 0 = nI (A.1 41 0) := by rw [← e41]; exact D3.2.2.2.1.1.2.2.1
          obtain ⟨s', p1, p2⟩ := z254 (N := N) s327 (by omega) zk
          exact ⟨s', p1, fun f p z => (by cases z; exact zdi s3 s' _ _ eσ σk σ28 p2), fun _ _ z => (by cases z)⟩
theorem item_M (hN : 13002 < N) (hN0 : N = N0 + 1) (T : Tv tk pl nt) (hS : SD tk pl vl wi wd nt N s0) (hV : Vb tk vl wi) (hW : WF tk nt A t) (h : DM nt s0 A t la nc s) (ht : t < nt) : Dx 45000 nt s0 (fn_M_item N s) (dItem tk pl vl wi wd nt N0 t A) := by
  have hnt := T.2.1
  have kl : tk t < 405 := T.lt ht
  have kd := kindD hS hnt h.1 h.eight ht
  have ne : ∀ k, k < 1000 → tk t ≠ k → ¬ nI (tk t) = nI k := fun k hk c z => c ((nI_eq (by omega) (by omega)).mp z)
  unfold dItem
  by_cases c0 : nt ≤ t + 1
  · rw [if_pos c0]; intro q hq; cases hq
  rw [if_neg c0]
  unfold fn_M_item
  rw [kd, obind]
  dsimp only
  have D1 : DM nt s0 A (t + 1) la nc (upI s 8 (fun _ => s.1 8 0 + 1)) := h.tset (Eb.rfl.upI (by decide)) (by show s.1 8 0 + 1 = _; rw [h.eight, nI_1]) (by omega) (by omega) hnt
  -- a declaration
  have dcl : ∀ k : Nat, k ≤ 4 → ∀ q, db (dDecl tk pl vl wi wd nt k (t + 1) A) (fun t1 A1 => if nt ≤ t1 then none else dok (t1 + 1) A1) = some q → ∃ s', bk_M_item_56 N (nI k) (upI s 8 (fun _ => s.1 8 0 + 1)) = some ((), s') ∧ (∀ f p, q = .inl (f, p) → Zd 45000 s0 s' f p) ∧ (∀ t' A', q = .inr (t', A') → ∃ la' nc', DM nt s0 A' t' la' nc' s') := by
    intro k k4 q hq
    have rd := rdec_M hN T hS hV hW D1 (show t < t + 1 by omega) k4
    unfold bk_M_item_56 bk_M_item_239
    have eq : ∀ s', ((fn_M_range N (upI s 8 (fun _ => s.1 8 0 + 1))).bind (fun q_1 => fn_M_declare N (nI k) q_1.1 q_1.2)) = some ((), s') → ((fn_M_range N (upI s 8 (fun _ => s.1 8 0 + 1))).bind (fun q_1 => (fn_M_declare N (nI k) q_1.1 q_1.2).bind (fun q_4 => some ((), upI q_4.2 8 (fun _ => q_4.2.1 8 0 + 1))))) = some ((), upI s' 8 (fun _ => s'.1 8 0 + 1)) := by
      intro s' hs
      obtain ⟨y, y1, y2⟩ := dc_b hs
      rw [y1, obind, y2, obind]
    match er : dDecl tk pl vl wi wd nt k (t + 1) A with
    | none => rw [er] at hq; cases hq
    | some (.inl (f, p)) =>
      rw [er] at hq
      cases hq
      obtain ⟨s', a1, a2, -⟩ := rd _ er
      refine ⟨_, eq s' a1, fun f p z => ?_, fun _ _ z => (by cases z)⟩
      cases z
      obtain ⟨z1, z2, z3, z4, z5, ⟨x, z6, z7⟩, m, dc, it, y⟩ := a2 f p rfl
      exact ⟨z1.upI (by decide), z2, z3, z4, z5, ⟨x + 1, by omega, by show s'.1 8 0 + 1 = _; rw [z7, nI_1]⟩, m, dc, it, y⟩
    | some (.inr (t1, A1)) =>
      rw [er, db_inr] at hq
      by_cases c1 : nt ≤ t1
      · rw [if_pos c1] at hq; cases hq
      rw [if_neg c1] at hq
      cases hq
      obtain ⟨s', a1, -, a3⟩ := rd _ er
      obtain ⟨la', nc', b1⟩ := a3 t1 A1 rfl
      refine ⟨_, eq s' a1, fun _ _ z => (by cases z), fun t' A' z => ?_⟩
      cases z
      exact ⟨la', nc', b1.tset (Eb.rfl.upI (by decide)) (by show s'.1 8 0 + 1 = _; rw [b1.eight, nI_1]) (by omega) (by omega) hnt⟩
  by_cases c1 : tk t = 304
  · rw [if_pos c1, if_pos (show nI (tk t) = 304 by rw [c1]; rfl)]
    unfold bk_M_item_20
    rw [kd, obind]
    dsimp only
    rw [if_neg (show ¬ nI (tk t) = 305 from ne 305 (by omega) (by omega))]
    unfold bk_M_item_35
    rw [if_pos rfl]
    exact dcl 3 (by omega)
  rw [if_neg c1, if_neg (show ¬ nI (tk t) = 304 from ne 304 (by omega) c1), kd, obind]
  dsimp only
  by_cases c2 : tk t = 305
  · rw [if_pos c2, if_pos (show nI (tk t) = 305 by rw [c2]; rfl)]
    unfold bk_M_item_20
    rw [kd, obind]
    dsimp only
    rw [if_pos (show nI (tk t) = 305 by rw [c2]; rfl)]
    unfold bk_M_item_35
    rw [if_neg (show ¬ (1 : Int32) = 0 by decide)]
    exact dcl 4 (by omega)
  rw [if_neg c2, if_neg (show ¬ nI (tk t) = 305 from ne 305 (by omega) c2), kd, obind]
  dsimp only
  by_cases c3 : tk t = 306
  · rw [if_pos c3, if_pos (show nI (tk t) = 306 by rw [c3]; rfl)]
    exact (assign_M hN hN0 T hS hV hW h ht).bind (fun s' => rfl)
  rw [if_neg c3, if_neg (show ¬ nI (tk t) = 306 from ne 306 (by omega) c3), kd, obind]
  dsimp only
  by_cases c4 : tk t = 307
  · rw [if_pos c4, if_pos (show nI (tk t) = 307 by rw [c4]; rfl)]
    exact always_M hN hN0 T hS hV hW h ht
  rw [if_neg c4, if_neg (show ¬ nI (tk t) = 307 from ne 307 (by omega) c4), kd, obind]
  dsimp only
  by_cases c5 : tk t = 317
  · rw [if_pos c5, if_pos (show nI (tk t) = 317 by rw [c5]; rfl)]
    exact assert_M hN hN0 T hS hV hW h ht
  rw [if_neg c5, if_neg (show ¬ nI (tk t) = 317 from ne 317 (by omega) c5)]
  exact (instance_M hN hN0 T hS hV hW h ht).bind (fun s' => rfl)
end MINS2
