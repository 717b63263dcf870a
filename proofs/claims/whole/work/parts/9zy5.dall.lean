/-! Designs: the whole of it. -/
abbrev jL : List Nat := [1, 2, 4, 6, 7, 8, 9, 10, 12, 13, 14, 15, 16, 17, 18, 19, 21, 22, 23, 24, 25, 29, 30, 31, 32, 33, 34, 35, 36, 37, 38, 40, 41, 42, 43, 44, 45, 46]
section DALL
variable {tk pl vl wi wd : Nat → Nat} {nt N : Nat} {A A' : ds} {t m : Nat}
theorem JA.same (h : JA A) (e : ∀ k, k ∈ jL → A'.1 k = A.1 k) (eL : A'.2 = A.2) : JA A' := by
  obtain ⟨hN, hI, hL, hS, hW, hP, hM⟩ := h
  have sm : ∀ (l : List Nat), (∀ k, k ∈ l → k ∈ jL) → ∀ k, k ∈ l → A'.1 k = A.1 k := fun l l1 k hk => e k (l1 k hk)
  exact ⟨hN.same (sm _ (by decide)) (by rw [eL]), hI.same (sm _ (by decide)), hL.same (sm _ (by decide)) (by rw [eL]), hS.same (sm _ (by decide)) (by rw [eL]), hW.same (sm _ (by decide)) (by rw [eL]), hP.same (sm _ (by decide)), hM.same (sm _ (by decide))⟩
theorem JP.same (h : JP A) (e : ∀ k, k ∈ jL → A'.1 k = A.1 k) (eL : A'.2 = A.2) : JP A' := ⟨h.1.same e eL, by rw [e 12 (by decide), e 41 (by decide), e 42 (by decide)]; exact h.2⟩
theorem JP.tu {k i x : Nat} (h : JP A) (hk : k ∉ jL) : JP (tu A k i x) := h.same (fun j hj => tu_k (fun z => hk (z ▸ hj))) rfl
theorem dDrv_k {d : Nat} (h : dDrv A d = true) : A.1 2 d = 1 ∨ A.1 2 d = 3 := of_decide_eq_true h
theorem Jalw {S : Nat → Nat} {b : Bool} {D : DT} {C t2 t1 : Nat} (hV : Vb tk vl wi) (hn : nt ≤ 12001) (hW : WF tk nt A t) (ht : t < nt) (h : JP A) (e : (sT tk pl vl wi (dNm wd A) nt (dRf A) N (A.1 44 0 + 1) 399).1 t2 (A.1 5) = some (.inr (t1, S, b, D, C))) : JP (dAlw A S b D C) := by
  have hd : ∀ i q, dNm wd A i = some q → A.1 21 (A.1 46 0) ≤ q.1 ∧ q.1 < A.1 40 0 ∧ q.2 = A.1 1 q.1 := by
    intro i q hq
    unfold dNm at hq
    match er : dHere wd A i with
    | none => rw [er] at hq; cases hq
    | some d =>
      rw [er] at hq
      cases hq
      have hd := dHere_in hW er
      exact ⟨hd.2.1, hd.1, rfl⟩
  have G : DG (dNm wd A) (dRf A) b D := (sT_G (W := A.1 1) (fun i hi => (hV i).2 hi) (fun i q hq => by have := hd i q hq; have w := hW.2.1 q.1 this.2.1; rw [this.2.2]; exact ⟨w.2.2.1, w.2.2.2.1⟩) (fun i q hq => (hd i q hq).2.2) 399).1 t2 (A.1 5) _ _ _ _ _ e
  obtain ⟨g1, g2, g3, g4⟩ := G
  have c40 := hW.1.1
  have M4 := h.1.2.2.2.2.2.2
  have e0 : ∀ j, j ∉ [5, 15, 16, 17, 32, 33, 34, 44, 45, 47] → (dAlw A S b D C).1 j = A.1 j := fun j hj => by
    simp only [List.mem_cons, List.not_mem_nil, or_false, not_or] at hj
    have s5 : ∀ B : ds, (su B S).1 j = B.1 j := fun B => by funext i; rw [su1, if_neg (by omega)]
    unfold dAlw
    cases b
    · rw [if_neg (by decide), tu_k (by omega), tu_k (by omega), tu_k (by omega), tu_k (by omega), tu_k (by omega), tu_k (by omega), vu1, s5]
    · rw [if_pos rfl, tu_k (by omega), tu_k (by omega), tu_k (by omega), tu_k (by omega), tu_k (by omega), tu_k (by omega), tu_k (by omega), tu_k (by omega), tu_k (by omega), vu1, s5]
  have e44 : (dAlw A S b D C).1 44 0 = A.1 44 0 + 1 := by unfold dAlw; cases b <;> simp only [tu1, tu2, uu1, uu2, uu3, vu1, vu2, vu3, su1, su2, Nat.reduceEqDiff, false_and, true_and, reduceIte, Bool.false_eq_true, if_true, if_false]
  have e17 : ∀ a, (dAlw A S b D C).1 17 a = if a = A.1 44 0 then (if b = true then 1 else 0) else A.1 17 a := fun a => by unfold dAlw; cases b <;> simp only [tu1, tu2, uu1, uu2, uu3, vu1, vu2, vu3, su1, su2, Nat.reduceEqDiff, false_and, true_and, reduceIte, Bool.false_eq_true, if_true, if_false]
  have e32 : ∀ a, (dAlw A S b D C).1 32 a = if a = A.1 44 0 then A.1 46 0 else A.1 32 a := fun a => by unfold dAlw; cases b <;> simp only [tu1, tu2, uu1, uu2, uu3, vu1, vu2, vu3, su1, su2, Nat.reduceEqDiff, false_and, true_and, reduceIte, Bool.false_eq_true, if_true, if_false]
  have e33 : ∀ a, (dAlw A S b D C).1 33 a = if a = A.1 44 0 then A.1 40 0 else A.1 33 a := fun a => by unfold dAlw; cases b <;> simp only [tu1, tu2, uu1, uu2, uu3, vu1, vu2, vu3, su1, su2, Nat.reduceEqDiff, false_and, true_and, reduceIte, Bool.false_eq_true, if_true, if_false]
  have e34 : ∀ a, (dAlw A S b D C).1 34 a = if a = A.1 44 0 then A.1 21 (A.1 46 0) else A.1 34 a := fun a => by unfold dAlw; cases b <;> simp only [tu1, tu2, uu1, uu2, uu3, vu1, vu2, vu3, su1, su2, Nat.reduceEqDiff, false_and, true_and, reduceIte, Bool.false_eq_true, if_true, if_false]
  have eL : (dAlw A S b D C).2.1 = A.2.1 := by unfold dAlw; cases b <;> rfl
  have eD : ∀ a, (dAlw A S b D C).2.2 a = if a = A.1 44 0 then D else A.2.2 a := fun a => by unfold dAlw; cases b <;> rfl
  have hPv : Pv (dAlw A S b D C) ∧ A.1 45 0 ≤ (dAlw A S b D C).1 45 0 := by
    cases b with
    | true =>
      have e45 : (dAlw A S true D C).1 45 0 = A.1 45 0 + 1 := by unfold dAlw; simp only [tu1, tu2, uu1, uu2, uu3, vu1, vu2, vu3, su1, su2, Nat.reduceEqDiff, false_and, true_and, reduceIte, Bool.false_eq_true, if_true, if_false]
      refine ⟨h.1.2.2.2.2.2.1.more (x := 0) (y := A.1 44 0) M4 (fun k hk => e0 k (by revert hk; simp only [List.mem_cons, List.not_mem_nil, or_false, not_or]; omega)) e45 (fun p => by unfold dAlw; simp only [tu1, tu2, uu1, uu2, uu3, vu1, vu2, vu3, su1, su2, Nat.reduceEqDiff, false_and, true_and, reduceIte, Bool.false_eq_true, if_true, if_false]) (fun p => by unfold dAlw; simp only [tu1, tu2, uu1, uu2, uu3, vu1, vu2, vu3, su1, su2, Nat.reduceEqDiff, false_and, true_and, reduceIte, Bool.false_eq_true, if_true, if_false]) (fun a ha => by rw [e17, if_neg (by omega)]) (Or.inr ⟨rfl, rfl, by rw [e0 43 (by decide)], e44, by rw [e17, if_pos rfl]; rfl⟩), by omega⟩
    | false =>
      have e45 : (dAlw A S false D C).1 45 = A.1 45 := by funext i; unfold dAlw; simp only [tu1, tu2, uu1, uu2, uu3, vu1, vu2, vu3, su1, su2, Nat.reduceEqDiff, false_and, true_and, reduceIte, Bool.false_eq_true, if_true, if_false]
      have e15 : (dAlw A S false D C).1 15 = A.1 15 := by funext i; unfold dAlw; simp only [tu1, tu2, uu1, uu2, uu3, vu1, vu2, vu3, su1, su2, Nat.reduceEqDiff, false_and, true_and, reduceIte, Bool.false_eq_true, if_true, if_false]
      have e16 : (dAlw A S false D C).1 16 = A.1 16 := by funext i; unfold dAlw; simp only [tu1, tu2, uu1, uu2, uu3, vu1, vu2, vu3, su1, su2, Nat.reduceEqDiff, false_and, true_and, reduceIte, Bool.false_eq_true, if_true, if_false]
      refine ⟨h.1.2.2.2.2.2.1.none M4 (fun k hk => ?_) e44 (fun a => by rw [e17]; rfl), by rw [e45]; exact Nat.le_refl _⟩
      simp only [List.mem_cons, List.not_mem_nil, or_false] at hk
      rcases hk with rfl | rfl | rfl | rfl | rfl | rfl | rfl | rfl
      · exact e15
      · exact e16
      · exact e0 _ (by decide)
      · exact e0 _ (by decide)
      · exact e0 _ (by decide)
      · exact e0 _ (by decide)
      · exact e45
      · exact e0 _ (by decide)
  have n1 : ∀ i, nmA (dAlw A S b D C) (A.1 44 0) i = if A.1 21 (A.1 46 0) ≤ i ∧ i < A.1 40 0 then some (i, A.1 1 i) else none := fun i => by
    unfold nmA
    rw [e34, e33, if_pos rfl, if_pos rfl, e0 1 (by decide)]
  have r1 : ∀ d, rgA (dAlw A S b D C) (A.1 44 0) d ↔ A.1 21 (A.1 46 0) ≤ d ∧ d < A.1 40 0 ∧ (A.1 2 d = 2 ∨ A.1 2 d = 4) := fun d => by
    unfold rgA
    rw [e34, e33, if_pos rfl, if_pos rfl, e0 2 (by decide)]
  have vn : ∀ v, Vn (nmA (dAlw A S b D C) (A.1 44 0)) v → Vn (dNm wd A) v := fun v hv i q hq => by
    obtain ⟨d1, d2, d3⟩ := hd i q hq
    have := hv q.1 (q.1, A.1 1 q.1) (by rw [n1, if_pos ⟨d1, d2⟩])
    rw [d3]
    exact this
  refine ⟨h.1.alw (x := if b = true then 1 else 0) e0 e44 e17 e32 e33 e34 eL eD hPv.1 hPv.2 (by split <;> omega) ⟨fun z => ?_, g4⟩ (fun v n hv hn i q hq => ?_) (fun v n d hd2 => ?_), ?_⟩
  · cases b with
    | true => cases z
    | false => exact g1 rfl
  · rw [n1] at hq
    split at hq
    · rename_i z
      cases hq
      by_cases y : ∃ j q, dNm wd A j = some q ∧ q.1 = i
      · obtain ⟨j, q, q1, q2⟩ := y
        have := g2 v n (vn v hv) (vn n hn) j q q1
        rw [(hd j q q1).2.2, q2] at this
        exact this
      · have : D v n i = n i := g3 v n i (fun j q q1 q2 => absurd ⟨j, q, q1, q2⟩ y)
        show Fw (D v n i) (A.1 1 i)
        rw [this]
        exact hn i (i, A.1 1 i) (by rw [n1, if_pos z])
    · cases hq
  · refine g3 v n d (fun i q q1 q2 => ?_)
    obtain ⟨d1, d2, d3⟩ := hd i q q1
    rw [q2] at d1 d2
    unfold dRf dRg
    rw [Bool.or_eq_false_iff]
    refine ⟨decide_eq_false (fun z => hd2 ((r1 d).mpr ⟨d1, d2, z⟩)), decide_eq_false (fun z => ?_)⟩
    omega
  · rw [e0 12 (by decide), e0 41 (by decide), e0 42 (by decide)]
    exact h.2
theorem JClP (hV : Vb tk vl wi) (hn : nt ≤ 12001) : ClP tk pl vl wi wd nt N JP JQ := by
  refine ⟨fun A t u w k hW h _ _ _ => ?_, fun A d x h => h.tu (by decide), fun A t t0 d t2 t1 L C hW h hd hdr h4 hx => ?_, fun A t t2 t1 S b D C hW ht h e => Jalw hV hn hW ht h e, fun A t t2 w t1 L C C' hW h hx => ?_, fun A t t0 m t1 hW h hm _ => h.1.it h.2 (dMod_in hm).1, fun A t m t0 p t2 t1 L C hW hm h hp hu k0 hx => ?_, fun A t m t0 p t2 s L C hW hm h hp k2 hu k0 k4 hx hs hdr h4 => ?_, fun A t m hW hm h hO => JA.itE h hO⟩
  · obtain ⟨a1, a2, a3, a4, a5, a6, a7⟩ := dAdd_t (A := A) (u := u) (w := w) (k := k)
    exact ⟨h.1.add a1 a2 a3 a4 a5 a6 a7, by rw [a1 12 (by decide), a1 41 (by decide), a1 42 (by decide)]; exact h.2⟩
  · have i := dHere_in hW hd
    have e0 : ∀ j, j ∉ [4, 47] → (tu (uu (tu A 4 d 1) 0 d L) 47 0 (A.1 47 0 + C)).1 j = A.1 j := fun j hj => by
      simp only [List.mem_cons, List.not_mem_nil, or_false, not_or] at hj
      rw [tu_k (by omega), uu1, tu_k (by omega)]
    refine ⟨h.1.asg (d := d) (w := 0) (L := L) e0 (fun i => by simp only [tu1, tu2, uu1, uu2, uu3, vu1, vu2, vu3, su1, su2, Nat.reduceEqDiff, false_and, true_and, reduceIte, Bool.false_eq_true, if_true, if_false]) (fun i => by simp only [tu1, tu2, uu1, uu2, uu3, vu1, vu2, vu3, su1, su2, Nat.reduceEqDiff, false_and, true_and, reduceIte, Bool.false_eq_true, if_true, if_false]) (fun k hk => ?_) rfl i.1 (h.1.1.here h.1.2.2.2.2.2.2 i.1 i.2.1) (dDrv_k hdr) h4 (dX_G hV hW h.1.1 h.1.2.2.2.2.2.2 hx), by rw [e0 12 (by decide), e0 41 (by decide), e0 42 (by decide)]; exact h.2⟩
    funext j
    simp only [hk, tu1, tu2, uu1, uu2, uu3, vu1, vu2, vu3, su1, su2, Nat.reduceEqDiff, false_and, true_and, reduceIte, Bool.false_eq_true, if_true, if_false]
  · have e0 : ∀ j, j ∉ [15, 16, 19, 38, 43, 45, 47] → (dAss A L C').1 j = A.1 j := fun j hj => by
      simp only [List.mem_cons, List.not_mem_nil, or_false, not_or] at hj
      unfold dAss
      rw [tu_k (by omega), tu_k (by omega), tu_k (by omega), tu_k (by omega), tu_k (by omega), tu_k (by omega), tu_k (by omega), uu1]
    have e43 : (dAss A L C').1 43 0 = A.1 43 0 + 1 := by unfold dAss; simp only [tu1, tu2, uu1, uu2, uu3, vu1, vu2, vu3, su1, su2, Nat.reduceEqDiff, false_and, true_and, reduceIte, Bool.false_eq_true, if_true, if_false]
    have e45 : (dAss A L C').1 45 0 = A.1 45 0 + 1 := by unfold dAss; simp only [tu1, tu2, uu1, uu2, uu3, vu1, vu2, vu3, su1, su2, Nat.reduceEqDiff, false_and, true_and, reduceIte, Bool.false_eq_true, if_true, if_false]
    refine ⟨h.1.ass (w := w) (L := L) e0 e43 (fun a => by unfold dAss; simp only [tu1, tu2, uu1, uu2, uu3, vu1, vu2, vu3, su1, su2, Nat.reduceEqDiff, false_and, true_and, reduceIte, Bool.false_eq_true, if_true, if_false]) (fun a => by unfold dAss; simp only [tu1, tu2, uu1, uu2, uu3, vu1, vu2, vu3, su1, su2, Nat.reduceEqDiff, false_and, true_and, reduceIte, Bool.false_eq_true, if_true, if_false]) (fun a => by unfold dAss; simp only [tu1, tu2, uu1, uu2, uu3, vu1, vu2, vu3, su1, su2, Nat.reduceEqDiff, false_and, true_and, reduceIte, Bool.false_eq_true, if_true, if_false]) (fun k hk => by funext j; unfold dAss; simp only [hk, tu1, tu2, uu1, uu2, uu3, vu1, vu2, vu3, su1, su2, Nat.reduceEqDiff, false_and, true_and, reduceIte, Bool.false_eq_true, if_true, if_false]) rfl (h.1.2.2.2.2.2.1.more (x := 1) (y := A.1 43 0) h.1.2.2.2.2.2.2 (fun k hk => e0 k (by revert hk; simp only [List.mem_cons, List.not_mem_nil, or_false, not_or]; omega)) e45 (fun p => by unfold dAss; simp only [tu1, tu2, uu1, uu2, uu3, vu1, vu2, vu3, su1, su2, Nat.reduceEqDiff, false_and, true_and, reduceIte, Bool.false_eq_true, if_true, if_false]) (fun p => by unfold dAss; simp only [tu1, tu2, uu1, uu2, uu3, vu1, vu2, vu3, su1, su2, Nat.reduceEqDiff, false_and, true_and, reduceIte, Bool.false_eq_true, if_true, if_false]) (fun a _ => by rw [e0 17 (by decide)]) (Or.inl ⟨rfl, rfl, e43, by rw [e0 44 (by decide)]⟩)) (by omega) (dX_G hV hW h.1.1 h.1.2.2.2.2.2.2 hx), by rw [e0 12 (by decide), e0 41 (by decide), e0 42 (by decide)]; exact h.2⟩
  · have i := dPrt_in hW hm hp
    have q10 := h.2.2.1
    have e0 : ∀ j, j ∉ [4, 6, 7, 13, 14, 18, 36, 37, 42, 47] → (dLi A p L C).1 j = A.1 j := fun j hj => by
      simp only [List.mem_cons, List.not_mem_nil, or_false, not_or] at hj
      unfold dLi
      rw [tu_k (by omega), tu_k (by omega), tu_k (by omega), uu1, tu_k (by omega), tu_k (by omega), tu_k (by omega), tu_k (by omega)]
    refine JA.lnk (p := p) (y := 0) (w := A.1 1 p) (L := L) h e0 (by unfold dLi; simp only [tu1, tu2, uu1, uu2, uu3, vu1, vu2, vu3, su1, su2, Nat.reduceEqDiff, false_and, true_and, reduceIte, Bool.false_eq_true, if_true, if_false]) (fun k => by unfold dLi; simp only [tu1, tu2, uu1, uu2, uu3, vu1, vu2, vu3, su1, su2, Nat.reduceEqDiff, false_and, true_and, reduceIte, Bool.false_eq_true, if_true, if_false]) (fun k => by unfold dLi; simp only [tu1, tu2, uu1, uu2, uu3, vu1, vu2, vu3, su1, su2, Nat.reduceEqDiff, false_and, true_and, reduceIte, Bool.false_eq_true, if_true, if_false]) (fun k => by unfold dLi; simp only [tu1, tu2, uu1, uu2, uu3, vu1, vu2, vu3, su1, su2, Nat.reduceEqDiff, false_and, true_and, reduceIte, Bool.false_eq_true, if_true, if_false]) (fun k => by unfold dLi; simp only [tu1, tu2, uu1, uu2, uu3, vu1, vu2, vu3, su1, su2, Nat.reduceEqDiff, false_and, true_and, reduceIte, Bool.false_eq_true, if_true, if_false]) (fun k => by rw [← q10]; unfold dLi; simp only [tu1, tu2, uu1, uu2, uu3, vu1, vu2, vu3, su1, su2, Nat.reduceEqDiff, false_and, true_and, reduceIte, Bool.false_eq_true, if_true, if_false]) (fun k => by unfold dLi; simp only [tu1, tu2, uu1, uu2, uu3, vu1, vu2, vu3, su1, su2, Nat.reduceEqDiff, false_and, true_and, reduceIte, Bool.false_eq_true, if_true, if_false]) (fun k hk => by funext j; unfold dLi; simp only [hk, tu1, tu2, uu1, uu2, uu3, vu1, vu2, vu3, su1, su2, Nat.reduceEqDiff, false_and, true_and, reduceIte, Bool.false_eq_true, if_true, if_false]) rfl (Or.inl ⟨rfl, k0, dX_G hV hW h.1.1 h.1.2.2.2.2.2.2 hx, ?_, ?_, ?_⟩) ⟨i.2.1, i.2.2.1, i.1, by omega⟩ hu
    · funext d; unfold dLi; simp only [tu1, tu2, uu1, uu2, uu3, vu1, vu2, vu3, su1, su2, Nat.reduceEqDiff, false_and, true_and, reduceIte, Bool.false_eq_true, if_true, if_false]
    · funext d; unfold dLi; simp only [tu1, tu2, uu1, uu2, uu3, vu1, vu2, vu3, su1, su2, Nat.reduceEqDiff, false_and, true_and, reduceIte, Bool.false_eq_true, if_true, if_false]
    · funext d; unfold dLi; simp only [tu1, tu2, uu1, uu2, uu3, vu1, vu2, vu3, su1, su2, Nat.reduceEqDiff, false_and, true_and, reduceIte, Bool.false_eq_true, if_true, if_false]
  · have i := dPrt_in hW hm hp
    have is := dHere_in hW hs
    have wE : A.1 1 s = A.1 1 p := by
      obtain ⟨e1, -⟩ := dX_in hx
      unfold eF at e1
      match er : eE tk pl vl wi (dNm wd A) nt N t2 with
      | none => rw [er] at e1; cases e1
      | some (.inl f) => rw [er] at e1; cases e1
      | some (.inr q) =>
        rw [er] at e1
        dsimp only at e1
        split at e1
        · cases e1
          exact (eE_name k4 (show dNm wd A t2 = some (s, A.1 1 s) by unfold dNm; rw [hs]; rfl) er).symm
        · cases e1
    have q10 := h.2.2.1
    have e0 : ∀ j, j ∉ [4, 6, 7, 13, 14, 18, 36, 37, 42, 47] → (dLo A p s L C).1 j = A.1 j := fun j hj => by
      simp only [List.mem_cons, List.not_mem_nil, or_false, not_or] at hj
      unfold dLo
      rw [tu_k (by omega), tu_k (by omega), tu_k (by omega), tu_k (by omega), tu_k (by omega), tu_k (by omega), uu1, tu_k (by omega), tu_k (by omega), tu_k (by omega), tu_k (by omega)]
    exact JA.lnk (p := p) (y := s + 1) (w := A.1 1 p) (L := L) h e0 (by unfold dLo; simp only [tu1, tu2, uu1, uu2, uu3, vu1, vu2, vu3, su1, su2, Nat.reduceEqDiff, false_and, true_and, reduceIte, Bool.false_eq_true, if_true, if_false]) (fun k => by unfold dLo; simp only [tu1, tu2, uu1, uu2, uu3, vu1, vu2, vu3, su1, su2, Nat.reduceEqDiff, false_and, true_and, reduceIte, Bool.false_eq_true, if_true, if_false]) (fun k => by unfold dLo; simp only [tu1, tu2, uu1, uu2, uu3, vu1, vu2, vu3, su1, su2, Nat.reduceEqDiff, false_and, true_and, reduceIte, Bool.false_eq_true, if_true, if_false]) (fun k => by unfold dLo; simp only [tu1, tu2, uu1, uu2, uu3, vu1, vu2, vu3, su1, su2, Nat.reduceEqDiff, false_and, true_and, reduceIte, Bool.false_eq_true, if_true, if_false]) (fun k => by unfold dLo; simp only [tu1, tu2, uu1, uu2, uu3, vu1, vu2, vu3, su1, su2, Nat.reduceEqDiff, false_and, true_and, reduceIte, Bool.false_eq_true, if_true, if_false]) (fun k => by rw [← q10]; unfold dLo; simp only [tu1, tu2, uu1, uu2, uu3, vu1, vu2, vu3, su1, su2, Nat.reduceEqDiff, false_and, true_and, reduceIte, Bool.false_eq_true, if_true, if_false]) (fun k => by unfold dLo; simp only [tu1, tu2, uu1, uu2, uu3, vu1, vu2, vu3, su1, su2, Nat.reduceEqDiff, false_and, true_and, reduceIte, Bool.false_eq_true, if_true, if_false]) (fun k hk => by funext j; unfold dLo; simp only [hk, tu1, tu2, uu1, uu2, uu3, vu1, vu2, vu3, su1, su2, Nat.reduceEqDiff, false_and, true_and, reduceIte, Bool.false_eq_true, if_true, if_false]) rfl (Or.inr ⟨s, rfl, k0, is.1, h.1.1.here h.1.2.2.2.2.2.2 is.1 is.2.1, dDrv_k hdr, h4, wE, fun d => by unfold dLo; simp only [tu1, tu2, uu1, uu2, uu3, vu1, vu2, vu3, su1, su2, Nat.reduceEqDiff, false_and, true_and, reduceIte, Bool.false_eq_true, if_true, if_false], fun d => by unfold dLo; simp only [tu1, tu2, uu1, uu2, uu3, vu1, vu2, vu3, su1, su2, Nat.reduceEqDiff, false_and, true_and, reduceIte, Bool.false_eq_true, if_true, if_false], fun d => by unfold dLo; simp only [tu1, tu2, uu1, uu2, uu3, vu1, vu2, vu3, su1, su2, Nat.reduceEqDiff, false_and, true_and, reduceIte, Bool.false_eq_true, if_true, if_false]⟩) ⟨i.2.1, i.2.2.1, i.1, k2⟩ hu
/-- a module begins -/
theorem JB.beg {u : Nat} (h : JB A) : JP (dBeg A u) := by
  obtain ⟨h1, b1, b2, b3, b4, b5⟩ := h
  refine h1.same (fun k hk => ?_) rfl
  funext i
  have tv : ∀ (j : Nat) (B : ds) (x : Nat), x = B.1 j (A.1 46 0) → (tu B j (A.1 46 0) x).1 k i = B.1 k i := fun j B x hx => by
    rw [tu1]
    split
    · rename_i z; rw [z.1, z.2, hx]
    · rfl
  unfold dBeg dFirsts
  have n20 : k ≠ 20 := fun z => by subst z; revert hk; decide
  have n47 : k ≠ 47 := fun z => by subst z; revert hk; decide
  have n26 : k ≠ 26 := fun z => by subst z; revert hk; decide
  rw [tu_k n26, tu_k n47, tu_k n20, tv 25 _ _ (by simp only [tu1, tu2, uu1, uu2, uu3, vu1, vu2, vu3, su1, su2, Nat.reduceEqDiff, false_and, true_and, reduceIte, Bool.false_eq_true, if_true, if_false]; exact b5.symm), tv 24 _ _ (by simp only [tu1, tu2, uu1, uu2, uu3, vu1, vu2, vu3, su1, su2, Nat.reduceEqDiff, false_and, true_and, reduceIte, Bool.false_eq_true, if_true, if_false]; exact b4.symm), tv 23 _ _ (by simp only [tu1, tu2, uu1, uu2, uu3, vu1, vu2, vu3, su1, su2, Nat.reduceEqDiff, false_and, true_and, reduceIte, Bool.false_eq_true, if_true, if_false]; exact b3.symm), tv 22 _ _ (by simp only [tu1, tu2, uu1, uu2, uu3, vu1, vu2, vu3, su1, su2, Nat.reduceEqDiff, false_and, true_and, reduceIte, Bool.false_eq_true, if_true, if_false]; exact b2.symm), tv 21 _ _ (by exact b1.symm)]
/-- a module ends -/
theorem JP.fin (h : JP A) (hu : dUnd A = none) : JB (dEnd A) := by
  have e : ∀ j, j ∉ [21, 22, 23, 24, 25, 27, 28, 29, 30, 31, 46] → (dEnd A).1 j = A.1 j := fun j hj => by
    simp only [List.mem_cons, List.not_mem_nil, or_false, not_or] at hj
    unfold dEnd dFirsts
    rw [tu_k (by omega), tu_k (by omega), tu_k (by omega), tu_k (by omega), tu_k (by omega), tu_k (by omega), tu_k (by omega), tu_k (by omega), tu_k (by omega), tu_k (by omega), tu_k (by omega)]
  have e46 : (dEnd A).1 46 0 = A.1 46 0 + 1 := by unfold dEnd dFirsts; simp only [tu1, tu2, uu1, uu2, uu3, vu1, vu2, vu3, su1, su2, Nat.reduceEqDiff, false_and, true_and, reduceIte, Bool.false_eq_true, if_true, if_false]
  have e21 : ∀ m, (dEnd A).1 21 m = if m = A.1 46 0 + 1 then A.1 40 0 else A.1 21 m := fun m => by unfold dEnd dFirsts; simp only [tu1, tu2, uu1, uu2, uu3, vu1, vu2, vu3, su1, su2, Nat.reduceEqDiff, false_and, true_and, reduceIte, Bool.false_eq_true, if_true, if_false]
  have e22 : ∀ m, (dEnd A).1 22 m = if m = A.1 46 0 + 1 then A.1 41 0 else A.1 22 m := fun m => by unfold dEnd dFirsts; simp only [tu1, tu2, uu1, uu2, uu3, vu1, vu2, vu3, su1, su2, Nat.reduceEqDiff, false_and, true_and, reduceIte, Bool.false_eq_true, if_true, if_false]
  have e23 : ∀ m, (dEnd A).1 23 m = if m = A.1 46 0 + 1 then A.1 43 0 else A.1 23 m := fun m => by unfold dEnd dFirsts; simp only [tu1, tu2, uu1, uu2, uu3, vu1, vu2, vu3, su1, su2, Nat.reduceEqDiff, false_and, true_and, reduceIte, Bool.false_eq_true, if_true, if_false]
  have e24 : ∀ m, (dEnd A).1 24 m = if m = A.1 46 0 + 1 then A.1 44 0 else A.1 24 m := fun m => by unfold dEnd dFirsts; simp only [tu1, tu2, uu1, uu2, uu3, vu1, vu2, vu3, su1, su2, Nat.reduceEqDiff, false_and, true_and, reduceIte, Bool.false_eq_true, if_true, if_false]
  have e25 : ∀ m, (dEnd A).1 25 m = if m = A.1 46 0 + 1 then A.1 45 0 else A.1 25 m := fun m => by unfold dEnd dFirsts; simp only [tu1, tu2, uu1, uu2, uu3, vu1, vu2, vu3, su1, su2, Nat.reduceEqDiff, false_and, true_and, reduceIte, Bool.false_eq_true, if_true, if_false]
  have e29 : ∀ m, (dEnd A).1 29 m = if m = A.1 46 0 then A.1 40 0 - A.1 21 (A.1 46 0) + dSum A 29 else A.1 29 m := fun m => by unfold dEnd dFirsts dSum; simp only [tu1, tu2, uu1, uu2, uu3, vu1, vu2, vu3, su1, su2, Nat.reduceEqDiff, false_and, true_and, reduceIte, Bool.false_eq_true, if_true, if_false]
  have e30 : ∀ m, (dEnd A).1 30 m = if m = A.1 46 0 then A.1 41 0 - A.1 22 (A.1 46 0) + dSum A 30 else A.1 30 m := fun m => by unfold dEnd dFirsts dSum; simp only [tu1, tu2, uu1, uu2, uu3, vu1, vu2, vu3, su1, su2, Nat.reduceEqDiff, false_and, true_and, reduceIte, Bool.false_eq_true, if_true, if_false]
  have e31 : ∀ m, (dEnd A).1 31 m = if m = A.1 46 0 then A.1 43 0 - A.1 23 (A.1 46 0) + dSum A 31 else A.1 31 m := fun m => by unfold dEnd dFirsts dSum; simp only [tu1, tu2, uu1, uu2, uu3, vu1, vu2, vu3, su1, su2, Nat.reduceEqDiff, false_and, true_and, reduceIte, Bool.false_eq_true, if_true, if_false]
  have eL : (dEnd A).2 = A.2 := rfl
  generalize dEnd A = A' at *
  have en1 : ∀ k c m, (∀ m, A'.1 k m = if m = A.1 46 0 + 1 then A.1 c 0 else A.1 k m) → m ≤ A.1 46 0 → en A' k c m = en A k c m := fun k c m hk hm => by
    unfold en
    rw [e46, if_pos (by omega), hk]
    by_cases z : m = A.1 46 0
    · rw [if_pos (by omega), if_neg (by omega)]
    · rw [if_neg (by omega), if_pos (by omega)]
  have xm : ∀ m L w, XG A m L w → XG A' m L w := fun m L w x => x.mono (by rw [e 40 (by decide)]; exact Nat.le_refl _) (fun i _ => by rw [e 8 (by decide), e 1 (by decide)]; exact ⟨rfl, rfl⟩)
  obtain ⟨⟨hN, hI, hL, hS, hW, hP, hM⟩, h12⟩ := h
  obtain ⟨⟨b1, b2, b3, b4, b5⟩, c1, c2, c3, c4, c5⟩ := id hM
  refine ⟨⟨⟨?_, ?_, ?_, ?_, ?_, ?_, ?_⟩, ?_⟩, ?_, ?_, ?_, ?_, ?_⟩
  · intro d hd
    rw [e 40 (by decide)] at hd
    obtain ⟨a1, a2, a3, a4, a5, a6, a7, a8, a9⟩ := hN d hd
    rw [e 8 (by decide), en1 21 40 _ e21 a1, e46, e 35 (by decide), e21, if_neg (by omega), e 4 (by decide), e 2 (by decide), e 1 (by decide), e 42 (by decide), e 14 (by decide), e 18 (by decide), e 6 (by decide), e 13 (by decide), e 7 (by decide), eL]
    refine ⟨by omega, a2, a3, a4, a5, a6, fun y1 y2 => ?_, fun y => xm _ _ _ (a8 y), a9⟩
    by_cases z : A.1 8 d < A.1 46 0
    · exact a7 z y2
    · have z2 : A.1 8 d = A.1 46 0 := by omega
      intro y3
      unfold dUnd at hu
      rw [z2] at a3
      have := fnd_none hu d a3 (by omega)
      have := of_decide_eq_false this
      exact this ⟨decide_eq_true y2, y3⟩
  · intro i hi
    rw [e 41 (by decide)] at hi
    have l := c5 i hi
    obtain ⟨a1, a2, a3, a4, a5⟩ := hI i hi
    rw [e 9 (by decide), e 10 (by decide), en1 22 41 _ e22 a1, e46, e22, if_neg (by omega), e21, if_neg (by omega), e21, if_neg (by omega), e 2 (by decide), e 42 (by decide), e 18 (by decide), e 13 (by decide)]
    exact ⟨by omega, a2, a3, a4, a5⟩
  · intro k hk
    rw [e 42 (by decide)] at hk
    obtain ⟨a1, a2, a3, a4, a5, a6, a7, a8, a9, a10, a11, a12, a13, a14, a15⟩ := hL k hk
    unfold le1 at *
    rw [e 18 (by decide), e 9 (by decide), e 10 (by decide), e46, e 41 (by decide), e21, if_neg (show ¬ A.1 9 (A.1 18 k) = A.1 46 0 + 1 by omega), e21, if_neg (show ¬ A.1 10 (A.1 18 k) = A.1 46 0 + 1 by omega), e21, if_neg (show ¬ A.1 10 (A.1 18 k) + 1 = A.1 46 0 + 1 by omega), e 42 (by decide), e 13 (by decide), e 12 (by decide), e 36 (by decide), e 37 (by decide), e 14 (by decide), e 6 (by decide), e 7 (by decide), e 2 (by decide), e 1 (by decide), e 40 (by decide), e 8 (by decide), e 4 (by decide), eL]
    exact ⟨a1, a2, a3, by omega, a5, a6, a7, a8, a9, a10, a11, a12, fun z => xm _ _ _ (a13 z), a14, a15⟩
  · intro a ha
    rw [e 43 (by decide)] at ha
    obtain ⟨a1, a2, a3, a4, w, a5⟩ := hS a ha
    rw [e 19 (by decide), en1 23 43 _ e23 a1, e46, e23, if_neg (by omega), e 38 (by decide), e21, if_neg (by omega), eL]
    exact ⟨by omega, a2, a3, a4, w, xm _ _ _ a5⟩
  · intro a ha
    rw [e 44 (by decide)] at ha
    obtain ⟨a1, a2, a3, a4, a5, a6, a7, a8, a9, a10⟩ := hW a ha
    have n1 : nmA A' a = nmA A a := by
      funext i
      unfold nmA
      rw [e 34 (by decide), e 33 (by decide), e 1 (by decide)]
    have n2 : ∀ d, rgA A' a d ↔ rgA A a d := by
      intro d
      unfold rgA
      rw [e 34 (by decide), e 33 (by decide), e 2 (by decide)]
    rw [n1, e 32 (by decide), en1 24 44 _ e24 a1, en1 21 40 _ e21 a1, e46, e24, if_neg (by omega), e 34 (by decide), e21, if_neg (by omega), e 33 (by decide), e 40 (by decide), e 17 (by decide), eL]
    exact ⟨by omega, a2, a3, a4, a5, a6, a7, a8, a9, fun v n d hd => a10 v n d (fun y => hd ((n2 d).mpr y))⟩
  · intro m hm
    rw [e46] at hm
    by_cases z : m = A.1 46 0 + 1
    · subst z
      unfold en
      rw [e46, if_neg (Nat.lt_irrefl _), if_neg (Nat.lt_irrefl _), if_neg (Nat.lt_irrefl _), e25, e23, e24, if_pos rfl, if_pos rfl, if_pos rfl, e 45 (by decide), e 43 (by decide), e 44 (by decide), Nat.sub_self, Nat.sub_self, Nat.sub_self]
      exact ⟨rfl, rfl⟩
    · rw [en1 25 45 m e25 (by omega), en1 23 43 m e23 (by omega), en1 24 44 m e24 (by omega), e25, e23, e24, if_neg z, if_neg z, if_neg z, e 15 (by decide), e 16 (by decide), e 17 (by decide)]
      exact hP m (by omega)
  · refine ⟨?_, fun m hm => ?_, fun m hm => ?_, ?_, ?_, fun i hi => ?_⟩
    · rw [e46, e21, e22, e23, e24, e25, if_pos rfl, if_pos rfl, if_pos rfl, if_pos rfl, if_pos rfl, e 40 (by decide), e 41 (by decide), e 43 (by decide), e 44 (by decide), e 45 (by decide)]
      exact ⟨Nat.le_refl _, Nat.le_refl _, Nat.le_refl _, Nat.le_refl _, Nat.le_refl _⟩
    · rw [e46] at hm
      by_cases z : m = A.1 46 0
      · subst z
        have sI : ∀ k, (∀ m, m ≠ A.1 46 0 → A'.1 k m = A.1 k m) → sumI A' k (A.1 46 0) = dSum A k := fun k hk => by
          unfold sumI dSum
          rw [e22, if_pos rfl, e22, if_neg (by omega), e 10 (by decide)]
          refine sumF_congr (fun i i1 i2 => ?_)
          exact hk _ (by have := c5 i (by omega); omega)
        rw [sI 29 (fun m hm => by rw [e29, if_neg hm]), sI 30 (fun m hm => by rw [e30, if_neg hm]), sI 31 (fun m hm => by rw [e31, if_neg hm]), e29, e30, e31, if_pos rfl, if_pos rfl, if_pos rfl]
        rw [e21, e21, e22, e22, e23, e23, e24, e24, e25, e25, if_pos rfl, if_pos rfl, if_pos rfl, if_pos rfl, if_pos rfl, if_neg (by omega), if_neg (by omega), if_neg (by omega), if_neg (by omega), if_neg (by omega)]
        exact ⟨⟨b1, b2, b3, b4, b5⟩, rfl, rfl, rfl⟩
      · have hm2 : m < A.1 46 0 := by omega
        have q := c1 m hm2
        have q2 := (c2 (m + 1) (by omega)).2.1
        have sI : ∀ k, (∀ m, m ≠ A.1 46 0 → A'.1 k m = A.1 k m) → sumI A' k m = sumI A k m := fun k hk => by
          unfold sumI
          rw [e22, if_neg (by omega), e22, if_neg (by omega), e 10 (by decide)]
          refine sumF_congr (fun i i1 i2 => ?_)
          exact hk _ (by have := c5 i (by have := q.1.2.1; omega); omega)
        rw [sI 29 (fun m hm => by rw [e29, if_neg hm]), sI 30 (fun m hm => by rw [e30, if_neg hm]), sI 31 (fun m hm => by rw [e31, if_neg hm]), e29, e30, e31, if_neg z, if_neg z, if_neg z]
        rw [e21, e21, e22, e22, e23, e23, e24, e24, e25, e25, if_neg (by omega), if_neg (by omega), if_neg (by omega), if_neg (by omega), if_neg (by omega), if_neg (by omega), if_neg (by omega), if_neg (by omega), if_neg (by omega), if_neg (by omega)]
        exact q
    · rw [e46] at hm
      rw [e46, e21, e21, e22, e22, e23, e23, e24, e24, e25, e25, if_pos rfl, if_pos rfl, if_pos rfl, if_pos rfl, if_pos rfl]
      by_cases z : m = A.1 46 0 + 1
      · rw [if_pos z, if_pos z, if_pos z, if_pos z, if_pos z]
        exact ⟨Nat.le_refl _, Nat.le_refl _, Nat.le_refl _, Nat.le_refl _, Nat.le_refl _⟩
      · rw [if_neg z, if_neg z, if_neg z, if_neg z, if_neg z]
        have := c2 m (by omega)
        omega
    · rw [e 12 (by decide), e 41 (by decide), e 42 (by decide)]; exact c3
    · rw [e 12 (by decide), e 41 (by decide)]; exact c4
    · rw [e 41 (by decide)] at hi
      rw [e 10 (by decide), e46]
      have := c5 i hi
      omega
  · rw [e 12 (by decide), e 41 (by decide), e 42 (by decide)]; exact h12
  · rw [e46, e21, if_pos rfl, e 40 (by decide)]
  · rw [e46, e22, if_pos rfl, e 41 (by decide)]
  · rw [e46, e23, if_pos rfl, e 43 (by decide)]
  · rw [e46, e24, if_pos rfl, e 44 (by decide)]
  · rw [e46, e25, if_pos rfl, e 45 (by decide)]
theorem JB0 : JB dA0 := by
  refine ⟨⟨⟨fun d hd => (by cases hd), fun i hi => (by cases hi), fun k hk => (by cases hk), fun a ha => (by cases ha), fun a ha => (by cases ha), fun m hm => ⟨rfl, rfl⟩, ?_⟩, rfl⟩, rfl, rfl, rfl, rfl, rfl⟩
  exact ⟨⟨Nat.le_refl _, Nat.le_refl _, Nat.le_refl _, Nat.le_refl _, Nat.le_refl _⟩, fun m hm => (by cases hm), fun m hm => ⟨Nat.le_refl _, Nat.le_refl _, Nat.le_refl _, Nat.le_refl _, Nat.le_refl _⟩, Nat.le_refl _, fun i hi => (by cases hi), fun i hi => (by cases hi)⟩
/-- a design, whole -/
theorem design_J {n t' : Nat} (hV : Vb tk vl wi) (hn : nt ≤ 12001) (h0 : WF tk nt dA0 0) (e : dDesign tk pl vl wi wd nt N n 0 dA0 = some (.inr (t', A'))) : JB A' ∧ WF tk nt A' t' :=
  dDesign_ind hV (JClP hV hn) (fun A t u _ h => h.beg) (fun A x h => h.tu (by decide)) (fun A t _ h hu => h.fin hu) n 0 dA0 h0 JB0 t' A' e
end DALL
