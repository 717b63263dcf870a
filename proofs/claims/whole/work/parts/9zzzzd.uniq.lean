/-! Items of a module have names of their own. -/
section UNIQ
variable {tk pl vl wi wd : Nat → Nat} {nt N : Nat} {A A' : ds} {t : Nat}
def UQ (wd : Nat → Nat) (A : ds) (n : Nat) : Prop := ∀ i j, i < n → j < n → A.1 9 i = A.1 9 j → wd (A.1 11 i) = wd (A.1 11 j) → i = j
theorem UQ.same {n : Nat} (h : UQ wd A n) (e : A'.1 9 = A.1 9) (e2 : A'.1 11 = A.1 11) : UQ wd A' n := by
  unfold UQ at *
  rw [e, e2]
  exact h
theorem UQ.it {m u : Nat} (hJ : JP A) (h : UQ wd A (A.1 41 0)) (hn : dInst wd A u = none) : UQ wd (dIt A m u) (A.1 41 0 + 1) := by
  have e9 : ∀ i, (dIt A m u).1 9 i = if i = A.1 41 0 then A.1 46 0 else A.1 9 i := fun i => by unfold dIt; simp only [tu1, tu2, uu1, uu2, uu3, vu1, vu2, vu3, su1, su2, Nat.reduceEqDiff, false_and, true_and, reduceIte, Bool.false_eq_true, if_true, if_false]
  have e11 : ∀ i, (dIt A m u).1 11 i = if i = A.1 41 0 then u else A.1 11 i := fun i => by unfold dIt; simp only [tu1, tu2, uu1, uu2, uu3, vu1, vu2, vu3, su1, su2, Nat.reduceEqDiff, false_and, true_and, reduceIte, Bool.false_eq_true, if_true, if_false]
  have no : ∀ i, i < A.1 41 0 → A.1 9 i = A.1 46 0 → wd (A.1 11 i) ≠ wd u := fun i hi h9 z => by
    have := (hJ.1.2.1 i hi).2.2.1
    rw [h9] at this
    have f := fnd_none hn i this (by omega)
    exact (of_decide_eq_false f) z
  intro i j hi hj g1 g2
  rw [e9, e9] at g1
  rw [e11, e11] at g2
  by_cases ci : i = A.1 41 0
  · by_cases cj : j = A.1 41 0
    · omega
    · rw [if_pos ci, if_neg cj] at g1 g2
      exact absurd g2.symm (no j (by omega) g1.symm)
  · by_cases cj : j = A.1 41 0
    · rw [if_neg ci, if_pos cj] at g1 g2
      exact absurd g2 (no i (by omega) g1)
    · rw [if_neg ci, if_neg cj] at g1 g2
      exact h i j (by omega) (by omega) g1 g2
theorem UClP (hV : Vb tk vl wi) (hn : nt ≤ 12001) : ClP tk pl vl wi wd nt N (fun A => JP A ∧ UQ wd A (A.1 41 0)) (fun m A => JQ m A ∧ UQ wd A (A.1 41 0 + 1)) := by
  obtain ⟨c1, c2, c3, c4, c5, c6, c7, c8, c9⟩ := JClP (tk := tk) (pl := pl) (wd := wd) (N := N) hV hn
  refine ⟨fun A t u w k hW h x y z => ⟨c1 A t u w k hW h.1 x y z, ?_⟩, fun A d x h => ⟨c2 A d x h.1, ?_⟩, fun A t t0 d t2 t1 L C hW h hd hdr h4 hx => ⟨c3 A t t0 d t2 t1 L C hW h.1 hd hdr h4 hx, ?_⟩, fun A t t2 t1 S b D C hW ht h e => ⟨c4 A t t2 t1 S b D C hW ht h.1 e, ?_⟩, fun A t t2 w t1 L C C' hW h hx => ⟨c5 A t t2 w t1 L C C' hW h.1 hx, ?_⟩, fun A t t0 m t1 hW h hm ni => ⟨c6 A t t0 m t1 hW h.1 hm ni, ?_⟩, fun A t m t0 p t2 t1 L C hW hm h hp hu k0 hx => ⟨c7 A t m t0 p t2 t1 L C hW hm h.1 hp hu k0 hx, ?_⟩, fun A t m t0 p t2 s L C hW hm h hp k2 hu k0 k4 hx hs hdr h4 => ⟨c8 A t m t0 p t2 s L C hW hm h.1 hp k2 hu k0 k4 hx hs hdr h4, ?_⟩, fun A t m hW hm h hO => ⟨c9 A t m hW hm h.1 hO, ?_⟩⟩
  · have a := (dAdd_t (A := A) (u := u) (w := w) (k := k)).1
    rw [a 41 (by decide)]
    exact h.2.same (a 9 (by decide)) (a 11 (by decide))
  · by_cases z : (tu A 3 d x).1 41 0 = A.1 41 0
    · rw [z]
      exact h.2.same (tu_k (by decide)) (tu_k (by decide))
    · exact absurd (by rw [tu_k (by decide)]) z
  · have e : ∀ j, j ∉ [4, 47] → (tu (uu (tu A 4 d 1) 0 d L) 47 0 (A.1 47 0 + C)).1 j = A.1 j := fun j hj => by
      simp only [List.mem_cons, List.not_mem_nil, or_false, not_or] at hj
      rw [tu_k (by omega), uu1, tu_k (by omega)]
    rw [e 41 (by decide)]
    exact h.2.same (e 9 (by decide)) (e 11 (by decide))
  · have e : ∀ j, j ∈ [9, 11, 41] → (dAlw A S b D C).1 j = A.1 j := fun j hj => by
      simp only [List.mem_cons, List.not_mem_nil, or_false] at hj
      funext i
      unfold dAlw
      rcases hj with rfl | rfl | rfl <;> split <;> simp only [tu1, tu2, uu1, uu2, uu3, vu1, vu2, vu3, su1, su2, Nat.reduceEqDiff, false_and, true_and, reduceIte, Bool.false_eq_true, if_true, if_false]
    rw [e 41 (by decide)]
    exact h.2.same (e 9 (by decide)) (e 11 (by decide))
  · have e : ∀ j, j ∉ [15, 16, 19, 38, 43, 45, 47] → (dAss A L C').1 j = A.1 j := fun j hj => by
      simp only [List.mem_cons, List.not_mem_nil, or_false, not_or] at hj
      unfold dAss
      rw [tu_k (by omega), tu_k (by omega), tu_k (by omega), tu_k (by omega), tu_k (by omega), tu_k (by omega), tu_k (by omega), uu1]
    rw [e 41 (by decide)]
    exact h.2.same (e 9 (by decide)) (e 11 (by decide))
  · have e41 : (dIt A m t1).1 41 0 = A.1 41 0 := by unfold dIt; simp only [tu1, tu2, uu1, uu2, uu3, vu1, vu2, vu3, su1, su2, Nat.reduceEqDiff, false_and, true_and, reduceIte, Bool.false_eq_true, if_true, if_false]
    rw [e41]
    exact UQ.it h.1 h.2 ni
  · have e : ∀ j, j ∈ [9, 11, 41] → (dLi A p L C).1 j = A.1 j := fun j hj => by
      simp only [List.mem_cons, List.not_mem_nil, or_false] at hj
      funext i
      unfold dLi
      rcases hj with rfl | rfl | rfl <;> simp only [tu1, tu2, uu1, uu2, uu3, vu1, vu2, vu3, su1, su2, Nat.reduceEqDiff, false_and, true_and, reduceIte, Bool.false_eq_true, if_true, if_false]
    rw [e 41 (by decide)]
    exact h.2.same (e 9 (by decide)) (e 11 (by decide))
  · have e : ∀ j, j ∈ [9, 11, 41] → (dLo A p s L C).1 j = A.1 j := fun j hj => by
      simp only [List.mem_cons, List.not_mem_nil, or_false] at hj
      funext i
      unfold dLo
      rcases hj with rfl | rfl | rfl <;> simp only [tu1, tu2, uu1, uu2, uu3, vu1, vu2, vu3, su1, su2, Nat.reduceEqDiff, false_and, true_and, reduceIte, Bool.false_eq_true, if_true, if_false]
    rw [e 41 (by decide)]
    exact h.2.same (e 9 (by decide)) (e 11 (by decide))
  · have e41 : (dItE A).1 41 0 = A.1 41 0 + 1 := by unfold dItE; simp only [tu1, tu2, uu1, uu2, uu3, vu1, vu2, vu3, su1, su2, Nat.reduceEqDiff, false_and, true_and, reduceIte, Bool.false_eq_true, if_true, if_false]
    have e9 : (dItE A).1 9 = A.1 9 := by unfold dItE; rw [tu_k (by decide), tu_k (by decide)]
    have e11 : (dItE A).1 11 = A.1 11 := by unfold dItE; rw [tu_k (by decide), tu_k (by decide)]
    rw [e41]
    exact h.2.same e9 e11
/-- names of items, and of modules that stand -/
theorem design_U {n t' : Nat} (hV : Vb tk vl wi) (hn : nt ≤ 12001) (e : dDesign tk pl vl wi wd nt N n 0 dA0 = some (.inr (t', A'))) : UQ wd A' (A'.1 41 0) := by
  refine (dDesign_ind (B := fun A => JB A ∧ UQ wd A (A.1 41 0)) hV (UClP hV hn) (fun A t u _ h => ⟨h.1.beg, ?_⟩) (fun A x h => ⟨h.1.tu (by decide), ?_⟩) (fun A t _ h hu => ⟨h.1.fin hu, ?_⟩) n 0 dA0 WF0 ⟨JB0, fun i j hi => absurd hi (Nat.not_lt_zero _)⟩ t' A' e).1.2
  · have e : ∀ j, j ∈ [9, 11, 41] → (dBeg A u).1 j = A.1 j := fun j hj => by
      simp only [List.mem_cons, List.not_mem_nil, or_false] at hj
      funext i
      unfold dBeg dFirsts
      rcases hj with rfl | rfl | rfl <;> simp only [tu1, tu2, uu1, uu2, uu3, vu1, vu2, vu3, su1, su2, Nat.reduceEqDiff, false_and, true_and, reduceIte, Bool.false_eq_true, if_true, if_false]
    rw [e 41 (by decide)]
    exact h.2.same (e 9 (by decide)) (e 11 (by decide))
  · rw [tu_k (by decide)]
    exact h.2.same (tu_k (by decide)) (tu_k (by decide))
  · have e : ∀ j, j ∈ [9, 11, 41] → (dEnd A).1 j = A.1 j := fun j hj => by
      simp only [List.mem_cons, List.not_mem_nil, or_false] at hj
      funext i
      unfold dEnd dFirsts
      rcases hj with rfl | rfl | rfl <;> simp only [tu1, tu2, uu1, uu2, uu3, vu1, vu2, vu3, su1, su2, Nat.reduceEqDiff, false_and, true_and, reduceIte, Bool.false_eq_true, if_true, if_false]
    rw [e 41 (by decide)]
    exact h.2.same (e 9 (by decide)) (e 11 (by decide))
end UNIQ
