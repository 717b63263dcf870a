/-! Designs: every step keeps it. -/
theorem rng_succ (a n : Nat) : rng a (n + 1) = rng a n ++ [a + n] := by
  unfold rng
  rw [List.range_succ, List.map_append]
  rfl
theorem mem_rng {a n x : Nat} (h : x ∈ rng a n) : a ≤ x ∧ x < a + n := by
  unfold rng at h
  obtain ⟨i, h1, h2⟩ := List.mem_map.mp h
  have := List.mem_range.mp h1
  omega
theorem rng_zero (a : Nat) : rng a 0 = [] := rfl
section DSTEP
variable {tk pl vl wi wd : Nat → Nat} {nt N : Nat} {A A' : ds} {t m : Nat}
theorem dAdd_t {u w k : Nat} : (∀ j, j ∉ [0, 1, 2, 3, 4, 5, 8, 35, 40] → (dAdd A u w k).1 j = A.1 j) ∧ (∀ j, j ∈ [0, 1, 2, 3, 4, 5, 8, 35] → ∀ d, d ≠ A.1 40 0 → (dAdd A u w k).1 j d = A.1 j d) ∧ (dAdd A u w k).1 40 0 = A.1 40 0 + 1 ∧ (dAdd A u w k).1 4 (A.1 40 0) = 0 ∧ (dAdd A u w k).1 8 (A.1 40 0) = A.1 46 0 ∧ (dAdd A u w k).1 35 (A.1 40 0) = A.1 21 (A.1 46 0) ∧ (dAdd A u w k).2 = A.2 := by
  refine ⟨fun j hj => ?_, fun j hj d hd => ?_, ?_, ?_, ?_, ?_, rfl⟩
  · simp only [List.mem_cons, List.not_mem_nil, or_false, not_or] at hj
    unfold dAdd
    rw [tu_k (by omega), tu_k (by omega), tu_k (by omega), tu_k (by omega), tu_k (by omega), tu_k (by omega), tu_k (by omega), tu_k (by omega), tu_k (by omega)]
  · simp only [List.mem_cons, List.not_mem_nil, or_false] at hj
    unfold dAdd
    rcases hj with rfl | rfl | rfl | rfl | rfl | rfl | rfl | rfl <;> simp only [hd, tu1, tu2, uu1, uu2, uu3, vu1, vu2, vu3, su1, su2, Nat.reduceEqDiff, false_and, true_and, reduceIte, Bool.false_eq_true, if_true, if_false]
  · unfold dAdd; simp only [tu1, tu2, uu1, uu2, uu3, vu1, vu2, vu3, su1, su2, Nat.reduceEqDiff, false_and, true_and, reduceIte, Bool.false_eq_true, if_true, if_false]
  · unfold dAdd; simp only [tu1, tu2, uu1, uu2, uu3, vu1, vu2, vu3, su1, su2, Nat.reduceEqDiff, false_and, true_and, reduceIte, Bool.false_eq_true, if_true, if_false]
  · unfold dAdd; simp only [tu1, tu2, uu1, uu2, uu3, vu1, vu2, vu3, su1, su2, Nat.reduceEqDiff, false_and, true_and, reduceIte, Bool.false_eq_true, if_true, if_false]
  · unfold dAdd; simp only [tu1, tu2, uu1, uu2, uu3, vu1, vu2, vu3, su1, su2, Nat.reduceEqDiff, false_and, true_and, reduceIte, Bool.false_eq_true, if_true, if_false]
theorem Nv.add (h : Nv A) (hM : Mv A) (e : ∀ j, j ∉ [0, 1, 2, 3, 4, 5, 8, 35, 40] → A'.1 j = A.1 j) (o : ∀ j, j ∈ [0, 1, 2, 3, 4, 5, 8, 35] → ∀ d, d ≠ A.1 40 0 → A'.1 j d = A.1 j d) (e40 : A'.1 40 0 = A.1 40 0 + 1) (e4 : A'.1 4 (A.1 40 0) = 0) (e8 : A'.1 8 (A.1 40 0) = A.1 46 0) (e35 : A'.1 35 (A.1 40 0) = A.1 21 (A.1 46 0)) (eL : A'.2 = A.2) : Nv A' := by
  intro d hd
  rw [e40] at hd
  have m1 := hM.1.1
  unfold en
  rw [e40, e 46 (by decide), e 21 (by decide), e 42 (by decide), e 14 (by decide), e 18 (by decide), e 6 (by decide), e 13 (by decide), e 7 (by decide), eL]
  by_cases z : d = A.1 40 0
  · subst z
    rw [e8, e35, e4, if_neg (Nat.lt_irrefl _)]
    exact ⟨Nat.le_refl _, rfl, m1, by omega, by omega, fun q => absurd rfl q, fun q => absurd q (Nat.lt_irrefl _), fun q => (by cases q), fun q => (by cases q)⟩
  · obtain ⟨a1, a2, a3, a4, a5, a6, a7, a8, a9⟩ := h d (by omega)
    rw [o 8 (by decide) d z, o 35 (by decide) d z, o 4 (by decide) d z, o 2 (by decide) d z, o 1 (by decide) d z]
    refine ⟨a1, a2, a3, ?_, a5, a6, a7, fun q => (a8 q).mono (by omega) (fun i hi => ⟨o 8 (by decide) i (by omega), o 1 (by decide) i (by omega)⟩), a9⟩
    unfold en at a4
    split
    · rename_i y; rw [if_pos y] at a4; exact a4
    · rename_i y; rw [if_neg y] at a4; omega
theorem JA.add (h : JA A) (e : ∀ j, j ∉ [0, 1, 2, 3, 4, 5, 8, 35, 40] → A'.1 j = A.1 j) (o : ∀ j, j ∈ [0, 1, 2, 3, 4, 5, 8, 35] → ∀ d, d ≠ A.1 40 0 → A'.1 j d = A.1 j d) (e40 : A'.1 40 0 = A.1 40 0 + 1) (e4 : A'.1 4 (A.1 40 0) = 0) (e8 : A'.1 8 (A.1 40 0) = A.1 46 0) (e35 : A'.1 35 (A.1 40 0) = A.1 21 (A.1 46 0)) (eL : A'.2 = A.2) : JA A' := by
  obtain ⟨hN, hI, hL, hS, hW, hP, hM⟩ := h
  have x8 : ∀ i, i < A.1 40 0 → A'.1 8 i = A.1 8 i ∧ A'.1 1 i = A.1 1 i := fun i hi => ⟨o 8 (by decide) i (by omega), o 1 (by decide) i (by omega)⟩
  refine ⟨hN.add hM e o e40 e4 e8 e35 eL, ?_, ?_, ?_, ?_, hP.same (fun k hk => e k (by revert hk; simp only [List.mem_cons, List.not_mem_nil, or_false, not_or]; omega)), ?_⟩
  · intro i hi
    rw [e 41 (by decide)] at hi
    obtain ⟨a1, a2, a3, a4, a5⟩ := hI i hi
    unfold en at *
    rw [e 9 (by decide), e 10 (by decide), e 46 (by decide), e 22 (by decide), e 41 (by decide), e 21 (by decide), e 42 (by decide), e 18 (by decide), e 13 (by decide)]
    refine ⟨a1, a2, a3, a4, fun d d1 d2 d3 => a5 d d1 d2 ?_⟩
    have := hM.h21 (A.1 10 i) (hM.2.2.2.2.2 i hi)
    have m1 := hM.1.1
    rw [o 2 (by decide) d (by omega)] at d3
    exact d3
  · intro k hk
    rw [e 42 (by decide)] at hk
    obtain ⟨a1, a2, a3, a4, a5, a6, a7, a8, a9, a10, a11, a12, a13, a14, a15⟩ := hL k hk
    unfold le1 at *
    rw [e 9 (by decide), e 10 (by decide), e 46 (by decide), e 41 (by decide), e 21 (by decide), e 42 (by decide), e 18 (by decide), e 13 (by decide), e 12 (by decide), e 36 (by decide), e 37 (by decide), e 14 (by decide), e 6 (by decide), e 7 (by decide), o 2 (by decide) _ (by omega), o 1 (by decide) _ (by omega), eL]
    refine ⟨a1, a2, a3, a4, a5, a6, a7, a8, a9, by omega, a11, a12, fun z => (a13 z).mono (by omega) x8, fun s z => ?_, a15⟩
    obtain ⟨b1, b2, b3, b4, b5⟩ := a14 s z
    rw [o 8 (by decide) s (by omega), o 4 (by decide) s (by omega), o 1 (by decide) s (by omega)]
    exact ⟨by omega, b2, b3, b4, b5⟩
  · intro a ha
    rw [e 43 (by decide)] at ha
    obtain ⟨a1, a2, a3, a4, w, a5⟩ := hS a ha
    unfold en at *
    rw [e 19 (by decide), e 46 (by decide), e 23 (by decide), e 43 (by decide), e 38 (by decide), e 21 (by decide), eL]
    exact ⟨a1, a2, a3, a4, w, a5.mono (by omega) x8⟩
  · intro a ha
    rw [e 44 (by decide)] at ha
    obtain ⟨a1, a2, a3, a4, a5, a6, a7, a8, a9, a10⟩ := hW a ha
    have n1 : nmA A' a = nmA A a := by
      funext i
      unfold nmA
      rw [e 34 (by decide), e 33 (by decide)]
      split
      · rename_i z
        rw [o 1 (by decide) i (by omega)]
      · rfl
    have n2 : ∀ d, rgA A' a d ↔ rgA A a d := by
      intro d
      unfold rgA
      rw [e 34 (by decide), e 33 (by decide)]
      by_cases z : d = A.1 40 0
      · subst z
        constructor
        · intro y; omega
        · intro y; omega
      · rw [o 2 (by decide) d z]
    rw [n1]
    unfold en at *
    rw [e 32 (by decide), e 46 (by decide), e 24 (by decide), e 44 (by decide), e 34 (by decide), e 21 (by decide), e 33 (by decide), e 17 (by decide), e40, eL]
    refine ⟨a1, a2, a3, a4, ?_, by omega, a7, a8, a9, fun v n d hd => a10 v n d (fun y => hd ((n2 d).mpr y))⟩
    split
    · rename_i y; rw [if_pos y] at a5; exact a5
    · rename_i y; rw [if_neg y] at a5; omega
  · obtain ⟨⟨b1, b2, b3, b4, b5⟩, c1⟩ := hM
    unfold Mv sumI at *
    rw [e 10 (by decide), e 12 (by decide), e 21 (by decide), e 22 (by decide), e 23 (by decide), e 24 (by decide), e 25 (by decide), e 29 (by decide), e 30 (by decide), e 31 (by decide), e40, e 41 (by decide), e 42 (by decide), e 43 (by decide), e 44 (by decide), e 45 (by decide), e 46 (by decide)]
    exact ⟨⟨by omega, b2, b3, b4, b5⟩, c1⟩
/-- an assignment -/
theorem JA.asg {d w : Nat} {L : List aop} (h : JA A) (e : ∀ j, j ∉ [4, 47] → A'.1 j = A.1 j) (e4 : ∀ i, A'.1 4 i = if i = d then 1 else A.1 4 i) (eL : ∀ i, A'.2.1 0 i = if i = d then L else A.2.1 0 i) (eL1 : ∀ k, k ≠ 0 → A'.2.1 k = A.2.1 k) (eD : A'.2.2 = A.2.2) (hd : d < A.1 40 0) (h8 : A.1 8 d = A.1 46 0) (hdr : A.1 2 d = 1 ∨ A.1 2 d = 3) (h4 : A.1 4 d = 0) (hX : XG A (A.1 46 0) L (A.1 1 d)) : JA A' := by
  obtain ⟨hN, hI, hL, hS, hW, hP, hM⟩ := h
  have sm : ∀ (l : List Nat), 4 ∉ l → 47 ∉ l → ∀ k, k ∈ l → A'.1 k = A.1 k := fun l l1 l2 k hk => e k (by
    simp only [List.mem_cons, List.not_mem_nil, or_false, not_or]
    exact ⟨fun z => l1 (z ▸ hk), fun z => l2 (z ▸ hk)⟩)
  have xm : ∀ m L w, XG A m L w → XG A' m L w := fun m L w x => x.mono (by rw [e 40 (by decide)]; exact Nat.le_refl _) (fun i _ => by rw [e 8 (by decide), e 1 (by decide)]; exact ⟨rfl, rfl⟩)
  refine ⟨?_, hI.same (sm _ (by decide) (by decide)), ?_, hS.same (sm _ (by decide) (by decide)) (eL1 2 (by decide)), hW.same (sm _ (by decide) (by decide)) eD, hP.same (sm _ (by decide) (by decide)), hM.same (sm _ (by decide) (by decide))⟩
  · intro i hi
    rw [e 40 (by decide)] at hi
    obtain ⟨a1, a2, a3, a4, a5, a6, a7, a8, a9⟩ := hN i hi
    unfold en at *
    rw [e 8 (by decide), e 46 (by decide), e 35 (by decide), e 21 (by decide), e 40 (by decide), e4, e 2 (by decide), e 1 (by decide), e 42 (by decide), e 14 (by decide), e 18 (by decide), e 6 (by decide), e 13 (by decide), e 7 (by decide), eL]
    by_cases z : i = d
    · subst z
      simp only [if_true]
      exact ⟨a1, a2, a3, a4, by omega, fun _ => hdr, fun y => by omega, fun _ => by rw [h8]; exact xm _ _ _ hX, fun y => (by cases y)⟩
    · simp only [z, if_false]
      exact ⟨a1, a2, a3, a4, a5, a6, a7, fun y => xm _ _ _ (a8 y), a9⟩
  · intro k hk
    rw [e 42 (by decide)] at hk
    obtain ⟨a1, a2, a3, a4, a5, a6, a7, a8, a9, a10, a11, a12, a13, a14, a15⟩ := hL k hk
    unfold le1 at *
    rw [e 9 (by decide), e 10 (by decide), e 46 (by decide), e 41 (by decide), e 21 (by decide), e 42 (by decide), e 18 (by decide), e 13 (by decide), e 12 (by decide), e 36 (by decide), e 37 (by decide), e 14 (by decide), e 6 (by decide), e 7 (by decide), e 2 (by decide), e 1 (by decide), e 40 (by decide), e 8 (by decide), eL1 1 (by decide)]
    refine ⟨a1, a2, a3, a4, a5, a6, a7, a8, a9, a10, a11, a12, fun z => xm _ _ _ (a13 z), fun s z => ?_, a15⟩
    obtain ⟨b1, b2, b3, b4, b5⟩ := a14 s z
    rw [e4, if_neg (fun y => by rw [y] at b3; omega)]
    exact ⟨b1, b2, b3, b4, b5⟩
end DSTEP
