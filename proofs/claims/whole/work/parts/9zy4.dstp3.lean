/-! Designs: every step keeps it: items and links. -/
section DSTP3
variable {tk pl vl wi wd : Nat → Nat} {nt N : Nat} {A A' : ds} {t m : Nat}
/-- a link of the item at hand -/
theorem Lv.cur (h : Lv A) (hM : Mv A) {k : Nat} (hk : k < A.1 42 0) : A.1 18 k = A.1 41 0 ↔ A.1 12 (A.1 41 0) ≤ k := by
  obtain ⟨a1, a2, a3, -⟩ := h k hk
  constructor
  · intro z
    rw [z] at a2
    exact a2
  · intro z
    by_cases y : A.1 18 k < A.1 41 0
    · unfold le1 at a3
      rw [if_pos y] at a3
      have := (hM.2.2.2.2.1 _ y).2
      omega
    · omega
/-- an item begins -/
theorem JA.it {u : Nat} (h : JA A) (h12 : A.1 12 (A.1 41 0) = A.1 42 0) (hm : m < A.1 46 0) : JQ m (dIt A m u) := by
  have e : ∀ j, j ∉ [9, 10, 11, 12] → (dIt A m u).1 j = A.1 j := fun j hj => by
    simp only [List.mem_cons, List.not_mem_nil, or_false, not_or] at hj
    unfold dIt
    rw [tu_k (by omega), tu_k (by omega), tu_k (by omega), tu_k (by omega)]
  have e12 : (dIt A m u).1 12 = A.1 12 := by
    funext i
    unfold dIt
    simp only [tu1, tu2, uu1, uu2, uu3, vu1, vu2, vu3, su1, su2, Nat.reduceEqDiff, false_and, true_and, reduceIte, Bool.false_eq_true, if_true, if_false]
    split
    · rename_i z; rw [z, h12]
    · rfl
  have o9 : ∀ i, i ≠ A.1 41 0 → (dIt A m u).1 9 i = A.1 9 i := fun i hi => by unfold dIt; simp only [hi, tu1, tu2, uu1, uu2, uu3, vu1, vu2, vu3, su1, su2, Nat.reduceEqDiff, false_and, true_and, reduceIte, Bool.false_eq_true, if_true, if_false]
  have o10 : ∀ i, i ≠ A.1 41 0 → (dIt A m u).1 10 i = A.1 10 i := fun i hi => by unfold dIt; simp only [hi, tu1, tu2, uu1, uu2, uu3, vu1, vu2, vu3, su1, su2, Nat.reduceEqDiff, false_and, true_and, reduceIte, Bool.false_eq_true, if_true, if_false]
  have n9 : (dIt A m u).1 9 (A.1 41 0) = A.1 46 0 := by unfold dIt; simp only [tu1, tu2, uu1, uu2, uu3, vu1, vu2, vu3, su1, su2, Nat.reduceEqDiff, false_and, true_and, reduceIte, Bool.false_eq_true, if_true, if_false]
  have n10 : (dIt A m u).1 10 (A.1 41 0) = m := by unfold dIt; simp only [tu1, tu2, uu1, uu2, uu3, vu1, vu2, vu3, su1, su2, Nat.reduceEqDiff, false_and, true_and, reduceIte, Bool.false_eq_true, if_true, if_false]
  have eL : (dIt A m u).2 = A.2 := rfl
  generalize dIt A m u = A' at *
  have sm : ∀ (l : List Nat), (∀ k, k ∈ l → k ∉ [9, 10, 11, 12]) → ∀ k, k ∈ l → A'.1 k = A.1 k := fun l l1 k hk => e k (l1 k hk)
  have xm : ∀ m L w, XG A m L w → XG A' m L w := fun m L w x => x.mono (by rw [e 40 (by decide)]; exact Nat.le_refl _) (fun i _ => by rw [e 8 (by decide), e 1 (by decide)]; exact ⟨rfl, rfl⟩)
  obtain ⟨hN, hI, hL, hS, hW, hP, hM⟩ := h
  refine ⟨⟨hN.same (sm _ (by decide)) (by rw [eL]), ?_, ?_, hS.same (sm _ (by decide)) (by rw [eL]), hW.same (sm _ (by decide)) (by rw [eL]), hP.same (sm _ (by decide)), ?_⟩, ?_, ?_, ?_⟩
  · intro i hi
    rw [e 41 (by decide)] at hi
    have := hI i hi
    unfold en at *
    rw [o9 i (by omega), o10 i (by omega), e 46 (by decide), e 22 (by decide), e 41 (by decide), e 21 (by decide), e 2 (by decide), e 42 (by decide), e 18 (by decide), e 13 (by decide)]
    exact this
  · intro k hk
    rw [e 42 (by decide)] at hk
    have nk : A.1 18 k ≠ A.1 41 0 := fun z => by
      have := (hL.cur hM hk).mp z
      omega
    obtain ⟨a1, a2, a3, a4, a5, a6, a7, a8, a9, a10, a11, a12, a13, a14, a15⟩ := hL k hk
    unfold le1 at *
    rw [e 18 (by decide), o9 _ nk, o10 _ nk, e 46 (by decide), e 41 (by decide), e 21 (by decide), e 42 (by decide), e 13 (by decide), e12, e 36 (by decide), e 37 (by decide), e 14 (by decide), e 6 (by decide), e 7 (by decide), e 2 (by decide), e 1 (by decide), e 40 (by decide), e 8 (by decide), e 4 (by decide), eL]
    exact ⟨a1, a2, a3, a4, a5, a6, a7, a8, a9, a10, a11, a12, fun z => xm _ _ _ (a13 z), a14, a15⟩
  · obtain ⟨b1, c1, c2, c3, c4, c5⟩ := hM
    unfold Mv
    rw [e12, e 21 (by decide), e 22 (by decide), e 23 (by decide), e 24 (by decide), e 25 (by decide), e 29 (by decide), e 30 (by decide), e 31 (by decide), e 40 (by decide), e 41 (by decide), e 42 (by decide), e 43 (by decide), e 44 (by decide), e 45 (by decide), e 46 (by decide)]
    refine ⟨b1, fun m hm => ?_, c2, c3, c4, fun i hi => by rw [o10 i (by omega)]; exact c5 i hi⟩
    have := c1 m hm
    have q := (c2 (m + 1) (by omega)).2.1
    have b2 := b1.2.1
    have sI : ∀ k, k ∈ [29, 30, 31] → sumI A' k m = sumI A k m := fun k hk => by
      unfold sumI
      rw [e 22 (by decide), e k (by revert hk; simp only [List.mem_cons, List.not_mem_nil, or_false, not_or]; omega)]
      refine sumF_congr (fun i i1 i2 => ?_)
      rw [o10 i (by have := this.1.2.1; omega)]
    rw [sI 29 (by decide), sI 30 (by decide), sI 31 (by decide)]
    exact this
  · rw [e 41 (by decide), e 46 (by decide)]; exact n9
  · rw [e 41 (by decide)]; exact n10
  · rw [e 46 (by decide)]; exact hm
/-- a link; y: what it drives, one more -/
theorem JA.lnk {p y w : Nat} {L : List aop} (h : JQ m A) (e : ∀ j, j ∉ [4, 6, 7, 13, 14, 18, 36, 37, 42, 47] → A'.1 j = A.1 j) (e42 : A'.1 42 0 = A.1 42 0 + 1) (e13 : ∀ k, A'.1 13 k = if k = A.1 42 0 then p else A.1 13 k) (e14 : ∀ k, A'.1 14 k = if k = A.1 42 0 then y else A.1 14 k) (e18 : ∀ k, A'.1 18 k = if k = A.1 42 0 then A.1 41 0 else A.1 18 k) (e36 : ∀ k, A'.1 36 k = if k = A.1 42 0 then A.1 21 (A.1 46 0) else A.1 36 k) (e37 : ∀ k, A'.1 37 k = if k = A.1 42 0 then A.1 21 m else A.1 37 k) (eL : ∀ k, A'.2.1 1 k = if k = A.1 42 0 then L else A.2.1 1 k) (eL1 : ∀ k, k ≠ 1 → A'.2.1 k = A.2.1 k) (eD : A'.2.2 = A.2.2)
    (h4 : (y = 0 ∧ A.1 2 p = 0 ∧ XG A (A.1 46 0) L (A.1 1 p) ∧ A'.1 4 = A.1 4 ∧ A'.1 6 = A.1 6 ∧ A'.1 7 = A.1 7) ∨ (∃ s, y = s + 1 ∧ A.1 2 p ≠ 0 ∧ s < A.1 40 0 ∧ A.1 8 s = A.1 46 0 ∧ (A.1 2 s = 1 ∨ A.1 2 s = 3) ∧ A.1 4 s = 0 ∧ A.1 1 s = A.1 1 p ∧ (∀ d, A'.1 4 d = if d = s then 2 else A.1 4 d) ∧ (∀ d, A'.1 6 d = if d = s then A.1 41 0 else A.1 6 d) ∧ ∀ d, A'.1 7 d = if d = s then p else A.1 7 d)) (hp : A.1 21 m ≤ p ∧ p < A.1 21 (m + 1) ∧ p < A.1 40 0 ∧ A.1 2 p ≤ 2) (hu : dLkd A p = none) : JQ m A' := by
  obtain ⟨⟨hN, hI, hL, hS, hW, hP, hM⟩, q9, q10, qm⟩ := h
  have sm : ∀ (l : List Nat), (∀ k, k ∈ l → k ∉ [4, 6, 7, 13, 14, 18, 36, 37, 42, 47]) → ∀ k, k ∈ l → A'.1 k = A.1 k := fun l l1 k hk => e k (l1 k hk)
  have xm : ∀ m L w, XG A m L w → XG A' m L w := fun m L w x => x.mono (by rw [e 40 (by decide)]; exact Nat.le_refl _) (fun i _ => by rw [e 8 (by decide), e 1 (by decide)]; exact ⟨rfl, rfl⟩)
  have ok : ∀ k, k < A.1 42 0 → A'.1 13 k = A.1 13 k ∧ A'.1 14 k = A.1 14 k ∧ A'.1 18 k = A.1 18 k ∧ A'.1 36 k = A.1 36 k ∧ A'.1 37 k = A.1 37 k := fun k hk => by
    rw [e13, e14, e18, e36, e37, if_neg (by omega), if_neg (by omega), if_neg (by omega), if_neg (by omega), if_neg (by omega)]
    exact ⟨rfl, rfl, rfl, rfl, rfl⟩
  have nk : A'.1 13 (A.1 42 0) = p ∧ A'.1 14 (A.1 42 0) = y ∧ A'.1 18 (A.1 42 0) = A.1 41 0 ∧ A'.1 36 (A.1 42 0) = A.1 21 (A.1 46 0) ∧ A'.1 37 (A.1 42 0) = A.1 21 m := by
    rw [e13, e14, e18, e36, e37, if_pos rfl, if_pos rfl, if_pos rfl, if_pos rfl, if_pos rfl]
    exact ⟨rfl, rfl, rfl, rfl, rfl⟩
  have m12 := hM.2.2.2.1
  have uq : ∀ k, k < A.1 42 0 → A.1 18 k = A.1 41 0 → A.1 13 k ≠ p := fun k hk hk2 z => by
    have := (hL.cur hM hk).mp hk2
    unfold dLkd at hu
    have := fnd_none hu k this (by omega)
    rw [z] at this
    simp at this
  -- what names keep
  have o4 : ∀ d, A.1 4 d ≠ 0 → A'.1 4 d = A.1 4 d ∧ A'.1 6 d = A.1 6 d ∧ A'.1 7 d = A.1 7 d := fun d hd => by
    rcases h4 with ⟨-, -, -, x1, x2, x3⟩ | ⟨s, -, -, -, -, -, s4, -, x1, x2, x3⟩
    · rw [x1, x2, x3]; exact ⟨rfl, rfl, rfl⟩
    · have : d ≠ s := fun z => hd (by rw [z]; exact s4)
      rw [x1, x2, x3, if_neg this, if_neg this, if_neg this]
      exact ⟨rfl, rfl, rfl⟩
  refine ⟨⟨?_, ?_, ?_, hS.same (sm _ (by decide)) (eL1 2 (by decide)), hW.same (sm _ (by decide)) eD, hP.same (sm _ (by decide)), ?_⟩, by rw [e 9 (by decide), e 41 (by decide), e 46 (by decide)]; exact q9, by rw [e 10 (by decide), e 41 (by decide)]; exact q10, by rw [e 46 (by decide)]; exact qm⟩
  · intro d hd
    rw [e 40 (by decide)] at hd
    obtain ⟨a1, a2, a3, a4, a5, a6, a7, a8, a9⟩ := hN d hd
    unfold en at *
    rw [e 8 (by decide), e 46 (by decide), e 35 (by decide), e 21 (by decide), e 40 (by decide), e 2 (by decide), e 1 (by decide), eL1 0 (by decide), e42]
    by_cases z : A.1 4 d = 0
    · rcases h4 with ⟨-, -, -, x1, x2, x3⟩ | ⟨s, rfl, -, s1, s2, s3, s4, -, x1, x2, x3⟩
      · rw [x1, x2, x3, z]
        exact ⟨a1, a2, a3, a4, by omega, fun y => absurd rfl y, fun y1 y2 => absurd z (a7 y1 y2), fun y => (by cases y), fun y => (by cases y)⟩
      · rw [x1, x2, x3]
        by_cases w : d = s
        · subst w
          simp only [if_true]
          exact ⟨a1, a2, a3, a4, by omega, fun _ => s3, fun _ _ => (by omega), fun y => (by cases y), fun _ => ⟨A.1 42 0, by omega, nk.2.1, nk.2.2.1, nk.1⟩⟩
        · simp only [w, if_false]
          rw [z]
          exact ⟨a1, a2, a3, a4, by omega, fun y => absurd rfl y, fun y1 y2 => absurd z (a7 y1 y2), fun y => (by cases y), fun y => (by cases y)⟩
    · obtain ⟨x1, x2, x3⟩ := o4 d z
      rw [x1, x2, x3]
      refine ⟨a1, a2, a3, a4, a5, a6, a7, fun y => xm _ _ _ (a8 y), fun y => ?_⟩
      obtain ⟨k, k1, k2, k3, k4⟩ := a9 y
      obtain ⟨o1, o2, o3, -⟩ := ok k k1
      exact ⟨k, by omega, by rw [o2]; exact k2, by rw [o3]; exact k3, by rw [o1]; exact k4⟩
  · intro i hi
    rw [e 41 (by decide)] at hi
    obtain ⟨a1, a2, a3, a4, a5⟩ := hI i hi
    unfold en at *
    rw [e 9 (by decide), e 10 (by decide), e 46 (by decide), e 22 (by decide), e 41 (by decide), e 21 (by decide), e 2 (by decide), e42]
    refine ⟨a1, a2, a3, a4, fun d d1 d2 d3 => ?_⟩
    obtain ⟨k, k1, k2, k3⟩ := a5 d d1 d2 d3
    obtain ⟨o1, o2, o3, -⟩ := ok k k1
    exact ⟨k, by omega, by rw [o3]; exact k2, by rw [o1]; exact k3⟩
  · intro k hk
    rw [e42] at hk
    by_cases z : k = A.1 42 0
    · subst z
      obtain ⟨n1, n2, n3, n4, n5⟩ := nk
      unfold le1
      rw [n3, n1, n2, n4, n5, e 41 (by decide), if_neg (Nat.lt_irrefl _), e42, e 12 (by decide), e 9 (by decide), e 10 (by decide), e 46 (by decide), e 21 (by decide), e 40 (by decide), e 2 (by decide), e 1 (by decide), e 8 (by decide), q9, q10, eL, if_pos rfl]
      refine ⟨Nat.le_refl _, m12, by omega, Nat.le_refl _, qm, rfl, rfl, hp.1, hp.2.1, hp.2.2.1, hp.2.2.2, ?_, ?_, ?_, ?_⟩
      · rcases h4 with ⟨y1, y2, -⟩ | ⟨s, rfl, y2, -⟩
        · exact ⟨fun _ => y2, fun _ => y1⟩
        · exact ⟨fun x => (by omega), fun x => absurd x y2⟩
      · intro y1
        rcases h4 with ⟨-, -, y3, -⟩ | ⟨s, rfl, -⟩
        · exact xm _ _ _ y3
        · omega
      · intro s hs
        rcases h4 with ⟨y1, -⟩ | ⟨s', rfl, -, s1, s2, s3, s4, s5, x1, x2, x3⟩
        · omega
        · have : s = s' := by omega
          subst this
          rw [x1, x2, x3, if_pos rfl, if_pos rfl, if_pos rfl]
          exact ⟨s1, s2, rfl, rfl, rfl, s5⟩
      · intro k' k1 k2 k3
        by_cases y : k' = A.1 42 0
        · exact y
        · obtain ⟨o1, o2, o3, -⟩ := ok k' (by omega)
          rw [o3] at k2
          rw [o1] at k3
          exact absurd k3 (uq k' (by omega) k2)
    · have hk' : k < A.1 42 0 := by omega
      obtain ⟨a1, a2, a3, a4, a5, a6, a7, a8, a9, a10, a11, a12, a13, a14, a15⟩ := hL k hk'
      obtain ⟨o1, o2, o3, o4', o5⟩ := ok k hk'
      unfold le1 at *
      rw [o3, o1, o2, o4', o5, e 41 (by decide), e42, e 12 (by decide), e 9 (by decide), e 10 (by decide), e 46 (by decide), e 21 (by decide), e 40 (by decide), e 2 (by decide), e 1 (by decide), e 8 (by decide), eL, if_neg z]
      refine ⟨a1, a2, ?_, a4, a5, a6, a7, a8, a9, a10, a11, a12, fun y => xm _ _ _ (a13 y), fun s y => ?_, fun k' k1 k2 k3 => ?_⟩
      · split
        · rename_i y; rw [if_pos y] at a3; exact a3
        · rename_i y; rw [if_neg y] at a3; omega
      · obtain ⟨b1, b2, b3, b4, b5⟩ := a14 s y
        obtain ⟨x1, x2, x3⟩ := o4 s (by omega)
        rw [x1, x2, x3]
        exact ⟨b1, b2, b3, b4, b5⟩
      · by_cases y : k' = A.1 42 0
        · subst y
          rw [nk.2.2.1] at k2
          rw [nk.1] at k3
          exact absurd k3.symm (uq k hk' k2.symm)
        · obtain ⟨p1, p2, p3, -⟩ := ok k' (by omega)
          rw [p3] at k2
          rw [p1] at k3
          exact a15 k' (by omega) k2 k3
  · obtain ⟨b1, c1, c2, c3, c4, c5⟩ := hM
    unfold Mv sumI at *
    rw [e 10 (by decide), e 12 (by decide), e 21 (by decide), e 22 (by decide), e 23 (by decide), e 24 (by decide), e 25 (by decide), e 29 (by decide), e 30 (by decide), e 31 (by decide), e 40 (by decide), e 41 (by decide), e42, e 43 (by decide), e 44 (by decide), e 45 (by decide), e 46 (by decide)]
    exact ⟨b1, c1, c2, by omega, c4, c5⟩
/-- an item ends -/
theorem JA.itE (h : JQ m A) (hO : dOpn A m = none) : JP (dItE A) := by
  have e : ∀ j, j ∉ [12, 41] → (dItE A).1 j = A.1 j := fun j hj => by
    simp only [List.mem_cons, List.not_mem_nil, or_false, not_or] at hj
    unfold dItE
    rw [tu_k (by omega), tu_k (by omega)]
  have e12 : ∀ i, (dItE A).1 12 i = if i = A.1 41 0 + 1 then A.1 42 0 else A.1 12 i := fun i => by unfold dItE; simp only [tu1, tu2, uu1, uu2, uu3, vu1, vu2, vu3, su1, su2, Nat.reduceEqDiff, false_and, true_and, reduceIte, Bool.false_eq_true, if_true, if_false]
  have e41 : (dItE A).1 41 0 = A.1 41 0 + 1 := by unfold dItE; simp only [tu1, tu2, uu1, uu2, uu3, vu1, vu2, vu3, su1, su2, Nat.reduceEqDiff, false_and, true_and, reduceIte, Bool.false_eq_true, if_true, if_false]
  have eL : (dItE A).2 = A.2 := rfl
  generalize dItE A = A' at *
  obtain ⟨⟨hN, hI, hL, hS, hW, hP, hM⟩, q9, q10, qm⟩ := h
  have sm : ∀ (l : List Nat), (∀ k, k ∈ l → k ∉ [12, 41]) → ∀ k, k ∈ l → A'.1 k = A.1 k := fun l l1 k hk => e k (l1 k hk)
  have xm : ∀ m L w, XG A m L w → XG A' m L w := fun m L w x => x.mono (by rw [e 40 (by decide)]; exact Nat.le_refl _) (fun i _ => by rw [e 8 (by decide), e 1 (by decide)]; exact ⟨rfl, rfl⟩)
  refine ⟨⟨hN.same (sm _ (by decide)) (by rw [eL]), ?_, ?_, hS.same (sm _ (by decide)) (by rw [eL]), hW.same (sm _ (by decide)) (by rw [eL]), hP.same (sm _ (by decide)), ?_⟩, ?_⟩
  · intro i hi
    rw [e41] at hi
    have b2 := hM.1.2.1
    unfold en
    rw [e 9 (by decide), e 10 (by decide), e 46 (by decide), e 22 (by decide), e41, e 21 (by decide), e 2 (by decide), e 42 (by decide), e 18 (by decide), e 13 (by decide)]
    by_cases z : i = A.1 41 0
    · subst z
      rw [q9, q10, if_neg (Nat.lt_irrefl _)]
      refine ⟨Nat.le_refl _, qm, b2, by omega, fun d d1 d2 d3 => ?_⟩
      unfold dOpn at hO
      have := fnd_none hO d d1 (by omega)
      have := of_decide_eq_false this
      match er : dLkd A d with
      | none => exact absurd ⟨by omega, er⟩ this
      | some k =>
        unfold dLkd at er
        obtain ⟨k1, k2, k3, -⟩ := fnd_some er
        have m12 := hM.2.2.2.1
        have hk : k < A.1 42 0 := by omega
        exact ⟨k, hk, (hL.cur hM hk).mpr k1, of_decide_eq_true k3⟩
    · obtain ⟨a1, a2, a3, a4, a5⟩ := hI i (by omega)
      refine ⟨a1, a2, a3, ?_, a5⟩
      unfold en at a4
      split
      · rename_i y; rw [if_pos y] at a4; exact a4
      · rename_i y; rw [if_neg y] at a4; omega
  · intro k hk
    rw [e 42 (by decide)] at hk
    obtain ⟨a1, a2, a3, a4, a5, a6, a7, a8, a9, a10, a11, a12, a13, a14, a15⟩ := hL k hk
    unfold le1 at *
    rw [e 18 (by decide), e 9 (by decide), e 10 (by decide), e 46 (by decide), e41, e 21 (by decide), e 42 (by decide), e 13 (by decide), e12, e12, e 36 (by decide), e 37 (by decide), e 14 (by decide), e 6 (by decide), e 7 (by decide), e 2 (by decide), e 1 (by decide), e 40 (by decide), e 8 (by decide), e 4 (by decide), eL, if_neg (show ¬ A.1 18 k = A.1 41 0 + 1 by omega), if_pos (show A.1 18 k < A.1 41 0 + 1 by omega)]
    refine ⟨by omega, a2, ?_, a4, a5, a6, a7, a8, a9, a10, a11, a12, fun z => xm _ _ _ (a13 z), a14, a15⟩
    by_cases y : A.1 18 k < A.1 41 0
    · rw [if_pos y] at a3
      rw [if_neg (by omega)]
      exact a3
    · rw [if_neg y] at a3
      rw [if_pos (by omega)]
      exact a3
  · obtain ⟨⟨b1, b2, b3, b4, b5⟩, c1, c2, c3, c4, c5⟩ := hM
    unfold Mv sumI at *
    rw [e 10 (by decide), e 21 (by decide), e 22 (by decide), e 23 (by decide), e 24 (by decide), e 25 (by decide), e 29 (by decide), e 30 (by decide), e 31 (by decide), e 40 (by decide), e41, e 42 (by decide), e 43 (by decide), e 44 (by decide), e 45 (by decide), e 46 (by decide)]
    refine ⟨⟨b1, by omega, b3, b4, b5⟩, c1, c2, by rw [e12, if_pos rfl]; exact Nat.le_refl _, fun i hi => ?_, fun i hi => ?_⟩
    · rw [e12, e12, e12, if_pos (rfl : A.1 41 0 + 1 = A.1 41 0 + 1), if_neg (show ¬ i = A.1 41 0 + 1 by omega)]
      by_cases y : i = A.1 41 0
      · subst y
        rw [if_pos rfl]
        exact ⟨c3, Nat.le_refl _⟩
      · rw [if_neg (by omega)]
        have := c4 i (by omega)
        omega
    · by_cases y : i = A.1 41 0
      · rw [y, q10]; exact qm
      · exact c5 i (by omega)
  · rw [e41, e12, if_pos rfl, e 42 (by decide)]
end DSTP3
