/-! Designs: every step keeps it: pieces. -/
theorem flt_congr {f g f' g' : Nat → Nat} {x a n : Nat} (h : ∀ p, a ≤ p → p < a + n → f' p = f p ∧ g' p = g p) : flt f' g' x a n = flt f g x a n := by
  unfold flt
  have e1 : (rng a n).filter (fun p => decide (f' p = x)) = (rng a n).filter (fun p => decide (f p = x)) := List.filter_congr (fun p hp => by
    have := mem_rng hp
    rw [(h p this.1 this.2).1])
  rw [e1]
  refine List.map_congr_left (fun p hp => ?_)
  have := mem_rng (List.mem_filter.mp hp).1
  exact (h p this.1 this.2).2
theorem flt_succ {f g : Nat → Nat} {x a n : Nat} : flt f g x a (n + 1) = flt f g x a n ++ (if f (a + n) = x then [g (a + n)] else []) := by
  unfold flt
  rw [rng_succ, List.filter_append, List.map_append]
  congr 1
  by_cases z : f (a + n) = x
  · rw [if_pos z, List.filter_cons_of_pos (by simp [z])]
    rfl
  · rw [if_neg z, List.filter_cons_of_neg (by simp [z])]
    rfl
theorem flt_zero {f g : Nat → Nat} {x a : Nat} : flt f g x a 0 = [] := rfl
section DSTP2
variable {tk pl vl wi wd : Nat → Nat} {nt N : Nat} {A A' : ds} {t m : Nat}
theorem Pv.more {x y : Nat} (h : Pv A) (hM : Mv A) (e : ∀ k, k ∈ [23, 24, 25, 46] → A'.1 k = A.1 k) (e45 : A'.1 45 0 = A.1 45 0 + 1) (e15 : ∀ p, A'.1 15 p = if p = A.1 45 0 then x else A.1 15 p) (e16 : ∀ p, A'.1 16 p = if p = A.1 45 0 then y else A.1 16 p) (e17 : ∀ a, a < A.1 44 0 → A'.1 17 a = A.1 17 a) (hx : (x = 1 ∧ y = A.1 43 0 ∧ A'.1 43 0 = A.1 43 0 + 1 ∧ A'.1 44 0 = A.1 44 0) ∨ (x = 0 ∧ y = A.1 44 0 ∧ A'.1 43 0 = A.1 43 0 ∧ A'.1 44 0 = A.1 44 0 + 1 ∧ A'.1 17 (A.1 44 0) = 1)) : Pv A' := by
  intro m hm
  rw [e 46 (by decide)] at hm
  obtain ⟨p1, p2⟩ := h m hm
  obtain ⟨⟨b1, b2, b3, b4, b5⟩, c1, c2, -⟩ := hM
  unfold en at *
  rw [e 46 (by decide), e 25 (by decide), e 23 (by decide), e 24 (by decide), e45]
  by_cases z : m < A.1 46 0
  · obtain ⟨q1, q2, q3, q4, q5⟩ := c2 (m + 1) (by omega)
    obtain ⟨⟨r1, r2, r3, r4, r5⟩, -⟩ := c1 m z
    simp only [z, if_true] at p1 p2 ⊢
    have g : ∀ p, A.1 25 m ≤ p → p < A.1 25 m + (A.1 25 (m + 1) - A.1 25 m) → A'.1 15 p = A.1 15 p ∧ A'.1 16 p = A.1 16 p := fun p _ h2 => by
      rw [e15, e16, if_neg (by omega), if_neg (by omega)]
      exact ⟨rfl, rfl⟩
    rw [flt_congr g, flt_congr g, flt_congr (f := A.1 17) (f' := A'.1 17) (fun a _ h2 => ⟨e17 a (by omega), rfl⟩)]
    exact ⟨p1, p2⟩
  · have mm : m = A.1 46 0 := by omega
    subst mm
    simp only [z, if_false] at p1 p2 ⊢
    have g : ∀ p, A.1 25 (A.1 46 0) ≤ p → p < A.1 25 (A.1 46 0) + (A.1 45 0 - A.1 25 (A.1 46 0)) → A'.1 15 p = A.1 15 p ∧ A'.1 16 p = A.1 16 p := fun p _ h2 => by
      rw [e15, e16, if_neg (by omega), if_neg (by omega)]
      exact ⟨rfl, rfl⟩
    have w1 : ∀ n, n = A.1 44 0 - A.1 24 (A.1 46 0) → flt (A'.1 17) (fun a => a) 1 (A.1 24 (A.1 46 0)) n = flt (A.1 17) (fun a => a) 1 (A.1 24 (A.1 46 0)) n := fun n hn => flt_congr (fun a _ h2 => ⟨e17 a (by omega), rfl⟩)
    rw [show A.1 45 0 + 1 - A.1 25 (A.1 46 0) = (A.1 45 0 - A.1 25 (A.1 46 0)) + 1 by omega, flt_succ, flt_succ, flt_congr g, flt_congr g, show A.1 25 (A.1 46 0) + (A.1 45 0 - A.1 25 (A.1 46 0)) = A.1 45 0 by omega, e15, e16, if_pos rfl, if_pos rfl, p1, p2]
    rcases hx with ⟨rfl, rfl, x3, x4⟩ | ⟨rfl, rfl, x3, x4, x5⟩
    · rw [x3, x4, if_pos rfl, if_neg (by decide), w1 _ rfl, List.append_nil, show A.1 43 0 + 1 - A.1 23 (A.1 46 0) = (A.1 43 0 - A.1 23 (A.1 46 0)) + 1 by omega, rng_succ, show A.1 23 (A.1 46 0) + (A.1 43 0 - A.1 23 (A.1 46 0)) = A.1 43 0 by omega]
      exact ⟨rfl, rfl⟩
    · rw [x3, x4, if_pos rfl, if_neg (by decide), List.append_nil, show A.1 44 0 + 1 - A.1 24 (A.1 46 0) = (A.1 44 0 - A.1 24 (A.1 46 0)) + 1 by omega, flt_succ, w1 _ rfl, show A.1 24 (A.1 46 0) + (A.1 44 0 - A.1 24 (A.1 46 0)) = A.1 44 0 by omega, x5, if_pos rfl]
      exact ⟨rfl, rfl⟩
/-- an always that sets nothing -/
theorem Pv.none (h : Pv A) (hM : Mv A) (e : ∀ k, k ∈ [15, 16, 23, 24, 25, 43, 45, 46] → A'.1 k = A.1 k) (e44 : A'.1 44 0 = A.1 44 0 + 1) (e17 : ∀ a, A'.1 17 a = if a = A.1 44 0 then 0 else A.1 17 a) : Pv A' := by
  intro m hm
  rw [e 46 (by decide)] at hm
  obtain ⟨p1, p2⟩ := h m hm
  obtain ⟨⟨b1, b2, b3, b4, b5⟩, c1, c2, -⟩ := hM
  unfold en at *
  rw [e 46 (by decide), e 25 (by decide), e 23 (by decide), e 24 (by decide), e 45 (by decide), e 43 (by decide), e 15 (by decide), e 16 (by decide), e44]
  refine ⟨p1, p2.trans ?_⟩
  by_cases z : m < A.1 46 0
  · obtain ⟨q1, q2, q3, q4, q5⟩ := c2 (m + 1) (by omega)
    obtain ⟨⟨r1, r2, r3, r4, r5⟩, -⟩ := c1 m z
    simp only [z, if_true]
    exact (flt_congr (fun a _ h2 => ⟨by rw [e17, if_neg (by omega)], rfl⟩)).symm
  · have mm : m = A.1 46 0 := by omega
    subst mm
    simp only [z, if_false]
    rw [show A.1 44 0 + 1 - A.1 24 (A.1 46 0) = (A.1 44 0 - A.1 24 (A.1 46 0)) + 1 by omega, flt_succ, show A.1 24 (A.1 46 0) + (A.1 44 0 - A.1 24 (A.1 46 0)) = A.1 44 0 by omega, e17, if_pos rfl, if_neg (by decide), List.append_nil]
    exact (flt_congr (fun a _ h2 => ⟨by rw [e17, if_neg (by omega)], rfl⟩)).symm
/-- an always -/
theorem JA.alw {x : Nat} {D : DT} (h : JA A) (e : ∀ j, j ∉ [5, 15, 16, 17, 32, 33, 34, 44, 45, 47] → A'.1 j = A.1 j) (e44 : A'.1 44 0 = A.1 44 0 + 1) (e17 : ∀ a, A'.1 17 a = if a = A.1 44 0 then x else A.1 17 a) (e32 : ∀ a, A'.1 32 a = if a = A.1 44 0 then A.1 46 0 else A.1 32 a) (e33 : ∀ a, A'.1 33 a = if a = A.1 44 0 then A.1 40 0 else A.1 33 a) (e34 : ∀ a, A'.1 34 a = if a = A.1 44 0 then A.1 21 (A.1 46 0) else A.1 34 a) (eL : A'.2.1 = A.2.1) (eD : ∀ a, A'.2.2 a = if a = A.1 44 0 then D else A.2.2 a) (hp : Pv A') (h45 : A.1 45 0 ≤ A'.1 45 0) (hx : x ≤ 1) (hD0 : D0 x D) (hD1 : ∀ v n, Vn (nmA A' (A.1 44 0)) v → Vn (nmA A' (A.1 44 0)) n → Vn (nmA A' (A.1 44 0)) (D v n)) (hD2 : ∀ v n d, ¬ rgA A' (A.1 44 0) d → D v n d = n d) : JA A' := by
  obtain ⟨hN, hI, hL, hS, hW, hP, hM⟩ := h
  have sm : ∀ (l : List Nat), (∀ k, k ∈ l → k ∉ [5, 15, 16, 17, 32, 33, 34, 44, 45, 47]) → ∀ k, k ∈ l → A'.1 k = A.1 k := fun l l1 k hk => e k (l1 k hk)
  refine ⟨hN.same (sm _ (by decide)) (by rw [eL]), hI.same (sm _ (by decide)), hL.same (sm _ (by decide)) (by rw [eL]), hS.same (sm _ (by decide)) (by rw [eL]), ?_, hp, ?_⟩
  · intro a ha
    rw [e44] at ha
    have m4 := hM.1.2.2.2.1
    by_cases z : a = A.1 44 0
    · subst z
      unfold en
      rw [e32, e33, e34, e17, eD, if_pos rfl, if_pos rfl, if_pos rfl, if_pos rfl, if_pos rfl, e 46 (by decide), e 24 (by decide), e 21 (by decide), e 40 (by decide), e44, if_neg (Nat.lt_irrefl _), if_neg (Nat.lt_irrefl _)]
      exact ⟨Nat.le_refl _, m4, by omega, rfl, Nat.le_refl _, Nat.le_refl _, hx, hD0, hD1, hD2⟩
    · obtain ⟨a1, a2, a3, a4, a5, a6, a7, a8, a9, a10⟩ := hW a (by omega)
      have n1 : nmA A' a = nmA A a := by
        funext i
        unfold nmA
        rw [e34, e33, if_neg z, if_neg z, e 1 (by decide)]
      have n2 : ∀ d, rgA A' a d ↔ rgA A a d := by
        intro d
        unfold rgA
        rw [e34, e33, if_neg z, if_neg z, e 2 (by decide)]
      rw [n1]
      unfold en at *
      rw [e32, e33, e34, e17, eD, if_neg z, if_neg z, if_neg z, if_neg z, if_neg z, e 46 (by decide), e 24 (by decide), e 21 (by decide), e 40 (by decide), e44]
      refine ⟨a1, a2, ?_, a4, a5, a6, a7, a8, a9, fun v n d hd => a10 v n d (fun y => hd ((n2 d).mpr y))⟩
      split
      · rename_i y; rw [if_pos y] at a3; exact a3
      · rename_i y; rw [if_neg y] at a3; omega
  · obtain ⟨⟨b1, b2, b3, b4, b5⟩, c1⟩ := hM
    unfold Mv sumI at *
    rw [e 10 (by decide), e 12 (by decide), e 21 (by decide), e 22 (by decide), e 23 (by decide), e 24 (by decide), e 25 (by decide), e 29 (by decide), e 30 (by decide), e 31 (by decide), e 40 (by decide), e 41 (by decide), e 42 (by decide), e 43 (by decide), e44, e 46 (by decide)]
    exact ⟨⟨b1, b2, b3, by omega, by omega⟩, c1⟩
/-- an assert -/
theorem JA.ass {w : Nat} {L : List aop} (h : JA A) (e : ∀ j, j ∉ [15, 16, 19, 38, 43, 45, 47] → A'.1 j = A.1 j) (e43 : A'.1 43 0 = A.1 43 0 + 1) (e19 : ∀ a, A'.1 19 a = if a = A.1 43 0 then A.1 46 0 else A.1 19 a) (e38 : ∀ a, A'.1 38 a = if a = A.1 43 0 then A.1 21 (A.1 46 0) else A.1 38 a) (eL : ∀ a, A'.2.1 2 a = if a = A.1 43 0 then L else A.2.1 2 a) (eL1 : ∀ k, k ≠ 2 → A'.2.1 k = A.2.1 k) (eD : A'.2.2 = A.2.2) (hp : Pv A') (h45 : A.1 45 0 ≤ A'.1 45 0) (hX : XG A (A.1 46 0) L w) : JA A' := by
  obtain ⟨hN, hI, hL, hS, hW, hP, hM⟩ := h
  have sm : ∀ (l : List Nat), (∀ k, k ∈ l → k ∉ [15, 16, 19, 38, 43, 45, 47]) → ∀ k, k ∈ l → A'.1 k = A.1 k := fun l l1 k hk => e k (l1 k hk)
  have xm : ∀ m L w, XG A m L w → XG A' m L w := fun m L w x => x.mono (by rw [e 40 (by decide)]; exact Nat.le_refl _) (fun i _ => by rw [e 8 (by decide), e 1 (by decide)]; exact ⟨rfl, rfl⟩)
  refine ⟨hN.same (sm _ (by decide)) (eL1 0 (by decide)), hI.same (sm _ (by decide)), hL.same (sm _ (by decide)) (eL1 1 (by decide)), ?_, hW.same (sm _ (by decide)) eD, hp, ?_⟩
  · intro a ha
    rw [e43] at ha
    have m3 := hM.1.2.2.1
    unfold en
    rw [e19, e38, eL, e 46 (by decide), e 23 (by decide), e 21 (by decide), e43]
    by_cases z : a = A.1 43 0
    · subst z
      rw [if_pos rfl, if_pos rfl, if_pos rfl, if_neg (Nat.lt_irrefl _)]
      exact ⟨Nat.le_refl _, m3, by omega, rfl, w, xm _ _ _ hX⟩
    · obtain ⟨a1, a2, a3, a4, w', a5⟩ := hS a (by omega)
      rw [if_neg z, if_neg z, if_neg z]
      refine ⟨a1, a2, ?_, a4, w', xm _ _ _ a5⟩
      unfold en at a3
      split
      · rename_i y; rw [if_pos y] at a3; exact a3
      · rename_i y; rw [if_neg y] at a3; omega
  · obtain ⟨⟨b1, b2, b3, b4, b5⟩, c1⟩ := hM
    unfold Mv sumI at *
    rw [e 10 (by decide), e 12 (by decide), e 21 (by decide), e 22 (by decide), e 23 (by decide), e 24 (by decide), e 25 (by decide), e 29 (by decide), e 30 (by decide), e 31 (by decide), e 40 (by decide), e 41 (by decide), e 42 (by decide), e43, e 44 (by decide), e 46 (by decide)]
    exact ⟨⟨b1, b2, by omega, b4, by omega⟩, c1⟩
end DSTP2
