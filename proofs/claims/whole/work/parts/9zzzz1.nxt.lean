/-! Next values: each signal by itself; only registers change; they fit. -/
section NXT
variable {A : ds} {L : Nat → ly} {n ns i a x : Nat} {V X X' : Nat → Int64}
theorem apl_pt (hJ : JB A) (hm : (L i).1 < A.1 46 0) (h1 : A.1 24 (L i).1 ≤ a) (h2 : a < A.1 24 ((L i).1 + 1)) (h : X x = X' x) : apl A L V i a X x = apl A L V i a X' x := by
  obtain ⟨ha, h34, h33, h3⟩ := hJ.alwf hm h1 h2
  obtain ⟨-, -, -, -, -, -, -, a8, -⟩ := hJ.1.1.2.2.2.2.1 a ha
  unfold apl
  by_cases z : (L i).2.1 ≤ x ∧ x < (L i).2.1 + (A.1 33 a - A.1 34 a)
  · rw [if_pos z, if_pos z]
    refine a8.2 _ _ _ _ ?_
    unfold ev
    rw [show (L i).2.1 + (A.1 34 a + (x - (L i).2.1) - A.1 21 (L i).1) = x by omega]
    exact h
  · rw [if_neg z, if_neg z]
    exact h
theorem apl_non (hJ : JB A) (hL : Ly A L n ns) (hi : i < n) (h1 : A.1 24 (L i).1 ≤ a) (h2 : a < A.1 24 ((L i).1 + 1)) (hr : ¬ (A.1 2 (snm A L n x) = 2 ∨ A.1 2 (snm A L n x) = 4)) : apl A L V i a X x = X x := by
  have hm := (hL.2.2.2 i hi).1
  obtain ⟨ha, h34, h33, h3⟩ := hJ.alwf hm h1 h2
  obtain ⟨-, -, -, -, -, -, -, -, -, a10⟩ := hJ.1.1.2.2.2.2.1 a ha
  unfold apl
  by_cases z : (L i).2.1 ≤ x ∧ x < (L i).2.1 + (A.1 33 a - A.1 34 a)
  · rw [if_pos z]
    have e := (RS_at hL hi (q := x - (L i).2.1) (by omega)).2
    rw [show (L i).2.1 + (x - (L i).2.1) = x by omega] at e
    rw [a10 _ _ _ (fun y => hr (by rw [e]; have := y.2.2; rw [h34] at this; exact this))]
    unfold ev
    rw [show (L i).2.1 + (A.1 34 a + (x - (L i).2.1) - A.1 21 (L i).1) = x by omega]
  · rw [if_neg z]
theorem apl_fit (hJ : JB A) (hL : Ly A L n ns) (hi : i < n) (h1 : A.1 24 (L i).1 ≤ a) (h2 : a < A.1 24 ((L i).1 + 1)) (hT : Vt A L n ns V) (hX : Vt A L n ns X) : Vt A L n ns (apl A L V i a X) := by
  have hm := (hL.2.2.2 i hi).1
  obtain ⟨ha, h34, h33, h3⟩ := hJ.alwf hm h1 h2
  obtain ⟨-, -, -, -, -, -, -, -, a9, -⟩ := hJ.1.1.2.2.2.2.1 a ha
  intro x hx
  unfold apl
  by_cases z : (L i).2.1 ≤ x ∧ x < (L i).2.1 + (A.1 33 a - A.1 34 a)
  · rw [if_pos z]
    have e := (RS_at hL hi (q := x - (L i).2.1) (by omega)).2
    rw [show (L i).2.1 + (x - (L i).2.1) = x by omega] at e
    have vn : ∀ Y, Vt A L n ns Y → Vn (nmA A a) (ev A L Y i) := fun Y hY j q hq => by
      unfold nmA at hq
      split at hq
      · rename_i w
        cases hq
        exact Vt_name hJ hL hY hi (by show A.1 21 (L i).1 ≤ j; omega) (by show j - A.1 21 (L i).1 < own A (L i).1; omega)
      · cases hq
    have := a9 _ _ (vn V hT) (vn X hX) (A.1 34 a + (x - (L i).2.1)) (A.1 34 a + (x - (L i).2.1), A.1 1 (A.1 34 a + (x - (L i).2.1))) (by unfold nmA; rw [if_pos ⟨by omega, by omega⟩])
    rw [e, ← h34]
    exact this
  · rw [if_neg z]
    exact hX x hx
theorem apls_all (hJ : JB A) (hL : Ly A L n ns) (hi : i < n) : ∀ (l : List Nat) (X X' : Nat → Int64), (∀ a, a ∈ l → A.1 24 (L i).1 ≤ a ∧ a < A.1 24 ((L i).1 + 1)) → (∀ x, X x = X' x → apls A L V i l X x = apls A L V i l X' x) ∧ (∀ x, ¬ (A.1 2 (snm A L n x) = 2 ∨ A.1 2 (snm A L n x) = 4) → apls A L V i l X x = X x) ∧ (Vt A L n ns V → Vt A L n ns X → Vt A L n ns (apls A L V i l X))
  | [], X, X', _ => ⟨fun _ h => h, fun _ _ => rfl, fun _ h => h⟩
  | a :: l, X, X', h => by
    have hm := (hL.2.2.2 i hi).1
    obtain ⟨h1, h2⟩ := h a List.mem_cons_self
    obtain ⟨q1, q2, q3⟩ := apls_all hJ hL hi l (apl A L V i a X) (apl A L V i a X') (fun b hb => h b (List.mem_cons_of_mem _ hb))
    refine ⟨fun x e => q1 x (apl_pt hJ hm h1 h2 e), fun x e => ?_, fun hT hX => q3 hT (apl_fit hJ hL hi h1 h2 hT hX)⟩
    show apls A L V i l (apl A L V i a X) x = X x
    rw [q2 x e, apl_non hJ hL hi h1 h2 e]
theorem nxI_all (hJ : JB A) (hL : Ly A L n ns) : ∀ (k i : Nat) (X X' : Nat → Int64), i + k = n → (∀ x, X x = X' x → nxI A L V k i X x = nxI A L V k i X' x) ∧ (∀ x, ¬ (A.1 2 (snm A L n x) = 2 ∨ A.1 2 (snm A L n x) = 4) → nxI A L V k i X x = X x) ∧ (Vt A L n ns V → Vt A L n ns X → Vt A L n ns (nxI A L V k i X))
  | 0, i, X, X', _ => ⟨fun _ h => h, fun _ _ => rfl, fun _ h => h⟩
  | k + 1, i, X, X', hk => by
    have hi : i < n := by omega
    have rr := hJ.p345 (hL.2.2.2 i hi).1
    have mem : ∀ a, a ∈ alw A (L i).1 → A.1 24 (L i).1 ≤ a ∧ a < A.1 24 ((L i).1 + 1) := fun a ha => by
      unfold alw at ha
      have := mem_rng ha
      omega
    obtain ⟨p1, p2, p3⟩ := apls_all (V := V) hJ hL hi (alw A (L i).1) X X' mem
    obtain ⟨q1, q2, q3⟩ := nxI_all hJ hL k (i + 1) (apls A L V i (alw A (L i).1) X) (apls A L V i (alw A (L i).1) X') (by omega)
    refine ⟨fun x e => q1 x (p1 x e), fun x e => ?_, fun hT hX => q3 hT (p3 hT hX)⟩
    show nxI A L V k (i + 1) (apls A L V i (alw A (L i).1) X) x = X x
    rw [q2 x e, p2 x e]
end NXT
