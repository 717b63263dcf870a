/-! Designs: bounds. -/
section DWF
variable {tk pl vl wi wd : Nat → Nat} {nt N : Nat}
def WF (tk : Nat → Nat) (nt : Nat) (A : ds) (t : Nat) : Prop :=
  (2 * A.1 40 0 ≤ t ∧ 2 * A.1 41 0 ≤ t ∧ 2 * A.1 42 0 ≤ t ∧ 2 * A.1 43 0 ≤ t ∧ 2 * A.1 44 0 ≤ t ∧ 2 * A.1 45 0 ≤ t ∧ 4 * A.1 46 0 ≤ t) ∧
  (∀ d, d < A.1 40 0 → A.1 0 d < nt ∧ tk (A.1 0 d) = 400 ∧ 1 ≤ A.1 1 d ∧ A.1 1 d ≤ 64 ∧ A.1 2 d ≤ 4 ∧ A.1 4 d ≤ 3 ∧ A.1 3 d < 2 ^ A.1 1 d ∧ (A.1 2 d = 0 → A.1 3 d = 0)) ∧
  (∀ m, m ≤ A.1 46 0 → A.1 21 m ≤ A.1 40 0 ∧ A.1 22 m ≤ A.1 41 0) ∧ (∀ m, m < A.1 46 0 → A.1 20 m < nt ∧ tk (A.1 20 m) = 400 ∧ A.1 21 m ≤ A.1 21 (m + 1)) ∧
  (∀ i, i < A.1 41 0 → A.1 10 i < A.1 46 0 ∧ A.1 11 i < nt ∧ tk (A.1 11 i) = 400) ∧ (∀ i, i ≤ A.1 41 0 → A.1 12 i ≤ A.1 42 0) ∧ (∀ k, k < A.1 42 0 → A.1 13 k < A.1 40 0)
theorem WF.later {A : ds} {t t' : Nat} (h : WF tk nt A t) (ht : t ≤ t') : WF tk nt A t' := by
  obtain ⟨⟨a1, a2, a3, a4, a5, a6, a7⟩, h⟩ := h
  exact ⟨⟨by omega, by omega, by omega, by omega, by omega, by omega, by omega⟩, h⟩
theorem WF.add {A : ds} {t t' u w k : Nat} (h : WF tk nt A t) (ht : t + 2 ≤ t') (hu : u < nt) (hk : tk u = 400) (w1 : 1 ≤ w) (w2 : w ≤ 64) (k4 : k ≤ 4) : WF tk nt (dAdd A u w k) t' := by
  obtain ⟨⟨a1, a2, a3, a4, a5, a6, a7⟩, h2, h3, h4, h5, h6, h7⟩ := h
  unfold WF dAdd
  simp only [tu1, tu2, uu1, uu2, uu3, vu1, vu2, vu3, su1, su2, Nat.reduceEqDiff, false_and, true_and, reduceIte, Bool.false_eq_true, if_true, if_false]
  refine ⟨⟨by omega, by omega, by omega, by omega, by omega, by omega, by omega⟩, fun d hd => ?_, fun m hm => ?_, h4, h5, h6, fun k hk => ?_⟩
  · by_cases e : d = A.1 40 0
    · simp only [e, reduceIte]
      exact ⟨hu, hk, w1, w2, k4, by omega, Nat.two_pow_pos _, fun _ => trivial⟩
    · simp only [e, reduceIte]
      exact h2 d (by omega)
  · have := h3 m hm; omega
  · have := h7 k hk; omega
theorem WF.first {A : ds} {t d x : Nat} (h : WF tk nt A t) (hx : d < A.1 40 0 → x < 2 ^ A.1 1 d) (hx2 : A.1 2 d ≠ 0) : WF tk nt (tu A 3 d x) t := by
  obtain ⟨h1, h2, h3⟩ := h
  unfold WF
  simp only [tu1, tu2, uu1, uu2, uu3, vu1, vu2, vu3, su1, su2, Nat.reduceEqDiff, false_and, true_and, reduceIte, Bool.false_eq_true, if_true, if_false]
  refine ⟨h1, fun e he => ?_, h3⟩
  obtain ⟨b1, b2, b3, b4, b5, b6, b7, b8⟩ := h2 e he
  refine ⟨b1, b2, b3, b4, b5, b6, ?_, fun z => ?_⟩
  · by_cases c : e = d
    · subst c; simp only [reduceIte]; exact hx he
    · simp only [c, reduceIte]; exact b7
  · by_cases c : e = d
    · subst c; exact absurd z hx2
    · simp only [c, reduceIte]; exact b8 z
/-- a result is well told, and further on -/
def Wo (tk : Nat → Nat) (nt : Nat) (r : dr) (u : Nat) : Prop := ∀ t' A', r = some (.inr (t', A')) → WF tk nt A' t' ∧ u < t'
theorem Wo.no {f p u : Nat} : Wo tk nt (dno f p) u := fun t' A' h => (by cases h)
theorem Wo.none {u : Nat} : Wo tk nt none u := fun t' A' h => (by cases h)
theorem Wo.inl {f : Nat × Nat} {u : Nat} : Wo tk nt (some (.inl f)) u := fun t' A' h => (by cases h)
theorem Wo.ok {A : ds} {t u : Nat} (h : WF tk nt A t) (hu : u < t) : Wo tk nt (dok t A) u := fun t' A' e => (by cases e; exact ⟨h, hu⟩)
theorem Wo.db {r : dr} {k : Nat → ds → dr} {u v : Nat} (h : Wo tk nt r u) (g : ∀ t A, WF tk nt A t → u < t → Wo tk nt (k t A) v) : Wo tk nt (db r k) v := by
  intro t' A' e
  match r, h, e with
  | some (.inr (t, A)), h, e => exact g t A (h t A rfl).1 (h t A rfl).2 t' A' e
theorem Wo.le {r : dr} {u v : Nat} (h : Wo tk nt r u) (g : v ≤ u) : Wo tk nt r v := fun t' A' e => ⟨(h t' A' e).1, by have := (h t' A' e).2; omega⟩
/-- what numbers there are -/
def Vb (tk vl wi : Nat → Nat) : Prop := ∀ i, (tk i = 401 → vl i < 65536) ∧ (tk i = 402 → vl i < 2 ^ wi i ∧ 1 ≤ wi i ∧ wi i ≤ 64)
theorem dDecl_wo {A : ds} {t u k : Nat} (hV : Vb tk vl wi) (h : WF tk nt A t) (ht : t < u) (k4 : k ≤ 4) : Wo tk nt (dDecl tk pl vl wi wd nt k u A) u := by
  unfold dDecl
  by_cases c0 : nt ≤ u
  · rw [if_pos c0]; exact Wo.none
  rw [if_neg c0]
  have go : ∀ v w, u ≤ v → 1 ≤ w → w ≤ 64 → Wo tk nt (dDec tk pl vl wi wd nt k v w A) u := by
    intro v w hv w1 w2
    unfold dDec
    by_cases c1 : nt ≤ v + 1 ∨ tk v ≠ 400
    · rw [if_pos c1]; exact Wo.none
    rw [if_neg c1]
    have v1 : v < nt := by
      by_cases z : nt ≤ v + 1
      · exact absurd (Or.inl z) c1
      · omega
    have v2 : tk v = 400 := by
      by_cases z : tk v = 400
      · exact z
      · exact absurd (Or.inr z) c1
    by_cases c2 : dHere wd A v ≠ none ∨ dInst wd A v ≠ none
    · rw [if_pos c2]; exact Wo.no
    rw [if_neg c2]
    by_cases c3 : tk (v + 1) = 61
    · rw [if_pos c3]
      by_cases c4 : nt ≤ v + 3 ∨ tk (v + 2) ≠ 402 ∨ (k ≠ 2 ∧ k ≠ 4)
      · rw [if_pos c4]; exact Wo.none
      rw [if_neg c4]
      have v3 : tk (v + 2) = 402 := by
        by_cases z : tk (v + 2) = 402
        · exact z
        · exact absurd (Or.inr (Or.inl z)) c4
      have v4 : k ≠ 0 := fun z => c4 (Or.inr (Or.inr ⟨by omega, by omega⟩))
      by_cases c5 : wi (v + 2) = w
      · rw [if_pos c5]
        refine Wo.ok ((h.add (t' := v + 3) (by omega) v1 v2 w1 w2 k4).first (fun _ => ?_) (by unfold dAdd; simp only [tu1, tu2, uu1, uu2, uu3, vu1, vu2, vu3, su1, su2, Nat.reduceEqDiff, false_and, true_and, reduceIte, Bool.false_eq_true, if_true, if_false]; exact v4)) (by omega)
        have := ((hV (v + 2)).2 v3).1
        rw [c5] at this
        unfold dAdd
        simp only [tu1, tu2, uu1, uu2, uu3, vu1, vu2, vu3, su1, su2, Nat.reduceEqDiff, false_and, true_and, reduceIte, Bool.false_eq_true, if_true, if_false]
        exact this
      · rw [if_neg c5]; exact Wo.no
    · rw [if_neg c3]
      exact Wo.ok (h.add (by omega) v1 v2 w1 w2 k4) (by omega)
  unfold dRng
  by_cases c1 : tk u = 91
  · rw [if_pos c1]
    by_cases c2 : nt ≤ u + 5 ∨ tk (u + 1) ≠ 401 ∨ tk (u + 3) ≠ 401
    · rw [if_pos c2]; exact Wo.none
    rw [if_neg c2]
    by_cases c3 : 63 < vl (u + 1) ∨ vl (u + 3) ≠ 0
    · rw [if_pos c3]; exact Wo.inl
    rw [if_neg c3]
    exact go (u + 5) (vl (u + 1) + 1) (by omega) (by omega) (by omega)
  · rw [if_neg c1]
    exact go u 1 (Nat.le_refl _) (by omega) (by omega)
theorem dPort_wo {A : ds} {t : Nat} (hV : Vb tk vl wi) (h : WF tk nt A t) : Wo tk nt (dPort tk pl vl wi wd nt t A) t := by
  unfold dPort
  split
  · exact Wo.none
  · split
    · exact (dDecl_wo hV h (by omega) (by omega)).le (by omega)
    · split
      · exact (dDecl_wo hV h (by omega) (by omega)).le (by omega)
      · exact (dDecl_wo hV h (by omega) (by omega)).le (by omega)
theorem dPorts_wo (hV : Vb tk vl wi) : ∀ (n t : Nat) (A : ds), WF tk nt A t → ∀ t' A', dPorts tk pl vl wi wd nt n t A = some (.inr (t', A')) → WF tk nt A' t' ∧ t ≤ t' := by
  intro n
  induction n with
  | zero => intro t A h t' A' e; cases e
  | succ n ih =>
    intro t A h t' A' e
    unfold dPorts at e
    split at e
    · cases e
    · split at e
      · match er : dPort tk pl vl wi wd nt t A with
        | none => rw [er] at e; cases e
        | some (.inl f) => rw [er] at e; cases e
        | some (.inr (t1, A1)) =>
          rw [er, db_inr] at e
          obtain ⟨w1, w2⟩ := dPort_wo hV h t1 A1 er
          split at e
          · cases e
          · obtain ⟨x1, x2⟩ := ih _ A1 (w1.later (t' := if tk t1 = 44 then t1 + 1 else t1) (by split <;> omega)) t' A' e
            refine ⟨x1, ?_⟩
            revert x2
            split <;> omega
      · cases e
        exact ⟨h, Nat.le_refl _⟩
theorem dX_in {A : ds} {t w t1 C : Nat} {L : List aop} (e : dX tk pl vl wi wd nt N A t = some (.inr (w, t1, L, C))) : eF tk pl vl wi (dNm wd A) nt N t = some (.inr (w, t1, L, C)) ∧ t1 + 1 < nt ∧ t < t1 ∧ 1 ≤ w ∧ w ≤ 64 := by
  unfold dX at e
  match er : eF tk pl vl wi (dNm wd A) nt N t with
  | none => rw [er] at e; cases e
  | some (.inl f) => rw [er] at e; cases e
  | some (.inr (w', t1', L', C')) =>
    rw [er] at e
    dsimp only at e
    by_cases z : nt ≤ t1' + 1 ∨ t1' ≤ t ∨ w' = 0 ∨ 64 < w'
    · rw [if_pos z] at e; cases e
    · rw [if_neg z] at e
      cases e
      exact ⟨rfl, by omega, by omega, by omega, by omega⟩
theorem dAssign_wo {A : ds} {t : Nat} (h : WF tk nt A t) : Wo tk nt (dAssign tk pl vl wi wd nt N t A) t := by
  unfold dAssign
  split
  · exact Wo.none
  · split
    · exact Wo.no
    · rename_i d hd
      split
      · exact Wo.no
      · split
        · exact Wo.no
        · split
          · exact Wo.none
          · exact Wo.inl
          · rename_i w t1 L C er
            obtain ⟨-, x1, x2, -⟩ := dX_in er
            split
            · refine Wo.ok ?_ (by omega)
              obtain ⟨⟨a1, a2, a3, a4, a5, a6, a7⟩, h2, h3⟩ := h
              unfold WF
              simp only [tu1, tu2, uu1, uu2, uu3, vu1, vu2, vu3, su1, su2, Nat.reduceEqDiff, false_and, true_and, reduceIte, Bool.false_eq_true, if_true, if_false]
              refine ⟨⟨by omega, by omega, by omega, by omega, by omega, by omega, by omega⟩, fun e he => ?_, h3⟩
              obtain ⟨b1, b2, b3, b4, b5, b6, b7⟩ := h2 e he
              refine ⟨b1, b2, b3, b4, b5, ?_, b7⟩
              split
              · omega
              · exact b6
            · exact Wo.no
theorem dAlways_wo {A : ds} {t : Nat} (h : WF tk nt A t) : Wo tk nt (dAlways tk pl vl wi wd nt N t A) t := by
  unfold dAlways
  split
  · exact Wo.none
  · split
    · exact Wo.none
    · exact Wo.inl
    · split
      · exact Wo.none
      · refine Wo.ok ?_ (by omega)
        obtain ⟨⟨a1, a2, a3, a4, a5, a6, a7⟩, h2⟩ := h
        unfold WF dAlw
        split
        · simp only [tu1, tu2, uu1, uu2, uu3, vu1, vu2, vu3, su1, su2, Nat.reduceEqDiff, false_and, true_and, reduceIte, Bool.false_eq_true, if_true, if_false]
          exact ⟨⟨by omega, by omega, by omega, by omega, by omega, by omega, by omega⟩, h2⟩
        · simp only [tu1, tu2, uu1, uu2, uu3, vu1, vu2, vu3, su1, su2, Nat.reduceEqDiff, false_and, true_and, reduceIte, Bool.false_eq_true, if_true, if_false]
          exact ⟨⟨by omega, by omega, by omega, by omega, by omega, by omega, by omega⟩, h2⟩
theorem dAssert_wo {A : ds} {t : Nat} (h : WF tk nt A t) : Wo tk nt (dAssert tk pl vl wi wd nt N t A) t := by
  unfold dAssert
  split
  · exact Wo.none
  · split
    · exact Wo.none
    · exact Wo.inl
    · rename_i w t1 L C er
      obtain ⟨-, x1, x2, -⟩ := dX_in er
      refine Wo.ok ?_ (by omega)
      obtain ⟨⟨a1, a2, a3, a4, a5, a6, a7⟩, h2⟩ := h
      unfold WF dAss
      simp only [tu1, tu2, uu1, uu2, uu3, vu1, vu2, vu3, su1, su2, Nat.reduceEqDiff, false_and, true_and, reduceIte, Bool.false_eq_true, if_true, if_false]
      exact ⟨⟨by omega, by omega, by omega, by omega, by omega, by omega, by omega⟩, h2⟩
theorem dHere_in {A : ds} {t d u : Nat} (h : WF tk nt A u) (e : dHere wd A t = some d) : d < A.1 40 0 ∧ A.1 21 (A.1 46 0) ≤ d ∧ wd (A.1 0 d) = wd t := by
  obtain ⟨e1, e2, e3, -⟩ := fnd_some e
  have := (h.2.2.1 _ (Nat.le_refl _)).1
  exact ⟨by omega, e1, of_decide_eq_true e3⟩
theorem dPrt_in {A : ds} {m t p u : Nat} (h : WF tk nt A u) (hm : m < A.1 46 0) (e : dPrt wd A m t = some p) : p < A.1 40 0 ∧ A.1 21 m ≤ p ∧ p < A.1 21 (m + 1) ∧ wd (A.1 0 p) = wd t := by
  obtain ⟨e1, e2, e3, -⟩ := fnd_some e
  have := (h.2.2.1 (m + 1) (by omega)).1
  have := (h.2.2.2.1 m hm).2.2
  exact ⟨by omega, e1, by omega, of_decide_eq_true e3⟩
theorem dMod_in {A : ds} {t m : Nat} (e : dMod wd A t = some m) : m < A.1 46 0 ∧ wd (A.1 20 m) = wd t := by
  obtain ⟨e1, e2, e3, -⟩ := fnd_some e
  exact ⟨by omega, of_decide_eq_true e3⟩
theorem WF.link {A : ds} {t t' p : Nat} (h : WF tk nt A t) (ht : t + 2 ≤ t') (hp : p < A.1 40 0) (L : List aop) (C : Nat) : WF tk nt (dLi A p L C) t' ∧ ∀ s, WF tk nt (dLo A p s L C) t' := by
  obtain ⟨⟨a1, a2, a3, a4, a5, a6, a7⟩, h2, h3, h4, h5, h6, h7⟩ := h
  constructor
  · unfold WF dLi
    simp only [tu1, tu2, uu1, uu2, uu3, vu1, vu2, vu3, su1, su2, Nat.reduceEqDiff, false_and, true_and, reduceIte, Bool.false_eq_true, if_true, if_false]
    refine ⟨⟨by omega, by omega, by omega, by omega, by omega, by omega, by omega⟩, h2, h3, h4, h5, fun i hi => ?_, fun k hk => ?_⟩
    · have := h6 i hi; omega
    · split
      · exact hp
      · exact h7 k (by omega)
  · intro s
    unfold WF dLo
    simp only [tu1, tu2, uu1, uu2, uu3, vu1, vu2, vu3, su1, su2, Nat.reduceEqDiff, false_and, true_and, reduceIte, Bool.false_eq_true, if_true, if_false]
    refine ⟨⟨by omega, by omega, by omega, by omega, by omega, by omega, by omega⟩, fun e he => ?_, h3, h4, h5, fun i hi => ?_, fun k hk => ?_⟩
    · obtain ⟨b1, b2, b3, b4, b5, b6, b7⟩ := h2 e he
      refine ⟨b1, b2, b3, b4, b5, ?_, b7⟩
      split
      · omega
      · exact b6
    · have := h6 i hi; omega
    · split
      · exact hp
      · exact h7 k (by omega)
theorem dLink_wo {A : ds} {m t : Nat} (h : WF tk nt A t) (hm : m < A.1 46 0) : Wo tk nt (dLink tk pl vl wi wd nt N m t A) (t + 2) := by
  unfold dLink
  split
  · exact Wo.none
  · split
    · exact Wo.no
    · rename_i p hp
      have pin := dPrt_in h hm hp
      split
      · exact Wo.no
      · split
        · exact Wo.none
        · exact Wo.inl
        · rename_i w t1 L C er
          obtain ⟨-, x1, x2, -⟩ := dX_in er
          split
          · split
            · exact Wo.ok (h.link (by omega) pin.1 L C).1 (by omega)
            · exact Wo.no
          · split
            · exact Wo.no
            · split
              · exact Wo.no
              · split
                · exact Wo.no
                · split
                  · exact Wo.no
                  · split
                    · exact Wo.no
                    · exact Wo.ok ((h.link (by omega) pin.1 L C).2 _) (by omega)
/-- links leave how many items and modules there are -/
theorem dLink_cnt {A : ds} {m t t' : Nat} {A' : ds} (e : dLink tk pl vl wi wd nt N m t A = some (.inr (t', A'))) : A'.1 46 0 = A.1 46 0 ∧ A'.1 41 0 = A.1 41 0 ∧ A'.1 40 0 = A.1 40 0 := by
  unfold dLink at e
  split at e
  · cases e
  · split at e
    · cases e
    · split at e
      · cases e
      · split at e
        · cases e
        · cases e
        · split at e
          · split at e
            · cases e
              unfold dLi
              simp only [and_self, tu1, tu2, uu1, uu2, uu3, vu1, vu2, vu3, su1, su2, Nat.reduceEqDiff, false_and, true_and, reduceIte, Bool.false_eq_true, if_true, if_false]
            · cases e
          · split at e
            · cases e
            · split at e
              · cases e
              · split at e
                · cases e
                · split at e
                  · cases e
                  · split at e
                    · cases e
                    · cases e
                      unfold dLo
                      simp only [and_self, tu1, tu2, uu1, uu2, uu3, vu1, vu2, vu3, su1, su2, Nat.reduceEqDiff, false_and, true_and, reduceIte, Bool.false_eq_true, if_true, if_false]
theorem dLinks_wo {m : Nat} : ∀ (n t : Nat) (A : ds), WF tk nt A t → m < A.1 46 0 → ∀ t' A', dLinks tk pl vl wi wd nt N m n t A = some (.inr (t', A')) → WF tk nt A' t' ∧ t ≤ t' ∧ A'.1 46 0 = A.1 46 0 ∧ A'.1 41 0 = A.1 41 0 ∧ A'.1 40 0 = A.1 40 0 := by
  intro n
  induction n with
  | zero => intro t A h hm t' A' e; cases e
  | succ n ih =>
    intro t A h hm t' A' e
    unfold dLinks at e
    split at e
    · cases e
    · split at e
      · match er : dLink tk pl vl wi wd nt N m t A with
        | none => rw [er] at e; cases e
        | some (.inl f) => rw [er] at e; cases e
        | some (.inr (t1, A1)) =>
          rw [er, db_inr] at e
          obtain ⟨w1, w2⟩ := dLink_wo h hm t1 A1 er
          obtain ⟨c1, c2, c3⟩ := dLink_cnt er
          split at e
          · cases e
          · obtain ⟨x1, x2, x3, x4, x5⟩ := ih _ A1 (w1.later (t' := if tk t1 = 44 then t1 + 1 else t1) (by split <;> omega)) (by rw [c1]; exact hm) t' A' e
            refine ⟨x1, ?_, x3.trans c1, x4.trans c2, x5.trans c3⟩
            revert x2
            split <;> omega
      · cases e
        exact ⟨h, Nat.le_refl _, rfl, rfl, rfl⟩
theorem WF.it {A : ds} {t u m : Nat} (h : WF tk nt A t) : WF tk nt (dIt A m u) t := by
  obtain ⟨h1, h2, h3, h4, h5, h6, h7⟩ := h
  unfold WF dIt
  simp only [tu1, tu2, uu1, uu2, uu3, vu1, vu2, vu3, su1, su2, Nat.reduceEqDiff, false_and, true_and, reduceIte, Bool.false_eq_true, if_true, if_false]
  refine ⟨h1, h2, h3, h4, fun i hi => ?_, fun i hi => ?_, h7⟩
  · have e : ¬ i = A.1 41 0 := by omega
    simp only [e, reduceIte]
    exact h5 i hi
  · split
    · omega
    · exact h6 i hi
theorem WF.itE {A : ds} {t t' : Nat} (h : WF tk nt A t) (ht : t + 2 ≤ t') (hi : A.1 10 (A.1 41 0) < A.1 46 0 ∧ A.1 11 (A.1 41 0) < nt ∧ tk (A.1 11 (A.1 41 0)) = 400) : WF tk nt (dItE A) t' := by
  obtain ⟨⟨a1, a2, a3, a4, a5, a6, a7⟩, h2, h3, h4, h5, h6, h7⟩ := h
  unfold WF dItE
  simp only [tu1, tu2, uu1, uu2, uu3, vu1, vu2, vu3, su1, su2, Nat.reduceEqDiff, false_and, true_and, reduceIte, Bool.false_eq_true, if_true, if_false]
  refine ⟨⟨by omega, by omega, by omega, by omega, by omega, by omega, by omega⟩, h2, fun m hm => ?_, h4, fun i hi' => ?_, fun i hi' => ?_, h7⟩
  · have := h3 m hm; omega
  · by_cases e : i = A.1 41 0
    · rw [e]; exact hi
    · exact h5 i (by omega)
  · split
    · omega
    · exact h6 i (by omega)
/-- links leave what is told of the item -/
theorem dLink_it {A : ds} {m t t' : Nat} {A' : ds} (e : dLink tk pl vl wi wd nt N m t A = some (.inr (t', A'))) : ∀ k, k ∈ [0, 1, 2, 3, 5, 8, 9, 10, 11, 12, 15, 16, 17, 19, 20, 21, 22, 23, 24, 25, 26, 27, 28, 29, 30, 31, 32, 40, 41, 43, 44, 45, 46] → A'.1 k = A.1 k := by
  have go : ∀ (p s : Nat) (L : List aop) (C k : Nat), k ∈ [0, 1, 2, 3, 5, 8, 9, 10, 11, 12, 15, 16, 17, 19, 20, 21, 22, 23, 24, 25, 26, 27, 28, 29, 30, 31, 32, 40, 41, 43, 44, 45, 46] → (dLi A p L C).1 k = A.1 k ∧ (dLo A p s L C).1 k = A.1 k := by
    intro p s L C k hk
    simp only [List.mem_cons, List.not_mem_nil, or_false] at hk
    constructor
    · funext i
      unfold dLi
      rcases hk with rfl | rfl | rfl | rfl | rfl | rfl | rfl | rfl | rfl | rfl | rfl | rfl | rfl | rfl | rfl | rfl | rfl | rfl | rfl | rfl | rfl | rfl | rfl | rfl | rfl | rfl | rfl | rfl | rfl | rfl | rfl | rfl | rfl <;> simp only [tu1, tu2, uu1, uu2, uu3, vu1, vu2, vu3, su1, su2, Nat.reduceEqDiff, false_and, true_and, reduceIte, Bool.false_eq_true, if_true, if_false]
    · funext i
      unfold dLo
      rcases hk with rfl | rfl | rfl | rfl | rfl | rfl | rfl | rfl | rfl | rfl | rfl | rfl | rfl | rfl | rfl | rfl | rfl | rfl | rfl | rfl | rfl | rfl | rfl | rfl | rfl | rfl | rfl | rfl | rfl | rfl | rfl | rfl | rfl <;> simp only [tu1, tu2, uu1, uu2, uu3, vu1, vu2, vu3, su1, su2, Nat.reduceEqDiff, false_and, true_and, reduceIte, Bool.false_eq_true, if_true, if_false]
  unfold dLink at e
  split at e
  · cases e
  · split at e
    · cases e
    · split at e
      · cases e
      · split at e
        · cases e
        · cases e
        · split at e
          · split at e
            · cases e
              exact fun k hk => (go _ 0 _ _ k hk).1
            · cases e
          · split at e
            · cases e
            · split at e
              · cases e
              · split at e
                · cases e
                · split at e
                  · cases e
                  · split at e
                    · cases e
                    · cases e
                      exact fun k hk => (go _ _ _ _ k hk).2
theorem dLinks_it {m : Nat} : ∀ (n t : Nat) (A : ds), ∀ t' A', dLinks tk pl vl wi wd nt N m n t A = some (.inr (t', A')) → ∀ k, k ∈ [0, 1, 2, 3, 5, 8, 9, 10, 11, 12, 15, 16, 17, 19, 20, 21, 22, 23, 24, 25, 26, 27, 28, 29, 30, 31, 32, 40, 41, 43, 44, 45, 46] → A'.1 k = A.1 k := by
  intro n
  induction n with
  | zero => intro t A t' A' e; cases e
  | succ n ih =>
    intro t A t' A' e k hk
    unfold dLinks at e
    split at e
    · cases e
    · split at e
      · match er : dLink tk pl vl wi wd nt N m t A with
        | none => rw [er] at e; cases e
        | some (.inl f) => rw [er] at e; cases e
        | some (.inr (t1, A1)) =>
          rw [er, db_inr] at e
          split at e
          · cases e
          · exact (ih _ A1 t' A' e k hk).trans (dLink_it er k hk)
      · cases e
        rfl
theorem dInstance_wo {A : ds} {t : Nat} (h : WF tk nt A t) : Wo tk nt (dInstance tk pl vl wi wd nt N t A) t := by
  unfold dInstance
  split
  · exact Wo.none
  · rename_i c0
    split
    · exact Wo.no
    · rename_i m hm
      have mi := dMod_in hm
      split
      · exact Wo.no
      · intro t' A' e
        match er : dLinks tk pl vl wi wd nt N m N (t + 3) (dIt A m (t + 1)) with
        | none => rw [er] at e; cases e
        | some (.inl f) => rw [er] at e; cases e
        | some (.inr (t1, A1)) =>
          rw [er, db_inr] at e
          have e46 : (dIt A m (t + 1)).1 46 0 = A.1 46 0 := by unfold dIt; simp only [tu1, tu2, uu1, uu2, uu3, vu1, vu2, vu3, su1, su2, Nat.reduceEqDiff, false_and, true_and, reduceIte, Bool.false_eq_true, if_true, if_false]
          have e41 : (dIt A m (t + 1)).1 41 0 = A.1 41 0 := by unfold dIt; simp only [tu1, tu2, uu1, uu2, uu3, vu1, vu2, vu3, su1, su2, Nat.reduceEqDiff, false_and, true_and, reduceIte, Bool.false_eq_true, if_true, if_false]
          obtain ⟨x1, x2, x3, x4, x5⟩ := dLinks_wo N (t + 3) (dIt A m (t + 1)) ((h.it).later (by omega)) (by rw [e46]; exact mi.1) t1 A1 er
          have it := dLinks_it N (t + 3) (dIt A m (t + 1)) t1 A1 er
          split at e
          · cases e
          · split at e
            · cases e
            · cases e
              refine ⟨x1.itE (by omega) ?_, by omega⟩
              rw [x4, x3, it 10 (by decide), it 11 (by decide), e41, e46]
              have e10 : (dIt A m (t + 1)).1 10 (A.1 41 0) = m := by unfold dIt; simp only [tu1, tu2, uu1, uu2, uu3, vu1, vu2, vu3, su1, su2, Nat.reduceEqDiff, false_and, true_and, reduceIte, Bool.false_eq_true, if_true, if_false]
              have e11 : (dIt A m (t + 1)).1 11 (A.1 41 0) = t + 1 := by unfold dIt; simp only [tu1, tu2, uu1, uu2, uu3, vu1, vu2, vu3, su1, su2, Nat.reduceEqDiff, false_and, true_and, reduceIte, Bool.false_eq_true, if_true, if_false]
              rw [e10, e11]
              refine ⟨mi.1, ?_, ?_⟩
              · by_cases z : t + 1 < nt
                · exact z
                · exact absurd (Or.inl (by omega)) c0
              · by_cases z : tk (t + 1) = 400
                · exact z
                · exact absurd (Or.inr (Or.inr z)) c0
theorem dItem_wo {A : ds} {t : Nat} (hV : Vb tk vl wi) (h : WF tk nt A t) : Wo tk nt (dItem tk pl vl wi wd nt N t A) t := by
  unfold dItem
  split
  · exact Wo.none
  · split
    · refine (dDecl_wo hV h (by omega) (by omega)).db (fun t1 A1 w1 w2 => ?_)
      split
      · exact Wo.none
      · exact Wo.ok (w1.later (by omega)) (by omega)
    · split
      · refine (dDecl_wo hV h (by omega) (by omega)).db (fun t1 A1 w1 w2 => ?_)
        split
        · exact Wo.none
        · exact Wo.ok (w1.later (by omega)) (by omega)
      · split
        · exact dAssign_wo h
        · split
          · exact dAlways_wo h
          · split
            · exact dAssert_wo h
            · exact dInstance_wo h
end DWF
