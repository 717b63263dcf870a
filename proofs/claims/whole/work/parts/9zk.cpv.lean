/-! Ports stand first in their module. -/
def PF (A : ds) : Prop := ∀ m, m < A.1 46 0 → A.1 21 m + A.1 26 m ≤ A.1 21 (m + 1) ∧ ∀ d, A.1 21 m ≤ d → d < A.1 21 (m + 1) → (A.1 2 d ≤ 2 ↔ d < A.1 21 m + A.1 26 m)
def PC (A : ds) : Prop := A.1 21 (A.1 46 0) + A.1 26 (A.1 46 0) ≤ A.1 40 0 ∧ ∀ d, A.1 21 (A.1 46 0) ≤ d → d < A.1 40 0 → (A.1 2 d ≤ 2 ↔ d < A.1 21 (A.1 46 0) + A.1 26 (A.1 46 0))
/-- within a head -/
def PH (A : ds) : Prop := PF A ∧ A.1 21 (A.1 46 0) ≤ A.1 40 0 ∧ ∀ d, A.1 21 (A.1 46 0) ≤ d → d < A.1 40 0 → A.1 2 d ≤ 2
/-- between modules -/
def PB (A : ds) : Prop := PF A ∧ (0 < A.1 46 0 → A.1 21 (A.1 46 0) = A.1 40 0) ∧ ∀ m, m < A.1 46 0 → A.1 21 (m + 1) ≤ A.1 40 0
section CPV
variable {tk pl vl wi wd : Nat → Nat} {nt N : Nat} {A A' : ds}
theorem PF.same (h : PF A) (e : ∀ k, k ∈ [2, 21, 26, 46] → A'.1 k = A.1 k) : PF A' := by
  unfold PF at *
  rw [e 2 (by decide), e 21 (by decide), e 26 (by decide), e 46 (by decide)]
  exact h
theorem PC.same (h : PC A) (e : ∀ k, k ∈ [2, 21, 26, 40, 46] → A'.1 k = A.1 k) : PC A' := by
  unfold PC at *
  rw [e 2 (by decide), e 21 (by decide), e 26 (by decide), e 40 (by decide), e 46 (by decide)]
  exact h
/-- a name more -/
theorem PF.add {u w k : Nat} (h : PF A) (h21 : ∀ m, m < A.1 46 0 → A.1 21 (m + 1) ≤ A.1 40 0) : PF (dAdd A u w k) := by
  unfold PF dAdd at *
  simp only [tu1, tu2, uu1, uu2, uu3, vu1, vu2, vu3, su1, su2, Nat.reduceEqDiff, false_and, true_and, reduceIte, Bool.false_eq_true, if_true, if_false]
  intro m hm
  obtain ⟨h1, h2⟩ := h m hm
  refine ⟨h1, fun d d1 d2 => ?_⟩
  have := h21 m hm
  have ne : ¬ d = A.1 40 0 := by omega
  simp only [ne, if_false]
  exact h2 d d1 d2
theorem PC.add {u w k : Nat} (h : PC A) (hk : 3 ≤ k) : PC (dAdd A u w k) := by
  unfold PC dAdd at *
  simp only [tu1, tu2, uu1, uu2, uu3, vu1, vu2, vu3, su1, su2, Nat.reduceEqDiff, false_and, true_and, reduceIte, Bool.false_eq_true, if_true, if_false]
  obtain ⟨h1, h2⟩ := h
  refine ⟨by omega, fun d d1 d2 => ?_⟩
  by_cases z : d = A.1 40 0
  · simp only [z, if_true]
    constructor <;> omega
  · simp only [z, if_false]
    exact h2 d d1 (by omega)
theorem PH.add {u w k : Nat} (h : PH A) (h21 : ∀ m, m < A.1 46 0 → A.1 21 (m + 1) ≤ A.1 40 0) (hk : k ≤ 2) : PH (dAdd A u w k) := by
  obtain ⟨h0, h1, h2⟩ := h
  refine ⟨h0.add h21, ?_⟩
  unfold dAdd
  simp only [tu1, tu2, uu1, uu2, uu3, vu1, vu2, vu3, su1, su2, Nat.reduceEqDiff, false_and, true_and, reduceIte, Bool.false_eq_true, if_true, if_false]
  refine ⟨by omega, fun d d1 d2 => ?_⟩
  by_cases z : d = A.1 40 0
  · simp only [z, if_true]
    exact hk
  · simp only [z, if_false]
    exact h2 d d1 (by omega)
theorem dDecl_is {k t t' : Nat} (e : dDecl tk pl vl wi wd nt k t A = some (.inr (t', A'))) : ∃ u w x, A' = dAdd A u w k ∨ A' = tu (dAdd A u w k) 3 (A.1 40 0) x := by
  unfold dDecl at e
  split at e
  · cases e
  · split at e
    · cases e
    · cases e
    · unfold dDec at e
      split at e
      · cases e
      · split at e
        · cases e
        · split at e
          · split at e
            · cases e
            · split at e
              · cases e
                exact ⟨_, _, _, Or.inr rfl⟩
              · cases e
          · cases e
            exact ⟨_, _, 0, Or.inl rfl⟩
theorem tu3_same {d x : Nat} : ∀ k, k ∈ [2, 21, 26, 40, 46] → (tu A 3 d x).1 k = A.1 k := by
  intro k hk
  simp only [List.mem_cons, List.not_mem_nil, or_false] at hk
  funext i
  rcases hk with rfl | rfl | rfl | rfl | rfl <;> simp only [tu1, tu2, uu1, uu2, uu3, vu1, vu2, vu3, su1, su2, Nat.reduceEqDiff, false_and, true_and, reduceIte, Bool.false_eq_true, if_true, if_false]
theorem WF.h21 {t : Nat} (h : WF tk nt A t) : ∀ m, m < A.1 46 0 → A.1 21 (m + 1) ≤ A.1 40 0 := fun m hm => (h.2.2.1 (m + 1) (by omega)).1
theorem dDecl_P {k t t' u : Nat} (h1 : PF A) (h2 : PC A) (hk : 3 ≤ k) (hW : WF tk nt A u) (e : dDecl tk pl vl wi wd nt k t A = some (.inr (t', A'))) : PF A' ∧ PC A' := by
  obtain ⟨a, b, x, rfl | rfl⟩ := dDecl_is e
  · exact ⟨h1.add hW.h21, h2.add hk⟩
  · exact ⟨(h1.add hW.h21).same (fun k hk => tu3_same k (by revert hk; simp only [List.mem_cons, List.not_mem_nil, or_false]; omega)), (h2.add hk).same tu3_same⟩
theorem dDecl_PH {k t t' u : Nat} (h1 : PH A) (hk : k ≤ 2) (hW : WF tk nt A u) (e : dDecl tk pl vl wi wd nt k t A = some (.inr (t', A'))) : PH A' := by
  obtain ⟨a, b, x, rfl | rfl⟩ := dDecl_is e
  · exact h1.add hW.h21 hk
  · have := h1.add (u := a) (w := b) hW.h21 hk
    refine ⟨this.1.same (fun k hk => tu3_same k (by revert hk; simp only [List.mem_cons, List.not_mem_nil, or_false]; omega)), ?_⟩
    rw [tu3_same 2 (by decide), tu3_same 21 (by decide), tu3_same 40 (by decide), tu3_same 46 (by decide)]
    exact this.2
theorem dPorts_PH (hV : Vb tk vl wi) : ∀ (n t : Nat) (A : ds), PH A → WF tk nt A t → ∀ t' A', dPorts tk pl vl wi wd nt n t A = some (.inr (t', A')) → PH A' := by
  intro n
  induction n with
  | zero => intro t A _ _ t' A' e; cases e
  | succ n ih =>
    intro t A h hW t' A' e
    unfold dPorts at e
    split at e
    · cases e
    · split at e
      · match er : dPort tk pl vl wi wd nt t A with
        | none => rw [er] at e; cases e
        | some (.inl f) => rw [er] at e; cases e
        | some (.inr (t1, A1)) =>
          rw [er, db_inr] at e
          have w1 := dPort_wo hV hW _ _ er
          have p1 : PH A1 := by
            unfold dPort at er
            split at er
            · cases er
            · split at er
              · exact dDecl_PH h (by decide) hW er
              · split at er
                · exact dDecl_PH h (by decide) hW er
                · exact dDecl_PH h (by decide) hW er
          split at e
          · cases e
          · exact ih _ A1 p1 (w1.1.later (by split <;> omega)) t' A' e
      · cases e
        exact h
theorem dAssign_same {t t' : Nat} (e : dAssign tk pl vl wi wd nt N t A = some (.inr (t', A'))) : ∀ k, k ∈ [2, 21, 26, 40, 46] → A'.1 k = A.1 k := by
  intro k hk
  unfold dAssign at e
  split at e
  · cases e
  · split at e
    · cases e
    · split at e
      · cases e
      · split at e
        · cases e
        · split at e
          · cases e
          · cases e
          · split at e
            · cases e
              simp only [List.mem_cons, List.not_mem_nil, or_false] at hk
              funext i
              rcases hk with rfl | rfl | rfl | rfl | rfl <;> simp only [tu1, tu2, uu1, uu2, uu3, vu1, vu2, vu3, su1, su2, Nat.reduceEqDiff, false_and, true_and, reduceIte, Bool.false_eq_true, if_true, if_false]
            · cases e
theorem dAlways_same {t t' : Nat} (e : dAlways tk pl vl wi wd nt N t A = some (.inr (t', A'))) : ∀ k, k ∈ [2, 21, 26, 40, 46] → A'.1 k = A.1 k := by
  intro k hk
  unfold dAlways at e
  split at e
  · cases e
  · split at e
    · cases e
    · cases e
    · split at e
      · cases e
      · cases e
        simp only [List.mem_cons, List.not_mem_nil, or_false] at hk
        funext i
        unfold dAlw
        split <;> rcases hk with rfl | rfl | rfl | rfl | rfl <;> simp only [tu1, tu2, uu1, uu2, uu3, vu1, vu2, vu3, su1, su2, Nat.reduceEqDiff, false_and, true_and, reduceIte, Bool.false_eq_true, if_true, if_false]
theorem dAssert_same {t t' : Nat} (e : dAssert tk pl vl wi wd nt N t A = some (.inr (t', A'))) : ∀ k, k ∈ [2, 21, 26, 40, 46] → A'.1 k = A.1 k := by
  intro k hk
  unfold dAssert at e
  split at e
  · cases e
  · split at e
    · cases e
    · cases e
    · cases e
      simp only [List.mem_cons, List.not_mem_nil, or_false] at hk
      funext i
      unfold dAss
      rcases hk with rfl | rfl | rfl | rfl | rfl <;> simp only [tu1, tu2, uu1, uu2, uu3, vu1, vu2, vu3, su1, su2, Nat.reduceEqDiff, false_and, true_and, reduceIte, Bool.false_eq_true, if_true, if_false]
theorem dInstance_same {t t' : Nat} (e : dInstance tk pl vl wi wd nt N t A = some (.inr (t', A'))) : ∀ k, k ∈ [2, 21, 26, 40, 46] → A'.1 k = A.1 k := by
  intro k hk
  unfold dInstance at e
  split at e
  · cases e
  · split at e
    · cases e
    · rename_i m _
      split at e
      · cases e
      · match er : dLinks tk pl vl wi wd nt N m N (t + 3) (dIt A m (t + 1)) with
        | none => rw [er] at e; cases e
        | some (.inl f) => rw [er] at e; cases e
        | some (.inr (t1, A1)) =>
          rw [er, db_inr] at e
          split at e
          · cases e
          · split at e
            · cases e
            · cases e
              have i1 := dLinks_it _ _ _ _ _ er k (by revert hk; simp only [List.mem_cons, List.not_mem_nil, or_false]; omega)
              have i2 : (dItE A1).1 k = A1.1 k := by
                simp only [List.mem_cons, List.not_mem_nil, or_false] at hk
                funext i
                unfold dItE
                rcases hk with rfl | rfl | rfl | rfl | rfl <;> simp only [tu1, tu2, uu1, uu2, uu3, vu1, vu2, vu3, su1, su2, Nat.reduceEqDiff, false_and, true_and, reduceIte, Bool.false_eq_true, if_true, if_false]
              have i3 : (dIt A m (t + 1)).1 k = A.1 k := by
                simp only [List.mem_cons, List.not_mem_nil, or_false] at hk
                funext i
                unfold dIt
                rcases hk with rfl | rfl | rfl | rfl | rfl <;> simp only [tu1, tu2, uu1, uu2, uu3, vu1, vu2, vu3, su1, su2, Nat.reduceEqDiff, false_and, true_and, reduceIte, Bool.false_eq_true, if_true, if_false]
              rw [i2, i1, i3]
theorem dItem_P {t t' u : Nat} (h1 : PF A) (h2 : PC A) (hW : WF tk nt A u) (e : dItem tk pl vl wi wd nt N t A = some (.inr (t', A'))) : PF A' ∧ PC A' := by
  have sm : (∀ k, k ∈ [2, 21, 26, 40, 46] → A'.1 k = A.1 k) → PF A' ∧ PC A' := fun s => ⟨h1.same (fun k hk => s k (by revert hk; simp only [List.mem_cons, List.not_mem_nil, or_false]; omega)), h2.same s⟩
  have dc : ∀ k, 3 ≤ k → db (dDecl tk pl vl wi wd nt k (t + 1) A) (fun t1 A1 => if nt ≤ t1 then none else dok (t1 + 1) A1) = some (.inr (t', A')) → PF A' ∧ PC A' := by
    intro k hk e
    match er : dDecl tk pl vl wi wd nt k (t + 1) A with
    | none => rw [er] at e; cases e
    | some (.inl f) => rw [er] at e; cases e
    | some (.inr (t1, A1)) =>
      rw [er, db_inr] at e
      split at e
      · cases e
      · cases e
        exact dDecl_P h1 h2 hk hW er
  unfold dItem at e
  split at e
  · cases e
  · split at e
    · exact dc 3 (by decide) e
    · split at e
      · exact dc 4 (by decide) e
      · split at e
        · exact sm (dAssign_same e)
        · split at e
          · exact sm (dAlways_same e)
          · split at e
            · exact sm (dAssert_same e)
            · exact sm (dInstance_same e)
theorem dHead_P {t t' : Nat} (hV : Vb tk vl wi) (h : PB A) (hW : WF tk nt A t) (e : dHead tk pl vl wi wd nt N t A = some (.inr (t', A'))) : PF A' ∧ PC A' := by
  unfold dHead at e
  split at e
  · cases e
  · split at e
    · cases e
    · have g : PH (dBeg A (t + 1)) ∧ WF tk nt (dBeg A (t + 1)) (t + 3) := by
        obtain ⟨p1, p2, p3⟩ := h
        refine ⟨⟨?_, ?_⟩, ?_⟩
        · unfold PF dBeg dFirsts at *
          simp only [tu1, tu2, uu1, uu2, uu3, vu1, vu2, vu3, su1, su2, Nat.reduceEqDiff, false_and, true_and, reduceIte, Bool.false_eq_true, if_true, if_false]
          intro m hm
          have ne : ¬ m = A.1 46 0 := by omega
          simp only [ne, if_false]
          by_cases z : m + 1 = A.1 46 0
          · simp only [z, if_true]
            have := p2 (by omega)
            have q := p1 m hm
            rw [z] at q
            rw [← this]
            exact q
          · simp only [z, if_false]
            exact p1 m hm
        · unfold dBeg dFirsts
          simp only [tu1, tu2, uu1, uu2, uu3, vu1, vu2, vu3, su1, su2, Nat.reduceEqDiff, false_and, true_and, reduceIte, Bool.false_eq_true, if_true, if_false]
          exact ⟨Nat.le_refl _, fun d d1 d2 => by omega⟩
        · obtain ⟨⟨a1, a2, a3, a4, a5, a6, a7⟩, w2, w3, w4, w5, w6, w7⟩ := hW
          unfold WF dBeg dFirsts
          simp only [tu1, tu2, uu1, uu2, uu3, vu1, vu2, vu3, su1, su2, Nat.reduceEqDiff, false_and, true_and, reduceIte, Bool.false_eq_true, if_true, if_false]
          refine ⟨⟨by omega, by omega, by omega, by omega, by omega, by omega, by omega⟩, w2, fun m hm => ?_, fun m hm => ?_, w5, w6, w7⟩
          · by_cases z : m = A.1 46 0
            · simp only [z, if_true]
              exact ⟨Nat.le_refl _, Nat.le_refl _⟩
            · simp only [z, if_false]
              exact w3 m hm
          · have ne : ¬ m = A.1 46 0 := by omega
            simp only [ne, if_false]
            refine ⟨(w4 m hm).1, (w4 m hm).2.1, ?_⟩
            by_cases z : m + 1 = A.1 46 0
            · simp only [z, if_true]
              exact (w3 m (by omega)).1
            · simp only [z, if_false]
              exact (w4 m hm).2.2
      match er : dPorts tk pl vl wi wd nt N (t + 3) (dBeg A (t + 1)) with
      | none => rw [er] at e; cases e
      | some (.inl f) => rw [er] at e; cases e
      | some (.inr (t1, A1)) =>
        rw [er, db_inr] at e
        have p := dPorts_PH hV _ _ _ g.1 g.2 _ _ er
        unfold d26 at e
        split at e
        · cases e
        · cases e
          obtain ⟨p0, p1, p2⟩ := p
          refine ⟨?_, ?_⟩
          · unfold PF at *
            simp only [tu1, tu2, uu1, uu2, uu3, vu1, vu2, vu3, su1, su2, Nat.reduceEqDiff, false_and, true_and, reduceIte, Bool.false_eq_true, if_true, if_false]
            intro m hm
            have ne : ¬ m = A1.1 46 0 := by omega
            simp only [ne, if_false]
            exact p0 m hm
          · unfold PC
            simp only [tu1, tu2, uu1, uu2, uu3, vu1, vu2, vu3, su1, su2, Nat.reduceEqDiff, false_and, true_and, reduceIte, Bool.false_eq_true, if_true, if_false]
            refine ⟨by omega, fun d d1 d2 => ?_⟩
            constructor
            · omega
            · intro _
              exact p2 d d1 d2
theorem dEnd_P {t : Nat} (h1 : PF A) (h2 : PC A) (hW : WF tk nt A t) : PB (dEnd A) := by
  have w := hW.h21
  unfold dEnd dFirsts
  refine ⟨?_, ?_, ?_⟩
  · unfold PF at *
    simp only [tu1, tu2, uu1, uu2, uu3, vu1, vu2, vu3, su1, su2, Nat.reduceEqDiff, false_and, true_and, reduceIte, Bool.false_eq_true, if_true, if_false]
    intro m hm
    have ne : ¬ m = A.1 46 0 + 1 := by omega
    simp only [ne, if_false]
    by_cases z : m = A.1 46 0
    · subst z
      simp only [if_true]
      exact h2
    · simp only [z, if_false]
      exact h1 m (by omega)
  · simp only [tu1, tu2, uu1, uu2, uu3, vu1, vu2, vu3, su1, su2, Nat.reduceEqDiff, false_and, true_and, reduceIte, Bool.false_eq_true, if_true, if_false]
    exact fun _ => trivial
  · simp only [tu1, tu2, uu1, uu2, uu3, vu1, vu2, vu3, su1, su2, Nat.reduceEqDiff, false_and, true_and, reduceIte, Bool.false_eq_true, if_true, if_false]
    intro m hm
    by_cases z : m = A.1 46 0
    · simp only [z, if_true]
      exact Nat.le_refl _
    · simp only [z, if_false]
      exact w m (by omega)
/-- sums of flags -/
theorem sumF_at {f g : Nat → Nat} {p : Nat} : ∀ {n a : Nat}, a ≤ p → p < a + n → f p + 1 = g p → (∀ d, d ≠ p → g d = f d) → sumF g n a = sumF f n a + 1
  | 0, a, h1, h2, _, _ => by omega
  | n + 1, a, h1, h2, h3, h4 => by
    unfold sumF
    by_cases z : a = p
    · subst z
      rw [sumF_congr (f := g) (g := f) (fun d d1 d2 => h4 d (by omega))]
      omega
    · rw [sumF_at (a := a + 1) (by omega) (by omega) h3 h4, h4 a z]
      omega
theorem sumF_full {f : Nat → Nat} : ∀ {n a : Nat}, (∀ d, f d ≤ 1) → sumF f n a = n → ∀ d, a ≤ d → d < a + n → f d = 1
  | 0, a, _, _, d, d1, d2 => by omega
  | n + 1, a, h, e, d, d1, d2 => by
    unfold sumF at e
    have l := sumF_le (f := f) (b := 1) (n := n) (a := a + 1) (fun d _ _ => h d)
    have l0 := h a
    by_cases z : d = a
    · subst z
      omega
    · exact sumF_full (n := n) (a := a + 1) h (by omega) d (by omega) (by omega)
theorem sumF_1 {f : Nat → Nat} : ∀ {n a : Nat}, (∀ d, a ≤ d → d < a + n → f d = 1) → sumF f n a = n
  | 0, a, _ => rfl
  | n + 1, a, h => by
    unfold sumF
    rw [h a (Nat.le_refl _) (by omega), sumF_1 (fun d d1 d2 => h d (by omega) (by omega))]
    omega
end CPV
