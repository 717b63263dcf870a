/-! The class: a module's end: sums. -/
def PA (A : ds) : Prop := A.1 25 (A.1 46 0) ≤ A.1 45 0 ∧ A.1 23 (A.1 46 0) + sumF (A.1 15) (A.1 45 0 - A.1 25 (A.1 46 0)) (A.1 25 (A.1 46 0)) = A.1 43 0
theorem sumF_last {f : Nat → Nat} : ∀ {n a : Nat}, sumF f (n + 1) a = sumF f n a + f (a + n)
  | 0, a => by unfold sumF sumF; rw [Nat.add_zero, Nat.add_zero, Nat.zero_add]
  | n + 1, a => by
    have := sumF_last (f := f) (n := n) (a := a + 1)
    show f a + sumF f (n + 1) (a + 1) = f a + sumF f n (a + 1) + f (a + (n + 1))
    rw [this, show a + 1 + n = a + (n + 1) by omega]
    omega
section CSUM
variable {tk pl vl wi wd : Nat → Nat} {nt nw N N0 N1 lc : Nat} {ex : Nat → Int32} {lit : Nat → Int64} {c c' c0 : ms} {A A' : ds} {m t sz C I K : Nat} {σ σ' : gs} {μ : Option (Nat × Nat)}
theorem PA.same (h : PA A) (e : ∀ k, k ∈ [15, 23, 25, 43, 45, 46] → A'.1 k = A.1 k) : PA A' := by
  unfold PA at *
  rw [e 15 (by decide), e 23 (by decide), e 25 (by decide), e 43 (by decide), e 45 (by decide), e 46 (by decide)]
  exact h
theorem PA.more {x : Nat} (h : PA A) (e : ∀ k, k ∈ [23, 25, 46] → A'.1 k = A.1 k) (e45 : A'.1 45 0 = A.1 45 0 + 1) (e43 : A'.1 43 0 = A.1 43 0 + x) (e15 : ∀ p, A'.1 15 p = if p = A.1 45 0 then x else A.1 15 p) : PA A' := by
  unfold PA at *
  rw [e 23 (by decide), e 25 (by decide), e 46 (by decide), e45, e43]
  refine ⟨by omega, ?_⟩
  rw [show A.1 45 0 + 1 - A.1 25 (A.1 46 0) = (A.1 45 0 - A.1 25 (A.1 46 0)) + 1 by omega, sumF_last, e15, if_pos (by omega), sumF_congr (f := A'.1 15) (g := A.1 15) (fun d d1 d2 => by rw [e15, if_neg (by omega)])]
  omega
theorem dItem_PA {t' : Nat} (h : PA A) (e : dItem tk pl vl wi wd nt N t A = some (.inr (t', A'))) : PA A' := by
  have ad : ∀ u w k, PA (dAdd A u w k) := fun u w k => h.same (fun j hj => by
    simp only [List.mem_cons, List.not_mem_nil, or_false] at hj
    funext i
    unfold dAdd
    rcases hj with rfl | rfl | rfl | rfl | rfl | rfl <;> simp only [tu1, tu2, uu1, uu2, uu3, vu1, vu2, vu3, su1, su2, Nat.reduceEqDiff, false_and, true_and, reduceIte, Bool.false_eq_true, if_true, if_false])
  have t3 : ∀ B d x, PA B → PA (tu B 3 d x) := fun B d x hB => hB.same (fun j hj => by
    simp only [List.mem_cons, List.not_mem_nil, or_false] at hj
    funext i
    rcases hj with rfl | rfl | rfl | rfl | rfl | rfl <;> simp only [tu1, tu2, uu1, uu2, uu3, vu1, vu2, vu3, su1, su2, Nat.reduceEqDiff, false_and, true_and, reduceIte, Bool.false_eq_true, if_true, if_false])
  have dc : ∀ k, db (dDecl tk pl vl wi wd nt k (t + 1) A) (fun t1 A1 => if nt ≤ t1 then none else dok (t1 + 1) A1) = some (.inr (t', A')) → PA A' := by
    intro k e
    match er : dDecl tk pl vl wi wd nt k (t + 1) A with
    | none => rw [er] at e; cases e
    | some (.inl f) => rw [er] at e; cases e
    | some (.inr (t1, A1)) =>
      rw [er, db_inr] at e
      split at e
      · cases e
      · cases e
        obtain ⟨a, b, x, rfl | rfl⟩ := dDecl_is er
        · exact ad _ _ _
        · exact t3 _ _ _ (ad _ _ _)
  unfold dItem at e
  split at e
  · cases e
  · split at e
    · exact dc 3 e
    · split at e
      · exact dc 4 e
      · split at e
        · unfold dAssign at e
          split at e
          · cases e
          · split at e
            · cases e
            · split at e
              · cases e
              · split at e
                · cases e
                · split at e
                  · cases e
                  · cases e
                  · split at e
                    · cases e
                      refine h.same (fun j hj => ?_)
                      simp only [List.mem_cons, List.not_mem_nil, or_false] at hj
                      funext i
                      rcases hj with rfl | rfl | rfl | rfl | rfl | rfl <;> simp only [tu1, tu2, uu1, uu2, uu3, vu1, vu2, vu3, su1, su2, Nat.reduceEqDiff, false_and, true_and, reduceIte, Bool.false_eq_true, if_true, if_false]
                    · cases e
        · split at e
          · unfold dAlways at e
            split at e
            · cases e
            · split at e
              · cases e
              · cases e
              · rename_i t1 S b D C2 _
                split at e
                · cases e
                · cases e
                  cases b with
                  | true =>
                    refine h.more (x := 0) (fun j hj => ?_) ?_ ?_ (fun p => ?_)
                    · simp only [List.mem_cons, List.not_mem_nil, or_false] at hj
                      funext i
                      unfold dAlw
                      rcases hj with rfl | rfl | rfl <;> simp only [tu1, tu2, uu1, uu2, uu3, vu1, vu2, vu3, su1, su2, Nat.reduceEqDiff, false_and, true_and, reduceIte, Bool.false_eq_true, if_true, if_false]
                    · unfold dAlw; simp only [tu1, tu2, uu1, uu2, uu3, vu1, vu2, vu3, su1, su2, Nat.reduceEqDiff, false_and, true_and, reduceIte, Bool.false_eq_true, if_true, if_false]
                    · unfold dAlw; simp only [tu1, tu2, uu1, uu2, uu3, vu1, vu2, vu3, su1, su2, Nat.reduceEqDiff, false_and, true_and, reduceIte, Bool.false_eq_true, if_true, if_false]; rfl
                    · unfold dAlw; simp only [tu1, tu2, uu1, uu2, uu3, vu1, vu2, vu3, su1, su2, Nat.reduceEqDiff, false_and, true_and, reduceIte, Bool.false_eq_true, if_true, if_false]
                  | false =>
                    refine h.same (fun j hj => ?_)
                    simp only [List.mem_cons, List.not_mem_nil, or_false] at hj
                    funext i
                    unfold dAlw
                    rcases hj with rfl | rfl | rfl | rfl | rfl | rfl <;> simp only [tu1, tu2, uu1, uu2, uu3, vu1, vu2, vu3, su1, su2, Nat.reduceEqDiff, false_and, true_and, reduceIte, Bool.false_eq_true, if_true, if_false]
          · split at e
            · unfold dAssert at e
              split at e
              · cases e
              · split at e
                · cases e
                · cases e
                · cases e
                  refine h.more (x := 1) (fun j hj => ?_) ?_ ?_ (fun p => ?_)
                  · simp only [List.mem_cons, List.not_mem_nil, or_false] at hj
                    funext i
                    unfold dAss
                    rcases hj with rfl | rfl | rfl <;> simp only [tu1, tu2, uu1, uu2, uu3, vu1, vu2, vu3, su1, su2, Nat.reduceEqDiff, false_and, true_and, reduceIte, Bool.false_eq_true, if_true, if_false]
                  · unfold dAss; simp only [tu1, tu2, uu1, uu2, uu3, vu1, vu2, vu3, su1, su2, Nat.reduceEqDiff, false_and, true_and, reduceIte, Bool.false_eq_true, if_true, if_false]
                  · unfold dAss; simp only [tu1, tu2, uu1, uu2, uu3, vu1, vu2, vu3, su1, su2, Nat.reduceEqDiff, false_and, true_and, reduceIte, Bool.false_eq_true, if_true, if_false]
                  · unfold dAss; simp only [tu1, tu2, uu1, uu2, uu3, vu1, vu2, vu3, su1, su2, Nat.reduceEqDiff, false_and, true_and, reduceIte, Bool.false_eq_true, if_true, if_false]
            · unfold dInstance at e
              split at e
              · cases e
              · split at e
                · cases e
                · rename_i m _
                  split at e
                  · cases e
                  · match er : dLinks tk pl vl wi wd nt N m N (t + 3) (dIt A m (t + 1)) with
                    | none => rw [er] at e; cases e
                    | some (.inl f) => rw [er] at e; cases e
                    | some (.inr (t1, A1)) =>
                      rw [er, db_inr] at e
                      split at e
                      · cases e
                      · split at e
                        · cases e
                        · cases e
                          refine h.same (fun k hk => ?_)
                          have i1 := dLinks_it _ _ _ _ _ er k (by revert hk; simp only [List.mem_cons, List.not_mem_nil, or_false]; omega)
                          have i2 : (dItE A1).1 k = A1.1 k := by
                            simp only [List.mem_cons, List.not_mem_nil, or_false] at hk
                            funext i
                            unfold dItE
                            rcases hk with rfl | rfl | rfl | rfl | rfl | rfl <;> simp only [tu1, tu2, uu1, uu2, uu3, vu1, vu2, vu3, su1, su2, Nat.reduceEqDiff, false_and, true_and, reduceIte, Bool.false_eq_true, if_true, if_false]
                          have i3 : (dIt A m (t + 1)).1 k = A.1 k := by
                            simp only [List.mem_cons, List.not_mem_nil, or_false] at hk
                            funext i
                            unfold dIt
                            rcases hk with rfl | rfl | rfl | rfl | rfl | rfl <;> simp only [tu1, tu2, uu1, uu2, uu3, vu1, vu2, vu3, su1, su2, Nat.reduceEqDiff, false_and, true_and, reduceIte, Bool.false_eq_true, if_true, if_false]
                          rw [i2, i1, i3]
theorem dItems_inv (hV : Vb tk vl wi) : ∀ (n t : Nat) (A : ds), PF A → PC A → PA A → WF tk nt A t → ∀ t' A', dItems tk pl vl wi wd nt N n t A = some (.inr (t', A')) → PF A' ∧ PC A' ∧ PA A' ∧ WF tk nt A' t' ∧ t ≤ t' ∧ ∀ k, k ∈ mKs → A'.1 k = A.1 k := by
  intro n
  induction n with
  | zero => intro t A _ _ _ _ t' A' e; cases e
  | succ n ih =>
    intro t A p1 p2 p3 hW t' A' e
    unfold dItems at e
    split at e
    · cases e
    · split at e
      · cases e
        exact ⟨p1, p2, p3, hW, Nat.le_refl _, fun _ _ => rfl⟩
      · match er : dItem tk pl vl wi wd nt N t A with
        | none => rw [er] at e; cases e
        | some (.inl f) => rw [er] at e; cases e
        | some (.inr (t1, A1)) =>
          rw [er, db_inr] at e
          obtain ⟨q1, q2⟩ := dItem_P p1 p2 hW er
          have w := dItem_wo hV hW _ _ er
          obtain ⟨r1, r2, r3, r4, r5, r6⟩ := ih t1 A1 q1 q2 (dItem_PA p3 er) w.1 t' A' e
          exact ⟨r1, r2, r3, r4, by have := w.2; omega, fun k hk => by rw [r6 k hk, dItem_mk er k hk]⟩
theorem dPorts_PA : ∀ (n t : Nat) (A : ds), PA A → ∀ t' A', dPorts tk pl vl wi wd nt n t A = some (.inr (t', A')) → PA A' ∧ t ≤ t' ∧ ∀ k, k ∈ mKs → A'.1 k = A.1 k := by
  intro n
  induction n with
  | zero => intro t A _ t' A' e; cases e
  | succ n ih =>
    intro t A h t' A' e
    unfold dPorts at e
    split at e
    · cases e
    · split at e
      · match er : dPort tk pl vl wi wd nt t A with
        | none => rw [er] at e; cases e
        | some (.inl f) => rw [er] at e; cases e
        | some (.inr (t1, A1)) =>
          rw [er, db_inr] at e
          have sm := dPort_mk er
          have g : PA A1 ∧ t ≤ t1 := by
            have ad : ∀ k u, t < u → dDecl tk pl vl wi wd nt k u A = some (.inr (t1, A1)) → PA A1 ∧ t ≤ t1 := by
              intro k u hu er
              refine ⟨?_, ?_⟩
              · obtain ⟨a, b, x, rfl | rfl⟩ := dDecl_is er
                · refine h.same (fun j hj => ?_)
                  simp only [List.mem_cons, List.not_mem_nil, or_false] at hj
                  funext i
                  unfold dAdd
                  rcases hj with rfl | rfl | rfl | rfl | rfl | rfl <;> simp only [tu1, tu2, uu1, uu2, uu3, vu1, vu2, vu3, su1, su2, Nat.reduceEqDiff, false_and, true_and, reduceIte, Bool.false_eq_true, if_true, if_false]
                · refine h.same (fun j hj => ?_)
                  simp only [List.mem_cons, List.not_mem_nil, or_false] at hj
                  funext i
                  unfold dAdd
                  rcases hj with rfl | rfl | rfl | rfl | rfl | rfl <;> simp only [tu1, tu2, uu1, uu2, uu3, vu1, vu2, vu3, su1, su2, Nat.reduceEqDiff, false_and, true_and, reduceIte, Bool.false_eq_true, if_true, if_false]
              · unfold dDecl at er
                split at er
                · cases er
                · split at er
                  · cases er
                  · cases er
                  · rename_i q hq
                    have hq2 : u ≤ q.1 := by
                      unfold dRng at hq
                      split at hq
                      · split at hq
                        · cases hq
                        · split at hq
                          · cases hq
                          · cases hq; show u ≤ u + 5; omega
                      · cases hq; exact Nat.le_refl _
                    unfold dDec at er
                    split at er
                    · cases er
                    · split at er
                      · cases er
                      · split at er
                        · split at er
                          · cases er
                          · split at er
                            · cases er; omega
                            · cases er
                        · cases er; omega
            unfold dPort at er
            split at er
            · cases er
            · split at er
              · exact ad _ _ (by omega) er
              · split at er
                · exact ad _ _ (by omega) er
                · exact ad _ _ (by omega) er
          split at e
          · cases e
          · obtain ⟨r1, r2, r3⟩ := ih _ A1 g.1 t' A' e
            refine ⟨r1, ?_, fun k hk => by rw [r3 k hk, sm k hk]⟩
            revert r2
            have := g.2
            split <;> omega
      · cases e
        exact ⟨h, Nat.le_refl _, fun _ _ => rfl⟩
theorem dHead_is {t' : Nat} (e : dHead tk pl vl wi wd nt N t A = some (.inr (t', A'))) : PA A' ∧ t + 5 ≤ t' ∧ t + 1 < nt ∧ tk (t + 1) = 400 ∧ A'.1 46 0 = A.1 46 0 ∧ A'.1 20 (A.1 46 0) = t + 1 := by
  unfold dHead at e
  split at e
  · cases e
  · rename_i h0
    split at e
    · cases e
    · have pb : PA (dBeg A (t + 1)) := by
        unfold PA dBeg dFirsts
        simp only [tu1, tu2, uu1, uu2, uu3, vu1, vu2, vu3, su1, su2, Nat.reduceEqDiff, false_and, true_and, reduceIte, Bool.false_eq_true, if_true, if_false]
        rw [Nat.sub_self]
        exact ⟨Nat.le_refl _, rfl⟩
      have B46 : (dBeg A (t + 1)).1 46 0 = A.1 46 0 := by unfold dBeg dFirsts; simp only [tu1, tu2, uu1, uu2, uu3, vu1, vu2, vu3, su1, su2, Nat.reduceEqDiff, false_and, true_and, reduceIte, Bool.false_eq_true, if_true, if_false]
      have B20 : (dBeg A (t + 1)).1 20 (A.1 46 0) = t + 1 := by unfold dBeg dFirsts; simp only [tu1, tu2, uu1, uu2, uu3, vu1, vu2, vu3, su1, su2, Nat.reduceEqDiff, false_and, true_and, reduceIte, Bool.false_eq_true, if_true, if_false]
      match er : dPorts tk pl vl wi wd nt N (t + 3) (dBeg A (t + 1)) with
      | none => rw [er] at e; cases e
      | some (.inl f) => rw [er] at e; cases e
      | some (.inr (t1, A1)) =>
        rw [er, db_inr] at e
        obtain ⟨p1, p2, p3⟩ := dPorts_PA _ _ _ pb _ _ er
        unfold d26 at e
        split at e
        · cases e
        · cases e
          refine ⟨p1.same (fun j hj => ?_), by omega, ?_, ?_, ?_, ?_⟩
          · simp only [List.mem_cons, List.not_mem_nil, or_false] at hj
            funext i
            rcases hj with rfl | rfl | rfl | rfl | rfl | rfl <;> simp only [tu1, tu2, uu1, uu2, uu3, vu1, vu2, vu3, su1, su2, Nat.reduceEqDiff, false_and, true_and, reduceIte, Bool.false_eq_true, if_true, if_false]
          · by_cases z : nt ≤ t + 3
            · exact absurd (Or.inl z) h0
            · omega
          · exact Classical.not_not.mp (fun z => h0 (Or.inr z))
          · simp only [tu1, tu2, uu1, uu2, uu3, vu1, vu2, vu3, su1, su2, Nat.reduceEqDiff, false_and, true_and, reduceIte, Bool.false_eq_true, if_true, if_false]
            rw [p3 46 (by decide)]; exact B46
          · simp only [tu1, tu2, uu1, uu2, uu3, vu1, vu2, vu3, su1, su2, Nat.reduceEqDiff, false_and, true_and, reduceIte, Bool.false_eq_true, if_true, if_false]
            rw [p3 20 (by decide)]; exact B20
/-! sums of the class -/
theorem capped2 {a b : Nat} {s : ms} (hb : b ≤ 268435456) (ha : a ≤ 268435456) : fn_C_capped N (nI a) (nI b) s = some (nI (cap28 (a + b)), s) := by
  by_cases h : b < 268435456
  · exact capped_C h ha
  · have e : b = 268435456 := by omega
    subst e
    unfold fn_C_capped cap28
    simp (disch := omega) only [lit_nI, gdF, gdG, gdH, nltT, nltF, nleT, nleF, neqT, neqF, nm1F, nm1F', m1lt, m1gt, m1le, m1ge, nI_clamp, nI_add, nI_sub, obind, if_true, if_false, reduceIte, ite_true, ite_false]
    rw [show min 268435456 (a + 268435456) = 268435456 by omega]
theorem cap28_le {a : Nat} : cap28 a ≤ 268435456 := by unfold cap28; omega
theorem cap28_2 {a b : Nat} : cap28 (cap28 a + cap28 b) = cap28 (a + b) := by unfold cap28; omega
theorem upd2 {f : Nat → Int32} {k : Nat} {x y : Int32} : upd (upd f k x) k y = upd f k y := by
  funext j
  by_cases z : j = k
  · subst z; rw [upd_at, upd_at]
  · rw [upd_ne z, upd_ne z, upd_ne z]
def Sr (c : ms) (M a0 a1 a2 a3 a4 : Nat) (s : ms) : Prop := Eb [600, 601, 602, 603, 604] [] c s ∧ s.1 600 = upd (c.1 600) M (nI (cap28 a0)) ∧ s.1 601 = upd (c.1 601) M (nI (cap28 a1)) ∧ s.1 602 = upd (c.1 602) M (nI (cap28 a2)) ∧ s.1 603 = upd (c.1 603) M (nI (cap28 a3)) ∧ s.1 604 = upd (c.1 604) M (nI (cap28 a4))
theorem isMod_S {M m : Nat} {s : ms} (h309 : s.1 309 0 = nI (M + 1)) (hm : m < M) (hM : M < 3277) : fn_Design_isModule_Ds N (nI m) s = some (1, s) := by
  unfold fn_Design_isModule_Ds
  rw [if_neg (nI_pos (by omega)), h309, if_neg (nI_ge (show m < M + 1 by omega) (by omega))]
theorem sumOf_0 {M m : Nat} {s : ms} (h309 : s.1 309 0 = nI (M + 1)) (hm : m < M) (hM : M < 3277) : fn_Design_sumOf_Ds N 0 (nI m) s = some (s.1 600 m, s) := by
  unfold fn_Design_sumOf_Ds
  rw [isMod_S h309 hm hM, obind]
  dsimp only
  rw [if_neg (show ¬ (1 : Int32) = 0 by decide), if_pos (show (0 : Int32) = 0 from rfl), if_neg (nI_in (show m < 3277 by omega) (by decide)), nI_clamp (by omega)]
theorem sumOf_1 {M m : Nat} {s : ms} (h309 : s.1 309 0 = nI (M + 1)) (hm : m < M) (hM : M < 3277) : fn_Design_sumOf_Ds N 1 (nI m) s = some (s.1 601 m, s) := by
  unfold fn_Design_sumOf_Ds
  rw [isMod_S h309 hm hM, obind]
  dsimp only
  rw [if_neg (show ¬ (1 : Int32) = 0 by decide), if_neg (show ¬ (1 : Int32) = 0 by decide), if_pos (show (1 : Int32) = 1 from rfl), if_neg (nI_in (show m < 3277 by omega) (by decide)), nI_clamp (by omega)]
theorem sumOf_2 {M m : Nat} {s : ms} (h309 : s.1 309 0 = nI (M + 1)) (hm : m < M) (hM : M < 3277) : fn_Design_sumOf_Ds N 2 (nI m) s = some (s.1 602 m, s) := by
  unfold fn_Design_sumOf_Ds
  rw [isMod_S h309 hm hM, obind]
  dsimp only
  rw [if_neg (show ¬ (1 : Int32) = 0 by decide), if_neg (show ¬ (2 : Int32) = 0 by decide), if_neg (show ¬ (2 : Int32) = 1 by decide), if_pos (show (2 : Int32) = 2 from rfl), if_neg (nI_in (show m < 3277 by omega) (by decide)), nI_clamp (by omega)]
theorem sumOf_3 {M m : Nat} {s : ms} (h309 : s.1 309 0 = nI (M + 1)) (hm : m < M) (hM : M < 3277) : fn_Design_sumOf_Ds N 3 (nI m) s = some (s.1 603 m, s) := by
  unfold fn_Design_sumOf_Ds
  rw [isMod_S h309 hm hM, obind]
  dsimp only
  rw [if_neg (show ¬ (1 : Int32) = 0 by decide), if_neg (show ¬ (3 : Int32) = 0 by decide), if_neg (show ¬ (3 : Int32) = 1 by decide), if_neg (show ¬ (3 : Int32) = 2 by decide), if_pos (show (3 : Int32) = 3 from rfl), if_neg (nI_in (show m < 3277 by omega) (by decide)), nI_clamp (by omega)]
theorem sumOf_4 {M m : Nat} {s : ms} (h309 : s.1 309 0 = nI (M + 1)) (hm : m < M) (hM : M < 3277) : fn_Design_sumOf_Ds N 4 (nI m) s = some (s.1 604 m, s) := by
  unfold fn_Design_sumOf_Ds
  rw [isMod_S h309 hm hM, obind]
  dsimp only
  rw [if_neg (show ¬ (1 : Int32) = 0 by decide), if_neg (show ¬ (4 : Int32) = 0 by decide), if_neg (show ¬ (4 : Int32) = 1 by decide), if_neg (show ¬ (4 : Int32) = 2 by decide), if_neg (show ¬ (4 : Int32) = 3 by decide), if_pos (show (4 : Int32) = 4 from rfl), if_neg (nI_in (show m < 3277 by omega) (by decide)), nI_clamp (by omega)]
theorem sum5_0 {M m i n b a0 a1 a2 a3 a4 : Nat} {k : Int32 → Int32 → ms → Option (Unit × ms)} {s : ms} (h : Sr c M a0 a1 a2 a3 a4 s) (hM : M < 3277) (hm : m < M) (h309 : c.1 309 0 = nI (M + 1)) (hv : c.1 600 m = nI (cap28 b)) : ∃ s', hd_Design_sumUp_Ds_201 N k (n + 1) (nI M) (nI i) (nI m) 0 s = hd_Design_sumUp_Ds_201 N k n (nI M) (nI i) (nI m) (0 + 1) s' ∧ Sr c M (a0 + b) a1 a2 a3 a4 s' := by
  obtain ⟨e, h0, h1, h2, h3, h4⟩ := h
  have iM := nI_in hM (show 3277 < 2 ^ 31 by decide)
  have iMN := nI_inN hM (show M < 2 ^ 31 by omega)
  refine ⟨upI s 600 (upd (s.1 600) M (nI (cap28 (cap28 a0 + cap28 b)))), ?_, e.upI (by decide), by show upd (s.1 600) M _ = _; rw [h0, upd2, cap28_2], h1, h2, h3, h4⟩
  show bd_Design_sumUp_Ds_201 N k (hd_Design_sumUp_Ds_201 N k n) (nI M) (nI i) (nI m) 0 s = _
  unfold bd_Design_sumUp_Ds_201
  rw [if_neg (show ¬ (5 : Int32) ≤ 0 by decide), if_pos (show (0 : Int32) = 0 from rfl), if_neg iM, sumOf_0 (M := M) (by rw [e.1 309 (by decide)]; exact h309) hm hM, obind]
  dsimp only
  rw [nI_clamp (by omega)]
  have r1 : s.1 600 M = nI (cap28 a0) := by rw [h0, upd_at]
  have r2 : s.1 600 m = nI (cap28 b) := by rw [h0, upd_ne (by omega)]; exact hv
  rw [r1, r2, capped2 cap28_le cap28_le, obind]
  dsimp only
  rw [if_neg iMN]
theorem sum5_1 {M m i n b a0 a1 a2 a3 a4 : Nat} {k : Int32 → Int32 → ms → Option (Unit × ms)} {s : ms} (h : Sr c M a0 a1 a2 a3 a4 s) (hM : M < 3277) (hm : m < M) (h309 : c.1 309 0 = nI (M + 1)) (hv : c.1 601 m = nI (cap28 b)) : ∃ s', hd_Design_sumUp_Ds_201 N k (n + 1) (nI M) (nI i) (nI m) 1 s = hd_Design_sumUp_Ds_201 N k n (nI M) (nI i) (nI m) (1 + 1) s' ∧ Sr c M a0 (a1 + b) a2 a3 a4 s' := by
  obtain ⟨e, h0, h1, h2, h3, h4⟩ := h
  have iM := nI_in hM (show 3277 < 2 ^ 31 by decide)
  have iMN := nI_inN hM (show M < 2 ^ 31 by omega)
  refine ⟨upI s 601 (upd (s.1 601) M (nI (cap28 (cap28 a1 + cap28 b)))), ?_, e.upI (by decide), h0, by show upd (s.1 601) M _ = _; rw [h1, upd2, cap28_2], h2, h3, h4⟩
  show bd_Design_sumUp_Ds_201 N k (hd_Design_sumUp_Ds_201 N k n) (nI M) (nI i) (nI m) 1 s = _
  unfold bd_Design_sumUp_Ds_201
  rw [if_neg (show ¬ (5 : Int32) ≤ 1 by decide), if_neg (show ¬ (1 : Int32) = 0 by decide), if_pos (show (1 : Int32) = 1 from rfl), if_neg iM, sumOf_1 (M := M) (by rw [e.1 309 (by decide)]; exact h309) hm hM, obind]
  dsimp only
  rw [nI_clamp (by omega)]
  have r1 : s.1 601 M = nI (cap28 a1) := by rw [h1, upd_at]
  have r2 : s.1 601 m = nI (cap28 b) := by rw [h1, upd_ne (by omega)]; exact hv
  rw [r1, r2, capped2 cap28_le cap28_le, obind]
  dsimp only
  rw [if_neg iMN]
theorem sum5_2 {M m i n b a0 a1 a2 a3 a4 : Nat} {k : Int32 → Int32 → ms → Option (Unit × ms)} {s : ms} (h : Sr c M a0 a1 a2 a3 a4 s) (hM : M < 3277) (hm : m < M) (h309 : c.1 309 0 = nI (M + 1)) (hv : c.1 602 m = nI (cap28 b)) : ∃ s', hd_Design_sumUp_Ds_201 N k (n + 1) (nI M) (nI i) (nI m) 2 s = hd_Design_sumUp_Ds_201 N k n (nI M) (nI i) (nI m) (2 + 1) s' ∧ Sr c M a0 a1 (a2 + b) a3 a4 s' := by
  obtain ⟨e, h0, h1, h2, h3, h4⟩ := h
  have iM := nI_in hM (show 3277 < 2 ^ 31 by decide)
  have iMN := nI_inN hM (show M < 2 ^ 31 by omega)
  refine ⟨upI s 602 (upd (s.1 602) M (nI (cap28 (cap28 a2 + cap28 b)))), ?_, e.upI (by decide), h0, h1, by show upd (s.1 602) M _ = _; rw [h2, upd2, cap28_2], h3, h4⟩
  show bd_Design_sumUp_Ds_201 N k (hd_Design_sumUp_Ds_201 N k n) (nI M) (nI i) (nI m) 2 s = _
  unfold bd_Design_sumUp_Ds_201
  rw [if_neg (show ¬ (5 : Int32) ≤ 2 by decide), if_neg (show ¬ (2 : Int32) = 0 by decide), if_neg (show ¬ (2 : Int32) = 1 by decide), if_pos (show (2 : Int32) = 2 from rfl), if_neg iM, sumOf_2 (M := M) (by rw [e.1 309 (by decide)]; exact h309) hm hM, obind]
  dsimp only
  rw [nI_clamp (by omega)]
  have r1 : s.1 602 M = nI (cap28 a2) := by rw [h2, upd_at]
  have r2 : s.1 602 m = nI (cap28 b) := by rw [h2, upd_ne (by omega)]; exact hv
  rw [r1, r2, capped2 cap28_le cap28_le, obind]
  dsimp only
  rw [if_neg iMN]
theorem sum5_3 {M m i n b a0 a1 a2 a3 a4 : Nat} {k : Int32 → Int32 → ms → Option (Unit × ms)} {s : ms} (h : Sr c M a0 a1 a2 a3 a4 s) (hM : M < 3277) (hm : m < M) (h309 : c.1 309 0 = nI (M + 1)) (hv : c.1 603 m = nI (cap28 b)) : ∃ s', hd_Design_sumUp_Ds_201 N k (n + 1) (nI M) (nI i) (nI m) 3 s = hd_Design_sumUp_Ds_201 N k n (nI M) (nI i) (nI m) (3 + 1) s' ∧ Sr c M a0 a1 a2 (a3 + b) a4 s' := by
  obtain ⟨e, h0, h1, h2, h3, h4⟩ := h
  have iM := nI_in hM (show 3277 < 2 ^ 31 by decide)
  have iMN := nI_inN hM (show M < 2 ^ 31 by omega)
  refine ⟨upI s 603 (upd (s.1 603) M (nI (cap28 (cap28 a3 + cap28 b)))), ?_, e.upI (by decide), h0, h1, h2, by show upd (s.1 603) M _ = _; rw [h3, upd2, cap28_2], h4⟩
  show bd_Design_sumUp_Ds_201 N k (hd_Design_sumUp_Ds_201 N k n) (nI M) (nI i) (nI m) 3 s = _
  unfold bd_Design_sumUp_Ds_201
  rw [if_neg (show ¬ (5 : Int32) ≤ 3 by decide), if_neg (show ¬ (3 : Int32) = 0 by decide), if_neg (show ¬ (3 : Int32) = 1 by decide), if_neg (show ¬ (3 : Int32) = 2 by decide), if_pos (show (3 : Int32) = 3 from rfl), if_neg iM, sumOf_3 (M := M) (by rw [e.1 309 (by decide)]; exact h309) hm hM, obind]
  dsimp only
  rw [nI_clamp (by omega)]
  have r1 : s.1 603 M = nI (cap28 a3) := by rw [h3, upd_at]
  have r2 : s.1 603 m = nI (cap28 b) := by rw [h3, upd_ne (by omega)]; exact hv
  rw [r1, r2, capped2 cap28_le cap28_le, obind]
  dsimp only
  rw [if_neg iMN]
theorem sum5_4 {M m i n b a0 a1 a2 a3 a4 : Nat} {k : Int32 → Int32 → ms → Option (Unit × ms)} {s : ms} (h : Sr c M a0 a1 a2 a3 a4 s) (hM : M < 3277) (hm : m < M) (h309 : c.1 309 0 = nI (M + 1)) (hv : c.1 604 m = nI (cap28 b)) : ∃ s', hd_Design_sumUp_Ds_201 N k (n + 1) (nI M) (nI i) (nI m) 4 s = hd_Design_sumUp_Ds_201 N k n (nI M) (nI i) (nI m) (4 + 1) s' ∧ Sr c M a0 a1 a2 a3 (a4 + b) s' := by
  obtain ⟨e, h0, h1, h2, h3, h4⟩ := h
  have iM := nI_in hM (show 3277 < 2 ^ 31 by decide)
  have iMN := nI_inN hM (show M < 2 ^ 31 by omega)
  refine ⟨upI s 604 (upd (s.1 604) M (nI (cap28 (cap28 a4 + cap28 b)))), ?_, e.upI (by decide), h0, h1, h2, h3, by show upd (s.1 604) M _ = _; rw [h4, upd2, cap28_2]⟩
  show bd_Design_sumUp_Ds_201 N k (hd_Design_sumUp_Ds_201 N k n) (nI M) (nI i) (nI m) 4 s = _
  unfold bd_Design_sumUp_Ds_201
  rw [if_neg (show ¬ (5 : Int32) ≤ 4 by decide), if_neg (show ¬ (4 : Int32) = 0 by decide), if_neg (show ¬ (4 : Int32) = 1 by decide), if_neg (show ¬ (4 : Int32) = 2 by decide), if_neg (show ¬ (4 : Int32) = 3 by decide), if_pos (show (4 : Int32) = 4 from rfl), if_neg iM, sumOf_4 (M := M) (by rw [e.1 309 (by decide)]; exact h309) hm hM, obind]
  dsimp only
  rw [nI_clamp (by omega)]
  have r1 : s.1 604 M = nI (cap28 a4) := by rw [h4, upd_at]
  have r2 : s.1 604 m = nI (cap28 b) := by rw [h4, upd_ne (by omega)]; exact hv
  rw [r1, r2, capped2 cap28_le cap28_le, obind]
  dsimp only
  rw [if_neg iMN]
theorem sum5 {M m i n b0 b1 b2 b3 b4 a0 a1 a2 a3 a4 : Nat} {k : Int32 → Int32 → ms → Option (Unit × ms)} {s : ms} (h : Sr c M a0 a1 a2 a3 a4 s) (hM : M < 3277) (hm : m < M) (h309 : c.1 309 0 = nI (M + 1)) (v0 : c.1 600 m = nI (cap28 b0)) (v1 : c.1 601 m = nI (cap28 b1)) (v2 : c.1 602 m = nI (cap28 b2)) (v3 : c.1 603 m = nI (cap28 b3)) (v4 : c.1 604 m = nI (cap28 b4)) : ∃ s', hd_Design_sumUp_Ds_201 N k (n + 6) (nI M) (nI i) (nI m) 0 s = k (nI M) (nI (i + 1)) s' ∧ Sr c M (a0 + b0) (a1 + b1) (a2 + b2) (a3 + b3) (a4 + b4) s' := by
  obtain ⟨s0, e0, h0⟩ := sum5_0 (N := N) (n := n + 5) (i := i) (k := k) h hM hm h309 v0
  obtain ⟨s1, e1, h1⟩ := sum5_1 (N := N) (n := n + 4) (i := i) (k := k) h0 hM hm h309 v1
  obtain ⟨s2, e2, h2⟩ := sum5_2 (N := N) (n := n + 3) (i := i) (k := k) h1 hM hm h309 v2
  obtain ⟨s3, e3, h3⟩ := sum5_3 (N := N) (n := n + 2) (i := i) (k := k) h2 hM hm h309 v3
  obtain ⟨s4, e4, h4⟩ := sum5_4 (N := N) (n := n + 1) (i := i) (k := k) h3 hM hm h309 v4
  rw [show (0 : Int32) + 1 = 1 by decide] at e0
  rw [show (1 : Int32) + 1 = 2 by decide] at e1
  rw [show (2 : Int32) + 1 = 3 by decide] at e2
  rw [show (3 : Int32) + 1 = 4 by decide] at e3
  rw [show (4 : Int32) + 1 = 5 by decide] at e4
  refine ⟨s4, ?_, h4⟩
  rw [e0, e1, e2, e3, e4]
  show bd_Design_sumUp_Ds_201 N k (hd_Design_sumUp_Ds_201 N k n) (nI M) (nI i) (nI m) 5 s4 = _
  unfold bd_Design_sumUp_Ds_201
  rw [if_pos (show (5 : Int32) ≤ 5 by decide), nI_1]
theorem kids_C {M I : Nat} {g : Nat → Nat} {f0 f1 f2 f3 f4 : Nat → Nat} (hN : 40000 < N) (hM : M < 3277) (hI : I < 10923) (h309 : c.1 309 0 = nI (M + 1)) (h328 : c.1 328 0 = nI I) (hv : ∀ j, j < I → c.1 329 j = nI (g j) ∧ g j < M) (v : ∀ m, m < M → c.1 600 m = nI (cap28 (f0 m)) ∧ c.1 601 m = nI (cap28 (f1 m)) ∧ c.1 602 m = nI (cap28 (f2 m)) ∧ c.1 603 m = nI (cap28 (f3 m)) ∧ c.1 604 m = nI (cap28 (f4 m))) : ∀ (n i a0 a1 a2 a3 a4 : Nat) (s : ms), i ≤ I → I - i < n → Sr c M a0 a1 a2 a3 a4 s → ∃ s', hd_Design_sumUp_Ds_174 N n (nI M) (nI i) s = some ((), s') ∧ Sr c M (a0 + sumF (fun j => f0 (g j)) (I - i) i) (a1 + sumF (fun j => f1 (g j)) (I - i) i) (a2 + sumF (fun j => f2 (g j)) (I - i) i) (a3 + sumF (fun j => f3 (g j)) (I - i) i) (a4 + sumF (fun j => f4 (g j)) (I - i) i) s' := by
  intro n
  induction n with
  | zero => intro i _ _ _ _ _ s _ h; omega
  | succ n ih =>
    intro i a0 a1 a2 a3 a4 s hi hn hS
    have r328 : s.1 328 0 = nI I := by rw [hS.1.1 328 (by decide)]; exact h328
    show ∃ s', bd_Design_sumUp_Ds_174 N (hd_Design_sumUp_Ds_174 N n) (nI M) (nI i) s = some ((), s') ∧ _
    unfold bd_Design_sumUp_Ds_174
    rw [r328]
    by_cases z : I ≤ i
    · rw [if_pos (nI_le z (by omega)), show I - i = 0 by omega]
      exact ⟨s, rfl, hS⟩
    · have hvi := hv i (by omega)
      have r329 : s.1 329 i = nI (g i) := by rw [hS.1.1 329 (by decide)]; exact hvi.1
      rw [if_neg (nI_ge (by omega) (by omega)), if_neg (nI_in (show i < 10923 by omega) (by decide)), nI_clamp (by omega), r329]
      obtain ⟨q, rfl⟩ : ∃ q, N = q + 6 := ⟨N - 6, by omega⟩
      obtain ⟨v0, v1, v2, v3, v4⟩ := v (g i) hvi.2
      obtain ⟨s', e1, e2⟩ := sum5 (N := q + 6) (n := q) (i := i) (k := hd_Design_sumUp_Ds_174 (q + 6) n) hS hM hvi.2 h309 v0 v1 v2 v3 v4
      rw [e1]
      obtain ⟨s2, y1, y2⟩ := ih (i + 1) _ _ _ _ _ s' (by omega) (by omega) e2
      refine ⟨s2, y1, ?_⟩
      rw [show I - i = (I - (i + 1)) + 1 by omega]
      unfold sumF
      rw [← Nat.add_assoc, ← Nat.add_assoc, ← Nat.add_assoc, ← Nat.add_assoc, ← Nat.add_assoc]
      exact y2
theorem pieces_C {M P : Nat} {x1 x3 : Int32} {g : Nat → Nat} (hM : M < 3277) (hP : P < 6554) (h317 : c.1 317 0 = nI P) (hv : ∀ j, j < P → c.1 320 j = nI (g j)) : ∀ (n p a : Nat), p ≤ P → P - p < n → hd_Design_sumUp_Ds_80 N n x1 (nI M) x3 (nI a) (nI p) c = hd_Design_sumUp_Ds_174 N N (nI M) (c.1 314 M) (upI (upI (upI (upI (upI c 600 (upd (c.1 600) M 1)) 601 (upd (c.1 601) M (c.1 321 0 - c.1 312 M))) 602 (upd (c.1 602) M x3)) 603 (upd (c.1 603) M (nI (a + sumF g (P - p) p)))) 604 (upd (c.1 604) M x1)) := by
  intro n
  induction n with
  | zero => intro p a _ h; omega
  | succ n ih =>
    intro p a hp hn
    have iM := nI_in hM (show 3277 < 2 ^ 31 by decide)
    have iMN := nI_inN hM (show M < 2 ^ 31 by omega)
    show bd_Design_sumUp_Ds_80 N (hd_Design_sumUp_Ds_80 N n) x1 (nI M) x3 (nI a) (nI p) c = _
    unfold bd_Design_sumUp_Ds_80
    rw [h317]
    by_cases z : P ≤ p
    · rw [if_pos (nI_le z (by omega)), if_neg iM, if_neg iM, if_neg iM, if_neg iM, if_neg iM, if_neg iM, if_neg iM, nI_clamp (by omega), show P - p = 0 by omega]
      rfl
    · rw [if_neg (nI_ge (by omega) (by omega)), if_neg (nI_in (show p < 6554 by omega) (by decide)), nI_clamp (by omega), hv p (by omega), nI_add, nI_1, ih (p + 1) (a + g p) (by omega) (by omega), show P - p = (P - (p + 1)) + 1 by omega]
      show _ = hd_Design_sumUp_Ds_174 N N (nI M) (c.1 314 M) (upI (upI (upI (upI (upI c 600 (upd (c.1 600) M 1)) 601 (upd (c.1 601) M (c.1 321 0 - c.1 312 M))) 602 (upd (c.1 602) M x3)) 603 (upd (c.1 603) M (nI (a + (g p + sumF g (P - (p + 1)) (p + 1)))))) 604 (upd (c.1 604) M x1))
      rw [← Nat.add_assoc]
theorem srt_rg {k : Nat} (h : k ≤ 4) : nI (srt k) = 2 ↔ (k = 2 ∨ k = 4) := by
  have b : srt k < 3 := by unfold srt; split <;> (try split) <;> omega
  rw [show (2 : Int32) = nI 2 from rfl, nI_eq (by omega) (by decide)]
  unfold srt
  constructor
  · intro q
    revert q
    split
    · omega
    · split <;> omega
  · intro q
    rw [if_neg (by omega), if_neg (by omega)]
theorem bits_C {M Q : Nat} {x1 : Int32} {g : Nat → Nat} (hM : M < 3277) (hQ : Q < 10900) (h321 : c.1 321 0 = nI Q) (hv : ∀ d, d < Q → (c.1 324 d = 2 → c.1 323 d = nI (g d) ∧ g d ≤ 64) ∧ (¬ c.1 324 d = 2 → g d = 0)) : ∀ (n d b : Nat), d ≤ Q → Q - d < n → hd_Design_sumUp_Ds_22 N n x1 (nI M) (nI (cap28 b)) (nI d) c = hd_Design_sumUp_Ds_80 N N x1 (nI M) (nI (cap28 (b + sumF g (Q - d) d))) 0 (c.1 315 M) c := by
  intro n
  induction n with
  | zero => intro d b _ h; omega
  | succ n ih =>
    intro d b hd hn
    show bd_Design_sumUp_Ds_22 N (hd_Design_sumUp_Ds_22 N n) x1 (nI M) (nI (cap28 b)) (nI d) c = _
    unfold bd_Design_sumUp_Ds_22
    rw [h321]
    by_cases z : Q ≤ d
    · rw [if_pos (nI_le z (by omega)), if_neg (nI_in hM (by decide)), nI_clamp (by omega), show Q - d = 0 by omega]
      rfl
    · have i := nI_in (show d < 10923 by omega) (show 10923 < 2 ^ 31 by decide)
      have iN := nI_inN (show d < 10923 by omega) (show d < 2 ^ 31 by omega)
      obtain ⟨y1, y2⟩ := hv d (by omega)
      rw [if_neg (nI_ge (by omega) (by omega)), if_neg i, nI_clamp (by omega), show Q - d = (Q - (d + 1)) + 1 by omega]
      have e : ∀ b, b + sumF g (Q - (d + 1) + 1) d = b + g d + sumF g (Q - (d + 1)) (d + 1) := fun b => by
        show b + (g d + sumF g (Q - (d + 1)) (d + 1)) = _
        omega
      rw [e]
      by_cases r : c.1 324 d = 2
      · rw [if_pos r, if_neg iN, (y1 r).1, capped_C (by have := (y1 r).2; omega) cap28_le, obind, cap28_add _ _ (by have := (y1 r).2; omega), nI_1]
        exact ih (d + 1) (b + g d) (by omega) (by omega)
      · rw [if_neg r, nI_1, y2 r, Nat.add_zero]
        exact ih (d + 1) b (by omega) (by omega)
theorem sumUp_C {T : Nat} (hnt : nt ≤ 12001) (hN : 40000 < N) (hW : WF tk nt A t) (ht : t ≤ nt) (hA : PA A) (X : Xc c T sz (A.1 47 0)) (h : DC pl wd nw lit lc A (A.1 41 0) (A.1 42 0) sz c) :
    ∃ c', fn_Design_sumUp_Ds N (c.1 241 0) c = some ((), c') ∧ Sr c (A.1 46 0) (A.1 41 0 - A.1 22 (A.1 46 0) + dSum A 30 + 1) (A.1 40 0 - A.1 21 (A.1 46 0) + dSum A 29) (dBits A + dSum A 28) (A.1 43 0 - A.1 23 (A.1 46 0) + dSum A 31) (A.1 47 0 + dSum A 27) c' := by
  obtain ⟨⟨a1, a2, a3, a4, a5, a6, a7⟩, w2, w3, w4, w5, w6, w7⟩ := id hW
  obtain ⟨⟨k1, k2, k3, k4, k5, k6⟩, g2, g3, g4, g5, g6, g7, g8, g9⟩ := id h
  have w3' := w3 _ (Nat.le_refl _)
  have mo := g7.1 _ (Nat.le_refl _)
  unfold fn_Design_sumUp_Ds
  rw [k6, nI_pred, if_pos (show 0 ≤ nI (A.1 46 0) from nI_le (a := 0) (Nat.zero_le _) (by omega)), if_neg (nI_in (show A.1 46 0 < 3277 by omega) (by decide)), nI_clamp (by omega), mo.2.1]
  have b1 := bits_C (N := N) (c := c) (M := A.1 46 0) (Q := A.1 40 0) (x1 := c.1 241 0) (g := fun d => if dRg A d = true then A.1 1 d else 0) (by omega) (by omega) k1 (fun d hd => by
    have k4 := (w2 d hd).2.2.2.2.1
    rw [(g2 d hd).2.2.1, (g2 d hd).2.1, srt_rg k4]
    refine ⟨fun y => ?_, fun y => ?_⟩
    · rw [if_pos (show dRg A d = true from decide_eq_true y)]
      exact ⟨rfl, (w2 d hd).2.2.2.1⟩
    · rw [if_neg (show ¬ dRg A d = true from fun q => y (of_decide_eq_true q))]) N (A.1 21 (A.1 46 0)) 0 w3'.1 (by omega)
  rw [show (0 : Int32) = nI (cap28 0) from rfl, b1, Nat.zero_add]
  have b2 := pieces_C (N := N) (c := c) (M := A.1 46 0) (P := A.1 45 0) (x1 := c.1 241 0) (x3 := nI (cap28 (sumF (fun d => if dRg A d = true then A.1 1 d else 0) (A.1 40 0 - A.1 21 (A.1 46 0)) (A.1 21 (A.1 46 0))))) (g := A.1 15) (by omega) (by omega) k4 (fun j hj => (g6 j hj).1) N (A.1 25 (A.1 46 0)) 0 hA.1 (by omega)
  rw [mo.2.2.2.2, show (0 : Int32) = nI 0 from rfl, b2, mo.2.2.2.1, k1, mo.2.1, nI_sub w3'.1, Nat.zero_add]
  have pa := hA.2
  have S0 : Sr c (A.1 46 0) 1 (A.1 40 0 - A.1 21 (A.1 46 0)) (sumF (fun d => if dRg A d = true then A.1 1 d else 0) (A.1 40 0 - A.1 21 (A.1 46 0)) (A.1 21 (A.1 46 0))) (A.1 43 0 - A.1 23 (A.1 46 0)) (A.1 47 0) (upI (upI (upI (upI (upI c 600 (upd (c.1 600) (A.1 46 0) 1)) 601 (upd (c.1 601) (A.1 46 0) (nI (A.1 40 0 - A.1 21 (A.1 46 0))))) 602 (upd (c.1 602) (A.1 46 0) (nI (cap28 (sumF (fun d => if dRg A d = true then A.1 1 d else 0) (A.1 40 0 - A.1 21 (A.1 46 0)) (A.1 21 (A.1 46 0))))))) 603 (upd (c.1 603) (A.1 46 0) (nI (sumF (A.1 15) (A.1 45 0 - A.1 25 (A.1 46 0)) (A.1 25 (A.1 46 0)))))) 604 (upd (c.1 604) (A.1 46 0) (c.1 241 0))) := by
    refine ⟨((((Eb.rfl.upI (by decide)).upI (by decide)).upI (by decide)).upI (by decide)).upI (by decide), rfl, ?_, rfl, ?_, ?_⟩
    · show upd (c.1 601) (A.1 46 0) (nI (A.1 40 0 - A.1 21 (A.1 46 0))) = _
      rw [show cap28 (A.1 40 0 - A.1 21 (A.1 46 0)) = A.1 40 0 - A.1 21 (A.1 46 0) by unfold cap28; omega]
    · show upd (c.1 603) (A.1 46 0) (nI (sumF (A.1 15) (A.1 45 0 - A.1 25 (A.1 46 0)) (A.1 25 (A.1 46 0)))) = _
      rw [show cap28 (A.1 43 0 - A.1 23 (A.1 46 0)) = sumF (A.1 15) (A.1 45 0 - A.1 25 (A.1 46 0)) (A.1 25 (A.1 46 0)) by unfold cap28; omega]
    · show upd (c.1 604) (A.1 46 0) (c.1 241 0) = _
      rw [X.2.2.2.2.2.2]
  obtain ⟨s', y1, y2⟩ := kids_C (N := N) (c := c) (M := A.1 46 0) (I := A.1 41 0) (g := A.1 10) (f0 := fun m => A.1 30 m + 1) (f1 := A.1 29) (f2 := A.1 28) (f3 := A.1 31) (f4 := A.1 27) hN (by omega) (by omega) k6 k2 (fun j hj => ⟨(g4 j hj).1, (w5 j hj).1⟩) g7.2 N (A.1 22 (A.1 46 0)) _ _ _ _ _ _ w3'.2 (by omega) S0
  refine ⟨s', y1, ?_⟩
  have e0 : 1 + sumF (fun j => A.1 30 (A.1 10 j) + 1) (A.1 41 0 - A.1 22 (A.1 46 0)) (A.1 22 (A.1 46 0)) = A.1 41 0 - A.1 22 (A.1 46 0) + dSum A 30 + 1 := by
    have := sumF_one (g := fun j => A.1 30 (A.1 10 j)) (n := A.1 41 0 - A.1 22 (A.1 46 0)) (a := A.1 22 (A.1 46 0))
    rw [sumF_congr (f := fun j => A.1 30 (A.1 10 j) + 1) (g := fun j => 1 + A.1 30 (A.1 10 j)) (fun d _ _ => Nat.add_comm _ _), this]
    unfold dSum
    omega
  rw [e0] at y2
  exact y2
end CSUM
