/-! Designs: what every step keeps. -/
def ClP (tk pl vl wi wd : Nat → Nat) (nt N : Nat) (P : ds → Prop) (Q : Nat → ds → Prop) : Prop :=
  (∀ A t u w k, WF tk nt A t → P A → k ≤ 4 → 1 ≤ w → w ≤ 64 → P (dAdd A u w k)) ∧
  (∀ A d x, P A → P (tu A 3 d x)) ∧
  (∀ A t t0 d t2 t1 L C, WF tk nt A t → P A → dHere wd A t0 = some d → dDrv A d = true → A.1 4 d = 0 → dX tk pl vl wi wd nt N A t2 = some (.inr (A.1 1 d, t1, L, C)) → P (tu (uu (tu A 4 d 1) 0 d L) 47 0 (A.1 47 0 + C))) ∧
  (∀ A t t2 t1 S b D C, WF tk nt A t → t < nt → P A → (sT tk pl vl wi (dNm wd A) nt (dRf A) N (A.1 44 0 + 1) 399).1 t2 (A.1 5) = some (.inr (t1, S, b, D, C)) → P (dAlw A S b D C)) ∧
  (∀ A t t2 w t1 L C C', WF tk nt A t → P A → dX tk pl vl wi wd nt N A t2 = some (.inr (w, t1, L, C)) → P (dAss A L C')) ∧
  (∀ A t t0 m t1, WF tk nt A t → P A → dMod wd A t0 = some m → dInst wd A t1 = none → Q m (dIt A m t1)) ∧
  (∀ A t m t0 p t2 t1 L C, WF tk nt A t → m < A.1 46 0 → Q m A → dPrt wd A m t0 = some p → dLkd A p = none → A.1 2 p = 0 → dX tk pl vl wi wd nt N A t2 = some (.inr (A.1 1 p, t1, L, C)) → Q m (dLi A p L C)) ∧
  (∀ A t m t0 p t2 s L C, WF tk nt A t → m < A.1 46 0 → Q m A → dPrt wd A m t0 = some p → A.1 2 p ≤ 2 → dLkd A p = none → A.1 2 p ≠ 0 → tk t2 = 400 → dX tk pl vl wi wd nt N A t2 = some (.inr (A.1 1 p, t2 + 1, L, C)) → dHere wd A t2 = some s → dDrv A s = true → A.1 4 s = 0 → Q m (dLo A p s L C)) ∧
  (∀ A t m, WF tk nt A t → m < A.1 46 0 → Q m A → dOpn A m = none → P (dItE A))
section DIND
variable {tk pl vl wi wd : Nat → Nat} {nt N : Nat} {P : ds → Prop} {Q : Nat → ds → Prop} {A A' : ds} {t t' m : Nat}
theorem dDecl_w {k u : Nat} (hV : Vb tk vl wi) (e : dDecl tk pl vl wi wd nt k u A = some (.inr (t', A'))) : ∃ v w x, 1 ≤ w ∧ w ≤ 64 ∧ (A' = dAdd A v w k ∨ A' = tu (dAdd A v w k) 3 (A.1 40 0) x) := by
  unfold dDecl at e
  split at e
  · cases e
  · split at e
    · cases e
    · cases e
    · rename_i q hq
      have hw : 1 ≤ q.2 ∧ q.2 ≤ 64 := by
        unfold dRng at hq
        split at hq
        · split at hq
          · cases hq
          · split at hq
            · cases hq
            · cases hq
              dsimp only
              omega
        · cases hq
          exact ⟨Nat.le_refl _, by show 1 ≤ 64; omega⟩
      unfold dDec at e
      split at e
      · cases e
      · split at e
        · cases e
        · split at e
          · split at e
            · cases e
            · split at e
              · cases e
                exact ⟨_, _, _, hw.1, hw.2, Or.inr rfl⟩
              · cases e
          · cases e
            exact ⟨_, _, 0, hw.1, hw.2, Or.inl rfl⟩
theorem dDecl_ind {k u : Nat} (hV : Vb tk vl wi) (hC : ClP tk pl vl wi wd nt N P Q) (hW : WF tk nt A t) (h : P A) (hk : k ≤ 4) (e : dDecl tk pl vl wi wd nt k u A = some (.inr (t', A'))) : P A' := by
  obtain ⟨v, w, x, w1, w2, rfl | rfl⟩ := dDecl_w hV e
  · exact hC.1 A t _ _ _ hW h hk w1 w2
  · exact hC.2.1 _ _ _ (hC.1 A t _ _ _ hW h hk w1 w2)
theorem dLink_ind (hC : ClP tk pl vl wi wd nt N P Q) (hW : WF tk nt A t) (hm : m < A.1 46 0) (h : Q m A) (e : dLink tk pl vl wi wd nt N m t A = some (.inr (t', A'))) : Q m A' := by
  unfold dLink at e
  split at e
  · cases e
  · split at e
    · cases e
    · rename_i p hp
      split at e
      · cases e
      · rename_i c1
        have c1 : A.1 2 p ≤ 2 ∧ dLkd A p = none := by
          constructor
          · have : ¬ 2 < A.1 2 p := fun z => c1 (Or.inl z)
            omega
          · exact Classical.byContradiction (fun z => c1 (Or.inr z))
        split at e
        · cases e
        · cases e
        · rename_i w t1 L C hx
          split at e
          · rename_i k0
            split at e
            · rename_i ww
              cases e
              subst ww
              exact hC.2.2.2.2.2.2.1 A t m _ p _ _ L C hW hm h hp c1.2 k0 hx
            · cases e
          · rename_i k0
            split at e
            · cases e
            · rename_i c5
              have k4 : tk (t + 3) = 400 := Classical.byContradiction (fun z => c5 (Or.inl z))
              have t4 : t1 = t + 3 + 1 := Classical.byContradiction (fun z => c5 (Or.inr z))
              split at e
              · cases e
              · rename_i s hs
                split at e
                · cases e
                · rename_i dr
                  split at e
                  · cases e
                  · rename_i ww
                    split at e
                    · cases e
                    · rename_i s4
                      cases e
                      have ww : w = A.1 1 p := Classical.byContradiction (fun z => ww z)
                      subst ww
                      rw [t4] at hx
                      exact hC.2.2.2.2.2.2.2.1 A t m _ p _ s L C hW hm h hp c1.1 c1.2 k0 k4 hx hs (by cases hh : dDrv A s with | true => rfl | false => exact absurd hh dr) (Classical.byContradiction (fun z => s4 z))
theorem dLinks_ind (hC : ClP tk pl vl wi wd nt N P Q) : ∀ (n t : Nat) (A : ds), WF tk nt A t → m < A.1 46 0 → Q m A → ∀ t' A', dLinks tk pl vl wi wd nt N m n t A = some (.inr (t', A')) → Q m A' := by
  intro n
  induction n with
  | zero => intro t A _ _ _ t' A' e; cases e
  | succ n ih =>
    intro t A hW hm h t' A' e
    unfold dLinks at e
    split at e
    · cases e
    · split at e
      · match er : dLink tk pl vl wi wd nt N m t A with
        | none => rw [er] at e; cases e
        | some (.inl f) => rw [er] at e; cases e
        | some (.inr (t1, A1)) =>
          rw [er, db_inr] at e
          obtain ⟨w1, w2⟩ := dLink_wo hW hm t1 A1 er
          obtain ⟨c1, c2, c3⟩ := dLink_cnt er
          split at e
          · cases e
          · exact ih _ A1 (w1.later (by split <;> omega)) (by rw [c1]; exact hm) (dLink_ind hC hW hm h er) t' A' e
      · cases e
        exact h
theorem dItem_ind (hV : Vb tk vl wi) (hC : ClP tk pl vl wi wd nt N P Q) (hW : WF tk nt A t) (h : P A) (e : dItem tk pl vl wi wd nt N t A = some (.inr (t', A'))) : P A' := by
  have dc : ∀ k, k ≤ 4 → db (dDecl tk pl vl wi wd nt k (t + 1) A) (fun t1 A1 => if nt ≤ t1 then none else dok (t1 + 1) A1) = some (.inr (t', A')) → P A' := by
    intro k hk e
    match er : dDecl tk pl vl wi wd nt k (t + 1) A with
    | none => rw [er] at e; cases e
    | some (.inl f) => rw [er] at e; cases e
    | some (.inr (t1, A1)) =>
      rw [er, db_inr] at e
      split at e
      · cases e
      · cases e
        exact dDecl_ind hV hC hW h hk er
  unfold dItem at e
  split at e
  · cases e
  · split at e
    · exact dc 3 (by decide) e
    · split at e
      · exact dc 4 (by decide) e
      · split at e
        · unfold dAssign at e
          split at e
          · cases e
          · split at e
            · cases e
            · rename_i d hd
              split at e
              · cases e
              · rename_i dr
                split at e
                · cases e
                · rename_i s4
                  split at e
                  · cases e
                  · cases e
                  · rename_i w t1 L C hx
                    split at e
                    · rename_i ww
                      cases e
                      subst ww
                      exact hC.2.2.1 A t _ d _ _ L C hW h hd (by cases hh : dDrv A d with | true => rfl | false => exact absurd hh dr) (Classical.byContradiction (fun z => s4 z)) hx
                    · cases e
        · split at e
          · unfold dAlways at e
            split at e
            · cases e
            · rename_i tn
              split at e
              · cases e
              · cases e
              · rename_i t1 S b D C hs
                split at e
                · cases e
                · cases e
                  exact hC.2.2.2.1 A t _ _ S b D C hW (by omega) h hs
          · split at e
            · unfold dAssert at e
              split at e
              · cases e
              · split at e
                · cases e
                · cases e
                · rename_i w t1 L C hx
                  cases e
                  exact hC.2.2.2.2.1 A t _ w _ L C _ hW h hx
            · unfold dInstance at e
              split at e
              · cases e
              · split at e
                · cases e
                · rename_i m hm
                  split at e
                  · cases e
                  · rename_i nd
                    have ni : dInst wd A (t + 1) = none := Classical.byContradiction (fun z => nd (Or.inr z))
                    match er : dLinks tk pl vl wi wd nt N m N (t + 3) (dIt A m (t + 1)) with
                    | none => rw [er] at e; cases e
                    | some (.inl f) => rw [er] at e; cases e
                    | some (.inr (t1, A1)) =>
                      rw [er, db_inr] at e
                      have mi := dMod_in hm
                      have e46 : (dIt A m (t + 1)).1 46 0 = A.1 46 0 := by unfold dIt; simp only [tu1, tu2, uu1, uu2, uu3, vu1, vu2, vu3, su1, su2, Nat.reduceEqDiff, false_and, true_and, reduceIte, Bool.false_eq_true, if_true, if_false]
                      have hm2 : m < (dIt A m (t + 1)).1 46 0 := by rw [e46]; exact mi.1
                      have w3 : WF tk nt (dIt A m (t + 1)) (t + 3) := (hW.it).later (by omega)
                      have q1 := dLinks_ind hC N (t + 3) (dIt A m (t + 1)) w3 hm2 (hC.2.2.2.2.2.1 A t _ m _ hW h hm ni) t1 A1 er
                      obtain ⟨x1, x2, x3, x4, x5⟩ := dLinks_wo N (t + 3) (dIt A m (t + 1)) w3 hm2 t1 A1 er
                      split at e
                      · cases e
                      · split at e
                        · cases e
                        · rename_i op
                          cases e
                          exact hC.2.2.2.2.2.2.2.2 A1 t1 m x1 (by rw [x3]; exact hm2) q1 (Classical.byContradiction (fun z => op z))
theorem dItems_ind (hV : Vb tk vl wi) (hC : ClP tk pl vl wi wd nt N P Q) : ∀ (n t : Nat) (A : ds), WF tk nt A t → P A → ∀ t' A', dItems tk pl vl wi wd nt N n t A = some (.inr (t', A')) → P A' ∧ WF tk nt A' t' ∧ t ≤ t' ∧ ∀ k, k ∈ mKs → A'.1 k = A.1 k := by
  intro n
  induction n with
  | zero => intro t A _ _ t' A' e; cases e
  | succ n ih =>
    intro t A hW h t' A' e
    unfold dItems at e
    split at e
    · cases e
    · split at e
      · cases e
        exact ⟨h, hW, Nat.le_refl _, fun _ _ => rfl⟩
      · match er : dItem tk pl vl wi wd nt N t A with
        | none => rw [er] at e; cases e
        | some (.inl f) => rw [er] at e; cases e
        | some (.inr (t1, A1)) =>
          rw [er, db_inr] at e
          have w1 := dItem_wo hV hW _ _ er
          obtain ⟨x1, x2, x3, x4⟩ := ih t1 A1 w1.1 (dItem_ind hV hC hW h er) t' A' e
          exact ⟨x1, x2, by have := w1.2; omega, fun k hk => (x4 k hk).trans (dItem_mk er k hk)⟩
theorem dPorts_ind (hV : Vb tk vl wi) (hC : ClP tk pl vl wi wd nt N P Q) : ∀ (n t : Nat) (A : ds), WF tk nt A t → P A → ∀ t' A', dPorts tk pl vl wi wd nt n t A = some (.inr (t', A')) → P A' ∧ WF tk nt A' t' ∧ t ≤ t' ∧ ∀ k, k ∈ mKs → A'.1 k = A.1 k := by
  intro n
  induction n with
  | zero => intro t A _ _ t' A' e; cases e
  | succ n ih =>
    intro t A hW h t' A' e
    unfold dPorts at e
    split at e
    · cases e
    · split at e
      · match er : dPort tk pl vl wi wd nt t A with
        | none => rw [er] at e; cases e
        | some (.inl f) => rw [er] at e; cases e
        | some (.inr (t1, A1)) =>
          rw [er, db_inr] at e
          have w1 := dPort_wo hV hW _ _ er
          have p1 : P A1 := by
            unfold dPort at er
            split at er
            · cases er
            · split at er
              · exact dDecl_ind hV hC hW h (by decide) er
              · split at er
                · exact dDecl_ind hV hC hW h (by decide) er
                · exact dDecl_ind hV hC hW h (by decide) er
          split at e
          · cases e
          · obtain ⟨x1, x2, x3, x4⟩ := ih _ A1 (w1.1.later (by split <;> omega)) p1 t' A' e
            have mk : ∀ k, k ∈ mKs → A1.1 k = A.1 k := by
              have dm : ∀ kk u t', dDecl tk pl vl wi wd nt kk u A = some (.inr (t', A1)) → ∀ k, k ∈ mKs → A1.1 k = A.1 k := fun kk u t' e => by
                obtain ⟨v, w, x, w1, w2, rfl | rfl⟩ := dDecl_w hV e
                · exact dAdd_mk
                · intro k hk
                  rw [← dAdd_mk (A := A) (u := v) (w := w) (x := kk) k hk]
                  funext i
                  rcases mKs_or hk with rfl | rfl | rfl | rfl | rfl | rfl | rfl | rfl | rfl | rfl | rfl | rfl | rfl <;> simp only [tu1, tu2, uu1, uu2, uu3, vu1, vu2, vu3, su1, su2, Nat.reduceEqDiff, false_and, true_and, reduceIte, Bool.false_eq_true, if_true, if_false]
              unfold dPort at er
              split at er
              · cases er
              · split at er
                · exact dm _ _ _ er
                · split at er
                  · exact dm _ _ _ er
                  · exact dm _ _ _ er
            refine ⟨x1, x2, ?_, fun k hk => (x4 k hk).trans (mk k hk)⟩
            have := w1.2
            revert x3
            split <;> omega
      · cases e
        exact ⟨h, hW, Nat.le_refl _, fun _ _ => rfl⟩
/-- a design: B between modules -/
theorem dDesign_ind {B : ds → Prop} (hV : Vb tk vl wi) (hC : ClP tk pl vl wi wd nt N P Q) (hB : ∀ A t u, WF tk nt A t → B A → P (dBeg A u)) (h26 : ∀ A x, P A → P (tu A 26 (A.1 46 0) x)) (hE : ∀ A t, WF tk nt A t → P A → dUnd A = none → B (dEnd A)) : ∀ (n t : Nat) (A : ds), WF tk nt A t → B A → ∀ t' A', dDesign tk pl vl wi wd nt N n t A = some (.inr (t', A')) → B A' ∧ WF tk nt A' t' := by
  intro n
  induction n with
  | zero => intro t A _ _ t' A' e; cases e
  | succ n ih =>
    intro t A hW h t' A' e
    unfold dDesign at e
    split at e
    · cases e
    · split at e
      · cases e
        exact ⟨h, hW⟩
      · match er : dModule tk pl vl wi wd nt N t A with
        | none => rw [er] at e; cases e
        | some (.inl f) => rw [er] at e; cases e
        | some (.inr (t1, A1)) =>
          rw [er, db_inr] at e
          have go : B A1 ∧ WF tk nt A1 t1 := by
            unfold dModule at er
            split at er
            · cases er
            · rename_i c0
              split at er
              · cases er
              · have k4 : tk (t + 1) = 400 := Classical.byContradiction (fun z => c0 (Or.inr z))
                have k3 : t + 3 < nt := by
                  by_cases z : nt ≤ t + 3
                  · exact absurd (Or.inl z) c0
                  · omega
                have wB : WF tk nt (dBeg A (t + 1)) (t + 3) := hW.beg.later (by omega)
                match ep : dPorts tk pl vl wi wd nt N (t + 3) (dBeg A (t + 1)) with
                | none => rw [ep] at er; cases er
                | some (.inl f) => rw [ep] at er; cases er
                | some (.inr (t2, A2)) =>
                  rw [ep, db_inr] at er
                  obtain ⟨p2, w2, l2, m2⟩ := dPorts_ind hV hC N _ _ wB (hB A t _ hW h) t2 A2 ep
                  split at er
                  · cases er
                  · match ei : dItems tk pl vl wi wd nt N N (t2 + 2) (tu A2 26 (A2.1 46 0) (A2.1 40 0 - A2.1 21 (A2.1 46 0))) with
                    | none => rw [ei] at er; cases er
                    | some (.inl f) => rw [ei] at er; cases er
                    | some (.inr (t3, A3)) =>
                      rw [ei, db_inr] at er
                      have w26 : WF tk nt (tu A2 26 (A2.1 46 0) (A2.1 40 0 - A2.1 21 (A2.1 46 0))) (t2 + 2) := (w2.later (by omega)).p26
                      obtain ⟨p3, w3, l3, m3⟩ := dItems_ind hV hC N _ _ w26 (h26 A2 _ p2) t3 A3 ei
                      split at er
                      · cases er
                      · rename_i un
                        cases er
                        have cnt := hW.1
                        have C46 : A3.1 46 0 = A.1 46 0 := by
                          rw [m3 46 (by decide)]
                          simp only [tu1, tu2, uu1, uu2, uu3, vu1, vu2, vu3, su1, su2, Nat.reduceEqDiff, false_and, true_and, reduceIte, Bool.false_eq_true, if_true, if_false]
                          rw [m2 46 (by decide)]
                          unfold dBeg dFirsts
                          simp only [tu1, tu2, uu1, uu2, uu3, vu1, vu2, vu3, su1, su2, Nat.reduceEqDiff, false_and, true_and, reduceIte, Bool.false_eq_true, if_true, if_false]
                        have C20 : A3.1 20 (A.1 46 0) = t + 1 := by
                          rw [m3 20 (by decide)]
                          simp only [tu1, tu2, uu1, uu2, uu3, vu1, vu2, vu3, su1, su2, Nat.reduceEqDiff, false_and, true_and, reduceIte, Bool.false_eq_true, if_true, if_false]
                          rw [m2 20 (by decide)]
                          unfold dBeg dFirsts
                          simp only [tu1, tu2, uu1, uu2, uu3, vu1, vu2, vu3, su1, su2, Nat.reduceEqDiff, false_and, true_and, reduceIte, Bool.false_eq_true, if_true, if_false]
                        exact ⟨hE A3 t3 w3 p3 un, w3.fin (by omega) (by rw [C46]; omega) (by rw [C46, C20]; exact ⟨by omega, k4⟩)⟩
          exact ih t1 A1 go.2 go.1 t' A' e
end DIND
