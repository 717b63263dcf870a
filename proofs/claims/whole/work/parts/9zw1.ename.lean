/-! Exps: they go on; one that is a name alone has its width. -/
def Adv (r : xr) (t : Nat) : Prop := ∀ w t' L C, r = some (.inr (w, t', L, C)) → t < t'
section ENAME
variable {tk pl vl wi : Nat → Nat} {nm : Nat → Option (Nat × Nat)} {nt N : Nat}
theorem xb_in {r : xr} {k : Nat → Nat → List aop → Nat → xr} {q : Nat × Nat × List aop × Nat} (h : xb r k = some (.inr q)) : ∃ w t L C, r = some (.inr (w, t, L, C)) ∧ k w t L C = some (.inr q) := by
  unfold xb at h
  match r with
  | none => cases h
  | some (.inl f) => cases h
  | some (.inr q) => exact ⟨q.1, q.2.1, q.2.2.1, q.2.2.2, rfl, h⟩
theorem eBl_adv {eO : Nat → xr} (hO : ∀ t, Adv (eO t) t) : ∀ (n : Nat) (ops : List (Nat × Nat)) (ws : List Nat) (L : List aop) (C t : Nat) (w t' : Nat) (L' : List aop) (C' : Nat), eBl tk pl nt eO n ops ws L C t = some (.inr (w, t', L', C')) → t ≤ t' := by
  intro n
  induction n with
  | zero => intro ops ws L C t w t' L' C' h; cases h
  | succ n ih =>
    intro ops ws L C t w t' L' C' h
    unfold eBl at h
    split at h
    · cases h
    · split at h
      · split at h
        · cases h
        · cases h
        · obtain ⟨w1, t1, L1, C1, h1, h2⟩ := xb_in h
          have a := hO _ _ _ _ _ h1
          have b := ih _ _ _ _ _ _ _ _ _ h2
          omega
      · split at h
        · cases h
        · cases h
        · split at h
          · cases h
            exact Nat.le_refl _
          · cases h
theorem eOl_adv {eP : Nat → xr} (hP : ∀ t, Adv (eP t) t) (t0 : Nat) : ∀ (n t : Nat), Adv (eOl tk nt eP t0 n t) t := by
  intro n
  induction n with
  | zero => intro t w t' L C h; cases h
  | succ n ih =>
    intro t w t' L C h
    unfold eOl at h
    split at h
    · cases h
    · split at h
      · have := ih (t + 1) w t' L C h
        omega
      · obtain ⟨w1, t1, L1, C1, h1, h2⟩ := xb_in h
        cases h2
        exact hP _ _ _ _ _ h1
theorem eJl_adv {eE : Nat → xr} {p : Nat} (hE : ∀ t, Adv (eE t) t) : ∀ (n u t : Nat) (L : List aop) (C : Nat), Adv (eJl tk nt eE p n u t L C) t := by
  intro n
  induction n with
  | zero => intro u t L C w t' L' C' h; cases h
  | succ n ih =>
    intro u t L C w t' L' C' h
    unfold eJl at h
    split at h
    · cases h
    · split at h
      · obtain ⟨w1, t1, L1, C1, h1, h2⟩ := xb_in h
        have a := hE _ _ _ _ _ h1
        have b := ih _ _ _ _ _ _ _ _ h2
        omega
      · split at h
        · cases h
        · cases h
          omega
theorem eG_adv : ∀ d, (∀ t, Adv ((eG tk pl vl wi nm nt N d).1 t) t) ∧ (∀ t, Adv ((eG tk pl vl wi nm nt N d).2.1 t) t) ∧ (∀ t, Adv ((eG tk pl vl wi nm nt N d).2.2.1 t) t) ∧ (∀ t, Adv ((eG tk pl vl wi nm nt N d).2.2.2.1 t) t) ∧ ∀ p t, Adv ((eG tk pl vl wi nm nt N d).2.2.2.2 p t) t := by
  intro d
  induction d with
  | zero => exact ⟨fun t w t' L C h => (by cases h), fun t w t' L C h => (by cases h), fun t w t' L C h => (by cases h), fun t w t' L C h => (by cases h), fun p t w t' L C h => (by cases h)⟩
  | succ d ih =>
    obtain ⟨i1, i2, i3, i4, i5⟩ := ih
    refine ⟨fun t w t' L C h => ?_, fun t w t' L C h => ?_, fun t w t' L C h => eOl_adv i4 t N t w t' L C h, fun t w t' L C h => ?_, fun p t w t' L C h => ?_⟩
    · have h : eX1 tk pl _ _ t = some (.inr (w, t', L, C)) := h
      unfold eX1 at h
      obtain ⟨w1, t1, L1, C1, h1, h2⟩ := xb_in h
      have a := i2 _ _ _ _ _ h1
      split at h2
      · obtain ⟨w3, t3, L3, C3, h3, h4⟩ := xb_in h2
        have b := i1 _ _ _ _ _ h3
        obtain ⟨w5, t5, L5, C5, h5, h6⟩ := xb_in h4
        have c := i1 _ _ _ _ _ h5
        split at h6
        · cases h6; omega
        · cases h6
      · cases h2; exact a
    · have h : eBin tk pl nt N _ t = some (.inr (w, t', L, C)) := h
      unfold eBin at h
      obtain ⟨w1, t1, L1, C1, h1, h2⟩ := xb_in h
      have a := i3 _ _ _ _ _ h1
      have b := eBl_adv i3 _ _ _ _ _ _ _ _ _ _ h2
      omega
    · have h : eP1 tk pl vl wi nm nt _ _ t = some (.inr (w, t', L, C)) := h
      unfold eP1 at h
      split at h
      · cases h; omega
      · split at h
        · obtain ⟨w1, t1, L1, C1, h1, h2⟩ := xb_in h
          have a := i1 _ _ _ _ _ h1
          cases h2
          omega
        · split at h
          · have := i5 _ _ _ _ _ _ h
            omega
          · split at h
            · split at h
              · cases h
              · split at h
                · split at h
                  · split at h
                    · split at h
                      · cases h
                      · split at h
                        · cases h
                        · cases h; omega
                    · split at h
                      · cases h
                      · cases h; omega
                  · obtain ⟨w1, t1, L1, C1, h1, h2⟩ := xb_in h
                    have a := i1 _ _ _ _ _ h1
                    cases h2
                    omega
                · cases h; omega
            · cases h
    · have h : eBr1 tk vl nt N _ p t = some (.inr (w, t', L, C)) := h
      unfold eBr1 at h
      split at h
      · cases h
      · split at h
        · obtain ⟨w1, t1, L1, C1, h1, h2⟩ := xb_in h
          have a := i1 _ _ _ _ _ h1
          split at h2
          · cases h2
          · cases h2; omega
        · obtain ⟨w1, t1, L1, C1, h1, h2⟩ := xb_in h
          have a := i1 _ _ _ _ _ h1
          have b := eJl_adv i1 _ _ _ _ _ _ _ _ _ h2
          omega
/-- a name alone -/
theorem eE_name {t w C : Nat} {L : List aop} {q : Nat × Nat} (hk : tk t = 400) (hq : nm t = some q) (h : eE tk pl vl wi nm nt N t = some (.inr (w, t + 1, L, C))) : w = q.2 := by
  obtain ⟨j1, j2, j3, j4, -⟩ := eG_adv (tk := tk) (pl := pl) (vl := vl) (wi := wi) (nm := nm) (nt := nt) (N := N) 399
  obtain ⟨-, -, k3, -⟩ := eG_adv (tk := tk) (pl := pl) (vl := vl) (wi := wi) (nm := nm) (nt := nt) (N := N) 398
  obtain ⟨e1, -⟩ := eG_adv (tk := tk) (pl := pl) (vl := vl) (wi := wi) (nm := nm) (nt := nt) (N := N) 396
  have h : eX1 tk pl (eG tk pl vl wi nm nt N 399).1 (eG tk pl vl wi nm nt N 399).2.1 t = some (.inr (w, t + 1, L, C)) := h
  unfold eX1 at h
  obtain ⟨w1, t1, L1, C1, h1, h2⟩ := xb_in h
  have a1 := j2 _ _ _ _ _ h1
  have s1 : t1 = t + 1 ∧ w = w1 := by
    split at h2
    · obtain ⟨w3, t3, L3, C3, h3, h4⟩ := xb_in h2
      have b := j1 _ _ _ _ _ h3
      obtain ⟨w5, t5, L5, C5, h5, h6⟩ := xb_in h4
      have c := j1 _ _ _ _ _ h5
      split at h6
      · have : t5 = t + 1 := by cases h6; rfl
        omega
      · cases h6
    · have e : w1 = w ∧ t1 = t + 1 := by cases h2; exact ⟨rfl, rfl⟩
      exact ⟨e.2, e.1.symm⟩
  obtain ⟨st, sw⟩ := s1
  rw [st] at h1
  have h1 : eBin tk pl nt N (eG tk pl vl wi nm nt N 398).2.2.1 t = some (.inr (w1, t + 1, L1, C1)) := h1
  unfold eBin at h1
  obtain ⟨w2, t2, L2, C2, h3, h4⟩ := xb_in h1
  have a2 := k3 _ _ _ _ _ h3
  have s2 : t2 = t + 1 ∧ w1 = w2 := by
    have mono := eBl_adv k3 _ _ _ _ _ _ _ _ _ _ h4
    have t2e : t2 = t + 1 := by omega
    refine ⟨t2e, ?_⟩
    cases N with
    | zero => cases h4
    | succ n =>
      unfold eBl at h4
      split at h4
      · cases h4
      · split at h4
        · split at h4
          · cases h4
          · cases h4
          · obtain ⟨w5, t5, L5, C5, h5, h6⟩ := xb_in h4
            have c := k3 _ _ _ _ _ h5
            have d := eBl_adv k3 _ _ _ _ _ _ _ _ _ _ h6
            omega
        · have er : eRed 1 [] [w2] L2 C2 = some (.inr ([], [w2], L2, C2)) := rfl
          rw [er] at h4
          dsimp only at h4
          cases h4
          rfl
  obtain ⟨st2, sw2⟩ := s2
  rw [st2] at h3
  have h3 : eOl tk nt (eG tk pl vl wi nm nt N 397).2.2.2.1 t N t = some (.inr (w2, t + 1, L2, C2)) := h3
  have s3 : ∃ L3 C3, (eG tk pl vl wi nm nt N 397).2.2.2.1 t = some (.inr (w2, t + 1, L3, C3)) := by
    cases N with
    | zero => cases h3
    | succ n =>
      unfold eOl at h3
      split at h3
      · cases h3
      · split at h3
        · rename_i u
          rw [hk] at u
          exact absurd u (by decide)
        · obtain ⟨w5, t5, L5, C5, h5, h6⟩ := xb_in h3
          rw [Nat.sub_self] at h6
          have h6 : xok w5 t5 L5 C5 = some (.inr (w2, t + 1, L2, C2)) := h6
          cases h6
          exact ⟨_, _, h5⟩
  obtain ⟨L3, C3, h5⟩ := s3
  have h5 : eP1 tk pl vl wi nm nt (eG tk pl vl wi nm nt N 396).1 (eG tk pl vl wi nm nt N 396).2.2.2.2 t = some (.inr (w2, t + 1, L3, C3)) := h5
  unfold eP1 at h5
  rw [hk, if_neg (by decide), if_neg (by decide), if_neg (by decide), if_pos rfl, hq] at h5
  dsimp only at h5
  split at h5
  · exfalso
    split at h5
    · split at h5
      · split at h5
        · cases h5
        · split at h5
          · cases h5
          · have : t + 6 = t + 1 := by cases h5
            omega
      · split at h5
        · cases h5
        · have : t + 4 = t + 1 := by cases h5
          omega
    · obtain ⟨w6, t6, L6, C6, h6, h7⟩ := xb_in h5
      have c := e1 _ _ _ _ _ h6
      have : t6 + 1 = t + 1 := by
        have h7 : some (Sum.inr (1, t6 + 1, _, _)) = some (Sum.inr (w2, t + 1, L3, C3)) := h7
        have := Option.some.inj h7
        have := Sum.inr.inj this
        exact (Prod.ext_iff.mp (Prod.ext_iff.mp this).2).1
      omega
  · have : q.2 = w2 := by
      have h5 : some (Sum.inr (q.2, t + 1, _, _)) = some (Sum.inr (w2, t + 1, L3, C3)) := h5
      have := Option.some.inj h5
      have := Sum.inr.inj this
      exact (Prod.ext_iff.mp this).1
    rw [sw, sw2, this]
end ENAME
