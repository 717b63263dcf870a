/-! The class in designs: words. -/
def Wr (wd : Nat → Nat) (A : ds) (I nw : Nat) (c : ms) : Prop :=
  c.1 232 0 = nI (A.1 46 0) ∧ (∀ w, w < nw → (∃ j, j ≤ A.1 46 0 ∧ c.1 236 w = nI j) ∨ c.1 236 w = -1) ∧
  (∀ d, A.1 21 (A.1 46 0) ≤ d → d < A.1 40 0 → c.1 236 (wd (A.1 0 d)) = nI (A.1 46 0) ∧ c.1 235 (wd (A.1 0 d)) = nI d) ∧
  (∀ i, A.1 22 (A.1 46 0) ≤ i → i < I → c.1 236 (wd (A.1 11 i)) = nI (A.1 46 0) ∧ c.1 235 (wd (A.1 11 i)) = -2) ∧
  (∀ w, w < nw → c.1 236 w = nI (A.1 46 0) → (∃ d, A.1 21 (A.1 46 0) ≤ d ∧ d < A.1 40 0 ∧ wd (A.1 0 d) = w) ∨ (∃ i, A.1 22 (A.1 46 0) ≤ i ∧ i < I ∧ wd (A.1 11 i) = w)) ∧
  (∀ d, A.1 21 (A.1 46 0) ≤ d → d < A.1 40 0 → A.1 35 d = A.1 21 (A.1 46 0))
/-- words that name modules -/
def Wm (wd : Nat → Nat) (A : ds) (M nw : Nat) (c : ms) : Prop :=
  (∀ m, m < M → c.1 234 (wd (A.1 20 m)) = nI m) ∧ (∀ w, w < nw → c.1 234 w = -1 ∨ ∃ m, m < M ∧ c.1 234 w = nI m ∧ wd (A.1 20 m) = w)
section CWRD
variable {wd : Nat → Nat} {N nw I : Nat} {c c' : ms} {A : ds}
theorem Wr.keep {ks js : List Nat} (h : Wr wd A I nw c) (e : Eb ks js c c') (hk : 232 ∉ ks ∧ 235 ∉ ks ∧ 236 ∉ ks) : Wr wd A I nw c' := by
  unfold Wr at *
  rw [e.1 232 hk.1, e.1 235 hk.2.1, e.1 236 hk.2.2]
  exact h
theorem Wm.keep {M : Nat} {ks js : List Nat} (h : Wm wd A M nw c) (e : Eb ks js c c') (hk : 234 ∉ ks) : Wm wd A M nw c' := by
  unfold Wm at *
  rw [e.1 234 hk]
  exact h
theorem nI_no1 {a : Nat} (h : a < 2 ^ 31) : nI a ≠ -1 := fun z => by
  have : nI a < 0 := by rw [z]; decide
  exact nI_pos h this
theorem nI_no2 {a : Nat} (h : a < 2 ^ 31) : nI a ≠ -2 := fun z => by
  have : nI a < 0 := by rw [z]; decide
  exact nI_pos h this
theorem meantBy_eq {w : Nat} (hw : w < 19830) : fn_Checker_meantBy_Ch N (nI w) c = some (if c.1 236 w = c.1 232 0 then c.1 235 w else -1, c) := by
  unfold fn_Checker_meantBy_Ch
  rw [if_neg (nI_pos (by omega)), if_pos (show nI w < 19830 from nI_lt (b := 19830) hw (by decide)), if_neg (nI_in hw (by decide)), nI_clamp (by omega)]
  by_cases z : c.1 236 w = c.1 232 0
  · rw [if_pos z, if_pos z, if_neg (nI_inN hw (by omega))]
  · rw [if_neg z, if_neg z]
/-- what a word means -/
theorem meant_C {x : Nat} (h : Wr wd A I nw c) (hw : wd x < nw) (hnw : nw ≤ 19830) (hm : A.1 46 0 < 20000) (hd : A.1 40 0 < 20000) (h21 : A.1 21 (A.1 46 0) ≤ A.1 40 0) :
    ∃ y, fn_Checker_meantBy_Ch N (nI (wd x)) c = some (y, c) ∧ (∀ d, dHere wd A x = some d → y = nI d) ∧ (dHere wd A x = none → y = -1 ∨ y = -2) ∧ (y = -1 ↔ dHere wd A x = none ∧ ∀ i, A.1 22 (A.1 46 0) ≤ i → i < I → wd (A.1 11 i) ≠ wd x) := by
  obtain ⟨h1, h2, h3, h4, h5, -⟩ := h
  rw [meantBy_eq (by omega), h1]
  refine ⟨_, rfl, fun d e => ?_, fun e => ?_, ?_⟩
  · obtain ⟨e1, e2, e3, -⟩ := fnd_some e
    have e3' : wd (A.1 0 d) = wd x := of_decide_eq_true e3
    obtain ⟨p1, p2⟩ := h3 d e1 (by omega)
    rw [e3'] at p1 p2
    rw [if_pos p1, p2]
  · by_cases z : c.1 236 (wd x) = nI (A.1 46 0)
    · rw [if_pos z]
      rcases h5 (wd x) hw z with ⟨d, d1, d2, d3⟩ | ⟨i, i1, i2, i3⟩
      · have := fnd_none e d d1 (by omega)
        rw [decide_eq_true d3] at this
        cases this
      · right
        have := (h4 i i1 i2).2
        rw [i3] at this
        exact this
    · rw [if_neg z]; exact Or.inl rfl
  · constructor
    · intro q
      refine ⟨?_, fun i i1 i2 z => ?_⟩
      · cases e : dHere wd A x with
        | none => rfl
        | some d =>
          exfalso
          obtain ⟨e1, e2, e3, -⟩ := fnd_some e
          have e3' : wd (A.1 0 d) = wd x := of_decide_eq_true e3
          obtain ⟨p1, p2⟩ := h3 d e1 (by omega)
          rw [e3'] at p1 p2
          rw [if_pos p1, p2] at q
          exact nI_no1 (by omega) q
      · obtain ⟨p1, p2⟩ := h4 i i1 i2
        rw [z] at p1 p2
        rw [if_pos p1, p2] at q
        revert q
        decide
    · rintro ⟨e, q⟩
      by_cases z : c.1 236 (wd x) = nI (A.1 46 0)
      · exfalso
        rcases h5 (wd x) hw z with ⟨d, d1, d2, d3⟩ | ⟨i, i1, i2, i3⟩
        · have := fnd_none e d d1 (by omega)
          rw [decide_eq_true d3] at this
          cases this
        · exact q i i1 i2 i3
      · rw [if_neg z]
/-- a new name -/
theorem Wr.add {x w k : Nat} (h : Wr wd A I nw c) (hx : wd x < nw) (hnw : nw ≤ 19830) (hm : A.1 46 0 < 3270) (hd : A.1 40 0 < 10900) (h21 : A.1 21 (A.1 46 0) ≤ A.1 40 0) (hno : dHere wd A x = none) (hni : ∀ i, A.1 22 (A.1 46 0) ≤ i → i < I → wd (A.1 11 i) ≠ wd x) (hwd : ∀ d, d < A.1 40 0 → wd (A.1 0 d) < nw) (hwi : ∀ i, i < I → wd (A.1 11 i) < nw) :
    ∃ c', fn_Checker_mean_Ch N (nI (wd x)) (nI (A.1 40 0)) c = some ((), c') ∧ Wr wd (dAdd A x w k) I nw c' ∧ c'.1 237 = upd (c.1 237) (A.1 40 0) (nI (wd x)) ∧ Eb [235, 236, 237] [] c c' := by
  obtain ⟨h1, h2, h3, h4, h5, h6⟩ := h
  unfold fn_Checker_mean_Ch
  rw [if_neg (nI_pos (by omega)), if_pos (show nI (wd x) < 19830 from nI_lt (b := 19830) (by omega) (by decide)), if_neg (nI_in (show wd x < 19830 by omega) (by decide)), if_neg (nI_in (show wd x < 19830 by omega) (by decide)), if_neg (nI_pos (by omega)), if_neg (show ¬ (10923 : Int32) ≤ nI (A.1 40 0) from nI_ge (b := 10923) (by omega) (by omega)), if_neg (nI_in (show A.1 40 0 < 10923 by omega) (by decide)), nI_clamp (by omega), nI_clamp (by omega), h1]
  refine ⟨_, rfl, ?_, rfl, ((Eb.rfl.upI (by decide)).upI (by decide)).upI (by decide)⟩
  have no : ∀ d, A.1 21 (A.1 46 0) ≤ d → d < A.1 40 0 → wd (A.1 0 d) ≠ wd x := fun d d1 d2 z => by
    have := fnd_none hno d d1 (by omega)
    rw [decide_eq_true z] at this
    cases this
  unfold Wr dAdd
  simp only [tu1, tu2, uu1, uu2, uu3, vu1, vu2, vu3, su1, su2, Nat.reduceEqDiff, false_and, true_and, reduceIte, Bool.false_eq_true, if_true, if_false]
  show c.1 232 0 = _ ∧ (∀ w, w < nw → (∃ j, j ≤ A.1 46 0 ∧ upd (c.1 236) (wd x) (nI (A.1 46 0)) w = nI j) ∨ upd (c.1 236) (wd x) (nI (A.1 46 0)) w = -1) ∧ (∀ d, A.1 21 (A.1 46 0) ≤ d → d < A.1 40 0 + 1 → upd (c.1 236) (wd x) (nI (A.1 46 0)) (wd (if d = A.1 40 0 then x else A.1 0 d)) = nI (A.1 46 0) ∧ upd (c.1 235) (wd x) (nI (A.1 40 0)) (wd (if d = A.1 40 0 then x else A.1 0 d)) = nI d) ∧ (∀ i, A.1 22 (A.1 46 0) ≤ i → i < I → upd (c.1 236) (wd x) (nI (A.1 46 0)) (wd (A.1 11 i)) = nI (A.1 46 0) ∧ upd (c.1 235) (wd x) (nI (A.1 40 0)) (wd (A.1 11 i)) = -2) ∧ (∀ w, w < nw → upd (c.1 236) (wd x) (nI (A.1 46 0)) w = nI (A.1 46 0) → (∃ d, A.1 21 (A.1 46 0) ≤ d ∧ d < A.1 40 0 + 1 ∧ wd (if d = A.1 40 0 then x else A.1 0 d) = w) ∨ (∃ i, A.1 22 (A.1 46 0) ≤ i ∧ i < I ∧ wd (A.1 11 i) = w)) ∧ (∀ d, A.1 21 (A.1 46 0) ≤ d → d < A.1 40 0 + 1 → (if d = A.1 40 0 then A.1 21 (A.1 46 0) else A.1 35 d) = A.1 21 (A.1 46 0))
  refine ⟨h1, fun v hv => ?_, fun d d1 d2 => ?_, fun i i1 i2 => ?_, fun v hv hs => ?_, fun d d1 d2 => ?_⟩
  · by_cases z : v = wd x
    · rw [z, upd_at]; exact Or.inl ⟨_, Nat.le_refl _, rfl⟩
    · rw [upd_ne z]; exact h2 v hv
  · by_cases z : d = A.1 40 0
    · rw [if_pos z, upd_at, upd_at, z]; exact ⟨rfl, rfl⟩
    · rw [if_neg z, upd_ne (no d d1 (by omega)), upd_ne (no d d1 (by omega))]; exact h3 d d1 (by omega)
  · rw [upd_ne (hni i i1 i2), upd_ne (hni i i1 i2)]; exact h4 i i1 i2
  · by_cases z : v = wd x
    · exact Or.inl ⟨A.1 40 0, h21, by omega, by rw [if_pos rfl, z]⟩
    · rw [upd_ne z] at hs
      rcases h5 v hv hs with ⟨d, d1, d2, d3⟩ | q
      · exact Or.inl ⟨d, d1, by omega, by rw [if_neg (by omega)]; exact d3⟩
      · exact Or.inr q
  · split
    · rfl
    · exact h6 d d1 (by omega)
/-- a new item -/
theorem Wr.addI {x m : Nat} (h : Wr wd A (A.1 41 0) nw c) (hx : wd x < nw) (hnw : nw ≤ 19830) (hno : dHere wd A x = none) (h22 : A.1 22 (A.1 46 0) ≤ A.1 41 0) (h21 : A.1 21 (A.1 46 0) ≤ A.1 40 0) (hni : ∀ i, A.1 22 (A.1 46 0) ≤ i → i < A.1 41 0 → wd (A.1 11 i) ≠ wd x) :
    ∃ c', fn_Checker_mean_Ch N (nI (wd x)) (-2) c = some ((), c') ∧ Wr wd (dIt A m x) (A.1 41 0 + 1) nw c' ∧ Eb [235, 236] [] c c' := by
  obtain ⟨h1, h2, h3, h4, h5, h6⟩ := h
  unfold fn_Checker_mean_Ch
  rw [if_neg (nI_pos (by omega)), if_pos (show nI (wd x) < 19830 from nI_lt (b := 19830) (by omega) (by decide)), if_neg (nI_in (show wd x < 19830 by omega) (by decide)), if_neg (nI_in (show wd x < 19830 by omega) (by decide)), if_pos (by decide), nI_clamp (by omega), h1]
  refine ⟨_, rfl, ?_, (Eb.rfl.upI (by decide)).upI (by decide)⟩
  have no : ∀ d, A.1 21 (A.1 46 0) ≤ d → d < A.1 40 0 → wd (A.1 0 d) ≠ wd x := fun d d1 d2 z => by
    have := fnd_none hno d d1 (by omega)
    rw [decide_eq_true z] at this
    cases this
  unfold Wr dIt
  simp only [tu1, tu2, uu1, uu2, uu3, vu1, vu2, vu3, su1, su2, Nat.reduceEqDiff, false_and, true_and, reduceIte, Bool.false_eq_true, if_true, if_false]
  show c.1 232 0 = _ ∧ (∀ w, w < nw → (∃ j, j ≤ A.1 46 0 ∧ upd (c.1 236) (wd x) (nI (A.1 46 0)) w = nI j) ∨ upd (c.1 236) (wd x) (nI (A.1 46 0)) w = -1) ∧ (∀ d, A.1 21 (A.1 46 0) ≤ d → d < A.1 40 0 → upd (c.1 236) (wd x) (nI (A.1 46 0)) (wd (A.1 0 d)) = nI (A.1 46 0) ∧ upd (c.1 235) (wd x) (-2) (wd (A.1 0 d)) = nI d) ∧ (∀ i, A.1 22 (A.1 46 0) ≤ i → i < A.1 41 0 + 1 → upd (c.1 236) (wd x) (nI (A.1 46 0)) (wd (if i = A.1 41 0 then x else A.1 11 i)) = nI (A.1 46 0) ∧ upd (c.1 235) (wd x) (-2) (wd (if i = A.1 41 0 then x else A.1 11 i)) = -2) ∧ (∀ w, w < nw → upd (c.1 236) (wd x) (nI (A.1 46 0)) w = nI (A.1 46 0) → (∃ d, A.1 21 (A.1 46 0) ≤ d ∧ d < A.1 40 0 ∧ wd (A.1 0 d) = w) ∨ (∃ i, A.1 22 (A.1 46 0) ≤ i ∧ i < A.1 41 0 + 1 ∧ wd (if i = A.1 41 0 then x else A.1 11 i) = w)) ∧ (∀ d, A.1 21 (A.1 46 0) ≤ d → d < A.1 40 0 → A.1 35 d = A.1 21 (A.1 46 0))
  refine ⟨h1, fun v hv => ?_, fun d d1 d2 => ?_, fun i i1 i2 => ?_, fun v hv hs => ?_, h6⟩
  · by_cases z : v = wd x
    · rw [z, upd_at]; exact Or.inl ⟨_, Nat.le_refl _, rfl⟩
    · rw [upd_ne z]; exact h2 v hv
  · rw [upd_ne (no d d1 d2), upd_ne (no d d1 d2)]; exact h3 d d1 d2
  · by_cases z : i = A.1 41 0
    · rw [if_pos z, upd_at, upd_at]; exact ⟨rfl, rfl⟩
    · rw [if_neg z, upd_ne (hni i i1 (by omega)), upd_ne (hni i i1 (by omega))]; exact h4 i i1 (by omega)
  · by_cases z : v = wd x
    · exact Or.inr ⟨A.1 41 0, h22, by omega, by rw [if_pos rfl, z]⟩
    · rw [upd_ne z] at hs
      rcases h5 v hv hs with q | ⟨i, i1, i2, i3⟩
      · exact Or.inl q
      · exact Or.inr ⟨i, i1, by omega, by rw [if_neg (by omega)]; exact i3⟩
theorem moduleOf_C {M x : Nat} (h : Wm wd A M nw c) (hx : wd x < nw) (hnw : nw ≤ 19830) : ∃ y, fn_Checker_moduleOf_Ch N (nI (wd x)) c = some (y, c) ∧ ((y = -1 ∧ ∀ m, m < M → wd (A.1 20 m) ≠ wd x) ∨ ∃ m, m < M ∧ y = nI m ∧ wd (A.1 20 m) = wd x) := by
  unfold fn_Checker_moduleOf_Ch
  rw [if_neg (nI_pos (by omega)), if_neg (show ¬ (19830 : Int32) ≤ nI (wd x) from nI_ge (b := 19830) (by omega) (by omega)), if_neg (nI_in (show wd x < 19830 by omega) (by decide)), nI_clamp (by omega)]
  refine ⟨_, rfl, ?_⟩
  rcases h.2 (wd x) hx with q | ⟨m, m1, m2, m3⟩
  · by_cases z : ∃ m, m < M ∧ wd (A.1 20 m) = wd x
    · obtain ⟨m, m1, m2⟩ := z
      right
      exact ⟨m, m1, by rw [← m2]; exact h.1 m m1, m2⟩
    · exact Or.inl ⟨q, fun m m1 m2 => z ⟨m, m1, m2⟩⟩
  · exact Or.inr ⟨m, m1, m2, m3⟩
/-- names, whatever has become of them -/
def NO (nw : Nat) (c : ms) : Prop := ∃ fd dc, c.1 233 0 = nI fd ∧ c.1 321 0 = nI dc ∧ dc < 10923 ∧ ∀ w, w < nw → c.1 236 w = c.1 232 0 → ¬ 0 ≤ c.1 235 w ∨ ∃ d v, c.1 235 w = nI d ∧ fd ≤ d ∧ d < dc ∧ c.1 323 d = nI v ∧ 1 ≤ v ∧ v ≤ 64
theorem NO.keep {ks js : List Nat} (h : NO nw c) (e : Eb ks js c c') (hk : [232, 233, 235, 236, 321, 323].all (fun k => !ks.contains k) = true) : NO nw c' := by
  have n : ∀ k, k ∈ [232, 233, 235, 236, 321, 323] → k ∉ ks := fun k hk2 z => by
    have := List.all_eq_true.mp hk k hk2
    rw [List.contains_iff_mem.mpr z] at this
    cases this
  unfold NO at *
  rw [e.1 232 (n 232 (by decide)), e.1 233 (n 233 (by decide)), e.1 235 (n 235 (by decide)), e.1 236 (n 236 (by decide)), e.1 321 (n 321 (by decide)), e.1 323 (n 323 (by decide))]
  exact h
/-- a fault of the meaning, and the names -/
def OffN (nw : Nat) (c : ms) (f p : Nat) : Prop := Off c f p ∧ NO nw c
theorem OffN.off {f p : Nat} (h : OffN nw c f p) : OffC c := h.1.off
theorem OffN.mono {f p : Nat} {ks js : List Nat} (h : OffN nw c f p) (e : Eb ks js c c') (hk : [232, 233, 235, 236, 242, 243, 321, 323].all (fun k => !ks.contains k) = true) : OffN nw c' f p := by
  have n : ∀ k, k ∈ [232, 233, 235, 236, 242, 243, 321, 323] → k ∉ ks := fun k hk2 z => by
    have := List.all_eq_true.mp hk k hk2
    rw [List.contains_iff_mem.mpr z] at this
    cases this
  refine ⟨h.1.mono e (n 242 (by decide)) (n 243 (by decide)), ?_⟩
  have h2 := h.2
  unfold NO at *
  rw [e.1 232 (n 232 (by decide)), e.1 233 (n 233 (by decide)), e.1 235 (n 235 (by decide)), e.1 236 (n 236 (by decide)), e.1 321 (n 321 (by decide)), e.1 323 (n 323 (by decide))]
  exact h2
end CWRD
