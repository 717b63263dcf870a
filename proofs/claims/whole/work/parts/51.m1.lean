/-! The reference's first pass is the grammar. -/
section MONE
variable {tk pl : Nat → Nat} {nt : Nat}
/-- the kinds that tokens have -/
def vk (k : Nat) : Bool := csign k || decide (256 ≤ k ∧ k ≤ 263) || decide (300 ≤ k ∧ k ≤ 317) || decide (400 ≤ k ∧ k ≤ 404)
/-- the row of tokens: it ends with 403 or 404 -/
def Tv (tk pl : Nat → Nat) (nt : Nat) : Prop := 0 < nt ∧ nt ≤ 12001 ∧ (∀ i, i < nt → vk (tk i) = true ∧ pl i ≤ 12000) ∧ (tk (nt - 1) = 403 ∨ tk (nt - 1) = 404) ∧ ∀ i, i + 1 < nt → tk i ≠ 403 ∧ tk i ≠ 404
theorem vk_lt {k : Nat} (h : vk k = true) : k < 405 := by
  simp only [vk, Bool.or_eq_true, decide_eq_true_eq] at h
  rcases h with ((h | h) | h) | h
  · have := csign_lt h; omega
  · omega
  · omega
  · omega
theorem Tv.lt {i : Nat} (h : Tv tk pl nt) (hi : i < nt) : tk i < 405 := vk_lt (h.2.2.1 i hi).1
theorem Tv.more {i k : Nat} (h : Tv tk pl nt) (hi : i < nt) (hk : tk i = k) (h3 : k ≠ 403) (h4 : k ≠ 404) : i + 1 < nt := by
  by_cases c : i + 1 < nt
  · exact c
  · have : i = nt - 1 := by omega
    rcases h.2.2.2.1 with z | z <;> rw [← this, hk] at z <;> omega
def MT (tk pl : Nat → Nat) (nt : Nat) (s : ms) : Prop := ∀ i, i < nt → s.1 4 i = nI (tk i) ∧ s.1 5 i = nI (pl i)
/-- the reference's state in its first pass -/
def M1 (tk pl : Nat → Nat) (nt : Nat) (s : ms) (σ : gs) : Prop := MT tk pl nt s ∧ s.1 8 0 = nI σ.1 ∧ σ.1 < nt ∧ s.1 9 0 = nI σ.2.2.1 ∧ σ.2.2.1 < 4 ∧ (σ.2.2.1 = 0 → s.1 11 0 = nI σ.2.1 ∧ σ.2.1 ≤ 60) ∧ (σ.2.2.1 ≠ 0 → s.1 10 0 = nI σ.2.2.2)
def Sgo (tk pl : Nat → Nat) (nt : Nat) (s0 : ms) (o : Option (Unit × ms)) (r : Option gs) : Prop := ∀ σ', r = some σ' → ∃ s', o = some ((), s') ∧ M1 tk pl nt s' σ' ∧ Eb [8, 9, 10, 11] [] s0 s'
theorem Sgo.ret {s0 s : ms} {σ : gs} (h : M1 tk pl nt s σ) (e : Eb [8, 9, 10, 11] [] s0 s) : Sgo tk pl nt s0 (some ((), s)) (some σ) := fun σ' q => by cases q; exact ⟨s, rfl, h, e⟩
theorem Sgo.no {s0 : ms} {o : Option (Unit × ms)} : Sgo tk pl nt s0 o none := fun σ' q => by cases q
theorem MT.mono {s t : ms} (h : MT tk pl nt s) (e : Eb [8, 9, 10, 11] [] s t) : MT tk pl nt t := fun i hi => by rw [e.1 4 (by decide), e.1 5 (by decide)]; exact h i hi
theorem is_1 {N : Nat} {s : ms} {σ : gs} (T : Tv tk pl nt) (k : Nat) (hk : k < 1000) (h : M1 tk pl nt s σ) : fn_M_is N (nI k) s = some (b01 (gIs tk k σ), s) := by
  obtain ⟨h1, h2, h3, h4, h4b, h5, h6⟩ := h
  have l1 := T.2.1
  have l2 := T.lt h3
  have l3 := (h1 _ h3).1
  unfold fn_M_is gIs
  by_cases c : σ.2.2.1 = 0
  · by_cases d : tk σ.1 = k
    · simp (disch := omega) only [h4, h2, l3, c, d, lit_nI, gdF, gdG, gdH, nltT, nltF, nleT, nleF, neqT, neqF, nm1F, nm1F', m1lt, m1gt, m1le, m1ge, nI_clamp, nI_add, nI_sub, obind, if_true, if_false, reduceIte, ite_true, ite_false]; simp [b01]; rfl
    · simp (disch := omega) only [h4, h2, l3, c, d, lit_nI, gdF, gdG, gdH, nltT, nltF, nleT, nleF, neqT, neqF, nm1F, nm1F', m1lt, m1gt, m1le, m1ge, nI_clamp, nI_add, nI_sub, obind, if_true, if_false, reduceIte, ite_true, ite_false]; simp [b01]; rfl
  · simp (disch := omega) only [h4, h2, l3, c, lit_nI, gdF, gdG, gdH, nltT, nltF, nleT, nleF, neqT, neqF, nm1F, nm1F', m1lt, m1gt, m1le, m1ge, nI_clamp, nI_add, nI_sub, obind, if_true, if_false, reduceIte, ite_true, ite_false]; simp [b01]; rfl
theorem no_1 {N : Nat} {s : ms} {σ : gs} (T : Tv tk pl nt) (h : M1 tk pl nt s σ) : ∃ s', fn_M_no N s = some ((), s') ∧ M1 tk pl nt s' (gNo tk pl σ) ∧ Eb [8, 9, 10, 11] [] s s' := by
  obtain ⟨h1, h2, h3, h4, h4b, h5, h6⟩ := id h
  have l1 := T.2.1
  have l2 := T.lt h3
  have l3 := h1 _ h3
  unfold fn_M_no bk_M_no_21 fn_M_fail gNo
  by_cases c : σ.2.2.1 = 0
  · by_cases d : tk σ.1 = 404
    · simp (disch := omega) only [h4, h2, l3.1, l3.2, c, d, lit_nI, gdF, gdG, gdH, nltT, nltF, nleT, nleF, neqT, neqF, nm1F, nm1F', m1lt, m1gt, m1le, m1ge, nI_clamp, nI_add, nI_sub, obind, if_true, if_false, reduceIte, ite_true, ite_false]
      exact ⟨_, rfl, ⟨fun i hi => h1 i hi, h2, h3, rfl, Nat.lt_of_sub_eq_succ rfl, fun z => by simp at z, fun _ => rfl⟩, (Eb.rfl.upI (by decide)).upI (by decide)⟩
    · simp (disch := omega) only [h4, h2, l3.1, l3.2, c, d, lit_nI, gdF, gdG, gdH, nltT, nltF, nleT, nleF, neqT, neqF, nm1F, nm1F', m1lt, m1gt, m1le, m1ge, nI_clamp, nI_add, nI_sub, obind, if_true, if_false, reduceIte, ite_true, ite_false]
      exact ⟨_, rfl, ⟨fun i hi => h1 i hi, h2, h3, rfl, Nat.lt_of_sub_eq_succ rfl, fun z => by simp at z, fun _ => rfl⟩, (Eb.rfl.upI (by decide)).upI (by decide)⟩
  · by_cases d : tk σ.1 = 404
    · simp (disch := omega) only [h4, h2, l3.1, l3.2, c, d, lit_nI, gdF, gdG, gdH, nltT, nltF, nleT, nleF, neqT, neqF, nm1F, nm1F', m1lt, m1gt, m1le, m1ge, nI_clamp, nI_add, nI_sub, obind, if_true, if_false, reduceIte, ite_true, ite_false]
      exact ⟨_, rfl, h, Eb.rfl⟩
    · simp (disch := omega) only [h4, h2, l3.1, l3.2, c, d, lit_nI, gdF, gdG, gdH, nltT, nltF, nleT, nleF, neqT, neqF, nm1F, nm1F', m1lt, m1gt, m1le, m1ge, nI_clamp, nI_add, nI_sub, obind, if_true, if_false, reduceIte, ite_true, ite_false]
      exact ⟨_, rfl, h, Eb.rfl⟩
theorem inc_1 {s : ms} {σ : gs} {k : Nat} (T : Tv tk pl nt) (h : M1 tk pl nt s σ) (hk : gIs tk k σ = true) (h3 : k ≠ 403) (h4 : k ≠ 404) : M1 tk pl nt (upI s 8 (fun _ => s.1 8 0 + 1)) (gInc σ) := by
  simp only [gIs, decide_eq_true_eq] at hk
  obtain ⟨g1, g2, g3, g4, g5, g6, g7⟩ := h
  refine ⟨fun i hi => g1 i hi, ?_, T.more g3 hk.2 h3 h4, g4, g5, g6, fun z => absurd hk.1 z⟩
  show s.1 8 0 + 1 = nI (σ.1 + 1)
  rw [g2, nI_1]
theorem take_1 {N : Nat} {s : ms} {σ : gs} (T : Tv tk pl nt) (k : Nat) (hk : k < 1000) (h3 : k ≠ 403) (h4 : k ≠ 404) (h : M1 tk pl nt s σ) : ∃ s', fn_M_take N (nI k) s = some ((), s') ∧ M1 tk pl nt s' (gTake tk pl k σ) ∧ Eb [8, 9, 10, 11] [] s s' := by
  obtain ⟨g1, g2, g3, g4, g5, g6, g7⟩ := id h
  have l1 := T.2.1
  have l2 := T.lt g3
  have l3 := (g1 _ g3).1
  obtain ⟨s', n1, n2, n3⟩ := no_1 (N := N) T h
  unfold fn_M_take gTake bk_M_take_33
  cases c : gIs tk k σ
  · rw [n1, obind, if_neg (show ¬ (false = true) by decide)]
    by_cases d : σ.2.2.1 = 0
    · have d2 : tk σ.1 ≠ k := fun z => by simp [gIs, d, z] at c
      simp (disch := omega) only [g4, g2, l3, d, lit_nI, gdF, gdG, gdH, nltT, nltF, nleT, nleF, neqT, neqF, nm1F, nm1F', m1lt, m1gt, m1le, m1ge, nI_clamp, nI_add, nI_sub, obind, if_true, if_false, reduceIte, ite_true, ite_false]
      exact ⟨s', rfl, n2, n3⟩
    · simp (disch := omega) only [g4, d, lit_nI, gdF, gdG, gdH, nltT, nltF, nleT, nleF, neqT, neqF, nm1F, nm1F', m1lt, m1gt, m1le, m1ge, nI_clamp, nI_add, nI_sub, obind, if_true, if_false, reduceIte, ite_true, ite_false]
      exact ⟨s', rfl, n2, n3⟩
  · have d := c
    simp only [gIs, decide_eq_true_eq] at d
    have := inc_1 T h c h3 h4
    rw [g2] at this
    have e9 : s.1 9 0 = nI 0 := by rw [g4, d.1]
    have d2 := d.2
    simp (disch := omega) only [e9, g2, l3, lit_nI, gdF, gdG, gdH, nltT, nltF, nleT, nleF, neqT, neqF, nm1F, nm1F', m1lt, m1gt, m1le, m1ge, nI_clamp, nI_add, nI_sub, obind, if_true, if_false, reduceIte, ite_true, ite_false]
    exact ⟨_, rfl, by rw [nI_1] at this; exact this, Eb.rfl.upI (by decide)⟩
theorem open_1 {N : Nat} {s : ms} {σ : gs} (T : Tv tk pl nt) (k : Nat) (hk : k < 1000) (h3 : k ≠ 403) (h4 : k ≠ 404) (h : M1 tk pl nt s σ) : ∃ s', fn_M_open N (nI k) s = some ((), s') ∧ M1 tk pl nt s' (gOpen tk pl k σ) ∧ Eb [8, 9, 10, 11] [] s s' := by
  obtain ⟨g1, g2, g3, g4, g5, g6, g7⟩ := id h
  have l1 := T.2.1
  have l2 := T.lt g3
  obtain ⟨s', n1, n2, n3⟩ := take_1 (N := N) T k hk h3 h4 h
  unfold fn_M_open bk_M_open_41
  rw [is_1 T k hk h, obind]
  cases c : gIs tk k σ
  · rw [if_pos (show b01 false = 0 from rfl), n1, obind]
    refine ⟨s', rfl, ?_, n3⟩
    unfold gOpen
    rw [c, if_neg (show ¬ (false = true) by decide)]
    unfold gTake at n2
    rw [c, if_neg (show ¬ (false = true) by decide)] at n2
    exact n2
  · rw [if_neg (show ¬ b01 true = 0 by decide)]
    have d := c
    simp only [gIs, decide_eq_true_eq] at d
    obtain ⟨e1, e2⟩ := g6 d.1
    have l3 := (g1 _ g3).2
    have e9 : s.1 9 0 = nI 0 := by rw [g4, d.1]
    unfold gOpen
    rw [c, if_pos rfl]
    by_cases z : 60 ≤ σ.2.1
    · unfold fn_M_fail
      have hM : M1 tk pl nt (upI (upI (upI s 11 (fun _ => nI (σ.2.1 + 1))) 9 (fun _ => nI 3)) 10 (fun _ => nI (pl σ.1))) (σ.1, σ.2.1, 3, pl σ.1) := ⟨fun i hi => g1 i hi, g2, g3, rfl, Nat.lt_of_sub_eq_succ rfl, fun z => by simp at z, fun _ => rfl⟩
      obtain ⟨s2, m1, m2, m3⟩ := take_1 (N := N) T k hk h3 h4 hM
      simp (disch := omega) only [e1, g2, l3, up1, e9, Nat.reduceEqDiff, z, m1, lit_nI, gdF, gdG, gdH, nltT, nltF, nleT, nleF, neqT, neqF, nm1F, nm1F', m1lt, m1gt, m1le, m1ge, nI_clamp, nI_add, nI_sub, obind, if_true, if_false, reduceIte, ite_true, ite_false]
      refine ⟨s2, rfl, ?_, (((Eb.rfl.upI (by decide)).upI (by decide)).upI (by decide)).trans m3⟩
      unfold gTake gIs gNo at m2
      simpa using m2
    · have hM : M1 tk pl nt (upI s 11 (fun _ => nI (σ.2.1 + 1))) (σ.1, σ.2.1 + 1, σ.2.2) := ⟨fun i hi => g1 i hi, g2, g3, g4, g5, fun _ => ⟨rfl, by show σ.2.1 + 1 ≤ 60; omega⟩, fun z => absurd d.1 z⟩
      obtain ⟨s2, m1, m2, m3⟩ := take_1 (N := N) T k hk h3 h4 hM
      simp (disch := omega) only [e1, m1, z, lit_nI, gdF, gdG, gdH, nltT, nltF, nleT, nleF, neqT, neqF, nm1F, nm1F', m1lt, m1gt, m1le, m1ge, nI_clamp, nI_add, nI_sub, obind, if_true, if_false, reduceIte, ite_true, ite_false]
      refine ⟨s2, rfl, ?_, (Eb.rfl.upI (by decide)).trans m3⟩
      unfold gTake at m2
      have c2 : gIs tk k (σ.1, σ.2.1 + 1, σ.2.2) = true := by simp [gIs, d]
      rw [c2, if_pos rfl] at m2
      exact m2
theorem dn_1 {s : ms} {σ σ' : gs} (h : M1 tk pl nt s σ) (hd : gDn σ = some σ') : M1 tk pl nt (upI s 11 (fun _ => s.1 11 0 - 1)) σ' := by
  obtain ⟨g1, g2, g3, g4, g5, g6, g7⟩ := id h
  unfold gDn at hd
  by_cases c : σ.2.2.1 = 0
  · rw [if_pos c] at hd
    by_cases d : σ.2.1 = 0
    · rw [if_pos d] at hd; cases hd
    · rw [if_neg d] at hd
      cases hd
      obtain ⟨e1, e2⟩ := g6 c
      refine ⟨fun i hi => g1 i hi, g2, g3, g4, g5, fun _ => ⟨?_, by show σ.2.1 - 1 ≤ 60; omega⟩, fun z => absurd c z⟩
      show s.1 11 0 - 1 = nI (σ.2.1 - 1)
      rw [e1, show (1 : Int32) = nI 1 from rfl, nI_sub (by omega)]
  · rw [if_neg c] at hd
    cases hd
    exact ⟨fun i hi => g1 i hi, g2, g3, g4, g5, fun z => absurd z c, g7⟩
/-! how functions of the reference and of the grammar are held against each other -/
abbrev E1 (s t : ms) : Prop := Eb [8, 9, 10, 11] [] s t
def Sm (tk pl : Nat → Nat) (nt : Nat) (F : ms → Option (Unit × ms)) (G : gs → Option gs) : Prop := ∀ s σ, M1 tk pl nt s σ → Sgo tk pl nt s (F s) (G σ)
theorem Sgo.take {N : Nat} {s0 s : ms} {σ : gs} {K : Unit × ms → Option (Unit × ms)} {r : Option gs} (T : Tv tk pl nt) (k : Nat) (hk : k < 1000 ∧ k ≠ 403 ∧ k ≠ 404) (h : M1 tk pl nt s σ) (e : E1 s0 s) (hK : ∀ s1, M1 tk pl nt s1 (gTake tk pl k σ) → E1 s0 s1 → Sgo tk pl nt s0 (K ((), s1)) r) : Sgo tk pl nt s0 ((fn_M_take N (nI k) s).bind K) r := by
  obtain ⟨s1, a, b, c⟩ := take_1 (N := N) T k hk.1 hk.2.1 hk.2.2 h
  rw [a, obind]
  exact hK s1 b (e.trans c)
theorem Sgo.opn {N : Nat} {s0 s : ms} {σ : gs} {K : Unit × ms → Option (Unit × ms)} {r : Option gs} (T : Tv tk pl nt) (k : Nat) (hk : k < 1000 ∧ k ≠ 403 ∧ k ≠ 404) (h : M1 tk pl nt s σ) (e : E1 s0 s) (hK : ∀ s1, M1 tk pl nt s1 (gOpen tk pl k σ) → E1 s0 s1 → Sgo tk pl nt s0 (K ((), s1)) r) : Sgo tk pl nt s0 ((fn_M_open N (nI k) s).bind K) r := by
  obtain ⟨s1, a, b, c⟩ := open_1 (N := N) T k hk.1 hk.2.1 hk.2.2 h
  rw [a, obind]
  exact hK s1 b (e.trans c)
theorem Sgo.no1 {N : Nat} {s0 s : ms} {σ : gs} {K : Unit × ms → Option (Unit × ms)} {r : Option gs} (T : Tv tk pl nt) (h : M1 tk pl nt s σ) (e : E1 s0 s) (hK : ∀ s1, M1 tk pl nt s1 (gNo tk pl σ) → E1 s0 s1 → Sgo tk pl nt s0 (K ((), s1)) r) : Sgo tk pl nt s0 ((fn_M_no N s).bind K) r := by
  obtain ⟨s1, a, b, c⟩ := no_1 (N := N) T h
  rw [a, obind]
  exact hK s1 b (e.trans c)
theorem Sgo.dn {s0 s : ms} {σ : gs} (h : M1 tk pl nt s σ) (e : E1 s0 s) : Sgo tk pl nt s0 (some ((), upI s 11 (fun _ => s.1 11 0 - 1))) (gDn σ) := fun σ' hs => ⟨_, rfl, dn_1 h hs, e.upI (by decide)⟩
theorem Sgo.shut {N : Nat} {s0 s : ms} {σ : gs} {K : Unit × ms → Option (Unit × ms)} {r : gs → Option gs} (T : Tv tk pl nt) (k : Nat) (hk : k < 1000 ∧ k ≠ 403 ∧ k ≠ 404) (h : M1 tk pl nt s σ) (e : E1 s0 s) (hK : ∀ s1 σ1, M1 tk pl nt s1 σ1 → E1 s0 s1 → Sgo tk pl nt s0 (K ((), s1)) (r σ1)) : Sgo tk pl nt s0 ((fn_M_shut N (nI k) s).bind K) ((gShut tk pl k σ).bind r) := by
  obtain ⟨s1, a, b, c⟩ := take_1 (N := N) T k hk.1 hk.2.1 hk.2.2 h
  unfold fn_M_shut
  rw [a, obind, obind]
  unfold gShut
  intro σ' hs
  cases d : gDn (gTake tk pl k σ) with
  | none => rw [d] at hs; cases hs
  | some σ1 =>
    rw [d] at hs
    exact hK _ σ1 (dn_1 b d) ((e.trans c).upI (by decide)) σ' hs
theorem Sgo.shut0 {N : Nat} {s0 s : ms} {σ : gs} (T : Tv tk pl nt) (k : Nat) (hk : k < 1000 ∧ k ≠ 403 ∧ k ≠ 404) (h : M1 tk pl nt s σ) (e : E1 s0 s) : Sgo tk pl nt s0 ((fn_M_shut N (nI k) s).bind (fun q => some ((), q.2))) (gShut tk pl k σ) := by
  have := Sgo.shut (N := N) (K := fun q => some ((), q.2)) (r := some) T k hk h e (fun s1 σ1 h1 h2 => Sgo.ret h1 h2)
  cases d : gShut tk pl k σ with
  | none => exact Sgo.no
  | some x => rw [d] at this; exact this
theorem Sgo.is {N : Nat} {s0 s : ms} {σ : gs} {A B : Int32 × ms → Option (Unit × ms)} {x y : Option gs} (T : Tv tk pl nt) (k : Nat) (hk : k < 1000) (h : M1 tk pl nt s σ) (h0 : gIs tk k σ = false → Sgo tk pl nt s0 (A (0, s)) y) (h1 : gIs tk k σ = true → Sgo tk pl nt s0 (B (1, s)) x) : Sgo tk pl nt s0 ((fn_M_is N (nI k) s).bind (fun q => if q.1 = 0 then A q else B q)) (if gIs tk k σ then x else y) := by
  rw [is_1 T k hk h, obind]
  cases c : gIs tk k σ
  · rw [if_pos (show b01 false = 0 from rfl), if_neg (show ¬ (false = true) by decide)]; exact h0 c
  · rw [if_neg (show ¬ b01 true = 0 by decide), if_pos rfl]; exact h1 c
theorem Sgo.isR {N : Nat} {s0 s : ms} {σ : gs} {A B : Int32 × ms → Option (Unit × ms)} {r : Option gs} (T : Tv tk pl nt) (k : Nat) (hk : k < 1000) (h : M1 tk pl nt s σ) (h0 : gIs tk k σ = false → Sgo tk pl nt s0 (A (0, s)) r) (h1 : gIs tk k σ = true → Sgo tk pl nt s0 (B (1, s)) r) : Sgo tk pl nt s0 ((fn_M_is N (nI k) s).bind (fun q => if q.1 = 0 then A q else B q)) r := by
  rw [is_1 T k hk h, obind]
  cases c : gIs tk k σ
  · rw [if_pos (show b01 false = 0 from rfl)]; exact h0 c
  · rw [if_neg (show ¬ b01 true = 0 by decide)]; exact h1 c
theorem Sgo.call {F : ms → Option (Unit × ms)} {G r : gs → Option gs} {s0 s : ms} {σ : gs} {K : Unit × ms → Option (Unit × ms)} (hF : Sm tk pl nt F G) (h : M1 tk pl nt s σ) (e : E1 s0 s) (hK : ∀ s1 σ1, M1 tk pl nt s1 σ1 → E1 s0 s1 → Sgo tk pl nt s0 (K ((), s1)) (r σ1)) : Sgo tk pl nt s0 ((F s).bind K) ((G σ).bind r) := by
  intro σ' hs
  cases d : G σ with
  | none => rw [d] at hs; cases hs
  | some σ1 =>
    rw [d] at hs
    obtain ⟨s1, a, b, c⟩ := hF s σ h σ1 d
    rw [a, obind]
    exact hK s1 σ1 b (e.trans c) σ' hs
theorem Sgo.tail {F : ms → Option (Unit × ms)} {G : gs → Option gs} {s0 s : ms} {σ : gs} (hF : Sm tk pl nt F G) (h : M1 tk pl nt s σ) (e : E1 s0 s) : Sgo tk pl nt s0 (F s) (G σ) := by
  intro σ' hs
  obtain ⟨s1, a, b, c⟩ := hF s σ h σ' hs
  exact ⟨s1, a, b, e.trans c⟩
theorem Sgo.tail0 {F : ms → Option (Unit × ms)} {G : gs → Option gs} {s0 s : ms} {σ : gs} (hF : Sm tk pl nt F G) (h : M1 tk pl nt s σ) (e : E1 s0 s) : Sgo tk pl nt s0 ((F s).bind (fun q => some ((), q.2))) (G σ) := by
  intro σ' hs
  obtain ⟨s1, a, b, c⟩ := hF s σ h σ' hs
  exact ⟨s1, by rw [a, obind], b, e.trans c⟩
theorem part_1 {N : Nat} (T : Tv tk pl nt) : Sm tk pl nt (fn_M_partGrammar N) (fun σ => some (gPart tk pl σ)) := by
  intro s σ h
  unfold fn_M_partGrammar gPart
  refine Sgo.take T 401 (by decide) h Eb.rfl (fun s1 h1 e1 => ?_)
  refine Sgo.isR T 58 (by decide) h1 (fun c => ?_) (fun c => ?_)
  · simp only [c]; exact Sgo.ret h1 e1
  · simp only [c]; exact Sgo.take T 401 (by decide) (inc_1 T h1 c (by decide) (by decide)) (e1.upI (by decide)) (fun s2 h2 e2 => Sgo.ret h2 e2)
end MONE
