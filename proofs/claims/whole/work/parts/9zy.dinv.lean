/-! Designs: how modules, items, links and pieces hang together. -/
/-- the end of a module's part; of an item's links -/
def en (A : ds) (k c m : Nat) : Nat := if m < A.1 46 0 then A.1 k (m + 1) else A.1 c 0
def le1 (A : ds) (i : Nat) : Nat := if i < A.1 41 0 then A.1 12 (i + 1) else A.1 42 0
/-- the names of a module -/
def nmM (A : ds) (m i : Nat) : Option (Nat × Nat) := if i < A.1 40 0 ∧ A.1 8 i = m then some (i, A.1 1 i) else none
def XG (A : ds) (m : Nat) (L : List aop) (w : Nat) : Prop := Ty (nmM A m) L [] [w] ∧ Hk 900 L 0 1
def Nv (A : ds) : Prop := ∀ d, d < A.1 40 0 → A.1 8 d ≤ A.1 46 0 ∧ A.1 35 d = A.1 21 (A.1 8 d) ∧ A.1 21 (A.1 8 d) ≤ d ∧ d < en A 21 40 (A.1 8 d) ∧ A.1 4 d ≤ 2 ∧ (A.1 4 d ≠ 0 → A.1 2 d = 1 ∨ A.1 2 d = 3) ∧ (A.1 8 d < A.1 46 0 → A.1 2 d = 1 ∨ A.1 2 d = 3 → A.1 4 d ≠ 0) ∧ (A.1 4 d = 1 → XG A (A.1 8 d) (A.2.1 0 d) (A.1 1 d)) ∧ (A.1 4 d = 2 → ∃ k, k < A.1 42 0 ∧ A.1 14 k = d + 1 ∧ A.1 18 k = A.1 6 d ∧ A.1 13 k = A.1 7 d)
def Iv (A : ds) : Prop := ∀ i, i < A.1 41 0 → A.1 9 i ≤ A.1 46 0 ∧ A.1 10 i < A.1 9 i ∧ A.1 22 (A.1 9 i) ≤ i ∧ i < en A 22 41 (A.1 9 i) ∧ ∀ d, A.1 21 (A.1 10 i) ≤ d → d < A.1 21 (A.1 10 i + 1) → A.1 2 d ≤ 2 → ∃ k, k < A.1 42 0 ∧ A.1 18 k = i ∧ A.1 13 k = d
def Lv (A : ds) : Prop := ∀ k, k < A.1 42 0 → A.1 18 k ≤ A.1 41 0 ∧ A.1 12 (A.1 18 k) ≤ k ∧ k < le1 A (A.1 18 k) ∧ A.1 9 (A.1 18 k) ≤ A.1 46 0 ∧ A.1 10 (A.1 18 k) < A.1 9 (A.1 18 k) ∧ A.1 36 k = A.1 21 (A.1 9 (A.1 18 k)) ∧ A.1 37 k = A.1 21 (A.1 10 (A.1 18 k)) ∧ A.1 37 k ≤ A.1 13 k ∧ A.1 13 k < A.1 21 (A.1 10 (A.1 18 k) + 1) ∧ A.1 13 k < A.1 40 0 ∧ A.1 2 (A.1 13 k) ≤ 2 ∧ (A.1 14 k = 0 ↔ A.1 2 (A.1 13 k) = 0) ∧ (A.1 14 k = 0 → XG A (A.1 9 (A.1 18 k)) (A.2.1 1 k) (A.1 1 (A.1 13 k))) ∧ (∀ s, A.1 14 k = s + 1 → s < A.1 40 0 ∧ A.1 8 s = A.1 9 (A.1 18 k) ∧ A.1 4 s = 2 ∧ A.1 6 s = A.1 18 k ∧ A.1 7 s = A.1 13 k ∧ A.1 1 s = A.1 1 (A.1 13 k)) ∧ ∀ k', k' < A.1 42 0 → A.1 18 k' = A.1 18 k → A.1 13 k' = A.1 13 k → k' = k
def Sv (A : ds) : Prop := ∀ a, a < A.1 43 0 → A.1 19 a ≤ A.1 46 0 ∧ A.1 23 (A.1 19 a) ≤ a ∧ a < en A 23 43 (A.1 19 a) ∧ A.1 38 a = A.1 21 (A.1 19 a) ∧ ∃ w, XG A (A.1 19 a) (A.2.1 2 a) w
/-- registers of an always -/
def rgA (A : ds) (a d : Nat) : Prop := A.1 34 a ≤ d ∧ d < A.1 33 a ∧ (A.1 2 d = 2 ∨ A.1 2 d = 4)
def nmA (A : ds) (a i : Nat) : Option (Nat × Nat) := if A.1 34 a ≤ i ∧ i < A.1 33 a then some (i, A.1 1 i) else none
/-- nothing done; and each name by itself -/
def D0 (x : Nat) (D : DT) : Prop := (x = 0 → ∀ v n, D v n = n) ∧ ∀ v n n' d, n d = n' d → D v n d = D v n' d
def Wv (A : ds) : Prop := ∀ a, a < A.1 44 0 → A.1 32 a ≤ A.1 46 0 ∧ A.1 24 (A.1 32 a) ≤ a ∧ a < en A 24 44 (A.1 32 a) ∧ A.1 34 a = A.1 21 (A.1 32 a) ∧ A.1 33 a ≤ en A 21 40 (A.1 32 a) ∧ A.1 33 a ≤ A.1 40 0 ∧ A.1 17 a ≤ 1 ∧ D0 (A.1 17 a) (A.2.2 a) ∧ (∀ v n, Vn (nmA A a) v → Vn (nmA A a) n → Vn (nmA A a) (A.2.2 a v n)) ∧ ∀ v n d, ¬ rgA A a d → A.2.2 a v n d = n d
def rng (a n : Nat) : List Nat := (List.range n).map (fun i => a + i)
def flt (f g : Nat → Nat) (x a n : Nat) : List Nat := ((rng a n).filter (fun p => decide (f p = x))).map g
def Pv (A : ds) : Prop := ∀ m, m ≤ A.1 46 0 → flt (A.1 15) (A.1 16) 1 (A.1 25 m) (en A 25 45 m - A.1 25 m) = rng (A.1 23 m) (en A 23 43 m - A.1 23 m) ∧ flt (A.1 15) (A.1 16) 0 (A.1 25 m) (en A 25 45 m - A.1 25 m) = flt (A.1 17) (fun a => a) 1 (A.1 24 m) (en A 24 44 m - A.1 24 m)
def sumI (A : ds) (k m : Nat) : Nat := sumF (fun i => A.1 k (A.1 10 i)) (A.1 22 (m + 1) - A.1 22 m) (A.1 22 m)
def Mv (A : ds) : Prop := (A.1 21 (A.1 46 0) ≤ A.1 40 0 ∧ A.1 22 (A.1 46 0) ≤ A.1 41 0 ∧ A.1 23 (A.1 46 0) ≤ A.1 43 0 ∧ A.1 24 (A.1 46 0) ≤ A.1 44 0 ∧ A.1 25 (A.1 46 0) ≤ A.1 45 0) ∧ (∀ m, m < A.1 46 0 → (A.1 21 m ≤ A.1 21 (m + 1) ∧ A.1 22 m ≤ A.1 22 (m + 1) ∧ A.1 23 m ≤ A.1 23 (m + 1) ∧ A.1 24 m ≤ A.1 24 (m + 1) ∧ A.1 25 m ≤ A.1 25 (m + 1)) ∧ A.1 29 m = A.1 21 (m + 1) - A.1 21 m + sumI A 29 m ∧ A.1 30 m = A.1 22 (m + 1) - A.1 22 m + sumI A 30 m ∧ A.1 31 m = A.1 23 (m + 1) - A.1 23 m + sumI A 31 m) ∧ (∀ m, m ≤ A.1 46 0 → A.1 21 m ≤ A.1 21 (A.1 46 0) ∧ A.1 22 m ≤ A.1 22 (A.1 46 0) ∧ A.1 23 m ≤ A.1 23 (A.1 46 0) ∧ A.1 24 m ≤ A.1 24 (A.1 46 0) ∧ A.1 25 m ≤ A.1 25 (A.1 46 0)) ∧ A.1 12 (A.1 41 0) ≤ A.1 42 0 ∧ (∀ i, i < A.1 41 0 → A.1 12 i ≤ A.1 12 (i + 1) ∧ A.1 12 (i + 1) ≤ A.1 12 (A.1 41 0)) ∧ ∀ i, i < A.1 41 0 → A.1 10 i < A.1 46 0 
def JA (A : ds) : Prop := Nv A ∧ Iv A ∧ Lv A ∧ Sv A ∧ Wv A ∧ Pv A ∧ Mv A
def JP (A : ds) : Prop := JA A ∧ A.1 12 (A.1 41 0) = A.1 42 0
def JQ (m : Nat) (A : ds) : Prop := JA A ∧ A.1 9 (A.1 41 0) = A.1 46 0 ∧ A.1 10 (A.1 41 0) = m ∧ m < A.1 46 0
def JB (A : ds) : Prop := JP A ∧ A.1 21 (A.1 46 0) = A.1 40 0 ∧ A.1 22 (A.1 46 0) = A.1 41 0 ∧ A.1 23 (A.1 46 0) = A.1 43 0 ∧ A.1 24 (A.1 46 0) = A.1 44 0 ∧ A.1 25 (A.1 46 0) = A.1 45 0
theorem tS.nm {nm nm' : Nat → Option (Nat × Nat)} {o : aop} {a b : List Nat} (h : ∀ i q, nm i = some q → ∃ j, nm' j = some q) (g : tS nm o a b) : tS nm' o a b := by
  refine ⟨g.1, ?_⟩
  rcases g.2 with g | ⟨k, i, w, h1, h2⟩ | g
  · exact Or.inl g
  · obtain ⟨j, hj⟩ := h i _ h1
    exact Or.inr (Or.inl ⟨k, j, w, hj, h2⟩)
  · exact Or.inr (Or.inr g)
theorem Ty.nm {nm nm' : Nat → Option (Nat × Nat)} (h : ∀ i q, nm i = some q → ∃ j, nm' j = some q) : ∀ {L : List aop} {a b : List Nat}, Ty nm L a b → Ty nm' L a b
  | [], a, b, g => g
  | o :: L, a, b, g => by
    obtain ⟨w1, g1, g2⟩ := g
    exact ⟨w1, g1.nm h, Ty.nm h g2⟩
section DINV
variable {tk pl vl wi wd : Nat → Nat} {nt N : Nat} {A A' : ds} {t m : Nat}
theorem XG.mono {L : List aop} {w : Nat} (h : XG A m L w) (h40 : A.1 40 0 ≤ A'.1 40 0) (h8 : ∀ i, i < A.1 40 0 → A'.1 8 i = A.1 8 i ∧ A'.1 1 i = A.1 1 i) : XG A' m L w := by
  refine ⟨h.1.nm (fun i q hq => ⟨i, ?_⟩), h.2⟩
  unfold nmM at *
  split at hq
  · rename_i z
    cases hq
    obtain ⟨e1, e2⟩ := h8 i z.1
    rw [if_pos ⟨by omega, by rw [e1]; exact z.2⟩, e2]
  · cases hq
theorem Nv.same (h : Nv A) (e : ∀ k, k ∈ [1, 2, 4, 6, 7, 8, 13, 14, 18, 21, 35, 40, 42, 46] → A'.1 k = A.1 k) (eL : A'.2.1 0 = A.2.1 0) : Nv A' := by
  unfold Nv XG nmM en at *
  rw [e 1 (by decide), e 2 (by decide), e 4 (by decide), e 6 (by decide), e 7 (by decide), e 8 (by decide), e 13 (by decide), e 14 (by decide), e 18 (by decide), e 21 (by decide), e 35 (by decide), e 40 (by decide), e 42 (by decide), e 46 (by decide), eL]
  exact h
theorem Iv.same (h : Iv A) (e : ∀ k, k ∈ [2, 9, 10, 13, 18, 21, 22, 41, 42, 46] → A'.1 k = A.1 k) : Iv A' := by
  unfold Iv en at *
  rw [e 2 (by decide), e 9 (by decide), e 10 (by decide), e 13 (by decide), e 18 (by decide), e 21 (by decide), e 22 (by decide), e 41 (by decide), e 42 (by decide), e 46 (by decide)]
  exact h
theorem Lv.same (h : Lv A) (e : ∀ k, k ∈ [1, 2, 4, 6, 7, 8, 9, 10, 12, 13, 14, 18, 21, 36, 37, 40, 41, 42, 46] → A'.1 k = A.1 k) (eL : A'.2.1 1 = A.2.1 1) : Lv A' := by
  unfold Lv XG nmM le1 at *
  rw [e 1 (by decide), e 2 (by decide), e 4 (by decide), e 6 (by decide), e 7 (by decide), e 8 (by decide), e 9 (by decide), e 10 (by decide), e 12 (by decide), e 13 (by decide), e 14 (by decide), e 18 (by decide), e 21 (by decide), e 36 (by decide), e 37 (by decide), e 40 (by decide), e 41 (by decide), e 42 (by decide), e 46 (by decide), eL]
  exact h
theorem Sv.same (h : Sv A) (e : ∀ k, k ∈ [1, 8, 19, 21, 23, 38, 40, 43, 46] → A'.1 k = A.1 k) (eL : A'.2.1 2 = A.2.1 2) : Sv A' := by
  unfold Sv XG nmM en at *
  rw [e 1 (by decide), e 8 (by decide), e 19 (by decide), e 21 (by decide), e 23 (by decide), e 38 (by decide), e 40 (by decide), e 43 (by decide), e 46 (by decide), eL]
  exact h
theorem Wv.same (h : Wv A) (e : ∀ k, k ∈ [1, 2, 17, 21, 24, 32, 33, 34, 40, 44, 46] → A'.1 k = A.1 k) (eD : A'.2.2 = A.2.2) : Wv A' := by
  unfold Wv rgA nmA en at *
  rw [e 1 (by decide), e 2 (by decide), e 17 (by decide), e 21 (by decide), e 24 (by decide), e 32 (by decide), e 33 (by decide), e 34 (by decide), e 40 (by decide), e 44 (by decide), e 46 (by decide), eD]
  exact h
theorem Pv.same (h : Pv A) (e : ∀ k, k ∈ [15, 16, 17, 23, 24, 25, 43, 44, 45, 46] → A'.1 k = A.1 k) : Pv A' := by
  unfold Pv en at *
  rw [e 15 (by decide), e 16 (by decide), e 17 (by decide), e 23 (by decide), e 24 (by decide), e 25 (by decide), e 43 (by decide), e 44 (by decide), e 45 (by decide), e 46 (by decide)]
  exact h
theorem Mv.same (h : Mv A) (e : ∀ k, k ∈ [10, 12, 21, 22, 23, 24, 25, 29, 30, 31, 40, 41, 42, 43, 44, 45, 46] → A'.1 k = A.1 k) : Mv A' := by
  unfold Mv sumI at *
  rw [e 10 (by decide), e 12 (by decide), e 21 (by decide), e 22 (by decide), e 23 (by decide), e 24 (by decide), e 25 (by decide), e 29 (by decide), e 30 (by decide), e 31 (by decide), e 40 (by decide), e 41 (by decide), e 42 (by decide), e 43 (by decide), e 44 (by decide), e 45 (by decide), e 46 (by decide)]
  exact h
/-- a table that a step doesn't write -/
theorem tu_k {k i x a : Nat} (h : a ≠ k) : (tu A k i x).1 a = A.1 a := by
  funext b
  rw [tu1, if_neg (fun z => h z.1)]
theorem tu_L {k i x : Nat} : (tu A k i x).2 = A.2 := rfl
theorem Mv.h21 (h : Mv A) : ∀ m, m < A.1 46 0 → A.1 21 (m + 1) ≤ A.1 21 (A.1 46 0) := fun m hm => (h.2.2.1 (m + 1) (by omega)).1
/-- a name seen from within its module is of its module -/
theorem Nv.here (h : Nv A) (hM : Mv A) {d : Nat} (hd : d < A.1 40 0) (h21 : A.1 21 (A.1 46 0) ≤ d) : A.1 8 d = A.1 46 0 := by
  obtain ⟨a1, a2, a3, a4, -⟩ := h d hd
  by_cases z : A.1 8 d < A.1 46 0
  · have := hM.h21 _ z
    unfold en at a4
    rw [if_pos z] at a4
    omega
  · omega
theorem dX_G {t2 w t1 C : Nat} {L : List aop} (hV : Vb tk vl wi) (hW : WF tk nt A t) (h : Nv A) (hM : Mv A) (e : dX tk pl vl wi wd nt N A t2 = some (.inr (w, t1, L, C))) : XG A (A.1 46 0) L w := by
  obtain ⟨e1, -⟩ := dX_in e
  have hn : ∀ i q, dNm wd A i = some q → 1 ≤ q.2 ∧ q.2 ≤ 64 ∧ nmM A (A.1 46 0) q.1 = some q := by
    intro i q hq
    unfold dNm at hq
    match er : dHere wd A i with
    | none => rw [er] at hq; cases hq
    | some d =>
      rw [er] at hq
      cases hq
      have hd := dHere_in hW er
      have w := hW.2.1 d hd.1
      refine ⟨w.2.2.1, w.2.2.2.1, ?_⟩
      unfold nmM
      rw [if_pos ⟨hd.1, h.here hM hd.1 hd.2.1⟩]
  obtain ⟨x1, x2, x3, x4⟩ := eF_ok (fun i hi => (hV i).2 hi) (fun i q hq => ⟨(hn i q hq).1, (hn i q hq).2.1⟩) e1
  exact ⟨x3.nm (fun i q hq => ⟨_, (hn i q hq).2.2⟩), x4⟩
end DINV
