/-! Circuits: what depends on what. -/
/-- the instance of a signal, and which of its names it is -/
def sgi (A : ds) (L : Nat → ly) (n x : Nat) : Nat × Nat := match fnd (fun i => decide ((L i).2.1 ≤ x ∧ x < (L i).2.1 + own A (L i).1)) n 0 with
  | some i => (i, x - (L i).2.1)
  | none => (0, 0)
def RS (A : ds) (L : Nat → ly) (n x : Nat) : rul := Ru A L (sgi A L n x).1 (sgi A L n x).2
/-- its name -/
def snm (A : ds) (L : Nat → ly) (n x : Nat) : Nat := A.1 21 (L (sgi A L n x).1).1 + (sgi A L n x).2
def lds (A : ds) (L : Nat → ly) (j : Nat) : List aop → List Nat
  | [] => []
  | o :: l => if o.1 = 1 then ((L j).2.1 + (o.2.1 - A.1 21 (L j).1)) :: lds A L j l else lds A L j l
def dpl (A : ds) (L : Nat → ly) (R : rul) : List Nat := if R.1 = 1 then lds A L R.2.1 R.2.2.1 else if R.1 = 2 then [R.2.2.2] else []
def dl (A : ds) (L : Nat → ly) (n x : Nat) : List Nat := dpl A L (RS A L n x)
section GRA
variable {tk : Nat → Nat} {nt t : Nat} {A : ds} {m : Nat} {L : Nat → ly} {n ns : Nat}
theorem sgi_at (hL : Ly A L n ns) {i q : Nat} (hi : i < n) (hq : q < own A (L i).1) : sgi A L n ((L i).2.1 + q) = (i, q) := by
  unfold sgi
  match er : fnd (fun k => decide ((L k).2.1 ≤ (L i).2.1 + q ∧ (L i).2.1 + q < (L k).2.1 + own A (L k).1)) n 0 with
  | none =>
    have := of_decide_eq_false (fnd_none er i (Nat.zero_le _) (by omega))
    omega
  | some k =>
    obtain ⟨k1, k2, k3, -⟩ := fnd_some er
    have k3 := of_decide_eq_true k3
    obtain ⟨e1, e2⟩ := hL.uniq (i := k) (i' := i) (q := (L i).2.1 + q - (L k).2.1) (q' := q) (by omega) hi (by omega) hq (by omega)
    subst e1
    exact Prod.ext rfl e2
theorem RS_at (hL : Ly A L n ns) {i q : Nat} (hi : i < n) (hq : q < own A (L i).1) : RS A L n ((L i).2.1 + q) = Ru A L i q ∧ snm A L n ((L i).2.1 + q) = A.1 21 (L i).1 + q := by
  unfold RS snm
  rw [sgi_at hL hi hq]
  exact ⟨rfl, rfl⟩
theorem lds_mem {j : Nat} : ∀ {l : List aop} {y : Nat}, y ∈ lds A L j l → ∃ o, o ∈ l ∧ o.1 = 1 ∧ y = (L j).2.1 + (o.2.1 - A.1 21 (L j).1)
  | [], y, h => by cases h
  | o :: l, y, h => by
    unfold lds at h
    split at h
    · rename_i z
      rcases List.mem_cons.mp h with rfl | h
      · exact ⟨o, List.mem_cons_self, z, rfl⟩
      · obtain ⟨p, p1, p2⟩ := lds_mem h
        exact ⟨p, List.mem_cons_of_mem _ p1, p2⟩
    · obtain ⟨p, p1, p2⟩ := lds_mem h
      exact ⟨p, List.mem_cons_of_mem _ p1, p2⟩
theorem mem_lds {j : Nat} : ∀ {l : List aop} {o : aop}, o ∈ l → o.1 = 1 → (L j).2.1 + (o.2.1 - A.1 21 (L j).1) ∈ lds A L j l
  | p :: l, o, h, k => by
    unfold lds
    rcases List.mem_cons.mp h with rfl | h
    · rw [if_pos k]
      exact List.mem_cons_self
    · split
      · exact List.mem_cons_of_mem _ (mem_lds h k)
      · exact mem_lds h k
/-- a name of a module -/
theorem JB.nms (h : JB A) (hm : m < A.1 46 0) {i : Nat} {q : Nat × Nat} (e : nmM A m i = some q) : A.1 21 m ≤ q.1 ∧ q.1 - A.1 21 m < own A m ∧ q.1 < A.1 40 0 ∧ q.2 = A.1 1 q.1 := by
  unfold nmM at e
  split at e
  · rename_i z
    cases e
    obtain ⟨a1, a2, a3, a4, -⟩ := h.1.1.1 i z.1
    rw [z.2] at a3 a4
    unfold en at a4
    rw [if_pos hm] at a4
    have r := h.r21 hm
    exact ⟨a3, by show i - A.1 21 m < _; omega, z.1, rfl⟩
  · cases e
/-- an exp's rule is typed; a copied signal stands -/
theorem rule_ok (hJ : JB A) (hWF : WF tk nt A t) (hL : Ly A L n ns) {x : Nat} (hx : x < ns) : ((RS A L n x).1 = 1 → (RS A L n x).2.1 < n ∧ XG A (L (RS A L n x).2.1).1 (RS A L n x).2.2.1 (A.1 1 (snm A L n x))) ∧ ((RS A L n x).1 = 2 → (RS A L n x).2.2.2 < ns) ∧ ((RS A L n x).1 = 0 ↔ A.1 2 (snm A L n x) = 2 ∨ A.1 2 (snm A L n x) = 4 ∨ (A.1 2 (snm A L n x) = 0 ∧ (sgi A L n x).1 = 0)) ∧ snm A L n x < A.1 40 0 := by
  obtain ⟨i, q, hi, hq, rfl⟩ := hL.sig hx
  obtain ⟨e1, e2⟩ := RS_at hL hi hq
  rw [e1, e2, sgi_at hL hi hq]
  have hl := hL.2.2.2 i hi
  obtain ⟨n1, n2⟩ := hJ.name hl.1 hq
  obtain ⟨a1, a2, a3, a4, a5, a6, a7, a8, a9⟩ := hJ.1.1.1 _ n2
  have k2 := (hWF.2.1 _ n2).2.2.2.2.1
  unfold Ru
  by_cases y0 : A.1 2 (A.1 21 (L i).1 + q) = 0
  · rw [if_pos y0]
    by_cases i0 : i = 0
    · rw [if_pos i0]
      exact ⟨fun z => (by cases z), fun z => (by cases z), ⟨fun _ => Or.inr (Or.inr ⟨y0, i0⟩), fun _ => rfl⟩, n2⟩
    · rw [if_neg i0]
      obtain ⟨u1, u2, u3, u4, j, u5, u6, u7⟩ := hL.up hJ hi (by omega)
      obtain ⟨k1, k3, k4, -⟩ := hJ.port (e := (L i).2.2.2) (d := A.1 21 (L i).1 + q) u2 (by rw [u4]; omega) (by rw [u4]; have := hJ.r21 hl.1; omega) (by omega)
      obtain ⟨-, -, -, -, -, -, -, -, -, -, -, b12, b13, -⟩ := hJ.1.1.2.2.1 _ k1
      have g := b13 (b12.mpr (by rw [k4]; exact y0))
      rw [k3, k4, u3] at g
      refine ⟨fun _ => ⟨by show (L i).2.2.1 < n; omega, g⟩, fun z => (by cases z), ⟨fun z => (by cases z), fun z => ?_⟩, n2⟩
      rcases z with z | z | z
      · omega
      · omega
      · exact absurd z.2 i0
  · rw [if_neg y0]
    by_cases yd : A.1 2 (A.1 21 (L i).1 + q) = 1 ∨ A.1 2 (A.1 21 (L i).1 + q) = 3
    · rw [if_pos yd]
      have nz := a7 (by rw [n1]; exact hl.1) yd
      by_cases y4 : A.1 4 (A.1 21 (L i).1 + q) = 1
      · rw [if_pos y4]
        have g := a8 y4
        rw [n1] at g
        exact ⟨fun _ => ⟨hi, g⟩, fun z => (by cases z), ⟨fun z => (by cases z), fun z => by omega⟩, n2⟩
      · rw [if_neg y4]
        obtain ⟨j, k, j1, j2, k1, k3, k4, k5, k6, k7, k8⟩ := hJ.drv2 hl.1 hq (by omega)
        refine ⟨fun z => (by cases z), fun _ => ?_, ⟨fun z => (by cases z), fun z => by omega⟩, n2⟩
        show (L (i + 1 + ofI A (L i).1 (A.1 6 (A.1 21 (L i).1 + q) - A.1 22 (L i).1))).2.1 + _ < ns
        rw [j2, show A.1 22 (L i).1 + j - A.1 22 (L i).1 = j by omega]
        have kd := hL.kid hJ hi j1
        have lc := hl.2.2.2.1 j j1
        have i2 := hJ.item hl.1 j1
        have rc := hJ.r21 (m := A.1 10 (A.1 22 (L i).1 + j)) (by omega)
        exact hL.lt hJ (i := i + 1 + ofI A (L i).1 j) (by omega) (by rw [lc]; show _ < own A (A.1 10 (A.1 22 (L i).1 + j)); omega)
    · rw [if_neg yd]
      exact ⟨fun z => (by cases z), fun z => (by cases z), ⟨fun _ => by omega, fun _ => rfl⟩, n2⟩
theorem dl_lt (hJ : JB A) (hWF : WF tk nt A t) (hL : Ly A L n ns) {x y : Nat} (hx : x < ns) (hy : y ∈ dl A L n x) : y < ns := by
  obtain ⟨r1, r2, -⟩ := rule_ok hJ hWF hL hx
  unfold dl dpl at hy
  split at hy
  · rename_i z
    obtain ⟨q1, q2⟩ := r1 z
    obtain ⟨o, o1, o2, rfl⟩ := lds_mem hy
    obtain ⟨i, w, hi⟩ := q2.1.ld o o1 o2
    have l := hL.2.2.2 _ q1
    have g := hJ.nms l.1 hi
    exact hL.lt hJ q1 g.2.1
  · split at hy
    · rename_i z
      have : y = (RS A L n x).2.2.2 := List.mem_singleton.mp hy
      rw [this]
      exact r2 z
    · cases hy
end GRA
