/-! Values of a circuit. -/
section VALC
variable {v v' : Nat → Int64}
theorem aex_congr {o : aop} (h : o.1 = 1 → v o.2.1 = v' o.2.1) (st : List Int64) : aex v o st = aex v' o st := by
  unfold aex
  by_cases k0 : o.1 = 0
  · rw [if_pos k0, if_pos k0]
  rw [if_neg k0, if_neg k0]
  by_cases k1 : o.1 = 1
  · rw [if_pos k1, if_pos k1, h k1]
  rw [if_neg k1, if_neg k1]
theorem xrun_congr : ∀ {l : List aop} {st : List Int64}, (∀ o, o ∈ l → o.1 = 1 → v o.2.1 = v' o.2.1) → xrun v l st = xrun v' l st
  | [], st, _ => rfl
  | o :: l, st, h => by
    show (aex v o st).bind (xrun v l) = (aex v' o st).bind (xrun v' l)
    rw [aex_congr (h o List.mem_cons_self)]
    congr 1
    funext s
    exact xrun_congr (fun p hp => h p (List.mem_cons_of_mem _ hp))
theorem xval_congr {l : List aop} (h : ∀ o, o ∈ l → o.1 = 1 → v o.2.1 = v' o.2.1) : xval v l = xval v' l := by
  unfold xval
  rw [xrun_congr h]
end VALC
/-- the names of an instance -/
def ev (A : ds) (L : Nat → ly) (V : Nat → Int64) (j d : Nat) : Int64 := V ((L j).2.1 + (d - A.1 21 (L j).1))
def rval (A : ds) (L : Nat → ly) (V : Nat → Int64) (R : rul) : Int64 := if R.1 = 1 then xval (ev A L V R.2.1) R.2.2.1 else V R.2.2.2
/-- values that agree with what tells them; B: of those that nothing tells -/
def Sol (A : ds) (L : Nat → ly) (n ns : Nat) (V B : Nat → Int64) : Prop := ∀ x, x < ns → ((RS A L n x).1 = 0 → V x = B x) ∧ ((RS A L n x).1 ≠ 0 → V x = rval A L V (RS A L n x))
section VAL
variable {tk : Nat → Nat} {nt t : Nat} {A : ds} {L : Nat → ly} {n ns : Nat} {V V' B B' : Nat → Int64} {ord : List Nat}
theorem rval_congr {R : rul} (h0 : R.1 ≠ 0) (h2 : R.1 ≤ 2) (h : ∀ y, y ∈ dpl A L R → V y = V' y) : rval A L V R = rval A L V' R := by
  unfold rval
  unfold dpl at h
  by_cases z : R.1 = 1
  · rw [if_pos z] at h
    rw [if_pos z, if_pos z]
    exact xval_congr (fun o ho k => h _ (mem_lds ho k))
  · rw [if_neg z, if_pos (by omega)] at h
    rw [if_neg z, if_neg z]
    exact h _ (List.mem_singleton.mpr rfl)
/-- along an order -/
theorem ord_ind {Q : Nat → Prop} {told : Nat → Bool} {dp : Nat → List Nat} (hO : TO dp told ord) (h : ∀ x, x ∈ ord → (∀ y, y ∈ dp x → told y = true → Q y) → Q x) : ∀ x, x ∈ ord → Q x := by
  have go : ∀ k, ∀ x, x ∈ ord.take k → Q x := by
    intro k
    induction k with
    | zero => intro x hx; exact absurd hx (by rw [List.take_zero]; exact List.not_mem_nil)
    | succ k ih =>
      intro x hx
      rw [List.take_succ] at hx
      rcases List.mem_append.mp hx with q | q
      · exact ih x q
      · cases e : ord[k]? with
        | none => rw [e] at q; exact absurd q List.not_mem_nil
        | some z =>
          rw [e] at q
          have : x = z := List.mem_singleton.mp q
          subst this
          have el : ord = ord.take k ++ x :: ord.drop (k + 1) := by
            obtain ⟨hk, hz⟩ := List.getElem?_eq_some_iff.mp e
            rw [← hz, List.getElem_cons_drop, List.take_append_drop]
          exact h x (List.mem_of_getElem? e) (fun y hy ty => ih y (hO _ x _ el y hy ty))
  intro x hx
  have := go ord.length x (by rw [List.take_length]; exact hx)
  exact this
theorem Sol.uniq (hJ : JB A) (hWF : WF tk nt A t) (hL : Ly A L n ns) (hV : Sol A L n ns V B) (hV' : Sol A L n ns V' B') (hB : ∀ x, x < ns → (RS A L n x).1 = 0 → B x = B' x) (ho : ∀ x, x ∈ ord ↔ x < ns ∧ (RS A L n x).1 ≠ 0) (hT : TO (dl A L n) (fun x => decide ((RS A L n x).1 ≠ 0)) ord) : ∀ x, x < ns → V x = V' x := by
  have zero : ∀ x, x < ns → (RS A L n x).1 = 0 → V x = V' x := fun x hx z => by rw [(hV x hx).1 z, (hV' x hx).1 z]; exact hB x hx z
  have one : ∀ x, x ∈ ord → V x = V' x := ord_ind hT (fun x hx ih => by
    obtain ⟨x1, x2⟩ := (ho x).mp hx
    rw [(hV x x1).2 x2, (hV' x x1).2 x2]
    refine rval_congr x2 Ru_le (fun y hy => ?_)
    have yn := dl_lt hJ hWF hL x1 hy
    by_cases z : (RS A L n y).1 = 0
    · exact zero y yn z
    · exact ih y hy (decide_eq_true z))
  intro x hx
  by_cases z : (RS A L n x).1 = 0
  · exact zero x hx z
  · exact one x ((ho x).mpr ⟨hx, z⟩)
/-- what copies a signal is as wide -/
theorem src_w (hJ : JB A) (hL : Ly A L n ns) {x : Nat} (hx : x < ns) (h2 : (RS A L n x).1 = 2) : A.1 1 (snm A L n x) = A.1 1 (snm A L n (RS A L n x).2.2.2) := by
  obtain ⟨i, q, hi, hq, rfl⟩ := hL.sig hx
  obtain ⟨e1, e2⟩ := RS_at hL hi hq
  have hl := hL.2.2.2 i hi
  obtain ⟨n1, n2⟩ := hJ.name hl.1 hq
  have a5 := (hJ.1.1.1 _ n2).2.2.2.2.1
  have a7 := (hJ.1.1.1 _ n2).2.2.2.2.2.2.1 (by rw [n1]; exact hl.1)
  rw [e1] at h2
  have h4 : A.1 4 (A.1 21 (L i).1 + q) = 2 ∧ (Ru A L i q).2.2.2 = (L (kidOf A L i q)).2.1 + (A.1 7 (A.1 21 (L i).1 + q) - A.1 21 (A.1 10 (A.1 6 (A.1 21 (L i).1 + q)))) := by
    unfold Ru at h2 ⊢
    split at h2
    · split at h2 <;> cases h2
    · rename_i h0
      split at h2
      · rename_i h1
        split at h2
        · cases h2
        · rename_i h3
          rw [if_neg h0, if_pos h1, if_neg h3]
          have := a7 h1
          exact ⟨by omega, rfl⟩
      · cases h2
  obtain ⟨j, k, j1, j2, k1, k3, k4, k5, k6, k7, k8⟩ := hJ.drv2 hl.1 hq h4.1
  have kd := hL.kid hJ hi j1
  have lc := hl.2.2.2.1 j j1
  have i2 := hJ.item hl.1 j1
  have rc := hJ.r21 (m := A.1 10 (A.1 22 (L i).1 + j)) (by omega)
  have ek : kidOf A L i q = i + 1 + ofI A (L i).1 j := by
    unfold kidOf
    rw [j2, show A.1 22 (L i).1 + j - A.1 22 (L i).1 = j by omega]
  rw [e1, e2, h4.2, ek, j2]
  have hm : (L (i + 1 + ofI A (L i).1 j)).1 = A.1 10 (A.1 22 (L i).1 + j) := by rw [lc]
  obtain ⟨-, e4⟩ := RS_at hL (i := i + 1 + ofI A (L i).1 j) (q := A.1 7 (A.1 21 (L i).1 + q) - A.1 21 (A.1 10 (A.1 22 (L i).1 + j))) (by omega) (by rw [hm]; omega)
  rw [e4, hm, show A.1 21 (A.1 10 (A.1 22 (L i).1 + j)) + (A.1 7 (A.1 21 (L i).1 + q) - A.1 21 (A.1 10 (A.1 22 (L i).1 + j))) = A.1 7 (A.1 21 (L i).1 + q) by omega, ← k4]
  obtain ⟨-, -, -, -, -, -, -, -, -, -, -, -, -, b14, -⟩ := hJ.1.1.2.2.1 k k1
  exact (b14 _ k5).2.2.2.2.2
/-- values fit -/
def Vt (A : ds) (L : Nat → ly) (n ns : Nat) (V : Nat → Int64) : Prop := ∀ x, x < ns → Fw (V x) (A.1 1 (snm A L n x))
theorem Vt.ev (hJ : JB A) (hL : Ly A L n ns) (h : Vt A L n ns V) {j : Nat} (hj : j < n) : ∀ i q, nmM A (L j).1 i = some q → Fw (ev A L V j q.1) q.2 := by
  intro i q hq
  have hl := hL.2.2.2 j hj
  obtain ⟨n1, n2, n3, n4⟩ := hJ.nms hl.1 hq
  have := h _ (hL.lt hJ hj n2)
  rw [(RS_at hL hj n2).2, show A.1 21 (L j).1 + (q.1 - A.1 21 (L j).1) = q.1 by omega] at this
  rw [n4]
  exact this
theorem Sol.fit (hJ : JB A) (hWF : WF tk nt A t) (hL : Ly A L n ns) (hV : Sol A L n ns V B) (hB : ∀ x, x < ns → (RS A L n x).1 = 0 → Fw (B x) (A.1 1 (snm A L n x))) (ho : ∀ x, x ∈ ord ↔ x < ns ∧ (RS A L n x).1 ≠ 0) (hT : TO (dl A L n) (fun x => decide ((RS A L n x).1 ≠ 0)) ord) : Vt A L n ns V := by
  have zero : ∀ x, x < ns → (RS A L n x).1 = 0 → Fw (V x) (A.1 1 (snm A L n x)) := fun x hx z => by rw [(hV x hx).1 z]; exact hB x hx z
  have one : ∀ x, x ∈ ord → Fw (V x) (A.1 1 (snm A L n x)) := ord_ind hT (fun x hx ih => by
    obtain ⟨x1, x2⟩ := (ho x).mp hx
    have dep : ∀ y, y ∈ dl A L n x → Fw (V y) (A.1 1 (snm A L n y)) := fun y hy => by
      have yn := dl_lt hJ hWF hL x1 hy
      by_cases z : (RS A L n y).1 = 0
      · exact zero y yn z
      · exact ih y hy (decide_eq_true z)
    obtain ⟨r1, r2, -⟩ := rule_ok hJ hWF hL x1
    have le : (RS A L n x).1 ≤ 2 := Ru_le
    rw [(hV x x1).2 x2]
    by_cases z : (RS A L n x).1 = 1
    · obtain ⟨g1, g2⟩ := r1 z
      -- only what is needed counts
      have e : rval A L V (RS A L n x) = rval A L (fun y => if y ∈ dl A L n x then V y else 0) (RS A L n x) := rval_congr x2 le (fun y hy => (if_pos hy).symm)
      rw [e]
      unfold rval
      rw [if_pos z]
      have vt : Vt A L n ns (fun y => if y ∈ dl A L n x then V y else 0) := fun y _ => by
        show Fw (if y ∈ dl A L n x then V y else 0) _
        split
        · rename_i q; exact dep y q
        · exact Fw.zero _
      exact xval_fit (vt.ev hJ hL g1) g2.1 g2.2
    · unfold rval
      rw [if_neg z]
      have z2 : (RS A L n x).1 = 2 := by omega
      rw [src_w hJ hL x1 z2]
      refine dep _ ?_
      unfold dl dpl
      rw [if_neg z, if_pos z2]
      exact List.mem_singleton.mpr rfl)
  intro x hx
  by_cases z : (RS A L n x).1 = 0
  · exact zero x hx z
  · exact one x ((ho x).mpr ⟨hx, z⟩)
end VAL
