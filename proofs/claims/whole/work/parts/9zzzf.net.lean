/-! Circuits as nets: both sides. -/
def lenR (A : ds) (L : Nat → ly) (n x : Nat) : Nat := if (RS A L n x).1 = 1 then (RS A L n x).2.2.1.length else 0
def srcR (A : ds) (L : Nat → ly) (n x : Nat) : Option Nat := if (RS A L n x).1 = 2 then some (RS A L n x).2.2.2 else none
def ldo (A : ds) (L : Nat → ly) (j : Nat) (o : aop) : Option Nat := if o.1 = 1 then some ((L j).2.1 + (o.2.1 - A.1 21 (L j).1)) else none
def ldR (A : ds) (L : Nat → ly) (n x i : Nat) : Option Nat := if (RS A L n x).1 = 1 then ((RS A L n x).2.2.1[i]?).bind (ldo A L (RS A L n x).2.1) else none
section NET
variable {tk pl : Nat → Nat} {nt t : Nat} {A : ds} {c s : ms} {N m la nc sz lc : Nat} {lit : Nat → Int64} {L : Nat → ly} {n ns : Nat}
theorem lsr_take {g : aop → Option Nat} {l : List aop} : ∀ {k : Nat}, k ≤ l.length → lsr (fun i => (l[i]?).bind g) k = (l.take k).filterMap g
  | 0, _ => rfl
  | k + 1, h => by
    rw [lsr_succ, lsr_take (k := k) (by omega), List.take_succ, List.filterMap_append]
    congr 1
    cases l[k]? with
    | none => rfl
    | some o =>
      show (g o).toList = [o].filterMap g
      cases hg : g o with
      | none => rw [List.filterMap_cons_none hg]; rfl
      | some y => rw [List.filterMap_cons_some hg]; rfl
theorem lds_eq {j : Nat} : ∀ {l : List aop}, l.filterMap (ldo A L j) = lds A L j l
  | [] => rfl
  | o :: l => by
    unfold lds
    by_cases z : o.1 = 1
    · rw [if_pos z, List.filterMap_cons_some (show ldo A L j o = some _ by unfold ldo; rw [if_pos z]), lds_eq]
    · rw [if_neg z, List.filterMap_cons_none (show ldo A L j o = none by unfold ldo; rw [if_neg z]), lds_eq]
theorem dpn_dl : dpn (lenR A L n) (srcR A L n) (ldR A L n) = dl A L n := by
  funext x
  unfold dpn dl dpl srcR
  by_cases z2 : (RS A L n x).1 = 2
  · rw [if_pos z2, if_neg (by omega), if_pos z2]
  · rw [if_neg z2]
    dsimp only
    by_cases z1 : (RS A L n x).1 = 1
    · rw [if_pos z1]
      have e : ldR A L n x = fun i => ((RS A L n x).2.2.1[i]?).bind (ldo A L (RS A L n x).2.1) := by
        funext i
        unfold ldR
        rw [if_pos z1]
      rw [e]
      unfold lenR
      rw [if_pos z1, lsr_take (Nat.le_refl _), List.take_length, lds_eq]
    · rw [if_neg z1, if_neg z2]
      unfold lenR
      rw [if_neg z1]
      rfl
theorem Hk.ne {M : Nat} {l : List aop} (h : Hk M l 0 1) : 0 < l.length := by
  cases l with
  | nil =>
    have h : (0 : Nat) = 1 := h
    cases h
  | cons o l => show 0 < l.length + 1; omega
theorem tld_R (hJ : JB A) (hWF : WF tk nt A t) (hL : Ly A L n ns) {x : Nat} (hx : x < ns) : tld (lenR A L n) (srcR A L n) x = true ↔ (RS A L n x).1 ≠ 0 := by
  obtain ⟨r1, -⟩ := rule_ok hJ hWF hL hx
  have le : (RS A L n x).1 ≤ 2 := Ru_le
  unfold tld srcR lenR
  by_cases z2 : (RS A L n x).1 = 2
  · rw [if_pos z2, z2]
    exact ⟨fun _ => by decide, fun _ => rfl⟩
  · rw [if_neg z2]
    by_cases z1 : (RS A L n x).1 = 1
    · rw [if_pos z1, z1]
      have := (r1 z1).2.2.ne
      exact ⟨fun _ => by decide, fun _ => by rw [decide_eq_true this]; rfl⟩
    · rw [if_neg z1]
      refine ⟨fun q => by simp at q, fun q => ?_⟩
      omega
theorem cop_ld {row : Nat → Int64} {fd j : Nat} {o : aop} {op arg : Int32} (h : cop row fd lit lc j o) (e : row j = crw op arg) : (op = 514 ↔ o.1 = 1) ∧ (o.1 = 1 → arg = nI (o.2.1 - fd) ∧ fd ≤ o.2.1) := by
  obtain ⟨op', arg', e', h0, h1, h2, h3, h4, h5, h6, h7, h8, h9⟩ := h
  have eo : op' = op := by rw [← crw_op op' arg', ← e', e, crw_op]
  have ea : arg' = arg := by rw [← crw_arg op' arg', ← e', e, crw_arg]
  subst eo
  subst ea
  refine ⟨⟨fun z => ?_, fun z => (h1 z).1⟩, fun z => ⟨(h1 z).2.1, (h1 z).2.2.1⟩⟩
  by_cases q0 : o.1 = 0
  · have := (h0 q0).1; rw [z] at this; exact absurd this (by decide)
  by_cases q1 : o.1 = 1
  · exact q1
  by_cases q2 : o.1 = 2
  · have := (h2 q2).1; rw [z] at this; exact absurd this (by decide)
  by_cases q3 : o.1 = 3
  · have := h3 q3; rw [z] at this; exact absurd this (by decide)
  by_cases q4 : o.1 = 4
  · obtain ⟨u1, -, u2⟩ := h4 q4
    rw [z] at u1
    have u2 : o.2.1 = 126 ∨ o.2.1 = 33 ∨ o.2.1 = 45 ∨ o.2.1 = 38 ∨ o.2.1 = 124 ∨ o.2.1 = 94 := of_decide_eq_true u2
    have := (nI_eq (a := 514) (b := 256 + o.2.1) (by decide) (by omega)).mp u1
    omega
  by_cases q5 : o.1 = 5
  · obtain ⟨u1, -, u2⟩ := h5 q5
    rw [z] at u1
    exfalso
    revert u1
    rcases u2 with q | q | q | q | q | q | q | q | q | q | q | q | q | q | q | q <;> rw [q] <;> decide
  by_cases q6 : o.1 = 6
  · have := h6 q6; rw [z] at this; exact absurd this (by decide)
  by_cases q7 : o.1 = 7
  · have := (h7 q7).1; rw [z] at this; exact absurd this (by decide)
  · have := (h8 (by omega)).1; rw [z] at this; exact absurd this (by decide)
/-- the class's circuit is this net -/
theorem Nt_of (hJ : JB A) (hWF : WF tk nt A t) (hL : Ly A L n ns) (hns : ns ≤ 1024) (h293 : c.1 293 0 = nI ns) (h337 : c.1 337 0 = nI sz) (hsz : sz ≤ 16000) (hB : Bi A L lit lc sz n n c) : ∃ a, Nt c ns sz a (lenR A L n) (srcR A L n) (ldR A L n) := by
  refine ⟨fun x => Int32.toNatClampNeg (c.1 299 x), h293, hns, h337, hsz, fun x hx => ?_⟩
  have rk := rule_ok hJ hWF hL hx
  obtain ⟨i, q, hi, hq, rfl⟩ := hL.sig hx
  obtain ⟨e1, e2⟩ := RS_at hL hi hq
  obtain ⟨-, hC⟩ := hB.2 i hi q hq
  rw [← e1] at hC
  obtain ⟨k0, k1, k2⟩ := hC
  have le : (RS A L n ((L i).2.1 + q)).1 ≤ 2 := Ru_le
  have kd : (RS A L n ((L i).2.1 + q)).1 = 2 → kidOf A L i q < n := fun z => by
    have hl := hL.2.2.2 i hi
    obtain ⟨n1, n2⟩ := hJ.name hl.1 hq
    have a5 := (hJ.1.1.1 _ n2).2.2.2.2.1
    have a7 := (hJ.1.1.1 _ n2).2.2.2.2.2.2.1 (by rw [n1]; exact hl.1)
    rw [e1] at z
    have h4 : A.1 4 (A.1 21 (L i).1 + q) = 2 := by
      unfold Ru at z
      split at z
      · split at z <;> cases z
      · split at z
        · rename_i h1
          split at z
          · cases z
          · have := a7 h1; omega
        · cases z
    obtain ⟨j, k, j1, j2, -⟩ := hJ.drv2 hl.1 hq h4
    unfold kidOf
    rw [j2, show A.1 22 (L i).1 + j - A.1 22 (L i).1 = j by omega]
    have := hL.kid hJ hi j1
    omega
  generalize (L i).2.1 + q = x at *
  by_cases z1 : (RS A L n x).1 = 1
  · obtain ⟨g1, ⟨a, g2, g3, g4, g5⟩, g6⟩ := k1 z1
    have lr : lenR A L n x = (RS A L n x).2.2.1.length := by unfold lenR; rw [if_pos z1]
    have sr : srcR A L n x = none := by unfold srcR; rw [if_neg (by omega)]
    dsimp only
    rw [g2, nI_clamp (by omega), lr]
    refine ⟨rfl, g3, g4, fun _ => ⟨g1, fun k hk => ?_⟩, fun y z => (by rw [sr] at z; cases z)⟩
    obtain ⟨o, ho⟩ : ∃ o, (RS A L n x).2.2.1[k]? = some o := ⟨_, List.getElem?_eq_getElem hk⟩
    have cp := g5 k o ho
    obtain ⟨op, arg, er, -⟩ := id cp
    obtain ⟨c1, c2⟩ := cop_ld cp er
    have ldx : ldR A L n x k = ldo A L (RS A L n x).2.1 o := by
      unfold ldR
      rw [if_pos z1, ho]
      rfl
    refine ⟨op, arg, er, ?_, fun y hy => ?_⟩
    · rw [c1, ldx]
      unfold ldo
      by_cases w : o.1 = 1
      · rw [if_pos w]; exact ⟨fun _ q => (by cases q), fun _ => w⟩
      · rw [if_neg w]; exact ⟨fun q => absurd q w, fun q => absurd rfl q⟩
    · have om : o ∈ (RS A L n x).2.2.1 := List.mem_of_getElem? ho
      rw [ldx] at hy
      unfold ldo at hy
      split at hy
      · rename_i w
        obtain ⟨r1, r2⟩ := rk.1 z1
        obtain ⟨jj, ww, hi'⟩ := r2.1.ld o om w
        have hl := hL.2.2.2 _ r1
        have nm := hJ.nms hl.1 hi'
        obtain ⟨b1, b2⟩ := c2 w
        have hy := Option.some.inj hy
        rw [g6, b1, nI_add, ← hy]
        exact ⟨rfl, hL.lt hJ r1 nm.2.1⟩
      · cases hy
  · have lr : lenR A L n x = 0 := by unfold lenR; rw [if_neg z1]
    dsimp only
    rw [lr]
    by_cases z2 : (RS A L n x).1 = 2
    · obtain ⟨⟨a, g1, g2, g3⟩, g4, -⟩ := k2 z2
      have sr : srcR A L n x = some (RS A L n x).2.2.2 := by unfold srcR; rw [if_pos z2]
      rw [g2, nI_clamp (by omega), Nat.add_zero]
      refine ⟨rfl, g3, g1, fun z => (by rw [sr] at z; cases z), fun y hy => ?_⟩
      rw [sr] at hy
      have hy := Option.some.inj hy
      rw [← hy]
      exact ⟨g4 (kd z2), rk.2.1 z2, rfl⟩
    · obtain ⟨g1, a, g2, g3, g4⟩ := k0 (by omega)
      have sr : srcR A L n x = none := by unfold srcR; rw [if_neg z2]
      rw [g3, nI_clamp (by omega), Nat.add_zero]
      exact ⟨rfl, g4, g2, fun _ => ⟨g1, fun k hk => by omega⟩, fun y z => (by rw [sr] at z; cases z)⟩
end NET
