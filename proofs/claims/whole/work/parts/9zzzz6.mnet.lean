/-! The reference's circuit as a net. -/
section MNET
variable {tk pl : Nat → Nat} {nt t : Nat} {A : ds} {N la nc cl : Nat} {s : ms} {L : Nat → ly} {n ns : Nat}
theorem rop_ld {code : Nat → Int32} {nums : Nat → Int64} {j : Nat} {o : aop} (h : rop code nums nc j o) (h8 : o.1 ≤ 8) : (code (3 * j) = 1 ↔ o.1 = 1) ∧ (o.1 = 1 → code (3 * j + 1) = nI o.2.1) := by
  obtain ⟨x0, y0, y1, -⟩ := h
  refine ⟨?_, y1⟩
  rw [x0]
  exact nI_eq (b := 1) (by omega) (by decide)
theorem Mt_of (hJ : JB A) (hB : Bn A) (hWF : WF tk nt A t) (hL : Ly A L n ns) (hn : n ≤ 257) (hns : ns ≤ 1024) (h63 : s.1 63 0 = nI ns) (h91 : s.1 91 0 = nI cl) (hcl : cl ≤ 200000) (hla : 3 * la ≤ cl) (hT : MTb A la nc s) (hW : Wi A L n s) (hR : ∀ x, x < ns → Mr1 la nc s x (RS A L n x)) : ∃ a, Mt N s ns a (lenR A L n) (srcR A L n) (ldR A L n) := by
  have b := hB.2
  refine ⟨fun x => Int32.toNatClampNeg (s.1 67 x) / 3, h63, hns, cl, h91, hcl, fun x hx => ?_⟩
  obtain ⟨r1, r2, -⟩ := rule_ok hJ hWF hL hx
  obtain ⟨m66, q1, q2⟩ := hR x hx
  have le : (RS A L n x).1 ≤ 2 := Ru_le
  refine ⟨fun y hy => ?_, fun hs hl => ?_, fun hs hl => ?_⟩
  · unfold srcR at hy
    split at hy
    · rename_i z
      cases hy
      rw [z] at m66
      exact ⟨m66, q2 z, r2 z⟩
    · cases hy
  · have z2 : (RS A L n x).1 ≠ 2 := fun z => by unfold srcR at hs; rw [if_pos z] at hs; cases hs
    have z1 : (RS A L n x).1 ≠ 1 := fun z => by
      unfold lenR at hl
      rw [if_pos z] at hl
      have := (r1 z).2.2.ne
      omega
    rw [m66, show (RS A L n x).1 = 0 by omega]
    rfl
  · have z1 : (RS A L n x).1 = 1 := by
      apply Decidable.byContradiction
      intro z
      unfold lenR at hl
      rw [if_neg z] at hl
      omega
    obtain ⟨g1, g2⟩ := r1 z1
    obtain ⟨⟨a, p1, p2, p3, p4⟩, p5⟩ := q1 z1
    have lr : lenR A L n x = (RS A L n x).2.2.1.length := by unfold lenR; rw [if_pos z1]
    dsimp only
    rw [z1] at m66
    rw [p1, nI_clamp (show 3 * a < 2 ^ 31 by omega), show 3 * a / 3 = a by omega, lr]
    refine ⟨m66, rfl, p2, by omega, fun i hi => ?_⟩
    obtain ⟨o, ho⟩ : ∃ o, (RS A L n x).2.2.1[i]? = some o := ⟨_, List.getElem?_eq_getElem hi⟩
    have mo : o ∈ (RS A L n x).2.2.1 := List.mem_of_getElem? ho
    obtain ⟨c1, c2⟩ := rop_ld (p4 i o ho) (g2.1.le o mo)
    have ldx : ldR A L n x i = ldo A L (RS A L n x).2.1 o := by
      unfold ldR
      rw [if_pos z1, ho]
      rfl
    refine ⟨?_, fun y hy => ?_⟩
    · rw [c1, ldx]
      unfold ldo
      by_cases w : o.1 = 1
      · rw [if_pos w]; exact ⟨fun _ => by simp, fun _ => w⟩
      · rw [if_neg w]; exact ⟨fun q => absurd q w, fun q => absurd rfl q⟩
    · rw [ldx] at hy
      unfold ldo at hy
      split at hy
      · rename_i w
        cases hy
        obtain ⟨j, w', q⟩ := g2.1.ld o mo w
        have hl := hL.2.2.2 _ g1
        obtain ⟨n1, n2, n3, -⟩ := hJ.nms hl.1 q
        have n1 : A.1 21 (L (RS A L n x).2.1).1 ≤ o.2.1 := n1
        have n3 : o.2.1 < A.1 40 0 := n3
        refine ⟨hL.lt hJ g1 n2, fun S h57 h58 h14 => ?_⟩
        rw [p5, c2 w]
        have wi := hW _ g1
        have m14 := (hT.2.2 (L (RS A L n x).2.1).1 (by omega)).1
        unfold fn_M_signalOf
        rw [if_neg (nI_in (show (RS A L n x).2.1 < 260 by omega) (by decide)), if_neg (nI_in (show (RS A L n x).2.1 < 260 by omega) (by decide)), nI_clamp (by omega), h57, wi.1, if_neg (nI_in (show (L (RS A L n x).2.1).1 < 3601 by omega) (by decide)), nI_clamp (by omega), h58, wi.2.1, h14, m14, nI_add, nI_sub (by omega), show (L (RS A L n x).2.1).2.1 + o.2.1 - A.1 21 (L (RS A L n x).2.1).1 = (L (RS A L n x).2.1).2.1 + (o.2.1 - A.1 21 (L (RS A L n x).2.1).1) by omega]
      · cases hy
theorem Pls_of (hJ : JB A) (hB : Bn A) (hWF : WF tk nt A t) (hnt : nt ≤ 12001) (hL : Ly A L n ns) (hT : MTb A la nc s) (hW : Wi A L n s) (h5 : ∀ i, i < nt → s.1 5 i = nI (pl i)) : Pls s ns (fun x => pl (A.1 0 (snm A L n x))) := by
  have b := hB.2
  intro x hx
  have d := (rule_ok hJ hWF hL hx).2.2.2
  have w := (hWF.2.1 _ d).1
  refine ⟨snm A L n x, A.1 0 (snm A L n x), ?_, by omega, (hT.1.2.1 _ d).1, by omega, h5 _ w⟩
  obtain ⟨i, q, hi, hq, rfl⟩ := hL.sig hx
  rw [(RS_at hL hi hq).2]
  exact ((hW i hi).2.2.2.2 q hq).1
end MNET
