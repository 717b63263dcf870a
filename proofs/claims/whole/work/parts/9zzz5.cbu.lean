/-! The class: a circuit is built: its instances. -/
/-- its tables -/
def CTb (pl : Nat → Nat) (lit : Nat → Int64) (lc : Nat) (A : ds) (sz : Nat) (c : ms) : Prop :=
  (c.1 321 0 = nI (A.1 40 0) ∧ c.1 328 0 = nI (A.1 41 0) ∧ c.1 332 0 = nI (A.1 42 0) ∧ c.1 317 0 = nI (A.1 45 0) ∧ c.1 309 0 = nI (A.1 46 0)) ∧ (∀ d, d < A.1 40 0 → c.1 322 d = nI (pl (A.1 0 d)) ∧ c.1 323 d = nI (A.1 1 d) ∧ c.1 324 d = nI (srt (A.1 2 d)) ∧ c.2 325 d = lN (A.1 3 d)) ∧ Cdr A c sz lit lc ∧ Cit pl A (A.1 41 0) c ∧ Clk A c sz lit lc ∧ Cpc A c sz lit lc ∧
  (∀ m, m < A.1 46 0 → (c.1 311 m = nI (pl (A.1 20 m)) ∧ c.1 312 m = nI (A.1 21 m) ∧ c.1 313 m = nI (A.1 26 m) ∧ c.1 314 m = nI (A.1 22 m) ∧ c.1 315 m = nI (A.1 25 m)) ∧ c.1 600 m = nI (cap28 (A.1 30 m + 1)) ∧ c.1 601 m = nI (cap28 (A.1 29 m)) ∧ c.1 602 m = nI (cap28 (A.1 28 m)) ∧ c.1 603 m = nI (cap28 (A.1 31 m)) ∧ c.1 604 m = nI (cap28 (A.1 27 m)))
theorem DB.tb {pl wd : Nat → Nat} {nw lc sz : Nat} {lit : Nat → Int64} {A : ds} {c : ms} (h : DB pl wd nw lit lc A sz c) : CTb pl lit lc A sz c := by
  obtain ⟨⟨h1, h2, h3, h4, h5, -⟩, k1, k2, k3, k4, k5, k6, -⟩ := h
  exact ⟨⟨h1, h2, h3, h4, h5⟩, fun d hd => ⟨(k1 d hd).1, (k1 d hd).2.1, (k1 d hd).2.2.1, (k1 d hd).2.2.2.1⟩, k2, k3, k4, k5, k6⟩
abbrev CB (c c' : ms) : Prop := Eb [292, 293, 294, 295, 296, 297, 298, 299, 300, 301, 302] [] c c'
section CBU
variable {tk pl : Nat → Nat} {nt t : Nat} {A : ds} {c c' c0 : ms} {N m sz lc : Nat} {lit : Nat → Int64} {L : Nat → ly} {n ns : Nat}
theorem CTb.keep (h : CTb pl lit lc A sz c) (e : CB c c') : CTb pl lit lc A sz c' := by
  unfold CTb Cdr Cit Clk Cpc CLr at *
  rw [e.1 321 (by decide), e.1 328 (by decide), e.1 332 (by decide), e.1 317 (by decide), e.1 309 (by decide), e.1 322 (by decide), e.1 323 (by decide), e.1 324 (by decide), e.2 325 (by decide), e.1 326 (by decide), e.1 327 (by decide), e.2 336 (by decide), e.1 329 (by decide), e.1 330 (by decide), e.1 331 (by decide), e.1 333 (by decide), e.1 334 (by decide), e.1 335 (by decide), e.1 320 (by decide), e.1 318 (by decide), e.1 319 (by decide), e.1 311 (by decide), e.1 312 (by decide), e.1 313 (by decide), e.1 314 (by decide), e.1 315 (by decide), e.1 600 (by decide), e.1 601 (by decide), e.1 602 (by decide), e.1 603 (by decide), e.1 604 (by decide)]
  exact h
theorem fDecl_C (hJ : JB A) (hB : Bn A) (hT : CTb pl lit lc A sz c) (hm : m ≤ A.1 46 0) : fn_Design_firstDecl_Ds N (nI m) c = some (nI (A.1 21 m), c) := by
  have b := hB.2
  unfold fn_Design_firstDecl_Ds fn_Design_isModule_Ds
  rw [if_neg (nI_pos (by omega)), hT.1.2.2.2.2]
  by_cases z : m < A.1 46 0
  · rw [if_neg (nI_ge z (by omega)), obind]
    dsimp only
    rw [if_neg (by decide), if_neg (nI_in (show m < 3277 by omega) (by decide)), nI_clamp (by omega), ((hT.2.2.2.2.2.2 m z).1).2.1]
  · have : m = A.1 46 0 := by omega
    subst this
    rw [if_pos (nI_le (Nat.le_refl _) (by omega)), obind]
    dsimp only
    rw [if_pos rfl, hT.1.1, hJ.2.1]
theorem fChild_C (hJ : JB A) (hB : Bn A) (hT : CTb pl lit lc A sz c) (hm : m ≤ A.1 46 0) : fn_Design_firstChild_Ds N (nI m) c = some (nI (A.1 22 m), c) := by
  have b := hB.2
  unfold fn_Design_firstChild_Ds fn_Design_isModule_Ds
  rw [if_neg (nI_pos (by omega)), hT.1.2.2.2.2]
  by_cases z : m < A.1 46 0
  · rw [if_neg (nI_ge z (by omega)), obind]
    dsimp only
    rw [if_neg (by decide), if_neg (nI_in (show m < 3277 by omega) (by decide)), nI_clamp (by omega), ((hT.2.2.2.2.2.2 m z).1).2.2.2.1]
  · have : m = A.1 46 0 := by omega
    subst this
    rw [if_pos (nI_le (Nat.le_refl _) (by omega)), obind]
    dsimp only
    rw [if_pos rfl, hT.1.2.1, hJ.2.2.1]
theorem ownS_C (hJ : JB A) (hB : Bn A) (hT : CTb pl lit lc A sz c) (hm : m < A.1 46 0) : fn_Circuit_ownSignals_Cs N (nI m) c = some (nI (own A m), c) := by
  have r := hJ.r21 hm
  unfold fn_Circuit_ownSignals_Cs
  rw [nI_1, fDecl_C hJ hB hT (by omega), obind]
  dsimp only
  rw [fDecl_C hJ hB hT (by omega), obind]
  dsimp only
  rw [nI_sub (by omega)]
  rfl
theorem sumOf_C (hB : Bn A) (hT : CTb pl lit lc A sz c) (hm : m < A.1 46 0) : fn_Design_sumOf_Ds N 0 (nI m) c = some (nI (cap28 (A.1 30 m + 1)), c) ∧ fn_Design_sumOf_Ds N 1 (nI m) c = some (nI (cap28 (A.1 29 m)), c) ∧ fn_Design_sumOf_Ds N 2 (nI m) c = some (nI (cap28 (A.1 28 m)), c) ∧ fn_Design_sumOf_Ds N 3 (nI m) c = some (nI (cap28 (A.1 31 m)), c) ∧ fn_Design_sumOf_Ds N 4 (nI m) c = some (nI (cap28 (A.1 27 m)), c) := by
  have b := hB.2
  obtain ⟨-, s1, s2, s3, s4, s5⟩ := hT.2.2.2.2.2.2 m hm
  unfold fn_Design_sumOf_Ds fn_Design_isModule_Ds
  rw [if_neg (nI_pos (by omega)), hT.1.2.2.2.2, if_neg (nI_ge hm (by omega)), obind, obind, obind, obind, obind]
  dsimp only
  rw [nI_clamp (by omega), s1, s2, s3, s4, s5]
  simp only [eq_false (nI_in2 (show m < 3277 by omega) (show 3277 < 2 ^ 31 by decide)), if_false]
  exact ⟨rfl, rfl, rfl, rfl, rfl⟩
/-- instances told by now -/
def Ri (A : ds) (L : Nat → ly) (n i : Nat) (c : ms) : Prop := ∀ x, x < n → (x = 0 ∨ (L x).2.2.1 < i) → c.1 295 x = nI (L x).1 ∧ c.1 294 x = nI (L x).2.1 ∧ (0 < x → c.1 296 x = nI (L x).2.2.1 ∧ c.1 297 x = nI (L x).2.2.2)
theorem kids_L {i : Nat} (hJ : JB A) (hB : Bn A) (hL : Ly A L n ns) (hn : n ≤ 257) (hns : ns ≤ 1024) (hi : i < n) : ∀ (k j F : Nat) (c : ms), j + k = itn A (L i).1 → k < F → CTb pl lit lc A sz c → Ri A L n i c → (∀ j', j' < j → c.1 295 (i + 1 + ofI A (L i).1 j') = nI (A.1 10 (A.1 22 (L i).1 + j')) ∧ c.1 294 (i + 1 + ofI A (L i).1 j') = nI ((L i).2.1 + own A (L i).1 + ofS A (L i).1 j') ∧ c.1 296 (i + 1 + ofI A (L i).1 j') = nI i ∧ c.1 297 (i + 1 + ofI A (L i).1 j') = nI (A.1 22 (L i).1 + j')) → ∃ c', hd_Circuit_layChildren_Cs_47 N F (nI i) (nI (i + 1 + ofI A (L i).1 j)) (nI ((L i).2.1 + own A (L i).1 + ofS A (L i).1 j)) (nI (A.1 22 (L i).1 + itn A (L i).1)) (nI (A.1 22 (L i).1 + j)) c = some ((), c') ∧ Eb [294, 295, 296, 297] [] c c' ∧ Ri A L n (i + 1) c' := by
  have b := hB.2
  have hl := hL.2.2.2 i hi
  have hm := hl.1
  have r := hJ.r21 hm
  have sm := hJ.sums hm
  intro k
  induction k with
  | zero =>
    intro j F c hj hF hT hR hK
    obtain ⟨F, rfl⟩ : ∃ F', F = F' + 1 := ⟨F - 1, by omega⟩
    show ∃ c', bd_Circuit_layChildren_Cs_47 N (hd_Circuit_layChildren_Cs_47 N F) _ _ _ _ _ c = _ ∧ _
    unfold bd_Circuit_layChildren_Cs_47
    rw [if_pos (nI_le (by omega) (by omega))]
    refine ⟨c, rfl, Eb.rfl, fun x hx hp => ?_⟩
    by_cases z : x = 0 ∨ (L x).2.2.1 < i
    · exact hR x hx z
    · have x0 : 0 < x := by omega
      have pi : (L x).2.2.1 = i := by omega
      obtain ⟨p1, j', p2, p3, p4⟩ := (hL.2.2.2 x hx).2.2.2.2.1 x0
      rw [pi] at p2 p3 p4
      obtain ⟨q1, q2, q3, q4⟩ := hK j' (by omega)
      have lcc := hl.2.2.2.1 j' p2
      rw [← p3] at q1 q2 q3 q4 lcc
      rw [lcc]
      exact ⟨q1, q2, fun _ => ⟨q3, q4⟩⟩
  | succ k ih =>
    intro j F c hj hF hT hR hK
    obtain ⟨F, rfl⟩ : ∃ F', F = F' + 1 := ⟨F - 1, by omega⟩
    show ∃ c', bd_Circuit_layChildren_Cs_47 N (hd_Circuit_layChildren_Cs_47 N F) _ _ _ _ _ c = _ ∧ _
    unfold bd_Circuit_layChildren_Cs_47
    have jl : j < itn A (L i).1 := by omega
    obtain ⟨i1, i2, i3⟩ := hJ.item hm jl
    have cl := hL.kid hJ hi jl
    have smc := hJ.sums (m := A.1 10 (A.1 22 (L i).1 + j)) (by omega)
    have lcc := hl.2.2.2.1 j jl
    have hlc := hL.2.2.2 (i + 1 + ofI A (L i).1 j) (by omega)
    rw [lcc] at hlc
    dsimp only at hlc
    have r329 : c.1 329 (A.1 22 (L i).1 + j) = nI (A.1 10 (A.1 22 (L i).1 + j)) := (hT.2.2.2.1 _ i3).1
    have iC := nI_in (show i + 1 + ofI A (L i).1 j < 257 by omega) (by decide)
    rw [if_neg (nI_ge (by omega) (by omega)), if_neg (show ¬ (257 : Int32) ≤ nI (i + 1 + ofI A (L i).1 j) from nI_ge (b := 257) (by omega) (by omega)), if_neg (nI_in (show A.1 22 (L i).1 + j < 10923 by omega) (by decide)), if_neg iC, if_neg iC, if_neg iC, if_neg iC, nI_clamp (by omega), nI_clamp (by omega), r329]
    have e1 : Eb [294, 295, 296, 297] [] c (upI (upI (upI (upI c 294 (upd (c.1 294) (i + 1 + ofI A (L i).1 j) (nI ((L i).2.1 + own A (L i).1 + ofS A (L i).1 j)))) 295 (upd (c.1 295) (i + 1 + ofI A (L i).1 j) (nI (A.1 10 (A.1 22 (L i).1 + j))))) 296 (upd (c.1 296) (i + 1 + ofI A (L i).1 j) (nI i))) 297 (upd (c.1 297) (i + 1 + ofI A (L i).1 j) (nI (A.1 22 (L i).1 + j)))) := (((Eb.rfl.upI (by decide)).upI (by decide)).upI (by decide)).upI (by decide)
    have a294 : (upI (upI (upI (upI c 294 (upd (c.1 294) (i + 1 + ofI A (L i).1 j) (nI ((L i).2.1 + own A (L i).1 + ofS A (L i).1 j)))) 295 (upd (c.1 295) (i + 1 + ofI A (L i).1 j) (nI (A.1 10 (A.1 22 (L i).1 + j))))) 296 (upd (c.1 296) (i + 1 + ofI A (L i).1 j) (nI i))) 297 (upd (c.1 297) (i + 1 + ofI A (L i).1 j) (nI (A.1 22 (L i).1 + j)))).1 294 = upd (c.1 294) (i + 1 + ofI A (L i).1 j) (nI ((L i).2.1 + own A (L i).1 + ofS A (L i).1 j)) := rfl
    have a295 : (upI (upI (upI (upI c 294 (upd (c.1 294) (i + 1 + ofI A (L i).1 j) (nI ((L i).2.1 + own A (L i).1 + ofS A (L i).1 j)))) 295 (upd (c.1 295) (i + 1 + ofI A (L i).1 j) (nI (A.1 10 (A.1 22 (L i).1 + j))))) 296 (upd (c.1 296) (i + 1 + ofI A (L i).1 j) (nI i))) 297 (upd (c.1 297) (i + 1 + ofI A (L i).1 j) (nI (A.1 22 (L i).1 + j)))).1 295 = upd (c.1 295) (i + 1 + ofI A (L i).1 j) (nI (A.1 10 (A.1 22 (L i).1 + j))) := rfl
    have a296 : (upI (upI (upI (upI c 294 (upd (c.1 294) (i + 1 + ofI A (L i).1 j) (nI ((L i).2.1 + own A (L i).1 + ofS A (L i).1 j)))) 295 (upd (c.1 295) (i + 1 + ofI A (L i).1 j) (nI (A.1 10 (A.1 22 (L i).1 + j))))) 296 (upd (c.1 296) (i + 1 + ofI A (L i).1 j) (nI i))) 297 (upd (c.1 297) (i + 1 + ofI A (L i).1 j) (nI (A.1 22 (L i).1 + j)))).1 296 = upd (c.1 296) (i + 1 + ofI A (L i).1 j) (nI i) := rfl
    have a297 : (upI (upI (upI (upI c 294 (upd (c.1 294) (i + 1 + ofI A (L i).1 j) (nI ((L i).2.1 + own A (L i).1 + ofS A (L i).1 j)))) 295 (upd (c.1 295) (i + 1 + ofI A (L i).1 j) (nI (A.1 10 (A.1 22 (L i).1 + j))))) 296 (upd (c.1 296) (i + 1 + ofI A (L i).1 j) (nI i))) 297 (upd (c.1 297) (i + 1 + ofI A (L i).1 j) (nI (A.1 22 (L i).1 + j)))).1 297 = upd (c.1 297) (i + 1 + ofI A (L i).1 j) (nI (A.1 22 (L i).1 + j)) := rfl
    generalize upI (upI (upI (upI c 294 (upd (c.1 294) (i + 1 + ofI A (L i).1 j) (nI ((L i).2.1 + own A (L i).1 + ofS A (L i).1 j)))) 295 (upd (c.1 295) (i + 1 + ofI A (L i).1 j) (nI (A.1 10 (A.1 22 (L i).1 + j))))) 296 (upd (c.1 296) (i + 1 + ofI A (L i).1 j) (nI i))) 297 (upd (c.1 297) (i + 1 + ofI A (L i).1 j) (nI (A.1 22 (L i).1 + j))) = c1 at *
    have T1 : CTb pl lit lc A sz c1 := hT.keep (e1.mono (by decide) (by decide))
    obtain ⟨s1, s2, -⟩ := sumOf_C (N := N) (m := A.1 10 (A.1 22 (L i).1 + j)) hB T1 (by omega)
    rw [s1, obind]
    dsimp only
    rw [s2, obind]
    dsimp only
    have c30 : cap28 (A.1 30 (A.1 10 (A.1 22 (L i).1 + j)) + 1) = A.1 30 (A.1 10 (A.1 22 (L i).1 + j)) + 1 := by unfold cap28; omega
    have c29 : cap28 (A.1 29 (A.1 10 (A.1 22 (L i).1 + j))) = A.1 29 (A.1 10 (A.1 22 (L i).1 + j)) := by unfold cap28; omega
    rw [c30, c29, nI_add, nI_add, nI_1]
    have x1 : i + 1 + ofI A (L i).1 j + (A.1 30 (A.1 10 (A.1 22 (L i).1 + j)) + 1) = i + 1 + ofI A (L i).1 (j + 1) := by rw [ofI_succ]; omega
    have x2 : (L i).2.1 + own A (L i).1 + ofS A (L i).1 j + A.1 29 (A.1 10 (A.1 22 (L i).1 + j)) = (L i).2.1 + own A (L i).1 + ofS A (L i).1 (j + 1) := by rw [ofS_succ]; omega
    rw [x1, x2]
    obtain ⟨c', y1, y2, y3⟩ := ih (j + 1) F c1 (by omega) (by omega) T1 (fun x hx hp => by
      have ne : x ≠ i + 1 + ofI A (L i).1 j := fun z => by
        rw [z, lcc] at hp
        dsimp only at hp
        omega
      rw [a294, a295, a296, a297, upd_ne ne, upd_ne ne, upd_ne ne, upd_ne ne]
      exact hR x hx hp) (fun j' hj' => by
      rw [a294, a295, a296, a297]
      by_cases z : j' = j
      · subst z
        rw [upd_at, upd_at, upd_at, upd_at]
        exact ⟨rfl, rfl, rfl, rfl⟩
      · have := ofI_lt (A := A) (m := (L i).1) (j := j') (k := j) (by omega)
        rw [upd_ne (by omega), upd_ne (by omega), upd_ne (by omega), upd_ne (by omega)]
        exact hK j' (by omega))
    exact ⟨c', y1, e1.trans y2, y3⟩
theorem lkids_C {i : Nat} (hN : 13002 < N) (hJ : JB A) (hB : Bn A) (hL : Ly A L n ns) (hn : n ≤ 257) (hns : ns ≤ 1024) (hi : i < n) (hT : CTb pl lit lc A sz c) (hR : Ri A L n i c) : ∃ c', fn_Circuit_layChildren_Cs N (nI i) c = some ((), c') ∧ Eb [294, 295, 296, 297] [] c c' ∧ Ri A L n (i + 1) c' := by
  have b := hB.2
  have hl := hL.2.2.2 i hi
  have r := hJ.r21 hl.1
  have ri := hR i hi (by
    by_cases z : i = 0
    · exact Or.inl z
    · exact Or.inr (hl.2.2.2.2.1 (by omega)).1)
  unfold fn_Circuit_layChildren_Cs
  rw [if_neg (nI_in (show i < 257 by omega) (by decide)), if_neg (nI_in (show i < 257 by omega) (by decide)), nI_clamp (by omega), ri.1, ri.2.1, ownS_C hJ hB hT hl.1, obind]
  dsimp only
  rw [nI_1, fChild_C hJ hB hT (by omega), obind]
  dsimp only
  rw [fChild_C hJ hB hT (by omega), obind]
  dsimp only
  rw [nI_1, nI_add, ← r.2.2.1]
  exact kids_L (pl := pl) (lit := lit) (lc := lc) (sz := sz) hJ hB hL hn hns hi (itn A (L i).1) 0 N c (by omega) (by omega) hT hR (fun j' h => by omega)
end CBU
