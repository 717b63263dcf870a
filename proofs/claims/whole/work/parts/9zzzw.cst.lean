/-! The class's circuit that stands. -/
theorem swN_inv (j : Nat) : swN (swN j) = j := by
  unfold swN
  simp only [Bool.cond_eq_ite, Bool.and_eq_true, Nat.ble_eq]
  by_cases h1 : 291 ≤ j ∧ j ≤ 340
  · rw [if_pos h1, if_neg (by omega), if_pos (by omega)]; omega
  rw [if_neg h1]
  by_cases h2 : 341 ≤ j ∧ j ≤ 390
  · rw [if_pos h2, if_pos (by omega)]; omega
  rw [if_neg h2]
  by_cases h3 : 108 ≤ j ∧ j ≤ 111
  · rw [if_pos h3, if_neg (by omega), if_neg (by omega), if_neg (by omega), if_pos (by omega)]; omega
  rw [if_neg h3]
  by_cases h4 : 112 ≤ j ∧ j ≤ 115
  · rw [if_pos h4, if_neg (by omega), if_neg (by omega), if_pos (by omega)]; omega
  rw [if_neg h4]
  by_cases h5 : 600 ≤ j ∧ j ≤ 604
  · rw [if_pos h5, if_neg (by omega), if_neg (by omega), if_neg (by omega), if_neg (by omega), if_neg (by omega), if_pos (by omega)]; omega
  rw [if_neg h5]
  by_cases h6 : 610 ≤ j ∧ j ≤ 614
  · rw [if_pos h6, if_neg (by omega), if_neg (by omega), if_neg (by omega), if_neg (by omega), if_pos (by omega)]; omega
  rw [if_neg h6, if_neg h1, if_neg h2, if_neg h3, if_neg h4, if_neg h5, if_neg h6]
theorem swS_inv (s : ms) : swS (swS s) = s := by
  unfold swS
  refine Prod.ext ?_ ?_
  · funext j; show s.1 (swN (swN j)) = _; rw [swN_inv]
  · funext j; show s.2 (swN (swN j)) = _; rw [swN_inv]
/-- both sides' tables are as they were -/
def SwE (c c' : ms) : Prop := ∀ k, swN k ≠ k → c'.1 k = c.1 k ∧ c'.2 k = c.2 k
theorem SwE.of {ks js : List Nat} {c c' : ms} (e : Eb ks js c c') (hk : ∀ k, k ∈ ks → swN k = k) (hj : ∀ k, k ∈ js → swN k = k) : SwE c c' := fun k h => ⟨e.1 k (fun z => h (hk k z)), e.2 k (fun z => h (hj k z))⟩
theorem SwE.trans {a b c : ms} (h : SwE a b) (g : SwE b c) : SwE a c := fun k q => ⟨(g k q).1.trans (h k q).1, (g k q).2.trans (h k q).2⟩
theorem SwE.sw {c c' : ms} (e : SwE c c') : SwE (swS c) (swS c') := fun k h => e (swN k) (by rw [swN_inv]; exact Ne.symm h)
def CSt (pl : Nat → Nat) (lit : Nat → Int64) (lc : Nat) (A : ds) (sz : Nat) (L : Nat → ly) (n ns : Nat) (ord : List Nat) (c : ms) : Prop := CTb pl lit lc A sz (swS c) ∧ Bi A L lit lc sz n n (swS c) ∧ (c.1 342 0 = nI n ∧ n ≤ 257 ∧ c.1 343 0 = nI ns ∧ ns ≤ 1024) ∧ (c.1 387 0 = nI sz ∧ sz ≤ 16000 ∧ c.1 390 0 = nI lc ∧ lc < 13000 ∧ c.2 389 = lit) ∧ c.1 354 0 = nI ord.length ∧ ∀ k o, ord[k]? = some o → c.1 353 k = nI o
section CST
variable {tk pl : Nat → Nat} {nt t : Nat} {lit : Nat → Int64} {A : ds} {L : Nat → ly} {n ns N lc sz : Nat} {ord : List Nat} {c c' : ms}
theorem CTb.sw (h : CTb pl lit lc A sz c) (e : SwE c c') : CTb pl lit lc A sz c' := by
  unfold CTb Cdr Cit Clk Cpc CLr at *
  rw [(e 321 (by decide)).1, (e 328 (by decide)).1, (e 332 (by decide)).1, (e 317 (by decide)).1, (e 309 (by decide)).1, (e 322 (by decide)).1, (e 323 (by decide)).1, (e 324 (by decide)).1, (e 325 (by decide)).2, (e 326 (by decide)).1, (e 327 (by decide)).1, (e 336 (by decide)).2, (e 329 (by decide)).1, (e 330 (by decide)).1, (e 331 (by decide)).1, (e 333 (by decide)).1, (e 334 (by decide)).1, (e 335 (by decide)).1, (e 318 (by decide)).1, (e 319 (by decide)).1, (e 320 (by decide)).1, (e 311 (by decide)).1, (e 312 (by decide)).1, (e 313 (by decide)).1, (e 314 (by decide)).1, (e 315 (by decide)).1, (e 600 (by decide)).1, (e 601 (by decide)).1, (e 602 (by decide)).1, (e 603 (by decide)).1, (e 604 (by decide)).1]
  exact h
theorem Bi.sw {i : Nat} (h : Bi A L lit lc sz n i c) (e : SwE c c') : Bi A L lit lc sz n i c' := by
  unfold Bi Ri Cr1 CLr at *
  rw [(e 294 (by decide)).1, (e 295 (by decide)).1, (e 296 (by decide)).1, (e 297 (by decide)).1, (e 298 (by decide)).1, (e 299 (by decide)).1, (e 300 (by decide)).1, (e 301 (by decide)).1, (e 302 (by decide)).1, (e 336 (by decide)).2]
  exact h
theorem CSt.keep (h : CSt pl lit lc A sz L n ns ord c) (e : SwE c c') : CSt pl lit lc A sz L n ns ord c' := by
  obtain ⟨h1, h2, h3, h4, h5⟩ := h
  refine ⟨h1.sw e.sw, h2.sw e.sw, ?_, ?_, ?_⟩
  · rw [(e 342 (by decide)).1, (e 343 (by decide)).1]; exact h3
  · rw [(e 387 (by decide)).1, (e 390 (by decide)).1, (e 389 (by decide)).2]; exact h4
  · rw [(e 354 (by decide)).1, (e 353 (by decide)).1]; exact h5
theorem kid_lt (hJ : JB A) (hL : Ly A L n ns) {i q : Nat} (hi : i < n) (hq : q < own A (L i).1) (z : (Ru A L i q).1 = 2) : kidOf A L i q < n := by
  have hl := hL.2.2.2 i hi
  obtain ⟨n1, n2⟩ := hJ.name hl.1 hq
  have a5 := (hJ.1.1.1 _ n2).2.2.2.2.1
  have a7 := (hJ.1.1.1 _ n2).2.2.2.2.2.2.1 (by rw [n1]; exact hl.1)
  have h4 : A.1 4 (A.1 21 (L i).1 + q) = 2 := by
    unfold Ru at z
    split at z
    · split at z <;> cases z
    · split at z
      · rename_i h1
        split at z
        · cases z
        · have := a7 h1; omega
      · cases z
  obtain ⟨j, k, j1, j2, -⟩ := hJ.drv2 hl.1 hq h4
  unfold kidOf
  rw [j2, show A.1 22 (L i).1 + j - A.1 22 (L i).1 = j by omega]
  have := hL.kid hJ hi j1
  omega
theorem CSt.st (h : CSt pl lit lc A sz L n ns ord c) : Cst c sz lc (c.2 386) lit := ⟨h.2.2.2.1.1, h.2.2.2.1.2.1, h.2.2.2.1.2.2.1, h.2.2.2.1.2.2.2.1, rfl, h.2.2.2.1.2.2.2.2⟩
theorem CSt.ccs (hJ : JB A) (hL : Ly A L n ns) (h : CSt pl lit lc A sz L n ns ord c) : CCs A L n ns lit lc sz (c.2 386) ord c := by
  have hst := h.st
  obtain ⟨h1, h2, h3, h4, h5⟩ := h
  refine ⟨hst, h3.2.2.1, h3.2.2.2, h5.1, h5.2, fun x hx => ?_⟩
  obtain ⟨i, q, hi, hq, rfl⟩ := hL.sig hx
  obtain ⟨e1, e2⟩ := RS_at hL hi hq
  obtain ⟨-, -, k1, k2⟩ := h2.2 i hi q hq
  rw [e1]
  refine ⟨fun z => ?_, fun z => (k2 z).2.1 (kid_lt hJ hL hi hq z)⟩
  obtain ⟨g1, ⟨a, g2, g3, g4, g5⟩, g6⟩ := k1 z
  exact ⟨g1, g6, a, g2, g3, g4, g5⟩
theorem firstPiece_C {m : Nat} (hJ : JB A) (hB : Bn A) (h : CSt pl lit lc A sz L n ns ord c) (hm : m ≤ A.1 46 0) : fn_Design_firstPiece_Dc N (nI m) c = some (nI (A.1 25 m), c) := by
  obtain ⟨h1, h2, h3, h4, h5⟩ := h
  obtain ⟨⟨-, -, -, t4, t5⟩, -, -, -, -, -, t6⟩ := h1
  have t4 : c.1 367 0 = nI (A.1 45 0) := t4
  have t5 : c.1 359 0 = nI (A.1 46 0) := t5
  have b := hB.2
  unfold fn_Design_firstPiece_Dc fn_Design_isModule_Dc
  rw [t5, if_neg (nI_pos (by omega))]
  by_cases z : m = A.1 46 0
  · subst z
    rw [if_pos (nI_le (Nat.le_refl _) (by omega)), obind]
    dsimp only
    rw [if_pos rfl, t4, hJ.2.2.2.2.2]
  · rw [if_neg (nI_ge (show m < A.1 46 0 by omega) (by omega)), obind]
    dsimp only
    have t7 : c.1 365 m = nI (A.1 25 m) := (t6 m (by omega)).1.2.2.2.2
    rw [if_neg (show ¬ (1 : Int32) = 0 by decide), if_neg (nI_in (show m < 3277 by omega) (by decide)), nI_clamp (by omega), t7]
end CST
