/-! Limits, of both sides. -/
/-- bits of inputs -/
def inS (A : ds) : Nat → Nat → Nat
  | 0, _ => 0
  | k + 1, d => (if A.1 2 d = 0 then A.1 1 d else 0) + inS A k (d + 1)
def inb (A : ds) : Nat := inS A (own A (A.1 46 0 - 1)) (A.1 21 (A.1 46 0 - 1))
def lim (A : ds) : Nat := if 256 < A.1 30 (A.1 46 0 - 1) then 40 else if 1024 < A.1 29 (A.1 46 0 - 1) then 41 else if 12 < A.1 28 (A.1 46 0 - 1) then 42 else if 6 < inb A then 43 else if 1500 < A.1 27 (A.1 46 0 - 1) then 44 else if 16777216 < 2 ^ (A.1 28 (A.1 46 0 - 1) + inb A) * max 1 (A.1 27 (A.1 46 0 - 1)) then 46 else 0
theorem pwC : ∀ b : Fin 13, ∀ i : Fin 7, ((1 : Int64) <<< ((Int32.toInt64 (nI b.1 + nI i.1)) &&& 63)) = lN (2 ^ (b.1 + i.1)) := by decide +kernel
theorem pwM : ∀ b : Fin 13, ∀ i : Fin 7, ((1 : Int64) <<< ((Int32.toInt64 (Int64.toInt32 (lN b.1) + Int64.toInt32 (lN i.1))) &&& 63)) = lN (2 ^ (b.1 + i.1)) := by decide +kernel
section LIM
variable {tk pl : Nat → Nat} {nt t : Nat} {lit : Nat → Int64} {A : ds} {N lc sz la nc : Nat} {c c' s s' : ms}
theorem inS_le (hW : ∀ d, d < A.1 40 0 → A.1 1 d ≤ 64) : ∀ (k d : Nat), d + k ≤ A.1 40 0 → inS A k d ≤ 64 * k
  | 0, d, _ => Nat.zero_le _
  | k + 1, d, h => by
    have := inS_le hW k (d + 1) (by omega)
    have := hW d (by omega)
    show (if A.1 2 d = 0 then A.1 1 d else 0) + inS A k (d + 1) ≤ 64 * (k + 1)
    split <;> omega
/-! the class -/
theorem CTb.k310 {g : Nat → Int32} (h : CTb pl lit lc A sz c) : CTb pl lit lc A sz (upI c 310 g) := by
  have e : Eb [310] [] c (upI c 310 g) := Eb.rfl.upI (by decide)
  unfold CTb Cdr Cit Clk Cpc CLr at *
  rw [e.1 321 (by decide), e.1 328 (by decide), e.1 332 (by decide), e.1 317 (by decide), e.1 309 (by decide), e.1 322 (by decide), e.1 323 (by decide), e.1 324 (by decide), e.2 325 (by decide), e.1 326 (by decide), e.1 327 (by decide), e.2 336 (by decide), e.1 329 (by decide), e.1 330 (by decide), e.1 331 (by decide), e.1 333 (by decide), e.1 334 (by decide), e.1 335 (by decide), e.1 320 (by decide), e.1 318 (by decide), e.1 319 (by decide), e.1 311 (by decide), e.1 312 (by decide), e.1 313 (by decide), e.1 314 (by decide), e.1 315 (by decide), e.1 600 (by decide), e.1 601 (by decide), e.1 602 (by decide), e.1 603 (by decide), e.1 604 (by decide)]
  exact h
theorem exc_L (hB : Bn A) (hJ : JB A) (hWF : WF tk nt A t) : ∀ (k d F acc : Nat) (c : ms), d + k = A.1 40 0 → A.1 21 (A.1 46 0 - 1) ≤ d → k < F → acc + 64 * k ≤ 400000 → CTb pl lit lc A sz c → c.1 310 0 = nI acc → ∃ c', hd_Design_excess_Ds_18 N F (nI (A.1 46 0 - 1)) (nI d) c = hd_Design_excess_Ds_18 N 1 (nI (A.1 46 0 - 1)) (nI (A.1 40 0)) c' ∧ Eb [310] [] c c' ∧ CTb pl lit lc A sz c' ∧ c'.1 310 0 = nI (acc + inS A k d) := by
  have b := hB.2
  intro k
  induction k with
  | zero =>
    intro d F acc c hd h1 hF ha hT h310
    obtain ⟨F, rfl⟩ : ∃ F', F = F' + 1 := ⟨F - 1, by omega⟩
    obtain rfl : d = A.1 40 0 := by omega
    refine ⟨c, ?_, Eb.rfl, hT, h310⟩
    show bd_Design_excess_Ds_18 N (hd_Design_excess_Ds_18 N F) _ _ c = bd_Design_excess_Ds_18 N (hd_Design_excess_Ds_18 N 0) _ _ c
    unfold bd_Design_excess_Ds_18
    rw [hT.1.1, if_pos (nI_le (Nat.le_refl _) (by omega)), if_pos (nI_le (Nat.le_refl _) (by omega))]
  | succ k ih =>
    intro d F acc c hd h1 hF ha hT h310
    obtain ⟨F, rfl⟩ : ∃ F', F = F' + 1 := ⟨F - 1, by omega⟩
    obtain ⟨-, t323, t324, -⟩ := hT.2.1 d (by omega)
    obtain ⟨-, -, w1, w2, w3, -⟩ := hWF.2.1 d (by omega)
    show ∃ c', bd_Design_excess_Ds_18 N (hd_Design_excess_Ds_18 N F) _ _ c = _ ∧ _
    unfold bd_Design_excess_Ds_18
    rw [hT.1.1, if_neg (nI_ge (show d < A.1 40 0 by omega) (by omega)), if_neg (nI_in (show d < 10923 by omega) (by decide)), nI_clamp (show d < 2 ^ 31 by omega), t324]
    by_cases z : A.1 2 d = 0
    · rw [if_pos (srt_0.mpr z), if_neg (nI_in2 (show d < 10923 by omega) (by decide)), h310, t323, capped_C (by omega) (by omega), obind]
      dsimp only
      obtain ⟨c', f1, f2, f3, f4⟩ := ih (d + 1) F (acc + A.1 1 d) (upI c 310 (fun _ => nI (cap28 (acc + A.1 1 d)))) (by omega) (by omega) (by omega) (by omega) hT.k310 (by show nI (cap28 (acc + A.1 1 d)) = _; rw [show cap28 (acc + A.1 1 d) = acc + A.1 1 d by unfold cap28; omega])
      refine ⟨c', by rw [nI_1]; exact f1, (Eb.rfl.upI (by decide)).trans f2, f3, ?_⟩
      rw [f4]
      show _ = nI (acc + ((if A.1 2 d = 0 then A.1 1 d else 0) + inS A k (d + 1)))
      rw [if_pos z, Nat.add_assoc]
    · rw [if_neg (fun q => z (srt_0.mp q)), nI_1]
      obtain ⟨c', f1, f2, f3, f4⟩ := ih (d + 1) F acc c (by omega) (by omega) (by omega) (by omega) hT h310
      refine ⟨c', f1, f2, f3, ?_⟩
      rw [f4]
      show _ = nI (acc + ((if A.1 2 d = 0 then A.1 1 d else 0) + inS A k (d + 1)))
      rw [if_neg z, Nat.zero_add]
theorem cap_le {x k : Nat} (hk : k < 268435456) : nI (cap28 x) ≤ nI k ↔ x ≤ k := by
  unfold cap28
  constructor
  · intro z
    apply Decidable.byContradiction
    intro q
    exact nI_ge (show k < min 268435456 x by omega) (by omega) z
  · intro z
    exact nI_le (by omega) (by omega)
theorem excess_C (hN : 13002 < N) (hB : Bn A) (hJ : JB A) (hWF : WF tk nt A t) (hT : CTb pl lit lc A sz c) : ∃ c', fn_Design_excess_Ds N c = some (nI (lim A), c') ∧ Eb [310] [] c c' ∧ CTb pl lit lc A sz c' ∧ c'.1 310 0 = nI (inb A) := by
  have b := hB.2
  have b0 := hB.1
  have hm : A.1 46 0 - 1 < A.1 46 0 := by omega
  have r := hJ.r21 hm
  rw [show A.1 46 0 - 1 + 1 = A.1 46 0 by omega, hJ.2.1] at r
  have ib : inb A ≤ 64 * own A (A.1 46 0 - 1) := inS_le (fun d hd => (hWF.2.1 d hd).2.2.2.1) _ _ (by omega)
  unfold fn_Design_excess_Ds
  rw [hT.1.2.2.2.2, show nI (A.1 46 0) - 1 = nI (A.1 46 0 - 1) from nI_sub (b := 1) (by omega), fDecl_C hJ hB hT.k310 (by omega), obind]
  dsimp only
  obtain ⟨c', f1, f2, f3, f4⟩ := exc_L (N := N) hB hJ hWF (own A (A.1 46 0 - 1)) (A.1 21 (A.1 46 0 - 1)) N 0 (upI c 310 (fun _ => 0)) (by omega) (Nat.le_refl _) (by omega) (by omega) hT.k310 rfl
  rw [Nat.zero_add] at f4
  have f4 : c'.1 310 0 = nI (inb A) := f4
  refine ⟨c', ?_, (Eb.rfl.upI (by decide)).trans f2, f3, f4⟩
  rw [f1]
  show bd_Design_excess_Ds_18 N (hd_Design_excess_Ds_18 N 0) _ _ c' = _
  obtain ⟨s0, s1, s2, s3, s4⟩ := sumOf_C (N := N) hB f3 hm
  unfold bd_Design_excess_Ds_18
  rw [f3.1.1, if_pos (nI_le (Nat.le_refl _) (by omega)), s2, obind]
  dsimp only
  rw [s4, obind]
  dsimp only
  rw [s0, obind]
  dsimp only
  rw [s1, obind]
  dsimp only
  rw [f4, show nI (cap28 (A.1 30 (A.1 46 0 - 1) + 1)) - 1 = nI (cap28 (A.1 30 (A.1 46 0 - 1) + 1) - 1) from nI_sub (b := 1) (by unfold cap28; omega)]
  have c0 : (nI (cap28 (A.1 30 (A.1 46 0 - 1) + 1) - 1) ≤ 256) ↔ A.1 30 (A.1 46 0 - 1) ≤ 256 := by
    constructor
    · intro z
      apply Decidable.byContradiction
      intro q
      exact nI_ge (a := 256) (show 256 < cap28 (A.1 30 (A.1 46 0 - 1) + 1) - 1 by unfold cap28; omega) (by unfold cap28; omega) z
    · intro z
      exact nI_le (b := 256) (by unfold cap28; omega) (by omega)
  have c1 : (nI (cap28 (A.1 29 (A.1 46 0 - 1))) ≤ 1024) ↔ A.1 29 (A.1 46 0 - 1) ≤ 1024 := cap_le (k := 1024) (by decide)
  have c2 : (nI (cap28 (A.1 28 (A.1 46 0 - 1))) ≤ 12) ↔ A.1 28 (A.1 46 0 - 1) ≤ 12 := cap_le (k := 12) (by decide)
  have c4 : (nI (cap28 (A.1 27 (A.1 46 0 - 1))) ≤ 1500) ↔ A.1 27 (A.1 46 0 - 1) ≤ 1500 := cap_le (k := 1500) (by decide)
  unfold lim
  by_cases l0 : A.1 30 (A.1 46 0 - 1) ≤ 256
  · rw [if_pos (c0.mpr l0), if_neg (show ¬ 256 < A.1 30 (A.1 46 0 - 1) by omega)]
    by_cases l1 : A.1 29 (A.1 46 0 - 1) ≤ 1024
    · rw [if_pos (c1.mpr l1), if_neg (show ¬ 1024 < A.1 29 (A.1 46 0 - 1) by omega)]
      by_cases l2 : A.1 28 (A.1 46 0 - 1) ≤ 12
      · rw [if_pos (c2.mpr l2), if_neg (show ¬ 12 < A.1 28 (A.1 46 0 - 1) by omega)]
        by_cases l3 : inb A ≤ 6
        · rw [if_pos (show nI (inb A) ≤ 6 from nI_le (b := 6) l3 (by omega)), if_neg (show ¬ 6 < inb A by omega)]
          by_cases l4 : A.1 27 (A.1 46 0 - 1) ≤ 1500
          · rw [if_pos (c4.mpr l4), if_neg (show ¬ 1500 < A.1 27 (A.1 46 0 - 1) by omega)]
            have e1 : cap28 (A.1 27 (A.1 46 0 - 1)) = A.1 27 (A.1 46 0 - 1) := by unfold cap28; omega
            have e2 : cap28 (A.1 28 (A.1 46 0 - 1)) = A.1 28 (A.1 46 0 - 1) := by unfold cap28; omega
            have e3 : (if (1 : Int32) < nI (A.1 27 (A.1 46 0 - 1)) then nI (A.1 27 (A.1 46 0 - 1)) else 1) = nI (max 1 (A.1 27 (A.1 46 0 - 1))) := by
              by_cases z : 1 < A.1 27 (A.1 46 0 - 1)
              · rw [if_pos (show (1 : Int32) < nI (A.1 27 (A.1 46 0 - 1)) from nI_lt (a := 1) z (by omega)), show max 1 (A.1 27 (A.1 46 0 - 1)) = A.1 27 (A.1 46 0 - 1) by omega]
              · rw [if_neg (show ¬ (1 : Int32) < nI (A.1 27 (A.1 46 0 - 1)) from fun q => absurd q (Int32.not_lt.mpr (nI_le (b := 1) (by omega) (by omega)))), show max 1 (A.1 27 (A.1 46 0 - 1)) = 1 by omega]
                rfl
            have pw := pwC ⟨A.1 28 (A.1 46 0 - 1), by omega⟩ ⟨inb A, by omega⟩
            dsimp only at pw
            rw [e1, e2, e3, pw, nI_l63 (by omega), lN_mul]
            have p2 : 2 ^ (A.1 28 (A.1 46 0 - 1) + inb A) ≤ 2 ^ 18 := Nat.pow_le_pow_right (by decide) (by omega)
            have p3 : 2 ^ (A.1 28 (A.1 46 0 - 1) + inb A) * max 1 (A.1 27 (A.1 46 0 - 1)) ≤ 2 ^ 18 * 1500 := Nat.mul_le_mul p2 (by omega)
            have lg : (lg_cmp (lN (2 ^ (A.1 28 (A.1 46 0 - 1) + inb A) * max 1 (A.1 27 (A.1 46 0 - 1)))) 16777216 ≤ 0) ↔ 2 ^ (A.1 28 (A.1 46 0 - 1) + inb A) * max 1 (A.1 27 (A.1 46 0 - 1)) ≤ 16777216 := lgle (b := 16777216) (by omega) (by decide)
            by_cases l5 : 2 ^ (A.1 28 (A.1 46 0 - 1) + inb A) * max 1 (A.1 27 (A.1 46 0 - 1)) ≤ 16777216
            · rw [if_pos (lg.mpr l5), if_neg (show ¬ 16777216 < 2 ^ (A.1 28 (A.1 46 0 - 1) + inb A) * max 1 (A.1 27 (A.1 46 0 - 1)) by omega)]; rfl
            · rw [if_neg (fun q => l5 (lg.mp q)), if_pos (show 16777216 < 2 ^ (A.1 28 (A.1 46 0 - 1) + inb A) * max 1 (A.1 27 (A.1 46 0 - 1)) by omega)]; rfl
          · rw [if_neg (fun q => l4 (c4.mp q)), if_pos (show 1500 < A.1 27 (A.1 46 0 - 1) by omega)]; rfl
        · rw [if_neg (show ¬ nI (inb A) ≤ 6 from nI_ge (a := 6) (by omega) (by omega)), if_pos (show 6 < inb A by omega)]; rfl
      · rw [if_neg (fun q => l2 (c2.mp q)), if_pos (show 12 < A.1 28 (A.1 46 0 - 1) by omega)]; rfl
    · rw [if_neg (fun q => l1 (c1.mp q)), if_pos (show 1024 < A.1 29 (A.1 46 0 - 1) by omega)]; rfl
  · rw [if_neg (fun q => l0 (c0.mp q)), if_pos (show 256 < A.1 30 (A.1 46 0 - 1) by omega)]; rfl
end LIM
