/-! Limits: the reference. -/
def bdS (ok : Bool) (k p : Int32) (s : ms) : ms := if ok = true then s else if s.1 9 0 = 0 then upI (upI s 9 (fun _ => k)) 10 (fun _ => p) else s
theorem bound_M {N : Nat} {ok : Bool} {k p : Int32} {s : ms} : fn_M_bound N (b01 ok) k p s = some ((), bdS ok k p s) := by
  unfold fn_M_bound bdS fn_M_fail
  cases ok
  · rw [if_pos (show b01 false = 0 by decide), if_neg (show ¬ false = true by decide)]
    by_cases z : s.1 9 0 = 0
    · rw [if_pos z, if_pos z]; rfl
    · rw [if_neg z, if_neg z]; rfl
  · rw [if_neg (show ¬ b01 true = 0 by decide), if_pos rfl]
theorem bdS_2 {ok : Bool} {k p : Int32} {s : ms} : (bdS ok k p s).2 = s.2 := by
  unfold bdS
  split
  · rfl
  · split <;> rfl
theorem bdS_dead {ok : Bool} {k p : Int32} {s : ms} (h : ¬ s.1 9 0 = 0) : bdS ok k p s = s := by
  unfold bdS
  rw [if_neg h]
  split <;> rfl
theorem bdS_ok {k p : Int32} {s : ms} : bdS true k p s = s := if_pos rfl
theorem bdS_no {k p : Int32} {s : ms} (h : s.1 9 0 = 0) : bdS false k p s = upI (upI s 9 (fun _ => k)) 10 (fun _ => p) := by
  unfold bdS
  rw [if_neg (by decide), if_pos h]
section MLIM
variable {tk pl : Nat → Nat} {nt t : Nat} {A : ds} {N la nc : Nat} {s s' : ms}
theorem mst_le9 {x : Nat} : mst x ≤ 1000000000 := by unfold mst; split <;> omega
theorem mst_gt {x k : Nat} (hk : k < 1000000000) : k < mst x ↔ k < x := by unfold mst; split <;> omega
theorem gtb {α : Type} {a k : Nat} {f : Int32 → α} (ha : a < 2 ^ 62) (hk : k < 2 ^ 62) : (if 0 < lg_cmp (lN a) (lN k) then f 0 else f 1) = f (b01 (decide (a ≤ k))) := by
  have e := lgle ha hk
  by_cases z : a ≤ k
  · rw [if_neg (fun q => absurd (e.mpr z) (Int32.not_le.mpr q)), decide_eq_true z]; rfl
  · rw [if_pos (Int32.not_le.mp (fun q => z (e.mp q))), decide_eq_false z]; rfl
theorem limI_L (hB : Bn A) (hJ : JB A) (hWF : WF tk nt A t) {x2 : Int32} : ∀ (k d F acc : Nat) (s : ms), d + k = A.1 40 0 → k < F → MTb A la nc s → hd_M_limits_29 N F (nI (A.1 46 0 - 1)) x2 (lN acc) (nI d) s = hd_M_limits_29 N 1 (nI (A.1 46 0 - 1)) x2 (lN (acc + inS A k d)) (nI (A.1 40 0)) s := by
  have b := hB.2
  have b0 := hB.1
  intro k
  induction k with
  | zero =>
    intro d F acc s hd hF hT
    obtain ⟨F, rfl⟩ : ∃ F', F = F' + 1 := ⟨F - 1, by omega⟩
    obtain rfl : d = A.1 40 0 := by omega
    have m14 : s.1 14 (A.1 46 0) = nI (A.1 40 0) := by rw [(hT.2.2 (A.1 46 0) (Nat.le_refl _)).1, hJ.2.1]
    show bd_M_limits_29 N (hd_M_limits_29 N F) _ _ _ _ s = bd_M_limits_29 N (hd_M_limits_29 N 0) _ _ _ _ s
    unfold bd_M_limits_29
    rw [nI_1, show A.1 46 0 - 1 + 1 = A.1 46 0 by omega, nI_clamp (show A.1 46 0 < 2 ^ 31 by omega), m14, if_pos (nI_le (Nat.le_refl _) (by omega)), if_pos (nI_le (Nat.le_refl _) (by omega))]
    rfl
  | succ k ih =>
    intro d F acc s hd hF hT
    obtain ⟨F, rfl⟩ : ∃ F', F = F' + 1 := ⟨F - 1, by omega⟩
    have m14 : s.1 14 (A.1 46 0) = nI (A.1 40 0) := by rw [(hT.2.2 (A.1 46 0) (Nat.le_refl _)).1, hJ.2.1]
    obtain ⟨-, t20, t21, -⟩ := hT.1.2.1 d (by omega)
    obtain ⟨-, -, w1, w2, w3, -⟩ := hWF.2.1 d (by omega)
    refine Eq.trans (b := bd_M_limits_29 N (hd_M_limits_29 N F) (nI (A.1 46 0 - 1)) x2 (lN acc) (nI d) s) rfl ?_
    unfold bd_M_limits_29
    rw [nI_1, show A.1 46 0 - 1 + 1 = A.1 46 0 by omega, if_neg (nI_in (show A.1 46 0 < 3601 by omega) (by decide)), nI_clamp (show A.1 46 0 < 2 ^ 31 by omega), m14, if_neg (nI_ge (show d < A.1 40 0 by omega) (by omega)), if_neg (nI_in (show d < 11000 by omega) (by decide)), nI_clamp (show d < 2 ^ 31 by omega), t21]
    show _ = hd_M_limits_29 N 1 (nI (A.1 46 0 - 1)) x2 (lN (acc + ((if A.1 2 d = 0 then A.1 1 d else 0) + inS A k (d + 1)))) (nI (A.1 40 0)) s
    by_cases z : A.1 2 d = 0
    · rw [z, if_pos (show nI 0 = 0 from rfl), if_neg (nI_in2 (show d < 11000 by omega) (by decide)), t20, nI_l63 (by omega), lN_plus, nI_1, ih (d + 1) F (acc + A.1 1 d) s (by omega) (by omega) hT, if_pos rfl, Nat.add_assoc]
    · rw [if_neg (nI_n0 z (by omega)), nI_1, ih (d + 1) F acc s (by omega) (by omega) hT, if_neg z, Nat.zero_add]
theorem limits_M (hN : 13002 < N) (hB : Bn A) (hJ : JB A) (hWF : WF tk nt A t) (hnt : nt ≤ 12001) (hT : MTb A la nc s) (h5 : ∀ i, i < nt → s.1 5 i = nI (pl i)) (h9 : s.1 9 0 = 0) : ∃ s', fn_M_limits N s = some ((), s') ∧ (lim A = 0 → s' = s) ∧ (lim A ≠ 0 → s' = upI (upI s 9 (fun _ => nI (lim A))) 10 (fun _ => nI (pl (A.1 20 (A.1 46 0 - 1))))) := by
  have b := hB.2
  have b0 := hB.1
  have hm : A.1 46 0 - 1 < A.1 46 0 := by omega
  have r := hJ.r21 hm
  rw [show A.1 46 0 - 1 + 1 = A.1 46 0 by omega, hJ.2.1] at r
  have ib : inb A ≤ 64 * own A (A.1 46 0 - 1) := inS_le (fun d hd => (hWF.2.1 d hd).2.2.2.1) _ _ (by omega)
  obtain ⟨t13, t45, t46, t47, t48⟩ := hT.1.2.2.2.2.2 _ hm
  have m20 := (hWF.2.2.2.1 _ hm).1
  have m14 : s.1 14 (A.1 46 0) = nI (A.1 40 0) := by rw [(hT.2.2 (A.1 46 0) (Nat.le_refl _)).1, hJ.2.1]
  have m14' := (hT.2.2 (A.1 46 0 - 1) (by omega)).1
  have i1 : A.1 46 0 - 1 < 3600 := by omega
  unfold fn_M_limits
  rw [hT.1.1.1, show nI (A.1 46 0) - 1 = nI (A.1 46 0 - 1) from nI_sub (b := 1) (by omega), if_neg (nI_in i1 (by decide)), nI_clamp (show A.1 46 0 - 1 < 2 ^ 31 by omega), t13, if_neg (nI_in (show A.1 20 (A.1 46 0 - 1) < 65540 by omega) (by decide)), if_neg (nI_in2 (show A.1 46 0 - 1 < 3601 by omega) (by decide)), nI_clamp (show A.1 20 (A.1 46 0 - 1) < 2 ^ 31 by omega), h5 _ m20, m14', show (0 : Int64) = lN 0 from rfl, limI_L hB hJ hWF (own A (A.1 46 0 - 1)) (A.1 21 (A.1 46 0 - 1)) N 0 s (by omega) (by omega) hT, Nat.zero_add]
  show ∃ s', bd_M_limits_29 N (hd_M_limits_29 N 0) (nI (A.1 46 0 - 1)) (nI (pl (A.1 20 (A.1 46 0 - 1)))) (lN (inb A)) (nI (A.1 40 0)) s = some ((), s') ∧ _
  generalize nI (pl (A.1 20 (A.1 46 0 - 1))) = p
  unfold bd_M_limits_29
  rw [nI_1, show A.1 46 0 - 1 + 1 = A.1 46 0 by omega, if_neg (nI_in (show A.1 46 0 < 3601 by omega) (by decide)), nI_clamp (show A.1 46 0 < 2 ^ 31 by omega), m14, if_pos (nI_le (Nat.le_refl _) (by omega)), if_neg (nI_in i1 (by decide)), nI_clamp (show A.1 46 0 - 1 < 2 ^ 31 by omega), t48]
  have l28 := mst_le9 (x := A.1 28 (A.1 46 0 - 1))
  have l27 := mst_le9 (x := A.1 27 (A.1 46 0 - 1))
  have l29 := mst_le9 (x := A.1 29 (A.1 46 0 - 1))
  have l30 := mst_le9 (x := A.1 30 (A.1 46 0 - 1))
  have mo : fn_M_most N (lN (mst (A.1 28 (A.1 46 0 - 1)))) s = some (lN (mst (A.1 28 (A.1 46 0 - 1))), s) := by
    unfold fn_M_most
    rw [if_pos (show lg_cmp (lN (mst (A.1 28 (A.1 46 0 - 1)))) 1000000000 ≤ 0 from (lgle (b := 1000000000) (by omega) (by decide)).mpr l28)]
  rw [mo, obind]
  dsimp only
  rw [if_neg (nI_in2 i1 (by decide)), t48]
  -- bits of registers, at most 40
  have e1 : ∀ f : Int64 → Option (Unit × ms), (if lg_cmp (lN (mst (A.1 28 (A.1 46 0 - 1)))) 40 ≤ 0 then f (lN (mst (A.1 28 (A.1 46 0 - 1)))) else f 40) = f (lN (min 40 (mst (A.1 28 (A.1 46 0 - 1))))) := fun f => by
    have e : lg_cmp (lN (mst (A.1 28 (A.1 46 0 - 1)))) 40 ≤ 0 ↔ _ := lgle (b := 40) (by omega) (by decide)
    by_cases z : mst (A.1 28 (A.1 46 0 - 1)) ≤ 40
    · rw [if_pos (e.mpr z), show min 40 (mst (A.1 28 (A.1 46 0 - 1))) = mst (A.1 28 (A.1 46 0 - 1)) by omega]
    · rw [if_neg (fun q => z (e.mp q)), show min 40 (mst (A.1 28 (A.1 46 0 - 1))) = 40 by omega]; rfl
  rw [e1 (fun x => bk_M_limits_102 N (nI (A.1 46 0 - 1)) p (lN (inb A)) x 1 s)]
  unfold bk_M_limits_102
  have e2 : ∀ f : Int64 → Option (Unit × ms), (if lg_cmp (lN (inb A)) 20 ≤ 0 then f (lN (inb A)) else f 20) = f (lN (min 20 (inb A))) := fun f => by
    have e : lg_cmp (lN (inb A)) 20 ≤ 0 ↔ _ := lgle (b := 20) (by omega) (by decide)
    by_cases z : inb A ≤ 20
    · rw [if_pos (e.mpr z), show min 20 (inb A) = inb A by omega]
    · rw [if_neg (fun q => z (e.mp q)), show min 20 (inb A) = 20 by omega]; rfl
  rw [e2 (fun x => bk_M_limits_118 N (nI (A.1 46 0 - 1)) p (lN (inb A)) x (Int64.toInt32 (lN (min 40 (mst (A.1 28 (A.1 46 0 - 1)))))) 1 s)]
  unfold bk_M_limits_118
  rw [if_neg (nI_in i1 (by decide)), nI_clamp (show A.1 46 0 - 1 < 2 ^ 31 by omega), t45, if_neg (nI_in2 i1 (by decide))]
  generalize hX : ((1 : Int64) <<< ((Int32.toInt64 (Int64.toInt32 (lN (min 40 (mst (A.1 28 (A.1 46 0 - 1))))) + Int64.toInt32 (lN (min 20 (inb A))))) &&& 63)) = X5
  have e3 : ∀ f : Int64 → Option (Unit × ms), (if lg_cmp (lN (mst (A.1 27 (A.1 46 0 - 1)))) 1 ≤ 0 then f 1 else f (lN (mst (A.1 27 (A.1 46 0 - 1))))) = f (lN (max 1 (mst (A.1 27 (A.1 46 0 - 1))))) := fun f => by
    have e : lg_cmp (lN (mst (A.1 27 (A.1 46 0 - 1)))) 1 ≤ 0 ↔ _ := lgle (b := 1) (by omega) (by decide)
    by_cases z : mst (A.1 27 (A.1 46 0 - 1)) ≤ 1
    · rw [if_pos (e.mpr z), show max 1 (mst (A.1 27 (A.1 46 0 - 1))) = 1 by omega]; rfl
    · rw [if_neg (fun q => z (e.mp q)), show max 1 (mst (A.1 27 (A.1 46 0 - 1))) = mst (A.1 27 (A.1 46 0 - 1)) by omega]
  rw [e3 (fun x => bk_M_limits_144 N (nI (A.1 46 0 - 1)) p (lN (inb A)) X5 x s)]
  generalize hY : lN (max 1 (mst (A.1 27 (A.1 46 0 - 1)))) = X7
  have g46 : ∀ f : Int32 → Option (Unit × ms), (if 0 < lg_cmp (lN (mst (A.1 30 (A.1 46 0 - 1)))) 256 then f 0 else f 1) = f (b01 (decide (mst (A.1 30 (A.1 46 0 - 1)) ≤ 256))) := fun f => gtb (k := 256) (by omega) (by decide)
  have g47 : ∀ f : Int32 → Option (Unit × ms), (if 0 < lg_cmp (lN (mst (A.1 29 (A.1 46 0 - 1)))) 1024 then f 0 else f 1) = f (b01 (decide (mst (A.1 29 (A.1 46 0 - 1)) ≤ 1024))) := fun f => gtb (k := 1024) (by omega) (by decide)
  have g48 : ∀ f : Int32 → Option (Unit × ms), (if 0 < lg_cmp (lN (mst (A.1 28 (A.1 46 0 - 1)))) 12 then f 0 else f 1) = f (b01 (decide (mst (A.1 28 (A.1 46 0 - 1)) ≤ 12))) := fun f => gtb (k := 12) (by omega) (by decide)
  have gI : ∀ f : Int32 → Option (Unit × ms), (if 0 < lg_cmp (lN (inb A)) 6 then f 0 else f 1) = f (b01 (decide (inb A ≤ 6))) := fun f => gtb (k := 6) (by omega) (by decide)
  have g45 : ∀ f : Int32 → Option (Unit × ms), (if 0 < lg_cmp (lN (mst (A.1 27 (A.1 46 0 - 1)))) 1500 then f 0 else f 1) = f (b01 (decide (mst (A.1 27 (A.1 46 0 - 1)) ≤ 1500))) := fun f => gtb (k := 1500) (by omega) (by decide)
  unfold bk_M_limits_144
  rw [if_neg (nI_in i1 (by decide)), nI_clamp (show A.1 46 0 - 1 < 2 ^ 31 by omega), t46, g46 (fun x => bk_M_limits_165 N (nI (A.1 46 0 - 1)) p (lN (inb A)) X5 X7 x s)]
  unfold bk_M_limits_165
  rw [bound_M, obind]
  dsimp only
  rw [bdS_2, if_neg (nI_in i1 (by decide)), nI_clamp (show A.1 46 0 - 1 < 2 ^ 31 by omega), t47, g47 (fun x => bk_M_limits_190 N (nI (A.1 46 0 - 1)) p (lN (inb A)) X5 X7 x _)]
  unfold bk_M_limits_190
  rw [bound_M, obind]
  dsimp only
  rw [bdS_2, bdS_2, if_neg (nI_in i1 (by decide)), nI_clamp (show A.1 46 0 - 1 < 2 ^ 31 by omega), t48, g48 (fun x => bk_M_limits_215 N (nI (A.1 46 0 - 1)) p (lN (inb A)) X5 X7 x _)]
  unfold bk_M_limits_215
  rw [bound_M, obind]
  dsimp only
  rw [gI (fun x => bk_M_limits_235 N (nI (A.1 46 0 - 1)) p X5 X7 x _)]
  unfold bk_M_limits_235
  rw [bound_M, obind]
  dsimp only
  rw [bdS_2, bdS_2, bdS_2, bdS_2, if_neg (nI_in i1 (by decide)), nI_clamp (show A.1 46 0 - 1 < 2 ^ 31 by omega), t45, g45 (fun x => bk_M_limits_260 N p X5 X7 x _)]
  unfold bk_M_limits_260
  rw [bound_M, obind]
  dsimp only
  unfold bk_M_limits_286 bk_M_limits_291
  rw [show fn_M_bound N 1 46 p = fn_M_bound N (b01 true) 46 p from rfl, show fn_M_bound N 0 46 p = fn_M_bound N (b01 false) 46 p from rfl, bound_M, bound_M, obind, obind, bdS_ok]
  dsimp only
  -- which limit
  unfold lim
  by_cases q0 : A.1 30 (A.1 46 0 - 1) ≤ 256
  · rw [if_neg (show ¬ 256 < A.1 30 (A.1 46 0 - 1) by omega), decide_eq_true (show mst (A.1 30 (A.1 46 0 - 1)) ≤ 256 by have := mst_gt (x := A.1 30 (A.1 46 0 - 1)) (k := 256) (by decide); omega), bdS_ok]
    by_cases q1 : A.1 29 (A.1 46 0 - 1) ≤ 1024
    · rw [if_neg (show ¬ 1024 < A.1 29 (A.1 46 0 - 1) by omega), decide_eq_true (show mst (A.1 29 (A.1 46 0 - 1)) ≤ 1024 by have := mst_gt (x := A.1 29 (A.1 46 0 - 1)) (k := 1024) (by decide); omega), bdS_ok]
      by_cases q2 : A.1 28 (A.1 46 0 - 1) ≤ 12
      · have m28 : mst (A.1 28 (A.1 46 0 - 1)) = A.1 28 (A.1 46 0 - 1) := by unfold mst; rw [if_neg (by omega)]
        rw [if_neg (show ¬ 12 < A.1 28 (A.1 46 0 - 1) by omega), m28, decide_eq_true q2, bdS_ok]
        by_cases q3 : inb A ≤ 6
        · rw [if_neg (show ¬ 6 < inb A by omega), decide_eq_true q3, bdS_ok]
          by_cases q4 : A.1 27 (A.1 46 0 - 1) ≤ 1500
          · have m27 : mst (A.1 27 (A.1 46 0 - 1)) = A.1 27 (A.1 46 0 - 1) := by unfold mst; rw [if_neg (by omega)]
            rw [if_neg (show ¬ 1500 < A.1 27 (A.1 46 0 - 1) by omega), m27, decide_eq_true q4, bdS_ok, if_pos h9]
            rw [m28, show min 40 (A.1 28 (A.1 46 0 - 1)) = A.1 28 (A.1 46 0 - 1) by omega, show min 20 (inb A) = inb A by omega] at hX
            rw [m27] at hY
            have pw := pwM ⟨A.1 28 (A.1 46 0 - 1), by omega⟩ ⟨inb A, by omega⟩
            dsimp only at pw
            rw [pw] at hX
            rw [← hX, ← hY, lN_mul]
            have p2 : 2 ^ (A.1 28 (A.1 46 0 - 1) + inb A) ≤ 2 ^ 18 := Nat.pow_le_pow_right (by decide) (by omega)
            have p3 : 2 ^ (A.1 28 (A.1 46 0 - 1) + inb A) * max 1 (A.1 27 (A.1 46 0 - 1)) ≤ 2 ^ 18 * 1500 := Nat.mul_le_mul p2 (by omega)
            have lg : (lg_cmp (lN (2 ^ (A.1 28 (A.1 46 0 - 1) + inb A) * max 1 (A.1 27 (A.1 46 0 - 1)))) 16777216 ≤ 0) ↔ 2 ^ (A.1 28 (A.1 46 0 - 1) + inb A) * max 1 (A.1 27 (A.1 46 0 - 1)) ≤ 16777216 := lgle (b := 16777216) (by omega) (by decide)
            by_cases q5 : 2 ^ (A.1 28 (A.1 46 0 - 1) + inb A) * max 1 (A.1 27 (A.1 46 0 - 1)) ≤ 16777216
            · rw [if_neg (fun q => absurd (lg.mpr q5) (Int32.not_le.mpr q)), if_neg (show ¬ 16777216 < 2 ^ (A.1 28 (A.1 46 0 - 1) + inb A) * max 1 (A.1 27 (A.1 46 0 - 1)) by omega)]
              exact ⟨s, rfl, fun _ => rfl, fun z => absurd rfl z⟩
            · rw [if_pos (Int32.not_le.mp (fun q => q5 (lg.mp q))), if_pos (show 16777216 < 2 ^ (A.1 28 (A.1 46 0 - 1) + inb A) * max 1 (A.1 27 (A.1 46 0 - 1)) by omega), bdS_no h9]
              exact ⟨_, rfl, fun z => absurd z (by decide), fun _ => rfl⟩
          · rw [if_pos (show 1500 < A.1 27 (A.1 46 0 - 1) by omega), decide_eq_false (show ¬ mst (A.1 27 (A.1 46 0 - 1)) ≤ 1500 by have := mst_gt (x := A.1 27 (A.1 46 0 - 1)) (k := 1500) (by decide); omega), bdS_no h9, if_neg (show ¬ (upI (upI s 9 (fun _ => (44 : Int32))) 10 (fun _ => p)).1 9 0 = 0 from (by decide : ¬ (44 : Int32) = 0))]
            exact ⟨_, rfl, fun z => absurd z (by decide), fun _ => rfl⟩
        · rw [if_pos (show 6 < inb A by omega), decide_eq_false q3, bdS_no h9, bdS_dead (show ¬ (upI (upI s 9 (fun _ => (43 : Int32))) 10 (fun _ => p)).1 9 0 = 0 from (by decide : ¬ (43 : Int32) = 0)), if_neg (show ¬ (upI (upI s 9 (fun _ => (43 : Int32))) 10 (fun _ => p)).1 9 0 = 0 from (by decide : ¬ (43 : Int32) = 0))]
          exact ⟨_, rfl, fun z => absurd z (by decide), fun _ => rfl⟩
      · rw [if_pos (show 12 < A.1 28 (A.1 46 0 - 1) by omega), decide_eq_false (show ¬ mst (A.1 28 (A.1 46 0 - 1)) ≤ 12 by have := mst_gt (x := A.1 28 (A.1 46 0 - 1)) (k := 12) (by decide); omega), bdS_no h9, bdS_dead (show ¬ (upI (upI s 9 (fun _ => (42 : Int32))) 10 (fun _ => p)).1 9 0 = 0 from (by decide : ¬ (42 : Int32) = 0)), bdS_dead (show ¬ (upI (upI s 9 (fun _ => (42 : Int32))) 10 (fun _ => p)).1 9 0 = 0 from (by decide : ¬ (42 : Int32) = 0)), if_neg (show ¬ (upI (upI s 9 (fun _ => (42 : Int32))) 10 (fun _ => p)).1 9 0 = 0 from (by decide : ¬ (42 : Int32) = 0))]
        exact ⟨_, rfl, fun z => absurd z (by decide), fun _ => rfl⟩
    · rw [if_pos (show 1024 < A.1 29 (A.1 46 0 - 1) by omega), decide_eq_false (show ¬ mst (A.1 29 (A.1 46 0 - 1)) ≤ 1024 by have := mst_gt (x := A.1 29 (A.1 46 0 - 1)) (k := 1024) (by decide); omega), bdS_no h9, bdS_dead (show ¬ (upI (upI s 9 (fun _ => (41 : Int32))) 10 (fun _ => p)).1 9 0 = 0 from (by decide : ¬ (41 : Int32) = 0)), bdS_dead (show ¬ (upI (upI s 9 (fun _ => (41 : Int32))) 10 (fun _ => p)).1 9 0 = 0 from (by decide : ¬ (41 : Int32) = 0)), bdS_dead (show ¬ (upI (upI s 9 (fun _ => (41 : Int32))) 10 (fun _ => p)).1 9 0 = 0 from (by decide : ¬ (41 : Int32) = 0)), if_neg (show ¬ (upI (upI s 9 (fun _ => (41 : Int32))) 10 (fun _ => p)).1 9 0 = 0 from (by decide : ¬ (41 : Int32) = 0))]
      exact ⟨_, rfl, fun z => absurd z (by decide), fun _ => rfl⟩
  · rw [if_pos (show 256 < A.1 30 (A.1 46 0 - 1) by omega), decide_eq_false (show ¬ mst (A.1 30 (A.1 46 0 - 1)) ≤ 256 by have := mst_gt (x := A.1 30 (A.1 46 0 - 1)) (k := 256) (by decide); omega), bdS_no h9, bdS_dead (show ¬ (upI (upI s 9 (fun _ => (40 : Int32))) 10 (fun _ => p)).1 9 0 = 0 from (by decide : ¬ (40 : Int32) = 0)), bdS_dead (show ¬ (upI (upI s 9 (fun _ => (40 : Int32))) 10 (fun _ => p)).1 9 0 = 0 from (by decide : ¬ (40 : Int32) = 0)), bdS_dead (show ¬ (upI (upI s 9 (fun _ => (40 : Int32))) 10 (fun _ => p)).1 9 0 = 0 from (by decide : ¬ (40 : Int32) = 0)), bdS_dead (show ¬ (upI (upI s 9 (fun _ => (40 : Int32))) 10 (fun _ => p)).1 9 0 = 0 from (by decide : ¬ (40 : Int32) = 0)), if_neg (show ¬ (upI (upI s 9 (fun _ => (40 : Int32))) 10 (fun _ => p)).1 9 0 = 0 from (by decide : ¬ (40 : Int32) = 0))]
    exact ⟨_, rfl, fun z => absurd z (by decide), fun _ => rfl⟩
end MLIM
