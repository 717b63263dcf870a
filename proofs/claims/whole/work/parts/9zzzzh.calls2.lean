/-! Calls: counts, signals, inputs. -/
theorem shrw {k : Nat} (w m : Nat) (hm : 2 ^ w = m) (h0 : 0 < m) (hk : k < 2 ^ 31) (x : Int32) (hx : x.toBitVec = (nI k).toBitVec.sshiftRight w) : x = 0 ↔ k < m := by
  have t : x.toInt = ((k / m : Nat) : Int) := by
    show x.toBitVec.toInt = _
    rw [hx, BitVec.toInt_sshiftRight]
    show (nI k).toInt >>> w = _
    rw [nI_toInt hk, Int.shiftRight_eq_div_pow, hm]
    rfl
  constructor
  · intro z
    rw [z] at t
    have t : (0 : Int) = ((k / m : Nat) : Int) := t
    by_cases y : k < m
    · exact y
    · have := Nat.div_pos (show m ≤ k by omega) h0
      omega
  · intro z
    apply Int32.toInt_inj.mp
    rw [t, Nat.div_eq_of_lt z]
    rfl
theorem shr0 {k w : Nat} (hk : k < 2 ^ 31) (hw : w ≤ 6) : ((nI k : Int32) >>> (nI w &&& 31) = 0) ↔ k < 2 ^ w := by
  have d : w = 0 ∨ w = 1 ∨ w = 2 ∨ w = 3 ∨ w = 4 ∨ w = 5 ∨ w = 6 := by omega
  rcases d with rfl | rfl | rfl | rfl | rfl | rfl | rfl
  · exact shrw 0 (2 ^ 0) rfl (by decide) hk _ rfl
  · exact shrw 1 (2 ^ 1) rfl (by decide) hk _ rfl
  · exact shrw 2 (2 ^ 2) rfl (by decide) hk _ rfl
  · exact shrw 3 (2 ^ 3) rfl (by decide) hk _ rfl
  · exact shrw 4 (2 ^ 4) rfl (by decide) hk _ rfl
  · exact shrw 5 (2 ^ 5) rfl (by decide) hk _ rfl
  · exact shrw 6 (2 ^ 6) rfl (by decide) hk _ rfl
/-- what sort of signal -/
def kd (A : ds) (L : Nat → ly) (n x : Nat) : Nat := if A.1 2 (snm A L n x) = 0 then (if (sgi A L n x).1 = 0 then 0 else 1) else srt (A.1 2 (snm A L n x))
section CALLS2
variable {tk pl : Nat → Nat} {nt t : Nat} {lit : Nat → Int64} {A : ds} {L : Nat → ly} {n ns N lc sz la nc cl nl : Nat} {od or : List Nat} {c s : ms}
theorem sg0 (hL : Ly A L n ns) {x : Nat} (hx : x < ns) : (sgi A L n x).1 = 0 ↔ x < own A (L 0).1 := by
  obtain ⟨i, q, hi, hq, rfl⟩ := hL.sig hx
  rw [sgi_at hL hi hq]
  show i = 0 ↔ _
  have L0 := hL.2.2.1
  by_cases z : i = 0
  · subst z
    exact ⟨fun _ => by omega, fun _ => rfl⟩
  · have := hL.base (i := 0) (k := i) (by omega) hi
    exact ⟨fun y => absurd y z, fun y => by omega⟩
theorem MMs.in65 (hL : Ly A L n ns) (h : MMs A L n ns la nc cl nl or s) {x : Nat} (hx : x < ns) : s.1 65 x = nI (sgi A L n x).1 ∧ (sgi A L n x).1 < n := by
  obtain ⟨i, q, hi, hq, rfl⟩ := hL.sig hx
  rw [sgi_at hL hi hq]
  exact ⟨((h.2.2.2.2.1 i hi).2.2.2.2 q hq).2, hi⟩
theorem kindOf_M (hJ : JB A) (hB : Bn A) (hWF : WF tk nt A t) (hL : Ly A L n ns) (h : MMs A L n ns la nc cl nl or s) {x : Nat} (hx : x < ns) : fn_M_kindOf N (nI x) s = some (nI (kd A L n x), s) := by
  have hns := h.2.1.2.1
  have hn := h.2.1.2.2.2
  have b := hB.2
  have d := (rule_ok hJ hWF hL hx).2.2.2
  have dt := (h.2.2.2.1.1.2.1 _ d).2.2.1
  have k4 := (hWF.2.1 _ d).2.2.2.2.1
  obtain ⟨r65, i65⟩ := h.in65 hL hx
  unfold fn_M_kindOf fn_M_isRegister kd
  rw [if_neg (nI_in (show x < 1100 by omega) (by decide)), nI_clamp (by omega), h.nm hL hx, if_neg (nI_in (show snm A L n x < 11000 by omega) (by decide)), nI_clamp (by omega), dt]
  have i2 : (nI (A.1 2 (snm A L n x)) = 2) ↔ A.1 2 (snm A L n x) = 2 := nI_eq (b := 2) (by omega) (by decide)
  have i4 : (nI (A.1 2 (snm A L n x)) = 4) ↔ A.1 2 (snm A L n x) = 4 := nI_eq (b := 4) (by omega) (by decide)
  have i0 : (nI (A.1 2 (snm A L n x)) = 0) ↔ A.1 2 (snm A L n x) = 0 := nI_eq (b := 0) (by omega) (by decide)
  have g1 : ¬ (nI (snm A L n x) < 0 ∨ 11000 ≤ snm A L n x) := nI_in2 (by omega) (by decide)
  have g2 : ¬ (nI x < 0 ∨ 1100 ≤ x) := nI_in2 (by omega) (by decide)
  by_cases c2 : A.1 2 (snm A L n x) = 2
  · rw [if_pos (i2.mpr c2), obind, c2]
    rfl
  rw [if_neg (fun z => c2 (i2.mp z)), if_neg g1]
  by_cases c4 : A.1 2 (snm A L n x) = 4
  · rw [if_pos (i4.mpr c4), obind, c4]
    rfl
  rw [if_neg (fun z => c4 (i4.mp z)), obind]
  dsimp only
  rw [if_pos rfl, if_neg g1, dt]
  by_cases c0 : A.1 2 (snm A L n x) = 0
  · rw [if_pos (i0.mpr c0), if_pos c0, if_neg g2, r65]
    by_cases z : (sgi A L n x).1 = 0
    · rw [if_pos (show nI (sgi A L n x).1 = 0 by rw [z]; rfl), if_pos z]; rfl
    · rw [if_neg (show ¬ nI (sgi A L n x).1 = 0 from fun y => z ((nI_eq (b := 0) (by omega) (by decide)).mp y)), if_neg z]; rfl
  · rw [if_neg (fun z => c0 (i0.mp z)), if_neg c0]
    unfold srt
    rw [if_neg c0, if_pos (by omega)]
    rfl
theorem CSt.isSig (h : CSt pl lit lc A sz L n ns od c) {x : Nat} (hx : x < ns) : fn_Circuit_isSignal_Cc N (nI x) c = some (1, c) := by
  have hns := h.2.2.1.2.2.2
  unfold fn_Circuit_isSignal_Cc
  rw [if_neg (nI_pos (by omega)), h.2.2.1.2.2.1, if_neg (nI_ge hx (by omega))]
theorem ownS_Cc (hJ : JB A) (hB : Bn A) (h : CSt pl lit lc A sz L n ns od c) {m : Nat} (hm : m < A.1 46 0) : fn_Circuit_ownSignals_Cc N (nI m) c = some (nI (own A m), c) := by
  have b := hB.2
  have r := hJ.r21 hm
  have c359 : c.1 359 0 = nI (A.1 46 0) := h.1.1.2.2.2.2
  have c371 : c.1 371 0 = nI (A.1 40 0) := h.1.1.1
  have fd : ∀ m, m ≤ A.1 46 0 → fn_Design_firstDecl_Dc N (nI m) c = some (nI (A.1 21 m), c) := fun m hm => by
    unfold fn_Design_firstDecl_Dc fn_Design_isModule_Dc
    rw [if_neg (nI_pos (by omega)), c359]
    by_cases z : m < A.1 46 0
    · have e : c.1 362 m = nI (A.1 21 m) := ((h.1.2.2.2.2.2.2 m z).1).2.1
      rw [if_neg (nI_ge z (by omega)), obind]
      dsimp only
      rw [if_neg (by decide), if_neg (nI_in (show m < 3277 by omega) (by decide)), nI_clamp (by omega), e]
    · have : m = A.1 46 0 := by omega
      subst this
      rw [if_pos (nI_le (Nat.le_refl _) (by omega)), obind]
      dsimp only
      rw [if_pos rfl, c371, hJ.2.1]
  unfold fn_Circuit_ownSignals_Cc
  rw [nI_1, fd _ (by omega), obind]
  dsimp only
  rw [fd _ (by omega), obind]
  dsimp only
  rw [nI_sub (by omega)]
  rfl
theorem sortOf_Q (hJ : JB A) (hB : Bn A) (hWF : WF tk nt A t) (hL : Ly A L n ns) (h : CSt pl lit lc A sz L n ns od c) {x : Nat} (hx : x < ns) : fn_Circuit_sortOf_Cc N (nI x) c = some (nI (kd A L n x), c) := by
  have hns := h.2.2.1.2.2.2
  have d := (rule_ok hJ hWF hL hx).2.2.2
  have b := hB.2
  have k4 := (hWF.2.1 _ d).2.2.2.2.1
  have e : c.1 374 (snm A L n x) = nI (srt (A.1 2 (snm A L n x))) := (h.1.2.1 _ d).2.2.1
  have s3 : srt (A.1 2 (snm A L n x)) < 3 := by unfold srt; split <;> (try split) <;> omega
  have c345 : c.1 345 0 = nI (L 0).1 := (h.2.1.1 0 hL.1 (Or.inl rfl)).1
  have g1 : ¬ (nI (snm A L n x) < 0 ∨ 10923 ≤ snm A L n x) := nI_in2 (by omega) (by decide)
  unfold fn_Circuit_sortOf_Cc kd
  rw [h.isSig hx, obind]
  dsimp only
  rw [if_neg (show ¬ (1 : Int32) = 0 by decide), if_neg (nI_in (show x < 1024 by omega) (by decide)), nI_clamp (by omega), h.nm hL hx, if_neg (nI_in (show snm A L n x < 10923 by omega) (by decide)), nI_clamp (by omega), e]
  by_cases c0 : A.1 2 (snm A L n x) = 0
  · have z0 : srt (A.1 2 (snm A L n x)) = 0 := by unfold srt; rw [if_pos c0]
    have ol : own A (L 0).1 ≤ ns := by
      have := (hL.2.2.2 0 hL.1).2.2.1
      have := (hJ.sums (hL.2.2.2 0 hL.1).1).2
      omega
    rw [z0, if_pos (show nI 0 = 0 from rfl), c345, ownS_Cc hJ hB h (hL.2.2.2 0 hL.1).1, obind, if_pos c0]
    dsimp only
    by_cases z : (sgi A L n x).1 = 0
    · rw [if_pos z, if_pos (nI_lt ((sg0 hL hx).mp z) (by omega))]
    · rw [if_neg z, if_neg (nI_nlt (Nat.le_of_not_lt (fun y => z ((sg0 hL hx).mpr y))) (by omega))]
      rfl
  · have z0 : ¬ srt (A.1 2 (snm A L n x)) = 0 := by unfold srt; rw [if_neg c0]; split <;> decide
    rw [if_neg (show ¬ nI (srt (A.1 2 (snm A L n x))) = 0 from fun y => z0 ((nI_eq (b := 0) (by omega) (by decide)).mp y)), if_neg c0]
theorem widthOf_C (hJ : JB A) (hB : Bn A) (hWF : WF tk nt A t) (hL : Ly A L n ns) (h : CSt pl lit lc A sz L n ns od c) {x : Nat} (hx : x < ns) : fn_Circuit_widthOf_Cc N (nI x) c = some (nI (A.1 1 (snm A L n x)), c) := by
  have hns := h.2.2.1.2.2.2
  have d := (rule_ok hJ hWF hL hx).2.2.2
  have b := hB.2
  have e : c.1 373 (snm A L n x) = nI (A.1 1 (snm A L n x)) := (h.1.2.1 _ d).2.1
  unfold fn_Circuit_widthOf_Cc
  rw [h.isSig hx, obind]
  dsimp only
  rw [if_neg (show ¬ (1 : Int32) = 0 by decide), if_neg (nI_in (show x < 1024 by omega) (by decide)), nI_clamp (by omega), h.nm hL hx, if_neg (nI_in (show snm A L n x < 10923 by omega) (by decide)), nI_clamp (by omega), e]
theorem placeOf_C (hJ : JB A) (hB : Bn A) (hWF : WF tk nt A t) (hL : Ly A L n ns) (h : CSt pl lit lc A sz L n ns od c) {x : Nat} (hx : x < ns) : fn_Circuit_placeOf_Cc N (nI x) c = some (nI (pl (A.1 0 (snm A L n x))), c) := by
  have hns := h.2.2.1.2.2.2
  have d := (rule_ok hJ hWF hL hx).2.2.2
  have b := hB.2
  have e : c.1 372 (snm A L n x) = nI (pl (A.1 0 (snm A L n x))) := (h.1.2.1 _ d).1
  unfold fn_Circuit_placeOf_Cc
  rw [h.isSig hx, obind]
  dsimp only
  rw [if_neg (show ¬ (1 : Int32) = 0 by decide), if_neg (nI_in (show x < 1024 by omega) (by decide)), nI_clamp (by omega), h.nm hL hx, if_neg (nI_in (show snm A L n x < 10923 by omega) (by decide)), nI_clamp (by omega), e]
theorem sumTop_C (hB : Bn A) (h : CSt pl lit lc A sz L n ns od c) : fn_Design_sumOfTop_Dc N 2 c = some (nI (cap28 (A.1 28 (A.1 46 0 - 1))), c) ∧ fn_Design_sumOfTop_Dc N 3 c = some (nI (cap28 (A.1 31 (A.1 46 0 - 1))), c) ∧ fn_Design_sumOfTop_Dc N 4 c = some (nI (cap28 (A.1 27 (A.1 46 0 - 1))), c) := by
  have b := hB.2
  have b0 := hB.1
  have c359 : c.1 359 0 = nI (A.1 46 0) := h.1.1.2.2.2.2
  obtain ⟨M, hM⟩ : ∃ M, A.1 46 0 = M + 1 := ⟨A.1 46 0 - 1, by omega⟩
  obtain ⟨-, -, -, s3, s4, s5⟩ := h.1.2.2.2.2.2.2 M (by omega)
  have s3 : c.1 612 M = nI (cap28 (A.1 28 M)) := s3
  have s4 : c.1 613 M = nI (cap28 (A.1 31 M)) := s4
  have s5 : c.1 614 M = nI (cap28 (A.1 27 M)) := s5
  have go : ∀ j, fn_Design_sumOfTop_Dc N j c = (fn_Design_sumOf_Dc N j (nI M) c).bind (fun q_1 => some (q_1.1, q_1.2)) := fun j => by
    unfold fn_Design_sumOfTop_Dc
    rw [c359, hM, s1_nI]
  rw [go, go, go, show A.1 46 0 - 1 = M by omega]
  unfold fn_Design_sumOf_Dc fn_Design_isModule_Dc
  rw [if_neg (nI_pos (by omega)), c359, if_neg (nI_ge (show M < A.1 46 0 by omega) (by omega)), obind, obind, obind]
  dsimp only
  rw [nI_clamp (by omega), s3, s4, s5]
  simp only [eq_false (nI_in2 (show M < 3277 by omega) (show 3277 < 2 ^ 31 by decide)), if_false]
  exact ⟨rfl, rfl, rfl⟩
theorem inS_ge : ∀ {k d j : Nat}, j < k → A.1 2 (d + j) = 0 → A.1 1 (d + j) ≤ inS A k d
  | 0, d, j, h, _ => absurd h (Nat.not_lt_zero _)
  | k + 1, d, 0, _, z => by
    unfold inS
    rw [Nat.add_zero] at z
    rw [if_pos z, Nat.add_zero]
    omega
  | k + 1, d, j + 1, h, z => by
    have := inS_ge (k := k) (d := d + 1) (j := j) (by omega) (by rw [show d + 1 + j = d + (j + 1) by omega]; exact z)
    unfold inS
    rw [show d + 1 + j = d + (j + 1) by omega] at this
    omega
theorem lim_b (h : lim A = 0) : A.1 28 (A.1 46 0 - 1) ≤ 12 ∧ inb A ≤ 6 ∧ A.1 27 (A.1 46 0 - 1) ≤ 1500 := by
  unfold lim at h
  split at h
  · cases h
  split at h
  · cases h
  split at h
  · cases h
  split at h
  · cases h
  split at h
  · cases h
  clear h
  omega
theorem as_le (hJ : JB A) (hB : Bn A) (hL : Ly A L n ns) (hn : n ≤ 257) : A.1 31 (A.1 46 0 - 1) ≤ 257 * 6100 := by
  have b := hB.2
  have L0 : (L 0).1 = A.1 46 0 - 1 := by have := hL.2.1.1; omega
  have nn : n = A.1 30 (A.1 46 0 - 1) + 1 := by rw [← L0]; exact hL.2.1.2.1
  have tot := asS_blk hJ hL (A.1 46 0 - 1) 0 hL.1 L0
  rw [← nn] at tot
  rw [← tot]
  unfold asS
  have h1 := sumF_le (f := fun e => asn A (L e).1) (b := 6100) (n := n) (a := 0) (fun d _ hd => by
    have := hJ.p345 (hL.2.2.2 d (by omega)).1
    show A.1 23 ((L d).1 + 1) - A.1 23 (L d).1 ≤ 6100
    omega)
  exact Nat.le_trans h1 (Nat.mul_le_mul_right _ hn)
end CALLS2
section CALLS3
variable {N0 i : Nat} {c s : ms}
theorem small6 {v : Int32} (h0 : ¬ v < 0) (h : v ≤ 6) : v = 0 ∨ v = 1 ∨ v = 2 ∨ v = 3 ∨ v = 4 ∨ v = 5 ∨ v = 6 := by
  obtain ⟨k, hk, rfl⟩ := nI_of h0
  have k6 : k ≤ 6 := (nI_leI (b := 6) hk (by decide)).mp h
  have d : k = 0 ∨ k = 1 ∨ k = 2 ∨ k = 3 ∨ k = 4 ∨ k = 5 ∨ k = 6 := by omega
  rcases d with rfl | rfl | rfl | rfl | rfl | rfl | rfl
  · exact Or.inl rfl
  · exact Or.inr (Or.inl rfl)
  · exact Or.inr (Or.inr (Or.inl rfl))
  · exact Or.inr (Or.inr (Or.inr (Or.inl rfl)))
  · exact Or.inr (Or.inr (Or.inr (Or.inr (Or.inl rfl))))
  · exact Or.inr (Or.inr (Or.inr (Or.inr (Or.inr (Or.inl rfl)))))
  · exact Or.inr (Or.inr (Or.inr (Or.inr (Or.inr (Or.inr rfl)))))
theorem StP.src {n : Nat} {ch wd : Nat → Nat} {t : Nat} {A : ds} {lit : Nat → Int64} {lc sz la nc cl nl : Nat} {od or : List Nat} (hs : StP N0 n ch wd t A lit lc sz la nc cl nl od or c s) : Src (upI s 2 (fun _ => nI n)) n ch := by
  obtain ⟨⟨w1, w2, w3⟩, -, -, -, -, -, -, w12, -⟩ := hs
  refine ⟨rfl, by omega, fun k hk => ⟨w2 k hk, ?_⟩, w3⟩
  show s.1 90 k &&& 255 = _
  rw [(w12 k hk).2]
  exact kand ⟨ch k, w2 k hk⟩
theorem count_S (h : Rl N0 i c s) (o : Nat → Int64) (v1 : Int32) : ∃ (k : Int32) (c2 : ms) (o2 : Nat → Int64) (b : Int32) (s2 : ms), hp_count (N0 + 1) v1 c o = some (k, c2, o2) ∧ fn_M_count (N0 + 1) v1 s = some (b, s2) ∧ s2.1 0 0 = k ∧ (k = 0 → o2 0 = Int32.toInt64 b) ∧ Rl N0 (i + 1) c2 s2 := by
  rcases h.2.2.2 with ⟨x1, x2⟩ | ⟨x1, x2, n, ch, wd, t, A, lit, lc, sz, la, nc, cl, nl, od, or, hs⟩
  · refine ⟨1, c, o, 0, upI s 0 (fun _ => 1), ?_, ?_, rfl, fun z => absurd z (by decide), h.thr⟩
    · unfold hp_count tx_C_count_C
      rw [if_pos x1]
      rfl
    · unfold fn_M_count bk_M_count_27
      rw [if_pos x2, if_neg (by decide)]
  · obtain ⟨hJ, hB, hWF, hL, -, -, hC, hM⟩ := hs.2.2.2.1
    have hl : lim A = 0 := by obtain ⟨σ, -, -, -, g4, -⟩ := hs.2.2.1; exact g4
    obtain ⟨b1, b2, b3⟩ := lim_b hl
    obtain ⟨q1, q2, q3, q4, q5⟩ := hs.2.2.2.2.2.2.2.2.2
    have c359 : c.1 359 0 = nI (A.1 46 0) := hC.1.1.2.2.2.2
    have c360 := hs.2.2.2.2.2.1.2.2
    obtain ⟨t2, t3, t4⟩ := sumTop_C (N := N0 + 1) hB hC
    have al := as_le hJ hB hL hM.2.1.2.2.2
    have k28 : ∀ x, x ≤ 257 * 6100 → cap28 x = x := fun x hx => by unfold cap28; omega
    rw [k28 _ (by omega)] at t2 t3 t4
    have fin : ∀ b : Int32, hp_count (N0 + 1) v1 c o = some (0, c, vp_updL o 0 (Int32.toInt64 b)) → fn_M_count (N0 + 1) v1 s = some (b, upI s 0 (fun _ => 0)) → ∃ (k : Int32) (c2 : ms) (o2 : Nat → Int64) (b : Int32) (s2 : ms), hp_count (N0 + 1) v1 c o = some (k, c2, o2) ∧ fn_M_count (N0 + 1) v1 s = some (b, s2) ∧ s2.1 0 0 = k ∧ (k = 0 → o2 0 = Int32.toInt64 b) ∧ Rl N0 (i + 1) c2 s2 := fun b e1 e2 => ⟨0, c, vp_updL o 0 (Int32.toInt64 b), b, upI s 0 (fun _ => 0), e1, e2, rfl, fun _ => updL_at _ _ _, h.thr⟩
    by_cases in6 : ¬ v1 < 0 ∧ v1 ≤ 6
    · have m1 : fn_M_count (N0 + 1) v1 s = bk_M_count_27 (N0 + 1) v1 0 s := by
        unfold fn_M_count
        rw [if_neg (s54 x2), if_neg in6.1, if_pos in6.2]
      rcases small6 in6.1 in6.2 with rfl | rfl | rfl | rfl | rfl | rfl | rfl
      · refine fin (nI (A.1 46 0)) ?_ ?_
        · unfold hp_count tx_C_count_C fn_C_count_C
          rw [if_neg (c208 x1), if_neg (c208 x1), c359]
          rfl
        · rw [m1]; unfold bk_M_count_27; rw [q1]; rfl
      · refine fin (nI (topN A) - 1) ?_ ?_
        · unfold hp_count tx_C_count_C fn_C_count_C
          rw [if_neg (c208 x1), if_neg (c208 x1), hC.2.2.1.1]
          rfl
        · rw [m1]; unfold bk_M_count_27; rw [hM.2.1.2.2.1]; rfl
      · refine fin (nI (topS A)) ?_ ?_
        · unfold hp_count tx_C_count_C fn_C_count_C
          rw [if_neg (c208 x1), if_neg (c208 x1), hC.2.2.1.2.2.1]
          rfl
        · rw [m1]; unfold bk_M_count_27; rw [hM.2.1.1]; rfl
      · refine fin (nI (A.1 28 (A.1 46 0 - 1))) ?_ ?_
        · unfold hp_count tx_C_count_C fn_C_count_C
          rw [if_neg (c208 x1), if_neg (c208 x1), t2]
          rfl
        · rw [m1]; unfold bk_M_count_27; rw [q2]; rfl
      · refine fin (nI (inb A)) ?_ ?_
        · unfold hp_count tx_C_count_C fn_C_count_C
          rw [if_neg (c208 x1), if_neg (c208 x1), c360]
          rfl
        · rw [m1]; unfold bk_M_count_27; rw [q3]; rfl
      · refine fin (nI (A.1 31 (A.1 46 0 - 1))) ?_ ?_
        · unfold hp_count tx_C_count_C fn_C_count_C
          rw [if_neg (c208 x1), if_neg (c208 x1), t3]
          rfl
        · rw [m1]; unfold bk_M_count_27; rw [q4]; rfl
      · refine fin (nI (A.1 27 (A.1 46 0 - 1))) ?_ ?_
        · unfold hp_count tx_C_count_C fn_C_count_C
          rw [if_neg (c208 x1), if_neg (c208 x1), t4]
          rfl
        · rw [m1]; unfold bk_M_count_27; rw [q5, l32]; rfl
    · have nv : ∀ k : Nat, k ≤ 6 → ¬ v1 = nI k := fun k hk z => by
        subst z
        exact in6 ⟨nI_pos (by omega), nI_le (b := 6) hk (by decide)⟩
      refine ⟨2, c, o, 0, upI s 0 (fun _ => 2), ?_, ?_, rfl, fun z => absurd z (by decide), h.thr⟩
      · unfold hp_count tx_C_count_C
        rw [if_neg (c208 x1), if_neg (show ¬ v1 = 0 from nv 0 (by decide)), if_neg (show ¬ v1 = 1 from nv 1 (by decide)), if_neg (show ¬ v1 = 2 from nv 2 (by decide)), if_neg (show ¬ v1 = 3 from nv 3 (by decide)), if_neg (show ¬ v1 = 4 from nv 4 (by decide)), if_neg (show ¬ v1 = 5 from nv 5 (by decide)), if_neg (show ¬ v1 = 6 from nv 6 (by decide))]
        rfl
      · have m2 : fn_M_count (N0 + 1) v1 s = bk_M_count_27 (N0 + 1) v1 2 s := by
          unfold fn_M_count bk_M_count_22
          rw [if_neg (s54 x2)]
          by_cases z : v1 < 0
          · rw [if_pos z]
          · rw [if_neg z, if_neg (fun y => in6 ⟨z, y⟩)]
        rw [m2]
        unfold bk_M_count_27
        rw [if_neg (by decide)]
theorem signal_S (h : Rl N0 i c s) (o : Nat → Int64) (v1 v2 : Int32) : ∃ (k : Int32) (c2 : ms) (o2 : Nat → Int64) (b : Int32) (s2 : ms), hp_signal (N0 + 1) v1 v2 c o = some (k, c2, o2) ∧ fn_M_signal (N0 + 1) v1 v2 s = some (b, s2) ∧ s2.1 0 0 = k ∧ (k = 0 → o2 0 = Int32.toInt64 b) ∧ Rl N0 (i + 1) c2 s2 := by
  rcases h.2.2.2 with ⟨x1, x2⟩ | ⟨x1, x2, n, ch, wd, t, A, lit, lc, sz, la, nc, cl, nl, od, or, hs⟩
  · refine ⟨1, c, o, 0, upI s 0 (fun _ => 1), ?_, ?_, rfl, fun z => absurd z (by decide), h.thr⟩
    · unfold hp_signal tx_C_signal_C
      rw [if_pos x1]
      rfl
    · unfold fn_M_signal bk_M_signal_38
      rw [if_pos x2, if_neg (by decide)]
  · obtain ⟨hJ, hB, hWF, hL, -, -, hC, hM⟩ := hs.2.2.2.1
    have c343 := hC.2.2.1.2.2.1
    have hns := hC.2.2.1.2.2.2
    have b := hB.2
    rcases isSig_M (N := N0 + 1) hM.2.1.1 hns v1 with ⟨x, hx, rfl, e⟩ | ⟨z, e⟩
    · have d := (rule_ok hJ hWF hL hx).2.2.2
      have wf := hWF.2.1 _ d
      have ntl : NT ch n ≤ 12001 := (toks_T hs.src hs.1.1).2.1
      have m0 : ∀ v2 : Int32, ¬ v2 < 0 → v2 ≤ 2 → fn_M_signal (N0 + 1) (nI x) v2 s = bk_M_signal_38 (N0 + 1) (nI x) v2 0 s := fun v2 y1 y2 => by
        unfold fn_M_signal
        rw [if_neg (s54 x2), e, obind]
        dsimp only
        rw [if_neg (show ¬ (1 : Int32) = 0 by decide), if_neg y1, if_pos y2]
      have fin : ∀ b : Int32, hp_signal (N0 + 1) (nI x) v2 c o = some (0, c, vp_updL o 0 (Int32.toInt64 b)) → fn_M_signal (N0 + 1) (nI x) v2 s = some (b, upI s 0 (fun _ => 0)) → ∃ (k : Int32) (c2 : ms) (o2 : Nat → Int64) (b : Int32) (s2 : ms), hp_signal (N0 + 1) (nI x) v2 c o = some (k, c2, o2) ∧ fn_M_signal (N0 + 1) (nI x) v2 s = some (b, s2) ∧ s2.1 0 0 = k ∧ (k = 0 → o2 0 = Int32.toInt64 b) ∧ Rl N0 (i + 1) c2 s2 := fun b e1 e2 => ⟨0, c, vp_updL o 0 (Int32.toInt64 b), b, upI s 0 (fun _ => 0), e1, e2, rfl, fun _ => updL_at _ _ _, h.thr⟩
      have g1 : ¬ (nI x < 0 ∨ 1100 ≤ Int32.toNatClampNeg (nI x)) := nI_in (by omega) (by decide)
      have g2 : ¬ (nI (snm A (topL A) (topN A) x) < 0 ∨ 11000 ≤ Int32.toNatClampNeg (nI (snm A (topL A) (topN A) x))) := nI_in (by omega) (by decide)
      have c0 : ¬ nI x < 0 := nI_pos (by omega)
      have cc : nI x < nI (topS A) := nI_lt hx (by omega)
      have nm := hM.nm hL hx
      have dt := hM.2.2.2.1.1.2.1 _ d
      by_cases y0 : v2 = 0
      · subst y0
        refine fin (nI (A.1 1 (snm A (topL A) (topN A) x))) ?_ ?_
        · unfold hp_signal tx_C_signal_C fn_C_signal_C
          rw [if_neg (c208 x1), if_neg (c208 x1), if_neg c0, if_neg c0, c343, if_pos cc, if_pos cc, if_pos rfl, if_pos rfl, widthOf_C hJ hB hWF hL hC hx, obind, obind]
          rfl
        · rw [m0 0 (by decide) (by decide)]
          unfold bk_M_signal_38
          rw [if_pos (by decide), if_pos rfl, if_neg g1, nI_clamp (by omega), nm, if_neg g2, nI_clamp (by omega), dt.2.1]
      by_cases y1 : v2 = 1
      · subst y1
        refine fin (nI (kd A (topL A) (topN A) x)) ?_ ?_
        · unfold hp_signal tx_C_signal_C fn_C_signal_C
          rw [if_neg (c208 x1), if_neg (c208 x1), if_neg c0, if_neg c0, c343, if_pos cc, if_pos cc, if_neg (show ¬ (1 : Int32) = 0 by decide), if_neg (show ¬ (1 : Int32) = 0 by decide), if_pos rfl, if_pos rfl, sortOf_Q hJ hB hWF hL hC hx, obind, obind]
          rfl
        · rw [m0 1 (by decide) (by decide)]
          unfold bk_M_signal_38
          have es : Eb [0] [] s (upI s 0 (fun _ => 0)) := Eb.rfl.upI (by decide)
          rw [if_pos (show (0 : Int32) ≤ 0 by decide), if_neg (show ¬ (1 : Int32) = 0 by decide), if_pos rfl, kindOf_M hJ hB hWF hL (hM.keep es (by decide) (by decide)) hx, obind]
      by_cases y2 : v2 = 2
      · subst y2
        refine fin (nI (PL ch n (A.1 0 (snm A (topL A) (topN A) x)))) ?_ ?_
        · unfold hp_signal tx_C_signal_C fn_C_signal_C
          rw [if_neg (c208 x1), if_neg (c208 x1), if_neg c0, if_neg c0, c343, if_pos cc, if_pos cc, if_neg (show ¬ (2 : Int32) = 0 by decide), if_neg (show ¬ (2 : Int32) = 0 by decide), if_neg (show ¬ (2 : Int32) = 1 by decide), if_neg (show ¬ (2 : Int32) = 1 by decide), if_pos rfl, if_pos rfl, placeOf_C hJ hB hWF hL hC hx]
          rfl
        · rw [m0 2 (by decide) (by decide)]
          unfold bk_M_signal_38
          have tk5 : s.1 5 (A.1 0 (snm A (topL A) (topN A) x)) = nI (PL ch n (A.1 0 (snm A (topL A) (topN A) x))) := by
            have e1 := List.getElem?_eq_getElem wf.1
            have := hs.2.2.2.2.2.2.2.2.1.2 _ _ e1
            rw [Nat.zero_add] at this
            unfold PL plL
            rw [e1]
            exact this.2.1
          rw [if_pos (show (0 : Int32) ≤ 0 by decide), if_neg (show ¬ (2 : Int32) = 0 by decide), if_neg (show ¬ (2 : Int32) = 1 by decide), if_neg g1, nI_clamp (by omega), nm, if_neg g2, nI_clamp (by omega), dt.1, if_neg (nI_in (show A.1 0 (snm A (topL A) (topN A) x) < 65540 by have := wf.1; omega) (by decide)), nI_clamp (by have := wf.1; omega), tk5]
      refine ⟨3, c, o, 0, upI s 0 (fun _ => 3), ?_, ?_, rfl, fun z => absurd z (by decide), h.thr⟩
      · unfold hp_signal tx_C_signal_C
        rw [if_neg (c208 x1), if_neg c0, c343, if_pos cc, if_neg y0, if_neg y1, if_neg y2]
        rfl
      · unfold fn_M_signal bk_M_signal_33
        rw [if_neg (s54 x2), e, obind]
        dsimp only
        rw [if_neg (show ¬ (1 : Int32) = 0 by decide)]
        by_cases z : v2 < 0
        · rw [if_pos z]
          unfold bk_M_signal_38
          rw [if_neg (by decide)]
        · have : ¬ v2 ≤ 2 := fun y => by
            obtain ⟨k, hk, rfl⟩ := nI_of z
            have k2 : k ≤ 2 := (nI_leI (b := 2) hk (by decide)).mp y
            have dd : k = 0 ∨ k = 1 ∨ k = 2 := by omega
            rcases dd with rfl | rfl | rfl
            · exact y0 rfl
            · exact y1 rfl
            · exact y2 rfl
          rw [if_neg z, if_neg this]
          unfold bk_M_signal_38
          rw [if_neg (by decide)]
    · refine ⟨2, c, o, 0, upI s 0 (fun _ => 2), ?_, ?_, rfl, fun z => absurd z (by decide), h.thr⟩
      · unfold hp_signal tx_C_signal_C bx_C_signal_C_30
        rw [if_neg (c208 x1), c343]
        by_cases y : v1 < 0
        · rw [if_pos y]; rfl
        · rw [if_neg y, if_neg (z.resolve_left y)]; rfl
      · unfold fn_M_signal
        rw [if_neg (s54 x2), e, obind]
        dsimp only
        rw [if_pos rfl]
        unfold bk_M_signal_38
        rw [if_neg (by decide)]
theorem set_S (hN : 70000 < N0) (h : Rl N0 i c s) (o : Nat → Int64) (v1 v2 : Int32) : ∃ (k : Int32) (c2 : ms) (o2 : Nat → Int64) (s2 : ms), hp_set (N0 + 1) v1 v2 c o = some (k, c2, o2) ∧ fn_M_set (N0 + 1) v1 v2 s = some ((), s2) ∧ s2.1 0 0 = k ∧ Rl N0 (i + 1) c2 s2 := by
  rcases h.2.2.2 with ⟨x1, x2⟩ | ⟨x1, x2, n, ch, wd, t, A, lit, lc, sz, la, nc, cl, nl, od, or, hs⟩
  · refine ⟨1, c, o, upI s 0 (fun _ => 1), ?_, ?_, rfl, h.thr⟩
    · unfold hp_set tx_C_set_C
      rw [if_pos x1]
      rfl
    · unfold fn_M_set bk_M_set_57
      rw [if_pos x2, if_neg (by decide)]
  · obtain ⟨hJ, hB, hWF, hL, -, -, hC, hM⟩ := hs.2.2.2.1
    have c343 := hC.2.2.1.2.2.1
    have hns := hC.2.2.1.2.2.2
    have b := hB.2
    have hl : lim A = 0 := by obtain ⟨σ, -, -, -, g4, -⟩ := hs.2.2.1; exact g4
    obtain ⟨b1, b2, b3⟩ := lim_b hl
    rcases isSig_M (N := N0 + 1) hM.2.1.1 hns v1 with ⟨x, hx, rfl, e⟩ | ⟨z, e⟩
    · have ro := rule_ok hJ hWF hL hx
      have d := ro.2.2.2
      have dt := hM.2.2.2.1.1.2.1 _ d
      have g1 : ¬ (nI x < 0 ∨ 1100 ≤ Int32.toNatClampNeg (nI x)) := nI_in (by omega) (by decide)
      have g2 : ¬ (nI (snm A (topL A) (topN A) x) < 0 ∨ 11000 ≤ Int32.toNatClampNeg (nI (snm A (topL A) (topN A) x))) := nI_in (by omega) (by decide)
      have c0 : ¬ nI x < 0 := nI_pos (by omega)
      have cc : nI x < nI (topS A) := nI_lt hx (by omega)
      have nm := hM.nm hL hx
      have kl : kd A (topL A) (topN A) x < 3 := by
        unfold kd srt
        (repeat' split) <;> decide
      -- refused
      have no : hp_set (N0 + 1) (nI x) v2 c o = some (3, c, o) → fn_M_set (N0 + 1) (nI x) v2 s = bk_M_set_57 (N0 + 1) (nI x) v2 3 s → ∃ (k : Int32) (c2 : ms) (o2 : Nat → Int64) (s2 : ms), hp_set (N0 + 1) (nI x) v2 c o = some (k, c2, o2) ∧ fn_M_set (N0 + 1) (nI x) v2 s = some ((), s2) ∧ s2.1 0 0 = k ∧ Rl N0 (i + 1) c2 s2 := fun e1 e2 => by
        refine ⟨3, c, o, upI s 0 (fun _ => 3), e1, ?_, rfl, h.thr⟩
        rw [e2]
        unfold bk_M_set_57
        rw [if_neg (by decide)]
      have mm : fn_M_set (N0 + 1) (nI x) v2 s = (fn_M_kindOf (N0 + 1) (nI x) s).bind (fun q_4 => if q_4.1 = 0 then (if v2 < 0 then (bk_M_set_52 (N0 + 1) (nI x) v2 q_4.2) else (if (nI x < 0 ∨ 1100 ≤ Int32.toNatClampNeg (nI x)) then none else if (((q_4.2.1 64) (Int32.toNatClampNeg (nI x))) < 0 ∨ 11000 ≤ Int32.toNatClampNeg (((q_4.2.1 64) (Int32.toNatClampNeg (nI x))))) then none else if ((v2 : Int32) >>> (((q_4.2.1 20) (Int32.toNatClampNeg (((q_4.2.1 64) (Int32.toNatClampNeg (nI x)))))) &&& 31)) = 0 then (bk_M_set_57 (N0 + 1) (nI x) v2 0 q_4.2) else (bk_M_set_52 (N0 + 1) (nI x) v2 q_4.2))) else (bk_M_set_52 (N0 + 1) (nI x) v2 q_4.2)) := by
        unfold fn_M_set
        rw [if_neg (s54 x2), e, obind]
        dsimp only
        rw [if_neg (show ¬ (1 : Int32) = 0 by decide)]
      rw [kindOf_M hJ hB hWF hL hM hx, obind] at mm
      dsimp only at mm
      by_cases kz : kd A (topL A) (topN A) x = 0
      · rw [kz, if_pos (show nI 0 = 0 from rfl)] at mm
        have kz2 : A.1 2 (snm A (topL A) (topN A) x) = 0 ∧ (sgi A (topL A) (topN A) x).1 = 0 := by
          unfold kd at kz
          split at kz
          · rename_i y
            refine ⟨y, ?_⟩
            split at kz
            · rename_i w; exact w
            · cases kz
          · rename_i y
            unfold srt at kz
            rw [if_neg y] at kz
            split at kz <;> cases kz
        have w6 : A.1 1 (snm A (topL A) (topN A) x) ≤ 6 := by
          have xo := (sg0 hL hx).mp kz2.2
          have L0 : (topL A 0).1 = A.1 46 0 - 1 := by have := hL.2.1.1; omega
          have sn : snm A (topL A) (topN A) x = A.1 21 (A.1 46 0 - 1) + x := by
            have := (RS_at hL hL.1 xo).2
            rw [hL.2.2.1, Nat.zero_add, L0] at this
            exact this
          rw [L0] at xo
          rw [sn] at kz2 ⊢
          have := inS_ge (A := A) (d := A.1 21 (A.1 46 0 - 1)) xo kz2.1
          have : inb A = inS A (own A (A.1 46 0 - 1)) (A.1 21 (A.1 46 0 - 1)) := rfl
          omega
        have so := sortOf_Q (N := N0 + 1) hJ hB hWF hL hC hx
        rw [kz] at so
        by_cases z : v2 < 0
        · rw [if_pos z] at mm
          refine no ?_ (by rw [mm]; rfl)
          unfold hp_set tx_C_set_C bx_C_set_C_78
          rw [if_neg (c208 x1), if_neg c0, c343, if_pos cc, so, obind]
          dsimp only
          rw [if_pos (show nI 0 = 0 from rfl), if_pos z]
          rfl
        · obtain ⟨k, hk, rfl⟩ := nI_of z
          rw [if_neg z, if_neg g1, nI_clamp (by omega), nm, if_neg g2, nI_clamp (by omega), dt.2.1] at mm
          have sh := shr0 (k := k) hk w6
          have lg := lgle (a := k) (b := 2 ^ A.1 1 (snm A (topL A) (topN A) x) - 1) (by omega) (by have := Nat.pow_le_pow_right (show 0 < 2 by decide) w6; omega)
          have po : 0 < 2 ^ A.1 1 (snm A (topL A) (topN A) x) := Nat.two_pow_pos _
          by_cases y : k < 2 ^ A.1 1 (snm A (topL A) (topN A) x)
          · rw [if_pos (sh.mpr y)] at mm
            obtain ⟨st, rs⟩ := hs.thr (fun _ => 0)
            obtain ⟨c2, s2, a1, a2, a3, a4, a5, a6⟩ := set_R (N := N0 + 1) (v := lN k) (by omega) st rs hx kz2.1 (ro.2.2.1.mpr (Or.inr (Or.inr kz2))) ⟨k, y, rfl⟩
            have es : Eb [0, 85, 86] [80, 81, 82, 83, 84] s s2 := (Eb.rfl.upI (by decide)).trans (a4.mono (by decide) (by decide))
            refine ⟨0, c2, o, s2, ?_, ?_, by rw [a4.1 0 (by decide)]; rfl, h.run x1 x2 hs (a3.mono (by decide) (by decide)) es a5 a6⟩
            · unfold hp_set tx_C_set_C fn_C_set_C
              rw [if_neg (c208 x1), if_neg (c208 x1), if_neg c0, if_neg c0, c343, if_pos cc, if_pos cc, so, obind, obind]
              dsimp only
              rw [if_pos (show nI 0 = 0 from rfl), if_pos (show nI 0 = 0 from rfl), if_neg z, if_neg z, widthOf_C hJ hB hWF hL hC hx, obind, obind]
              dsimp only
              rw [mask_C (by omega), obind, obind]
              dsimp only
              rw [nI_l hk, if_pos (lg.mpr (by omega)), if_pos (lg.mpr (by omega))]
              dsimp only
              rw [a1, obind, obind]
            · rw [mm]
              unfold bk_M_set_57
              rw [if_pos rfl, if_neg g1, nI_clamp (by omega), nI_l hk]
              rw [show (upJ (upI s 0 (fun _ => 0)) 83 (vp_updL (s.2 83) x (lN k))) = upJ (upI s 0 (fun _ => 0)) 83 (vp_updL ((upI s 0 (fun _ => 0)).2 83) x (lN k)) from rfl, a2, obind]
          · rw [if_neg (fun q => y (sh.mp q))] at mm
            refine no ?_ (by rw [mm]; rfl)
            unfold hp_set tx_C_set_C bx_C_set_C_78
            rw [if_neg (c208 x1), if_neg c0, c343, if_pos cc, so, obind]
            dsimp only
            rw [if_pos (show nI 0 = 0 from rfl), if_neg z, widthOf_C hJ hB hWF hL hC hx, obind]
            dsimp only
            rw [mask_C (by omega), obind]
            dsimp only
            rw [nI_l hk, if_neg (fun q => by have := lg.mp q; omega)]
            rfl
      · have kn : ¬ nI (kd A (topL A) (topN A) x) = 0 := fun q => kz ((nI_eq (b := 0) (by omega) (by decide)).mp q)
        rw [if_neg kn] at mm
        refine no ?_ (by rw [mm]; rfl)
        unfold hp_set tx_C_set_C
        rw [if_neg (c208 x1), if_neg c0, c343, if_pos cc, sortOf_Q hJ hB hWF hL hC hx, obind]
        dsimp only
        rw [if_neg kn]
        rfl
    · refine ⟨2, c, o, upI s 0 (fun _ => 2), ?_, ?_, rfl, h.thr⟩
      · unfold hp_set tx_C_set_C bx_C_set_C_30
        rw [if_neg (c208 x1), c343]
        by_cases y : v1 < 0
        · rw [if_pos y]; rfl
        · rw [if_neg y, if_neg (z.resolve_left y)]; rfl
      · unfold fn_M_set
        rw [if_neg (s54 x2), e, obind]
        dsimp only
        rw [if_pos rfl]
        unfold bk_M_set_57
        rw [if_neg (by decide)]
end CALLS3
