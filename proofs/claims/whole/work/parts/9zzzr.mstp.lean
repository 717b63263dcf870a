/-! The reference: a step of its machine, and a run. -/
theorem toI_lN : ∀ k : Fin 64, (lN k.1).toInt = k.1 := by decide +kernel
theorem toI_nI : ∀ k : Fin 65, (Int32.toInt64 (nI k.1)).toInt = k.1 := by decide +kernel
theorem amt_lN : ∀ k : Fin 64, (Int64.toUInt64 (Int32.toInt64 (Int64.toInt32 (lN k.1))) &&& Int64.toUInt64 63).toNat % 64 = k.1 := by decide +kernel
theorem small_lN {y : Int64} (h0 : ¬ lg_cmp y 0 < 0) (h1 : lg_cmp y 64 < 0) : ∃ k : Fin 64, y = lN k.1 := by
  rw [lgN, Int64.lt_iff_toInt_lt, show (0 : Int64).toInt = 0 from rfl] at h0
  rw [lgN, Int64.lt_iff_toInt_lt, show (64 : Int64).toInt = 64 from rfl] at h1
  have e : y.toInt = y.toBitVec.toInt := rfl
  have c := BitVec.toInt_eq_toNat_cond y.toBitVec
  have lt := y.toBitVec.isLt
  have : y.toBitVec.toNat < 64 := by
    rw [e, c] at h0 h1
    split at h0 <;> split at h1 <;> omega
  exact ⟨⟨y.toBitVec.toNat, this⟩, lN_of y⟩
theorem bit_M {x y : Int64} {w : Nat} (hx : Fw x w) (hw : w ≤ 64) : (if lg_cmp y 0 < 0 then (0 : Int64) else if lg_cmp y (Int32.toInt64 (nI w)) < 0 then aur x (Int64.toUInt64 (Int32.toInt64 (Int64.toInt32 y)) &&& Int64.toUInt64 63) &&& 1 else 0) = (if lg_cmp y 0 < 0 then 0 else if lg_cmp y 64 < 0 then aur x (Int64.toUInt64 (Int32.toInt64 (Int64.toInt32 y)) &&& Int64.toUInt64 63) &&& 1 else 0) := by
  by_cases h0 : lg_cmp y 0 < 0
  · rw [if_pos h0, if_pos h0]
  rw [if_neg h0, if_neg h0]
  have tw := toI_nI ⟨w, by omega⟩
  have tw : (Int32.toInt64 (nI w)).toInt = w := tw
  by_cases h64 : lg_cmp y 64 < 0
  · rw [if_pos h64]
    obtain ⟨k, hk⟩ := small_lN h0 h64
    subst hk
    have iff : lg_cmp (lN k.1) (Int32.toInt64 (nI w)) < 0 ↔ k.1 < w := by
      rw [lgN, Int64.lt_iff_toInt_lt, tw, toI_lN]
      omega
    by_cases hkw : k.1 < w
    · rw [if_pos (iff.mpr hkw)]
    · rw [if_neg (fun z => hkw (iff.mp z))]
      obtain ⟨n, hn, rfl⟩ := hx
      have hn2 : n < 2 ^ k.1 := Nat.lt_of_lt_of_le hn (Nat.pow_le_pow_right (by decide) (by omega))
      unfold aur
      rw [lN_ushr (Nat.lt_of_lt_of_le hn (Nat.pow_le_pow_right (by decide) hw)), amt_lN, Nat.div_eq_of_lt hn2]
      decide
  · rw [if_neg h64, if_neg (fun z => h64 ?_)]
    rw [lgN, Int64.lt_iff_toInt_lt] at z ⊢
    rw [tw] at z
    rw [show (64 : Int64).toInt = 64 from rfl]
    omega
section MSTP
variable {N F cl nl nc fd fr j e p p' : Nat} {code : Nat → Int32} {nums v n n' : Nat → Int64} {P : pw} {st st' : List Int64} {s : ms}
/-- an op of an exp -/
theorem op_M {o : aop} (hN : 100 < N) (hc : Mst s cl nl nc j fd fr code nums) (hp : p < e) (he : 3 * e ≤ cl) (hs : st.length ≤ 1000) (hR : MRn s fd fr P v n st) (h : rop code nums nc p o) (h8 : o.1 ≤ 8) (hP : o.1 = 1 → (P o.2.1).1) (hb3 : o.1 = 3 → ∀ y x r, st = y :: x :: r → Fw x o.2.1) (hb4 : o.1 = 4 → ∀ x r, st = x :: r → Fw x o.2.2) (hb : ob o) (ha : aex v o st = some st') : ∃ s', hd_M_run_3 N (F + 1) (nI (3 * e)) (nI j) (nI (3 * p)) s = hd_M_run_3 N F (nI (3 * e)) (nI j) (nI (3 * (p + 1))) s' ∧ MRn s' fd fr P v n st' ∧ Eb [85] [84] s s' := by
  obtain ⟨x0, y0, y1, y2, y3, y4, y5, y7, y8⟩ := h
  obtain ⟨g1, g2, g3, g4, g5, g6, g7, g8, g9, m, m1, m2, m3, m4⟩ := id hc
  unfold aex at ha
  by_cases k0 : o.1 = 0
  · obtain ⟨k, q1, q2, q3⟩ := y0 k0
    rw [if_pos k0] at ha
    cases ha
    rw [mhead_M (N := N) (F := F) (X := 0) hc hp he (by rw [x0, k0]; rfl) q2 rfl]
    simp (decide := true) only [reduceIte]
    rw [g3, nI_clamp (show nl < 2 ^ 31 by omega), if_neg (nI_in (show k < nl by omega) g5), nI_clamp (by omega), g7, q3]
    obtain ⟨s1, a1, a2, a3⟩ := push_M (N := N) (x := lN o.2.1) hR (by omega)
    rw [a1, obind]
    exact ⟨_, rfl, a2, a3⟩
  rw [if_neg k0] at ha
  by_cases k1 : o.1 = 1
  · rw [if_pos k1] at ha
    cases ha
    obtain ⟨d1, d2, d3, d4, d5⟩ := hR.2.2 _ (hP k1)
    rw [mhead_M (N := N) (F := F) (X := 1) hc hp he (by rw [x0, k1]; rfl) (y1 k1) rfl]
    simp (decide := true) only [reduceIte]
    rw [sig_M hc d1, obind]
    dsimp only
    rw [if_neg (nI_in (show fr + (o.2.1 - fd) < 1100 by omega) (by decide)), nI_clamp (by omega), ← d4]
    obtain ⟨s1, a1, a2, a3⟩ := push_M (N := N) (x := v o.2.1) hR (by omega)
    rw [a1, obind]
    exact ⟨_, rfl, a2, a3⟩
  rw [if_neg k1] at ha
  by_cases k2 : o.1 = 2
  · rw [if_pos k2] at ha
    obtain ⟨b1, b2⟩ := hb.1 k2
    rw [mhead_M (N := N) (F := F) (X := 2) hc hp he (by rw [x0, k2]; rfl) (y2 k2).1 (y2 k2).2]
    simp (decide := true) only [reduceIte]
    match st, ha, hR, hs with
    | a :: r, ha, hR, hs =>
      cases ha
      have hs' : r.length + 1 ≤ 1000 := hs
      obtain ⟨s1, a1, a2, a3⟩ := pop_M (N := N) hR (by omega)
      rw [a1, obind]
      dsimp only
      rw [nI_sub b1, nI_1, mask_M (by omega), obind]
      dsimp only
      obtain ⟨s2, c1, c2, c3⟩ := push_M (N := N) (x := aur a (Int64.toUInt64 (Int32.toInt64 (nI o.2.2)) &&& Int64.toUInt64 63) &&& amk (o.2.1 - o.2.2 + 1)) a2 (by omega)
      refine ⟨s2, ?_, c2, a3.trans c3⟩
      unfold aur at c1
      rw [c1]
      rfl
  rw [if_neg k2] at ha
  by_cases k3 : o.1 = 3
  · rw [if_pos k3] at ha
    rw [mhead_M (N := N) (F := F) (X := 3) hc hp he (by rw [x0, k3]; rfl) (y3 k3) rfl]
    simp (decide := true) only [reduceIte]
    match st, ha, hR, hs, hb3 with
    | b :: a :: r, ha, hR, hs, hb3 =>
      cases ha
      have hs' : r.length + 1 + 1 ≤ 1000 := hs
      have fw := hb3 k3 b a r rfl
      obtain ⟨s1, a1, a2, a3⟩ := pop_M (N := N) hR (by show r.length + 1 < 4096; omega)
      obtain ⟨s2, c1, c2, c3⟩ := pop_M (N := N) a2 (by omega)
      rw [a1, obind]
      dsimp only
      rw [c1, obind]
      dsimp only
      unfold bk_M_run_199 bk_M_run_211
      obtain ⟨s3, d1, d2, d3⟩ := push_M (N := N) (x := if lg_cmp b 0 < 0 then 0 else if lg_cmp b 64 < 0 then aur a (Int64.toUInt64 (Int32.toInt64 (Int64.toInt32 b)) &&& Int64.toUInt64 63) &&& 1 else 0) c2 (by omega)
      refine ⟨s3, ?_, d2, (a3.trans c3).trans d3⟩
      rw [← bit_M fw (hb.2.1 k3)] at d1
      by_cases z : lg_cmp b 0 < 0
      · rw [if_pos z] at d1
        rw [if_pos z, d1]
        rfl
      · rw [if_neg z] at d1
        rw [if_neg z]
        by_cases z2 : lg_cmp b (Int32.toInt64 (nI o.2.1)) < 0
        · rw [if_pos z2] at d1
          rw [if_pos z2]
          unfold aur at d1
          rw [d1]
          rfl
        · rw [if_neg z2] at d1
          rw [if_neg z2, d1]
          rfl
  rw [if_neg k3] at ha
  by_cases k4 : o.1 = 4
  · rw [if_pos k4] at ha
    obtain ⟨b1, b2, b3⟩ := hb.2.2.1 k4
    rw [mhead_M (N := N) (F := F) (X := 4) hc hp he (by rw [x0, k4]; rfl) (y4 k4).1 (y4 k4).2]
    simp (decide := true) only [reduceIte]
    match st, ha, hR, hs, hb4 with
    | a :: r, ha, hR, hs, hb4 =>
      cases ha
      have hs' : r.length + 1 ≤ 1000 := hs
      have fw := hb4 k4 a r rfl
      obtain ⟨s1, a1, a2, a3⟩ := pop_M (N := N) hR (by omega)
      rw [a1, obind]
      dsimp only
      rw [one_M hN b3 b2 fw, obind]
      dsimp only
      obtain ⟨s2, c1, c2, c3⟩ := push_M (N := N) (x := aun o.2.1 o.2.2 a) a2 (by omega)
      rw [c1]
      exact ⟨s2, rfl, c2, a3.trans c3⟩
  rw [if_neg k4] at ha
  by_cases k5 : o.1 = 5
  · rw [if_pos k5] at ha
    obtain ⟨b1, b2, b3⟩ := hb.2.2.2.1 k5
    rw [mhead_M (N := N) (F := F) (X := 5) hc hp he (by rw [x0, k5]; rfl) (y5 k5).1 (y5 k5).2]
    simp (decide := true) only [reduceIte]
    match st, ha, hR, hs with
    | b :: a :: r, ha, hR, hs =>
      cases ha
      have hs' : r.length + 1 + 1 ≤ 1000 := hs
      obtain ⟨s1, a1, a2, a3⟩ := pop_M (N := N) hR (by show r.length + 1 < 4096; omega)
      obtain ⟨s2, c1, c2, c3⟩ := pop_M (N := N) a2 (by omega)
      rw [a1, obind]
      dsimp only
      rw [c1, obind]
      dsimp only
      rw [two_M b3 (by omega), obind]
      dsimp only
      obtain ⟨s3, d1, d2, d3⟩ := push_M (N := N) (x := abi o.2.1 o.2.2 a b) c2 (by omega)
      rw [d1]
      exact ⟨s3, rfl, d2, (a3.trans c3).trans d3⟩
  rw [if_neg k5] at ha
  by_cases k6 : o.1 = 6
  · rw [if_pos k6] at ha
    rw [mhead_M (N := N) (F := F) (X := 6) hc hp he (by rw [x0, k6]; rfl) rfl rfl]
    simp (decide := true) only [reduceIte]
    match st, ha, hR, hs with
    | b :: a :: x :: r, ha, hR, hs =>
      cases ha
      have hs' : r.length + 1 + 1 + 1 ≤ 1000 := hs
      obtain ⟨s1, a1, a2, a3⟩ := pop_M (N := N) hR (by show r.length + 1 + 1 < 4096; omega)
      obtain ⟨s2, c1, c2, c3⟩ := pop_M (N := N) a2 (by show r.length + 1 < 4096; omega)
      obtain ⟨s3, d1, d2, d3⟩ := pop_M (N := N) c2 (by omega)
      rw [a1, obind]
      dsimp only
      rw [c1, obind]
      dsimp only
      rw [d1, obind]
      dsimp only
      unfold bk_M_run_294
      by_cases z : x = 0
      · rw [if_pos (lgE.mpr z), if_pos z]
        obtain ⟨s4, e1, e2, e3⟩ := push_M (N := N) (x := b) d2 (by omega)
        rw [e1]
        exact ⟨s4, rfl, e2, ((a3.trans c3).trans d3).trans e3⟩
      · rw [if_neg (fun q => z (lgE.mp q)), if_neg z]
        obtain ⟨s4, e1, e2, e3⟩ := push_M (N := N) (x := a) d2 (by omega)
        rw [e1]
        exact ⟨s4, rfl, e2, ((a3.trans c3).trans d3).trans e3⟩
  rw [if_neg k6] at ha
  by_cases k7 : o.1 = 7
  · rw [if_pos k7] at ha
    rw [mhead_M (N := N) (F := F) (X := 7) hc hp he (by rw [x0, k7]; rfl) (y7 k7) rfl]
    simp (decide := true) only [reduceIte]
    match st, ha, hR, hs with
    | b :: a :: r, ha, hR, hs =>
      cases ha
      have hs' : r.length + 1 + 1 ≤ 1000 := hs
      obtain ⟨s1, a1, a2, a3⟩ := pop_M (N := N) hR (by show r.length + 1 < 4096; omega)
      obtain ⟨s2, c1, c2, c3⟩ := pop_M (N := N) a2 (by omega)
      rw [a1, obind]
      dsimp only
      rw [c1, obind]
      dsimp only
      obtain ⟨s3, d1, d2, d3⟩ := push_M (N := N) (x := (a <<< ash o.2.1) ||| b) c2 (by omega)
      refine ⟨s3, ?_, d2, (a3.trans c3).trans d3⟩
      unfold ash at d1
      rw [d1]
      rfl
  rw [if_neg k7] at ha
  have k8 : o.1 = 8 := by omega
  obtain ⟨b1, b2, b3⟩ := hb.2.2.2.2.2 k8
  have b4 : o.2.1 ≤ 64 := Nat.le_trans (Nat.le_mul_of_pos_right _ b2) b3
  rw [mhead_M (N := N) (F := F) (X := 8) hc hp he (by rw [x0, k8]; rfl) (y8 k8).1 (y8 k8).2]
  simp (decide := true) only [reduceIte]
  match st, ha, hR, hs with
  | a :: r, ha, hR, hs =>
    cases ha
    have hs' : r.length + 1 ≤ 1000 := hs
    obtain ⟨s1, a1, a2, a3⟩ := pop_M (N := N) hR (by omega)
    rw [a1, obind]
    dsimp only
    rw [show hd_M_run_336 N (hd_M_run_3 N F) N (nI (3 * e)) (nI j) (nI o.2.1) (nI o.2.2) (nI (3 * (p + 1))) a a 1 s1 = _ from rep_M (o.2.1 - 1) 1 N a (by omega) (by omega) (by omega)]
    obtain ⟨s2, c1, c2, c3⟩ := push_M (N := N) (x := arep o.2.2 a (o.2.1 - 1) a) a2 (by omega)
    rw [c1]
    exact ⟨s2, rfl, c2, a3.trans c3⟩
end MSTP
