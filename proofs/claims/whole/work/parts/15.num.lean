/-! Numbers, as the reference reads them. -/
/-- the value of a digit, 99 of what is none -/
def cdv (c : Nat) : Nat := if 48 ≤ c ∧ c ≤ 57 then c - 48 else if 97 ≤ c ∧ c ≤ 102 then c - 87 else if 65 ≤ c ∧ c ≤ 70 then c - 55 else 99
theorem cdv_lt (c : Nat) : cdv c < 100 := by
  unfold cdv; split
  · omega
  · split
    · omega
    · split <;> omega
theorem digit_M {N c : Nat} {s : ms} (hc : c < 257) : fn_M_digit N (mch c) s = some (nI (cdv c), s) := by
  have key : ∀ c : Fin 257, (if b01 (cdig c.1) = 0 then (if mch c.1 < 97 then (if mch c.1 < 65 then (99 : Int32) else if 70 < mch c.1 then 99 else (mch c.1 - 65) + 10) else if 102 < mch c.1 then (if mch c.1 < 65 then (99 : Int32) else if 70 < mch c.1 then 99 else (mch c.1 - 65) + 10) else (mch c.1 - 97) + 10) else mch c.1 - 48) = nI (cdv c.1) := by decide +kernel
  have k := key ⟨c, hc⟩
  dsimp only at k
  unfold fn_M_digit bk_M_digit_36
  rw [isDigit_M hc]
  show (if b01 (cdig c) = 0 then _ else _) = _
  rw [← k]
  split
  · split
    · split
      · rfl
      · split <;> rfl
    · split
      · split
        · rfl
        · split <;> rfl
      · rfl
  · rfl
/-- f digits from k on, behind a number a -/
def dval (ch : Nat → Nat) (base : Nat) : Nat → Nat → Nat → Nat
  | 0, _, a => a
  | f + 1, k, a => dval ch base f (k + 1) (a * base + cdv (ch k))
theorem dval_ge (ch : Nat → Nat) (base : Nat) (hb : 1 ≤ base) : ∀ f k a, a ≤ dval ch base f k a
  | 0, _, a => Nat.le_refl a
  | f + 1, k, a => by
    refine Nat.le_trans ?_ (dval_ge ch base hb f (k + 1) (a * base + cdv (ch k)))
    have := Nat.le_mul_of_pos_right a hb
    omega
theorem rd_end {N n w hi lo A : Nat} {ov : Bool} {s : ms} (hw : w ≤ 64) (h1 : hi < 2 ^ 32) (h2 : lo < 2 ^ 32) (ho : ov = false → A = hi * 2 ^ 32 + lo) (ho2 : ov = true → 2 ^ 64 ≤ A) : ∃ v : Int64, (if b01 ov = 0 then (if 64 ≤ nI w then (bk_M_read_IIIIJ_144 N (lN hi) (lN lo) s) else (if nI w < 32 then (if (lg_cmp (lN hi) 0) = 0 then (if (lg_cmp (((lN lo : Int64) >>> ((Int32.toInt64 (nI w)) &&& 63))) 0) = 0 then (bk_M_read_IIIIJ_144 N (lN hi) (lN lo) s) else (bk_M_read_IIIIJ_148 N (lN hi) (lN lo) s)) else (bk_M_read_IIIIJ_148 N (lN hi) (lN lo) s)) else (if (lg_cmp (((lN hi : Int64) >>> ((Int32.toInt64 ((nI w - 32))) &&& 63))) 0) = 0 then (bk_M_read_IIIIJ_144 N (lN hi) (lN lo) s) else (bk_M_read_IIIIJ_148 N (lN hi) (lN lo) s)))) else (bk_M_read_IIIIJ_148 N (lN hi) (lN lo) s)) = some (v, upI s 87 (fun _ => b01 (decide (A < 2 ^ w)))) ∧ (A < 2 ^ 64 → v = lN A) := by
  have e0 : (0 : Int64) = lN 0 := rfl
  have y1 : bk_M_read_IIIIJ_144 N (lN hi) (lN lo) s = some (lN (hi * 2 ^ 32 + lo), upI s 87 (fun _ => 1)) := by
    unfold bk_M_read_IIIIJ_144 bk_M_read_IIIIJ_149
    rw [if_neg (by decide), lN_join h2]
  have y0 : bk_M_read_IIIIJ_148 N (lN hi) (lN lo) s = some (lN (hi * 2 ^ 32 + lo), upI s 87 (fun _ => 0)) := by
    unfold bk_M_read_IIIIJ_148 bk_M_read_IIIIJ_149
    rw [if_neg (by decide), lN_join h2]
  have pw : (2 : Nat) ^ w ≤ 2 ^ 64 := Nat.pow_le_pow_right (by decide) hw
  rw [y1, y0]
  refine ⟨lN (hi * 2 ^ 32 + lo), ?_, ?_⟩
  · cases ov
    · have ho := ho rfl
      rw [if_pos (show b01 false = 0 from rfl)]
      by_cases c : 64 ≤ w
      · obtain rfl : w = 64 := by omega
        rw [if_pos (show (64 : Int32) ≤ nI 64 by decide), decide_eq_true (by omega)]; rfl
      rw [if_neg (show ¬ (64 : Int32) ≤ nI w from nI_ge (b := 64) (by omega) (by decide))]
      by_cases c2 : w < 32
      · rw [if_pos (show nI w < (32 : Int32) from nI_lt c2 (by decide)), lN_shr (by omega) (by omega), e0]
        have pw2 : (2 : Nat) ^ w ≤ 2 ^ 32 := Nat.pow_le_pow_right (by decide) (by omega)
        by_cases c3 : hi = 0
        · rw [if_pos ((lg_cmp_eq _ _).mpr (by rw [c3]))]
          have q : lo / 2 ^ w = 0 ↔ lo < 2 ^ w := by
            rw [Nat.div_eq_zero_iff]
            have : 0 < 2 ^ w := Nat.pow_pos (by decide)
            omega
          by_cases c4 : lo < 2 ^ w
          · rw [if_pos ((lg_cmp_eq _ _).mpr (by rw [q.mpr c4])), decide_eq_true (by omega)]; rfl
          · rw [if_neg (fun z => c4 (q.mp ((lN_eq63 (Nat.lt_of_le_of_lt (Nat.div_le_self _ _) (by omega)) (by decide)).mp ((lg_cmp_eq _ _).mp z)))), decide_eq_false (by omega)]; rfl
        · rw [if_neg (fun z => c3 ((lN_eq63 (by omega) (by decide)).mp ((lg_cmp_eq _ _).mp z))), decide_eq_false (by omega)]; rfl
      · rw [if_neg (show ¬ nI w < (32 : Int32) from nI_nlt (b := 32) (by omega) (by omega)), show (32 : Int32) = nI 32 from rfl, nI_sub (by omega), lN_shr (by omega) (by omega), e0]
        have sp : (2 : Nat) ^ w = 2 ^ (w - 32) * 2 ^ 32 := by rw [← Nat.pow_add]; congr 1; omega
        have q : hi / 2 ^ (w - 32) = 0 ↔ A < 2 ^ w := by
          rw [Nat.div_eq_zero_iff, sp, ho]
          have : 0 < 2 ^ (w - 32) := Nat.pow_pos (by decide)
          omega
        by_cases c4 : A < 2 ^ w
        · rw [if_pos ((lg_cmp_eq _ _).mpr (by rw [q.mpr c4])), decide_eq_true c4]; rfl
        · rw [if_neg (fun z => c4 (q.mp ((lN_eq63 (Nat.lt_of_le_of_lt (Nat.div_le_self _ _) (by omega)) (by decide)).mp ((lg_cmp_eq _ _).mp z)))), decide_eq_false c4]; rfl
    · have := ho2 rfl
      rw [if_neg (show ¬ b01 true = 0 by decide), decide_eq_false (by omega)]; rfl
  · intro hA
    cases ov
    · rw [ho rfl]
    · have := ho2 rfl; omega
theorem rd_M {N n to base w : Nat} {ch : Nat → Nat} {s : ms} (h : Src s n ch) (hb : 2 ≤ base) (hb2 : base ≤ 16) (hw : w ≤ 64) (hto : to ≤ n) : ∀ (f m k A hi lo : Nat) (ov : Bool), k + f = to → f < m → (∀ j, k ≤ j → j < to → cdv (ch j) < base) → hi < 2 ^ 32 → lo < 2 ^ 32 → (ov = false → A = hi * 2 ^ 32 + lo) → (ov = true → 2 ^ 64 ≤ A) → ∃ v : Int64, hd_M_read_IIIIJ_12 N m (nI to) (nI base) (nI w) (lN hi) (lN lo) (b01 ov) (nI k) s = some (v, upI s 87 (fun _ => b01 (decide (dval ch base f k A < 2 ^ w)))) ∧ (dval ch base f k A < 2 ^ 64 → v = lN (dval ch base f k A)) := by
  have hn := h.2.1
  intro f
  induction f with
  | zero =>
    intro m k A hi lo ov e hm hd h1 h2 ho ho2
    obtain ⟨m, rfl⟩ : ∃ m', m = m' + 1 := ⟨m - 1, by omega⟩
    show ∃ v : Int64, bd_M_read_IIIIJ_12 N (hd_M_read_IIIIJ_12 N m) (nI to) (nI base) (nI w) (lN hi) (lN lo) (b01 ov) (nI k) s = _ ∧ _
    unfold bd_M_read_IIIIJ_12
    rw [if_pos (nI_le (show to ≤ k by omega) (by omega))]
    exact rd_end (n := n) hw h1 h2 ho ho2
  | succ f ih =>
    intro m k A hi lo ov e hm hd h1 h2 ho ho2
    obtain ⟨m, rfl⟩ : ∃ m', m = m' + 1 := ⟨m - 1, by omega⟩
    have lt := h.lt k
    have dd := hd k (Nat.le_refl k) (by omega)
    have dlt := cdv_lt (ch k)
    obtain ⟨d, hdd⟩ : ∃ d, d = cdv (ch k) := ⟨_, rfl⟩
    rw [← hdd] at dd dlt
    have hA : dval ch base (f + 1) k A = dval ch base f (k + 1) (A * base + d) := by rw [hdd]; rfl
    rw [hA]
    have hb3 : hi * base ≤ hi * 16 := Nat.mul_le_mul_left hi hb2
    have hb4 : lo * base ≤ lo * 16 := Nat.mul_le_mul_left lo hb2
    obtain ⟨z, hz⟩ : ∃ z, z = lo * base + d := ⟨_, rfl⟩
    have e1 : (lN hi * Int32.toInt64 (nI base)) + ((((lN lo * Int32.toInt64 (nI base)) + Int32.toInt64 (nI d)) : Int64) >>> ((Int32.toInt64 32) &&& 63)) = lN (hi * base + z / 2 ^ 32) := by
      rw [nI_l (show base < 2 ^ 31 by omega), nI_l (show d < 2 ^ 31 by omega), lN_mul, lN_mul, lN_add, ← hz, show (32 : Int32) = nI 32 from rfl, lN_shr (by decide) (by omega), lN_add]
    have e2 : ((lN lo * Int32.toInt64 (nI base)) + Int32.toInt64 (nI d)) &&& 4294967295 = lN (z % 2 ^ 32) := by
      rw [nI_l (show base < 2 ^ 31 by omega), nI_l (show d < 2 ^ 31 by omega), lN_mul, lN_add, ← hz, lN_low]
    have zd := Nat.div_add_mod z (2 ^ 32)
    have zm : z % 2 ^ 32 < 2 ^ 32 := Nat.mod_lt _ (by decide)
    have zq : z / 2 ^ 32 ≤ 16 := by omega
    show ∃ v : Int64, bd_M_read_IIIIJ_12 N (hd_M_read_IIIIJ_12 N m) (nI to) (nI base) (nI w) (lN hi) (lN lo) (b01 ov) (nI k) s = _ ∧ _
    unfold bd_M_read_IIIIJ_12 bk_M_read_IIIIJ_71 bk_M_read_IIIIJ_76
    rw [if_neg (nI_ge (show k < to by omega) (by omega)), at_M h (by omega), ex_bind rfl]
    show ∃ v : Int64, ((fn_M_digit N (mch (ch k)) s).bind _) = _ ∧ _
    rw [digit_M lt, ex_bind rfl, ← hdd]
    dsimp only
    rw [e1, e2, nI_1, lN_low]
    cases ov
    · have ho := ho rfl
      have hAA : A * base + d = (hi * base + z / 2 ^ 32) * 2 ^ 32 + z % 2 ^ 32 := by
        rw [ho, Nat.add_mul, Nat.add_mul, Nat.mul_right_comm, Nat.add_assoc, ← hz, Nat.add_assoc]
        omega
      rw [if_pos (show b01 false = 0 from rfl), show (4294967295 : Int64) = lN 4294967295 from rfl]
      by_cases c : hi * base + z / 2 ^ 32 ≤ 4294967295
      · rw [if_pos ((lg_cmp_le _ _).mpr (show lN (hi * base + z / 2 ^ 32) ≤ lN 4294967295 from (lN_le63 (by omega) (by decide)).mpr c)), Nat.mod_eq_of_lt (by omega)]
        exact ih m (k + 1) _ _ _ false (by omega) (by omega) (fun j h1 h2 => hd j (by omega) h2) (by omega) zm (fun _ => hAA) (fun z => by cases z)
      · rw [if_neg (fun q => c ((lN_le63 (by omega) (by decide)).mp (show lN (hi * base + z / 2 ^ 32) ≤ lN 4294967295 from (lg_cmp_le _ _).mp q)))]
        exact ih m (k + 1) _ _ _ true (by omega) (by omega) (fun j h1 h2 => hd j (by omega) h2) (Nat.mod_lt _ (by decide)) zm (fun z => by cases z) (fun _ => by omega)
    · have ho2 := ho2 rfl
      rw [if_neg (show ¬ b01 true = 0 by decide)]
      have : A ≤ A * base := Nat.le_mul_of_pos_right A (by omega)
      exact ih m (k + 1) _ _ _ true (by omega) (by omega) (fun j h1 h2 => hd j (by omega) h2) (Nat.mod_lt _ (by decide)) zm (fun z => by cases z) (fun _ => by omega)
theorem read_M {N n fr to base w : Nat} {ch : Nat → Nat} {s : ms} (h : Src s n ch) (hb : 2 ≤ base) (hb2 : base ≤ 16) (hw : w ≤ 64) (h1 : fr ≤ to) (hto : to ≤ n) (hN : n < N) (hd : ∀ j, fr ≤ j → j < to → cdv (ch j) < base) : ∃ v : Int64, fn_M_read_IIIIJ N (nI fr) (nI to) (nI base) (nI w) s = some (v, upI s 87 (fun _ => b01 (decide (dval ch base (to - fr) fr 0 < 2 ^ w)))) ∧ (dval ch base (to - fr) fr 0 < 2 ^ 64 → v = lN (dval ch base (to - fr) fr 0)) :=
  rd_M h hb hb2 hw hto (to - fr) N fr 0 0 0 false (by omega) (by omega) hd (by decide) (by decide) (fun _ => rfl) (fun z => by cases z)
