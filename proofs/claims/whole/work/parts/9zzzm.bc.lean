/-! How many bits are set. -/
def Vl (p : Nat) : Nat → (Nat → Nat) → Nat
  | 0, _ => 0
  | n + 1, f => f 0 + 2 ^ p * Vl p n (fun i => f (i + 1))
def bt (x i : Nat) : Nat := x / 2 ^ i % 2
theorem Vl_congr {p : Nat} : ∀ {n : Nat} {f g : Nat → Nat}, (∀ i, i < n → f i = g i) → Vl p n f = Vl p n g
  | 0, f, g, _ => rfl
  | n + 1, f, g, h => by
    unfold Vl
    rw [h 0 (by omega), Vl_congr (fun i hi => h (i + 1) (by omega))]
theorem Vl_add {p : Nat} : ∀ {n : Nat} {f g : Nat → Nat}, Vl p n f + Vl p n g = Vl p n (fun i => f i + g i)
  | 0, f, g => rfl
  | n + 1, f, g => by
    unfold Vl
    rw [← Vl_add (n := n) (f := fun i => f (i + 1)) (g := fun i => g (i + 1)), Nat.mul_add]
    show _ = f 0 + g 0 + _
    omega
theorem Vl_ext {p : Nat} : ∀ {n : Nat} {f : Nat → Nat}, f n = 0 → Vl p (n + 1) f = Vl p n f
  | 0, f, h => by unfold Vl Vl; rw [h]; rfl
  | n + 1, f, h => by
    show f 0 + 2 ^ p * Vl p (n + 1) (fun i => f (i + 1)) = f 0 + 2 ^ p * Vl p n (fun i => f (i + 1))
    rw [Vl_ext (n := n) (f := fun i => f (i + 1)) h]
theorem Vl_tail {p n : Nat} {f : Nat → Nat} (h : f n = 0) : Vl p n f = f 0 + 2 ^ p * Vl p n (fun i => f (i + 1)) := by
  rw [← Vl_ext h]
  rfl
theorem Vl_lane {p n : Nat} {f : Nat → Nat} (h : f n = 0) (h0 : f 0 < 2 ^ p) : Vl p n f / 2 ^ p = Vl p n (fun i => f (i + 1)) := by
  rw [Vl_tail h, Nat.add_mul_div_left _ _ (Nat.two_pow_pos p), Nat.div_eq_of_lt h0, Nat.zero_add]
theorem Vl_half {p : Nat} : ∀ {n : Nat} {lo hi : Nat → Nat}, lo n = 0 → Vl (p + p) n (fun i => lo i + 2 ^ p * hi i) = lo 0 + 2 ^ p * Vl (p + p) n (fun i => hi i + 2 ^ p * lo (i + 1))
  | 0, lo, hi, h => by unfold Vl; rw [h]; rfl
  | n + 1, lo, hi, h => by
    have e := Vl_half (p := p) (n := n) (lo := fun i => lo (i + 1)) (hi := fun i => hi (i + 1)) h
    show lo 0 + 2 ^ p * hi 0 + 2 ^ (p + p) * Vl (p + p) n (fun i => lo (i + 1) + 2 ^ p * hi (i + 1)) = lo 0 + 2 ^ p * (hi 0 + 2 ^ p * lo (0 + 1) + 2 ^ (p + p) * Vl (p + p) n (fun i => hi (i + 1) + 2 ^ p * lo (i + 1 + 1)))
    rw [e, Nat.mul_add, Nat.mul_add, Nat.mul_add, ← Nat.mul_assoc (2 ^ p) (2 ^ p), ← Nat.pow_add, ← Nat.mul_assoc (2 ^ (p + p)) (2 ^ p), ← Nat.mul_assoc (2 ^ p) (2 ^ (p + p)), ← Nat.pow_add, ← Nat.pow_add, Nat.add_comm (p + p) p]
    omega
theorem Vl_shr {p n : Nat} {lo hi : Nat → Nat} (h : lo n = 0) (h0 : lo 0 < 2 ^ p) : Vl (p + p) n (fun i => lo i + 2 ^ p * hi i) / 2 ^ p = Vl (p + p) n (fun i => hi i + 2 ^ p * lo (i + 1)) := by
  rw [Vl_half h, Nat.add_mul_div_left _ _ (Nat.two_pow_pos p), Nat.div_eq_of_lt h0, Nat.zero_add]
theorem and_lane {k x y a b : Nat} (hx : x < 2 ^ k) (ha : a < 2 ^ k) : (x + 2 ^ k * y) &&& (a + 2 ^ k * b) = (x &&& a) + 2 ^ k * (y &&& b) := by
  have hxa : x &&& a < 2 ^ k := Nat.lt_of_le_of_lt Nat.and_le_left hx
  apply Nat.eq_of_testBit_eq
  intro j
  rw [Nat.testBit_and, Nat.add_comm x, Nat.add_comm a, Nat.add_comm (x &&& a), Nat.testBit_two_pow_mul_add _ hx, Nat.testBit_two_pow_mul_add _ ha, Nat.testBit_two_pow_mul_add _ hxa]
  split
  · rw [Nat.testBit_and]
  · rw [Nat.testBit_and]
theorem Vl_and {p : Nat} : ∀ {n : Nat} {lo hi : Nat → Nat}, (∀ i, lo i < 2 ^ p) → (∀ i, hi i < 2 ^ p) → Vl (p + p) n (fun i => lo i + 2 ^ p * hi i) &&& Vl (p + p) n (fun _ => 2 ^ p - 1) = Vl (p + p) n lo
  | 0, lo, hi, _, _ => (by unfold Vl; rfl)
  | n + 1, lo, hi, h1, h2 => by
    have pp := Nat.two_pow_pos p
    have l0 : lo 0 + 2 ^ p * hi 0 < 2 ^ (p + p) := by
      rw [Nat.pow_add]
      have := h1 0
      have := h2 0
      calc lo 0 + 2 ^ p * hi 0 < 2 ^ p + 2 ^ p * hi 0 := by omega
        _ = 2 ^ p * (hi 0 + 1) := by rw [Nat.mul_add, Nat.mul_one, Nat.add_comm]
        _ ≤ 2 ^ p * 2 ^ p := Nat.mul_le_mul_left _ (by omega)
    have m0 : 2 ^ p - 1 < 2 ^ (p + p) := by
      have : 2 ^ p ≤ 2 ^ (p + p) := Nat.pow_le_pow_right (by decide) (by omega)
      omega
    show (lo 0 + 2 ^ p * hi 0 + 2 ^ (p + p) * Vl (p + p) n (fun i => lo (i + 1) + 2 ^ p * hi (i + 1))) &&& (2 ^ p - 1 + 2 ^ (p + p) * Vl (p + p) n (fun _ => 2 ^ p - 1)) = lo 0 + 2 ^ (p + p) * Vl (p + p) n (fun i => lo (i + 1))
    rw [and_lane l0 m0, Vl_and (fun i => h1 (i + 1)) (fun i => h2 (i + 1)), Nat.and_two_pow_sub_one_eq_mod, Nat.add_mul_mod_self_left, Nat.mod_eq_of_lt (h1 0)]
theorem Vl_grp {p : Nat} : ∀ {n : Nat} {f : Nat → Nat}, Vl p (n + n) f = Vl (p + p) n (fun i => f (i + i) + 2 ^ p * f (i + i + 1))
  | 0, f => rfl
  | n + 1, f => by
    have e := Vl_grp (p := p) (n := n) (f := fun i => f (i + 1 + 1))
    rw [show n + 1 + (n + 1) = n + n + 1 + 1 by omega]
    show f 0 + 2 ^ p * (f (0 + 1) + 2 ^ p * Vl p (n + n) (fun i => f (i + 1 + 1))) = f (0 + 0) + 2 ^ p * f (0 + 0 + 1) + 2 ^ (p + p) * Vl (p + p) n (fun i => f (i + 1 + (i + 1)) + 2 ^ p * f (i + 1 + (i + 1) + 1))
    rw [e, Nat.mul_add, ← Nat.mul_assoc, ← Nat.pow_add]
    have : ∀ i, (fun i => (fun i => f (i + 1 + 1)) (i + i) + 2 ^ p * (fun i => f (i + 1 + 1)) (i + i + 1)) i = (fun i => f (i + 1 + (i + 1)) + 2 ^ p * f (i + 1 + (i + 1) + 1)) i := fun i => by
      dsimp only
      rw [show i + i + 1 + 1 = i + 1 + (i + 1) by omega]
    rw [Vl_congr (fun i _ => this i)]
    show f 0 + (2 ^ p * f 1 + _) = f 0 + 2 ^ p * f 1 + _
    omega
theorem Vl_bits : ∀ {n x : Nat}, x < 2 ^ n → x = Vl 1 n (bt x)
  | 0, x, h => by
    have : x = 0 := by omega
    rw [this]
    rfl
  | n + 1, x, h => by
    have e := Vl_bits (n := n) (x := x / 2) (by rw [Nat.pow_succ] at h; omega)
    show x = bt x 0 + 2 ^ 1 * Vl 1 n (fun i => bt x (i + 1))
    have : Vl 1 n (fun i => bt x (i + 1)) = Vl 1 n (bt (x / 2)) := Vl_congr (fun i _ => by
      unfold bt
      rw [Nat.div_div_eq_div_mul, Nat.pow_succ, Nat.mul_comm])
    rw [this, ← e]
    unfold bt
    rw [Nat.pow_zero, Nat.div_one]
    omega
theorem bt_le (x i : Nat) : bt x i ≤ 1 := by unfold bt; omega
theorem bt_ge {x n i : Nat} (h : x < 2 ^ n) (hi : n ≤ i) : bt x i = 0 := by
  unfold bt
  rw [Nat.div_eq_of_lt (Nat.lt_of_lt_of_le h (Nat.pow_le_pow_right (by decide) hi))]
theorem Vl_mod {n : Nat} {f : Nat → Nat} : Vl 8 (n + 1) f % 2 = f 0 % 2 := by
  show (f 0 + 256 * Vl 8 n (fun i => f (i + 1))) % 2 = _
  omega
/-- the sum of bits -/
def sB (x : Nat) : Nat → Nat
  | 0 => 0
  | n + 1 => sB x n + bt x n
theorem Vl_le {p c : Nat} : ∀ {n : Nat} {f : Nat → Nat}, (∀ i, f i ≤ c) → Vl p n f ≤ c * Vl p n (fun _ => 1)
  | 0, f, _ => Nat.zero_le _
  | n + 1, f, h => by
    have e := Vl_le (p := p) (c := c) (n := n) (f := fun i => f (i + 1)) (fun i => h (i + 1))
    show f 0 + 2 ^ p * Vl p n (fun i => f (i + 1)) ≤ c * (1 + 2 ^ p * Vl p n (fun _ => 1))
    rw [Nat.mul_add, Nat.mul_one, Nat.mul_left_comm]
    exact Nat.add_le_add (h 0) (Nat.mul_le_mul_left _ e)
/-- the class's way -/
theorem bc_nat {x : Nat} (hx : x < 2 ^ 64) : ∃ i1 i2 i3 : Nat, x / 2 &&& 6148914691236517205 ≤ x ∧ i1 = x - (x / 2 &&& 6148914691236517205) ∧ i1 < 2 ^ 64 ∧ i2 = (i1 &&& 3689348814741910323) + (i1 / 4 &&& 3689348814741910323) ∧ i2 < 2 ^ 63 ∧ i3 = (i2 + i2 / 16) &&& 1085102592571150095 ∧ i3 < 2 ^ 62 ∧ (i3 + i3 / 256 + (i3 + i3 / 256) / 65536 + (i3 + i3 / 256 + (i3 + i3 / 256) / 65536) / 4294967296) % 2 = sB x 64 % 2 := by
  have bl := bt_le x
  have bz : ∀ i, 64 ≤ i → bt x i = 0 := fun i hi => bt_ge hx hi
  have e1 : x = Vl (1 + 1) 32 (fun i => bt x (i + i) + 2 ^ 1 * bt x (i + i + 1)) := (Vl_bits hx).trans (Vl_grp (p := 1) (n := 32))
  have m1 : (6148914691236517205 : Nat) = Vl (1 + 1) 32 (fun _ => 2 ^ 1 - 1) := by decide
  have s1 : x / 2 = Vl (1 + 1) 32 (fun i => bt x (i + i + 1) + 2 ^ 1 * bt x (i + 1 + (i + 1))) := by
    have := Vl_shr (p := 1) (n := 32) (lo := fun i => bt x (i + i)) (hi := fun i => bt x (i + i + 1)) (bz 64 (by omega)) (by have := bl (0 + 0); show bt x (0 + 0) < 2; omega)
    rw [← e1] at this
    exact this
  have a1 : x / 2 &&& 6148914691236517205 = Vl (1 + 1) 32 (fun i => bt x (i + i + 1)) := by
    rw [s1, m1]
    exact Vl_and (p := 1) (lo := fun i => bt x (i + i + 1)) (hi := fun i => bt x (i + 1 + (i + 1))) (fun i => by have := bl (i + i + 1); show bt x (i + i + 1) < 2; omega) (fun i => by have := bl (i + 1 + (i + 1)); show bt x (i + 1 + (i + 1)) < 2; omega)
  obtain ⟨c2, hc2⟩ : ∃ c2 : Nat → Nat, ∀ i, c2 i = bt x (i + i) + bt x (i + i + 1) := ⟨_, fun i => rfl⟩
  obtain ⟨c4, hc4⟩ : ∃ c4 : Nat → Nat, ∀ i, c4 i = c2 (i + i) + c2 (i + i + 1) := ⟨_, fun i => rfl⟩
  obtain ⟨c8, hc8⟩ : ∃ c8 : Nat → Nat, ∀ i, c8 i = c4 (i + i) + c4 (i + i + 1) := ⟨_, fun i => rfl⟩
  have l2 : ∀ i, c2 i ≤ 2 := fun i => by rw [hc2]; have := bl (i + i); have := bl (i + i + 1); omega
  have l4 : ∀ i, c4 i ≤ 4 := fun i => by rw [hc4]; have := l2 (i + i); have := l2 (i + i + 1); omega
  have l8 : ∀ i, c8 i ≤ 8 := fun i => by rw [hc8]; have := l4 (i + i); have := l4 (i + i + 1); omega
  have z2 : ∀ i, 32 ≤ i → c2 i = 0 := fun i hi => by rw [hc2, bz _ (by omega), bz _ (by omega)]
  have z4 : ∀ i, 16 ≤ i → c4 i = 0 := fun i hi => by rw [hc4, z2 _ (by omega), z2 _ (by omega)]
  have z8 : ∀ i, 8 ≤ i → c8 i = 0 := fun i hi => by rw [hc8, z4 _ (by omega), z4 _ (by omega)]
  have x2 : x = Vl (1 + 1) 32 c2 + Vl (1 + 1) 32 (fun i => bt x (i + i + 1)) := by
    rw [Vl_add]
    refine e1.trans (Vl_congr (fun i _ => ?_))
    show bt x (i + i) + 2 * bt x (i + i + 1) = c2 i + bt x (i + i + 1)
    rw [hc2]
    omega
  have hi1 : x - (x / 2 &&& 6148914691236517205) = Vl (1 + 1) 32 c2 := by rw [a1]; omega
  -- fours
  have e2 : Vl (1 + 1) 32 c2 = Vl (1 + 1 + (1 + 1)) 16 (fun i => c2 (i + i) + 2 ^ (1 + 1) * c2 (i + i + 1)) := Vl_grp (p := 1 + 1) (n := 16)
  have m2 : (3689348814741910323 : Nat) = Vl (1 + 1 + (1 + 1)) 16 (fun _ => 2 ^ (1 + 1) - 1) := by decide
  have s2 : Vl (1 + 1) 32 c2 / 4 = Vl (1 + 1 + (1 + 1)) 16 (fun i => c2 (i + i + 1) + 2 ^ (1 + 1) * c2 (i + 1 + (i + 1))) := by
    rw [e2]
    exact Vl_shr (p := 1 + 1) (n := 16) (lo := fun i => c2 (i + i)) (hi := fun i => c2 (i + i + 1)) (z2 _ (by omega)) (by have := l2 (0 + 0); show c2 (0 + 0) < 4; omega)
  have a2 : Vl (1 + 1) 32 c2 &&& 3689348814741910323 = Vl (1 + 1 + (1 + 1)) 16 (fun i => c2 (i + i)) := by
    rw [e2, m2]
    exact Vl_and (p := 1 + 1) (lo := fun i => c2 (i + i)) (hi := fun i => c2 (i + i + 1)) (fun i => by have := l2 (i + i); show c2 (i + i) < 4; omega) (fun i => by have := l2 (i + i + 1); show c2 (i + i + 1) < 4; omega)
  have b2 : Vl (1 + 1) 32 c2 / 4 &&& 3689348814741910323 = Vl (1 + 1 + (1 + 1)) 16 (fun i => c2 (i + i + 1)) := by
    rw [s2, m2]
    exact Vl_and (p := 1 + 1) (lo := fun i => c2 (i + i + 1)) (hi := fun i => c2 (i + 1 + (i + 1))) (fun i => by have := l2 (i + i + 1); show c2 (i + i + 1) < 4; omega) (fun i => by have := l2 (i + 1 + (i + 1)); show c2 (i + 1 + (i + 1)) < 4; omega)
  have hi2 : (Vl (1 + 1) 32 c2 &&& 3689348814741910323) + (Vl (1 + 1) 32 c2 / 4 &&& 3689348814741910323) = Vl (1 + 1 + (1 + 1)) 16 c4 := by
    rw [a2, b2, Vl_add]
    exact Vl_congr (fun i _ => (hc4 i).symm)
  -- bytes
  have e4 : Vl (1 + 1 + (1 + 1)) 16 c4 = Vl 8 8 (fun i => c4 (i + i) + 2 ^ 4 * c4 (i + i + 1)) := Vl_grp (p := 4) (n := 8)
  have m4 : (1085102592571150095 : Nat) = Vl 8 8 (fun _ => 2 ^ 4 - 1) := by decide
  have s4 : Vl (1 + 1 + (1 + 1)) 16 c4 / 16 = Vl 8 8 (fun i => c4 (i + i + 1) + 2 ^ 4 * c4 (i + 1 + (i + 1))) := by
    rw [e4]
    exact Vl_shr (p := 4) (n := 8) (lo := fun i => c4 (i + i)) (hi := fun i => c4 (i + i + 1)) (z4 _ (by omega)) (by have := l4 (0 + 0); show c4 (0 + 0) < 16; omega)
  have hi3 : (Vl (1 + 1 + (1 + 1)) 16 c4 + Vl (1 + 1 + (1 + 1)) 16 c4 / 16) &&& 1085102592571150095 = Vl 8 8 c8 := by
    rw [s4, e4, Vl_add, m4]
    have : Vl 8 8 (fun i => c4 (i + i) + 2 ^ 4 * c4 (i + i + 1) + (c4 (i + i + 1) + 2 ^ 4 * c4 (i + 1 + (i + 1)))) = Vl (4 + 4) 8 (fun i => c8 i + 2 ^ 4 * (c4 (i + i + 1) + c4 (i + 1 + (i + 1)))) := Vl_congr (fun i _ => by
      rw [hc8]
      show c4 (i + i) + 16 * c4 (i + i + 1) + (c4 (i + i + 1) + 16 * c4 (i + 1 + (i + 1))) = c4 (i + i) + c4 (i + i + 1) + 16 * (c4 (i + i + 1) + c4 (i + 1 + (i + 1)))
      omega)
    rw [this]
    exact Vl_and (p := 4) (lo := c8) (hi := fun i => c4 (i + i + 1) + c4 (i + 1 + (i + 1))) (fun i => by have := l8 i; show c8 i < 16; omega) (fun i => by have := l4 (i + i + 1); have := l4 (i + 1 + (i + 1)); show c4 (i + i + 1) + c4 (i + 1 + (i + 1)) < 16; omega)
  -- sums of bytes
  have s8 : Vl 8 8 c8 / 256 = Vl 8 8 (fun i => c8 (i + 1)) := Vl_lane (p := 8) (z8 8 (by omega)) (by have := l8 0; show c8 0 < 256; omega)
  obtain ⟨d, hd⟩ : ∃ d : Nat → Nat, ∀ i, d i = c8 i + c8 (i + 1) := ⟨_, fun i => rfl⟩
  have ld : ∀ i, d i ≤ 16 := fun i => by rw [hd]; have := l8 i; have := l8 (i + 1); omega
  have zd : ∀ i, 8 ≤ i → d i = 0 := fun i hi => by rw [hd, z8 _ hi, z8 _ (by omega)]
  have h4 : Vl 8 8 c8 + Vl 8 8 c8 / 256 = Vl 8 8 d := by
    rw [s8, Vl_add]
    exact Vl_congr (fun i _ => (hd i).symm)
  have lan : ∀ f : Nat → Nat, (∀ i, f i < 256) → f 8 = 0 → Vl 8 8 f / 256 = Vl 8 8 (fun i => f (i + 1)) := fun f h1 h2 => Vl_lane (p := 8) h2 (h1 0)
  have sd : Vl 8 8 d / 65536 = Vl 8 8 (fun i => d (i + 1 + 1)) := by
    rw [show 65536 = 256 * 256 from rfl, ← Nat.div_div_eq_div_mul, lan d (fun i => by have := ld i; omega) (zd 8 (by omega)), lan (fun i => d (i + 1)) (fun i => by have := ld (i + 1); show d (i + 1) < 256; omega) (zd 9 (by omega))]
  obtain ⟨g, hg⟩ : ∃ g : Nat → Nat, ∀ i, g i = d i + d (i + 1 + 1) := ⟨_, fun i => rfl⟩
  have lg : ∀ i, g i ≤ 32 := fun i => by rw [hg]; have := ld i; have := ld (i + 1 + 1); omega
  have zg : ∀ i, 8 ≤ i → g i = 0 := fun i hi => by rw [hg, zd _ hi, zd _ (by omega)]
  have h5 : Vl 8 8 d + Vl 8 8 d / 65536 = Vl 8 8 g := by
    rw [sd, Vl_add]
    exact Vl_congr (fun i _ => (hg i).symm)
  have sg : Vl 8 8 g / 4294967296 = Vl 8 8 (fun i => g (i + 1 + 1 + 1 + 1)) := by
    rw [show 4294967296 = 256 * 256 * 256 * 256 from rfl, ← Nat.div_div_eq_div_mul, ← Nat.div_div_eq_div_mul, ← Nat.div_div_eq_div_mul, lan g (fun i => by have := lg i; omega) (zg 8 (by omega)), lan (fun i => g (i + 1)) (fun i => by have := lg (i + 1); show g (i + 1) < 256; omega) (zg 9 (by omega)), lan (fun i => g (i + 1 + 1)) (fun i => by have := lg (i + 1 + 1); show g (i + 1 + 1) < 256; omega) (zg 10 (by omega)), lan (fun i => g (i + 1 + 1 + 1)) (fun i => by have := lg (i + 1 + 1 + 1); show g (i + 1 + 1 + 1) < 256; omega) (zg 11 (by omega))]
  refine ⟨_, _, _, by rw [a1]; omega, rfl, by omega, rfl, ?_, rfl, ?_, ?_⟩
  · rw [hi1, hi2]
    have := Vl_le (p := 1 + 1 + (1 + 1)) (n := 16) l4
    have k : Vl (1 + 1 + (1 + 1)) 16 (fun _ => 1) = 1229782938247303441 := by decide
    omega
  · rw [hi1, hi2, hi3]
    have := Vl_le (p := 8) (n := 8) l8
    have k : Vl 8 8 (fun _ => 1) = 72340172838076673 := by decide
    omega
  · rw [hi1, hi2, hi3, h4, h5, sg, Vl_add, Vl_mod (n := 7)]
    have cb : ∀ i, c8 i = bt x (8 * i) + bt x (8 * i + 1) + (bt x (8 * i + 2) + bt x (8 * i + 2 + 1)) + (bt x (8 * i + 4) + bt x (8 * i + 4 + 1) + (bt x (8 * i + 6) + bt x (8 * i + 6 + 1))) := fun i => by
      rw [hc8, hc4, hc4, hc2, hc2, hc2, hc2, show i + i + (i + i) + (i + i + (i + i)) = 8 * i by omega, show i + i + (i + i) + 1 + (i + i + (i + i) + 1) = 8 * i + 2 by omega, show i + i + 1 + (i + i + 1) + (i + i + 1 + (i + i + 1)) = 8 * i + 4 by omega, show i + i + 1 + (i + i + 1) + 1 + (i + i + 1 + (i + i + 1) + 1) = 8 * i + 6 by omega]
    have sb : ∀ i, sB x (8 * i + 8) = sB x (8 * i) + c8 i := fun i => by
      rw [cb, show sB x (8 * i + 8) = sB x (8 * i) + bt x (8 * i) + bt x (8 * i + 1) + bt x (8 * i + 2) + bt x (8 * i + 2 + 1) + bt x (8 * i + 4) + bt x (8 * i + 4 + 1) + bt x (8 * i + 6) + bt x (8 * i + 6 + 1) from rfl]
      omega
    have e : g 0 + g 4 = sB x 64 := by
      have s0 := sb 0
      have s1 := sb 1
      have s2 := sb 2
      have s3 := sb 3
      have s4 := sb 4
      have s5 := sb 5
      have s6 := sb 6
      have s7 := sb 7
      have z : sB x 0 = 0 := rfl
      have g0 := hg 0
      have g4 := hg 4
      have d0 := hd 0
      have d2 := hd 2
      have d4 := hd 4
      have d6 := hd 6
      simp only [Nat.reduceMul, Nat.reduceAdd] at s0 s1 s2 s3 s4 s5 s6 s7 g0 g4 d0 d2 d4 d6
      omega
    show (g 0 + g 4) % 2 = _
    rw [e]
