/-! The class's code: words, runs. -/
theorem mask32 (i : Nat) : (4294967295#64).getLsbD i = decide (i < 32) := by
  show (BitVec.ofNat 64 (2 ^ 32 - 1)).getLsbD i = _
  rw [BitVec.getLsbD_ofNat, Nat.testBit_two_pow_sub_one]
  by_cases h : i < 32
  · simp [h]; omega
  · simp [h]
theorem crw_bv (op g : Int32) : (crw op g).toBitVec = ((op.toBitVec.signExtend 64) <<< 32) ||| (g.toBitVec.signExtend 64 &&& 4294967295#64) := by
  unfold crw
  show (((Int32.toInt64 op) : Int64) <<< ((Int32.toInt64 32) &&& 63)).toBitVec ||| _ = _
  have e : ((Int32.toInt64 32) &&& 63).toBitVec.smod 64 = 32#64 := by decide +kernel
  show (op.toBitVec.signExtend 64) <<< (((Int32.toInt64 32) &&& 63).toBitVec.smod 64) ||| _ = _
  rw [e]
  rfl
theorem crw_bit (op g : Int32) (i : Nat) (h : i < 64) : (crw op g).toBitVec.getLsbD i = if i < 32 then g.toBitVec.getLsbD i else op.toBitVec.getLsbD (i - 32) := by
  rw [crw_bv, BitVec.getLsbD_or, BitVec.getLsbD_and, mask32, BitVec.getLsbD_shiftLeft, BitVec.getLsbD_signExtend, BitVec.getLsbD_signExtend]
  by_cases c : i < 32
  · simp [c, h]
  · have : i - 32 < 32 := by omega
    have h2 : i - 32 < 64 := by omega
    simp [c, h, this, h2]
theorem crw_arg (op g : Int32) : Int64.toInt32 (crw op g) = g := by
  apply i32_inj
  apply BitVec.eq_of_getLsbD_eq
  intro i hi
  show ((crw op g).toBitVec.signExtend 32).getLsbD i = _
  rw [BitVec.getLsbD_signExtend]
  have h : i < 64 := by omega
  rw [crw_bit op g i h]
  simp [hi, h]
theorem crw_aim {op g : Int32} {a : Nat} (ha : a < 2 ^ 31) : (crw op g &&& (-4294967296)) ||| Int32.toInt64 (nI a) = crw op (nI a) := by
  apply Int64.toBitVec_inj.mp
  apply BitVec.eq_of_getLsbD_eq
  intro i hi
  show ((crw op g).toBitVec &&& (-4294967296 : Int64).toBitVec ||| (nI a).toBitVec.signExtend 64).getLsbD i = _
  rw [BitVec.getLsbD_or, BitVec.getLsbD_and, crw_bit op g i hi, crw_bit op (nI a) i hi, BitVec.getLsbD_signExtend]
  have m : ∀ i : Fin 64, (-4294967296 : Int64).toBitVec.getLsbD i.1 = decide (32 ≤ i.1) := by decide +kernel
  rw [m ⟨i, hi⟩]
  have msb : (nI a).toBitVec.msb = false := by
    show (BitVec.ofNat 32 a).msb = false
    rw [BitVec.msb_eq_false_iff_two_mul_lt, BitVec.toNat_ofNat]
    omega
  by_cases c : i < 32
  · have : ¬ 32 ≤ i := by omega
    simp [c, hi, this]
  · have : 32 ≤ i := by omega
    simp [c, hi, this, msb]
theorem crw_op (op g : Int32) : Int64.toInt32 ((Int64.toUInt64 (crw op g) >>> (Int64.toUInt64 (Int32.toInt64 32) &&& Int64.toUInt64 63)).toInt64) = op := by
  apply i32_inj
  apply BitVec.eq_of_getLsbD_eq
  intro i hi
  have e : Int64.toUInt64 (Int32.toInt64 32) &&& Int64.toUInt64 63 = 32 := by decide +kernel
  rw [e]
  show (((crw op g).toBitVec >>> (32#64 % 64#64)).signExtend 32).getLsbD i = _
  rw [BitVec.getLsbD_signExtend]
  have h : i < 64 := by omega
  have h2 : 32 + i < 64 := by omega
  have c : ¬ 32 + i < 32 := by omega
  have s : ((crw op g).toBitVec >>> (32#64 % 64#64)) = (crw op g).toBitVec >>> 32 := rfl
  rw [s, BitVec.getLsbD_ushiftRight, crw_bit op g _ h2]
  simp [hi, h]
/-- a step of the class's code -/
def cS (row : Nat → Int64) (fd : Nat) (lit : Nat → Int64) (lc : Nat) (P : Nat → Prop) (v : Nat → Int64) (a c : vst) : Prop :=
  a.1 < c.1 ∧ c.2.1.length ≤ 960 ∧ ((∃ o, cop row fd lit lc a.1 o ∧ o.1 ≤ 8 ∧ (o.1 = 1 → P o.2.1) ∧ ob o ∧ aex v o a.2.1 = some c.2.1 ∧ c.1 = a.1 + 1 ∧ c.2.2 = a.2.2) ∨
  (∃ d h l x, row a.1 = crw 515 (nI ((d - fd) * 16384 + l * 128 + (h - l + 1))) ∧ l ≤ h ∧ h < 64 ∧ fd ≤ d ∧ d < 10923 ∧ P d ∧ a.2.1 = x :: c.2.1 ∧ c.2.2 = vp_updL a.2.2 d (aSt h l (a.2.2 d) x) ∧ c.1 = a.1 + 1) ∨
  (∃ x, a.2.1 = x :: c.2.1 ∧ c.2.2 = a.2.2 ∧ ((x = 0 ∧ row a.1 = crw 518 (nI c.1)) ∨ (x ≠ 0 ∧ (∃ g, row a.1 = crw 518 g) ∧ c.1 = a.1 + 1))) ∨
  (row a.1 = crw 517 (nI c.1) ∧ c.2 = a.2) ∨
  (∃ x y st0, a.2.1 = y :: x :: st0 ∧ c.2.1 = x :: st0 ∧ c.2.2 = a.2.2 ∧ ((x = y ∧ row a.1 = crw 519 (nI c.1)) ∨ (x ≠ y ∧ (∃ g, row a.1 = crw 519 g) ∧ c.1 = a.1 + 1))) ∨
  (∃ x g, row a.1 = crw 516 g ∧ a.2.1 = x :: c.2.1 ∧ c.2.2 = a.2.2 ∧ c.1 = a.1 + 1))
section CRUN
variable {row row' : Nat → Int64} {fd lc : Nat} {lit : Nat → Int64} {P : Nat → Prop} {v n : Nat → Int64}
theorem cS.fw : ∀ a c, cS row fd lit lc P v a c → a.1 < c.1 := fun _ _ h => h.1
theorem cop.at {j : Nat} {o : aop} (h : cop row fd lit lc j o) (e : row' j = row j) : cop row' fd lit lc j o := by
  obtain ⟨op, arg, h1, h2⟩ := h
  exact ⟨op, arg, by rw [e]; exact h1, h2⟩
theorem cS.mono {a c : vst} (h : cS row fd lit lc P v a c) (e : row' a.1 = row a.1) : cS row' fd lit lc P v a c := by
  obtain ⟨f, l, h⟩ := h
  refine ⟨f, l, ?_⟩
  rw [e]
  rcases h with ⟨o, g1, g2⟩ | h
  · exact Or.inl ⟨o, g1.at e, g2⟩
  · exact Or.inr h
/-- code from a to b does D, on stacks not higher than B -/
def Cg (row : Nat → Int64) (fd : Nat) (lit : Nat → Int64) (lc : Nat) (P : Nat → Prop) (B a b : Nat) (D : DT) : Prop := ∀ v n st, st.length ≤ B → Rt (cS row fd lit lc P v) (a, st, n) (b, st, D v n)
theorem Cg.mono {B a b : Nat} {D : DT} (h : Cg row fd lit lc P B a b D) (h1 : ∀ k, a ≤ k → k < b → row' k = row k) : Cg row' fd lit lc P B a b D := fun v n st hs =>
  (h v n st hs).mono cS.fw (lo := a) (hi := b) (fun x y x1 x2 g => g.mono (h1 _ x1 x2)) (Nat.le_refl _) (Nat.le_refl _)
theorem cEnc.run {f : Nat} (hf : f ≤ 60) : ∀ (L : List aop) (la h h' : Nat) (st : List Int64), Hk 900 L h h' → st.length = h + f → (∀ o, o ∈ L → o.1 ≤ 8) → (∀ o, o ∈ L → ob o) → (∀ o, o ∈ L → o.1 = 1 → P o.2.1) → cEnc row fd lit lc la L → ∃ st', xrun v L st = some st' ∧ Rt (cS row fd lit lc P v) (la, st, n) (la + L.length, st', n)
  | [], la, h, h', st, _, _, _, _, _, _ => ⟨st, rfl, Rt.refl⟩
  | o :: L, la, h, h', st, q, e, q8, qb, qP, hE => by
    obtain ⟨x, s0, e1, e2⟩ := aex_ok v o st (by have := q.1; omega) (q8 o List.mem_cons_self)
    rw [List.drop_zero] at e1
    have hl : (x :: s0).length = (h - nd o.1 + 1) + f := by rw [List.length_cons, e2, List.length_drop, e]; have := q.1; omega
    obtain ⟨st', e3, e4⟩ := cEnc.run hf L (la + 1) (h - nd o.1 + 1) h' (x :: s0) q.2.2 hl (fun o ho => q8 o (List.mem_cons_of_mem _ ho)) (fun o ho => qb o (List.mem_cons_of_mem _ ho)) (fun o ho => qP o (List.mem_cons_of_mem _ ho)) (fun i p hi => by
      have := hE (i + 1) p (by simpa using hi)
      rw [show la + (i + 1) = la + 1 + i by omega] at this; exact this)
    refine ⟨st', by show (aex v o st).bind (xrun v L) = _; rw [e1]; exact e3, ?_⟩
    have r0 : cop row fd lit lc la o := hE 0 o rfl
    have s1 : cS row fd lit lc P v (la, st, n) (la + 1, x :: s0, n) := ⟨by show la < la + 1; omega, by rw [hl]; have := q.2.1; omega, Or.inl ⟨o, r0, q8 o List.mem_cons_self, qP o List.mem_cons_self, qb o List.mem_cons_self, e1, rfl, rfl⟩⟩
    rw [show la + (o :: L).length = la + 1 + L.length by simp; omega]
    exact (Rt.one s1).trans e4
theorem cEnc.val {la : Nat} {L : List aop} {st : List Int64} (hE : cEnc row fd lit lc la L) (hk : Hk 900 L 0 1) (h8 : ∀ o, o ∈ L → o.1 ≤ 8) (hb : ∀ o, o ∈ L → ob o) (hP : ∀ o, o ∈ L → o.1 = 1 → P o.2.1) (hs : st.length ≤ 60) : Rt (cS row fd lit lc P v) (la, st, n) (la + L.length, xval v L :: st, n) := by
  obtain ⟨st', e1, e2⟩ := cEnc.run (n := n) hs L la 0 1 st hk (by omega) h8 hb hP hE
  rw [xval_ok v L hk h8 st] at e1
  cases e1
  exact e2
/-! aims -/
theorem aim_C {N T sz C j : Nat} {op g : Int32} {c : ms} (h : Xc c T sz C) (hj : j < sz) (hr : c.2 336 j = crw op g) : ∃ c', fn_Code_aim_Ks N (nI j) c = some ((), c') ∧ c'.2 336 = vp_updL (c.2 336) j (crw op (nI sz)) ∧ Eb [] [336] c c' := by
  obtain ⟨h1, h2, h3, h4, h5, h6, h7⟩ := h
  unfold fn_Code_aim_Ks
  rw [h5, if_neg (nI_pos (by omega)), if_neg (nI_ge hj (by omega)), if_neg (nI_in (show j < 65537 by omega) (by decide)), if_neg (nI_in (show j < 65537 by omega) (by decide)), nI_clamp (by omega), hr, crw_aim (by omega)]
  exact ⟨_, rfl, rfl, Eb.rfl.upJ (by decide)⟩
/-- a chain of ops, each with the number of the next -/
def jch (row : Nat → Int64) (op : Int32) : Int32 → List Nat → Prop
  | x, [] => x = -1
  | x, j :: E => x = nI j ∧ (∀ i, i ∈ E → i < j) ∧ ∃ g, row j = crw op g ∧ jch row op g E
theorem jch.mono {op : Int32} : ∀ {E : List Nat} {x : Int32}, jch row op x E → (∀ j, j ∈ E → row' j = row j) → jch row' op x E
  | [], x, h, _ => h
  | j :: E, x, h, g => by
    obtain ⟨h1, h2, y, h3, h4⟩ := h
    exact ⟨h1, h2, y, by rw [g j List.mem_cons_self]; exact h3, jch.mono h4 (fun i hi => g i (List.mem_cons_of_mem _ hi))⟩
theorem aimAll_C {N T sz C : Nat} {op : Int32} : ∀ (E : List Nat) (n i : Nat) (x : Int32) (c : ms), Xc c T sz C → jch (c.2 336) op x E → (∀ j, j ∈ E → j < sz) → i + E.length ≤ sz → E.length < n → ∃ c', hd_Code_aimAll_Ks_4 N n x (nI i) c = some ((), c') ∧ Eb [] [336] c c' ∧ (∀ j, j ∈ E → c'.2 336 j = crw op (nI sz)) ∧ (∀ k, k ∉ E → c'.2 336 k = c.2 336 k) := by
  intro E
  induction E with
  | nil =>
    intro n i x c hX hc hj hi hn
    obtain ⟨n, rfl⟩ : ∃ n', n = n' + 1 := ⟨n - 1, by simp at hn; omega⟩
    have hc : x = -1 := hc
    subst hc
    refine ⟨c, ?_, Eb.rfl, fun j hj => by simp at hj, fun _ _ => rfl⟩
    show bd_Code_aimAll_Ks_4 N (hd_Code_aimAll_Ks_4 N n) (-1) (nI i) c = _
    unfold bd_Code_aimAll_Ks_4
    by_cases z : c.1 337 0 ≤ nI i
    · rw [if_pos z]
    · rw [if_neg z, if_pos (by decide)]
  | cons j E ih =>
    intro n i x c hX hc hj hi hn
    obtain ⟨n, rfl⟩ : ∃ n', n = n' + 1 := ⟨n - 1, by simp at hn; omega⟩
    obtain ⟨rfl, c2, g, c3, c4⟩ := hc
    simp only [List.length_cons] at hi hn
    have jl := hj j List.mem_cons_self
    have s5 := hX.2.2.2.2.1
    have s6 := hX.2.2.2.2.2.1
    obtain ⟨c1, a1, a2, a3⟩ := aim_C (N := N) hX jl c3
    have X1 : Xc c1 T sz C := by
      obtain ⟨h1, h2, h3, h4, h5, h6, h7⟩ := hX
      exact ⟨by rw [a3.1 242 (by decide)]; exact h1, by rw [a3.1 217 (by decide)]; exact h2, by rw [a3.1 239 (by decide)]; exact h3, h4, by rw [a3.1 337 (by decide)]; exact h5, h6, by rw [a3.1 241 (by decide)]; exact h7⟩
    have ne : ∀ k, k ∈ E → k ≠ j := fun k hk => by have := c2 k hk; omega
    obtain ⟨c', b1, b2, b3, b4⟩ := ih n (i + 1) g c1 X1 (c4.mono (fun k hk => by rw [a2, updL_ne (ne k hk)])) (fun k hk => hj k (List.mem_cons_of_mem _ hk)) (by omega) (by omega)
    refine ⟨c', ?_, a3.trans b2, fun k hk => ?_, fun k hk => ?_⟩
    · show bd_Code_aimAll_Ks_4 N (hd_Code_aimAll_Ks_4 N n) (nI j) (nI i) c = _
      unfold bd_Code_aimAll_Ks_4
      have ar : fn_Code_argAt_Ks N (nI j) c = some (g, c) := by
        unfold fn_Code_argAt_Ks
        rw [s5, if_neg (nI_pos (by omega)), if_neg (nI_ge jl (by omega)), if_neg (nI_in (show j < 65537 by omega) (by decide)), nI_clamp (by omega), c3, crw_arg]
      rw [s5, if_neg (nI_ge (by omega) (by omega)), if_neg (nI_pos (by omega)), if_neg (nI_ge jl (by omega)), ar, obind]
      dsimp only
      rw [a1, obind]
      dsimp only
      rw [nI_1]
      exact b1
    · rcases List.mem_cons.mp hk with rfl | hk
      · rw [b4 k (fun z => ne k z rfl), a2, updL_at]
      · exact b3 k hk
    · rw [b4 k (fun z => hk (List.mem_cons_of_mem _ z)), a2, updL_ne (fun z => hk (by rw [z]; exact List.mem_cons_self))]
end CRUN
