/-! The class's checker within an exp. -/
def crw (op arg : Int32) : Int64 := (((Int32.toInt64 op) : Int64) <<< ((Int32.toInt64 32) &&& 63)) ||| ((Int32.toInt64 arg) &&& 4294967295)
def cap28 (C : Nat) : Nat := min 268435456 C
/-- the checker is on: widths waiting, ops told, cost -/
def Xc (c : ms) (T sz C : Nat) : Prop := c.1 242 0 = nI 0 ∧ c.1 217 0 = nI 0 ∧ c.1 239 0 = nI T ∧ T < 900 ∧ c.1 337 0 = nI sz ∧ sz < 40000 ∧ c.1 241 0 = nI (cap28 C)
abbrev XE (c c' : ms) : Prop := Eb [238, 239, 241, 242, 243, 337] [336] c c'
theorem off_on {N : Nat} {c : ms} {T sz C : Nat} (h : Xc c T sz C) : fn_Checker_isOff_Ch N c = some (nI 0, c) := by
  obtain ⟨h1, h2, -⟩ := h
  unfold fn_Checker_isOff_Ch
  simp (disch := omega) only [h1, h2, lit_nI, gdF, gdG, gdH, nltT, nltF, nleT, nleF, neqT, neqF, nm1F, nm1F', m1lt, m1gt, m1le, m1ge, nI_clamp, nI_add, nI_sub, obind, if_true, if_false, reduceIte, ite_true, ite_false]
theorem off_yes {N : Nat} {c : ms} {w : Nat} (h : c.1 242 0 = nI w) (hw : 0 < w) (hw2 : w < 1000) : fn_Checker_isOff_Ch N c = some (nI 1, c) := by
  unfold fn_Checker_isOff_Ch
  simp (disch := omega) only [h, lit_nI, gdF, gdG, gdH, nltT, nltF, nleT, nleF, neqT, neqF, nm1F, nm1F', m1lt, m1gt, m1le, m1ge, nI_clamp, nI_add, nI_sub, obind, if_true, if_false, reduceIte, ite_true, ite_false]
theorem capped_C {N a b : Nat} {s : ms} (hb : b < 268435456) (ha : a ≤ 268435456) : fn_C_capped N (nI a) (nI b) s = some (nI (cap28 (a + b)), s) := by
  unfold fn_C_capped cap28
  by_cases h : a + b < 268435456
  · simp (disch := omega) only [lit_nI, gdF, gdG, gdH, nltT, nltF, nleT, nleF, neqT, neqF, nm1F, nm1F', m1lt, m1gt, m1le, m1ge, nI_clamp, nI_add, nI_sub, obind, if_true, if_false, reduceIte, ite_true, ite_false]
    rw [show min 268435456 (a + b) = a + b by omega]
  · simp (disch := omega) only [lit_nI, gdF, gdG, gdH, nltT, nltF, nleT, nleF, neqT, neqF, nm1F, nm1F', m1lt, m1gt, m1le, m1ge, nI_clamp, nI_add, nI_sub, obind, if_true, if_false, reduceIte, ite_true, ite_false]
    rw [show min 268435456 (a + b) = 268435456 by omega]
theorem cap28_add (C n : Nat) (hn : n < 268435456) : cap28 (cap28 C + n) = cap28 (C + n) := by unfold cap28; omega
theorem spend_C {N n T sz C : Nat} {c : ms} (h : Xc c T sz C) (hn : n < 268435456) : ∃ c', fn_Checker_spend_Ch N (nI n) c = some ((), c') ∧ Xc c' T sz (C + n) ∧ c'.1 238 = c.1 238 ∧ c'.2 336 = c.2 336 ∧ XE c c' := by
  obtain ⟨h1, h2, h3, h4, h5, h6, h7⟩ := h
  unfold fn_Checker_spend_Ch
  have k : cap28 C ≤ 268435456 := by unfold cap28; omega
  rw [h7, capped_C hn k, obind, cap28_add _ _ hn]
  exact ⟨_, rfl, ⟨h1, h2, h3, h4, h5, h6, rfl⟩, rfl, rfl, Eb.rfl.upI (by decide)⟩
theorem push_C {N T sz C : Nat} {w : Int32} {c : ms} (h : Xc c T sz C) (hT : T + 1 < 900) : ∃ c', fn_Checker_push_Ch N w c = some ((), c') ∧ Xc c' (T + 1) sz C ∧ c'.1 238 = upd (c.1 238) T w ∧ c'.2 336 = c.2 336 ∧ XE c c' := by
  obtain ⟨h1, h2, h3, h4, h5, h6, h7⟩ := h
  unfold fn_Checker_push_Ch
  simp (disch := omega) only [h3, lit_nI, gdF, gdG, gdH, nltT, nltF, nleT, nleF, neqT, neqF, nm1F, nm1F', m1lt, m1gt, m1le, m1ge, nI_clamp, nI_add, nI_sub, obind, if_true, if_false, reduceIte, ite_true, ite_false]
  exact ⟨_, rfl, ⟨h1, h2, rfl, hT, h5, h6, h7⟩, rfl, rfl, (Eb.rfl.upI (by decide)).upI (by decide)⟩
theorem pop_C {N T sz C : Nat} {c : ms} (h : Xc c (T + 1) sz C) : ∃ c', fn_Checker_pop_Ch N c = some (c.1 238 T, c') ∧ Xc c' T sz C ∧ c'.1 238 = c.1 238 ∧ c'.2 336 = c.2 336 ∧ XE c c' := by
  obtain ⟨h1, h2, h3, h4, h5, h6, h7⟩ := h
  unfold fn_Checker_pop_Ch
  simp (disch := omega) only [h3, Nat.add_sub_cancel, lit_nI, gdF, gdG, gdH, nltT, nltF, nleT, nleF, neqT, neqF, nm1F, nm1F', m1lt, m1gt, m1le, m1ge, nI_clamp, nI_add, nI_sub, obind, if_true, if_false, reduceIte, ite_true, ite_false]
  exact ⟨_, rfl, ⟨h1, h2, rfl, by omega, h5, h6, h7⟩, rfl, rfl, Eb.rfl.upI (by decide)⟩
theorem emit_C {N T sz C : Nat} {op arg : Int32} {c : ms} (h : Xc c T sz C) (hz : sz + 1 < 40000) : ∃ c', fn_Code_emit_Ks N op arg c = some (nI sz, c') ∧ Xc c' T (sz + 1) C ∧ c'.1 238 = c.1 238 ∧ c'.2 336 = vp_updL (c.2 336) sz (crw op arg) ∧ XE c c' := by
  obtain ⟨h1, h2, h3, h4, h5, h6, h7⟩ := h
  unfold fn_Code_emit_Ks
  rw [h5, if_pos (show nI sz < 65537 from nI_lt (b := 65537) (by omega) (by decide)), if_neg (nI_in (show sz < 65537 by omega) (by decide)), nI_clamp (by omega), nI_1, nI_pred]
  exact ⟨_, rfl, ⟨h1, h2, h3, h4, rfl, hz, h7⟩, rfl, rfl, (Eb.rfl.upJ (by decide)).upI (by decide)⟩
/-- a row of widths behind which one is pushed, popped -/
theorem literal_C {N T sz C li w : Nat} {c : ms} (h : Xc c T sz C) (hT : T + 1 < 900) (hz : sz + 1 < 40000) (hl : li < 13000) (hc : ∃ n, c.1 340 0 = nI n ∧ li < n ∧ n < 13000) (hw : c.1 338 li = nI w) : ∃ c', fn_Checker_literal_Ch N (nI li) c = some ((), c') ∧ Xc c' (T + 1) (sz + 1) C ∧ c'.1 238 = upd (c.1 238) T (nI w) ∧ c'.2 336 = vp_updL (c.2 336) sz (crw 513 (nI li)) ∧ XE c c' := by
  obtain ⟨n, n1, n2, n3⟩ := hc
  unfold fn_Checker_literal_Ch fn_Code_widthOf_Ks
  rw [off_on h, obind]
  simp (disch := omega) only [n1, hw, lit_nI, gdF, gdG, gdH, nltT, nltF, nleT, nleF, neqT, neqF, nm1F, nm1F', m1lt, m1gt, m1le, m1ge, nI_clamp, nI_add, nI_sub, obind, if_true, if_false, reduceIte, ite_true, ite_false]
  obtain ⟨c1, a1, a2, a3, a4, a5⟩ := push_C (N := N) (w := nI w) h hT
  obtain ⟨c2, b1, b2, b3, b4, b5⟩ := emit_C (N := N) (op := 513) (arg := nI li) a2 hz
  rw [a1, obind, ← lit_nI, b1, obind]
  exact ⟨c2, rfl, b2, by rw [b3, a3], by rw [b4, a4], a5.trans b5⟩
/-- what a declaration is -/
theorem sortOf_neg {N : Nat} {y : Int32} {c : ms} (h : ¬ 0 ≤ y) : fn_Checker_sortOf_Ch N y c = some (-1, c) := by
  unfold fn_Checker_sortOf_Ch
  rw [if_pos (Int32.not_le.mp h)]
theorem sortOf_at {N d dc : Nat} {c : ms} (h321 : c.1 321 0 = nI dc) (hd : d < dc) (hdc : dc < 10923) : fn_Checker_sortOf_Ch N (nI d) c = some (c.1 324 d, c) := by
  unfold fn_Checker_sortOf_Ch
  rw [h321, if_neg (nI_pos (by omega)), if_neg (nI_ge hd (by omega)), if_neg (nI_in (show d < 10923 by omega) (by decide)), nI_clamp (by omega)]
theorem name_C {N T sz C wd d w fd : Nat} {x : Int32} {c : ms} (h : Xc c T sz C) (hT : T + 1 < 900) (hz : sz + 1 < 40000) (hd : d < 10923) (hm : fn_Checker_meantBy_Ch N (nI wd) c = some (nI d, c)) (hw : c.1 323 d = nI w) (hf : c.1 233 0 = nI fd) (hfd : fd ≤ d) (hso : ∃ k, fn_Checker_sortOf_Ch N (nI d) c = some (k, c) ∧ k ≠ -1) : ∃ c', fn_Checker_name_Ch N (nI wd) x c = some ((), c') ∧ Xc c' (T + 1) (sz + 1) C ∧ c'.1 238 = upd (c.1 238) T (nI w) ∧ c'.2 336 = vp_updL (c.2 336) sz (crw 514 (nI (d - fd))) ∧ XE c c' := by
  obtain ⟨k, k1, k2⟩ := hso
  unfold fn_Checker_name_Ch fn_Checker_localOf_Ch
  rw [off_on h, obind, if_pos (show nI 0 = 0 from rfl), hm, obind]
  dsimp only
  rw [k1, obind]
  dsimp only
  rw [if_neg k2]
  simp (disch := omega) only [hw, lit_nI, gdF, gdG, gdH, nltT, nltF, nleT, nleF, neqT, neqF, nm1F, nm1F', m1lt, m1gt, m1le, m1ge, nI_clamp, nI_add, nI_sub, obind, if_true, if_false, reduceIte, ite_true, ite_false]
  obtain ⟨c1, a1, a2, a3, a4, a5⟩ := push_C (N := N) (w := nI w) h hT
  obtain ⟨c2, b1, b2, b3, b4, b5⟩ := emit_C (N := N) (op := 514) (arg := nI (d - fd)) a2 hz
  have hf1 : c1.1 233 0 = nI fd := by rw [a5.1 233 (by decide)]; exact hf
  rw [a1, obind]
  simp (disch := omega) only [hf1, lit_nI, gdF, gdG, gdH, nltT, nltF, nleT, nleF, neqT, neqF, nm1F, nm1F', m1lt, m1gt, m1le, m1ge, nI_clamp, nI_add, nI_sub, obind, if_true, if_false, reduceIte, ite_true, ite_false]
  rw [← lit_nI, b1, obind]
  exact ⟨c2, rfl, b2, by rw [b3, a3], by rw [b4, a4], a5.trans b5⟩
theorem refuse_C {N T sz C w : Nat} {x : Int32} {c : ms} (h : Xc c T sz C) : ∃ c', fn_Checker_refuse_Ch N (nI w) x c = some ((), c') ∧ c'.1 242 0 = nI w ∧ c'.1 243 0 = x ∧ XE c c' := by
  obtain ⟨h1, h2, h3, h4, h5, h6, h7⟩ := h
  unfold fn_Checker_refuse_Ch
  simp (disch := omega) only [h1, lit_nI, gdF, gdG, gdH, nltT, nltF, nleT, nleF, neqT, neqF, nm1F, nm1F', m1lt, m1gt, m1le, m1ge, nI_clamp, nI_add, nI_sub, obind, if_true, if_false, reduceIte, ite_true, ite_false]
  exact ⟨_, rfl, rfl, rfl, (Eb.rfl.upI (by decide)).upI (by decide)⟩
theorem nameNo_C {N T sz C wd : Nat} {x y : Int32} {c : ms} (h : Xc c T sz C) (hm : fn_Checker_meantBy_Ch N (nI wd) c = some (y, c)) (hy : fn_Checker_sortOf_Ch N y c = some (-1, c)) : ∃ c', fn_Checker_name_Ch N (nI wd) x c = some ((), c') ∧ c'.1 242 0 = nI 22 ∧ c'.1 243 0 = x ∧ XE c c' := by
  unfold fn_Checker_name_Ch
  obtain ⟨c1, a1, a2, a3, a4⟩ := refuse_C (N := N) (w := 22) (x := x) h
  rw [off_on h, obind, if_pos (show nI 0 = 0 from rfl), hm, obind]
  dsimp only
  rw [hy, obind]
  dsimp only
  rw [if_pos rfl, show (22 : Int32) = nI 22 from rfl, a1, obind]
  exact ⟨c1, rfl, a2, a3, a4⟩
theorem part16 : ∀ {h l : Nat}, h < 65536 → l < 65536 → ((((nI h) : Int32) <<< (16 &&& 31)) ||| ((nI l) &&& 65535)).toBitVec = BitVec.ofNat 32 (h * 65536 + l) := by
  intro h l hh hl
  have e1 : (nI l &&& 65535) = nI l := by
    rw [pk_and (nI l) (m := 65535) 16 (by decide), nI_bv, BitVec.toNat_ofNat]
    congr 1; omega
  rw [e1]
  show ((nI h).toBitVec <<< (((16 : Int32) &&& 31).toBitVec.smod 32)) ||| (nI l).toBitVec = _
  rw [show ((16 : Int32) &&& 31).toBitVec.smod 32 = 16#32 by decide, nI_bv, nI_bv]
  apply BitVec.eq_of_toNat_eq
  rw [BitVec.toNat_or, BitVec.shiftLeft_eq', BitVec.toNat_shiftLeft, BitVec.toNat_ofNat, BitVec.toNat_ofNat, BitVec.toNat_ofNat, BitVec.toNat_ofNat, Nat.mod_eq_of_lt (show h < 2 ^ 32 by omega), Nat.mod_eq_of_lt (show l < 2 ^ 32 by omega), Nat.mod_eq_of_lt (show 16 < 2 ^ 32 by omega), Nat.mod_eq_of_lt (show h * 65536 + l < 2 ^ 32 by omega), Nat.shiftLeft_eq, Nat.mod_eq_of_lt (show h * 2 ^ 16 < 2 ^ 32 by omega), Nat.mul_comm h (2 ^ 16), ← Nat.two_pow_add_eq_or_of_lt (show l < 2 ^ 16 by omega)]
/-- the two numbers of a part in one -/
def prt (h l : Nat) : Int32 := nI (h * 65536 + l)
theorem prt_eq {h l : Nat} (hh : h < 65536) (hl : l < 65536) : ((((nI h) : Int32) <<< (16 &&& 31)) ||| ((nI l) &&& 65535)) = prt h l := i32_inj (by rw [part16 hh hl]; rfl)
theorem prt_hi {h l : Nat} (hh : h < 65536) (hl : l < 65536) : ((Int32.toUInt32 (prt h l) >>> (Int32.toUInt32 16 &&& Int32.toUInt32 31)).toInt32) = nI h := by
  apply i32_inj
  show (Int32.toUInt32 (prt h l) >>> (Int32.toUInt32 16 &&& Int32.toUInt32 31)).toBitVec = _
  rw [show (Int32.toUInt32 16 &&& Int32.toUInt32 31) = 16 by decide, UInt32.toBitVec_shiftRight]
  show (prt h l).toBitVec >>> (UInt32.toBitVec 16 % 32) = _
  rw [show (UInt32.toBitVec 16 % 32) = 16#32 by decide]
  unfold prt
  rw [nI_bv, nI_bv]
  apply BitVec.eq_of_toNat_eq
  rw [BitVec.ushiftRight_eq', BitVec.toNat_ushiftRight, BitVec.toNat_ofNat, BitVec.toNat_ofNat, BitVec.toNat_ofNat, Nat.mod_eq_of_lt (show h * 65536 + l < 2 ^ 32 by omega), Nat.mod_eq_of_lt (show h < 2 ^ 32 by omega), Nat.mod_eq_of_lt (show 16 < 2 ^ 32 by omega), Nat.shiftRight_eq_div_pow]
  omega
theorem prt_lo {h l : Nat} (hh : h < 65536) (hl : l < 65536) : prt h l &&& 65535 = nI l := by
  unfold prt
  rw [pk_and _ (m := 65535) 16 (by decide), nI_bv, BitVec.toNat_ofNat]
  congr 1; omega
theorem partWidth_C {N h l w : Nat} {c : ms} (hh : h < 65536) (hl : l < 65536) (hw : w ≤ 64) : fn_Checker_partWidth N (prt h l) (nI w) c = some (if h < l ∨ w ≤ h then -1 else nI (h - l + 1), c) := by
  unfold fn_Checker_partWidth
  rw [prt_hi hh hl, prt_lo hh hl]
  by_cases c1 : h < l
  · rw [if_pos (nI_lt c1 (by omega)), if_pos (Or.inl c1)]
  · rw [if_neg (nI_nlt (by omega) (by omega))]
    by_cases c2 : w ≤ h
    · rw [if_neg (nI_nlt c2 (by omega)), if_pos (Or.inr c2)]
    · rw [if_pos (nI_lt (by omega) (by omega)), if_neg (by omega), nI_sub (by omega), nI_1]
theorem shl8 {a b : Nat} (ha : a < 65536) (hb : b < 256) : ((((nI a) : Int32) <<< (8 &&& 31)) ||| nI b) = nI (a * 256 + b) := by
  apply i32_inj
  show ((nI a).toBitVec <<< (((8 : Int32) &&& 31).toBitVec.smod 32)) ||| (nI b).toBitVec = _
  rw [show ((8 : Int32) &&& 31).toBitVec.smod 32 = 8#32 by decide, nI_bv, nI_bv, nI_bv]
  apply BitVec.eq_of_toNat_eq
  rw [BitVec.toNat_or, BitVec.shiftLeft_eq', BitVec.toNat_shiftLeft, BitVec.toNat_ofNat, BitVec.toNat_ofNat, BitVec.toNat_ofNat, BitVec.toNat_ofNat, Nat.mod_eq_of_lt (show a < 2 ^ 32 by omega), Nat.mod_eq_of_lt (show b < 2 ^ 32 by omega), Nat.mod_eq_of_lt (show 8 < 2 ^ 32 by omega), Nat.mod_eq_of_lt (show a * 256 + b < 2 ^ 32 by omega), Nat.shiftLeft_eq, Nat.mod_eq_of_lt (show a * 2 ^ 8 < 2 ^ 32 by omega), Nat.mul_comm a (2 ^ 8), ← Nat.two_pow_add_eq_or_of_lt (show b < 2 ^ 8 by omega)]
theorem part_C {N T sz C h l w : Nat} {x : Int32} {c : ms} (X : Xc c (T + 1) sz C) (hz : sz + 1 < 40000) (hh : h < 65536) (hl : l < 65536) (hw : w ≤ 64) (hT : c.1 238 T = nI w) : (¬ (h < l ∨ w ≤ h) → ∃ c', fn_Checker_part_Ch N (prt h l) x c = some ((), c') ∧ Xc c' (T + 1) (sz + 1) C ∧ c'.1 238 = upd (c.1 238) T (nI (h - l + 1)) ∧ c'.2 336 = vp_updL (c.2 336) sz (crw 347 (nI (l * 256 + (h - l + 1)))) ∧ XE c c') ∧ ((h < l ∨ w ≤ h) → ∃ c', fn_Checker_part_Ch N (prt h l) x c = some ((), c') ∧ c'.1 242 0 = nI 30 ∧ c'.1 243 0 = x ∧ XE c c') := by
  unfold fn_Checker_part_Ch
  obtain ⟨c1, a1, a2, a3, a4, a5⟩ := pop_C (N := N) X
  rw [off_on X, obind, if_pos (show nI 0 = 0 from rfl), a1, obind]
  dsimp only
  rw [hT, partWidth_C hh hl hw, obind]
  constructor
  · intro k
    rw [if_neg k]
    dsimp only
    have e : ¬ nI (h - l + 1) = (-1 : Int32) := of_eq_false (nm1F (a := h - l + 1) (by omega))
    rw [if_neg e]
    obtain ⟨c2, b1, b2, b3, b4, b5⟩ := push_C (N := N) (w := nI (h - l + 1)) a2 X.2.2.2.1
    obtain ⟨c3, d1, d2, d3, d4, d5⟩ := emit_C (N := N) (op := 347) (arg := nI (l * 256 + (h - l + 1))) b2 hz
    unfold fn_Checker_lowOf
    rw [b1, obind, obind]
    dsimp only
    rw [prt_lo hh hl, shl8 (by omega) (by omega), d1, obind]
    exact ⟨c3, rfl, d2, by rw [d3, b3, a3], by rw [d4, b4, a4], (a5.trans b5).trans d5⟩
  · intro k
    rw [if_pos k]
    dsimp only
    rw [if_pos rfl]
    obtain ⟨c2, b1, b2, b3, b4⟩ := refuse_C (N := N) (w := 30) (x := x) a2
    rw [show (30 : Int32) = nI 30 from rfl, b1, obind]
    exact ⟨c2, rfl, b2, b3, a5.trans b4⟩
theorem unary_C {N T sz C op w : Nat} {c : ms} (X : Xc c (T + 1) sz C) (hz : sz + 1 < 40000) (ho : op < 128) (hw : w ≤ 64) (hT : c.1 238 T = nI w) : ∃ c', fn_Checker_unary_Ch N (nI op) c = some ((), c') ∧ Xc c' (T + 1) (sz + 1) (C + w) ∧ c'.1 238 = upd (c.1 238) T (nI (if op = 126 ∨ op = 45 then w else 1)) ∧ c'.2 336 = vp_updL (c.2 336) sz (crw (nI (256 + op)) (nI w)) ∧ XE c c' := by
  unfold fn_Checker_unary_Ch
  obtain ⟨c1, a1, a2, a3, a4, a5⟩ := pop_C (N := N) X
  rw [off_on X, obind, if_pos (show nI 0 = 0 from rfl), a1, obind]
  dsimp only
  obtain ⟨c2, b1, b2, b3, b4, b5⟩ := spend_C (N := N) (n := w) a2 (by omega)
  rw [hT, b1, obind]
  dsimp only
  have fin : ∀ v : Nat, v ≤ 64 → ∃ c', bk_Checker_unary_Ch_36 N (nI op) (nI w) (nI v) c2 = some ((), c') ∧ Xc c' (T + 1) (sz + 1) (C + w) ∧ c'.1 238 = upd (c.1 238) T (nI v) ∧ c'.2 336 = vp_updL (c.2 336) sz (crw (nI (256 + op)) (nI w)) ∧ XE c c' := by
    intro v hv
    unfold bk_Checker_unary_Ch_36
    obtain ⟨c3, d1, d2, d3, d4, d5⟩ := push_C (N := N) (w := nI v) b2 X.2.2.2.1
    obtain ⟨c4, e1, e2, e3, e4, e5⟩ := emit_C (N := N) (op := nI (256 + op)) (arg := nI w) d2 hz
    rw [d1, obind, show (256 : Int32) = nI 256 from rfl, nI_add]
    dsimp only
    rw [e1, obind]
    exact ⟨c4, rfl, e2, by rw [e3, d3, b3, a3], by rw [e4, d4, b4, a4], ((a5.trans b5).trans d5).trans e5⟩
  unfold bk_Checker_unary_Ch_31
  by_cases k1 : op = 126
  · rw [if_pos (show nI op = 126 by rw [k1]; rfl), if_pos (Or.inl k1)]
    exact fin w hw
  · rw [if_neg (show ¬ nI op = 126 from fun z => k1 ((nI_eq (b := 126) (by omega) (by omega)).mp z))]
    by_cases k2 : op = 45
    · rw [if_pos (show nI op = 45 by rw [k2]; rfl), if_pos (Or.inr k2)]
      exact fin w hw
    · rw [if_neg (show ¬ nI op = 45 from fun z => k2 ((nI_eq (b := 45) (by omega) (by omega)).mp z)), if_neg (by omega)]
      exact fin 1 (by decide)
