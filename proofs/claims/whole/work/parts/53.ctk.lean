/-! The class's tokens, taken one by one. -/
def tkK (r : Int64) : Int32 := Int64.toInt32 (((Int64.toUInt64 r >>> (Int64.toUInt64 (Int32.toInt64 40) &&& Int64.toUInt64 63)).toInt64))
def tkP (r : Int64) : Int32 := (Int64.toInt32 (((Int64.toUInt64 r >>> (Int64.toUInt64 (Int32.toInt64 20) &&& Int64.toUInt64 63)).toInt64))) &&& 1048575
def tkX (r : Int64) : Int32 := ((Int64.toInt32 r) &&& 1048575) - 1
theorem nI_bv (a : Nat) : (nI a).toBitVec = BitVec.ofNat 32 a := rfl
theorem i32_inj {a b : Int32} (h : a.toBitVec = b.toBitVec) : a = b := Int32.toBitVec_inj.mp h
theorem l32 (R : Nat) : Int64.toInt32 (lN R) = nI R := by
  apply i32_inj
  rw [Int64.toBitVec_toInt32, lN_bv, nI_bv, BitVec.signExtend_eq_setWidth_of_le _ (by decide)]
  apply BitVec.eq_of_toNat_eq
  simp only [BitVec.toNat_setWidth, BitVec.toNat_ofNat]
  omega
theorem u64shr (R k : Nat) (hk : k < 64) : ((Int64.toUInt64 (lN R) >>> (Int64.toUInt64 (Int32.toInt64 (nI k)) &&& Int64.toUInt64 63)).toInt64) = lN (R % 2 ^ 64 / 2 ^ k) := by
  have e : Int64.toUInt64 (Int32.toInt64 (nI k)) &&& Int64.toUInt64 63 = UInt64.ofNat k := by
    have key : ∀ k : Fin 64, Int64.toUInt64 (Int32.toInt64 (nI k.1)) &&& Int64.toUInt64 63 = UInt64.ofNat k.1 := by decide +kernel
    exact key ⟨k, hk⟩
  rw [e]
  apply Int64.toBitVec_inj.mp
  show (Int64.toUInt64 (lN R) >>> UInt64.ofNat k).toBitVec = _
  rw [UInt64.toBitVec_shiftRight, lN_bv]
  apply BitVec.eq_of_toNat_eq
  have e2 : (UInt64.toBitVec (UInt64.ofNat k) % 64) = BitVec.ofNat 64 k := by
    have key : ∀ k : Fin 64, (UInt64.toBitVec (UInt64.ofNat k.1) % 64) = BitVec.ofNat 64 k.1 := by decide +kernel
    exact key ⟨k, hk⟩
  rw [e2]
  show ((lN R).toBitVec >>> (BitVec.ofNat 64 k)).toNat = _
  rw [lN_bv, BitVec.ushiftRight_eq', BitVec.toNat_ushiftRight, BitVec.toNat_ofNat, BitVec.toNat_ofNat, BitVec.toNat_ofNat, Nat.shiftRight_eq_div_pow, Nat.mod_eq_of_lt (show k < 2 ^ 64 by omega)]
  have : R % 2 ^ 64 / 2 ^ k ≤ R % 2 ^ 64 := Nat.div_le_self _ _
  rw [Nat.mod_eq_of_lt (show R % 2 ^ 64 / 2 ^ k < 2 ^ 64 by omega)]
theorem nI_and20 (a : Nat) : nI a &&& 1048575 = nI (a % 2 ^ 20) := by
  obtain h := pk_and (nI a) (m := 1048575) 20 (by decide)
  rw [h]
  congr 1
  rw [nI_bv, BitVec.toNat_ofNat]
  omega
theorem tk_dec {k p x : Nat} (hk : k < 1024) (hp : p < 2 ^ 20) (hx : x < 2 ^ 20) : tkK (lN (k * 2 ^ 40 + p * 2 ^ 20 + x)) = nI k ∧ tkP (lN (k * 2 ^ 40 + p * 2 ^ 20 + x)) = nI p ∧ tkX (lN (k * 2 ^ 40 + p * 2 ^ 20 + x)) = nI x - 1 := by
  refine ⟨?_, ?_, ?_⟩
  · unfold tkK
    rw [show (40 : Int32) = nI 40 from rfl, u64shr _ 40 (by decide), l32]
    congr 1; omega
  · unfold tkP
    rw [show (20 : Int32) = nI 20 from rfl, u64shr _ 20 (by decide), l32, nI_and20]
    congr 1; omega
  · unfold tkX
    rw [l32, nI_and20]
    congr 2; omega
def pak (k : Nat) : Nat := if k = 0 then 403 else if k = 1 then 404 else if k = 2 then 400 else if k = 3 then 401 else if k = 4 then 402 else if k ≤ 12 then k + 251 else if k < 128 then k else k + 172
theorem pak_kap : ∀ k : Fin 405, vk k.1 = true → pak (kap k.1) = k.1 := by decide +kernel
theorem kap_inj {a b : Nat} (ha : vk a = true) (hb : vk b = true) (h : kap a = kap b) : a = b := by
  have h1 := pak_kap ⟨a, vk_lt ha⟩ ha
  have h2 := pak_kap ⟨b, vk_lt hb⟩ hb
  dsimp only at h1 h2
  rw [← h1, ← h2, h]
section CTK
variable {tk pl : Nat → Nat} {nt : Nat} {ex : Nat → Int32}
def CT (tk pl : Nat → Nat) (nt : Nat) (ex : Nat → Int32) (c : ms) : Prop := c.1 212 0 = nI nt ∧ ∀ i, i < nt → tkK (c.2 211 i) = nI (kap (tk i)) ∧ tkP (c.2 211 i) = nI (pl i) ∧ tkX (c.2 211 i) = ex i
def CG (tk pl : Nat → Nat) (nt : Nat) (ex : Nat → Int32) (c : ms) (σ : gs) : Prop := CT tk pl nt ex c ∧ σ.1 < nt ∧ σ.2.2.1 < 4 ∧ (σ.2.2.1 = 0 → c.1 213 0 = nI σ.1 ∧ c.1 214 0 = nI (kap (tk σ.1)) ∧ c.1 215 0 = nI (pl σ.1) ∧ c.1 216 0 = ex σ.1 ∧ c.1 217 0 = nI 0 ∧ c.1 219 0 = nI σ.2.1 ∧ σ.2.1 ≤ 60) ∧ (σ.2.2.1 ≠ 0 → c.1 217 0 = nI σ.2.2.1 ∧ c.1 218 0 = nI σ.2.2.2 ∧ c.1 214 0 = -1)
abbrev F7 (c c' : ms) : Prop := Eb [213, 214, 215, 216, 217, 218, 219] [] c c'
/-- what doesn't touch the class's tokens leaves them -/
theorem CG.mono {c c' : ms} {σ : gs} {ks js : List Nat} (h : CG tk pl nt ex c σ) (e : Eb ks js c c') (hk : ∀ k, 212 ≤ k → k ≤ 219 → k ∉ ks) (hj : 211 ∉ js) : CG tk pl nt ex c' σ := by
  unfold CG CT at *
  rw [e.1 212 (hk _ (by decide) (by decide)), e.1 213 (hk _ (by decide) (by decide)), e.1 214 (hk _ (by decide) (by decide)), e.1 215 (hk _ (by decide) (by decide)), e.1 216 (hk _ (by decide) (by decide)), e.1 217 (hk _ (by decide) (by decide)), e.1 218 (hk _ (by decide) (by decide)), e.1 219 (hk _ (by decide) (by decide)), e.2 211 hj]
  exact h
theorem CG.upI {c : ms} {σ : gs} {k : Nat} {g : Nat → Int32} (h : CG tk pl nt ex c σ) (hk : k < 212 ∨ 219 < k) : CG tk pl nt ex (upI c k g) σ := h.mono (ks := [k]) (js := []) (Eb.rfl.upI (by simp)) (fun j j1 j2 => by simp; omega) (by simp)
theorem ktake {N : Nat} {c : ms} {σ : gs} (T : Tv tk pl nt) (h : CG tk pl nt ex c σ) (hl : σ.2.2.1 = 0 → σ.1 + 1 < nt) : ∃ c', fn_Tokens_take_Tk N c = some ((), c') ∧ CG tk pl nt ex c' (if σ.2.2.1 = 0 then gInc σ else σ) ∧ F7 c c' := by
  obtain ⟨⟨h0, h1⟩, h2, h2b, h3, h4⟩ := id h
  have l1 := T.2.1
  unfold fn_Tokens_take_Tk
  by_cases w : σ.2.2.1 = 0
  · obtain ⟨a1, a2, a3, a4, a5, a6, a7⟩ := h3 w
    have lt := hl w
    obtain ⟨b1, b2, b3⟩ := h1 _ lt
    unfold fn_Tokens_kindAt_Tk fn_Tokens_extraAt_Tk
    rw [if_pos w]
    simp (disch := omega) only [a1, a5, h0, up1, up2, Nat.reduceEqDiff, lit_nI, gdF, gdG, gdH, nltT, nltF, nleT, nleF, neqT, neqF, nm1F, nm1F', m1lt, m1gt, m1le, m1ge, nI_clamp, nI_add, nI_sub, obind, if_true, if_false, reduceIte, ite_true, ite_false]
    refine ⟨_, rfl, ?_, ((((Eb.rfl.upI (by decide)).upI (by decide)).upI (by decide)).upI (by decide))⟩
    refine ⟨⟨h0, h1⟩, lt, h2b, fun _ => ⟨rfl, b1, b2, b3, a5, a6, a7⟩, fun z => absurd w z⟩
  · obtain ⟨a1, a2, a3⟩ := h4 w
    rw [if_neg w]
    simp (disch := omega) only [a1, lit_nI, gdF, gdG, gdH, nltT, nltF, nleT, nleF, neqT, neqF, nm1F, nm1F', m1lt, m1gt, m1le, m1ge, nI_clamp, nI_add, nI_sub, obind, if_true, if_false, reduceIte, ite_true, ite_false]
    exact ⟨c, rfl, h, Eb.rfl⟩
theorem kstop {N : Nat} {c : ms} {σ : gs} (T : Tv tk pl nt) (h : CG tk pl nt ex c σ) (w : Nat) (hw : 0 < w ∧ w < 4) : ∃ c', fn_Tokens_stop_Tk N (nI w) c = some ((), c') ∧ CG tk pl nt ex c' (if σ.2.2.1 = 0 then (σ.1, σ.2.1, w, pl σ.1) else σ) ∧ F7 c c' := by
  obtain ⟨⟨h0, h1⟩, h2, h2b, h3, h4⟩ := id h
  unfold fn_Tokens_stop_Tk
  by_cases z : σ.2.2.1 = 0
  · obtain ⟨a1, a2, a3, a4, a5, a6, a7⟩ := h3 z
    rw [if_pos z]
    simp (disch := omega) only [a5, a3, lit_nI, gdF, gdG, gdH, nltT, nltF, nleT, nleF, neqT, neqF, nm1F, nm1F', m1lt, m1gt, m1le, m1ge, nI_clamp, nI_add, nI_sub, obind, if_true, if_false, reduceIte, ite_true, ite_false]
    refine ⟨_, rfl, ⟨⟨h0, h1⟩, h2, hw.2, fun y => ?_, fun _ => ⟨rfl, rfl, rfl⟩⟩, (((Eb.rfl.upI (by decide)).upI (by decide)).upI (by decide))⟩
    have : w = 0 := y
    omega
  · obtain ⟨a1, a2, a3⟩ := h4 z
    rw [if_neg z]
    simp (disch := omega) only [a1, lit_nI, gdF, gdG, gdH, nltT, nltF, nleT, nleF, neqT, neqF, nm1F, nm1F', m1lt, m1gt, m1le, m1ge, nI_clamp, nI_add, nI_sub, obind, if_true, if_false, reduceIte, ite_true, ite_false]
    exact ⟨c, rfl, h, Eb.rfl⟩
theorem kno {N : Nat} {c : ms} {σ : gs} (T : Tv tk pl nt) (h : CG tk pl nt ex c σ) : ∃ c', ((fn_Tokens_misfit_Tk N c).bind (fun q_1 => fn_Tokens_stop_Tk N q_1.1 q_1.2)) = some ((), c') ∧ CG tk pl nt ex c' (gNo tk pl σ) ∧ F7 c c' := by
  obtain ⟨⟨h0, h1⟩, h2, h2b, h3, h4⟩ := id h
  have l1 := T.lt h2
  unfold fn_Tokens_misfit_Tk gNo
  by_cases z : σ.2.2.1 = 0
  · obtain ⟨a1, a2, a3, a4, a5, a6, a7⟩ := h3 z
    have kl := kap_lt (tk σ.1)
    by_cases k4 : tk σ.1 = 404
    · have e1 : kap (tk σ.1) = 1 := by rw [k4]; rfl
      obtain ⟨c', b1, b2, b3⟩ := kstop (N := N) T h 1 (by decide)
      rw [if_pos z] at b2
      rw [if_pos z, if_pos k4]
      simp (disch := omega) only [a2, e1, lit_nI, gdF, gdG, gdH, nltT, nltF, nleT, nleF, neqT, neqF, nm1F, nm1F', m1lt, m1gt, m1le, m1ge, nI_clamp, nI_add, nI_sub, obind, if_true, if_false, reduceIte, ite_true, ite_false]
      exact ⟨c', b1, b2, b3⟩
    · have e1 : kap (tk σ.1) ≠ 1 := fun y => k4 (kap_inj (h := by rw [y]; rfl) (T.2.2.1 _ h2).1 (by decide))
      obtain ⟨c', b1, b2, b3⟩ := kstop (N := N) T h 2 (by decide)
      rw [if_pos z] at b2
      rw [if_pos z, if_neg k4]
      simp (disch := omega) only [a2, lit_nI, gdF, gdG, gdH, nltT, nltF, nleT, nleF, neqT, neqF, nm1F, nm1F', m1lt, m1gt, m1le, m1ge, nI_clamp, nI_add, nI_sub, obind, if_true, if_false, reduceIte, ite_true, ite_false]
      exact ⟨c', b1, b2, b3⟩
  · obtain ⟨a1, a2, a3⟩ := h4 z
    obtain ⟨c', b1, b2, b3⟩ := kstop (N := N) T h 2 (by decide)
    rw [if_neg z] at b2
    rw [if_neg z, if_neg (show ¬ c.1 214 0 = 1 by rw [a3]; decide), obind]
    exact ⟨c', b1, b2, b3⟩
/-- the kind at hand -/
theorem kkind {c : ms} {σ : gs} (T : Tv tk pl nt) (h : CG tk pl nt ex c σ) (k : Nat) (hk : vk k = true) : c.1 214 0 = nI (kap k) ↔ gIs tk k σ = true := by
  obtain ⟨⟨h0, h1⟩, h2, h2b, h3, h4⟩ := id h
  have kl := kap_lt k
  have kl2 := kap_lt (tk σ.1)
  simp only [gIs, decide_eq_true_eq]
  by_cases z : σ.2.2.1 = 0
  · obtain ⟨a1, a2, a3, a4, a5, a6, a7⟩ := h3 z
    rw [a2, nI_eq (by omega) (by omega)]
    exact ⟨fun y => ⟨z, kap_inj (T.2.2.1 _ h2).1 hk y⟩, fun y => by rw [y.2]⟩
  · obtain ⟨a1, a2, a3⟩ := h4 z
    rw [a3]
    exact ⟨fun y => absurd y (of_eq_false (nm1F' (by omega))), fun y => absurd y.1 z⟩
theorem kneed {N : Nat} {c : ms} {σ : gs} (T : Tv tk pl nt) (k : Nat) (hk : vk k = true ∧ k ≠ 403 ∧ k ≠ 404) (h : CG tk pl nt ex c σ) : ∃ c', fn_Tokens_need_Tk N (nI (kap k)) c = some ((), c') ∧ CG tk pl nt ex c' (gTake tk pl k σ) ∧ F7 c c' := by
  have kk := kkind T h k hk.1
  unfold fn_Tokens_need_Tk gTake
  cases z : gIs tk k σ
  · rw [if_neg (fun y => by rw [kk.mp y] at z; cases z), if_neg (show ¬ (false = true) by decide)]
    obtain ⟨c', b1, b2, b3⟩ := kno (N := N) T h
    refine ⟨c', ?_, b2, b3⟩
    obtain ⟨y, y1, y2⟩ := dc_b b1
    rw [y1, obind, y2, obind]
  · rw [if_pos (kk.mpr z), if_pos rfl]
    simp only [gIs, decide_eq_true_eq] at z
    obtain ⟨c', b1, b2, b3⟩ := ktake (N := N) T h (fun _ => T.more h.2.1 z.2 hk.2.1 hk.2.2)
    rw [if_pos z.1] at b2
    exact ⟨c', by rw [b1, obind], b2, b3⟩
theorem krefuse {N : Nat} {c : ms} {σ : gs} (T : Tv tk pl nt) (h : CG tk pl nt ex c σ) : ∃ c', fn_Tokens_refuse_Tk N c = some ((), c') ∧ CG tk pl nt ex c' (gNo tk pl σ) ∧ F7 c c' := by
  obtain ⟨c', b1, b2, b3⟩ := kno (N := N) T h
  refine ⟨c', ?_, b2, b3⟩
  unfold fn_Tokens_refuse_Tk
  obtain ⟨y, y1, y2⟩ := dc_b b1
  rw [y1, obind, y2, obind]
theorem kdue {N : Nat} {c : ms} {σ : gs} (T : Tv tk pl nt) (k : Nat) (hk : vk k = true) (h : CG tk pl nt ex c σ) : ∃ c', fn_Tokens_due_Tk N (nI (kap k)) c = some (b01 (gIs tk k σ), c') ∧ CG tk pl nt ex c' (if gIs tk k σ = true then σ else gNo tk pl σ) ∧ F7 c c' ∧ (gIs tk k σ = true → c' = c) := by
  have kk := kkind T h k hk
  unfold fn_Tokens_due_Tk
  cases z : gIs tk k σ
  · rw [if_neg (fun y => by rw [kk.mp y] at z; cases z), if_neg (show ¬ (false = true) by decide)]
    obtain ⟨c', b1, b2, b3⟩ := kno (N := N) T h
    refine ⟨c', ?_, b2, b3, fun y => by cases y⟩
    obtain ⟨y, y1, y2⟩ := dc_b b1
    rw [y1, obind, y2, obind]
    rfl
  · rw [if_pos (kk.mpr z), if_pos rfl]
    exact ⟨c, rfl, h, Eb.rfl, fun _ => rfl⟩
theorem kopen {N : Nat} {c : ms} {σ : gs} (T : Tv tk pl nt) (k : Nat) (hk : vk k = true ∧ k ≠ 403 ∧ k ≠ 404) (h : CG tk pl nt ex c σ) : ∃ c', fn_Tokens_open_Tk N (nI (kap k)) c = some ((), c') ∧ CG tk pl nt ex c' (gOpen tk pl k σ) ∧ F7 c c' := by
  have kk := kkind T h k hk.1
  unfold fn_Tokens_open_Tk gOpen
  cases z : gIs tk k σ
  · rw [if_neg (fun y => by rw [kk.mp y] at z; cases z), if_neg (show ¬ (false = true) by decide)]
    obtain ⟨c', b1, b2, b3⟩ := kno (N := N) T h
    refine ⟨c', ?_, b2, b3⟩
    obtain ⟨y, y1, y2⟩ := dc_b b1
    rw [y1, obind, y2, obind]
  · rw [if_pos (kk.mpr z), if_pos rfl]
    simp only [gIs, decide_eq_true_eq] at z
    obtain ⟨⟨h0, h1⟩, h2, h2b, h3, h4⟩ := id h
    obtain ⟨a1, a2, a3, a4, a5, a6, a7⟩ := h3 z.1
    by_cases o : 60 ≤ σ.2.1
    · obtain ⟨c', b1, b2, b3⟩ := kstop (N := N) T h 3 (by decide)
      rw [if_pos z.1] at b2
      rw [if_pos o, a6, if_neg (show ¬ nI σ.2.1 < 60 from nI_nlt (b := 60) o (by omega)), show (3 : Int32) = nI 3 from rfl, b1, obind]
      exact ⟨c', rfl, b2, b3⟩
    · have h' : CG tk pl nt ex (upI c 219 (fun _ => nI (σ.2.1 + 1))) (σ.1, σ.2.1 + 1, σ.2.2) := ⟨⟨h0, h1⟩, h2, h2b, fun _ => ⟨a1, a2, a3, a4, a5, rfl, by show σ.2.1 + 1 ≤ 60; omega⟩, fun y => absurd z.1 y⟩
      obtain ⟨c', b1, b2, b3⟩ := ktake (N := N) T h' (fun _ => T.more h.2.1 z.2 hk.2.1 hk.2.2)
      rw [if_pos (show (σ.1, σ.2.1 + 1, σ.2.2).2.2.1 = 0 from z.1)] at b2
      rw [if_neg o, a6, if_pos (show nI σ.2.1 < 60 from nI_lt (b := 60) (by omega) (by decide)), nI_1, b1, obind]
      exact ⟨c', rfl, b2, (Eb.rfl.upI (by decide)).trans b3⟩
theorem kdn {c : ms} {σ σ' : gs} (h : CG tk pl nt ex c σ) (hd : gDn σ = some σ') : CG tk pl nt ex (upI c 219 (fun _ => c.1 219 0 - 1)) σ' := by
  obtain ⟨⟨h0, h1⟩, h2, h2b, h3, h4⟩ := id h
  unfold gDn at hd
  by_cases z : σ.2.2.1 = 0
  · rw [if_pos z] at hd
    by_cases d : σ.2.1 = 0
    · rw [if_pos d] at hd; cases hd
    · rw [if_neg d] at hd
      cases hd
      obtain ⟨a1, a2, a3, a4, a5, a6, a7⟩ := h3 z
      refine ⟨⟨h0, h1⟩, h2, h2b, fun _ => ⟨a1, a2, a3, a4, a5, ?_, by show σ.2.1 - 1 ≤ 60; omega⟩, fun y => absurd z y⟩
      show c.1 219 0 - 1 = nI (σ.2.1 - 1)
      rw [a6, show (1 : Int32) = nI 1 from rfl, nI_sub (by omega)]
  · rw [if_neg z] at hd
    cases hd
    exact ⟨⟨h0, h1⟩, h2, h2b, fun y => absurd y z, h4⟩
theorem kshut {N : Nat} {c : ms} {σ σ' : gs} (T : Tv tk pl nt) (k : Nat) (hk : vk k = true ∧ k ≠ 403 ∧ k ≠ 404) (h : CG tk pl nt ex c σ) (hs : gShut tk pl k σ = some σ') : ∃ c', fn_Tokens_shut_Tk N (nI (kap k)) c = some ((), c') ∧ CG tk pl nt ex c' σ' ∧ F7 c c' := by
  obtain ⟨c', b1, b2, b3⟩ := kneed (N := N) T k hk h
  unfold fn_Tokens_need_Tk at b1
  unfold fn_Tokens_shut_Tk bk_Tokens_shut_Tk_23
  refine ⟨_, ?_, kdn b2 hs, b3.upI (by decide)⟩
  split at b1
  · rename_i q
    rw [if_pos q]
    obtain ⟨y, y1, y2⟩ := dc_b b1
    rw [y1, obind]
    cases y2; rfl
  · rename_i q
    rw [if_neg q]
    obtain ⟨y, y1, y2⟩ := dc_b b1
    rw [y1, obind]
    obtain ⟨x, x1, x2⟩ := dc_b y2
    rw [x1, obind]
    cases x2; rfl
end CTK
