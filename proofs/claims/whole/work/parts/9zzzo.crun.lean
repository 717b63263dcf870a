/-! The class: its machine, step by step. -/
def SkJ (row : Nat → Int64) : List Int64 → Prop
  | [] => True
  | x :: l => row (l.length + 4) = x ∧ SkJ row l
theorem SkJ.up {row : Nat → Int64} {k : Nat} {y : Int64} : ∀ {l : List Int64}, SkJ row l → l.length + 4 ≤ k → SkJ (vp_updL row k y) l
  | [], _, _ => trivial
  | x :: l, h, hk => by
    have hk : l.length + 1 + 4 ≤ k := hk
    exact ⟨by rw [updL_ne (by omega)]; exact h.1, SkJ.up h.2 (by omega)⟩
theorem SkJ.push {row : Nat → Int64} {y : Int64} {l : List Int64} (h : SkJ row l) : SkJ (vp_updL row (l.length + 4) y) (y :: l) := ⟨updL_at _ _ _, h.up (Nat.le_refl _)⟩
theorem m2_nI {d : Nat} : nI (d + 2) + (-2) = nI d := by
  rw [show nI (d + 2) = nI d + nI 2 from (nI_add d 2).symm, Int32.add_assoc, show nI 2 + (-2) = 0 by decide, Int32.add_zero]
def CRn (c : ms) (fd fr : Nat) (P : Nat → Prop) (v n : Nat → Int64) (st : List Int64) : Prop := SkJ (c.2 288) st ∧ ∀ d, P d → fd ≤ d ∧ fr + (d - fd) < 1024 ∧ v d = c.2 286 (fr + (d - fd)) ∧ n d = c.2 287 (fr + (d - fd))
/-- the code that stands -/
def Cst (c : ms) (sz lc : Nat) (row : Nat → Int64) (lit : Nat → Int64) : Prop := c.1 387 0 = nI sz ∧ sz ≤ 16000 ∧ c.1 390 0 = nI lc ∧ lc < 13000 ∧ c.2 386 = row ∧ c.2 389 = lit
section CRUNS
variable {N F sz lc fd fr e p p' : Nat} {row lit v n n' : Nat → Int64} {P : Nat → Prop} {st st' : List Int64} {c : ms}
theorem Cst.keep {c' : ms} (h : Cst c sz lc row lit) (e : Eb [] [287, 288] c c') : Cst c' sz lc row lit := by
  unfold Cst at *
  rw [e.1 387 (by decide), e.1 390 (by decide), e.2 386 (by decide), e.2 389 (by decide)]
  exact h
theorem code_C {op arg : Int32} (h : Cst c sz lc row lit) (hp : p < sz) (e : row p = crw op arg) : fn_Code_opAt_Kc N (nI p) c = some (op, c) ∧ fn_Code_argAt_Kc N (nI p) c = some (arg, c) := by
  obtain ⟨h1, h2, -, -, h5, -⟩ := h
  unfold fn_Code_opAt_Kc fn_Code_argAt_Kc
  rw [if_neg (nI_pos (by omega)), h1, if_neg (nI_ge hp (by omega)), if_neg (nI_in (show p < 65537 by omega) (by decide)), nI_clamp (by omega), h5, e, crw_op]
  refine ⟨rfl, ?_⟩
  rw [if_neg (nI_pos (by omega)), if_neg (nI_ge hp (by omega)), if_neg (nI_in2 (show p < 65537 by omega) (by decide)), crw_arg]
/-- the loop's head -/
theorem mhead_C {op arg : Int32} (h : Cst c sz lc row lit) (hp : p < e) (he : e ≤ sz) (hs : st.length ≤ 1000) (er : row p = crw op arg) : hd_Machine_run_Ma_Kc_20 N (F + 1) (nI fr) (nI (st.length + 3)) (nI e) (nI p) c = (if 256 ≤ op then (if 512 ≤ op then (if op = 514 then (if (nI fr + arg) < 0 then (bk_Machine_run_Ma_Kc_190 N (hd_Machine_run_Ma_Kc_20 N F) (nI fr) (nI (st.length + 4)) (nI e) (nI p) (nI (st.length + 4)) c) else (if 1024 ≤ (nI fr + arg) then (bk_Machine_run_Ma_Kc_190 N (hd_Machine_run_Ma_Kc_20 N F) (nI fr) (nI (st.length + 4)) (nI e) (nI p) (nI (st.length + 4)) c) else (if ((nI fr + arg) < 0 ∨ 1024 ≤ Int32.toNatClampNeg ((nI fr + arg))) then none else bk_Machine_run_Ma_Kc_191 N (hd_Machine_run_Ma_Kc_20 N F) (nI fr) (nI (st.length + 4)) (nI e) (nI p) (((c.2 286) (Int32.toNatClampNeg ((nI fr + arg))))) (nI (st.length + 4)) c))) else (if op = 513 then ((fn_Code_valueOf_Kc N arg c).bind (fun q_7 => if (nI (st.length + 4) < 0 ∨ 1024 ≤ Int32.toNatClampNeg (nI (st.length + 4))) then none else hd_Machine_run_Ma_Kc_20 N F (nI fr) (nI (st.length + 4)) (nI e) (nI (p + 1)) (upJ q_7.2 288 (vp_updL (q_7.2.2 288) (Int32.toNatClampNeg (nI (st.length + 4))) q_7.1)))) else (if op = 512 then (if ((nI (st.length + 3) + (-2)) < 0 ∨ 1024 ≤ Int32.toNatClampNeg ((nI (st.length + 3) + (-2)))) then none else if (lg_cmp (((c.2 288) (Int32.toNatClampNeg ((nI (st.length + 3) + (-2)))))) 0) = 0 then (if (((nI (st.length + 3) + (-2)) + 2) < 0 ∨ 1024 ≤ Int32.toNatClampNeg (((nI (st.length + 3) + (-2)) + 2))) then none else bk_Machine_run_Ma_Kc_272 N (hd_Machine_run_Ma_Kc_20 N F) (nI fr) ((nI (st.length + 3) + (-2))) (nI e) (nI p) (((c.2 288) (Int32.toNatClampNeg (((nI (st.length + 3) + (-2)) + 2))))) ((nI (st.length + 3) + (-2))) c) else (if (((nI (st.length + 3) + (-2)) + 1) < 0 ∨ 1024 ≤ Int32.toNatClampNeg (((nI (st.length + 3) + (-2)) + 1))) then none else bk_Machine_run_Ma_Kc_272 N (hd_Machine_run_Ma_Kc_20 N F) (nI fr) ((nI (st.length + 3) + (-2))) (nI e) (nI p) (((c.2 288) (Int32.toNatClampNeg (((nI (st.length + 3) + (-2)) + 1))))) ((nI (st.length + 3) + (-2))) c)) else (if op = 517 then (hd_Machine_run_Ma_Kc_20 N F (nI fr) (nI (st.length + 3)) (nI e) (((if (nI p) < (arg - 1) then (arg - 1) else (nI p)) + 1)) c) else (if op = 519 then (if ((nI (st.length + 3) + (-1)) < 0 ∨ 1024 ≤ Int32.toNatClampNeg ((nI (st.length + 3) + (-1)))) then none else if (((nI (st.length + 3) + (-1)) + 1) < 0 ∨ 1024 ≤ Int32.toNatClampNeg (((nI (st.length + 3) + (-1)) + 1))) then none else if (lg_cmp (((c.2 288) (Int32.toNatClampNeg ((nI (st.length + 3) + (-1)))))) (((c.2 288) (Int32.toNatClampNeg (((nI (st.length + 3) + (-1)) + 1)))))) = 0 then (hd_Machine_run_Ma_Kc_20 N F (nI fr) ((nI (st.length + 3) + (-1))) (nI e) (((if (nI p) < (arg - 1) then (arg - 1) else (nI p)) + 1)) c) else (hd_Machine_run_Ma_Kc_20 N F (nI fr) ((nI (st.length + 3) + (-1))) (nI e) (nI (p + 1)) c)) else (if ((nI (st.length + 3)) < 0 ∨ 1024 ≤ Int32.toNatClampNeg (nI (st.length + 3))) then none else if op = 515 then ((fn_Machine_store_Ma N (nI fr) arg (((c.2 288) (Int32.toNatClampNeg (nI (st.length + 3))))) c).bind (fun q_8 => hd_Machine_run_Ma_Kc_20 N F (nI fr) ((nI (st.length + 3) + (-1))) (nI e) (nI (p + 1)) q_8.2)) else (if op = 518 then (if (lg_cmp (((c.2 288) (Int32.toNatClampNeg (nI (st.length + 3))))) 0) = 0 then (hd_Machine_run_Ma_Kc_20 N F (nI fr) ((nI (st.length + 3) + (-1))) (nI e) (((if (nI p) < (arg - 1) then (arg - 1) else (nI p)) + 1)) c) else (hd_Machine_run_Ma_Kc_20 N F (nI fr) ((nI (st.length + 3) + (-1))) (nI e) (nI (p + 1)) c)) else (hd_Machine_run_Ma_Kc_20 N F (nI fr) ((nI (st.length + 3) + (-1))) (nI e) (nI (p + 1)) c)))))))) else (if ((nI (st.length + 3)) < 0 ∨ 1024 ≤ Int32.toNatClampNeg (nI (st.length + 3))) then none else (fn_Machine_one N ((op - 256)) arg (((c.2 288) (Int32.toNatClampNeg (nI (st.length + 3))))) c).bind (fun q_8 => if ((nI (st.length + 3)) < 0 ∨ 1024 ≤ Int32.toNatClampNeg (nI (st.length + 3))) then none else hd_Machine_run_Ma_Kc_20 N F (nI fr) (nI (st.length + 3)) (nI e) (nI (p + 1)) (upJ q_8.2 288 (vp_updL (q_8.2.2 288) (Int32.toNatClampNeg (nI (st.length + 3))) q_8.1))))) else (if ((nI (st.length + 3) + (-1)) < 0 ∨ 1024 ≤ Int32.toNatClampNeg ((nI (st.length + 3) + (-1)))) then none else if (((nI (st.length + 3) + (-1)) + 1) < 0 ∨ 1024 ≤ Int32.toNatClampNeg (((nI (st.length + 3) + (-1)) + 1))) then none else (fn_Machine_two N op arg (((c.2 288) (Int32.toNatClampNeg ((nI (st.length + 3) + (-1)))))) (((c.2 288) (Int32.toNatClampNeg (((nI (st.length + 3) + (-1)) + 1))))) c).bind (fun q_9 => if ((nI (st.length + 3) + (-1)) < 0 ∨ 1024 ≤ Int32.toNatClampNeg ((nI (st.length + 3) + (-1)))) then none else hd_Machine_run_Ma_Kc_20 N F (nI fr) ((nI (st.length + 3) + (-1))) (nI e) (nI (p + 1)) (upJ q_9.2 288 (vp_updL (q_9.2.2 288) (Int32.toNatClampNeg ((nI (st.length + 3) + (-1)))) q_9.1))))) := by
  obtain ⟨o1, o2⟩ := code_C (N := N) h (show p < sz by omega) er
  show bd_Machine_run_Ma_Kc_20 N (hd_Machine_run_Ma_Kc_20 N F) (nI fr) (nI (st.length + 3)) (nI e) (nI p) c = _
  unfold bd_Machine_run_Ma_Kc_20
  have s1 := h.2.1
  rw [if_neg (nI_ge hp (by omega)), if_neg (show ¬ nI (st.length + 3) < 3 from fun q => absurd q (Int32.not_lt.mpr (nI_le (a := 3) (b := st.length + 3) (by omega) (by omega)))), show nI (st.length + 3) + 1 = nI (st.length + 4) from nI_1 _, if_neg (show ¬ (1024 : Int32) ≤ nI (st.length + 4) from nI_ge (b := 1024) (by omega) (by omega)), o1, obind]
  dsimp only
  rw [o2, obind]
  dsimp only
  rw [show nI p + 1 = nI (p + 1) from nI_1 _]
theorem put_C {y : Int64} {r : List Int64} (hS : SkJ (c.2 288) r) (hR : ∀ d, P d → fd ≤ d ∧ fr + (d - fd) < 1024 ∧ v d = c.2 286 (fr + (d - fd)) ∧ n d = c.2 287 (fr + (d - fd))) : CRn (upJ c 288 (vp_updL (c.2 288) (r.length + 4) y)) fd fr P v n (y :: r) ∧ Eb [] [287, 288] c (upJ c 288 (vp_updL (c.2 288) (r.length + 4) y)) ∧ ∀ x, (∀ d, P d → x ≠ fr + (d - fd)) → (upJ c 288 (vp_updL (c.2 288) (r.length + 4) y)).2 287 x = c.2 287 x := ⟨⟨hS.push, hR⟩, Eb.rfl.upJ (by decide), fun _ _ => rfl⟩
theorem kapB_lt {k : Nat} (h : isB k) : kap k < 256 := by
  rcases h with q | q | q | q | q | q | q | q | q | q | q | q | q | q | q | q <;> rw [q] <;> decide
/-- an op of an exp -/
theorem op_C {o : aop} (hN : 100 < N) (hc : Cst c sz lc row lit) (hp : p < e) (he : e ≤ sz) (hs : st.length ≤ 1000) (hR : CRn c fd fr P v n st) (h : cop row fd lit lc p o) (hP : o.1 = 1 → P o.2.1) (hb : ob o) (ha : aex v o st = some st') : ∃ c', hd_Machine_run_Ma_Kc_20 N (F + 1) (nI fr) (nI (st.length + 3)) (nI e) (nI p) c = hd_Machine_run_Ma_Kc_20 N F (nI fr) (nI (st'.length + 3)) (nI e) (nI (p + 1)) c' ∧ CRn c' fd fr P v n st' ∧ Eb [] [287, 288] c c' ∧ ∀ x, (∀ d, P d → x ≠ fr + (d - fd)) → c'.2 287 x = c.2 287 x := by
  obtain ⟨op, arg, er, h0, h1, h2, h3, h4, h5, h6, h7, h8, h9⟩ := h
  obtain ⟨hS, hM⟩ := hR
  obtain ⟨g1, g2, g3, g4, g5, g6⟩ := id hc
  rw [mhead_C (N := N) (F := F) (fr := fr) hc hp he hs er]
  have i4 : st.length + 4 < 1024 := by omega
  have i3 : st.length + 3 < 1024 := by omega
  unfold aex at ha
  by_cases k0 : o.1 = 0
  · obtain ⟨rfl, k, rfl, q1, q2⟩ := h0 k0
    rw [if_pos k0] at ha
    cases ha
    have vo : fn_Code_valueOf_Kc N (nI k) c = some (lN o.2.1, c) := by
      unfold fn_Code_valueOf_Kc
      rw [if_neg (nI_pos (by omega)), g3, if_neg (nI_ge q1 (by omega)), if_neg (nI_in (show k < 13108 by omega) (by decide)), nI_clamp (by omega), g6, q2]
    simp (decide := true) only [reduceIte]
    rw [vo, obind]
    dsimp only
    rw [if_neg (nI_in i4 (by decide)), nI_clamp (by omega)]
    exact ⟨_, rfl, put_C hS hM⟩
  rw [if_neg k0] at ha
  by_cases k1 : o.1 = 1
  · obtain ⟨rfl, rfl, q1, q2⟩ := h1 k1
    rw [if_pos k1] at ha
    cases ha
    obtain ⟨m1, m2, m3, m4⟩ := hM _ (hP k1)
    simp (decide := true) only [reduceIte]
    unfold bk_Machine_run_Ma_Kc_191
    rw [nI_add, if_neg (nI_pos (by omega)), if_neg (show ¬ (1024 : Int32) ≤ nI (fr + (o.2.1 - fd)) from nI_ge (b := 1024) (by omega) (by omega)), if_neg (nI_in m2 (by decide)), if_neg (nI_in i4 (by decide)), nI_clamp (by omega), nI_clamp (by omega), nI_1, ← m3]
    exact ⟨_, rfl, put_C hS hM⟩
  rw [if_neg k1] at ha
  by_cases k2 : o.1 = 2
  · obtain ⟨rfl, rfl, q1, q2⟩ := h2 k2
    rw [if_pos k2] at ha
    match st, ha, hS with
    | a :: r, ha, hS =>
      cases ha
      have hs' : r.length + 1 ≤ 1000 := hs
      simp (decide := true) only [reduceIte]
      rw [show (a :: r).length + 3 = r.length + 4 from rfl, if_neg (nI_in (show r.length + 4 < 1024 by omega) (by decide)), nI_clamp (show r.length + 4 < 2 ^ 31 by omega), hS.1]
      have on : fn_Machine_one N 91 (nI (o.2.2 * 256 + (o.2.1 - o.2.2 + 1))) a c = some ((aur a (Int64.toUInt64 (Int32.toInt64 (nI o.2.2)) &&& Int64.toUInt64 63) &&& amk (o.2.1 - o.2.2 + 1)), c) := by
        unfold fn_Machine_one
        simp (decide := true) only [reduceIte]
        rw [nI_and255, show (o.2.2 * 256 + (o.2.1 - o.2.2 + 1)) % 256 = o.2.1 - o.2.2 + 1 by omega, maskC (by omega), obind]
        dsimp only
        rw [nI_ushr (by omega), show (Int32.toUInt32 8 &&& Int32.toUInt32 31).toNat % 32 = 8 by decide, show (o.2.2 * 256 + (o.2.1 - o.2.2 + 1)) / 2 ^ 8 = o.2.2 by omega]
        rfl
      rw [show (347 : Int32) - 256 = 91 by decide, on, obind]
      dsimp only
      rw [if_neg (nI_in2 (show r.length + 4 < 1024 by omega) (by decide))]
      exact ⟨_, rfl, put_C hS.2 hM⟩
  rw [if_neg k2] at ha
  by_cases k3 : o.1 = 3
  · have := h3 k3
    subst this
    rw [if_pos k3] at ha
    match st, ha, hS with
    | b :: a :: r, ha, hS =>
      cases ha
      have hs' : r.length + 1 + 1 ≤ 1000 := hs
      simp (decide := true) only [reduceIte]
      rw [show (b :: a :: r).length + 3 = r.length + 4 + 1 from rfl, m1_nI, if_neg (nI_in (show r.length + 4 < 1024 by omega) (by decide)), nI_1, if_neg (nI_in (show r.length + 4 + 1 < 1024 by omega) (by decide)), nI_clamp (show r.length + 4 < 2 ^ 31 by omega), nI_clamp (show r.length + 4 + 1 < 2 ^ 31 by omega), show c.2 288 (r.length + 4 + 1) = b from hS.1, hS.2.1]
      have tw : fn_Machine_two N 91 arg a b c = some ((if lg_cmp b 0 < 0 then 0 else if lg_cmp b 64 < 0 then aur a (Int64.toUInt64 (Int32.toInt64 (Int64.toInt32 b)) &&& Int64.toUInt64 63) &&& 1 else 0), c) := by
        unfold fn_Machine_two
        simp (decide := true) only [reduceIte]
        rw [isBeyond_C, obind]
        dsimp only
        refine (beyB (s := c)).trans ?_
        congr 2
        split
        · rfl
        · by_cases z : lg_cmp b 64 < 0
          · rw [if_pos z, if_pos (beyond.mp z)]; rfl
          · rw [if_neg z, if_neg (fun q => z (beyond.mpr q))]
      rw [tw, obind]
      dsimp only
      rw [if_neg (nI_in2 (show r.length + 4 < 1024 by omega) (by decide))]
      exact ⟨_, rfl, put_C hS.2.2 hM⟩
  rw [if_neg k3] at ha
  by_cases k4 : o.1 = 4
  · obtain ⟨rfl, rfl, q1⟩ := h4 k4
    have q2 : o.2.1 = 126 ∨ o.2.1 = 33 ∨ o.2.1 = 45 ∨ o.2.1 = 38 ∨ o.2.1 = 124 ∨ o.2.1 = 94 := of_decide_eq_true q1
    rw [if_pos k4] at ha
    match st, ha, hS with
    | a :: r, ha, hS =>
      cases ha
      have hs' : r.length + 1 ≤ 1000 := hs
      rw [if_pos (show (256 : Int32) ≤ nI (256 + o.2.1) from nI_le (a := 256) (by omega) (by omega)), if_neg (show ¬ (512 : Int32) ≤ nI (256 + o.2.1) from nI_ge (b := 512) (by omega) (by omega)), show (a :: r).length + 3 = r.length + 4 from rfl, if_neg (nI_in (show r.length + 4 < 1024 by omega) (by decide)), nI_clamp (show r.length + 4 < 2 ^ 31 by omega), hS.1, show nI (256 + o.2.1) - 256 = nI o.2.1 by rw [show (256 : Int32) = nI 256 from rfl, nI_sub (by omega), Nat.add_sub_cancel_left], one_C q1 (by have := (hb.2.2.1 k4).2.1; omega), obind]
      dsimp only
      rw [if_neg (nI_in2 (show r.length + 4 < 1024 by omega) (by decide))]
      exact ⟨_, rfl, put_C hS.2 hM⟩
  rw [if_neg k4] at ha
  by_cases k5 : o.1 = 5
  · obtain ⟨rfl, rfl, q1⟩ := h5 k5
    have q2 := kapB_lt q1
    rw [if_pos k5] at ha
    match st, ha, hS with
    | b :: a :: r, ha, hS =>
      cases ha
      have hs' : r.length + 1 + 1 ≤ 1000 := hs
      rw [if_neg (show ¬ (256 : Int32) ≤ nI (kap o.2.1) from nI_ge (b := 256) q2 (by omega)), show (b :: a :: r).length + 3 = r.length + 4 + 1 from rfl, m1_nI, if_neg (nI_in (show r.length + 4 < 1024 by omega) (by decide)), nI_1, if_neg (nI_in (show r.length + 4 + 1 < 1024 by omega) (by decide)), nI_clamp (show r.length + 4 < 2 ^ 31 by omega), nI_clamp (show r.length + 4 + 1 < 2 ^ 31 by omega), show c.2 288 (r.length + 4 + 1) = b from hS.1, hS.2.1, two_C q1 (by have := (hb.2.2.2.1 k5).2.1; omega), obind]
      dsimp only
      rw [if_neg (nI_in2 (show r.length + 4 < 1024 by omega) (by decide))]
      exact ⟨_, rfl, put_C hS.2.2 hM⟩
  rw [if_neg k5] at ha
  by_cases k6 : o.1 = 6
  · have := h6 k6
    subst this
    rw [if_pos k6] at ha
    match st, ha, hS with
    | b :: a :: x :: r, ha, hS =>
      cases ha
      have hs' : r.length + 1 + 1 + 1 ≤ 1000 := hs
      simp (decide := true) only [reduceIte]
      unfold bk_Machine_run_Ma_Kc_272
      rw [show (b :: a :: x :: r).length + 3 = r.length + 4 + 2 from rfl, m2_nI, if_neg (nI_in (show r.length + 4 < 1024 by omega) (by decide)), nI_clamp (show r.length + 4 < 2 ^ 31 by omega), hS.2.2.1, show nI (r.length + 4) + 2 = nI (r.length + 4 + 2) from nI_add _ 2, show nI (r.length + 4) + 1 = nI (r.length + 4 + 1) from nI_1 _, if_neg (nI_in (show r.length + 4 + 2 < 1024 by omega) (by decide)), if_neg (nI_in (show r.length + 4 + 1 < 1024 by omega) (by decide)), nI_clamp (show r.length + 4 + 2 < 2 ^ 31 by omega), nI_clamp (show r.length + 4 + 1 < 2 ^ 31 by omega), show c.2 288 (r.length + 4 + 2) = b from hS.1, show c.2 288 (r.length + 4 + 1) = a from hS.2.1, if_neg (nI_in2 (show r.length + 4 < 1024 by omega) (by decide)), if_neg (nI_in2 (show r.length + 4 < 1024 by omega) (by decide)), nI_1]
      by_cases z : x = 0
      · rw [if_pos (lgE.mpr z), if_pos z]
        exact ⟨_, rfl, put_C hS.2.2.2 hM⟩
      · rw [if_neg (fun q => z (lgE.mp q)), if_neg z]
        exact ⟨_, rfl, put_C hS.2.2.2 hM⟩
  rw [if_neg k6] at ha
  by_cases k7 : o.1 = 7
  · obtain ⟨rfl, rfl⟩ := h7 k7
    rw [if_pos k7] at ha
    match st, ha, hS with
    | b :: a :: r, ha, hS =>
      cases ha
      have hs' : r.length + 1 + 1 ≤ 1000 := hs
      simp (decide := true) only [reduceIte]
      rw [show (b :: a :: r).length + 3 = r.length + 4 + 1 from rfl, m1_nI, if_neg (nI_in (show r.length + 4 < 1024 by omega) (by decide)), nI_1, if_neg (nI_in (show r.length + 4 + 1 < 1024 by omega) (by decide)), nI_clamp (show r.length + 4 < 2 ^ 31 by omega), nI_clamp (show r.length + 4 + 1 < 2 ^ 31 by omega), show c.2 288 (r.length + 4 + 1) = b from hS.1, hS.2.1]
      have tw : fn_Machine_two N 44 (nI o.2.1) a b c = some (((a <<< ash o.2.1) ||| b), c) := by
        unfold fn_Machine_two
        simp (decide := true) only [reduceIte]
        rfl
      rw [tw, obind]
      dsimp only
      rw [if_neg (nI_in2 (show r.length + 4 < 1024 by omega) (by decide))]
      exact ⟨_, rfl, put_C hS.2.2 hM⟩
  rw [if_neg k7] at ha
  have k8 : o.1 = 8 := by omega
  obtain ⟨rfl, rfl⟩ := h8 k8
  obtain ⟨b1, b2, b3⟩ := hb.2.2.2.2.2 k8
  have b4 : o.2.1 ≤ 64 := Nat.le_trans (Nat.le_mul_of_pos_right _ b2) b3
  have b5 : o.2.2 ≤ 64 := Nat.le_trans (Nat.le_mul_of_pos_left _ b1) b3
  match st, ha, hS with
  | a :: r, ha, hS =>
    cases ha
    have hs' : r.length + 1 ≤ 1000 := hs
    simp (decide := true) only [reduceIte]
    rw [show (a :: r).length + 3 = r.length + 4 from rfl, if_neg (nI_in (show r.length + 4 < 1024 by omega) (by decide)), nI_clamp (show r.length + 4 < 2 ^ 31 by omega), hS.1]
    have on : fn_Machine_one N 123 (nI (o.2.1 * 256 + o.2.2)) a c = some (arep o.2.2 a (o.2.1 - 1) a, c) := by
      unfold fn_Machine_one fn_Machine_repeated
      simp (decide := true) only [reduceIte]
      rw [nI_and255, show (o.2.1 * 256 + o.2.2) % 256 = o.2.2 by omega, nI_ushr (by omega), show (Int32.toUInt32 8 &&& Int32.toUInt32 31).toNat % 32 = 8 by decide, show (o.2.1 * 256 + o.2.2) / 2 ^ 8 = o.2.1 by omega, show hd_Machine_repeated_6 N N (nI o.2.1) (nI o.2.2) a a 1 c = some (arep o.2.2 a (o.2.1 - 1) a, c) from repd_C (o.2.1 - 1) 1 N a (by omega) (by omega) (by omega)]
      rfl
    rw [show (379 : Int32) - 256 = 123 by decide, on, obind]
    dsimp only
    rw [if_neg (nI_in2 (show r.length + 4 < 1024 by omega) (by decide))]
    exact ⟨_, rfl, put_C hS.2 hM⟩
end CRUNS
