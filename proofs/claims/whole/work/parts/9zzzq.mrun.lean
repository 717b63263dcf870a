/-! The reference: its machine, step by step. -/
def SkM (row : Nat → Int64) : List Int64 → Prop
  | [] => True
  | x :: l => row l.length = x ∧ SkM row l
theorem SkM.up {row : Nat → Int64} {k : Nat} {y : Int64} : ∀ {l : List Int64}, SkM row l → l.length ≤ k → SkM (vp_updL row k y) l
  | [], _, _ => trivial
  | x :: l, h, hk => by
    have hk : l.length + 1 ≤ k := hk
    exact ⟨by rw [updL_ne (by omega)]; exact h.1, SkM.up h.2 (by omega)⟩
/-- pile, values and nexts of an instance -/
def MRn (s : ms) (fd fr : Nat) (P : pw) (v n : Nat → Int64) (st : List Int64) : Prop := s.1 85 0 = nI st.length ∧ SkM (s.2 84) st ∧ ∀ d, (P d).1 → fd ≤ d ∧ d < 11000 ∧ fr + (d - fd) < 1024 ∧ v d = s.2 80 (fr + (d - fd)) ∧ n d = s.2 81 (fr + (d - fd))
/-- the code that stands, and an instance -/
def Mst (s : ms) (cl nl nc j fd fr : Nat) (code : Nat → Int32) (nums : Nat → Int64) : Prop := s.1 91 0 = nI cl ∧ cl ≤ 200000 ∧ s.1 92 0 = nI nl ∧ nc ≤ nl ∧ nl < 2 ^ 31 ∧ s.1 41 = code ∧ s.2 43 = nums ∧ j < 260 ∧ fd < 11000 ∧ ∃ m, s.1 57 j = nI m ∧ m < 3601 ∧ s.1 58 j = nI fr ∧ s.1 14 m = nI fd
section MRUNS
variable {N F cl nl nc fd fr j e p p' : Nat} {code : Nat → Int32} {nums v n n' : Nat → Int64} {P : pw} {st st' : List Int64} {s : ms}
theorem Mst.keep {s' : ms} {js : List Nat} (h : Mst s cl nl nc j fd fr code nums) (e : Eb [85] js s s') (hj : 43 ∉ js) : Mst s' cl nl nc j fd fr code nums := by
  unfold Mst at *
  rw [e.1 91 (by decide), e.1 92 (by decide), e.1 41 (by decide), e.2 43 hj, e.1 57 (by decide), e.1 58 (by decide), e.1 14 (by decide)]
  exact h
theorem sig_M {d : Nat} (h : Mst s cl nl nc j fd fr code nums) (hd : fd ≤ d) : fn_M_signalOf N (nI j) (nI d) s = some (nI (fr + (d - fd)), s) := by
  obtain ⟨h1, h2, h3, h4, h5, h6, h7, h8, h9, m, m1, m2, m3, m4⟩ := h
  unfold fn_M_signalOf
  rw [if_neg (nI_in (show j < 260 by omega) (by decide)), if_neg (nI_in (show j < 260 by omega) (by decide)), nI_clamp (by omega), m1, if_neg (nI_in m2 (by decide)), nI_clamp (by omega), m3, m4, nI_add, nI_sub (by omega), show fr + d - fd = fr + (d - fd) by omega]
theorem pop_M {x : Int64} (h : MRn s fd fr P v n (x :: st)) (hl : st.length < 4096) : ∃ s', fn_M_pop N s = some (x, s') ∧ MRn s' fd fr P v n st ∧ Eb [85] [84] s s' := by
  obtain ⟨h1, h2, h3⟩ := h
  unfold fn_M_pop
  rw [h1, show (x :: st).length = st.length + 1 from rfl, s1_nI, if_neg (nI_in hl (by decide)), nI_clamp (by omega), h2.1]
  exact ⟨_, rfl, ⟨rfl, h2.2, h3⟩, Eb.rfl.upI (by decide)⟩
theorem push_M {x : Int64} (h : MRn s fd fr P v n st) (hl : st.length < 4096) : ∃ s', fn_M_push N x s = some ((), s') ∧ MRn s' fd fr P v n (x :: st) ∧ Eb [85] [84] s s' := by
  obtain ⟨h1, h2, h3⟩ := h
  unfold fn_M_push
  rw [h1, if_neg (nI_in hl (by decide)), nI_clamp (by omega), nI_1]
  exact ⟨_, rfl, ⟨rfl, ⟨updL_at _ _ _, h2.up (Nat.le_refl _)⟩, h3⟩, (Eb.rfl.upJ (by decide)).upI (by decide)⟩
theorem mhead_M {X Y Z : Int32} (h : Mst s cl nl nc j fd fr code nums) (hp : p < e) (he : 3 * e ≤ cl) (hx : code (3 * p) = X) (hy : code (3 * p + 1) = Y) (hz : code (3 * p + 2) = Z) : hd_M_run_3 N (F + 1) (nI (3 * e)) (nI j) (nI (3 * p)) s = (if X = 0 then (if (Y < 0 ∨ (s.1 92 0).toNatClampNeg ≤ Int32.toNatClampNeg (Y)) then none else (fn_M_push N (((s.2 43) (Int32.toNatClampNeg (Y)))) s).bind (fun q_5 => (hd_M_run_3 N F) (nI (3 * e)) (nI j) (nI (3 * (p + 1))) q_5.2)) else (if X = 1 then ((fn_M_signalOf N (nI j) (Y) s).bind (fun q_4 => if (q_4.1 < 0 ∨ 1100 ≤ Int32.toNatClampNeg q_4.1) then none else (fn_M_push N (((q_4.2.2 80) (Int32.toNatClampNeg q_4.1))) q_4.2).bind (fun q_8 => (hd_M_run_3 N F) (nI (3 * e)) (nI j) (nI (3 * (p + 1))) q_8.2))) else (if X = 2 then ((fn_M_pop N s).bind (fun q_4 => (fn_M_mask N (((Y - Z) + 1)) q_4.2).bind (fun q_7 => (fn_M_push N ((((Int64.toUInt64 q_4.1 >>> (Int64.toUInt64 (Int32.toInt64 (Z)) &&& Int64.toUInt64 63)).toInt64) &&& q_7.1)) q_7.2).bind (fun q_10 => (hd_M_run_3 N F) (nI (3 * e)) (nI j) (nI (3 * (p + 1))) q_10.2)))) else (if X = 3 then ((fn_M_pop N s).bind (fun q_4 => (fn_M_pop N q_4.2).bind (fun q_7 => if (lg_cmp q_4.1 0) < 0 then (bk_M_run_199 N (hd_M_run_3 N F) (nI (3 * e)) (nI j) (nI (3 * (p + 1))) q_7.2) else (if (lg_cmp q_4.1 ((Int32.toInt64 (Y)))) < 0 then (bk_M_run_211 N (hd_M_run_3 N F) (nI (3 * e)) (nI j) (nI (3 * (p + 1))) ((((Int64.toUInt64 q_7.1 >>> (Int64.toUInt64 (Int32.toInt64 ((Int64.toInt32 q_4.1))) &&& Int64.toUInt64 63)).toInt64) &&& 1)) q_7.2) else (bk_M_run_199 N (hd_M_run_3 N F) (nI (3 * e)) (nI j) (nI (3 * (p + 1))) q_7.2))))) else (if X = 4 then ((fn_M_pop N s).bind (fun q_4 => (fn_M_one N (Y) (Z) q_4.1 q_4.2).bind (fun q_7 => (fn_M_push N q_7.1 q_7.2).bind (fun q_10 => (hd_M_run_3 N F) (nI (3 * e)) (nI j) (nI (3 * (p + 1))) q_10.2)))) else (if X = 5 then ((fn_M_pop N s).bind (fun q_4 => (fn_M_pop N q_4.2).bind (fun q_7 => (fn_M_two N (Y) (Z) q_7.1 q_4.1 q_7.2).bind (fun q_10 => (fn_M_push N q_10.1 q_10.2).bind (fun q_13 => (hd_M_run_3 N F) (nI (3 * e)) (nI j) (nI (3 * (p + 1))) q_13.2))))) else (if X = 6 then ((fn_M_pop N s).bind (fun q_4 => (fn_M_pop N q_4.2).bind (fun q_7 => (fn_M_pop N q_7.2).bind (fun q_10 => if (lg_cmp q_10.1 0) = 0 then (bk_M_run_294 N (hd_M_run_3 N F) (nI (3 * e)) (nI j) (nI (3 * (p + 1))) q_4.1 q_10.2) else (bk_M_run_294 N (hd_M_run_3 N F) (nI (3 * e)) (nI j) (nI (3 * (p + 1))) q_7.1 q_10.2))))) else (if X = 7 then ((fn_M_pop N s).bind (fun q_4 => (fn_M_pop N q_4.2).bind (fun q_7 => (fn_M_push N ((((q_7.1 : Int64) <<< ((Int32.toInt64 (Y)) &&& 63)) ||| q_4.1)) q_7.2).bind (fun q_10 => (hd_M_run_3 N F) (nI (3 * e)) (nI j) (nI (3 * (p + 1))) q_10.2)))) else (if X = 8 then ((fn_M_pop N s).bind (fun q_4 => hd_M_run_336 N (hd_M_run_3 N F) N (nI (3 * e)) (nI j) (Y) (Z) (nI (3 * (p + 1))) q_4.1 q_4.1 1 q_4.2)) else (if X = 9 then ((fn_M_signalOf N (nI j) (Y) s).bind (fun q_4 => (fn_M_mask N ((((Z / 256) - (Z - Z / 256 * 256)) + 1)) q_4.2).bind (fun q_7 => if (q_4.1 < 0 ∨ 1100 ≤ Int32.toNatClampNeg q_4.1) then none else (fn_M_pop N q_7.2).bind (fun q_11 => if (q_4.1 < 0 ∨ 1100 ≤ Int32.toNatClampNeg q_4.1) then none else (hd_M_run_3 N F) (nI (3 * e)) (nI j) (nI (3 * (p + 1))) (upJ q_11.2 81 (vp_updL (q_11.2.2 81) (Int32.toNatClampNeg q_4.1) (((((q_7.2.2 81) (Int32.toNatClampNeg q_4.1)) &&& (((q_7.1 : Int64) <<< ((Int32.toInt64 ((Z - Z / 256 * 256))) &&& 63)) ^^^ (-1))) ||| ((q_11.1 : Int64) <<< ((Int32.toInt64 ((Z - Z / 256 * 256))) &&& 63)))))))))) else (if X = 10 then ((fn_M_pop N s).bind (fun q_4 => if (lg_cmp q_4.1 0) = 0 then (bk_M_run_456 N (hd_M_run_3 N F) (nI (3 * e)) (nI j) (Y) q_4.2) else (bk_M_run_456 N (hd_M_run_3 N F) (nI (3 * e)) (nI j) (nI (3 * (p + 1))) q_4.2))) else (if X = 11 then ((hd_M_run_3 N F) (nI (3 * e)) (nI j) (Y) s) else (if X = 12 then (if (((s.1 85 0) - 1) < 0 ∨ 4096 ≤ Int32.toNatClampNeg (((s.1 85 0) - 1))) then none else if (Z < 0 ∨ (s.1 92 0).toNatClampNeg ≤ Int32.toNatClampNeg (Z)) then none else if (lg_cmp (((s.2 84) (Int32.toNatClampNeg (((s.1 85 0) - 1))))) (((s.2 43) (Int32.toNatClampNeg (Z))))) = 0 then (bk_M_run_497 N (hd_M_run_3 N F) (nI (3 * e)) (nI j) (Y) s) else (bk_M_run_497 N (hd_M_run_3 N F) (nI (3 * e)) (nI j) (nI (3 * (p + 1))) s)) else ((hd_M_run_3 N F) (nI (3 * e)) (nI j) (nI (3 * (p + 1))) (upI s 85 (fun _ => ((s.1 85 0) - 1))))))))))))))))) := by
  obtain ⟨h1, h2, h3, h4, h5, h6, h7, h8, h9, m, m1, m2, m3, m4⟩ := h
  show bd_M_run_3 N (hd_M_run_3 N F) (nI (3 * e)) (nI j) (nI (3 * p)) s = _
  unfold bd_M_run_3
  rw [if_neg (nI_ge (show 3 * p < 3 * e by omega) (by omega)), h1, nI_clamp (show cl < 2 ^ 31 by omega), show nI (3 * p) + 1 = nI (3 * p + 1) from nI_add _ 1, show nI (3 * p) + 2 = nI (3 * p + 2) from nI_add _ 2, show nI (3 * p) + 3 = nI (3 * (p + 1)) from nI_add _ 3, if_neg (nI_in (show 3 * p + 1 < cl by omega) (by omega)), if_neg (nI_in (show 3 * p + 2 < cl by omega) (by omega)), if_neg (nI_in (show 3 * p < cl by omega) (by omega)), nI_clamp (show 3 * p < 2 ^ 31 by omega), nI_clamp (show 3 * p + 1 < 2 ^ 31 by omega), nI_clamp (show 3 * p + 2 < 2 ^ 31 by omega), h6, hx, hy, hz]
/-- a further row of the same op: repeated -/
theorem rep_M {k3 : Int32 → Int32 → Int32 → ms → Option (Unit × ms)} {x2 x3 x7 : Int32} {times w : Nat} {b : Int64} : ∀ (m k F : Nat) (r : Int64), k + m = times → m < F → times < 2 ^ 31 → hd_M_run_336 N k3 F x2 x3 (nI times) (nI w) x7 b r (nI k) s = (fn_M_push N (arep w b m r) s).bind (fun q_1 => k3 x2 x3 x7 q_1.2)
  | 0, k, F, r, hk, hF, ht => by
    obtain ⟨F, rfl⟩ : ∃ F', F = F' + 1 := ⟨F - 1, by omega⟩
    obtain rfl : k = times := by omega
    show bd_M_run_336 N k3 (hd_M_run_336 N k3 F) x2 x3 (nI k) (nI w) x7 b r (nI k) s = _
    unfold bd_M_run_336
    rw [if_pos (nI_le (Nat.le_refl _) ht)]
    rfl
  | m + 1, k, F, r, hk, hF, ht => by
    obtain ⟨F, rfl⟩ : ∃ F', F = F' + 1 := ⟨F - 1, by omega⟩
    show bd_M_run_336 N k3 (hd_M_run_336 N k3 F) x2 x3 (nI times) (nI w) x7 b r (nI k) s = _
    unfold bd_M_run_336
    rw [if_neg (nI_ge (show k < times by omega) ht), nI_1]
    exact rep_M m (k + 1) F _ (by omega) (by omega) ht
end MRUNS
