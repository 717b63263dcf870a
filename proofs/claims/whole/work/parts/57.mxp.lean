/-! The reference within an exp: numbers of tokens, ops, widths and operators that wait; f is its fault (0: none). -/
def Ln (s : ms) (la nc : Nat) : Prop := ∃ len nlen, s.1 91 0 = nI len ∧ 4096 ≤ len ∧ len ≤ 200000 ∧ 3 * la ≤ len ∧ s.1 92 0 = nI nlen ∧ 256 ≤ nlen ∧ nlen ≤ 60000 ∧ nc ≤ nlen
def Xm (s : ms) (f t la nc W F : Nat) : Prop := s.1 9 0 = nI f ∧ f < 100 ∧ s.1 8 0 = nI t ∧ t < 33000 ∧ s.1 42 0 = nI (3 * la) ∧ la < 33000 ∧ s.1 44 0 = nI nc ∧ nc < 30000 ∧ s.1 53 0 = nI W ∧ W < 2000 ∧ s.1 51 0 = nI F ∧ F < 2000 ∧ Ln s la nc
/-- what an exp may change -/
abbrev SE (s s' : ms) : Prop := Eb [8, 9, 10, 41, 42, 44, 49, 50, 51, 52, 53, 87, 91, 92] [43, 45] s s'
theorem Xm.tset {s : ms} {f t la nc W F t' : Nat} {x : Int32} (h : Xm s f t la nc W F) (hx : x = nI t') (ht : t' < 33000) : Xm (upI s 8 (fun _ => x)) f t' la nc W F := by
  subst hx
  obtain ⟨h1, h2, h3, h4, h5, h6, h7, h8, h9, h10, h11, h12, h13⟩ := h
  exact ⟨h1, h2, rfl, ht, h5, h6, h7, h8, h9, h10, h11, h12, h13⟩
theorem Xm.any {s s' : ms} {f t la nc W F : Nat} (h : Xm s f t la nc W F) (e : Eb [10, 41, 49, 50, 52, 87] [43, 45] s s') : Xm s' f t la nc W F := by
  unfold Xm Ln at *
  rw [e.1 9 (by decide), e.1 8 (by decide), e.1 42 (by decide), e.1 44 (by decide), e.1 53 (by decide), e.1 51 (by decide), e.1 91 (by decide), e.1 92 (by decide)]
  exact h
theorem layput_M {s : ms} {a b c : Int32} {la len : Nat} (h : s.1 42 0 = nI (3 * la)) (hl : la < 33000) (h9 : s.1 91 0 = nI len) (hn : 3 * la + 3 ≤ len) (hn2 : len ≤ 400000) : ∃ s', lay_put a b c s = some ((), s') ∧ s'.1 42 0 = nI (3 * (la + 1)) ∧ (∀ k, k < 3 * la → s'.1 41 k = s.1 41 k) ∧ s'.1 41 (3 * la) = a ∧ s'.1 41 (3 * la + 1) = b ∧ s'.1 41 (3 * la + 2) = c ∧ Eb [41, 42] [] s s' := by
  unfold lay_put
  rw [h, h9, nI_clamp (show len < 2 ^ 31 by omega)]
  simp (disch := omega) only [lit_nI, gdF, gdG, gdH, nltT, nltF, nleT, nleF, neqT, neqF, nm1F, nm1F', m1lt, m1gt, m1le, m1ge, nI_clamp, nI_add, nI_sub, obind, if_true, if_false, reduceIte, ite_true, ite_false]
  refine ⟨_, rfl, ?_, fun k hk => ?_, ?_, ?_, ?_, (((Eb.rfl.upI (by decide)).upI (by decide)).upI (by decide)).upI (by decide)⟩
  · show nI (3 * la + 3) = _
    congr 1
  · show upd (upd (upd (s.1 41) (3 * la) a) (3 * la + 1) b) (3 * la + 2) c k = _
    rw [upd_ne (by omega), upd_ne (by omega), upd_ne (by omega)]
  · show upd (upd (upd (s.1 41) (3 * la) a) (3 * la + 1) b) (3 * la + 2) c (3 * la) = _
    rw [upd_ne (by omega), upd_ne (by omega), upd_at]
  · show upd (upd (upd (s.1 41) (3 * la) a) (3 * la + 1) b) (3 * la + 2) c (3 * la + 1) = _
    rw [upd_ne (by omega), upd_at]
  · show upd (upd (upd (s.1 41) (3 * la) a) (3 * la + 1) b) (3 * la + 2) c (3 * la + 2) = _
    rw [upd_at]
/-- an op is laid -/
def Op1 (s s' : ms) (la : Nat) (a b c : Int32) : Prop := (∀ k, k < 3 * la → s'.1 41 k = s.1 41 k) ∧ s'.1 41 (3 * la) = a ∧ s'.1 41 (3 * la + 1) = b ∧ s'.1 41 (3 * la + 2) = c
theorem lay_M {N : Nat} {s : ms} {a b c : Int32} {f t la nc W F : Nat} (h : Xm s f t la nc W F) (hla : la + 1 < 33000) : ∃ s', fn_M_lay N a b c s = some ((), s') ∧ Xm s' f t (la + 1) nc W F ∧ Op1 s s' la a b c ∧ Eb [41, 42, 91] [] s s' := by
  obtain ⟨h1, h2, h3, h4, h5, h6, h7, h8, h9, h10, h11, h12, len, nlen, n1, n2, n3, n4, n5, n6, n7, n8⟩ := h
  unfold fn_M_lay
  have e1 : Int32.ofNat (s.1 91 0).toNatClampNeg = nI len := by rw [n1, nI_clamp (by omega)]; rfl
  rw [e1, h5, lit_nI 3, nI_add]
  by_cases c1 : 3 * la + 3 ≤ len
  · rw [if_pos (nI_le c1 (by omega))]
    obtain ⟨s', a1, a2, a3, a4, a5, a6, a7⟩ := layput_M (a := a) (b := b) (c := c) h5 h6 n1 c1 (by omega)
    refine ⟨s', a1, ⟨by rw [a7.1 9 (by decide)]; exact h1, h2, by rw [a7.1 8 (by decide)]; exact h3, h4, a2, hla, by rw [a7.1 44 (by decide)]; exact h7, h8, by rw [a7.1 53 (by decide)]; exact h9, h10, by rw [a7.1 51 (by decide)]; exact h11, h12, len, nlen, by rw [a7.1 91 (by decide)]; exact n1, n2, n3, by omega, by rw [a7.1 92 (by decide)]; exact n5, n6, n7, n8⟩, ⟨a3, a4, a5, a6⟩, a7.mono (by decide) (by decide)⟩
  · rw [if_neg (nI_ge (by omega) (by omega))]
    have g42 : (lay_grow s).1 42 0 = nI (3 * la) := h5
    have g91 : (lay_grow s).1 91 0 = nI (2 * len) := by show nI (2 * (s.1 91 0).toNatClampNeg) = _; rw [n1, nI_clamp (by omega)]
    have gc : (s.1 91 0).toNatClampNeg = len := by rw [n1, nI_clamp (by omega)]
    have gd : (s.1 42 0).toNatClampNeg = 3 * la := by rw [h5, nI_clamp (by omega)]
    rw [gc, if_neg (show ¬ (400000 < len ∨ len = 0 ∨ nI (3 * la) < 0 ∨ len < (nI (3 * la)).toNatClampNeg) from by
      rw [nI_clamp (by omega)]
      intro q
      rcases q with q | q | q | q
      · omega
      · omega
      · exact nI_pos (by omega) q
      · omega)]
    obtain ⟨s', a1, a2, a3, a4, a5, a6, a7⟩ := layput_M (a := a) (b := b) (c := c) g42 h6 g91 (by omega) (by omega)
    have e2 : Eb [41, 42, 91] [] s s' := ((Eb.rfl.upI (k := 41) (by decide)).upI (k := 91) (by decide)).trans (a7.mono (by decide) (by decide))
    refine ⟨s', a1, ⟨by rw [e2.1 9 (by decide)]; exact h1, h2, by rw [e2.1 8 (by decide)]; exact h3, h4, a2, hla, by rw [e2.1 44 (by decide)]; exact h7, h8, by rw [e2.1 53 (by decide)]; exact h9, h10, by rw [e2.1 51 (by decide)]; exact h11, h12, 2 * len, nlen, by rw [a7.1 91 (by decide)]; exact g91, by omega, by omega, by omega, by rw [e2.1 92 (by decide)]; exact n5, n6, n7, n8⟩, ⟨fun k hk => ?_, a4, a5, a6⟩, e2⟩
    rw [a3 k hk]
    show (if k < (s.1 42 0).toNatClampNeg then s.1 41 k else 0) = _
    rw [gd, if_pos hk]
theorem keep_M {N : Nat} {s : ms} {v : Int64} {f t la nc W F : Nat} (h : Xm s f t la nc W F) (hnc : nc + 1 < 30000) : ∃ s', fn_M_keepNumber N v s = some (nI nc, s') ∧ Xm s' f t la (nc + 1) W F ∧ (∀ k, k < nc → s'.2 43 k = s.2 43 k) ∧ s'.2 43 nc = v ∧ Eb [44, 92] [43] s s' := by
  obtain ⟨h1, h2, h3, h4, h5, h6, h7, h8, h9, h10, h11, h12, len, nlen, n1, n2, n3, n4, n5, n6, n7, n8⟩ := h
  unfold fn_M_keepNumber
  have e1 : Int32.ofNat (s.1 92 0).toNatClampNeg = nI nlen := by rw [n5, nI_clamp (by omega)]; rfl
  have gc : (s.1 92 0).toNatClampNeg = nlen := by rw [n5, nI_clamp (by omega)]
  have gd : (s.1 44 0).toNatClampNeg = nc := by rw [h7, nI_clamp (by omega)]
  have put : ∀ (s : ms) (nlen : Nat), s.1 44 0 = nI nc → s.1 92 0 = nI nlen → nc < nlen → nlen < 400000 → keep_put v s = some (nI nc, upI (upJ s 43 (vp_updL (s.2 43) nc v)) 44 (fun _ => nI (nc + 1))) := by
    intro s nlen q1 q2 q3 q4
    unfold keep_put
    rw [q1, q2, nI_clamp (show nlen < 2 ^ 31 by omega), if_neg (nI_in q3 (by omega)), nI_clamp (by omega), nI_1, nI_pred]
  rw [e1, h7]
  by_cases c1 : nc = nlen
  · rw [if_pos (by rw [c1]), gc, if_neg (show ¬ (400000 < nlen ∨ nlen = 0 ∨ nI nc < 0 ∨ ¬ (nI nc).toNatClampNeg = nlen) from by
      rw [nI_clamp (by omega)]
      intro q
      rcases q with q | q | q | q
      · omega
      · omega
      · exact nI_pos (by omega) q
      · omega)]
    have g92 : (keep_grow s).1 92 0 = nI (2 * nc) := by show nI (2 * (s.1 44 0).toNatClampNeg) = _; rw [gd]
    rw [put (keep_grow s) (2 * nc) h7 g92 (by omega) (by omega)]
    refine ⟨_, rfl, ⟨h1, h2, h3, h4, h5, h6, rfl, hnc, h9, h10, h11, h12, len, 2 * nc, n1, n2, n3, n4, g92, by omega, by omega, by omega⟩, fun k hk => ?_, ?_, ?_⟩
    · show vp_updL ((keep_grow s).2 43) nc v k = _
      rw [updL_ne (by omega)]
      show (if k < (s.1 44 0).toNatClampNeg then s.2 43 k else 0) = _
      rw [gd, if_pos hk]
    · exact updL_at _ _ _
    · exact (((Eb.rfl.upJ (k := 43) (by decide)).upI (k := 92) (by decide)).upJ (by decide)).upI (by decide)
  · rw [if_neg (fun q => c1 ((nI_eq (by omega) (by omega)).mp q)), put s nlen h7 n5 (by omega) (by omega)]
    refine ⟨_, rfl, ⟨h1, h2, h3, h4, h5, h6, rfl, hnc, h9, h10, h11, h12, len, nlen, n1, n2, n3, n4, n5, n6, n7, by omega⟩, fun k hk => updL_ne (by omega), updL_at _ _ _, (Eb.rfl.upJ (by decide)).upI (by decide)⟩
theorem cost_M {N m : Nat} {s : ms} {v : Int64} (h : s.1 12 0 = nI m) (hm : m < 3600) : fn_M_cost N v s = some ((), upJ s 45 (vp_updL (s.2 45) m (s.2 45 m + v))) := by
  unfold fn_M_cost
  simp (disch := omega) only [h, lit_nI, gdF, gdG, gdH, nltT, nltF, nleT, nleF, neqT, neqF, nm1F, nm1F', m1lt, m1gt, m1le, m1ge, nI_clamp, nI_add, nI_sub, obind, if_true, if_false, reduceIte, ite_true, ite_false]
theorem failZ_M {N : Nat} {s : ms} {x y : Int32} {f : Nat} (h : s.1 9 0 = nI f) (hf : 0 < f) (hf2 : f < 100) : fn_M_fail N x y s = some ((), s) := by
  unfold fn_M_fail
  simp (disch := omega) only [h, lit_nI, gdF, gdG, gdH, nltT, nltF, nleT, nleF, neqT, neqF, nm1F, nm1F', m1lt, m1gt, m1le, m1ge, nI_clamp, nI_add, nI_sub, obind, if_true, if_false, reduceIte, ite_true, ite_false]
theorem fail_M {N w : Nat} {s : ms} {y : Int32} {t la nc W F : Nat} (h : Xm s 0 t la nc W F) (hw : w < 100) : ∃ s', fn_M_fail N (nI w) y s = some ((), s') ∧ Xm s' w t la nc W F ∧ s'.1 10 0 = y ∧ Eb [9, 10] [] s s' := by
  obtain ⟨h1, h2, h3, h4, h5, h6, h7, h8, h9, h10, h11, h12, h13⟩ := h
  unfold fn_M_fail
  simp (disch := omega) only [h1, lit_nI, gdF, gdG, gdH, nltT, nltF, nleT, nleF, neqT, neqF, nm1F, nm1F', m1lt, m1gt, m1le, m1ge, nI_clamp, nI_add, nI_sub, obind, if_true, if_false, reduceIte, ite_true, ite_false]
  exact ⟨_, rfl, ⟨rfl, hw, h3, h4, h5, h6, h7, h8, h9, h10, h11, h12, h13⟩, rfl, (Eb.rfl.upI (by decide)).upI (by decide)⟩
theorem pushW_M {N : Nat} {s : ms} {w : Int32} {f t la nc W F : Nat} (h : Xm s f t la nc W F) (hW : W + 1 < 2000) : ∃ s', fn_M_pushWidth N w s = some ((), s') ∧ Xm s' f t la nc (W + 1) F ∧ s'.1 52 = upd (s.1 52) W w ∧ Eb [52, 53] [] s s' := by
  obtain ⟨h1, h2, h3, h4, h5, h6, h7, h8, h9, h10, h11, h12, h13⟩ := h
  unfold fn_M_pushWidth
  simp (disch := omega) only [h9, lit_nI, gdF, gdG, gdH, nltT, nltF, nleT, nleF, neqT, neqF, nm1F, nm1F', m1lt, m1gt, m1le, m1ge, nI_clamp, nI_add, nI_sub, obind, if_true, if_false, reduceIte, ite_true, ite_false]
  exact ⟨_, rfl, ⟨h1, h2, h3, h4, h5, h6, h7, h8, rfl, hW, h11, h12, h13⟩, rfl, (Eb.rfl.upI (by decide)).upI (by decide)⟩
theorem ite_any {c : Prop} [Decidable c] {s : ms} {a : Int32} {o : Option (Int32 × ms)} (h : ∃ r, o = some (r, s)) : ∃ r, (if c then some (a, s) else o) = some (r, s) := by
  by_cases q : c
  · exact ⟨a, if_pos q⟩
  · rw [if_neg q]; exact h
theorem rank_any (N : Nat) (x : Int32) (s : ms) : ∃ r, fn_M_rank N x s = some (r, s) := ite_any (ite_any (ite_any (ite_any (ite_any (ite_any (ite_any (ite_any (ite_any (ite_any (ite_any (ite_any (ite_any (ite_any (ite_any (ite_any (⟨_, rfl⟩))))))))))))))))
theorem isU_any (N : Nat) (x : Int32) (s : ms) : ∃ r, fn_M_isUnary N x s = some (r, s) := by
  unfold fn_M_isUnary
  repeat' (first | exact ⟨_, rfl⟩ | split)
/-- the end of reckon: the cost, the width, the op -/
theorem reck_fin {N m : Nat} {s : ms} {x v : Int32} {n : Int64} {f t la nc W F : Nat} (h : Xm s f t la nc (W + 1) F) (hla : la + 1 < 33000) (hm : s.1 12 0 = nI m) (hm2 : m < 3600) : ∃ s', ((fn_M_cost N n s).bind (fun q_1 => bk_M_reckon_183 N x v q_1.2)) = some ((), s') ∧ Xm s' f t (la + 1) nc (W + 1) F ∧ s'.2 45 m = s.2 45 m + n ∧ s'.1 52 = upd (s.1 52) W v ∧ Op1 s s' la 5 x v ∧ Eb [41, 42, 52, 91] [45] s s' ∧ (∀ k, k ≠ m → s'.2 45 k = s.2 45 k) := by
  rw [cost_M hm hm2, obind]
  unfold bk_M_reckon_183 bk_M_reckon_206
  dsimp only
  have h9 := h.2.2.2.2.2.2.2.2.1
  have h10 := h.2.2.2.2.2.2.2.2.2.1
  have e53 : (upJ s 45 (vp_updL (s.2 45) m (s.2 45 m + n))).1 53 0 = nI (W + 1) := h9
  rw [e53, nI_pred, if_neg (nI_in (show W < 4096 by omega) (by decide)), nI_clamp (by omega)]
  have hx : Xm (upI (upJ s 45 (vp_updL (s.2 45) m (s.2 45 m + n))) 52 (upd (s.1 52) W v)) f t la nc (W + 1) F := h.any ((Eb.rfl.upJ (by decide)).upI (by decide))
  obtain ⟨s', a1, a2, a3, a4⟩ := lay_M (N := N) (a := 5) (b := x) (c := v) hx hla
  have a1' : fn_M_lay N 5 x v (upI (upJ s 45 (vp_updL (s.2 45) m (s.2 45 m + n))) 52 (upd ((upJ s 45 (vp_updL (s.2 45) m (s.2 45 m + n))).1 52) W v)) = some ((), s') := a1
  rw [a1', obind]
  refine ⟨s', rfl, a2, ?_, ?_, ⟨fun k hk => (a3.1 k hk).trans rfl, a3.2⟩, ((Eb.rfl.upJ (by decide)).upI (by decide)).trans (a4.mono (by decide) (by decide)), fun k hk => by rw [a4.2 45 (by decide)]; exact updL_ne hk⟩
  · rw [a4.2 45 (by decide)]
    exact updL_at _ _ _
  · rw [a4.1 52 (by decide)]
    rfl
theorem reckZ_M {N m : Nat} {s : ms} {f t la nc W F : Nat} (h : Xm s f t la nc (W + 2) (F + 1)) (hf : 0 < f) (hla : la + 1 < 33000) (hm : s.1 12 0 = nI m) (hm2 : m < 3600) : ∃ s', fn_M_reckon N s = some ((), s') ∧ Xm s' f t (la + 1) nc (W + 1) F ∧ s'.1 10 = s.1 10 ∧ Eb [41, 42, 51, 52, 53, 91] [45] s s' ∧ (∀ k, k < W → s'.1 52 k = s.1 52 k) ∧ (∀ k, k < 3 * la → s'.1 41 k = s.1 41 k) ∧ (∀ k, k ≠ m → s'.2 45 k = s.2 45 k) := by
  obtain ⟨h1, h2, h3, h4, h5, h6, h7, h8, h9, h10, h11, h12, h13⟩ := id h
  have hx : Xm (upI (upI s 51 (fun _ => nI F)) 53 (fun _ => nI (W + 1))) f t la nc (W + 1) F := ⟨h1, h2, h3, h4, h5, h6, h7, h8, rfl, by omega, rfl, by omega, h13⟩
  have fin : ∀ (x : Int32) (v : Int32) (n : Int64), ∃ s', ((fn_M_cost N n (upI (upI s 51 (fun _ => nI F)) 53 (fun _ => nI (W + 1)))).bind (fun q_1 => bk_M_reckon_183 N x v q_1.2)) = some ((), s') ∧ Xm s' f t (la + 1) nc (W + 1) F ∧ s'.1 10 = s.1 10 ∧ Eb [41, 42, 51, 52, 53, 91] [45] s s' ∧ (∀ k, k < W → s'.1 52 k = s.1 52 k) ∧ (∀ k, k < 3 * la → s'.1 41 k = s.1 41 k) ∧ (∀ k, k ≠ m → s'.2 45 k = s.2 45 k) := by
    intro x v n
    obtain ⟨s', a1, a2, a3, a4, a5, a6, a7⟩ := reck_fin (N := N) (x := x) (v := v) (n := n) hx hla (m := m) hm hm2
    refine ⟨s', a1, a2, by rw [a6.1 10 (by decide)]; rfl, ((Eb.rfl.upI (k := 51) (by decide)).upI (k := 53) (by decide)).trans (a6.mono (by decide) (by decide)), fun k hk => ?_, fun k hk => a5.1 k hk, fun k hk => a7 k hk⟩
    rw [a4, upd_ne (by omega)]; rfl
  unfold fn_M_reckon
  rw [h11, h9, nI_pred, show nI (W + 2) - 1 = nI (W + 1) from nI_pred _, nI_pred, if_neg (nI_in (show F < 4096 by omega) (by decide)), if_neg (nI_in (show W + 1 < 4096 by omega) (by decide)), if_neg (nI_in (show W < 4096 by omega) (by decide))]
  obtain ⟨r, hr⟩ := rank_any N (s.1 49 (nI F).toNatClampNeg) (upI (upI s 51 (fun _ => nI F)) 53 (fun _ => nI (W + 1)))
  rw [hr, obind]
  dsimp only
  have w9 : ¬ (upI (upI s 51 (fun _ => nI F)) 53 (fun _ => nI (W + 1))).1 9 0 = 0 := by
    show ¬ s.1 9 0 = 0
    rw [h1]; exact fun q => by have := (nI_eq (b := 0) (by omega) (by omega)).mp q; omega
  have f155 : ∀ (x1 x3 x4 : Int32) (n : Int64), ∃ s', bk_M_reckon_155 N x1 x3 x4 n (upI (upI s 51 (fun _ => nI F)) 53 (fun _ => nI (W + 1))) = some ((), s') ∧ Xm s' f t (la + 1) nc (W + 1) F ∧ s'.1 10 = s.1 10 ∧ Eb [41, 42, 51, 52, 53, 91] [45] s s' ∧ (∀ k, k < W → s'.1 52 k = s.1 52 k) ∧ (∀ k, k < 3 * la → s'.1 41 k = s.1 41 k) ∧ (∀ k, k ≠ m → s'.2 45 k = s.2 45 k) := by
    intro x1 x3 x4 n
    unfold bk_M_reckon_155 bk_M_reckon_178
    by_cases c1 : x4 < 3
    · simp only [c1, if_true]; exact fin _ _ _
    · simp only [c1, if_false]
      by_cases c2 : x4 = 6
      · simp only [c2, if_true]; exact fin _ _ _
      · simp only [c2, if_false]
        by_cases c3 : x4 = 7
        · simp only [c3, if_true]; exact fin _ _ _
        · simp only [c3, if_false]; exact fin _ _ _
  have f120 : ∀ (x1 x2 x3 x4 t0 : Int32), ∃ s', bk_M_reckon_120 N x1 x2 x3 x4 t0 (upI (upI s 51 (fun _ => nI F)) 53 (fun _ => nI (W + 1))) = some ((), s') ∧ Xm s' f t (la + 1) nc (W + 1) F ∧ s'.1 10 = s.1 10 ∧ Eb [41, 42, 51, 52, 53, 91] [45] s s' ∧ (∀ k, k < W → s'.1 52 k = s.1 52 k) ∧ (∀ k, k < 3 * la → s'.1 41 k = s.1 41 k) ∧ (∀ k, k ≠ m → s'.2 45 k = s.2 45 k) := by
    intro x1 x2 x3 x4 t0
    unfold bk_M_reckon_120
    by_cases c1 : x4 = 8
    · rw [if_pos c1]; exact f155 _ _ _ _
    · rw [if_neg c1]
      by_cases c2 : x1 = 42
      · rw [if_pos c2]; exact f155 _ _ _ _
      · rw [if_neg c2]; exact f155 _ _ _ _
  have f76 : ∀ (x1 x2 x3 x4 t0 : Int32), ∃ s', bk_M_reckon_76 N x1 x2 x3 x4 t0 (upI (upI s 51 (fun _ => nI F)) 53 (fun _ => nI (W + 1))) = some ((), s') ∧ Xm s' f t (la + 1) nc (W + 1) F ∧ s'.1 10 = s.1 10 ∧ Eb [41, 42, 51, 52, 53, 91] [45] s s' ∧ (∀ k, k < W → s'.1 52 k = s.1 52 k) ∧ (∀ k, k < 3 * la → s'.1 41 k = s.1 41 k) ∧ (∀ k, k ≠ m → s'.2 45 k = s.2 45 k) := by
    intro x1 x2 x3 x4 t0
    unfold bk_M_reckon_76 bk_M_reckon_110
    rw [if_neg w9]
    by_cases c1 : x3 ≤ x2
    · rw [if_pos c1]; exact f120 _ _ _ _ _
    · rw [if_neg c1]; exact f120 _ _ _ _ _
  unfold bk_M_reckon_71
  by_cases c1 : r < 3
  · rw [if_pos c1]; exact f76 _ _ _ _ _
  · rw [if_neg c1]
    by_cases c2 : r = 8
    · rw [if_pos c2]; exact f76 _ _ _ _ _
    · rw [if_neg c2]; exact f76 _ _ _ _ _
theorem isB_lt {k : Nat} (h : isB k) : k < 405 := by unfold isB at h; omega
theorem reck_M {N m k a b : Nat} {s : ms} {t la nc W F : Nat} (h : Xm s 0 t la nc (W + 2) (F + 1)) (hla : la + 1 < 33000) (hm : s.1 12 0 = nI m) (hm2 : m < 3600) (hk : isB k) (ha : a ≤ 64) (hb : b ≤ 64) (hK : s.1 49 F = nI k) (hA : s.1 52 W = nI a) (hB : s.1 52 (W + 1) = nI b) :
    ((bAny k = true ∨ a = b) → ∃ s', fn_M_reckon N s = some ((), s') ∧ Xm s' 0 t (la + 1) nc (W + 1) F ∧ s'.2 45 m = s.2 45 m + lN (bCost k a b) ∧ s'.1 52 = upd (s.1 52) W (nI (bMade k a)) ∧ Op1 s s' la 5 (nI k) (nI (bMade k a)) ∧ Eb [41, 42, 51, 52, 53, 91] [45] s s' ∧ (∀ k, k ≠ m → s'.2 45 k = s.2 45 k))
    ∧ (¬ (bAny k = true ∨ a = b) → ∃ s', fn_M_reckon N s = some ((), s') ∧ Xm s' 30 t (la + 1) nc (W + 1) F ∧ s'.1 10 0 = s.1 50 F ∧ Eb [9, 10, 41, 42, 51, 52, 53, 91] [45] s s' ∧ (∀ k, k < W → s'.1 52 k = s.1 52 k) ∧ (∀ k, k < 3 * la → s'.1 41 k = s.1 41 k) ∧ (∀ k, k ≠ m → s'.2 45 k = s.2 45 k)) := by
  obtain ⟨h1, h2, h3, h4, h5, h6, h7, h8, h9, h10, h11, h12, h13⟩ := id h
  have hx : Xm (upI (upI s 51 (fun _ => nI F)) 53 (fun _ => nI (W + 1))) 0 t la nc (W + 1) F := ⟨h1, h2, h3, h4, h5, h6, h7, h8, rfl, by omega, rfl, by omega, h13⟩
  have kl := isB_lt hk
  have rl := rk_lt k
  have start : fn_M_reckon N s = if bAny k = true then bk_M_reckon_76 N (nI k) (nI b) (nI a) (nI (rk k)) 1 (upI (upI s 51 (fun _ => nI F)) 53 (fun _ => nI (W + 1))) else bk_M_reckon_76 N (nI k) (nI b) (nI a) (nI (rk k)) 0 (upI (upI s 51 (fun _ => nI F)) 53 (fun _ => nI (W + 1))) := by
    unfold fn_M_reckon bk_M_reckon_71
    rw [h11, h9, nI_pred, show nI (W + 2) - 1 = nI (W + 1) from nI_pred _, nI_pred, if_neg (nI_in (show F < 4096 by omega) (by decide)), if_neg (nI_in (show W + 1 < 4096 by omega) (by decide)), if_neg (nI_in (show W < 4096 by omega) (by decide)), nI_clamp (by omega), nI_clamp (by omega), nI_clamp (by omega), hK, hA, hB, rank_1 kl, obind]
    unfold bAny
    by_cases c1 : rk k < 3
    · rw [if_pos (show nI (rk k) < 3 from nI_lt (b := 3) c1 (by decide)), if_pos (by simp [c1])]
    · rw [if_neg (show ¬ nI (rk k) < 3 from nI_nlt (b := 3) (by omega) (by omega))]
      by_cases c2 : rk k = 8
      · rw [if_pos (show nI (rk k) = 8 by rw [c2]; rfl), if_pos (by simp [c2])]
      · rw [if_neg (show ¬ nI (rk k) = 8 from fun q => c2 ((nI_eq (b := 8) (by omega) (by omega)).mp q)), if_neg (by simp; omega)]
  have mid : ∀ (S : ms) (f : Nat), Xm S f t la nc (W + 1) F → S.1 12 0 = nI m → ∃ s', bk_M_reckon_110 N (nI k) (nI b) (nI a) (nI (rk k)) S = some ((), s') ∧ Xm s' f t (la + 1) nc (W + 1) F ∧ s'.2 45 m = S.2 45 m + lN (if rk k = 8 then 3 * a + b else if k = 42 then a * a else max a b) ∧ s'.1 52 = upd (S.1 52) W (nI (bMade k a)) ∧ Op1 S s' la 5 (nI k) (nI (bMade k a)) ∧ Eb [41, 42, 52, 91] [45] S s' ∧ (∀ k, k ≠ m → s'.2 45 k = S.2 45 k) := by
    intro S f hS hSm
    have m155 : ∀ n : Nat, n < 10000 → ∃ s', bk_M_reckon_155 N (nI k) (nI a) (nI (rk k)) (Int32.toInt64 (nI n)) S = some ((), s') ∧ Xm s' f t (la + 1) nc (W + 1) F ∧ s'.2 45 m = S.2 45 m + lN n ∧ s'.1 52 = upd (S.1 52) W (nI (bMade k a)) ∧ Op1 S s' la 5 (nI k) (nI (bMade k a)) ∧ Eb [41, 42, 52, 91] [45] S s' ∧ (∀ k, k ≠ m → s'.2 45 k = S.2 45 k) := by
      intro n hn
      rw [nI_l (by omega)]
      unfold bk_M_reckon_155 bk_M_reckon_178 bMade
      by_cases c1 : rk k < 3
      · simp only [show nI (rk k) < 3 from nI_lt (b := 3) c1 (by decide), if_true]
        rw [if_pos (Or.inl c1)]
        exact reck_fin hS hla hSm hm2
      · simp only [show ¬ nI (rk k) < 3 from nI_nlt (b := 3) (by omega) (by omega), if_false]
        by_cases c2 : rk k = 6
        · simp only [show nI (rk k) = 6 by rw [c2]; rfl, if_true]
          rw [if_pos (Or.inr (Or.inl c2))]
          exact reck_fin hS hla hSm hm2
        · simp only [show ¬ nI (rk k) = 6 from fun q => c2 ((nI_eq (b := 6) (by omega) (by omega)).mp q), if_false]
          by_cases c3 : rk k = 7
          · simp only [show nI (rk k) = 7 by rw [c3]; rfl, if_true]
            rw [if_pos (Or.inr (Or.inr c3))]
            exact reck_fin hS hla hSm hm2
          · simp only [show ¬ nI (rk k) = 7 from fun q => c3 ((nI_eq (b := 7) (by omega) (by omega)).mp q), if_false]
            rw [if_neg (by omega)]
            exact reck_fin hS hla hSm hm2
    have aa : a * a ≤ 64 * 64 := Nat.mul_le_mul ha ha
    have m120 : bk_M_reckon_110 N (nI k) (nI b) (nI a) (nI (rk k)) S = bk_M_reckon_155 N (nI k) (nI a) (nI (rk k)) (Int32.toInt64 (nI (if rk k = 8 then 3 * a + b else if k = 42 then a * a else max a b))) S := by
      unfold bk_M_reckon_110 bk_M_reckon_120
      rw [show (3 : Int32) = nI 3 from rfl, nI_mul, nI_mul, nI_add]
      by_cases c1 : rk k = 8
      · rw [if_pos (show nI (rk k) = 8 by rw [c1]; rfl), if_pos (show nI (rk k) = 8 by rw [c1]; rfl), if_pos c1]
        exact ite_self _
      · have c1' : ¬ nI (rk k) = 8 := fun q => c1 ((nI_eq (b := 8) (by omega) (by omega)).mp q)
        rw [if_neg c1', if_neg c1', if_neg c1]
        by_cases c2 : k = 42
        · rw [if_pos (show nI k = 42 by rw [c2]; rfl), if_pos (show nI k = 42 by rw [c2]; rfl), if_pos c2]
          exact ite_self _
        · have c2' : ¬ nI k = 42 := fun q => c2 ((nI_eq (b := 42) (by omega) (by omega)).mp q)
          rw [if_neg c2', if_neg c2', if_neg c2]
          by_cases c3 : a ≤ b
          · rw [if_pos (nI_le c3 (by omega)), show max a b = b by omega]
          · rw [if_neg (nI_ge (by omega) (by omega)), show max a b = a by omega]
    rw [m120]
    exact m155 _ (by split <;> (try split) <;> omega)
  rw [start]
  have w9 : (upI (upI s 51 (fun _ => nI F)) 53 (fun _ => nI (W + 1))).1 9 0 = 0 := h1
  have e0 : Eb [41, 42, 51, 52, 53, 91] [45] s (upI (upI s 51 (fun _ => nI F)) 53 (fun _ => nI (W + 1))) := (Eb.rfl.upI (by decide)).upI (by decide)
  obtain ⟨s', a1, a2, a3, a4, a5, a6, a7⟩ := mid _ 0 hx hm
  unfold bk_M_reckon_76
  rw [if_pos w9]
  constructor
  · intro q
    refine ⟨s', ?_, a2, a3, a4, a5, e0.trans (a6.mono (by decide) (by decide)), a7⟩
    by_cases c1 : bAny k = true
    · rw [if_pos c1, if_neg (show ¬ (1 : Int32) = 0 by decide)]; exact a1
    · rw [if_neg c1, if_pos w9, if_pos rfl, if_pos (show nI a = nI b by rw [q.resolve_left c1])]; exact a1
  · intro q
    have c1 : ¬ bAny k = true := fun z => q (Or.inl z)
    have c2 : ¬ nI a = nI b := fun z => q (Or.inr ((nI_eq (by omega) (by omega)).mp z))
    rw [if_neg c1, if_pos w9, if_pos rfl, if_neg c2]
    have e51 : (upI (upI s 51 (fun _ => nI F)) 53 (fun _ => nI (W + 1))).1 51 0 = nI F := rfl
    rw [e51, if_neg (nI_in (show F < 4096 by omega) (by decide)), nI_clamp (by omega)]
    obtain ⟨s1, b1, b2, b3, b4⟩ := fail_M (N := N) (w := 30) (y := s.1 50 F) hx (by decide)
    have b1' : fn_M_fail N 30 ((upI (upI s 51 (fun _ => nI F)) 53 (fun _ => nI (W + 1))).1 50 F) (upI (upI s 51 (fun _ => nI F)) 53 (fun _ => nI (W + 1))) = some ((), s1) := b1
    rw [b1', obind]
    obtain ⟨s2, d1, d2, d3, d4, d5, d6, d7⟩ := mid s1 30 b2 (by rw [b4.1 12 (by decide)]; exact hm)
    refine ⟨s2, d1, d2, by rw [d6.1 10 (by decide)]; exact b3, (e0.mono (by decide) (by decide)).trans ((b4.mono (by decide) (by decide)).trans (d6.mono (by decide) (by decide))), fun k hk => ?_, fun k hk => ?_, fun k hk => ?_⟩
    · rw [d4, upd_ne (by omega), b4.1 52 (by decide)]; rfl
    · rw [d5.1 k hk, b4.1 41 (by decide)]; rfl
    · rw [d7 k hk, b4.2 45 (by decide)]; rfl
