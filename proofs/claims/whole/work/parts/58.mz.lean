/-! The reference behind a fault: an exp does nothing. -/
section MZ
variable {tk pl vl wi : Nat → Nat} {nm : Nat → Option (Nat × Nat)} {nt m N : Nat}
/-- what an exp finds and doesn't change -/
def SM (tk pl vl wi : Nat → Nat) (nm : Nat → Option (Nat × Nat)) (nt m N : Nat) (s : ms) : Prop :=
  s.1 12 0 = nI m ∧ m < 3600 ∧ (∀ i, i < nt → s.1 4 i = nI (tk i) ∧ s.1 5 i = nI (pl i)) ∧ (∀ i, 13000 ≤ i → s.1 4 i = 0) ∧
  (∀ s', SE s s' → ∀ i, i < nt → tk i = 401 ∨ tk i = 402 → ∃ g, fn_M_numberOf N (nI i) s' = some (lN (vl i), upI s' 87 g)) ∧
  (∀ s', SE s s' → ∀ i, i < nt → tk i = 402 → fn_M_widthOfNumber N (nI i) s' = some (nI (wi i), s')) ∧
  (∀ s', SE s s' → ∀ i, i < nt → tk i = 400 → fn_M_here N (nI i) s' = some (match nm i with | none => -1 | some q => nI q.1, s')) ∧
  (∀ i q, nm i = some q → q.1 < 11000 ∧ s.1 20 q.1 = nI q.2 ∧ 1 ≤ q.2 ∧ q.2 ≤ 64) ∧
  (∀ i, i < nt → (tk i = 401 → vl i < 65536) ∧ (tk i = 402 → vl i < 2 ^ 64 ∧ 1 ≤ wi i ∧ wi i ≤ 64))
theorem SM.mono {s s' : ms} (h : SM tk pl vl wi nm nt m N s) (e : SE s s') : SM tk pl vl wi nm nt m N s' := by
  obtain ⟨h1, h2, h3, h4, h5, h6, h7, h8, h9⟩ := h
  refine ⟨by rw [e.1 12 (by decide)]; exact h1, h2, by rw [e.1 4 (by decide), e.1 5 (by decide)]; exact h3, by rw [e.1 4 (by decide)]; exact h4, fun s2 e2 => h5 s2 (e.trans e2), fun s2 e2 => h6 s2 (e.trans e2), fun s2 e2 => h7 s2 (e.trans e2), by rw [e.1 20 (by decide)]; exact h8, h9⟩
/-- rows below what stands there are as they were -/
def Lo (m : Nat) (s s' : ms) (la nc W F : Nat) : Prop := (∀ k, k < 3 * la → s'.1 41 k = s.1 41 k) ∧ (∀ k, k < nc → s'.2 43 k = s.2 43 k) ∧ (∀ k, k < F → s'.1 49 k = s.1 49 k ∧ s'.1 50 k = s.1 50 k) ∧ (∀ k, k < W → s'.1 52 k = s.1 52 k) ∧ ∀ k, k ≠ m → s'.2 45 k = s.2 45 k
theorem Lo.refl {s : ms} {la nc W F : Nat} : Lo m s s la nc W F := ⟨fun _ _ => rfl, fun _ _ => rfl, fun _ _ => ⟨rfl, rfl⟩, fun _ _ => rfl, fun _ _ => rfl⟩
theorem Lo.trans {s t u : ms} {la nc W F la' nc' W' F' : Nat} (h : Lo m s t la nc W F) (g : Lo m t u la' nc' W' F') (h1 : la ≤ la') (h2 : nc ≤ nc') (h3 : W ≤ W') (h4 : F ≤ F') : Lo m s u la nc W F :=
  ⟨fun k hk => (g.1 k (by omega)).trans (h.1 k hk), fun k hk => (g.2.1 k (by omega)).trans (h.2.1 k hk), fun k hk => ⟨(g.2.2.1 k (by omega)).1.trans (h.2.2.1 k hk).1, (g.2.2.1 k (by omega)).2.trans (h.2.2.1 k hk).2⟩, fun k hk => (g.2.2.2.1 k (by omega)).trans (h.2.2.2.1 k hk), fun k hk => (g.2.2.2.2 k hk).trans (h.2.2.2.2 k hk)⟩
/-- what changes none of these rows -/
theorem Lo.of {s s' : ms} {la nc W F : Nat} {ks : List Nat} (e : Eb ks [] s s') (h : 41 ∉ ks ∧ 49 ∉ ks ∧ 50 ∉ ks ∧ 52 ∉ ks) : Lo m s s' la nc W F :=
  ⟨fun k _ => by rw [e.1 41 h.1], fun k _ => by rw [e.2 43 (by decide)], fun k _ => ⟨by rw [e.1 49 h.2.1], by rw [e.1 50 h.2.2.1]⟩, fun k _ => by rw [e.1 52 h.2.2.2], fun k _ => by rw [e.2 45 (by decide)]⟩
theorem Lo.op {s s' : ms} {la nc W F : Nat} {a b c : Int32} {js : List Nat} (o : Op1 s s' la a b c) (e : Eb [41, 42, 91] [] s s') : Lo m s s' la nc W F :=
  ⟨o.1, fun k _ => by rw [e.2 43 (by decide)], fun k _ => ⟨by rw [e.1 49 (by decide)], by rw [e.1 50 (by decide)]⟩, fun k _ => by rw [e.1 52 (by decide)], fun k _ => by rw [e.2 45 (by decide)]⟩
/-- behind a fault: the state is left but for the token -/
def Zx (m : Nat) (s0 s : ms) (f t la nc W F : Nat) (o : Option (Int32 × ms)) : Prop := ∃ v s' t', o = some (v, s') ∧ Xm s' f t' la nc W F ∧ (t' ≤ t ∨ t' ≤ 13000) ∧ s'.1 10 = s.1 10 ∧ SE s0 s' ∧ Lo m s s' la nc W F
theorem kindZ {s : ms} {f t la nc W F : Nat} (h : Xm s f t la nc W F) : fn_M_kind N s = some (s.1 4 t, s) := by
  obtain ⟨h1, h2, h3, h4, -⟩ := h
  unfold fn_M_kind
  simp (disch := omega) only [h3, lit_nI, gdF, gdG, gdH, nltT, nltF, nleT, nleF, neqT, neqF, nm1F, nm1F', m1lt, m1gt, m1le, m1ge, nI_clamp, nI_add, nI_sub, obind, if_true, if_false, reduceIte, ite_true, ite_false]
theorem primZ {s0 s : ms} {f t la nc W F d : Nat} (e : SE s0 s) (h : Xm s f t la nc W F) (hf : 0 < f) : ∃ v, (sg_M_exp N (d + 1)).2.2.2.1 s = some (v, s) := by
  show ∃ v, fb_M_primary N _ _ _ _ _ s = _
  unfold fb_M_primary
  have h9 : ¬ s.1 9 0 = 0 := by rw [h.1]; exact fun q => by have := (nI_eq (b := 0) (by have := h.2.1; omega) (by omega)).mp q; omega
  rw [if_neg h9]
  exact ⟨1, rfl⟩
theorem operZ {s0 : ms} {d : Nat} (hS : SM tk pl vl wi nm nt m N s0) (hN : 13002 < N) : ∀ (n : Nat) (s : ms) (f t la nc W F : Nat) (x : Int32), SE s0 s → Xm s f t la nc W F → 0 < f → 13000 < t + n → 1 ≤ n → Zx m s0 s f t la nc W F (hd_M_operand_5 N (sg_M_exp N (d + 1)).1 (sg_M_exp N (d + 1)).2.1 (sg_M_exp N (d + 1)).2.2.1 (sg_M_exp N (d + 1)).2.2.2.1 (sg_M_exp N (d + 1)).2.2.2.2 n x s) := by
  intro n
  induction n with
  | zero => intro s f t la nc W F x e h hf h1 h2; omega
  | succ n ih =>
    intro s f t la nc W F x e h hf h1 h2
    have h9 : ¬ s.1 9 0 = 0 := by rw [h.1]; exact fun q => by have := (nI_eq (b := 0) (by have := h.2.1; omega) (by omega)).mp q; omega
    show Zx m s0 s f t la nc W F (bd_M_operand_5 N _ _ _ _ _ (hd_M_operand_5 N _ _ _ _ _ n) x s)
    unfold bd_M_operand_5
    rw [kindZ h, obind]
    dsimp only
    have fin : Zx m s0 s f t la nc W F (((sg_M_exp N (d + 1)).2.2.2.1 s).bind (fun q_7 => bk_M_operand_37 N (sg_M_exp N (d + 1)).1 (sg_M_exp N (d + 1)).2.1 (sg_M_exp N (d + 1)).2.2.1 (sg_M_exp N (d + 1)).2.2.2.1 (sg_M_exp N (d + 1)).2.2.2.2 x (s.1 8 0) q_7.1 q_7.2)) := by
      obtain ⟨v, hv⟩ := primZ (N := N) (d := d) e h hf
      rw [hv, obind]
      unfold bk_M_operand_37
      obtain ⟨N', rfl⟩ : ∃ N', N = N' + 1 := ⟨N - 1, by omega⟩
      show Zx m s0 s f t la nc W F (bd_M_operand_43 _ _ _ _ _ _ (hd_M_operand_43 _ _ _ _ _ _ N') x v (s.1 8 0 - 1) s)
      unfold bd_M_operand_43
      rw [if_neg h9, ite_self]
      exact ⟨v, s, t, rfl, h, by omega, rfl, e, Lo.refl⟩
    by_cases c : 13000 ≤ t
    · have k0 : s.1 4 t = 0 := by rw [e.1 4 (by decide)]; exact hS.2.2.2.1 t c
      rw [k0]
      show Zx m s0 s f t la nc W F ((fn_M_isUnary N (nI 0) s).bind _)
      rw [isU_1 (by decide), obind, if_pos (show b01 (isU 0) = 0 by decide)]
      exact fin
    · obtain ⟨r, hr⟩ := isU_any N (s.1 4 t) s
      rw [hr, obind]
      dsimp only
      by_cases c2 : r = 0
      · rw [if_pos c2]; exact fin
      · rw [if_neg c2]
        have ht : s.1 8 0 + 1 = nI (t + 1) := by rw [h.2.2.1, nI_1]
        have e1 : SE s0 (upI s 8 (fun _ => s.1 8 0 + 1)) := e.upI (by decide)
        obtain ⟨v, s', t', a1, a2, a3, a4, a5, a6⟩ := ih (upI s 8 (fun _ => s.1 8 0 + 1)) f (t + 1) la nc W F x e1 (h.tset ht (by omega)) hf (by omega) (by omega)
        exact ⟨v, s', t', a1, a2, by omega, a4, a5, (Lo.of (ks := [8]) (Eb.rfl.upI (by decide)) (by decide)).trans a6 (Nat.le_refl _) (Nat.le_refl _) (Nat.le_refl _) (Nat.le_refl _)⟩
theorem binZ {s0 s : ms} {f t la nc W F d : Nat} (hS : SM tk pl vl wi nm nt m N s0) (hN : 13002 < N) (e : SE s0 s) (h : Xm s f t la nc W F) (hf : 0 < f) (hW : W + 1 < 2000) : Zx m s0 s f t la nc W F ((sg_M_exp N (d + 3)).2.1 s) := by
  show Zx m s0 s f t la nc W F (fb_M_binary N _ _ _ _ _ s)
  unfold fb_M_binary
  obtain ⟨v, s1, t1, a1, a2, a3, a4, a5, a6⟩ := operZ (d := d) hS hN N s f t la nc W F (s.1 8 0) e h hf (by omega) (by omega)
  have a1' : (sg_M_exp N (d + 2)).2.2.1 s = some (v, s1) := a1
  rw [a1', obind]
  unfold bk_M_binary_10
  dsimp only
  obtain ⟨s2, b1, b2, b3, b4⟩ := pushW_M (N := N) (w := v) a2 hW
  rw [b1, obind]
  dsimp only
  obtain ⟨N', rfl⟩ : ∃ N', N = N' + 1 := ⟨N - 1, by omega⟩
  have h9 : ¬ s2.1 9 0 = 0 := by rw [b2.1]; exact fun q => by have := (nI_eq (b := 0) (by have := h.2.1; omega) (by omega)).mp q; omega
  show Zx m s0 s f t la nc W F (bd_M_binary_13 _ _ _ _ _ _ (hd_M_binary_13 _ _ _ _ _ _ N') (s.1 51 0) s2)
  unfold bd_M_binary_13
  rw [if_neg h9]
  show Zx m s0 s f t la nc W F (bd_M_binary_133 _ _ _ _ _ _ (hd_M_binary_133 _ _ _ _ _ _ N') (s.1 51 0) s2)
  unfold bd_M_binary_133
  obtain ⟨h1, h2, h3, h4, h5, h6, h7, h8, h9, h10, h11, h12, h13⟩ := id b2
  have hF := h.2.2.2.2.2.2.2.2.2.2.1
  rw [hF, h11, if_pos (nI_le (Nat.le_refl _) (by omega)), h9, nI_pred, if_neg (nI_in (show W < 4096 by omega) (by decide))]
  refine ⟨_, _, t1, rfl, ⟨h1, h2, h3, h4, h5, h6, h7, h8, rfl, by omega, h11, h12, h13⟩, a3, ?_, ?_, ?_⟩
  · show s2.1 10 = s.1 10
    rw [b4.1 10 (by decide)]; exact a4
  · exact (a5.trans (b4.mono (by decide) (by decide))).upI (by decide)
  · refine a6.trans (la' := la) (nc' := nc) (W' := W) (F' := F) ?_ (Nat.le_refl _) (Nat.le_refl _) (Nat.le_refl _) (Nat.le_refl _)
    refine ⟨fun k _ => by show s2.1 41 k = _; rw [b4.1 41 (by decide)], fun k _ => by show s2.2 43 k = _; rw [b4.2 43 (by decide)], fun k _ => ⟨by show s2.1 49 k = _; rw [b4.1 49 (by decide)], by show s2.1 50 k = _; rw [b4.1 50 (by decide)]⟩, fun k hk => ?_, fun k _ => by show s2.2 45 k = _; rw [b4.2 45 (by decide)]⟩
    show s2.1 52 k = _
    rw [b3, upd_ne (by omega)]
theorem isZ {s : ms} {f t la nc W F k : Nat} (h : Xm s f t la nc W F) (hf : 0 < f) : fn_M_is N (nI k) s = some (0, s) := by
  unfold fn_M_is
  rw [if_neg (show ¬ s.1 9 0 = 0 by rw [h.1]; exact fun q => by have := (nI_eq (b := 0) (by have := h.2.1; omega) (by omega)).mp q; omega)]
theorem expZ {s0 s : ms} {f t la nc W F d : Nat} (hS : SM tk pl vl wi nm nt m N s0) (hN : 13002 < N) (e : SE s0 s) (h : Xm s f t la nc W F) (hf : 0 < f) (hW : W + 1 < 2000) : Zx m s0 s f t la nc W F ((sg_M_exp N (d + 4)).1 s) := by
  show Zx m s0 s f t la nc W F (fb_M_exp N _ _ _ _ _ s)
  unfold fb_M_exp
  obtain ⟨v, s1, t1, a1, a2, a3, a4, a5, a6⟩ := binZ (d := d) hS hN e h hf hW
  rw [a1, obind]
  unfold bk_M_exp_4
  dsimp only
  rw [show fn_M_is N 63 s1 = some (0, s1) from isZ a2 hf, obind, if_pos rfl]
  exact ⟨v, s1, t1, rfl, a2, a3, a4, a5, a6⟩
theorem expZ4 {s0 s : ms} {f t la nc W F d : Nat} (hd : 4 ≤ d) (hS : SM tk pl vl wi nm nt m N s0) (hN : 13002 < N) (e : SE s0 s) (h : Xm s f t la nc W F) (hf : 0 < f) (hW : W + 1 < 2000) : Zx m s0 s f t la nc W F ((sg_M_exp N d).1 s) := by
  obtain ⟨d', rfl⟩ : ∃ d', d = d' + 4 := ⟨d - 4, by omega⟩
  exact expZ hS hN e h hf hW
theorem operZ2 {s0 s : ms} {f t la nc W F d : Nat} (hd : 2 ≤ d) (hS : SM tk pl vl wi nm nt m N s0) (hN : 13002 < N) (e : SE s0 s) (h : Xm s f t la nc W F) (hf : 0 < f) : Zx m s0 s f t la nc W F ((sg_M_exp N d).2.2.1 s) := by
  obtain ⟨d', rfl⟩ : ∃ d', d = d' + 2 := ⟨d - 2, by omega⟩
  exact operZ hS hN N s f t la nc W F (s.1 8 0) e h hf (by omega) (by omega)
end MZ
