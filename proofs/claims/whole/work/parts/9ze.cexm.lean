/-! The class: exps of items. -/
section CEXM
variable {tk pl vl wi wd : Nat → Nat} {nt nw N N0 N1 lc : Nat} {ex : Nat → Int32} {lit : Nat → Int64} {c c' c0 : ms} {A : ds} {t sz C I K : Nat} {σ σ' : gs} {μ : Option (Nat × Nat)}
theorem expS2 {nm : Nat → Option (Nat × Nat)} {fd : Nat} (T : Tv tk pl nt) (hN : 40000 < N) (hN1 : 12002 < N1) (hN0 : 12002 < N0) (hS : CS tk pl vl wi nm nt ex N fd lit lc c) (hl : ∀ i, tk i = 402 → vl i < 2 ^ wi i ∧ 1 ≤ wi i ∧ wi i ≤ 64) (hn : ∀ i q, nm i = some q → 1 ≤ q.2 ∧ q.2 ≤ 64) (h0 : σ.2.2.1 = 0) (hG : CG tk pl nt ex c σ) (h6 : c.1 264 0 = 6) (hh : c.1 275 0 = nI 0) (hs : (∀ fp, μ = some fp → Off c fp.1 fp.2) ∧ (μ = none → Xc c 0 sz C ∧ sz ≤ σ.1)) : ∃ σ', gE tk pl N1 σ = some σ' ∧ (DeadP tk pl nt ex N c σ σ' ∨ (∃ k c', Rc N k c c' ∧ k + 1 ≤ 3 * (σ'.1 - σ.1) ∧ c'.1 264 0 = 8 ∧ CE c c' ∧ CG tk pl nt ex c' σ' ∧ σ'.2.2.1 = 0 ∧ σ'.2.1 = σ.2.1 ∧ σ.1 < σ'.1 ∧ OutE nm fd lit lc c c' μ sz C σ.1 σ'.1 (eF tk pl vl wi nm nt N0 σ.1))) := by
  obtain ⟨σ', g1, g2⟩ := exp_C (N0 := N0) (N1 := N1) (c := c) (σ := σ) (h := 0) (μ := μ) (T := 0) (sz := sz) (C0 := C) T (by omega) hN1 hN0 h0 hS hG h6 hh (by omega) (Or.inl rfl) ⟨hs.1, fun z => ⟨(hs.2 z).1, by omega, (hs.2 z).2⟩⟩
  refine ⟨σ', g1, g2.imp (fun z => z) (fun ep => ?_)⟩
  obtain ⟨k, c1, c2, f, q1, q2, q3, q4, q5, q6, q7, q8, q9, q10, q11, q12, q13, q14, q15, q16⟩ := ep
  have d60 : σ.2.1 ≤ 60 := (hG.2.2.2.1 h0).2.2.2.2.2.2
  obtain ⟨f, rfl⟩ : ∃ f', f = f' + 1 := ⟨f - 1, by omega⟩
  have hmv : mv N c1 = some ((), upI c2 264 (fun _ => 8)) := by
    rw [q5]
    show bd_Grammar_behindOperand_Gr_100 N (hd_Grammar_behindOperand_Gr_100 N f) c2 = _
    unfold bd_Grammar_behindOperand_Gr_100 bk_Grammar_behindOperand_Gr_159
    rw [q8.1, if_pos (show nI 0 ≤ 0 by decide), if_pos (show nI 0 = 0 from rfl)]
  have ek : Eb [264] [] c2 (upI c2 264 (fun _ => 8)) := Eb.rfl.upI (by decide)
  refine ⟨k + 1, upI c2 264 (fun _ => 8), q1.trans (Rc.one q3 (by rw [q4]; decide) hmv), by omega, rfl, q9.upI (by decide), q10.upI (by decide), q11, q12, q13, fun fp z => (q16.1 fp z).mono ek (by decide) (by decide), fun z => ?_⟩
  obtain ⟨q, w1, w2, w3⟩ := q16.2 z
  match q, w1, w2, w3 with
  | .inl (f, p), w1, w2, _ =>
    refine ⟨.inl (f, p), by unfold eF; rw [w1], fun f' p' y => (by cases y; exact (w2 f p rfl).mono ek (by decide) (by decide)), fun _ _ _ _ y => (by cases y)⟩
  | .inr (w, t', L, C2), w1, _, w3 =>
    obtain ⟨x1, x2, x3, x4, x5⟩ := w3 _ _ _ _ rfl
    obtain ⟨y1, y2, y3, y4, y5, y6⟩ := x5
    have y6' : Hk 900 L 0 1 := by simpa using y6
    have ty := (eG_ty (pl := pl) (nt := nt) (N0 := N0) hl hn 400).1 σ.1 w t' L C2 w1
    refine ⟨.inr (w, t', L, C2), by unfold eF; rw [w1]; exact if_pos (hkB_iff.mpr y6'), fun _ _ y => (by cases y), fun _ _ _ _ y => ?_⟩
    cases y
    refine ⟨x1, y1, ?_, x3, x4, x2, y4, y5, y6', ty.2.2⟩
    have y2' := y2.1
    show c2.1 238 0 = nI w
    simpa using y2'
/-- names from what stands there -/
theorem CS_no (hK : KS tk pl vl wi wd nt ex nw lit lc c) (h : NO nw c) : ∃ nm fd dc, CS tk pl vl wi nm nt ex N fd lit lc c ∧ c.1 321 0 = nI dc ∧ dc < 10923 ∧ (∀ i q, nm i = some q → q.1 < dc ∧ 1 ≤ q.2 ∧ q.2 ≤ 64) ∧ (∀ c', Eb [213, 214, 215, 216, 217, 218, 219, 238, 239, 240, 241, 242, 243, 249, 250, 251, 255, 256, 257, 258, 259, 260, 264, 265, 266, 268, 269, 270, 271, 272, 273, 274, 275, 326, 337] [336] c c' → CS tk pl vl wi nm nt ex N fd lit lc c') := by
  obtain ⟨fd, dc, h1, h2, h3, h4⟩ := h
  have ch : ∀ i : Nat, ∃ o : Option (Nat × Nat), (∀ q, o = some q → c.1 324 q.1 ≠ -1 ∧ c.1 236 (wd i) = c.1 232 0 ∧ c.1 235 (wd i) = nI q.1 ∧ fd ≤ q.1 ∧ q.1 < dc ∧ c.1 323 q.1 = nI q.2 ∧ 1 ≤ q.2 ∧ q.2 ≤ 64) ∧ (o = none → wd i < nw → c.1 236 (wd i) = c.1 232 0 → ¬ 0 ≤ c.1 235 (wd i) ∨ ∃ d, c.1 235 (wd i) = nI d ∧ d < dc ∧ c.1 324 d = -1) := fun i => by
    by_cases z : wd i < nw ∧ c.1 236 (wd i) = c.1 232 0
    · rcases h4 (wd i) z.1 z.2 with y | ⟨d, v, y1, y2, y3, y4, y5, y6⟩
      · exact ⟨none, fun q e => (by cases e), fun _ _ _ => Or.inl y⟩
      · by_cases z2 : c.1 324 d = -1
        · exact ⟨none, fun q e => (by cases e), fun _ _ _ => Or.inr ⟨d, y1, y3, z2⟩⟩
        · exact ⟨some (d, v), fun q e => (by cases e; exact ⟨z2, z.2, y1, y2, y3, y4, y5, y6⟩), fun e => (by cases e)⟩
    · exact ⟨none, fun q e => (by cases e), fun _ a b => absurd ⟨a, b⟩ z⟩
  obtain ⟨nm, hnm⟩ := Classical.axiomOfChoice ch
  obtain ⟨k1, k2, k3, k4, k5, k6, k7, k8⟩ := hK
  have all : ∀ c', Eb [213, 214, 215, 216, 217, 218, 219, 238, 239, 240, 241, 242, 243, 249, 250, 251, 255, 256, 257, 258, 259, 260, 264, 265, 266, 268, 269, 270, 271, 272, 273, 274, 275, 326, 337] [336] c c' → CS tk pl vl wi nm nt ex N fd lit lc c' := by
    intro c1 e
    refine ⟨⟨by rw [e.1 212 (by decide)]; exact k1.1, by rw [e.2 211 (by decide)]; exact k1.2⟩, by rw [e.1 340 (by decide)]; exact k2, k3, by rw [e.1 233 (by decide)]; exact h1, by rw [e.2 339 (by decide)]; exact k4, k5, by rw [e.1 338 (by decide)]; exact k6, fun i hi k => ?_⟩
    obtain ⟨x1, x2⟩ := k7 i hi k
    obtain ⟨n1, n2⟩ := hnm i
    refine ⟨wd i, x1, fun c2 e2 => ?_⟩
    rw [meantBy_eq (by omega), e2.1 236 (by decide), e2.1 232 (by decide), e2.1 235 (by decide), e.1 236 (by decide), e.1 232 (by decide), e.1 235 (by decide)]
    have so : ∀ d, d < dc → fn_Checker_sortOf_Ch N (nI d) c2 = some (c.1 324 d, c2) := fun d hd => by
      rw [sortOf_at (dc := dc) (by rw [e2.1 321 (by decide), e.1 321 (by decide)]; exact h2) hd h3, e2.1 324 (by decide), e.1 324 (by decide)]
    refine ⟨_, rfl, fun q hq => ?_, fun hq => ?_, fun q hq => ?_⟩
    · obtain ⟨-, y1, y2, y3, y4, y5, y6, y7⟩ := n1 q hq
      rw [if_pos y1]
      exact ⟨y2, by omega, by rw [e.1 323 (by decide)]; exact y5, y3, y6, y7⟩
    · by_cases z : c.1 236 (wd i) = c.1 232 0
      · rw [if_pos z]
        rcases n2 hq x2 z with y | ⟨d, d1, d2, d3⟩
        · exact sortOf_neg y
        · rw [d1, so d d2, d3]
      · rw [if_neg z]; exact sortOf_neg (by decide)
    · obtain ⟨y0, y1, y2, y3, y4, -⟩ := n1 q hq
      rw [if_pos y1, y2]
      exact ⟨_, so _ y4, y0⟩
  exact ⟨nm, fd, dc, all c Eb.rfl, h2, h3, fun i q hq => ⟨((hnm i).1 q hq).2.2.2.2.1, ((hnm i).1 q hq).2.2.2.2.2.2⟩, all⟩
/-- an exp of an item, on or off -/
theorem expM (T : Tv tk pl nt) (hV : Vb tk vl wi) (hN : 40000 < N) (hN1 : 12002 < N1) (hN0 : 12002 < N0) (hK : KS tk pl vl wi wd nt ex nw lit lc c) (h0 : σ.2.2.1 = 0) (hG : CG tk pl nt ex c σ) (h6 : c.1 264 0 = 6) (hh : c.1 275 0 = nI 0) (hW : WF tk nt A t) (ht : t ≤ σ.1) (hs : (∀ fp, μ = some fp → OffN nw c fp.1 fp.2) ∧ (μ = none → Xc c 0 sz C ∧ sz ≤ σ.1 ∧ DC pl wd nw lit lc A I K sz c)) : ∃ σ', gE tk pl N1 σ = some σ' ∧ (DeadP tk pl nt ex N c σ σ' ∨ (∃ k c', Rc N k c c' ∧ k + 1 ≤ 3 * (σ'.1 - σ.1) ∧ c'.1 264 0 = 8 ∧ CE c c' ∧ CG tk pl nt ex c' σ' ∧ σ'.2.2.1 = 0 ∧ σ'.2.1 = σ.2.1 ∧ σ.1 < σ'.1 ∧ (∀ fp, μ = some fp → OffN nw c' fp.1 fp.2) ∧ (μ = none → ∃ q, (σ'.1 + 1 < nt → dX tk pl vl wi wd nt N0 A σ.1 = some q) ∧ (∀ f p, q = .inl (f, p) → OffN nw c' f p) ∧ (∀ w t' L C2, q = .inr (w, t', L, C2) → t' = σ'.1 ∧ Xc c' 1 (sz + L.length) (C + C2) ∧ c'.1 238 0 = nI w ∧ 1 ≤ w ∧ w ≤ 64 ∧ σ.1 + L.length ≤ σ'.1 ∧ (∀ k, k < sz → c'.2 336 k = c.2 336 k) ∧ cEnc (c'.2 336) (A.1 21 (A.1 46 0)) lit lc sz L ∧ DC pl wd nw lit lc A I K sz c')))) := by
  have hnt := T.2.1
  have tn := hG.2.1
  cases hμ : μ with
  | some fp =>
    have o := hs.1 fp hμ
    obtain ⟨nm, fd, dc, s1, s2, s3, s4, -⟩ := CS_no (N := N) hK o.2
    obtain ⟨σ', g1, g2⟩ := expS2 (N0 := N0) (N1 := N1) (μ := some fp) (sz := 0) (C := 0) T hN hN1 hN0 s1 (fun i hi => (hV i).2 hi) (fun i q hq => (s4 i q hq).2) h0 hG h6 hh ⟨fun q z => (by cases z; exact o.1), fun z => (by cases z)⟩
    refine ⟨σ', g1, g2.imp (fun z => z) (fun ⟨k, c', q1, q2, q3, q4, q5, q6, q7, q8, q9⟩ => ⟨k, c', q1, q2, q3, q4, q5, q6, q7, q8, fun q z => ?_, fun z => (by cases z)⟩)⟩
    cases z
    exact ⟨q9.1 fp rfl, o.2.keep q4 (by decide)⟩
  | none =>
    obtain ⟨X, x2, x3⟩ := hs.2 hμ
    have s1 : CS tk pl vl wi (dNm wd A) nt ex N (A.1 21 (A.1 46 0)) lit lc c := CS_of hnt hK hW (by omega) x3 Eb.rfl
    obtain ⟨σ', g1, g2⟩ := expS2 (N0 := N0) (N1 := N1) (μ := none) (sz := sz) (C := C) T hN hN1 hN0 s1 (fun i hi => (hV i).2 hi) (dNm_w hW) h0 hG h6 hh ⟨fun q z => (by cases z), fun _ => ⟨X, x2⟩⟩
    refine ⟨σ', g1, g2.imp (fun z => z) (fun ⟨k, c', q1, q2, q3, q4, q5, q6, q7, q8, q9⟩ => ⟨k, c', q1, q2, q3, q4, q5, q6, q7, q8, fun q z => (by cases z), fun _ => ?_⟩)⟩
    obtain ⟨q, w1, w2, w3⟩ := q9.2 rfl
    refine ⟨q, fun tn1 => ?_, fun f p y => ⟨w2 f p y, (x3.no hnt hW (by omega)).keep q4 (by decide)⟩, fun w t' L C2 y => ?_⟩
    · unfold dX
      rw [w1]
      cases q with
      | inl fp => rfl
      | inr q =>
        obtain ⟨w, t', L, C2⟩ := q
        obtain ⟨y1, y2, y3, y4, y5, -⟩ := w3 _ _ _ _ rfl
        dsimp only
        rw [if_neg (by omega)]
    · obtain ⟨y1, y2, y3, y4, y5, y6, y7, y8, y9, y10⟩ := w3 _ _ _ _ y
      exact ⟨y1, y2, y3, y4, y5, y6, y7, y8, x3.keep q4 (by decide) (by decide) y7 (Nat.le_refl _)⟩
end CEXM
