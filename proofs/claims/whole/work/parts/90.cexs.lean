/-! The class's exps within statements. -/
abbrev CE2 (c c' : ms) : Prop := Eb [213, 214, 215, 216, 217, 218, 219, 238, 239, 240, 241, 242, 243, 249, 250, 251, 255, 256, 257, 258, 259, 260, 264, 265, 266, 268, 269, 270, 271, 272, 273, 274, 275, 326, 337] [336] c c'
theorem CE.toCE2 {c c' : ms} (h : CE c c') : CE2 c c' := h.mono (by decide) (by decide)
/-- what the class's statements stand on -/
def CQ (tk pl vl wi : Nat → Nat) (nm : Nat → Option (Nat × Nat)) (nt : Nat) (ex : Nat → Int32) (N N0 N1 fd : Nat) (lit : Nat → Int64) (lc : Nat) (rg : Nat → Bool) (an dc : Nat) (P : Nat → Prop) (c0 : ms) : Prop :=
  Tv tk pl nt ∧ 40000 < N ∧ 12002 < N1 ∧ 12002 < N0 ∧ (∀ c', CE2 c0 c' → CS tk pl vl wi nm nt ex N fd lit lc c') ∧ (∀ i, tk i = 402 → vl i < 2 ^ wi i ∧ 1 ≤ wi i ∧ wi i ≤ 64) ∧ (∀ i q, nm i = some q → q.1 < dc ∧ P q.1 ∧ 1 ≤ q.2 ∧ q.2 ≤ 64 ∧ (rg q.1 = true ↔ c0.1 324 q.1 = 2)) ∧ c0.1 321 0 = nI dc ∧ dc < 10923 ∧ (rg 99999 = true → c0.1 253 0 = nI an ∧ 1 ≤ an ∧ an ≤ 20000)
section CEXS
variable {tk pl vl wi : Nat → Nat} {nm : Nat → Option (Nat × Nat)} {nt : Nat} {ex : Nat → Int32} {N N0 N1 fd lc : Nat} {lit : Nat → Int64} {rg : Nat → Bool} {an dc : Nat} {P : Nat → Prop} {c0 : ms}
/-- the checker behind an exp of a statement -/
def OutE (nm : Nat → Option (Nat × Nat)) (fd : Nat) (lit : Nat → Int64) (lc : Nat) (c c' : ms) (μ : Option (Nat × Nat)) (sz C t t2 : Nat) (r : xr) : Prop :=
  (∀ fp, μ = some fp → Off c' fp.1 fp.2) ∧ (μ = none → ∃ q, r = some q ∧ (∀ f p, q = .inl (f, p) → Off c' f p) ∧ (∀ w t' L C2, q = .inr (w, t', L, C2) → t' = t2 ∧ Xc c' 1 (sz + L.length) (C + C2) ∧ c'.1 238 0 = nI w ∧ 1 ≤ w ∧ w ≤ 64 ∧ t + L.length ≤ t2 ∧ (∀ k, k < sz → c'.2 336 k = c.2 336 k) ∧ cEnc (c'.2 336) fd lit lc sz L ∧ Hk 900 L 0 1 ∧ Ty nm L [] [w]))
theorem expS {c : ms} {σ : gs} {sz C : Nat} {μ : Option (Nat × Nat)} (hQ : CQ tk pl vl wi nm nt ex N N0 N1 fd lit lc rg an dc P c0) (e : CE2 c0 c) (h0 : σ.2.2.1 = 0) (hG : CG tk pl nt ex c σ) (h6 : c.1 264 0 = 6) (hh : c.1 275 0 = nI 0) (hs : (∀ fp, μ = some fp → Off c fp.1 fp.2) ∧ (μ = none → Xc c 0 sz C ∧ sz ≤ σ.1)) : ∃ σ', gE tk pl N1 σ = some σ' ∧ (DeadP tk pl nt ex N c σ σ' ∨ (∃ k c', Rc N k c c' ∧ k + 1 ≤ 3 * (σ'.1 - σ.1) ∧ c'.1 264 0 = 8 ∧ CE c c' ∧ CG tk pl nt ex c' σ' ∧ σ'.2.2.1 = 0 ∧ σ'.2.1 = σ.2.1 ∧ σ.1 < σ'.1 ∧ OutE nm fd lit lc c c' μ sz C σ.1 σ'.1 (eF tk pl vl wi nm nt N0 σ.1))) := by
  obtain ⟨T, hN, hN1, hN0, hS, hl, hn, -⟩ := hQ
  obtain ⟨σ', g1, g2⟩ := exp_C (N0 := N0) (N1 := N1) (c := c) (σ := σ) (h := 0) (μ := μ) (T := 0) (sz := sz) (C0 := C) T (by omega) hN1 hN0 h0 (hS c e) hG h6 hh (by omega) (Or.inl rfl) ⟨hs.1, fun z => ⟨(hs.2 z).1, by omega, (hs.2 z).2⟩⟩
  refine ⟨σ', g1, g2.imp (fun z => z) (fun ep => ?_)⟩
  obtain ⟨k, c1, c2, f, q1, q2, q3, q4, q5, q6, q7, q8, q9, q10, q11, q12, q13, q14, q15, q16⟩ := ep
  have d60 : σ.2.1 ≤ 60 := (hG.2.2.2.1 h0).2.2.2.2.2.2
  obtain ⟨f, rfl⟩ : ∃ f', f = f' + 1 := ⟨f - 1, by omega⟩
  have hmv : mv N c1 = some ((), upI c2 264 (fun _ => 8)) := by
    rw [q5]
    show bd_Grammar_behindOperand_Gr_100 N (hd_Grammar_behindOperand_Gr_100 N f) c2 = _
    unfold bd_Grammar_behindOperand_Gr_100 bk_Grammar_behindOperand_Gr_159
    rw [q8.1, if_pos (show nI 0 ≤ 0 by decide), if_pos (show nI 0 = 0 from rfl)]
  have ek : Eb [264] [] c2 (upI c2 264 (fun _ => 8)) := Eb.rfl.upI (by decide)
  refine ⟨k + 1, upI c2 264 (fun _ => 8), q1.trans (Rc.one q3 (by rw [q4]; decide) hmv), by omega, rfl, q9.upI (by decide), q10.upI (by decide), q11, q12, q13, fun fp z => (q16.1 fp z).mono ek (by decide) (by decide), fun z => ?_⟩
  obtain ⟨q, w1, w2, w3⟩ := q16.2 z
  match q, w1, w2, w3 with
  | .inl (f, p), w1, w2, _ =>
    refine ⟨.inl (f, p), by unfold eF; rw [w1], fun f' p' y => (by cases y; exact (w2 f p rfl).mono ek (by decide) (by decide)), fun _ _ _ _ y => (by cases y)⟩
  | .inr (w, t', L, C2), w1, _, w3 =>
    obtain ⟨x1, x2, x3, x4, x5⟩ := w3 _ _ _ _ rfl
    obtain ⟨y1, y2, y3, y4, y5, y6⟩ := x5
    have y6' : Hk 900 L 0 1 := by simpa using y6
    have ty := (eG_ty (pl := pl) (nt := nt) (N0 := N0) hl (fun i q hq => ⟨(hn i q hq).2.2.1, (hn i q hq).2.2.2.1⟩) 400).1 σ.1 w t' L C2 w1
    refine ⟨.inr (w, t', L, C2), by unfold eF; rw [w1]; exact if_pos (hkB_iff.mpr y6'), fun _ _ y => (by cases y), fun _ _ _ _ y => ?_⟩
    cases y
    refine ⟨x1, y1, ?_, x3, x4, x2, y4, y5, y6', ty.2.2⟩
    have y2' := y2.1
    show c2.1 238 0 = nI w
    simpa using y2'
/-- an exp begins -/
theorem expFor_C {c : ms} {σ : gs} {sz C : Nat} {μ : Option (Nat × Nat)} {x : Int32} (hG : CG tk pl nt ex c σ) (h0 : σ.2.2.1 = 0) (hs : (∀ fp, μ = some fp → Off c fp.1 fp.2) ∧ (μ = none → (∃ T, Xc c T sz C) ∧ sz ≤ σ.1)) : ∃ c', fn_Grammar_expFor_Gr N x c = some ((), c') ∧ c'.1 264 0 = 6 ∧ c'.1 275 0 = nI 0 ∧ c'.1 265 0 = x ∧ CG tk pl nt ex c' σ ∧ Eb [239, 240, 264, 265, 268, 269, 275] [] c c' ∧ (∀ fp, μ = some fp → Off c' fp.1 fp.2) ∧ (μ = none → Xc c' 0 sz C ∧ sz ≤ σ.1) := by
  unfold fn_Grammar_expFor_Gr
  have ek : Eb [265, 268, 269, 275] [] c (upI (upI (upI (upI c 265 (fun _ => x)) 268 (fun _ => c.1 215 0)) 269 (fun _ => c.1 213 0)) 275 (fun _ => 0)) := (((Eb.rfl.upI (by decide)).upI (by decide)).upI (by decide)).upI (by decide)
  cases hμ : μ with
  | some fp =>
    have o := (hs.1 fp hμ).mono ek (by decide) (by decide)
    rw [off_expBegins o.off, obind]
    have ek2 : Eb [239, 240, 264, 265, 268, 269, 275] [] c (upI (upI (upI (upI (upI c 265 (fun _ => x)) 268 (fun _ => c.1 215 0)) 269 (fun _ => c.1 213 0)) 275 (fun _ => 0)) 264 (fun _ => 6)) := (ek.mono (by decide) (by decide)).upI (by decide)
    refine ⟨_, rfl, rfl, rfl, rfl, hG.mono ek2 (fun k _ _ => by simp; omega) (by decide), ek2, fun q z => ?_, fun z => (by cases z)⟩
    cases z
    exact o
  | none =>
    obtain ⟨⟨T, X⟩, hsz⟩ := hs.2 hμ
    have X1 : Xc (upI (upI (upI (upI c 265 (fun _ => x)) 268 (fun _ => c.1 215 0)) 269 (fun _ => c.1 213 0)) 275 (fun _ => 0)) T sz C := X
    unfold fn_Checker_expBegins_Ch
    rw [on_go X1]
    dsimp only
    rw [if_pos rfl, obind]
    obtain ⟨h1, h2, h3, h4, h5, h6, h7⟩ := X
    have ek2 : Eb [239, 240, 264, 265, 268, 269, 275] [] c (upI (upI (upI (upI (upI (upI (upI c 265 (fun _ => x)) 268 (fun _ => c.1 215 0)) 269 (fun _ => c.1 213 0)) 275 (fun _ => 0)) 239 (fun _ => 0)) 240 (fun _ => c.1 337 0)) 264 (fun _ => 6)) := (((ek.mono (by decide) (by decide)).upI (by decide)).upI (by decide)).upI (by decide)
    exact ⟨_, rfl, rfl, rfl, rfl, hG.mono ek2 (fun k _ _ => by simp; omega) (by decide), ek2, fun q z => (by cases z), fun _ => ⟨⟨h1, h2, rfl, by omega, h5, h6, h7⟩, hsz⟩⟩
theorem goOn_C {c : ms} {x : Int32} {kd : Nat} (h : c.1 271 0 = nI (kd + 1)) (hk : kd < 60) : fn_Grammar_goOnIn_Gr N x c = some ((), upI c 270 (upd (c.1 270) kd x)) := by
  unfold fn_Grammar_goOnIn_Gr
  rw [h, if_neg (show ¬ nI (kd + 1) ≤ (0 : Int32) from nI_ge (show 0 < kd + 1 by omega) (by omega)), nI_pred, if_neg (nI_in hk (by decide)), nI_clamp (by omega)]
theorem enter_C {c : ms} {x : Int32} {kd : Nat} (h : c.1 271 0 = nI kd) (hk : kd < 60) : ∃ c', fn_Grammar_enter_Gr N x c = some ((), c') ∧ c'.1 271 0 = nI (kd + 1) ∧ c'.1 270 = upd (c.1 270) kd x ∧ Eb [270, 271] [] c c' := by
  unfold fn_Grammar_enter_Gr
  rw [h, if_pos (show nI kd < 60 from nI_lt (b := 60) hk (by decide)), nI_1, goOn_C (kd := kd) (c := upI c 271 (fun _ => nI (kd + 1))) rfl hk, obind]
  exact ⟨_, rfl, rfl, rfl, (Eb.rfl.upI (by decide)).upI (by decide)⟩
end CEXS
