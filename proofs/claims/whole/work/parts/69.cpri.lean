/-! The class's primaries. -/
section CPRI
variable {tk pl vl wi : Nat → Nat} {nm : Nat → Option (Nat × Nat)} {nt : Nat} {ex : Nat → Int32} {N N0 N1 fd lc : Nat} {lit : Nat → Int64}
theorem kpos {c : ms} {σ : gs} {k : Nat} (h : CG tk pl nt ex c σ) (h0 : σ.2.2.1 = 0) (hk : tk σ.1 = k) : c.1 214 0 = nI (kap k) := by rw [← hk]; exact (h.2.2.2.1 h0).2.1
theorem kneg {c : ms} {σ : gs} {k : Nat} (T : Tv tk pl nt) (h : CG tk pl nt ex c σ) (hv : vk k = true) (hk : σ.2.2.1 = 0 → tk σ.1 ≠ k) : ¬ c.1 214 0 = nI (kap k) := fun z => by
  have := (kkind T h k hv).mp z
  simp only [gIs, decide_eq_true_eq] at this
  exact hk this.1 this.2
theorem mv6 {c : ms} (h : c.1 264 0 = 6) : mv N c = fn_Grammar_operand_Gr N c := by
  unfold mv
  rw [h, if_neg (by decide), if_neg (by decide), if_neg (by decide), if_neg (by decide), if_neg (by decide), if_neg (by decide), if_pos rfl]
theorem mv7 {c : ms} (h : c.1 264 0 = 7) : mv N c = fn_Grammar_behindOperand_Gr N c := by
  unfold mv
  rw [h, if_neg (by decide), if_neg (by decide), if_neg (by decide), if_neg (by decide), if_neg (by decide), if_neg (by decide), if_neg (by decide), if_pos rfl]
theorem hd100_stop {c : ms} {f h : Nat} (hh : h < 1000) (h1 : c.1 275 0 = nI (h + 1)) (h2 : ¬ c.1 272 h = 58) : hd_Grammar_behindOperand_Gr_100 N (f + 1) c = (fn_Grammar_close_Gr N (nI h) c).bind (fun q_1 => some ((), q_1.2)) := by
  show bd_Grammar_behindOperand_Gr_100 N (hd_Grammar_behindOperand_Gr_100 N f) c = _
  unfold bd_Grammar_behindOperand_Gr_100 bk_Grammar_behindOperand_Gr_159
  rw [h1, if_neg (nI_nle (by omega) (by omega)), nI_pred, if_neg (nI_in (show h < 1024 by omega) (by decide)), nI_clamp (by omega), if_neg h2, if_neg (show ¬ nI (h + 1) = 0 from nI_ne0 (by omega) (by omega))]
theorem Outc.mono {c0 c c' : ms} {μ : Option (Nat × Nat)} {T sz C0 t t2 : Nat} {r : xr} {ks js : List Nat} (h : Outc fd lit lc c0 c μ T sz C0 t t2 r) (e : Eb ks js c c') (hk : 242 ∉ ks ∧ 239 ∉ ks ∧ 337 ∉ ks ∧ 241 ∉ ks) (hk2 : 238 ∉ ks) (hk3 : 243 ∉ ks) (hj : 336 ∉ js) (h2 : c'.1 217 0 = nI 0) : Outc fd lit lc c0 c' μ T sz C0 t t2 r := by
  refine ⟨fun fp z => (h.1 fp z).mono e hk.1 hk3, fun z => ?_⟩
  obtain ⟨q, q1, q2, q3⟩ := h.2 z
  refine ⟨q, q1, fun f p e2 => (q2 f p e2).mono e hk.1 hk3, fun w t' L C e2 => ?_⟩
  obtain ⟨a1, a2, a3, a4, a5⟩ := q3 w t' L C e2
  exact ⟨a1, a2, a3, a4, a5.mono e hk hk2 hj h2⟩
/-- a dead end after one move -/
theorem DeadP.one {c c' : ms} {σ σ' : gs} (h0 : c.1 217 0 = 0) (h1 : ¬ c.1 264 0 = 9) (hm : mv N c = some ((), c')) (hd : σ'.2.2.1 ≠ 0) (hl : σ.1 ≤ σ'.1) (hG : CG tk pl nt ex c' σ') : DeadP tk pl nt ex N c σ σ' := ⟨hd, hl, 1, c', Rc.one h0 h1 hm, by omega, hG⟩
theorem DeadP.after {c c1 : ms} {σ σ1 σ' : gs} {k : Nat} (h : DeadP tk pl nt ex N c1 σ1 σ') (r : Rc N k c c1) (hk : k ≤ 3 * (σ1.1 - σ.1)) (hl : σ.1 ≤ σ1.1) : DeadP tk pl nt ex N c σ σ' := by
  obtain ⟨a1, a2, j, c', a3, a4, a5⟩ := h
  exact ⟨a1, by omega, k + j, c', r.trans a3, by omega, a5⟩
/-- SIZED -/
theorem pri_lit {c : ms} {σ : gs} {h T sz C0 b : Nat} {μ : Option (Nat × Nat)} (Tk : Tv tk pl nt) (h0 : σ.2.2.1 = 0) (hS : CS tk pl vl wi nm nt ex N fd lit lc c) (hG : CG tk pl nt ex c σ) (h6 : c.1 264 0 = 6) (hh : c.1 275 0 = nI h) (hs : Stat c μ T sz C0 b σ.1) (hb : b < 850) (hk : tk σ.1 = 402) : PriPost tk pl nt ex N fd lit lc c σ (gInc σ) h μ T sz C0 (xok (wi σ.1) (σ.1 + 1) [(0, vl σ.1, 0)] 0) := by
  have l1 := Tk.2.1
  have t1n := Tk.more hG.2.1 hk (by decide) (by decide)
  obtain ⟨l, e1, e2, e3, e4, e5, e6⟩ := hS.2.2.2.2.2.2.1 _ hG.2.1 hk
  have k16 : c.1 216 0 = nI l := by rw [(hG.2.2.2.1 h0).2.2.2.1]; exact e1
  -- the literal
  have lit1 : ∃ c1, fn_Checker_literal_Ch N (nI l) c = some ((), c1) ∧ XE c c1 ∧ Outc fd lit lc c c1 μ T sz C0 σ.1 (σ.1 + 1) (xok (wi σ.1) (σ.1 + 1) [(0, vl σ.1, 0)] 0) := by
    cases μ with
    | some fp => exact ⟨c, off_literal (hs.1 fp rfl).off, Eb.rfl, fun q z => hs.1 q z, fun z => by cases z⟩
    | none =>
      obtain ⟨x1, x2, x3⟩ := hs.2 rfl
      obtain ⟨c1, a1, a2, a3⟩ := (MO.start (fd := fd) (lit := lit) (lc := lc) x1).litr (N := N) (li := l) (w := wi σ.1) (v := vl σ.1) (by simp; omega) (by simp; have := hG.2.1; omega) e2 hS.2.2.1 hS.2.1 e3 e4 e5 e6
      refine ⟨c1, a1, a3, fun q z => (by cases z), fun _ => ⟨_, rfl, fun f p z => (by cases z), fun w t' L C z => ?_⟩⟩
      cases z
      exact ⟨rfl, by simp, e4, e5, a2⟩
  obtain ⟨c1, a1, a2, a3⟩ := lit1
  have hG1 : CG tk pl nt ex c1 σ := hG.mono a2 (fun k _ _ => by simp; omega) (by decide)
  obtain ⟨c2, b1, b2, b3⟩ := ktake (N := N) Tk hG1 (fun _ => t1n)
  rw [if_pos h0] at b2
  have hm : mv N c = some ((), upI c2 264 (fun _ => 7)) := by
    rw [mv6 h6]
    unfold fn_Grammar_operand_Gr
    rw [if_neg (show ¬ c.1 214 0 = 2 from kneg (k := 400) Tk hG (by decide) (fun _ => by omega)), if_pos (show c.1 214 0 = 4 from kpos (k := 402) hG h0 hk), k16, a1, obind]
    dsimp only
    rw [b1, obind]
  have e : CE c (upI c2 264 (fun _ => 7)) := ((a2.mono (by decide) (by decide)).trans (b3.mono (by decide) (by decide))).upI (by decide)
  refine ⟨1, upI c2 264 (fun _ => 7), Rc.one (hG.alive h0) (by rw [h6]; decide) hm, by show 1 + 2 ≤ 3 * (σ.1 + 1 - σ.1); omega, rfl, ⟨?_, fun k hk => ⟨?_, ?_, ?_⟩⟩, e, b2.upI (by decide), h0, rfl, by show σ.1 < σ.1 + 1; omega, ?_⟩
  · show c2.1 275 0 = nI h
    rw [b3.1 275 (by decide), a2.1 275 (by decide)]; exact hh
  · show c2.1 272 k = _
    rw [b3.1 272 (by decide), a2.1 272 (by decide)]
  · show c2.1 273 k = _
    rw [b3.1 273 (by decide), a2.1 273 (by decide)]
  · show c2.1 274 k = _
    rw [b3.1 274 (by decide), a2.1 274 (by decide)]
  · exact a3.mono (ks := [213, 214, 215, 216, 217, 218, 219, 264]) (js := []) ((b3.mono (by decide) (by decide)).upI (by decide)) (by decide) (by decide) (by decide) (by decide) (b2.alive h0)
/-- ( exp ) -/
theorem pri_par {m : Nat} {c : ms} {σ : gs} {h T sz C0 D E : Nat} {μ : Option (Nat × Nat)} (Tk : Tv tk pl nt) (hE : ExpC tk pl vl wi nm nt ex N N0 N1 fd lit lc m) (hN : 100 < N) (hN1 : 0 < N1) (hD : 3 * m + 2 ≤ D) (hE2 : 5 * m ≤ E) (hm : σ.2.1 + m + 1 = 61) (h0 : σ.2.2.1 = 0) (hS : CS tk pl vl wi nm nt ex N fd lit lc c) (hG : CG tk pl nt ex c σ) (h6 : c.1 264 0 = 6) (hh : c.1 275 0 = nI h) (hh2 : h ≤ 12 * σ.2.1 + 11) (hs : Stat c μ T sz C0 (12 * σ.2.1 + 11) σ.1) (hk : tk σ.1 = 40) : ∃ σ', ((gG tk pl N1 D).1 (gOpen tk pl 40 σ)).bind (fun σ => gShut tk pl 41 σ) = some σ' ∧ (DeadP tk pl nt ex N c σ σ' ∨ PriPost tk pl nt ex N fd lit lc c σ σ' h μ T sz C0 (xb ((eG tk pl vl wi nm nt N0 E).1 (σ.1 + 1)) (fun w t2 L C => xok w (t2 + 1) L C))) := by
  have d60 : σ.2.1 ≤ 60 := (hG.2.2.2.1 h0).2.2.2.2.2.2
  have p15 : c.1 215 0 = nI (pl σ.1) := (hG.2.2.2.1 h0).2.2.1
  obtain ⟨c1, a1, a2, a3, a4, a5, a6⟩ := hold_C (N := N) (v1 := 40) (v2 := nI (pl σ.1)) (v3 := 0) hh (by omega)
  have hG1 : CG tk pl nt ex c1 σ := hG.mono a6 (fun k _ _ => by simp; omega) (by decide)
  obtain ⟨c2, b1, b2, b3⟩ := kopen (N := N) Tk 40 (by decide) hG1
  have hmv : mv N c = some ((), c2) := by
    rw [mv6 h6]
    unfold fn_Grammar_operand_Gr
    rw [if_neg (show ¬ c.1 214 0 = 2 from kneg (k := 400) Tk hG (by decide) (fun _ => by omega)), if_neg (show ¬ c.1 214 0 = 4 from kneg (k := 402) Tk hG (by decide) (fun _ => by omega)), if_neg (show ¬ c.1 214 0 = 33 from kneg (k := 33) Tk hG (by decide) (fun _ => by omega)), if_neg (show ¬ c.1 214 0 = 38 from kneg (k := 38) Tk hG (by decide) (fun _ => by omega)), if_pos (show c.1 214 0 = 40 from kpos (k := 40) hG h0 hk), p15, a1, obind]
    dsimp only
    rw [show fn_Tokens_open_Tk N 40 c1 = some ((), c2) from b1, obind]
  have r1 : Rc N 1 c c2 := Rc.one (hG.alive h0) (by rw [h6]; decide) hmv
  rw [gOpen_live h0 hk] at b2 ⊢
  by_cases o : 60 ≤ σ.2.1
  · rw [if_pos o] at b2 ⊢
    have dd : ((σ.1, σ.2.1, 3, pl σ.1) : gs).2.2.1 ≠ 0 := by simp
    rw [gE_dead2 dd hN1 (by omega)]
    refine ⟨(σ.1, σ.2.1, 3, pl σ.1), gShut_dead dd 41, Or.inl (DeadP.one (hG.alive h0) (by rw [h6]; decide) hmv dd (Nat.le_refl _) b2)⟩
  · rw [if_neg o] at b2 ⊢
    have e1 : CE c c2 := (a6.mono (by decide) (by decide)).trans (b3.mono (by decide) (by decide))
    have h6' : c2.1 264 0 = 6 := by rw [b3.1 264 (by decide), a6.1 264 (by decide)]; exact h6
    have hh' : c2.1 275 0 = nI (h + 1) := by rw [b3.1 275 (by decide)]; exact a2
    have k40 : c2.1 272 h = 40 := by rw [b3.1 272 (by decide), a3, upd_at]
    have hs' : Stat c2 μ T sz C0 (12 * (σ.2.1 + 1)) (σ.1 + 1) := by
      refine ⟨fun fp z => ((hs.1 fp z).mono a6 (by decide) (by decide)).mono b3 (by decide) (by decide), fun z => ?_⟩
      obtain ⟨x1, x2, x3⟩ := hs.2 z
      exact ⟨x1.mono (ks := [213, 214, 215, 216, 217, 218, 219, 272, 273, 274, 275]) (js := []) ((a6.mono (by decide) (by decide)).trans (b3.mono (by decide) (by decide))) (by decide) (b2.alive h0), by omega, by omega⟩
    obtain ⟨σ2, g1, g2⟩ := hE D E c2 (σ.1 + 1, σ.2.1 + 1, σ.2.2) (h + 1) μ T sz C0 hD hE2 (by show σ.2.1 + 1 + m = 61; omega) h0 (hS.mono e1) b2 h6' hh' (by show h + 1 ≤ 12 * (σ.2.1 + 1); omega) (Or.inr (by rw [Nat.add_sub_cancel, k40]; decide)) hs'
    rw [g1]
    show ∃ σ', gShut tk pl 41 σ2 = some σ' ∧ _
    rcases g2 with dd | ep
    · refine ⟨σ2, gShut_dead dd.1 41, Or.inl (dd.after r1 (by show 1 ≤ 3 * (σ.1 + 1 - σ.1); omega) (by show σ.1 ≤ σ.1 + 1; omega))⟩
    · obtain ⟨k, c3, c4, f, q1, q2, q3, q4, q5, q6, q7, q8, q9, q10, q11, q12, q13, q14, q15, q16⟩ := ep
      dsimp only at q2 q6 q12 q13
      obtain ⟨f, rfl⟩ : ∃ f', f = f' + 1 := ⟨f - 1, by omega⟩
      have k40' : c4.1 272 h = 40 := by rw [(q8.2 h (by omega)).1]; exact k40
      have cl : ∀ c5, fn_Tokens_shut_Tk N 41 c4 = some ((), c5) → mv N c3 = some ((), upI c5 275 (fun _ => c5.1 275 0 - 1)) := by
        intro c5 e5
        rw [q5, hd100_stop (h := h) (by omega) q8.1 (by rw [k40']; decide)]
        unfold fn_Grammar_close_Gr
        rw [if_neg (nI_in (show h < 1024 by omega) (by decide)), nI_clamp (by omega), k40', if_pos rfl, e5, obind, obind]
      rcases gShut_cases (pl := pl) 41 σ2 q11 (by omega) with ⟨s1, s2⟩ | ⟨s1, σ3, s2, s3, s4⟩
      · refine ⟨_, s2, Or.inr ?_⟩
        obtain ⟨c5, t1, t2, t3⟩ := kshut (N := N) Tk 41 (by decide) q10 s2
        have r2 : Rc N 1 c3 _ := Rc.one q3 (by rw [q4]; decide) (cl c5 t1)
        refine ⟨1 + k + 1, _, (r1.trans q1).trans r2, by show 1 + k + 1 + 2 ≤ 3 * (σ2.1 + 1 - σ.1); omega, by show c5.1 264 0 = 7; rw [t3.1 264 (by decide)]; exact q7, ⟨?_, fun j hj => ⟨?_, ?_, ?_⟩⟩, ((e1.trans q9).trans (t3.mono (by decide) (by decide))).upI (by decide), t2.upI (by decide), q11, by show σ2.2.1 - 1 = σ.2.1; omega, by show σ.1 < σ2.1 + 1; omega, ?_⟩
        · show c5.1 275 0 - 1 = nI h
          rw [t3.1 275 (by decide), q8.1, nI_pred]
        · show c5.1 272 j = _
          rw [t3.1 272 (by decide), (q8.2 j (by omega)).1, b3.1 272 (by decide), a3, upd_ne (by omega)]
        · show c5.1 273 j = _
          rw [t3.1 273 (by decide), (q8.2 j (by omega)).2.1, b3.1 273 (by decide), a4, upd_ne (by omega)]
        · show c5.1 274 j = _
          rw [t3.1 274 (by decide), (q8.2 j (by omega)).2.2, b3.1 274 (by decide), a5, upd_ne (by omega)]
        · have ek : Eb [213, 214, 215, 216, 217, 218, 219, 275] [] c4 (upI c5 275 (fun _ => c5.1 275 0 - 1)) := (t3.mono (by decide) (by decide)).upI (by decide)
          refine ⟨fun fp z => (q16.1 fp z).mono ek (by decide) (by decide), fun z => ?_⟩
          obtain ⟨q, w1, w2, w3⟩ := q16.2 z
          match q, w1, w2, w3 with
          | .inl (f, p), w1, w2, w3 =>
            refine ⟨_, by rw [w1]; rfl, fun f' p' e' => ?_, fun _ _ _ _ e' => (by cases e')⟩
            cases e'
            exact (w2 f p rfl).mono ek (by decide) (by decide)
          | .inr (w, t', L, C), w1, w2, w3 =>
            obtain ⟨v1, v2, v3, v4, v5⟩ := w3 _ _ _ _ rfl
            refine ⟨_, by rw [w1]; rfl, fun f' p' e' => (by cases e'), fun _ _ _ _ e' => ?_⟩
            cases e'
            dsimp only at v1 v2
            refine ⟨by rw [v1], by show σ.1 + L.length ≤ σ2.1 + 1; omega, v3, v4, ?_⟩
            have v6 := v5.mono (c' := upI c5 275 (fun _ => c5.1 275 0 - 1)) ek (by decide) (by decide) (by decide) (t2.alive q11)
            obtain ⟨y1, y2, y3, y4, y5⟩ := v6
            have z1 : ∀ k, c2.1 238 k = c.1 238 k := fun k => by rw [b3.1 238 (by decide), a6.1 238 (by decide)]
            have z2 : ∀ k, c2.2 336 k = c.2 336 k := fun k => by rw [b3.2 336 (by decide), a6.2 336 (by decide)]
            exact ⟨y1, y2, fun k hk => by rw [y3 k hk, z1], fun k hk => by rw [y4 k hk, z2], y5⟩
      · refine ⟨σ3, s2, Or.inl ?_⟩
        obtain ⟨c5, t1, t2, t3⟩ := kshut (N := N) Tk 41 (by decide) q10 s2
        have r2 : Rc N 1 c3 _ := Rc.one q3 (by rw [q4]; decide) (cl c5 t1)
        exact ⟨s3, by omega, 1 + k + 1, _, (r1.trans q1).trans r2, by omega, t2.upI (by decide)⟩
end CPRI
