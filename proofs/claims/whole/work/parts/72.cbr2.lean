/-! The class's braces, from where they begin; all its primaries. -/
section CBR2
variable {tk pl vl wi : Nat → Nat} {nm : Nat → Option (Nat × Nat)} {nt : Nat} {ex : Nat → Int32} {N N0 N1 fd lc : Nat} {lit : Nat → Int64}
theorem pri_br {m : Nat} {c : ms} {σ : gs} {h T sz C0 D E : Nat} {μ : Option (Nat × Nat)} (Tk : Tv tk pl nt) (hE : ExpC tk pl vl wi nm nt ex N N0 N1 fd lit lc m) (hE1 : ∀ m', m = m' + 1 → ExpC tk pl vl wi nm nt ex N N0 N1 fd lit lc m') (hN : 100 < N) (hN1 : 12002 < N1) (hN0 : 12002 < N0) (hD : 3 * m + 2 ≤ D) (hE2 : 5 * m ≤ E) (hm : σ.2.1 + m + 1 = 61) (h0 : σ.2.2.1 = 0) (hS : CS tk pl vl wi nm nt ex N fd lit lc c) (hG : CG tk pl nt ex c σ) (h6 : c.1 264 0 = 6) (hh : c.1 275 0 = nI h) (hh2 : h ≤ 12 * σ.2.1 + 11) (hT : T ≤ 12 * σ.2.1 + 11) (hs : Stat c μ T sz C0 (12 * σ.2.1 + 11) σ.1) (hk : tk σ.1 = 123) : ∃ σ', gB1 tk pl N1 (gG tk pl N1 D).1 σ = some σ' ∧ (DeadP tk pl nt ex N c σ σ' ∨ PriPost tk pl nt ex N fd lit lc c σ σ' h μ T sz C0 (eBr1 tk vl nt N0 (eG tk pl vl wi nm nt N0 E).1 (pl σ.1) (σ.1 + 1))) := by
  have l1 := Tk.2.1
  have d60 : σ.2.1 ≤ 60 := (hG.2.2.2.1 h0).2.2.2.2.2.2
  have p15 : c.1 215 0 = nI (pl σ.1) := (hG.2.2.2.1 h0).2.2.1
  have t1n := Tk.more hG.2.1 hk (by decide) (by decide)
  obtain ⟨c1, a1, a2, a3⟩ := kopen (N := N) Tk 123 (by decide) hG
  have mvs : mv N c = (if (c1.1 214 0) = 3 then ((fn_Grammar_hold_Gr N 202 (nI (pl σ.1)) ((c1.1 216 0)) c1).bind (fun q_3 => (fn_Tokens_take_Tk N q_3.2).bind (fun q_5 => (fn_Tokens_open_Tk N 123 q_5.2).bind (fun q_7 => some ((), q_7.2))))) else ((fn_Grammar_hold_Gr N 123 (nI (pl σ.1)) 0 c1).bind (fun q_3 => some ((), q_3.2)))).bind (fun q_1 => some ((), q_1.2)) := by
    rw [mv6 h6]
    unfold fn_Grammar_operand_Gr
    rw [if_neg (show ¬ c.1 214 0 = 2 from kneg (k := 400) Tk hG (by decide) (fun _ => by omega)), if_neg (show ¬ c.1 214 0 = 4 from kneg (k := 402) Tk hG (by decide) (fun _ => by omega)), if_neg (show ¬ c.1 214 0 = 33 from kneg (k := 33) Tk hG (by decide) (fun _ => by omega)), if_neg (show ¬ c.1 214 0 = 38 from kneg (k := 38) Tk hG (by decide) (fun _ => by omega)), if_neg (show ¬ c.1 214 0 = 40 from kneg (k := 40) Tk hG (by decide) (fun _ => by omega)), if_neg (show ¬ c.1 214 0 = 45 from kneg (k := 45) Tk hG (by decide) (fun _ => by omega)), if_neg (show ¬ c.1 214 0 = 94 from kneg (k := 94) Tk hG (by decide) (fun _ => by omega)), if_pos (show c.1 214 0 = 123 from kpos (k := 123) hG h0 hk)]
    unfold fn_Grammar_brace_Gr
    rw [show fn_Tokens_open_Tk N 123 c = some ((), c1) from a1, obind, p15]
  have hh1 : c1.1 275 0 = nI h := by rw [a3.1 275 (by decide)]; exact hh
  have h61 : c1.1 264 0 = 6 := by rw [a3.1 264 (by decide)]; exact h6
  unfold gB1 eBr1
  rw [gOpen_live h0 hk] at a2 ⊢
  by_cases o : 60 ≤ σ.2.1
  · rw [if_pos o] at a2 ⊢
    have dd : ((σ.1, σ.2.1, 3, pl σ.1) : gs).2.2.1 ≠ 0 := by simp
    rw [if_neg (show ¬ c1.1 214 0 = 3 from kneg (k := 401) Tk a2 (by decide) (fun z => absurd z dd))] at mvs
    obtain ⟨c2, f1, f2, f3, f4, f5, f6⟩ := hold_C (N := N) (v1 := 123) (v2 := nI (pl σ.1)) (v3 := 0) hh1 (by omega)
    rw [f1, obind, obind] at mvs
    rw [gIs_dead dd, if_neg (by decide), gE_dead2 dd (by omega) (by omega)]
    obtain ⟨n1, hn1⟩ : ∃ n1, N1 = n1 + 1 := ⟨N1 - 1, by omega⟩
    refine ⟨(σ.1, σ.2.1, 3, pl σ.1), ?_, Or.inl (DeadP.one (hG.alive h0) (by rw [h6]; decide) mvs dd (Nat.le_refl _) (a2.mono f6 (fun k _ _ => by simp; omega) (by decide)))⟩
    show gBl tk pl _ N1 _ = _
    rw [hn1]
    show (if gIs tk 44 _ then _ else _) = _
    rw [gIs_dead dd, if_neg (by decide)]
    exact gShut_dead dd 125
  · rw [if_neg o] at a2 ⊢
    have e1 : CE c c1 := a3.mono (by decide) (by decide)
    rw [if_neg (show ¬ nt ≤ σ.1 + 1 by omega)]
    by_cases c401 : tk (σ.1 + 1) = 401
    · -- { n { exp } }
      rw [gIs_t (σ := (σ.1 + 1, σ.2.1 + 1, σ.2.2)) h0 c401, if_pos rfl, if_pos c401]
      rw [if_pos (show c1.1 214 0 = 3 from kpos (k := 401) a2 h0 c401)] at mvs
      have t2n := Tk.more t1n c401 (by decide) (by decide)
      obtain ⟨v1, v2⟩ := hS.2.2.2.2.2.1 _ t1n c401
      have k16 : c1.1 216 0 = nI (vl (σ.1 + 1)) := by rw [(a2.2.2.2.1 h0).2.2.2.1]; exact v1
      rw [k16] at mvs
      obtain ⟨c2, f1, f2, f3, f4, f5, f6⟩ := hold_C (N := N) (v1 := 202) (v2 := nI (pl σ.1)) (v3 := nI (vl (σ.1 + 1))) hh1 (by omega)
      rw [f1, obind] at mvs
      dsimp only at mvs
      have hG2 : CG tk pl nt ex c2 (σ.1 + 1, σ.2.1 + 1, σ.2.2) := a2.mono f6 (fun k _ _ => by simp; omega) (by decide)
      obtain ⟨c3, b1, b2, b3⟩ := ktake (N := N) Tk hG2 (fun _ => t2n)
      rw [if_pos (show (σ.1 + 1, σ.2.1 + 1, σ.2.2).2.2.1 = 0 from h0)] at b2
      rw [b1, obind] at mvs
      dsimp only at mvs
      obtain ⟨c4, d1, d2, d3⟩ := kopen (N := N) Tk 123 (by decide) b2
      rw [show fn_Tokens_open_Tk N 123 c3 = some ((), c4) from d1, obind, obind] at mvs
      have r1 : Rc N 1 c c4 := Rc.one (hG.alive h0) (by rw [h6]; decide) mvs
      have ek4 : Eb [213, 214, 215, 216, 217, 218, 219, 272, 273, 274, 275] [] c c4 := (((a3.mono (by decide) (by decide)).trans (f6.mono (by decide) (by decide))).trans (b3.mono (by decide) (by decide))).trans (d3.mono (by decide) (by decide))
      have e4 : CE c c4 := ek4.mono (by decide) (by decide)
      have dead2 : ∀ σ2 : gs, σ2.2.2.1 ≠ 0 → σ.1 ≤ σ2.1 → CG tk pl nt ex c4 σ2 → gOpen tk pl 123 (gInc (σ.1 + 1, σ.2.1 + 1, σ.2.2)) = σ2 → ∃ σ', ((gG tk pl N1 D).1 (gOpen tk pl 123 (gInc (σ.1 + 1, σ.2.1 + 1, σ.2.2)))).bind (fun σ => (gShut tk pl 125 σ).bind (fun σ => gShut tk pl 125 σ)) = some σ' ∧ DeadP tk pl nt ex N c σ σ' := by
        intro σ2 dd hl g e
        rw [e, gE_dead2 dd (by omega) (by omega)]
        show ∃ σ', (gShut tk pl 125 σ2).bind _ = _ ∧ _
        rw [gShut_dead dd]
        exact ⟨σ2, gShut_dead dd 125, DeadP.one (hG.alive h0) (by rw [h6]; decide) mvs dd hl g⟩
      by_cases c123 : tk (σ.1 + 2) = 123
      · have go := gOpen_live (tk := tk) (pl := pl) (σ := gInc (σ.1 + 1, σ.2.1 + 1, σ.2.2)) (k := 123) h0 c123
        by_cases o2 : 60 ≤ σ.2.1 + 1
        · rw [if_pos (show 60 ≤ (gInc (σ.1 + 1, σ.2.1 + 1, σ.2.2)).2.1 from o2)] at go
          rw [go] at d2
          obtain ⟨σ', x1, x2⟩ := dead2 _ (by simp) (by show σ.1 ≤ σ.1 + 1 + 1; omega) d2 go
          exact ⟨σ', x1, Or.inl x2⟩
        · rw [if_neg (show ¬ 60 ≤ (gInc (σ.1 + 1, σ.2.1 + 1, σ.2.2)).2.1 from o2)] at go
          rw [go] at d2 ⊢
          obtain ⟨m', rfl⟩ : ∃ m', m = m' + 1 := ⟨m - 1, by omega⟩
          have k202 : c4.1 272 h = 202 := by rw [d3.1 272 (by decide), b3.1 272 (by decide), f3, upd_at]
          have k273 : c4.1 273 h = nI (pl σ.1) := by rw [d3.1 273 (by decide), b3.1 273 (by decide), f4, upd_at]
          have k274 : c4.1 274 h = nI (vl (σ.1 + 1)) := by rw [d3.1 274 (by decide), b3.1 274 (by decide), f5, upd_at]
          have k75 : c4.1 275 0 = nI (h + 1) := by rw [d3.1 275 (by decide), b3.1 275 (by decide)]; exact f2
          have hs' : Stat c4 μ T sz C0 (12 * (σ.2.1 + 1 + 1)) (σ.1 + 1 + 1 + 1) := by
            refine ⟨fun fp z => (hs.1 fp z).mono ek4 (by decide) (by decide), fun z => ?_⟩
            obtain ⟨x1, x2, x3⟩ := hs.2 z
            exact ⟨x1.mono ek4 (by decide) (d2.alive h0), by omega, by omega⟩
          obtain ⟨σ2, g1, g2⟩ := hE1 m' rfl D E c4 ((gInc (σ.1 + 1, σ.2.1 + 1, σ.2.2)).1 + 1, (gInc (σ.1 + 1, σ.2.1 + 1, σ.2.2)).2.1 + 1, (gInc (σ.1 + 1, σ.2.1 + 1, σ.2.2)).2.2) (h + 1) μ T sz C0 (by omega) (by omega) (by show σ.2.1 + 1 + 1 + m' = 61; omega) h0 (hS.mono e4) d2 (by rw [d3.1 264 (by decide), b3.1 264 (by decide), f6.1 264 (by decide)]; exact h61) k75 (by show h + 1 ≤ 12 * (σ.2.1 + 1 + 1); omega) (Or.inr (by rw [Nat.add_sub_cancel, k202]; decide)) hs'
          rw [g1]
          show ∃ σ', (gShut tk pl 125 σ2).bind (fun σ => gShut tk pl 125 σ) = some σ' ∧ _
          rcases g2 with dd | ep
          · rw [gShut_dead dd.1]
            exact ⟨σ2, gShut_dead dd.1 125, Or.inl (dd.after r1 (by show 1 ≤ 3 * (σ.1 + 1 + 1 + 1 - σ.1); omega) (by show σ.1 ≤ σ.1 + 1 + 1 + 1; omega))⟩
          · obtain ⟨k, c5, c6, f, q1, q2, q3, q4, q5, q6, q7, q8, q9, q10, q11, q12, q13, q14, q15, q16⟩ := ep
            have q2' : k + 2 ≤ 3 * (σ2.1 - (σ.1 + 1 + 1 + 1)) := q2
            have q6' : N + (σ.2.1 + 1 + 1) ≤ f + 61 := q6
            have q12' : σ2.2.1 = σ.2.1 + 1 + 1 := q12
            have q13' : σ.1 + 1 + 1 + 1 < σ2.1 := q13
            obtain ⟨f, rfl⟩ : ∃ f', f = f' + 1 := ⟨f - 1, by omega⟩
            have k202' : c6.1 272 h = 202 := by rw [(q8.2 h (by omega)).1]; exact k202
            have k273' : c6.1 273 h = nI (pl σ.1) := by rw [(q8.2 h (by omega)).2.1]; exact k273
            have k274' : c6.1 274 h = nI (vl (σ.1 + 1)) := by rw [(q8.2 h (by omega)).2.2]; exact k274
            have cl : ∀ c7 c8 c9, fn_Tokens_shut_Tk N 125 c6 = some ((), c7) → F7 c6 c7 → fn_Tokens_shut_Tk N 125 c7 = some ((), c8) → F7 c7 c8 → fn_Checker_repeat_Ch N (nI (vl (σ.1 + 1))) (nI (pl σ.1)) c8 = some ((), c9) → mv N c5 = some ((), upI c9 275 (fun _ => c9.1 275 0 - 1)) := by
              intro c7 c8 c9 y1 y1b y2 y2b y3
              rw [q5, hd100_stop (h := h) (by omega) q8.1 (by rw [k202']; decide)]
              unfold fn_Grammar_close_Gr
              rw [if_neg (nI_in (show h < 1024 by omega) (by decide)), nI_clamp (by omega), k202', if_neg (by decide), if_neg (by decide), if_neg (by decide), if_neg (by decide), if_pos rfl, y1, obind]
              dsimp only
              rw [y2, obind, if_neg (nI_inN (show h < 1024 by omega) (by omega)), if_neg (nI_inN (show h < 1024 by omega) (by omega))]
              dsimp only
              rw [y2b.1 274 (by decide), y1b.1 274 (by decide), k274', y2b.1 273 (by decide), y1b.1 273 (by decide), k273', y3, obind, obind]
            -- two closing signs
            have sh : ∃ σ3 σ4, gShut tk pl 125 σ2 = some σ3 ∧ gShut tk pl 125 σ3 = some σ4 ∧ ((σ4.2.2.1 ≠ 0 ∧ σ2.1 ≤ σ4.1) ∨ σ4 = (σ2.1 + 2, σ.2.1, σ2.2.2)) := by
              rcases gShut_cases (tk := tk) (pl := pl) 125 σ2 q11 (by omega) with ⟨u1, u2⟩ | ⟨u1, σ3, u2, u3, u4⟩
              · rcases gShut_cases (tk := tk) (pl := pl) 125 (σ2.1 + 1, σ2.2.1 - 1, σ2.2.2) q11 (by show 0 < σ2.2.1 - 1; omega) with ⟨w1, w2⟩ | ⟨w1, σ3, w2, w3, w4⟩
                · exact ⟨_, _, u2, w2, Or.inr (by show (σ2.1 + 1 + 1, σ2.2.1 - 1 - 1, σ2.2.2) = _; rw [show σ2.2.1 - 1 - 1 = σ.2.1 by omega])⟩
                · exact ⟨_, _, u2, w2, Or.inl ⟨w3, by have : σ3.1 = σ2.1 + 1 := w4; omega⟩⟩
              · exact ⟨σ3, σ3, u2, gShut_dead u3 125, Or.inl ⟨u3, by omega⟩⟩
            obtain ⟨σ3, σ4, s1, s2, s3⟩ := sh
            rw [s1]
            show ∃ σ', gShut tk pl 125 σ3 = some σ' ∧ _
            obtain ⟨c7, t1, t2, t3⟩ := kshut (N := N) Tk 125 (by decide) q10 s1
            obtain ⟨c8, y1, y2, y3⟩ := kshut (N := N) Tk 125 (by decide) t2 s2
            refine ⟨σ4, s2, ?_⟩
            rcases s3 with ⟨s3, s4⟩ | s3
            · left
              have r2 : Rc N 1 c5 _ := Rc.one q3 (by rw [q4]; decide) (cl c7 c8 c8 t1 t3 y1 y3 (off_repeat (Or.inr (y2.dead s3))))
              exact ⟨s3, by omega, 1 + k + 1, _, (r1.trans q1).trans r2, by omega, y2.upI (by decide)⟩
            · right
              have l4 : σ4.2.2.1 = 0 := by rw [s3]; exact q11
              have al8 := y2.alive l4
              have ek8 : Eb [213, 214, 215, 216, 217, 218, 219] [] c6 c8 := t3.trans y3
              have rep : ∃ c9, fn_Checker_repeat_Ch N (nI (vl (σ.1 + 1))) (nI (pl σ.1)) c8 = some ((), c9) ∧ XE c8 c9 ∧ Outc fd lit lc c c9 μ T sz C0 σ.1 σ4.1 (xb ((eG tk pl vl wi nm nt N0 E).1 (σ.1 + 1 + 2)) (fun w t2 L C => if vl (σ.1 + 1) = 0 ∨ 64 < vl (σ.1 + 1) * w then xno 30 (pl σ.1) else xok (vl (σ.1 + 1) * w) (t2 + 2) (L ++ [(8, vl (σ.1 + 1), w)]) C)) := by
                have off : ∀ f p, Off c6 f p → ∃ c9, fn_Checker_repeat_Ch N (nI (vl (σ.1 + 1))) (nI (pl σ.1)) c8 = some ((), c9) ∧ XE c8 c9 ∧ Off c9 f p := fun f p o => ⟨c8, off_repeat (o.mono ek8 (by decide) (by decide)).off, Eb.rfl, o.mono ek8 (by decide) (by decide)⟩
                cases hμ : μ with
                | some fp =>
                  obtain ⟨c9, z1, z2, z3⟩ := off _ _ (q16.1 fp hμ)
                  exact ⟨c9, z1, z2, fun q z => (by cases z; exact z3), fun z => (by cases z)⟩
                | none =>
                  obtain ⟨q, w1, w2, w3⟩ := q16.2 hμ
                  have w1' : (eG tk pl vl wi nm nt N0 E).1 (σ.1 + 1 + 2) = some q := w1
                  rw [w1']
                  match q, w2, w3 with
                  | .inl (f, p), w2, _ =>
                    obtain ⟨c9, z1, z2, z3⟩ := off _ _ (w2 f p rfl)
                    exact ⟨c9, z1, z2, fun q z => (by cases z), fun _ => ⟨_, rfl, fun f p e' => (by cases e'; exact z3), fun _ _ _ _ e' => (by cases e')⟩⟩
                  | .inr (w, t', L, C), _, w3 =>
                    obtain ⟨x1, x2, x3, x4, x5⟩ := w3 _ _ _ _ rfl
                    have x2' : σ.1 + 1 + 1 + 1 + L.length ≤ σ2.1 := x2
                    obtain ⟨y1', y2', y3', y4', y5'⟩ := x5
                    have x5' : MO fd lit lc c T sz C0 c6 [w] L C := ⟨y1', y2', fun k hk => by rw [y3' k hk, ek4.1 238 (by decide)], fun k hk => by rw [y4' k hk, ek4.2 336 (by decide)], y5'⟩
                    have x6 := x5'.mono (c' := c8) ek8 (by decide) (by decide) (by decide) al8
                    have xs := (hs.2 hμ).2.2
                    have sn := q10.2.1
                    obtain ⟨p1, p2⟩ := MO.rep (N := N) (n := vl (σ.1 + 1)) (p := pl σ.1) x6 (by omega) v2
                    have hb : xb (some (Sum.inr (w, t', L, C))) (fun w t2 L C => if vl (σ.1 + 1) = 0 ∨ 64 < vl (σ.1 + 1) * w then xno 30 (pl σ.1) else xok (vl (σ.1 + 1) * w) (t2 + 2) (L ++ [(8, vl (σ.1 + 1), w)]) C) = (if vl (σ.1 + 1) = 0 ∨ 64 < vl (σ.1 + 1) * w then xno 30 (pl σ.1) else xok (vl (σ.1 + 1) * w) (t' + 2) (L ++ [(8, vl (σ.1 + 1), w)]) C) := rfl
                    rw [hb]
                    by_cases z : vl (σ.1 + 1) = 0 ∨ 64 < vl (σ.1 + 1) * w
                    · rw [if_pos z]
                      obtain ⟨c9, z1, z2, z3⟩ := p2 (by omega)
                      exact ⟨c9, z1, z3, fun q z => (by cases z), fun _ => ⟨_, rfl, fun f p e' => (by cases e'; exact z2), fun _ _ _ _ e' => (by cases e')⟩⟩
                    · rw [if_neg z]
                      obtain ⟨c9, z1, z2, z3⟩ := p1 (by omega)
                      refine ⟨c9, z1, z3, fun q z => (by cases z), fun _ => ⟨_, rfl, fun f p e' => (by cases e'), fun _ _ _ _ e' => ?_⟩⟩
                      cases e'
                      have : 1 ≤ vl (σ.1 + 1) * w := Nat.mul_pos (by omega) x3
                      rw [s3]
                      exact ⟨by rw [x1], by simp; omega, this, by omega, z2⟩
              obtain ⟨c9, z1, z2, z3⟩ := rep
              have r2 : Rc N 1 c5 _ := Rc.one q3 (by rw [q4]; decide) (cl c7 c8 c9 t1 t3 y1 y3 z1)
              have hG9 : CG tk pl nt ex c9 σ4 := y2.mono z2 (fun k _ _ => by simp; omega) (by decide)
              have t4 : σ4.1 = σ2.1 + 2 := by rw [s3]
              refine ⟨1 + k + 1, _, (r1.trans q1).trans r2, by omega, by show c9.1 264 0 = 7; rw [z2.1 264 (by decide), ek8.1 264 (by decide)]; exact q7, ⟨?_, fun j hj => ⟨?_, ?_, ?_⟩⟩, (((e4.trans q9).trans (ek8.mono (by decide) (by decide))).trans (z2.mono (by decide) (by decide))).upI (by decide), hG9.upI (by decide), l4, by rw [s3], by omega, z3.mono (ks := [275]) (js := []) (Eb.rfl.upI (by decide)) (by decide) (by decide) (by decide) (by decide) (hG9.alive l4)⟩
              · show c9.1 275 0 - 1 = nI h
                rw [z2.1 275 (by decide), ek8.1 275 (by decide), q8.1, nI_pred]
              · show c9.1 272 j = _
                rw [z2.1 272 (by decide), ek8.1 272 (by decide), (q8.2 j (by omega)).1, d3.1 272 (by decide), b3.1 272 (by decide), f3, upd_ne (by omega), a3.1 272 (by decide)]
              · show c9.1 273 j = _
                rw [z2.1 273 (by decide), ek8.1 273 (by decide), (q8.2 j (by omega)).2.1, d3.1 273 (by decide), b3.1 273 (by decide), f4, upd_ne (by omega), a3.1 273 (by decide)]
              · show c9.1 274 j = _
                rw [z2.1 274 (by decide), ek8.1 274 (by decide), (q8.2 j (by omega)).2.2, d3.1 274 (by decide), b3.1 274 (by decide), f5, upd_ne (by omega), a3.1 274 (by decide)]
      · have go : gOpen tk pl 123 (gInc (σ.1 + 1, σ.2.1 + 1, σ.2.2)) = gNo tk pl (gInc (σ.1 + 1, σ.2.1 + 1, σ.2.2)) := by
          unfold gOpen; rw [gIs_f (show tk (gInc (σ.1 + 1, σ.2.1 + 1, σ.2.2)).1 ≠ 123 from c123), if_neg (by decide)]
        have dd : (gNo tk pl (gInc (σ.1 + 1, σ.2.1 + 1, σ.2.2))).2.2.1 ≠ 0 ∧ (gNo tk pl (gInc (σ.1 + 1, σ.2.1 + 1, σ.2.2))).1 = σ.1 + 1 + 1 := by
          unfold gNo
          rw [if_pos (show (gInc (σ.1 + 1, σ.2.1 + 1, σ.2.2)).2.2.1 = 0 from h0)]
          constructor
          · dsimp only; split <;> decide
          · rfl
        rw [go] at d2
        obtain ⟨σ', x1, x2⟩ := dead2 _ dd.1 (by rw [dd.2]; omega) d2 go
        exact ⟨σ', x1, Or.inl x2⟩
    · -- { exp , .. }
      rw [gIs_f (σ := (σ.1 + 1, σ.2.1 + 1, σ.2.2)) c401, if_neg (by decide), if_neg c401]
      rw [if_neg (show ¬ c1.1 214 0 = 3 from kneg (k := 401) Tk a2 (by decide) (fun _ => c401))] at mvs
      obtain ⟨c2, f1, f2, f3, f4, f5, f6⟩ := hold_C (N := N) (v1 := 123) (v2 := nI (pl σ.1)) (v3 := 0) hh1 (by omega)
      rw [f1, obind, obind] at mvs
      have r1 : Rc N 1 c c2 := Rc.one (hG.alive h0) (by rw [h6]; decide) mvs
      have hG2 : CG tk pl nt ex c2 (σ.1 + 1, σ.2.1 + 1, σ.2.2) := a2.mono f6 (fun k _ _ => by simp; omega) (by decide)
      have ek2 : Eb [213, 214, 215, 216, 217, 218, 219, 272, 273, 274, 275] [] c c2 := (a3.mono (by decide) (by decide)).trans (f6.mono (by decide) (by decide))
      have e2 : CE c c2 := ek2.mono (by decide) (by decide)
      have k123 : c2.1 272 h = 123 := by rw [f3, upd_at]
      have hs' : Stat c2 μ T sz C0 (12 * (σ.2.1 + 1)) (σ.1 + 1) := by
        refine ⟨fun fp z => (hs.1 fp z).mono ek2 (by decide) (by decide), fun z => ?_⟩
        obtain ⟨x1, x2, x3⟩ := hs.2 z
        exact ⟨x1.mono ek2 (by decide) (hG2.alive h0), by omega, by omega⟩
      obtain ⟨σ2, g1, g2⟩ := hE D E c2 (σ.1 + 1, σ.2.1 + 1, σ.2.2) (h + 1) μ T sz C0 hD hE2 (by show σ.2.1 + 1 + m = 61; omega) h0 (hS.mono e2) hG2 (by rw [f6.1 264 (by decide)]; exact h61) f2 (by show h + 1 ≤ 12 * (σ.2.1 + 1); omega) (Or.inr (by rw [Nat.add_sub_cancel, k123]; decide)) hs'
      rw [g1]
      show ∃ σ', gBl tk pl (gG tk pl N1 D).1 N1 σ2 = some σ' ∧ _
      rcases g2 with dd | ep
      · refine ⟨σ2, ?_, Or.inl (dd.after r1 (by show 1 ≤ 3 * (σ.1 + 1 - σ.1); omega) (by show σ.1 ≤ σ.1 + 1; omega))⟩
        obtain ⟨n1, hn1⟩ : ∃ n1, N1 = n1 + 1 := ⟨N1 - 1, by omega⟩
        rw [hn1]
        show (if gIs tk 44 σ2 then _ else _) = _
        rw [gIs_dead dd.1, if_neg (by decide)]
        exact gShut_dead dd.1 125
      · obtain ⟨k, c5, c6, f, q1, q2, q3, q4, q5, q6, q7, q8, q9, q10, q11, q12, q13, q14, q15, q16⟩ := ep
        have q2' : k + 2 ≤ 3 * (σ2.1 - (σ.1 + 1)) := q2
        have q6' : N + (σ.2.1 + 1) ≤ f + 61 := q6
        have q12' : σ2.2.1 = σ.2.1 + 1 := q12
        have q13' : σ.1 + 1 < σ2.1 := q13
        obtain ⟨f, rfl⟩ : ∃ f', f = f' + 1 := ⟨f - 1, by omega⟩
        have k123' : c6.1 272 h = 123 := by rw [(q8.2 h (by omega)).1]; exact k123
        have cl : mv N c5 = fn_Grammar_closeBrace_Gr N (nI h) c6 := by
          rw [q5, hd100_stop (h := h) (by omega) q8.1 (by rw [k123']; decide)]
          unfold fn_Grammar_close_Gr
          rw [if_neg (nI_in (show h < 1024 by omega) (by decide)), nI_clamp (by omega), k123', if_neg (by decide), if_neg (by decide), if_neg (by decide), if_neg (by decide), if_neg (by decide)]
          cases fn_Grammar_closeBrace_Gr N (nI h) c6 with
          | none => rfl
          | some x => rfl
        -- the status behind the first exp
        have st : ∃ ν : Sum (Nat × Nat) (Nat × List aop × Nat), (∀ fp, ν = .inl fp → Off c6 fp.1 fp.2) ∧ (∀ u L C, ν = .inr (u, L, C) → MJ fd lit lc c T sz C0 c6 u [] L C ∧ 1 ≤ u ∧ sz + L.length ≤ σ2.1 ∧ σ.1 + L.length ≤ σ2.1) ∧ (∀ fp, μ = some fp → ν = .inl fp) ∧ (μ = none → ∃ q, (eG tk pl vl wi nm nt N0 E).1 (σ.1 + 1) = some q ∧ (∀ f p, q = .inl (f, p) → ν = .inl (f, p)) ∧ (∀ w t' L C, q = .inr (w, t', L, C) → t' = σ2.1 ∧ ν = .inr (w, L, C))) := by
          cases hμ : μ with
          | some fp => exact ⟨.inl fp, fun fp' z => (by cases z; exact q16.1 fp hμ), fun u L C z => (by cases z), fun fp' z => (by cases z; rfl), fun z => (by cases z)⟩
          | none =>
            obtain ⟨q, w1, w2, w3⟩ := q16.2 hμ
            match q, w1, w2, w3 with
            | .inl (f, p), w1, w2, _ => exact ⟨.inl (f, p), fun fp' z => (by cases z; exact w2 f p rfl), fun u L C z => (by cases z), fun fp' z => (by cases z), fun _ => ⟨_, w1, fun f' p' z => (by cases z; rfl), fun _ _ _ _ z => (by cases z)⟩⟩
            | .inr (w, t', L, C), w1, _, w3 =>
              obtain ⟨x1, x2, x3, x4, x5⟩ := w3 _ _ _ _ rfl
              have x2' : σ.1 + 1 + L.length ≤ σ2.1 := x2
              obtain ⟨y1', y2', y3', y4', y5'⟩ := x5
              have x5' : MO fd lit lc c T sz C0 c6 [w] L C := ⟨y1', y2', fun k hk => by rw [y3' k hk, ek2.1 238 (by decide)], fun k hk => by rw [y4' k hk, ek2.2 336 (by decide)], y5'⟩
              have xs := (hs.2 hμ).2.2
              refine ⟨.inr (w, L, C), fun fp' z => (by cases z), fun u L' C' z => (by cases z; exact ⟨x5'.toMJ, x3, by omega, by omega⟩), fun fp' z => (by cases z), fun _ => ⟨_, w1, fun f' p' z => (by cases z), fun _ _ _ _ z => (by cases z; exact ⟨x1, rfl⟩)⟩⟩
        obtain ⟨ν, s1, s2, s3, s4⟩ := st
        have sn := q10.2.1
        have lo : (∀ k, k < h → c6.1 272 k = c.1 272 k ∧ c6.1 273 k = c.1 273 k ∧ c6.1 274 k = c.1 274 k) ∧ c6.1 273 h = nI (pl σ.1) := by
          refine ⟨fun j hj => ⟨?_, ?_, ?_⟩, ?_⟩
          · rw [(q8.2 j (by omega)).1, f3, upd_ne (by omega), a3.1 272 (by decide)]
          · rw [(q8.2 j (by omega)).2.1, f4, upd_ne (by omega), a3.1 273 (by decide)]
          · rw [(q8.2 j (by omega)).2.2, f5, upd_ne (by omega), a3.1 274 (by decide)]
          · rw [(q8.2 h (by omega)).2.1, f4, upd_at]
        obtain ⟨σ', z1, z2⟩ := br_loop (p := pl σ.1) Tk hE hN hD hE2 hm hS hh2 hT N1 N0 (1 + k) c5 c6 σ2 ν (by omega) (by omega) (r1.trans q1) (by omega) q3 q4 cl q7 (Or.inr ⟨q8.1, lo.1, lo.2⟩) q8.1 (e2.trans q9) q10 q11 q12' (by omega) s1 s2
        refine ⟨σ', z1, ?_⟩
        rcases z2 with z2 | ⟨k', c9, o1, o2, o3, o4, o5, o6, o7, o8, o9, o10, o11⟩
        · exact Or.inl z2
        · refine Or.inr ⟨k', c9, o1, o2, o3, o4, o5, o6, o7, o8, o9, fun fp z => o10 fp (s3 fp z), fun z => ?_⟩
          obtain ⟨q, x1, x2, x3⟩ := s4 z
          rw [x1]
          match q, x2, x3 with
          | .inl (f, p), x2, _ =>
            refine ⟨_, rfl, fun f'' p'' e' => ?_, fun _ _ _ _ e' => (by cases e')⟩
            cases e'
            exact o10 _ (x2 f p rfl)
          | .inr (w, t', L2, C2), _, x3 =>
            obtain ⟨x4, x5⟩ := x3 _ _ _ _ rfl
            subst x4
            exact o11 _ _ _ x5
end CBR2
