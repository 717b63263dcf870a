/-! The class's exps, whole. -/
section CEXP
variable {tk pl vl wi : Nat → Nat} {nm : Nat → Option (Nat × Nat)} {nt : Nat} {ex : Nat → Int32} {N N0 N1 fd lc : Nat} {lit : Nat → Int64}
theorem Outc.stat {c0 c2 c3 : ms} {μ : Option (Nat × Nat)} {T sz C0 t t2 b : Nat} {r : xr} {ks js : List Nat} (o : Outc fd lit lc c0 c2 μ T sz C0 t t2 r) (hT : μ = none → T < b ∧ sz ≤ t) (e : Eb ks js c2 c3) (hk : 242 ∉ ks ∧ 239 ∉ ks ∧ 337 ∉ ks ∧ 241 ∉ ks) (hk2 : 238 ∉ ks) (hk3 : 243 ∉ ks) (hj : 336 ∉ js) (h2 : c3.1 217 0 = nI 0) :
    (∃ fp, Off c3 fp.1 fp.2 ∧ (∀ q, μ = some q → q = fp) ∧ (μ = none → r = some (.inl fp))) ∨ (μ = none ∧ ∃ w L C, r = some (.inr (w, t2, L, C)) ∧ MO fd lit lc c0 T sz C0 c3 [w] L C ∧ t + L.length ≤ t2) := by
  cases hμ : μ with
  | some fp => exact Or.inl ⟨fp, (o.1 fp hμ).mono e hk.1 hk3, fun q z => (by cases z; rfl), fun z => (by cases z)⟩
  | none =>
    obtain ⟨q, w1, w2, w3⟩ := o.2 hμ
    match q, w1, w2, w3 with
    | .inl (f, p), w1, w2, _ => exact Or.inl ⟨(f, p), (w2 f p rfl).mono e hk.1 hk3, fun q z => (by cases z), fun _ => w1⟩
    | .inr (w, t', L, C), w1, _, w3 =>
      obtain ⟨x1, x2, x3, x4, x5⟩ := w3 _ _ _ _ rfl
      subst x1
      exact Or.inr ⟨rfl, w, L, C, w1, x5.mono e hk hk2 hj h2, x2⟩
theorem hd100_colon {c c' : ms} {f h p : Nat} (hh : h < 1000) (h1 : c.1 275 0 = nI (h + 1)) (h2 : c.1 272 h = 58) (h3 : c.1 273 h = nI p) (e : fn_Checker_choose_Ch N (nI p) (upI (upI c 275 (fun _ => nI h)) 219 (fun _ => c.1 219 0 - 1)) = some ((), c')) : hd_Grammar_behindOperand_Gr_100 N (f + 1) c = hd_Grammar_behindOperand_Gr_100 N f c' := by
  show bd_Grammar_behindOperand_Gr_100 N (hd_Grammar_behindOperand_Gr_100 N f) c = _
  unfold bd_Grammar_behindOperand_Gr_100
  rw [h1, if_neg (nI_nle (by omega) (by omega)), nI_pred, if_neg (nI_in (show h < 1024 by omega) (by decide)), nI_clamp (by omega), if_pos h2]
  unfold fn_Tokens_shutQuietly_Tk
  rw [obind]
  dsimp only
  rw [show (upI (upI c 275 (fun _ => nI h)) 219 (fun _ => (upI c 275 (fun _ => nI h)).1 219 0 - 1)).1 275 0 = nI h from rfl, if_neg (nI_in (show h < 1024 by omega) (by decide)), nI_clamp (by omega), show (upI (upI c 275 (fun _ => nI h)) 219 (fun _ => (upI c 275 (fun _ => nI h)).1 219 0 - 1)).1 273 h = nI p from h3]
  rw [show (upI (upI c 275 (fun _ => nI h)) 219 (fun _ => (upI c 275 (fun _ => nI h)).1 219 0 - 1)) = (upI (upI c 275 (fun _ => nI h)) 219 (fun _ => c.1 219 0 - 1)) from rfl, e, obind]
/-- a condition and two exps behind it -/
theorem cho_C {m : Nat} {c : ms} {σ σ1 : gs} {h T sz C0 D E : Nat} {μ : Option (Nat × Nat)} {r : xr} (Tk : Tv tk pl nt) (hE : ExpC tk pl vl wi nm nt ex N N0 N1 fd lit lc m) (hN : 13000 < N) (hN1 : 12002 < N1) (hD : 3 * m + 2 ≤ D) (hD2 : 2 ≤ D) (hE2 : 5 * m ≤ E) (hm : σ.2.1 + m + 1 = 61) (hS : CS tk pl vl wi nm nt ex N fd lit lc c) (hh2 : h ≤ 12 * σ.2.1) (hT : μ = none → T ≤ 12 * σ.2.1 ∧ sz ≤ σ.1) (hp : BinPost tk pl nt ex N fd lit lc c σ σ1 h μ T sz C0 r) :
    ∃ σ', gXf tk pl (gG tk pl N1 D).1 σ1 = some σ' ∧ (DeadP tk pl nt ex N c σ σ' ∨ ExpPost tk pl nt ex N fd lit lc c σ σ' h μ T sz C0 (xb r (fun c t1 L C => if tk t1 = 63 then xb ((eG tk pl vl wi nm nt N0 E).1 (t1 + 1)) (fun a t2 L2 C2 => xb ((eG tk pl vl wi nm nt N0 E).1 (t2 + 1)) (fun b t3 L3 C3 => if a = b then xok a t3 (L ++ L2 ++ L3 ++ [(6, 0, 0)]) (C + C2 + C3 + max c a) else xno 30 (pl t1))) else xok c t1 L C))) := by
  obtain ⟨k, c1, c2, p1, p2, p3, p4, p5, p6, p7, p8, p9, p10, p11, p12, p13, p14⟩ := hp
  have l1 := Tk.2.1
  have tn : σ1.1 < nt := p4.2.1
  have kk := (p4.2.2.2.1 p10).2.1
  have v := (Tk.2.2.1 _ tn).1
  have rr := rkI_kap ⟨tk σ1.1, vk_lt v⟩ v
  dsimp only at rr
  rw [p13] at rr
  have d60 : σ1.2.1 ≤ 60 := (p4.2.2.2.1 p10).2.2.2.2.2.2
  have pl15 : c2.1 215 0 = nI (pl σ1.1) := (p9.2.2.2.1 p10).2.2.1
  by_cases q : tk σ1.1 = 63
  · have k63 : c2.1 214 0 = 63 := kpos (k := 63) p9 p10 q
    obtain ⟨c3, d1, d2, d3, d4, d5, d6⟩ := hold_C (N := N) (v1 := 63) (v2 := nI (pl σ1.1)) (v3 := 0) p7.1 (by omega)
    have hG3 : CG tk pl nt ex c3 σ1 := p9.mono d6 (fun k _ _ => by simp; omega) (by decide)
    obtain ⟨c4, e1, e2, e3⟩ := kopen (N := N) Tk 63 (by decide) hG3
    have hmv : mv N c1 = some ((), upI c4 264 (fun _ => 6)) := by
      rw [mv7 p3]
      unfold fn_Grammar_behindOperand_Gr
      rw [kk, rankI, obind]
      dsimp only
      rw [rr, if_pos (show nI 0 ≤ 0 by decide), p5, obind]
      dsimp only
      rw [if_pos k63, pl15, d1, obind]
      dsimp only
      rw [show fn_Tokens_open_Tk N 63 c3 = some ((), c4) from e1, obind]
    have r1 : Rc N (k + 1) c (upI c4 264 (fun _ => 6)) := p1.trans (Rc.one (p4.alive p10) (by rw [p3]; decide) hmv)
    have gx : gXf tk pl (gG tk pl N1 D).1 σ1 = ((gG tk pl N1 D).1 (gOpen tk pl 63 σ1)).bind (fun σ => ((gG tk pl N1 D).1 (gTake tk pl 58 σ)).bind (fun σ => gDn σ)) := by
      unfold gXf; rw [gIs_t p10 q, if_pos rfl]
    rw [gx]
    rw [gOpen_live p10 q] at e2 ⊢
    by_cases o : 60 ≤ σ1.2.1
    · rw [if_pos o] at e2 ⊢
      have dd : ((σ1.1, σ1.2.1, 3, pl σ1.1) : gs).2.2.1 ≠ 0 := by simp
      rw [gE_dead2 dd (by omega) (by omega)]
      refine ⟨(σ1.1, σ1.2.1, 3, pl σ1.1), ?_, Or.inl ⟨dd, by show σ.1 ≤ σ1.1; omega, k + 1, _, r1, by show k + 1 ≤ 3 * (σ1.1 - σ.1) + 3; omega, e2.upI (by decide)⟩⟩
      rw [obind, gTake_dead dd, gE_dead2 dd (by omega) (by omega), obind, gDn_dead dd]
    · rw [if_neg o] at e2 ⊢
      have ek : Eb [213, 214, 215, 216, 217, 218, 219, 264, 272, 273, 274, 275] [] c2 (upI c4 264 (fun _ => 6)) := ((d6.mono (by decide) (by decide)).trans (e3.mono (by decide) (by decide))).upI (by decide)
      have eC : CE c (upI c4 264 (fun _ => 6)) := p8.trans (ek.mono (by decide) (by decide))
      have hG5 : CG tk pl nt ex (upI c4 264 (fun _ => 6)) (σ1.1 + 1, σ1.2.1 + 1, σ1.2.2) := e2.upI (by decide)
      have a17 : (upI c4 264 (fun _ => 6)).1 217 0 = nI 0 := hG5.alive p10
      have h75 : (upI c4 264 (fun _ => 6)).1 275 0 = nI (h + 1) := by show c4.1 275 0 = _; rw [e3.1 275 (by decide)]; exact d2
      have k72 : ∀ j, (upI c4 264 (fun _ => 6)).1 272 j = upd (c2.1 272) h 63 j := fun j => by show c4.1 272 j = _; rw [e3.1 272 (by decide), d3]
      have k73 : ∀ j, (upI c4 264 (fun _ => 6)).1 273 j = upd (c2.1 273) h (nI (pl σ1.1)) j := fun j => by show c4.1 273 j = _; rw [e3.1 273 (by decide), d4]
      have k74 : ∀ j, (upI c4 264 (fun _ => 6)).1 274 j = upd (c2.1 274) h 0 j := fun j => by show c4.1 274 j = _; rw [e3.1 274 (by decide), d5]
      have st := p14.stat (c3 := upI c4 264 (fun _ => 6)) (b := 12 * σ.2.1 + 1) (fun z => ⟨by have := (hT z).1; omega, (hT z).2⟩) ek (by decide) (by decide) (by decide) (by decide) a17
      generalize hc5 : upI c4 264 (fun _ => 6) = c5 at *
      have s6 : c5.1 264 0 = 6 := by rw [← hc5]; rfl
      -- the exp behind the sign
      obtain ⟨μ5, T5, sz5, C5, m1, m2⟩ : ∃ μ5 T5 sz5 C5, Stat c5 μ5 T5 sz5 C5 (12 * (σ.2.1 + 1)) (σ1.1 + 1) ∧ ((∃ fp, μ5 = some fp ∧ (∀ q, μ = some q → q = fp) ∧ (μ = none → r = some (.inl fp))) ∨ (μ5 = none ∧ μ = none ∧ ∃ w L C, r = some (.inr (w, σ1.1, L, C)) ∧ MO fd lit lc c T sz C0 c5 [w] L C ∧ σ.1 + L.length ≤ σ1.1 ∧ T5 = T + 1 ∧ sz5 = sz + L.length ∧ C5 = C0 + C)) := by
        rcases st with ⟨fp, s1, s2, s3⟩ | ⟨s1, w, L, C, s2, s3, s4⟩
        · exact ⟨some fp, 0, 0, 0, ⟨fun q hq => (by cases hq; exact s1), fun hq => (by cases hq)⟩, Or.inl ⟨fp, rfl, s2, s3⟩⟩
        · have hT' := hT s1
          exact ⟨none, T + 1, sz + L.length, C0 + C, ⟨fun q hq => (by cases hq), fun _ => ⟨s3.1, by omega, by omega⟩⟩, Or.inr ⟨rfl, s1, w, L, C, s2, s3, s4, rfl, rfl, rfl⟩⟩
      clear st
      obtain ⟨σ2, g1, g2⟩ := hE D E c5 (σ1.1 + 1, σ1.2.1 + 1, σ1.2.2) (h + 1) μ5 T5 sz5 C5 hD hE2 (by show σ1.2.1 + 1 + m = 61; omega) p10 (hS.mono eC) hG5 s6 h75 (by show h + 1 ≤ 12 * (σ1.2.1 + 1); omega) (Or.inr (by rw [Nat.add_sub_cancel, k72, upd_at]; decide)) (by show Stat _ _ _ _ _ (12 * (σ1.2.1 + 1)) (σ1.1 + 1); rw [p11]; exact m1)
      rw [g1]
      show ∃ σ', ((gG tk pl N1 D).1 (gTake tk pl 58 σ2)).bind (fun σ => gDn σ) = some σ' ∧ _
      rcases g2 with dd | ep
      · refine ⟨σ2, by rw [gTake_dead dd.1, gE_dead2 dd.1 (by omega) (by omega), obind, gDn_dead dd.1], Or.inl (dd.after r1 (by show k + 1 ≤ 3 * (σ1.1 + 1 - σ.1); omega) (by show σ.1 ≤ σ1.1 + 1; omega))⟩
      · obtain ⟨k2, c6, c7, f, q1, q2, q3, q4, q5, q6, q7, q8, q9, q10, q11, q12, q13, q14, q15, q16⟩ := ep
        have q2' : k2 + 2 ≤ 3 * (σ2.1 - (σ1.1 + 1)) := q2
        have q6' : N + (σ1.2.1 + 1) ≤ f + 61 := q6
        have q12' : σ2.2.1 = σ1.2.1 + 1 := q12
        have q13' : σ1.1 + 1 < σ2.1 := q13
        obtain ⟨f, rfl⟩ : ∃ f', f = f' + 1 := ⟨f - 1, by clear m2; omega⟩
        have k63' : c7.1 272 h = 63 := by rw [(q8.2 h (by omega)).1, k72, upd_at]
        obtain ⟨c8, t1, t2, t3⟩ := kneed (N := N) Tk 58 (by decide) q10
        have hmv2 : mv N c6 = some ((), upI (upI c8 272 (upd (c8.1 272) h 58)) 264 (fun _ => 6)) := by
          rw [q5, hd100_stop (h := h) (by omega) q8.1 (by rw [k63']; decide)]
          unfold fn_Grammar_close_Gr
          rw [if_neg (nI_in (show h < 1024 by omega) (by decide)), nI_clamp (by omega), k63', if_neg (by decide), if_neg (by decide), if_pos rfl, show fn_Tokens_need_Tk N 58 c7 = some ((), c8) from t1, obind, if_neg (nI_inN (show h < 1024 by omega) (by omega)), obind]
        have r2 := (r1.trans q1).trans (Rc.one q3 (by rw [q4]; decide) hmv2)
        have hG9 : CG tk pl nt ex (upI (upI c8 272 (upd (c8.1 272) h 58)) 264 (fun _ => 6)) (gTake tk pl 58 σ2) := (t2.upI (by decide)).upI (by decide)
        rcases gTake_cases (pl := pl) 58 σ2 q11 with ⟨s1, s2⟩ | ⟨s1, s2, s3, s4⟩
        · rw [s2] at hG9 ⊢
          have ek2 : Eb [213, 214, 215, 216, 217, 218, 219, 264, 272] [] c7 (upI (upI c8 272 (upd (c8.1 272) h 58)) 264 (fun _ => 6)) := ((t3.mono (by decide) (by decide)).upI (by decide)).upI (by decide)
          have eC2 : CE c (upI (upI c8 272 (upd (c8.1 272) h 58)) 264 (fun _ => 6)) := (eC.trans q9).trans (ek2.mono (by decide) (by decide))
          have a17' : (upI (upI c8 272 (upd (c8.1 272) h 58)) 264 (fun _ => 6)).1 217 0 = nI 0 := hG9.alive q11
          have j72 : ∀ j, (upI (upI c8 272 (upd (c8.1 272) h 58)) 264 (fun _ => 6)).1 272 j = upd (c7.1 272) h 58 j := fun j => by show upd (c8.1 272) h 58 j = _; rw [t3.1 272 (by decide)]
          have j75 : (upI (upI c8 272 (upd (c8.1 272) h 58)) 264 (fun _ => 6)).1 275 0 = nI (h + 1) := by show c8.1 275 0 = _; rw [t3.1 275 (by decide)]; exact q8.1
          have j73 : (upI (upI c8 272 (upd (c8.1 272) h 58)) 264 (fun _ => 6)).1 273 = c7.1 273 := by show c8.1 273 = _; rw [t3.1 273 (by decide)]
          have j74 : (upI (upI c8 272 (upd (c8.1 272) h 58)) 264 (fun _ => 6)).1 274 = c7.1 274 := by show c8.1 274 = _; rw [t3.1 274 (by decide)]
          have st := q16.stat (c3 := upI (upI c8 272 (upd (c8.1 272) h 58)) 264 (fun _ => 6)) (b := 12 * σ.2.1 + 13) (fun z => ⟨by have := (m1.2 z).2.1; omega, (m1.2 z).2.2⟩) ek2 (by decide) (by decide) (by decide) (by decide) a17'
          generalize hc9 : upI (upI c8 272 (upd (c8.1 272) h 58)) 264 (fun _ => 6) = c9 at *
          have s6' : c9.1 264 0 = 6 := by rw [← hc9]; rfl
          obtain ⟨μ9, T9, sz9, C9, n1, n2⟩ : ∃ μ9 T9 sz9 C9, Stat c9 μ9 T9 sz9 C9 (12 * (σ.2.1 + 1)) (σ2.1 + 1) ∧ ((∃ fp, μ9 = some fp ∧ (∀ q, μ = some q → q = fp) ∧ (μ = none → (xb r (fun c t1 L C => if tk t1 = 63 then xb ((eG tk pl vl wi nm nt N0 E).1 (t1 + 1)) (fun a t2 L2 C2 => xb ((eG tk pl vl wi nm nt N0 E).1 (t2 + 1)) (fun b t3 L3 C3 => if a = b then xok a t3 (L ++ L2 ++ L3 ++ [(6, 0, 0)]) (C + C2 + C3 + max c a) else xno 30 (pl t1))) else xok c t1 L C)) = some (.inl fp))) ∨ (μ9 = none ∧ μ = none ∧ ∃ w a L C, (xb r (fun c t1 L C => if tk t1 = 63 then xb ((eG tk pl vl wi nm nt N0 E).1 (t1 + 1)) (fun a t2 L2 C2 => xb ((eG tk pl vl wi nm nt N0 E).1 (t2 + 1)) (fun b t3 L3 C3 => if a = b then xok a t3 (L ++ L2 ++ L3 ++ [(6, 0, 0)]) (C + C2 + C3 + max c a) else xno 30 (pl t1))) else xok c t1 L C)) = xb ((eG tk pl vl wi nm nt N0 E).1 (σ2.1 + 1)) (fun b t3 L3 C3 => if a = b then xok a t3 (L ++ L3 ++ [(6, 0, 0)]) (C + C3 + max w a) else xno 30 (pl σ1.1)) ∧ MO fd lit lc c T sz C0 c9 [a, w] L C ∧ σ.1 + L.length + 1 ≤ σ2.1 ∧ T9 = T + 2 ∧ sz9 = sz + L.length ∧ C9 = C0 + C)) := by
            rcases m2 with ⟨fp, x1, x2, x3⟩ | ⟨x1, x2, w, L, C, x3, x4, x5, x6, x7, x8⟩
            · refine ⟨some fp, 0, 0, 0, ⟨fun q hq => ?_, fun hq => (by cases hq)⟩, Or.inl ⟨fp, rfl, x2, fun z => by rw [x3 z]; rfl⟩⟩
              cases hq
              exact (q16.1 fp x1).mono ek2 (by decide) (by decide)
            · have e0 : (xb r (fun c t1 L C => if tk t1 = 63 then xb ((eG tk pl vl wi nm nt N0 E).1 (t1 + 1)) (fun a t2 L2 C2 => xb ((eG tk pl vl wi nm nt N0 E).1 (t2 + 1)) (fun b t3 L3 C3 => if a = b then xok a t3 (L ++ L2 ++ L3 ++ [(6, 0, 0)]) (C + C2 + C3 + max c a) else xno 30 (pl t1))) else xok c t1 L C)) = xb ((eG tk pl vl wi nm nt N0 E).1 (σ1.1 + 1)) (fun a t2 L2 C2 => xb ((eG tk pl vl wi nm nt N0 E).1 (t2 + 1)) (fun b t3 L3 C3 => if a = b then xok a t3 (L ++ L2 ++ L3 ++ [(6, 0, 0)]) (C + C2 + C3 + max w a) else xno 30 (pl σ1.1))) := by
                rw [x3]
                show (if tk σ1.1 = 63 then _ else _) = _
                rw [if_pos q]
              rw [e0]
              rcases st with ⟨fp, y1, y2, y3⟩ | ⟨y1, a, L2, C2, y2, y3, y4⟩
              · exact ⟨some fp, 0, 0, 0, ⟨fun q hq => (by cases hq; exact y1), fun hq => (by cases hq)⟩, Or.inl ⟨fp, rfl, fun q z => (by rw [x2] at z; cases z), fun _ => by rw [y3 x1]; rfl⟩⟩
              · have hT' := hT x2
                have y4' : σ1.1 + 1 + L2.length ≤ σ2.1 := y4
                subst x6 x7 x8
                have mo : MO fd lit lc c T sz C0 c9 [a, w] (L ++ L2) (C + C2) := x4.sub y3
                have ll : (L ++ L2).length = L.length + L2.length := List.length_append
                exact ⟨none, T + 2, sz + (L ++ L2).length, C0 + (C + C2), ⟨fun q hq => (by cases hq), fun _ => ⟨mo.1, by omega, by omega⟩⟩, Or.inr ⟨rfl, x2, w, a, L ++ L2, C + C2, by rw [y2]; rfl, mo, by omega, rfl, rfl, rfl⟩⟩
          clear st m2
          obtain ⟨σ3, u1, u2⟩ := hE D E c9 (gInc σ2) (h + 1) μ9 T9 sz9 C9 hD hE2 (by show σ2.2.1 + m = 61; clear n2; omega) q11 (hS.mono eC2) hG9 s6' j75 (by show h + 1 ≤ 12 * σ2.2.1; clear n2; omega) (Or.inr (by rw [Nat.add_sub_cancel, j72, upd_at]; decide)) (by show Stat _ _ _ _ _ (12 * σ2.2.1) (σ2.1 + 1); rw [q12', p11]; exact n1)
          rw [u1]
          show ∃ σ', gDn σ3 = some σ' ∧ _
          have kb : k + 1 + k2 + 1 ≤ 3 * (σ2.1 + 1 - σ.1) := by clear n2; omega
          have kl : σ.1 ≤ σ2.1 + 1 := by clear n2; omega
          rcases u2 with dd | ep
          · exact ⟨σ3, gDn_dead dd.1, Or.inl (dd.after r2 kb kl)⟩
          · obtain ⟨k3, c10, c11, f3, v1, v2, v3, v4, v5, v6, v7, v8, v9, v10, v11, v12, v13, v14, v15, v16⟩ := ep
            have v2' : k3 + 2 ≤ 3 * (σ3.1 - (σ2.1 + 1)) := v2
            have v6' : N + σ2.2.1 ≤ f3 + 61 := v6
            have v12' : σ3.2.1 = σ2.2.1 := v12
            have v13' : σ2.1 + 1 < σ3.1 := v13
            obtain ⟨f3, rfl⟩ : ∃ f', f3 = f' + 1 := ⟨f3 - 1, by clear n2; omega⟩
            have k58 : c11.1 272 h = 58 := by rw [(v8.2 h (by omega)).1, j72, upd_at]
            have kp : c11.1 273 h = nI (pl σ1.1) := by rw [(v8.2 h (by omega)).2.1, j73, (q8.2 h (by omega)).2.1, k73, upd_at]
            have gd : gDn σ3 = some (σ3.1, σ3.2.1 - 1, σ3.2.2) := by
              unfold gDn; rw [if_pos v11, if_neg (by clear n2; omega)]
            refine ⟨_, gd, Or.inr ?_⟩
            have hG12 : CG tk pl nt ex (upI (upI c11 275 (fun _ => nI h)) 219 (fun _ => c11.1 219 0 - 1)) (σ3.1, σ3.2.1 - 1, σ3.2.2) := kdn (c := upI c11 275 (fun _ => nI h)) (v10.upI (by decide)) gd
            have ek3 : Eb [219, 275] [] c11 (upI (upI c11 275 (fun _ => nI h)) 219 (fun _ => c11.1 219 0 - 1)) := (Eb.rfl.upI (by decide)).upI (by decide)
            have a17'' : (upI (upI c11 275 (fun _ => nI h)) 219 (fun _ => c11.1 219 0 - 1)).1 217 0 = nI 0 := hG12.alive v11
            generalize hcB : upI (upI c11 275 (fun _ => nI h)) 219 (fun _ => c11.1 219 0 - 1) = c12 at *
            have st3 := v16.stat (c3 := c12) (b := 12 * σ.2.1 + 13) (fun z => ⟨by have := (n1.2 z).2.1; clear n2; omega, (n1.2 z).2.2⟩) ek3 (by decide) (by decide) (by decide) (by decide) a17''
            -- the choice
            have fin : ∃ c13, fn_Checker_choose_Ch N (nI (pl σ1.1)) c12 = some ((), c13) ∧ XE c12 c13 ∧ Outc fd lit lc c c13 μ T sz C0 σ.1 σ3.1 (xb r (fun c t1 L C => if tk t1 = 63 then xb ((eG tk pl vl wi nm nt N0 E).1 (t1 + 1)) (fun a t2 L2 C2 => xb ((eG tk pl vl wi nm nt N0 E).1 (t2 + 1)) (fun b t3 L3 C3 => if a = b then xok a t3 (L ++ L2 ++ L3 ++ [(6, 0, 0)]) (C + C2 + C3 + max c a) else xno 30 (pl t1))) else xok c t1 L C)) := by
              rcases n2 with ⟨fp, x1, x2, x3⟩ | ⟨x1, x2, w, a, L, C, x3, x4, x5, x6, x7, x8⟩
              · have o := (v16.1 fp x1).mono ek3 (by decide) (by decide)
                refine ⟨c12, off_choose o.off, Eb.rfl, fun q z => by rw [x2 q z]; exact o, fun z => ⟨.inl fp, x3 z, fun f p e => (by cases e; exact o), fun _ _ _ _ e => (by cases e)⟩⟩
              · rw [x3]
                rcases st3 with ⟨fp, y1, y2, y3⟩ | ⟨y1, b, L3, C3, y2, y3, y4⟩
                · refine ⟨c12, off_choose y1.off, Eb.rfl, fun q z => (by rw [x2] at z; cases z), fun _ => ⟨.inl fp, by have := y3 x1; dsimp only [gInc] at this; rw [this]; rfl, fun f p e => (by cases e; exact y1), fun _ _ _ _ e => (by cases e)⟩⟩
                · have hT' := hT x2
                  have y4' : σ2.1 + 1 + L3.length ≤ σ3.1 := y4
                  have y2' : (eG tk pl vl wi nm nt N0 E).1 (σ2.1 + 1) = some (.inr (b, σ3.1, L3, C3)) := y2
                  subst x6 x7 x8
                  have mo : MO fd lit lc c T sz C0 c12 [b, a, w] (L ++ L3) (C + C3) := x4.sub y3
                  have ll : (L ++ L3).length = L.length + L3.length := List.length_append
                  have tn3 := v10.2.1
                  obtain ⟨z1, z2⟩ := mo.cho (N := N) (p := pl σ1.1) (by omega)
                  rw [y2']
                  by_cases ab : a = b
                  · obtain ⟨c13, w1, w2, w3⟩ := z1 ab
                    refine ⟨c13, w1, w3, fun q z => (by rw [x2] at z; cases z), fun _ => ⟨.inr (a, σ3.1, L ++ L3 ++ [(6, 0, 0)], C + C3 + max w a), ?_, fun f p e => (by cases e), fun _ _ _ _ e => ?_⟩⟩
                    · show (if a = b then _ else _) = _
                      rw [if_pos ab]; rfl
                    · cases e
                      exact ⟨rfl, by simp; omega, x4.2.1.2.1, x4.2.1.2.2.1, w2⟩
                  · obtain ⟨c13, w1, w2, w3⟩ := z2 ab
                    refine ⟨c13, w1, w3, fun q z => (by rw [x2] at z; cases z), fun _ => ⟨.inl (30, pl σ1.1), ?_, fun f p e => (by cases e; exact w2), fun _ _ _ _ e => (by cases e)⟩⟩
                    show (if a = b then _ else _) = _
                    rw [if_neg ab]; rfl
            clear n2 st3
            obtain ⟨c13, w1, w2, w3⟩ := fin
            have eF : CE c c13 := ((eC2.trans v9).trans (ek3.mono (by decide) (by decide))).trans w2.toCE
            refine ⟨k + 1 + k2 + 1 + k3, c10, c13, f3, r2.trans v1, by show _ ≤ 3 * (σ3.1 - σ.1); omega, v3, v4, ?_, by omega, ?_, ⟨?_, fun j hj => ⟨?_, ?_, ?_⟩⟩, eF, hG12.mono w2 (fun k _ _ => by simp; omega) (by decide), v11, by show σ3.2.1 - 1 = σ.2.1; omega, by show σ.1 < σ3.1; omega, v14, v15, w3⟩
            · rw [v5]
              exact hd100_colon (h := h) (p := pl σ1.1) (by omega) v8.1 k58 kp (by rw [hcB]; exact w1)
            · rw [w2.1 264 (by decide), ek3.1 264 (by decide)]; exact v7
            · rw [w2.1 275 (by decide), ← hcB]; rfl
            · rw [w2.1 272 (by decide), ek3.1 272 (by decide), (v8.2 j (by omega)).1, j72, upd_ne (by omega), (q8.2 j (by omega)).1, k72, upd_ne (by omega)]; exact (p7.2 j hj).1
            · rw [w2.1 273 (by decide), ek3.1 273 (by decide), (v8.2 j (by omega)).2.1, j73, (q8.2 j (by omega)).2.1, k73, upd_ne (by omega)]; exact (p7.2 j hj).2.1
            · rw [w2.1 274 (by decide), ek3.1 274 (by decide), (v8.2 j (by omega)).2.2, j74, (q8.2 j (by omega)).2.2, k74, upd_ne (by omega)]; exact (p7.2 j hj).2.2
        · refine ⟨gTake tk pl 58 σ2, by rw [gE_dead2 s3 (by omega) (by omega), obind, gDn_dead s3], Or.inl ⟨s3, by clear m2; omega, k + 1 + k2 + 1, _, r2, by clear m2; omega, hG9⟩⟩
  · refine ⟨σ1, by unfold gXf; rw [gIs_f q, if_neg (by decide)], Or.inr ⟨k, c1, c2, N, p1, p2, p4.alive p10, p3, ?_, by omega, p6, p7, p8, p9, p10, p11, p12, p13, q, p14.1, fun z => ?_⟩⟩
    · rw [mv7 p3]
      unfold fn_Grammar_behindOperand_Gr
      rw [kk, rankI, obind]
      dsimp only
      rw [rr, if_pos (show nI 0 ≤ 0 by decide), p5, obind]
      dsimp only
      rw [if_neg (show ¬ c2.1 214 0 = 63 from kneg (k := 63) Tk p9 (by decide) (fun _ => q))]
    · obtain ⟨x, w1, w2, w3⟩ := p14.2 z
      rw [w1]
      match x, w2, w3 with
      | .inl (f, p), w2, _ => exact ⟨_, rfl, fun f' p' e => (by cases e; exact w2 f p rfl), fun _ _ _ _ e => (by cases e)⟩
      | .inr (w, t', L, C), _, w3 =>
        have w4 := w3 _ _ _ _ rfl
        refine ⟨.inr (w, t', L, C), ?_, fun f' p' e => (by cases e), w3⟩
        show (if tk t' = 63 then _ else _) = _
        rw [w4.1, if_neg q]; rfl
theorem exp_step {m : Nat} (Tk : Tv tk pl nt) (hE : ExpC tk pl vl wi nm nt ex N N0 N1 fd lit lc m) (hE1 : ∀ m', m = m' + 1 → ExpC tk pl vl wi nm nt ex N N0 N1 fd lit lc m') (hN : 13000 < N) (hN1 : 12002 < N1) (hN0 : 12002 < N0) : ExpC tk pl vl wi nm nt ex N N0 N1 fd lit lc (m + 1) := by
  intro D D2 c σ h μ T sz C0 hD hD2 hm h0 hS hG h6 hh hh2 hb hs
  obtain ⟨D, rfl⟩ : ∃ D', D = D' + 3 := ⟨D - 3, by omega⟩
  obtain ⟨E, rfl⟩ : ∃ E', D2 = E' + 5 := ⟨D2 - 5, by omega⟩
  have l1 := Tk.2.1
  have d60 : σ.2.1 ≤ 60 := (hG.2.2.2.1 h0).2.2.2.2.2.2
  -- an exp off may have any base: take 0
  have key : ∀ T sz C0, T ≤ 12 * σ.2.1 + 11 → (μ = none → T ≤ 12 * σ.2.1 ∧ sz ≤ σ.1) → Stat c μ T sz C0 (12 * σ.2.1) σ.1 → ∃ σ', (gG tk pl N1 (D + 3)).1 σ = some σ' ∧ (DeadP tk pl nt ex N c σ σ' ∨ ExpPost tk pl nt ex N fd lit lc c σ σ' h μ T sz C0 ((eG tk pl vl wi nm nt N0 (E + 5)).1 σ.1)) := by
    intro T sz C0 hT hT2 hs
    obtain ⟨σ1, o1, o2⟩ := oper_C (N0 := N0) (N1 := N1) (D := D) (E := E) (c := c) (σ := σ) (h := h) (μ := μ) (T := T) (sz := sz) (C0 := C0) Tk hE hE1 hN hN1 hN0 (by omega) (by omega) (by omega) h0 hS hG h6 hh (by omega) hT ⟨hs.1, fun z => ⟨(hs.2 z).1, by have := (hs.2 z).2.1; omega, (hs.2 z).2.2⟩⟩
    have ge : (gG tk pl N1 (D + 3)).1 σ = gXl tk pl (gG tk pl N1 (D + 2)).1 (gG tk pl N1 (D + 2)).2.1 N1 σ1 := by
      show ((gG tk pl N1 (D + 2)).2.1 σ).bind _ = _
      rw [o1]; rfl
    rw [ge]
    rcases o2 with dd | pp
    · refine ⟨σ1, ?_, Or.inl dd⟩
      obtain ⟨n1, rfl⟩ : ∃ n', N1 = n' + 1 := ⟨N1 - 1, by omega⟩
      unfold gXl
      rw [if_neg (fun q => dd.1 q.1)]
      unfold gXf
      rw [gIs_dead dd.1, if_neg (by decide)]
    · obtain ⟨k, c1, c2, f, q1, q2, q3, q4, q5, q6, q7, q8, q9, q10, q11, q12, q13, q14⟩ := pp
      have bs : BinS tk pl nt fd lit lc c c2 μ T sz C0 σ.1 σ1.1 (eG tk pl vl wi nm nt N0 (E + 3)).2.2.1 N0 [] (eBin tk pl nt N0 (eG tk pl vl wi nm nt N0 (E + 3)).2.2.1 σ.1) := by
        cases hμ : μ with
        | some fp => exact Or.inl ⟨fp, q14.1 fp hμ, fun q z => (by cases z; rfl), fun z => (by cases z)⟩
        | none =>
          rw [hμ] at q14
          exact BinS.of (μ3 := none) (ws := []) (L := []) (C := 0) (T3 := T) (sz3 := sz) (C3 := C0) (t3 := σ.1) (Or.inr ⟨rfl, rfl, MO.start (hs.2 hμ).1, rfl, rfl, rfl, rfl, by simp, (hs.2 hμ).2.2, by
            show xb _ _ = _
            congr 1
            funext w t2 L2 C2
            rw [List.nil_append, Nat.zero_add]⟩) q14
      have := bin_loop (N0 := N0) (N1 := N1) (D := D) (E := E) (c0 := c) (σ0 := σ) (h := h) (μ := μ) (T := T) (sz := sz) (C0 := C0) Tk hE hE1 hN hN1 hN0 (by omega) (by omega) (by omega) hS hh2 (fun z => (hT2 z).1) hb nt N0 N1 c1 c2 f k σ1 [] (by omega) (by omega) (by omega) q1 q2 q3 q4 q5 q6 q7 q8.1 q8.2 trivial trivial q9 q10 q11 q12 q13 bs
      rcases this with ⟨σ', g1, g2⟩ | ⟨σ', g1, g2⟩
      · exact ⟨σ', g1, Or.inl g2⟩
      · rw [g1]
        exact cho_C (D := D + 2) (E := E + 4) Tk hE hN hN1 (by omega) (by omega) (by omega) (by omega) hS hh2 hT2 g2
  cases hμ : μ with
  | some fp =>
    subst hμ
    obtain ⟨σ', g1, g2⟩ := key 0 0 0 (by omega) (fun z => (by cases z)) ⟨hs.1, fun z => (by cases z)⟩
    refine ⟨σ', g1, g2.imp (fun z => z) (fun ⟨k, c1, c2, f, x1, x2, x3, x4, x5, x6, x7, x8, x9, x10, x11, x12, x13, x14, x15, x16⟩ => ⟨k, c1, c2, f, x1, x2, x3, x4, x5, x6, x7, x8, x9, x10, x11, x12, x13, x14, x15, x16.1, fun z => (by cases z)⟩)⟩
  | none =>
    subst hμ
    exact key T sz C0 (by have := (hs.2 rfl).2.1; omega) (fun _ => (hs.2 rfl).2) hs
theorem exp_all (Tk : Tv tk pl nt) (hN : 13000 < N) (hN1 : 12002 < N1) (hN0 : 12002 < N0) : ∀ m, ExpC tk pl vl wi nm nt ex N N0 N1 fd lit lc m ∧ ExpC tk pl vl wi nm nt ex N N0 N1 fd lit lc (m + 1) := by
  intro m
  have z : ExpC tk pl vl wi nm nt ex N N0 N1 fd lit lc 0 := by
    intro D D2 c σ h μ T sz C0 hD hD2 hm h0 hS hG
    have := (hG.2.2.2.1 h0).2.2.2.2.2.2
    omega
  induction m with
  | zero => exact ⟨z, exp_step Tk z (fun m' e => (by cases e)) hN hN1 hN0⟩
  | succ m ih => exact ⟨ih.2, exp_step Tk ih.2 (fun m' e => (by cases e; exact ih.1)) hN hN1 hN0⟩
/-- an exp of the class -/
theorem exp_C {c : ms} {σ : gs} {h T sz C0 : Nat} {μ : Option (Nat × Nat)} (Tk : Tv tk pl nt) (hN : 13000 < N) (hN1 : 12002 < N1) (hN0 : 12002 < N0) (h0 : σ.2.2.1 = 0) (hS : CS tk pl vl wi nm nt ex N fd lit lc c) (hG : CG tk pl nt ex c σ) (h6 : c.1 264 0 = 6) (hh : c.1 275 0 = nI h) (hh2 : h ≤ 12 * σ.2.1) (hb : Hb c h) (hs : Stat c μ T sz C0 (12 * σ.2.1) σ.1) : ∃ σ', gE tk pl N1 σ = some σ' ∧ (DeadP tk pl nt ex N c σ σ' ∨ ExpPost tk pl nt ex N fd lit lc c σ σ' h μ T sz C0 (eE tk pl vl wi nm nt N0 σ.1)) := by
  have d60 : σ.2.1 ≤ 60 := (hG.2.2.2.1 h0).2.2.2.2.2.2
  exact (exp_all (N0 := N0) (N1 := N1) (vl := vl) (wi := wi) (nm := nm) (fd := fd) (lc := lc) (lit := lit) (ex := ex) Tk hN hN1 hN0 (61 - σ.2.1)).1 400 400 c σ h μ T sz C0 (by omega) (by omega) (by omega) h0 hS hG h6 hh hh2 hb hs
end CEXP
