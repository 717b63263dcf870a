/-! The class's parts and names. -/
section CNAME
variable {tk pl vl wi : Nat → Nat} {nm : Nat → Option (Nat × Nat)} {nt : Nat} {ex : Nat → Int32} {N N0 N1 fd lc : Nat} {lit : Nat → Int64}
/-- part: its numbers where the grammar goes on -/
theorem kpart {c : ms} {σ σ' : gs} (Tk : Tv tk pl nt) (hv : ∀ i, i < nt → tk i = 401 → ex i = nI (vl i) ∧ vl i < 65536) (h0 : σ.2.2.1 = 0) (hG : CG tk pl nt ex c σ) (hs : gShut tk pl 93 (gPart tk pl σ) = some σ') : ∃ v c', fn_Grammar_part_Gr N c = some (v, c') ∧ CG tk pl nt ex c' σ' ∧ F7 c c' ∧ σ.1 ≤ σ'.1 ∧
    (σ'.2.2.1 = 0 → tk σ.1 = 401 ∧ σ'.2.2 = σ.2.2 ∧ ((tk (σ.1 + 1) = 58 ∧ tk (σ.1 + 2) = 401 ∧ tk (σ.1 + 3) = 93 ∧ σ'.1 = σ.1 + 4 ∧ v = prt (vl σ.1) (vl (σ.1 + 2)) ∧ σ.1 + 3 < nt ∧ vl σ.1 < 65536 ∧ vl (σ.1 + 2) < 65536) ∨ (tk (σ.1 + 1) = 93 ∧ σ'.1 = σ.1 + 2 ∧ v = prt (vl σ.1) (vl σ.1) ∧ vl σ.1 < 65536)) ∧ σ'.2.1 + 1 = σ.2.1) := by
  obtain ⟨c1, a1, a2, a3⟩ := kneed (N := N) Tk 401 (by decide) hG
  unfold fn_Grammar_part_Gr
  rw [show fn_Tokens_need_Tk N 3 c = some ((), c1) from a1, obind]
  dsimp only
  have fin : ∀ (x1 x2 : Int32) (c2 : ms) (σ2 : gs), CG tk pl nt ex c2 σ2 → F7 c c2 → gShut tk pl 93 σ2 = some σ' → ∃ v c', bk_Grammar_part_Gr_53 N x1 x2 c2 = some (v, c') ∧ v = (((x1 : Int32) <<< (16 &&& 31)) ||| (x2 &&& 65535)) ∧ CG tk pl nt ex c' σ' ∧ F7 c c' := by
    intro x1 x2 c2 σ2 g1 g2 g3
    unfold bk_Grammar_part_Gr_53
    obtain ⟨c3, b1, b2, b3⟩ := kshut (N := N) Tk 93 (by decide) g1 g3
    rw [show fn_Tokens_shut_Tk N 93 c2 = some ((), c3) from b1, obind]
    exact ⟨_, c3, rfl, rfl, b2, g2.trans b3⟩
  have shut : ∀ σ2 : gs, σ2.2.2.1 = 0 → gShut tk pl 93 σ2 = some σ' → (σ2.1 ≤ σ'.1) ∧ (σ'.2.2.1 = 0 → tk σ2.1 = 93 ∧ σ'.1 = σ2.1 + 1 ∧ σ'.2.1 + 1 = σ2.2.1 ∧ σ'.2.2 = σ2.2.2) := by
    intro σ2 g1 g2
    by_cases d0 : 0 < σ2.2.1
    · rcases gShut_cases (tk := tk) (pl := pl) 93 σ2 g1 d0 with ⟨u1, u2⟩ | ⟨u1, σ3, u2, u3, u4⟩
      · rw [u2] at g2; cases g2
        exact ⟨by show σ2.1 ≤ σ2.1 + 1; omega, fun _ => ⟨u1, rfl, by show σ2.2.1 - 1 + 1 = σ2.2.1; omega, rfl⟩⟩
      · rw [u2] at g2; cases g2
        exact ⟨by omega, fun z => absurd z u3⟩
    · unfold gShut at g2
      rcases gTake_cases (tk := tk) (pl := pl) 93 σ2 g1 with ⟨u1, u2⟩ | ⟨u1, u2, u3, u4⟩
      · rw [u2] at g2
        unfold gDn gInc at g2
        rw [if_pos g1, if_pos (show σ2.2.1 = 0 by omega)] at g2
        cases g2
      · rw [gDn_dead u3] at g2
        cases g2
        exact ⟨by omega, fun z => absurd z u3⟩
  unfold gPart at hs
  rcases gTake_cases (tk := tk) (pl := pl) 401 σ h0 with ⟨s1, s2⟩ | ⟨s1, s2, s3, s4⟩
  · rw [s2] at a2 hs
    have t1n := Tk.more hG.2.1 s1 (by decide) (by decide)
    have ve := hv _ hG.2.1 s1
    have x16 : c.1 216 0 = nI (vl σ.1) := by rw [(hG.2.2.2.1 h0).2.2.2.1]; exact ve.1
    by_cases c58 : tk (σ.1 + 1) = 58
    · rw [gIs_t (show (gInc σ).2.2.1 = 0 from h0) c58, if_pos rfl] at hs
      have t2n := Tk.more (show (gInc σ).1 < nt from t1n) c58 (by decide) (by decide)
      rw [if_pos (show c1.1 214 0 = 58 from kpos (k := 58) a2 h0 c58)]
      obtain ⟨c2, b1, b2, b3⟩ := ktake (N := N) Tk a2 (fun _ => t2n)
      rw [if_pos (show (gInc σ).2.2.1 = 0 from h0)] at b2
      rw [b1, obind]
      dsimp only
      obtain ⟨c3, d1, d2, d3⟩ := kneed (N := N) Tk 401 (by decide) b2
      rw [show fn_Tokens_need_Tk N 3 c2 = some ((), c3) from d1, obind, x16]
      obtain ⟨v, c', e1, e2, e3, e4⟩ := fin (nI (vl σ.1)) (c2.1 216 0) c3 _ d2 ((a3.trans b3).trans d3) hs
      rcases gTake_cases (tk := tk) (pl := pl) 401 (gInc (gInc σ)) h0 with ⟨w1, w2⟩ | ⟨w1, w2, w3, w4⟩
      · rw [w2] at hs
        have ve2 := hv (σ.1 + 2) t2n w1
        have y16 : c2.1 216 0 = nI (vl (σ.1 + 2)) := by rw [(b2.2.2.2.1 h0).2.2.2.1]; exact ve2.1
        obtain ⟨h1, h2⟩ := shut _ (show (gInc (gInc (gInc σ))).2.2.1 = 0 from h0) hs
        refine ⟨v, c', e1, e3, e4, by have : σ.1 + 1 + 1 + 1 ≤ σ'.1 := h1; omega, fun z => ?_⟩
        obtain ⟨i1, i2, i3, i4⟩ := h2 z
        have t3n := Tk.more (show σ.1 + 2 < nt from t2n) w1 (by decide) (by decide)
        refine ⟨s1, i4, Or.inl ⟨c58, w1, i1, i2, ?_, t3n, ve.2, ve2.2⟩, i3⟩
        rw [e2, y16, prt_eq ve.2 ve2.2]
      · have hd := w3
        unfold gShut at hs
        rw [gTake_dead hd, gDn_dead hd] at hs
        cases hs
        refine ⟨v, c', e1, e3, e4, by rw [w4]; show σ.1 ≤ σ.1 + 1 + 1; omega, fun z => absurd z hd⟩
    · rw [gIs_f (show tk (gInc σ).1 ≠ 58 from c58), if_neg (by decide)] at hs
      rw [if_neg (show ¬ c1.1 214 0 = 58 from kneg (k := 58) Tk a2 (by decide) (fun _ => c58)), x16]
      obtain ⟨v, c', e1, e2, e3, e4⟩ := fin (nI (vl σ.1)) (nI (vl σ.1)) c1 _ a2 a3 hs
      obtain ⟨h1, h2⟩ := shut _ (show (gInc σ).2.2.1 = 0 from h0) hs
      refine ⟨v, c', e1, e3, e4, by have : σ.1 + 1 ≤ σ'.1 := h1; omega, fun z => ?_⟩
      obtain ⟨i1, i2, i3, i4⟩ := h2 z
      refine ⟨s1, i4, Or.inr ⟨i1, i2, ?_, ve.2⟩, i3⟩
      rw [e2, prt_eq ve.2 ve.2]
  · rw [gIs_dead s3, if_neg (by decide)] at hs
    unfold gShut at hs
    rw [gTake_dead s3, gDn_dead s3] at hs
    cases hs
    have k58 : ¬ c1.1 214 0 = 58 := kneg (k := 58) Tk a2 (by decide) (fun z => absurd z s3)
    rw [if_neg k58]
    obtain ⟨v, c', e1, e2, e3, e4⟩ := fin (c.1 216 0) (c.1 216 0) c1 _ a2 a3 (gShut_dead s3 93)
    exact ⟨v, c', e1, e3, e4, by omega, fun z => absurd z s3⟩
/-- the name itself -/
theorem nam1 {c : ms} {σ : gs} {T sz C0 b : Nat} {μ : Option (Nat × Nat)} (Tk : Tv tk pl nt) (h0 : σ.2.2.1 = 0) (hS : CS tk pl vl wi nm nt ex N fd lit lc c) (hG : CG tk pl nt ex c σ) (hs : Stat c μ T sz C0 b σ.1) (hb : b < 850) (hk : tk σ.1 = 400) : ∃ c1, fn_Checker_name_Ch N (c.1 216 0) (c.1 215 0) c = some ((), c1) ∧ XE c c1 ∧ (∀ fp, μ = some fp → Off c1 fp.1 fp.2) ∧ (μ = none → nm σ.1 = none → Off c1 22 (pl σ.1)) ∧ (∀ q, μ = none → nm σ.1 = some q → MO fd lit lc c T sz C0 c1 [q.2] [(1, q.1, 0)] 0 ∧ 1 ≤ q.2 ∧ q.2 ≤ 64) := by
  have l1 := Tk.2.1
  obtain ⟨w, e1, e2⟩ := hS.2.2.2.2.2.2.2 _ hG.2.1 hk
  obtain ⟨y, y1, y2, y3, y4⟩ := e2 c Eb.rfl
  have k16 : c.1 216 0 = nI w := by rw [(hG.2.2.2.1 h0).2.2.2.1]; exact e1
  have p15 : c.1 215 0 = nI (pl σ.1) := (hG.2.2.2.1 h0).2.2.1
  rw [k16, p15]
  cases μ with
  | some fp => exact ⟨c, off_name (hs.1 fp rfl).off, Eb.rfl, hs.1, fun z => (by cases z), fun q z => (by cases z)⟩
  | none =>
    obtain ⟨x1, x2, x3⟩ := hs.2 rfl
    cases hn : nm σ.1 with
    | none =>
      obtain ⟨c1, a1, a2, a3⟩ := (MO.start (fd := fd) (lit := lit) (lc := lc) x1).nameNo (N := N) (p := pl σ.1) y1 (y3 hn)
      exact ⟨c1, a1, a3, fun fp z => (by cases z), fun _ _ => a2, fun q _ z => (by cases z)⟩
    | some q =>
      obtain ⟨z1, z2, z3, z4, z5, z6⟩ := y2 q hn
      have y5 := y4 q hn
      rw [z1] at y1 y5
      obtain ⟨c1, a1, a2, a3⟩ := (MO.start (fd := fd) (lit := lit) (lc := lc) x1).name (N := N) (x := nI (pl σ.1)) (by simp; omega) (by simp; have := hG.2.1; omega) z2 y1 z3 hS.2.2.2.1 z4 z5 z6 y5
      exact ⟨c1, a1, a3, fun fp z => (by cases z), fun _ z => (by cases z), fun q' _ z => (by cases z; exact ⟨a2, z5, z6⟩)⟩
theorem pri_name {m : Nat} {c : ms} {σ : gs} {h T sz C0 D E : Nat} {μ : Option (Nat × Nat)} {eBr : Nat → Nat → xr} {gB : gs → Option gs} (Tk : Tv tk pl nt) (hE : ExpC tk pl vl wi nm nt ex N N0 N1 fd lit lc m) (hN : 100 < N) (hN1 : 0 < N1) (hD : 3 * m + 2 ≤ D) (hE2 : 5 * m ≤ E) (hm : σ.2.1 + m + 1 = 61) (h0 : σ.2.2.1 = 0) (hS : CS tk pl vl wi nm nt ex N fd lit lc c) (hG : CG tk pl nt ex c σ) (h6 : c.1 264 0 = 6) (hh : c.1 275 0 = nI h) (hh2 : h ≤ 12 * σ.2.1 + 11) (hs : Stat c μ T sz C0 (12 * σ.2.1 + 11) σ.1) (hk : tk σ.1 = 400) : ∃ σ', gPri tk pl (gG tk pl N1 D).1 gB σ = some σ' ∧ (DeadP tk pl nt ex N c σ σ' ∨ PriPost tk pl nt ex N fd lit lc c σ σ' h μ T sz C0 (eP1 tk pl vl wi nm nt (eG tk pl vl wi nm nt N0 E).1 eBr σ.1)) := by
  have l1 := Tk.2.1
  have d60 : σ.2.1 ≤ 60 := (hG.2.2.2.1 h0).2.2.2.2.2.2
  have t1n := Tk.more hG.2.1 hk (by decide) (by decide)
  obtain ⟨c1, a1, a2, a3, a4, a5⟩ := nam1 (N := N) Tk h0 hS hG hs (by omega) hk
  have hG1 : CG tk pl nt ex c1 σ := hG.mono a2 (fun k _ _ => by simp; omega) (by decide)
  obtain ⟨c2, b1, b2, b3⟩ := ktake (N := N) Tk hG1 (fun _ => t1n)
  rw [if_pos h0] at b2
  have e2 : CE c c2 := (a2.mono (by decide) (by decide)).trans (b3.mono (by decide) (by decide))
  have gpri : gPri tk pl (gG tk pl N1 D).1 gB σ = (if gIs tk 91 (gInc σ) then (if gIs tk 401 (gOpen tk pl 91 (gInc σ)) then gShut tk pl 93 (gPart tk pl (gOpen tk pl 91 (gInc σ))) else ((gG tk pl N1 D).1 (gOpen tk pl 91 (gInc σ))).bind (fun σ => gShut tk pl 93 σ)) else some (gInc σ)) := by
    unfold gPri
    rw [gIs_f (show tk σ.1 ≠ 402 by omega), if_neg (by decide), gIs_t h0 hk, if_pos rfl]
  have ep : eP1 tk pl vl wi nm nt (eG tk pl vl wi nm nt N0 E).1 eBr σ.1 = (match nm σ.1 with
    | none => xno 22 (pl σ.1)
    | some q => if tk (σ.1 + 1) = 91 then
        (if tk (σ.1 + 2) = 401 then
          (if tk (σ.1 + 3) = 58 then (if nt ≤ σ.1 + 5 ∨ tk (σ.1 + 4) ≠ 401 then none else if vl (σ.1 + 2) < vl (σ.1 + 4) ∨ q.2 ≤ vl (σ.1 + 2) then xno 30 (pl (σ.1 + 1)) else xok (vl (σ.1 + 2) - vl (σ.1 + 4) + 1) (σ.1 + 6) [(1, q.1, 0), (2, vl (σ.1 + 2), vl (σ.1 + 4))] 0)
          else (if q.2 ≤ vl (σ.1 + 2) then xno 30 (pl (σ.1 + 1)) else xok 1 (σ.1 + 4) [(1, q.1, 0), (2, vl (σ.1 + 2), vl (σ.1 + 2))] 0))
        else xb ((eG tk pl vl wi nm nt N0 E).1 (σ.1 + 2)) (fun w t2 L C => xok 1 (t2 + 1) ([(1, q.1, 0)] ++ L ++ [(3, q.2, 0)]) (C + max w q.2)))
      else xok q.2 (σ.1 + 1) [(1, q.1, 0)] 0) := by
    unfold eP1
    rw [if_neg (by omega), if_neg (by omega), if_neg (by omega), if_pos hk]
    cases nm σ.1 <;> rfl
  have mvs : mv N c = (if (c2.1 214 0) = 91 then ((fn_Tokens_open_Tk N 91 c2).bind (fun q_5 => if (q_5.2.1 214 0) = 3 then ((fn_Grammar_part_Gr N q_5.2).bind (fun q_7 => (fn_Checker_part_Ch N q_7.1 ((c2.1 215 0)) q_7.2).bind (fun q_10 => some ((), upI q_10.2 264 (fun _ => 7))))) else ((fn_Grammar_hold_Gr N 91 ((c2.1 215 0)) 0 q_5.2).bind (fun q_7 => some ((), q_7.2))))) else (some ((), upI c2 264 (fun _ => 7)))).bind (fun q_1 => some ((), q_1.2)) := by
    rw [mv6 h6]
    unfold fn_Grammar_operand_Gr
    rw [if_pos (show c.1 214 0 = 2 from kpos (k := 400) hG h0 hk)]
    unfold fn_Grammar_named_Gr
    rw [a1, obind]
    dsimp only
    rw [b1, obind]
  -- names, and the rows below
  have low : ∀ k, c2.1 238 k = c1.1 238 k ∧ c2.2 336 k = c1.2 336 k := fun k => ⟨by rw [b3.1 238 (by decide)], by rw [b3.2 336 (by decide)]⟩
  rw [gpri, ep]
  by_cases c91 : tk (σ.1 + 1) = 91
  · rw [gIs_t (show (gInc σ).2.2.1 = 0 from h0) c91, if_pos rfl]
    have t2n := Tk.more (show (gInc σ).1 < nt from t1n) c91 (by decide) (by decide)
    have p15 : c2.1 215 0 = nI (pl (σ.1 + 1)) := (b2.2.2.2.1 h0).2.2.1
    rw [if_pos (show c2.1 214 0 = 91 from kpos (k := 91) b2 h0 c91), p15] at mvs
    obtain ⟨c3, d1, d2, d3⟩ := kopen (N := N) Tk 91 (by decide) b2
    rw [show fn_Tokens_open_Tk N 91 c2 = some ((), c3) from d1, obind] at mvs
    dsimp only at mvs
    rw [gOpen_live (show (gInc σ).2.2.1 = 0 from h0) c91] at d2 ⊢
    by_cases o : 60 ≤ (gInc σ).2.1
    · rw [if_pos o] at d2 ⊢
      have dd : (((gInc σ).1, (gInc σ).2.1, 3, pl (gInc σ).1) : gs).2.2.1 ≠ 0 := by simp
      rw [if_neg (show ¬ c3.1 214 0 = 3 from kneg (k := 401) Tk d2 (by decide) (fun z => absurd z dd))] at mvs
      have hh3 : c3.1 275 0 = nI h := by rw [d3.1 275 (by decide), b3.1 275 (by decide), a2.1 275 (by decide)]; exact hh
      obtain ⟨c4, f1, f2, f3, f4, f5, f6⟩ := hold_C (N := N) (v1 := 91) (v2 := nI (pl (σ.1 + 1))) (v3 := 0) hh3 (by omega)
      rw [f1, obind, obind] at mvs
      rw [gIs_dead dd, if_neg (by decide), gE_dead2 dd hN1 (by omega)]
      exact ⟨_, gShut_dead dd 93, Or.inl (DeadP.one (hG.alive h0) (by rw [h6]; decide) mvs dd (by show σ.1 ≤ σ.1 + 1; omega) (d2.mono f6 (fun k _ _ => by simp; omega) (by decide)))⟩
    · rw [if_neg o] at d2 ⊢
      have e3 : CE c c3 := e2.trans (d3.mono (by decide) (by decide))
      have hh3 : c3.1 275 0 = nI h := by rw [d3.1 275 (by decide), b3.1 275 (by decide), a2.1 275 (by decide)]; exact hh
      have h63 : c3.1 264 0 = 6 := by rw [d3.1 264 (by decide), b3.1 264 (by decide), a2.1 264 (by decide)]; exact h6
      have ek3 : Eb [213, 214, 215, 216, 217, 218, 219] [] c1 c3 := b3.trans d3
      by_cases c401 : tk (σ.1 + 2) = 401
      · -- NAME part
        rw [gIs_t (σ := ((gInc σ).1 + 1, (gInc σ).2.1 + 1, (gInc σ).2.2)) h0 c401, if_pos rfl]
        rw [if_pos (show c3.1 214 0 = 3 from kpos (k := 401) d2 h0 c401)] at mvs
        have sh : ∃ σ', gShut tk pl 93 (gPart tk pl ((gInc σ).1 + 1, (gInc σ).2.1 + 1, (gInc σ).2.2)) = some σ' := by
          have dpos : ∀ σ2 : gs, σ2.2.2.1 ≠ 0 ∨ 0 < σ2.2.1 → ∃ σ', gShut tk pl 93 σ2 = some σ' := by
            intro σ2 z
            by_cases y : σ2.2.2.1 = 0
            · rcases gShut_cases (tk := tk) (pl := pl) 93 σ2 y (z.resolve_left (fun q => q y)) with ⟨-, u2⟩ | ⟨-, σ3, u2, -⟩ <;> exact ⟨_, u2⟩
            · exact ⟨_, gShut_dead y 93⟩
          have tkd : ∀ (σ2 : gs) k, σ2.2.2.1 ≠ 0 ∨ 0 < σ2.2.1 → (gTake tk pl k σ2).2.2.1 ≠ 0 ∨ 0 < (gTake tk pl k σ2).2.1 := by
            intro σ2 k z
            by_cases y : σ2.2.2.1 = 0
            · rcases gTake_cases (tk := tk) (pl := pl) k σ2 y with ⟨-, u2⟩ | ⟨-, -, u3, -⟩
              · rw [u2]; exact z
              · exact Or.inl u3
            · rw [gTake_dead y]; exact z
          apply dpos
          unfold gPart
          split
          · exact tkd _ _ (tkd _ _ (Or.inr (by show 0 < σ.2.1 + 1; omega)))
          · exact tkd _ _ (Or.inr (by show 0 < σ.2.1 + 1; omega))
        obtain ⟨σ', hσ'⟩ := sh
        obtain ⟨v, c4, f1, f2, f3, f4, f5⟩ := kpart (N := N) (vl := vl) Tk hS.2.2.2.2.2.1 (σ := ((gInc σ).1 + 1, (gInc σ).2.1 + 1, (gInc σ).2.2)) h0 d2 hσ'
        rw [f1, obind] at mvs
        dsimp only at mvs f4 f5
        refine ⟨σ', hσ', ?_⟩
        by_cases dd : σ'.2.2.1 = 0
        · right
          obtain ⟨g1, g2, g3, g4⟩ := f5 dd
          have ek4 : Eb [213, 214, 215, 216, 217, 218, 219] [] c1 c4 := ek3.trans f3
          have al4 := f2.alive dd
          -- the part is told
          have prt1 : ∃ c5, fn_Checker_part_Ch N v (nI (pl (σ.1 + 1))) c4 = some ((), c5) ∧ XE c4 c5 ∧ (∀ fp, μ = some fp → Off c5 fp.1 fp.2) ∧ (μ = none → nm σ.1 = none → Off c5 22 (pl σ.1)) ∧ (∀ q, μ = none → nm σ.1 = some q → ∀ hh l, v = prt hh l → hh < 65536 → l < 65536 → ((hh < l ∨ q.2 ≤ hh) → Off c5 30 (pl (σ.1 + 1))) ∧ (¬ (hh < l ∨ q.2 ≤ hh) → MO fd lit lc c T sz C0 c5 [hh - l + 1] ([(1, q.1, 0)] ++ [(2, hh, l)]) 0 ∧ hh - l + 1 ≤ 64)) := by
            by_cases on : μ = none ∧ ∃ q, nm σ.1 = some q
            · obtain ⟨on, q, hn⟩ := on
              obtain ⟨m1, m2, m3⟩ := a5 q on hn
              have m4 := m1.mono ek4 (by decide) (by decide) (by decide) al4
              have vv : ∃ hh l, v = prt hh l ∧ hh < 65536 ∧ l < 65536 := by
                rcases g3 with ⟨-, -, -, -, z1, -, z2, z3⟩ | ⟨-, -, z1, z2⟩
                · exact ⟨_, _, z1, z2, z3⟩
                · exact ⟨_, _, z1, z2, z2⟩
              obtain ⟨hh, l, z1, z2, z3⟩ := vv
              have pinj : ∀ h' l', v = prt h' l' → h' < 65536 → l' < 65536 → h' = hh ∧ l' = l := by
                intro h' l' y1 y2 y3
                rw [z1] at y1
                have := congrArg Int32.toInt y1
                unfold prt at this
                have y4 : nI (hh * 65536 + l) = nI (h' * 65536 + l') := y1
                have b1 := congrArg (fun x : Int32 => x.toBitVec.toNat) y4
                simp only [nI_bv, BitVec.toNat_ofNat] at b1
                rw [Nat.mod_eq_of_lt (by omega), Nat.mod_eq_of_lt (by omega)] at b1
                omega
              obtain ⟨p1, p2⟩ := m4.part (N := N) (hh := hh) (l := l) (p := pl (σ.1 + 1)) (by simp; have := (hs.2 on).2.2; have := hG.2.1; omega) z2 z3
              by_cases w : hh < l ∨ q.2 ≤ hh
              · obtain ⟨c5, r1, r2, r3⟩ := p2 w
                rw [← z1] at r1
                refine ⟨c5, r1, r3, fun fp z => (by rw [on] at z; cases z), fun _ z => (by rw [hn] at z; cases z), fun q' _ hn' h' l' y1 y2 y3 => ?_⟩
                obtain ⟨rfl, rfl⟩ := pinj h' l' y1 y2 y3
                have : q' = q := by rw [hn] at hn'; cases hn'; rfl
                subst this
                exact ⟨fun _ => r2, fun z => absurd w z⟩
              · obtain ⟨c5, r1, r2, r3⟩ := p1 w
                rw [← z1] at r1
                refine ⟨c5, r1, r3, fun fp z => (by rw [on] at z; cases z), fun _ z => (by rw [hn] at z; cases z), fun q' _ hn' h' l' y1 y2 y3 => ?_⟩
                obtain ⟨rfl, rfl⟩ := pinj h' l' y1 y2 y3
                have : q' = q := by rw [hn] at hn'; cases hn'; rfl
                subst this
                exact ⟨fun z => absurd z w, fun _ => ⟨r2, by omega⟩⟩
            · have of : OffC c4 := by
                cases μ with
                | some fp => exact ((a3 fp rfl).mono ek4 (by decide) (by decide)).off
                | none =>
                  cases hn : nm σ.1 with
                  | none => exact ((a4 rfl hn).mono ek4 (by decide) (by decide)).off
                  | some q => exact absurd ⟨rfl, q, hn⟩ on
              exact ⟨c4, off_part of, Eb.rfl, fun fp z => (a3 fp z).mono ek4 (by decide) (by decide), fun z1 z2 => (a4 z1 z2).mono ek4 (by decide) (by decide), fun q z1 z2 => absurd ⟨z1, q, z2⟩ on⟩
          obtain ⟨c5, r1, r2, r3, r4, r5⟩ := prt1
          rw [r1, obind, obind] at mvs
          dsimp only at mvs
          have hG5 : CG tk pl nt ex c5 σ' := f2.mono r2 (fun k _ _ => by simp; omega) (by decide)
          have tt : σ.1 + 4 ≤ σ'.1 := by
            rcases g3 with z | z
            · have : σ'.1 = σ.1 + 1 + 1 + 4 := z.2.2.2.1
              omega
            · have : σ'.1 = σ.1 + 1 + 1 + 2 := z.2.1
              omega
          have ek5 : Eb [264] [] c5 (upI c5 264 (fun _ => 7)) := Eb.rfl.upI (by decide)
          refine ⟨1, _, Rc.one (hG.alive h0) (by rw [h6]; decide) mvs, by omega, rfl, ⟨?_, fun j hj => ⟨?_, ?_, ?_⟩⟩, (((e3.trans (f3.mono (by decide) (by decide))).trans (r2.mono (by decide) (by decide)))).upI (by decide), hG5.upI (by decide), dd, by have : σ'.2.1 + 1 = σ.2.1 + 1 := g4; omega, by omega, ?_⟩
          · show c5.1 275 0 = nI h
            rw [r2.1 275 (by decide), f3.1 275 (by decide)]; exact hh3
          · show c5.1 272 j = _
            rw [r2.1 272 (by decide), f3.1 272 (by decide), d3.1 272 (by decide), b3.1 272 (by decide), a2.1 272 (by decide)]
          · show c5.1 273 j = _
            rw [r2.1 273 (by decide), f3.1 273 (by decide), d3.1 273 (by decide), b3.1 273 (by decide), a2.1 273 (by decide)]
          · show c5.1 274 j = _
            rw [r2.1 274 (by decide), f3.1 274 (by decide), d3.1 274 (by decide), b3.1 274 (by decide), a2.1 274 (by decide)]
          · refine ⟨fun fp z => (r3 fp z).mono ek5 (by decide) (by decide), fun z => ?_⟩
            cases hn : nm σ.1 with
            | none =>
              refine ⟨_, rfl, fun f p e' => ?_, fun _ _ _ _ e' => (by cases e')⟩
              cases e'
              exact (r4 z hn).mono ek5 (by decide) (by decide)
            | some q =>
              dsimp only
              rw [if_pos c91, if_pos c401]
              have fin : ∀ hh l t', v = prt hh l → hh < 65536 → l < 65536 → t' = σ'.1 → ∃ q', (if hh < l ∨ q.2 ≤ hh then xno 30 (pl (σ.1 + 1)) else xok (hh - l + 1) t' [(1, q.1, 0), (2, hh, l)] 0) = some q' ∧ (∀ f p, q' = .inl (f, p) → Off (upI c5 264 (fun _ => 7)) f p) ∧ (∀ w t'' L C, q' = .inr (w, t'', L, C) → t'' = σ'.1 ∧ σ.1 + L.length ≤ σ'.1 ∧ 1 ≤ w ∧ w ≤ 64 ∧ MO fd lit lc c T sz C0 (upI c5 264 (fun _ => 7)) [w] L C) := by
                intro hh l t' y1 y2 y3 y4
                obtain ⟨u1, u2⟩ := r5 q z hn hh l y1 y2 y3
                by_cases w : hh < l ∨ q.2 ≤ hh
                · rw [if_pos w]
                  refine ⟨_, rfl, fun f p e' => ?_, fun _ _ _ _ e' => (by cases e')⟩
                  cases e'
                  exact (u1 w).mono ek5 (by decide) (by decide)
                · rw [if_neg w]
                  obtain ⟨u3, u4⟩ := u2 w
                  refine ⟨_, rfl, fun f p e' => (by cases e'), fun _ _ _ _ e' => ?_⟩
                  cases e'
                  exact ⟨y4, by simp; omega, by omega, u4, u3.mono ek5 (by decide) (by decide) (by decide) (hG5.alive dd)⟩
              rcases g3 with ⟨z1, z2, z3, z4, z5, z6, z7, z8⟩ | ⟨z1, z2, z3, z4⟩
              · rw [if_pos (show tk (σ.1 + 3) = 58 from z1), if_neg (show ¬ (nt ≤ σ.1 + 5 ∨ tk (σ.1 + 4) ≠ 401) from fun y => y.elim (fun y => by have : σ.1 + 1 + 1 + 3 < nt := z6; omega) (fun y => y z2))]
                exact fin (vl (σ.1 + 2)) (vl (σ.1 + 4)) (σ.1 + 6) z5 z7 z8 z4.symm
              · rw [if_neg (show ¬ tk (σ.1 + 3) = 58 from fun y => by have : tk (σ.1 + 3) = 93 := z1; omega)]
                have := fin (vl (σ.1 + 2)) (vl (σ.1 + 2)) (σ.1 + 4) z3 z4 z4 z2.symm
                rw [Nat.sub_self] at this
                by_cases w : q.2 ≤ vl (σ.1 + 2)
                · rw [if_pos w]; rw [if_pos (Or.inr w)] at this; exact this
                · rw [if_neg w]; rw [if_neg (by omega)] at this; exact this
        · left
          rw [off_part (Or.inr (f2.dead dd)), obind, obind] at mvs
          dsimp only at mvs
          exact DeadP.one (hG.alive h0) (by rw [h6]; decide) mvs dd (by have : σ.1 + 1 + 1 ≤ σ'.1 := f4; omega) (f2.upI (by decide))
      · -- NAME [ exp ]
        rw [gIs_f (σ := ((gInc σ).1 + 1, (gInc σ).2.1 + 1, (gInc σ).2.2)) c401, if_neg (by decide)]
        rw [if_neg (show ¬ c3.1 214 0 = 3 from kneg (k := 401) Tk d2 (by decide) (fun _ => c401))] at mvs
        obtain ⟨c4, f1, f2, f3, f4, f5, f6⟩ := hold_C (N := N) (v1 := 91) (v2 := nI (pl (σ.1 + 1))) (v3 := 0) hh3 (by omega)
        rw [f1, obind, obind] at mvs
        have r1 : Rc N 1 c c4 := Rc.one (hG.alive h0) (by rw [h6]; decide) mvs
        have hG4 : CG tk pl nt ex c4 ((gInc σ).1 + 1, (gInc σ).2.1 + 1, (gInc σ).2.2) := d2.mono f6 (fun k _ _ => by simp; omega) (by decide)
        have e4 : CE c c4 := e3.trans (f6.mono (by decide) (by decide))
        have ek4 : Eb [213, 214, 215, 216, 217, 218, 219, 272, 273, 274, 275] [] c1 c4 := (ek3.mono (by decide) (by decide)).trans (f6.mono (by decide) (by decide))
        have k91 : c4.1 272 h = 91 := by rw [f3, upd_at]
        -- the status behind the name
        have st : ∃ μ', Stat c4 μ' (T + 1) (sz + 1) C0 (12 * (σ.2.1 + 1)) (σ.1 + 2) ∧ (∀ fp, μ = some fp → μ' = some fp) ∧ (μ = none → nm σ.1 = none → μ' = some (22, pl σ.1)) ∧ (∀ q, μ = none → nm σ.1 = some q → μ' = none ∧ MO fd lit lc c T sz C0 c4 [q.2] [(1, q.1, 0)] 0 ∧ 1 ≤ q.2 ∧ q.2 ≤ 64) := by
          cases μ with
          | some fp => exact ⟨some fp, ⟨fun q z => (by cases z; exact (a3 fp rfl).mono ek4 (by decide) (by decide)), fun z => (by cases z)⟩, fun q z => z.symm ▸ rfl, fun z => (by cases z), fun q z => (by cases z)⟩
          | none =>
            cases hn : nm σ.1 with
            | none => exact ⟨some (22, pl σ.1), ⟨fun q z => (by cases z; exact (a4 rfl hn).mono ek4 (by decide) (by decide)), fun z => (by cases z)⟩, fun q z => (by cases z), fun _ _ => rfl, fun q _ z => (by cases z)⟩
            | some q =>
              obtain ⟨m1, m2, m3⟩ := a5 q rfl hn
              have m4 := m1.mono ek4 (by decide) (by decide) (by decide) (hG4.alive h0)
              obtain ⟨x1, x2, x3⟩ := hs.2 rfl
              refine ⟨none, ⟨fun q z => (by cases z), fun _ => ⟨m4.1, by omega, by omega⟩⟩, fun q z => (by cases z), fun _ z => (by cases z), fun q' _ z => ?_⟩
              cases z
              exact ⟨rfl, m4, m2, m3⟩
        obtain ⟨μ', s1, s2, s3, s4⟩ := st
        obtain ⟨σ2, g1, g2⟩ := hE D E c4 ((gInc σ).1 + 1, (gInc σ).2.1 + 1, (gInc σ).2.2) (h + 1) μ' (T + 1) (sz + 1) C0 hD hE2 (by show σ.2.1 + 1 + m = 61; omega) h0 (hS.mono e4) hG4 (by rw [f6.1 264 (by decide)]; exact h63) f2 (by show h + 1 ≤ 12 * (σ.2.1 + 1); omega) (Or.inr (by rw [Nat.add_sub_cancel, k91]; decide)) s1
        rw [g1]
        show ∃ σ', gShut tk pl 93 σ2 = some σ' ∧ _
        rcases g2 with dd | ep
        · exact ⟨σ2, gShut_dead dd.1 93, Or.inl (dd.after r1 (by show 1 ≤ 3 * (σ.1 + 1 + 1 - σ.1); omega) (by show σ.1 ≤ σ.1 + 1 + 1; omega))⟩
        · obtain ⟨k, c5, c6, f, q1, q2, q3, q4, q5, q6, q7, q8, q9, q10, q11, q12, q13, q14, q15, q16⟩ := ep
          have q2' : k + 2 ≤ 3 * (σ2.1 - (σ.1 + 1 + 1)) := q2
          have q6' : N + (σ.2.1 + 1) ≤ f + 61 := q6
          have q12' : σ2.2.1 = σ.2.1 + 1 := q12
          have q13' : σ.1 + 1 + 1 < σ2.1 := q13
          obtain ⟨f, rfl⟩ : ∃ f', f = f' + 1 := ⟨f - 1, by omega⟩
          have k91' : c6.1 272 h = 91 := by rw [(q8.2 h (by omega)).1]; exact k91
          have cl : ∀ c7 c8, fn_Tokens_shut_Tk N 93 c6 = some ((), c7) → fn_Checker_index_Ch N c7 = some ((), c8) → mv N c5 = some ((), upI c8 275 (fun _ => c8.1 275 0 - 1)) := by
            intro c7 c8 y1 y2
            rw [q5, hd100_stop (h := h) (by omega) q8.1 (by rw [k91']; decide)]
            unfold fn_Grammar_close_Gr
            rw [if_neg (nI_in (show h < 1024 by omega) (by decide)), nI_clamp (by omega), k91', if_neg (by decide), if_neg (by decide), if_neg (by decide), if_pos rfl, y1, obind]
            dsimp only
            rw [y2, obind, obind]
          rcases gShut_cases (tk := tk) (pl := pl) 93 σ2 q11 (by omega) with ⟨u1, u2⟩ | ⟨u1, σ3, u2, u3, u4⟩
          · obtain ⟨c7, t1, t2, t3⟩ := kshut (N := N) Tk 93 (by decide) q10 u2
            refine ⟨_, u2, Or.inr ?_⟩
            have al7 := t2.alive (show (σ2.1 + 1, σ2.2.1 - 1, σ2.2.2).2.2.1 = 0 from q11)
            -- the index is told
            have idx : ∃ c8, fn_Checker_index_Ch N c7 = some ((), c8) ∧ XE c7 c8 ∧ Outc fd lit lc c c8 μ T sz C0 σ.1 (σ2.1 + 1) (match nm σ.1 with
                | none => xno 22 (pl σ.1)
                | some q => xb ((eG tk pl vl wi nm nt N0 E).1 (σ.1 + 2)) (fun w t2 L C => xok 1 (t2 + 1) ([(1, q.1, 0)] ++ L ++ [(3, q.2, 0)]) (C + max w q.2))) := by
              have off : ∀ f p, Off c6 f p → ∃ c8, fn_Checker_index_Ch N c7 = some ((), c8) ∧ XE c7 c8 ∧ Off c8 f p := fun f p o => ⟨c7, off_index (o.mono t3 (by decide) (by decide)).off, Eb.rfl, o.mono t3 (by decide) (by decide)⟩
              cases hμ : μ with
              | some fp =>
                obtain ⟨c8, y1, y2, y3⟩ := off _ _ (q16.1 fp (s2 fp hμ))
                exact ⟨c8, y1, y2, fun q z => (by cases z; exact y3), fun z => (by cases z)⟩
              | none =>
                cases hn : nm σ.1 with
                | none =>
                  obtain ⟨c8, y1, y2, y3⟩ := off _ _ (q16.1 _ (s3 hμ hn))
                  refine ⟨c8, y1, y2, fun q z => (by cases z), fun _ => ⟨_, rfl, fun f p e' => (by cases e'; exact y3), fun _ _ _ _ e' => (by cases e')⟩⟩
                | some x =>
                  obtain ⟨n1, n2, n3, n4⟩ := s4 x hμ hn
                  obtain ⟨q, w1, w2, w3⟩ := q16.2 n1
                  have w1' : (eG tk pl vl wi nm nt N0 E).1 (σ.1 + 2) = some q := w1
                  dsimp only
                  rw [w1']
                  match q, w2, w3 with
                  | .inl (f, p), w2, w3 =>
                    obtain ⟨c8, y1, y2, y3⟩ := off _ _ (w2 f p rfl)
                    exact ⟨c8, y1, y2, fun q z => (by cases z), fun _ => ⟨_, rfl, fun f p e' => (by cases e'; exact y3), fun _ _ _ _ e' => (by cases e')⟩⟩
                  | .inr (w, t', L, C), w2, w3 =>
                    obtain ⟨v1, v2, v3, v4, v5⟩ := w3 _ _ _ _ rfl
                    have v2' : σ.1 + 1 + 1 + L.length ≤ σ2.1 := v2
                    have m5 := n2.sub (v5 : MO fd lit lc c4 (T + [x.2].length) (sz + [((1, x.1, 0) : aop)].length) (C0 + 0) c6 [w] L C)
                    have m6 := m5.mono (c' := c7) t3 (by decide) (by decide) (by decide) al7
                    have xs := (hs.2 hμ).2.2
                    have sn := t2.2.1
                    obtain ⟨c8, y1, y2, y3⟩ := MO.idx (N := N) (ws := []) (a := x.2) (b := w) m6 (by have : σ2.1 + 1 < nt := sn; simp; omega)
                    refine ⟨c8, y1, y3, fun q z => (by cases z), fun _ => ⟨_, rfl, fun f p e' => (by cases e'), fun _ _ _ _ e' => ?_⟩⟩
                    cases e'
                    refine ⟨by rw [v1], by simp; omega, by decide, by decide, ?_⟩
                    rw [Nat.zero_add] at y2
                    exact y2
            obtain ⟨c8, y1, y2, y3⟩ := idx
            have r2 : Rc N 1 c5 _ := Rc.one q3 (by rw [q4]; decide) (cl c7 c8 t1 y1)
            have hG8 : CG tk pl nt ex c8 (σ2.1 + 1, σ2.2.1 - 1, σ2.2.2) := t2.mono y2 (fun k _ _ => by simp; omega) (by decide)
            refine ⟨1 + k + 1, _, (r1.trans q1).trans r2, by show 1 + k + 1 + 2 ≤ 3 * (σ2.1 + 1 - σ.1); omega, by show c8.1 264 0 = 7; rw [y2.1 264 (by decide), t3.1 264 (by decide)]; exact q7, ⟨?_, fun j hj => ⟨?_, ?_, ?_⟩⟩, (((e4.trans q9).trans (t3.mono (by decide) (by decide))).trans (y2.mono (by decide) (by decide))).upI (by decide), hG8.upI (by decide), q11, by show σ2.2.1 - 1 = σ.2.1; omega, by show σ.1 < σ2.1 + 1; omega, ?_⟩
            · show c8.1 275 0 - 1 = nI h
              rw [y2.1 275 (by decide), t3.1 275 (by decide), q8.1, nI_pred]
            · show c8.1 272 j = _
              rw [y2.1 272 (by decide), t3.1 272 (by decide), (q8.2 j (by omega)).1, f3, upd_ne (by omega), d3.1 272 (by decide), b3.1 272 (by decide), a2.1 272 (by decide)]
            · show c8.1 273 j = _
              rw [y2.1 273 (by decide), t3.1 273 (by decide), (q8.2 j (by omega)).2.1, f4, upd_ne (by omega), d3.1 273 (by decide), b3.1 273 (by decide), a2.1 273 (by decide)]
            · show c8.1 274 j = _
              rw [y2.1 274 (by decide), t3.1 274 (by decide), (q8.2 j (by omega)).2.2, f5, upd_ne (by omega), d3.1 274 (by decide), b3.1 274 (by decide), a2.1 274 (by decide)]
            · have y4 := y3.mono (c' := upI c8 275 (fun _ => c8.1 275 0 - 1)) (ks := [275]) (js := []) (Eb.rfl.upI (by decide)) (by decide) (by decide) (by decide) (by decide) (hG8.alive q11)
              cases hn : nm σ.1 with
              | none => rw [hn] at y4; exact y4
              | some x => rw [hn] at y4; dsimp only at y4 ⊢; first | exact y4 | (rw [if_pos c91, if_neg c401]; exact y4)
          · obtain ⟨c7, t1, t2, t3⟩ := kshut (N := N) Tk 93 (by decide) q10 u2
            have r2 : Rc N 1 c5 _ := Rc.one q3 (by rw [q4]; decide) (cl c7 c7 t1 (off_index (Or.inr (t2.dead u3))))
            exact ⟨σ3, u2, Or.inl ⟨u3, by omega, 1 + k + 1, _, (r1.trans q1).trans r2, by omega, t2.upI (by decide)⟩⟩
  · -- NAME
    rw [gIs_f (show tk (gInc σ).1 ≠ 91 from c91), if_neg (by decide)]
    rw [if_neg (show ¬ c2.1 214 0 = 91 from kneg (k := 91) Tk b2 (by decide) (fun _ => c91)), obind] at mvs
    refine ⟨_, rfl, Or.inr ⟨1, _, Rc.one (hG.alive h0) (by rw [h6]; decide) mvs, by show 1 + 2 ≤ 3 * (σ.1 + 1 - σ.1); omega, rfl, ⟨?_, fun j hj => ⟨?_, ?_, ?_⟩⟩, e2.upI (by decide), b2.upI (by decide), h0, rfl, by show σ.1 < σ.1 + 1; omega, ?_⟩⟩
    · show c2.1 275 0 = nI h
      rw [b3.1 275 (by decide), a2.1 275 (by decide)]; exact hh
    · show c2.1 272 j = _
      rw [b3.1 272 (by decide), a2.1 272 (by decide)]
    · show c2.1 273 j = _
      rw [b3.1 273 (by decide), a2.1 273 (by decide)]
    · show c2.1 274 j = _
      rw [b3.1 274 (by decide), a2.1 274 (by decide)]
    · have ek : Eb [213, 214, 215, 216, 217, 218, 219, 264] [] c1 (upI c2 264 (fun _ => 7)) := (b3.mono (by decide) (by decide)).upI (by decide)
      refine ⟨fun fp z => (a3 fp z).mono ek (by decide) (by decide), fun z => ?_⟩
      cases hn : nm σ.1 with
      | none =>
        refine ⟨_, rfl, fun f p e' => ?_, fun _ _ _ _ e' => (by cases e')⟩
        cases e'
        exact (a4 z hn).mono ek (by decide) (by decide)
      | some q =>
        obtain ⟨m1, m2, m3⟩ := a5 q z hn
        dsimp only
        rw [if_neg c91]
        refine ⟨_, rfl, fun f p e' => (by cases e'), fun _ _ _ _ e' => ?_⟩
        cases e'
        exact ⟨rfl, by simp [gInc], m2, m3, m1.mono ek (by decide) (by decide) (by decide) (b2.alive h0)⟩
end CNAME
