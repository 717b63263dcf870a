/-! The class: a register is set, whole. -/
section CSET3
variable {tk pl vl wi : Nat → Nat} {nm : Nat → Option (Nat × Nat)} {nt : Nat} {ex : Nat → Int32} {N N0 N1 fd lc : Nat} {lit : Nat → Int64} {rg : Nat → Bool} {fz : Nat → Int32} {an dc : Nat} {P : Nat → Prop} {c0 : ms}
theorem gPart_dead {σ : gs} (h : σ.2.2.1 ≠ 0) : gPart tk pl σ = σ := by unfold gPart; rw [gTake_dead h, gIs_dead h, if_neg (by decide)]
theorem gSet_dead {σ : gs} (h : σ.2.2.1 ≠ 0) (hN : 0 < N1) : gSet tk pl N1 σ = some σ := by
  unfold gSet
  rw [gTake_dead h, show gE tk pl N1 σ = some σ from gE_dead2 h hN (by omega), obind, gTake_dead h]
theorem kpartD {c : ms} {σ : gs} (Tk : Tv tk pl nt) (h0 : σ.2.2.1 ≠ 0) (hG : CG tk pl nt ex c σ) : ∃ v c', fn_Grammar_part_Gr N c = some (v, c') ∧ CG tk pl nt ex c' σ ∧ F7 c c' := by
  obtain ⟨c1, a1, a2, a3⟩ := kneed (N := N) Tk 401 (by decide) hG
  rw [gTake_dead h0] at a2
  unfold fn_Grammar_part_Gr bk_Grammar_part_Gr_53
  rw [show fn_Tokens_need_Tk N 3 c = some ((), c1) from a1, obind]
  dsimp only
  rw [if_neg (show ¬ c1.1 214 0 = 58 from kneg (k := 58) Tk a2 (by decide) (fun z => absurd z h0))]
  obtain ⟨c2, b1, b2, b3⟩ := kshut (N := N) Tk 93 (by decide) a2 (gShut_dead h0 93)
  rw [show fn_Tokens_shut_Tk N 93 c1 = some ((), c2) from b1, obind]
  exact ⟨_, c2, rfl, b2, a3.trans b3⟩
/-- the rest of a store when the grammar has a fault -/
theorem stDead {c c3 : ms} {σ σ3 : gs} (Tk : Tv tk pl nt) (h0 : σ.2.2.1 = 0) (hG : CG tk pl nt ex c σ) (h4 : c.1 264 0 = 4) (hmv : mv N c = (bk_Grammar_store_Gr_69 N c3).bind (fun q_1 => some ((), q_1.2))) (dd : σ3.2.2.1 ≠ 0) (hG3 : CG tk pl nt ex c3 σ3) (hl3 : σ.1 ≤ σ3.1) : DeadP tk pl nt ex N c σ σ3 := by
  have hG3' : CG tk pl nt ex (upI c3 266 (fun _ => c3.1 215 0)) σ3 := hG3.upI (by decide)
  obtain ⟨c4, b1, b2, b3⟩ := kneed (N := N) Tk 260 (by decide) hG3'
  rw [gTake_dead dd] at b2
  unfold bk_Grammar_store_Gr_69 at hmv
  rw [show fn_Tokens_need_Tk N 9 (upI c3 266 (fun _ => c3.1 215 0)) = some ((), c4) from b1, obind] at hmv
  dsimp only at hmv
  unfold fn_Grammar_expFor_Gr at hmv
  have hG4 : CG tk pl nt ex (upI (upI (upI (upI c4 265 (fun _ => (9 : Int32))) 268 (fun _ => c4.1 215 0)) 269 (fun _ => c4.1 213 0)) 275 (fun _ => 0)) σ3 := (((b2.upI (by decide)).upI (by decide)).upI (by decide)).upI (by decide)
  rw [off_expBegins (Or.inr (hG4.dead dd)), obind, obind, obind] at hmv
  exact DeadP.one (hG.alive h0) (by rw [h4]; decide) hmv dd hl3 (hG4.upI (by decide))
theorem set_C {c : ms} {σ : gs} {μ : Option (Nat × Nat)} {sz C md kd : Nat} {S : Nat → Nat} (hQ : CQ tk pl vl wi nm nt ex N N0 N1 fd lit lc rg an dc P c0) (e : CE2 c0 c) (h0 : σ.2.2.1 = 0) (hG : CG tk pl nt ex c σ) (h4 : c.1 264 0 = 4) (hkd : c.1 271 0 = nI kd) (hs : StS rg fz dc c μ sz C md σ.1 S) (k0 : tk σ.1 ≠ 310) (k2 : tk σ.1 ≠ 312) (k4 : tk σ.1 ≠ 314) :
    ∃ σ', (if gIs tk 91 (gTake tk pl 400 σ) then (gShut tk pl 93 (gPart tk pl (gOpen tk pl 91 (gTake tk pl 400 σ)))).bind (gSet tk pl N1) else gSet tk pl N1 (gTake tk pl 400 σ)) = some σ' ∧ (DeadP tk pl nt ex N c σ σ' ∨ StPost tk pl nt ex N rg fz dc fd lit lc P c σ σ' kd μ sz C md (sSet tk pl vl wi nm nt rg N0 an σ.1 S)) := by
  have hQ' := hQ
  obtain ⟨T, hN, hN1, hN0, hS, hl, hn, h321, hdc, -⟩ := hQ
  have d60 : σ.2.1 ≤ 60 := (hG.2.2.2.1 h0).2.2.2.2.2.2
  have alv := hG.alive h0
  rcases gTake_cases (pl := pl) 400 σ h0 with ⟨s1, s2⟩ | ⟨s1, s2, s3, s4⟩
  · rw [s2]
    obtain ⟨c1, a1, a2, a3, a4⟩ := stTo hQ' e h0 hG s1 hs
    have hG1 : CG tk pl nt ex c1 σ := hG.mono a2 (fun k _ _ => by simp; omega) (by decide)
    have t1n := T.more hG.2.1 s1 (by decide) (by decide)
    obtain ⟨c2, b1, b2, b3⟩ := ktake (N := N) T hG1 (fun _ => t1n)
    rw [if_pos h0] at b2
    have e2 : Eb [213, 214, 215, 216, 217, 218, 219, 238, 239, 241, 242, 243, 249, 250, 251, 326, 337] [336] c c2 := (a2.mono (by decide) (by decide)).trans (b3.mono (by decide) (by decide))
    have al2 : c2.1 217 0 = nI 0 := b2.alive h0
    have kind2 : c.1 214 0 = 2 := kpos (k := 400) hG h0 s1
    have mvs : mv N c = ((fn_Tokens_take_Tk N c1).bind (fun q_3 => if (q_3.2.1 214 0) = 91 then ((fn_Tokens_open_Tk N 91 q_3.2).bind (fun q_5 => (fn_Grammar_part_Gr N q_5.2).bind (fun q_7 => (fn_Meaning_storePart_Me N q_7.1 ((q_3.2.1 215 0)) q_7.2).bind (fun q_10 => bk_Grammar_store_Gr_69 N q_10.2)))) else (bk_Grammar_store_Gr_69 N q_3.2))).bind (fun q_1 => some ((), q_1.2)) := by
      rw [mv4 h4]
      unfold fn_Grammar_statement_Gr fn_Grammar_store_Gr
      rw [if_pos kind2, a1, obind]
    rw [b1, obind] at mvs
    dsimp only at mvs
    by_cases c91 : tk (σ.1 + 1) = 91
    · rw [gIs_t (σ := gInc σ) h0 c91, if_pos rfl]
      rw [if_pos (show c2.1 214 0 = 91 from kpos (k := 91) b2 h0 c91), (b2.2.2.2.1 h0).2.2.1] at mvs
      obtain ⟨c3, d1, d2, d3⟩ := kopen (N := N) T 91 (by decide) b2
      rw [show fn_Tokens_open_Tk N 91 c2 = some ((), c3) from d1, obind] at mvs
      dsimp only at mvs
      rw [gOpen_live (σ := gInc σ) h0 c91] at d2 ⊢
      have e3 : Eb [213, 214, 215, 216, 217, 218, 219, 238, 239, 241, 242, 243, 249, 250, 251, 326, 337] [336] c c3 := e2.trans (d3.mono (by decide) (by decide))
      by_cases o : 60 ≤ (gInc σ).2.1
      · rw [if_pos o] at d2 ⊢
        have dd : (((gInc σ).1, (gInc σ).2.1, 3, pl (gInc σ).1) : gs).2.2.1 ≠ 0 := by simp
        obtain ⟨v, c4, f1, f2, f3⟩ := kpartD (N := N) T dd d2
        rw [f1, obind] at mvs
        dsimp only at mvs
        rw [off_storePart (Or.inr (f2.dead dd)), obind] at mvs
        dsimp only at mvs
        rw [gPart_dead dd, gShut_dead dd, obind, gSet_dead dd (by omega)]
        exact ⟨_, rfl, Or.inl (stDead T h0 hG h4 mvs dd f2 (by show σ.1 ≤ σ.1 + 1; omega))⟩
      · rw [if_neg o] at d2 ⊢
        have sh : ∃ σ', gShut tk pl 93 (gPart tk pl ((gInc σ).1 + 1, (gInc σ).2.1 + 1, (gInc σ).2.2)) = some σ' := by
          have dpos : ∀ σ2 : gs, σ2.2.2.1 ≠ 0 ∨ 0 < σ2.2.1 → ∃ σ', gShut tk pl 93 σ2 = some σ' := by
            intro σ2 z
            by_cases y : σ2.2.2.1 = 0
            · rcases gShut_cases (tk := tk) (pl := pl) 93 σ2 y (z.resolve_left (fun q => q y)) with ⟨-, u2⟩ | ⟨-, σ3, u2, -⟩ <;> exact ⟨_, u2⟩
            · exact ⟨_, gShut_dead y 93⟩
          have tkd : ∀ (σ2 : gs) k, σ2.2.2.1 ≠ 0 ∨ 0 < σ2.2.1 → (gTake tk pl k σ2).2.2.1 ≠ 0 ∨ 0 < (gTake tk pl k σ2).2.1 := by
            intro σ2 k z
            by_cases y : σ2.2.2.1 = 0
            · rcases gTake_cases (tk := tk) (pl := pl) k σ2 y with ⟨-, u2⟩ | ⟨-, -, u3, -⟩
              · rw [u2]; exact z
              · exact Or.inl u3
            · rw [gTake_dead y]; exact z
          apply dpos
          unfold gPart
          split
          · exact tkd _ _ (tkd _ _ (Or.inr (by show 0 < σ.2.1 + 1; omega)))
          · exact tkd _ _ (Or.inr (by show 0 < σ.2.1 + 1; omega))
        obtain ⟨σ3, hσ3⟩ := sh
        have cs := hS c e
        obtain ⟨v, c4, f1, f2, f3, f4, f5⟩ := kpart (N := N) (vl := vl) T cs.2.2.2.2.2.1 (σ := ((gInc σ).1 + 1, (gInc σ).2.1 + 1, (gInc σ).2.2)) h0 d2 hσ3
        rw [f1, obind] at mvs
        dsimp only at mvs f4 f5
        have f4' : σ.1 + 2 ≤ σ3.1 := f4
        rw [hσ3, obind]
        by_cases dd : σ3.2.2.1 = 0
        · obtain ⟨g1, g2, g3, g4⟩ := f5 dd
          have g1' : tk (σ.1 + 2) = 401 := g1
          have g4' : σ3.2.1 = σ.2.1 := by have : σ3.2.1 + 1 = σ.2.1 + 1 := g4; omega
          obtain ⟨hh, l, z1, z2, z3, z4⟩ : ∃ hh l, ptw tk vl nt (σ.1 + 1) = some (hh, l, σ3.1) ∧ v = prt hh l ∧ hh < 65536 ∧ l < 65536 := by
            unfold ptw
            rcases g3 with ⟨y1, y2, y3, y4, y5, y6, y7, y8⟩ | ⟨y1, y2, y3, y4⟩
            · have y1' : tk (σ.1 + 1 + 2) = 58 := y1
              have y2' : tk (σ.1 + 1 + 3) = 401 := y2
              have y6' : σ.1 + 1 + 4 < nt := y6
              have y4' : σ3.1 = σ.1 + 1 + 5 := y4
              rw [if_pos y1', if_neg (fun z => by rcases z with z | z; omega; exact z y2'), y4']
              exact ⟨_, _, rfl, y5, y7, y8⟩
            · have y1' : ¬ tk (σ.1 + 1 + 2) = 58 := fun z => by
                have y1'' : tk (σ.1 + 1 + 2) = 93 := y1
                omega
              have y2' : σ3.1 = σ.1 + 1 + 3 := y2
              rw [if_neg y1', y2']
              exact ⟨_, _, rfl, y3, y4, y4⟩
          have gd : ¬ (tk σ.1 ≠ 400 ∨ (tk (σ.1 + 1) = 91 ∧ (tk (σ.1 + 2) ≠ 401 ∨ ptw tk vl nt (σ.1 + 1) = none))) := fun z => by
            rcases z with z | ⟨-, z | z⟩
            · exact z s1
            · exact z g1'
            · rw [z1] at z; cases z
          have ek4 : Eb [213, 214, 215, 216, 217, 218, 219] [] c1 c4 := (b3.trans d3).trans f3
          have e4 : Eb [213, 214, 215, 216, 217, 218, 219, 238, 239, 241, 242, 243, 249, 250, 251, 326, 337] [336] c c4 := e3.trans (f3.mono (by decide) (by decide))
          have al4 : c4.1 217 0 = nI 0 := f2.alive dd
          have off : ∀ f p, Off c1 f p → Off c4 f p := fun f p o => o.mono ek4 (by decide) (by decide)
          -- behind the part, whatever the meaning says
          have fin : ∀ c5, fn_Meaning_storePart_Me N v (nI (pl (gInc σ).1)) c4 = some ((), c5) → Eb [238, 239, 241, 242, 243, 250, 251, 337] [336] c4 c5 → ((∃ fp : Nat × Nat, Off c5 fp.1 fp.2 ∧ (∀ q, μ = some q → q = fp) ∧ (μ = none → sSet tk pl vl wi nm nt rg N0 an σ.1 S = some (.inl fp))) ∨ (μ = none ∧ ∃ d h l, sSet tk pl vl wi nm nt rg N0 an σ.1 S = sSe tk pl vl wi nm nt N0 an d h l σ3.1 S ∧ (∃ T, Xc c5 T sz C) ∧ R3 rg fz dc c5 (updN S d an) ∧ c5.1 249 0 = nI d ∧ c5.1 250 0 = nI l ∧ c5.1 251 0 = nI (h - l + 1) ∧ l ≤ h ∧ h < 64 ∧ fd ≤ d ∧ d < dc ∧ P d ∧ c5.1 260 0 = nI md ∧ c5.2 336 = c.2 336)) → ∃ σ', gSet tk pl N1 σ3 = some σ' ∧ (DeadP tk pl nt ex N c σ σ' ∨ StPost tk pl nt ex N rg fz dc fd lit lc P c σ σ' kd μ sz C md (sSet tk pl vl wi nm nt rg N0 an σ.1 S)) := by
            intro c5 i1 i2 i3
            rw [i1, obind] at mvs
            exact stGo (S := S) hQ' e h0 hG h4 hkd (fun z => (hs.2 z).2.1) mvs dd (f2.mono i2 (fun k _ _ => by simp; omega) (by decide)) (by omega) g4' (e4.trans (i2.mono (by decide) (by decide))) i3
          have offs : ∀ f p, Off c1 f p → (∀ q, μ = some q → q = (f, p)) → (μ = none → sSet tk pl vl wi nm nt rg N0 an σ.1 S = some (.inl (f, p))) → ∃ σ', gSet tk pl N1 σ3 = some σ' ∧ (DeadP tk pl nt ex N c σ σ' ∨ StPost tk pl nt ex N rg fz dc fd lit lc P c σ σ' kd μ sz C md (sSet tk pl vl wi nm nt rg N0 an σ.1 S)) := fun f p o i1 i2 => fin c4 (off_storePart (off f p o).off) Eb.rfl (Or.inl ⟨(f, p), off f p o, i1, i2⟩)
          cases hμ : μ with
          | some fp =>
            have := offs fp.1 fp.2 (a3 fp hμ) (fun q z => by rw [hμ] at z; cases z; rfl) (fun z => by rw [hμ] at z; cases z)
            rw [hμ] at this; exact this
          | none =>
            obtain ⟨n1, n2⟩ := a4 hμ
            cases hn2 : nm σ.1 with
            | none =>
              have := offs 22 (pl σ.1) (n1 hn2) (fun q z => by rw [hμ] at z; cases z) (fun _ => by unfold sSet; rw [if_neg gd, hn2]; rfl)
              rw [hμ] at this; exact this
            | some q =>
              obtain ⟨m1, m2⟩ := n2 q hn2
              cases rgq : rg q.1 with
              | false =>
                have := offs 22 (pl σ.1) (m1 rgq) (fun q z => by rw [hμ] at z; cases z) (fun _ => by unfold sSet; rw [if_neg gd, hn2]; dsimp only; rw [if_pos rgq]; rfl)
                rw [hμ] at this; exact this
              | true =>
                obtain ⟨w1, w2⟩ := m2 rgq
                by_cases bad : S q.1 ≠ 0 ∧ S q.1 ≠ an
                · have := offs 32 (pl σ.1) (w1 bad) (fun q z => by rw [hμ] at z; cases z) (fun _ => by unfold sSet; rw [if_neg gd, hn2]; dsimp only; rw [if_neg (by rw [rgq]; decide), if_pos bad]; rfl)
                  rw [hμ] at this; exact this
                · obtain ⟨⟨T0, X⟩, x2, x3, x4, x5, x6, x7⟩ := w2 bad
                  obtain ⟨y1, y2, y3, y4, y5⟩ := hn σ.1 q hn2
                  have md' := (hs.2 hμ).2.2.2
                  have X4 : Xc c4 T0 sz C := X.mono ek4 (by decide) al4
                  have rr : sSet tk pl vl wi nm nt rg N0 an σ.1 S = if hh < l ∨ q.2 ≤ hh then sno 30 (pl (σ.1 + 1)) else sSe tk pl vl wi nm nt N0 an q.1 hh l σ3.1 S := by
                    unfold sSet; rw [if_neg gd, hn2]; dsimp only; rw [if_neg (by rw [rgq]; decide), if_neg bad, if_pos c91, z1]
                  obtain ⟨u1, u2⟩ := storePart_C (N := N) (h := hh) (l := l) (w := q.2) (p := pl (gInc σ).1) X4 z3 z4 y4 (by rw [ek4.1 251 (by decide)]; exact x5)
                  rw [← z2] at u1 u2
                  by_cases pb : hh < l ∨ q.2 ≤ hh
                  · obtain ⟨c5, i1, i2, i3⟩ := u2 pb
                    have := fin c5 i1 i3 (Or.inl ⟨(30, pl (σ.1 + 1)), i2, fun q z => (by rw [hμ] at z; cases z), fun _ => (by rw [rr, if_pos pb]; rfl)⟩)
                    rw [hμ] at this; exact this
                  · obtain ⟨c5, i1, i2, i3, i4⟩ := u1 pb
                    have := fin c5 i1 (i4.mono (by decide) (by decide)) (Or.inr ⟨hμ, q.1, hh, l, by rw [rr, if_neg pb], ⟨T0, X4.keep i4 (by decide)⟩, x2.of (by rw [i4.1 326 (by decide), ek4.1 326 (by decide)]), by rw [i4.1 249 (by decide), ek4.1 249 (by decide)]; exact x3, i2, i3, by omega, by omega, x7, y1, y2, by rw [i4.1 260 (by decide), e4.1 260 (by decide)]; exact md', by rw [i4.2 336 (by decide), ek4.2 336 (by decide)]; exact x6⟩)
                    rw [hμ] at this; exact this
        · rw [off_storePart (Or.inr (f2.dead dd)), obind] at mvs
          dsimp only at mvs
          rw [gSet_dead dd (by omega)]
          exact ⟨_, rfl, Or.inl (stDead T h0 hG h4 mvs dd f2 (by omega))⟩
    · rw [gIs_f (σ := gInc σ) c91, if_neg (by decide)]
      rw [if_neg (show ¬ c2.1 214 0 = 91 from kneg (k := 91) T b2 (by decide) (fun _ => c91))] at mvs
      refine stGo (S := S) hQ' e h0 hG h4 hkd (fun z => (hs.2 z).2.1) mvs h0 b2 (by show σ.1 < σ.1 + 1; omega) rfl e2 ?_
      have gd : ¬ (tk σ.1 ≠ 400 ∨ (tk (σ.1 + 1) = 91 ∧ (tk (σ.1 + 2) ≠ 401 ∨ ptw tk vl nt (σ.1 + 1) = none))) := fun z => by
        rcases z with z | z
        · exact z s1
        · exact c91 z.1
      have off : ∀ f p, Off c1 f p → Off c2 f p := fun f p o => o.mono b3 (by decide) (by decide)
      cases hμ : μ with
      | some fp => exact Or.inl ⟨fp, off _ _ (a3 fp hμ), fun q z => (by cases z; rfl), fun z => (by cases z)⟩
      | none =>
        obtain ⟨n1, n2⟩ := a4 hμ
        unfold sSet
        rw [if_neg gd]
        cases hn2 : nm σ.1 with
        | none => exact Or.inl ⟨(22, pl σ.1), off _ _ (n1 hn2), fun q z => (by cases z), fun _ => rfl⟩
        | some q =>
          obtain ⟨m1, m2⟩ := n2 q hn2
          dsimp only
          cases rgq : rg q.1 with
          | false => rw [if_pos rfl]; exact Or.inl ⟨(22, pl σ.1), off _ _ (m1 rgq), fun q z => (by cases z), fun _ => rfl⟩
          | true =>
            rw [if_neg (by decide)]
            obtain ⟨w1, w2⟩ := m2 rgq
            by_cases bad : S q.1 ≠ 0 ∧ S q.1 ≠ an
            · rw [if_pos bad]; exact Or.inl ⟨(32, pl σ.1), off _ _ (w1 bad), fun q z => (by cases z), fun _ => rfl⟩
            · rw [if_neg bad, if_neg c91]
              obtain ⟨⟨T0, X⟩, x2, x3, x4, x5, x6, x7⟩ := w2 bad
              obtain ⟨y1, y2, y3, y4, y5⟩ := hn σ.1 q hn2
              have md' := (hs.2 hμ).2.2.2
              right
              refine ⟨rfl, q.1, q.2 - 1, 0, rfl, ⟨T0, X.mono b3 (by decide) al2⟩, x2.of (by rw [b3.1 326 (by decide)]), by rw [b3.1 249 (by decide)]; exact x3, by rw [b3.1 250 (by decide)]; exact x4, ?_, by omega, by omega, x7, y1, y2, by rw [e2.1 260 (by decide)]; exact md', by rw [b3.2 336 (by decide)]; exact x6⟩
              rw [b3.1 251 (by decide), x5]
              congr 1; omega
  · -- no name
    rw [gIs_dead s3, if_neg (by decide), gSet_dead s3 (by omega)]
    obtain ⟨c1, a1, a2, a3⟩ := krefuse (N := N) T hG
    rw [s2] at s3 s4 ⊢
    refine ⟨_, rfl, Or.inl (DeadP.one (c' := c1) alv (by rw [h4]; decide) ?_ s3 (by omega) a2)⟩
    rw [mv4 h4]
    unfold fn_Grammar_statement_Gr
    rw [if_neg (show ¬ c.1 214 0 = 2 from kneg (k := 400) T hG (by decide) (fun _ => s1)), if_neg (show ¬ c.1 214 0 = 138 from kneg (k := 310) T hG (by decide) (fun _ => k0)), if_neg (show ¬ c.1 214 0 = 140 from kneg (k := 312) T hG (by decide) (fun _ => k2)), if_neg (show ¬ c.1 214 0 = 142 from kneg (k := 314) T hG (by decide) (fun _ => k4)), a1, obind]
end CSET3
