/-! The class: an assign, whole. -/
section CASG2
variable {tk pl vl wi wd : Nat → Nat} {nt nw N N0 N1 lc : Nat} {ex : Nat → Int32} {lit : Nat → Int64} {c c' c0 : ms} {A : ds} {t sz C I K : Nat} {σ σ' : gs} {μ : Option (Nat × Nat)}
theorem expFor_dead {x : Int32} (hG : CG tk pl nt ex c σ) (z : σ.2.2.1 ≠ 0) : ∃ c', fn_Grammar_expFor_Gr N x c = some ((), c') ∧ CG tk pl nt ex c' σ ∧ Eb [264, 265, 268, 269, 275] [] c c' := by
  have hG4 : CG tk pl nt ex (upI (upI (upI (upI c 265 (fun _ => x)) 268 (fun _ => c.1 215 0)) 269 (fun _ => c.1 213 0)) 275 (fun _ => 0)) σ := (((hG.upI (by decide)).upI (by decide)).upI (by decide)).upI (by decide)
  unfold fn_Grammar_expFor_Gr
  rw [off_expBegins (Or.inr (hG4.dead z)), obind]
  exact ⟨_, rfl, hG4.upI (by decide), ((((Eb.rfl.upI (by decide)).upI (by decide)).upI (by decide)).upI (by decide)).upI (by decide)⟩
theorem pop_1 {sz' C' : Nat} (X : Xc c 1 sz' C') : fn_Checker_pop_Ch N c = some (c.1 238 0, upI c 239 (fun _ => nI 0)) := by
  obtain ⟨h1, h2, h3, h4, h5, h6, h7⟩ := X
  unfold fn_Checker_pop_Ch
  simp (disch := omega) only [h3, Nat.add_sub_cancel, lit_nI, gdF, gdG, gdH, nltT, nltF, nleT, nleF, neqT, neqF, nm1F, nm1F', m1lt, m1gt, m1le, m1ge, nI_clamp, nI_add, nI_sub, obind, if_true, if_false, reduceIte, ite_true, ite_false]
theorem assigned_C {w d v p sz' C' : Nat} (X : Xc c 1 sz' C') (h238 : c.1 238 0 = nI w) (h249 : c.1 249 0 = nI d) (h323 : c.1 323 d = nI v) (hd : d < 10923) (hw : w ≤ 64) (hv : v ≤ 64) (hso : ∃ k, fn_Checker_sortOf_Ch N (nI d) c = some (k, c) ∧ k ≠ -1) : ∃ c', fn_Meaning_assigned_Me N (nI p) c = some ((), c') ∧ Eb [239, 242, 243, 327] [] c c' ∧ (w ≠ v → Off c' 30 p) ∧ (w = v → c' = upI (upI c 239 (fun _ => nI 0)) 327 (upd (c.1 327) d (nI sz'))) := by
  have i := nI_in hd (show 10923 < 2 ^ 31 by decide)
  have f58 : ∀ τ : ms, τ.1 249 0 = nI d → bk_Meaning_assigned_Me_58 N τ = some ((), upI τ 327 (upd (τ.1 327) d (τ.1 337 0))) := fun τ h => by
    unfold bk_Meaning_assigned_Me_58
    rw [h, if_neg i, nI_clamp (by omega)]
  have X1 : Xc (upI c 239 (fun _ => nI 0)) 0 sz' C' := ⟨X.1, X.2.1, rfl, by omega, X.2.2.2.2.1, X.2.2.2.2.2.1, X.2.2.2.2.2.2⟩
  have h1 : (upI c 239 (fun _ => nI 0)).1 249 0 = nI d := h249
  have h2 : (upI c 239 (fun _ => nI 0)).1 323 d = nI v := h323
  have h3 : (upI c 239 (fun _ => nI 0)).1 337 0 = nI sz' := X.2.2.2.2.1
  have h4 : (upI c 239 (fun _ => nI 0)).1 327 = c.1 327 := rfl
  have e1 : Eb [239, 242, 243, 327] [] c (upI c 239 (fun _ => nI 0)) := Eb.rfl.upI (by decide)
  obtain ⟨k, k1, k2⟩ := hso
  unfold fn_Meaning_assigned_Me fn_Checker_expWidth_Ch
  rw [on_go X]
  dsimp only
  rw [if_pos rfl, h249, k1, obind]
  dsimp only
  rw [if_neg k2, pop_1 X, obind, obind]
  generalize upI c 239 (fun _ => nI 0) = c1 at X1 h1 h2 h3 h4 e1 ⊢
  dsimp only
  rw [h1, if_neg i, nI_clamp (by omega), h238, h2]
  by_cases z : w = v
  · rw [if_pos (by rw [z]), f58 c1 h1, h3, h4]
    exact ⟨_, rfl, e1.upI (by decide), fun y => absurd z y, fun _ => rfl⟩
  · rw [if_neg (fun y => z ((nI_eq (by omega) (by omega)).mp y))]
    obtain ⟨c2, r1, r2, r3⟩ := refuse_E (N := N) (w := 30) (p := p) X1 (by decide)
    rw [show fn_Checker_refuse_Ch N 30 (nI p) c1 = some ((), c2) from r1, obind]
    dsimp only
    rw [f58 c2 (by rw [r3.1 249 (by decide)]; exact h1)]
    exact ⟨_, rfl, (e1.trans (r3.mono (by decide) (by decide))).upI (by decide), fun _ => r2, fun y => absurd y z⟩
theorem dX_tu4 {d x u : Nat} : dX tk pl vl wi wd nt N0 (tu A 4 d x) u = dX tk pl vl wi wd nt N0 A u := by
  have : dNm wd (tu A 4 d x) = dNm wd A := by
    funext i
    unfold dNm dHere
    simp only [tu1, tu2, uu1, uu2, uu3, vu1, vu2, vu3, su1, su2, Nat.reduceEqDiff, false_and, true_and, reduceIte, Bool.false_eq_true, if_true, if_false]
  unfold dX
  rw [this]
theorem it_assign (T' : Tv tk pl nt) (hV : Vb tk vl wi) (hN : 40000 < N) (hN1 : 12002 < N1) (hN0 : 12002 < N0) (hK : KS tk pl vl wi wd nt ex nw lit lc c) (h0 : σ.2.2.1 = 0) (h2 : c.1 264 0 = 2) (h271 : c.1 271 0 = nI 0) (hG : CG tk pl nt ex c σ) (hkk : tk σ.1 = 306) (hs : Md tk pl wd nt nw lit lc A σ.1 sz c μ) :
    ∃ σ', ((gE tk pl N1 (gTake tk pl 61 (gTake tk pl 400 (gInc σ)))).bind (fun σ => some (gTake tk pl 59 σ))) = some σ' ∧ (DeadS 4 tk pl nt ex N c σ σ' ∨ ItPost tk pl wd nt nw ex N lit lc c σ σ' μ (dAssign tk pl vl wi wd nt N0 σ.1 A)) := by
  have hnt := T'.2.1
  have t1n := T'.more hG.2.1 hkk (by omega) (by omega)
  obtain ⟨c1, a1, a2, a3⟩ := ktake (N := N) T' hG (fun _ => t1n)
  rw [if_pos h0] at a2
  obtain ⟨c2, b1, b2, b3, b4⟩ := kdue (N := N) T' 400 (by decide) a2
  have e12 : F7 c c2 := a3.trans b3
  have hmv : mv N c = (if b01 (gIs tk 400 (gInc σ)) = 0 then (bk_Grammar_assignment_Gr_39 N c2) else ((fn_Meaning_assignTo_Me N ((c2.1 216 0)) ((c2.1 215 0)) c2).bind (fun q_6 => bk_Grammar_assignment_Gr_39 N q_6.2))).bind (fun q_1 => some ((), q_1.2)) := by
    rw [mv2 h2]
    unfold fn_Grammar_item_Gr fn_Grammar_assignment_Gr
    rw [if_neg (show ¬ c.1 214 0 = 2 from kneg (k := 400) T' hG (by decide) (fun _ => by omega)), if_neg (show ¬ c.1 214 0 = 129 from kneg (k := 301) T' hG (by decide) (fun _ => by omega)), if_neg (show ¬ c.1 214 0 = 132 from kneg (k := 304) T' hG (by decide) (fun _ => by omega)), if_neg (show ¬ c.1 214 0 = 133 from kneg (k := 305) T' hG (by decide) (fun _ => by omega)), if_pos (show c.1 214 0 = 134 from kpos (k := 306) hG h0 hkk), a1, obind]
    dsimp only
    rw [show fn_Tokens_due_Tk N 2 c1 = some (b01 (gIs tk 400 (gInc σ)), c2) from b1, obind]
  -- behind a grammar's fault in the first move
  have dead1 : ∀ c5 ρ, CG tk pl nt ex c5 ρ → ρ.2.2.1 ≠ 0 → σ.1 + 1 ≤ ρ.1 → mv N c = some ((), c5) → gTake tk pl 61 (gTake tk pl 400 (gInc σ)) = ρ → ∃ σ', ((gE tk pl N1 (gTake tk pl 61 (gTake tk pl 400 (gInc σ)))).bind (fun σ => some (gTake tk pl 59 σ))) = some σ' ∧ (DeadS 4 tk pl nt ex N c σ σ' ∨ ItPost tk pl wd nt nw ex N lit lc c σ σ' μ (dAssign tk pl vl wi wd nt N0 σ.1 A)) := by
    intro c5 ρ g1 g2 g3 g4 g5
    rw [g5, show gE tk pl N1 ρ = some ρ from gE_dead2 g2 (by omega) (by omega), obind, gTake_dead g2]
    exact ⟨ρ, rfl, Or.inl ⟨g2, by omega, 1, c5, Rc.one (hG.alive h0) (by rw [h2]; decide) g4, by omega, g1⟩⟩
  by_cases gi : gIs tk 400 (gInc σ) = true
  · have g' := gi
    simp only [gIs, decide_eq_true_eq] at g'
    have k4 : tk (σ.1 + 1) = 400 := g'.2
    have c21 := b4 gi
    subst c21
    rw [gi, if_neg (show ¬ b01 true = 0 by decide)] at hmv
    rw [gi, if_pos rfl] at b2
    have st := b2.2.2.2.1 (show (gInc σ).2.2.1 = 0 from h0)
    have t2n := T'.more t1n k4 (by decide) (by decide)
    have kx := hK.2.2.2.2.2.2.1 (σ.1 + 1) t1n k4
    have q216 : c2.1 216 0 = nI (wd (σ.1 + 1)) := by rw [st.2.2.2.1]; exact kx.1
    have q215 : c2.1 215 0 = nI (pl (σ.1 + 1)) := st.2.2.1
    rw [q216, q215] at hmv
    have al2 : c2.1 217 0 = nI 0 := b2.alive h0
    -- the name
    obtain ⟨c3, μ3, d, m1, m2, m3, m4, m5⟩ : ∃ c3 μ3 d, fn_Meaning_assignTo_Me N (nI (wd (σ.1 + 1))) (nI (pl (σ.1 + 1))) c2 = some ((), c3) ∧ Eb [242, 243, 249, 326] [] c2 c3 ∧ (∀ fp, μ3 = some fp → OffN nw c3 fp.1 fp.2) ∧ (∀ fp, μ = some fp → μ3 = some fp) ∧ (μ = none → (∀ fp, μ3 = some fp → σ.1 + 3 < nt → dAssign tk pl vl wi wd nt N0 σ.1 A = some (.inl fp)) ∧ (μ3 = none → dHere wd A (σ.1 + 1) = some d ∧ dDrv A d = true ∧ A.1 4 d = 0 ∧ (∃ T, Xc c3 T sz (A.1 47 0)) ∧ c3.1 249 0 = nI d ∧ c3.1 326 d = nI sz ∧ DC pl wd nw lit lc (tu A 4 d 3) (A.1 41 0) (A.1 42 0) sz c3)) := by
      have ds : ∀ r : dr, σ.1 + 3 < nt → dAssign tk pl vl wi wd nt N0 σ.1 A = r → dAssign tk pl vl wi wd nt N0 σ.1 A = r := fun _ _ h => h
      cases hμ : μ with
      | some fp =>
        have o := (hs.1 fp hμ).mono e12 (by decide)
        exact ⟨c2, some fp, 0, off_assignTo o.off, Eb.rfl, fun q z => (by cases z; exact o), fun q z => (by cases z; rfl), fun z => (by cases z)⟩
      | none =>
        obtain ⟨⟨T, X⟩, o2, o3, o4, o5, o6, o7, o8⟩ := (hs.2 hμ).keep (t' := σ.1) e12 (by decide) (by decide) al2 (Nat.le_refl _)
        obtain ⟨c3, n1, n2, n3, n4⟩ := assignTo_C (N := N) (x := σ.1 + 1) hnt hK.2.2.2.2.2.2.2 o8 (by omega) kx.2 X o2
        have un : σ.1 + 3 < nt → dAssign tk pl vl wi wd nt N0 σ.1 A = match dHere wd A (σ.1 + 1) with
            | none => dno 22 (pl (σ.1 + 1))
            | some d => if dDrv A d = false then dno 22 (pl (σ.1 + 1)) else if A.1 4 d ≠ 0 then dno 31 (pl (σ.1 + 1)) else match dX tk pl vl wi wd nt N0 A (σ.1 + 3) with
              | none => none
              | some (.inl f) => some (.inl f)
              | some (.inr (w, t1, L, C)) => if w = A.1 1 d then dok (t1 + 1) (tu (uu (tu A 4 d 1) 0 d L) 47 0 (A.1 47 0 + C)) else dno 30 (pl (σ.1 + 2)) := fun tn => by
          unfold dAssign
          rw [if_neg (by rintro (y | y); omega; exact y k4)]
          rfl
        cases eh : dHere wd A (σ.1 + 1) with
        | none => exact ⟨c3, some (22, pl (σ.1 + 1)), 0, n1, n2, fun q z => (by cases z; exact n3 eh), fun q z => (by cases z), fun _ => ⟨fun q z tn => (by cases z; rw [un tn, eh]; rfl), fun z => (by cases z)⟩⟩
        | some d =>
          obtain ⟨p1, p2⟩ := n4 d eh
          cases dv : dDrv A d with
          | false => exact ⟨c3, some (22, pl (σ.1 + 1)), 0, n1, n2, fun q z => (by cases z; exact p1 dv), fun q z => (by cases z), fun _ => ⟨fun q z tn => (by cases z; rw [un tn, eh]; dsimp only; rw [dv]; rfl), fun z => (by cases z)⟩⟩
          | true =>
            obtain ⟨p3, p4⟩ := p2 dv
            by_cases z4 : A.1 4 d = 0
            · obtain ⟨x1, x2, x3, x4⟩ := p4 z4
              exact ⟨c3, none, d, n1, n2, fun q z => (by cases z), fun q z => (by cases z), fun _ => ⟨fun q z => (by cases z), fun _ => ⟨rfl, dv, z4, ⟨T, x1⟩, x2, x3, x4⟩⟩⟩
            · exact ⟨c3, some (31, pl (σ.1 + 1)), 0, n1, n2, fun q z => (by cases z; exact p3 z4), fun q z => (by cases z), fun _ => ⟨fun q z tn => (by cases z; rw [un tn, eh]; dsimp only; rw [dv, if_neg (by decide), if_pos z4]; rfl), fun z => (by cases z)⟩⟩
    rw [m1, obind] at hmv
    dsimp only at hmv
    unfold bk_Grammar_assignment_Gr_39 at hmv
    have G3 : CG tk pl nt ex c3 (gInc σ) := b2.mono m2 (fun k _ _ => by simp; omega) (by decide)
    obtain ⟨c4, f1, f2, f3⟩ := ktake (N := N) T' G3 (fun _ => t2n)
    rw [if_pos (show (gInc σ).2.2.1 = 0 from h0)] at f2
    have q4 : c4.1 215 0 = nI (pl (σ.1 + 2)) := (f2.2.2.2.1 (show (gInc (gInc σ)).2.2.1 = 0 from h0)).2.2.1
    rw [f1, obind] at hmv
    dsimp only at hmv
    rw [q4] at hmv
    have G4 : CG tk pl nt ex (upI c4 266 (fun _ => nI (pl (σ.1 + 2)))) (gInc (gInc σ)) := f2.upI (by decide)
    obtain ⟨c5, i1, i2, i3⟩ := kneed (N := N) T' 61 (by decide) G4
    rw [show fn_Tokens_need_Tk N 61 (upI c4 266 (fun _ => nI (pl (σ.1 + 2)))) = some ((), c5) from i1, obind] at hmv
    dsimp only at hmv
    have gt : gTake tk pl 400 (gInc σ) = gInc (gInc σ) := gTake_t gi
    have e35 : Eb [213, 214, 215, 216, 217, 218, 219, 266] [] c3 c5 := ((f3.mono (by decide) (by decide)).upI (by decide)).trans (i3.mono (by decide) (by decide))
    have le61 := gTake_le (tk := tk) (pl := pl) (k := 61) (σ := gInc (gInc σ))
    have le61' : σ.1 + 1 + 1 ≤ (gTake tk pl 61 (gInc (gInc σ))).1 := le61
    by_cases al : (gTake tk pl 61 (gInc (gInc σ))).2.2.1 = 0
    · obtain ⟨-, k61, x3⟩ := gTake_al al
      have al5 : c5.1 217 0 = nI 0 := i2.alive al
      rw [gt, x3]
      rw [x3] at i2
      have tn3 : σ.1 + 1 + 1 + 1 < nt := i2.2.1
      have s5 : (∀ fp, μ3 = some fp → Off c5 fp.1 fp.2) ∧ (μ3 = none → (∃ T, Xc c5 T sz (A.1 47 0)) ∧ sz ≤ σ.1 + 3) := by
        refine ⟨fun fp z => (m3 fp z).1.mono e35 (by decide) (by decide), fun z => ?_⟩
        have hμ : μ = none := by
          cases hμ : μ with
          | none => rfl
          | some fp => have := m4 fp hμ; rw [z] at this; cases this
        obtain ⟨y1, y2, y3, ⟨T, y4⟩, -⟩ := (m5 hμ).2 z
        have := (hs.2 hμ).2.2.2.2.2.1
        exact ⟨⟨T, y4.mono e35 (by decide) al5⟩, by omega⟩
      obtain ⟨c6, j1, j2, j3, j4, j5, j6, j7, j8⟩ := expFor_C (N := N) (x := 134) (σ := gInc (gInc (gInc σ))) (μ := μ3) (sz := sz) (C := A.1 47 0) i2 h0 s5
      rw [j1, obind, obind] at hmv
      have r1 : Rc N 1 c c6 := Rc.one (hG.alive h0) (by rw [h2]; decide) hmv
      have e36 : Eb [213, 214, 215, 216, 217, 218, 219, 239, 240, 264, 265, 266, 268, 269, 275] [] c3 c6 := (e35.mono (by decide) (by decide)).trans (j6.mono (by decide) (by decide))
      have eP : KP c c6 := ((F7.toKP e12).trans (m2.mono (by decide) (by decide))).trans (e36.mono (by decide) (by decide))
      have K6 : KS tk pl vl wi wd nt ex nw lit lc c6 := hK.keep eP (by decide) (by decide)
      have q266 : c6.1 266 0 = nI (pl (σ.1 + 2)) := by rw [j6.1 266 (by decide), i3.1 266 (by decide)]; rfl
      -- the tables in the exp
      obtain ⟨A3, t3, w1, w2, w3⟩ : ∃ A3 t3, WF tk nt A3 t3 ∧ t3 ≤ σ.1 ∧ (μ3 = none → A3 = tu A 4 d 3) := by
        cases h3 : μ3 with
        | some fp => exact ⟨dA0, 0, wfA0, Nat.zero_le _, fun z => (by cases z)⟩
        | none =>
          have hμ : μ = none := by
            cases hμ : μ with
            | none => rfl
            | some fp => have := m4 fp hμ; rw [h3] at this; cases this
          have w := (hs.2 hμ).p1
          refine ⟨tu A 4 d 3, σ.1, ?_, Nat.le_refl _, fun _ => rfl⟩
          obtain ⟨y1, y2, y3⟩ := w
          unfold WF
          simp only [tu1, tu2, uu1, uu2, uu3, vu1, vu2, vu3, su1, su2, Nat.reduceEqDiff, false_and, true_and, reduceIte, Bool.false_eq_true, if_true, if_false]
          refine ⟨y1, fun e he => ?_, y3⟩
          obtain ⟨z1, z2, z3, z4, z5, z6, z7⟩ := y2 e he
          refine ⟨z1, z2, z3, z4, z5, ?_, z7⟩
          split
          · omega
          · exact z6
      obtain ⟨σ5, g1, g2⟩ := expM (N0 := N0) (N1 := N1) (A := A3) (t := t3) (I := A.1 41 0) (K := A.1 42 0) (C := A.1 47 0) (sz := sz) (μ := μ3) (σ := gInc (gInc (gInc σ))) T' hV hN hN1 hN0 K6 h0 j5 j2 j3 w1 (by show t3 ≤ σ.1 + 1 + 1 + 1; omega) ⟨fun fp z => (m3 fp z).mono e36 (by decide), fun z => by
        have hμ : μ = none := by
          cases hμ : μ with
          | none => rfl
          | some fp => have := m4 fp hμ; rw [z] at this; cases this
        obtain ⟨y1, y2, y3, y4, y5, y6, y7⟩ := (m5 hμ).2 z
        rw [w3 z]
        exact ⟨(j8 z).1, (j8 z).2, y7.keep e36 (by decide) (by decide) (fun k _ => by rw [e36.2 336 (by decide)]) (Nat.le_refl _)⟩⟩
      rw [g1, obind]
      rcases g2 with dd | ⟨k, c7, q1, q2, q3, q4', q5, q6, q7, q8, q9, q10⟩
      · rw [gTake_dead dd.1]
        exact ⟨σ5, rfl, Or.inl ((dd.toS (e := 3) (by omega)).after r1 (by show 1 + 3 ≤ 4 * (σ.1 + 1 + 1 + 1 - σ.1) + 4; omega) (by show σ.1 ≤ σ.1 + 1 + 1 + 1; omega))⟩
      · have q2' : k + 1 ≤ 3 * (σ5.1 - (σ.1 + 1 + 1 + 1)) := q2
        have q8' : σ.1 + 1 + 1 + 1 < σ5.1 := q8
        have q7' : σ5.2.1 = σ.2.1 := q7
        have k265 : c7.1 265 0 = 134 := by rw [q4'.1 265 (by decide)]; exact j4
        have k266 : c7.1 266 0 = nI (pl (σ.1 + 2)) := by rw [q4'.1 266 (by decide)]; exact q266
        have r2 := r1.trans q1
        have eP7 : KP c c7 := eP.trans (q4'.mono (by decide) (by decide))
        -- the end
        have fin : ∀ c8 sz', fn_Meaning_assigned_Me N (nI (pl (σ.1 + 2))) c7 = some ((), c8) → Eb [239, 242, 243, 327] [] c7 c8 → (∀ c9, F7 c8 c9 → c9.1 217 0 = nI 0 → σ5.1 + 1 < nt → Mr tk pl wd nt nw lit lc μ (dAssign tk pl vl wi wd nt N0 σ.1 A) (σ5.1 + 1) sz' (upI c9 264 (fun _ => 2))) → ∃ σ', some (gTake tk pl 59 σ5) = some σ' ∧ (DeadS 4 tk pl nt ex N c σ σ' ∨ ItPost tk pl wd nt nw ex N lit lc c σ σ' μ (dAssign tk pl vl wi wd nt N0 σ.1 A)) := by
          intro c8 sz' n1 n2 n3
          have G8 : CG tk pl nt ex c8 σ5 := q5.mono n2 (fun k _ _ => by simp; omega) (by decide)
          obtain ⟨c9, o1, o2, o3⟩ := kneed (N := N) T' 59 (by decide) G8
          have hm2 : mv N c7 = some ((), upI c9 264 (fun _ => 2)) := by
            rw [mv8 q3]
            unfold fn_Grammar_behindExp_Gr
            rw [k265, if_neg (by decide), if_pos rfl, k266, n1, obind]
            dsimp only
            rw [show fn_Tokens_need_Tk N 59 c8 = some ((), c9) from o1, obind]
          have r3 := r2.trans (Rc.one (q5.alive q6) (by rw [q3]; decide) hm2)
          have le59 := gTake_le (tk := tk) (pl := pl) (k := 59) (σ := σ5)
          have G9 : CG tk pl nt ex (upI c9 264 (fun _ => 2)) (gTake tk pl 59 σ5) := o2.upI (by decide)
          refine ⟨_, rfl, ?_⟩
          by_cases al9 : (gTake tk pl 59 σ5).2.2.1 = 0
          · right
            obtain ⟨-, v2, v3⟩ := gTake_al al9
            have u : (gTake tk pl 59 σ5).1 = σ5.1 + 1 := by rw [v3]; rfl
            have tn9 := o2.2.1
            rw [u] at tn9
            have e9 : KP c (upI c9 264 (fun _ => 2)) := ((eP7.trans (n2.mono (by decide) (by decide))).trans (F7.toKP o3)).upI (by decide)
            refine ⟨1 + k + 1, _, sz', r3, by omega, rfl, e9, G9, al9, by rw [v3]; exact q7', by omega, ?_, by rw [u]; exact n3 c9 o3 (o2.alive al9) tn9⟩
            show c9.1 271 0 = nI 0
            rw [o3.1 271 (by decide), n2.1 271 (by decide), q4'.1 271 (by decide), j6.1 271 (by decide), e35.1 271 (by decide), m2.1 271 (by decide), e12.1 271 (by decide)]
            exact h271
          · exact Or.inl ⟨al9, by omega, 1 + k + 1, _, r3, by omega, G9⟩
        have up : ∀ {f p : Nat} {c8 c9 : ms}, OffN nw c8 f p → F7 c8 c9 → OffN nw (upI c9 264 (fun _ => 2)) f p := fun o e => (o.mono e (by decide)).mono (ks := [264]) (js := []) (Eb.rfl.upI (by decide)) (by decide)
        cases h3 : μ3 with
        | some fp =>
          have o := q9 fp h3
          refine fin c7 0 (off_assigned o.off) Eb.rfl (fun c9 e9 _ tn9 => Mr.off (fp := fp) (up o e9) (fun q z => ?_) (fun z => (m5 z).1 fp h3 (by omega)))
          have := m4 q z
          rw [h3] at this
          cases this
          rfl
        | none =>
          have hμ : μ = none := by
            cases hμ : μ with
            | none => rfl
            | some fp => have := m4 fp hμ; rw [h3] at this; cases this
          obtain ⟨y1, y2, y3, -, y5, y6, -⟩ := (m5 hμ).2 h3
          obtain ⟨q, v1, v2, v3⟩ := q10 h3
          rw [w3 h3, dX_tu4] at v1
          have un : dAssign tk pl vl wi wd nt N0 σ.1 A = match dX tk pl vl wi wd nt N0 A (σ.1 + 3) with
              | none => none
              | some (.inl f) => some (.inl f)
              | some (.inr (w, t1, L, C)) => if w = A.1 1 d then dok (t1 + 1) (tu (uu (tu A 4 d 1) 0 d L) 47 0 (A.1 47 0 + C)) else dno 30 (pl (σ.1 + 2)) := by
            unfold dAssign
            rw [if_neg (by rintro (y | y); omega; exact y k4), y1]
            dsimp only
            rw [y2, if_neg (by decide), if_neg (fun z => z y3)]
            rfl
          cases q with
          | inl fp =>
            have o := v2 fp.1 fp.2 rfl
            exact fin c7 0 (off_assigned o.off) Eb.rfl (fun c9 e9 _ tn9 => Mr.off (fp := fp) (up o e9) (fun q z => (by rw [hμ] at z; cases z)) (fun _ => by rw [un, show dX tk pl vl wi wd nt N0 A (σ.1 + 3) = some (.inl fp) from v1 tn9]))
          | inr q =>
            obtain ⟨w, t', L, C2⟩ := q
            obtain ⟨x1, x2, x4, x5, x6, x7, x8, x9, x10⟩ := v3 _ _ _ _ rfl
            have ho := hs.2 hμ
            have hd := dHere_in ho.p1 y1
            have cnt := ho.p1.1
            have wd4 := ho.p1.2.1 d hd.1
            have q249 : c7.1 249 0 = nI d := by rw [q4'.1 249 (by decide), e36.1 249 (by decide)]; exact y5
            have q326 : c7.1 326 d = nI sz := by rw [q4'.1 326 (by decide), e36.1 326 (by decide)]; exact y6
            rw [w3 h3] at x10 x9
            have q323 : c7.1 323 d = nI (A.1 1 d) := by
              have := (x10.2.1 d (by simp only [tu1, tu2, uu1, uu2, uu3, vu1, vu2, vu3, su1, su2, Nat.reduceEqDiff, false_and, true_and, reduceIte, Bool.false_eq_true, if_true, if_false]; exact hd.1)).2.1
              simp only [tu1, tu2, uu1, uu2, uu3, vu1, vu2, vu3, su1, su2, Nat.reduceEqDiff, false_and, true_and, reduceIte, Bool.false_eq_true, if_true, if_false] at this
              exact this
            have q321 : c7.1 321 0 = nI (A.1 40 0) := by
              have := x10.1.1
              simp only [tu1, tu2, uu1, uu2, uu3, vu1, vu2, vu3, su1, su2, Nat.reduceEqDiff, false_and, true_and, reduceIte, Bool.false_eq_true, if_true, if_false] at this
              exact this
            have q324 : c7.1 324 d = nI (srt (A.1 2 d)) := by
              have := (x10.2.1 d (by simp only [tu1, tu2, uu1, uu2, uu3, vu1, vu2, vu3, su1, su2, Nat.reduceEqDiff, false_and, true_and, reduceIte, Bool.false_eq_true, if_true, if_false]; exact hd.1)).2.2.1
              simp only [tu1, tu2, uu1, uu2, uu3, vu1, vu2, vu3, su1, su2, Nat.reduceEqDiff, false_and, true_and, reduceIte, Bool.false_eq_true, if_true, if_false] at this
              exact this
            have s31 : srt (A.1 2 d) < 2 ^ 31 := by unfold srt; repeat' (first | omega | split)
            have no7 : NO nw c7 := x10.no hnt (by rw [← w3 h3]; exact w1) (by omega)
            obtain ⟨c8, n1, n2, n3, n4⟩ := assigned_C (N := N) (p := pl (σ.1 + 2)) x2 x4 q249 q323 (by omega) x6 wd4.2.2.2.1 ⟨_, sortOf_at q321 hd.1 (by omega), by rw [q324]; exact nI_no1 s31⟩
            refine fin c8 (sz + L.length) n1 n2 (fun c9 e9 a9 tn9 => ?_)
            have dx := v1 tn9
            have dx' : dX tk pl vl wi wd nt N0 A (σ.1 + 3) = some (.inr (w, t', L, C2)) := dx
            rw [dx'] at un
            dsimp only at un
            by_cases z : w = A.1 1 d
            · rw [if_pos z] at un
              refine ⟨fun q y => (by rw [hμ] at y; cases y), fun _ => ⟨.inr (σ5.1 + 1, tu (uu (tu A 4 d 1) 0 d L) 47 0 (A.1 47 0 + C2)), by rw [un, x1]; rfl, fun _ _ y => (by cases y), fun t2 A2 y => ?_⟩⟩
              cases y
              have e8 : Eb [239, 327] [] c7 c8 := by rw [n4 z]; exact (Eb.rfl.upI (by decide)).upI (by decide)
              have e79 : Eb [213, 214, 215, 216, 217, 218, 219, 239, 264, 327] [] c7 (upI c9 264 (fun _ => 2)) := ((e8.mono (by decide) (by decide)).trans (e9.mono (by decide) (by decide))).upI (by decide)
              have X80 : Xc c8 0 (sz + L.length) (A.1 47 0 + C2) := by
                rw [n4 z]
                exact ⟨x2.1, x2.2.1, rfl, by omega, x2.2.2.2.2.1, x2.2.2.2.2.2.1, x2.2.2.2.2.2.2⟩
              have X8 : Xc (upI c9 264 (fun _ => 2)) 0 (sz + L.length) (A.1 47 0 + C2) := X80.mono (((e9.mono (ks' := [213, 214, 215, 216, 217, 218, 219, 264]) (js' := []) (by decide) (by decide))).upI (by decide)) (by decide) a9
              have h35 : A.1 35 d = A.1 21 (A.1 46 0) := ho.2.1.2.2.2.2.2.2.2.1.2.2.2.2.2 d hd.2.1 hd.1
              have D8 : DC pl wd nw lit lc (tu (uu (tu A 4 d 1) 0 d L) 47 0 (A.1 47 0 + C2)) (A.1 41 0) (A.1 42 0) (sz + L.length) c8 := by
                rw [n4 z]
                have fdd : (tu A 4 d 3).1 21 ((tu A 4 d 3).1 46 0) = A.1 21 (A.1 46 0) := by simp only [tu1, tu2, uu1, uu2, uu3, vu1, vu2, vu3, su1, su2, Nat.reduceEqDiff, false_and, true_and, reduceIte, Bool.false_eq_true, if_true, if_false]
                rw [fdd] at x9
                have x10' := x10.keep (c' := upI c7 239 (fun _ => nI 0)) (sz' := sz) (ks := [239]) (js := []) (Eb.rfl.upI (by decide)) (by decide) (by decide) (fun k _ => rfl) (Nat.le_refl _)
                exact x10'.done y2 h35 q326 x9
              have D9 := D8.keep (c' := upI c9 264 (fun _ => 2)) (sz' := sz + L.length) (((e9.mono (ks' := [213, 214, 215, 216, 217, 218, 219, 264]) (js' := []) (by decide) (by decide))).upI (by decide)) (by decide) (by decide) (fun k _ => by show c9.2 336 k = _; rw [e9.2 336 (by decide)]) (Nat.le_refl _)
              have wo := dAssign_wo (N := N0) (pl := pl) (vl := vl) (wi := wi) (wd := wd) ho.p1 (σ5.1 + 1) (tu (uu (tu A 4 d 1) 0 d L) 47 0 (A.1 47 0 + C2)) (by rw [un, x1]; rfl)
              have c7n : ∀ j, j ∈ [248, 253, 260] → (upI c9 264 (fun _ => 2)).1 j = c.1 j := fun j hj => by
                simp only [List.mem_cons, List.not_mem_nil, or_false] at hj
                rcases hj with rfl | rfl | rfl <;> rw [e79.1 _ (by decide), q4'.1 _ (by decide), e36.1 _ (by decide), m2.1 _ (by decide), e12.1 _ (by decide)]
              have x7' : σ.1 + 1 + 1 + 1 + L.length ≤ σ5.1 := x7
              have o6 := ho.2.2.2.2.2.1
              refine ⟨rfl, ⟨0, ?_⟩, ?_, by rw [c7n 248 (by decide)]; exact ho.2.2.1, ?_, ?_, by omega, by rw [c7n 260 (by decide)]; exact ho.2.2.2.2.2.2.1, wo.1⟩
              · simp only [tu1, tu2, uu1, uu2, uu3, vu1, vu2, vu3, su1, su2, Nat.reduceEqDiff, false_and, true_and, reduceIte, Bool.false_eq_true, if_true, if_false]
                exact X8
              · simp only [tu1, tu2, uu1, uu2, uu3, vu1, vu2, vu3, su1, su2, Nat.reduceEqDiff, false_and, true_and, reduceIte, Bool.false_eq_true, if_true, if_false]
                exact D9
              · rw [c7n 253 (by decide)]
                simp only [tu1, tu2, uu1, uu2, uu3, vu1, vu2, vu3, su1, su2, Nat.reduceEqDiff, false_and, true_and, reduceIte, Bool.false_eq_true, if_true, if_false]
                exact ho.2.2.2.1
              · simp only [tu1, tu2, uu1, uu2, uu3, vu1, vu2, vu3, su1, su2, Nat.reduceEqDiff, false_and, true_and, reduceIte, Bool.false_eq_true, if_true, if_false]
                exact ho.2.2.2.2.1
            · rw [if_neg z] at un
              exact Mr.off (fp := (30, pl (σ.1 + 2))) (up ⟨n3 z, no7.keep n2 (by decide)⟩ e9) (fun q y => (by rw [hμ] at y; cases y)) (fun _ => un)
    · obtain ⟨c6, j1, j2, j3⟩ := expFor_dead (N := N) (x := 134) i2 al
      rw [j1, obind, obind] at hmv
      exact dead1 c6 _ j2 al (by omega) hmv (by rw [gt])
  · have gf := Bool.eq_false_iff.mpr gi
    rw [gf, if_pos (show b01 false = 0 from rfl)] at hmv
    rw [gf, if_neg (by decide)] at b2
    have dd := gNo_al (tk := tk) (pl := pl) (σ := gInc σ) h0
    have gt : gTake tk pl 400 (gInc σ) = gNo tk pl (gInc σ) := gTake_f gi
    unfold bk_Grammar_assignment_Gr_39 at hmv
    obtain ⟨c4, f1, f2, f3⟩ := ktake (N := N) T' b2 (fun z => absurd z dd)
    rw [if_neg dd] at f2
    rw [f1, obind] at hmv
    dsimp only at hmv
    have G4 : CG tk pl nt ex (upI c4 266 (fun _ => c4.1 215 0)) (gNo tk pl (gInc σ)) := f2.upI (by decide)
    obtain ⟨c5, i1, i2, i3⟩ := kneed (N := N) T' 61 (by decide) G4
    rw [gTake_dead dd] at i2
    rw [show fn_Tokens_need_Tk N 61 (upI c4 266 (fun _ => c4.1 215 0)) = some ((), c5) from i1, obind] at hmv
    dsimp only at hmv
    obtain ⟨c6, j1, j2, j3⟩ := expFor_dead (N := N) (x := 134) i2 dd
    rw [j1, obind, obind] at hmv
    exact dead1 c6 _ j2 dd (by rw [gNo_1]; exact Nat.le_refl _) hmv (by rw [gt, gTake_dead dd])
end CASG2
