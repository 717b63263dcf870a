/-! The class: an item that names a module, whole. -/
section CINS3
variable {tk pl vl wi wd : Nat → Nat} {nt nw N N0 N1 lc : Nat} {ex : Nat → Int32} {lit : Nat → Int64} {c c' c0 : ms} {A : ds} {m t sz C I K : Nat} {σ σ' : gs} {μ : Option (Nat × Nat)}
theorem it_inst (T' : Tv tk pl nt) (hV : Vb tk vl wi) (hN : 40000 < N) (hN1 : 12002 < N1) (hN0 : 12002 < N0) (hK : KS tk pl vl wi wd nt ex nw lit lc c) (h0 : σ.2.2.1 = 0) (h2 : c.1 264 0 = 2) (h271 : c.1 271 0 = nI 0) (hG : CG tk pl nt ex c σ) (hkk : tk σ.1 = 400) (hs : Md tk pl wd nt nw lit lc A σ.1 sz c μ) (hP : μ = none → PF A) :
    ∃ σ', (if gIs tk 46 (gOpen tk pl 40 (gTake tk pl 400 (gTake tk pl 400 σ))) then (gLink tk pl N1 (gOpen tk pl 40 (gTake tk pl 400 (gTake tk pl 400 σ)))).bind (gIl tk pl N1 N1) else (gShut tk pl 41 (gOpen tk pl 40 (gTake tk pl 400 (gTake tk pl 400 σ)))).bind (fun σ => some (gTake tk pl 59 σ))) = some σ' ∧ (DeadS 4 tk pl nt ex N c σ σ' ∨ ItPost tk pl wd nt nw ex N lit lc c σ σ' μ (dInstance tk pl vl wi wd nt N0 σ.1 A)) := by
  have hnt := T'.2.1
  have t0n := hG.2.1
  have t1n := T'.more hG.2.1 hkk (by omega) (by omega)
  have g0 : gTake tk pl 400 σ = gInc σ := by
    unfold gTake
    rw [show gIs tk 400 σ = true from decide_eq_true ⟨h0, hkk⟩, if_pos rfl]
  rw [g0]
  have st := hG.2.2.2.1 h0
  have kx := hK.2.2.2.2.2.2.1 σ.1 t0n hkk
  have q216 : c.1 216 0 = nI (wd σ.1) := by rw [st.2.2.2.1]; exact kx.1
  have q215 : c.1 215 0 = nI (pl σ.1) := st.2.2.1
  -- which module
  obtain ⟨c1, μ1, m, m1, m2, m3, m4, m5⟩ : ∃ c1 μ1 m, fn_Meaning_instance_Me N (nI (wd σ.1)) (nI (pl σ.1)) c = some ((), c1) ∧ Eb [242, 243, 328, 329, 330, 331] [] c c1 ∧ (∀ fp, μ1 = some fp → OffN nw c1 fp.1 fp.2) ∧ (∀ fp, μ = some fp → μ1 = some fp) ∧ (μ = none → (∀ fp, μ1 = some fp → σ.1 + 3 < nt → tk (σ.1 + 1) = 400 → dInstance tk pl vl wi wd nt N0 σ.1 A = some (.inl fp)) ∧ (μ1 = none → dMod wd A σ.1 = some m ∧ (∃ T, Xc c1 T sz (A.1 47 0)) ∧ c1.1 328 0 = nI (A.1 41 0 + 1) ∧ c1.1 329 = upd (c.1 329) (A.1 41 0) (nI m) ∧ c1.1 330 = upd (c.1 330) (A.1 41 0) (-1) ∧ c1.1 331 = upd (c.1 331) (A.1 41 0) (nI (A.1 42 0)))) := by
    cases hμ : μ with
    | some fp =>
      have o := hs.1 fp hμ
      exact ⟨c, some fp, 0, off_inst o.off, Eb.rfl, fun q z => (by cases z; exact o), fun q z => (by cases z; rfl), fun z => (by cases z)⟩
    | none =>
      obtain ⟨⟨T, X⟩, o2, o3, o4, o5, o6, o7, o8⟩ := hs.2 hμ
      obtain ⟨c1, n1, n2, n3, n4⟩ := inst_C (N := N) (x := σ.1) hnt hK.2.2.2.2.2.2.2 o8 (by omega) kx.2 X o2
      cases eh : dMod wd A σ.1 with
      | none =>
        refine ⟨c1, some (22, pl σ.1), 0, n1, n2, fun q z => (by cases z; exact n3 eh), fun q z => (by cases z), fun _ => ⟨fun q z tn k4 => ?_, fun z => (by cases z)⟩⟩
        cases z
        unfold dInstance
        rw [if_neg (by rintro (y | y | y); omega; exact y hkk; exact y k4), eh]
        rfl
      | some m =>
        obtain ⟨x1, x2, x3, x4, x5⟩ := n4 m eh
        exact ⟨c1, none, m, n1, n2, fun q z => (by cases z), fun q z => (by cases z), fun _ => ⟨fun q z => (by cases z), fun _ => ⟨rfl, ⟨T, x1⟩, x2, x3, x4, x5⟩⟩⟩
  have mno : μ1 = none → μ = none := fun z => by
    cases hμ : μ with
    | none => rfl
    | some fp => have := m4 fp hμ; rw [z] at this; cases this
  have G1 : CG tk pl nt ex c1 σ := hG.mono m2 (fun k _ _ => by simp; omega) (by decide)
  obtain ⟨c2, a1, a2, a3⟩ := ktake (N := N) T' G1 (fun _ => t1n)
  rw [if_pos h0] at a2
  obtain ⟨c3, b1, b2, b3, b4⟩ := kdue (N := N) T' 400 (by decide) a2
  have e13 : F7 c1 c3 := a3.trans b3
  have eP3 : KP c c3 := (m2.mono (by decide) (by decide)).trans (F7.toKP e13)
  have hmv : mv N c = (if b01 (gIs tk 400 (gInc σ)) = 0 then (bk_Grammar_instance_Gr_60 N c3) else ((fn_Meaning_instanceName_Me N ((c3.1 216 0)) ((c3.1 215 0)) c3).bind (fun q_8 => bk_Grammar_instance_Gr_60 N q_8.2))).bind (fun q_1 => some ((), q_1.2)) := by
    rw [mv2 h2]
    unfold fn_Grammar_item_Gr fn_Grammar_instance_Gr
    rw [if_pos (show c.1 214 0 = 2 from kpos (k := 400) hG h0 hkk), q216, q215, m1, obind]
    dsimp only
    rw [a1, obind]
    dsimp only
    rw [show fn_Tokens_due_Tk N 2 c2 = some (b01 (gIs tk 400 (gInc σ)), c3) from b1, obind]
  rw [bindU] at hmv
  by_cases gi : gIs tk 400 (gInc σ) = true
  · have g' := gi
    simp only [gIs, decide_eq_true_eq] at g'
    have k4 : tk (σ.1 + 1) = 400 := g'.2
    have c32 := b4 gi
    subst c32
    rw [gi, if_neg (show ¬ b01 true = 0 by decide)] at hmv
    rw [gi, if_pos rfl] at b2
    have t2n := T'.more t1n k4 (by decide) (by decide)
    have st3 := b2.2.2.2.1 (show (gInc σ).2.2.1 = 0 from h0)
    have kx1 := hK.2.2.2.2.2.2.1 (σ.1 + 1) t1n k4
    have r216 : c3.1 216 0 = nI (wd (σ.1 + 1)) := by rw [st3.2.2.2.1]; exact kx1.1
    have r215 : c3.1 215 0 = nI (pl (σ.1 + 1)) := st3.2.2.1
    rw [r216, r215] at hmv
    have al3 : c3.1 217 0 = nI 0 := b2.alive h0
    -- the name
    obtain ⟨c4, μ4, n1, n2, n3, n4, n5⟩ : ∃ c4 μ4, fn_Meaning_instanceName_Me N (nI (wd (σ.1 + 1))) (nI (pl (σ.1 + 1))) c3 = some ((), c4) ∧ Eb [235, 236, 242, 243, 330] [] c3 c4 ∧ (∀ fp, μ4 = some fp → OffN nw c4 fp.1 fp.2) ∧ (∀ fp, μ = some fp → μ4 = some fp) ∧ (μ = none → (∀ fp, μ4 = some fp → σ.1 + 3 < nt → dInstance tk pl vl wi wd nt N0 σ.1 A = some (.inl fp)) ∧ (μ4 = none → dMod wd A σ.1 = some m ∧ ¬ (dHere wd A (σ.1 + 1) ≠ none ∨ dInst wd A (σ.1 + 1) ≠ none) ∧ (∃ T, Xc c4 T sz (A.1 47 0)) ∧ DC pl wd nw lit lc (dIt A m (σ.1 + 1)) (A.1 41 0 + 1) (A.1 42 0) sz c4)) := by
      cases h1 : μ1 with
      | some fp =>
        have o := (m3 fp h1).mono e13 (by decide)
        refine ⟨c3, some fp, off_instName o.off, Eb.rfl, fun q z => (by cases z; exact o), fun q z => ?_, fun z => ⟨fun q y tn => ?_, fun y => (by cases y)⟩⟩
        · rw [← h1]; exact m4 q z
        · cases y
          exact (m5 z).1 fp h1 tn k4
      | none =>
        obtain ⟨x1, ⟨T, x2⟩, x3, x4, x5, x6⟩ := (m5 (mno h1)).2 h1
        obtain ⟨-, o2, o3, o4, o5, o6, o7, o8⟩ := hs.2 (mno h1)
        obtain ⟨c4, y1, y2, y3, y4⟩ := instName_C (N := N) (x := σ.1 + 1) (m := m) (c := c) (c' := c3) hnt hK.2.2.2.2.2.2.2 o8 (by omega) kx1.2 (x2.mono e13 (by decide) al3) o2 ((m2.mono (by decide) (by decide)).trans (e13.mono (by decide) (by decide))) (by rw [e13.1 328 (by decide)]; exact x3) (by rw [e13.1 329 (by decide)]; exact x4) (by rw [e13.1 330 (by decide)]; exact x5) (by rw [e13.1 331 (by decide)]; exact x6)
        by_cases bad : dHere wd A (σ.1 + 1) ≠ none ∨ dInst wd A (σ.1 + 1) ≠ none
        · refine ⟨c4, some (21, pl (σ.1 + 1)), y1, y2, fun q z => (by cases z; exact y3 bad), fun q z => (by rw [mno h1] at z; cases z), fun _ => ⟨fun q z tn => ?_, fun z => (by cases z)⟩⟩
          cases z
          unfold dInstance
          rw [if_neg (by rintro (y | y | y); omega; exact y hkk; exact y k4), x1]
          dsimp only
          rw [if_pos bad]
          rfl
        · obtain ⟨z1, z2⟩ := y4 bad
          exact ⟨c4, none, y1, y2, fun q z => (by cases z), fun q z => (by rw [mno h1] at z; cases z), fun _ => ⟨fun q z => (by cases z), fun _ => ⟨x1, bad, ⟨T, z1⟩, z2⟩⟩⟩
    have mno4 : μ4 = none → μ = none := fun z => by
      cases hμ : μ with
      | none => rfl
      | some fp => have := n4 fp hμ; rw [z] at this; cases this
    rw [n1, obind] at hmv
    dsimp only at hmv
    unfold bk_Grammar_instance_Gr_60 at hmv
    have G4 : CG tk pl nt ex c4 (gInc σ) := b2.mono n2 (fun k _ _ => by simp; omega) (by decide)
    obtain ⟨c5, f1, f2, f3⟩ := ktake (N := N) T' G4 (fun _ => t2n)
    rw [if_pos (show (gInc σ).2.2.1 = 0 from h0)] at f2
    obtain ⟨c6, i1, i2, i3⟩ := kopen (N := N) T' 40 (by decide) f2
    rw [f1, obind] at hmv
    dsimp only at hmv
    rw [show fn_Tokens_open_Tk N 40 c5 = some ((), c6) from i1, obind] at hmv
    dsimp only at hmv
    have gt : gTake tk pl 400 (gInc σ) = gInc (gInc σ) := gTake_t gi
    rw [gt]
    have e46 : F7 c4 c6 := f3.trans i3
    have eP6 : KP c c6 := (eP3.trans (n2.mono (by decide) (by decide))).trans (F7.toKP e46)
    have h271' : c6.1 271 0 = nI 0 := by rw [e46.1 271 (by decide), n2.1 271 (by decide), e13.1 271 (by decide), m2.1 271 (by decide)]; exact h271
    have le40 := gOpen_le (tk := tk) (pl := pl) (k := 40) (σ := gInc (gInc σ))
    have le40' : σ.1 + 1 + 1 ≤ (gOpen tk pl 40 (gInc (gInc σ))).1 := le40
    by_cases al : (gOpen tk pl 40 (gInc (gInc σ))).2.2.1 ≠ 0
    · rw [if_neg (show ¬ c6.1 214 0 = 41 from kneg (k := 41) T' i2 (by decide) (fun z => absurd z al))] at hmv
      rw [if_neg (by rw [gIs_dead al]; decide), gShut_dead al, obind, gTake_dead al]
      exact ⟨_, rfl, Or.inl ⟨al, by omega, 1, _, Rc.one (hG.alive h0) (by rw [h2]; decide) hmv, by omega, i2.upI (by decide)⟩⟩
    · have al := Classical.not_not.mp al
      obtain ⟨-, k40, d60, x3⟩ := gOpen_al al
      have x3' : gOpen tk pl 40 (gInc (gInc σ)) = (σ.1 + 3, σ.2.1 + 1, σ.2.2) := x3
      rw [x3'] at i2 ⊢
      have tn3 : σ.1 + 3 < nt := i2.2.1
      have al6 : c6.1 217 0 = nI 0 := i2.alive h0
      have hs6 : MdL tk pl wd nt nw lit lc (dIt A m (σ.1 + 1)) m (σ.1 + 3) sz c6 μ4 := by
        refine ⟨fun fp z => (n3 fp z).mono e46 (by decide), fun z => ?_⟩
        obtain ⟨x1, x2, ⟨T, x4⟩, x5⟩ := (n5 (mno4 z)).2 z
        obtain ⟨-, o2, o3, o4, o5, o6, o7, o8⟩ := hs.2 (mno4 z)
        have md := dMod_in x1
        have k47 : (dIt A m (σ.1 + 1)).1 47 0 = A.1 47 0 := by unfold dIt; simp only [tu1, tu2, uu1, uu2, uu3, vu1, vu2, vu3, su1, su2, Nat.reduceEqDiff, false_and, true_and, reduceIte, Bool.false_eq_true, if_true, if_false]
        have k41 : (dIt A m (σ.1 + 1)).1 41 0 = A.1 41 0 := by unfold dIt; simp only [tu1, tu2, uu1, uu2, uu3, vu1, vu2, vu3, su1, su2, Nat.reduceEqDiff, false_and, true_and, reduceIte, Bool.false_eq_true, if_true, if_false]
        have k42 : (dIt A m (σ.1 + 1)).1 42 0 = A.1 42 0 := by unfold dIt; simp only [tu1, tu2, uu1, uu2, uu3, vu1, vu2, vu3, su1, su2, Nat.reduceEqDiff, false_and, true_and, reduceIte, Bool.false_eq_true, if_true, if_false]
        have k44 : (dIt A m (σ.1 + 1)).1 44 0 = A.1 44 0 := by unfold dIt; simp only [tu1, tu2, uu1, uu2, uu3, vu1, vu2, vu3, su1, su2, Nat.reduceEqDiff, false_and, true_and, reduceIte, Bool.false_eq_true, if_true, if_false]
        have k5 : ∀ d, (dIt A m (σ.1 + 1)).1 5 d = A.1 5 d := fun d => by unfold dIt; simp only [tu1, tu2, uu1, uu2, uu3, vu1, vu2, vu3, su1, su2, Nat.reduceEqDiff, false_and, true_and, reduceIte, Bool.false_eq_true, if_true, if_false]
        refine ⟨⟨T, by rw [k47]; exact x4.mono e46 (by decide) al6⟩, ?_, ?_, ?_, fun d => by rw [k5]; exact o5 d, by omega, ?_, (WF.it o8).later (by omega), LV.it md.1, (hP (mno4 z)).it⟩
        · rw [k41, k42]
          exact x5.keep e46 (by decide) (by decide) (fun k _ => by rw [e46.2 336 (by decide)]) (Nat.le_refl _)
        · rw [e46.1 248 (by decide), n2.1 248 (by decide), e13.1 248 (by decide), m2.1 248 (by decide)]; exact o3
        · rw [k44, e46.1 253 (by decide), n2.1 253 (by decide), e13.1 253 (by decide), m2.1 253 (by decide)]; exact o4
        · rw [e46.1 260 (by decide), n2.1 260 (by decide), e13.1 260 (by decide), m2.1 260 (by decide)]; exact o7
      have h11 : μ4 = none → (dIt A m (σ.1 + 1)).1 11 ((dIt A m (σ.1 + 1)).1 41 0) = σ.1 + 1 := fun _ => by unfold dIt; simp only [tu1, tu2, uu1, uu2, uu3, vu1, vu2, vu3, su1, su2, Nat.reduceEqDiff, false_and, true_and, reduceIte, Bool.false_eq_true, if_true, if_false]
      have K6 : KS tk pl vl wi wd nt ex nw lit lc c6 := hK.keep eP6 (by decide) (by decide)
      have un : μ4 = none → dInstance tk pl vl wi wd nt N0 σ.1 A = db (dLinks tk pl vl wi wd nt N0 m N0 (σ.1 + 3) (dIt A m (σ.1 + 1))) (dIend pl nt (σ.1 + 1) m) := fun z => by
        obtain ⟨x1, x2, -⟩ := (n5 (mno4 z)).2 z
        unfold dInstance
        rw [if_neg (by rintro (y | y | y); omega; exact y hkk; exact y k4), x1]
        dsimp only
        rw [if_neg x2]
        rfl
      by_cases z41 : tk (σ.1 + 3) = 41
      · rw [if_pos (show c6.1 214 0 = 41 from kpos (k := 41) i2 h0 z41)] at hmv
        obtain ⟨σ', c7, g1, g2, g3, g4, g5, g6, g7, g8⟩ := instEnd_G (N := N) (u := σ.1 + 1) T' ⟨t1n, k4⟩ i2 h0 (by show 0 < σ.2.1 + 1; omega) hs6 h11
        rw [g2, obind] at hmv
        have r1 : Rc N 1 c c7 := Rc.one (hG.alive h0) (by rw [h2]; decide) hmv
        have n46 : ¬ gIs tk 46 (σ.1 + 3, σ.2.1 + 1, σ.2.2) = true := by
          simp only [gIs, decide_eq_true_eq]
          intro y
          have := y.2
          omega
        rw [if_neg n46, g1]
        have g6' : σ.1 + 3 ≤ σ'.1 := g6
        refine ⟨σ', rfl, ?_⟩
        by_cases al7 : σ'.2.2.1 = 0
        · right
          obtain ⟨w1, w2, w3, w4⟩ := g8 al7
          have w1' : σ'.2.1 + 1 = σ.2.1 + 1 := w1
          refine ⟨1, c7, sz, r1, by omega, g5, eP6.trans g4, g3, al7, by omega, by omega, by rw [g7]; exact h271', w4.glue n4 (fun z => ⟨fun fp w => (n5 z).1 fp w tn3, fun w => ?_⟩)⟩
          rw [un w]
          obtain ⟨n2, e0⟩ : ∃ q, N0 = q + 1 := ⟨N0 - 1, by omega⟩
          conv => lhs; rw [e0]; unfold dLinks
          rw [if_neg (by omega), if_neg (by omega)]
          rfl
        · exact Or.inl ⟨al7, by omega, 1, c7, r1, by omega, g3⟩
      · rw [if_neg (show ¬ c6.1 214 0 = 41 from kneg (k := 41) T' i2 (by decide) (fun _ => z41))] at hmv
        have r1 : Rc N 1 c (upI c6 264 (fun _ => 3)) := Rc.one (hG.alive h0) (by rw [h2]; decide) hmv
        have ek : Eb [264] [] c6 (upI c6 264 (fun _ => 3)) := Eb.rfl.upI (by decide)
        have G7 : CG tk pl nt ex (upI c6 264 (fun _ => 3)) (σ.1 + 3, σ.2.1 + 1, σ.2.2) := i2.upI (by decide)
        have K7 := K6.keep ek (by decide) (by decide)
        have hs7 := hs6.keep (t' := σ.1 + 3) ek (by decide) (by decide) (by decide) (by rw [ek.1 217 (by decide)]; exact al6) (Nat.le_refl _)
        by_cases z46 : gIs tk 46 (σ.1 + 3, σ.2.1 + 1, σ.2.2) = true
        · rw [if_pos z46]
          obtain ⟨σ', g1, g2⟩ := links_C (N0 := N0) (N1 := N1) (u := σ.1 + 1) T' hV hN hN1 hN0 ⟨t1n, k4⟩ nt (upI c6 264 (fun _ => 3)) (σ.1 + 3, σ.2.1 + 1, σ.2.2) (dIt A m (σ.1 + 1)) sz N1 N0 μ4 (by omega) (by omega) (by omega) K7 h0 (by show 0 < σ.2.1 + 1; omega) rfl (by rw [ek.1 271 (by decide)]; exact h271') G7 hs7 h11
          refine ⟨σ', g1, g2.imp (fun dd => dd.after r1 (by show 1 + 4 ≤ 4 * (σ.1 + 3 - σ.1) + 4; omega) (by show σ.1 ≤ σ.1 + 3; omega)) (fun ⟨k, c8, sz', y1, y2, y3, y4, y5, y6, y7, y8, y9, y10⟩ => ?_)⟩
          have y2' : k + 1 ≤ 4 * (σ'.1 - (σ.1 + 3)) := y2
          have y8' : σ.1 + 3 < σ'.1 := y8
          have y7' : σ'.2.1 = σ.2.1 + 1 - 1 := y7
          exact ⟨1 + k, c8, sz', r1.trans y1, by omega, y3, (eP6.trans (ek.mono (by decide) (by decide))).trans y4, y5, y6, by omega, by omega, y9, y10.glue n4 (fun z => ⟨fun fp w => (n5 z).1 fp w tn3, fun w => un w⟩)⟩
        · rw [if_neg z46]
          obtain ⟨σ1, g1, g2⟩ := link_C (N0 := N0) (N1 := N1) (σ := (σ.1 + 3, σ.2.1 + 1, σ.2.2)) T' hV hN hN1 hN0 K7 h0 rfl G7 hs7
          have n46 : ¬ tk (σ.1 + 3) = 46 := fun y => z46 (by simp only [gIs, decide_eq_true_eq]; exact ⟨h0, y⟩)
          have dno : (gNo tk pl (σ.1 + 3, σ.2.1 + 1, σ.2.2)).2.2.1 ≠ 0 := gNo_al h0
          have l1 : gLink tk pl N1 (σ.1 + 3, σ.2.1 + 1, σ.2.2) = some (gNo tk pl (σ.1 + 3, σ.2.1 + 1, σ.2.2)) := by
            unfold gLink
            rw [gTake_f z46, gTake_dead dno, gOpen_dead dno, show gE tk pl N1 (gNo tk pl (σ.1 + 3, σ.2.1 + 1, σ.2.2)) = some _ from gE_dead2 dno (by omega) (by omega), obind, gShut_dead dno]
          have n41 : ¬ gIs tk 41 (σ.1 + 3, σ.2.1 + 1, σ.2.2) = true := by
            simp only [gIs, decide_eq_true_eq]
            exact fun y => z41 y.2
          have l2 : gShut tk pl 41 (σ.1 + 3, σ.2.1 + 1, σ.2.2) = some (gNo tk pl (σ.1 + 3, σ.2.1 + 1, σ.2.2)) := by
            unfold gShut
            rw [gTake_f n41]
            exact gDn_dead dno
          rw [l1] at g1
          cases g1
          rw [l2, obind, gTake_dead dno]
          refine ⟨_, rfl, ?_⟩
          rcases g2 with dd | ⟨k, c7, c9, sz', q1, q2, q3, q4, q5, q6, q7, q8, q9, q10, q11, q12, q13⟩
          · exact Or.inl (dd.after r1 (by show 1 + 4 ≤ 4 * (σ.1 + 3 - σ.1) + 4; omega) (by show σ.1 ≤ σ.1 + 3; omega))
          · exact absurd q11 n46
  · have gf := Bool.eq_false_iff.mpr gi
    rw [gf, if_pos (show b01 false = 0 from rfl)] at hmv
    rw [gf, if_neg (by decide)] at b2
    have dd := gNo_al (tk := tk) (pl := pl) (σ := gInc σ) h0
    have gt : gTake tk pl 400 (gInc σ) = gNo tk pl (gInc σ) := gTake_f gi
    unfold bk_Grammar_instance_Gr_60 at hmv
    obtain ⟨c4, f1, f2, f3⟩ := ktake (N := N) T' b2 (fun z => absurd z dd)
    rw [if_neg dd] at f2
    rw [f1, obind] at hmv
    dsimp only at hmv
    obtain ⟨c5, i1, i2, i3⟩ := kopen (N := N) T' 40 (by decide) f2
    rw [gOpen_dead dd] at i2
    rw [show fn_Tokens_open_Tk N 40 c4 = some ((), c5) from i1, obind] at hmv
    dsimp only at hmv
    rw [if_neg (show ¬ c5.1 214 0 = 41 from kneg (k := 41) T' i2 (by decide) (fun z => absurd z dd))] at hmv
    rw [gt, gOpen_dead dd, if_neg (by rw [gIs_dead dd]; decide), gShut_dead dd, obind, gTake_dead dd]
    have l1 : (gNo tk pl (gInc σ)).1 = σ.1 + 1 := gNo_1
    exact ⟨_, rfl, Or.inl ⟨dd, by omega, 1, _, Rc.one (hG.alive h0) (by rw [h2]; decide) hmv, by omega, i2.upI (by decide)⟩⟩
end CINS3
