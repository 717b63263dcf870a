/-! The class: designs. -/
section CDES
variable {tk pl vl wi wd : Nat → Nat} {nt nw N N0 N1 lc : Nat} {ex : Nat → Int32} {lit : Nat → Int64} {c c' c0 : ms} {A A' : ds} {m t sz C I K : Nat} {σ σ' : gs} {μ : Option (Nat × Nat)}
theorem mv1 (h : c.1 264 0 = 1) : mv N c = (if (c.1 214 0) = 0 then some ((), upI c 264 (fun _ => 9)) else some ((), upI c 264 (fun _ => 0))) := by
  unfold mv
  rw [h, if_neg (by decide), if_pos rfl]
/-- what a design leaves -/
def DsP (tk pl wd : Nat → Nat) (nt nw : Nat) (ex : Nat → Int32) (N : Nat) (lit : Nat → Int64) (lc : Nat) (c : ms) (σ σ' : gs) (μ : Option (Nat × Nat)) (r : dr) : Prop :=
  ∃ k c' sz', Rc N k c c' ∧ k ≤ 4 * (σ'.1 - σ.1) ∧ c'.1 264 0 = 9 ∧ KP c c' ∧ CG tk pl nt ex c' σ' ∧ σ'.2.2.1 = 0 ∧ σ.1 < σ'.1 ∧ tk σ'.1 = 403 ∧ MrB tk pl wd nt nw lit lc μ r σ'.1 sz' c'
theorem MdB.keep {ks : List Nat} {t' : Nat} (h : MdB tk pl wd nt nw lit lc A t sz c μ) (e : Eb ks [] c c') (hk : dcL.all (fun k => !ks.contains k) = true) (hk2 : (242 ∉ ks ∧ 239 ∉ ks ∧ 337 ∉ ks ∧ 241 ∉ ks) ∧ 248 ∉ ks ∧ 253 ∉ ks ∧ 260 ∉ ks) (hk3 : 243 ∉ ks) (h2 : c'.1 217 0 = nI 0) (ht : t ≤ t') : MdB tk pl wd nt nw lit lc A t' sz c' μ :=
  ⟨fun fp z => (h.1 fp z).keepD e hk hk2.1.1 hk3, fun z => (h.2 z).keep e hk hk2 h2 ht⟩
theorem design_C (T' : Tv tk pl nt) (hV : Vb tk vl wi) (hN : 40000 < N) (hN1 : 12002 < N1) (hN0 : 12002 < N0) : ∀ (j : Nat) (c : ms) (σ : gs) (A : ds) (sz n n' : Nat) (μ : Option (Nat × Nat)), nt - σ.1 ≤ j → j < n → j < n' → KS tk pl vl wi wd nt ex nw lit lc c → σ.2.2.1 = 0 → c.1 264 0 = 0 → c.1 271 0 = nI 0 → CG tk pl nt ex c σ → MdB tk pl wd nt nw lit lc A σ.1 sz c μ → (μ = none → PB A) →
    ∃ σ', gDl tk pl N1 n σ = some σ' ∧ (DeadS 4 tk pl nt ex N c σ σ' ∨ DsP tk pl wd nt nw ex N lit lc c σ σ' μ (if nt ≤ σ.1 then none else db (dModule tk pl vl wi wd nt N0 σ.1 A) (fun t1 A1 => dDesign tk pl vl wi wd nt N0 n' t1 A1))) := by
  have hnt := T'.2.1
  intro j
  induction j with
  | zero =>
    intro c σ A sz n n' μ h1 _ _ _ _ _ _ hG
    have := hG.2.1
    omega
  | succ j ih =>
    intro c σ A sz n n' μ h1 h2 h3 hK h0 h264 h271 hG hs hP
    obtain ⟨n, rfl⟩ : ∃ q, n = q + 1 := ⟨n - 1, by omega⟩
    have t0n := hG.2.1
    obtain ⟨c1, σ1, a1, a2, a3, a4, a5, a6, a7⟩ := head_C (N0 := N0) (N1 := N1) (n := n) T' hV hN hN1 hN0 hK h0 h264 hG hs
    have r1 : Rc N 1 c c1 := Rc.one (hG.alive h0) (by rw [h264]; decide) a1
    have gKd : ∀ ρ : gs, ρ.2.2.1 ≠ 0 → gK tk pl N1 n ρ = some ρ := fun ρ hρ => if_neg (fun z => hρ z.1)
    rw [a2]
    by_cases al1 : σ1.2.2.1 ≠ 0
    · refine ⟨σ1, ?_, Or.inl ⟨al1, a6, 1, c1, r1, by omega, a3⟩⟩
      obtain ⟨q, rfl⟩ : ∃ q, N1 = q + 1 := ⟨N1 - 1, by omega⟩
      unfold gMl
      rw [if_neg (fun z => al1 z.1), gTake_dead al1, gKd _ al1]
    have al1 := Classical.not_not.mp al1
    obtain ⟨b1, b2, b3⟩ := a7 al1
    obtain ⟨μ1, A1, m1, m2, m3⟩ := b3.split
    have eP1 : KP c c1 := a5.mono (by decide) (by decide)
    have K1 : KS tk pl vl wi wd nt ex nw lit lc c1 := hK.keep eP1 (by decide) (by decide)
    have hd1 : μ1 = none → dHead tk pl vl wi wd nt N0 σ.1 A = some (.inr (σ1.1, A1)) := fun z => (m3 (muno m2 z)).2 z
    have P1 : μ1 = none → PF A1 ∧ PC A1 := fun z => by
      have y := muno m2 z
      exact dHead_P hV (hP y) ((hs.2 y).2.2.2.2.2.2.2.1) (hd1 z)
    obtain ⟨σ2, g1, g2⟩ := items_C (N0 := N0) (N1 := N1) (kk := gK tk pl N1 n) T' hV hN hN1 hN0 nt c1 σ1 A1 sz N1 N0 μ1 (by omega) (by omega) (by omega) K1 al1 a4 (by rw [a5.1 271 (by decide)]; exact h271) a3 m1 P1
    rw [g1]
    rcases g2 with dd | ⟨k, c2, sz2, q1, q2, q3, q4, q5, q6, q7, q8, q9, q10, q11⟩
    · rw [gTake_dead dd.1, gKd _ dd.1]
      exact ⟨σ2, rfl, Or.inl (dd.after r1 (by omega) (by omega))⟩
    have gt : gTake tk pl 301 σ2 = gInc σ2 := by
      unfold gTake
      rw [show gIs tk 301 σ2 = true from decide_eq_true ⟨q6, q9⟩, if_pos rfl]
    rw [gt]
    have r2 := r1.trans q1
    have t2n := T'.more q5.2.1 q9 (by decide) (by decide)
    obtain ⟨μ2, A2, f1, f2, f3⟩ := q11.split
    have it2 : μ2 = none → dItems tk pl vl wi wd nt N0 N0 σ1.1 A1 = some (.inr (σ2.1, A2)) := fun z => (f3 (muno f2 z)).2 z
    have mm : μ2 = none → μ1 = none ∧ μ = none := fun z => ⟨muno f2 z, muno m2 (muno f2 z)⟩
    have pur : μ2 = none → PF A2 ∧ PC A2 ∧ PA A2 ∧ WF tk nt A2 σ2.1 ∧ (A2.1 20 (A2.1 46 0) < nt ∧ tk (A2.1 20 (A2.1 46 0)) = 400) ∧ 4 * (A2.1 46 0 + 1) ≤ σ2.1 + 1 := fun z => by
      obtain ⟨y1, y⟩ := mm z
      obtain ⟨p1, p2, p3, p4, p5, p6⟩ := dHead_is (hd1 y1)
      have w0 := (hs.2 y).2.2.2.2.2.2.2.1
      have w1 := (m1.2 y1).p1
      obtain ⟨i1, i2, i3, i4, i5, i6⟩ := dItems_inv (N := N0) hV N0 σ1.1 A1 (P1 y1).1 (P1 y1).2 p1 w1 σ2.1 A2 (it2 z)
      rw [i6 20 (by decide), i6 46 (by decide), p5, p6]
      have := w0.1.2.2.2.2.2.2
      exact ⟨i1, i2, i3, i4, ⟨p3, p4⟩, by omega⟩
    -- the end of the module
    obtain ⟨c3, e1, e2, e3⟩ : ∃ c3, fn_Meaning_moduleEnd_Me N c2 = some ((), c3) ∧ Eb [242, 243, 600, 601, 602, 603, 604] [] c2 c3 ∧ MrB tk pl wd nt nw lit lc μ2 (dTail pl σ2.1 A2) (σ2.1 + 1) sz2 c3 := by
      cases h3 : μ2 with
      | some fp =>
        have o := f1.1 fp h3
        exact ⟨c2, off_moduleEnd o.off, Eb.rfl, fun q z => (by cases z; exact o), fun z => (by cases z)⟩
      | none =>
        obtain ⟨-, -, p3, -, p5, p6⟩ := pur h3
        obtain ⟨c3, n1, n2, n3, n4⟩ := moduleEnd_C (N := N) (t' := σ2.1 + 1) hnt hN (by have := q5.2.1; omega) p3 p5 p6 (by omega) (f1.2 h3)
        refine ⟨c3, n1, n2, fun q z => (by cases z), fun _ => ?_⟩
        cases eu : dUnd A2 with
        | some d => exact ⟨.inl (33, pl (A2.1 0 d)), by unfold dTail; rw [eu]; rfl, fun f p y => (by cases y; exact n3 d eu), fun _ _ y => (by cases y)⟩
        | none => exact ⟨.inr (σ2.1 + 1, dEnd A2), by unfold dTail; rw [eu]; rfl, fun _ _ y => (by cases y), fun t' A' y => (by cases y; exact ⟨rfl, n4 eu⟩)⟩
    have G3 : CG tk pl nt ex c3 σ2 := q5.mono e2 (fun k _ _ => by simp; omega) (by decide)
    obtain ⟨c4, s1, s2, s3⟩ := ktake (N := N) T' G3 (fun _ => t2n)
    rw [if_pos q6] at s2
    have hmv : mv N c2 = some ((), upI c4 264 (fun _ => 1)) := by
      rw [mv2 q3]
      unfold fn_Grammar_item_Gr
      rw [if_neg (show ¬ c2.1 214 0 = 2 from kneg (k := 400) T' q5 (by decide) (fun _ => by omega)), if_pos (show c2.1 214 0 = 129 from kpos (k := 301) q5 q6 q9), e1, obind]
      dsimp only
      rw [s1, obind]
    have r3 := r2.trans (Rc.one (q5.alive q6) (by rw [q3]; decide) hmv)
    have ek : Eb [213, 214, 215, 216, 217, 218, 219, 264] [] c3 (upI c4 264 (fun _ => 1)) := (s3.mono (by decide) (by decide)).upI (by decide)
    have al4 : (upI c4 264 (fun _ => 1)).1 217 0 = nI 0 := s2.alive q6
    obtain ⟨μ3, A3, v1, v2, v3⟩ := e3.split
    have hs4 : MdB tk pl wd nt nw lit lc A3 (σ2.1 + 1) sz2 (upI c4 264 (fun _ => 1)) μ3 := v1.keep ek (by decide) (by decide) (by decide) al4 (Nat.le_refl _)
    have G4 : CG tk pl nt ex (upI c4 264 (fun _ => 1)) (gInc σ2) := s2.upI (by decide)
    have eP4 : KP c (upI c4 264 (fun _ => 1)) := ((eP1.trans q4).trans (e2.mono (by decide) (by decide))).trans (ek.mono (by decide) (by decide))
    have h4 : (upI c4 264 (fun _ => 1)).1 264 0 = 1 := rfl
    have h271' : (upI c4 264 (fun _ => 1)).1 271 0 = nI 0 := by rw [ek.1 271 (by decide), e2.1 271 (by decide)]; exact q10
    generalize upI c4 264 (fun _ => 1) = c5 at *
    have K5 : KS tk pl vl wi wd nt ex nw lit lc c5 := hK.keep eP4 (by decide) (by decide)
    -- what the module is
    have all : ∀ fp, μ = some fp → μ3 = some fp := fun fp z => v2 fp (f2 fp (m2 fp z))
    have dm : μ = none → (∀ fp, μ3 = some fp → dModule tk pl vl wi wd nt N0 σ.1 A = some (.inl fp)) ∧ (μ3 = none → dModule tk pl vl wi wd nt N0 σ.1 A = some (.inr (σ2.1 + 1, A3))) := fun z => by
      rw [dModule_eq]
      cases h1 : μ1 with
      | some f =>
        have y := (m3 z).1 f h1
        have y2 := v2 f (f2 f h1)
        refine ⟨fun fp w => ?_, fun w => (by rw [y2] at w; cases w)⟩
        rw [y2] at w
        cases w
        rw [y]
        rfl
      | none =>
        rw [(m3 z).2 h1, db_inr]
        cases h2 : μ2 with
        | some f =>
          have y := (f3 h1).1 f h2
          have y2 := v2 f h2
          refine ⟨fun fp w => ?_, fun w => (by rw [y2] at w; cases w)⟩
          rw [y2] at w
          cases w
          rw [y]
          rfl
        | none =>
          rw [(f3 h1).2 h2, db_inr]
          exact v3 h2
    have P3 : μ3 = none → PB A3 := fun z => by
      have y2 := muno v2 z
      obtain ⟨p1, p2, -, p4, -, -⟩ := pur y2
      have y := (v3 y2).2 z
      unfold dTail at y
      cases eu : dUnd A2 with
      | some d => rw [eu] at y; cases y
      | none =>
        rw [eu] at y
        cases y
        exact dEnd_P p1 p2 p4
    -- behind it
    by_cases k403 : tk (σ2.1 + 1) = 403
    · have hm5 : mv N c5 = some ((), upI c5 264 (fun _ => 9)) := by
        rw [mv1 h4, if_pos (show c5.1 214 0 = 0 from kpos (k := 403) G4 q6 k403)]
      have r4 := r3.trans (Rc.one (G4.alive q6) (by rw [h4]; decide) hm5)
      have ek9 : Eb [264] [] c5 (upI c5 264 (fun _ => 9)) := Eb.rfl.upI (by decide)
      refine ⟨gInc σ2, ?_, Or.inr ⟨1 + k + 1 + 1, _, sz2, r4, by show 1 + k + 1 + 1 ≤ 4 * (σ2.1 + 1 - σ.1); omega, rfl, eP4.upI (by decide), G4.upI (by decide), q6, by show σ.1 < σ2.1 + 1; omega, k403, ?_⟩⟩
      · unfold gK
        rw [if_neg (fun z => z.2 k403)]
      · have hs9 := hs4.keep (t' := σ2.1 + 1) ek9 (by decide) (by decide) (by decide) (by rw [ek9.1 217 (by decide)]; exact G4.alive q6) (Nat.le_refl _)
        refine ⟨fun fp z => hs9.1 fp (all fp z), fun z => ?_⟩
        rw [if_neg (by omega)]
        cases h3 : μ3 with
        | some fp => exact ⟨.inl fp, by rw [(dm z).1 fp h3]; rfl, fun f p y => (by cases y; exact hs9.1 _ h3), fun _ _ y => (by cases y)⟩
        | none =>
          refine ⟨.inr (σ2.1 + 1, A3), ?_, fun _ _ y => (by cases y), fun t' A' y => (by cases y; exact ⟨rfl, hs9.2 h3⟩)⟩
          rw [(dm z).2 h3, db_inr]
          obtain ⟨q, rfl⟩ : ∃ q, n' = q + 1 := ⟨n' - 1, by omega⟩
          unfold dDesign
          rw [if_neg (by omega), if_pos k403]
          rfl
    · have hm5 : mv N c5 = some ((), upI c5 264 (fun _ => 0)) := by
        rw [mv1 h4, if_neg (show ¬ c5.1 214 0 = 0 from kneg (k := 403) T' G4 (by decide) (fun _ => k403))]
      have r4 := r3.trans (Rc.one (G4.alive q6) (by rw [h4]; decide) hm5)
      have ek9 : Eb [264] [] c5 (upI c5 264 (fun _ => 0)) := Eb.rfl.upI (by decide)
      have hs9 := hs4.keep (t' := σ2.1 + 1) ek9 (by decide) (by decide) (by decide) (by rw [ek9.1 217 (by decide)]; exact G4.alive q6) (Nat.le_refl _)
      obtain ⟨n2, rfl⟩ : ∃ q, n' = q + 1 := ⟨n' - 1, by omega⟩
      obtain ⟨σ', y1, y2⟩ := ih (upI c5 264 (fun _ => 0)) (gInc σ2) A3 sz2 n n2 μ3 (by show nt - (σ2.1 + 1) ≤ j; omega) (by omega) (by omega) (K5.keep ek9 (by decide) (by decide)) q6 rfl (by rw [ek9.1 271 (by decide)]; exact h271') (G4.upI (by decide)) hs9 P3
      have y1' : gDl tk pl N1 n (gInc σ2) = some σ' := y1
      refine ⟨σ', ?_, y2.imp (fun dd => dd.after r4 (by show 1 + k + 1 + 1 + 4 ≤ 4 * (σ2.1 + 1 - σ.1) + 4; omega) (by show σ.1 ≤ σ2.1 + 1; omega)) (fun ⟨k2, c', sz', w1, w2, w3, w4, w5, w6, w7, w8, w9⟩ => ?_)⟩
      · unfold gK
        rw [if_pos ⟨q6, k403⟩]
        exact y1'
      · have w2' : k2 ≤ 4 * (σ'.1 - (σ2.1 + 1)) := w2
        have w7' : σ2.1 + 1 < σ'.1 := w7
        refine ⟨1 + k + 1 + 1 + k2, c', sz', r4.trans w1, by omega, w3, (eP4.trans (ek9.mono (by decide) (by decide))).trans w4, w5, w6, by omega, w8, w9.glue all (fun z => ⟨fun fp w => ?_, fun w => ?_⟩)⟩
        · rw [if_neg (by omega), (dm z).1 fp w]
          rfl
        · have t2n' : ¬ nt ≤ (gInc σ2).1 := by show ¬ nt ≤ σ2.1 + 1; omega
          rw [if_neg (by omega), if_neg t2n', (dm z).2 w, db_inr]
          conv => lhs; unfold dDesign
          rw [if_neg (by omega), if_neg k403]
          rfl
end CDES
