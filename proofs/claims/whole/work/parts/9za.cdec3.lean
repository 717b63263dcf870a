/-! The class: a declaration, whole. -/
section CDEC3
variable {tk pl vl wi wd : Nat → Nat} {nt nw N N0 N1 lc : Nat} {ex : Nat → Int32} {lit : Nat → Int64} {c c' : ms} {A : ds} {I K sz t T C : Nat} {σ σ' : gs} {μ : Option (Nat × Nat)}
def gDcl (tk pl : Nat → Nat) (r : Bool) (σ : gs) : Option gs := (gRange tk pl σ).bind (fun σ => some (if r = true then gBegin tk pl (gTake tk pl 400 σ) else gTake tk pl 400 σ))
abbrev KD (c c' : ms) : Prop := Eb [213, 214, 215, 216, 217, 218, 219, 235, 236, 237, 242, 243, 248, 321, 322, 323, 324, 326, 327] [325] c c'
theorem gBegin_dead (h : σ.2.2.1 ≠ 0) : gBegin tk pl σ = σ := by
  unfold gBegin
  rw [gIs_dead h, if_neg (by decide)]
theorem gNo_al (h : σ.2.2.1 = 0) : (gNo tk pl σ).2.2.1 ≠ 0 := by
  unfold gNo
  rw [if_pos h]
  dsimp only
  split <;> decide
theorem gNo_1 : (gNo tk pl σ).1 = σ.1 := by
  unfold gNo
  split <;> rfl
/-- tokens behind a name, with the grammar's fault -/
theorem d124Z {x : Int32} (T' : Tv tk pl nt) (hG : CG tk pl nt ex c σ) (hd : σ.2.2.1 ≠ 0) : ∃ c', bk_Grammar_declaration_Gr_124 N x c = some ((), c') ∧ CG tk pl nt ex c' σ ∧ F7 c c' := by
  obtain ⟨c1, a1, a2, a3⟩ := ktake (N := N) T' hG (fun z => absurd z hd)
  rw [if_neg hd] at a2
  unfold bk_Grammar_declaration_Gr_124
  rw [a1, obind]
  dsimp only
  rw [if_neg (show ¬ c1.1 214 0 = 61 from kneg (k := 61) T' a2 (by decide) (fun z => absurd z hd)), ite_self]
  exact ⟨c1, rfl, a2, a3⟩
theorem decl_C {k : Nat} {r : Bool} (T' : Tv tk pl nt) (hV : Vb tk vl wi) (h4 : k ≤ 4) (hr : r = decide (srt k = 2)) (hK : KS tk pl vl wi wd nt ex nw lit lc c) (hW : WF tk nt A t) (ht : t < σ.1) (hG : CG tk pl nt ex c σ) (hs : σ.2.2.1 = 0 → (∀ fp, μ = some fp → OffN nw c fp.1 fp.2) ∧ (μ = none → Xc c T sz C ∧ DC pl wd nw lit lc A (A.1 41 0) K sz c ∧ c.1 248 0 = nI 1)) :
    ∃ c' σ', gDcl tk pl r σ = some σ' ∧ fn_Grammar_declaration_Gr N (nI (srt k)) c = some ((), c') ∧ CG tk pl nt ex c' σ' ∧ KD c c' ∧ σ.1 ≤ σ'.1 ∧ (σ'.2.2.1 = 0 → σ.2.2.1 = 0 ∧ σ'.2.1 = σ.2.1 ∧ σ.1 < σ'.1 ∧ (∀ fp, μ = some fp → OffN nw c' fp.1 fp.2) ∧ (μ = none → (r = false → tk σ'.1 ≠ 61) → ∃ q, dDecl tk pl vl wi wd nt k σ.1 A = some q ∧ (∀ f p, q = .inl (f, p) → OffN nw c' f p) ∧ (∀ t' A', q = .inr (t', A') → t' = σ'.1 ∧ Xc c' T sz C ∧ DC pl wd nw lit lc A' (A.1 41 0) K sz c' ∧ A'.1 41 0 = A.1 41 0 ∧ A'.1 42 0 = A.1 42 0 ∧ A'.1 44 0 = A.1 44 0 ∧ A'.1 47 0 = A.1 47 0 ∧ (∀ d, A'.1 5 d = if d = A.1 40 0 then 0 else A.1 5 d) ∧ c'.1 248 0 = nI 1))) := by
  have hnt := T'.2.1
  obtain ⟨c1, σ1, g1, g2, g3, g4, g5, g6⟩ := rng_C (N := N) (x := nI (srt k)) (μ := μ) (T := T) (sz := sz) (C := C) T' hK hG (fun q => ⟨fun fp z => ((hs q).1 fp z).1, fun z => ⟨((hs q).2 z).1, ((hs q).2 z).2.2⟩⟩)
  unfold gDcl
  rw [g1, obind, g2]
  unfold bk_Grammar_declaration_Gr_91
  obtain ⟨c2, d1, d2, d3, d4⟩ := kdue (N := N) T' 400 (by decide) g3
  rw [show fn_Tokens_due_Tk N 2 c1 = some (b01 (gIs tk 400 σ1), c2) from d1, obind]
  dsimp only
  have e12 : KD c c2 := (g4.mono (by decide) (by decide)).trans (d3.mono (by decide) (by decide))
  by_cases gi : gIs tk 400 σ1 = true
  · have gi' := gi
    simp only [gIs, decide_eq_true_eq] at gi'
    obtain ⟨al1, k4⟩ := gi'
    rw [gi, if_neg (show ¬ b01 true = 0 by decide)]
    rw [gi, if_pos rfl] at d2
    have c21 := d4 gi
    subst c21
    have tn := g3.2.1
    have t1n := T'.more tn k4 (by decide) (by decide)
    obtain ⟨g7, g8, g9, g10⟩ := g6 al1
    have st := g3.2.2.2.1 al1
    have kx := hK.2.2.2.2.2.2.1 σ1.1 tn k4
    have e216 : c2.1 216 0 = nI (wd σ1.1) := by rw [st.2.2.2.1]; exact kx.1
    have e215 : c2.1 215 0 = nI (pl σ1.1) := st.2.2.1
    rw [e216, e215]
    have gt : gTake tk pl 400 σ1 = gInc σ1 := by unfold gTake; rw [gi, if_pos rfl]
    -- the meaning
    obtain ⟨c3, μ3, w, m1, m2, m3, m4, m5⟩ : ∃ c3 μ3 w, fn_Meaning_declare_Me N (nI (srt k)) (nI (wd σ1.1)) (nI (pl σ1.1)) c2 = some ((), c3) ∧ Eb [235, 236, 237, 242, 243, 248, 321, 322, 323, 324, 326, 327] [325] c2 c3 ∧ (∀ fp, μ3 = some fp → OffN nw c3 fp.1 fp.2) ∧ (∀ fp, μ = some fp → μ3 = some fp) ∧ (μ = none → (∀ fp, μ3 = some fp → dDecl tk pl vl wi wd nt k σ.1 A = some (.inl fp)) ∧ (μ3 = none → dRng tk pl vl nt σ.1 = some (.inr (σ1.1, w)) ∧ ¬ (dHere wd A σ1.1 ≠ none ∨ dInst wd A σ1.1 ≠ none) ∧ 1 ≤ w ∧ w ≤ 64 ∧ Xc c3 T sz C ∧ DC pl wd nw lit lc (dAdd A σ1.1 w k) (A.1 41 0) K sz c3 ∧ c3.1 248 0 = nI 1)) := by
      cases hμ : μ with
      | some fp =>
        have o : OffN nw c2 fp.1 fp.2 := ⟨g9 fp hμ, ((hs g7).1 fp hμ).2.keep g4 (by decide)⟩
        exact ⟨c2, some fp, 0, off_declare o.off, Eb.rfl, fun q z => (by cases z; exact o), fun q z => (by cases z; rfl), fun z => (by cases z)⟩
      | none =>
        obtain ⟨q, q1, q2, q3⟩ := g10 hμ
        cases q with
        | inl fp =>
          have o : OffN nw c2 fp.1 fp.2 := ⟨q2 fp.1 fp.2 rfl, (((hs g7).2 hμ).2.1.no hnt hW (by omega)).keep g4 (by decide)⟩
          refine ⟨c2, some fp, 0, off_declare o.off, Eb.rfl, fun q z => (by cases z; exact o), fun q z => (by cases z), fun _ => ⟨fun q z => ?_, fun z => (by cases z)⟩⟩
          cases z
          unfold dDecl
          rw [if_neg (by omega), q1]
        | inr q =>
          obtain ⟨t1, w⟩ := q
          obtain ⟨y1, y2, y3, y4, y5⟩ := q3 t1 w rfl
          subst y1
          obtain ⟨-, dc, -⟩ := (hs g7).2 hμ
          have dc2 : DC pl wd nw lit lc A (A.1 41 0) K sz c2 := dc.keep g4 (by decide) (by decide) (fun k _ => by rw [g4.2 336 (by decide)]) (Nat.le_refl _)
          obtain ⟨c3, n1, n2, n3, n4⟩ := declare_C (N := N) (x := σ1.1) (w := w) (k := k) hK.2.2.2.2.2.2.2 hW (by omega) hnt kx.2 h4 y2 dc2 y3 (fun i hi ki => (hK.2.2.2.2.2.2.1 i hi ki).2)
          by_cases z : dHere wd A σ1.1 ≠ none ∨ dInst wd A σ1.1 ≠ none
          · refine ⟨c3, some (21, pl σ1.1), w, n1, n2, fun q y => (by cases y; exact n3 z), fun q y => (by cases y), fun _ => ⟨fun q y => ?_, fun y => (by cases y)⟩⟩
            cases y
            unfold dDecl
            rw [if_neg (by omega), q1]
            show dDec tk pl vl wi wd nt k σ1.1 w A = _
            unfold dDec
            rw [if_neg (by rintro (y | y); omega; exact y k4), if_pos z]
            rfl
          · obtain ⟨n5, n6, n7⟩ := n4 z
            exact ⟨c3, none, w, n1, n2, fun q y => (by cases y), fun q y => (by cases y), fun _ => ⟨fun q y => (by cases y), fun _ => ⟨q1, z, y4, y5, n5, n6, n7⟩⟩⟩
    rw [m1, obind]
    dsimp only
    have G3 : CG tk pl nt ex c3 σ1 := d2.mono m2 (fun k _ _ => by simp; omega) (by decide)
    obtain ⟨c4, f1, f2, f3⟩ := ktake (N := N) T' G3 (fun _ => t1n)
    rw [if_pos al1] at f2
    have a4 : c4.1 217 0 = nI 0 := f2.alive al1
    have e4 : KD c c4 := (e12.trans (m2.mono (by decide) (by decide))).trans (f3.mono (by decide) (by decide))
    unfold bk_Grammar_declaration_Gr_124
    rw [f1, obind, gt]
    dsimp only
    -- the spec behind the name
    have dd : ∀ w, dRng tk pl vl nt σ.1 = some (.inr (σ1.1, w)) → ¬ (dHere wd A σ1.1 ≠ none ∨ dInst wd A σ1.1 ≠ none) → dDecl tk pl vl wi wd nt k σ.1 A = if tk (σ1.1 + 1) = 61 then (if nt ≤ σ1.1 + 3 ∨ tk (σ1.1 + 2) ≠ 402 ∨ (k ≠ 2 ∧ k ≠ 4) then none else if wi (σ1.1 + 2) = w then dok (σ1.1 + 3) (tu (dAdd A σ1.1 w k) 3 (A.1 40 0) (vl (σ1.1 + 2))) else dno 30 (pl (σ1.1 + 2))) else dok (σ1.1 + 1) (dAdd A σ1.1 w k) := fun w q1 z => by
      unfold dDecl
      rw [if_neg (by omega), q1]
      show dDec tk pl vl wi wd nt k σ1.1 w A = _
      unfold dDec
      rw [if_neg (by rintro (y | y); omega; exact y k4), if_neg z]
    have tbl : ∀ (w v : Nat) (A' : ds), A' = dAdd A σ1.1 w k ∨ A' = tu (dAdd A σ1.1 w k) 3 (A.1 40 0) v → A'.1 41 0 = A.1 41 0 ∧ A'.1 42 0 = A.1 42 0 ∧ A'.1 44 0 = A.1 44 0 ∧ A'.1 47 0 = A.1 47 0 ∧ (∀ d, A'.1 5 d = if d = A.1 40 0 then 0 else A.1 5 d) := by
      intro w v A' hA
      rcases hA with rfl | rfl
      · unfold dAdd
        simp only [implies_true, and_self, tu1, tu2, uu1, uu2, uu3, vu1, vu2, vu3, su1, su2, Nat.reduceEqDiff, false_and, true_and, reduceIte, Bool.false_eq_true, if_true, if_false]
      · unfold dAdd
        simp only [implies_true, and_self, tu1, tu2, uu1, uu2, uu3, vu1, vu2, vu3, su1, su2, Nat.reduceEqDiff, false_and, true_and, reduceIte, Bool.false_eq_true, if_true, if_false]
    -- no first value
    have plain : tk (σ1.1 + 1) ≠ 61 ∨ r = false → ∀ σ', σ' = gInc σ1 → CG tk pl nt ex c4 σ' ∧ KD c c4 ∧ σ.1 ≤ σ'.1 ∧ (σ'.2.2.1 = 0 → σ.2.2.1 = 0 ∧ σ'.2.1 = σ.2.1 ∧ σ.1 < σ'.1 ∧ (∀ fp, μ = some fp → OffN nw c4 fp.1 fp.2) ∧ (μ = none → (r = false → tk σ'.1 ≠ 61) → ∃ q, dDecl tk pl vl wi wd nt k σ.1 A = some q ∧ (∀ f p, q = .inl (f, p) → OffN nw c4 f p) ∧ (∀ t' A', q = .inr (t', A') → t' = σ'.1 ∧ Xc c4 T sz C ∧ DC pl wd nw lit lc A' (A.1 41 0) K sz c4 ∧ A'.1 41 0 = A.1 41 0 ∧ A'.1 42 0 = A.1 42 0 ∧ A'.1 44 0 = A.1 44 0 ∧ A'.1 47 0 = A.1 47 0 ∧ (∀ d, A'.1 5 d = if d = A.1 40 0 then 0 else A.1 5 d) ∧ c4.1 248 0 = nI 1))) := by
      intro hp σ' hσ
      subst hσ
      refine ⟨f2, e4, by show σ.1 ≤ σ1.1 + 1; omega, fun _ => ⟨g7, g8, by show σ.1 < σ1.1 + 1; omega, fun fp z => (m3 fp (m4 fp z)).mono f3 (by decide), fun z hne => ?_⟩⟩
      obtain ⟨p1, p2⟩ := m5 z
      cases h3 : μ3 with
      | some fp => exact ⟨.inl fp, p1 fp h3, fun f p y => (by cases y; exact (m3 _ h3).mono f3 (by decide)), fun _ _ y => (by cases y)⟩
      | none =>
        obtain ⟨x1, x2, x3, x4, x5, x6, x7⟩ := p2 h3
        have ne : tk (σ1.1 + 1) ≠ 61 := by
          rcases hp with q | q
          · exact q
          · exact hne q
        refine ⟨.inr (σ1.1 + 1, dAdd A σ1.1 w k), by rw [dd w x1 x2, if_neg ne]; rfl, fun _ _ y => (by cases y), fun t' A' y => ?_⟩
        cases y
        exact ⟨rfl, x5.mono f3 (by decide) a4, x6.keep f3 (by decide) (by decide) (fun k _ => by rw [f3.2 336 (by decide)]) (Nat.le_refl _), (tbl w 0 _ (Or.inl rfl)).1, (tbl w 0 _ (Or.inl rfl)).2.1, (tbl w 0 _ (Or.inl rfl)).2.2.1, (tbl w 0 _ (Or.inl rfl)).2.2.2.1, (tbl w 0 _ (Or.inl rfl)).2.2.2.2, by rw [f3.1 248 (by decide)]; exact x7⟩
    cases rb : r with
    | false =>
      have x2 : ¬ nI (srt k) = 2 := fun z => by
        have := (nI_eq (b := 2) (by unfold srt; split <;> (try split) <;> omega) (by decide)).mp z
        rw [rb, decide_eq_true this] at hr
        cases hr
      rw [if_neg x2, if_neg (by decide)]
      have := plain (Or.inr rb) (gInc σ1) rfl
      rw [rb] at this
      exact ⟨c4, gInc σ1, rfl, rfl, this⟩
    | true =>
      have x2 : nI (srt k) = 2 := by
        rw [rb] at hr
        have := of_decide_eq_true hr.symm
        rw [this]; rfl
      have k24 : k = 2 ∨ k = 4 := by
        rw [rb] at hr
        have sk := of_decide_eq_true hr.symm
        unfold srt at sk
        split at sk
        · omega
        · split at sk <;> omega
      rw [if_pos x2, if_pos rfl]
      by_cases k61 : tk (σ1.1 + 1) = 61
      · have t2n := T'.more t1n k61 (by decide) (by decide)
        rw [if_pos (show c4.1 214 0 = 61 from kpos (k := 61) f2 al1 k61)]
        have gb : gBegin tk pl (gInc σ1) = gTake tk pl 402 (gInc (gInc σ1)) := by
          unfold gBegin
          rw [gIs_t (σ := gInc σ1) al1 k61, if_pos rfl]
        rw [gb]
        obtain ⟨c5, h1, h2, h3⟩ := ktake (N := N) T' f2 (fun _ => t2n)
        rw [if_pos (show (gInc σ1).2.2.1 = 0 from al1)] at h2
        rw [h1, obind]
        dsimp only
        obtain ⟨c6, i1, i2, i3, i4⟩ := kdue (N := N) T' 402 (by decide) h2
        rw [show fn_Tokens_due_Tk N 4 c5 = some (b01 (gIs tk 402 (gInc (gInc σ1))), c6) from i1, obind]
        dsimp only
        unfold bk_Grammar_declaration_Gr_188
        have e5 : F7 c4 c5 := h3
        by_cases k402 : tk (σ1.1 + 2) = 402
        · have gi2 : gIs tk 402 (gInc (gInc σ1)) = true := gIs_t (σ := gInc (gInc σ1)) al1 k402
          have t3n := T'.more t2n k402 (by decide) (by decide)
          have c65 := i4 gi2
          subst c65
          rw [gi2, if_neg (show ¬ b01 true = 0 by decide)]
          have gt2 : gTake tk pl 402 (gInc (gInc σ1)) = gInc (gInc (gInc σ1)) := by unfold gTake; rw [gi2, if_pos rfl]
          rw [gt2]
          have st6 := h2.2.2.2.1 (show (gInc (gInc σ1)).2.2.1 = 0 from al1)
          obtain ⟨li, l1, l2, l3, l4, l5, l6⟩ := hK.2.2.2.2.2.1 (σ1.1 + 2) t2n k402
          have q216 : c6.1 216 0 = nI li := by rw [st6.2.2.2.1]; exact l1
          have q215 : c6.1 215 0 = nI (pl (σ1.1 + 2)) := st6.2.2.1
          rw [q216, q215]
          have a6 : c6.1 217 0 = nI 0 := h2.alive (show (gInc (gInc σ1)).2.2.1 = 0 from al1)
          have e6 : KD c c6 := e4.trans (h3.mono (by decide) (by decide))
          have f36 : F7 c3 c6 := f3.trans h3
          obtain ⟨c7, μ7, n1, n2, n3, n4, n5⟩ : ∃ c7 μ7, fn_Meaning_beginsWith_Me N (nI li) (nI (pl (σ1.1 + 2))) c6 = some ((), c7) ∧ Eb [242, 243] [325] c6 c7 ∧ (∀ fp, μ7 = some fp → OffN nw c7 fp.1 fp.2) ∧ (∀ fp, μ3 = some fp → μ7 = some fp) ∧ (μ3 = none → μ = none → (∀ fp, μ7 = some fp → dDecl tk pl vl wi wd nt k σ.1 A = some (.inl fp)) ∧ (μ7 = none → ∃ A', dDecl tk pl vl wi wd nt k σ.1 A = some (.inr (σ1.1 + 3, A')) ∧ A' = tu (dAdd A σ1.1 w k) 3 (A.1 40 0) (vl (σ1.1 + 2)) ∧ Xc c7 T sz C ∧ DC pl wd nw lit lc A' (A.1 41 0) K sz c7 ∧ c7.1 248 0 = nI 1)) := by
            cases h3' : μ3 with
            | some fp =>
              have o := (m3 fp h3').mono f36 (by decide)
              exact ⟨c6, some fp, off_beginsWith o.off, Eb.rfl, fun q z => (by cases z; exact o), fun q z => (by cases z; rfl), fun z => (by cases z)⟩
            | none =>
              cases hμ : μ with
              | some fp =>
                have := m4 fp hμ
                rw [h3'] at this
                cases this
              | none =>
                obtain ⟨x1, x2', x3, x4, x5, x6, x7⟩ := (m5 hμ).2 h3'
                have X6 : Xc c6 T sz C := x5.mono f36 (by decide) a6
                have D6 : DC pl wd nw lit lc (dAdd A σ1.1 w k) (A.1 41 0) K sz c6 := x6.keep f36 (by decide) (by decide) (fun k _ => by rw [f36.2 336 (by decide)]) (Nat.le_refl _)
                have B40 : (dAdd A σ1.1 w k).1 40 0 = A.1 40 0 + 1 := by unfold dAdd; simp only [tu1, tu2, uu1, uu2, uu3, vu1, vu2, vu3, su1, su2, Nat.reduceEqDiff, false_and, true_and, reduceIte, Bool.false_eq_true, if_true, if_false]
                have B1 : (dAdd A σ1.1 w k).1 1 (A.1 40 0) = w := by unfold dAdd; simp only [tu1, tu2, uu1, uu2, uu3, vu1, vu2, vu3, su1, su2, Nat.reduceEqDiff, false_and, true_and, reduceIte, Bool.false_eq_true, if_true, if_false]
                have d321 := D6.1.1
                have d323 := (D6.2.1 (A.1 40 0) (by rw [B40]; omega)).2.1
                have cnt := hW.1
                have e12' : Eb [213, 214, 215, 216, 217, 218, 219, 235, 236, 237, 242, 243, 248, 321, 322, 323, 324, 326, 327] [325] c c6 := e6
                obtain ⟨c7, n1, n2, n3, n4⟩ := beginsWith_C (N := N) (lc := lc) (A := dAdd A σ1.1 w k) (li := li) (w' := wi (σ1.1 + 2)) (v := vl (σ1.1 + 2)) (p := pl (σ1.1 + 2)) X6 (by rw [B40]; omega) (by rw [B40]; omega) d321 (by rw [B40, Nat.add_sub_cancel]; exact d323) (by rw [B40, Nat.add_sub_cancel, B1]; exact x4) l2 hK.2.2.1 (by rw [e12'.1 340 (by decide)]; exact hK.2.1) (by rw [e12'.1 338 (by decide)]; exact l3) l5 (by rw [e12'.2 339 (by decide), hK.2.2.2.1]; exact l6)
                rw [B40, Nat.add_sub_cancel, B1] at n3 n4
                have dq := dd w x1 x2'
                rw [if_pos k61, if_neg (by rintro (y | y | y); omega; exact y k402; omega)] at dq
                by_cases z : wi (σ1.1 + 2) = w
                · rw [if_pos z] at dq
                  obtain ⟨n5, n6⟩ := n4 z
                  refine ⟨c7, none, n1, n2, fun q y => (by cases y), fun q y => (by cases y), fun _ _ => ⟨fun q y => (by cases y), fun _ => ⟨_, dq, rfl, n5, ?_, ?_⟩⟩⟩
                  · rw [n6]; exact D6.first
                  · rw [n2.1 248 (by decide), f36.1 248 (by decide)]; exact x7
                · rw [if_neg z] at dq
                  exact ⟨c7, some (30, pl (σ1.1 + 2)), n1, n2, fun q y => (by cases y; exact ⟨n3 z, (D6.no hnt (hW.add (t' := σ1.1 + 1) (by omega) tn k4 x3 x4 h4) (by omega)).keep n2 (by decide)⟩), fun q y => (by cases y), fun _ _ => ⟨fun q y => (by cases y; exact dq), fun y => (by cases y)⟩⟩
          rw [n1, obind]
          dsimp only
          have G7 : CG tk pl nt ex c7 (gInc (gInc σ1)) := h2.mono n2 (fun k _ _ => by simp; omega) (by decide)
          obtain ⟨c8, o1, o2, o3⟩ := ktake (N := N) T' G7 (fun _ => t3n)
          rw [if_pos (show (gInc (gInc σ1)).2.2.1 = 0 from al1)] at o2
          have a8 : c8.1 217 0 = nI 0 := o2.alive al1
          rw [o1, obind]
          refine ⟨c8, gInc (gInc (gInc σ1)), rfl, rfl, o2, (e6.trans (n2.mono (by decide) (by decide))).trans (o3.mono (by decide) (by decide)), by show σ.1 ≤ σ1.1 + 1 + 1 + 1; omega, fun _ => ⟨g7, g8, by show σ.1 < σ1.1 + 1 + 1 + 1; omega, fun fp z => (n3 fp (n4 fp (m4 fp z))).mono o3 (by decide), fun z _ => ?_⟩⟩
          cases h3' : μ3 with
          | some fp => exact ⟨.inl fp, (m5 z).1 fp h3', fun f p y => (by cases y; exact (n3 _ (n4 _ h3')).mono o3 (by decide)), fun _ _ y => (by cases y)⟩
          | none =>
            obtain ⟨p1, p2⟩ := n5 h3' z
            cases h7 : μ7 with
            | some fp => exact ⟨.inl fp, p1 fp h7, fun f p y => (by cases y; exact (n3 _ h7).mono o3 (by decide)), fun _ _ y => (by cases y)⟩
            | none =>
              obtain ⟨A', y1, y2, y3, y4, y5⟩ := p2 h7
              refine ⟨.inr (σ1.1 + 3, A'), y1, fun _ _ y => (by cases y), fun t' A2 y => ?_⟩
              cases y
              have tb := tbl w (vl (σ1.1 + 2)) A' (Or.inr y2)
              exact ⟨rfl, y3.mono o3 (by decide) a8, y4.keep o3 (by decide) (by decide) (fun k _ => by rw [o3.2 336 (by decide)]) (Nat.le_refl _), tb.1, tb.2.1, tb.2.2.1, tb.2.2.2.1, tb.2.2.2.2, by rw [o3.1 248 (by decide)]; exact y5⟩
        · have gi2 : gIs tk 402 (gInc (gInc σ1)) = false := gIs_f (σ := gInc (gInc σ1)) k402
          rw [gi2, if_pos (show b01 false = 0 from rfl)]
          rw [gi2, if_neg (by decide)] at i2
          have dd2 := gNo_al (tk := tk) (pl := pl) (σ := gInc (gInc σ1)) al1
          obtain ⟨c7, o1, o2, o3⟩ := ktake (N := N) T' i2 (fun z => absurd z dd2)
          rw [if_neg dd2] at o2
          rw [o1, obind]
          have gt2 : gTake tk pl 402 (gInc (gInc σ1)) = gNo tk pl (gInc (gInc σ1)) := by unfold gTake; rw [gi2, if_neg (by decide)]
          rw [gt2]
          exact ⟨c7, _, rfl, rfl, o2, (((e4.trans (h3.mono (by decide) (by decide))).trans (i3.mono (by decide) (by decide))).trans (o3.mono (by decide) (by decide))), by rw [gNo_1]; show σ.1 ≤ σ1.1 + 1 + 1; omega, fun z => absurd z dd2⟩
      · rw [if_neg (show ¬ c4.1 214 0 = 61 from kneg (k := 61) T' f2 (by decide) (fun _ => k61))]
        have gb : gBegin tk pl (gInc σ1) = gInc σ1 := by
          unfold gBegin
          rw [gIs_f (σ := gInc σ1) k61, if_neg (by decide)]
        rw [gb]
        have := plain (Or.inl k61) (gInc σ1) rfl
        rw [rb] at this
        exact ⟨c4, gInc σ1, rfl, rfl, this⟩
  · have gf : gIs tk 400 σ1 = false := Bool.eq_false_iff.mpr gi
    rw [gf, if_pos (show b01 false = 0 from rfl)]
    rw [gf, if_neg (by decide)] at d2
    have gt : gTake tk pl 400 σ1 = gNo tk pl σ1 := by unfold gTake; rw [gf, if_neg (by decide)]
    have dd : (gNo tk pl σ1).2.2.1 ≠ 0 := by
      by_cases z : σ1.2.2.1 = 0
      · exact gNo_al z
      · rw [gNo_dead z]; exact z
    obtain ⟨c3, m1, m2, m3⟩ := d124Z (N := N) (x := nI (srt k)) T' d2 dd
    rw [m1, gt, gBegin_dead dd, ite_self]
    exact ⟨c3, _, rfl, rfl, m2, e12.trans (m3.mono (by decide) (by decide)), by rw [gNo_1]; exact g5, fun z => absurd z dd⟩
end CDEC3
