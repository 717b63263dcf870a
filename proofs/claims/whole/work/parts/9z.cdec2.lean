/-! The class: a name is declared. -/
section CDEC2
variable {tk pl vl wi wd : Nat → Nat} {nt nw N N0 N1 lc : Nat} {ex : Nat → Int32} {lit : Nat → Int64} {c c' : ms} {A : ds} {I K sz t T C : Nat} {σ σ' : gs} {μ : Option (Nat × Nat)}
theorem addDecl_C {k w p : Nat} (h : c.1 321 0 = nI (A.1 40 0)) (hd : A.1 40 0 < 10900) : fn_Parts_addDecl_Ps N (nI k) (nI p) (nI w) c = some ((), upI (upI (upI (upJ (upI (upI (upI c 324 (upd (c.1 324) (A.1 40 0) (nI k))) 322 (upd (c.1 322) (A.1 40 0) (nI p))) 323 (upd (c.1 323) (A.1 40 0) (nI w))) 325 (vp_updL (c.2 325) (A.1 40 0) 0)) 326 (upd (c.1 326) (A.1 40 0) (-1))) 327 (upd (c.1 327) (A.1 40 0) (-1))) 321 (fun _ => nI (A.1 40 0 + 1))) := by
  unfold fn_Parts_addDecl_Ps
  have i := nI_in (show A.1 40 0 < 10923 by omega) (show 10923 < 2 ^ 31 by decide)
  rw [h, if_pos (show nI (A.1 40 0) < 10923 from nI_lt (b := 10923) (by omega) (by decide)), if_neg i, if_neg i, if_neg i, if_neg i, if_neg i, if_neg i, nI_clamp (by omega), nI_1]
/-- the tables with a new name -/
theorem DC.add {x w k : Nat} (hm : A.1 46 0 < 3270) (h4 : k ≤ 4) (hd : A.1 40 0 < 10900) (h : DC pl wd nw lit lc A I K sz c) (h2 : Wr wd (dAdd A x w k) I nw c') (h3 : c'.1 237 = upd (c.1 237) (A.1 40 0) (nI (wd x))) (e : Eb [235, 236, 237] [] c c') : DC pl wd nw lit lc (dAdd A x w k) I K sz (upI (upI (upI (upI (upJ (upI (upI (upI c' 324 (upd (c'.1 324) (A.1 40 0) (nI (srt k)))) 322 (upd (c'.1 322) (A.1 40 0) (nI (pl x)))) 323 (upd (c'.1 323) (A.1 40 0) (nI w))) 325 (vp_updL (c'.2 325) (A.1 40 0) 0)) 326 (upd (c'.1 326) (A.1 40 0) (-1))) 327 (upd (c'.1 327) (A.1 40 0) (-1))) 321 (fun _ => nI (A.1 40 0 + 1))) 248 (fun _ => 1)) := by
  obtain ⟨g1, g2, g3, g4, g5, g6, g7, g8, g9⟩ := h
  have k5 := g5.keep (c' := c') (sz' := sz) e (by decide) (fun k _ => by rw [e.2 336 (by decide)]) (Nat.le_refl _)
  have k6 := g6.keep (c' := c') (sz' := sz) e (by decide) (fun k _ => by rw [e.2 336 (by decide)]) (Nat.le_refl _)
  have k7 := g7.keep (c' := c') e (by decide)
  have k9 := g9.keep (c' := c') e (by decide)
  have k4 := g4.keep (c' := c') e (by decide)
  have k1 := g1.keep (c' := c') e (by decide)
  have k3 := g3.keep (c' := c') (sz' := sz) e (by decide) (fun k _ => by rw [e.2 336 (by decide)]) (Nat.le_refl _)
  refine ⟨?_, fun d hd' => ?_, fun d hd' => ?_, ?_, ?_, ?_, ?_, ?_, ?_⟩
  · unfold Ck dAdd at *
    simp only [tu1, tu2, uu1, uu2, uu3, vu1, vu2, vu3, su1, su2, Nat.reduceEqDiff, false_and, true_and, reduceIte, Bool.false_eq_true, if_true, if_false]
    exact ⟨rfl, k1.2.1, k1.2.2.1, k1.2.2.2.1, k1.2.2.2.2.1, k1.2.2.2.2.2⟩
  · unfold dAdd at hd' ⊢
    simp only [tu1, tu2, uu1, uu2, uu3, vu1, vu2, vu3, su1, su2, Nat.reduceEqDiff, false_and, true_and, reduceIte, Bool.false_eq_true, if_true, if_false] at hd'
    simp only [tu1, tu2, uu1, uu2, uu3, vu1, vu2, vu3, su1, su2, Nat.reduceEqDiff, false_and, true_and, reduceIte, Bool.false_eq_true, if_true, if_false]
    show upd (c'.1 322) (A.1 40 0) (nI (pl x)) d = _ ∧ upd (c'.1 323) (A.1 40 0) (nI w) d = _ ∧ upd (c'.1 324) (A.1 40 0) (nI (srt k)) d = _ ∧ vp_updL (c'.2 325) (A.1 40 0) 0 d = _ ∧ c'.1 237 d = _
    rw [h3]
    by_cases z : d = A.1 40 0
    · subst z
      simp only [upd_at, updL_at, reduceIte]
      exact ⟨trivial, trivial, trivial, rfl, trivial⟩
    · rw [upd_ne z, upd_ne z, upd_ne z, updL_ne z, upd_ne z]
      simp only [z, reduceIte]
      rw [e.1 322 (by decide), e.1 323 (by decide), e.1 324 (by decide), e.2 325 (by decide)]
      exact g2 d (by omega)
  · unfold dAdd at hd' ⊢
    simp only [tu1, tu2, uu1, uu2, uu3, vu1, vu2, vu3, su1, su2, Nat.reduceEqDiff, false_and, true_and, reduceIte, Bool.false_eq_true, if_true, if_false] at hd'
    unfold dDrv dRg
    simp only [tu1, tu2, uu1, uu2, uu3, vu1, vu2, vu3, su1, su2, Nat.reduceEqDiff, false_and, true_and, reduceIte, Bool.false_eq_true, if_true, if_false]
    by_cases z : d = A.1 40 0
    · subst z
      simp only [reduceIte]
      refine ⟨fun _ => ⟨fun _ => ?_, fun y => absurd y (by omega), fun y => absurd y (by omega), fun y => absurd y (by omega)⟩, fun _ => ?_⟩
      · show upd (c'.1 326) (A.1 40 0) (-1) (A.1 40 0) = _
        rw [upd_at]
      · show upd (c'.1 326) (A.1 40 0) (-1) (A.1 40 0) = _
        rw [upd_at]
    · simp only [z, reduceIte]
      obtain ⟨y1, y2⟩ := k3 d (by omega)
      unfold dDrv at y1
      unfold dRg at y2
      refine ⟨fun q => ?_, fun q => ?_⟩
      · obtain ⟨x1, x2, x3, x4⟩ := y1 q
        refine ⟨fun y => ?_, fun y => ?_, fun y => ?_, fun y => ?_⟩
        · show upd (c'.1 326) (A.1 40 0) (-1) d = _
          rw [upd_ne z]; exact x1 y
        · refine (x2 y).keep ?_ ?_ (fun _ _ => rfl) (Nat.le_refl _)
          · show upd (c'.1 326) (A.1 40 0) (-1) d = _
            rw [upd_ne z]
          · show upd (c'.1 327) (A.1 40 0) (-1) d = _
            rw [upd_ne z]
        · obtain ⟨a, a1, a2, a3⟩ := x3 y
          refine ⟨a, a1, ?_, ?_⟩
          · show upd (c'.1 326) (A.1 40 0) (-1) d = _
            rw [upd_ne z]; exact a2
          · show upd (c'.1 327) (A.1 40 0) (-1) d = _
            rw [upd_ne z]; exact a3
        · obtain ⟨a, a1, a2⟩ := x4 y
          refine ⟨a, a1, ?_⟩
          show upd (c'.1 326) (A.1 40 0) (-1) d = _
          rw [upd_ne z]; exact a2
      · show upd (c'.1 326) (A.1 40 0) (-1) d = _
        rw [upd_ne z]; exact y2 q
  · unfold Cit dAdd at *
    simp only [tu1, tu2, uu1, uu2, uu3, vu1, vu2, vu3, su1, su2, Nat.reduceEqDiff, false_and, true_and, reduceIte, Bool.false_eq_true, if_true, if_false]
    exact k4
  · unfold Clk dAdd at *
    simp only [tu1, tu2, uu1, uu2, uu3, vu1, vu2, vu3, su1, su2, Nat.reduceEqDiff, false_and, true_and, reduceIte, Bool.false_eq_true, if_true, if_false]
    exact k5
  · unfold Cpc dAdd at *
    simp only [tu1, tu2, uu1, uu2, uu3, vu1, vu2, vu3, su1, su2, Nat.reduceEqDiff, false_and, true_and, reduceIte, Bool.false_eq_true, if_true, if_false]
    exact k6
  · unfold Cmo dAdd at *
    simp only [tu1, tu2, uu1, uu2, uu3, vu1, vu2, vu3, su1, su2, Nat.reduceEqDiff, false_and, true_and, reduceIte, Bool.false_eq_true, if_true, if_false]
    exact k7
  · exact h2.keep (ks := [248, 321, 322, 323, 324, 326, 327]) (js := [325]) ((((((((Eb.rfl.upI (by decide)).upI (by decide)).upI (by decide)).upJ (by decide)).upI (by decide)).upI (by decide)).upI (by decide)).upI (by decide)) (by decide)
  · unfold Wm dAdd at *
    simp only [tu1, tu2, uu1, uu2, uu3, vu1, vu2, vu3, su1, su2, Nat.reduceEqDiff, false_and, true_and, reduceIte, Bool.false_eq_true, if_true, if_false]
    exact k9
theorem declare_C {x w k : Nat} (hnw : nw ≤ 19830) (hW : WF tk nt A t) (ht : t ≤ nt + 1) (hnt : nt ≤ 12001) (hx : wd x < nw) (h4 : k ≤ 4) (X : Xc c T sz C) (h : DC pl wd nw lit lc A (A.1 41 0) K sz c) (h248 : c.1 248 0 = nI w) (hws : ∀ i, i < nt → tk i = 400 → wd i < nw) :
    ∃ c', fn_Meaning_declare_Me N (nI (srt k)) (nI (wd x)) (nI (pl x)) c = some ((), c') ∧ Eb [235, 236, 237, 242, 243, 248, 321, 322, 323, 324, 326, 327] [325] c c' ∧ ((dHere wd A x ≠ none ∨ dInst wd A x ≠ none) → OffN nw c' 21 (pl x)) ∧ (¬ (dHere wd A x ≠ none ∨ dInst wd A x ≠ none) → Xc c' T sz C ∧ DC pl wd nw lit lc (dAdd A x w k) (A.1 41 0) K sz c' ∧ c'.1 248 0 = nI 1) := by
  have no := h.no hnt hW ht
  obtain ⟨⟨a1, a2, a3, a4, a5, a6, a7⟩, w2, w3, w4, w5, w6, w7⟩ := hW
  have w3' := w3 _ (Nat.le_refl _)
  obtain ⟨y, y1, y2, y3, y4⟩ := meant_C (N := N) (x := x) h.2.2.2.2.2.2.2.1 hx hnw (by omega) (by omega) w3'.1
  have iff : (y = -1) ↔ ¬ (dHere wd A x ≠ none ∨ dInst wd A x ≠ none) := by
    rw [y4]
    constructor
    · rintro ⟨q1, q2⟩ (z | z)
      · exact z q1
      · cases e : dInst wd A x with
        | none => exact z e
        | some i =>
          obtain ⟨e1, e2, e3, -⟩ := fnd_some e
          exact q2 i e1 (by omega) (of_decide_eq_true e3)
    · intro q
      have q1 : dHere wd A x = none := by
        by_cases z : dHere wd A x = none
        · exact z
        · exact absurd (Or.inl z) q
      have q2 : dInst wd A x = none := by
        by_cases z : dInst wd A x = none
        · exact z
        · exact absurd (Or.inr z) q
      refine ⟨q1, fun i i1 i2 z => ?_⟩
      have := fnd_none q2 i i1 (by omega)
      rw [decide_eq_true z] at this
      cases this
  unfold fn_Meaning_declare_Me
  rw [on_go X]
  dsimp only
  rw [if_pos rfl, y1, obind]
  dsimp only
  by_cases c1 : y = -1
  · rw [if_pos c1]
    have q := iff.mp c1
    obtain ⟨q1, q2⟩ := y4.mp c1
    obtain ⟨c1', m1, m2, m3, m4⟩ := Wr.add (N := N) (w := w) (k := k) h.2.2.2.2.2.2.2.1 hx hnw (by omega) (by omega) w3'.1 q1 q2 (fun d hd => hws _ (w2 d hd).1 (w2 d hd).2.1) (fun i hi => hws _ (w5 i hi).2.1 (w5 i hi).2.2)
    rw [h.1.1, m1, obind]
    dsimp only
    rw [m4.1 248 (by decide), h248, addDecl_C (N := N) (A := A) (by rw [m4.1 321 (by decide)]; exact h.1.1) (by omega), obind]
    have e : Eb [235, 236, 237, 242, 243, 248, 321, 322, 323, 324, 326, 327] [325] c (upI (upI (upI (upI (upJ (upI (upI (upI c1' 324 (upd (c1'.1 324) (A.1 40 0) (nI (srt k)))) 322 (upd (c1'.1 322) (A.1 40 0) (nI (pl x)))) 323 (upd (c1'.1 323) (A.1 40 0) (nI w))) 325 (vp_updL (c1'.2 325) (A.1 40 0) 0)) 326 (upd (c1'.1 326) (A.1 40 0) (-1))) 327 (upd (c1'.1 327) (A.1 40 0) (-1))) 321 (fun _ => nI (A.1 40 0 + 1))) 248 (fun _ => 1)) := ((((((((m4.mono (by decide) (by decide)).upI (by decide)).upI (by decide)).upI (by decide)).upJ (by decide)).upI (by decide)).upI (by decide)).upI (by decide)).upI (by decide)
    refine ⟨_, rfl, e, fun z => absurd z q, fun _ => ⟨?_, h.add (by omega) h4 (by omega) m2 m3 m4, rfl⟩⟩
    have X1 : Xc c1' T sz C := X.keep m4 (by decide)
    exact X1
  · rw [if_neg c1]
    obtain ⟨c1', r1, r2, r3⟩ := refuse_E (N := N) (w := 21) (p := pl x) X (by decide)
    rw [show fn_Checker_refuse_Ch N 21 (nI (pl x)) c = some ((), c1') from r1, obind]
    exact ⟨c1', rfl, r3.mono (by decide) (by decide), fun _ => ⟨r2, no.keep r3 (by decide)⟩, fun z => absurd (iff.mpr z) c1⟩
/-- a first value -/
theorem beginsWith_C {li w' v p : Nat} (X : Xc c T sz C) (hd : 0 < A.1 40 0) (hd2 : A.1 40 0 < 10900) (h321 : c.1 321 0 = nI (A.1 40 0)) (h323 : c.1 323 (A.1 40 0 - 1) = nI (A.1 1 (A.1 40 0 - 1))) (hw64 : A.1 1 (A.1 40 0 - 1) ≤ 64) (hli : li < lc) (hlc : lc < 13000) (h340 : c.1 340 0 = nI lc) (h338 : c.1 338 li = nI w') (hw3 : w' ≤ 64) (hv : c.2 339 li = lN v) :
    ∃ c', fn_Meaning_beginsWith_Me N (nI li) (nI p) c = some ((), c') ∧ Eb [242, 243] [325] c c' ∧ (w' ≠ A.1 1 (A.1 40 0 - 1) → Off c' 30 p) ∧ (w' = A.1 1 (A.1 40 0 - 1) → Xc c' T sz C ∧ c' = upJ c 325 (vp_updL (c.2 325) (A.1 40 0 - 1) (lN v))) := by
  have f56 : ∀ σ : ms, σ.1 340 0 = nI lc → σ.2 339 li = lN v → bk_Meaning_beginsWith_Me_56 N (nI li) (nI (A.1 40 0 - 1)) σ = some ((), upJ σ 325 (vp_updL (σ.2 325) (A.1 40 0 - 1) (lN v))) := fun σ e1 e2 => by
    unfold bk_Meaning_beginsWith_Me_56 fn_Code_valueOf_Ks
    rw [if_neg (nI_pos (by omega)), e1, if_neg (nI_ge hli (by omega)), if_neg (nI_in (show li < 13108 by omega) (by decide)), nI_clamp (by omega), e2, obind]
    dsimp only
    rw [if_neg (nI_in (show A.1 40 0 - 1 < 10923 by omega) (by decide)), nI_clamp (by omega)]
  have wo : fn_Code_widthOf_Ks N (nI li) c = some (nI w', c) := by
    unfold fn_Code_widthOf_Ks
    rw [h340, if_neg (nI_pos (by omega)), if_neg (nI_ge hli (by omega)), if_neg (nI_in (show li < 13108 by omega) (by decide)), nI_clamp (by omega), h338]
  unfold fn_Meaning_beginsWith_Me
  rw [on_go X]
  dsimp only
  have e1 : nI (A.1 40 0) - 1 = nI (A.1 40 0 - 1) := by
    rw [show (1 : Int32) = nI 1 from rfl, nI_sub (by omega)]
  rw [if_pos rfl, h321, e1, if_pos (show (0 : Int32) ≤ nI (A.1 40 0 - 1) from nI_le (a := 0) (Nat.zero_le _) (by omega)), wo, obind]
  dsimp only
  rw [if_neg (nI_in (show A.1 40 0 - 1 < 10923 by omega) (by decide)), nI_clamp (by omega), h323]
  by_cases q : w' = A.1 1 (A.1 40 0 - 1)
  · rw [if_pos (by rw [q]), f56 c h340 hv]
    exact ⟨_, rfl, Eb.rfl.upJ (by decide), fun z => absurd q z, fun _ => ⟨X, rfl⟩⟩
  · rw [if_neg (fun z => q ((nI_eq (by omega) (by omega)).mp z))]
    obtain ⟨c1, r1, r2, r3⟩ := refuse_E (N := N) (w := 30) (p := p) X (by decide)
    rw [show fn_Checker_refuse_Ch N 30 (nI p) c = some ((), c1) from r1, obind]
    dsimp only
    rw [f56 c1 (by rw [r3.1 340 (by decide)]; exact h340) (by rw [r3.2 339 (by decide)]; exact hv)]
    exact ⟨_, rfl, (r3.mono (by decide) (by decide)).upJ (by decide), fun _ => r2, fun z => absurd z q⟩
theorem DC.first {d v : Nat} (h : DC pl wd nw lit lc A I K sz c) : DC pl wd nw lit lc (tu A 3 d v) I K sz (upJ c 325 (vp_updL (c.2 325) d (lN v))) := by
  obtain ⟨g1, g2, g3, g4, g5, g6, g7, g8, g9⟩ := h
  refine ⟨?_, fun e he => ?_, ?_, ?_, ?_, ?_, ?_, ?_, ?_⟩
  · unfold Ck at *
    simp only [tu1, tu2, uu1, uu2, uu3, vu1, vu2, vu3, su1, su2, Nat.reduceEqDiff, false_and, true_and, reduceIte, Bool.false_eq_true, if_true, if_false]
    exact g1
  · simp only [tu1, tu2, uu1, uu2, uu3, vu1, vu2, vu3, su1, su2, Nat.reduceEqDiff, false_and, true_and, reduceIte, Bool.false_eq_true, if_true, if_false] at he
    simp only [tu1, tu2, uu1, uu2, uu3, vu1, vu2, vu3, su1, su2, Nat.reduceEqDiff, false_and, true_and, reduceIte, Bool.false_eq_true, if_true, if_false]
    obtain ⟨x1, x2, x3, x4, x5⟩ := g2 e he
    refine ⟨x1, x2, x3, ?_, x5⟩
    show vp_updL (c.2 325) d (lN v) e = _
    by_cases z : e = d
    · rw [z, updL_at, if_pos rfl]
    · rw [updL_ne z, if_neg z]; exact x4
  · unfold Cdr dDrv dRg at *
    simp only [tu1, tu2, uu1, uu2, uu3, vu1, vu2, vu3, su1, su2, Nat.reduceEqDiff, false_and, true_and, reduceIte, Bool.false_eq_true, if_true, if_false]
    exact g3
  · unfold Cit at *
    simp only [tu1, tu2, uu1, uu2, uu3, vu1, vu2, vu3, su1, su2, Nat.reduceEqDiff, false_and, true_and, reduceIte, Bool.false_eq_true, if_true, if_false]
    exact g4
  · unfold Clk at *
    simp only [tu1, tu2, uu1, uu2, uu3, vu1, vu2, vu3, su1, su2, Nat.reduceEqDiff, false_and, true_and, reduceIte, Bool.false_eq_true, if_true, if_false]
    exact g5
  · unfold Cpc at *
    simp only [tu1, tu2, uu1, uu2, uu3, vu1, vu2, vu3, su1, su2, Nat.reduceEqDiff, false_and, true_and, reduceIte, Bool.false_eq_true, if_true, if_false]
    exact g6
  · unfold Cmo at *
    simp only [tu1, tu2, uu1, uu2, uu3, vu1, vu2, vu3, su1, su2, Nat.reduceEqDiff, false_and, true_and, reduceIte, Bool.false_eq_true, if_true, if_false]
    exact g7
  · unfold Wr at *
    simp only [tu1, tu2, uu1, uu2, uu3, vu1, vu2, vu3, su1, su2, Nat.reduceEqDiff, false_and, true_and, reduceIte, Bool.false_eq_true, if_true, if_false]
    exact g8
  · unfold Wm at *
    simp only [tu1, tu2, uu1, uu2, uu3, vu1, vu2, vu3, su1, su2, Nat.reduceEqDiff, false_and, true_and, reduceIte, Bool.false_eq_true, if_true, if_false]
    exact g9
end CDEC2
