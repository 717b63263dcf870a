/-! The class: assigns. -/
section CASG
variable {tk pl vl wi wd : Nat → Nat} {nt nw N N0 N1 lc : Nat} {ex : Nat → Int32} {lit : Nat → Int64} {c c' c0 : ms} {A : ds} {t sz C I K : Nat} {σ σ' : gs} {μ : Option (Nat × Nat)}
theorem off_assignTo {x y : Int32} (h : OffC c) : fn_Meaning_assignTo_Me N x y c = some ((), c) := by unfold fn_Meaning_assignTo_Me; rw [off_go h]; rfl
theorem off_assigned {x : Int32} (h : OffC c) : fn_Meaning_assigned_Me N x c = some ((), c) := by unfold fn_Meaning_assigned_Me; rw [off_go h]; rfl
theorem sortOf_C {d : Nat} (h321 : c.1 321 0 = nI (A.1 40 0)) (hd : d < A.1 40 0) (hd2 : A.1 40 0 < 10900) : fn_Checker_sortOf_Ch N (nI d) c = some (c.1 324 d, c) := by
  unfold fn_Checker_sortOf_Ch
  rw [if_neg (nI_pos (by omega)), h321, if_neg (nI_ge hd (by omega)), if_neg (nI_in (show d < 10923 by omega) (by decide)), nI_clamp (by omega)]
theorem srt_drv {d : Nat} (h4 : A.1 2 d ≤ 4) : (nI (srt (A.1 2 d)) = 1) ↔ dDrv A d = true := by
  unfold srt dDrv
  rw [decide_eq_true_iff]
  show nI (if A.1 2 d = 0 then 0 else if A.1 2 d = 1 ∨ A.1 2 d = 3 then 1 else 2) = nI 1 ↔ _
  rw [nI_eq (by split <;> (try split) <;> omega) (by decide)]
  constructor
  · intro z
    revert z
    split
    · omega
    · split
      · intro _; assumption
      · omega
  · intro z
    rw [if_neg (by omega), if_pos z]
/-- a table entry that only drivers look at -/
theorem DC.drv {x d : Nat} (hx : x = 3) (H : DC pl wd nw lit lc A I K sz c) (h1 : ∀ e, e ≠ d → c'.1 326 e = c.1 326 e) (e : Eb [249, 326] [] c c') (hd : dDrv A d = true) (hv : ∃ a, a ≤ sz ∧ c'.1 326 d = nI a) : DC pl wd nw lit lc (tu A 4 d x) I K sz c' := by
  subst hx
  obtain ⟨g1, g2, g3, g4, g5, g6, g7, g8, g9⟩ := H
  have hr : ∀ k, k < sz → c'.2 336 k = c.2 336 k := fun k _ => by rw [e.2 336 (by decide)]
  have k1 := g1.keep (c' := c') e (by decide)
  have k2 := g2.keep (c' := c') e (by decide) (by decide)
  have k4 := g4.keep (c' := c') e (by decide)
  have k5 := g5.keep (c' := c') (sz' := sz) e (by decide) hr (Nat.le_refl _)
  have k6 := g6.keep (c' := c') (sz' := sz) e (by decide) hr (Nat.le_refl _)
  have k7 := g7.keep (c' := c') e (by decide)
  have k8 := g8.keep (c' := c') e (by decide)
  have k9 := g9.keep (c' := c') e (by decide)
  refine ⟨?_, ?_, fun x hx => ?_, ?_, ?_, ?_, ?_, ?_, ?_⟩
  · unfold Ck at *
    simp only [tu1, tu2, uu1, uu2, uu3, vu1, vu2, vu3, su1, su2, Nat.reduceEqDiff, false_and, true_and, reduceIte, Bool.false_eq_true, if_true, if_false]
    exact k1
  · unfold Cnm at *
    simp only [tu1, tu2, uu1, uu2, uu3, vu1, vu2, vu3, su1, su2, Nat.reduceEqDiff, false_and, true_and, reduceIte, Bool.false_eq_true, if_true, if_false]
    exact k2
  · simp only [tu1, tu2, uu1, uu2, uu3, vu1, vu2, vu3, su1, su2, Nat.reduceEqDiff, false_and, true_and, reduceIte, Bool.false_eq_true, if_true, if_false] at hx
    unfold dDrv dRg
    simp only [tu1, tu2, uu1, uu2, uu3, vu1, vu2, vu3, su1, su2, Nat.reduceEqDiff, false_and, true_and, reduceIte, Bool.false_eq_true, if_true, if_false]
    by_cases z : x = d
    · subst z
      simp only [reduceIte]
      refine ⟨fun _ => ⟨fun y => absurd y (by omega), fun y => absurd y (by omega), fun y => absurd y (by omega), fun _ => hv⟩, fun q => ?_⟩
      exfalso
      unfold dDrv at hd
      have a1 := of_decide_eq_true hd
      have a2 := of_decide_eq_true q
      omega
    · simp only [z, reduceIte]
      obtain ⟨y1, y2⟩ := g3 x hx
      unfold dDrv at y1
      unfold dRg at y2
      rw [h1 x z]
      refine ⟨fun q => ?_, y2⟩
      obtain ⟨x1, x2, x3, x4⟩ := y1 q
      refine ⟨x1, fun y => (x2 y).keep (h1 x z) (by rw [e.1 327 (by decide)]) hr (Nat.le_refl _), fun y => ?_, x4⟩
      rw [e.1 327 (by decide)]
      exact x3 y
  · unfold Cit at *
    simp only [tu1, tu2, uu1, uu2, uu3, vu1, vu2, vu3, su1, su2, Nat.reduceEqDiff, false_and, true_and, reduceIte, Bool.false_eq_true, if_true, if_false]
    exact k4
  · unfold Clk at *
    simp only [tu1, tu2, uu1, uu2, uu3, vu1, vu2, vu3, su1, su2, Nat.reduceEqDiff, false_and, true_and, reduceIte, Bool.false_eq_true, if_true, if_false]
    exact k5
  · unfold Cpc at *
    simp only [tu1, tu2, uu1, uu2, uu3, vu1, vu2, vu3, su1, su2, Nat.reduceEqDiff, false_and, true_and, reduceIte, Bool.false_eq_true, if_true, if_false]
    exact k6
  · unfold Cmo at *
    simp only [tu1, tu2, uu1, uu2, uu3, vu1, vu2, vu3, su1, su2, Nat.reduceEqDiff, false_and, true_and, reduceIte, Bool.false_eq_true, if_true, if_false]
    exact k7
  · unfold Wr at *
    simp only [tu1, tu2, uu1, uu2, uu3, vu1, vu2, vu3, su1, su2, Nat.reduceEqDiff, false_and, true_and, reduceIte, Bool.false_eq_true, if_true, if_false]
    exact k8
  · unfold Wm at *
    simp only [tu1, tu2, uu1, uu2, uu3, vu1, vu2, vu3, su1, su2, Nat.reduceEqDiff, false_and, true_and, reduceIte, Bool.false_eq_true, if_true, if_false]
    exact k9
theorem assignTo_C {x T : Nat} (hnt : nt ≤ 12001) (hnw : nw ≤ 19830) (hW : WF tk nt A t) (ht : t ≤ nt + 1) (hx : wd x < nw) (X : Xc c T sz C) (h : DC pl wd nw lit lc A I K sz c) :
    ∃ c', fn_Meaning_assignTo_Me N (nI (wd x)) (nI (pl x)) c = some ((), c') ∧ Eb [242, 243, 249, 326] [] c c' ∧ (dHere wd A x = none → OffN nw c' 22 (pl x)) ∧ (∀ d, dHere wd A x = some d → (dDrv A d = false → OffN nw c' 22 (pl x)) ∧ (dDrv A d = true → (A.1 4 d ≠ 0 → OffN nw c' 31 (pl x)) ∧ (A.1 4 d = 0 → Xc c' T sz C ∧ c'.1 249 0 = nI d ∧ c'.1 326 d = nI sz ∧ DC pl wd nw lit lc (tu A 4 d 3) I K sz c'))) := by
  have no := h.no hnt hW ht
  have hW' := hW
  obtain ⟨⟨a1, a2, a3, a4, a5, a6, a7⟩, w2, w3, w4, w5, w6, w7⟩ := hW
  have w3' := w3 _ (Nat.le_refl _)
  obtain ⟨y, y1, y2, y3, -⟩ := meant_C (N := N) (x := x) h.2.2.2.2.2.2.2.1 hx hnw (by omega) (by omega) w3'.1
  have bad : ∀ f : Nat, 0 < f → f < 100 → ∃ c', fn_Checker_refuse_Ch N (nI f) (nI (pl x)) c = some ((), c') ∧ Eb [242, 243, 249, 326] [] c c' ∧ OffN nw c' f (pl x) := fun f f1 f2 => by
    obtain ⟨c1, r1, r2, r3⟩ := refuse_E (N := N) (w := f) (p := pl x) X ⟨f1, f2⟩
    exact ⟨c1, r1, r3.mono (by decide) (by decide), r2, no.keep r3 (by decide)⟩
  unfold fn_Meaning_assignTo_Me
  rw [on_go X]
  dsimp only
  rw [if_pos rfl, y1, obind]
  dsimp only
  cases e : dHere wd A x with
  | none =>
    have so : fn_Checker_sortOf_Ch N y c = some (-1, c) := by
      unfold fn_Checker_sortOf_Ch
      rw [if_pos (by rcases y3 e with rfl | rfl <;> decide)]
    rw [so, obind]
    dsimp only
    rw [if_neg (show ¬ (-1 : Int32) = 1 by decide)]
    obtain ⟨c1, r1, r2, r3⟩ := bad 22 (by decide) (by decide)
    rw [show fn_Checker_refuse_Ch N 22 (nI (pl x)) c = some ((), c1) from r1, obind]
    exact ⟨c1, rfl, r2, fun _ => r3, fun d z => (by cases z)⟩
  | some d =>
    have hd := dHere_in hW' e
    have k4 := (w2 d hd.1).2.2.2.2.1
    rw [y2 d e, sortOf_C (A := A) h.1.1 hd.1 (by omega), obind]
    dsimp only
    rw [(h.2.1 d hd.1).2.2.1]
    cases dv : dDrv A d with
    | false =>
      rw [if_neg (fun z => by have := (srt_drv k4).mp z; rw [dv] at this; cases this)]
      obtain ⟨c1, r1, r2, r3⟩ := bad 22 (by decide) (by decide)
      rw [show fn_Checker_refuse_Ch N 22 (nI (pl x)) c = some ((), c1) from r1, obind]
      refine ⟨c1, rfl, r2, fun z => (by cases z), fun d' z => ?_⟩
      cases z
      exact ⟨fun _ => r3, fun z => (by rw [dv] at z; cases z)⟩
    | true =>
      have i := nI_in (show d < 10923 by omega) (show 10923 < 2 ^ 31 by decide)
      rw [if_pos ((srt_drv k4).mpr dv), if_neg i, nI_clamp (by omega)]
      obtain ⟨x1, x2, x3, x4⟩ := (h.2.2.1 d hd.1).1 dv
      by_cases z : A.1 4 d = 0
      · rw [if_pos (x1 z), if_neg (nI_inN (show d < 10923 by omega) (by omega)), X.2.2.2.2.1]
        have ek : Eb [249, 326] [] c (upI (upI c 326 (upd (c.1 326) d (nI sz))) 249 (fun _ => nI d)) := (Eb.rfl.upI (by decide)).upI (by decide)
        refine ⟨_, rfl, ek.mono (by decide) (by decide), fun q => (by cases q), fun d' q => ?_⟩
        cases q
        exact ⟨fun q => (by rw [dv] at q; cases q), fun _ => ⟨fun q => absurd z q, fun _ => ⟨X, rfl, upd_at _ _ _, DC.drv rfl h (fun e he => upd_ne he) ek dv ⟨sz, Nat.le_refl _, upd_at _ _ _⟩⟩⟩⟩
      · have ne : ¬ c.1 326 d = -1 := by
          intro q
          by_cases z1 : A.1 4 d = 1
          · obtain ⟨a, b1, b2, b3, b4⟩ := x2 z1
            rw [b1] at q
            exact nI_no1 (by have := X.2.2.2.2.2.1; omega) q
          · by_cases z2 : A.1 4 d = 2
            · obtain ⟨a, b1, b2, b3⟩ := x3 z2
              rw [b2] at q
              exact nI_no1 (by have := X.2.2.2.2.2.1; omega) q
            · obtain ⟨a, b1, b2⟩ := x4 (by have := (w2 d hd.1).2.2.2.2.2.1; omega)
              rw [b2] at q
              exact nI_no1 (by have := X.2.2.2.2.2.1; omega) q
        rw [if_neg ne]
        obtain ⟨c1, r1, r2, r3⟩ := bad 31 (by decide) (by decide)
        rw [show fn_Checker_refuse_Ch N 31 (nI (pl x)) c = some ((), c1) from r1, obind]
        refine ⟨c1, rfl, r2, fun q => (by cases q), fun d' q => ?_⟩
        cases q
        exact ⟨fun q => (by rw [dv] at q; cases q), fun _ => ⟨fun _ => r3, fun q => absurd q z⟩⟩
/-- an exp that drives a name is told -/
theorem DC.done {d C2 : Nat} {L : List aop} (H : DC pl wd nw lit lc (tu A 4 d 3) I K sz c) (hd : dDrv A d = true) (hfd : A.1 35 d = A.1 21 (A.1 46 0)) (h326 : c.1 326 d = nI sz) (hE : cEnc (c.2 336) (A.1 21 (A.1 46 0)) lit lc sz L) : DC pl wd nw lit lc (tu (uu (tu A 4 d 1) 0 d L) 47 0 (A.1 47 0 + C2)) I K (sz + L.length) (upI c 327 (upd (c.1 327) d (nI (sz + L.length)))) := by
  obtain ⟨g1, g2, g3, g4, g5, g6, g7, g8, g9⟩ := H
  have e : Eb [327] [] c (upI c 327 (upd (c.1 327) d (nI (sz + L.length)))) := Eb.rfl.upI (by decide)
  have k5 := g5.keep (c' := upI c 327 (upd (c.1 327) d (nI (sz + L.length)))) (sz' := sz + L.length) e (by decide) (fun k _ => rfl) (by omega)
  have k6 := g6.keep (c' := upI c 327 (upd (c.1 327) d (nI (sz + L.length)))) (sz' := sz + L.length) e (by decide) (fun k _ => rfl) (by omega)
  refine ⟨?_, ?_, fun x hx => ?_, ?_, ?_, ?_, ?_, ?_, ?_⟩
  · unfold Ck at *
    simp only [tu1, tu2, uu1, uu2, uu3, vu1, vu2, vu3, su1, su2, Nat.reduceEqDiff, false_and, true_and, reduceIte, Bool.false_eq_true, if_true, if_false] at g1
    simp only [tu1, tu2, uu1, uu2, uu3, vu1, vu2, vu3, su1, su2, Nat.reduceEqDiff, false_and, true_and, reduceIte, Bool.false_eq_true, if_true, if_false]
    exact g1
  · unfold Cnm at *
    simp only [tu1, tu2, uu1, uu2, uu3, vu1, vu2, vu3, su1, su2, Nat.reduceEqDiff, false_and, true_and, reduceIte, Bool.false_eq_true, if_true, if_false] at g2
    simp only [tu1, tu2, uu1, uu2, uu3, vu1, vu2, vu3, su1, su2, Nat.reduceEqDiff, false_and, true_and, reduceIte, Bool.false_eq_true, if_true, if_false]
    exact g2
  · unfold Cdr dDrv dRg at g3
    simp only [tu1, tu2, uu1, uu2, uu3, vu1, vu2, vu3, su1, su2, Nat.reduceEqDiff, false_and, true_and, reduceIte, Bool.false_eq_true, if_true, if_false] at g3 hx
    unfold dDrv dRg
    simp only [tu1, tu2, uu1, uu2, uu3, vu1, vu2, vu3, su1, su2, Nat.reduceEqDiff, false_and, true_and, reduceIte, Bool.false_eq_true, if_true, if_false]
    by_cases z : x = d
    · subst z
      simp only [reduceIte]
      obtain ⟨-, y2⟩ := g3 x hx
      refine ⟨fun _ => ⟨fun y => absurd y (by omega), fun _ => ⟨sz, h326, ?_, Nat.le_refl _, by rw [hfd]; exact hE⟩, fun y => absurd y (by omega), fun y => absurd y (by omega)⟩, fun q => y2 q⟩
      show upd (c.1 327) x (nI (sz + L.length)) x = _
      rw [upd_at]
    · simp only [z, reduceIte]
      obtain ⟨y1, y2⟩ := g3 x hx
      simp only [z, reduceIte] at y1
      refine ⟨fun q => ?_, fun q => y2 q⟩
      obtain ⟨x1, x2, x3, x4⟩ := y1 q
      have r : (upI c 327 (upd (c.1 327) d (nI (sz + L.length)))).1 327 x = c.1 327 x := upd_ne z
      refine ⟨x1, fun y => (x2 y).keep rfl r (fun _ _ => rfl) (by omega), fun y => ?_, fun y => ?_⟩
      · obtain ⟨a, a1, a2, a3⟩ := x3 y
        exact ⟨a, by omega, a2, by rw [r]; exact a3⟩
      · obtain ⟨a, a1, a2⟩ := x4 y
        exact ⟨a, by omega, a2⟩
  · unfold Cit at *
    simp only [tu1, tu2, uu1, uu2, uu3, vu1, vu2, vu3, su1, su2, Nat.reduceEqDiff, false_and, true_and, reduceIte, Bool.false_eq_true, if_true, if_false] at g4
    simp only [tu1, tu2, uu1, uu2, uu3, vu1, vu2, vu3, su1, su2, Nat.reduceEqDiff, false_and, true_and, reduceIte, Bool.false_eq_true, if_true, if_false]
    exact g4
  · unfold Clk at *
    simp only [tu1, tu2, uu1, uu2, uu3, vu1, vu2, vu3, su1, su2, Nat.reduceEqDiff, false_and, true_and, reduceIte, Bool.false_eq_true, if_true, if_false] at k5
    simp only [tu1, tu2, uu1, uu2, uu3, vu1, vu2, vu3, su1, su2, Nat.reduceEqDiff, false_and, true_and, reduceIte, Bool.false_eq_true, if_true, if_false]
    exact k5
  · unfold Cpc at *
    simp only [tu1, tu2, uu1, uu2, uu3, vu1, vu2, vu3, su1, su2, Nat.reduceEqDiff, false_and, true_and, reduceIte, Bool.false_eq_true, if_true, if_false] at k6
    simp only [tu1, tu2, uu1, uu2, uu3, vu1, vu2, vu3, su1, su2, Nat.reduceEqDiff, false_and, true_and, reduceIte, Bool.false_eq_true, if_true, if_false]
    exact k6
  · unfold Cmo at *
    simp only [tu1, tu2, uu1, uu2, uu3, vu1, vu2, vu3, su1, su2, Nat.reduceEqDiff, false_and, true_and, reduceIte, Bool.false_eq_true, if_true, if_false] at g7
    simp only [tu1, tu2, uu1, uu2, uu3, vu1, vu2, vu3, su1, su2, Nat.reduceEqDiff, false_and, true_and, reduceIte, Bool.false_eq_true, if_true, if_false]
    exact g7
  · unfold Wr at *
    simp only [tu1, tu2, uu1, uu2, uu3, vu1, vu2, vu3, su1, su2, Nat.reduceEqDiff, false_and, true_and, reduceIte, Bool.false_eq_true, if_true, if_false] at g8
    simp only [tu1, tu2, uu1, uu2, uu3, vu1, vu2, vu3, su1, su2, Nat.reduceEqDiff, false_and, true_and, reduceIte, Bool.false_eq_true, if_true, if_false]
    exact g8
  · unfold Wm at *
    simp only [tu1, tu2, uu1, uu2, uu3, vu1, vu2, vu3, su1, su2, Nat.reduceEqDiff, false_and, true_and, reduceIte, Bool.false_eq_true, if_true, if_false] at g9
    simp only [tu1, tu2, uu1, uu2, uu3, vu1, vu2, vu3, su1, su2, Nat.reduceEqDiff, false_and, true_and, reduceIte, Bool.false_eq_true, if_true, if_false]
    exact g9
end CASG
