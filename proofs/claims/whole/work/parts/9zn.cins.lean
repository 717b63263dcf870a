/-! The class: items that name a module. -/
section CINS
variable {tk pl vl wi wd : Nat → Nat} {nt nw N N0 N1 lc : Nat} {ex : Nat → Int32} {lit : Nat → Int64} {c c' c0 : ms} {A : ds} {t sz C I K : Nat} {σ σ' : gs} {μ : Option (Nat × Nat)}
theorem off_inst {x y : Int32} (h : OffC c) : fn_Meaning_instance_Me N x y c = some ((), c) := by unfold fn_Meaning_instance_Me; rw [off_go h]; rfl
theorem off_instName {x y : Int32} (h : OffC c) : fn_Meaning_instanceName_Me N x y c = some ((), c) := by unfold fn_Meaning_instanceName_Me; rw [off_go h]; rfl
theorem off_instEnd (h : OffC c) : fn_Meaning_instanceEnd_Me N c = some ((), c) := by unfold fn_Meaning_instanceEnd_Me; rw [off_go h]; rfl
theorem dMod_C {x y M : Nat} (h : Wm wd A (A.1 46 0 + 1) nw c) (h2 : y < A.1 46 0 + 1) (hM : A.1 46 0 < 20000) (h3 : wd (A.1 20 y) = wd x) : (y = A.1 46 0 → dMod wd A x = none) ∧ (y < A.1 46 0 → dMod wd A x = some y) := by
  have un : ∀ m, m < A.1 46 0 + 1 → wd (A.1 20 m) = wd x → m = y := fun m hm e => by
    have a := h.1 m hm
    have b := h.1 y h2
    rw [e] at a
    rw [h3, a] at b
    exact (nI_eq (by omega) (by omega)).mp b
  refine ⟨fun z => ?_, fun z => ?_⟩
  · refine fnd_no (fun m m1 m2 => decide_eq_false (fun q => ?_))
    have := un m (by omega) q
    omega
  · refine fnd_eq (Nat.zero_le _) (by omega) (decide_eq_true h3) (fun m m1 m2 => decide_eq_false (fun q => ?_))
    have := un m (by omega) q
    omega
theorem inst_C {x T : Nat} (hnt : nt ≤ 12001) (hnw : nw ≤ 19830) (hW : WF tk nt A t) (ht : t ≤ nt) (hx : wd x < nw) (X : Xc c T sz C) (h : DC pl wd nw lit lc A (A.1 41 0) (A.1 42 0) sz c) :
    ∃ c', fn_Meaning_instance_Me N (nI (wd x)) (nI (pl x)) c = some ((), c') ∧ Eb [242, 243, 328, 329, 330, 331] [] c c' ∧ (dMod wd A x = none → OffN nw c' 22 (pl x)) ∧ (∀ m, dMod wd A x = some m → Xc c' T sz C ∧ c'.1 328 0 = nI (A.1 41 0 + 1) ∧ c'.1 329 = upd (c.1 329) (A.1 41 0) (nI m) ∧ c'.1 330 = upd (c.1 330) (A.1 41 0) (-1) ∧ c'.1 331 = upd (c.1 331) (A.1 41 0) (nI (A.1 42 0))) := by
  have no := h.no hnt hW (by omega)
  have cnt := hW.1
  obtain ⟨⟨k1, k2, k3, k4, k5, k6⟩, g2, g3, g4, g5, g6, g7, g8, g9⟩ := id h
  obtain ⟨y, y1, y2⟩ := moduleOf_C (N := N) (x := x) g9 hx hnw
  have bad : ∃ c', bk_Meaning_instance_Me_38 N (nI (pl x)) c = some ((), c') ∧ Eb [242, 243, 328, 329, 330, 331] [] c c' ∧ OffN nw c' 22 (pl x) := by
    obtain ⟨c1, r1, r2, r3⟩ := refuse_E (N := N) (w := 22) (p := pl x) X (by decide)
    refine ⟨c1, ?_, r3.mono (by decide) (by decide), r2, no.keep r3 (by decide)⟩
    unfold bk_Meaning_instance_Me_38
    rw [show fn_Checker_refuse_Ch N 22 (nI (pl x)) c = some ((), c1) from r1, obind]
  unfold fn_Meaning_instance_Me
  rw [on_go X]
  dsimp only
  rw [if_pos rfl, y1, obind]
  dsimp only
  rw [k6, nI_pred]
  rcases y2 with ⟨q1, q2⟩ | ⟨m, m1, m2, m3⟩
  · rw [if_pos q1]
    obtain ⟨c1, r1, r2, r3⟩ := bad
    refine ⟨c1, r1, r2, fun _ => r3, fun m hm => ?_⟩
    have := dMod_in hm
    exact absurd this.2 (q2 m (by omega))
  · obtain ⟨d1, d2⟩ := dMod_C (M := 0) g9 m1 (by omega) m3
    rw [m2, if_neg (nI_no1 (by omega))]
    by_cases z : m < A.1 46 0
    · rw [if_pos (nI_lt z (by omega))]
      have i := nI_in (show A.1 41 0 < 10923 by omega) (show 10923 < 2 ^ 31 by decide)
      unfold fn_Parts_addChild_Ps
      rw [k2, if_pos (show nI (A.1 41 0) < 10923 from nI_lt (b := 10923) (by omega) (by decide)), if_neg i, if_neg i, if_neg i, nI_clamp (by omega), nI_1, k3, obind]
      refine ⟨_, rfl, (((Eb.rfl.upI (by decide)).upI (by decide)).upI (by decide)).upI (by decide), fun y => (by rw [d2 z] at y; cases y), fun m' hm => ?_⟩
      rw [d2 z] at hm
      cases hm
      exact ⟨X, rfl, rfl, rfl, rfl⟩
    · rw [if_neg (nI_nlt (by omega) (by omega))]
      obtain ⟨c1, r1, r2, r3⟩ := bad
      refine ⟨c1, r1, r2, fun _ => r3, fun m' hm => ?_⟩
      rw [d1 (by omega)] at hm
      cases hm
theorem instName_C {x m T : Nat} (hnt : nt ≤ 12001) (hnw : nw ≤ 19830) (hW : WF tk nt A t) (ht : t ≤ nt) (hx : wd x < nw) (X : Xc c' T sz C) (h : DC pl wd nw lit lc A (A.1 41 0) (A.1 42 0) sz c) (e : Eb [213, 214, 215, 216, 217, 218, 219, 242, 243, 328, 329, 330, 331] [] c c') (h328 : c'.1 328 0 = nI (A.1 41 0 + 1)) (h329 : c'.1 329 = upd (c.1 329) (A.1 41 0) (nI m)) (h330 : c'.1 330 = upd (c.1 330) (A.1 41 0) (-1)) (h331 : c'.1 331 = upd (c.1 331) (A.1 41 0) (nI (A.1 42 0))) :
    ∃ c2, fn_Meaning_instanceName_Me N (nI (wd x)) (nI (pl x)) c' = some ((), c2) ∧ Eb [235, 236, 242, 243, 330] [] c' c2 ∧ ((dHere wd A x ≠ none ∨ dInst wd A x ≠ none) → OffN nw c2 21 (pl x)) ∧ (¬ (dHere wd A x ≠ none ∨ dInst wd A x ≠ none) → Xc c2 T sz C ∧ DC pl wd nw lit lc (dIt A m x) (A.1 41 0 + 1) (A.1 42 0) sz c2) := by
  have no := h.no hnt hW (by omega)
  obtain ⟨⟨a1, a2, a3, a4, a5, a6, a7⟩, w2, w3, w4, w5, w6, w7⟩ := id hW
  have w3' := w3 _ (Nat.le_refl _)
  obtain ⟨⟨k1, k2, k3, k4, k5, k6⟩, g2, g3, g4, g5, g6, g7, g8, g9⟩ := id h
  have i := nI_in (show A.1 41 0 < 10923 by omega) (show 10923 < 2 ^ 31 by decide)
  unfold fn_Meaning_instanceName_Me
  rw [on_go X]
  dsimp only
  rw [if_pos rfl, h328, nI_pred, if_pos (show 0 ≤ nI (A.1 41 0) from nI_le (a := 0) (Nat.zero_le _) (by omega)), if_neg i, nI_clamp (by omega)]
  have ek : Eb [330] [] c' (upI c' 330 (upd (c'.1 330) (A.1 41 0) (nI (pl x)))) := Eb.rfl.upI (by decide)
  have X1 : Xc (upI c' 330 (upd (c'.1 330) (A.1 41 0) (nI (pl x)))) T sz C := X
  have r330 : (upI c' 330 (upd (c'.1 330) (A.1 41 0) (nI (pl x)))).1 330 = upd (upd (c.1 330) (A.1 41 0) (-1)) (A.1 41 0) (nI (pl x)) := by rw [← h330]; rfl
  generalize upI c' 330 (upd (c'.1 330) (A.1 41 0) (nI (pl x))) = c1 at *
  have e1 : Eb [213, 214, 215, 216, 217, 218, 219, 242, 243, 328, 329, 330, 331] [] c c1 := e.trans (ek.mono (by decide) (by decide))
  have W1 : Wr wd A (A.1 41 0) nw c1 := g8.keep e1 (by decide)
  have no1 := no.keep e1 (by decide)
  obtain ⟨y, y1, y2, y3, y4⟩ := meant_C (N := N) (x := x) W1 hx hnw (by omega) (by omega) w3'.1
  have iff : (y = -1) ↔ ¬ (dHere wd A x ≠ none ∨ dInst wd A x ≠ none) := by
    rw [y4]
    constructor
    · rintro ⟨q1, q2⟩ (z | z)
      · exact z q1
      · cases e : dInst wd A x with
        | none => exact z e
        | some i =>
          obtain ⟨e1, e2, e3, -⟩ := fnd_some e
          exact q2 i e1 (by omega) (of_decide_eq_true e3)
    · intro q
      have q1 : dHere wd A x = none := Classical.not_not.mp (fun z => q (Or.inl z))
      have q2 : dInst wd A x = none := Classical.not_not.mp (fun z => q (Or.inr z))
      refine ⟨q1, fun i i1 i2 z => ?_⟩
      have := fnd_none q2 i i1 (by omega)
      rw [decide_eq_true z] at this
      cases this
  rw [y1, obind]
  dsimp only
  by_cases z : y = -1
  · rw [if_pos z]
    obtain ⟨q1, q2⟩ := y4.mp z
    obtain ⟨c2, m1, m2, m3⟩ := Wr.addI (N := N) (m := m) W1 hx hnw q1 w3'.2 w3'.1 q2
    rw [show fn_Checker_mean_Ch N (nI (wd x)) (-2) c1 = some ((), c2) from m1, obind]
    have e2 : Eb [213, 214, 215, 216, 217, 218, 219, 235, 236, 242, 243, 328, 329, 330, 331] [] c c2 := (e1.mono (by decide) (by decide)).trans (m3.mono (by decide) (by decide))
    refine ⟨c2, rfl, (ek.mono (by decide) (by decide)).trans (m3.mono (by decide) (by decide)), fun y => absurd y (iff.mp z), fun _ => ⟨X1.keep m3 (by decide), ?_⟩⟩
    have hr : ∀ k, k < sz → c2.2 336 k = c.2 336 k := fun k _ => by rw [e2.2 336 (by decide)]
    have u3 := g3.keep e2 (by decide) hr (Nat.le_refl _)
    have u5 := g5.keep e2 (by decide) hr (Nat.le_refl _)
    have u6 := g6.keep e2 (by decide) hr (Nat.le_refl _)
    have u2 := g2.keep e2 (by decide) (by decide)
    have u7 := g7.keep e2 (by decide)
    have u9 := g9.keep e2 (by decide)
    refine ⟨?_, ?_, ?_, fun j hj => ?_, ?_, ?_, ?_, m2, ?_⟩
    · unfold Ck dIt
      simp only [tu1, tu2, uu1, uu2, uu3, vu1, vu2, vu3, su1, su2, Nat.reduceEqDiff, false_and, true_and, reduceIte, Bool.false_eq_true, if_true, if_false]
      rw [e2.1 321 (by decide), e2.1 332 (by decide), e2.1 317 (by decide), e2.1 233 (by decide), e2.1 309 (by decide), m3.1 328 (by decide), ek.1 328 (by decide)]
      exact ⟨k1, h328, k3, k4, k5, k6⟩
    · unfold Cnm dIt at *
      simp only [tu1, tu2, uu1, uu2, uu3, vu1, vu2, vu3, su1, su2, Nat.reduceEqDiff, false_and, true_and, reduceIte, Bool.false_eq_true, if_true, if_false]
      exact u2
    · unfold Cdr dDrv dRg dIt at *
      simp only [tu1, tu2, uu1, uu2, uu3, vu1, vu2, vu3, su1, su2, Nat.reduceEqDiff, false_and, true_and, reduceIte, Bool.false_eq_true, if_true, if_false]
      exact u3
    · unfold dIt
      simp only [tu1, tu2, uu1, uu2, uu3, vu1, vu2, vu3, su1, su2, Nat.reduceEqDiff, false_and, true_and, reduceIte, Bool.false_eq_true, if_true, if_false]
      rw [m3.1 329 (by decide), m3.1 330 (by decide), m3.1 331 (by decide), ek.1 329 (by decide), ek.1 331 (by decide), r330, h329, h331]
      by_cases y : j = A.1 41 0
      · subst y
        rw [upd_at, upd_at, upd_at]
        simp only [if_true, and_self]
      · rw [upd_ne y, upd_ne y, upd_ne y, upd_ne y]
        simp only [y, if_false]
        exact g4 j (by omega)
    · unfold Clk dIt at *
      simp only [tu1, tu2, uu1, uu2, uu3, vu1, vu2, vu3, su1, su2, Nat.reduceEqDiff, false_and, true_and, reduceIte, Bool.false_eq_true, if_true, if_false]
      exact u5
    · unfold Cpc dIt at *
      simp only [tu1, tu2, uu1, uu2, uu3, vu1, vu2, vu3, su1, su2, Nat.reduceEqDiff, false_and, true_and, reduceIte, Bool.false_eq_true, if_true, if_false]
      exact u6
    · unfold Cmo dIt at *
      simp only [tu1, tu2, uu1, uu2, uu3, vu1, vu2, vu3, su1, su2, Nat.reduceEqDiff, false_and, true_and, reduceIte, Bool.false_eq_true, if_true, if_false]
      exact u7
    · unfold Wm dIt at *
      simp only [tu1, tu2, uu1, uu2, uu3, vu1, vu2, vu3, su1, su2, Nat.reduceEqDiff, false_and, true_and, reduceIte, Bool.false_eq_true, if_true, if_false]
      exact u9
  · rw [if_neg z]
    obtain ⟨c2, r1, r2, r3⟩ := refuse_E (N := N) (w := 21) (p := pl x) X1 (by decide)
    rw [show fn_Checker_refuse_Ch N 21 (nI (pl x)) c1 = some ((), c2) from r1, obind]
    exact ⟨c2, rfl, (ek.mono (by decide) (by decide)).trans (r3.mono (by decide) (by decide)), fun _ => ⟨r2, no1.keep r3 (by decide)⟩, fun y => absurd (iff.mpr y) z⟩
theorem LV.it {x m : Nat} (hm : m < A.1 46 0) : LV (dIt A m x) m := by
  have lk : ∀ d, dLkd (dIt A m x) d = none := fun d => by
    unfold dLkd dIt
    simp only [tu1, tu2, uu1, uu2, uu3, vu1, vu2, vu3, su1, su2, Nat.reduceEqDiff, false_and, true_and, reduceIte, Bool.false_eq_true, if_true, if_false]
    rw [Nat.sub_self]
    rfl
  refine ⟨?_, ?_, ?_, ?_⟩
  · unfold dIt; simp only [tu1, tu2, uu1, uu2, uu3, vu1, vu2, vu3, su1, su2, Nat.reduceEqDiff, false_and, true_and, reduceIte, Bool.false_eq_true, if_true, if_false]; exact hm
  · unfold dIt; simp only [tu1, tu2, uu1, uu2, uu3, vu1, vu2, vu3, su1, su2, Nat.reduceEqDiff, false_and, true_and, reduceIte, Bool.false_eq_true, if_true, if_false]
  · unfold dIt; simp only [tu1, tu2, uu1, uu2, uu3, vu1, vu2, vu3, su1, su2, Nat.reduceEqDiff, false_and, true_and, reduceIte, Bool.false_eq_true, if_true, if_false]; exact fun k k1 k2 => by omega
  · have z : ∀ n a, sumF (fun d => if dLkd (dIt A m x) d = none then 0 else 1) n a = 0 := fun n => by
      induction n with
      | zero => intro a; rfl
      | succ n ih =>
        intro a
        unfold sumF
        rw [ih, if_pos (lk a)]
    rw [z]
    unfold dIt
    simp only [tu1, tu2, uu1, uu2, uu3, vu1, vu2, vu3, su1, su2, Nat.reduceEqDiff, false_and, true_and, reduceIte, Bool.false_eq_true, if_true, if_false]
    omega
theorem PF.it {x m : Nat} (h : PF A) : PF (dIt A m x) := by
  refine h.same (fun k hk => ?_)
  simp only [List.mem_cons, List.not_mem_nil, or_false] at hk
  funext i
  unfold dIt
  rcases hk with rfl | rfl | rfl | rfl <;> simp only [tu1, tu2, uu1, uu2, uu3, vu1, vu2, vu3, su1, su2, Nat.reduceEqDiff, false_and, true_and, reduceIte, Bool.false_eq_true, if_true, if_false]
theorem instEnd_C {m T : Nat} (hnt : nt ≤ 12001) (hW : WF tk nt A t) (ht : t ≤ nt) (hP : PF A) (hL : LV A m) (X : Xc c T sz C) (h : DC pl wd nw lit lc A (A.1 41 0 + 1) (A.1 42 0) sz c) :
    ∃ c', fn_Meaning_instanceEnd_Me N c = some ((), c') ∧ Eb [242, 243] [] c c' ∧ (dOpn A m ≠ none → OffN nw c' 24 (pl (A.1 11 (A.1 41 0)))) ∧ (dOpn A m = none → Xc c' T sz C ∧ DC pl wd nw lit lc (dItE A) (A.1 41 0 + 1) (A.1 42 0) sz c') := by
  have no := h.no hnt hW (by omega)
  obtain ⟨v1, v2, v3, v4⟩ := id hL
  obtain ⟨⟨a1, a2, a3, a4, a5, a6, a7⟩, w2, w3, w4, w5, w6, w7⟩ := id hW
  obtain ⟨⟨k1, k2, k3, k4, k5, k6⟩, g2, g3, g4, g5, g6, g7, g8, g9⟩ := id h
  have i := nI_in (show A.1 41 0 < 10923 by omega) (show 10923 < 2 ^ 31 by decide)
  have iN := nI_inN (show A.1 41 0 < 10923 by omega) (show A.1 41 0 < 2 ^ 31 by omega)
  have i41 := g4 (A.1 41 0) (by omega)
  have e329 : c.1 329 (A.1 41 0) = nI m := by rw [i41.1, v2]
  have w12 := w6 (A.1 41 0) (Nat.le_refl _)
  obtain ⟨fd1, fd2⟩ := firstDecl_C (N := N) (m := m) (c := c) k6 (by omega) (by omega)
  rw [(g7.1 m (by omega)).2.2.1] at fd2
  have b26 : A.1 26 m ≤ A.1 40 0 := by
    have := (hP m v1).1
    have := (w3 (m + 1) (by omega)).1
    omega
  have fl := hL.full hP
  unfold fn_Meaning_instanceEnd_Me
  rw [on_go X]
  dsimp only
  rw [if_pos rfl, k2, nI_pred, if_pos (show 0 ≤ nI (A.1 41 0) from nI_le (a := 0) (Nat.zero_le _) (by omega)), if_neg i, if_neg i, nI_clamp (by omega), e329, fd2, obind]
  dsimp only
  rw [k3, i41.2.2, nI_sub w12]
  by_cases z : A.1 42 0 - A.1 12 (A.1 41 0) = A.1 26 m
  · rw [if_pos (by rw [z])]
    have o := fl.mpr z
    refine ⟨c, rfl, Eb.rfl, fun y => absurd o y, fun _ => ⟨X, ?_⟩⟩
    refine ⟨?_, ?_, ?_, fun j hj => ?_, ?_, ?_, ?_, ?_, ?_⟩
    · unfold Ck dItE
      simp only [tu1, tu2, uu1, uu2, uu3, vu1, vu2, vu3, su1, su2, Nat.reduceEqDiff, false_and, true_and, reduceIte, Bool.false_eq_true, if_true, if_false]
      exact ⟨k1, k2, k3, k4, k5, k6⟩
    · unfold Cnm dItE at *
      simp only [tu1, tu2, uu1, uu2, uu3, vu1, vu2, vu3, su1, su2, Nat.reduceEqDiff, false_and, true_and, reduceIte, Bool.false_eq_true, if_true, if_false]
      exact g2
    · unfold Cdr dDrv dRg dItE at *
      simp only [tu1, tu2, uu1, uu2, uu3, vu1, vu2, vu3, su1, su2, Nat.reduceEqDiff, false_and, true_and, reduceIte, Bool.false_eq_true, if_true, if_false]
      exact g3
    · unfold dItE
      simp only [tu1, tu2, uu1, uu2, uu3, vu1, vu2, vu3, su1, su2, Nat.reduceEqDiff, false_and, true_and, reduceIte, Bool.false_eq_true, if_true, if_false]
      have ne : ¬ j = A.1 41 0 + 1 := by omega
      simp only [ne, if_false]
      exact g4 j hj
    · unfold Clk dItE at *
      simp only [tu1, tu2, uu1, uu2, uu3, vu1, vu2, vu3, su1, su2, Nat.reduceEqDiff, false_and, true_and, reduceIte, Bool.false_eq_true, if_true, if_false]
      exact g5
    · unfold Cpc dItE at *
      simp only [tu1, tu2, uu1, uu2, uu3, vu1, vu2, vu3, su1, su2, Nat.reduceEqDiff, false_and, true_and, reduceIte, Bool.false_eq_true, if_true, if_false]
      exact g6
    · unfold Cmo dItE at *
      simp only [tu1, tu2, uu1, uu2, uu3, vu1, vu2, vu3, su1, su2, Nat.reduceEqDiff, false_and, true_and, reduceIte, Bool.false_eq_true, if_true, if_false]
      exact g7
    · unfold Wr dItE at *
      simp only [tu1, tu2, uu1, uu2, uu3, vu1, vu2, vu3, su1, su2, Nat.reduceEqDiff, false_and, true_and, reduceIte, Bool.false_eq_true, if_true, if_false]
      exact g8
    · unfold Wm dItE at *
      simp only [tu1, tu2, uu1, uu2, uu3, vu1, vu2, vu3, su1, su2, Nat.reduceEqDiff, false_and, true_and, reduceIte, Bool.false_eq_true, if_true, if_false]
      exact g9
  · rw [if_neg (fun q => z ((nI_eq (by omega) (by omega)).mp q)), if_neg iN, i41.2.1]
    obtain ⟨c2, r1, r2, r3⟩ := refuse_E (N := N) (w := 24) (p := pl (A.1 11 (A.1 41 0))) X (by decide)
    rw [show fn_Checker_refuse_Ch N 24 (nI (pl (A.1 11 (A.1 41 0)))) c = some ((), c2) from r1, obind]
    exact ⟨c2, rfl, r3, fun _ => ⟨r2, no.keep r3 (by decide)⟩, fun y => absurd (fl.mp y) z⟩
end CINS
