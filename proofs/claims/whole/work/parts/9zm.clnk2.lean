/-! The class: a link is told. -/
def dLk (pl wd : Nat → Nat) (A : ds) (p w u e : Nat) (al : Bool) (L : List aop) (C : Nat) : Sum (Nat × Nat) ds :=
  if A.1 2 p = 0 then (if w = A.1 1 p then .inr (dLi A p L C) else .inl (30, pl u)) else if al = false then .inl (25, pl e) else match dHere wd A e with
    | none => .inl (25, pl e)
    | some s => if dDrv A s = false then .inl (25, pl e) else if w ≠ A.1 1 p then .inl (30, pl u) else if A.1 4 s ≠ 0 then .inl (31, pl e) else .inr (dLo A p s L C)
section CLNK2
variable {tk pl vl wi wd : Nat → Nat} {nt nw N N0 N1 lc : Nat} {ex : Nat → Int32} {lit : Nat → Int64} {c c' c0 : ms} {A : ds} {t sz C I K : Nat} {σ σ' : gs} {μ : Option (Nat × Nat)}
theorem DC.li {m p C2 : Nat} {L : List aop} (H : DC pl wd nw lit lc A I K sz c) (hm : A.1 10 (A.1 41 0) = m) (e : Eb [334, 335] [] c c') (h333 : c.1 333 (A.1 42 0) = nI (p - A.1 21 m)) (h334 : c'.1 334 = upd (c.1 334) (A.1 42 0) (nI sz)) (h335 : c'.1 335 = upd (c.1 335) (A.1 42 0) (nI (sz + L.length))) (hE : cEnc (c.2 336) (A.1 21 (A.1 46 0)) lit lc sz L) : DC pl wd nw lit lc (dLi A p L C2) I K (sz + L.length) c' := by
  obtain ⟨g1, g2, g3, g4, g5, g6, g7, g8, g9⟩ := H
  have hr : ∀ k, k < sz → c'.2 336 k = c.2 336 k := fun k _ => by rw [e.2 336 (by decide)]
  have k1 := g1.keep (c' := c') e (by decide)
  have k2 := g2.keep (c' := c') e (by decide) (by decide)
  have k3 := g3.keep (c' := c') (sz' := sz + L.length) e (by decide) hr (by omega)
  have k4 := g4.keep (c' := c') e (by decide)
  have k6 := g6.keep (c' := c') (sz' := sz + L.length) e (by decide) hr (by omega)
  have k7 := g7.keep (c' := c') e (by decide)
  have k8 := g8.keep (c' := c') e (by decide)
  have k9 := g9.keep (c' := c') e (by decide)
  unfold dLi
  refine ⟨?_, ?_, ?_, ?_, fun k hk => ?_, ?_, ?_, ?_, ?_⟩
  · unfold Ck at *
    simp only [tu1, tu2, uu1, uu2, uu3, vu1, vu2, vu3, su1, su2, Nat.reduceEqDiff, false_and, true_and, reduceIte, Bool.false_eq_true, if_true, if_false]
    exact k1
  · unfold Cnm at *
    simp only [tu1, tu2, uu1, uu2, uu3, vu1, vu2, vu3, su1, su2, Nat.reduceEqDiff, false_and, true_and, reduceIte, Bool.false_eq_true, if_true, if_false]
    exact k2
  · unfold Cdr dDrv dRg at *
    simp only [tu1, tu2, uu1, uu2, uu3, vu1, vu2, vu3, su1, su2, Nat.reduceEqDiff, false_and, true_and, reduceIte, Bool.false_eq_true, if_true, if_false]
    exact k3
  · unfold Cit at *
    simp only [tu1, tu2, uu1, uu2, uu3, vu1, vu2, vu3, su1, su2, Nat.reduceEqDiff, false_and, true_and, reduceIte, Bool.false_eq_true, if_true, if_false]
    exact k4
  · simp only [tu1, tu2, uu1, uu2, uu3, vu1, vu2, vu3, su1, su2, Nat.reduceEqDiff, false_and, true_and, reduceIte, Bool.false_eq_true, if_true, if_false] at hk
    by_cases z : k = A.1 42 0
    · subst z
      simp only [tu1, tu2, uu1, uu2, uu3, vu1, vu2, vu3, su1, su2, Nat.reduceEqDiff, false_and, true_and, reduceIte, Bool.false_eq_true, if_true, if_false]
      refine ⟨by rw [e.1 333 (by decide), hm]; exact h333, fun _ => ⟨sz, by rw [h334, upd_at], by rw [h335, upd_at], Nat.le_refl _, by rw [e.2 336 (by decide)]; exact hE⟩, fun y => absurd rfl y⟩
    · obtain ⟨h1, h2, h3⟩ := g5 k (by omega)
      simp only [z, tu1, tu2, uu1, uu2, uu3, vu1, vu2, vu3, su1, su2, Nat.reduceEqDiff, false_and, true_and, reduceIte, Bool.false_eq_true, if_true, if_false]
      have r4 : c'.1 334 k = c.1 334 k := by rw [h334, upd_ne z]
      have r5 : c'.1 335 k = c.1 335 k := by rw [h335, upd_ne z]
      exact ⟨by rw [e.1 333 (by decide)]; exact h1, fun y => (h2 y).keep r4 r5 hr (by omega), fun y => by rw [r4]; exact h3 y⟩
  · unfold Cpc at *
    simp only [tu1, tu2, uu1, uu2, uu3, vu1, vu2, vu3, su1, su2, Nat.reduceEqDiff, false_and, true_and, reduceIte, Bool.false_eq_true, if_true, if_false]
    exact k6
  · unfold Cmo at *
    simp only [tu1, tu2, uu1, uu2, uu3, vu1, vu2, vu3, su1, su2, Nat.reduceEqDiff, false_and, true_and, reduceIte, Bool.false_eq_true, if_true, if_false]
    exact k7
  · unfold Wr at *
    simp only [tu1, tu2, uu1, uu2, uu3, vu1, vu2, vu3, su1, su2, Nat.reduceEqDiff, false_and, true_and, reduceIte, Bool.false_eq_true, if_true, if_false]
    exact k8
  · unfold Wm at *
    simp only [tu1, tu2, uu1, uu2, uu3, vu1, vu2, vu3, su1, su2, Nat.reduceEqDiff, false_and, true_and, reduceIte, Bool.false_eq_true, if_true, if_false]
    exact k9
theorem DC.lo {m p s C2 : Nat} {L : List aop} (H : DC pl wd nw lit lc A I K sz c) (hm : A.1 10 (A.1 41 0) = m) (hs : dDrv A s = true) (e : Eb [326, 327, 334, 337] [] c c') (h333 : c.1 333 (A.1 42 0) = nI (p - A.1 21 m)) (h326 : c'.1 326 = upd (c.1 326) s (nI sz)) (h327 : c'.1 327 = upd (c.1 327) s (nI sz)) (h334 : c'.1 334 = upd (c.1 334) (A.1 42 0) (nI (s - A.1 21 (A.1 46 0)))) : DC pl wd nw lit lc (dLo A p s L C2) I K sz c' := by
  obtain ⟨g1, g2, g3, g4, g5, g6, g7, g8, g9⟩ := H
  have hr : ∀ k, k < sz → c'.2 336 k = c.2 336 k := fun k _ => by rw [e.2 336 (by decide)]
  have k1 := g1.keep (c' := c') e (by decide)
  have k2 := g2.keep (c' := c') e (by decide) (by decide)
  have k4 := g4.keep (c' := c') e (by decide)
  have k6 := g6.keep (c' := c') (sz' := sz) e (by decide) hr (Nat.le_refl _)
  have k7 := g7.keep (c' := c') e (by decide)
  have k8 := g8.keep (c' := c') e (by decide)
  have k9 := g9.keep (c' := c') e (by decide)
  have hs' := of_decide_eq_true (show decide (A.1 2 s = 1 ∨ A.1 2 s = 3) = true from hs)
  unfold dLo
  refine ⟨?_, ?_, fun d hd => ?_, ?_, fun k hk => ?_, ?_, ?_, ?_, ?_⟩
  · unfold Ck at *
    simp only [tu1, tu2, uu1, uu2, uu3, vu1, vu2, vu3, su1, su2, Nat.reduceEqDiff, false_and, true_and, reduceIte, Bool.false_eq_true, if_true, if_false]
    exact k1
  · unfold Cnm at *
    simp only [tu1, tu2, uu1, uu2, uu3, vu1, vu2, vu3, su1, su2, Nat.reduceEqDiff, false_and, true_and, reduceIte, Bool.false_eq_true, if_true, if_false]
    exact k2
  · simp only [tu1, tu2, uu1, uu2, uu3, vu1, vu2, vu3, su1, su2, Nat.reduceEqDiff, false_and, true_and, reduceIte, Bool.false_eq_true, if_true, if_false] at hd
    unfold dDrv dRg
    simp only [tu1, tu2, uu1, uu2, uu3, vu1, vu2, vu3, su1, su2, Nat.reduceEqDiff, false_and, true_and, reduceIte, Bool.false_eq_true, if_true, if_false]
    by_cases z : d = s
    · subst z
      simp only [tu1, tu2, uu1, uu2, uu3, vu1, vu2, vu3, su1, su2, Nat.reduceEqDiff, false_and, true_and, reduceIte, Bool.false_eq_true, if_true, if_false]
      refine ⟨fun _ => ⟨fun y => (nomatch y), fun y => (nomatch y), fun _ => ⟨sz, Nat.le_refl _, by rw [h326, upd_at], by rw [h327, upd_at]⟩, fun y => (nomatch y)⟩, fun y => ?_⟩
      have := of_decide_eq_true y
      omega
    · simp only [z, tu1, tu2, uu1, uu2, uu3, vu1, vu2, vu3, su1, su2, Nat.reduceEqDiff, false_and, true_and, reduceIte, Bool.false_eq_true, if_true, if_false]
      obtain ⟨y1, y2⟩ := g3 d hd
      unfold dDrv at y1
      unfold dRg at y2
      have r6 : c'.1 326 d = c.1 326 d := by rw [h326, upd_ne z]
      have r7 : c'.1 327 d = c.1 327 d := by rw [h327, upd_ne z]
      rw [r6, r7]
      refine ⟨fun q => ?_, y2⟩
      obtain ⟨x1, x2, x3, x4⟩ := y1 q
      exact ⟨x1, fun y => (x2 y).keep r6 r7 hr (Nat.le_refl _), x3, x4⟩
  · unfold Cit at *
    simp only [tu1, tu2, uu1, uu2, uu3, vu1, vu2, vu3, su1, su2, Nat.reduceEqDiff, false_and, true_and, reduceIte, Bool.false_eq_true, if_true, if_false]
    exact k4
  · simp only [tu1, tu2, uu1, uu2, uu3, vu1, vu2, vu3, su1, su2, Nat.reduceEqDiff, false_and, true_and, reduceIte, Bool.false_eq_true, if_true, if_false] at hk
    by_cases z : k = A.1 42 0
    · subst z
      simp only [tu1, tu2, uu1, uu2, uu3, vu1, vu2, vu3, su1, su2, Nat.reduceEqDiff, false_and, true_and, reduceIte, Bool.false_eq_true, if_true, if_false]
      refine ⟨by rw [e.1 333 (by decide), hm]; exact h333, fun y => (nomatch y), fun _ => ?_⟩
      rw [h334, upd_at, show s + 1 - 1 - A.1 21 (A.1 46 0) = s - A.1 21 (A.1 46 0) by omega]
    · obtain ⟨h1, h2, h3⟩ := g5 k (by omega)
      simp only [z, tu1, tu2, uu1, uu2, uu3, vu1, vu2, vu3, su1, su2, Nat.reduceEqDiff, false_and, true_and, reduceIte, Bool.false_eq_true, if_true, if_false]
      have r4 : c'.1 334 k = c.1 334 k := by rw [h334, upd_ne z]
      have r5 : c'.1 335 k = c.1 335 k := by rw [e.1 335 (by decide)]
      exact ⟨by rw [e.1 333 (by decide)]; exact h1, fun y => (h2 y).keep r4 r5 hr (by omega), fun y => by rw [r4]; exact h3 y⟩
  · unfold Cpc at *
    simp only [tu1, tu2, uu1, uu2, uu3, vu1, vu2, vu3, su1, su2, Nat.reduceEqDiff, false_and, true_and, reduceIte, Bool.false_eq_true, if_true, if_false]
    exact k6
  · unfold Cmo at *
    simp only [tu1, tu2, uu1, uu2, uu3, vu1, vu2, vu3, su1, su2, Nat.reduceEqDiff, false_and, true_and, reduceIte, Bool.false_eq_true, if_true, if_false]
    exact k7
  · unfold Wr at *
    simp only [tu1, tu2, uu1, uu2, uu3, vu1, vu2, vu3, su1, su2, Nat.reduceEqDiff, false_and, true_and, reduceIte, Bool.false_eq_true, if_true, if_false]
    exact k8
  · unfold Wm at *
    simp only [tu1, tu2, uu1, uu2, uu3, vu1, vu2, vu3, su1, su2, Nat.reduceEqDiff, false_and, true_and, reduceIte, Bool.false_eq_true, if_true, if_false]
    exact k9
theorem off_linked {x y z : Int32} (h : OffC c) : fn_Meaning_linked_Me N x y z c = some ((), c) := by unfold fn_Meaning_linked_Me; rw [off_go h]; rfl
theorem srt_0 {k : Nat} : nI (srt k) = 0 ↔ k = 0 := by
  have b : srt k < 3 := by unfold srt; split <;> (try split) <;> omega
  rw [show (0 : Int32) = nI 0 from rfl, nI_eq (by omega) (by decide)]
  unfold srt
  constructor
  · intro h
    revert h
    split
    · intro _; assumption
    · split <;> omega
  · intro h; rw [if_pos h]
theorem linked_C {m p w u e1 C2 : Nat} {L : List aop} {x : Int32} {al : Bool} (hnt : nt ≤ 12001) (hnw : nw ≤ 19830) (hW : WF tk nt A t) (ht : t ≤ nt) (hm : A.1 10 (A.1 41 0) = m) (hp : p < A.1 40 0) (X : Xc c 1 (sz + L.length) (C + C2)) (h238 : c.1 238 0 = nI w) (hw : w ≤ 64) (h240 : c.1 240 0 = nI sz) (h252 : c.1 252 0 = nI p) (h333 : c.1 333 (A.1 42 0) = nI (p - A.1 21 m)) (hD : DC pl wd nw lit lc A I (A.1 42 0 + 1) sz c) (hE : cEnc (c.2 336) (A.1 21 (A.1 46 0)) lit lc sz L) (hx : (al = true ∧ x = nI (wd e1) ∧ wd e1 < nw) ∨ (al = false ∧ x = -1)) :
    ∃ c', fn_Meaning_linked_Me N (nI (pl u)) (nI (pl e1)) x c = some ((), c') ∧ Eb [239, 242, 243, 326, 327, 334, 335, 337] [] c c' ∧ (∀ f, dLk pl wd A p w u e1 al L C2 = .inl f → OffN nw c' f.1 f.2) ∧ (∀ A', dLk pl wd A p w u e1 al L C2 = .inr A' → ∃ sz', Xc c' 0 sz' (C + C2) ∧ sz' ≤ sz + L.length ∧ sz ≤ sz' ∧ DC pl wd nw lit lc A' I (A.1 42 0 + 1) sz' c') := by
  have X1 : Xc (upI c 239 (fun _ => nI 0)) 0 (sz + L.length) (C + C2) := ⟨X.1, X.2.1, rfl, by omega, X.2.2.2.2.1, X.2.2.2.2.2.1, X.2.2.2.2.2.2⟩
  have e0 : Eb [239] [] c (upI c 239 (fun _ => nI 0)) := Eb.rfl.upI (by decide)
  unfold fn_Meaning_linked_Me fn_Checker_expWidth_Ch
  rw [on_go X]
  dsimp only
  rw [if_pos rfl, pop_1 X, obind, obind]
  dsimp only
  have f1 : (upI c 239 (fun _ => nI 0)).1 332 0 = nI (A.1 42 0 + 1) := hD.1.2.2.1
  have f2 : (upI c 239 (fun _ => nI 0)).1 252 0 = nI p := h252
  have f3 : (upI c 239 (fun _ => nI 0)).1 240 0 = nI sz := h240
  have f4 : (upI c 239 (fun _ => nI 0)).1 333 (A.1 42 0) = nI (p - A.1 21 m) := h333
  have f5 : cEnc ((upI c 239 (fun _ => nI 0)).2 336) (A.1 21 (A.1 46 0)) lit lc sz L := hE
  have D1 : DC pl wd nw lit lc A I (A.1 42 0 + 1) sz (upI c 239 (fun _ => nI 0)) := hD.keep e0 (by decide) (by decide) (fun _ _ => rfl) (Nat.le_refl _)
  generalize upI c 239 (fun _ => nI 0) = c1 at X1 e0 f1 f2 f3 f4 f5 D1 ⊢
  obtain ⟨⟨a1, a2, a3, a4, a5, a6, a7⟩, w2, w3, w4, w5, w6, w7⟩ := id hW
  have w21 := (w3 _ (Nat.le_refl _)).1
  have wp := w2 p hp
  have np := D1.2.1 p hp
  have ip := nI_in (show p < 10923 by omega) (show 10923 < 2 ^ 31 by decide)
  have il := nI_in (show A.1 42 0 < 10923 by omega) (show 10923 < 2 ^ 31 by decide)
  have no := D1.no hnt hW (by omega)
  have sop : fn_Checker_sortOf_Ch N (nI p) c1 = some (nI (srt (A.1 2 p)), c1) := by
    rw [sortOf_C (A := A) D1.1.1 hp (by omega), np.2.2.1]
  have s31 : srt (A.1 2 p) < 2 ^ 31 := by unfold srt; repeat' (first | omega | split)
  rw [f2, sop, obind]
  dsimp only
  rw [f1, nI_pred, if_neg (nI_pos (show A.1 42 0 < 2 ^ 31 by omega)), if_neg (nI_no1 s31), h238]
  have bad : ∀ f q : Nat, 0 < f → f < 100 → ∃ c', fn_Checker_refuse_Ch N (nI f) (nI (pl q)) c1 = some ((), c') ∧ Eb [239, 242, 243, 326, 327, 334, 335, 337] [] c c' ∧ OffN nw c' f (pl q) := fun f q g1 g2 => by
    obtain ⟨c2, r1, r2, r3⟩ := refuse_E (N := N) (w := f) (p := pl q) X1 ⟨g1, g2⟩
    exact ⟨c2, r1, (e0.mono (by decide) (by decide)).trans (r3.mono (by decide) (by decide)), r2, no.keep r3 (by decide)⟩
  -- what the word means
  obtain ⟨y, y1, y2⟩ : ∃ y, fn_Checker_meantBy_Ch N x c1 = some (y, c1) ∧ ((al = true ∧ (∀ d, dHere wd A e1 = some d → y = nI d) ∧ (dHere wd A e1 = none → y = -1 ∨ y = -2)) ∨ (al = false ∧ y = -1)) := by
    rcases hx with ⟨x1, x2, x3⟩ | ⟨x1, x2⟩
    · obtain ⟨y, q1, q2, q3, -⟩ := meant_C (N := N) (x := e1) D1.2.2.2.2.2.2.2.1 x3 hnw (by omega) (by omega) w21
      exact ⟨y, by rw [x2]; exact q1, Or.inl ⟨x1, q2, q3⟩⟩
    · refine ⟨-1, ?_, Or.inr ⟨x1, rfl⟩⟩
      rw [x2]
      unfold fn_Checker_meantBy_Ch
      rw [if_pos (show (-1 : Int32) < 0 by decide)]
  have b57 : ∀ t0 : Int32, bk_Meaning_linked_Me_66 N (nI (pl u)) (nI (pl e1)) x (nI w) (nI (A.1 42 0)) t0 c1 = if t0 = 0 then (bk_Meaning_linked_Me_109 N (nI (pl u)) (nI (pl e1)) (nI w) (nI (A.1 42 0)) t0 y c1) else ((fn_Checker_sortOf_Ch N y c1).bind (fun q_4 => if q_4.1 = 1 then (bk_Meaning_linked_Me_109 N (nI (pl u)) (nI (pl e1)) (nI w) (nI (A.1 42 0)) t0 y q_4.2) else ((fn_Checker_refuse_Ch N 25 (nI (pl e1)) q_4.2).bind (fun q_7 => some ((), q_7.2))))) := fun t0 => by
    unfold bk_Meaning_linked_Me_66
    rw [y1, obind]
  by_cases z2 : A.1 2 p = 0
  · rw [if_pos (srt_0.mpr z2), b57, if_pos rfl]
    unfold bk_Meaning_linked_Me_109
    rw [f2, if_neg ip, nI_clamp (by omega), np.2.1]
    by_cases zw : w = A.1 1 p
    · rw [if_pos (by rw [zw]), if_pos rfl, if_neg il, if_neg il, nI_clamp (by omega), f3, X1.2.2.2.2.1]
      have ek : Eb [334, 335] [] c1 (upI (upI c1 334 (upd (c1.1 334) (A.1 42 0) (nI sz))) 335 (upd (c1.1 335) (A.1 42 0) (nI (sz + L.length)))) := (Eb.rfl.upI (by decide)).upI (by decide)
      refine ⟨_, rfl, (e0.mono (by decide) (by decide)).trans (ek.mono (by decide) (by decide)), fun f h => ?_, fun A' h => ?_⟩
      · unfold dLk at h
        rw [if_pos z2, if_pos zw] at h
        cases h
      · unfold dLk at h
        rw [if_pos z2, if_pos zw] at h
        cases h
        exact ⟨sz + L.length, X1, Nat.le_refl _, by omega, DC.li D1 hm ek f4 rfl rfl f5⟩
    · rw [if_neg (fun q => zw ((nI_eq (by omega) (by omega)).mp q))]
      obtain ⟨c2, r1, r2, r3⟩ := bad 30 u (by decide) (by decide)
      rw [show fn_Checker_refuse_Ch N 30 (nI (pl u)) c1 = some ((), c2) from r1, obind]
      refine ⟨c2, rfl, r2, fun f h => ?_, fun A' h => ?_⟩
      · unfold dLk at h
        rw [if_pos z2, if_neg zw] at h
        cases h
        exact r3
      · unfold dLk at h
        rw [if_pos z2, if_neg zw] at h
        cases h
  · rw [if_neg (fun q => z2 (srt_0.mp q)), b57, if_neg (show ¬ (1 : Int32) = 0 by decide)]
    have no25 : dLk pl wd A p w u e1 al L C2 = .inl (25, pl e1) → ∀ q : Int32, fn_Checker_sortOf_Ch N y c1 = some (q, c1) → q ≠ 1 → ∃ c', ((fn_Checker_sortOf_Ch N y c1).bind (fun q_4 => if q_4.1 = 1 then (bk_Meaning_linked_Me_109 N (nI (pl u)) (nI (pl e1)) (nI w) (nI (A.1 42 0)) 1 y q_4.2) else ((fn_Checker_refuse_Ch N 25 (nI (pl e1)) q_4.2).bind (fun q_7 => some ((), q_7.2))))) = some ((), c') ∧ Eb [239, 242, 243, 326, 327, 334, 335, 337] [] c c' ∧ (∀ f, dLk pl wd A p w u e1 al L C2 = .inl f → OffN nw c' f.1 f.2) ∧ (∀ A', dLk pl wd A p w u e1 al L C2 = .inr A' → ∃ sz', Xc c' 0 sz' (C + C2) ∧ sz' ≤ sz + L.length ∧ sz ≤ sz' ∧ DC pl wd nw lit lc A' I (A.1 42 0 + 1) sz' c') := by
      intro h q hq hn
      obtain ⟨c2, r1, r2, r3⟩ := bad 25 e1 (by decide) (by decide)
      rw [hq, obind]
      dsimp only
      rw [if_neg hn, show fn_Checker_refuse_Ch N 25 (nI (pl e1)) c1 = some ((), c2) from r1, obind]
      refine ⟨c2, rfl, r2, fun f h' => ?_, fun A' h' => ?_⟩
      · rw [h] at h'
        cases h'
        exact r3
      · rw [h] at h'
        cases h'
    have neg : ∀ v : Int32, v < 0 → fn_Checker_sortOf_Ch N v c1 = some (-1, c1) := fun v hv => by
      unfold fn_Checker_sortOf_Ch
      rw [if_pos hv]
    rcases y2 with ⟨x1, x2, x3⟩ | ⟨x1, x2⟩
    · cases eh : dHere wd A e1 with
      | none =>
        refine no25 ?_ (-1) (neg y (by rcases x3 eh with rfl | rfl <;> decide)) (by decide)
        unfold dLk
        rw [if_neg z2, if_neg (by rw [x1]; decide), eh]
      | some s =>
        have hs := dHere_in hW eh
        have k4 := (w2 s hs.1).2.2.2.2.1
        have so : fn_Checker_sortOf_Ch N y c1 = some (nI (srt (A.1 2 s)), c1) := by
          rw [x2 s eh, sortOf_C (A := A) D1.1.1 hs.1 (by omega), (D1.2.1 s hs.1).2.2.1]
        cases dv : dDrv A s with
        | false =>
          refine no25 ?_ _ so (fun z => by have := (srt_drv k4).mp z; rw [dv] at this; cases this)
          unfold dLk
          rw [if_neg z2, if_neg (by rw [x1]; decide), eh]
          dsimp only
          rw [if_pos dv]
        | true =>
          have sl : dLk pl wd A p w u e1 al L C2 = if w ≠ A.1 1 p then .inl (30, pl u) else if A.1 4 s ≠ 0 then .inl (31, pl e1) else .inr (dLo A p s L C2) := by
            unfold dLk
            rw [if_neg z2, if_neg (by rw [x1]; decide), eh]
            dsimp only
            rw [if_neg (by rw [dv]; decide)]
          rw [sl, so, obind]
          dsimp only
          rw [if_pos ((srt_drv k4).mpr dv), x2 s eh]
          have is := nI_in (show s < 10923 by omega) (show 10923 < 2 ^ 31 by decide)
          have isN := nI_inN (show s < 10923 by omega) (show s < 2 ^ 31 by omega)
          unfold bk_Meaning_linked_Me_109
          rw [f2, if_neg ip, nI_clamp (by omega), np.2.1]
          by_cases zw : w = A.1 1 p
          · rw [if_pos (by rw [zw]), if_neg (show ¬ (1 : Int32) = 0 by decide), if_neg is, nI_clamp (by omega), if_neg (show ¬ (w ≠ A.1 1 p) from fun q => q zw)]
            obtain ⟨v1, v2, v3, v4⟩ := (D1.2.2.1 s hs.1).1 dv
            by_cases z4 : A.1 4 s = 0
            · rw [if_pos (v1 z4), if_neg isN, if_neg isN, f3, if_neg (show ¬ (A.1 4 s ≠ 0) from fun q => q z4)]
              have e2 : Eb [326, 327, 337] [] c1 (upI (upI (upI c1 337 (fun _ => nI sz)) 326 (upd (c1.1 326) s (nI sz))) 327 (upd (c1.1 327) s (nI sz))) := ((Eb.rfl.upI (by decide)).upI (by decide)).upI (by decide)
              have lo : fn_Checker_localOf_Ch N (nI s) (upI (upI (upI c1 337 (fun _ => nI sz)) 326 (upd (c1.1 326) s (nI sz))) 327 (upd (c1.1 327) s (nI sz))) = some (nI (s - A.1 21 (A.1 46 0)), (upI (upI (upI c1 337 (fun _ => nI sz)) 326 (upd (c1.1 326) s (nI sz))) 327 (upd (c1.1 327) s (nI sz)))) := by
                unfold fn_Checker_localOf_Ch
                rw [e2.1 233 (by decide), D1.1.2.2.2.2.1, nI_sub hs.2.1]
              rw [lo, obind]
              dsimp only
              rw [if_neg il, nI_clamp (by omega)]
              have e3 : Eb [326, 327, 334, 337] [] c1 (upI (upI (upI (upI c1 337 (fun _ => nI sz)) 326 (upd (c1.1 326) s (nI sz))) 327 (upd (c1.1 327) s (nI sz))) 334 (upd (c1.1 334) (A.1 42 0) (nI (s - A.1 21 (A.1 46 0))))) := (e2.mono (by decide) (by decide)).upI (by decide)
              refine ⟨_, rfl, (e0.mono (by decide) (by decide)).trans (e3.mono (by decide) (by decide)), fun f h => (by cases h), fun A' h => ?_⟩
              cases h
              refine ⟨sz, ⟨X1.1, X1.2.1, X1.2.2.1, X1.2.2.2.1, rfl, ?_, X1.2.2.2.2.2.2⟩, by omega, Nat.le_refl _, DC.lo D1 hm dv e3 f4 rfl rfl rfl⟩
              have := X1.2.2.2.2.2.1
              omega
            · have ne : ¬ c1.1 326 s = -1 := by
                intro q
                have b := X1.2.2.2.2.2.1
                by_cases z1 : A.1 4 s = 1
                · obtain ⟨a, b1, b2, b3, b4⟩ := v2 z1
                  rw [b1] at q
                  exact nI_no1 (by omega) q
                · by_cases z2 : A.1 4 s = 2
                  · obtain ⟨a, b1, b2, b3⟩ := v3 z2
                    rw [b2] at q
                    exact nI_no1 (by omega) q
                  · obtain ⟨a, b1, b2⟩ := v4 (by have := (w2 s hs.1).2.2.2.2.2.1; omega)
                    rw [b2] at q
                    exact nI_no1 (by omega) q
              rw [if_neg ne, if_pos (show A.1 4 s ≠ 0 from z4)]
              obtain ⟨c2, r1, r2, r3⟩ := bad 31 e1 (by decide) (by decide)
              rw [show fn_Checker_refuse_Ch N 31 (nI (pl e1)) c1 = some ((), c2) from r1, obind]
              exact ⟨c2, rfl, r2, fun f h => (by cases h; exact r3), fun A' h => (by cases h)⟩
          · rw [if_neg (fun q => zw ((nI_eq (by omega) (by omega)).mp q)), if_pos (show w ≠ A.1 1 p from zw)]
            obtain ⟨c2, r1, r2, r3⟩ := bad 30 u (by decide) (by decide)
            rw [show fn_Checker_refuse_Ch N 30 (nI (pl u)) c1 = some ((), c2) from r1, obind]
            exact ⟨c2, rfl, r2, fun f h => (by cases h; exact r3), fun A' h => (by cases h)⟩
    · refine no25 ?_ (-1) (neg y (by rw [x2]; decide)) (by decide)
      unfold dLk
      rw [if_neg z2, if_pos x1]
end CLNK2
