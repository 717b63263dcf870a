/-! The class: links of items. -/
def LV (A : ds) (m : Nat) : Prop := m < A.1 46 0 ∧ A.1 10 (A.1 41 0) = m ∧ (∀ k, A.1 12 (A.1 41 0) ≤ k → k < A.1 42 0 → A.1 37 k = A.1 21 m ∧ A.1 21 m ≤ A.1 13 k ∧ A.1 13 k < A.1 21 m + A.1 26 m) ∧ sumF (fun d => if dLkd A d = none then 0 else 1) (A.1 26 m) (A.1 21 m) = A.1 42 0 - A.1 12 (A.1 41 0)
theorem fnd_eq {q : Nat → Bool} : ∀ {n a d : Nat}, a ≤ d → d < a + n → q d = true → (∀ k, a ≤ k → k < d → q k = false) → fnd q n a = some d
  | 0, a, d, h1, h2, _, _ => by omega
  | n + 1, a, d, h1, h2, h3, h4 => by
    unfold fnd
    by_cases z : a = d
    · subst z; rw [if_pos h3]
    · rw [if_neg (by rw [h4 a (Nat.le_refl _) (by omega)]; decide)]
      exact fnd_eq (by omega) (by omega) h3 (fun k k1 k2 => h4 k (by omega) k2)
theorem fnd_no {q : Nat → Bool} : ∀ {n a : Nat}, (∀ k, a ≤ k → k < a + n → q k = false) → fnd q n a = none
  | 0, a, _ => rfl
  | n + 1, a, h => by
    unfold fnd
    rw [if_neg (by rw [h a (Nat.le_refl _) (by omega)]; decide)]
    exact fnd_no (fun k k1 k2 => h k (by omega) (by omega))
theorem fnd_none_iff {q : Nat → Bool} {n a : Nat} : fnd q n a = none ↔ ∀ k, a ≤ k → k < a + n → q k = false := ⟨fun h => fnd_none h, fnd_no⟩
theorem dLkd_iff {A : ds} {p : Nat} (h : A.1 12 (A.1 41 0) ≤ A.1 42 0) : dLkd A p = none ↔ ∀ k, A.1 12 (A.1 41 0) ≤ k → k < A.1 42 0 → A.1 13 k ≠ p := by
  unfold dLkd
  rw [fnd_none_iff]
  constructor
  · intro g k k1 k2
    exact of_decide_eq_false (g k k1 (by omega))
  · intro g k k1 k2
    exact decide_eq_false (g k k1 (by omega))
theorem LV.more {A A' : ds} {m p : Nat} (h : LV A m) (hw : A.1 12 (A.1 41 0) ≤ A.1 42 0) (h1 : A.1 21 m ≤ p) (h2 : p < A.1 21 m + A.1 26 m) (hn : dLkd A p = none) (e : ∀ k, k ∈ [10, 12, 21, 26, 41, 46] → A'.1 k = A.1 k) (e42 : A'.1 42 0 = A.1 42 0 + 1) (e13 : ∀ k, A'.1 13 k = if k = A.1 42 0 then p else A.1 13 k) (e37 : ∀ k, A'.1 37 k = if k = A.1 42 0 then A.1 21 (A.1 10 (A.1 41 0)) else A.1 37 k) : LV A' m := by
  obtain ⟨v1, v2, v3, v4⟩ := h
  have f10 := e 10 (by decide)
  have f12 := e 12 (by decide)
  have f21 := e 21 (by decide)
  have f26 := e 26 (by decide)
  have f41 := e 41 (by decide)
  have f46 := e 46 (by decide)
  refine ⟨by rw [f46]; exact v1, by rw [f10, f41]; exact v2, fun k k1 k2 => ?_, ?_⟩
  · rw [f12, f41] at k1
    rw [e42] at k2
    rw [e13, e37, f21, f26]
    by_cases z : k = A.1 42 0
    · rw [if_pos z, if_pos z, v2]
      exact ⟨rfl, h1, h2⟩
    · rw [if_neg z, if_neg z]
      exact v3 k k1 (by omega)
  · rw [f26, f21, f12, f41, e42, show A.1 42 0 + 1 - A.1 12 (A.1 41 0) = (A.1 42 0 - A.1 12 (A.1 41 0)) + 1 by omega, ← v4]
    have w' : A'.1 12 (A'.1 41 0) ≤ A'.1 42 0 := by rw [f12, f41, e42]; omega
    have lk : ∀ d, dLkd A' d = none ↔ dLkd A d = none ∧ p ≠ d := fun d => by
      rw [dLkd_iff w', dLkd_iff hw, f12, f41, e42]
      constructor
      · intro g
        refine ⟨fun k k1 k2 => ?_, ?_⟩
        · have := g k k1 (by omega)
          rw [e13, if_neg (by omega)] at this
          exact this
        · have := g (A.1 42 0) hw (by omega)
          rw [e13, if_pos rfl] at this
          exact this
      · intro ⟨g1, g2⟩ k k1 k2
        rw [e13]
        by_cases z : k = A.1 42 0
        · rw [if_pos z]; exact g2
        · rw [if_neg z]; exact g1 k k1 (by omega)
    refine sumF_at (p := p) h1 h2 ?_ (fun d hd => ?_)
    · rw [if_pos hn, if_neg (fun z => ((lk p).mp z).2 rfl)]
    · by_cases z : dLkd A d = none
      · rw [if_pos z, if_pos ((lk d).mpr ⟨z, fun y => hd y.symm⟩)]
      · rw [if_neg z, if_neg (fun y => z ((lk d).mp y).1)]
theorem LV.li {A : ds} {m p C : Nat} {L : List aop} (h : LV A m) (hw : A.1 12 (A.1 41 0) ≤ A.1 42 0) (h1 : A.1 21 m ≤ p) (h2 : p < A.1 21 m + A.1 26 m) (hn : dLkd A p = none) : LV (dLi A p L C) m := by
  refine h.more hw h1 h2 hn (fun k hk => ?_) ?_ (fun k => ?_) (fun k => ?_) <;> unfold dLi
  · simp only [List.mem_cons, List.not_mem_nil, or_false] at hk
    funext i
    rcases hk with rfl | rfl | rfl | rfl | rfl | rfl <;> simp only [tu1, tu2, uu1, uu2, uu3, vu1, vu2, vu3, su1, su2, Nat.reduceEqDiff, false_and, true_and, reduceIte, Bool.false_eq_true, if_true, if_false]
  · simp only [tu1, tu2, uu1, uu2, uu3, vu1, vu2, vu3, su1, su2, Nat.reduceEqDiff, false_and, true_and, reduceIte, Bool.false_eq_true, if_true, if_false]
  · simp only [tu1, tu2, uu1, uu2, uu3, vu1, vu2, vu3, su1, su2, Nat.reduceEqDiff, false_and, true_and, reduceIte, Bool.false_eq_true, if_true, if_false]
  · simp only [tu1, tu2, uu1, uu2, uu3, vu1, vu2, vu3, su1, su2, Nat.reduceEqDiff, false_and, true_and, reduceIte, Bool.false_eq_true, if_true, if_false]
theorem LV.lo {A : ds} {m p s C : Nat} {L : List aop} (h : LV A m) (hw : A.1 12 (A.1 41 0) ≤ A.1 42 0) (h1 : A.1 21 m ≤ p) (h2 : p < A.1 21 m + A.1 26 m) (hn : dLkd A p = none) : LV (dLo A p s L C) m := by
  refine h.more hw h1 h2 hn (fun k hk => ?_) ?_ (fun k => ?_) (fun k => ?_) <;> unfold dLo
  · simp only [List.mem_cons, List.not_mem_nil, or_false] at hk
    funext i
    rcases hk with rfl | rfl | rfl | rfl | rfl | rfl <;> simp only [tu1, tu2, uu1, uu2, uu3, vu1, vu2, vu3, su1, su2, Nat.reduceEqDiff, false_and, true_and, reduceIte, Bool.false_eq_true, if_true, if_false]
  · simp only [tu1, tu2, uu1, uu2, uu3, vu1, vu2, vu3, su1, su2, Nat.reduceEqDiff, false_and, true_and, reduceIte, Bool.false_eq_true, if_true, if_false]
  · simp only [tu1, tu2, uu1, uu2, uu3, vu1, vu2, vu3, su1, su2, Nat.reduceEqDiff, false_and, true_and, reduceIte, Bool.false_eq_true, if_true, if_false]
  · simp only [tu1, tu2, uu1, uu2, uu3, vu1, vu2, vu3, su1, su2, Nat.reduceEqDiff, false_and, true_and, reduceIte, Bool.false_eq_true, if_true, if_false]
/-- all ports are linked where there are as many links -/
theorem LV.full {A : ds} {m : Nat} (h : LV A m) (hP : PF A) : dOpn A m = none ↔ A.1 42 0 - A.1 12 (A.1 41 0) = A.1 26 m := by
  obtain ⟨v1, v2, v3, v4⟩ := h
  obtain ⟨p1, p2⟩ := hP m v1
  have b : ∀ d, (if dLkd A d = none then 0 else 1) ≤ 1 := fun d => by split <;> omega
  unfold dOpn
  rw [fnd_none_iff]
  constructor
  · intro g
    rw [← v4]
    refine sumF_1 (fun d d1 d2 => ?_)
    have := of_decide_eq_false (g d d1 (by omega))
    rw [if_neg (fun z => this ⟨by have := (p2 d d1 (by omega)).mpr d2; omega, z⟩)]
  · intro g d d1 d2
    refine decide_eq_false (fun ⟨y1, y2⟩ => ?_)
    have := sumF_full b (v4.trans g) d d1 ((p2 d d1 (by omega)).mp (by omega))
    rw [if_pos y2] at this
    omega
section CLNK
variable {tk pl vl wi wd : Nat → Nat} {nt nw N N0 N1 lc : Nat} {ex : Nat → Int32} {lit : Nat → Int64} {c c' c0 : ms} {A : ds} {t sz C I K : Nat} {σ σ' : gs} {μ : Option (Nat × Nat)}
theorem declCalled_L {w b : Nat} {q : Nat → Bool} (hb : b < 10923) : ∀ (n x : Nat), x ≤ b → b - x < n → (∀ d, x ≤ d → d < b → (c.1 237 d = nI w ↔ q d = true)) → hd_Checker_declCalled_Ch_7 N n (nI w) (nI b) (nI x) c = some ((match fnd q (b - x) x with | none => -1 | some d => nI d), c)
  | 0, x, _, h, _ => by omega
  | n + 1, x, hx, h, g => by
    show bd_Checker_declCalled_Ch_7 N (hd_Checker_declCalled_Ch_7 N n) (nI w) (nI b) (nI x) c = _
    unfold bd_Checker_declCalled_Ch_7
    by_cases z : b ≤ x
    · rw [if_pos (nI_le z (by omega)), show b - x = 0 by omega]
      rfl
    · rw [if_neg (nI_ge (by omega) (by omega)), if_neg (show ¬ 10923 ≤ nI x from nI_ge (b := 10923) (by omega) (by omega)), if_neg (nI_in (show x < 10923 by omega) (by decide)), nI_clamp (by omega), show b - x = (b - (x + 1)) + 1 by omega]
      unfold fnd
      by_cases y : q x = true
      · rw [if_pos ((g x (Nat.le_refl _) (by omega)).mpr y), if_pos y]
      · rw [if_neg (fun z => y ((g x (Nat.le_refl _) (by omega)).mp z)), if_neg y, nI_1]
        exact declCalled_L hb n (x + 1) (by omega) (by omega) (fun d d1 d2 => g d (by omega) d2)
theorem isLinked_L {v K : Nat} {q : Nat → Bool} (h332 : c.1 332 0 = nI K) (hK : K < 10923) : ∀ (n x : Nat), x ≤ K → K - x < n → (∀ d, x ≤ d → d < K → (c.1 333 d = nI v ↔ q d = true)) → hd_Parts_isLinked_Ps_7 N n (nI v) (nI x) c = some ((match fnd q (K - x) x with | none => 0 | some _ => 1), c)
  | 0, x, _, h, _ => by omega
  | n + 1, x, hx, h, g => by
    show bd_Parts_isLinked_Ps_7 N (hd_Parts_isLinked_Ps_7 N n) (nI v) (nI x) c = _
    unfold bd_Parts_isLinked_Ps_7
    rw [h332]
    by_cases z : K ≤ x
    · rw [if_pos (nI_le z (by omega)), show K - x = 0 by omega]
      rfl
    · rw [if_neg (nI_ge (by omega) (by omega)), if_neg (nI_in (show x < 10923 by omega) (by decide)), nI_clamp (by omega), show K - x = (K - (x + 1)) + 1 by omega]
      unfold fnd
      by_cases y : q x = true
      · rw [if_pos ((g x (Nat.le_refl _) (by omega)).mpr y), if_pos y]
      · rw [if_neg (fun z => y ((g x (Nat.le_refl _) (by omega)).mp z)), if_neg y, nI_1]
        exact isLinked_L h332 hK n (x + 1) (by omega) (by omega) (fun d d1 d2 => g d (by omega) d2)
theorem firstDecl_C {m M : Nat} (h : c.1 309 0 = nI M) (hm : m < M) (hM : M ≤ 3277) : fn_Design_firstDecl_Ds N (nI m) c = some (c.1 312 m, c) ∧ fn_Design_portCount_Ds N (nI m) c = some (c.1 313 m, c) := by
  have i : fn_Design_isModule_Ds N (nI m) c = some (1, c) := by
    unfold fn_Design_isModule_Ds
    rw [if_neg (nI_pos (by omega)), h, if_neg (nI_ge hm (by omega))]
  unfold fn_Design_firstDecl_Ds fn_Design_portCount_Ds
  rw [i, obind, obind]
  dsimp only
  rw [if_neg (show ¬ (1 : Int32) = 0 by decide), if_neg (show ¬ (1 : Int32) = 0 by decide), if_neg (nI_in (show m < 3277 by omega) (by decide)), nI_clamp (by omega)]
  exact ⟨rfl, if_neg (nI_inN (show m < 3277 by omega) (by omega))⟩
theorem addLink_C {v : Nat} (h : c.1 332 0 = nI K) (hK : K < 10923) : fn_Parts_addLink_Ps N (nI v) c = some ((), upI (upI (upI (upI c 333 (upd (c.1 333) K (nI v))) 334 (upd (c.1 334) K (-1))) 335 (upd (c.1 335) K (-1))) 332 (fun _ => nI (K + 1))) := by
  have i := nI_in hK (show 10923 < 2 ^ 31 by decide)
  unfold fn_Parts_addLink_Ps
  rw [h, if_pos (show nI K < 10923 from nI_lt (b := 10923) hK (by decide)), if_neg i, if_neg i, if_neg i, nI_clamp (by omega), nI_1]
theorem off_linkTo {x y : Int32} (h : OffC c) : fn_Meaning_linkTo_Me N x y c = some ((), c) := by unfold fn_Meaning_linkTo_Me; rw [off_go h]; rfl
theorem linkTo_C {x T m : Nat} (hnt : nt ≤ 12001) (hN : 40000 < N) (hnw : nw ≤ 19830) (hW : WF tk nt A t) (ht : t ≤ nt) (hx : wd x < nw) (hw : ∀ i, i < nt → tk i = 400 → wd i < nw) (hP : PF A) (hL : LV A m) (X : Xc c T sz C) (h : DC pl wd nw lit lc A (A.1 41 0 + 1) (A.1 42 0) sz c) :
    ∃ c', fn_Meaning_linkTo_Me N (nI (wd x)) (nI (pl x)) c = some ((), c') ∧ Eb [242, 243, 252, 332, 333, 334, 335] [] c c' ∧ (dPrt wd A m x = none → OffN nw c' 23 (pl x)) ∧ (∀ p, dPrt wd A m x = some p → (2 < A.1 2 p ∨ dLkd A p ≠ none → OffN nw c' 23 (pl x)) ∧ (¬ (2 < A.1 2 p ∨ dLkd A p ≠ none) → Xc c' T sz C ∧ c'.1 252 0 = nI p ∧ c'.1 333 (A.1 42 0) = nI (p - A.1 21 m) ∧ A.1 21 m ≤ p ∧ p < A.1 21 m + A.1 26 m ∧ p < A.1 40 0 ∧ DC pl wd nw lit lc A (A.1 41 0 + 1) (A.1 42 0 + 1) sz c')) := by
  have no := h.no hnt hW (by omega)
  obtain ⟨v1, v2, v3, v4⟩ := id hL
  obtain ⟨⟨a1, a2, a3, a4, a5, a6, a7⟩, w2, w3, w4, w5, w6, w7⟩ := id hW
  obtain ⟨⟨k1, k2, k3, k4, k5, k6⟩, g2, g3, g4, g5, g6, g7, g8, g9⟩ := id h
  obtain ⟨P1, P2⟩ := hP m v1
  have w3m := (w3 (m + 1) (by omega)).1
  have i41 := g4 (A.1 41 0) (by omega)
  have m41 := g7.1 m (by omega)
  have q21 := m41.2.1
  have q26 := m41.2.2.1
  have w12 := w6 (A.1 41 0) (Nat.le_refl _)
  obtain ⟨fd1, fd2⟩ := firstDecl_C (N := N) (m := m) (c := c) k6 (by omega) (by omega)
  rw [q21] at fd1
  rw [q26] at fd2
  have e329 : c.1 329 (A.1 41 0) = nI m := by rw [i41.1, v2]
  have bad : ∀ d : ms, Eb [252] [] c d → ∃ c', bk_Meaning_linkTo_Me_100 N (nI (pl x)) d = some ((), c') ∧ Eb [242, 243, 252, 332, 333, 334, 335] [] c c' ∧ OffN nw c' 23 (pl x) := fun d e => by
    have Xd : Xc d T sz C := X.mono e (by decide) (by rw [e.1 217 (by decide)]; exact X.2.1)
    obtain ⟨c1, r1, r2, r3⟩ := refuse_E (N := N) (w := 23) (p := pl x) Xd (by decide)
    refine ⟨c1, ?_, (e.mono (by decide) (by decide)).trans (r3.mono (by decide) (by decide)), r2, (no.keep e (by decide)).keep r3 (by decide)⟩
    unfold bk_Meaning_linkTo_Me_100
    rw [show fn_Checker_refuse_Ch N 23 (nI (pl x)) d = some ((), c1) from r1, obind]
  have wl : ∀ d, d < A.1 40 0 → wd (A.1 0 d) < nw := fun d hd => hw _ (w2 d hd).1 (w2 d hd).2.1
  have cal : fn_Checker_declCalled_Ch N (nI (wd x)) (nI (A.1 21 m)) (nI (A.1 21 m) + nI (A.1 26 m)) c = some ((match fnd (fun d => decide (wd (A.1 0 d) = wd x)) (A.1 26 m) (A.1 21 m) with | none => -1 | some d => nI d), c) := by
    unfold fn_Checker_declCalled_Ch
    rw [if_neg (nI_pos (by omega)), nI_add]
    have := declCalled_L (N := N) (c := c) (w := wd x) (b := A.1 21 m + A.1 26 m) (q := fun d => decide (wd (A.1 0 d) = wd x)) (by omega) N (A.1 21 m) (by omega) (by omega) (fun d d1 d2 => by
      rw [(g2 d (by omega)).2.2.2.2, decide_eq_true_iff, nI_eq (by have := wl d (by omega); omega) (by omega)])
    rw [Nat.add_sub_cancel_left] at this
    exact this
  unfold fn_Meaning_linkTo_Me
  rw [on_go X]
  dsimp only
  rw [if_pos rfl, k2, nI_pred, if_pos (show 0 ≤ nI (A.1 41 0) from nI_le (a := 0) (Nat.zero_le _) (by omega)), if_neg (nI_in (show A.1 41 0 < 10923 by omega) (by decide)), nI_clamp (by omega), e329, fd1, obind]
  dsimp only
  rw [fd2, obind]
  dsimp only
  rw [cal, obind]
  dsimp only
  cases ef : fnd (fun d => decide (wd (A.1 0 d) = wd x)) (A.1 26 m) (A.1 21 m) with
  | none =>
    dsimp only
    rw [if_pos rfl]
    obtain ⟨c1, r1, r2, r3⟩ := bad (upI c 252 (fun _ => -1)) (Eb.rfl.upI (by decide))
    refine ⟨c1, r1, r2, fun _ => r3, fun p hp => ⟨fun _ => r3, fun z => ?_⟩⟩
    exfalso
    obtain ⟨f1, f2, f3, f4⟩ := fnd_some hp
    have := fnd_none ef
    have n2 : ¬ p < A.1 21 m + A.1 26 m := fun y => by
      have := this p f1 y
      rw [f3] at this
      cases this
    exact n2 ((P2 p f1 (by omega)).mp (by omega))
  | some p =>
    dsimp only
    obtain ⟨f1, f2, f3, f4⟩ := fnd_some ef
    have dp : dPrt wd A m x = some p := fnd_eq f1 (by omega) f3 f4
    have k2p := (P2 p f1 (by omega)).mpr f2
    rw [if_neg (nI_no1 (by omega)), nI_sub f1]
    have ek : Eb [252] [] c (upI c 252 (fun _ => nI p)) := Eb.rfl.upI (by decide)
    have il : fn_Parts_isLinked_Ps N (nI (A.1 41 0)) (nI (p - A.1 21 m)) (upI c 252 (fun _ => nI p)) = some ((match dLkd A p with | none => 0 | some _ => 1), upI c 252 (fun _ => nI p)) := by
      unfold fn_Parts_isLinked_Ps
      rw [if_neg (nI_in (show A.1 41 0 < 10923 by omega) (by decide)), nI_clamp (by omega), ek.1 331 (by decide), i41.2.2]
      exact isLinked_L (N := N) (c := upI c 252 (fun _ => nI p)) (v := p - A.1 21 m) (K := A.1 42 0) (q := fun k => decide (A.1 13 k = p)) k3 (by omega) N (A.1 12 (A.1 41 0)) w12 (by omega) (fun d d1 d2 => by
        obtain ⟨y1, y2, y3⟩ := v3 d d1 d2
        rw [ek.1 333 (by decide), (g5 d d2).1, y1, decide_eq_true_iff, nI_eq (by omega) (by omega)]
        omega)
    rw [il, obind]
    dsimp only
    cases el : dLkd A p with
    | some j =>
      dsimp only
      rw [if_neg (show ¬ (1 : Int32) = 0 by decide)]
      obtain ⟨c1, r1, r2, r3⟩ := bad (upI c 252 (fun _ => nI p)) ek
      refine ⟨c1, r1, r2, fun y => (by rw [dp] at y; cases y), fun p' y => ?_⟩
      rw [dp] at y
      cases y
      exact ⟨fun _ => r3, fun z => absurd (Or.inr (by rw [el]; exact fun y => by cases y)) z⟩
    | none =>
      dsimp only
      rw [if_pos rfl, show (upI c 252 (fun _ => nI p)).1 252 0 = nI p from rfl, nI_sub f1, addLink_C (K := A.1 42 0) (c := upI c 252 (fun _ => nI p)) (by rw [ek.1 332 (by decide)]; exact k3) (by omega), obind]
      have e5 : Eb [252, 332, 333, 334, 335] [] c (upI (upI (upI (upI (upI c 252 (fun _ => nI p)) 333 (upd ((upI c 252 (fun _ => nI p)).1 333) (A.1 42 0) (nI (p - A.1 21 m)))) 334 (upd ((upI c 252 (fun _ => nI p)).1 334) (A.1 42 0) (-1))) 335 (upd ((upI c 252 (fun _ => nI p)).1 335) (A.1 42 0) (-1))) 332 (fun _ => nI (A.1 42 0 + 1))) := (((((ek.mono (by decide) (by decide)).upI (by decide)).upI (by decide)).upI (by decide)).upI (by decide))
      refine ⟨_, rfl, e5.mono (by decide) (by decide), fun y => (by rw [dp] at y; cases y), fun p' y => ?_⟩
      rw [dp] at y
      cases y
      refine ⟨fun z => ?_, fun _ => ⟨X, rfl, upd_at _ _ _, f1, f2, by omega, ?_⟩⟩
      · exfalso
        rcases z with z | z
        · omega
        · exact z el
      · have hr : ∀ k, k < sz → (upI (upI (upI (upI (upI c 252 (fun _ => nI p)) 333 (upd ((upI c 252 (fun _ => nI p)).1 333) (A.1 42 0) (nI (p - A.1 21 m)))) 334 (upd ((upI c 252 (fun _ => nI p)).1 334) (A.1 42 0) (-1))) 335 (upd ((upI c 252 (fun _ => nI p)).1 335) (A.1 42 0) (-1))) 332 (fun _ => nI (A.1 42 0 + 1))).2 336 k = c.2 336 k := fun k _ => rfl
        refine ⟨⟨k1, k2, rfl, k4, k5, k6⟩, g2.keep e5 (by decide) (by decide), g3.keep e5 (by decide) hr (Nat.le_refl _), g4.keep e5 (by decide), fun k hk => ?_, g6.keep e5 (by decide) hr (Nat.le_refl _), g7.keep e5 (by decide), g8.keep e5 (by decide), g9.keep e5 (by decide)⟩
        obtain ⟨h1, h2, h3⟩ := g5 k hk
        have ne : k ≠ A.1 42 0 := by omega
        have r3 : upd (c.1 333) (A.1 42 0) (nI (p - A.1 21 m)) k = c.1 333 k := upd_ne ne
        have r4 : upd (c.1 334) (A.1 42 0) (-1) k = c.1 334 k := upd_ne ne
        have r5 : upd (c.1 335) (A.1 42 0) (-1) k = c.1 335 k := upd_ne ne
        refine ⟨r3.trans h1, fun z => (h2 z).keep r4 r5 hr (Nat.le_refl _), fun z => r4.trans (h3 z)⟩
end CLNK
