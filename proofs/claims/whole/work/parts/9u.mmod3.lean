/-! The reference: modules, designs. -/
section MMOD3
variable {tk pl vl wi wd : Nat → Nat} {nt N N0 : Nat} {s0 s s' : ms} {A : ds} {t la nc : Nat}
theorem WF.beg {u : Nat} (h : WF tk nt A t) : WF tk nt (dBeg A u) t := by
  obtain ⟨h1, h2, h3, h4, h5, h6, h7⟩ := h
  unfold WF dBeg dFirsts
  simp only [tu1, tu2, uu1, uu2, uu3, vu1, vu2, vu3, su1, su2, Nat.reduceEqDiff, false_and, true_and, reduceIte, Bool.false_eq_true, if_true, if_false]
  refine ⟨h1, h2, fun m hm => ?_, fun m hm => ?_, h5, h6, h7⟩
  · have := h3 m hm
    constructor
    · split
      · omega
      · exact this.1
    · split
      · omega
      · exact this.2
  · have z : ¬ m = A.1 46 0 := by omega
    simp only [z, reduceIte]
    obtain ⟨b1, b2, b3⟩ := h4 m hm
    refine ⟨b1, b2, ?_⟩
    split
    · exact (h3 m (by omega)).1
    · exact b3
theorem WF.p26 {i x : Nat} (h : WF tk nt A t) : WF tk nt (tu A 26 i x) t := by
  unfold WF at *
  simp only [tu1, tu2, uu1, uu2, uu3, vu1, vu2, vu3, su1, su2, Nat.reduceEqDiff, false_and, true_and, reduceIte, Bool.false_eq_true, if_true, if_false]
  exact h
theorem WF.fin {t' : Nat} (h : WF tk nt A t) (ht : t ≤ t') (h46 : 4 * (A.1 46 0 + 1) ≤ t') (hn : A.1 20 (A.1 46 0) < nt ∧ tk (A.1 20 (A.1 46 0)) = 400) : WF tk nt (dEnd A) t' := by
  obtain ⟨⟨a1, a2, a3, a4, a5, a6, a7⟩, h2, h3, h4, h5, h6, h7⟩ := h
  unfold WF dEnd dFirsts
  simp only [tu1, tu2, uu1, uu2, uu3, vu1, vu2, vu3, su1, su2, Nat.reduceEqDiff, false_and, true_and, reduceIte, Bool.false_eq_true, if_true, if_false]
  refine ⟨⟨by omega, by omega, by omega, by omega, by omega, by omega, h46⟩, h2, fun m hm => ?_, fun m hm => ?_, fun i hi => ?_, h6, h7⟩
  · by_cases z : m = A.1 46 0 + 1
    · simp only [z, reduceIte]
      exact ⟨Nat.le_refl _, Nat.le_refl _⟩
    · simp only [z, reduceIte]
      exact h3 m (by omega)
  · have z : ¬ m = A.1 46 0 + 1 := by omega
    simp only [z, reduceIte]
    by_cases y : m = A.1 46 0
    · subst y
      simp only [reduceIte]
      exact ⟨hn.1, hn.2, (h3 _ (Nat.le_refl _)).1⟩
    · simp only [y, reduceIte]
      exact h4 m (by omega)
  · have := h5 i hi
    exact ⟨by omega, this.2⟩
/-- what stands, with the number of ports -/
theorem DM.p26 {i x : Nat} (h : DM nt s0 A t la nc s) : DM nt s0 (tu A 26 i x) t la nc s := by
  obtain ⟨g1, g2, g3, g4, g5, g6, g7, g8⟩ := h
  refine ⟨g1, g2, ?_, ?_, ?_, ?_, fun m hm => ?_, ?_⟩
  · simp only [tu1, tu2, uu1, uu2, uu3, vu1, vu2, vu3, su1, su2, Nat.reduceEqDiff, false_and, true_and, reduceIte, Bool.false_eq_true, if_true, if_false]
    exact g3
  · unfold Dtb at *
    simp only [tu1, tu2, uu1, uu2, uu3, vu1, vu2, vu3, su1, su2, Nat.reduceEqDiff, false_and, true_and, reduceIte, Bool.false_eq_true, if_true, if_false]
    exact g4
  · unfold Dset at *
    simp only [tu1, tu2, uu1, uu2, uu3, vu1, vu2, vu3, su1, su2, Nat.reduceEqDiff, false_and, true_and, reduceIte, Bool.false_eq_true, if_true, if_false]
    exact g5
  · unfold Dcd at *
    simp only [tu1, tu2, uu1, uu2, uu3, vu1, vu2, vu3, su1, su2, Nat.reduceEqDiff, false_and, true_and, reduceIte, Bool.false_eq_true, if_true, if_false]
    exact g6
  · exact g7 m hm
  · simp only [tu1, tu2, uu1, uu2, uu3, vu1, vu2, vu3, su1, su2, Nat.reduceEqDiff, false_and, true_and, reduceIte, Bool.false_eq_true, if_true, if_false]
    exact g8
/-- a module begins -/
def begS (s : ms) (m dc it as al : Nat) (u x : Int32) : ms := upI (upJ (upI (upI (upI (upI (upI s 13 (upd (s.1 13) m u)) 14 (upd (s.1 14) m (nI dc))) 15 (upd (s.1 15) m (nI it))) 16 (upd (s.1 16) m (nI as))) 17 (upd (s.1 17) m (nI al))) 45 (vp_updL (s.2 45) m 0)) 8 (fun _ => x)
theorem begS_E {m dc it as al : Nat} {u x : Int32} : Eb [8, 13, 14, 15, 16, 17] [45] s (begS s m dc it as al u x) := ((((((Eb.rfl.upI (by decide)).upI (by decide)).upI (by decide)).upI (by decide)).upI (by decide)).upJ (by decide)).upI (by decide)
theorem f40 {m dc it as al : Nat} (h12 : s.1 12 0 = nI m) (hm : m < 3500) (h18 : s.1 18 0 = nI dc) (h27 : s.1 27 0 = nI it) (h35 : s.1 35 0 = nI as) (h38 : s.1 38 0 = nI al) : bk_M_module_40 N s = hd_M_module_125 N N (begS s m dc it as al (s.1 8 0) (s.1 8 0 + 2)) := by
  unfold bk_M_module_40 begS
  rw [h12, if_neg (nI_in (show m < 3600 by omega) (by decide)), if_neg (nI_in (show m < 3601 by omega) (by decide)), if_neg (nI_in (show m < 3601 by omega) (by decide)), if_neg (nI_in (show m < 3601 by omega) (by decide)), if_neg (nI_in (show m < 3601 by omega) (by decide)), if_neg (nI_in (show m < 3600 by omega) (by decide)), nI_clamp (by omega), h18, h27, h35, h38]
theorem DN.beg {u : Nat} (hW : WF tk nt A t) (h : DN nt s0 A t la nc s) (hu : t ≤ u) (hu2 : u + 2 ≤ nt + 1) (hnt : nt ≤ 12001) : DM nt s0 (dBeg A u) (u + 2) la nc (begS s (A.1 46 0) (A.1 40 0) (A.1 41 0) (A.1 43 0) (A.1 44 0) (nI u) (nI (u + 2))) := by
  obtain ⟨g1, g2, ⟨b1, b3, b4⟩, g4, g5, g6, g7⟩ := h
  have e : Eb [8, 13, 14, 15, 16, 17] [45] s (begS s (A.1 46 0) (A.1 40 0) (A.1 41 0) (A.1 43 0) (A.1 44 0) (nI u) (nI (u + 2))) := begS_E
  have k6 := g6.keep (s' := begS s (A.1 46 0) (A.1 40 0) (A.1 41 0) (A.1 43 0) (A.1 44 0) (nI u) (nI (u + 2))) e (by decide) (fun k _ => by rw [e.1 41 (by decide)]) (fun k _ => by rw [e.2 43 (by decide)]) (Nat.le_refl _) (Nat.le_refl _)
  refine ⟨g1.trans (e.mono (by decide) (by decide)), ?_, ?_, ?_, ?_, ?_, ?_, ?_⟩
  · obtain ⟨h1, h2, h3, h4, h5⟩ := g2
    exact ⟨h1, h2, rfl, by omega, h5⟩
  · unfold dBeg dFirsts
    simp only [tu1, tu2, uu1, uu2, uu3, vu1, vu2, vu3, su1, su2, Nat.reduceEqDiff, false_and, true_and, reduceIte, Bool.false_eq_true, if_true, if_false]
    exact ⟨hu2, hnt, by omega, by omega, by omega⟩
  · obtain ⟨y, h2, h3, h4, h5, h6⟩ := g4
    unfold Dtb dBeg dFirsts
    simp only [tu1, tu2, uu1, uu2, uu3, vu1, vu2, vu3, su1, su2, Nat.reduceEqDiff, false_and, true_and, reduceIte, Bool.false_eq_true, if_true, if_false]
    refine ⟨y, h2, h3, h4, h5, fun m hm => ?_⟩
    have z : ¬ m = A.1 46 0 := by omega
    simp only [z, reduceIte]
    show upd (s.1 13) (A.1 46 0) (nI u) m = _ ∧ vp_updL (s.2 45) (A.1 46 0) 0 m = _ ∧ _
    rw [upd_ne z, updL_ne z]
    exact h6 m hm
  · unfold Dset dBeg dFirsts
    simp only [tu1, tu2, uu1, uu2, uu3, vu1, vu2, vu3, su1, su2, Nat.reduceEqDiff, false_and, true_and, reduceIte, Bool.false_eq_true, if_true, if_false]
    refine ⟨fun d d1 d2 => ?_, g5⟩
    omega
  · unfold Dcd dBeg dFirsts at *
    simp only [tu1, tu2, uu1, uu2, uu3, vu1, vu2, vu3, su1, su2, Nat.reduceEqDiff, false_and, true_and, reduceIte, Bool.false_eq_true, if_true, if_false]
    exact k6
  · intro m hm
    have e46 : (dBeg A u).1 46 0 = A.1 46 0 := by unfold dBeg dFirsts; simp only [tu1, tu2, uu1, uu2, uu3, vu1, vu2, vu3, su1, su2, Nat.reduceEqDiff, false_and, true_and, reduceIte, Bool.false_eq_true, if_true, if_false]
    rw [e46] at hm
    unfold dBeg dFirsts
    simp only [tu1, tu2, uu1, uu2, uu3, vu1, vu2, vu3, su1, su2, Nat.reduceEqDiff, false_and, true_and, reduceIte, Bool.false_eq_true, if_true, if_false]
    show upd (s.1 14) (A.1 46 0) (nI (A.1 40 0)) m = _ ∧ upd (s.1 15) (A.1 46 0) (nI (A.1 41 0)) m = _ ∧ upd (s.1 16) (A.1 46 0) (nI (A.1 43 0)) m = _ ∧ upd (s.1 17) (A.1 46 0) (nI (A.1 44 0)) m = _ ∧ upd (s.1 13) (A.1 46 0) (nI u) m = _
    by_cases z : m = A.1 46 0
    · subst z
      simp only [upd_at, reduceIte]
      exact ⟨trivial, trivial, trivial, trivial, trivial⟩
    · rw [upd_ne z, upd_ne z, upd_ne z, upd_ne z, upd_ne z]
      simp only [z, reduceIte]
      obtain ⟨x1, x2, x3, x4⟩ := g7 m (by omega) (by omega)
      exact ⟨x1, x2, x3, x4, (g4.2.2.2.2.2 m (by omega)).1⟩
  · unfold dBeg dFirsts
    simp only [tu1, tu2, uu1, uu2, uu3, vu1, vu2, vu3, su1, su2, Nat.reduceEqDiff, false_and, true_and, reduceIte, Bool.false_eq_true, if_true, if_false]
    show vp_updL (s.2 45) (A.1 46 0) 0 (A.1 46 0) = _
    rw [updL_at]
    rfl
/-- the first name that nothing drives -/
theorem und_M (hW : WF tk nt A t) (ht : t ≤ nt + 1) (hnt : nt ≤ 12001) (hS : SD tk pl vl wi wd nt N s0) (h : DM nt s0 A t la nc s) : ∀ (j k n : Nat), k + j = A.1 40 0 → j < n → hd_M_module_222 N n (nI k) s = match fnd (fun d => decide (dDrv A d = true ∧ A.1 4 d = 0)) j k with
    | none => bk_M_module_277 N s
    | some d => bk_M_module_277 N (upI (upI s 9 (fun _ => 33)) 10 (fun _ => nI (pl (A.1 0 d)))) := by
  have cnt := hW.1
  have e18 : s.1 18 0 = nI (A.1 40 0) := h.2.2.2.1.1.2.1
  intro j
  induction j with
  | zero =>
    intro k n hk hn
    obtain ⟨n, rfl⟩ : ∃ n', n = n' + 1 := ⟨n - 1, by omega⟩
    show bd_M_module_222 N (hd_M_module_222 N n) (nI k) s = _
    unfold bd_M_module_222
    rw [e18, if_pos (nI_le (by omega) (by omega))]
    rfl
  | succ j ih =>
    intro k n hk hn
    obtain ⟨n, rfl⟩ : ∃ n', n = n' + 1 := ⟨n - 1, by omega⟩
    show bd_M_module_222 N (hd_M_module_222 N n) (nI k) s = _
    unfold bd_M_module_222
    have kl : k < A.1 40 0 := by omega
    have tb := h.2.2.2.1.2.1 k kl
    have wk := hW.2.1 k kl
    rw [e18, if_neg (nI_ge (by omega) (by omega)), if_pos h.nine, isDriven_M hW ht hnt kl tb.2.2.1, obind]
    dsimp only
    unfold fnd
    cases dv : dDrv A k with
    | false =>
      rw [if_pos (show b01 false = 0 from rfl), if_neg (fun z => by have := (of_decide_eq_true z).1; cases this), nI_1]
      exact ih (k + 1) n (by omega) (by omega)
    | true =>
      rw [if_neg (show ¬ b01 true = 0 by decide), if_neg (nI_in (show k < 11000 by omega) (by decide)), nI_clamp (by omega), tb.2.2.2.2]
      by_cases c : A.1 4 k = 0
      · rw [if_pos (show nI (A.1 4 k) = 0 by rw [c]; rfl), if_neg (nI_inN (show k < 11000 by omega) (by omega)), tb.1, if_neg (nI_in (show A.1 0 k < 65540 by omega) (by decide)), nI_clamp (by omega), five hS h.1 wk.1, if_pos (decide_eq_true ⟨rfl, c⟩)]
        unfold fn_M_fail
        rw [if_pos h.nine, obind]
        dsimp only
        obtain ⟨n, rfl⟩ : ∃ n', n = n' + 1 := ⟨n - 1, by omega⟩
        show bd_M_module_222 N (hd_M_module_222 N n) _ _ = _
        unfold bd_M_module_222
        rw [if_neg (show ¬ (upI (upI s 9 (fun _ => 33)) 10 (fun _ => nI (pl (A.1 0 k)))).1 9 0 = 0 from show ¬ (33 : Int32) = 0 by decide), ite_self]
      · rw [if_neg (show ¬ nI (A.1 4 k) = 0 from fun z => c ((nI_eq (b := 0) (by omega) (by omega)).mp z)), if_neg (fun z => c (of_decide_eq_true z).2), nI_1]
        exact ih (k + 1) n (by omega) (by omega)
theorem Zd.r277 {B f p : Nat} (hN : 13002 < N) (h : Zd B s0 s f p) : ∃ s', bk_M_module_277 N s = some ((), s') ∧ Zm s0 s' f p := by
  have r := h.rest hN
  obtain ⟨h1, h2, h3, h4, h5, -, m, dc, it, h6, h7, h8, -⟩ := h
  unfold bk_M_module_212 at r
  rw [h6, if_neg (nI_in (show m < 3601 by omega) (by decide)), nI_clamp (by omega)] at r
  obtain ⟨N', hN'⟩ : ∃ k, N = k + 1 := ⟨N - 1, by omega⟩
  have ff : hd_M_module_222 N N (s.1 14 m) s = bd_M_module_222 N (hd_M_module_222 N N') (s.1 14 m) s := by
    rw [show hd_M_module_222 N N = hd_M_module_222 N (N' + 1) by rw [hN']]
    rfl
  rw [ff] at r
  unfold bd_M_module_222 at r
  rw [if_neg (show ¬ s.1 9 0 = 0 by rw [h4]; exact nI_ne0 h2 (by omega)), ite_self] at r
  exact r
theorem sumF_congr {f g : Nat → Nat} : ∀ {n a : Nat}, (∀ d, a ≤ d → d < a + n → f d = g d) → sumF f n a = sumF g n a
  | 0, a, _ => rfl
  | n + 1, a, h => by
    unfold sumF
    rw [h a (Nat.le_refl _) (by omega), sumF_congr (fun d h1 h2 => h d (by omega) (by omega))]
theorem sumF_le {f : Nat → Nat} {b : Nat} : ∀ {n a : Nat}, (∀ d, a ≤ d → d < a + n → f d ≤ b) → sumF f n a ≤ n * b
  | 0, a, _ => by simp [sumF]
  | n + 1, a, h => by
    unfold sumF
    have := h a (Nat.le_refl _) (by omega)
    have := sumF_le (n := n) (a := a + 1) (fun d h1 h2 => h d (by omega) (by omega))
    rw [Nat.add_mul]
    omega
/-- a module's end: its rows -/
theorem DM.fin {y1 y3 y5 y7 : Int64} (hW : WF tk nt A t) (ht : t + 1 ≤ nt + 1) (hnt : nt ≤ 12001) (h : DM nt s0 A t la nc s) (e1 : y1 = lN (mst (dBits A + dSum A 28))) (e3 : y3 = lN (mst (A.1 40 0 - A.1 21 (A.1 46 0) + dSum A 29))) (e5 : y5 = lN (mst (A.1 41 0 - A.1 22 (A.1 46 0) + dSum A 30))) (e7 : mJ y7 = lN (mst (A.1 47 0 + dSum A 27))) : DN nt s0 (dEnd A) (t + 1) la nc (endS (upI s 8 (fun _ => nI (t + 1))) (A.1 46 0) y1 y3 y5 y7) := by
  obtain ⟨g1, g2, ⟨b1, b2, b3, b4, b5⟩, g4, g5, g6, g7, g8⟩ := h
  have e : Eb [8, 12, 14, 15, 16, 17] [45, 46, 47, 48] s (endS (upI s 8 (fun _ => nI (t + 1))) (A.1 46 0) y1 y3 y5 y7) := by
    unfold endS
    exact (((((((((Eb.rfl.upI (by decide)).upJ (by decide)).upJ (by decide)).upJ (by decide)).upJ (by decide)).upI (by decide)).upI (by decide)).upI (by decide)).upI (by decide)).upI (by decide)
  have k6 := g6.keep (s' := endS (upI s 8 (fun _ => nI (t + 1))) (A.1 46 0) y1 y3 y5 y7) e (by decide) (fun k _ => by rw [e.1 41 (by decide)]) (fun k _ => by rw [e.2 43 (by decide)]) (Nat.le_refl _) (Nat.le_refl _)
  refine ⟨g1.trans (e.mono (by decide) (by decide)), ?_, ⟨ht, by omega, by omega⟩, ?_, ?_, ?_, ?_⟩
  · obtain ⟨h1, h2, h3, h4, h5⟩ := g2
    exact ⟨h1, h2, rfl, by omega, h5⟩
  · obtain ⟨⟨z1, z2, z3, z4, z5, z6⟩, h2, h3, h4, h5, h6⟩ := g4
    unfold Dtb dEnd dFirsts
    simp only [tu1, tu2, uu1, uu2, uu3, vu1, vu2, vu3, su1, su2, Nat.reduceEqDiff, false_and, true_and, reduceIte, Bool.false_eq_true, if_true, if_false]
    refine ⟨⟨rfl, z2, z3, z4, z5, z6⟩, h2, h3, h4, h5, fun m hm => ?_⟩
    show s.1 13 m = _ ∧ vp_updL (s.2 45) (A.1 46 0) (mJ y7) m = _ ∧ vp_updL (s.2 46) (A.1 46 0) y5 m = _ ∧ vp_updL (s.2 47) (A.1 46 0) y3 m = _ ∧ vp_updL (s.2 48) (A.1 46 0) y1 m = _
    by_cases z : m = A.1 46 0
    · subst z
      simp only [updL_at, reduceIte]
      exact ⟨(g7 _ (by omega)).2.2.2.2, e7, e5, e3, e1⟩
    · rw [updL_ne z, updL_ne z, updL_ne z, updL_ne z]
      simp only [z, reduceIte]
      exact h6 m (by omega)
  · intro d
    unfold dEnd dFirsts
    simp only [tu1, tu2, uu1, uu2, uu3, vu1, vu2, vu3, su1, su2, Nat.reduceEqDiff, false_and, true_and, reduceIte, Bool.false_eq_true, if_true, if_false]
    exact g5.2 d
  · unfold Dcd dEnd dFirsts at *
    simp only [tu1, tu2, uu1, uu2, uu3, vu1, vu2, vu3, su1, su2, Nat.reduceEqDiff, false_and, true_and, reduceIte, Bool.false_eq_true, if_true, if_false]
    exact k6
  · have e46 : (dEnd A).1 46 0 = A.1 46 0 + 1 := by unfold dEnd dFirsts; simp only [tu1, tu2, uu1, uu2, uu3, vu1, vu2, vu3, su1, su2, Nat.reduceEqDiff, false_and, true_and, reduceIte, Bool.false_eq_true, if_true, if_false]
    rw [e46]
    intro m hm _
    unfold dEnd dFirsts
    simp only [tu1, tu2, uu1, uu2, uu3, vu1, vu2, vu3, su1, su2, Nat.reduceEqDiff, false_and, true_and, reduceIte, Bool.false_eq_true, if_true, if_false]
    show upd (s.1 14) (A.1 46 0 + 1) (s.1 18 0) m = _ ∧ upd (s.1 15) (A.1 46 0 + 1) (s.1 27 0) m = _ ∧ upd (s.1 16) (A.1 46 0 + 1) (s.1 35 0) m = _ ∧ upd (s.1 17) (A.1 46 0 + 1) (s.1 38 0) m = _
    by_cases z : m = A.1 46 0 + 1
    · subst z
      simp only [upd_at, reduceIte]
      exact ⟨g4.1.2.1, g4.1.2.2.1, g4.1.2.2.2.2.1, g4.1.2.2.2.2.2⟩
    · rw [upd_ne z, upd_ne z, upd_ne z, upd_ne z]
      simp only [z, reduceIte]
      obtain ⟨x1, x2, x3, x4, -⟩ := g7 m (by omega)
      exact ⟨x1, x2, x3, x4⟩
/-- the end of a module -/
theorem fin_M (hN : 13002 < N) (hnt : nt ≤ 12001) (hS : SD tk pl vl wi wd nt N s0) (hW : WF tk nt A t) (ht : t < nt) (h : DM nt s0 A t la nc s) :
    (∀ d, dUnd A = some d → ∃ s', bk_M_module_212 N s = some ((), s') ∧ Zm s0 s' 33 (pl (A.1 0 d))) ∧ (dUnd A = none → ∃ s', bk_M_module_212 N s = some ((), s') ∧ DN nt s0 (dEnd A) (t + 1) la nc s') := by
  have cnt := hW.1
  obtain ⟨-, w2, w3, w4, w5, w6, w7⟩ := hW
  have hW' : WF tk nt A t := ⟨cnt, w2, w3, w4, w5, w6, w7⟩
  have l3 := w3 _ (Nat.le_refl _)
  have e12 : s.1 12 0 = nI (A.1 46 0) := h.2.2.2.1.1.1
  have e18 : s.1 18 0 = nI (A.1 40 0) := h.2.2.2.1.1.2.1
  have e27 : s.1 27 0 = nI (A.1 41 0) := h.2.2.2.1.1.2.2.1
  have f7 := h.2.2.2.2.2.2.1 (A.1 46 0) (by omega)
  have u := und_M hW' (by omega) hnt hS h (A.1 40 0 - A.1 21 (A.1 46 0)) (A.1 21 (A.1 46 0)) N (by omega) (by omega)
  have u0 : bk_M_module_212 N s = hd_M_module_222 N N (nI (A.1 21 (A.1 46 0))) s := by
    unfold bk_M_module_212
    rw [e12, if_neg (nI_in (show A.1 46 0 < 3601 by omega) (by decide)), nI_clamp (by omega), f7.1]
  rw [u0, u]
  have du : dUnd A = fnd (fun d => decide (dDrv A d = true ∧ A.1 4 d = 0)) (A.1 40 0 - A.1 21 (A.1 46 0)) (A.1 21 (A.1 46 0)) := rfl
  rw [← du]
  refine ⟨fun d hd => ?_, fun hd => ?_⟩
  · rw [hd]
    dsimp only
    exact (Zd.z (B := 45000) (x := t) hW' (by omega) hnt h (s' := upI (upI s 9 (fun _ => 33)) 10 (fun _ => nI (pl (A.1 0 d)))) ((Eb.rfl.upI (by decide)).upI (by decide)) (by decide) ⟨by decide, h.2.1.lk⟩ rfl rfl h.eight (by omega)).r277 hN
  · rw [hd]
    dsimp only
    unfold bk_M_module_277
    rw [e12, if_neg (nI_in (show A.1 46 0 < 3601 by omega) (by decide)), nI_clamp (by omega), f7.1, h.eight, nI_1]
    have q12 : (upI s 8 (fun _ => nI (t + 1))).1 12 0 = nI (A.1 46 0) := e12
    have q18 : (upI s 8 (fun _ => nI (t + 1))).1 18 0 = nI (A.1 40 0) := e18
    have q27 : (upI s 8 (fun _ => nI (t + 1))).1 27 0 = nI (A.1 41 0) := e27
    have q14 : (upI s 8 (fun _ => nI (t + 1))).1 14 (A.1 46 0) = nI (A.1 21 (A.1 46 0)) := f7.1
    have q15 : (upI s 8 (fun _ => nI (t + 1))).1 15 (A.1 46 0) = nI (A.1 22 (A.1 46 0)) := f7.2.1
    have q45 : (upI s 8 (fun _ => nI (t + 1))).2 45 (A.1 46 0) = lN (A.1 47 0) := h.2.2.2.2.2.2.2
    rw [h299 q12 (by omega) q18 (by omega) (A.1 40 0 - A.1 21 (A.1 46 0)) (A.1 21 (A.1 46 0)) N 0 (by omega) (by omega), q14, q15, q45]
    have bits : (0 : Int64) + sJ (fun d => if (upI s 8 (fun _ => nI (t + 1))).1 21 d = 2 ∨ (upI s 8 (fun _ => nI (t + 1))).1 21 d = 4 then Int32.toInt64 ((upI s 8 (fun _ => nI (t + 1))).1 20 d) else 0) (A.1 40 0 - A.1 21 (A.1 46 0)) (A.1 21 (A.1 46 0)) = lN (dBits A) := by
      rw [Int64.zero_add, sJ_lN (g := fun d => if dRg A d = true then A.1 1 d else 0) (fun d d1 d2 => ?_)]
      · rfl
      · have tb := h.2.2.2.1.2.1 d (by omega)
        have wd4 := w2 d (by omega)
        show (if s.1 21 d = 2 ∨ s.1 21 d = 4 then Int32.toInt64 (s.1 20 d) else 0) = _
        rw [tb.2.2.1, tb.2.1, i64nI (by omega)]
        unfold dRg
        have i2 : (nI (A.1 2 d) = 2) ↔ A.1 2 d = 2 := nI_eq (b := 2) (by omega) (by decide)
        have i4 : (nI (A.1 2 d) = 4) ↔ A.1 2 d = 4 := nI_eq (b := 4) (by omega) (by decide)
        by_cases c : A.1 2 d = 2 ∨ A.1 2 d = 4
        · rw [if_pos (by rw [i2, i4]; exact c), if_pos (decide_eq_true c)]
        · rw [if_neg (by rw [i2, i4]; exact c), if_neg (fun z => c (of_decide_eq_true z))]; rfl
    rw [bits, nI_sub (by omega), i64nI (by omega), show (0 : Int64) = lN 0 from rfl]
    have bd := h.2.2.1
    unfold Bd at bd
    have lb : dBits A ≤ 1000000000 := by
      have : dBits A ≤ (A.1 40 0 - A.1 21 (A.1 46 0)) * 64 := sumF_le (fun d d1 d2 => by
        show (if dRg A d = true then A.1 1 d else 0) ≤ 64
        split
        · have := (w2 d (by omega)).2.2.2.1; omega
        · omega)
      omega
    obtain ⟨y1, y3, y5, y7, p1, p2⟩ := h376 (N := N) (M := fun i => A.1 10 i) q12 (by omega) q27 (by omega) (A.1 41 0 - A.1 22 (A.1 46 0)) (A.1 22 (A.1 46 0)) N (lN (dBits A)) (lN (A.1 40 0 - A.1 21 (A.1 46 0))) (lN 0) (lN (A.1 47 0)) (by omega) (by omega) (fun i i1 i2 => ⟨(h.2.2.2.1.2.2.1 i i2).1, by have := (w5 i i2).1; show A.1 10 i < 3600; omega⟩)
    obtain ⟨r1, r3, r5, r7⟩ := p2 _ _ _ _ (fun i => mst (A.1 28 (A.1 10 i))) (fun i => mst (A.1 29 (A.1 10 i))) (fun i => mst (A.1 30 (A.1 10 i))) (fun i => mst (A.1 27 (A.1 10 i))) rfl rfl rfl rfl lb (by omega) (by omega) (by omega) (fun i i1 i2 => by
      obtain ⟨x1, x2, x3, x4, x5⟩ := h.2.2.2.1.2.2.2.2.2 (A.1 10 i) (w5 i i2).1
      exact ⟨x5, x4, x3, x2, mst_le, mst_le, mst_le, mst_le⟩)
    refine ⟨_, p1, h.fin hW' (by omega) hnt ?_ ?_ ?_ ?_⟩
    · rw [r1, mS_eq (g := fun i => A.1 28 (A.1 10 i)) lb (fun d _ _ y => mst_add)]; rfl
    · rw [r3, mS_eq (g := fun i => A.1 29 (A.1 10 i)) (by omega) (fun d _ _ y => mst_add)]; rfl
    · rw [r5, mS_eq (g := fun i => 1 + A.1 30 (A.1 10 i)) (by omega) (fun d _ _ y => by rw [← Nat.add_assoc, mst_add, Nat.add_assoc]), sumF_one, Nat.zero_add]; rfl
    · rw [r7, mS_eq (g := fun i => A.1 27 (A.1 10 i)) (by omega) (fun d _ _ y => mst_add), mJ_lN (by have := @mst_le (A.1 47 0 + sumF (fun i => A.1 27 (A.1 10 i)) (A.1 41 0 - A.1 22 (A.1 46 0)) (A.1 22 (A.1 46 0))); omega), mst_id mst_le]; rfl
end MMOD3
