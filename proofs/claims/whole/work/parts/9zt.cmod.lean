/-! The class: modules. -/
section CMOD
variable {tk pl vl wi wd : Nat → Nat} {nt nw N N0 N1 lc : Nat} {ex : Nat → Int32} {lit : Nat → Int64} {c c' c0 : ms} {A A' : ds} {m t sz C I K : Nat} {σ σ' : gs} {μ : Option (Nat × Nat)}
theorem und_C (hQ : A.1 40 0 < 10900) (h321 : c.1 321 0 = nI (A.1 40 0)) (hv : ∀ d, d < A.1 40 0 → ((c.1 324 d = 1 ∧ c.1 326 d = -1) ↔ (dDrv A d = true ∧ A.1 4 d = 0))) : ∀ (n d : Nat), d ≤ A.1 40 0 → A.1 40 0 - d < n → hd_Meaning_moduleEnd_Me_28 N n (nI d) c = match fnd (fun d => decide (dDrv A d = true ∧ A.1 4 d = 0)) (A.1 40 0 - d) d with | some e => (fn_Checker_refuse_Ch N 33 (c.1 322 e) c).bind (fun q_4 => some ((), q_4.2)) | none => (fn_Design_sumUp_Ds N (c.1 241 0) c).bind (fun q_1 => some ((), q_1.2)) := by
  intro n
  induction n with
  | zero => intro d _ h; omega
  | succ n ih =>
    intro d hd hn
    show bd_Meaning_moduleEnd_Me_28 N (hd_Meaning_moduleEnd_Me_28 N n) (nI d) c = _
    unfold bd_Meaning_moduleEnd_Me_28
    rw [h321]
    by_cases z : A.1 40 0 ≤ d
    · rw [if_pos (nI_le z (by omega)), show A.1 40 0 - d = 0 by omega]
      rfl
    · have i := nI_in (show d < 10923 by omega) (show 10923 < 2 ^ 31 by decide)
      have iN := nI_inN (show d < 10923 by omega) (show d < 2 ^ 31 by omega)
      have v := hv d (by omega)
      rw [if_neg (nI_ge (by omega) (by omega)), if_neg i, nI_clamp (by omega), nI_1, show A.1 40 0 - d = (A.1 40 0 - (d + 1)) + 1 by omega]
      unfold fnd
      by_cases y1 : c.1 324 d = 1
      · rw [if_pos y1, if_neg iN]
        by_cases y2 : c.1 326 d = -1
        · rw [if_pos y2, if_neg iN, if_pos (decide_eq_true (v.mp ⟨y1, y2⟩))]
        · rw [if_neg y2, if_neg (fun q => y2 (v.mpr (of_decide_eq_true q)).2)]
          exact ih (d + 1) (by omega) (by omega)
      · rw [if_neg y1, if_neg (fun q => y1 (v.mpr (of_decide_eq_true q)).1)]
        exact ih (d + 1) (by omega) (by omega)
theorem off_moduleEnd (h : OffC c) : fn_Meaning_moduleEnd_Me N c = some ((), c) := by unfold fn_Meaning_moduleEnd_Me; rw [off_go h]; rfl
theorem moduleEnd_C {t' : Nat} (hnt : nt ≤ 12001) (hN : 40000 < N) (ht : t ≤ nt) (hA : PA A) (hn : A.1 20 (A.1 46 0) < nt ∧ tk (A.1 20 (A.1 46 0)) = 400) (h46 : 4 * (A.1 46 0 + 1) ≤ t') (htt : t ≤ t') (h : On tk pl wd nt nw lit lc A t sz c) :
    ∃ c', fn_Meaning_moduleEnd_Me N c = some ((), c') ∧ Eb [242, 243, 600, 601, 602, 603, 604] [] c c' ∧ (∀ d, dUnd A = some d → OffN nw c' 33 (pl (A.1 0 d))) ∧ (dUnd A = none → OnB tk pl wd nt nw lit lc (dEnd A) t' sz c') := by
  obtain ⟨⟨T, X⟩, o2, o3, o4, o5, o6, o7, o8⟩ := h
  have no := o2.no hnt o8 (by omega)
  obtain ⟨⟨a1, a2, a3, a4, a5, a6, a7⟩, w2, w3, w4, w5, w6, w7⟩ := id o8
  obtain ⟨⟨k1, k2, k3, k4, k5, k6⟩, g2, g3, g4, g5, g6, g7, g8, g9⟩ := id o2
  have w3' := w3 _ (Nat.le_refl _)
  have mo := g7.1 _ (Nat.le_refl _)
  have fd := (firstDecl_C (N := N) (m := A.1 46 0) (c := c) k6 (by omega) (by omega)).1
  rw [mo.2.1] at fd
  have un := und_C (N := N) (A := A) (c := c) (by omega) k1 (fun d hd => by
    have k4 := (w2 d hd).2.2.2.2.1
    have k5 := (w2 d hd).2.2.2.2.2.1
    rw [(g2 d hd).2.2.1, srt_drv k4]
    refine ⟨fun y => ⟨y.1, ?_⟩, fun y => ⟨y.1, ((g3 d hd).1 y.1).1 y.2⟩⟩
    obtain ⟨x1, x2, x3, x4⟩ := (g3 d hd).1 y.1
    have b := X.2.2.2.2.2.1
    by_cases z0 : A.1 4 d = 0
    · exact z0
    · exfalso
      have q := y.2
      by_cases z1 : A.1 4 d = 1
      · obtain ⟨a, b1, b2, b3, b4⟩ := x2 z1
        rw [b1] at q
        exact nI_no1 (by omega) q
      · by_cases z2 : A.1 4 d = 2
        · obtain ⟨a, b1, b2, b3⟩ := x3 z2
          rw [b2] at q
          exact nI_no1 (by omega) q
        · obtain ⟨a, b1, b2⟩ := x4 (by omega)
          rw [b2] at q
          exact nI_no1 (by omega) q) N (A.1 21 (A.1 46 0)) w3'.1 (by omega)
  unfold fn_Meaning_moduleEnd_Me
  rw [on_go X]
  dsimp only
  rw [if_pos rfl, k6, nI_pred, fd, obind]
  dsimp only
  rw [un]
  cases ef : fnd (fun d => decide (dDrv A d = true ∧ A.1 4 d = 0)) (A.1 40 0 - A.1 21 (A.1 46 0)) (A.1 21 (A.1 46 0)) with
  | some e =>
    dsimp only
    obtain ⟨f1, f2, f3, -⟩ := fnd_some ef
    have de : dUnd A = some e := ef
    rw [(g2 e (by omega)).1]
    obtain ⟨c2, r1, r2, r3⟩ := refuse_E (N := N) (w := 33) (p := pl (A.1 0 e)) X (by decide)
    rw [show fn_Checker_refuse_Ch N 33 (nI (pl (A.1 0 e))) c = some ((), c2) from r1, obind]
    refine ⟨c2, rfl, r3.mono (by decide) (by decide), fun d hd => ?_, fun y => (by rw [de] at y; cases y)⟩
    rw [de] at hd
    cases hd
    exact ⟨r2, no.keep r3 (by decide)⟩
  | none =>
    dsimp only
    have de : dUnd A = none := ef
    obtain ⟨c2, s1, s2⟩ := sumUp_C hnt hN o8 ht hA X o2
    obtain ⟨e, y0, y1, y2, y3, y4⟩ := s2
    rw [s1, obind]
    refine ⟨c2, rfl, e.mono (by decide) (by decide), fun d hd => (by rw [de] at hd; cases hd), fun _ => ?_⟩
    have hr : ∀ k, k < sz → c2.2 336 k = c.2 336 k := fun k _ => by rw [e.2 336 (by decide)]
    have X2 : Xc c2 T sz (A.1 47 0) := X.mono e (by decide) (by rw [e.1 217 (by decide)]; exact X.2.1)
    have u2 := g2.keep e (by decide) (by decide)
    have u3 := g3.keep e (by decide) hr (Nat.le_refl _)
    have u4 := g4.keep e (by decide)
    have u5 := g5.keep e (by decide) hr (Nat.le_refl _)
    have u6 := g6.keep e (by decide) hr (Nat.le_refl _)
    have u9 := g9.keep e (by decide)
    have q46 : (dEnd A).1 46 0 = A.1 46 0 + 1 := by unfold dEnd dFirsts; simp only [tu1, tu2, uu1, uu2, uu3, vu1, vu2, vu3, su1, su2, Nat.reduceEqDiff, false_and, true_and, reduceIte, Bool.false_eq_true, if_true, if_false]
    refine ⟨⟨T, X2.xb⟩, ⟨?_, ?_, ?_, ?_, ?_, ?_, fun m hm => ?_, fun w hw => ?_, ?_⟩, by rw [e.1 248 (by decide)]; exact o3, ?_, ?_, by omega, by rw [e.1 260 (by decide)]; exact o7, o8.fin htt h46 hn, fun _ => no.keep e (by decide)⟩
    · rw [q46, e.1 321 (by decide), e.1 328 (by decide), e.1 332 (by decide), e.1 317 (by decide), e.1 309 (by decide), e.1 232 (by decide), g8.1, nI_1]
      unfold dEnd dFirsts
      simp only [tu1, tu2, uu1, uu2, uu3, vu1, vu2, vu3, su1, su2, Nat.reduceEqDiff, false_and, true_and, reduceIte, Bool.false_eq_true, if_true, if_false]
      exact ⟨k1, k2, k3, k4, k6, trivial⟩
    · unfold Cnm dEnd dFirsts at *
      simp only [tu1, tu2, uu1, uu2, uu3, vu1, vu2, vu3, su1, su2, Nat.reduceEqDiff, false_and, true_and, reduceIte, Bool.false_eq_true, if_true, if_false]
      exact u2
    · unfold Cdr dDrv dRg dEnd dFirsts at *
      simp only [tu1, tu2, uu1, uu2, uu3, vu1, vu2, vu3, su1, su2, Nat.reduceEqDiff, false_and, true_and, reduceIte, Bool.false_eq_true, if_true, if_false]
      exact u3
    · unfold Cit dEnd dFirsts at *
      simp only [tu1, tu2, uu1, uu2, uu3, vu1, vu2, vu3, su1, su2, Nat.reduceEqDiff, false_and, true_and, reduceIte, Bool.false_eq_true, if_true, if_false]
      exact u4
    · unfold Clk dEnd dFirsts at *
      simp only [tu1, tu2, uu1, uu2, uu3, vu1, vu2, vu3, su1, su2, Nat.reduceEqDiff, false_and, true_and, reduceIte, Bool.false_eq_true, if_true, if_false]
      exact u5
    · unfold Cpc dEnd dFirsts at *
      simp only [tu1, tu2, uu1, uu2, uu3, vu1, vu2, vu3, su1, su2, Nat.reduceEqDiff, false_and, true_and, reduceIte, Bool.false_eq_true, if_true, if_false]
      exact u6
    · rw [q46] at hm
      unfold dEnd dFirsts
      simp only [tu1, tu2, uu1, uu2, uu3, vu1, vu2, vu3, su1, su2, Nat.reduceEqDiff, false_and, true_and, reduceIte, Bool.false_eq_true, if_true, if_false]
      have ne : ¬ m = A.1 46 0 + 1 := by omega
      simp only [ne, if_false]
      rw [e.1 311 (by decide), e.1 312 (by decide), e.1 313 (by decide), e.1 314 (by decide), e.1 315 (by decide)]
      refine ⟨g7.1 m (by omega), ?_⟩
      by_cases z : m = A.1 46 0
      · simp only [z, if_true]
        rw [y0, y1, y2, y3, y4, upd_at, upd_at, upd_at, upd_at, upd_at]
        exact ⟨rfl, rfl, rfl, rfl, rfl⟩
      · simp only [z, if_false]
        rw [y0, y1, y2, y3, y4, upd_ne z, upd_ne z, upd_ne z, upd_ne z, upd_ne z]
        exact g7.2 m (by omega)
    · rw [q46, e.1 236 (by decide)]
      rcases g8.2.1 w hw with ⟨j, j1, j2⟩ | j
      · exact Or.inl ⟨j, by omega, j2⟩
      · exact Or.inr j
    · rw [q46]
      unfold Wm dEnd dFirsts at *
      simp only [tu1, tu2, uu1, uu2, uu3, vu1, vu2, vu3, su1, su2, Nat.reduceEqDiff, false_and, true_and, reduceIte, Bool.false_eq_true, if_true, if_false]
      exact u9
    · unfold dEnd dFirsts
      simp only [tu1, tu2, uu1, uu2, uu3, vu1, vu2, vu3, su1, su2, Nat.reduceEqDiff, false_and, true_and, reduceIte, Bool.false_eq_true, if_true, if_false]
      rw [e.1 253 (by decide)]
      exact o4
    · unfold dEnd dFirsts
      simp only [tu1, tu2, uu1, uu2, uu3, vu1, vu2, vu3, su1, su2, Nat.reduceEqDiff, false_and, true_and, reduceIte, Bool.false_eq_true, if_true, if_false]
      exact o5
/-- behind a module -/
def MrB (tk pl wd : Nat → Nat) (nt nw : Nat) (lit : Nat → Int64) (lc : Nat) (μ : Option (Nat × Nat)) (r : dr) (u sz : Nat) (c : ms) : Prop := (∀ fp, μ = some fp → OffN nw c fp.1 fp.2) ∧ (μ = none → ∃ q, r = some q ∧ (∀ f p, q = .inl (f, p) → OffN nw c f p) ∧ (∀ t' A', q = .inr (t', A') → t' = u ∧ OnB tk pl wd nt nw lit lc A' t' sz c))
theorem MrB.glue {r r' : dr} {u : Nat} {μ' : Option (Nat × Nat)} (h : MrB tk pl wd nt nw lit lc μ' r' u sz c) (h1 : ∀ fp, μ = some fp → μ' = some fp) (h2 : μ = none → (∀ fp, μ' = some fp → r = some (.inl fp)) ∧ (μ' = none → r = r')) : MrB tk pl wd nt nw lit lc μ r u sz c := by
  refine ⟨fun fp z => h.1 fp (h1 fp z), fun z => ?_⟩
  cases h3 : μ' with
  | some fp => exact ⟨.inl fp, (h2 z).1 fp h3, fun f p y => (by cases y; exact h.1 _ h3), fun _ _ y => (by cases y)⟩
  | none => rw [(h2 z).2 h3]; exact h.2 h3
/-- a result told on -/
theorem Mr.split {r : dr} {u : Nat} (h : Mr tk pl wd nt nw lit lc μ r u sz c) : ∃ μ' A', Md tk pl wd nt nw lit lc A' u sz c μ' ∧ (∀ fp, μ = some fp → μ' = some fp) ∧ (μ = none → (∀ fp, μ' = some fp → r = some (.inl fp)) ∧ (μ' = none → r = some (.inr (u, A')))) := by
  cases hμ : μ with
  | some fp => exact ⟨some fp, dA0, ⟨fun q z => (by cases z; exact h.1 fp hμ), fun z => (by cases z)⟩, fun q z => z, fun z => (by cases z)⟩
  | none =>
    obtain ⟨q, v1, v2, v3⟩ := h.2 hμ
    cases q with
    | inl fp => exact ⟨some fp, dA0, ⟨fun q z => (by cases z; exact v2 _ _ rfl), fun z => (by cases z)⟩, fun q z => (by cases z), fun _ => ⟨fun q z => (by cases z; exact v1), fun z => (by cases z)⟩⟩
    | inr q =>
      obtain ⟨t1, A1⟩ := q
      obtain ⟨w1, w2⟩ := v3 _ _ rfl
      subst w1
      exact ⟨none, A1, ⟨fun q z => (by cases z), fun _ => w2⟩, fun q z => (by cases z), fun _ => ⟨fun q z => (by cases z), fun _ => v1⟩⟩
theorem MrB.split {r : dr} {u : Nat} (h : MrB tk pl wd nt nw lit lc μ r u sz c) : ∃ μ' A', MdB tk pl wd nt nw lit lc A' u sz c μ' ∧ (∀ fp, μ = some fp → μ' = some fp) ∧ (μ = none → (∀ fp, μ' = some fp → r = some (.inl fp)) ∧ (μ' = none → r = some (.inr (u, A')))) := by
  cases hμ : μ with
  | some fp => exact ⟨some fp, dA0, ⟨fun q z => (by cases z; exact h.1 fp hμ), fun z => (by cases z)⟩, fun q z => z, fun z => (by cases z)⟩
  | none =>
    obtain ⟨q, v1, v2, v3⟩ := h.2 hμ
    cases q with
    | inl fp => exact ⟨some fp, dA0, ⟨fun q z => (by cases z; exact v2 _ _ rfl), fun z => (by cases z)⟩, fun q z => (by cases z), fun _ => ⟨fun q z => (by cases z; exact v1), fun z => (by cases z)⟩⟩
    | inr q =>
      obtain ⟨t1, A1⟩ := q
      obtain ⟨w1, w2⟩ := v3 _ _ rfl
      subst w1
      exact ⟨none, A1, ⟨fun q z => (by cases z), fun _ => w2⟩, fun q z => (by cases z), fun _ => ⟨fun q z => (by cases z), fun _ => v1⟩⟩
theorem muno {μ' : Option (Nat × Nat)} (h : ∀ fp, μ = some fp → μ' = some fp) (z : μ' = none) : μ = none := by
  cases hμ : μ with
  | none => rfl
  | some fp => have := h fp hμ; rw [z] at this; cases this
def dTail (pl : Nat → Nat) (t2 : Nat) (A2 : ds) : dr := match dUnd A2 with
  | some d => dno 33 (pl (A2.1 0 d))
  | none => dok (t2 + 1) (dEnd A2)
theorem dModule_eq : dModule tk pl vl wi wd nt N t A = db (dHead tk pl vl wi wd nt N t A) (fun t1 A1 => db (dItems tk pl vl wi wd nt N N t1 A1) (dTail pl)) := by
  unfold dModule dHead
  by_cases h : nt ≤ t + 3 ∨ tk (t + 1) ≠ 400
  · rw [if_pos h, if_pos h]; rfl
  · rw [if_neg h, if_neg h]
    by_cases h1 : dMod wd A (t + 1) ≠ none
    · rw [if_pos h1, if_pos h1]; rfl
    · rw [if_neg h1, if_neg h1]
      match dPorts tk pl vl wi wd nt N (t + 3) (dBeg A (t + 1)) with
      | none => rfl
      | some (.inl f) => rfl
      | some (.inr (t1, A1)) =>
        rw [db_inr, db_inr]
        unfold d26
        by_cases h2 : nt ≤ t1 + 2
        · rw [if_pos h2, if_pos h2]; rfl
        · rw [if_neg h2, if_neg h2]
          rfl
end CMOD
