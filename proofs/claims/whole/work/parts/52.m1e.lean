/-! The reference's first pass: exps, statements, items, designs. -/
section MONE2
variable {tk pl : Nat → Nat} {nt : Nat}
theorem kind_1 {N : Nat} {s : ms} {σ : gs} (T : Tv tk pl nt) (h : M1 tk pl nt s σ) : fn_M_kind N s = some (nI (tk σ.1), s) := by
  obtain ⟨h1, h2, h3, h4, h4b, h5, h6⟩ := h
  have l1 := T.2.1
  have l3 := (h1 _ h3).1
  unfold fn_M_kind
  simp (disch := omega) only [h2, l3, lit_nI, gdF, gdG, gdH, nltT, nltF, nleT, nleF, neqT, neqF, nm1F, nm1F', m1lt, m1gt, m1le, m1ge, nI_clamp, nI_add, nI_sub, obind, if_true, if_false, reduceIte, ite_true, ite_false]
theorem rank_1 : ∀ {N k : Nat} {s : ms}, k < 405 → fn_M_rank N (nI k) s = some (nI (rk k), s) := by
  intro N k s hk
  have e : ∀ d : Nat, d < 405 → k ≠ d → ¬ nI k = nI d := fun d hd hn q => hn ((nI_eq (by omega) (by omega)).mp q)
  by_cases c38 : k = 38
  · subst c38; rfl
  by_cases c42 : k = 42
  · subst c42; rfl
  by_cases c43 : k = 43
  · subst c43; rfl
  by_cases c45 : k = 45
  · subst c45; rfl
  by_cases c60 : k = 60
  · subst c60; rfl
  by_cases c62 : k = 62
  · subst c62; rfl
  by_cases c94 : k = 94
  · subst c94; rfl
  by_cases c124 : k = 124
  · subst c124; rfl
  by_cases c256 : k = 256
  · subst c256; rfl
  by_cases c257 : k = 257
  · subst c257; rfl
  by_cases c258 : k = 258
  · subst c258; rfl
  by_cases c259 : k = 259
  · subst c259; rfl
  by_cases c260 : k = 260
  · subst c260; rfl
  by_cases c261 : k = 261
  · subst c261; rfl
  by_cases c262 : k = 262
  · subst c262; rfl
  by_cases c263 : k = 263
  · subst c263; rfl
  unfold fn_M_rank rk
  rw [if_neg (show ¬ nI k = (38 : Int32) from e 38 (by decide) c38), if_neg (show ¬ nI k = (42 : Int32) from e 42 (by decide) c42), if_neg (show ¬ nI k = (43 : Int32) from e 43 (by decide) c43), if_neg (show ¬ nI k = (45 : Int32) from e 45 (by decide) c45), if_neg (show ¬ nI k = (60 : Int32) from e 60 (by decide) c60), if_neg (show ¬ nI k = (62 : Int32) from e 62 (by decide) c62), if_neg (show ¬ nI k = (94 : Int32) from e 94 (by decide) c94), if_neg (show ¬ nI k = (124 : Int32) from e 124 (by decide) c124), if_neg (show ¬ nI k = (256 : Int32) from e 256 (by decide) c256), if_neg (show ¬ nI k = (257 : Int32) from e 257 (by decide) c257), if_neg (show ¬ nI k = (258 : Int32) from e 258 (by decide) c258), if_neg (show ¬ nI k = (259 : Int32) from e 259 (by decide) c259), if_neg (show ¬ nI k = (260 : Int32) from e 260 (by decide) c260), if_neg (show ¬ nI k = (261 : Int32) from e 261 (by decide) c261), if_neg (show ¬ nI k = (262 : Int32) from e 262 (by decide) c262), if_neg (show ¬ nI k = (263 : Int32) from e 263 (by decide) c263), if_neg c38, if_neg c42, if_neg c43, if_neg c45, if_neg c60, if_neg c62, if_neg c94, if_neg c124, if_neg c256, if_neg c257, if_neg c258, if_neg c259, if_neg c260, if_neg c261, if_neg c262, if_neg c263]
  rfl
theorem isU_1 : ∀ {N k : Nat} {s : ms}, k < 405 → fn_M_isUnary N (nI k) s = some (b01 (isU k), s) := by
  intro N k s hk
  unfold fn_M_isUnary isU
  have e : ∀ d : Nat, d < 405 → (nI k = nI d) = (k = d) := fun d hd => propext (nI_eq (by omega) (by omega))
  simp (disch := omega) only [lit_nI, e]
  by_cases c1 : k = 126
  · simp [c1, b01]; rfl
  by_cases c2 : k = 33
  · simp [c2, b01]; rfl
  by_cases c3 : k = 45
  · simp [c3, b01]; rfl
  by_cases c4 : k = 38
  · simp [c4, b01]; rfl
  by_cases c5 : k = 124
  · simp [c5, b01]; rfl
  by_cases c6 : k = 94
  · simp [c6, b01]; rfl
  · simp [c1, c2, c3, c4, c5, c6, b01]; rfl
theorem rk_lt (k : Nat) : rk k < 11 := by
  by_cases c38 : k = 38
  · subst c38; decide
  by_cases c42 : k = 42
  · subst c42; decide
  by_cases c43 : k = 43
  · subst c43; decide
  by_cases c45 : k = 45
  · subst c45; decide
  by_cases c60 : k = 60
  · subst c60; decide
  by_cases c62 : k = 62
  · subst c62; decide
  by_cases c94 : k = 94
  · subst c94; decide
  by_cases c124 : k = 124
  · subst c124; decide
  by_cases c256 : k = 256
  · subst c256; decide
  by_cases c257 : k = 257
  · subst c257; decide
  by_cases c258 : k = 258
  · subst c258; decide
  by_cases c259 : k = 259
  · subst c259; decide
  by_cases c260 : k = 260
  · subst c260; decide
  by_cases c261 : k = 261
  · subst c261; decide
  by_cases c262 : k = 262
  · subst c262; decide
  by_cases c263 : k = 263
  · subst c263; decide
  unfold rk
  rw [if_neg c38, if_neg c42, if_neg c43, if_neg c45, if_neg c60, if_neg c62, if_neg c94, if_neg c124, if_neg c256, if_neg c257, if_neg c258, if_neg c259, if_neg c260, if_neg c261, if_neg c262, if_neg c263]
  decide
/-- t + 1 where the token isn't the last -/
theorem inc_2 {s : ms} {σ : gs} (T : Tv tk pl nt) (h : M1 tk pl nt s σ) (h0 : σ.2.2.1 = 0) (h3 : tk σ.1 ≠ 403) (h4 : tk σ.1 ≠ 404) : M1 tk pl nt (upI s 8 (fun _ => s.1 8 0 + 1)) (gInc σ) := inc_1 (k := tk σ.1) T h (by simp [gIs, h0]) h3 h4
theorem w9 {s : ms} {σ : gs} (h : M1 tk pl nt s σ) : s.1 9 0 = 0 ↔ σ.2.2.1 = 0 := by
  obtain ⟨h1, h2, h3, h4, h4b, h5, h6⟩ := h
  rw [h4]; exact nI_eq (b := 0) (by omega) (by omega)
theorem rk_ne {k : Nat} (h : 0 < rk k) : k ≠ 403 ∧ k ≠ 404 := by
  constructor
  · intro z; rw [z] at h; exact absurd h (by decide)
  · intro z; rw [z] at h; exact absurd h (by decide)
theorem isU_ne {k : Nat} (h : isU k = true) : k ≠ 403 ∧ k ≠ 404 := by
  simp only [isU, decide_eq_true_eq] at h; omega
/-- exp, operand, braces: d levels of the reference are d levels of the grammar -/
theorem exp_1 {N : Nat} (T : Tv tk pl nt) : ∀ d, Sm tk pl nt (sg_M_expGrammar N d).1 (gG tk pl N d).1 ∧ Sm tk pl nt (sg_M_expGrammar N d).2.1 (gG tk pl N d).2.1 ∧ Sm tk pl nt (sg_M_expGrammar N d).2.2 (gG tk pl N d).2.2 := by
  intro d
  induction d with
  | zero => exact ⟨fun s σ h => Sgo.no, fun s σ h => Sgo.no, fun s σ h => Sgo.no⟩
  | succ d ih =>
    obtain ⟨iE, iO, iB⟩ := ih
    have hxf : Sm tk pl nt (bk_M_expGrammar_38 N (sg_M_expGrammar N d).1 (sg_M_expGrammar N d).2.1 (sg_M_expGrammar N d).2.2) (gXf tk pl (gG tk pl N d).1) := by
      intro s σ h
      unfold bk_M_expGrammar_38 gXf
      refine Sgo.is T 63 (by decide) h (fun _ => Sgo.ret h Eb.rfl) (fun c => ?_)
      refine Sgo.opn T 63 (by decide) h Eb.rfl (fun s1 h1 e1 => ?_)
      refine Sgo.call iE h1 e1 (fun s2 σ2 h2 e2 => ?_)
      refine Sgo.take T 58 (by decide) h2 e2 (fun s3 h3 e3 => ?_)
      exact Sgo.call iE h3 e3 (fun s4 σ4 h4 e4 => Sgo.dn h4 e4)
    have hxl : ∀ n, Sm tk pl nt (hd_M_expGrammar_4 N (sg_M_expGrammar N d).1 (sg_M_expGrammar N d).2.1 (sg_M_expGrammar N d).2.2 n) (gXl tk pl (gG tk pl N d).1 (gG tk pl N d).2.1 n) := by
      intro n
      induction n with
      | zero => exact fun s σ h => Sgo.no
      | succ n ihn =>
        intro s σ h
        show Sgo tk pl nt s (bd_M_expGrammar_4 N _ _ _ (hd_M_expGrammar_4 N _ _ _ n) s) (if _ then _ else _)
        unfold bd_M_expGrammar_4
        have l2 := T.lt h.2.2.1
        rw [kind_1 T h, obind]
        dsimp only
        rw [rank_1 l2, obind]
        dsimp only
        by_cases c : σ.2.2.1 = 0
        · rw [if_pos ((w9 h).mpr c)]
          by_cases r : 0 < rk (tk σ.1)
          · rw [if_neg (nI_nle r (by have := rk_lt (tk σ.1); omega)), if_pos ⟨c, r⟩]
            exact Sgo.call iO (inc_2 T h c (rk_ne r).1 (rk_ne r).2) (Eb.rfl.upI (by decide)) (fun s2 σ2 h2 e2 => Sgo.tail ihn h2 e2)
          · rw [if_pos (by rw [show rk (tk σ.1) = 0 by omega]; decide), if_neg (fun z => r z.2)]
            exact hxf s σ h
        · rw [if_neg (fun z => c ((w9 h).mp z)), if_neg (fun z => c z.1)]
          exact hxf s σ h
    have hE : Sm tk pl nt (sg_M_expGrammar N (d + 1)).1 (gG tk pl N (d + 1)).1 := by
      intro s σ h
      exact Sgo.call iO h Eb.rfl (fun s2 σ2 h2 e2 => Sgo.tail (hxl N) h2 e2)
    have hpr : Sm tk pl nt (bk_M_operandGrammar_30 N (sg_M_expGrammar N d).1 (sg_M_expGrammar N d).2.1 (sg_M_expGrammar N d).2.2) (gPri tk pl (gG tk pl N d).1 (gG tk pl N d).2.2) := by
      intro s σ h
      unfold bk_M_operandGrammar_30 bk_M_operandGrammar_109 gPri
      refine Sgo.is T 402 (by decide) h (fun _ => ?_) (fun c => Sgo.ret (inc_1 T h c (by decide) (by decide)) (Eb.rfl.upI (by decide)))
      refine Sgo.is T 400 (by decide) h (fun _ => ?_) (fun c => ?_)
      · refine Sgo.is T 40 (by decide) h (fun _ => ?_) (fun c => ?_)
        · refine Sgo.is T 123 (by decide) h (fun _ => ?_) (fun c => ?_)
          · exact Sgo.no1 T h Eb.rfl (fun s1 h1 e1 => Sgo.ret h1 e1)
          · exact Sgo.tail0 iB h Eb.rfl
        · refine Sgo.opn T 40 (by decide) h Eb.rfl (fun s1 h1 e1 => ?_)
          exact Sgo.call iE h1 e1 (fun s2 σ2 h2 e2 => Sgo.shut0 T 41 (by decide) h2 e2)
      · have hi := inc_1 T h c (by decide) (by decide)
        refine Sgo.is T 91 (by decide) hi (fun _ => Sgo.ret hi (Eb.rfl.upI (by decide))) (fun c => ?_)
        refine Sgo.opn T 91 (by decide) hi (Eb.rfl.upI (by decide)) (fun s1 h1 e1 => ?_)
        refine Sgo.is T 401 (by decide) h1 (fun _ => ?_) (fun c => ?_)
        · exact Sgo.call iE h1 e1 (fun s2 σ2 h2 e2 => Sgo.shut0 T 93 (by decide) h2 e2)
        · exact Sgo.call (part_1 T) (r := fun σ => gShut tk pl 93 σ) h1 e1 (fun s2 σ2 h2 e2 => Sgo.shut0 T 93 (by decide) h2 e2)
    have hO : Sm tk pl nt (sg_M_expGrammar N (d + 1)).2.1 (gG tk pl N (d + 1)).2.1 := by
      have hol : ∀ n, Sm tk pl nt (hd_M_operandGrammar_0 N (sg_M_expGrammar N d).1 (sg_M_expGrammar N d).2.1 (sg_M_expGrammar N d).2.2 n) (gOl tk pl (gG tk pl N d).1 (gG tk pl N d).2.2 n) := by
        intro n
        induction n with
        | zero => exact fun s σ h => Sgo.no
        | succ n ihn =>
          intro s σ h
          show Sgo tk pl nt s (bd_M_operandGrammar_0 N _ _ _ (hd_M_operandGrammar_0 N _ _ _ n) s) (if _ then _ else _)
          unfold bd_M_operandGrammar_0
          have l2 := T.lt h.2.2.1
          rw [kind_1 T h, obind]
          dsimp only
          rw [isU_1 l2, obind]
          dsimp only
          by_cases c : σ.2.2.1 = 0
          · rw [if_pos ((w9 h).mpr c)]
            cases r : isU (tk σ.1)
            · rw [if_pos (show b01 false = 0 from rfl), if_neg (fun z => by cases z.2)]
              exact hpr s σ h
            · rw [if_neg (show ¬ b01 true = 0 by decide), if_pos ⟨c, rfl⟩]
              exact Sgo.tail ihn (inc_2 T h c (isU_ne r).1 (isU_ne r).2) (Eb.rfl.upI (by decide))
          · rw [if_neg (fun z => c ((w9 h).mp z)), if_neg (fun z => c z.1)]
            exact hpr s σ h
      exact hol N
    have hB : Sm tk pl nt (sg_M_expGrammar N (d + 1)).2.2 (gG tk pl N (d + 1)).2.2 := by
      have hbl : ∀ n, Sm tk pl nt (hd_M_bracesGrammar_49 N (sg_M_expGrammar N d).1 (sg_M_expGrammar N d).2.1 (sg_M_expGrammar N d).2.2 n) (gBl tk pl (gG tk pl N d).1 n) := by
        intro n
        induction n with
        | zero => exact fun s σ h => Sgo.no
        | succ n ihn =>
          intro s σ h
          show Sgo tk pl nt s (bd_M_bracesGrammar_49 N _ _ _ (hd_M_bracesGrammar_49 N _ _ _ n) s) (if _ then _ else _)
          unfold bd_M_bracesGrammar_49 bk_M_bracesGrammar_75
          refine Sgo.is T 44 (by decide) h (fun _ => Sgo.shut0 T 125 (by decide) h Eb.rfl) (fun c => ?_)
          exact Sgo.call iE (inc_1 T h c (by decide) (by decide)) (Eb.rfl.upI (by decide)) (fun s2 σ2 h2 e2 => Sgo.tail ihn h2 e2)
      intro s σ h
      show Sgo tk pl nt s (fb_M_bracesGrammar N _ _ _ s) (gB1 tk pl N (gG tk pl N d).1 σ)
      unfold fb_M_bracesGrammar gB1 bk_M_bracesGrammar_75
      refine Sgo.opn T 123 (by decide) h Eb.rfl (fun s1 h1 e1 => ?_)
      refine Sgo.is T 401 (by decide) h1 (fun _ => ?_) (fun c => ?_)
      · exact Sgo.call iE h1 e1 (fun s2 σ2 h2 e2 => Sgo.tail (hbl N) h2 e2)
      · refine Sgo.opn T 123 (by decide) (inc_1 T h1 c (by decide) (by decide)) (e1.upI (by decide)) (fun s2 h2 e2 => ?_)
        refine Sgo.call iE h2 e2 (fun s3 σ3 h3 e3 => ?_)
        exact Sgo.shut T 125 (by decide) h3 e3 (fun s4 σ4 h4 e4 => Sgo.shut0 T 125 (by decide) h4 e4)
    exact ⟨hE, hO, hB⟩
theorem expG_1 {N : Nat} (T : Tv tk pl nt) : Sm tk pl nt (fn_M_expGrammar N) (gE tk pl N) := (exp_1 T 400).1
theorem stm_1 {N : Nat} (T : Tv tk pl nt) : ∀ d, Sm tk pl nt (sg_M_statementGrammar N d).1 (gT tk pl N d).1 ∧ Sm tk pl nt (sg_M_statementGrammar N d).2 (gT tk pl N d).2 := by
  intro d
  induction d with
  | zero => exact ⟨fun s σ h => Sgo.no, fun s σ h => Sgo.no⟩
  | succ d ih =>
    obtain ⟨iS, iC⟩ := ih
    have iE := expG_1 (N := N) T
    constructor
    · have hsl : ∀ n, Sm tk pl nt (hd_M_statementGrammar_17 N (sg_M_statementGrammar N d).1 (sg_M_statementGrammar N d).2 n) (gSl tk pl (gT tk pl N d).1 n) := by
        intro n
        induction n with
        | zero => exact fun s σ h => Sgo.no
        | succ n ihn =>
          intro s σ h
          show Sgo tk pl nt s (bd_M_statementGrammar_17 N _ _ (hd_M_statementGrammar_17 N _ _ n) s) (if _ then _ else _)
          unfold bd_M_statementGrammar_17 bk_M_statementGrammar_41
          have l2 := T.lt h.2.2.1
          rw [kind_1 T h, obind]
          dsimp only
          by_cases c : σ.2.2.1 = 0
          · rw [if_pos ((w9 h).mpr c)]
            by_cases r : tk σ.1 = 311
            · rw [if_pos (show nI (tk σ.1) = 311 by rw [r]; rfl), if_neg (fun z => z.2 r)]
              exact Sgo.shut0 T 311 (by decide) h Eb.rfl
            · rw [if_neg (show ¬ nI (tk σ.1) = 311 from fun z => r ((nI_eq (b := 311) (by omega) (by omega)).mp z)), if_pos ⟨c, r⟩]
              exact Sgo.call iS h Eb.rfl (fun s2 σ2 h2 e2 => Sgo.tail ihn h2 e2)
          · rw [if_neg (fun z => c ((w9 h).mp z)), if_neg (fun z => c z.1)]
            exact Sgo.shut0 T 311 (by decide) h Eb.rfl
      have hset : Sm tk pl nt (bk_M_statementGrammar_174 N (sg_M_statementGrammar N d).1 (sg_M_statementGrammar N d).2) (gSet tk pl N) := by
        intro s σ h
        unfold bk_M_statementGrammar_174 gSet
        refine Sgo.take T 260 (by decide) h Eb.rfl (fun s1 h1 e1 => ?_)
        refine Sgo.call iE h1 e1 (fun s2 σ2 h2 e2 => ?_)
        exact Sgo.take T 59 (by decide) h2 e2 (fun s3 h3 e3 => Sgo.ret h3 e3)
      intro s σ h
      show Sgo tk pl nt s (fb_M_statementGrammar N _ _ s) (gS1 tk pl N (gT tk pl N d).1 (gT tk pl N d).2 σ)
      unfold fb_M_statementGrammar gS1 bk_M_statementGrammar_112
      refine Sgo.is T 310 (by decide) h (fun _ => ?_) (fun c => ?_)
      · refine Sgo.is T 312 (by decide) h (fun _ => ?_) (fun c => ?_)
        · refine Sgo.is T 314 (by decide) h (fun _ => ?_) (fun c => Sgo.tail0 iC h Eb.rfl)
          refine Sgo.take T 400 (by decide) h Eb.rfl (fun s1 h1 e1 => ?_)
          refine Sgo.is T 91 (by decide) h1 (fun _ => Sgo.tail hset h1 e1) (fun c => ?_)
          refine Sgo.opn T 91 (by decide) h1 e1 (fun s2 h2 e2 => ?_)
          refine Sgo.call (part_1 T) (r := fun σ => (gShut tk pl 93 σ).bind (gSet tk pl N)) h2 e2 (fun s3 σ3 h3 e3 => ?_)
          exact Sgo.shut T 93 (by decide) h3 e3 (fun s4 σ4 h4 e4 => Sgo.tail hset h4 e4)
        · refine Sgo.opn T 312 (by decide) h Eb.rfl (fun s1 h1 e1 => ?_)
          refine Sgo.opn T 40 (by decide) h1 e1 (fun s2 h2 e2 => ?_)
          refine Sgo.call iE h2 e2 (fun s3 σ3 h3 e3 => ?_)
          refine Sgo.shut T 41 (by decide) h3 e3 (fun s4 σ4 h4 e4 => ?_)
          refine Sgo.call iS h4 e4 (fun s5 σ5 h5 e5 => ?_)
          refine Sgo.is T 313 (by decide) h5 (fun _ => Sgo.dn h5 e5) (fun c => ?_)
          exact Sgo.call iS (inc_1 T h5 c (by decide) (by decide)) (e5.upI (by decide)) (fun s6 σ6 h6 e6 => Sgo.dn h6 e6)
      · exact Sgo.opn T 310 (by decide) h Eb.rfl (fun s1 h1 e1 => Sgo.tail (hsl N) h1 e1)
    · have hll : ∀ (k : ms → Option (Unit × ms)) (g : gs → Option gs), Sm tk pl nt k g → ∀ n, Sm tk pl nt (hd_M_caseGrammar_43 N (sg_M_statementGrammar N d).1 (sg_M_statementGrammar N d).2 k n) (gLl tk pl (gT tk pl N d).1 g n) := by
        intro k g hk n
        induction n with
        | zero => exact fun s σ h => Sgo.no
        | succ n ihn =>
          intro s σ h
          show Sgo tk pl nt s (bd_M_caseGrammar_43 N _ _ k (hd_M_caseGrammar_43 N _ _ k n) s) (if _ then _ else _)
          unfold bd_M_caseGrammar_43
          refine Sgo.is T 44 (by decide) h (fun _ => ?_) (fun c => ?_)
          · refine Sgo.take T 58 (by decide) h Eb.rfl (fun s1 h1 e1 => ?_)
            exact Sgo.call iS h1 e1 (fun s2 σ2 h2 e2 => Sgo.tail hk h2 e2)
          · exact Sgo.take T 402 (by decide) (inc_1 T h c (by decide) (by decide)) (Eb.rfl.upI (by decide)) (fun s1 h1 e1 => Sgo.tail ihn h1 e1)
      have hcl : ∀ n, Sm tk pl nt (hd_M_caseGrammar_23 N (sg_M_statementGrammar N d).1 (sg_M_statementGrammar N d).2 n) (gCl tk pl N (gT tk pl N d).1 n) := by
        intro n
        induction n with
        | zero => exact fun s σ h => Sgo.no
        | succ n ihn =>
          intro s σ h
          show Sgo tk pl nt s (bd_M_caseGrammar_23 N _ _ (hd_M_caseGrammar_23 N _ _ n) s) (if _ then _ else _)
          unfold bd_M_caseGrammar_23 bk_M_caseGrammar_115
          refine Sgo.is T 402 (by decide) h (fun _ => ?_) (fun c => ?_)
          · refine Sgo.is T 316 (by decide) h (fun _ => Sgo.shut0 T 315 (by decide) h Eb.rfl) (fun c => ?_)
            refine Sgo.take T 58 (by decide) (inc_1 T h c (by decide) (by decide)) (Eb.rfl.upI (by decide)) (fun s1 h1 e1 => ?_)
            exact Sgo.call iS h1 e1 (fun s2 σ2 h2 e2 => Sgo.shut0 T 315 (by decide) h2 e2)
          · exact Sgo.tail (hll _ _ ihn N) (inc_1 T h c (by decide) (by decide)) (Eb.rfl.upI (by decide))
      intro s σ h
      show Sgo tk pl nt s (fb_M_caseGrammar N _ _ s) (gC1 tk pl N (gT tk pl N d).1 σ)
      unfold fb_M_caseGrammar gC1
      refine Sgo.opn T 314 (by decide) h Eb.rfl (fun s1 h1 e1 => ?_)
      refine Sgo.opn T 40 (by decide) h1 e1 (fun s2 h2 e2 => ?_)
      refine Sgo.call iE h2 e2 (fun s3 σ3 h3 e3 => ?_)
      exact Sgo.shut T 41 (by decide) h3 e3 (fun s4 σ4 h4 e4 => Sgo.tail (hcl N) h4 e4)
theorem stmG_1 {N : Nat} (T : Tv tk pl nt) : Sm tk pl nt (fn_M_statementGrammar N) (gS tk pl N) := (stm_1 T 400).1
theorem range_1 {N : Nat} (T : Tv tk pl nt) : Sm tk pl nt (fn_M_rangeGrammar N) (gRange tk pl) := by
  intro s σ h
  unfold fn_M_rangeGrammar gRange
  refine Sgo.is T 91 (by decide) h (fun _ => Sgo.ret h Eb.rfl) (fun c => ?_)
  refine Sgo.opn T 91 (by decide) h Eb.rfl (fun s1 h1 e1 => ?_)
  refine Sgo.take T 401 (by decide) h1 e1 (fun s2 h2 e2 => ?_)
  refine Sgo.take T 58 (by decide) h2 e2 (fun s3 h3 e3 => ?_)
  refine Sgo.take T 401 (by decide) h3 e3 (fun s4 h4 e4 => ?_)
  exact Sgo.shut0 T 93 (by decide) h4 e4
theorem begin_1 {N : Nat} (T : Tv tk pl nt) : Sm tk pl nt (fn_M_beginGrammar N) (fun σ => some (gBegin tk pl σ)) := by
  intro s σ h
  unfold fn_M_beginGrammar gBegin
  refine Sgo.isR T 61 (by decide) h (fun c => ?_) (fun c => ?_)
  · simp only [c]; exact Sgo.ret h Eb.rfl
  · simp only [c]; exact Sgo.take T 402 (by decide) (inc_1 T h c (by decide) (by decide)) (Eb.rfl.upI (by decide)) (fun s2 h2 e2 => Sgo.ret h2 e2)
theorem port_1 {N : Nat} (T : Tv tk pl nt) : Sm tk pl nt (fn_M_portGrammar N) (gPort tk pl) := by
  intro s σ h
  unfold fn_M_portGrammar gPort
  refine Sgo.is T 302 (by decide) h (fun _ => ?_) (fun c => ?_)
  · refine Sgo.take T 303 (by decide) h Eb.rfl (fun s1 h1 e1 => ?_)
    refine Sgo.is T 305 (by decide) h1 (fun _ => ?_) (fun c => ?_)
    · refine Sgo.call (range_1 T) h1 e1 (fun s2 σ2 h2 e2 => ?_)
      exact Sgo.take T 400 (by decide) h2 e2 (fun s3 h3 e3 => Sgo.ret h3 e3)
    · refine Sgo.call (range_1 T) (inc_1 T h1 c (by decide) (by decide)) (e1.upI (by decide)) (fun s2 σ2 h2 e2 => ?_)
      exact Sgo.take T 400 (by decide) h2 e2 (fun s3 h3 e3 => Sgo.tail0 (G := fun σ => some (gBegin tk pl σ)) (σ := gTake tk pl 400 σ2) (begin_1 T) h3 e3)
  · refine Sgo.call (range_1 T) (inc_1 T h c (by decide) (by decide)) (Eb.rfl.upI (by decide)) (fun s2 σ2 h2 e2 => ?_)
    exact Sgo.take T 400 (by decide) h2 e2 (fun s3 h3 e3 => Sgo.ret h3 e3)
theorem link_1 {N : Nat} (T : Tv tk pl nt) : Sm tk pl nt (fn_M_linkGrammar N) (gLink tk pl N) := by
  intro s σ h
  unfold fn_M_linkGrammar gLink
  refine Sgo.take T 46 (by decide) h Eb.rfl (fun s1 h1 e1 => ?_)
  refine Sgo.take T 400 (by decide) h1 e1 (fun s2 h2 e2 => ?_)
  refine Sgo.opn T 40 (by decide) h2 e2 (fun s3 h3 e3 => ?_)
  exact Sgo.call (expG_1 T) h3 e3 (fun s4 σ4 h4 e4 => Sgo.shut0 T 41 (by decide) h4 e4)
theorem item_1 {N : Nat} (T : Tv tk pl nt) : Sm tk pl nt (fn_M_itemGrammar N) (gItem tk pl N) := by
  intro s σ h
  have hil : ∀ n, Sm tk pl nt (hd_M_itemGrammar_249 N n) (gIl tk pl N n) := by
    intro n
    induction n with
    | zero => exact fun s σ h => Sgo.no
    | succ n ihn =>
      intro s σ h
      show Sgo tk pl nt s (bd_M_itemGrammar_249 N (hd_M_itemGrammar_249 N n) s) (if _ then _ else _)
      unfold bd_M_itemGrammar_249 bk_M_itemGrammar_275
      refine Sgo.is T 44 (by decide) h (fun _ => ?_) (fun c => ?_)
      · exact Sgo.shut T 41 (by decide) h Eb.rfl (fun s1 σ1 h1 e1 => Sgo.take T 59 (by decide) h1 e1 (fun s2 h2 e2 => Sgo.ret h2 e2))
      · exact Sgo.call (link_1 T) (inc_1 T h c (by decide) (by decide)) (Eb.rfl.upI (by decide)) (fun s2 σ2 h2 e2 => Sgo.tail ihn h2 e2)
  unfold fn_M_itemGrammar gItem bk_M_itemGrammar_20 bk_M_itemGrammar_57
  refine Sgo.is T 304 (by decide) h (fun c0 => ?_) (fun c => ?_)
  · refine Sgo.is T 305 (by decide) h (fun _ => ?_) (fun c => ?_)
    · refine Sgo.is T 306 (by decide) h (fun _ => ?_) (fun c => ?_)
      · refine Sgo.is T 307 (by decide) h (fun _ => ?_) (fun c => ?_)
        · refine Sgo.is T 317 (by decide) h (fun _ => ?_) (fun c => ?_)
          · refine Sgo.take T 400 (by decide) h Eb.rfl (fun s1 h1 e1 => ?_)
            refine Sgo.take T 400 (by decide) h1 e1 (fun s2 h2 e2 => ?_)
            refine Sgo.opn T 40 (by decide) h2 e2 (fun s3 h3 e3 => ?_)
            refine Sgo.is T 46 (by decide) h3 (fun _ => ?_) (fun c => ?_)
            · unfold bk_M_itemGrammar_275
              exact Sgo.shut T 41 (by decide) h3 e3 (fun s4 σ4 h4 e4 => Sgo.take T 59 (by decide) h4 e4 (fun s5 h5 e5 => Sgo.ret h5 e5))
            · exact Sgo.call (link_1 T) h3 e3 (fun s4 σ4 h4 e4 => Sgo.tail (hil N) h4 e4)
          · refine Sgo.opn T 40 (by decide) (inc_1 T h c (by decide) (by decide)) (Eb.rfl.upI (by decide)) (fun s1 h1 e1 => ?_)
            refine Sgo.call (expG_1 T) h1 e1 (fun s2 σ2 h2 e2 => ?_)
            exact Sgo.shut T 41 (by decide) h2 e2 (fun s4 σ4 h4 e4 => Sgo.take T 59 (by decide) h4 e4 (fun s5 h5 e5 => Sgo.ret h5 e5))
        · refine Sgo.take T 64 (by decide) (inc_1 T h c (by decide) (by decide)) (Eb.rfl.upI (by decide)) (fun s1 h1 e1 => ?_)
          refine Sgo.opn T 40 (by decide) h1 e1 (fun s2 h2 e2 => ?_)
          refine Sgo.take T 308 (by decide) h2 e2 (fun s3 h3 e3 => ?_)
          refine Sgo.take T 309 (by decide) h3 e3 (fun s4 h4 e4 => ?_)
          exact Sgo.shut T 41 (by decide) h4 e4 (fun s5 σ5 h5 e5 => Sgo.tail0 (stmG_1 T) h5 e5)
      · refine Sgo.take T 400 (by decide) (inc_1 T h c (by decide) (by decide)) (Eb.rfl.upI (by decide)) (fun s1 h1 e1 => ?_)
        refine Sgo.take T 61 (by decide) h1 e1 (fun s2 h2 e2 => ?_)
        refine Sgo.call (expG_1 T) h2 e2 (fun s3 σ3 h3 e3 => ?_)
        exact Sgo.take T 59 (by decide) h3 e3 (fun s5 h5 e5 => Sgo.ret h5 e5)
    · dsimp only
      rw [show fn_M_is N 305 s = _ from is_1 T 305 (by decide) h, c, obind]
      refine Sgo.call (range_1 T) (inc_1 T h c (by decide) (by decide)) (Eb.rfl.upI (by decide)) (fun s2 σ2 h2 e2 => ?_)
      refine Sgo.take T 400 (by decide) h2 e2 (fun s3 h3 e3 => ?_)
      dsimp only
      rw [if_neg (show ¬ b01 true = 0 by decide)]
      exact Sgo.call (begin_1 T) (r := fun σ => some (gTake tk pl 59 σ)) h3 e3 (fun s4 σ4 h4 e4 => Sgo.take T 59 (by decide) h4 e4 (fun s5 h5 e5 => Sgo.ret h5 e5))
  · have c3 : gIs tk 305 σ = false := by
      simp only [gIs, decide_eq_true_eq] at c
      simp [gIs, c.1, c.2]
    dsimp only
    rw [show fn_M_is N 305 s = _ from is_1 T 305 (by decide) h, c3, obind]
    refine Sgo.call (range_1 T) (inc_1 T h c (by decide) (by decide)) (Eb.rfl.upI (by decide)) (fun s2 σ2 h2 e2 => ?_)
    refine Sgo.take T 400 (by decide) h2 e2 (fun s3 h3 e3 => ?_)
    dsimp only
    rw [if_pos (show b01 false = 0 from rfl)]
    exact Sgo.take T 59 (by decide) h3 e3 (fun s5 h5 e5 => Sgo.ret h5 e5)
theorem design_1 {N : Nat} (T : Tv tk pl nt) : ∀ n, Sm tk pl nt (hd_M_designGrammar_12 N (n + 1) 1) (gDl tk pl N n) := by
  intro n
  induction n with
  | zero => exact fun s σ h => Sgo.no
  | succ n ih =>
    have hk : Sm tk pl nt (fun s => if (s.1 9 0) = 0 then ((fn_M_kind N s).bind (fun q_3 => if q_3.1 = 403 then (hd_M_designGrammar_12 N (n + 1) 0 q_3.2) else (hd_M_designGrammar_12 N (n + 1) 1 q_3.2))) else (hd_M_designGrammar_12 N (n + 1) 0 s)) (fun σ => if σ.2.2.1 = 0 ∧ tk σ.1 ≠ 403 then gDl tk pl N n σ else some σ) := by
      intro s σ h
      have l2 := T.lt h.2.2.1
      dsimp only
      rw [kind_1 T h, obind]
      dsimp only
      have ret : Sgo tk pl nt s (hd_M_designGrammar_12 N (n + 1) 0 s) (some σ) := Sgo.ret h Eb.rfl
      by_cases c : σ.2.2.1 = 0
      · rw [if_pos ((w9 h).mpr c)]
        by_cases r : tk σ.1 = 403
        · rw [if_pos (show nI (tk σ.1) = 403 by rw [r]; rfl), if_neg (fun z => z.2 r)]
          exact ret
        · rw [if_neg (show ¬ nI (tk σ.1) = 403 from fun z => r ((nI_eq (b := 403) (by omega) (by omega)).mp z)), if_pos ⟨c, r⟩]
          exact ih s σ h
      · rw [if_neg (fun z => c ((w9 h).mp z)), if_neg (fun z => c z.1)]
        exact ret
    have hml : ∀ m, Sm tk pl nt (hd_M_designGrammar_105 N (hd_M_designGrammar_12 N (n + 1)) m) (gMl tk pl N (fun σ => if σ.2.2.1 = 0 ∧ tk σ.1 ≠ 403 then gDl tk pl N n σ else some σ) m) := by
      intro m
      induction m with
      | zero => exact fun s σ h => Sgo.no
      | succ m ihm =>
        intro s σ h
        show Sgo tk pl nt s (bd_M_designGrammar_105 N _ (hd_M_designGrammar_105 N _ m) s) (if _ then _ else _)
        unfold bd_M_designGrammar_105 bk_M_designGrammar_129
        have l2 := T.lt h.2.2.1
        rw [kind_1 T h, obind]
        dsimp only
        by_cases c : σ.2.2.1 = 0
        · rw [if_pos ((w9 h).mpr c)]
          by_cases r : tk σ.1 = 301
          · rw [if_pos (show nI (tk σ.1) = 301 by rw [r]; rfl), if_neg (fun z => z.2 r)]
            exact Sgo.take T 301 (by decide) h Eb.rfl (fun s1 h1 e1 => Sgo.tail hk h1 e1)
          · rw [if_neg (show ¬ nI (tk σ.1) = 301 from fun z => r ((nI_eq (b := 301) (by omega) (by omega)).mp z)), if_pos ⟨c, r⟩]
            exact Sgo.call (item_1 T) h Eb.rfl (fun s2 σ2 h2 e2 => Sgo.tail ihm h2 e2)
        · rw [if_neg (fun z => c ((w9 h).mp z)), if_neg (fun z => c z.1)]
          exact Sgo.take T 301 (by decide) h Eb.rfl (fun s1 h1 e1 => Sgo.tail hk h1 e1)
    have h93 : Sm tk pl nt (bk_M_designGrammar_93 N (hd_M_designGrammar_12 N (n + 1))) (fun σ => (gShut tk pl 41 σ).bind (fun σ => gMl tk pl N (fun σ => if σ.2.2.1 = 0 ∧ tk σ.1 ≠ 403 then gDl tk pl N n σ else some σ) N (gTake tk pl 59 σ))) := by
      intro s σ h
      unfold bk_M_designGrammar_93
      exact Sgo.shut T 41 (by decide) h Eb.rfl (fun s1 σ1 h1 e1 => Sgo.take T 59 (by decide) h1 e1 (fun s2 h2 e2 => Sgo.tail (hml N) h2 e2))
    have hpl : ∀ m, Sm tk pl nt (hd_M_designGrammar_67 N (hd_M_designGrammar_12 N (n + 1)) m) (gPl tk pl N (fun σ => if σ.2.2.1 = 0 ∧ tk σ.1 ≠ 403 then gDl tk pl N n σ else some σ) m) := by
      intro m
      induction m with
      | zero => exact fun s σ h => Sgo.no
      | succ m ihm =>
        intro s σ h
        show Sgo tk pl nt s (bd_M_designGrammar_67 N _ (hd_M_designGrammar_67 N _ m) s) (if _ then _ else _)
        unfold bd_M_designGrammar_67
        refine Sgo.is T 44 (by decide) h (fun _ => Sgo.tail h93 h Eb.rfl) (fun c => ?_)
        exact Sgo.call (port_1 T) (inc_1 T h c (by decide) (by decide)) (Eb.rfl.upI (by decide)) (fun s2 σ2 h2 e2 => Sgo.tail ihm h2 e2)
    intro s σ h
    show Sgo tk pl nt s (bd_M_designGrammar_12 N (hd_M_designGrammar_12 N (n + 1)) 1 s) (if _ then _ else _)
    unfold bd_M_designGrammar_12 bk_M_designGrammar_63
    rw [if_neg (show ¬ (1 : Int32) = 0 by decide)]
    by_cases c : σ.2.2.1 = 0
    · rw [if_pos ((w9 h).mpr c), if_pos c]
      refine Sgo.take T 300 (by decide) h Eb.rfl (fun s1 h1 e1 => ?_)
      refine Sgo.take T 400 (by decide) h1 e1 (fun s2 h2 e2 => ?_)
      refine Sgo.opn T 40 (by decide) h2 e2 (fun s3 h3 e3 => ?_)
      refine Sgo.isR T 302 (by decide) h3 (fun c1 => ?_) (fun c1 => ?_)
      · refine Sgo.isR T 303 (by decide) h3 (fun c2 => ?_) (fun c2 => ?_)
        · rw [if_neg (by rw [c1, c2]; decide)]
          exact Sgo.tail h93 h3 e3
        · rw [if_pos (Or.inr c2)]
          exact Sgo.call (port_1 T) h3 e3 (fun s4 σ4 h4 e4 => Sgo.tail (hpl N) h4 e4)
      · rw [if_pos (Or.inl c1)]
        exact Sgo.call (port_1 T) h3 e3 (fun s4 σ4 h4 e4 => Sgo.tail (hpl N) h4 e4)
    · rw [if_neg (fun z => c ((w9 h).mp z)), if_neg c]
      exact Sgo.ret h Eb.rfl
end MONE2
