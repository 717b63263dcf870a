/-! The class: a module's head. -/
section CHEAD
variable {tk pl vl wi wd : Nat → Nat} {nt nw N N0 N1 lc : Nat} {ex : Nat → Int32} {lit : Nat → Int64} {c c' c0 : ms} {A : ds} {t sz : Nat} {σ σ' : gs} {μ : Option (Nat × Nat)}
/-- between modules -/
def DB (pl wd : Nat → Nat) (nw : Nat) (lit : Nat → Int64) (lc : Nat) (A : ds) (sz : Nat) (c : ms) : Prop :=
  (c.1 321 0 = nI (A.1 40 0) ∧ c.1 328 0 = nI (A.1 41 0) ∧ c.1 332 0 = nI (A.1 42 0) ∧ c.1 317 0 = nI (A.1 45 0) ∧ c.1 309 0 = nI (A.1 46 0) ∧ c.1 232 0 + 1 = nI (A.1 46 0)) ∧ Cnm pl wd A c ∧ Cdr A c sz lit lc ∧ Cit pl A (A.1 41 0) c ∧ Clk A c sz lit lc ∧ Cpc A c sz lit lc ∧
  (∀ m, m < A.1 46 0 → (c.1 311 m = nI (pl (A.1 20 m)) ∧ c.1 312 m = nI (A.1 21 m) ∧ c.1 313 m = nI (A.1 26 m) ∧ c.1 314 m = nI (A.1 22 m) ∧ c.1 315 m = nI (A.1 25 m)) ∧ c.1 600 m = nI (cap28 (A.1 30 m + 1)) ∧ c.1 601 m = nI (cap28 (A.1 29 m)) ∧ c.1 602 m = nI (cap28 (A.1 28 m)) ∧ c.1 603 m = nI (cap28 (A.1 31 m)) ∧ c.1 604 m = nI (cap28 (A.1 27 m))) ∧
  (∀ w, w < nw → (∃ j, j < A.1 46 0 ∧ c.1 236 w = nI j) ∨ c.1 236 w = -1) ∧ Wm wd A (A.1 46 0) nw c
def Xb (c : ms) (T sz : Nat) : Prop := c.1 242 0 = nI 0 ∧ c.1 217 0 = nI 0 ∧ c.1 239 0 = nI T ∧ T < 900 ∧ c.1 337 0 = nI sz ∧ sz < 40000
theorem Xc.xb {T C : Nat} (h : Xc c T sz C) : Xb c T sz := ⟨h.1, h.2.1, h.2.2.1, h.2.2.2.1, h.2.2.2.2.1, h.2.2.2.2.2.1⟩
theorem Xb.go {T : Nat} {α : Type} {k : Int32 × ms → Option (α × ms)} (h : Xb c T sz) : (fn_Checker_isOff_Ch N c).bind k = k (0, c) := by
  unfold fn_Checker_isOff_Ch
  rw [if_pos (show c.1 242 0 = 0 from h.1), if_pos (show c.1 217 0 = 0 from h.2.1)]
  rfl
theorem Xb.no {T w p : Nat} (h : Xb c T sz) (hw : 0 < w ∧ w < 100) : ∃ c', fn_Checker_refuse_Ch N (nI w) (nI p) c = some ((), c') ∧ Off c' w p ∧ Eb [242, 243] [] c c' := by
  unfold fn_Checker_refuse_Ch
  rw [h.1, if_pos (show nI 0 = 0 from rfl)]
  exact ⟨_, rfl, ⟨rfl, hw.1, hw.2, rfl⟩, (Eb.rfl.upI (by decide)).upI (by decide)⟩
def OnB (tk pl wd : Nat → Nat) (nt nw : Nat) (lit : Nat → Int64) (lc : Nat) (A : ds) (t sz : Nat) (c : ms) : Prop :=
  (∃ T, Xb c T sz) ∧ DB pl wd nw lit lc A sz c ∧ c.1 248 0 = nI 1 ∧ c.1 253 0 = nI (A.1 44 0) ∧ (∀ d, A.1 5 d ≤ 20000) ∧ sz ≤ t ∧ c.1 260 0 = nI 0 ∧ WF tk nt A t ∧ (0 < A.1 46 0 → NO nw c)
theorem DB.keep {ks js : List Nat} (h : DB pl wd nw lit lc A sz c) (e : Eb ks js c c') (hk : dcL.all (fun k => !ks.contains k) = true) (hj : 325 ∉ js) (hr : ∀ k, k < sz → c'.2 336 k = c.2 336 k) : DB pl wd nw lit lc A sz c' := by
  have n : ∀ k, k ∈ dcL → k ∉ ks := fun k hk2 z => by
    have := List.all_eq_true.mp hk k hk2
    rw [List.contains_iff_mem.mpr z] at this
    cases this
  obtain ⟨h1, h2, h3, h4, h5, h6, h7, h8, h9⟩ := h
  refine ⟨by rw [e.1 321 (n 321 (by decide)), e.1 328 (n 328 (by decide)), e.1 332 (n 332 (by decide)), e.1 317 (n 317 (by decide)), e.1 309 (n 309 (by decide)), e.1 232 (n 232 (by decide))]; exact h1, h2.keep e ⟨n 322 (by decide), n 323 (by decide), n 324 (by decide), n 237 (by decide)⟩ hj, h3.keep e ⟨n 326 (by decide), n 327 (by decide)⟩ hr (Nat.le_refl _), h4.keep e ⟨n 329 (by decide), n 330 (by decide), n 331 (by decide)⟩, h5.keep e ⟨n 333 (by decide), n 334 (by decide), n 335 (by decide)⟩ hr (Nat.le_refl _), h6.keep e ⟨n 318 (by decide), n 319 (by decide), n 320 (by decide)⟩ hr (Nat.le_refl _), ?_, by rw [e.1 236 (n 236 (by decide))]; exact h8, h9.keep e (n 234 (by decide))⟩
  rw [e.1 311 (n 311 (by decide)), e.1 312 (n 312 (by decide)), e.1 313 (n 313 (by decide)), e.1 314 (n 314 (by decide)), e.1 315 (n 315 (by decide)), e.1 600 (n 600 (by decide)), e.1 601 (n 601 (by decide)), e.1 602 (n 602 (by decide)), e.1 603 (n 603 (by decide)), e.1 604 (n 604 (by decide))]
  exact h7
theorem OnB.keep {ks : List Nat} {t' : Nat} (h : OnB tk pl wd nt nw lit lc A t sz c) (e : Eb ks [] c c') (hk : dcL.all (fun k => !ks.contains k) = true) (hk2 : (242 ∉ ks ∧ 239 ∉ ks ∧ 337 ∉ ks ∧ 241 ∉ ks) ∧ 248 ∉ ks ∧ 253 ∉ ks ∧ 260 ∉ ks) (h2 : c'.1 217 0 = nI 0) (ht : t ≤ t') : OnB tk pl wd nt nw lit lc A t' sz c' := by
  obtain ⟨⟨T, X⟩, h2', h3, h4, h5, h6, h7, h8, h9⟩ := h
  exact ⟨⟨T, by rw [e.1 242 hk2.1.1]; exact X.1, h2, by rw [e.1 239 hk2.1.2.1]; exact X.2.2.1, X.2.2.2.1, by rw [e.1 337 hk2.1.2.2.1]; exact X.2.2.2.2.1, X.2.2.2.2.2⟩, h2'.keep e hk (by decide) (fun k _ => by rw [e.2 336 (by decide)]), by rw [e.1 248 hk2.2.1]; exact h3, by rw [e.1 253 hk2.2.2.1]; exact h4, h5, by omega, by rw [e.1 260 hk2.2.2.2]; exact h7, h8.later ht, fun z => (h9 z).keep e (by
    rw [List.all_eq_true] at hk ⊢
    intro k hk3
    apply hk
    revert hk3
    simp only [List.mem_cons, List.not_mem_nil, or_false]
    rintro (rfl | rfl | rfl | rfl | rfl | rfl) <;> decide)⟩
theorem off_module {x y : Int32} (h : OffC c) : fn_Meaning_module_Me N x y c = some ((), c) := by unfold fn_Meaning_module_Me; rw [off_go h]; rfl
theorem off_portsEnd (h : OffC c) : fn_Meaning_portsEnd_Me N c = some ((), c) := by unfold fn_Meaning_portsEnd_Me; rw [off_go h]; rfl
abbrev KM (c c' : ms) : Prop := Eb [213, 214, 215, 216, 217, 218, 219, 232, 233, 234, 235, 236, 237, 241, 242, 243, 248, 309, 311, 312, 313, 314, 315, 321, 322, 323, 324, 326, 327] [325] c c'
/-- a module's name -/
theorem module_C {x : Nat} (hnt : nt ≤ 12001) (hnw : nw ≤ 19830) (ht : t ≤ nt + 1) (hx : wd x < nw) (h : OnB tk pl wd nt nw lit lc A t sz c) :
    ∃ c', fn_Meaning_module_Me N (nI (wd x)) (nI (pl x)) c = some ((), c') ∧ Eb [232, 233, 234, 241, 242, 243, 309, 311, 312, 313, 314, 315] [] c c' ∧ (dMod wd A x ≠ none → OffN nw c' 20 (pl x)) ∧ (dMod wd A x = none → On tk pl wd nt nw lit lc (dBeg A x) t sz c') := by
  obtain ⟨⟨T, X⟩, ⟨⟨k1, k2, k3, k4, k5, k6⟩, g2, g3, g4, g5, g6, g7, g8, g9⟩, o3, o4, o5, o6, o7, o8, o9⟩ := h
  have cnt := o8.1
  obtain ⟨y, y1, y2⟩ := moduleOf_C (N := N) (x := x) g9 hx hnw
  have iff : (y = -1) ↔ dMod wd A x = none := by
    rcases y2 with ⟨q1, q2⟩ | ⟨m, m1, m2, m3⟩
    · refine ⟨fun _ => ?_, fun _ => q1⟩
      cases e : dMod wd A x with
      | none => rfl
      | some m =>
        have := dMod_in e
        exact absurd this.2 (q2 m this.1)
    · refine ⟨fun z => absurd z (by rw [m2]; exact nI_no1 (by omega)), fun z => ?_⟩
      have := fnd_none z m (Nat.zero_le _) (by omega)
      rw [decide_eq_true m3] at this
      cases this
  unfold fn_Meaning_module_Me
  rw [X.go]
  dsimp only
  rw [if_pos rfl, y1, obind]
  dsimp only
  by_cases z : y = -1
  · rw [if_pos z]
    unfold fn_Checker_moduleBegins_Ch bk_Checker_moduleBegins_Ch_33
    rw [if_neg (nI_pos (by omega)), if_neg (show ¬ (19830 : Int32) ≤ nI (wd x) from nI_ge (b := 19830) (by omega) (by omega)), if_neg (nI_in (show wd x < 19830 by omega) (by decide)), nI_clamp (by omega), k6, obind]
    dsimp only
    generalize hc1 : upI (upI (upI (upI c 232 (fun _ => nI (A.1 46 0))) 234 (upd (c.1 234) (wd x) (nI (A.1 46 0)))) 233 (fun _ => (upI (upI c 232 (fun _ => nI (A.1 46 0))) 234 (upd (c.1 234) (wd x) (nI (A.1 46 0)))).1 321 0)) 241 (fun _ => 0) = c1
    have e1 : Eb [232, 233, 234, 241] [] c c1 := by rw [← hc1]; exact (((Eb.rfl.upI (by decide)).upI (by decide)).upI (by decide)).upI (by decide)
    have r232 : c1.1 232 0 = nI (A.1 46 0) := by rw [← hc1]; rfl
    have r234 : c1.1 234 = upd (c.1 234) (wd x) (nI (A.1 46 0)) := by rw [← hc1]; rfl
    have r233 : c1.1 233 0 = nI (A.1 40 0) := by rw [← hc1]; exact k1
    have r241 : c1.1 241 0 = nI (cap28 0) := by rw [← hc1]; rfl
    have q309 : c1.1 309 0 = nI (A.1 46 0) := by rw [e1.1 309 (by decide)]; exact k5
    have q321 : c1.1 321 0 = nI (A.1 40 0) := by rw [e1.1 321 (by decide)]; exact k1
    have q328 : c1.1 328 0 = nI (A.1 41 0) := by rw [e1.1 328 (by decide)]; exact k2
    have q317 : c1.1 317 0 = nI (A.1 45 0) := by rw [e1.1 317 (by decide)]; exact k4
    unfold fn_Design_addModule_Ds
    have i := nI_in (show A.1 46 0 < 3277 by omega) (show 3277 < 2 ^ 31 by decide)
    rw [q309, if_pos (show nI (A.1 46 0) < 3277 from nI_lt (b := 3277) (by omega) (by decide)), if_neg i, if_neg i, if_neg i, if_neg i, if_neg i, nI_clamp (by omega), q321, q328, q317, nI_1, obind]
    generalize hc2 : upI (upI (upI (upI (upI (upI c1 311 (upd (c1.1 311) (A.1 46 0) (nI (pl x)))) 312 (upd (c1.1 312) (A.1 46 0) (nI (A.1 40 0)))) 313 (upd (c1.1 313) (A.1 46 0) 0)) 314 (upd (c1.1 314) (A.1 46 0) (nI (A.1 41 0)))) 315 (upd (c1.1 315) (A.1 46 0) (nI (A.1 45 0)))) 309 (fun _ => nI (A.1 46 0 + 1)) = c2
    have e2 : Eb [309, 311, 312, 313, 314, 315] [] c1 c2 := by rw [← hc2]; exact (((((Eb.rfl.upI (by decide)).upI (by decide)).upI (by decide)).upI (by decide)).upI (by decide)).upI (by decide)
    have e12 : Eb [232, 233, 234, 241, 309, 311, 312, 313, 314, 315] [] c c2 := (e1.mono (by decide) (by decide)).trans (e2.mono (by decide) (by decide))
    have dn := iff.mp z
    have B : ∀ k, k ∈ [0, 1, 2, 3, 4, 5, 8, 9, 10, 11, 12, 13, 14, 15, 16, 17, 18, 19, 32, 33, 34, 35, 36, 37, 38, 40, 41, 42, 43, 44, 45, 46] → (dBeg A x).1 k = A.1 k := fun k hk => by
      simp only [List.mem_cons, List.not_mem_nil, or_false] at hk
      funext j
      unfold dBeg dFirsts
      rcases hk with rfl | rfl | rfl | rfl | rfl | rfl | rfl | rfl | rfl | rfl | rfl | rfl | rfl | rfl | rfl | rfl | rfl | rfl | rfl | rfl | rfl | rfl | rfl | rfl | rfl | rfl | rfl | rfl | rfl | rfl | rfl | rfl <;> simp only [tu1, tu2, uu1, uu2, uu3, vu1, vu2, vu3, su1, su2, Nat.reduceEqDiff, false_and, true_and, reduceIte, Bool.false_eq_true, if_true, if_false]
    have B2 : (dBeg A x).2 = A.2 := by unfold dBeg dFirsts; simp only [tu1, tu2, uu1, uu2, uu3, vu1, vu2, vu3, su1, su2, Nat.reduceEqDiff, false_and, true_and, reduceIte, Bool.false_eq_true, if_true, if_false]
    have B47 : (dBeg A x).1 47 0 = 0 := by unfold dBeg dFirsts; simp only [tu1, tu2, uu1, uu2, uu3, vu1, vu2, vu3, su1, su2, Nat.reduceEqDiff, false_and, true_and, reduceIte, Bool.false_eq_true, if_true, if_false]
    refine ⟨c2, rfl, e12.mono (by decide) (by decide), fun y => absurd dn y, fun _ => ⟨⟨T, ?_⟩, ?_, by rw [e12.1 248 (by decide)]; exact o3, by rw [e12.1 253 (by decide), B 44 (by decide)]; exact o4, by rw [B 5 (by decide)]; exact o5, o6, by rw [e12.1 260 (by decide)]; exact o7, o8.beg⟩⟩
    · obtain ⟨x1, x2, x3, x4, x5, x6⟩ := X
      exact ⟨by rw [e12.1 242 (by decide)]; exact x1, by rw [e12.1 217 (by decide)]; exact x2, by rw [e12.1 239 (by decide)]; exact x3, x4, by rw [e12.1 337 (by decide)]; exact x5, x6, by rw [e2.1 241 (by decide), r241, B47]⟩
    · rw [B 41 (by decide), B 42 (by decide)]
      have hr : ∀ k, k < sz → c2.2 336 k = c.2 336 k := fun k _ => by rw [e12.2 336 (by decide)]
      have k2' := g2.keep (c' := c2) e12 (by decide) (by decide)
      have k3' := g3.keep (c' := c2) (sz' := sz) e12 (by decide) hr (Nat.le_refl _)
      have k4' := g4.keep (c' := c2) e12 (by decide)
      have k5' := g5.keep (c' := c2) (sz' := sz) e12 (by decide) hr (Nat.le_refl _)
      have k6' := g6.keep (c' := c2) (sz' := sz) e12 (by decide) hr (Nat.le_refl _)
      refine ⟨?_, ?_, ?_, ?_, ?_, ?_, ⟨fun m hm => ?_, fun m hm => ?_⟩, ?_, ?_⟩
      · refine ⟨by rw [e12.1 321 (by decide), B 40 (by decide)]; exact k1, by rw [e12.1 328 (by decide)]; exact k2, by rw [e12.1 332 (by decide)]; exact k3, by rw [e12.1 317 (by decide), B 45 (by decide)]; exact k4, ?_, ?_⟩
        · rw [e2.1 233 (by decide), r233, B 46 (by decide)]
          unfold dBeg dFirsts
          simp only [tu1, tu2, uu1, uu2, uu3, vu1, vu2, vu3, su1, su2, Nat.reduceEqDiff, false_and, true_and, reduceIte, Bool.false_eq_true, if_true, if_false]
        · rw [B 46 (by decide), ← hc2]; rfl
      · unfold Cnm at *
        rw [B 40 (by decide), B 0 (by decide), B 1 (by decide), B 2 (by decide), B 3 (by decide)]
        exact k2'
      · unfold Cdr dDrv dRg at *
        rw [B 40 (by decide), B 2 (by decide), B 4 (by decide), B 5 (by decide), B 35 (by decide), B2]
        exact k3'
      · unfold Cit at *
        rw [B 10 (by decide), B 11 (by decide), B 12 (by decide)]
        exact k4'
      · unfold Clk at *
        rw [B 42 (by decide), B 13 (by decide), B 37 (by decide), B 14 (by decide), B 36 (by decide), B2]
        exact k5'
      · unfold Cpc at *
        rw [B 45 (by decide), B 15 (by decide), B 16 (by decide), B 38 (by decide), B 34 (by decide), B 33 (by decide), B2]
        exact k6'
      · rw [B 46 (by decide)] at hm
        unfold dBeg dFirsts
        simp only [tu1, tu2, uu1, uu2, uu3, vu1, vu2, vu3, su1, su2, Nat.reduceEqDiff, false_and, true_and, reduceIte, Bool.false_eq_true, if_true, if_false]
        rw [← hc2]
        show upd (c1.1 311) (A.1 46 0) (nI (pl x)) m = _ ∧ upd (c1.1 312) (A.1 46 0) (nI (A.1 40 0)) m = _ ∧ upd (c1.1 313) (A.1 46 0) 0 m = _ ∧ upd (c1.1 314) (A.1 46 0) (nI (A.1 41 0)) m = _ ∧ upd (c1.1 315) (A.1 46 0) (nI (A.1 45 0)) m = _
        by_cases y : m = A.1 46 0
        · subst y
          simp only [upd_at, reduceIte]
          exact ⟨trivial, trivial, rfl, trivial, trivial⟩
        · rw [upd_ne y, upd_ne y, upd_ne y, upd_ne y, upd_ne y]
          simp only [y, reduceIte]
          rw [e1.1 311 (by decide), e1.1 312 (by decide), e1.1 313 (by decide), e1.1 314 (by decide), e1.1 315 (by decide)]
          exact (g7 m (by omega)).1
      · rw [B 46 (by decide)] at hm
        rw [e12.1 600 (by decide), e12.1 601 (by decide), e12.1 602 (by decide), e12.1 603 (by decide), e12.1 604 (by decide)]
        unfold dBeg dFirsts
        simp only [tu1, tu2, uu1, uu2, uu3, vu1, vu2, vu3, su1, su2, Nat.reduceEqDiff, false_and, true_and, reduceIte, Bool.false_eq_true, if_true, if_false]
        exact (g7 m hm).2
      · have b21 : (dBeg A x).1 21 (A.1 46 0) = A.1 40 0 := by unfold dBeg dFirsts; simp only [tu1, tu2, uu1, uu2, uu3, vu1, vu2, vu3, su1, su2, Nat.reduceEqDiff, false_and, true_and, reduceIte, Bool.false_eq_true, if_true, if_false]
        have b22 : (dBeg A x).1 22 (A.1 46 0) = A.1 41 0 := by unfold dBeg dFirsts; simp only [tu1, tu2, uu1, uu2, uu3, vu1, vu2, vu3, su1, su2, Nat.reduceEqDiff, false_and, true_and, reduceIte, Bool.false_eq_true, if_true, if_false]
        unfold Wr
        rw [B 46 (by decide), b21, b22, B 40 (by decide)]
        refine ⟨by rw [e2.1 232 (by decide)]; exact r232, fun w hw => ?_, fun d d1 d2 => (by omega), fun i i1 i2 => (by omega), fun w hw q => ?_, fun d d1 d2 => (by omega)⟩
        · rw [e12.1 236 (by decide)]
          rcases g8 w hw with ⟨j, j1, j2⟩ | j1
          · exact Or.inl ⟨j, by omega, j2⟩
          · exact Or.inr j1
        · exfalso
          rw [e12.1 236 (by decide)] at q
          rcases g8 w hw with ⟨j, j1, j2⟩ | j1
          · rw [j2] at q
            have := (nI_eq (by omega) (by omega)).mp q
            omega
          · rw [j1] at q
            exact nI_no1 (by omega) q.symm
      · unfold Wm
        rw [B 46 (by decide), e2.1 234 (by decide), r234]
        have b20 : ∀ m, (dBeg A x).1 20 m = if m = A.1 46 0 then x else A.1 20 m := fun m => by unfold dBeg dFirsts; simp only [tu1, tu2, uu1, uu2, uu3, vu1, vu2, vu3, su1, su2, Nat.reduceEqDiff, false_and, true_and, reduceIte, Bool.false_eq_true, if_true, if_false]
        have no : ∀ m, m < A.1 46 0 → wd (A.1 20 m) ≠ wd x := fun m hm q => by
          have := fnd_none dn m (Nat.zero_le _) (by omega)
          rw [decide_eq_true q] at this
          cases this
        refine ⟨fun m hm => ?_, fun w hw => ?_⟩
        · rw [b20]
          by_cases y : m = A.1 46 0
          · rw [if_pos y, upd_at, y]
          · rw [if_neg y, upd_ne (no m (by omega))]; exact g9.1 m (by omega)
        · by_cases y : w = wd x
          · rw [y, upd_at]
            exact Or.inr ⟨A.1 46 0, by omega, rfl, by rw [b20, if_pos rfl]⟩
          · rw [upd_ne y]
            rcases g9.2 w hw with q | ⟨m, m1, m2, m3⟩
            · exact Or.inl q
            · exact Or.inr ⟨m, by omega, m2, by rw [b20, if_neg (by omega)]; exact m3⟩
  · rw [if_neg z]
    obtain ⟨c1, r1, r2, r3⟩ := X.no (N := N) (w := 20) (p := pl x) (by decide)
    rw [show fn_Checker_refuse_Ch N 20 (nI (pl x)) c = some ((), c1) from r1, obind]
    refine ⟨c1, rfl, r3.mono (by decide) (by decide), fun y => ⟨r2, (o9 ?_).keep r3 (by decide)⟩, fun y => absurd (iff.mpr y) z⟩
    cases e : dMod wd A x with
    | none => exact absurd e y
    | some m => have := (dMod_in e).1; omega
end CHEAD
