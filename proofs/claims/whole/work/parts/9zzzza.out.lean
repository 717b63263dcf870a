/-! What reading a text comes to. -/
abbrev TK (ch : Nat → Nat) (n : Nat) : Nat → Nat := tkL (tks ch n (n + 1) 0)
abbrev PL (ch : Nat → Nat) (n : Nat) : Nat → Nat := plL (tks ch n (n + 1) 0)
abbrev VL (ch : Nat → Nat) (n : Nat) : Nat → Nat := vlL ch n (tks ch n (n + 1) 0)
abbrev WI (ch : Nat → Nat) (n : Nat) : Nat → Nat := wiL ch n (tks ch n (n + 1) 0)
abbrev NT (ch : Nat → Nat) (n : Nat) : Nat := (tks ch n (n + 1) 0).length
def topL (A : ds) : Nat → ly := sub A (A.1 46 0) (A.1 46 0 - 1)
def topN (A : ds) : Nat := A.1 30 (A.1 46 0 - 1) + 1
def topS (A : ds) : Nat := A.1 29 (A.1 46 0 - 1)
/-- words, numbered -/
def HW (ch : Nat → Nat) (n : Nat) (wd : Nat → Nat) : Prop := ∀ a b, a < NT ch n → b < NT ch n → TK ch n a = 400 → TK ch n b = 400 → (wd a = wd b ↔ weq ch n (PL ch n a) (PL ch n b))
/-- the least signal that needs itself -/
def LCy (A : ds) (lp : Nat) : Prop := lp < topS A ∧ Cy (dl A (topL A) (topN A)) lp ∧ ∀ v, v < topS A → Cy (dl A (topL A) (topN A)) v → lp ≤ v
/-- a text with a fault -/
def OutF (ch : Nat → Nat) (n : Nat) (wd : Nat → Nat) (N0 f p : Nat) : Prop := ∃ σ, gDl (TK ch n) (PL ch n) (N0 + 1) N0 (0, 0, 0, 0) = some σ ∧ ((σ.2.2.1 ≠ 0 ∧ f = σ.2.2.1 ∧ p = σ.2.2.2) ∨ (σ.2.2.1 = 0 ∧ (dDesign (TK ch n) (PL ch n) (VL ch n) (WI ch n) wd (NT ch n) N0 N0 0 dA0 = some (.inl (f, p)) ∨ ∃ t A, dDesign (TK ch n) (PL ch n) (VL ch n) (WI ch n) wd (NT ch n) N0 N0 0 dA0 = some (.inr (t, A)) ∧ ((lim A ≠ 0 ∧ f = lim A ∧ p = PL ch n (A.1 20 (A.1 46 0 - 1))) ∨ (lim A = 0 ∧ ∃ lp, LCy A lp ∧ f = 45 ∧ p = PL ch n (A.1 0 (snm A (topL A) (topN A) lp)))))))
/-- a text that stands -/
def OutG (ch : Nat → Nat) (n : Nat) (wd : Nat → Nat) (N0 t : Nat) (A : ds) : Prop := ∃ σ, gDl (TK ch n) (PL ch n) (N0 + 1) N0 (0, 0, 0, 0) = some σ ∧ σ.2.2.1 = 0 ∧ dDesign (TK ch n) (PL ch n) (VL ch n) (WI ch n) wd (NT ch n) N0 N0 0 dA0 = some (.inr (t, A)) ∧ lim A = 0 ∧ ∀ v, v < topS A → ¬ Cy (dl A (topL A) (topN A)) v
section OUT
variable {ch : Nat → Nat} {n N N0 : Nat} {wd : Nat → Nat} {tk pl vl wi : Nat → Nat} {nt : Nat} {A : ds} {t : Nat} {s s' : ms} {L : Nat → ly} {ns : Nat}
theorem g0 {k m : Nat} {σ : gs} (h : gDl tk pl (k + 1) m (0, 0, 0, 0) = some σ) (hσ : σ.2.2.1 = 0) : tk 0 ≠ 403 := by
  intro z
  cases m with
  | zero => cases h
  | succ m =>
    unfold gDl at h
    have t1 : gTake tk pl 300 (0, 0, 0, 0) = (0, 0, 2, pl 0) := by
      unfold gTake gNo gIs
      simp [z]
    have d : ((0, 0, 2, pl 0) : gs).2.2.1 ≠ 0 := by show (2 : Nat) ≠ 0; decide
    rw [if_pos rfl, t1] at h
    generalize ((0, 0, 2, pl 0) : gs) = τ at *
    rw [gTake_dead d, gOpen_dead d, gIs_dead d, gIs_dead d, if_neg (by decide), gShut_dead d, obind] at h
    try dsimp only at h
    rw [gTake_dead d] at h
    unfold gMl at h
    rw [if_neg (fun y => d y.1), gTake_dead d] at h
    try dsimp only at h
    rw [if_neg (fun y => d y.1)] at h
    cases h
    exact d hσ
theorem dModule_pos {t1 : Nat} {A1 : ds} (h : dModule tk pl vl wi wd nt N0 t A = some (.inr (t1, A1))) : 0 < A1.1 46 0 := by
  unfold dModule at h
  split at h
  · cases h
  split at h
  · cases h
  match e1 : dPorts tk pl vl wi wd nt N0 (t + 3) (dBeg A (t + 1)) with
  | none => rw [e1] at h; cases h
  | some (.inl fp) => rw [e1] at h; cases h
  | some (.inr (u, B)) =>
    rw [e1, db_inr] at h
    split at h
    · cases h
    match e2 : dItems tk pl vl wi wd nt N0 N0 (u + 2) (tu B 26 (B.1 46 0) (B.1 40 0 - B.1 21 (B.1 46 0))) with
    | none => rw [e2] at h; cases h
    | some (.inl fp) => rw [e2] at h; cases h
    | some (.inr (u2, B2)) =>
      rw [e2, db_inr] at h
      split at h
      · cases h
      · cases h
        have : (dEnd B2).1 46 0 = B2.1 46 0 + 1 := by unfold dEnd dFirsts; simp only [tu1, tu2, uu1, uu2, uu3, vu1, vu2, vu3, su1, su2, Nat.reduceEqDiff, false_and, true_and, reduceIte, Bool.false_eq_true, if_true, if_false]
        omega
theorem dDesign_pos : ∀ (m t : Nat) (A : ds), 0 < A.1 46 0 ∨ tk t ≠ 403 → ∀ t' A', dDesign tk pl vl wi wd nt N0 m t A = some (.inr (t', A')) → 0 < A'.1 46 0 ∧ t' < nt
  | 0, _, _, _, _, _, h => by cases h
  | m + 1, t, A, hA, t', A', h => by
    unfold dDesign at h
    split at h
    · cases h
    rename_i c0
    split at h
    · rename_i c1
      cases h
      exact ⟨hA.resolve_right (fun z => z c1), by omega⟩
    match e1 : dModule tk pl vl wi wd nt N0 t A with
    | none => rw [e1] at h; cases h
    | some (.inl fp) => rw [e1] at h; cases h
    | some (.inr (u, B)) =>
      rw [e1, db_inr] at h
      exact dDesign_pos m u B (Or.inl (dModule_pos e1)) t' A' h
theorem WF0 : WF tk nt dA0 0 := ⟨⟨by decide, by decide, by decide, by decide, by decide, by decide, by decide⟩, fun d hd => (by cases hd), fun m hm => ⟨Nat.le_refl _, Nat.le_refl _⟩, fun m hm => (by cases hm), fun i hi => (by cases hi), fun i hi => Nat.le_refl _, fun k hk => (by cases hk)⟩
/-- what a design is, once told -/
theorem des_ok {k m : Nat} {σ : gs} (hT : Tv tk pl nt) (hV : Vb tk vl wi) (hg : gDl tk pl (k + 1) m (0, 0, 0, 0) = some σ) (hσ : σ.2.2.1 = 0) (hd : dDesign tk pl vl wi wd nt N0 N 0 dA0 = some (.inr (t, A))) : JB A ∧ WF tk nt A t ∧ Bn A ∧ t < nt ∧ Ly A (topL A) (topN A) (topS A) := by
  have hnt := hT.2.1
  obtain ⟨j, w⟩ := design_J hV hnt WF0 hd
  obtain ⟨p1, p2⟩ := dDesign_pos _ _ _ (Or.inr (g0 hg hσ)) _ _ hd
  have w1 := w.1
  exact ⟨j, w, ⟨p1, by omega, by omega, by omega, by omega, by omega, by omega, by omega⟩, p2, j.ly p1⟩
theorem lim0 (h : lim A = 0) : topN A ≤ 257 ∧ topS A ≤ 1024 := by
  unfold lim at h
  unfold topN topS
  split at h
  · cases h
  split at h
  · cases h
  omega
theorem Od_of {ord : List Nat} (hJ : JB A) (hWF : WF tk nt A t) (hL : Ly A L n ns) (nd : ord.Nodup) (mem : ∀ v, v ∈ ord ↔ v < ns ∧ tld (lenR A L n) (srcR A L n) v = true) (to : TO (dpn (lenR A L n) (srcR A L n) (ldR A L n)) (tld (lenR A L n) (srcR A L n)) ord) : Od A L n ns ord :=
  ⟨nd, fun x => (mem x).trans ⟨fun z => ⟨z.1, (tld_R hJ hWF hL z.1).mp z.2⟩, fun z => ⟨z.1, (tld_R hJ hWF hL z.1).mpr z.2⟩⟩, fun a v b e y hy ht => by
    have hv : v < ns := ((mem v).mp (by rw [e]; exact List.mem_append_right _ List.mem_cons_self)).1
    exact to a v b e y (by rw [dpn_dl]; exact hy) ((tld_R hJ hWF hL (dl_lt hJ hWF hL hv hy)).mpr (of_decide_eq_true ht))⟩
theorem LCy.uniq {a b : Nat} (h : LCy A a) (g : LCy A b) : a = b := Nat.le_antisymm (h.2.2 b g.1 g.2.1) (g.2.2 a h.1 h.2.1)
theorem OutG.uniq {t' : Nat} {A' : ds} (h : OutG ch n wd N0 t A) (g : OutG ch n wd N0 t' A') : t = t' ∧ A = A' := by
  obtain ⟨σ, h1, h2, h3, -⟩ := h
  obtain ⟨σ', g1, g2, g3, -⟩ := g
  rw [h3] at g3
  cases g3
  exact ⟨rfl, rfl⟩
theorem OutF.not {f p : Nat} (h : OutF ch n wd N0 f p) (g : OutG ch n wd N0 t A) : False := by
  obtain ⟨σ, h1, h2⟩ := h
  obtain ⟨σ', g1, g2, g3, g4, g5⟩ := g
  rw [h1] at g1
  cases g1
  rcases h2 with ⟨a, -⟩ | ⟨-, h2⟩
  · exact a g2
  rcases h2 with h2 | ⟨t', A', h2, h3⟩
  · rw [h2] at g3; cases g3
  rw [h2] at g3
  cases g3
  rcases h3 with ⟨a, -⟩ | ⟨-, lp, b, -⟩
  · exact a g4
  · exact g5 lp b.1 b.2.1
theorem OutF.uniq {f p f' p' : Nat} (h : OutF ch n wd N0 f p) (g : OutF ch n wd N0 f' p') : f = f' ∧ p = p' := by
  obtain ⟨σ, h1, h2⟩ := h
  obtain ⟨σ', g1, g2⟩ := g
  rw [h1] at g1
  cases g1
  rcases h2 with ⟨a1, a2, a3⟩ | ⟨a1, h2⟩
  · rcases g2 with ⟨-, b2, b3⟩ | ⟨b1, -⟩
    · exact ⟨by rw [a2, b2], by rw [a3, b3]⟩
    · exact absurd b1 a1
  rcases g2 with ⟨b1, -⟩ | ⟨-, g2⟩
  · exact absurd a1 b1
  rcases h2 with h2 | ⟨t, A, h2, h3⟩
  · rcases g2 with g2 | ⟨t', A', g2, -⟩
    · rw [h2] at g2; cases g2; exact ⟨rfl, rfl⟩
    · rw [h2] at g2; cases g2
  rcases g2 with g2 | ⟨t', A', g2, g3⟩
  · rw [h2] at g2; cases g2
  rw [h2] at g2
  cases g2
  rcases h3 with ⟨c1, c2, c3⟩ | ⟨c1, lp, c2, c3, c4⟩
  · rcases g3 with ⟨-, d2, d3⟩ | ⟨d1, -⟩
    · exact ⟨by rw [c2, d2], by rw [c3, d3]⟩
    · exact absurd d1 c1
  · rcases g3 with ⟨d1, -⟩ | ⟨-, lp', d2, d3, d4⟩
    · exact absurd c1 d1
    · cases LCy.uniq c2 d2
      exact ⟨by rw [c3, d3], by rw [c4, d4]⟩
end OUT
