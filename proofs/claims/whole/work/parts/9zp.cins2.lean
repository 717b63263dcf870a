/-! The class: items that name a module, move by move. -/
def dIend (pl : Nat → Nat) (nt u m : Nat) (t1 : Nat) (A1 : ds) : dr := if nt ≤ t1 + 1 then none else if dOpn A1 m ≠ none then dno 24 (pl u) else dok (t1 + 2) (dItE A1)
section CINS2
variable {tk pl vl wi wd : Nat → Nat} {nt nw N N0 N1 lc : Nat} {ex : Nat → Int32} {lit : Nat → Int64} {c c' c0 : ms} {A : ds} {m t sz C I K : Nat} {σ σ' : gs} {μ : Option (Nat × Nat)}
/-- as ItPost, with how deep it is behind -/
def ItD (tk pl wd : Nat → Nat) (nt nw : Nat) (ex : Nat → Int32) (N : Nat) (lit : Nat → Int64) (lc : Nat) (c : ms) (σ σ' : gs) (μ : Option (Nat × Nat)) (r : dr) (d : Nat) : Prop :=
  ∃ k c' sz', Rc N k c c' ∧ k + 1 ≤ 4 * (σ'.1 - σ.1) ∧ c'.1 264 0 = 2 ∧ KP c c' ∧ CG tk pl nt ex c' σ' ∧ σ'.2.2.1 = 0 ∧ σ'.2.1 = d ∧ σ.1 < σ'.1 ∧ c'.1 271 0 = nI 0 ∧ Mr tk pl wd nt nw lit lc μ r σ'.1 sz' c'
theorem Mr.glue {r r' : dr} {u : Nat} {μ' : Option (Nat × Nat)} (h : Mr tk pl wd nt nw lit lc μ' r' u sz c) (h1 : ∀ fp, μ = some fp → μ' = some fp) (h2 : μ = none → (∀ fp, μ' = some fp → r = some (.inl fp)) ∧ (μ' = none → r = r')) : Mr tk pl wd nt nw lit lc μ r u sz c := by
  refine ⟨fun fp z => h.1 fp (h1 fp z), fun z => ?_⟩
  cases h3 : μ' with
  | some fp => exact ⟨.inl fp, (h2 z).1 fp h3, fun f p y => (by cases y; exact h.1 _ h3), fun _ _ y => (by cases y)⟩
  | none => rw [(h2 z).2 h3]; exact h.2 h3
theorem MdL.keep {ks : List Nat} {t' : Nat} (h : MdL tk pl wd nt nw lit lc A m t sz c μ) (e : Eb ks [] c c') (hk : dcL.all (fun k => !ks.contains k) = true) (hk2 : (242 ∉ ks ∧ 239 ∉ ks ∧ 337 ∉ ks ∧ 241 ∉ ks) ∧ 248 ∉ ks ∧ 253 ∉ ks ∧ 260 ∉ ks) (hk3 : 243 ∉ ks) (h2 : c'.1 217 0 = nI 0) (ht : t ≤ t') : MdL tk pl wd nt nw lit lc A m t' sz c' μ :=
  ⟨fun fp z => (h.1 fp z).keepD e hk hk2.1.1 hk3, fun z => (h.2 z).keep e hk hk2 h2 ht⟩
theorem instEnd_G {u : Nat} (T' : Tv tk pl nt) (hu : u < nt ∧ tk u = 400) (hG : CG tk pl nt ex c σ) (h0 : σ.2.2.1 = 0) (hd : 0 < σ.2.1) (hs : MdL tk pl wd nt nw lit lc A m σ.1 sz c μ) (h11 : μ = none → A.1 11 (A.1 41 0) = u) :
    ∃ σ' c', ((gShut tk pl 41 σ).bind (fun σ => some (gTake tk pl 59 σ))) = some σ' ∧ fn_Grammar_instanceEnd_Gr N c = some ((), c') ∧ CG tk pl nt ex c' σ' ∧ KP c c' ∧ c'.1 264 0 = 2 ∧ σ.1 ≤ σ'.1 ∧ c'.1 271 0 = c.1 271 0 ∧ (σ'.2.2.1 = 0 → σ'.2.1 + 1 = σ.2.1 ∧ σ'.1 = σ.1 + 2 ∧ tk σ.1 = 41 ∧ Mr tk pl wd nt nw lit lc μ (dIend pl nt u m σ.1 A) σ'.1 sz c') := by
  have hnt := T'.2.1
  obtain ⟨σ6, s1⟩ := gShut_ex (tk := tk) (pl := pl) (k := 41) (σ := σ) (fun _ => hd)
  obtain ⟨c1, a1, a2, a3⟩ := kshut (N := N) T' 41 (by decide) hG s1
  obtain ⟨c2, b1, b2, b3⟩ := kneed (N := N) T' 59 (by decide) a2
  have e2 : F7 c c2 := a3.trans b3
  have le1 := gShut_le s1
  have le2 := gTake_le (tk := tk) (pl := pl) (k := 59) (σ := σ6)
  rw [s1, obind]
  have fin : ∀ c3, fn_Meaning_instanceEnd_Me N c2 = some ((), c3) → Eb [242, 243] [] c2 c3 → ((gTake tk pl 59 σ6).2.2.1 = 0 → Mr tk pl wd nt nw lit lc μ (dIend pl nt u m σ.1 A) (gTake tk pl 59 σ6).1 sz (upI c3 264 (fun _ => 2))) → ∃ σ' c', some (gTake tk pl 59 σ6) = some σ' ∧ fn_Grammar_instanceEnd_Gr N c = some ((), c') ∧ CG tk pl nt ex c' σ' ∧ KP c c' ∧ c'.1 264 0 = 2 ∧ σ.1 ≤ σ'.1 ∧ c'.1 271 0 = c.1 271 0 ∧ (σ'.2.2.1 = 0 → σ'.2.1 + 1 = σ.2.1 ∧ σ'.1 = σ.1 + 2 ∧ tk σ.1 = 41 ∧ Mr tk pl wd nt nw lit lc μ (dIend pl nt u m σ.1 A) σ'.1 sz c') := by
    intro c3 n1 n2 n3
    refine ⟨_, upI c3 264 (fun _ => 2), rfl, ?_, (b2.mono n2 (fun k _ _ => by simp; omega) (by decide)).upI (by decide), (F7.toKP e2).trans ((n2.mono (by decide) (by decide)).upI (by decide)), rfl, by omega, ?_, fun al => ?_⟩
    · unfold fn_Grammar_instanceEnd_Gr
      rw [show fn_Tokens_shut_Tk N 41 c = some ((), c1) from a1, obind]
      dsimp only
      rw [show fn_Tokens_need_Tk N 59 c1 = some ((), c2) from b1, obind]
      dsimp only
      rw [n1, obind]
    · show c3.1 271 0 = _
      rw [n2.1 271 (by decide), e2.1 271 (by decide)]
    · obtain ⟨v1, v2, v3⟩ := gTake_al al
      obtain ⟨w1, w2, w3, w4⟩ := gShut_al s1 v1
      refine ⟨by rw [v3, w4]; show σ.2.1 - 1 + 1 = σ.2.1; omega, by rw [v3, w4]; rfl, w2, n3 al⟩
  by_cases al : (gTake tk pl 59 σ6).2.2.1 ≠ 0
  · exact fin c2 (off_instEnd (Or.inr (b2.dead al))) Eb.rfl (fun z => absurd z al)
  · have al := Classical.not_not.mp al
    obtain ⟨v1, v2, v3⟩ := gTake_al al
    obtain ⟨w1, w2, w3, w4⟩ := gShut_al s1 v1
    have u2 : (gTake tk pl 59 σ6).1 = σ.1 + 2 := by rw [v3, w4]; rfl
    have tn := b2.2.1
    rw [u2] at tn
    have al2 : c2.1 217 0 = nI 0 := b2.alive al
    have hs2 := hs.keep (t' := σ.1) e2 (by decide) (by decide) (by decide) al2 (Nat.le_refl _)
    have up : ∀ {f p : Nat} {c3 : ms}, OffN nw c3 f p → OffN nw (upI c3 264 (fun _ => 2)) f p := fun o => o.mono (ks := [264]) (js := []) (Eb.rfl.upI (by decide)) (by decide)
    cases h3 : μ with
    | some fp =>
      subst h3
      have o := hs2.1 fp rfl
      exact fin c2 (off_instEnd o.off) Eb.rfl (fun _ => Mr.off (fp := fp) (up o) (fun q z => (by cases z; rfl)) (fun z => (by cases z)))
    | none =>
      subst h3
      obtain ⟨⟨T, X⟩, o2, o3, o4, o5, o6, o7, o8, o9, o10⟩ := hs2.2 rfl
      obtain ⟨c3, n1, n2, n3, n4⟩ := instEnd_C (N := N) hnt o8 (by omega) o10 o9 X o2
      rw [h11 rfl] at n3
      refine fin c3 n1 n2 (fun _ => ?_)
      rw [u2]
      by_cases z : dOpn A m ≠ none
      · refine Mr.off (fp := (24, pl u)) (up (n3 z)) (fun q y => (by cases y)) (fun _ => ?_)
        unfold dIend
        rw [if_neg (by omega), if_pos z]
        rfl
      · obtain ⟨p1, p2⟩ := n4 (Classical.not_not.mp z)
        refine ⟨fun q y => (by cases y), fun _ => ⟨.inr (σ.1 + 2, dItE A), ?_, fun _ _ y => (by cases y), fun t2 A2 y => ?_⟩⟩
        · unfold dIend
          rw [if_neg (by omega), if_neg z]
          rfl
        · cases y
          have k47 : (dItE A).1 47 0 = A.1 47 0 := by unfold dItE; simp only [tu1, tu2, uu1, uu2, uu3, vu1, vu2, vu3, su1, su2, Nat.reduceEqDiff, false_and, true_and, reduceIte, Bool.false_eq_true, if_true, if_false]
          have k41 : (dItE A).1 41 0 = A.1 41 0 + 1 := by unfold dItE; simp only [tu1, tu2, uu1, uu2, uu3, vu1, vu2, vu3, su1, su2, Nat.reduceEqDiff, false_and, true_and, reduceIte, Bool.false_eq_true, if_true, if_false]
          have k42 : (dItE A).1 42 0 = A.1 42 0 := by unfold dItE; simp only [tu1, tu2, uu1, uu2, uu3, vu1, vu2, vu3, su1, su2, Nat.reduceEqDiff, false_and, true_and, reduceIte, Bool.false_eq_true, if_true, if_false]
          have k44 : (dItE A).1 44 0 = A.1 44 0 := by unfold dItE; simp only [tu1, tu2, uu1, uu2, uu3, vu1, vu2, vu3, su1, su2, Nat.reduceEqDiff, false_and, true_and, reduceIte, Bool.false_eq_true, if_true, if_false]
          have k5 : ∀ d, (dItE A).1 5 d = A.1 5 d := fun d => by unfold dItE; simp only [tu1, tu2, uu1, uu2, uu3, vu1, vu2, vu3, su1, su2, Nat.reduceEqDiff, false_and, true_and, reduceIte, Bool.false_eq_true, if_true, if_false]
          have ek : Eb [264] [] c3 (upI c3 264 (fun _ => 2)) := Eb.rfl.upI (by decide)
          refine ⟨rfl, ⟨T, by rw [k47]; exact p1⟩, ?_, ?_, ?_, fun d => by rw [k5]; exact o5 d, by omega, ?_, WF.itE o8 (Nat.le_refl _) ⟨by rw [o9.2.1]; exact o9.1, by rw [h11 rfl]; exact hu.1, by rw [h11 rfl]; exact hu.2⟩⟩
          · rw [k41, k42]
            exact p2.keep ek (by decide) (by decide) (fun _ _ => rfl) (Nat.le_refl _)
          · show c3.1 248 0 = _
            rw [n2.1 248 (by decide)]; exact o3
          · show c3.1 253 0 = _
            rw [n2.1 253 (by decide), k44]; exact o4
          · show c3.1 260 0 = _
            rw [n2.1 260 (by decide)]; exact o7
theorem links_C {u : Nat} (T' : Tv tk pl nt) (hV : Vb tk vl wi) (hN : 40000 < N) (hN1 : 12002 < N1) (hN0 : 12002 < N0) (hu : u < nt ∧ tk u = 400) : ∀ (j : Nat) (c : ms) (σ : gs) (A : ds) (sz n n' : Nat) (μ : Option (Nat × Nat)), nt - σ.1 ≤ j → j < n → j < n' → KS tk pl vl wi wd nt ex nw lit lc c → σ.2.2.1 = 0 → 0 < σ.2.1 → c.1 264 0 = 3 → c.1 271 0 = nI 0 → CG tk pl nt ex c σ → MdL tk pl wd nt nw lit lc A m σ.1 sz c μ → (μ = none → A.1 11 (A.1 41 0) = u) →
    ∃ σ', ((gLink tk pl N1 σ).bind (gIl tk pl N1 n)) = some σ' ∧ (DeadS 4 tk pl nt ex N c σ σ' ∨ ItD tk pl wd nt nw ex N lit lc c σ σ' μ (db (dLinks tk pl vl wi wd nt N0 m n' σ.1 A) (dIend pl nt u m)) (σ.2.1 - 1)) := by
  have hnt := T'.2.1
  intro j
  induction j with
  | zero =>
    intro c σ A sz n n' μ h1 _ _ _ _ _ _ _ hG
    have := hG.2.1
    omega
  | succ j ih =>
    intro c σ A sz n n' μ h1 h2 h3 hK h0 hd h264 h271 hG hs h11
    obtain ⟨n, rfl⟩ : ∃ q, n = q + 1 := ⟨n - 1, by omega⟩
    obtain ⟨n', rfl⟩ : ∃ q, n' = q + 1 := ⟨n' - 1, by omega⟩
    obtain ⟨σ1, g1, g2⟩ := link_C (N0 := N0) (N1 := N1) T' hV hN hN1 hN0 hK h0 h264 hG hs
    rw [g1, obind]
    rcases g2 with dd | ⟨k, c7, c9, sz', q1, q2, q3, q4, q5, q6, q7, q8, q9, q10, q11, q12, q13⟩
    · refine ⟨σ1, ?_, Or.inl dd⟩
      unfold gIl
      rw [if_neg (by rw [gIs_dead dd.1]; decide), gShut_dead dd.1, obind, gTake_dead dd.1]
    · have tn1 := q7.2.1
      -- what it is behind the link
      obtain ⟨μ', A', e1, e2, e3⟩ : ∃ μ' A', MdL tk pl wd nt nw lit lc A' m σ1.1 sz' c9 μ' ∧ (∀ fp, μ = some fp → μ' = some fp) ∧ (μ = none → (∀ fp, μ' = some fp → dLink tk pl vl wi wd nt N0 m σ.1 A = some (.inl fp)) ∧ (μ' = none → dLink tk pl vl wi wd nt N0 m σ.1 A = some (.inr (σ1.1, A')))) := by
        cases hμ : μ with
        | some fp => exact ⟨some fp, A, ⟨fun q z => (by cases z; exact q13.1 fp hμ), fun z => (by cases z)⟩, fun q z => z, fun z => (by cases z)⟩
        | none =>
          obtain ⟨q, v1, v2, v3⟩ := q13.2 hμ
          cases q with
          | inl fp => exact ⟨some fp, A, ⟨fun q z => (by cases z; exact v2 _ _ rfl), fun z => (by cases z)⟩, fun q z => (by cases z), fun _ => ⟨fun q z => (by cases z; exact v1), fun z => (by cases z)⟩⟩
          | inr q =>
            obtain ⟨t1, A1⟩ := q
            obtain ⟨w1, w2⟩ := v3 _ _ rfl
            subst w1
            exact ⟨none, A1, ⟨fun q z => (by cases z), fun _ => w2⟩, fun q z => (by cases z), fun _ => ⟨fun q z => (by cases z), fun _ => v1⟩⟩
      have mno : μ' = none → μ = none := fun z => by
        cases hμ : μ with
        | none => rfl
        | some fp => have := e2 fp hμ; rw [z] at this; cases this
      have h11' : μ' = none → A'.1 11 (A'.1 41 0) = u := fun z => by
        have := (e3 (mno z)).2 z
        rw [dLink_it this 11 (by decide), dLink_it this 41 (by decide)]
        exact h11 (mno z)
      have un : dLinks tk pl vl wi wd nt N0 m (n' + 1) σ.1 A = db (dLink tk pl vl wi wd nt N0 m σ.1 A) (fun t1 A1 => if nt ≤ t1 then none else dLinks tk pl vl wi wd nt N0 m n' (if tk t1 = 44 then t1 + 1 else t1) A1) := by
        have := hG.2.1
        conv => lhs; unfold dLinks
        rw [if_neg (by omega), if_pos q11]
      have d9 : 0 < σ1.2.1 := by omega
      have K9 : KS tk pl vl wi wd nt ex nw lit lc c9 := hK.keep q6 (by decide) (by decide)
      unfold gIl
      by_cases z44 : gIs tk 44 σ1 = true
      · rw [if_pos z44]
        have k44 : tk σ1.1 = 44 := by
          simp only [gIs, decide_eq_true_eq] at z44
          exact z44.2
        have tn2 := T'.more tn1 k44 (by decide) (by decide)
        obtain ⟨c10, a1, a2, a3⟩ := ktake (N := N) T' q7 (fun _ => tn2)
        rw [if_pos q8] at a2
        have hm : mv N c7 = some ((), upI c10 264 (fun _ => 3)) := by
          rw [q5]
          unfold lkN
          rw [if_pos (show c9.1 214 0 = 44 from kpos (k := 44) q7 q8 k44), a1, obind]
        have r1 := q1.trans (Rc.one q4 (by rw [q3]; decide) hm)
        have ek : Eb [213, 214, 215, 216, 217, 218, 219, 264] [] c9 (upI c10 264 (fun _ => 3)) := (a3.mono (by decide) (by decide)).upI (by decide)
        have al10 : (upI c10 264 (fun _ => 3)).1 217 0 = nI 0 := a2.alive q8
        have hs10 : MdL tk pl wd nt nw lit lc A' m (σ1.1 + 1) sz' (upI c10 264 (fun _ => 3)) μ' := e1.keep ek (by decide) (by decide) (by decide) al10 (by omega)
        obtain ⟨σ', f1, f2⟩ := ih (upI c10 264 (fun _ => 3)) (gInc σ1) A' sz' n n' μ' (by show nt - (σ1.1 + 1) ≤ j; omega) (by omega) (by omega) (K9.keep ek (by decide) (by decide)) q8 d9 rfl (by rw [ek.1 271 (by decide), q12]; exact h271) (a2.upI (by decide)) hs10 h11'
        refine ⟨σ', f1, f2.imp (fun dd => dd.after r1 (by show k + 1 + 4 ≤ 4 * (σ1.1 + 1 - σ.1) + 4; omega) (by show σ.1 ≤ σ1.1 + 1; omega)) (fun ⟨k2, c', sz2, y1, y2, y3, y4, y5, y6, y7, y8, y9, y10⟩ => ?_)⟩
        have y2' : k2 + 1 ≤ 4 * (σ'.1 - (σ1.1 + 1)) := y2
        have y8' : σ1.1 + 1 < σ'.1 := y8
        refine ⟨k + 1 + k2, c', sz2, r1.trans y1, by omega, y3, (q6.trans (ek.mono (by decide) (by decide))).trans y4, y5, y6, ?_, by omega, y9, y10.glue e2 (fun z => ⟨fun fp w => ?_, fun w => ?_⟩)⟩
        · have : σ'.2.1 = σ1.2.1 - 1 := y7
          omega
        · rw [un, (e3 z).1 fp w]
          rfl
        · rw [un, (e3 z).2 w, db_inr, if_neg (by omega), if_pos k44]
          rfl
      · rw [if_neg z44]
        obtain ⟨σ', c', f1, f2, f3, f4, f5, f6, f7, f8⟩ := instEnd_G (N := N) (u := u) T' hu q7 q8 d9 e1 h11'
        have hm : mv N c7 = some ((), c') := by
          rw [q5]
          unfold lkN
          rw [if_neg (show ¬ c9.1 214 0 = 44 from kneg (k := 44) T' q7 (by decide) (fun y => by
            simp only [gIs, decide_eq_true_eq] at z44
            exact fun w => z44 ⟨y, w⟩)), f2, obind]
        have r1 := q1.trans (Rc.one q4 (by rw [q3]; decide) hm)
        refine ⟨σ', f1, ?_⟩
        by_cases al : σ'.2.2.1 = 0
        · right
          obtain ⟨w1, w2, w3, w4⟩ := f8 al
          refine ⟨k + 1, c', sz', r1, by omega, f5, q6.trans f4, f3, al, by omega, by omega, by rw [f7, q12]; exact h271, w4.glue e2 (fun z => ⟨fun fp w => ?_, fun w => ?_⟩)⟩
          · rw [un, (e3 z).1 fp w]
            rfl
          · have nn : ¬ tk σ1.1 = 44 := by omega
            rw [un, (e3 z).2 w, db_inr, if_neg (by omega), if_neg nn]
            obtain ⟨n2, rfl⟩ : ∃ q, n' = q + 1 := ⟨n' - 1, by have := hG.2.1; omega⟩
            unfold dLinks
            rw [if_neg (by omega), if_neg (by omega)]
            rfl
        · exact Or.inl ⟨al, by omega, k + 1, c', r1, by omega, f3⟩
end CINS2
