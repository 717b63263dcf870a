/-! The class: a module's head, in one move. -/
section CHEAD2
variable {tk pl vl wi wd : Nat → Nat} {nt nw N N0 N1 lc : Nat} {ex : Nat → Int32} {lit : Nat → Int64} {c c' c0 : ms} {A : ds} {t sz : Nat} {σ σ' : gs} {μ : Option (Nat × Nat)}
theorem gTake_t {k : Nat} (h : gIs tk k σ = true) : gTake tk pl k σ = gInc σ := if_pos h
theorem gTake_f {k : Nat} (h : ¬ gIs tk k σ = true) : gTake tk pl k σ = gNo tk pl σ := if_neg h
theorem wfA0 : WF tk nt dA0 0 := ⟨⟨by decide, by decide, by decide, by decide, by decide, by decide, by decide⟩, fun d hd => (by cases hd), fun m hm => ⟨Nat.le_refl _, Nat.le_refl _⟩, fun m hm => (by cases hm), fun i hi => (by cases hi), fun i hi => Nat.le_refl _, fun k hk => (by cases hk)⟩
def d26 (nt : Nat) (t1 : Nat) (A1 : ds) : dr := if nt ≤ t1 + 2 then none else dok (t1 + 2) (tu A1 26 (A1.1 46 0) (A1.1 40 0 - A1.1 21 (A1.1 46 0)))
def dHead (tk pl vl wi wd : Nat → Nat) (nt N t : Nat) (A : ds) : dr := if nt ≤ t + 3 ∨ tk (t + 1) ≠ 400 then none else if dMod wd A (t + 1) ≠ none then dno 20 (pl (t + 1)) else db (dPorts tk pl vl wi wd nt N (t + 3) (dBeg A (t + 1))) (d26 nt)
theorem portsEnd_C (hnt : nt ≤ 12001) (ht : t ≤ nt + 1) (h : On tk pl wd nt nw lit lc A t sz c) : ∃ c', fn_Meaning_portsEnd_Me N c = some ((), c') ∧ Eb [313] [] c c' ∧ On tk pl wd nt nw lit lc (tu A 26 (A.1 46 0) (A.1 40 0 - A.1 21 (A.1 46 0))) t sz c' := by
  obtain ⟨⟨T, X⟩, ⟨g1, g2, g3, g4, g5, g6, g7, g8, g9⟩, o3, o4, o5, o6, o7, o8⟩ := h
  have cnt := o8.1
  have le := (o8.2.2.1 _ (Nat.le_refl _)).1
  unfold fn_Meaning_portsEnd_Me fn_Design_setPorts_Ds
  rw [on_go X]
  dsimp only
  have i := nI_in (show A.1 46 0 < 3277 by omega) (show 3277 < 2 ^ 31 by decide)
  rw [if_pos rfl, g1.2.2.2.2.2, if_neg (nI_ne0 (by omega) (by omega)), nI_pred, if_neg i, if_neg i, nI_clamp (by omega), g1.1, (g7.1 _ (Nat.le_refl _)).2.1, nI_sub le, obind]
  have e : Eb [313] [] c (upI c 313 (upd (c.1 313) (A.1 46 0) (nI (A.1 40 0 - A.1 21 (A.1 46 0))))) := Eb.rfl.upI (by decide)
  refine ⟨_, rfl, e, ⟨T, X⟩, ⟨?_, ?_, ?_, ?_, ?_, ?_, ?_, ?_, ?_⟩, o3, o4, ?_, o6, o7, o8.p26⟩
  · unfold Ck at *
    simp only [tu1, tu2, uu1, uu2, uu3, vu1, vu2, vu3, su1, su2, Nat.reduceEqDiff, false_and, true_and, reduceIte, Bool.false_eq_true, if_true, if_false]
    exact g1
  · unfold Cnm at *
    simp only [tu1, tu2, uu1, uu2, uu3, vu1, vu2, vu3, su1, su2, Nat.reduceEqDiff, false_and, true_and, reduceIte, Bool.false_eq_true, if_true, if_false]
    exact g2
  · unfold Cdr dDrv dRg at *
    simp only [tu1, tu2, uu1, uu2, uu3, vu1, vu2, vu3, su1, su2, Nat.reduceEqDiff, false_and, true_and, reduceIte, Bool.false_eq_true, if_true, if_false]
    exact g3
  · unfold Cit at *
    simp only [tu1, tu2, uu1, uu2, uu3, vu1, vu2, vu3, su1, su2, Nat.reduceEqDiff, false_and, true_and, reduceIte, Bool.false_eq_true, if_true, if_false]
    exact g4
  · unfold Clk at *
    simp only [tu1, tu2, uu1, uu2, uu3, vu1, vu2, vu3, su1, su2, Nat.reduceEqDiff, false_and, true_and, reduceIte, Bool.false_eq_true, if_true, if_false]
    exact g5
  · unfold Cpc at *
    simp only [tu1, tu2, uu1, uu2, uu3, vu1, vu2, vu3, su1, su2, Nat.reduceEqDiff, false_and, true_and, reduceIte, Bool.false_eq_true, if_true, if_false]
    exact g6
  · unfold Cmo at *
    simp only [tu1, tu2, uu1, uu2, uu3, vu1, vu2, vu3, su1, su2, Nat.reduceEqDiff, false_and, true_and, reduceIte, Bool.false_eq_true, if_true, if_false]
    refine ⟨fun m hm => ?_, g7.2⟩
    obtain ⟨x1, x2, x3, x4, x5⟩ := g7.1 m hm
    refine ⟨x1, x2, ?_, x4, x5⟩
    show upd (c.1 313) (A.1 46 0) (nI (A.1 40 0 - A.1 21 (A.1 46 0))) m = _
    by_cases z : m = A.1 46 0
    · rw [z, upd_at, if_pos rfl]
    · rw [upd_ne z, if_neg z]; exact x3
  · unfold Wr at *
    simp only [tu1, tu2, uu1, uu2, uu3, vu1, vu2, vu3, su1, su2, Nat.reduceEqDiff, false_and, true_and, reduceIte, Bool.false_eq_true, if_true, if_false]
    exact g8
  · unfold Wm at *
    simp only [tu1, tu2, uu1, uu2, uu3, vu1, vu2, vu3, su1, su2, Nat.reduceEqDiff, false_and, true_and, reduceIte, Bool.false_eq_true, if_true, if_false]
    exact g9
  · simp only [tu1, tu2, uu1, uu2, uu3, vu1, vu2, vu3, su1, su2, Nat.reduceEqDiff, false_and, true_and, reduceIte, Bool.false_eq_true, if_true, if_false]
    exact o5
/-- the end of a head -/
theorem head116 {r : dr} (T' : Tv tk pl nt) (hG : CG tk pl nt ex c σ) (hd : σ.2.2.1 = 0 → 0 < σ.2.1) (hs : σ.2.2.1 = 0 → tk σ.1 ≠ 61 → Mr tk pl wd nt nw lit lc μ r σ.1 sz c) :
    ∃ c' σ', ((gShut tk pl 41 σ).bind (fun σ => some (gTake tk pl 59 σ))) = some σ' ∧ bk_Grammar_moduleHead_Gr_116 N c = some ((), c') ∧ CG tk pl nt ex c' σ' ∧ c'.1 264 0 = 2 ∧ Eb [213, 214, 215, 216, 217, 218, 219, 264, 313] [] c c' ∧ σ.1 ≤ σ'.1 ∧ (σ'.2.2.1 = 0 → σ.2.2.1 = 0 ∧ tk σ.1 = 41 ∧ σ' = (σ.1 + 2, σ.2.1 - 1, σ.2.2) ∧ Mr tk pl wd nt nw lit lc μ (db r (d26 nt)) σ'.1 sz c') := by
  have hnt := T'.2.1
  obtain ⟨σ1, s1⟩ := gShut_ex (tk := tk) (pl := pl) (k := 41) hd
  obtain ⟨c1, a1, a2, a3⟩ := kshut (N := N) T' 41 (by decide) hG s1
  obtain ⟨c2, b1, b2, b3⟩ := kneed (N := N) T' 59 (by decide) a2
  have le := gShut_le s1
  have le2 := gTake_le (tk := tk) (pl := pl) (k := 59) (σ := σ1)
  rw [s1, obind]
  unfold bk_Grammar_moduleHead_Gr_116
  rw [show fn_Tokens_shut_Tk N 41 c = some ((), c1) from a1, obind]
  dsimp only
  rw [show fn_Tokens_need_Tk N 59 c1 = some ((), c2) from b1, obind]
  dsimp only
  have e2 : F7 c c2 := a3.trans b3
  have fin : ∀ c3, fn_Meaning_portsEnd_Me N c2 = some ((), c3) → Eb [313] [] c2 c3 → ((gTake tk pl 59 σ1).2.2.1 = 0 → Mr tk pl wd nt nw lit lc μ (db r (d26 nt)) (gTake tk pl 59 σ1).1 sz c3) → ∃ c' σ', some (gTake tk pl 59 σ1) = some σ' ∧ ((fn_Meaning_portsEnd_Me N c2).bind (fun q_5 => some ((), upI q_5.2 264 (fun _ => 2)))) = some ((), c') ∧ CG tk pl nt ex c' σ' ∧ c'.1 264 0 = 2 ∧ Eb [213, 214, 215, 216, 217, 218, 219, 264, 313] [] c c' ∧ σ.1 ≤ σ'.1 ∧ (σ'.2.2.1 = 0 → σ.2.2.1 = 0 ∧ tk σ.1 = 41 ∧ σ' = (σ.1 + 2, σ.2.1 - 1, σ.2.2) ∧ Mr tk pl wd nt nw lit lc μ (db r (d26 nt)) σ'.1 sz c') := by
    intro c3 m1 m2 m3
    have G3 : CG tk pl nt ex (upI c3 264 (fun _ => 2)) (gTake tk pl 59 σ1) := (b2.mono m2 (fun k _ _ => by simp; omega) (by decide)).upI (by decide)
    refine ⟨_, _, rfl, by rw [m1, obind], G3, rfl, ((e2.mono (by decide) (by decide)).trans (m2.mono (by decide) (by decide))).upI (by decide), by omega, fun z => ?_⟩
    obtain ⟨x1, x2, x3⟩ := gTake_al z
    obtain ⟨y1, y2, y3, y4⟩ := gShut_al s1 x1
    exact ⟨y1, y2, by rw [x3, y4]; rfl, (m3 z).keep (ks := [264]) (Eb.rfl.upI (by decide)) (by decide) (by decide) (by decide) (G3.alive z)⟩
  by_cases al : (gTake tk pl 59 σ1).2.2.1 = 0
  · obtain ⟨x1, x2, x3⟩ := gTake_al al
    obtain ⟨y1, y2, y3, y4⟩ := gShut_al s1 x1
    obtain ⟨p1, p2⟩ := hs y1 (by omega)
    have al2 : c2.1 217 0 = nI 0 := b2.alive al
    have u : (gTake tk pl 59 σ1).1 = σ.1 + 2 := by rw [x3, y4]; rfl
    have tn : σ.1 + 2 < nt := by have := b2.2.1; rw [u] at this; exact this
    cases hμ : μ with
    | some fp =>
      have o := (p1 fp hμ).mono e2 (by decide)
      have := fin c2 (off_portsEnd o.off) Eb.rfl (fun _ => Mr.off o (fun q z => (by rw [hμ] at z; cases z; rfl)) (fun z => (by rw [hμ] at z; cases z)))
      rw [hμ] at this; exact this
    | none =>
      obtain ⟨q, q1, q2, q3⟩ := p2 hμ
      cases q with
      | inl fp =>
        have o := (q2 fp.1 fp.2 rfl).mono e2 (by decide)
        have := fin c2 (off_portsEnd o.off) Eb.rfl (fun _ => Mr.off o (fun q z => (by rw [hμ] at z; cases z)) (fun _ => by rw [q1]; rfl))
        rw [hμ] at this; exact this
      | inr q =>
        obtain ⟨t1, A1⟩ := q
        obtain ⟨z1, z2⟩ := q3 t1 A1 rfl
        subst z1
        have O2 := z2.keep (t' := σ.1 + 2) e2 (by decide) (by decide) al2 (by omega)
        obtain ⟨c3, m1, m2, m3⟩ := portsEnd_C (N := N) hnt (by omega) O2
        have := fin c3 m1 m2 (fun _ => ⟨fun q z => (by rw [hμ] at z; cases z), fun _ => ⟨.inr (σ.1 + 2, tu A1 26 (A1.1 46 0) (A1.1 40 0 - A1.1 21 (A1.1 46 0))), ?_, fun _ _ y => (by cases y), fun t' A' y => (by cases y; exact ⟨u.symm, m3⟩)⟩⟩)
        · rw [hμ] at this; exact this
        · rw [q1, db_inr]
          unfold d26
          rw [if_neg (by omega)]
          rfl
  · exact fin c2 (off_portsEnd (Or.inr (b2.dead al))) Eb.rfl (fun z => absurd z al)
theorem gPl_dead {K : gs → Option gs} {n : Nat} (h : σ.2.2.1 ≠ 0) (hn : 0 < n) : gPl tk pl N1 K n σ = gMl tk pl N1 K N1 σ := by
  obtain ⟨n, rfl⟩ : ∃ n', n = n' + 1 := ⟨n - 1, by omega⟩
  unfold gPl
  rw [gIs_dead h, if_neg (by decide), gShut_dead h, obind, gTake_dead h]
/-- more ports, up to the head's end -/
theorem portsL (T' : Tv tk pl nt) (hV : Vb tk vl wi) : ∀ (n n1 n2 n0 i : Nat) (c : ms) (σ : gs) (μ : Option (Nat × Nat)) (r : dr), nt ≤ σ.1 + n → n < n1 → n < n2 → n < n0 → i ≤ σ.1 → KS tk pl vl wi wd nt ex nw lit lc c → CG tk pl nt ex c σ → (σ.2.2.1 = 0 → 0 < σ.2.1) → (σ.2.2.1 = 0 → tk σ.1 ≠ 61 → Mr tk pl wd nt nw lit lc μ r σ.1 sz c) →
    ∃ c' σ', hd_Grammar_moduleHead_Gr_76 N n2 (nI i) c = some ((), c') ∧ (∀ K, gPl tk pl N1 K n1 σ = gMl tk pl N1 K N1 σ') ∧ CG tk pl nt ex c' σ' ∧ c'.1 264 0 = 2 ∧ Eb [213, 214, 215, 216, 217, 218, 219, 235, 236, 237, 242, 243, 248, 264, 313, 321, 322, 323, 324, 326, 327] [325] c c' ∧ σ.1 ≤ σ'.1 ∧ (σ'.2.2.1 = 0 → σ.2.2.1 = 0 ∧ σ'.2.1 + 1 = σ.2.1 ∧ σ.1 + 2 ≤ σ'.1 ∧ Mr tk pl wd nt nw lit lc μ (db (db r (fun t1 A1 => if nt ≤ t1 then none else dPorts tk pl vl wi wd nt n0 (if tk t1 = 44 then t1 + 1 else t1) A1)) (d26 nt)) σ'.1 sz c') := by
  have hnt := T'.2.1
  intro n
  induction n with
  | zero => intro n1 n2 n0 i c σ μ r i1 i2 i3 i4 i5 i6 i7; have := i7.2.1; omega
  | succ n ih =>
    intro n1 n2 n0 i c σ μ r i1 i2 i3 i4 i5 i6 i7 i8 i9
    obtain ⟨n1, rfl⟩ : ∃ n', n1 = n' + 1 := ⟨n1 - 1, by omega⟩
    obtain ⟨n2, rfl⟩ : ∃ n', n2 = n' + 1 := ⟨n2 - 1, by omega⟩
    obtain ⟨n0, rfl⟩ : ∃ n', n0 = n' + 1 := ⟨n0 - 1, by omega⟩
    have tn := i7.2.1
    have h212 : c.1 212 0 = nI nt := i7.1.1
    show ∃ c' σ', bd_Grammar_moduleHead_Gr_76 N (hd_Grammar_moduleHead_Gr_76 N n2) (nI i) c = some ((), c') ∧ _
    unfold bd_Grammar_moduleHead_Gr_76
    rw [h212, if_neg (nI_ge (show i < nt by omega) (by omega))]
    by_cases g : gIs tk 44 σ = true
    · have g' := g
      simp only [gIs, decide_eq_true_eq] at g'
      obtain ⟨al, k44⟩ := g'
      have t1n := T'.more tn k44 (by decide) (by decide)
      rw [if_pos (show c.1 214 0 = 44 from kpos (k := 44) i7 al k44)]
      obtain ⟨c1, a1, a2, a3⟩ := ktake (N := N) T' i7 (fun _ => t1n)
      rw [if_pos al] at a2
      rw [a1, obind]
      dsimp only
      have al1 : c1.1 217 0 = nI 0 := a2.alive al
      obtain ⟨m1, m2⟩ := i9 al (by omega)
      -- the tables by now
      obtain ⟨A1, μ1, t1, w1, w2, w3, w4, w5⟩ : ∃ A1 μ1 t1, WF tk nt A1 t1 ∧ t1 ≤ σ.1 ∧ Md tk pl wd nt nw lit lc A1 t1 sz c1 μ1 ∧ (∀ fp, μ = some fp → μ1 = some fp) ∧ (μ = none → (∃ fp, μ1 = some fp ∧ r = some (.inl fp)) ∨ (μ1 = none ∧ t1 = σ.1 ∧ r = some (.inr (σ.1, A1)))) := by
        cases hμ : μ with
        | some fp => exact ⟨dA0, some fp, 0, wfA0, Nat.zero_le _, ⟨fun q z => (by cases z; exact (m1 fp hμ).mono a3 (by decide)), fun z => (by cases z)⟩, fun q z => (by cases z; rfl), fun z => (by cases z)⟩
        | none =>
          obtain ⟨q, q1, q2, q3⟩ := m2 hμ
          cases q with
          | inl fp => exact ⟨dA0, some fp, 0, wfA0, Nat.zero_le _, ⟨fun q z => (by cases z; exact (q2 _ _ rfl).mono a3 (by decide)), fun z => (by cases z)⟩, fun q z => (by cases z), fun _ => Or.inl ⟨fp, rfl, q1⟩⟩
          | inr q =>
            obtain ⟨t1, A1⟩ := q
            obtain ⟨z1, z2⟩ := q3 t1 A1 rfl
            subst z1
            exact ⟨A1, none, σ.1, z2.2.2.2.2.2.2.2, Nat.le_refl _, ⟨fun q z => (by cases z), fun _ => z2.keep a3 (by decide) (by decide) al1 (Nat.le_refl _)⟩, fun q z => (by cases z), fun _ => Or.inr ⟨rfl, rfl, q1⟩⟩
      obtain ⟨c2, σ2, b1, b2, b3, b4, b5, b6⟩ := port_C (N := N) (t := t1) (A := A1) (μ := μ1) (sz := sz) T' hV (i6.keep a3 (by decide) (by decide)) (fun _ => by show t1 ≤ σ.1 + 1; omega) a2 w1 (fun _ => w3)
      rw [b2, obind, nI_1]
      dsimp only
      have b5' : σ.1 + 1 ≤ σ2.1 := b5
      obtain ⟨c', σ', h1, h2, h3, h4, h5, h6, h7⟩ := ih n1 n2 n0 (i + 1) c2 σ2 μ1 (dPort tk pl vl wi wd nt (σ.1 + 1) A1) (by omega) (by omega) (by omega) (by omega) (by omega) ((i6.keep a3 (by decide) (by decide)).keep b4 (by decide) (by decide)) b3 (fun z => by rw [(b6 z).2.1]; exact i8 al) (fun z ne => (b6 z).2.2.2.2 ne)
      have gl : ∀ K, gPl tk pl N1 K (n1 + 1) σ = gMl tk pl N1 K N1 σ' := fun K => by
        conv => lhs; unfold gPl
        rw [g, if_pos rfl, b1, obind]
        exact h2 K
      refine ⟨c', σ', h1, gl, h3, h4, ((a3.mono (by decide) (by decide)).trans (b4.mono (by decide) (by decide))).trans h5, by omega, fun z => ?_⟩
      obtain ⟨x1, x2, x3, x4⟩ := h7 z
      obtain ⟨y1, y2, y3, y4, -⟩ := b6 x1
      have y2' : σ2.2.1 = σ.2.1 := y2
      have y3' : σ.1 + 1 < σ2.1 := y3
      refine ⟨al, by omega, by omega, fun fp q => x4.1 fp (w4 fp q), fun q => ?_⟩
      rcases w5 q with ⟨fp, e1, e2⟩ | ⟨e1, e2, e3⟩
      · exact ⟨.inl fp, by rw [e2]; rfl, fun f p y => (by cases y; exact x4.1 _ e1), fun _ _ y => (by cases y)⟩
      · obtain ⟨v, v1, v2, v3⟩ := x4.2 e1
        refine ⟨v, ?_, v2, v3⟩
        rw [e3, db_inr, if_neg (by omega), if_pos k44]
        conv => lhs; unfold dPorts
        have y4' : tk (σ.1 + 1) = 302 ∨ tk (σ.1 + 1) = 303 := y4
        rw [if_neg (by omega), if_pos y4']
        exact v1
    · rw [if_neg (show ¬ c.1 214 0 = 44 from kneg (k := 44) T' i7 (by decide) (fun z y => g (gIs_t z y)))]
      obtain ⟨c', σ', a1, a2, a3, a4, a5, a6, a7⟩ := head116 (N := N) (r := r) (μ := μ) (sz := sz) T' i7 i8 i9
      refine ⟨c', σ', a2, fun K => ?_, a3, a4, a5.mono (by decide) (by decide), a6, fun z => ?_⟩
      · unfold gPl
        rw [if_neg g]
        cases hg : gShut tk pl 41 σ with
        | none => rw [hg] at a1; cases a1
        | some ρ =>
          rw [hg] at a1
          cases a1
          rfl
      · obtain ⟨x1, x2, x3, x4⟩ := a7 z
        have d0 := i8 x1
        refine ⟨x1, by rw [x3]; show σ.2.1 - 1 + 1 = σ.2.1; omega, by rw [x3]; exact Nat.le_refl _, x4.1, fun q => ?_⟩
        obtain ⟨m1, m2⟩ := i9 x1 (by omega)
        obtain ⟨v, v1, v2, v3⟩ := m2 q
        cases v with
        | inl fp =>
          obtain ⟨y, y1, y2, y3⟩ := x4.2 q
          rw [v1] at y1
          exact ⟨y, by rw [v1]; exact y1, y2, y3⟩
        | inr v =>
          obtain ⟨t1, A1⟩ := v
          obtain ⟨z1, z2⟩ := v3 t1 A1 rfl
          subst z1
          obtain ⟨y, y1, y2, y3⟩ := x4.2 q
          rw [v1] at y1
          refine ⟨y, ?_, y2, y3⟩
          rw [v1, db_inr, if_neg (by omega), if_neg (by omega)]
          conv => lhs; unfold dPorts
          rw [if_neg (by omega), if_neg (by omega)]
          exact y1
theorem mv0 (h : c.1 264 0 = 0) : mv N c = fn_Grammar_moduleHead_Gr N c := by
  unfold mv
  rw [h, if_pos rfl]
theorem mv2 (h : c.1 264 0 = 2) : mv N c = fn_Grammar_item_Gr N c := by
  unfold mv
  rw [h, if_neg (by decide), if_neg (by decide), if_pos rfl]
theorem mv3 (h : c.1 264 0 = 3) : mv N c = fn_Grammar_link_Gr N c := by
  unfold mv
  rw [h, if_neg (by decide), if_neg (by decide), if_neg (by decide), if_pos rfl]
/-- the grammar's functions behind a module -/
def gK (tk pl : Nat → Nat) (N1 n : Nat) (σ : gs) : Option gs := if σ.2.2.1 = 0 ∧ tk σ.1 ≠ 403 then gDl tk pl N1 n σ else some σ
/-- the class stands between modules, or has a fault -/
def MdB (tk pl wd : Nat → Nat) (nt nw : Nat) (lit : Nat → Int64) (lc : Nat) (A : ds) (t sz : Nat) (c : ms) (μ : Option (Nat × Nat)) : Prop := (∀ fp, μ = some fp → OffN nw c fp.1 fp.2) ∧ (μ = none → OnB tk pl wd nt nw lit lc A t sz c)
theorem head_C {n : Nat} (T' : Tv tk pl nt) (hV : Vb tk vl wi) (hN : 40000 < N) (hN1 : 12002 < N1) (hN0 : 12002 < N0) (hK : KS tk pl vl wi wd nt ex nw lit lc c) (h0 : σ.2.2.1 = 0) (h264 : c.1 264 0 = 0) (hG : CG tk pl nt ex c σ) (hs : MdB tk pl wd nt nw lit lc A σ.1 sz c μ) :
    ∃ c' σ', mv N c = some ((), c') ∧ gDl tk pl N1 (n + 1) σ = gMl tk pl N1 (gK tk pl N1 n) N1 σ' ∧ CG tk pl nt ex c' σ' ∧ c'.1 264 0 = 2 ∧ Eb [213, 214, 215, 216, 217, 218, 219, 232, 233, 234, 235, 236, 237, 241, 242, 243, 248, 264, 309, 311, 312, 313, 314, 315, 321, 322, 323, 324, 326, 327] [325] c c' ∧ σ.1 ≤ σ'.1 ∧ (σ'.2.2.1 = 0 → σ'.2.1 = σ.2.1 ∧ σ.1 + 5 ≤ σ'.1 ∧ Mr tk pl wd nt nw lit lc μ (dHead tk pl vl wi wd nt N0 σ.1 A) σ'.1 sz c') := by
  have hnt := T'.2.1
  rw [mv0 h264]
  unfold fn_Grammar_moduleHead_Gr gDl
  rw [if_pos h0]
  obtain ⟨c1, a1, a2, a3⟩ := kneed (N := N) T' 300 (by decide) hG
  rw [show fn_Tokens_need_Tk N 128 c = some ((), c1) from a1, obind]
  dsimp only
  obtain ⟨c2, b1, b2, b3, b4⟩ := kdue (N := N) T' 400 (by decide) a2
  rw [show fn_Tokens_due_Tk N 2 c1 = some (b01 (gIs tk 400 (gTake tk pl 300 σ)), c2) from b1, obind]
  dsimp only
  have le1 := gTake_le (tk := tk) (pl := pl) (k := 300) (σ := σ)
  have le2 := gTake_le (tk := tk) (pl := pl) (k := 400) (σ := gTake tk pl 300 σ)
  have le3 := gOpen_le (tk := tk) (pl := pl) (k := 40) (σ := gTake tk pl 400 (gTake tk pl 300 σ))
  have e2 : F7 c c2 := a3.trans b3
  -- from behind the name on
  have rest : ∀ c3, CG tk pl nt ex c3 (if gIs tk 400 (gTake tk pl 300 σ) = true then gTake tk pl 300 σ else gNo tk pl (gTake tk pl 300 σ)) → KS tk pl vl wi wd nt ex nw lit lc c3 → Eb [213, 214, 215, 216, 217, 218, 219, 232, 233, 234, 235, 236, 237, 241, 242, 243, 248, 264, 309, 311, 312, 313, 314, 315, 321, 322, 323, 324, 326, 327] [325] c c3 → (gIs tk 400 (gTake tk pl 300 σ) = true → ∃ A1 μ1 t1, WF tk nt A1 t1 ∧ t1 ≤ σ.1 + 1 ∧ Md tk pl wd nt nw lit lc A1 t1 sz c3 μ1 ∧ (∀ fp, μ = some fp → μ1 = some fp) ∧ (μ = none → (∃ fp, μ1 = some fp ∧ (σ.1 + 3 < nt → dHead tk pl vl wi wd nt N0 σ.1 A = some (.inl fp))) ∨ (μ1 = none ∧ dMod wd A (σ.1 + 1) = none ∧ A1 = dBeg A (σ.1 + 1)))) →
      ∃ c' σ', bk_Grammar_moduleHead_Gr_42 N c3 = some ((), c') ∧ (if gIs tk 302 (gOpen tk pl 40 (gTake tk pl 400 (gTake tk pl 300 σ))) = true ∨ gIs tk 303 (gOpen tk pl 40 (gTake tk pl 400 (gTake tk pl 300 σ))) = true then (gPort tk pl (gOpen tk pl 40 (gTake tk pl 400 (gTake tk pl 300 σ)))).bind (gPl tk pl N1 (fun σ => if σ.2.2.1 = 0 ∧ tk σ.1 ≠ 403 then gDl tk pl N1 n σ else some σ) N1) else (gShut tk pl 41 (gOpen tk pl 40 (gTake tk pl 400 (gTake tk pl 300 σ)))).bind (fun σ => gMl tk pl N1 (fun σ => if σ.2.2.1 = 0 ∧ tk σ.1 ≠ 403 then gDl tk pl N1 n σ else some σ) N1 (gTake tk pl 59 σ))) = gMl tk pl N1 (gK tk pl N1 n) N1 σ' ∧ CG tk pl nt ex c' σ' ∧ c'.1 264 0 = 2 ∧ Eb [213, 214, 215, 216, 217, 218, 219, 232, 233, 234, 235, 236, 237, 241, 242, 243, 248, 264, 309, 311, 312, 313, 314, 315, 321, 322, 323, 324, 326, 327] [325] c c' ∧ σ.1 ≤ σ'.1 ∧ (σ'.2.2.1 = 0 → σ'.2.1 = σ.2.1 ∧ σ.1 + 5 ≤ σ'.1 ∧ Mr tk pl wd nt nw lit lc μ (dHead tk pl vl wi wd nt N0 σ.1 A) σ'.1 sz c') := by
    intro c3 G3 K3 E3 H3
    obtain ⟨c4, d1, d2, d3⟩ : ∃ c4, fn_Tokens_take_Tk N c3 = some ((), c4) ∧ CG tk pl nt ex c4 (gTake tk pl 400 (gTake tk pl 300 σ)) ∧ F7 c3 c4 := by
      by_cases gi : gIs tk 400 (gTake tk pl 300 σ) = true
      · have g' := gi
        simp only [gIs, decide_eq_true_eq] at g'
        rw [if_pos gi] at G3
        obtain ⟨c4, d1, d2, d3⟩ := ktake (N := N) T' G3 (fun _ => T'.more G3.2.1 g'.2 (by decide) (by decide))
        rw [if_pos g'.1] at d2
        exact ⟨c4, d1, by rw [gTake_t gi]; exact d2, d3⟩
      · have dd : (gNo tk pl (gTake tk pl 300 σ)).2.2.1 ≠ 0 := by
          by_cases z : (gTake tk pl 300 σ).2.2.1 = 0
          · exact gNo_al z
          · rw [gNo_dead z]; exact z
        rw [if_neg gi] at G3
        obtain ⟨c4, d1, d2, d3⟩ := ktake (N := N) T' G3 (fun z => absurd z dd)
        rw [if_neg dd] at d2
        refine ⟨c4, d1, ?_, d3⟩
        rw [gTake_f gi]; exact d2
    obtain ⟨c5, f1, f2, f3⟩ := kopen (N := N) T' 40 (by decide) d2
    unfold bk_Grammar_moduleHead_Gr_42
    rw [d1, obind]
    dsimp only
    rw [show fn_Tokens_open_Tk N 40 c4 = some ((), c5) from f1, obind]
    dsimp only
    have f35 : F7 c3 c5 := d3.trans f3
    have E5 := E3.trans (f35.mono (ks' := [213, 214, 215, 216, 217, 218, 219, 232, 233, 234, 235, 236, 237, 241, 242, 243, 248, 264, 309, 311, 312, 313, 314, 315, 321, 322, 323, 324, 326, 327]) (js' := [325]) (by decide) (by decide))
    have K5 := K3.keep f35 (by decide) (by decide)
    -- what is known where it lives
    have liv : (gOpen tk pl 40 (gTake tk pl 400 (gTake tk pl 300 σ))).2.2.1 = 0 → gIs tk 400 (gTake tk pl 300 σ) = true ∧ tk (σ.1 + 1) = 400 ∧ gOpen tk pl 40 (gTake tk pl 400 (gTake tk pl 300 σ)) = (σ.1 + 3, σ.2.1 + 1, σ.2.2) := fun z => by
      obtain ⟨x1, x2, x3, x4⟩ := gOpen_al z
      obtain ⟨y1, y2, y3⟩ := gTake_al x1
      obtain ⟨w1, w2, w3⟩ := gTake_al y1
      rw [w3] at y2
      refine ⟨by rw [gIs, decide_eq_true_eq]; exact ⟨y1, by rw [w3]; exact y2⟩, y2, ?_⟩
      rw [x4, y3, w3]
      rfl
    obtain ⟨A1, μ1, t1, w1, w2, w3, w4, w5⟩ : ∃ A1 μ1 t1, WF tk nt A1 t1 ∧ t1 ≤ σ.1 + 1 ∧ ((gOpen tk pl 40 (gTake tk pl 400 (gTake tk pl 300 σ))).2.2.1 = 0 → Md tk pl wd nt nw lit lc A1 t1 sz c5 μ1) ∧ (∀ fp, μ = some fp → μ1 = some fp) ∧ (μ = none → (gOpen tk pl 40 (gTake tk pl 400 (gTake tk pl 300 σ))).2.2.1 = 0 → (∃ fp, μ1 = some fp ∧ (σ.1 + 3 < nt → dHead tk pl vl wi wd nt N0 σ.1 A = some (.inl fp))) ∨ (μ1 = none ∧ dMod wd A (σ.1 + 1) = none ∧ A1 = dBeg A (σ.1 + 1))) := by
      by_cases gi : gIs tk 400 (gTake tk pl 300 σ) = true
      · obtain ⟨A1, μ1, t1, w1, w2, w3, w4, w5⟩ := H3 gi
        exact ⟨A1, μ1, t1, w1, w2, fun z => w3.keep f35 (by decide) (by decide) (by decide) (f2.alive z) (Nat.le_refl _), w4, fun q _ => w5 q⟩
      · exact ⟨dA0, μ, 0, wfA0, by omega, fun z => absurd (liv z).1 gi, fun fp q => q, fun _ z => absurd (liv z).1 gi⟩
    -- the result, told of the head
    have conv : ∀ (c' : ms) (u : Nat) (r : dr), (gOpen tk pl 40 (gTake tk pl 400 (gTake tk pl 300 σ))).2.2.1 = 0 → σ.1 + 3 < nt → (A1 = dBeg A (σ.1 + 1) → dPorts tk pl vl wi wd nt N0 (σ.1 + 3) A1 = r) → Mr tk pl wd nt nw lit lc μ1 (db r (d26 nt)) u sz c' → Mr tk pl wd nt nw lit lc μ (dHead tk pl vl wi wd nt N0 σ.1 A) u sz c' := by
      intro c' u r z tn hr hM
      refine ⟨fun fp q => hM.1 fp (w4 fp q), fun q => ?_⟩
      rcases w5 q z with ⟨fp, e1, e2⟩ | ⟨e1, e2, e3⟩
      · exact ⟨.inl fp, e2 tn, fun f p y => (by cases y; exact hM.1 _ e1), fun _ _ y => (by cases y)⟩
      · obtain ⟨v, v1, v2, v3⟩ := hM.2 e1
        refine ⟨v, ?_, v2, v3⟩
        unfold dHead
        rw [if_neg (by rintro (y | y); omega; exact y (liv z).2.1), if_neg (fun y => y e2), ← e3, hr e3]
        exact v1
    have dpos : (gOpen tk pl 40 (gTake tk pl 400 (gTake tk pl 300 σ))).2.2.1 = 0 → 0 < (gOpen tk pl 40 (gTake tk pl 400 (gTake tk pl 300 σ))).2.1 := fun z => by
      rw [(liv z).2.2]; show 0 < σ.2.1 + 1; omega
    generalize hρ : gOpen tk pl 40 (gTake tk pl 400 (gTake tk pl 300 σ)) = ρ at *
    by_cases g41 : gIs tk 41 ρ = true
    · have g' := g41
      simp only [gIs, decide_eq_true_eq] at g'
      obtain ⟨al, k41⟩ := g'
      rw [if_pos (show c5.1 214 0 = 41 from kpos (k := 41) f2 al k41), if_neg (by rw [gIs_f (by omega), gIs_f (by omega)]; rintro (z | z) <;> cases z)]
      have lv := (liv al).2.2
      have tn := f2.2.1
      rw [lv] at tn
      have tn' : σ.1 + 3 < nt := tn
      have k41' : tk (σ.1 + 3) = 41 := by rw [lv] at k41; exact k41
      obtain ⟨c', σ', p1, p2, p3, p4, p5, p6, p7⟩ := head116 (N := N) (r := dok ρ.1 A1) (μ := μ1) (sz := sz) T' f2 dpos (fun z _ => ⟨(w3 z).1, fun q => ⟨.inr (ρ.1, A1), rfl, fun _ _ y => (by cases y), fun t' A' y => (by cases y; exact ⟨rfl, ((w3 z).2 q).keep (ks := []) Eb.rfl (by decide) (by decide) (f2.alive z) (by rw [lv]; show t1 ≤ σ.1 + 3; omega)⟩)⟩⟩)
      refine ⟨c', σ', p2, ?_, p3, p4, E5.trans (p5.mono (by decide) (by decide)), by omega, fun z => ?_⟩
      · cases hg : gShut tk pl 41 ρ with
        | none => rw [hg] at p1; cases p1
        | some ν =>
          rw [hg] at p1
          cases p1
          rfl
      · obtain ⟨x1, x2, x3, x4⟩ := p7 z
        have y1 : σ'.2.1 = σ.2.1 := by rw [x3, lv]; show σ.2.1 + 1 - 1 = σ.2.1; omega
        have y2 : σ'.1 = σ.1 + 5 := by rw [x3, lv]
        refine ⟨y1, by omega, conv c' σ'.1 (dok ρ.1 A1) al tn' (fun _ => ?_) x4⟩
        obtain ⟨n0, hn0⟩ : ∃ n', N0 = n' + 1 := ⟨N0 - 1, by omega⟩
        rw [hn0]
        unfold dPorts
        rw [if_neg (by omega), if_neg (by omega), lv]
    · rw [if_neg (show ¬ c5.1 214 0 = 41 from kneg (k := 41) T' f2 (by decide) (fun z y => g41 (gIs_t z y)))]
      obtain ⟨c6, σ6, b1, b2, b3, b4, b5, b6⟩ := port_C (N := N) (t := t1) (A := A1) (μ := μ1) (sz := sz) (σ := ρ) T' hV K5 (fun al => by
        rw [(liv al).2.2]; show t1 ≤ σ.1 + 3; omega) f2 w1 w3
      rw [b2, obind]
      dsimp only
      obtain ⟨n0, hn0⟩ : ∃ n', N0 = n' + 1 := ⟨N0 - 1, by omega⟩
      obtain ⟨c', σ', h1, h2, h3, h4, h5, h6, h7⟩ := portsL (N := N) (N1 := N1) (sz := sz) T' hV nt N1 N n0 0 c6 σ6 μ1 (dPort tk pl vl wi wd nt ρ.1 A1) (by omega) (by omega) (by omega) (by omega) (by omega) (K5.keep b4 (by decide) (by decide)) b3 (fun z => by rw [(b6 z).2.1]; exact dpos (b6 z).1) (fun z ne => (b6 z).2.2.2.2 ne)
      refine ⟨c', σ', h1, ?_, h3, h4, (E5.trans (b4.mono (by decide) (by decide))).trans (h5.mono (by decide) (by decide)), by omega, fun z => ?_⟩
      · by_cases gp : gIs tk 302 ρ = true ∨ gIs tk 303 ρ = true
        · rw [if_pos gp, b1, obind]
          exact h2 _
        · rw [if_neg gp]
          have n2 : gIs tk 302 ρ = false := Bool.eq_false_iff.mpr (fun q => gp (Or.inl q))
          have n3 : gIs tk 303 ρ = false := Bool.eq_false_iff.mpr (fun q => gp (Or.inr q))
          have tk303 : gTake tk pl 303 ρ = gNo tk pl ρ := by unfold gTake; rw [n3, if_neg (by decide)]
          have tk41 : gTake tk pl 41 ρ = gNo tk pl ρ := by unfold gTake; rw [Bool.eq_false_iff.mpr g41, if_neg (by decide)]
          have dd : (gNo tk pl ρ).2.2.1 ≠ 0 := by
            by_cases z : ρ.2.2.1 = 0
            · exact gNo_al z
            · rw [gNo_dead z]; exact z
          have s41 : gShut tk pl 41 ρ = some (gNo tk pl ρ) := by unfold gShut; rw [tk41, gDn_dead dd]
          have pp : gPort tk pl ρ = some (gNo tk pl ρ) := by
            unfold gPort gRange
            rw [n2, if_neg (by decide), tk303, gIs_dead dd, if_neg (by decide), gIs_dead dd, if_neg (by decide), obind, gTake_dead dd]
          rw [pp] at b1
          cases b1
          rw [s41, obind, gTake_dead dd]
          have := h2 (gK tk pl N1 n)
          rw [gPl_dead dd (by omega)] at this
          exact this
      · obtain ⟨x1, x2, x3, x4⟩ := h7 z
        obtain ⟨y1, y2, y3, y4, -⟩ := b6 x1
        have lv := (liv y1).2.2
        have tn := f2.2.1
        rw [lv] at tn y2 y3 y4
        have tn' : σ.1 + 3 < nt := tn
        have y2' : σ6.2.1 = σ.2.1 + 1 := y2
        have y3' : σ.1 + 3 < σ6.1 := y3
        have y4' : tk (σ.1 + 3) = 302 ∨ tk (σ.1 + 3) = 303 := y4
        refine ⟨by omega, by omega, conv c' σ'.1 (db (dPort tk pl vl wi wd nt ρ.1 A1) (fun t1 A1 => if nt ≤ t1 then none else dPorts tk pl vl wi wd nt n0 (if tk t1 = 44 then t1 + 1 else t1) A1)) y1 tn' (fun _ => ?_) x4⟩
        rw [hn0]
        conv => lhs; unfold dPorts
        rw [if_neg (by omega), if_pos y4', lv]
  by_cases gi : gIs tk 400 (gTake tk pl 300 σ) = true
  · have g' := gi
    simp only [gIs, decide_eq_true_eq] at g'
    obtain ⟨al1, k4⟩ := g'
    obtain ⟨al, k300, e3⟩ := gTake_al al1
    have c21 := b4 gi
    subst c21
    rw [gi, if_neg (show ¬ b01 true = 0 by decide)]
    rw [gi, if_pos rfl] at b2
    have st := b2.2.2.2.1 al1
    have tn := b2.2.1
    have e1 : (gTake tk pl 300 σ).1 = σ.1 + 1 := by rw [e3]; rfl
    rw [e1] at st tn k4
    have kx := hK.2.2.2.2.2.2.1 (σ.1 + 1) tn k4
    have q216 : c2.1 216 0 = nI (wd (σ.1 + 1)) := by rw [st.2.2.2.1]; exact kx.1
    rw [q216, st.2.2.1]
    have al2 : c2.1 217 0 = nI 0 := b2.alive al1
    obtain ⟨c3, m1, m2, m3⟩ : ∃ c3, fn_Meaning_module_Me N (nI (wd (σ.1 + 1))) (nI (pl (σ.1 + 1))) c2 = some ((), c3) ∧ Eb [232, 233, 234, 241, 242, 243, 309, 311, 312, 313, 314, 315] [] c2 c3 ∧ ∃ A1 μ1 t1, WF tk nt A1 t1 ∧ t1 ≤ σ.1 + 1 ∧ Md tk pl wd nt nw lit lc A1 t1 sz c3 μ1 ∧ (∀ fp, μ = some fp → μ1 = some fp) ∧ (μ = none → (∃ fp, μ1 = some fp ∧ (σ.1 + 3 < nt → dHead tk pl vl wi wd nt N0 σ.1 A = some (.inl fp))) ∨ (μ1 = none ∧ dMod wd A (σ.1 + 1) = none ∧ A1 = dBeg A (σ.1 + 1))) := by
      cases hμ : μ with
      | some fp =>
        have o := (hs.1 fp hμ).mono e2 (by decide)
        exact ⟨c2, off_module o.off, Eb.rfl, dA0, some fp, 0, wfA0, by omega, ⟨fun q z => (by cases z; exact o), fun z => (by cases z)⟩, fun q z => (by cases z; rfl), fun z => (by cases z)⟩
      | none =>
        have ob := (hs.2 hμ).keep (t' := σ.1 + 1) e2 (by decide) (by decide) al2 (by omega)
        obtain ⟨c3, n1, n2, n3, n4⟩ := module_C (N := N) (x := σ.1 + 1) hnt hK.2.2.2.2.2.2.2 (by omega) kx.2 ob
        by_cases z : dMod wd A (σ.1 + 1) = none
        · have o := n4 z
          exact ⟨c3, n1, n2, dBeg A (σ.1 + 1), none, σ.1 + 1, o.2.2.2.2.2.2.2, Nat.le_refl _, ⟨fun q y => (by cases y), fun _ => o⟩, fun q y => (by cases y), fun _ => Or.inr ⟨rfl, z, rfl⟩⟩
        · refine ⟨c3, n1, n2, dA0, some (20, pl (σ.1 + 1)), 0, wfA0, by omega, ⟨fun q y => (by cases y; exact n3 z), fun y => (by cases y)⟩, fun q y => (by cases y), fun _ => Or.inl ⟨_, rfl, fun tn3 => ?_⟩⟩
          unfold dHead
          rw [if_neg (by rintro (y | y); omega; exact y k4), if_pos z]
          rfl
    rw [m1, obind]
    dsimp only
    exact rest c3 (by rw [gi, if_pos rfl]; exact b2.mono m2 (fun k _ _ => by simp; omega) (by decide)) ((hK.keep e2 (by decide) (by decide)).keep m2 (by decide) (by decide)) ((e2.mono (by decide) (by decide)).trans (m2.mono (by decide) (by decide))) (fun _ => m3)
  · have gf := Bool.eq_false_iff.mpr gi
    rw [gf, if_pos (show b01 false = 0 from rfl)]
    exact rest c2 b2 (hK.keep e2 (by decide) (by decide)) (e2.mono (by decide) (by decide)) (fun z => absurd z gi)
end CHEAD2
