/-! The class: declarations. -/
section CDEC
variable {tk pl vl wi wd : Nat → Nat} {nt nw N N0 N1 lc : Nat} {ex : Nat → Int32} {lit : Nat → Int64} {c c' : ms} {A : ds} {I K sz t T C : Nat} {σ σ' : gs} {μ : Option (Nat × Nat)}
/-! what lives, lived -/
theorem gTake_al {k : Nat} (h : (gTake tk pl k σ).2.2.1 = 0) : σ.2.2.1 = 0 ∧ tk σ.1 = k ∧ gTake tk pl k σ = gInc σ := by
  by_cases z : σ.2.2.1 = 0
  · rcases gTake_cases (tk := tk) (pl := pl) k σ z with ⟨a, b⟩ | ⟨-, -, c, -⟩
    · exact ⟨z, a, b⟩
    · exact absurd h c
  · rw [gTake_dead z] at h
    exact absurd h z
theorem gOpen_al {k : Nat} (h : (gOpen tk pl k σ).2.2.1 = 0) : σ.2.2.1 = 0 ∧ tk σ.1 = k ∧ σ.2.1 < 60 ∧ gOpen tk pl k σ = (σ.1 + 1, σ.2.1 + 1, σ.2.2) := by
  by_cases z : σ.2.2.1 = 0
  · by_cases q : tk σ.1 = k
    · rw [gOpen_live z q] at h ⊢
      by_cases o : 60 ≤ σ.2.1
      · rw [if_pos o] at h; simp at h
      · rw [if_neg o]; exact ⟨z, q, by omega, rfl⟩
    · exfalso
      unfold gOpen at h
      rw [gIs_f q, if_neg (by decide)] at h
      unfold gNo at h
      rw [if_pos z] at h
      revert h
      dsimp only
      split <;> decide
  · rw [gOpen_dead z] at h
    exact absurd h z
theorem gShut_al {k : Nat} (e : gShut tk pl k σ = some σ') (h : σ'.2.2.1 = 0) : σ.2.2.1 = 0 ∧ tk σ.1 = k ∧ 0 < σ.2.1 ∧ σ' = (σ.1 + 1, σ.2.1 - 1, σ.2.2) := by
  unfold gShut gDn at e
  by_cases z : (gTake tk pl k σ).2.2.1 = 0
  · obtain ⟨a1, a2, a3⟩ := gTake_al z
    rw [if_pos z, a3] at e
    by_cases d : (gInc σ).2.1 = 0
    · rw [if_pos d] at e; cases e
    · rw [if_neg d] at e
      cases e
      exact ⟨a1, a2, by have : ¬ σ.2.1 = 0 := d; omega, rfl⟩
  · rw [if_neg z] at e
    cases e
    exact absurd h z
theorem gShut_ex {k : Nat} (h : σ.2.2.1 = 0 → 0 < σ.2.1) : ∃ σ', gShut tk pl k σ = some σ' := by
  unfold gShut gDn
  by_cases z : (gTake tk pl k σ).2.2.1 = 0
  · obtain ⟨a1, a2, a3⟩ := gTake_al z
    rw [if_pos z, a3, if_neg (show ¬ (gInc σ).2.1 = 0 by have := h a1; show ¬ σ.2.1 = 0; omega)]
    exact ⟨_, rfl⟩
  · rw [if_neg z]
    exact ⟨_, rfl⟩
theorem gTake_le {k : Nat} : σ.1 ≤ (gTake tk pl k σ).1 := by
  unfold gTake gNo
  split
  · show σ.1 ≤ σ.1 + 1; omega
  · split <;> exact Nat.le_refl _
theorem gOpen_le {k : Nat} : σ.1 ≤ (gOpen tk pl k σ).1 := by
  unfold gOpen gNo
  split
  · split
    · exact Nat.le_refl _
    · show σ.1 ≤ σ.1 + 1; omega
  · split <;> exact Nat.le_refl _
theorem gShut_le {k : Nat} (e : gShut tk pl k σ = some σ') : σ.1 ≤ σ'.1 := by
  have := gTake_le (tk := tk) (pl := pl) (k := k) (σ := σ)
  unfold gShut gDn at e
  split at e
  · split at e
    · cases e
    · cases e; exact this
  · cases e; exact this
theorem off_range {x y z : Int32} (h : OffC c) : fn_Meaning_range_Me N x y z c = some ((), c) := by unfold fn_Meaning_range_Me; rw [off_go h]; rfl
theorem off_declare {x y z : Int32} (h : OffC c) : fn_Meaning_declare_Me N x y z c = some ((), c) := by unfold fn_Meaning_declare_Me; rw [off_go h]; rfl
theorem off_beginsWith {x y : Int32} (h : OffC c) : fn_Meaning_beginsWith_Me N x y c = some ((), c) := by unfold fn_Meaning_beginsWith_Me; rw [off_go h]; rfl
/-- a range that is read -/
theorem range_C {h l p : Nat} (X : Xc c T sz C) (hh : h < 65536) (hl : l < 65536) : ∃ c', fn_Meaning_range_Me N (nI p) (nI h) (nI l) c = some ((), c') ∧ Eb [242, 243, 248] [] c c' ∧ ((63 < h ∨ l ≠ 0) → Off c' 30 p) ∧ (¬ (63 < h ∨ l ≠ 0) → Xc c' T sz C ∧ c'.1 248 0 = nI (h + 1)) := by
  have bad : ∃ c', bk_Meaning_range_Me_25 N (nI p) (nI h) c = some ((), c') ∧ Eb [242, 243, 248] [] c c' ∧ Off c' 30 p := by
    obtain ⟨c1, a1, a2, a3⟩ := refuse_E (N := N) (w := 30) (p := p) X (by decide)
    unfold bk_Meaning_range_Me_25 bk_Meaning_range_Me_35
    rw [show fn_Checker_refuse_Ch N 30 (nI p) c = some ((), c1) from a1, obind]
    exact ⟨_, rfl, (a3.mono (by decide) (by decide)).upI (by decide), a2⟩
  unfold fn_Meaning_range_Me
  rw [on_go X]
  dsimp only
  rw [if_pos rfl]
  obtain ⟨c1, b1, b2, b3⟩ := bad
  by_cases c1' : l = 0
  · rw [if_pos (show nI l = 0 by rw [c1']; rfl), if_neg (nI_pos (by omega))]
    by_cases c2 : h < 64
    · rw [if_pos (show nI h < 64 from nI_lt (b := 64) c2 (by decide))]
      unfold bk_Meaning_range_Me_35
      rw [nI_1]
      have e : Eb [242, 243, 248] [] c (upI c 248 (fun _ => nI (h + 1))) := Eb.rfl.upI (by decide)
      exact ⟨_, rfl, e, fun z => absurd z (by omega), fun _ => ⟨X, rfl⟩⟩
    · rw [if_neg (show ¬ nI h < 64 from nI_nlt (b := 64) (by omega) (by omega))]
      exact ⟨c1, b1, b2, fun _ => b3, fun z => absurd z (by omega)⟩
  · rw [if_neg (show ¬ nI l = 0 from fun z => c1' ((nI_eq (b := 0) (by omega) (by omega)).mp z))]
    exact ⟨c1, b1, b2, fun _ => b3, fun z => absurd z (by omega)⟩
/-- the range of a declaration -/
theorem rng_C {x : Int32} (T' : Tv tk pl nt) (hK : KS tk pl vl wi wd nt ex nw lit lc c) (hG : CG tk pl nt ex c σ) (hs : σ.2.2.1 = 0 → (∀ fp, μ = some fp → Off c fp.1 fp.2) ∧ (μ = none → Xc c T sz C ∧ c.1 248 0 = nI 1)) :
    ∃ c1 σ1, gRange tk pl σ = some σ1 ∧ fn_Grammar_declaration_Gr N x c = bk_Grammar_declaration_Gr_91 N x c1 ∧ CG tk pl nt ex c1 σ1 ∧ Eb [213, 214, 215, 216, 217, 218, 219, 242, 243, 248] [] c c1 ∧ σ.1 ≤ σ1.1 ∧ (σ1.2.2.1 = 0 → σ.2.2.1 = 0 ∧ σ1.2.1 = σ.2.1 ∧ (∀ fp, μ = some fp → Off c1 fp.1 fp.2) ∧ (μ = none → ∃ q, dRng tk pl vl nt σ.1 = some q ∧ (∀ f p, q = .inl (f, p) → Off c1 f p) ∧ (∀ t1 w, q = .inr (t1, w) → t1 = σ1.1 ∧ Xc c1 T sz C ∧ c1.1 248 0 = nI w ∧ 1 ≤ w ∧ w ≤ 64))) := by
  have hnt := T'.2.1
  unfold fn_Grammar_declaration_Gr gRange
  by_cases g : gIs tk 91 σ = true
  · have g' := g
    simp only [gIs, decide_eq_true_eq] at g'
    rw [if_pos g, if_pos (show c.1 214 0 = 91 from kpos (k := 91) hG g'.1 g'.2)]
    obtain ⟨c1, a1, a2, a3⟩ := kopen (N := N) T' 91 (by decide) hG
    obtain ⟨c2, b1, b2, b3⟩ := kneed (N := N) T' 401 (by decide) a2
    obtain ⟨c3, d1, d2, d3⟩ := kneed (N := N) T' 58 (by decide) b2
    obtain ⟨c4, e1, e2, e3⟩ := kneed (N := N) T' 401 (by decide) d2
    obtain ⟨σ5, s1⟩ : ∃ σ', gShut tk pl 93 (gTake tk pl 401 (gTake tk pl 58 (gTake tk pl 401 (gOpen tk pl 91 σ)))) = some σ' := gShut_ex (fun z => by
      obtain ⟨x1, x2, x3⟩ := gTake_al z
      obtain ⟨y1, y2, y3⟩ := gTake_al x1
      obtain ⟨z1, z2, z3⟩ := gTake_al y1
      obtain ⟨w1, w2, w3, w4⟩ := gOpen_al z1
      rw [x3, y3, z3, w4]
      show 0 < σ.2.1 + 1; omega)
    obtain ⟨c5, f1, f2, f3⟩ := kshut (N := N) T' 93 (by decide) e2 s1
    rw [show fn_Tokens_open_Tk N 91 c = some ((), c1) from a1, obind]
    dsimp only
    rw [show fn_Tokens_need_Tk N 3 c1 = some ((), c2) from b1, obind]
    dsimp only
    rw [show fn_Tokens_need_Tk N 58 c2 = some ((), c3) from d1, obind]
    dsimp only
    rw [show fn_Tokens_need_Tk N 3 c3 = some ((), c4) from e1, obind]
    dsimp only
    rw [show fn_Tokens_shut_Tk N 93 c4 = some ((), c5) from f1, obind]
    dsimp only
    have e5 : F7 c c5 := (((a3.trans b3).trans d3).trans e3).trans f3
    have le : σ.1 ≤ σ5.1 := by
      have l1 := gOpen_le (tk := tk) (pl := pl) (k := 91) (σ := σ)
      have l2 := gTake_le (tk := tk) (pl := pl) (k := 401) (σ := gOpen tk pl 91 σ)
      have l3 := gTake_le (tk := tk) (pl := pl) (k := 58) (σ := gTake tk pl 401 (gOpen tk pl 91 σ))
      have l4 := gTake_le (tk := tk) (pl := pl) (k := 401) (σ := gTake tk pl 58 (gTake tk pl 401 (gOpen tk pl 91 σ)))
      have l5 := gShut_le s1
      omega
    by_cases al : σ5.2.2.1 = 0
    · obtain ⟨v1, v2, v2b, v3⟩ := gShut_al s1 al
      obtain ⟨x1, x2, x3⟩ := gTake_al v1
      obtain ⟨y1, y2, y3⟩ := gTake_al x1
      obtain ⟨z1, z2, z3⟩ := gTake_al y1
      obtain ⟨w1, w2, w3, w4⟩ := gOpen_al z1
      rw [x3, y3, z3, w4] at v2 v3 v2b
      rw [y3, z3, w4] at x2
      rw [z3, w4] at y2
      rw [w4] at z2
      rw [w4] at a2
      rw [y3, z3, w4] at d2
      have z2' : tk (σ.1 + 1) = 401 := z2
      have x2' : tk (σ.1 + 3) = 401 := x2
      have t5 := f2.2.1
      rw [v3] at t5
      have t5' : σ.1 + 5 < nt := t5
      have p0 : c.1 215 0 = nI (pl σ.1) := (hG.2.2.2.1 w1).2.2.1
      have h1 := (hK.2.2.2.2.1 (σ.1 + 1) (by omega) z2')
      have h3 := (hK.2.2.2.2.1 (σ.1 + 3) (by omega) x2')
      have q1 : c1.1 216 0 = nI (vl (σ.1 + 1)) := by rw [(a2.2.2.2.1 w1).2.2.2.1]; exact h1.1
      have q3 : c3.1 216 0 = nI (vl (σ.1 + 3)) := by rw [(d2.2.2.2.1 w1).2.2.2.1]; exact h3.1
      rw [p0, q1, q3]
      have rr : dRng tk pl vl nt σ.1 = if 63 < vl (σ.1 + 1) ∨ vl (σ.1 + 3) ≠ 0 then some (.inl (30, pl σ.1)) else some (.inr (σ.1 + 5, vl (σ.1 + 1) + 1)) := by
        unfold dRng
        rw [if_pos w2, if_neg (by rintro (z | z | z); omega; exact z z2'; exact z x2')]
      have a17 : c5.1 217 0 = nI 0 := f2.alive al
      have fin : ∀ c6, fn_Meaning_range_Me N (nI (pl σ.1)) (nI (vl (σ.1 + 1))) (nI (vl (σ.1 + 3))) c5 = some ((), c6) → Eb [242, 243, 248] [] c5 c6 → ((∀ fp, μ = some fp → Off c6 fp.1 fp.2) ∧ (μ = none → ∃ q, dRng tk pl vl nt σ.1 = some q ∧ (∀ f p, q = .inl (f, p) → Off c6 f p) ∧ (∀ t1 w, q = .inr (t1, w) → t1 = σ5.1 ∧ Xc c6 T sz C ∧ c6.1 248 0 = nI w ∧ 1 ≤ w ∧ w ≤ 64))) → ∃ c1 σ1, gShut tk pl 93 (gTake tk pl 401 (gTake tk pl 58 (gTake tk pl 401 (gOpen tk pl 91 σ)))) = some σ1 ∧ ((fn_Meaning_range_Me N (nI (pl σ.1)) (nI (vl (σ.1 + 1))) (nI (vl (σ.1 + 3))) c5).bind (fun q_11 => bk_Grammar_declaration_Gr_91 N x q_11.2)) = bk_Grammar_declaration_Gr_91 N x c1 ∧ CG tk pl nt ex c1 σ1 ∧ Eb [213, 214, 215, 216, 217, 218, 219, 242, 243, 248] [] c c1 ∧ σ.1 ≤ σ1.1 ∧ (σ1.2.2.1 = 0 → σ.2.2.1 = 0 ∧ σ1.2.1 = σ.2.1 ∧ (∀ fp, μ = some fp → Off c1 fp.1 fp.2) ∧ (μ = none → ∃ q, dRng tk pl vl nt σ.1 = some q ∧ (∀ f p, q = .inl (f, p) → Off c1 f p) ∧ (∀ t1 w, q = .inr (t1, w) → t1 = σ1.1 ∧ Xc c1 T sz C ∧ c1.1 248 0 = nI w ∧ 1 ≤ w ∧ w ≤ 64))) := by
        intro c6 m1 m2 m3
        refine ⟨c6, σ5, s1, by rw [m1, obind], f2.mono m2 (fun k _ _ => by simp; omega) (by decide), (e5.mono (by decide) (by decide)).trans (m2.mono (by decide) (by decide)), le, fun _ => ⟨w1, ?_, m3⟩⟩
        rw [v3]
        show σ.2.1 + 1 - 1 = σ.2.1
        omega
      cases hμ : μ with
      | some fp =>
        have o := ((hs w1).1 fp hμ).mono e5 (by decide) (by decide)
        have := fin c5 (off_range o.off) Eb.rfl ⟨fun q z => (by rw [hμ] at z; cases z; exact o), fun z => (by rw [hμ] at z; cases z)⟩
        rw [hμ] at this; exact this
      | none =>
        obtain ⟨X, -⟩ := (hs w1).2 hμ
        have X5 : Xc c5 T sz C := X.mono e5 (by decide) a17
        obtain ⟨c6, m1, m2, m3, m4⟩ := range_C (N := N) (p := pl σ.1) X5 h1.2 h3.2
        have := fin c6 m1 m2 ⟨fun q z => (by rw [hμ] at z; cases z), fun _ => ?_⟩
        · rw [hμ] at this; exact this
        · rw [rr]
          by_cases z : 63 < vl (σ.1 + 1) ∨ vl (σ.1 + 3) ≠ 0
          · rw [if_pos z]
            exact ⟨_, rfl, fun f p y => (by cases y; exact m3 z), fun _ _ y => (by cases y)⟩
          · rw [if_neg z]
            refine ⟨_, rfl, fun _ _ y => (by cases y), fun t1 w y => ?_⟩
            cases y
            exact ⟨by rw [v3]; rfl, (m4 z).1, (m4 z).2, by omega, by omega⟩
    · rw [off_range (Or.inr (f2.dead al)), obind]
      exact ⟨c5, σ5, s1, rfl, f2, e5.mono (by decide) (by decide), le, fun z => absurd z al⟩
  · rw [if_neg g, if_neg (show ¬ c.1 214 0 = 91 from kneg (k := 91) T' hG (by decide) (fun z y => g (gIs_t z y)))]
    refine ⟨c, σ, rfl, rfl, hG, Eb.rfl, Nat.le_refl _, fun z => ⟨z, rfl, (hs z).1, fun y => ⟨.inr (σ.1, 1), ?_, fun _ _ q => (by cases q), fun t1 w q => ?_⟩⟩⟩
    · unfold dRng
      rw [if_neg (fun q => g (gIs_t z q))]
    · cases q
      exact ⟨rfl, ((hs z).2 y).1, ((hs z).2 y).2, by omega, by omega⟩
end CDEC
