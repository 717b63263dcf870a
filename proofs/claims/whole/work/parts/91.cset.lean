/-! The class: a register is set. -/
/-- which registers are set, in the class -/
def R3 (rg : Nat → Bool) (fz : Nat → Int32) (dc : Nat) (c : ms) (S : Nat → Nat) : Prop := (∀ d, d < dc → rg d = true → c.1 326 d = if S d = 0 then -1 else nI (S d)) ∧ (∀ d, S d ≤ 20000) ∧ rg 99999 = true ∧ (∀ d, d < dc → rg d = false → c.1 326 d = fz d)
theorem R3.of {rg : Nat → Bool} {fz : Nat → Int32} {dc : Nat} {c c' : ms} {S : Nat → Nat} (h : R3 rg fz dc c S) (e : c'.1 326 = c.1 326) : R3 rg fz dc c' S := by
  unfold R3 at *
  rw [e]
  exact h
/-- the meaning before a statement -/
def StS (rg : Nat → Bool) (fz : Nat → Int32) (dc : Nat) (c : ms) (μ : Option (Nat × Nat)) (sz C md t : Nat) (S : Nat → Nat) : Prop :=
  (∀ fp, μ = some fp → Off c fp.1 fp.2) ∧ (μ = none → (∃ T, Xc c T sz C) ∧ sz ≤ t ∧ R3 rg fz dc c S ∧ c.1 260 0 = nI md)
/-- and behind it -/
def OutS (e : Nat) (rg : Nat → Bool) (fz : Nat → Int32) (dc fd : Nat) (lit : Nat → Int64) (lc : Nat) (P : Nat → Prop) (c c' : ms) (μ : Option (Nat × Nat)) (sz C md B t t2 : Nat) (r : sr) : Prop :=
  (∀ fp, μ = some fp → Off c' fp.1 fp.2) ∧ (μ = none → ∃ q, r = some q ∧ (∀ f p, q = .inl (f, p) → Off c' f p) ∧ (∀ t' S' bb D CC, q = .inr (t', S', bb, D, CC) → t' = t2 ∧ ∃ sz', (∃ T, Xc c' T sz' (C + CC)) ∧ sz ≤ sz' ∧ sz' + e + t ≤ sz + t2 ∧ R3 rg fz dc c' S' ∧ c'.1 260 0 = nI md ∧ (bb = true → c'.1 255 0 = 1) ∧ (bb = false → c'.1 255 0 = c.1 255 0) ∧ (∀ k, k < sz → c'.2 336 k = c.2 336 k) ∧ (∀ k, k < md → c'.1 256 k = c.1 256 k ∧ c'.1 257 k = c.1 257 k ∧ c'.1 258 k = c.1 258 k ∧ c'.1 259 k = c.1 259 k) ∧ Cg (c'.2 336) fd lit lc P B sz sz' D))
/-- a statement is told: the class is behind it -/
def StPost (tk pl : Nat → Nat) (nt : Nat) (ex : Nat → Int32) (N : Nat) (rg : Nat → Bool) (fz : Nat → Int32) (dc fd : Nat) (lit : Nat → Int64) (lc : Nat) (P : Nat → Prop) (c : ms) (σ σ' : gs) (kd : Nat) (μ : Option (Nat × Nat)) (sz C md : Nat) (r : sr) : Prop :=
  ∃ k c', Rc N k c c' ∧ k + 3 ≤ 3 * (σ'.1 - σ.1) ∧ c'.1 264 0 = 5 ∧ CE2 c c' ∧ CG tk pl nt ex c' σ' ∧ σ'.2.2.1 = 0 ∧ σ'.2.1 = σ.2.1 ∧ σ.1 < σ'.1 ∧ c'.1 271 0 = nI kd ∧ (∀ j, j < kd → c'.1 270 j = c.1 270 j) ∧ OutS 2 rg fz dc fd lit lc P c c' μ sz C md σ.2.1 σ.1 σ'.1 r
section CSET
variable {tk pl vl wi : Nat → Nat} {nm : Nat → Option (Nat × Nat)} {nt : Nat} {ex : Nat → Int32} {N N0 N1 fd lc : Nat} {lit : Nat → Int64} {rg : Nat → Bool} {fz : Nat → Int32} {an dc : Nat} {P : Nat → Prop} {c0 : ms}
theorem mv4 {c : ms} (h : c.1 264 0 = 4) : mv N c = fn_Grammar_statement_Gr N c := by
  unfold mv
  rw [h, if_neg (by decide), if_neg (by decide), if_neg (by decide), if_neg (by decide), if_pos rfl]
theorem mv5 {c : ms} (h : c.1 264 0 = 5) : mv N c = fn_Grammar_behindStatement_Gr N c := by
  unfold mv
  rw [h, if_neg (by decide), if_neg (by decide), if_neg (by decide), if_neg (by decide), if_neg (by decide), if_pos rfl]
theorem mv8 {c : ms} (h : c.1 264 0 = 8) : mv N c = fn_Grammar_behindExp_Gr N c := by
  unfold mv
  rw [h, if_neg (by decide), if_neg (by decide), if_neg (by decide), if_neg (by decide), if_neg (by decide), if_neg (by decide), if_neg (by decide), if_neg (by decide)]
/-- the name is told -/
theorem stTo {c : ms} {σ : gs} {μ : Option (Nat × Nat)} {sz C md : Nat} {S : Nat → Nat} (hQ : CQ tk pl vl wi nm nt ex N N0 N1 fd lit lc rg an dc P c0) (e : CE2 c0 c) (h0 : σ.2.2.1 = 0) (hG : CG tk pl nt ex c σ) (hk : tk σ.1 = 400) (hs : StS rg fz dc c μ sz C md σ.1 S) : ∃ c', fn_Meaning_storeTo_Me N (c.1 216 0) (c.1 215 0) c = some ((), c') ∧ Eb [238, 239, 241, 242, 243, 249, 250, 251, 326, 337] [336] c c' ∧ (∀ fp, μ = some fp → Off c' fp.1 fp.2) ∧ (μ = none → (nm σ.1 = none → Off c' 22 (pl σ.1)) ∧ (∀ q, nm σ.1 = some q → (rg q.1 = false → Off c' 22 (pl σ.1)) ∧ (rg q.1 = true → (S q.1 ≠ 0 ∧ S q.1 ≠ an → Off c' 32 (pl σ.1)) ∧ (¬ (S q.1 ≠ 0 ∧ S q.1 ≠ an) → (∃ T, Xc c' T sz C) ∧ R3 rg fz dc c' (updN S q.1 an) ∧ c'.1 249 0 = nI q.1 ∧ c'.1 250 0 = nI 0 ∧ c'.1 251 0 = nI q.2 ∧ c'.2 336 = c.2 336 ∧ fd ≤ q.1)))) := by
  obtain ⟨T, hN, hN1, hN0, hS, hl, hn, h321, hdc, hfl⟩ := hQ
  have cs := hS c e
  obtain ⟨g1, g2, g3, g4, g5, g6, g7⟩ := hG.2.2.2.1 h0
  obtain ⟨w, e1, e2⟩ := cs.2.2.2.2.2.2.2 _ hG.2.1 hk
  obtain ⟨y, y1, y2, y3, -⟩ := e2 c Eb.rfl
  rw [g4, e1, g3]
  cases hμ : μ with
  | some fp =>
    have o := hs.1 fp hμ
    exact ⟨c, off_storeTo o.off, Eb.rfl, fun q z => (by cases z; exact o), fun z => (by cases z)⟩
  | none =>
    obtain ⟨⟨T0, X⟩, -, r3, -⟩ := hs.2 hμ
    obtain ⟨h253, an1, an2⟩ := hfl r3.2.2.1
    cases hn2 : nm σ.1 with
    | none =>
      obtain ⟨c', a1, a2, a3⟩ := storeTo_no (N := N) (p := pl σ.1) X y1 (y3 hn2)
      exact ⟨c', a1, a3.mono (by decide) (by decide), fun q z => (by cases z), fun _ => ⟨fun _ => a2, fun q z => (by cases z)⟩⟩
    | some q =>
      obtain ⟨z1, z2, z3, z4, z5⟩ := y2 q hn2
      obtain ⟨n1, n2, n3, n4, n5⟩ := hn σ.1 q hn2
      rw [z1] at y1
      obtain ⟨p1, p2, p3⟩ := storeTo_C (N := N) (p := pl σ.1) (dc := dc) X y1 n1 hdc (by rw [e.1 321 (by decide)]; exact h321)
      have e324 : c.1 324 = c0.1 324 := e.1 324 (by decide)
      have e253 : c.1 253 0 = nI an := by rw [e.1 253 (by decide)]; exact h253
      rw [e324] at p1 p2 p3
      rw [e253] at p2 p3
      cases rgq : rg q.1 with
      | false =>
        have : c0.1 324 q.1 ≠ 2 := fun z => by have := n5.mpr z; rw [rgq] at this; cases this
        obtain ⟨c', a1, a2, a3⟩ := p1 this
        refine ⟨c', a1, a3.mono (by decide) (by decide), fun q z => (by cases z), fun _ => ⟨fun z => (by cases z), fun q' z => ?_⟩⟩
        cases z
        exact ⟨fun _ => a2, fun z => (by rw [rgq] at z; cases z)⟩
      | true =>
        have r324 : c0.1 324 q.1 = 2 := n5.mp rgq
        have s3 := r3.1 q.1 n1 rgq
        have sl := r3.2.1 q.1
        by_cases bad : S q.1 ≠ 0 ∧ S q.1 ≠ an
        · rw [if_neg bad.1] at s3
          obtain ⟨c', a1, a2, a3⟩ := p3 r324 (fun z => by
            rw [s3] at z
            rcases z with z | z
            · exact of_eq_false (nm1F (a := S q.1) (by omega)) z
            · exact bad.2 ((nI_eq (by omega) (by omega)).mp z))
          refine ⟨c', a1, a3.mono (by decide) (by decide), fun q z => (by cases z), fun _ => ⟨fun z => (by cases z), fun q' z => ?_⟩⟩
          cases z
          exact ⟨fun z => (by rw [rgq] at z; cases z), fun _ => ⟨fun _ => a2, fun z => absurd bad z⟩⟩
        · obtain ⟨c', a1, a2, a3, a4, a5, a6⟩ := p2 r324 (by
            rw [s3]
            by_cases z : S q.1 = 0
            · rw [if_pos z]; exact Or.inl rfl
            · rw [if_neg z]
              right
              have : S q.1 = an := by
                by_cases y : S q.1 = an
                · exact y
                · exact absurd ⟨z, y⟩ bad
              rw [this])
          refine ⟨c', a1, a6.mono (by decide) (by decide), fun q z => (by cases z), fun _ => ⟨fun z => (by cases z), fun q' z => ?_⟩⟩
          cases z
          refine ⟨fun z => (by rw [rgq] at z; cases z), fun _ => ⟨fun z => absurd z bad, fun _ => ⟨⟨T0, X.keep a6 (by decide)⟩, ⟨fun d hd hr => ?_, fun d => ?_, r3.2.2.1, fun d hd hr => by rw [a2, upd_ne (fun z => by rw [z, rgq] at hr; cases hr)]; exact r3.2.2.2 d hd hr⟩, a3, a4, by rw [a5]; exact z3, a6.2 336 (by decide), z4⟩⟩⟩
          · rw [a2]
            unfold updN
            by_cases dq : d = q.1
            · rw [dq, upd_at, if_pos rfl, if_neg (by omega)]
            · rw [upd_ne dq, if_neg dq]; exact r3.1 d hd hr
          · unfold updN
            split
            · exact an2
            · exact r3.2.1 d
end CSET
