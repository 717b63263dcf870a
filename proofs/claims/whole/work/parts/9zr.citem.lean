/-! The class: an item; all items of a module. -/
section CITEM
variable {tk pl vl wi wd : Nat → Nat} {nt nw N N0 N1 lc : Nat} {ex : Nat → Int32} {lit : Nat → Int64} {c c' c0 : ms} {A : ds} {m t sz C I K : Nat} {σ σ' : gs} {μ : Option (Nat × Nat)}
theorem item_C (T' : Tv tk pl nt) (hV : Vb tk vl wi) (hN : 40000 < N) (hN1 : 12002 < N1) (hN0 : 12002 < N0) (hK : KS tk pl vl wi wd nt ex nw lit lc c) (h0 : σ.2.2.1 = 0) (h2 : c.1 264 0 = 2) (h271 : c.1 271 0 = nI 0) (hG : CG tk pl nt ex c σ) (hkk : tk σ.1 ≠ 301) (hs : Md tk pl wd nt nw lit lc A σ.1 sz c μ) (hP : μ = none → PF A) :
    ∃ σ', gItem tk pl N1 σ = some σ' ∧ (DeadS 4 tk pl nt ex N c σ σ' ∨ ItPost tk pl wd nt nw ex N lit lc c σ σ' μ (dItem tk pl vl wi wd nt N0 σ.1 A)) := by
  have is : ∀ k, gIs tk k σ = decide (tk σ.1 = k) := fun k => by
    unfold gIs
    simp only [h0, true_and]
  have one : ∀ k, tk σ.1 = k → k ≠ 403 → k ≠ 404 → ∀ r, dItem tk pl vl wi wd nt N0 σ.1 A = (if nt ≤ σ.1 + 1 then none else r) → dItem tk pl vl wi wd nt N0 σ.1 A = r := fun k hk k1 k2 r hr => by
    have := T'.more hG.2.1 hk k1 k2
    rw [hr, if_neg (by omega)]
  unfold gItem
  rw [is 304, is 305, is 306, is 307, is 317]
  simp only [decide_eq_true_eq]
  have A0 : ∃ A3 t3, WF tk nt A3 t3 ∧ t3 ≤ σ.1 ∧ (μ = none → A3 = A) ∧ Md tk pl wd nt nw lit lc A3 t3 sz c μ := by
    cases h3 : μ with
    | some fp => exact ⟨dA0, 0, wfA0, Nat.zero_le _, fun z => (by cases z), fun q z => (by cases z; exact hs.1 fp h3), fun z => (by cases z)⟩
    | none => exact ⟨A, σ.1, (hs.2 h3).p1, Nat.le_refl _, fun _ => rfl, fun q z => (by cases z), fun _ => hs.2 h3⟩
  obtain ⟨A3, t3, w1, w2, w3, w4⟩ := A0
  have dcl : ∀ (k kk : Nat) (r : Bool), ((kk = 304 ∧ k = 3 ∧ r = false) ∨ (kk = 305 ∧ k = 4 ∧ r = true)) → tk σ.1 = kk → ∃ σ', ((gDcl tk pl r (gInc σ)).bind (fun σ => some (gTake tk pl 59 σ))) = some σ' ∧ (DeadS 4 tk pl nt ex N c σ σ' ∨ ItPost tk pl wd nt nw ex N lit lc c σ σ' μ (db (dDecl tk pl vl wi wd nt k (σ.1 + 1) A) (fun t1 A1 => if nt ≤ t1 then none else dok (t1 + 1) A1))) := by
    intro k kk r h hkk
    obtain ⟨σ', g1, g2⟩ := it_decl (N := N) T' hV h hK h0 h2 h271 hG hkk w1 w2 w4
    refine ⟨σ', g1, g2.imp (fun z => z) (fun ⟨k2, c', sz', y1, y2, y3, y4, y5, y6, y7, y8, y9, y10⟩ => ⟨k2, c', sz', y1, y2, y3, y4, y5, y6, y7, y8, y9, y10.glue (fun fp z => z) (fun z => ⟨fun fp w => (by rw [z] at w; cases w), fun w => by rw [w3 z]⟩)⟩)⟩
  by_cases k304 : tk σ.1 = 304
  · rw [if_pos k304]
    obtain ⟨σ', g1, g2⟩ := dcl 3 304 false (Or.inl ⟨rfl, rfl, rfl⟩) k304
    refine ⟨σ', ?_, ?_⟩
    · rw [← g1]
      unfold gDcl
      cases gRange tk pl (gInc σ) <;> rfl
    · rw [one 304 k304 (by decide) (by decide) _ (by unfold dItem; rw [if_pos k304])]
      exact g2
  rw [if_neg k304]
  by_cases k305 : tk σ.1 = 305
  · rw [if_pos k305]
    obtain ⟨σ', g1, g2⟩ := dcl 4 305 true (Or.inr ⟨rfl, rfl, rfl⟩) k305
    refine ⟨σ', ?_, ?_⟩
    · rw [← g1]
      unfold gDcl
      cases gRange tk pl (gInc σ) <;> rfl
    · rw [one 305 k305 (by decide) (by decide) _ (by unfold dItem; rw [if_neg k304, if_pos k305])]
      exact g2
  rw [if_neg k305]
  by_cases k306 : tk σ.1 = 306
  · rw [if_pos k306, one 306 k306 (by decide) (by decide) _ (by unfold dItem; rw [if_neg k304, if_neg k305, if_pos k306])]
    exact it_assign T' hV hN hN1 hN0 hK h0 h2 h271 hG k306 hs
  rw [if_neg k306]
  by_cases k307 : tk σ.1 = 307
  · rw [if_pos k307, one 307 k307 (by decide) (by decide) _ (by unfold dItem; rw [if_neg k304, if_neg k305, if_neg k306, if_pos k307])]
    exact it_always T' hV hN hN1 hN0 hK h0 h2 h271 hG k307 hs
  rw [if_neg k307]
  by_cases k317 : tk σ.1 = 317
  · rw [if_pos k317, one 317 k317 (by decide) (by decide) _ (by unfold dItem; rw [if_neg k304, if_neg k305, if_neg k306, if_neg k307, if_pos k317])]
    exact it_assert T' hV hN hN1 hN0 hK h0 h2 h271 hG k317 hs
  rw [if_neg k317]
  by_cases k400 : tk σ.1 = 400
  · rw [one 400 k400 (by decide) (by decide) _ (by unfold dItem; rw [if_neg k304, if_neg k305, if_neg k306, if_neg k307, if_neg k317])]
    exact it_inst T' hV hN hN1 hN0 hK h0 h2 h271 hG k400 hs hP
  · have dd := gNo_al (tk := tk) (pl := pl) (σ := σ) h0
    have gt : gTake tk pl 400 σ = gNo tk pl σ := gTake_f (by rw [is]; simp [k400])
    obtain ⟨c1, a1, a2, a3⟩ := krefuse (N := N) T' hG
    have hmv : mv N c = some ((), c1) := by
      rw [mv2 h2]
      unfold fn_Grammar_item_Gr
      rw [if_neg (show ¬ c.1 214 0 = 2 from kneg (k := 400) T' hG (by decide) (fun _ => k400)), if_neg (show ¬ c.1 214 0 = 129 from kneg (k := 301) T' hG (by decide) (fun _ => hkk)), if_neg (show ¬ c.1 214 0 = 132 from kneg (k := 304) T' hG (by decide) (fun _ => k304)), if_neg (show ¬ c.1 214 0 = 133 from kneg (k := 305) T' hG (by decide) (fun _ => k305)), if_neg (show ¬ c.1 214 0 = 134 from kneg (k := 306) T' hG (by decide) (fun _ => k306)), if_neg (show ¬ c.1 214 0 = 135 from kneg (k := 307) T' hG (by decide) (fun _ => k307)), if_neg (show ¬ c.1 214 0 = 145 from kneg (k := 317) T' hG (by decide) (fun _ => k317)), a1, obind]
    rw [gt, gTake_dead dd, gOpen_dead dd, if_neg (by rw [gIs_dead dd]; decide), gShut_dead dd, obind, gTake_dead dd]
    exact ⟨_, rfl, Or.inl ⟨dd, by rw [gNo_1]; exact Nat.le_refl _, 1, c1, Rc.one (hG.alive h0) (by rw [h2]; decide) hmv, by omega, a2⟩⟩
/-- what a module's items leave -/
def ItsP (tk pl wd : Nat → Nat) (nt nw : Nat) (ex : Nat → Int32) (N : Nat) (lit : Nat → Int64) (lc : Nat) (c : ms) (σ σ' : gs) (μ : Option (Nat × Nat)) (r : dr) : Prop :=
  ∃ k c' sz', Rc N k c c' ∧ k ≤ 4 * (σ'.1 - σ.1) ∧ c'.1 264 0 = 2 ∧ KP c c' ∧ CG tk pl nt ex c' σ' ∧ σ'.2.2.1 = 0 ∧ σ'.2.1 = σ.2.1 ∧ σ.1 ≤ σ'.1 ∧ tk σ'.1 = 301 ∧ c'.1 271 0 = nI 0 ∧ Mr tk pl wd nt nw lit lc μ r σ'.1 sz' c'
theorem items_C (T' : Tv tk pl nt) (hV : Vb tk vl wi) (hN : 40000 < N) (hN1 : 12002 < N1) (hN0 : 12002 < N0) {kk : gs → Option gs} : ∀ (j : Nat) (c : ms) (σ : gs) (A : ds) (sz n n' : Nat) (μ : Option (Nat × Nat)), nt - σ.1 ≤ j → j < n → j < n' → KS tk pl vl wi wd nt ex nw lit lc c → σ.2.2.1 = 0 → c.1 264 0 = 2 → c.1 271 0 = nI 0 → CG tk pl nt ex c σ → Md tk pl wd nt nw lit lc A σ.1 sz c μ → (μ = none → PF A ∧ PC A) →
    ∃ σ', gMl tk pl N1 kk n σ = kk (gTake tk pl 301 σ') ∧ (DeadS 4 tk pl nt ex N c σ σ' ∨ ItsP tk pl wd nt nw ex N lit lc c σ σ' μ (dItems tk pl vl wi wd nt N0 n' σ.1 A)) := by
  have hnt := T'.2.1
  intro j
  induction j with
  | zero =>
    intro c σ A sz n n' μ h1 _ _ _ _ _ _ hG
    have := hG.2.1
    omega
  | succ j ih =>
    intro c σ A sz n n' μ h1 h2 h3 hK h0 h264 h271 hG hs hP
    obtain ⟨n, rfl⟩ : ∃ q, n = q + 1 := ⟨n - 1, by omega⟩
    obtain ⟨n', rfl⟩ : ∃ q, n' = q + 1 := ⟨n' - 1, by omega⟩
    have t0n := hG.2.1
    unfold gMl
    by_cases k301 : tk σ.1 = 301
    · rw [if_neg (fun z => z.2 k301)]
      refine ⟨σ, rfl, Or.inr ⟨0, c, sz, rfl, by omega, h264, Eb.rfl, hG, h0, rfl, Nat.le_refl _, k301, h271, hs.1, fun z => ?_⟩⟩
      refine ⟨.inr (σ.1, A), ?_, fun _ _ y => (by cases y), fun t2 A2 y => (by cases y; exact ⟨rfl, hs.2 z⟩)⟩
      unfold dItems
      rw [if_neg (by omega), if_pos k301]
      rfl
    · rw [if_pos ⟨h0, k301⟩]
      obtain ⟨σ1, g1, g2⟩ := item_C (N0 := N0) (N1 := N1) T' hV hN hN1 hN0 hK h0 h264 h271 hG k301 hs (fun z => (hP z).1)
      rw [g1, obind]
      have un : dItems tk pl vl wi wd nt N0 (n' + 1) σ.1 A = db (dItem tk pl vl wi wd nt N0 σ.1 A) (dItems tk pl vl wi wd nt N0 n') := by
        conv => lhs; unfold dItems
        rw [if_neg (by omega), if_neg k301]
      rcases g2 with dd | ⟨k, c1, sz', q1, q2, q3, q4, q5, q6, q7, q8, q9, q10⟩
      · obtain ⟨n, rfl⟩ : ∃ q, n = q + 1 := ⟨n - 1, by omega⟩
        refine ⟨σ1, ?_, Or.inl dd⟩
        unfold gMl
        rw [if_neg (fun z => dd.1 z.1)]
      · obtain ⟨μ', A', e1, e2, e3⟩ : ∃ μ' A', Md tk pl wd nt nw lit lc A' σ1.1 sz' c1 μ' ∧ (∀ fp, μ = some fp → μ' = some fp) ∧ (μ = none → (∀ fp, μ' = some fp → dItem tk pl vl wi wd nt N0 σ.1 A = some (.inl fp)) ∧ (μ' = none → dItem tk pl vl wi wd nt N0 σ.1 A = some (.inr (σ1.1, A')))) := by
          cases hμ : μ with
          | some fp => exact ⟨some fp, A, ⟨fun q z => (by cases z; exact q10.1 fp hμ), fun z => (by cases z)⟩, fun q z => z, fun z => (by cases z)⟩
          | none =>
            obtain ⟨q, v1, v2, v3⟩ := q10.2 hμ
            cases q with
            | inl fp => exact ⟨some fp, A, ⟨fun q z => (by cases z; exact v2 _ _ rfl), fun z => (by cases z)⟩, fun q z => (by cases z), fun _ => ⟨fun q z => (by cases z; exact v1), fun z => (by cases z)⟩⟩
            | inr q =>
              obtain ⟨t1, A1⟩ := q
              obtain ⟨w1, w2⟩ := v3 _ _ rfl
              subst w1
              exact ⟨none, A1, ⟨fun q z => (by cases z), fun _ => w2⟩, fun q z => (by cases z), fun _ => ⟨fun q z => (by cases z), fun _ => v1⟩⟩
        have mno : μ' = none → μ = none := fun z => by
          cases hμ : μ with
          | none => rfl
          | some fp => have := e2 fp hμ; rw [z] at this; cases this
        obtain ⟨σ', f1, f2⟩ := ih c1 σ1 A' sz' n n' μ' (by omega) (by omega) (by omega) (hK.keep q4 (by decide) (by decide)) q6 q3 q9 q5 e1 (fun z => dItem_P (hP (mno z)).1 (hP (mno z)).2 (hs.2 (mno z)).p1 ((e3 (mno z)).2 z))
        refine ⟨σ', f1, f2.imp (fun dd => dd.after q1 (by omega) (by omega)) (fun ⟨k2, c', sz2, y1, y2, y3, y4, y5, y6, y7, y8, y9, y10, y11⟩ => ?_)⟩
        refine ⟨k + k2, c', sz2, q1.trans y1, by omega, y3, q4.trans y4, y5, y6, by rw [y7, q7], by omega, y9, y10, y11.glue e2 (fun z => ⟨fun fp w => ?_, fun w => ?_⟩)⟩
        · rw [un, (e3 z).1 fp w]
          rfl
        · rw [un, (e3 z).2 w, db_inr]
end CITEM
