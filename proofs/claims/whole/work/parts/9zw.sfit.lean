/-! What statements mean: without settings nothing; and values fit. -/
def Vn (nm : Nat → Option (Nat × Nat)) (v : Nat → Int64) : Prop := ∀ i q, nm i = some q → Fw (v q.1) q.2
def DG (nm : Nat → Option (Nat × Nat)) (rg : Nat → Bool) (b : Bool) (D : DT) : Prop := (b = false → ∀ v n, D v n = n) ∧ (∀ v n, Vn nm v → Vn nm n → Vn nm (D v n)) ∧ (∀ v n d, (∀ i q, nm i = some q → q.1 = d → rg d = false) → D v n d = n d) ∧ ∀ v n n' d, n d = n' d → D v n d = D v n' d
def SG (nm : Nat → Option (Nat × Nat)) (rg : Nat → Bool) (r : sr) : Prop := ∀ t S b D C, r = some (.inr (t, S, b, D, C)) → DG nm rg b D
def KG (nm : Nat → Option (Nat × Nat)) (rg : Nat → Bool) (r : cr) : Prop := ∀ t S b F C, r = some (.inr (t, S, b, F, C)) → ∀ x, DG nm rg b (F x)
theorem Fw.andl {a : Int64} {w : Nat} (h : Fw a w) (b : Int64) : Fw (a &&& b) w := by
  obtain ⟨n, h1, rfl⟩ := h
  rw [lN_of b, lN_and]
  exact ⟨_, Nat.lt_of_le_of_lt Nat.and_le_left h1, rfl⟩
theorem aSt_fit {h l w : Nat} {n x : Int64} (hl : l ≤ h) (hh : h < w) (hn : Fw n w) (hx : Fw x (h - l + 1)) : Fw (aSt h l n x) w := by
  unfold aSt
  exact (hn.andl _).or (hx.shl.up (by omega))
section SFIT
variable {tk pl vl wi : Nat → Nat} {nm : Nat → Option (Nat × Nat)} {nt N an : Nat} {rg : Nat → Bool} {W : Nat → Nat}
theorem eF_ok (hl : ∀ i, tk i = 402 → vl i < 2 ^ wi i ∧ 1 ≤ wi i ∧ wi i ≤ 64) (hn : ∀ i q, nm i = some q → 1 ≤ q.2 ∧ q.2 ≤ 64) {t w t1 C : Nat} {L : List aop} (e : eF tk pl vl wi nm nt N t = some (.inr (w, t1, L, C))) : 1 ≤ w ∧ w ≤ 64 ∧ Ty nm L [] [w] ∧ Hk 900 L 0 1 := by
  unfold eF at e
  match er : eE tk pl vl wi nm nt N t with
  | none => rw [er] at e; cases e
  | some (.inl f) => rw [er] at e; cases e
  | some (.inr q) =>
    rw [er] at e
    dsimp only at e
    split at e
    · rename_i hh
      cases e
      have := (eG_ty hl hn 400).1 t w t1 L C er
      exact ⟨this.1, this.2.1, this.2.2, hkB_iff.mp hh⟩
    · cases e
theorem sSe_G (hl : ∀ i, tk i = 402 → vl i < 2 ^ wi i ∧ 1 ≤ wi i ∧ wi i ≤ 64) (hn : ∀ i q, nm i = some q → 1 ≤ q.2 ∧ q.2 ≤ 64) (hW : ∀ i q, nm i = some q → q.2 = W q.1) {d h l t : Nat} {S : Nat → Nat} (h1 : l ≤ h) (h2 : h < W d) (h3 : ∃ i q, nm i = some q ∧ q.1 = d ∧ rg d = true) : SG nm rg (sSe tk pl vl wi nm nt N an d h l t S) := by
  intro t1 S1 b D C e
  unfold sSe at e
  split at e
  · cases e
  rcases sx_some e with ⟨f, p, -, z⟩ | ⟨w, t2, L, C2, er, e⟩
  · cases z
  split at e
  · rename_i hw
    cases e
    obtain ⟨w1, w2, w3, w4⟩ := eF_ok hl hn er
    refine ⟨fun z => (by cases z), fun v n hv hN i q hq => ?_, fun v n d' hd' => ?_, fun v n n' d' e => ?_⟩
    rotate_left
    rotate_left
    · show vp_updL n d (aSt h l (n d) _) d' = vp_updL n' d (aSt h l (n' d) _) d'
      by_cases z : d' = d
      · rw [z, updL_at, updL_at, ← z, e]
      · rw [updL_ne z, updL_ne z]; exact e
    rotate_left
    · obtain ⟨i, q, q1, q2, q3⟩ := h3
      by_cases z : d' = d
      · have := hd' i q q1 (by rw [q2, z])
        rw [z, q3] at this
        cases this
      · show vp_updL n d _ d' = n d'
        rw [updL_ne z]
    by_cases z : q.1 = d
    · show Fw (vp_updL n d _ q.1) q.2
      rw [z, updL_at, hW i q hq, z]
      refine aSt_fit h1 h2 ?_ (by rw [← hw]; exact xval_fit hv w3 w4)
      have := hN i q hq
      rw [z, hW i q hq, z] at this
      exact this
    · show Fw (vp_updL n d _ q.1) q.2
      rw [updL_ne z]
      exact hN i q hq
  · cases e
theorem sSet_G (hl : ∀ i, tk i = 402 → vl i < 2 ^ wi i ∧ 1 ≤ wi i ∧ wi i ≤ 64) (hn : ∀ i q, nm i = some q → 1 ≤ q.2 ∧ q.2 ≤ 64) (hW : ∀ i q, nm i = some q → q.2 = W q.1) {t : Nat} {S : Nat → Nat} : SG nm rg (sSet tk pl vl wi nm nt rg N an t S) := by
  intro t1 S1 b D C e
  unfold sSet at e
  split at e
  · cases e
  split at e
  · cases e
  · rename_i q hq
    have q1 := hn t q hq
    have q2 := hW t q hq
    split at e
    · cases e
    rename_i rgn
    have h3 : ∃ i p, nm i = some p ∧ p.1 = q.1 ∧ rg q.1 = true := ⟨t, q, hq, rfl, by cases hh : rg q.1 with | true => rfl | false => exact absurd hh rgn⟩
    split at e
    · cases e
    split at e
    · split at e
      · cases e
      · split at e
        · cases e
        · exact sSe_G hl hn hW (by omega) (by omega) h3 _ _ _ _ _ e
    · exact sSe_G hl hn hW (by omega) (by omega) h3 _ _ _ _ _ e
theorem sBl_G {sS : Nat → (Nat → Nat) → sr} (hS : ∀ t S, SG nm rg (sS t S)) : ∀ (n t : Nat) (S : Nat → Nat), SG nm rg (sBl tk nt sS n t S) := by
  intro n
  induction n with
  | zero => intro t S t1 S1 b D C e; cases e
  | succ n ih =>
    intro t S t1 S1 b D C e
    unfold sBl at e
    split at e
    · cases e
    split at e
    · cases e
      exact ⟨fun _ _ _ => rfl, fun _ _ _ h => h, fun _ _ _ _ => rfl, fun _ _ _ _ h => h⟩
    rcases sb_some e with ⟨f, p, -, z⟩ | ⟨t2, S2, b2, D2, C2, e2, e⟩
    · cases z
    rcases sb_some e with ⟨f, p, -, z⟩ | ⟨t3, S3, b3, D3, C3, e3, e⟩
    · cases z
    cases e
    obtain ⟨x1, x2, x3, x4⟩ := hS _ _ _ _ _ _ _ e2
    obtain ⟨y1, y2, y3, y4⟩ := ih _ _ _ _ _ _ _ e3
    refine ⟨fun z v n => ?_, fun v n hv hN => y2 v _ hv (x2 v n hv hN), fun v n d hd => by show D3 v (D2 v n) d = n d; rw [y3 v _ d hd, x3 v n d hd], fun v n n' d h => y4 v _ _ d (x4 v n n' d h)⟩
    rw [Bool.or_eq_false_iff] at z
    show D3 v (D2 v n) = n
    rw [y1 z.2, x1 z.1]
theorem sIf_G {sS : Nat → (Nat → Nat) → sr} (hS : ∀ t S, SG nm rg (sS t S)) (t : Nat) (S : Nat → Nat) : SG nm rg (sIf tk pl vl wi nm nt N sS t S) := by
  intro t1 S1 b D C e
  unfold sIf at e
  rcases sx_some e with ⟨f, p, -, z⟩ | ⟨w, t2, L, C2, er, e⟩
  · cases z
  rcases sb_some e with ⟨f, p, -, z⟩ | ⟨t3, S3, b3, D3, C3, e3, e⟩
  · cases z
  obtain ⟨x1, x2, x3, x4⟩ := hS _ _ _ _ _ _ _ e3
  split at e
  · cases e
  split at e
  · rcases sb_some e with ⟨f, p, -, z⟩ | ⟨t4, S4, b4, D4, C4, e4, e⟩
    · cases z
    cases e
    obtain ⟨y1, y2, y3, y4⟩ := hS _ _ _ _ _ _ _ e4
    refine ⟨fun z v n => ?_, fun v n hv hN => ?_, fun v n d hd => ?_, fun v n n' d h => ?_⟩
    · rw [Bool.or_eq_false_iff] at z
      dsimp only
      rw [y1 z.2, x1 z.1]
      split <;> rfl
    · dsimp only
      split
      · exact y2 v n hv hN
      · exact x2 v n hv hN
    · dsimp only
      split
      · exact y3 v n d hd
      · exact x3 v n d hd
    · dsimp only
      split
      · exact y4 v n n' d h
      · exact x4 v n n' d h
  · cases e
    refine ⟨fun z v n => ?_, fun v n hv hN => ?_, fun v n d hd => ?_, fun v n n' d h => ?_⟩
    · dsimp only
      rw [x1 z]
      split <;> rfl
    · dsimp only
      split
      · exact hN
      · exact x2 v n hv hN
    · dsimp only
      split
      · rfl
      · exact x3 v n d hd
    · dsimp only
      split
      · exact h
      · exact x4 v n n' d h
theorem sCl_G {sS : Nat → (Nat → Nat) → sr} {w : Nat} (hS : ∀ t S, SG nm rg (sS t S)) : ∀ (n t : Nat) (S : Nat → Nat), KG nm rg (sCl tk pl vl wi nt N sS w n t S) := by
  intro n
  induction n with
  | zero => intro t S t1 S1 b F C e; cases e
  | succ n ih =>
    intro t S t1 S1 b F C e x
    unfold sCl at e
    split at e
    · cases e
    split at e
    · split at e
      · cases e
      · cases e
      · split at e
        · cases e
        · cases e
        · rename_i t2 S2 b2 D2 C2 e2
          split at e
          · cases e
          · cases e
          · rename_i t3 S3 b3 F3 C3 e3
            cases e
            obtain ⟨x1, x2, x3, x4⟩ := hS _ _ _ _ _ _ _ e2
            obtain ⟨y1, y2, y3, y4⟩ := ih _ _ _ _ _ _ _ e3 x
            refine ⟨fun z v n => ?_, fun v n hv hN => ?_, fun v n d hd => ?_, fun v n n' d h => ?_⟩
            · rw [Bool.or_eq_false_iff] at z
              dsimp only
              rw [y1 z.2, x1 z.1]
              split <;> rfl
            · dsimp only
              split
              · exact x2 v n hv hN
              · exact y2 v n hv hN
            · dsimp only
              split
              · exact x3 v n d hd
              · exact y3 v n d hd
            · dsimp only
              split
              · exact x4 v n n' d h
              · exact y4 v n n' d h
    · split at e
      · split at e
        · cases e
        · cases e
        · rename_i t2 S2 b2 D2 C2 e2
          split at e
          · cases e
          · cases e
            exact hS _ _ _ _ _ _ _ e2
      · cases e
        exact ⟨fun _ _ _ => rfl, fun _ _ _ h => h, fun _ _ _ _ => rfl, fun _ _ _ _ h => h⟩
theorem sCa_G {sS : Nat → (Nat → Nat) → sr} (hS : ∀ t S, SG nm rg (sS t S)) (t : Nat) (S : Nat → Nat) : SG nm rg (sCa tk pl vl wi nm nt N sS t S) := by
  intro t1 S1 b D C e
  unfold sCa at e
  rcases sx_some e with ⟨f, p, -, z⟩ | ⟨w, t2, L, C2, er, e⟩
  · cases z
  split at e
  · cases e
  · cases e
  · rename_i t3 S3 b3 F C3 e3
    cases e
    have k := sCl_G hS _ _ _ _ _ _ _ _ e3
    exact ⟨fun z v n => (k (xval v L)).1 z v n, fun v n hv hN => (k (xval v L)).2.1 v n hv hN, fun v n d hd => (k (xval v L)).2.2.1 v n d hd, fun v n n' d h => (k (xval v L)).2.2.2 v n n' d h⟩
theorem sT_G (hl : ∀ i, tk i = 402 → vl i < 2 ^ wi i ∧ 1 ≤ wi i ∧ wi i ≤ 64) (hn : ∀ i q, nm i = some q → 1 ≤ q.2 ∧ q.2 ≤ 64) (hW : ∀ i q, nm i = some q → q.2 = W q.1) : ∀ d, (∀ t S, SG nm rg ((sT tk pl vl wi nm nt rg N an d).1 t S)) ∧ ∀ t S, SG nm rg ((sT tk pl vl wi nm nt rg N an d).2 t S) := by
  intro d
  induction d with
  | zero => exact ⟨fun t S t1 S1 b D C e => (by cases e), fun t S t1 S1 b D C e => (by cases e)⟩
  | succ d ih =>
    obtain ⟨i1, i2⟩ := ih
    refine ⟨fun t S => ?_, fun t S => sCa_G i1 t S⟩
    show SG nm rg (sS1 tk pl vl wi nm nt rg N an _ _ t S)
    unfold sS1
    split
    · exact fun t1 S1 b D C e => (by cases e)
    split
    · exact sBl_G i1 _ _ _
    split
    · exact sIf_G i1 _ _
    split
    · exact i2 _ _
    · exact sSet_G hl hn hW
end SFIT
