/-! The class's exps against grammar and meaning: what is said. -/
abbrev CE (c c' : ms) : Prop := Eb [213, 214, 215, 216, 217, 218, 219, 238, 239, 241, 242, 243, 264, 272, 273, 274, 275, 337] [336] c c'
section CST
variable {tk pl vl wi : Nat → Nat} {nm : Nat → Option (Nat × Nat)} {nt : Nat} {ex : Nat → Int32} {N N0 N1 fd lc : Nat} {lit : Nat → Int64}
/-- what an exp finds in the class and doesn't change -/
def CS (tk pl vl wi : Nat → Nat) (nm : Nat → Option (Nat × Nat)) (nt : Nat) (ex : Nat → Int32) (N fd : Nat) (lit : Nat → Int64) (lc : Nat) (c : ms) : Prop :=
  CT tk pl nt ex c ∧ c.1 340 0 = nI lc ∧ lc < 13000 ∧ c.1 233 0 = nI fd ∧ c.2 339 = lit ∧
  (∀ i, i < nt → tk i = 401 → ex i = nI (vl i) ∧ vl i < 65536) ∧
  (∀ i, i < nt → tk i = 402 → ∃ l, ex i = nI l ∧ l < lc ∧ c.1 338 l = nI (wi i) ∧ 1 ≤ wi i ∧ wi i ≤ 64 ∧ lit l = lN (vl i)) ∧
  (∀ i, i < nt → tk i = 400 → ∃ w, ex i = nI w ∧ ∀ c', CE c c' → ∃ y, fn_Checker_meantBy_Ch N (nI w) c' = some (y, c') ∧ (∀ q, nm i = some q → y = nI q.1 ∧ q.1 < 10923 ∧ c.1 323 q.1 = nI q.2 ∧ fd ≤ q.1 ∧ 1 ≤ q.2 ∧ q.2 ≤ 64) ∧ (nm i = none → fn_Checker_sortOf_Ch N y c' = some (-1, c')) ∧ (∀ q, nm i = some q → ∃ k, fn_Checker_sortOf_Ch N y c' = some (k, c') ∧ k ≠ -1))
theorem CS.mono {c c' : ms} (h : CS tk pl vl wi nm nt ex N fd lit lc c) (e : CE c c') : CS tk pl vl wi nm nt ex N fd lit lc c' := by
  obtain ⟨⟨h0, h0b⟩, h1, h2, h3, h4, h5, h6, h7⟩ := h
  refine ⟨⟨by rw [e.1 212 (by decide)]; exact h0, by rw [e.2 211 (by decide)]; exact h0b⟩, by rw [e.1 340 (by decide)]; exact h1, h2, by rw [e.1 233 (by decide)]; exact h3, by rw [e.2 339 (by decide)]; exact h4, h5, by rw [e.1 338 (by decide)]; exact h6, fun i hi k => ?_⟩
  obtain ⟨w, w1, w2⟩ := h7 i hi k
  refine ⟨w, w1, fun c2 e2 => ?_⟩
  rw [e.1 323 (by decide)]
  exact w2 c2 (e.trans e2)
/-- the checker before an exp: off with a fault, or on -/
def Stat (c : ms) (μ : Option (Nat × Nat)) (T sz C0 b t : Nat) : Prop :=
  (∀ fp, μ = some fp → Off c fp.1 fp.2) ∧ (μ = none → Xc c T sz C0 ∧ T ≤ b ∧ sz ≤ t)
/-- and behind it -/
def Outc (fd : Nat) (lit : Nat → Int64) (lc : Nat) (c0 c2 : ms) (μ : Option (Nat × Nat)) (T sz C0 t t2 : Nat) (r : xr) : Prop :=
  (∀ fp, μ = some fp → Off c2 fp.1 fp.2) ∧ (μ = none → ∃ q, r = some q ∧ (∀ f p, q = .inl (f, p) → Off c2 f p) ∧ (∀ w t' L C, q = .inr (w, t', L, C) → t' = t2 ∧ t + L.length ≤ t2 ∧ 1 ≤ w ∧ w ≤ 64 ∧ MO fd lit lc c0 T sz C0 c2 [w] L C))
def HoldL (c c' : ms) (h : Nat) : Prop := c'.1 275 0 = nI h ∧ ∀ k, k < h → c'.1 272 k = c.1 272 k ∧ c'.1 273 k = c.1 273 k ∧ c'.1 274 k = c.1 274 k
/-- the grammar has a fault -/
def DeadP (tk pl : Nat → Nat) (nt : Nat) (ex : Nat → Int32) (N : Nat) (c : ms) (σ σ' : gs) : Prop := σ'.2.2.1 ≠ 0 ∧ σ.1 ≤ σ'.1 ∧ ∃ k c', Rc N k c c' ∧ k ≤ 3 * (σ'.1 - σ.1) + 3 ∧ CG tk pl nt ex c' σ'
/-- an exp is told; the move at its end goes on at c2 -/
def ExpPost (tk pl : Nat → Nat) (nt : Nat) (ex : Nat → Int32) (N fd : Nat) (lit : Nat → Int64) (lc : Nat) (c : ms) (σ σ' : gs) (h : Nat) (μ : Option (Nat × Nat)) (T sz C0 : Nat) (r : xr) : Prop :=
  ∃ k c1 c2 f, Rc N k c c1 ∧ k + 2 ≤ 3 * (σ'.1 - σ.1) ∧ c1.1 217 0 = 0 ∧ c1.1 264 0 = 7 ∧ mv N c1 = hd_Grammar_behindOperand_Gr_100 N f c2 ∧ N + σ.2.1 ≤ f + 61 ∧ c2.1 264 0 = 7 ∧ HoldL c c2 h ∧ CE c c2 ∧ CG tk pl nt ex c2 σ' ∧ σ'.2.2.1 = 0 ∧ σ'.2.1 = σ.2.1 ∧ σ.1 < σ'.1 ∧ rk (tk σ'.1) = 0 ∧ tk σ'.1 ≠ 63 ∧ Outc fd lit lc c c2 μ T sz C0 σ.1 σ'.1 r
/-- all exps with m opens left -/
def ExpC (tk pl vl wi : Nat → Nat) (nm : Nat → Option (Nat × Nat)) (nt : Nat) (ex : Nat → Int32) (N N0 N1 fd : Nat) (lit : Nat → Int64) (lc m : Nat) : Prop :=
  ∀ D D2 c σ h μ T sz C0, 3 * m + 2 ≤ D → 5 * m ≤ D2 → σ.2.1 + m = 61 → σ.2.2.1 = 0 → CS tk pl vl wi nm nt ex N fd lit lc c → CG tk pl nt ex c σ → c.1 264 0 = 6 → c.1 275 0 = nI h → h ≤ 12 * σ.2.1 → Hb c h → Stat c μ T sz C0 (12 * σ.2.1) σ.1 →
    ∃ σ', (gG tk pl N1 D).1 σ = some σ' ∧ (DeadP tk pl nt ex N c σ σ' ∨ ExpPost tk pl nt ex N fd lit lc c σ σ' h μ T sz C0 ((eG tk pl vl wi nm nt N0 D2).1 σ.1))
/-- an operand is told, but for signs before it -/
def PriPost (tk pl : Nat → Nat) (nt : Nat) (ex : Nat → Int32) (N fd : Nat) (lit : Nat → Int64) (lc : Nat) (c : ms) (σ σ' : gs) (h : Nat) (μ : Option (Nat × Nat)) (T sz C0 : Nat) (r : xr) : Prop :=
  ∃ k c2, Rc N k c c2 ∧ k + 2 ≤ 3 * (σ'.1 - σ.1) ∧ c2.1 264 0 = 7 ∧ HoldL c c2 h ∧ CE c c2 ∧ CG tk pl nt ex c2 σ' ∧ σ'.2.2.1 = 0 ∧ σ'.2.1 = σ.2.1 ∧ σ.1 < σ'.1 ∧ Outc fd lit lc c c2 μ T sz C0 σ.1 σ'.1 r
theorem CG.alive {c : ms} {σ : gs} (h : CG tk pl nt ex c σ) (h0 : σ.2.2.1 = 0) : c.1 217 0 = 0 := (h.2.2.2.1 h0).2.2.2.2.1
theorem CG.dead {c : ms} {σ : gs} (h : CG tk pl nt ex c σ) (h0 : σ.2.2.1 ≠ 0) : ¬ c.1 217 0 = 0 := by
  rw [(h.2.2.2.2 h0).1]
  have := h.2.2.1
  exact fun q => h0 ((nI_eq (b := 0) (by omega) (by omega)).mp q)
theorem F7.toCE {c c' : ms} (h : F7 c c') : CE c c' := h.mono (by decide) (by decide)
theorem XE.toCE {c c' : ms} (h : XE c c') : CE c c' := h.mono (by decide) (by decide)
/-! behind a grammar's fault all functions of the grammar leave it -/
theorem gIs_dead {σ : gs} (h : σ.2.2.1 ≠ 0) (k : Nat) : gIs tk k σ = false := by simp [gIs, h]
theorem gNo_dead {σ : gs} (h : σ.2.2.1 ≠ 0) : gNo tk pl σ = σ := if_neg h
theorem gTake_dead {σ : gs} (h : σ.2.2.1 ≠ 0) (k : Nat) : gTake tk pl k σ = σ := by unfold gTake; rw [gIs_dead h, if_neg (by decide), gNo_dead h]
theorem gOpen_dead {σ : gs} (h : σ.2.2.1 ≠ 0) (k : Nat) : gOpen tk pl k σ = σ := by unfold gOpen; rw [gIs_dead h, if_neg (by decide), gNo_dead h]
theorem gDn_dead {σ : gs} (h : σ.2.2.1 ≠ 0) : gDn σ = some σ := if_neg h
theorem gShut_dead {σ : gs} (h : σ.2.2.1 ≠ 0) (k : Nat) : gShut tk pl k σ = some σ := by unfold gShut; rw [gTake_dead h, gDn_dead h]
theorem gO_dead {σ : gs} {d : Nat} (h : σ.2.2.1 ≠ 0) (hN : 0 < N1) : (gG tk pl N1 (d + 1)).2.1 σ = some σ := by
  obtain ⟨n, rfl⟩ : ∃ n, N1 = n + 1 := ⟨N1 - 1, by omega⟩
  show gOl tk pl _ _ (n + 1) σ = some σ
  unfold gOl
  rw [if_neg (fun z => h z.1)]
  unfold gPri
  rw [gIs_dead h, gIs_dead h, gIs_dead h, gIs_dead h, gNo_dead h]
  simp
theorem gE_dead {σ : gs} {d : Nat} (h : σ.2.2.1 ≠ 0) (hN : 0 < N1) : (gG tk pl N1 (d + 2)).1 σ = some σ := by
  show gX1 tk pl N1 _ (gG tk pl N1 (d + 1)).2.1 σ = some σ
  unfold gX1
  rw [gO_dead h hN]
  obtain ⟨n, rfl⟩ : ∃ n, N1 = n + 1 := ⟨N1 - 1, by omega⟩
  show gXl tk pl _ _ (n + 1) σ = some σ
  unfold gXl
  rw [if_neg (fun z => h z.1)]
  unfold gXf
  rw [gIs_dead h, if_neg (by decide)]
theorem gE_dead2 {σ : gs} {d : Nat} (h : σ.2.2.1 ≠ 0) (hN : 0 < N1) (hd : 2 ≤ d) : (gG tk pl N1 d).1 σ = some σ := by
  obtain ⟨d, rfl⟩ : ∃ d', d = d' + 2 := ⟨d - 2, by omega⟩
  exact gE_dead h hN
/-! live ones -/
theorem gIs_t {σ : gs} {k : Nat} (h0 : σ.2.2.1 = 0) (hk : tk σ.1 = k) : gIs tk k σ = true := by simp [gIs, h0, hk]
theorem gIs_f {σ : gs} {k : Nat} (hk : tk σ.1 ≠ k) : gIs tk k σ = false := by simp [gIs, hk]
theorem gOpen_live {σ : gs} {k : Nat} (h0 : σ.2.2.1 = 0) (hk : tk σ.1 = k) : gOpen tk pl k σ = (if 60 ≤ σ.2.1 then (σ.1, σ.2.1, 3, pl σ.1) else (σ.1 + 1, σ.2.1 + 1, σ.2.2)) := by unfold gOpen; rw [gIs_t h0 hk, if_pos rfl]
theorem gTake_cases (k : Nat) (σ : gs) (h0 : σ.2.2.1 = 0) : (tk σ.1 = k ∧ gTake tk pl k σ = gInc σ) ∨ (tk σ.1 ≠ k ∧ gTake tk pl k σ = gNo tk pl σ ∧ (gTake tk pl k σ).2.2.1 ≠ 0 ∧ (gTake tk pl k σ).1 = σ.1) := by
  unfold gTake
  by_cases c : tk σ.1 = k
  · left; rw [gIs_t h0 c, if_pos rfl]; exact ⟨c, rfl⟩
  · right
    rw [gIs_f c, if_neg (by decide)]
    refine ⟨c, rfl, ?_, ?_⟩
    · unfold gNo; rw [if_pos h0]; dsimp only; split <;> decide
    · unfold gNo; rw [if_pos h0]
/-- a closing sign: taken, or a fault -/
theorem gShut_cases (k : Nat) (σ : gs) (h0 : σ.2.2.1 = 0) (hd : 0 < σ.2.1) : (tk σ.1 = k ∧ gShut tk pl k σ = some (σ.1 + 1, σ.2.1 - 1, σ.2.2)) ∨ (tk σ.1 ≠ k ∧ ∃ σ', gShut tk pl k σ = some σ' ∧ σ'.2.2.1 ≠ 0 ∧ σ'.1 = σ.1) := by
  unfold gShut
  rcases gTake_cases (pl := pl) k σ h0 with ⟨a, b⟩ | ⟨a, b, c, d⟩
  · left
    rw [b]
    unfold gDn gInc
    rw [if_pos h0, if_neg (by show ¬ σ.2.1 = 0; omega)]
    exact ⟨a, rfl⟩
  · right
    exact ⟨a, _, gDn_dead c, c, d⟩
end CST
