/-! Runs of code: the reference's and the class's, step by step. -/
abbrev vst : Type := Nat × List Int64 × (Nat → Int64)
def Rn (step : vst → vst → Prop) : Nat → vst → vst → Prop
  | 0, a, b => a = b
  | k + 1, a, b => ∃ c, step a c ∧ Rn step k c b
def Rt (step : vst → vst → Prop) (a b : vst) : Prop := ∃ k, Rn step k a b
theorem Rn.trans {step : vst → vst → Prop} : ∀ {k j : Nat} {a b c : vst}, Rn step k a b → Rn step j b c → Rn step (k + j) a c
  | 0, j, a, b, c, h, g => by have h : a = b := h; rw [h, Nat.zero_add]; exact g
  | k + 1, j, a, b, c, h, g => by
    obtain ⟨x, h1, h2⟩ := h
    rw [show k + 1 + j = (k + j) + 1 by omega]
    exact ⟨x, h1, Rn.trans h2 g⟩
theorem Rt.refl {step : vst → vst → Prop} {a : vst} : Rt step a a := ⟨0, rfl⟩
theorem Rt.trans {step : vst → vst → Prop} {a b c : vst} (h : Rt step a b) (g : Rt step b c) : Rt step a c := by
  obtain ⟨k, h⟩ := h
  obtain ⟨j, g⟩ := g
  exact ⟨k + j, h.trans g⟩
theorem Rt.one {step : vst → vst → Prop} {a b : vst} (h : step a b) : Rt step a b := ⟨1, b, h, rfl⟩
theorem Rn.le {step : vst → vst → Prop} (fw : ∀ a c, step a c → a.1 < c.1) : ∀ {k : Nat} {a b : vst}, Rn step k a b → a.1 + k ≤ b.1
  | 0, a, b, h => by have h : a = b := h; rw [h]; exact Nat.le_refl _
  | k + 1, a, b, h => by
    obtain ⟨c, h1, h2⟩ := h
    have := fw a c h1
    have := Rn.le fw h2
    omega
theorem Rn.mono {step step' : vst → vst → Prop} (fw : ∀ a c, step a c → a.1 < c.1) {lo hi : Nat} (h : ∀ a c, lo ≤ a.1 → a.1 < hi → step a c → step' a c) : ∀ {k : Nat} {a b : vst}, Rn step k a b → lo ≤ a.1 → b.1 ≤ hi → Rn step' k a b
  | 0, a, b, g, _, _ => g
  | k + 1, a, b, g, h1, h2 => by
    obtain ⟨c, g1, g2⟩ := g
    have f1 := fw a c g1
    have f2 := Rn.le fw g2
    exact ⟨c, h a c h1 (by omega) g1, Rn.mono fw h g2 (by omega) h2⟩
theorem Rt.mono {step step' : vst → vst → Prop} (fw : ∀ a c, step a c → a.1 < c.1) {lo hi : Nat} (h : ∀ a c, lo ≤ a.1 → a.1 < hi → step a c → step' a c) {a b : vst} (g : Rt step a b) (h1 : lo ≤ a.1) (h2 : b.1 ≤ hi) : Rt step' a b := by
  obtain ⟨k, g⟩ := g
  exact ⟨k, g.mono fw h h1 h2⟩
/-- names, and their widths -/
abbrev pw : Type := Nat → Prop × Nat
def VT (P : pw) (v : Nat → Int64) : Prop := ∀ d, (P d).1 → Fw (v d) (P d).2
/-- a step of the reference's code; P: which names there are -/
def rS (code : Nat → Int32) (nums : Nat → Int64) (nc : Nat) (P : pw) (v : Nat → Int64) (a c : vst) : Prop :=
  a.1 < c.1 ∧ c.2.1.length ≤ 960 ∧ ((∃ o, rop code nums nc a.1 o ∧ o.1 ≤ 8 ∧ (o.1 = 1 → (P o.2.1).1) ∧ (o.1 = 3 → ∀ y x r, a.2.1 = y :: x :: r → Fw x o.2.1) ∧ (o.1 = 4 → ∀ x r, a.2.1 = x :: r → Fw x o.2.2) ∧ ob o ∧ aex v o a.2.1 = some c.2.1 ∧ c.1 = a.1 + 1 ∧ c.2.2 = a.2.2) ∨
  (∃ d h l x, code (3 * a.1) = nI 9 ∧ code (3 * a.1 + 1) = nI d ∧ code (3 * a.1 + 2) = nI (256 * h + l) ∧ l ≤ h ∧ h < 64 ∧ (P d).1 ∧ a.2.1 = x :: c.2.1 ∧ c.2.2 = vp_updL a.2.2 d (aSt h l (a.2.2 d) x) ∧ c.1 = a.1 + 1) ∨
  (∃ x, code (3 * a.1) = nI 10 ∧ a.2.1 = x :: c.2.1 ∧ c.2.2 = a.2.2 ∧ ((x = 0 ∧ code (3 * a.1 + 1) = nI (3 * c.1)) ∨ (x ≠ 0 ∧ c.1 = a.1 + 1))) ∨
  (code (3 * a.1) = nI 11 ∧ code (3 * a.1 + 1) = nI (3 * c.1) ∧ c.2 = a.2) ∨
  (∃ x k u st0, code (3 * a.1) = nI 12 ∧ code (3 * a.1 + 2) = nI k ∧ k < nc ∧ nums k = lN u ∧ a.2.1 = x :: st0 ∧ c.2 = a.2 ∧ ((x = lN u ∧ code (3 * a.1 + 1) = nI (3 * c.1)) ∨ (x ≠ lN u ∧ c.1 = a.1 + 1))) ∨
  (∃ x, code (3 * a.1) = nI 13 ∧ a.2.1 = x :: c.2.1 ∧ c.2.2 = a.2.2 ∧ c.1 = a.1 + 1))
theorem rS.fw {code : Nat → Int32} {nums : Nat → Int64} {nc : Nat} {P : pw} {v : Nat → Int64} : ∀ a c, rS code nums nc P v a c → a.1 < c.1 := fun _ _ h => h.1
theorem rop.at {code code' : Nat → Int32} {nums nums' : Nat → Int64} {nc nc' j : Nat} {o : aop} (h : rop code nums nc j o) (h1 : ∀ k, 3 * j ≤ k → k < 3 * j + 3 → code' k = code k) (h2 : ∀ k, k < nc → nums' k = nums k) (h3 : nc ≤ nc') : rop code' nums' nc' j o := by
  unfold rop at *
  rw [h1 _ (by omega) (by omega), h1 _ (by omega) (by omega), h1 _ (by omega) (by omega)]
  refine ⟨h.1, fun z => ?_, h.2.2⟩
  obtain ⟨n, n1, n2, n3⟩ := h.2.1 z
  exact ⟨n, by omega, n2, by rw [h2 n n1]; exact n3⟩
theorem rS.mono {code code' : Nat → Int32} {nums nums' : Nat → Int64} {nc nc' : Nat} {P : pw} {v : Nat → Int64} {a c : vst} (h : rS code nums nc P v a c) (h1 : ∀ k, 3 * a.1 ≤ k → k < 3 * a.1 + 3 → code' k = code k) (h2 : ∀ k, k < nc → nums' k = nums k) (h3 : nc ≤ nc') : rS code' nums' nc' P v a c := by
  obtain ⟨f, l, h⟩ := h
  refine ⟨f, l, ?_⟩
  rw [h1 (3 * a.1) (by omega) (by omega), h1 (3 * a.1 + 1) (by omega) (by omega), h1 (3 * a.1 + 2) (by omega) (by omega)]
  rcases h with ⟨o, g1, g2⟩ | h
  · exact Or.inl ⟨o, g1.at h1 h2 h3, g2⟩
  right
  rcases h with h | h
  · exact Or.inl h
  right
  rcases h with h | h
  · exact Or.inl h
  right
  rcases h with h | h
  · exact Or.inl h
  right
  rcases h with ⟨x, k, u, st0, g1, g2, g3, g4, g5⟩ | h
  · exact Or.inl ⟨x, k, u, st0, g1, g2, by omega, by rw [h2 k g3]; exact g4, g5⟩
  · exact Or.inr h
/-- code from a to b does D -/
def Rg (code : Nat → Int32) (nums : Nat → Int64) (nc : Nat) (P : pw) (a b : Nat) (D : DT) : Prop := ∀ v n st, VT P v → st.length ≤ 60 → Rt (rS code nums nc P v) (a, st, n) (b, st, D v n)
theorem Rg.mono {code code' : Nat → Int32} {nums nums' : Nat → Int64} {nc nc' a b : Nat} {P : pw} {D : DT} (h : Rg code nums nc P a b D) (h1 : ∀ k, 3 * a ≤ k → k < 3 * b → code' k = code k) (h2 : ∀ k, k < nc → nums' k = nums k) (h3 : nc ≤ nc') : Rg code' nums' nc' P a b D := fun v n st hv hs =>
  (h v n st hv hs).mono rS.fw (lo := a) (hi := b) (fun x y x1 x2 g => g.mono (fun k k1 k2 => h1 k (by omega) (by omega)) h2 h3) (Nat.le_refl _) (Nat.le_refl _)
/-- an exp's code -/
theorem rEnc.run {code : Nat → Int32} {nums : Nat → Int64} {nc : Nat} {P : pw} {v n : Nat → Int64} {nm : Nat → Option (Nat × Nat)} {f : Nat} (hf : f ≤ 60) (hn : ∀ i q, nm i = some q → (P q.1).1 ∧ (P q.1).2 = q.2) (hv : ∀ i q, nm i = some q → Fw (v q.1) q.2) : ∀ (L : List aop) (la h h' : Nat) (st : List Int64) (ws ws' : List Nat), Hk 900 L h h' → st.length = h + f → Ty nm L ws ws' → Fs ws st → rEnc code nums nc la L → ∃ st', xrun v L st = some st' ∧ Rt (rS code nums nc P v) (la, st, n) (la + L.length, st', n)
  | [], la, h, h', st, ws, ws', _, _, _, _, _ => ⟨st, rfl, Rt.refl⟩
  | o :: L, la, h, h', st, ws, ws', q, e, qT, qF, hE => by
    have q8 : ∀ p, p ∈ o :: L → p.1 ≤ 8 := qT.le
    have qP : ∀ p, p ∈ o :: L → p.1 = 1 → (P p.2.1).1 := fun p hp k => by
      obtain ⟨i, w, hi⟩ := qT.ld p hp k
      exact (hn i _ hi).1
    obtain ⟨w1, t1, t2⟩ := qT
    obtain ⟨x, s0, e1, e2⟩ := aex_ok v o st (by have := q.1; omega) (q8 o List.mem_cons_self)
    rw [List.drop_zero] at e1
    have hl : (x :: s0).length = (h - nd o.1 + 1) + f := by rw [List.length_cons, e2, List.length_drop, e]; have := q.1; omega
    obtain ⟨st', e3, e4⟩ := rEnc.run hf hn hv L (la + 1) (h - nd o.1 + 1) h' (x :: s0) w1 ws' q.2.2 hl t2 (aex_fit hv t1 qF e1) (fun i p hi => by
      have := hE (i + 1) p (by simpa using hi)
      rw [show la + (i + 1) = la + 1 + i by omega] at this; exact this)
    refine ⟨st', by show (aex v o st).bind (xrun v L) = _; rw [e1]; exact e3, ?_⟩
    have r0 : rop code nums nc la o := hE 0 o rfl
    have s1 : rS code nums nc P v (la, st, n) (la + 1, x :: s0, n) := ⟨by show la < la + 1; omega, by rw [hl]; have := q.2.1; omega, Or.inl ⟨o, r0, q8 o List.mem_cons_self, qP o List.mem_cons_self, t1.bit qF, t1.uni qF, t1.1, e1, rfl, rfl⟩⟩
    rw [show la + (o :: L).length = la + 1 + L.length by simp; omega]
    exact (Rt.one s1).trans e4
theorem rEnc.val {code : Nat → Int32} {nums : Nat → Int64} {nc la : Nat} {P : pw} {v n : Nat → Int64} {nm : Nat → Option (Nat × Nat)} {L : List aop} {st : List Int64} {w : Nat} (hE : rEnc code nums nc la L) (hk : Hk 900 L 0 1) (hT : Ty nm L [] [w]) (hn : ∀ i q, nm i = some q → (P q.1).1 ∧ (P q.1).2 = q.2) (hv : VT P v) (hs : st.length ≤ 60) : Rt (rS code nums nc P v) (la, st, n) (la + L.length, xval v L :: st, n) := by
  obtain ⟨st', e1, e2⟩ := rEnc.run (n := n) hs hn (fun i q hq => by have := hn i q hq; rw [← this.2]; exact hv _ this.1) L la 0 1 st [] [w] hk (by omega) hT trivial hE
  rw [xval_ok v L hk hT.le st] at e1
  cases e1
  exact e2
