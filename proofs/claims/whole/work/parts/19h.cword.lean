/-! Words of the class: the table of words with its chains. -/
def hs (ch : Nat → Nat) : Nat → Nat → Int32 → Int32
  | 0, _, a => a
  | f + 1, k, a => hs ch f (k + 1) (31 * a + kch (ch k))
/-- the chain of a word -/
def hdx (x : Int32) : Int32 := (x ^^^ ((Int32.toUInt32 x >>> (Int32.toUInt32 8 &&& Int32.toUInt32 31)).toInt32)) &&& 255
def hv (ch : Nat → Nat) (n p : Nat) : Int32 := hdx (hs ch (wend ch n p - p) p 0)
theorem hs_eq (ch : Nat → Nat) : ∀ f p q a, (∀ i, i < f → ch (p + i) = ch (q + i)) → hs ch f p a = hs ch f q a
  | 0, _, _, _, _ => rfl
  | f + 1, p, q, a, h => by
    unfold hs
    have e := h 0 (by omega)
    rw [Nat.add_zero, Nat.add_zero] at e
    rw [e]
    refine hs_eq ch f (p + 1) (q + 1) _ (fun i hi => ?_)
    have := h (i + 1) (by omega)
    rw [show p + 1 + i = p + (i + 1) by omega, show q + 1 + i = q + (i + 1) by omega]; exact this
theorem hv_eq {s : ms} {n p q : Nat} {ch : Nat → Nat} (h : Txt s n ch) (hp : wst ch n p) (hq : wst ch n q) (e : weq ch n p q) : hv ch n p = hv ch n q := by
  obtain ⟨p1, -⟩ := wend_in h hp
  obtain ⟨q1, -⟩ := wend_in h hq
  obtain ⟨e1, e2⟩ := e
  unfold hv
  rw [e1, hs_eq ch _ p q 0 e2]
/-- the last word before k in a chain -/
def lastI (ch : Nat → Nat) (n : Nat) (ws : List Nat) (x : Int32) : Nat → Int32
  | 0 => -1
  | k + 1 => if hv ch n (ws.getD k 0) = x then nI k else lastI ch n ws x k
/-- the table of words: ws their places -/
def Wt (s : ms) (n : Nat) (ch : Nat → Nat) (ws : List Nat) : Prop := s.1 228 0 = nI ws.length ∧ (∀ w, w < ws.length → s.1 226 w = nI (ws.getD w 0) ∧ s.1 227 w = nI (kap (wk ch (ws.getD w 0) (wend ch n (ws.getD w 0)) kwt 0)) ∧ s.1 225 w = lastI ch n ws (hv ch n (ws.getD w 0)) w ∧ wst ch n (ws.getD w 0)) ∧ (∀ w v, w < ws.length → v < ws.length → weq ch n (ws.getD w 0) (ws.getD v 0) → w = v) ∧ ∀ j, j < 256 → s.1 224 j = lastI ch n ws (nI j) ws.length
/-- the word before k that is spelled as the one at q -/
def fndW (ch : Nat → Nat) (n : Nat) (ws : List Nat) (q : Nat) (w : Nat) : Prop := w < ws.length ∧ weq ch n (ws.getD w 0) q
theorem known_C0 {N n q : Nat} {ch : Nat → Nat} {s : ms} {ws : List Nat} (h : Txt s n ch) (hN : n < N) (W : Wt s n ch ws) (hl : ws.length < 19830) (hq : wst ch n q) (hle : ∀ w, w < ws.length → ws.getD w 0 ≤ q) : ∀ (k m c : Nat), k ≤ ws.length → c + k ≤ ws.length → k < m → (∃ w, w < k ∧ weq ch n (ws.getD w 0) q ∧ hd_Scanner_known_Sc_11 N m (nI q) (nI (wend ch n q)) (lastI ch n ws (hv ch n q) k) (nI c) s = some (nI w, s)) ∨ (∀ w, w < k → ¬ weq ch n (ws.getD w 0) q) ∧ hd_Scanner_known_Sc_11 N m (nI q) (nI (wend ch n q)) (lastI ch n ws (hv ch n q) k) (nI c) s = some (-1, s) := by
  intro k
  induction k with
  | zero =>
    intro m c h1 h2 h3
    obtain ⟨m, rfl⟩ : ∃ m', m = m' + 1 := ⟨m - 1, by omega⟩
    right
    refine ⟨fun w hw => by omega, ?_⟩
    show bd_Scanner_known_Sc_11 N (hd_Scanner_known_Sc_11 N m) (nI q) (nI (wend ch n q)) (-1) (nI c) s = _
    unfold bd_Scanner_known_Sc_11
    rw [if_pos (show (-1 : Int32) < 0 by decide)]
    split <;> rfl
  | succ k ih =>
    intro m c h1 h2 h3
    have hk : k < ws.length := by omega
    obtain ⟨w1, w2, w3, w4⟩ := W.2.1 k hk
    by_cases e : hv ch n (ws.getD k 0) = hv ch n q
    · have el : lastI ch n ws (hv ch n q) (k + 1) = nI k := if_pos e
      rw [el]
      obtain ⟨m, rfl⟩ : ∃ m', m = m' + 1 := ⟨m - 1, by omega⟩
      obtain ⟨b, r1, r2⟩ := repeats_C (N := N) h hN w4 hq (hle k hk)
      have step : hd_Scanner_known_Sc_11 N (m + 1) (nI q) (nI (wend ch n q)) (nI k) (nI c) s = if b01 b = 0 then hd_Scanner_known_Sc_11 N m (nI q) (nI (wend ch n q)) (lastI ch n ws (hv ch n q) k) (nI (c + 1)) s else some (nI k, s) := by
        show bd_Scanner_known_Sc_11 N (hd_Scanner_known_Sc_11 N m) (nI q) (nI (wend ch n q)) (nI k) (nI c) s = _
        unfold bd_Scanner_known_Sc_11
        rw [W.1, if_neg (nI_ge (show c < ws.length by omega) (by omega)), if_neg (nI_pos (show k < 2 ^ 31 by omega)), if_neg (nI_ge hk (by omega)), if_neg (nI_in (show k < 19830 by omega) (by decide)), nI_clamp (by omega), w1, r1, ex_bind rfl]
        dsimp only
        rw [if_neg (nI_inN (show k < 19830 by omega) (by omega)), w3, e, nI_1]
      rw [step]
      cases b
      · have nw : ¬ weq ch n (ws.getD k 0) q := fun z => by have := r2.mpr z; cases this
        rw [if_pos (show b01 false = 0 from rfl)]
        rcases ih m (c + 1) (by omega) (by omega) (by omega) with ⟨w, a1, a2, a3⟩ | ⟨a1, a2⟩
        · exact Or.inl ⟨w, by omega, a2, a3⟩
        · refine Or.inr ⟨fun w hw => ?_, a2⟩
          by_cases z : w = k
          · rw [z]; exact nw
          · exact a1 w (by omega)
      · rw [if_neg (show ¬ b01 true = 0 by decide)]
        exact Or.inl ⟨k, by omega, r2.mp rfl, rfl⟩
    · have el : lastI ch n ws (hv ch n q) (k + 1) = lastI ch n ws (hv ch n q) k := if_neg e
      rw [el]
      have nw : ¬ weq ch n (ws.getD k 0) q := fun z => e (hv_eq h w4 hq z)
      rcases ih m c (by omega) (by omega) (by omega) with ⟨w, a1, a2, a3⟩ | ⟨a1, a2⟩
      · exact Or.inl ⟨w, by omega, a2, a3⟩
      · refine Or.inr ⟨fun w hw => ?_, a2⟩
        by_cases z : w = k
        · rw [z]; exact nw
        · exact a1 w (by omega)
theorem hv_nI (ch : Nat → Nat) (n p : Nat) : ∃ j : Nat, j < 256 ∧ hv ch n p = nI j := pk_andE _ (m := 255) 8 (by decide)
theorem known_C {N n q : Nat} {ch : Nat → Nat} {s : ms} {ws : List Nat} (h : Txt s n ch) (hN : n < N) (W : Wt s n ch ws) (hl : ws.length < 19830) (hlN : ws.length < N) (hq : wst ch n q) (hle : ∀ w, w < ws.length → ws.getD w 0 ≤ q) : (∃ w, w < ws.length ∧ weq ch n (ws.getD w 0) q ∧ fn_Scanner_known_Sc N (hv ch n q) (nI q) (nI (wend ch n q)) s = some (nI w, s)) ∨ (∀ w, w < ws.length → ¬ weq ch n (ws.getD w 0) q) ∧ fn_Scanner_known_Sc N (hv ch n q) (nI q) (nI (wend ch n q)) s = some (-1, s) := by
  obtain ⟨j, hj, ej⟩ := hv_nI ch n q
  have e : fn_Scanner_known_Sc N (hv ch n q) (nI q) (nI (wend ch n q)) s = hd_Scanner_known_Sc_11 N N (nI q) (nI (wend ch n q)) (lastI ch n ws (hv ch n q) ws.length) (nI 0) s := by
    unfold fn_Scanner_known_Sc
    rw [ej, if_neg (nI_in hj (by decide)), nI_clamp (by omega), W.2.2.2 j hj]
    rfl
  rw [e]
  exact known_C0 h hN W hl hq hle ws.length N 0 (Nat.le_refl _) (by omega) hlN
