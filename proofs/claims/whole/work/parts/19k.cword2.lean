/-! The token of a word, of a number, of a sign (the class). -/
theorem wm_eq (ch : Nat → Nat) {p e q g : Nat} (st : Nat) (h1 : p ≤ e) (h2 : q ≤ g) (hl : e - p = g - q) (hc : ∀ i, i < g - q → ch (p + i) = ch (q + i)) : ∀ f j, wm ch p e st f j = wm ch q g st f j
  | 0, _ => rfl
  | f + 1, j => by
    unfold wm
    rw [wm_eq ch st h1 h2 hl hc f (j + 1)]
    congr 1
    by_cases z : j < g - q
    · rw [hc j z]
      have a1 : p + j < e := by omega
      have a2 : q + j < g := by omega
      simp [a1, a2]
    · have a1 : ¬ p + j < e := by omega
      have a2 : ¬ q + j < g := by omega
      simp [a1, a2]
theorem wk_eq (ch : Nat → Nat) {p e q g : Nat} (h1 : p ≤ e) (h2 : q ≤ g) (hl : e - p = g - q) (hc : ∀ i, i < g - q → ch (p + i) = ch (q + i)) : ∀ l i, wk ch p e l i = wk ch q g l i
  | [], _ => rfl
  | x :: l, i => by
    unfold wk
    rw [wk_eq ch h1 h2 hl hc l (i + 1), wm_eq ch x.1 h1 h2 hl hc, hl]
theorem word4_C {N n : Nat} {x1 : Int32} {ch : Nat → Nat} {s : ms} (h : Txt s n ch) : ∀ (m i f : Nat) (a : Int32), i ≤ n → n ≤ i + f → f < m → hd_Scanner_word_Sc_4 N m x1 (nI i) a s = bk_Scanner_word_Sc_42 N x1 (nI (ff (pni ch) f i)) (hs ch (ff (pni ch) f i - i) i a) s := by
  intro m
  have hn := h.2.1
  induction m with
  | zero => intro i f a h1 h2 h3; omega
  | succ m ih =>
    intro i f a h1 h2 h3
    show bd_Scanner_word_Sc_4 N (hd_Scanner_word_Sc_4 N m) x1 (nI i) a s = _
    unfold bd_Scanner_word_Sc_4
    rw [h.1]
    by_cases c : i < n
    · obtain ⟨f, rfl⟩ : ∃ f', f = f' + 1 := ⟨f - 1, by omega⟩
      have lt := (h.2.2.1 i c).1
      rw [if_neg (nI_ge c (by omega)), if_neg (nI_in (show i < 65536 by omega) (by decide)), nI_clamp (by omega), txt_at h c, continuesWord_C (by omega), ex_bind rfl]
      dsimp only
      cases ci : cinn (ch i)
      · have z : ff (pni ch) (f + 1) i = i := ffz _ (by simp [pni, ci])
        rw [if_pos (show b01 false = 0 from rfl), z, Nat.sub_self]
        rfl
      · have z : ff (pni ch) (f + 1) i = ff (pni ch) f (i + 1) := ffs _ (by simp [pni, ci])
        have ge := ff_ge (pni ch) f (i + 1)
        rw [if_neg (show ¬ b01 true = 0 by decide), if_neg (nI_inN (show i < 65536 by omega) (by omega)), txt_at h c, nI_1, ih (i + 1) f _ (by omega) (by omega) (by omega), z]
        rw [show ff (pni ch) f (i + 1) - i = ff (pni ch) f (i + 1) - (i + 1) + 1 by omega]
        rfl
    · have z : ff (pni ch) f i = i := ffz _ (by simp [pni, h.2.2.2 i (by omega)]; decide)
      rw [if_pos (nI_le (by omega) (by omega)), z, Nat.sub_self]
      rfl
def Lit (t : ms) (ls : List (Nat × Nat)) : Prop := t.1 340 0 = nI ls.length ∧ ∀ j e, ls[j]? = some e → t.1 338 j = nI e.1 ∧ t.2 339 j = lN e.2
/-- what a token's extra (and 1) is -/
def Xok (ch : Nat → Nat) (n : Nat) (ws : List Nat) (ls : List (Nat × Nat)) (e : Nat × Nat × Nat) (x : Nat) : Prop :=
  (300 ≤ e.1 → e.1 ≤ 400 → ∃ w, x = w + 1 ∧ w < ws.length ∧ weq ch n (ws.getD w 0) e.2.1) ∧
  (e.1 = 401 → x = dval ch 10 (e.2.2 - e.2.1) e.2.1 0 + 1 ∧ x ≤ 65536) ∧
  (e.1 = 402 → ∃ j, x = j + 1 ∧ ls[j]? = some (dval ch 10 (ff (pnd ch) n e.2.1 - e.2.1) e.2.1 0, dval ch (nbase (ch (ff (pnd ch) n e.2.1 + 1))) (e.2.2 - (ff (pnd ch) n e.2.1 + 2)) (ff (pnd ch) n e.2.1 + 2) 0))
def Pre {α : Type} (a b : List α) : Prop := ∃ l, b = a ++ l
theorem Pre.refl {α : Type} (a : List α) : Pre a a := ⟨[], by simp⟩
theorem Pre.trans {α : Type} {a b c : List α} (h1 : Pre a b) (h2 : Pre b c) : Pre a c := by
  obtain ⟨l, rfl⟩ := h1
  obtain ⟨k, rfl⟩ := h2
  exact ⟨l ++ k, by simp⟩
theorem Pre.len {α : Type} {a b : List α} (h : Pre a b) : a.length ≤ b.length := by obtain ⟨l, rfl⟩ := h; simp
theorem Pre.getD {a b : List Nat} (h : Pre a b) {i : Nat} (hi : i < a.length) : b.getD i 0 = a.getD i 0 := by
  obtain ⟨l, rfl⟩ := h
  simp [List.getD_eq_getElem?_getD, List.getElem?_append_left hi]
theorem Pre.some {α : Type} {a b : List α} (h : Pre a b) {i : Nat} {e : α} (hi : a[i]? = some e) : b[i]? = some e := by
  obtain ⟨l, rfl⟩ := h
  have : i < a.length := (List.getElem?_eq_some_iff.mp hi).1
  rw [List.getElem?_append_left this]; exact hi
theorem Xok.mono {ch : Nat → Nat} {n x : Nat} {ws ws' : List Nat} {ls ls' : List (Nat × Nat)} {e : Nat × Nat × Nat} (h : Xok ch n ws ls e x) (hw : Pre ws ws') (hl : Pre ls ls') : Xok ch n ws' ls' e x := by
  obtain ⟨a, b, c⟩ := h
  refine ⟨fun z1 z2 => ?_, b, fun z => ?_⟩
  · obtain ⟨w, w1, w2, w3⟩ := a z1 z2
    exact ⟨w, w1, Nat.lt_of_lt_of_le w2 hw.len, by rw [hw.getD w2]; exact w3⟩
  · obtain ⟨j, j1, j2⟩ := c z
    exact ⟨j, j1, hl.some j2⟩
theorem Wt.mono {s t : ms} {n : Nat} {ch : Nat → Nat} {ws : List Nat} (W : Wt s n ch ws) (h : ∀ k, 224 ≤ k → k ≤ 228 → t.1 k = s.1 k) : Wt t n ch ws := by
  unfold Wt
  rw [h 224 (by decide) (by decide), h 225 (by decide) (by decide), h 226 (by decide) (by decide), h 227 (by decide) (by decide), h 228 (by decide) (by decide)]
  exact W
theorem Lit.mono {s t : ms} {ls : List (Nat × Nat)} (L : Lit s ls) (h1 : t.1 338 = s.1 338) (h2 : t.1 340 = s.1 340) (h3 : t.2 339 = s.2 339) : Lit t ls := by
  unfold Lit
  rw [h1, h2, h3]; exact L
/-- a token is laid -/
def Laid (ch : Nat → Nat) (n T p : Nat) (ws : List Nat) (ls : List (Nat × Nat)) (s t : ms) (kd en : Nat) : Prop :=
  ∃ (x : Nat) (ws' : List Nat) (ls' : List (Nat × Nat)), t.1 212 0 = nI (T + 1) ∧ t.2 211 = vp_updL (s.2 211) T (lN (kap kd * 2 ^ 40 + p * 2 ^ 20 + x)) ∧ x < 2 ^ 20 ∧ Xok ch n ws' ls' (kd, p, en) x ∧ Wt t n ch ws' ∧ Lit t ls' ∧ Pre ws ws' ∧ Pre ls ls' ∧ ws'.length ≤ T + 1 ∧ ls'.length ≤ T + 1 ∧ (∀ w, w < ws'.length → ws'.getD w 0 ≤ p) ∧ Eb [212, 224, 225, 226, 227, 228, 338, 340] [211, 339] s t
theorem kap_lt (k : Nat) : kap k < 401 := by unfold kap; repeat' (first | omega | split)
theorem word_C {N n p T : Nat} {ch : Nat → Nat} {s : ms} {ws : List Nat} {ls : List (Nat × Nat)} (h : Txt s n ch) (hN : n + 200 < N) (hn : n ≤ 12000) (hp : wst ch n p) (W : Wt s n ch ws) (L : Lit s ls) (hT : s.1 212 0 = nI T) (h1 : T ≤ p) (h2 : ws.length ≤ T) (h3 : ls.length ≤ T) (hle : ∀ w, w < ws.length → ws.getD w 0 ≤ p) : ∃ t : ms, fn_Scanner_word_Sc N (nI p) s = some (nI (wend ch n p), t) ∧ Laid ch n T p ws ls s t (wk ch p (wend ch n p) kwt 0) (wend ch n p) := by
  obtain ⟨e1, e2, e3, e4⟩ := wend_in h hp
  have hpn := hp.1
  have run : fn_Scanner_word_Sc N (nI p) s = bk_Scanner_word_Sc_42 N (nI p) (nI (wend ch n p)) (hs ch (wend ch n p - p) p 0) s := word4_C h N p n 0 (by omega) (by omega) (by omega)
  rw [run]
  unfold bk_Scanner_word_Sc_42
  have ehv : (hs ch (wend ch n p - p) p 0 ^^^ ((Int32.toUInt32 (hs ch (wend ch n p - p) p 0) >>> (Int32.toUInt32 8 &&& Int32.toUInt32 31)).toInt32)) &&& 255 = hv ch n p := rfl
  rw [ehv]
  have kl := kap_lt (wk ch p (wend ch n p) kwt 0)
  rcases known_C (N := N) h (by omega) W (by omega) (by omega) hp hle with ⟨w, w1, w2, w3⟩ | ⟨w1, w2⟩
  · rw [w3, obind]
    dsimp only
    obtain ⟨b1, b2, b3, b4⟩ := W.2.1 w w1
    obtain ⟨d1, d2, d3, d4⟩ := wend_in h b4
    have ek : wk ch (ws.getD w 0) (wend ch n (ws.getD w 0)) kwt 0 = wk ch p (wend ch n p) kwt 0 := wk_eq ch (by omega) (by omega) w2.1 w2.2 kwt 0
    have kn : ¬ nI w = (-1 : Int32) := of_eq_false (nm1F (a := w) (by omega))
    rw [if_neg kn]
    unfold bk_Scanner_word_Sc_80
    rw [if_neg (nI_pos (show w < 2 ^ 31 by omega)), W.1, if_neg (nI_ge w1 (by omega)), if_neg (nI_in (show w < 19830 by omega) (by decide)), nI_clamp (by omega), b2, ek, add_C hT (by omega) (by omega) (by omega) (show w + 1 < 2 ^ 20 by omega) (nI_1 w), obind]
    refine ⟨_, rfl, w + 1, ws, ls, rfl, rfl, by omega, ⟨fun _ _ => ⟨w, rfl, w1, w2⟩, ?_, ?_⟩, W.mono (fun k k1 k2 => ?_), L.mono rfl rfl rfl, Pre.refl _, Pre.refl _, by omega, by omega, hle, (Eb.rfl.upJ (by decide)).upI (by decide)⟩
    · intro z
      have := wk_lt ch p (wend ch n p) kwt 0 (by decide)
      dsimp only at z
      have : ∀ l i, i + l.length < 100 → wk ch p (wend ch n p) l i ≤ 400 := by
        intro l
        induction l with
        | nil => intro i _; exact Nat.le_refl _
        | cons x l ih =>
          intro i hi
          unfold wk
          simp only [List.length_cons] at hi
          split
          · omega
          · exact ih (i + 1) (by omega)
      have := this kwt 0 (by decide)
      omega
    · intro z
      dsimp only at z
      have : ∀ l i, i + l.length < 100 → wk ch p (wend ch n p) l i ≤ 400 := by
        intro l
        induction l with
        | nil => intro i _; exact Nat.le_refl _
        | cons x l ih =>
          intro i hi
          unfold wk
          simp only [List.length_cons] at hi
          split
          · omega
          · exact ih (i + 1) (by omega)
      have := this kwt 0 (by decide)
      omega
    · simp only [up1, up4]
      rw [if_neg (by omega)]
  · rw [w2, obind]
    dsimp only
    rw [if_pos rfl]
    obtain ⟨t, t1, t2, t3, t4⟩ := added_C (N := N) h (by omega) W (by omega) hp w1
    rw [t1, obind]
    dsimp only
    unfold bk_Scanner_word_Sc_80
    have hT2 : t.1 212 0 = nI T := by rw [t4.1 212 (by decide)]; exact hT
    rw [if_neg (nI_pos (show ws.length < 2 ^ 31 by omega)), t2.1, if_neg (nI_ge (show ws.length < (ws ++ [p]).length by simp) (by simp; omega)), if_neg (nI_in (show ws.length < 19830 by omega) (by decide)), nI_clamp (by omega), t3, add_C hT2 (by omega) (by omega) (by omega) (show ws.length + 1 < 2 ^ 20 by omega) (nI_1 _), obind]
    have g : (ws ++ [p]).getD ws.length 0 = p := by simp
    have gk : ∀ l i, i + l.length < 100 → wk ch p (wend ch n p) l i ≤ 400 := by
        intro l
        induction l with
        | nil => intro i _; exact Nat.le_refl _
        | cons x l ih =>
          intro i hi
          unfold wk
          simp only [List.length_cons] at hi
          split
          · omega
          · exact ih (i + 1) (by omega)
    have gk := gk kwt 0 (by decide)
    refine ⟨_, rfl, ws.length + 1, ws ++ [p], ls, rfl, ?_, by omega, ⟨fun _ _ => ⟨ws.length, rfl, by simp, by rw [g]; exact ⟨rfl, fun _ _ => rfl⟩⟩, ?_, ?_⟩, t2.mono (fun k k1 k2 => ?_), L.mono ?_ ?_ ?_, ⟨[p], rfl⟩, Pre.refl _, by simp; omega, by omega, ?_, ?_⟩
    · simp only [up2, up3, reduceIte]
      rw [t4.2 211 (by decide)]
    · intro z; dsimp only at z; omega
    · intro z; dsimp only at z; omega
    · simp only [up1, up4]
      rw [if_neg (by omega)]
    · simp only [up1, up4]; exact t4.1 338 (by decide)
    · simp only [up1, up4]; exact t4.1 340 (by decide)
    · simp only [up2, up3]; exact t4.2 339 (by decide)
    · intro w hw
      rw [List.length_append, List.length_singleton] at hw
      by_cases z : w = ws.length
      · rw [z, g]; exact Nat.le_refl _
      · rw [getD_app (by omega)]; exact hle w (by omega)
    · exact ((t4.mono (by decide) (by decide)).upJ (by decide)).upI (by decide)
