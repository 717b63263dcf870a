/-! Words of the class: a new one; the token of a word. -/
theorem getD_app {ws : List Nat} {q k : Nat} (h : k < ws.length) : (ws ++ [q]).getD k 0 = ws.getD k 0 := by simp [List.getD_eq_getElem?_getD, List.getElem?_append_left h]
theorem lastI_app (ch : Nat → Nat) (n : Nat) (ws : List Nat) (q : Nat) (x : Int32) : ∀ k, k ≤ ws.length → lastI ch n (ws ++ [q]) x k = lastI ch n ws x k
  | 0, _ => rfl
  | k + 1, h => by
    unfold lastI
    rw [lastI_app ch n ws q x k (by omega), getD_app (by omega)]
theorem added_C {N n q : Nat} {ch : Nat → Nat} {s : ms} {ws : List Nat} (h : Txt s n ch) (hN : n + 113 < N) (W : Wt s n ch ws) (hl : ws.length < 19830) (hq : wst ch n q) (hno : ∀ w, w < ws.length → ¬ weq ch n (ws.getD w 0) q) : ∃ t : ms, fn_Scanner_added_Sc N (hv ch n q) (nI q) (nI (wend ch n q)) s = some (nI ws.length, t) ∧ Wt t n ch (ws ++ [q]) ∧ t.1 227 ws.length = nI (kap (wk ch q (wend ch n q) kwt 0)) ∧ Eb [224, 225, 226, 227, 228] [] s t := by
  obtain ⟨j, hj, ej⟩ := hv_nI ch n q
  obtain ⟨e1, e2, e3, -⟩ := wend_in h hq
  obtain ⟨W1, W2, W3, W4⟩ := W
  have hn := h.2.1
  have hk : fn_Scanner_kindOf_Sc N (nI q) (nI (wend ch n q)) (upI s 226 (upd (s.1 226) ws.length (nI q))) = some (nI (kap (wk ch q (wend ch n q) kwt 0)), upI s 226 (upd (s.1 226) ws.length (nI q))) := kindOf_C (h.mono rfl rfl) (by omega) e2 hN
  unfold fn_Scanner_added_Sc
  simp (disch := omega) only [W1, lit_nI, nltT, gdF, gdG, if_true, if_false, nI_clamp, ej, hk, obind, up1, up2, nI_add, nI_sub, reduceIte, Nat.reduceEqDiff, Nat.add_sub_cancel]
  refine ⟨_, rfl, ⟨?_, ?_, ?_, ?_⟩, ?_, ?_⟩
  · simp [up1]
  · intro w hw
    rw [List.length_append, List.length_singleton] at hw
    by_cases z : w = ws.length
    · subst z
      have g : (ws ++ [q]).getD ws.length 0 = q := by simp
      rw [g]
      simp only [up1, reduceIte, Nat.reduceEqDiff, upd_at]
      refine ⟨trivial, trivial, ?_, hq⟩
      rw [W4 j hj, lastI_app ch n ws q _ _ (Nat.le_refl _), ej]
    · have g : (ws ++ [q]).getD w 0 = ws.getD w 0 := getD_app (by omega)
      obtain ⟨a1, a2, a3, a4⟩ := W2 w (by omega)
      rw [g]
      simp only [up1, reduceIte, Nat.reduceEqDiff, upd_ne z]
      rw [lastI_app ch n ws q _ _ (by omega)]
      exact ⟨a1, a2, a3, a4⟩
  · intro w v hw hv e
    rw [List.length_append, List.length_singleton] at hw hv
    by_cases z : w = ws.length
    · by_cases y : v = ws.length
      · omega
      · subst z
        have g : (ws ++ [q]).getD ws.length 0 = q := by simp
        have g2 : (ws ++ [q]).getD v 0 = ws.getD v 0 := getD_app (by omega)
        rw [g, g2] at e
        exact absurd ⟨e.1.symm, fun i hi => (e.2 i (by rw [e.1] at hi; exact hi)).symm⟩ (hno v (by omega))
    · by_cases y : v = ws.length
      · subst y
        have g : (ws ++ [q]).getD ws.length 0 = q := by simp
        have g2 : (ws ++ [q]).getD w 0 = ws.getD w 0 := getD_app (by omega)
        rw [g, g2] at e
        exact absurd e (hno w (by omega))
      · have g1 : (ws ++ [q]).getD v 0 = ws.getD v 0 := getD_app (by omega)
        have g2 : (ws ++ [q]).getD w 0 = ws.getD w 0 := getD_app (by omega)
        rw [g1, g2] at e
        exact W3 w v (by omega) (by omega) e
  · intro i hi
    have g : (ws ++ [q]).getD ws.length 0 = q := by simp
    simp only [up1, reduceIte, Nat.reduceEqDiff, List.length_append, List.length_singleton]
    unfold lastI
    rw [g, lastI_app ch n ws q _ _ (Nat.le_refl _), ej]
    by_cases z : i = j
    · rw [z, upd_at, if_pos rfl]
    · rw [upd_ne z, W4 i hi, if_neg]
      intro y
      exact z ((nI_eq (by omega) (by omega)).mp y).symm
  · simp [up1, upd]
  · exact ((((Eb.rfl.upI (by decide)).upI (by decide)).upI (by decide)).upI (by decide)).upI (by decide)
