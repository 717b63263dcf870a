/-! The class's tokens: the same as the reference's. -/
theorem Laid.of {ch : Nat → Nat} {n T p k x v : Nat} {ws : List Nat} {ls : List (Nat × Nat)} {s : ms} {N kd en : Nat} {v3 : Int32} (W : Wt s n ch ws) (L : Lit s ls) (hT : s.1 212 0 = nI T) (h0 : T < 65537) (h2 : ws.length ≤ T) (h3 : ls.length ≤ T) (hle : ∀ w, w < ws.length → ws.getD w 0 ≤ p) (hk : k = kap kd) (hp : p < 2 ^ 20) (hx : x < 2 ^ 20) (hv : v3 + 1 = nI x) (X : Xok ch n ws ls (kd, p, en) x) : ∃ t : ms, fn_Tokens_add_Tk N (nI k) (nI p) v3 s = some ((), t) ∧ Laid ch n T p ws ls s t kd en := by
  have kl := kap_lt kd
  rw [hk, add_C hT h0 (by omega) hp hx hv]
  refine ⟨_, rfl, x, ws, ls, rfl, rfl, hx, X, W.mono (fun k k1 k2 => ?_), L.mono rfl rfl rfl, Pre.refl _, Pre.refl _, by omega, by omega, hle, (Eb.rfl.upJ (by decide)).upI (by decide)⟩
  simp only [up1, up4]
  rw [if_neg (by omega)]
theorem kch_le0 : ∀ c : Fin 257, (kch c.1 ≤ 0) ↔ (c.1 = 0 ∨ 128 ≤ c.1) := by decide +kernel
theorem csign_lt {c : Nat} (h : csign c = true) : 0 < c ∧ c < 128 := by
  simp only [csign, List.contains_eq_mem, decide_eq_true_eq, List.mem_cons, List.not_mem_nil, or_false] at h
  omega
theorem nkind_or (ch : Nat → Nat) (fr k to : Nat) : nkind ch fr k to = 401 ∧ k = to ∨ nkind ch fr k to = 402 ∨ nkind ch fr k to = 404 := by
  unfold nkind
  by_cases c : k = to
  · rw [if_pos c]
    by_cases d : dval ch 10 (k - fr) fr 0 < 2 ^ 16
    · rw [if_pos d]; exact Or.inl ⟨rfl, c⟩
    · rw [if_neg d]; exact Or.inr (Or.inr rfl)
  · rw [if_neg c]
    split
    · exact Or.inr (Or.inl rfl)
    · exact Or.inr (Or.inr rfl)
theorem token_C {N n p T : Nat} {ch : Nat → Nat} {s : ms} {ws : List Nat} {ls : List (Nat × Nat)} (h : Txt s n ch) (hN : n + 200 < N) (hn : n ≤ 12000) (hp : p < n) (W : Wt s n ch ws) (L : Lit s ls) (hT : s.1 212 0 = nI T) (h1 : T ≤ p) (h2 : ws.length ≤ T) (h3 : ls.length ≤ T) (hle : ∀ w, w < ws.length → ws.getD w 0 ≤ p) :
    ((tkind ch n p).1 = 404 → fn_Scanner_token_Sc N (nI p) s = some (-1, s)) ∧ ((tkind ch n p).1 ≠ 404 → ∃ t : ms, fn_Scanner_token_Sc N (nI p) s = some (nI (tkind ch n p).2, t) ∧ Laid ch n T p ws ls s t (tkind ch n p).1 (tkind ch n p).2) := by
  have lt := (h.2.2.1 p hp).1
  have lt1 := h.lt (p + 1)
  unfold fn_Scanner_token_Sc
  rw [byteAt_C h (by omega), obind]
  dsimp only
  rw [beginsWord_C (by omega), obind]
  dsimp only
  cases c1 : clet (ch p)
  · rw [if_pos (show b01 false = 0 from rfl), isDigit_C (by omega), obind]
    dsimp only
    cases c2 : cdig (ch p)
    · rw [if_pos (show b01 false = 0 from rfl), nI_1, byteAt_C h (by omega), obind]
      dsimp only
      rw [pair_C lt lt1, obind]
      dsimp only
      have hcp := cpair_lt (ch p) (ch (p + 1))
      by_cases c3 : cpair (ch p) (ch (p + 1)) = 0
      · have hk : tkind ch n p = (if csign (ch p) then ch p else 404, p + 1) := by unfold tkind; rw [c1, if_neg (by decide), c2, if_neg (by decide), if_neg (by omega)]
        rw [hk, if_pos c3, if_pos rfl]
        dsimp only
        by_cases c4 : kch (ch p) ≤ 0
        · have c5 := (kch_le0 ⟨ch p, by omega⟩).mp c4
          have ns : csign (ch p) = false := by
            cases z : csign (ch p)
            · rfl
            · have := csign_lt z; dsimp only at c5; omega
          rw [ns, if_pos c4]
          exact ⟨fun _ => rfl, fun z => absurd rfl z⟩
        · have c5 : ch p < 128 := by
            by_cases z : ch p < 128
            · exact z
            · exact absurd ((kch_le0 ⟨ch p, by omega⟩).mpr (Or.inr (by dsimp only; omega))) c4
          rw [if_neg c4]
          obtain ⟨x, x1, x2⟩ := indexOf_C (N := N) (s := s) (by omega) c5
          rw [x1, obind]
          dsimp only
          cases c6 : csign (ch p)
          · rw [if_neg (show ¬ (0 ≤ x) by rw [x2, c6]; decide)]
            exact ⟨fun _ => rfl, fun z => absurd rfl z⟩
          · rw [if_pos (show 0 ≤ x by rw [x2]; exact c6), if_pos rfl]
            refine ⟨fun z => ?_, fun _ => ?_⟩
            · omega
            · have ek : kch (ch p) = nI (ch p) := if_pos c5
              rw [ek]
              have kp : ch p = kap (ch p) := by unfold kap; rw [if_pos (by omega)]
              obtain ⟨t, t1, t2⟩ := Laid.of (N := N) (kd := ch p) (en := p + 1) (x := 0) (v3 := -1) (v := 0) W L hT (by omega) h2 h3 hle kp (by omega) (by omega) (by decide) ⟨fun z => by dsimp only at z; omega, fun z => by dsimp only at z; omega, fun z => by dsimp only at z; omega⟩
              exact ⟨t, by rw [t1, obind], t2⟩
      · have hk : tkind ch n p = (cpair (ch p) (ch (p + 1)), p + 2) := by unfold tkind; rw [c1, if_neg (by decide), c2, if_neg (by decide), if_pos (by omega)]
        have kl := kap_lt (cpair (ch p) (ch (p + 1)))
        rw [hk, if_neg c3, if_neg (show ¬ nI (kap (cpair (ch p) (ch (p + 1)))) = -1 from of_eq_false (nm1F (by omega)))]
        dsimp only
        refine ⟨fun z => by omega, fun _ => ?_⟩
        obtain ⟨t, t1, t2⟩ := Laid.of (N := N) (kd := cpair (ch p) (ch (p + 1))) (en := p + 2) (x := 0) (v3 := -1) (v := 0) W L hT (by omega) h2 h3 hle rfl (by omega) (by omega) (by decide) ⟨fun z => by dsimp only at z; omega, fun z => by dsimp only at z; omega, fun z => by dsimp only at z; omega⟩
        exact ⟨t, by rw [t1, obind, lit_nI 2, nI_add], t2⟩
    · rw [if_neg (show ¬ b01 true = 0 by decide)]
      have hk : tkind ch n p = (nkind ch p (ff (pnd ch) n p) (nend ch n p), nend ch n p) := by unfold tkind; rw [c1, if_neg (by decide), c2, if_pos rfl]
      rw [hk]
      dsimp only
      obtain ⟨n1, n2, n3⟩ := number_C (N := N) h (by omega) hp
      rcases nkind_or ch p (ff (pnd ch) n p) (nend ch n p) with ⟨z, zz⟩ | z | z
      · obtain ⟨m1, m2⟩ := n1 z
        rw [z]
        refine ⟨fun y => by omega, fun _ => ?_⟩
        obtain ⟨t, t1, t2⟩ := Laid.of (N := N) (k := 3) (kd := 401) (en := nend ch n p) (x := dval ch 10 (nend ch n p - p) p 0 + 1) (v3 := nI (dval ch 10 (nend ch n p - p) p 0)) (v := 0) W L hT (by omega) h2 h3 hle rfl (show p < 2 ^ 20 by omega) (by omega) (nI_1 _) ⟨fun z => by dsimp only at z; omega, fun z => ⟨rfl, by omega⟩, fun z => by dsimp only at z; omega⟩
        rw [m2, lit_nI 3, t1, obind, obind]
        exact ⟨t, rfl, t2⟩
      · rw [z]
        refine ⟨fun y => by omega, fun _ => ?_⟩
        rw [n2 z]
        unfold szd fn_Code_literal_Ks
        simp (disch := omega) only [L.1, lit_nI, nltT, gdF, gdG, if_true, if_false, nI_clamp, obind, nI_add, nI_sub, Nat.add_sub_cancel]
        have L2 : Lit (upI (upJ (upI s 338 (upd (s.1 338) ls.length (nI (dval ch 10 (ff (pnd ch) n p - p) p 0)))) 339 (vp_updL (s.2 339) ls.length (lN (dval ch (nbase (ch (ff (pnd ch) n p + 1))) (nend ch n p - (ff (pnd ch) n p + 2)) (ff (pnd ch) n p + 2) 0)))) 340 (fun _ => nI (ls.length + 1))) (ls ++ [(dval ch 10 (ff (pnd ch) n p - p) p 0, dval ch (nbase (ch (ff (pnd ch) n p + 1))) (nend ch n p - (ff (pnd ch) n p + 2)) (ff (pnd ch) n p + 2) 0)]) := by
          refine ⟨by simp [up1], fun j e he => ?_⟩
          by_cases y : j < ls.length
          · rw [List.getElem?_append_left y] at he
            obtain ⟨l1, l2⟩ := L.2 j e he
            simp only [up1, up2, up3, up4, reduceIte, Nat.reduceEqDiff]
            rw [upd_ne (by omega), updL_ne (by omega)]
            exact ⟨l1, l2⟩
          · have y2 : j = ls.length := by
              have := (List.getElem?_eq_some_iff.mp he).1
              simp at this; omega
            subst y2
            simp at he
            subst he
            simp only [up1, up2, up3, up4, reduceIte, Nat.reduceEqDiff, upd_at, updL_at]
            exact ⟨trivial, trivial⟩
        have W2 := W.mono (t := upI (upJ (upI s 338 (upd (s.1 338) ls.length (nI (dval ch 10 (ff (pnd ch) n p - p) p 0)))) 339 (vp_updL (s.2 339) ls.length (lN (dval ch (nbase (ch (ff (pnd ch) n p + 1))) (nend ch n p - (ff (pnd ch) n p + 2)) (ff (pnd ch) n p + 2) 0)))) 340 (fun _ => nI (ls.length + 1))) (fun k k1 k2 => by simp only [up1, up4]; rw [if_neg (by omega), if_neg (by omega)])
        have E2 : Eb [212, 224, 225, 226, 227, 228, 338, 340] [211, 339] s (upI (upJ (upI s 338 (upd (s.1 338) ls.length (nI (dval ch 10 (ff (pnd ch) n p - p) p 0)))) 339 (vp_updL (s.2 339) ls.length (lN (dval ch (nbase (ch (ff (pnd ch) n p + 1))) (nend ch n p - (ff (pnd ch) n p + 2)) (ff (pnd ch) n p + 2) 0)))) 340 (fun _ => nI (ls.length + 1))) := ((Eb.rfl.upI (by decide)).upJ (by decide)).upI (by decide)
        generalize he : (upI (upJ (upI s 338 (upd (s.1 338) ls.length (nI (dval ch 10 (ff (pnd ch) n p - p) p 0)))) 339 (vp_updL (s.2 339) ls.length (lN (dval ch (nbase (ch (ff (pnd ch) n p + 1))) (nend ch n p - (ff (pnd ch) n p + 2)) (ff (pnd ch) n p + 2) 0)))) 340 (fun _ => nI (ls.length + 1))) = s2 at L2 W2 E2 ⊢
        have hT2 : s2.1 212 0 = nI T := by rw [← he]; simp only [up1, up4]; exact hT
        have h11 : s2.2 211 = s.2 211 := by rw [← he]; simp only [up2, up3]; rfl
        rw [add_C (k := 4) (x := ls.length + 1) hT2 (by omega) (by omega) (show p < 2 ^ 20 by omega) (by omega) (nI_add _ 1), obind]
        refine ⟨_, rfl, ls.length + 1, ws, _, rfl, by simp only [up2, up3, reduceIte]; rw [h11]; rfl, by omega, ⟨fun z => by dsimp only at z; omega, fun z => by dsimp only at z; omega, fun z => ⟨ls.length, rfl, by simp⟩⟩, W2.mono (fun k k1 k2 => ?_), L2.mono rfl rfl rfl, Pre.refl _, ⟨_, rfl⟩, by omega, by simp; omega, hle, (E2.upJ (by decide)).upI (by decide)⟩
        simp only [up1, up4]
        rw [if_neg (by omega)]
      · rw [z]
        refine ⟨fun _ => by rw [n3 z, obind], fun y => absurd rfl y⟩
  · rw [if_neg (show ¬ b01 true = 0 by decide)]
    have hk : tkind ch n p = (wk ch p (ff (pni ch) n p) kwt 0, ff (pni ch) n p) := by unfold tkind; rw [c1, if_pos rfl]
    obtain ⟨t, t1, t2⟩ := word_C (N := N) h hN hn ⟨hp, c1⟩ W L hT h1 h2 h3 hle
    rw [hk, t1, obind]
    have := wk_lt ch p (ff (pni ch) n p) kwt 0 (by decide)
    exact ⟨fun z => by dsimp only at z; omega, fun _ => ⟨t, rfl, t2⟩⟩
