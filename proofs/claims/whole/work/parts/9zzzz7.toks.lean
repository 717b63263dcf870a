/-! Tokens: what both scanners give. -/
def tkL (l : List (Nat × Nat × Nat)) (i : Nat) : Nat := match l[i]? with | some e => e.1 | none => 403
def plL (l : List (Nat × Nat × Nat)) (i : Nat) : Nat := match l[i]? with | some e => e.2.1 | none => 0
def enL (l : List (Nat × Nat × Nat)) (i : Nat) : Nat := match l[i]? with | some e => e.2.2 | none => 0
def vlL (ch : Nat → Nat) (n : Nat) (l : List (Nat × Nat × Nat)) (i : Nat) : Nat := if tkL l i = 401 then dval ch 10 (enL l i - plL l i) (plL l i) 0 else dval ch (nbase (ch (ff (pnd ch) n (plL l i) + 1))) (enL l i - (ff (pnd ch) n (plL l i) + 2)) (ff (pnd ch) n (plL l i) + 2) 0
def wiL (ch : Nat → Nat) (n : Nat) (l : List (Nat × Nat × Nat)) (i : Nat) : Nat := dval ch 10 (ff (pnd ch) n (plL l i) - plL l i) (plL l i) 0
/-- a token of a text -/
def TE (ch : Nat → Nat) (n : Nat) (e : Nat × Nat × Nat) : Prop := e.2.1 ≤ n ∧ ((e.1 = 403 ∨ e.1 = 404) ∨ (e.2.1 < n ∧ tkind ch n e.2.1 = (e.1, e.2.2)))
theorem wk_or (ch : Nat → Nat) (fr to : Nat) : ∀ (l : List (Nat × Nat)) (i : Nat), i + l.length ≤ 18 → wk ch fr to l i = 400 ∨ (300 ≤ wk ch fr to l i ∧ wk ch fr to l i ≤ 317)
  | [], _, _ => Or.inl rfl
  | e :: l, i, h => by
    have h : i + (l.length + 1) ≤ 18 := h
    unfold wk
    split
    · exact Or.inr ⟨by omega, by omega⟩
    · exact wk_or ch fr to l (i + 1) (by omega)
theorem cpair_or (c d : Nat) : cpair c d = 0 ∨ (256 ≤ cpair c d ∧ cpair c d ≤ 263) := by
  unfold cpair
  repeat' split
  all_goals omega
/-- kinds of tokens, and what they are -/
theorem tkind_or (ch : Nat → Nat) (n k : Nat) : vk (tkind ch n k).1 = true ∧ (tkind ch n k).1 ≠ 403 ∧ ((tkind ch n k).1 = 400 → clet (ch k) = true ∧ (tkind ch n k).2 = ff (pni ch) n k) ∧ ((tkind ch n k).1 = 401 ∨ (tkind ch n k).1 = 402 → clet (ch k) = false ∧ cdig (ch k) = true ∧ (tkind ch n k).1 = nkind ch k (ff (pnd ch) n k) (nend ch n k) ∧ (tkind ch n k).2 = nend ch n k) := by
  unfold tkind
  by_cases c1 : clet (ch k) = true
  · rw [if_pos c1]
    rcases wk_or ch k (ff (pni ch) n k) kwt 0 (by decide) with q | q
    · refine ⟨by dsimp only; rw [q]; decide, by dsimp only; rw [q]; decide, fun _ => ⟨c1, rfl⟩, fun z => ?_⟩
      have z : wk ch k (ff (pni ch) n k) kwt 0 = 401 ∨ wk ch k (ff (pni ch) n k) kwt 0 = 402 := z
      omega
    · refine ⟨?_, by show _ ≠ _; omega, fun _ => ⟨c1, rfl⟩, fun z => ?_⟩
      · show vk (wk ch k (ff (pni ch) n k) kwt 0) = true
        unfold vk
        rw [decide_eq_true (show 300 ≤ wk ch k (ff (pni ch) n k) kwt 0 ∧ wk ch k (ff (pni ch) n k) kwt 0 ≤ 317 from q)]
        simp
      · have z : wk ch k (ff (pni ch) n k) kwt 0 = 401 ∨ wk ch k (ff (pni ch) n k) kwt 0 = 402 := z
        omega
  rw [if_neg c1]
  have c1' : clet (ch k) = false := Bool.eq_false_iff.mpr c1
  by_cases c2 : cdig (ch k) = true
  · rw [if_pos c2]
    rcases nkind_or ch k (ff (pnd ch) n k) (nend ch n k) with ⟨q, -⟩ | q | q
    · refine ⟨by dsimp only; rw [q]; decide, by dsimp only; rw [q]; decide, fun z => ?_, fun _ => ⟨c1', c2, rfl, rfl⟩⟩
      have z : nkind ch k (ff (pnd ch) n k) (nend ch n k) = 400 := z
      omega
    · refine ⟨by dsimp only; rw [q]; decide, by dsimp only; rw [q]; decide, fun z => ?_, fun _ => ⟨c1', c2, rfl, rfl⟩⟩
      have z : nkind ch k (ff (pnd ch) n k) (nend ch n k) = 400 := z
      omega
    · refine ⟨by dsimp only; rw [q]; decide, by dsimp only; rw [q]; decide, fun z => ?_, fun _ => ⟨c1', c2, rfl, rfl⟩⟩
      have z : nkind ch k (ff (pnd ch) n k) (nend ch n k) = 400 := z
      omega
  rw [if_neg c2]
  by_cases c3 : 0 < cpair (ch k) (ch (k + 1))
  · rw [if_pos c3]
    have q : 256 ≤ cpair (ch k) (ch (k + 1)) ∧ cpair (ch k) (ch (k + 1)) ≤ 263 := by
      rcases cpair_or (ch k) (ch (k + 1)) with q | q
      · omega
      · exact q
    refine ⟨?_, by show cpair (ch k) (ch (k + 1)) ≠ 403; omega, fun z => ?_, fun z => ?_⟩
    · show vk (cpair (ch k) (ch (k + 1))) = true
      unfold vk
      rw [decide_eq_true q]
      simp
    · have z : cpair (ch k) (ch (k + 1)) = 400 := z
      omega
    · have z : cpair (ch k) (ch (k + 1)) = 401 ∨ cpair (ch k) (ch (k + 1)) = 402 := z
      omega
  rw [if_neg c3]
  by_cases c4 : csign (ch k) = true
  · rw [if_pos c4]
    have q := csign_lt c4
    refine ⟨?_, by show ch k ≠ 403; omega, fun z => ?_, fun z => ?_⟩
    · show vk (ch k) = true
      unfold vk
      rw [c4]
      simp
    · have z : ch k = 400 := z
      omega
    · have z : ch k = 401 ∨ ch k = 402 := z
      omega
  · rw [if_neg c4]
    dsimp only
    exact ⟨by decide, by decide, fun z => absurd z (by decide), fun z => absurd z (by decide)⟩
section TOKS
variable {ch : Nat → Nat} {n : Nat} {s : ms}
theorem tks_ok (h : Src s n ch) : ∀ (f k : Nat), k ≤ n → n < k + f → 0 < (tks ch n f k).length ∧ (tks ch n f k).length ≤ n - k + 1 ∧ ∀ i e, (tks ch n f k)[i]? = some e → TE ch n e ∧ vk e.1 = true ∧ (i + 1 < (tks ch n f k).length → e.1 ≠ 403 ∧ e.1 ≠ 404) ∧ (i + 1 = (tks ch n f k).length → e.1 = 403 ∨ e.1 = 404) := by
  intro f
  induction f with
  | zero => intro k h1 h2; omega
  | succ f ih =>
    intro k h1 h2
    obtain ⟨q1, q2, q3⟩ := sk_in h (n + 1) k h1
    have one : ∀ e : Nat × Nat × Nat, TE ch n e → vk e.1 = true → (e.1 = 403 ∨ e.1 = 404) → 0 < [e].length ∧ [e].length ≤ n - k + 1 ∧ ∀ i x, [e][i]? = some x → TE ch n x ∧ vk x.1 = true ∧ (i + 1 < [e].length → x.1 ≠ 403 ∧ x.1 ≠ 404) ∧ (i + 1 = [e].length → x.1 = 403 ∨ x.1 = 404) := fun e e1 e2 e3 => by
      refine ⟨by simp, by simp, fun i x hx => ?_⟩
      cases i with
      | zero => cases hx; exact ⟨e1, e2, fun z => absurd z (by simp), fun _ => e3⟩
      | succ i => simp at hx
    unfold tks
    by_cases c1 : (sk ch n (n + 1) k).2 = false
    · rw [if_pos c1]
      exact one _ ⟨q2, Or.inl (Or.inr rfl)⟩ (by show vk 404 = true; decide) (Or.inr rfl)
    rw [if_neg c1]
    by_cases c2 : n ≤ (sk ch n (n + 1) k).1
    · rw [if_pos c2]
      exact one _ ⟨Nat.le_refl _, Or.inl (Or.inl rfl)⟩ (by show vk 403 = true; decide) (Or.inl rfl)
    rw [if_neg c2]
    by_cases c3 : (tkind ch n (sk ch n (n + 1) k).1).1 = 404
    · rw [if_pos c3]
      exact one _ ⟨q2, Or.inl (Or.inr rfl)⟩ (by show vk 404 = true; decide) (Or.inr rfl)
    rw [if_neg c3]
    obtain ⟨t1, t2, -⟩ := tkind_in h (k := (sk ch n (n + 1) k).1) (by omega)
    obtain ⟨o1, o2, -⟩ := tkind_or ch n (sk ch n (n + 1) k).1
    obtain ⟨i1, i2, i3⟩ := ih (tkind ch n (sk ch n (n + 1) k).1).2 t2 (by omega)
    refine ⟨by simp, by rw [List.length_cons]; omega, fun i x hx => ?_⟩
    cases i with
    | zero =>
      cases hx
      refine ⟨⟨q2, Or.inr ⟨Nat.lt_of_not_le c2, rfl⟩⟩, o1, fun _ => ⟨o2, c3⟩, fun z => ?_⟩
      rw [List.length_cons] at z
      omega
    | succ i =>
      obtain ⟨a1, a2, a3, a4⟩ := i3 i x (by simpa using hx)
      refine ⟨a1, a2, fun z => a3 (by rw [List.length_cons] at z; omega), fun z => a4 (by rw [List.length_cons] at z; omega)⟩
theorem toks_T (h : Src s n ch) (hn : n ≤ 12000) : Tv (tkL (tks ch n (n + 1) 0)) (plL (tks ch n (n + 1) 0)) (tks ch n (n + 1) 0).length := by
  obtain ⟨h1, h2, h3⟩ := tks_ok h (n + 1) 0 (Nat.zero_le _) (by omega)
  have at' : ∀ i, i < (tks ch n (n + 1) 0).length → ∃ e, (tks ch n (n + 1) 0)[i]? = some e ∧ tkL (tks ch n (n + 1) 0) i = e.1 ∧ plL (tks ch n (n + 1) 0) i = e.2.1 := fun i hi => ⟨_, List.getElem?_eq_getElem hi, by unfold tkL; rw [List.getElem?_eq_getElem hi], by unfold plL; rw [List.getElem?_eq_getElem hi]⟩
  refine ⟨h1, by omega, fun i hi => ?_, ?_, fun i hi => ?_⟩
  · obtain ⟨e, e1, e2, e3⟩ := at' i hi
    obtain ⟨a1, a2, -⟩ := h3 i e e1
    rw [e2, e3]
    exact ⟨a2, by have := a1.1; omega⟩
  · obtain ⟨e, e1, e2, e3⟩ := at' ((tks ch n (n + 1) 0).length - 1) (by omega)
    rw [e2]
    exact (h3 _ e e1).2.2.2 (by omega)
  · obtain ⟨e, e1, e2, e3⟩ := at' i (by omega)
    rw [e2]
    exact (h3 _ e e1).2.2.1 hi
/-- numbers -/
theorem num_at (h : Src s n ch) {i : Nat} (hk : tkL (tks ch n (n + 1) 0) i = 401 ∨ tkL (tks ch n (n + 1) 0) i = 402) : i < (tks ch n (n + 1) 0).length ∧ plL (tks ch n (n + 1) 0) i < n ∧ enL (tks ch n (n + 1) 0) i = nend ch n (plL (tks ch n (n + 1) 0) i) ∧ tkL (tks ch n (n + 1) 0) i = nkind ch (plL (tks ch n (n + 1) 0) i) (ff (pnd ch) n (plL (tks ch n (n + 1) 0) i)) (nend ch n (plL (tks ch n (n + 1) 0) i)) ∧ cdig (ch (plL (tks ch n (n + 1) 0) i)) = true := by
  have hi : i < (tks ch n (n + 1) 0).length := by
    apply Decidable.byContradiction
    intro z
    unfold tkL at hk
    rw [List.getElem?_eq_none (by omega)] at hk
    rcases hk with q | q <;> exact absurd q (by decide)
  obtain ⟨h1, h2, h3⟩ := tks_ok h (n + 1) 0 (Nat.zero_le _) (by omega)
  obtain ⟨e, e1⟩ : ∃ e, (tks ch n (n + 1) 0)[i]? = some e := ⟨_, List.getElem?_eq_getElem hi⟩
  have ek : tkL (tks ch n (n + 1) 0) i = e.1 := by unfold tkL; rw [e1]
  have ep : plL (tks ch n (n + 1) 0) i = e.2.1 := by unfold plL; rw [e1]
  have ee : enL (tks ch n (n + 1) 0) i = e.2.2 := by unfold enL; rw [e1]
  rw [ek] at hk
  rw [ek, ep, ee]
  obtain ⟨⟨a1, a2⟩, -⟩ := h3 i e e1
  rcases a2 with a2 | ⟨a2, a3⟩
  · omega
  · obtain ⟨-, -, -, b⟩ := tkind_or ch n e.2.1
    rw [a3] at b
    obtain ⟨b1, b2, b3, b4⟩ := b hk
    exact ⟨hi, a2, b4, b3, b2⟩
theorem toks_V (h : Src s n ch) : Vb (tkL (tks ch n (n + 1) 0)) (vlL ch n (tks ch n (n + 1) 0)) (wiL ch n (tks ch n (n + 1) 0)) := by
  intro i
  refine ⟨fun k => ?_, fun k => ?_⟩
  · obtain ⟨-, -, a3, a4, -⟩ := num_at h (Or.inl k)
    unfold vlL
    rw [if_pos k, a3]
    rw [k] at a4
    unfold nkind at a4
    split at a4
    · rename_i z
      split at a4
      · rename_i w
        rw [← z]
        exact w
      · cases a4
    · split at a4 <;> cases a4
  · obtain ⟨-, -, a3, a4, -⟩ := num_at h (Or.inr k)
    unfold vlL wiL
    rw [if_neg (by rw [k]; decide), a3]
    rw [k] at a4
    unfold nkind at a4
    split at a4
    · split at a4 <;> cases a4
    · split at a4
      · rename_i w
        exact ⟨w.2.2.2.2.2.2.2, w.2.2.1, w.2.2.2.1⟩
      · cases a4
/-- what the class's scan gives -/
theorem toks_K {t : ms} {ws : List Nat} {ls : List (Nat × Nat)} (h : Src s n ch) (hn : n ≤ 12000) (hC : Ctk ch n ws ls t 0 (tks ch n (n + 1) 0)) (hL : Lit t ls) (hw : ws.length ≤ n) (hl : ls.length ≤ n) : KS (tkL (tks ch n (n + 1) 0)) (plL (tks ch n (n + 1) 0)) (vlL ch n (tks ch n (n + 1) 0)) (wiL ch n (tks ch n (n + 1) 0)) (fun i => Int32.toNatClampNeg (tkX (t.2 211 i))) (tks ch n (n + 1) 0).length (fun i => tkX (t.2 211 i)) ws.length (t.2 339) ls.length t ∧ ∀ i, i < (tks ch n (n + 1) 0).length → tkL (tks ch n (n + 1) 0) i = 400 → weq ch n (ws.getD (Int32.toNatClampNeg (tkX (t.2 211 i))) 0) (plL (tks ch n (n + 1) 0) i) ∧ Int32.toNatClampNeg (tkX (t.2 211 i)) < ws.length := by
  have hT := toks_T h hn
  have hV := toks_V h
  obtain ⟨c1, c2⟩ := hC
  rw [Nat.zero_add] at c1
  have at' : ∀ i, i < (tks ch n (n + 1) 0).length → ∃ e x, tkL (tks ch n (n + 1) 0) i = e.1 ∧ plL (tks ch n (n + 1) 0) i = e.2.1 ∧ enL (tks ch n (n + 1) 0) i = e.2.2 ∧ x < 2 ^ 20 ∧ Xok ch n ws ls e x ∧ tkK (t.2 211 i) = nI (kap e.1) ∧ tkP (t.2 211 i) = nI e.2.1 ∧ tkX (t.2 211 i) = nI x - 1 := fun i hi => by
    have e1 := List.getElem?_eq_getElem hi
    obtain ⟨x, x1, x2, x3⟩ := c2 i _ e1
    rw [Nat.zero_add] at x2
    have v := hT.2.2.1 i hi
    have ek : tkL (tks ch n (n + 1) 0) i = ((tks ch n (n + 1) 0)[i]).1 := by unfold tkL; rw [e1]
    have ep : plL (tks ch n (n + 1) 0) i = ((tks ch n (n + 1) 0)[i]).2.1 := by unfold plL; rw [e1]
    have ee : enL (tks ch n (n + 1) 0) i = ((tks ch n (n + 1) 0)[i]).2.2 := by unfold enL; rw [e1]
    rw [ek, ep] at v
    have kl : kap ((tks ch n (n + 1) 0)[i]).1 < 1024 := by
      have := vk_lt v.1
      unfold kap
      split <;> (try split) <;> (try split) <;> (try split) <;> (try split) <;> (try split) <;> (try split) <;> omega
    obtain ⟨d1, d2, d3⟩ := tk_dec (x := x) kl (show ((tks ch n (n + 1) 0)[i]).2.1 < 2 ^ 20 by omega) x1
    rw [← x2] at d1 d2 d3
    exact ⟨_, x, ek, ep, ee, x1, x3, d1, d2, d3⟩
  have wdx : ∀ i, i < (tks ch n (n + 1) 0).length → tkL (tks ch n (n + 1) 0) i = 400 → ∃ w, tkX (t.2 211 i) = nI w ∧ w < ws.length ∧ weq ch n (ws.getD w 0) (plL (tks ch n (n + 1) 0) i) := fun i hi k => by
    obtain ⟨e, x, e1, e2, e3, e4, e5, e6, e7, e8⟩ := at' i hi
    rw [e1] at k
    obtain ⟨w, w1, w2, w3⟩ := e5.1 (by omega) (by omega)
    refine ⟨w, ?_, w2, by rw [e2]; exact w3⟩
    rw [e8, w1]
    exact s1_nI
  refine ⟨⟨⟨c1, fun i hi => ?_⟩, hL.1, by omega, rfl, fun i hi k => ?_, fun i hi k => ?_, fun i hi k => ?_, by omega⟩, fun i hi k => ?_⟩
  · obtain ⟨e, x, e1, e2, e3, e4, e5, e6, e7, e8⟩ := at' i hi
    rw [e1, e2]
    exact ⟨e6, e7, rfl⟩
  · obtain ⟨e, x, e1, e2, e3, e4, e5, e6, e7, e8⟩ := at' i hi
    refine ⟨?_, (hV i).1 k⟩
    rw [e1] at k
    obtain ⟨x1, x2⟩ := e5.2.1 k
    show tkX (t.2 211 i) = _
    rw [e8, x1, s1_nI]
    unfold vlL
    rw [if_pos (by rw [e1]; exact k), e2, e3]
  · obtain ⟨e, x, e1, e2, e3, e4, e5, e6, e7, e8⟩ := at' i hi
    obtain ⟨v1, v2, v3⟩ := (hV i).2 k
    have k' := k
    rw [e1] at k
    obtain ⟨j, j1, j2⟩ := e5.2.2 k
    have jl : j < ls.length := (List.getElem?_eq_some_iff.mp j2).1
    obtain ⟨g1, g2⟩ := hL.2 j _ j2
    refine ⟨j, ?_, jl, ?_, v2, v3, ?_⟩
    · show tkX (t.2 211 i) = _
      rw [e8, j1, s1_nI]
    · rw [g1]
      unfold wiL
      rw [e2]
    · rw [g2]
      unfold vlL
      rw [if_neg (by rw [k']; decide), e2, e3]
  · obtain ⟨w, w1, w2, w3⟩ := wdx i hi k
    dsimp only
    rw [w1, nI_clamp (by omega)]
    exact ⟨rfl, w2⟩
  · obtain ⟨w, w1, w2, w3⟩ := wdx i hi k
    rw [w1, nI_clamp (by omega)]
    exact ⟨w3, w2⟩
end TOKS
