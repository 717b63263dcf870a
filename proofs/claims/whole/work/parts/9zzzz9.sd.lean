/-! What the designs stand on, from the scanners. -/
section SDS
variable {ch : Nat → Nat} {n N : Nat} {s : ms}
theorem ffn (h : Src s n ch) {k : Nat} (hk : k ≤ n) : ff (pnd ch) (n - k) k = ff (pnd ch) n k ∧ pnd ch (ff (pnd ch) (n - k) k) = true ∧ k ≤ ff (pnd ch) n k ∧ ff (pnd ch) n k ≤ n := by
  have p0 : ∀ j, ch j = 256 → pnd ch j = true := fun j q => by rw [pnd, q]; rfl
  have le := ff_le (pnd ch) (n - k) k
  have yes : pnd ch (ff (pnd ch) (n - k) k) = true := by
    by_cases z : ff (pnd ch) (n - k) k < k + (n - k)
    · exact ff_yes _ _ _ z
    · exact p0 _ (h.2.2.2 _ (by omega))
  have e := ff_more (pnd ch) (n - k) n k yes (by omega)
  have i := ff_in h (pnd ch) p0 hk
  exact ⟨e.symm, yes, i.1, i.2.1⟩
theorem mch_98 : ∀ c : Fin 257, ((mch c.1 = 98) ↔ c.1 = 98) ∧ ((mch c.1 = 111) ↔ c.1 = 111) ∧ ((mch c.1 = 100) ↔ c.1 = 100) := by decide +kernel
theorem mbase {c : Nat} (hc : c < 257) (h : nbase c ≠ 0) : (if mch c = 98 then (2 : Int32) else if mch c = 111 then 8 else if mch c = 100 then 10 else 16) = nI (nbase c) := by
  obtain ⟨m1, m2, m3⟩ := mch_98 ⟨c, hc⟩
  dsimp only at m1 m2 m3
  unfold nbase at *
  by_cases c1 : c = 98
  · rw [if_pos (m1.mpr c1), if_pos c1]; rfl
  rw [if_neg (fun q => c1 (m1.mp q)), if_neg c1]
  by_cases c2 : c = 111
  · rw [if_pos (m2.mpr c2), if_pos c2]; rfl
  rw [if_neg (fun q => c2 (m2.mp q)), if_neg c2]
  by_cases c3 : c = 100
  · rw [if_pos (m3.mpr c3), if_pos c3]; rfl
  rw [if_neg (fun q => c3 (m3.mp q)), if_neg c3]
  by_cases c4 : c = 104
  · rw [if_pos c4]; rfl
  · rw [if_neg c1, if_neg c2, if_neg c3, if_neg c4] at h
    exact absurd rfl h
theorem weq_iff {p q : Nat} : weq ch n p q ↔ (wend ch n p - p = wend ch n q - q ∧ ∀ i, i < wend ch n q - q → ch (p + i) = ch (q + i)) := Iff.rfl
theorem weq.symm {p q : Nat} (h : weq ch n p q) : weq ch n q p := ⟨h.1.symm, fun i hi => (h.2 i (by have := h.1; omega)).symm⟩
theorem weq.trans {p q r : Nat} (h : weq ch n p q) (g : weq ch n q r) : weq ch n p r := ⟨h.1.trans g.1, fun i hi => (h.2 i (by have := g.1; omega)).trans (g.2 i hi)⟩
theorem SD_of {wd : Nat → Nat} (hN : 13000 < N) (hn : n ≤ 12000) (h : Src s n ch) (h90 : ∀ k, k < n → ch k < 256 ∧ s.1 90 k = kch (ch k)) (hT : Tks s 0 (tks ch n (n + 1) 0)) (h4 : ∀ i, 13000 ≤ i → s.1 4 i = 0) (hwd : ∀ a b, a < (tks ch n (n + 1) 0).length → b < (tks ch n (n + 1) 0).length → tkL (tks ch n (n + 1) 0) a = 400 → tkL (tks ch n (n + 1) 0) b = 400 → (wd a = wd b ↔ weq ch n (plL (tks ch n (n + 1) 0) a) (plL (tks ch n (n + 1) 0) b))) : SD (tkL (tks ch n (n + 1) 0)) (plL (tks ch n (n + 1) 0)) (vlL ch n (tks ch n (n + 1) 0)) (wiL ch n (tks ch n (n + 1) 0)) wd (tks ch n (n + 1) 0).length N s := by
  have tv := toks_T h hn
  have hV := toks_V h
  obtain ⟨t1, t2⟩ := hT
  have row : ∀ i, i < (tks ch n (n + 1) 0).length → s.1 4 i = nI (tkL (tks ch n (n + 1) 0) i) ∧ s.1 5 i = nI (plL (tks ch n (n + 1) 0) i) ∧ s.1 6 i = nI (enL (tks ch n (n + 1) 0) i) := fun i hi => by
    have e1 := List.getElem?_eq_getElem hi
    have := t2 i _ e1
    rw [Nat.zero_add] at this
    unfold tkL plL enL
    rw [e1]
    exact this
  have dig : ∀ k, k ≤ n → ∀ j, k ≤ j → j < ff (pnd ch) n k → cdv (ch j) < 10 := fun k hk j j1 j2 => by
    have := ff_no (pnd ch) n k j j1 j2
    have c : cdig (ch j) = true := by unfold pnd at this; cases q : cdig (ch j) with | true => rfl | false => rw [q] at this; cases this
    have c : 48 ≤ ch j ∧ ch j ≤ 57 := of_decide_eq_true c
    unfold cdv
    rw [if_pos c]
    omega
  refine ⟨fun i hi => ⟨(row i hi).1, (row i hi).2.1⟩, h4, fun s' e i hi k => ?_, fun s' e i hi k => ?_, fun s' e a b ha hb ka kb => ?_, hV⟩
  · have S' : Src s' n ch := h.mono (e.1 2 (by decide)) (e.1 90 (by decide))
    obtain ⟨-, a2, a3, a4, a5⟩ := num_at h k
    obtain ⟨r4, r5, r6⟩ := row i hi
    have r5' : s'.1 5 i = nI (plL (tks ch n (n + 1) 0) i) := by rw [e.1 5 (by decide)]; exact r5
    have r6' : s'.1 6 i = nI (enL (tks ch n (n + 1) 0) i) := by rw [e.1 6 (by decide)]; exact r6
    have il : i < 65540 := by have := tv.2.1; omega
    have ve := nend_in h (k := plL (tks ch n (n + 1) 0) i) (by omega)
    generalize hp : plL (tks ch n (n + 1) 0) i = p at *
    generalize he : enL (tks ch n (n + 1) 0) i = en at *
    obtain ⟨f1, f2, f3, f4⟩ := ffn h (k := p) (by omega)
    have nl := num_L (N := N) S' hn il r5' r6' (by omega) N p (n - p) (by omega) (by rw [f1]; exact f4) f2 (by omega)
    rw [f1] at nl
    unfold fn_M_numberOf
    rw [if_neg (nI_in il (by decide)), nI_clamp (by omega), r5', nl]
    unfold vlL
    rw [hp, he]
    rcases k with k | k
    · rw [k] at a4
      have z : ff (pnd ch) n p = nend ch n p ∧ dval ch 10 (ff (pnd ch) n p - p) p 0 < 2 ^ 16 := by
        unfold nkind at a4
        split at a4
        · rename_i z
          split at a4
          · rename_i w; exact ⟨z, w⟩
          · cases a4
        · split at a4 <;> cases a4
      rw [if_pos (by rw [a3]; exact z.1), if_pos k]
      obtain ⟨v, v1, v2⟩ := read_M (N := N) (w := 16) S' (show 2 ≤ 10 by decide) (by decide) (by decide) f3 f4 (by omega) (dig p (by omega))
      rw [v2 (by have := z.2; omega)] at v1
      rw [a3, ← z.1]
      exact ⟨_, v1⟩
    · rw [k] at a4
      have z : ff (pnd ch) n p ≠ nend ch n p ∧ dval ch 10 (ff (pnd ch) n p - p) p 0 ≤ 64 ∧ ff (pnd ch) n p + 2 < nend ch n p ∧ nbase (ch (ff (pnd ch) n p + 1)) ≠ 0 ∧ alld ch (nbase (ch (ff (pnd ch) n p + 1))) (nend ch n p - (ff (pnd ch) n p + 2)) (ff (pnd ch) n p + 2) = true ∧ dval ch (nbase (ch (ff (pnd ch) n p + 1))) (nend ch n p - (ff (pnd ch) n p + 2)) (ff (pnd ch) n p + 2) 0 < 2 ^ dval ch 10 (ff (pnd ch) n p - p) p 0 := by
        unfold nkind at a4
        split at a4
        · split at a4 <;> cases a4
        · rename_i z
          split at a4
          · rename_i w; exact ⟨z, w.2.2.2.1, w.2.2.2.2.1, w.2.2.2.2.2.1, w.2.2.2.2.2.2.1, w.2.2.2.2.2.2.2⟩
          · cases a4
      obtain ⟨z1, z2, z3, z4, z5, z6⟩ := z
      have nb : 2 ≤ nbase (ch (ff (pnd ch) n p + 1)) ∧ nbase (ch (ff (pnd ch) n p + 1)) ≤ 16 := by
        rcases nbase_or (ch (ff (pnd ch) n p + 1)) with q | q | q | q | q <;> omega
      rw [if_neg (show ¬ ff (pnd ch) n p = en by rw [a3]; exact z1), if_neg (show ¬ tkL (tks ch n (n + 1) 0) i = 401 by rw [k]; decide), mbase (h.lt _) z4, a3]
      obtain ⟨v, v1, v2⟩ := read_M (N := N) (w := 64) (to := nend ch n p) (fr := ff (pnd ch) n p + 2) S' nb.1 nb.2 (by decide) (by omega) ve.2.2 (by omega) (fun j j1 j2 => alld_all _ _ z5 j j1 (by omega))
      rw [v2 (Nat.lt_of_lt_of_le z6 (Nat.pow_le_pow_right (by decide) z2))] at v1
      exact ⟨_, v1⟩
  · have S' : Src s' n ch := h.mono (e.1 2 (by decide)) (e.1 90 (by decide))
    obtain ⟨-, a2, a3, a4, a5⟩ := num_at h (Or.inr k)
    have r5' : s'.1 5 i = nI (plL (tks ch n (n + 1) 0) i) := by rw [e.1 5 (by decide)]; exact (row i hi).2.1
    have il : i < 65540 := by have := tv.2.1; omega
    obtain ⟨f1, f2, f3, f4⟩ := ffn h (k := plL (tks ch n (n + 1) 0) i) (by omega)
    unfold fn_M_widthOfNumber
    rw [if_neg (nI_in il (by decide)), nI_clamp (by omega), r5', show hd_M_widthOfNumber_9 N N (nI (plL (tks ch n (n + 1) 0) i)) 0 s' = _ from wid_L (N := N) S' hn N (plL (tks ch n (n + 1) 0) i) (n - plL (tks ch n (n + 1) 0) i) 0 (by omega) f2 (by omega), f1]
    rfl
  · -- words
    have wrd : ∀ i, i < (tks ch n (n + 1) 0).length → tkL (tks ch n (n + 1) 0) i = 400 → enL (tks ch n (n + 1) 0) i = wend ch n (plL (tks ch n (n + 1) 0) i) ∧ plL (tks ch n (n + 1) 0) i ≤ wend ch n (plL (tks ch n (n + 1) 0) i) ∧ wend ch n (plL (tks ch n (n + 1) 0) i) ≤ n := fun i hi k => by
      obtain ⟨h1, h2, h3⟩ := tks_ok h (n + 1) 0 (Nat.zero_le _) (by omega)
      have e1 := List.getElem?_eq_getElem hi
      obtain ⟨⟨b1, b2⟩, -⟩ := h3 i _ e1
      have ek : tkL (tks ch n (n + 1) 0) i = ((tks ch n (n + 1) 0)[i]).1 := by unfold tkL; rw [e1]
      have ep : plL (tks ch n (n + 1) 0) i = ((tks ch n (n + 1) 0)[i]).2.1 := by unfold plL; rw [e1]
      have ee : enL (tks ch n (n + 1) 0) i = ((tks ch n (n + 1) 0)[i]).2.2 := by unfold enL; rw [e1]
      rw [ek] at k
      rw [ep, ee]
      rcases b2 with b2 | ⟨b2, b3⟩
      · omega
      · obtain ⟨-, -, o, -⟩ := tkind_or ch n ((tks ch n (n + 1) 0)[i]).2.1
        rw [b3] at o
        have i' := ff_in h (pni ch) (fun j q => by rw [pni, q]; rfl) b1
        exact ⟨(o k).2, i'.1, i'.2.1⟩
    obtain ⟨u1, u2, u3⟩ := wrd a ha ka
    obtain ⟨w1, w2, w3⟩ := wrd b hb kb
    obtain ⟨-, r5a, r6a⟩ := row a ha
    obtain ⟨-, r5b, r6b⟩ := row b hb
    have il : (tks ch n (n + 1) 0).length ≤ 12001 := tv.2.1
    rw [same_M (N := N) (ch := ch) (n := n) (la := wend ch n (plL (tks ch n (n + 1) 0) a) - plL (tks ch n (n + 1) 0) a) (lb := wend ch n (plL (tks ch n (n + 1) 0) b) - plL (tks ch n (n + 1) 0) b) hN hn (by omega) (by omega) (by rw [e.1 5 (by decide)]; exact r5a) (by rw [e.1 5 (by decide)]; exact r5b) (by rw [e.1 6 (by decide), r6a, u1, show plL (tks ch n (n + 1) 0) a + (wend ch n (plL (tks ch n (n + 1) 0) a) - plL (tks ch n (n + 1) 0) a) = wend ch n (plL (tks ch n (n + 1) 0) a) by omega]) (by rw [e.1 6 (by decide), r6b, w1, show plL (tks ch n (n + 1) 0) b + (wend ch n (plL (tks ch n (n + 1) 0) b) - plL (tks ch n (n + 1) 0) b) = wend ch n (plL (tks ch n (n + 1) 0) b) by omega]) (by omega) (by omega) (by rw [e.1 90 (by decide)]; exact h90)]
    congr 3
    exact decide_eq_decide.mpr (hwd a b ha hb ka kb).symm
end SDS
