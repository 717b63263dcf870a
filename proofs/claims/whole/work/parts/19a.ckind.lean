/-! Kinds of tokens, of the reference and of the class; key words and signs of the class. -/
def kap (k : Nat) : Nat := if k < 256 then k else if k < 300 then k - 251 else if k < 400 then k - 172 else if k = 400 then 2 else if k = 401 then 3 else if k = 402 then 4 else if k = 403 then 0 else 1
theorem kw_at : ∀ j : Fin 113, (Int32.toUInt32 ((dc_kw j.1) &&& 255) % 65536).toInt32 = nI (wdN j.1) ∧ narrow .char (.int (nI (wdN j.1))) = .int (nI (wdN j.1)) ∧ wdN j.1 < 128 := by decide +kernel
theorem charAt_C {N j : Nat} {s : ms} (hj : j < 113) : fn_String_charAt_KW N (nI j) s = some (nI (wdN j), s) := by
  obtain ⟨k1, k2, -⟩ := kw_at ⟨j, hj⟩
  dsimp only at k1 k2
  unfold fn_String_charAt_KW fn_StringLatin1_charAt_KWB fn_String_checkIndex fn_Preconditions_checkIndex_NUL
  rw [if_neg (nI_pos (by omega)), if_pos (show nI j < (113 : Int32) from nI_lt (b := 113) hj (by decide))]
  dsimp only [Option.bind]
  rw [if_neg (nI_in hj (by decide)), nI_clamp (by omega), k1, if_neg (fun q => q k2)]
  dsimp only [Option.bind]
  rw [if_neg (fun q => q k2)]
theorem spells_C {N n fr to st : Nat} {ch : Nat → Nat} {s : ms} (h : Txt s n ch) (hto : to ≤ n) (hst : st + (to - fr) < 113) : ∀ (f m j : Nat), fr + j + f = to → f < m → hd_Scanner_spells_Sc_3 N m (nI st) (nI fr) (nI to) (nI (fr + j)) s = some (b01 (wm ch fr to st f j), s) := by
  have hn := h.2.1
  intro f
  induction f with
  | zero =>
    intro m j e hm
    obtain ⟨m, rfl⟩ : ∃ m', m = m' + 1 := ⟨m - 1, by omega⟩
    show bd_Scanner_spells_Sc_3 N (hd_Scanner_spells_Sc_3 N m) (nI st) (nI fr) (nI to) (nI (fr + j)) s = _
    unfold bd_Scanner_spells_Sc_3
    rw [if_pos (nI_le (by omega) (by omega))]
    rfl
  | succ f ih =>
    intro m j e hm
    obtain ⟨m, rfl⟩ : ∃ m', m = m' + 1 := ⟨m - 1, by omega⟩
    show bd_Scanner_spells_Sc_3 N (hd_Scanner_spells_Sc_3 N m) (nI st) (nI fr) (nI to) (nI (fr + j)) s = _
    unfold bd_Scanner_spells_Sc_3
    have hj : st + j < 113 := by omega
    have e1 : nI st + nI (fr + j) - nI fr = nI (st + j) := by rw [nI_add, nI_sub (by omega)]; congr 1; omega
    rw [if_neg (nI_ge (show fr + j < to by omega) (by omega)), e1, charAt_C hj, ex_bind rfl]
    dsimp only
    rw [byteAt_C h (by omega), ex_bind rfl]
    dsimp only
    rw [nI_1]
    have w2 : wdN (st + j) < 128 := (kw_at ⟨st + j, hj⟩).2.2
    have q : (kch (ch (fr + j)) = nI (wdN (st + j))) = (ch (fr + j) = wdN (st + j)) := kq (h.lt _) _ w2
    show _ = some (b01 (decide (fr + j < to ∧ ch (fr + j) = wdN (st + j)) && wm ch fr to st f (j + 1)), s)
    by_cases c : ch (fr + j) = wdN (st + j)
    · rw [if_pos (q.mpr c).symm, decide_eq_true ⟨by omega, c⟩, Bool.true_and]
      exact ih m (j + 1) (by omega) (by omega)
    · rw [if_neg (fun z => c (q.mp z.symm)), decide_eq_false (fun z => c z.2), Bool.false_and]
      rfl
theorem kind10_C {N n fr to st len w : Nat} {ch : Nat → Nat} {s : ms} (h : Txt s n ch) (h1 : fr ≤ to) (hto : to ≤ n) (hN : n < N) (hg : kwgood st len = true) (hw : w < 1000) : ∀ (f m j : Nat), j + f = len → f < m → hd_Scanner_kindOf_Sc_10 N m (nI fr) (nI to) (nI (128 + w)) (nI st) (nI (st + j)) s = if (wm ch fr to st len 0 && decide (len = to - fr)) = true then some (nI (128 + w), s) else hd_Scanner_kindOf_Sc_10 N (m - f - 1) (nI fr) (nI to) (nI (128 + (w + 1))) (nI (st + len + 1)) (nI (st + len + 1)) s := by
  have hn := h.2.1
  simp only [kwgood, Bool.and_eq_true, decide_eq_true_eq, List.all_eq_true, List.mem_range] at hg
  obtain ⟨⟨g1, g2⟩, g3⟩ := hg
  have hlen : ∀ j : Nat, j < 113 → ∀ mm : Nat, hd_Scanner_kindOf_Sc_10 N (mm + 1) (nI fr) (nI to) (nI (128 + w)) (nI st) (nI j) s = (if nI (wdN j) = 32 then (if (nI j - nI st) = (nI to - nI fr) then ((fn_Scanner_spells_Sc N (nI st) (nI fr) (nI to) s).bind (fun q_7 => if q_7.1 = 0 then (bk_Scanner_kindOf_Sc_59 N (hd_Scanner_kindOf_Sc_10 N mm) (nI fr) (nI to) (nI (128 + w)) (nI j) q_7.2) else (some (nI (128 + w), q_7.2)))) else (bk_Scanner_kindOf_Sc_59 N (hd_Scanner_kindOf_Sc_10 N mm) (nI fr) (nI to) (nI (128 + w)) (nI j) s)) else (hd_Scanner_kindOf_Sc_10 N mm (nI fr) (nI to) (nI (128 + w)) (nI st) ((nI j + 1)) s)) := by
    intro j hj mm
    show bd_Scanner_kindOf_Sc_10 N (hd_Scanner_kindOf_Sc_10 N mm) (nI fr) (nI to) (nI (128 + w)) (nI st) (nI j) s = _
    unfold bd_Scanner_kindOf_Sc_10
    rw [show fn_String_length_KW N s = some (nI 113, s) from rfl, ex_bind rfl]
    dsimp only
    rw [if_neg (nI_ge hj (by decide)), charAt_C hj, ex_bind rfl]
  intro f
  induction f with
  | zero =>
    intro m j e hm
    obtain ⟨m, rfl⟩ : ∃ m', m = m' + 1 := ⟨m - 1, by omega⟩
    obtain rfl : j = len := by omega
    rw [hlen (st + j) g1 m, g3, if_pos (show nI 32 = (32 : Int32) from rfl), nI_sub (by omega), nI_sub h1, show st + j - st = j by omega]
    unfold bk_Scanner_kindOf_Sc_59
    rw [nI_1, nI_1, show m + 1 - 0 - 1 = m by omega, show 128 + w + 1 = 128 + (w + 1) by omega]
    by_cases c : j = to - fr
    · rw [if_pos (by rw [c])]
      unfold fn_Scanner_spells_Sc
      have sp := spells_C (N := N) (st := st) (fr := fr) h hto (by omega) (to - fr) N 0 (by omega) (by omega)
      rw [Nat.add_zero] at sp
      rw [sp, ex_bind rfl]
      dsimp only
      rw [← c, decide_eq_true rfl, Bool.and_true]
      cases wm ch fr to st j 0
      · rfl
      · rfl
    · rw [if_neg (fun q => c ((nI_eq (by omega) (by omega)).mp q)), decide_eq_false c, Bool.and_false]
      rfl
  | succ f ih =>
    intro m j e hm
    obtain ⟨m, rfl⟩ : ∃ m', m = m' + 1 := ⟨m - 1, by omega⟩
    have hj : st + j < 113 := by omega
    have w2 : wdN (st + j) < 128 := (kw_at ⟨st + j, hj⟩).2.2
    have ne : ¬ nI (wdN (st + j)) = (32 : Int32) := fun q => g2 j (by omega) ((nI_eq (by omega) (by decide)).mp (show nI (wdN (st + j)) = nI 32 from q))
    rw [hlen (st + j) hj m, if_neg ne, nI_1, show st + j + 1 = st + (j + 1) by omega, ih m (j + 1) (by omega) (by omega), show m + 1 - (f + 1) - 1 = m - f - 1 by omega]
theorem kwlen_C : ∀ (l : List (Nat × Nat)) (st : Nat), kwch l st = true → st + (l.map (fun e => e.2 + 1)).sum = 113
  | [], st, h => by simpa [kwch] using h
  | e :: l, st, h => by
    simp only [kwch, Bool.and_eq_true, decide_eq_true_eq] at h
    have := kwlen_C l _ h.2
    simp only [List.map_cons, List.sum_cons]
    omega
theorem kindOf_C0 {N n fr to : Nat} {ch : Nat → Nat} {s : ms} (h : Txt s n ch) (h1 : fr ≤ to) (hto : to ≤ n) (hN : n < N) : ∀ (l : List (Nat × Nat)) (st w m : Nat), kwch l st = true → w + l.length < 100 → 113 - st < m → hd_Scanner_kindOf_Sc_10 N m (nI fr) (nI to) (nI (128 + w)) (nI st) (nI st) s = some (nI (kap (wk ch fr to l w)), s) := by
  intro l
  induction l with
  | nil =>
    intro st w m hc hw hm
    obtain ⟨m, rfl⟩ : ∃ m', m = m' + 1 := ⟨m - 1, by omega⟩
    have hc : st = 113 := by simpa [kwch] using hc
    subst hc
    show bd_Scanner_kindOf_Sc_10 N (hd_Scanner_kindOf_Sc_10 N m) (nI fr) (nI to) (nI (128 + w)) (nI 113) (nI 113) s = _
    unfold bd_Scanner_kindOf_Sc_10
    rw [show fn_String_length_KW N s = some (nI 113, s) from rfl, ex_bind rfl]
    dsimp only
    rw [if_pos (by decide)]
    rfl
  | cons e l ih =>
    intro st w m hc hw hm
    have hl := kwlen_C _ _ hc
    simp only [kwch, Bool.and_eq_true, decide_eq_true_eq] at hc
    obtain ⟨⟨rfl, hg⟩, hc⟩ := hc
    simp only [List.length_cons] at hw
    simp only [List.map_cons, List.sum_cons] at hl
    have k := kind10_C (w := w) h h1 hto hN hg (by omega) e.2 m 0 (by omega) (by omega)
    rw [Nat.add_zero] at k
    rw [k]
    show _ = some (nI (kap (if (wm ch fr to e.1 e.2 0 && decide (e.2 = to - fr)) = true then 300 + w else wk ch fr to l (w + 1))), s)
    by_cases c : (wm ch fr to e.1 e.2 0 && decide (e.2 = to - fr)) = true
    · rw [if_pos c, if_pos c]
      have : kap (300 + w) = 128 + w := by
        unfold kap
        rw [if_neg (by omega), if_neg (by omega), if_pos (by omega)]; omega
      rw [this]
    · rw [if_neg c, if_neg c]
      exact ih _ _ _ hc (by omega) (by omega)
theorem kindOf_C {N n fr to : Nat} {ch : Nat → Nat} {s : ms} (h : Txt s n ch) (h1 : fr ≤ to) (hto : to ≤ n) (hN : n + 113 < N) : fn_Scanner_kindOf_Sc N (nI fr) (nI to) s = some (nI (kap (wk ch fr to kwt 0)), s) := kindOf_C0 h h1 hto (by omega) kwt 0 0 N kwch_t (by decide) (by omega)
