/-! Numbers: where they end, what they are (the reference). -/
def pnd (ch : Nat → Nat) (j : Nat) : Bool := !cdig (ch j)
def pni (ch : Nat → Nat) (j : Nat) : Bool := !cinn (ch j)
theorem wend_M {N n : Nat} {ch : Nat → Nat} {s : ms} (h : Src s n ch) : ∀ (m k f : Nat), k ≤ n → n ≤ k + f → f < m → hd_M_numberEnd_32 N m (nI k) s = some (nI (ff (pni ch) f k), s) := by
  intro m
  induction m with
  | zero => intro k f h1 h2 h3; omega
  | succ m ih =>
    intro k f h1 h2 h3
    have hn := h.2.1
    have lt := h.lt k
    show bd_M_numberEnd_32 N (hd_M_numberEnd_32 N m) (nI k) s = _
    unfold bd_M_numberEnd_32
    rw [at_M h (by omega), ex_bind rfl]
    show ((fn_M_isIn N (mch (ch k)) s).bind _) = _
    rw [isIn_M lt, ex_bind rfl]
    show (if b01 (cinn (ch k)) = 0 then _ else _) = _
    cases c : cinn (ch k)
    · have : ff (pni ch) f k = k := ff_only _ (Nat.le_refl k) (by omega) (fun j h1 h2 => by omega) (by simp [pni, c])
      rw [this]; rfl
    · rw [if_neg (by decide), nI_1]
      have kn : k < n := by
        by_cases z : k < n
        · exact z
        · have := h.2.2.2 k (by omega)
          exact absurd c (by rw [this]; decide)
      obtain ⟨f, rfl⟩ : ∃ f', f = f' + 1 := ⟨f - 1, by omega⟩
      show _ = some (nI (if pni ch k then k else _), s)
      rw [if_neg (by simp [pni, c])]
      exact ih (k + 1) f (by omega) (by omega) (by omega)
/-- where the number that begins at k ends -/
def nend (ch : Nat → Nat) (n k : Nat) : Nat := ff (pni ch) n (if ch (ff (pnd ch) n k) = 39 then ff (pnd ch) n k + 1 else ff (pnd ch) n k)
theorem nend_M0 {N n : Nat} {ch : Nat → Nat} {s : ms} (h : Src s n ch) (hN : n < N) : ∀ (m k f : Nat), k ≤ n → n ≤ k + f → f < m → hd_M_numberEnd_2 N m (nI k) s = some (nI (ff (pni ch) n (if ch (ff (pnd ch) f k) = 39 then ff (pnd ch) f k + 1 else ff (pnd ch) f k)), s) := by
  intro m
  induction m with
  | zero => intro k f h1 h2 h3; omega
  | succ m ih =>
    intro k f h1 h2 h3
    have hn := h.2.1
    have lt := h.lt k
    show bd_M_numberEnd_2 N (hd_M_numberEnd_2 N m) (nI k) s = _
    unfold bd_M_numberEnd_2
    rw [at_M h (by omega), ex_bind rfl]
    show ((fn_M_isDigit N (mch (ch k)) s).bind _) = _
    rw [isDigit_M lt, ex_bind rfl]
    show (if b01 (cdig (ch k)) = 0 then _ else _) = _
    cases c : cdig (ch k)
    · have : ff (pnd ch) f k = k := ff_only _ (Nat.le_refl k) (by omega) (fun j h1 h2 => by omega) (by simp [pnd, c])
      rw [this, if_pos (show b01 false = 0 from rfl)]
      show ((fn_M_at N (nI k) s).bind _) = _
      rw [at_M h (by omega), ex_bind rfl]
      show (if mch (ch k) = 39 then _ else _) = _
      have q := (show mch _ = (39 : Int32) ↔ _ = 39 from mch_eq (d := 39) lt (by decide))
      by_cases c2 : ch k = 39
      · rw [if_pos (q.mpr c2), if_pos c2, nI_1]
        have kn : k < n := by
          by_cases z : k < n
          · exact z
          · have := h.2.2.2 k (by omega); omega
        exact wend_M h N (k + 1) n (by omega) (by omega) hN
      · rw [if_neg (fun z => c2 (q.mp z)), if_neg c2]
        exact wend_M h N k n (by omega) (by omega) hN
    · rw [if_neg (show ¬ b01 true = 0 by decide), nI_1]
      have kn : k < n := by
        by_cases z : k < n
        · exact z
        · have := h.2.2.2 k (by omega)
          exact absurd c (by rw [this]; decide)
      obtain ⟨f, rfl⟩ : ∃ f', f = f' + 1 := ⟨f - 1, by omega⟩
      have e : ff (pnd ch) (f + 1) k = ff (pnd ch) f (k + 1) := by
        show (if pnd ch k then k else _) = _
        rw [if_neg (by simp [pnd, c])]
      rw [e]
      exact ih (k + 1) f (by omega) (by omega) (by omega)
theorem numberEnd_M {N n k : Nat} {ch : Nat → Nat} {s : ms} (h : Src s n ch) (hN : n < N) (hk : k ≤ n) : fn_M_numberEnd N (nI k) s = some (nI (nend ch n k), s) := nend_M0 h hN N k n hk (by omega) hN
def nbase (c : Nat) : Nat := if c = 98 then 2 else if c = 111 then 8 else if c = 100 then 10 else if c = 104 then 16 else 0
def alld (ch : Nat → Nat) (base : Nat) : Nat → Nat → Bool
  | 0, _ => true
  | f + 1, k => decide (cdv (ch k) < base) && alld ch base f (k + 1)
theorem alld_all {ch : Nat → Nat} {base : Nat} : ∀ f k, alld ch base f k = true → ∀ j, k ≤ j → j < k + f → cdv (ch j) < base
  | 0, k, _, j, h1, h2 => by omega
  | f + 1, k, h, j, h1, h2 => by
    simp only [alld, Bool.and_eq_true, decide_eq_true_eq] at h
    by_cases e : j = k
    · rw [e]; exact h.1
    · exact alld_all f (k + 1) h.2 j (by omega) (by omega)
theorem nk180_M {N n to k0 base : Nat} {V : Int64} {ch : Nat → Nat} {s : ms} (h : Src s n ch) (hto : to ≤ n) (hb : base ≤ 16) : ∀ (f m j : Nat) (r : Bool), j + f = to → f < m → hd_M_numberKind_180 N m (nI to) (nI k0) V (nI base) (b01 r) (nI j) s = bk_M_numberKind_218 N (nI to) (nI k0) V (nI base) (b01 (r && alld ch base f j)) s := by
  have hn := h.2.1
  intro f
  induction f with
  | zero =>
    intro m j r e hm
    obtain ⟨m, rfl⟩ : ∃ m', m = m' + 1 := ⟨m - 1, by omega⟩
    show bd_M_numberKind_180 N (hd_M_numberKind_180 N m) (nI to) (nI k0) V (nI base) (b01 r) (nI j) s = _
    unfold bd_M_numberKind_180
    rw [if_pos (nI_le (show to ≤ j by omega) (by omega))]
    simp [alld]
  | succ f ih =>
    intro m j r e hm
    obtain ⟨m, rfl⟩ : ∃ m', m = m' + 1 := ⟨m - 1, by omega⟩
    have lt := h.lt j
    have dl := cdv_lt (ch j)
    show bd_M_numberKind_180 N (hd_M_numberKind_180 N m) (nI to) (nI k0) V (nI base) (b01 r) (nI j) s = _
    unfold bd_M_numberKind_180
    rw [if_neg (nI_ge (show j < to by omega) (by omega))]
    cases r
    · rfl
    · rw [if_neg (show ¬ b01 true = 0 by decide), at_M h (by omega), ex_bind rfl]
      show ((fn_M_digit N (mch (ch j)) s).bind _) = _
      rw [digit_M lt, ex_bind rfl]
      show (if nI base ≤ nI (cdv (ch j)) then _ else _) = _
      rw [nI_1]
      by_cases c : cdv (ch j) < base
      · rw [if_neg (nI_ge c (by omega))]
        refine (ih m (j + 1) true (by omega) (by omega)).trans ?_
        simp [alld, c]
      · rw [if_pos (nI_le (by omega) (by omega))]
        refine (ih m (j + 1) false (by omega) (by omega)).trans ?_
        simp [alld, c]
def nkind (ch : Nat → Nat) (fr k to : Nat) : Nat :=
  if k = to then (if dval ch 10 (k - fr) fr 0 < 2 ^ 16 then 401 else 404)
  else if ch k = 39 ∧ dval ch 10 (k - fr) fr 0 < 2 ^ 16 ∧ 1 ≤ dval ch 10 (k - fr) fr 0 ∧ dval ch 10 (k - fr) fr 0 ≤ 64 ∧ k + 2 < to ∧ nbase (ch (k + 1)) ≠ 0 ∧ alld ch (nbase (ch (k + 1))) (to - (k + 2)) (k + 2) = true ∧ dval ch (nbase (ch (k + 1))) (to - (k + 2)) (k + 2) 0 < 2 ^ dval ch 10 (k - fr) fr 0 then 402 else 404
theorem nbase_or (c : Nat) : nbase c = 2 ∨ nbase c = 8 ∨ nbase c = 10 ∨ nbase c = 16 ∨ nbase c = 0 := by
  unfold nbase
  split
  · exact Or.inl rfl
  · split
    · exact Or.inr (Or.inl rfl)
    · split
      · exact Or.inr (Or.inr (Or.inl rfl))
      · split
        · exact Or.inr (Or.inr (Or.inr (Or.inl rfl)))
        · exact Or.inr (Or.inr (Or.inr (Or.inr rfl)))
theorem nk161_M {N n to k V base : Nat} {ch : Nat → Nat} {s : ms} (h : Src s n ch) (hN : n < N) (hto : to ≤ n) (hk : k + 2 ≤ to) (hV : V ≤ 64) (hb : base = 2 ∨ base = 8 ∨ base = 10 ∨ base = 16 ∨ base = 0) : ∃ t : ms, bk_M_numberKind_161 N (nI to) (nI k) (lN V) (nI base) s = some (if base ≠ 0 ∧ alld ch base (to - (k + 2)) (k + 2) = true ∧ dval ch base (to - (k + 2)) (k + 2) 0 < 2 ^ V then 402 else 404, t) ∧ Eb [87] [] s t := by
  have hn := h.2.1
  have hbb : base ≤ 16 := by omega
  unfold bk_M_numberKind_161 bk_M_numberKind_173
  have key : ∀ r : Bool, hd_M_numberKind_180 N N (nI to) (nI k) (lN V) (nI base) (b01 r) (nI k + 2) s = bk_M_numberKind_218 N (nI to) (nI k) (lN V) (nI base) (b01 (r && alld ch base (to - (k + 2)) (k + 2))) s := fun r => by
    rw [show (2 : Int32) = nI 2 from rfl, nI_add]
    exact nk180_M h hto hbb (to - (k + 2)) N (k + 2) r (by omega) (by omega)
  by_cases c : base = 0
  · subst c
    rw [if_pos (by decide), show nI 0 = (0 : Int32) from rfl] at *
    refine ⟨s, ?_, Eb.rfl⟩
    rw [if_neg (show ¬ ((0 : Nat) ≠ 0 ∧ alld ch 0 (to - (k + 2)) (k + 2) = true ∧ dval ch 0 (to - (k + 2)) (k + 2) 0 < 2 ^ V) from fun q => q.1 rfl)]
    exact (key false).trans rfl
  · rw [if_neg (nI_nle (by omega) (by omega))]
    show ∃ t : ms, hd_M_numberKind_180 N N (nI to) (nI k) (lN V) (nI base) (b01 true) (nI k + 2) s = _ ∧ _
    rw [key true, Bool.true_and]
    unfold bk_M_numberKind_218 bk_M_numberKind_237
    cases a : alld ch base (to - (k + 2)) (k + 2)
    · refine ⟨s, ?_, Eb.rfl⟩
      rw [if_neg (show ¬ (base ≠ 0 ∧ false = true ∧ dval ch base (to - (k + 2)) (k + 2) 0 < 2 ^ V) from fun q => by cases q.2.1)]
      rfl
    · obtain ⟨v, hr, -⟩ := read_M (N := N) (w := V) (fr := k + 2) (to := to) h (show 2 ≤ base by omega) hbb (by omega) (by omega) hto hN (fun j h1 h2 => alld_all _ _ a j h1 (by omega))
      rw [if_neg (show ¬ b01 true = 0 by decide), show (2 : Int32) = nI 2 from rfl, nI_add, lN_i, ex_bind hr]
      refine ⟨upI s 87 (fun _ => b01 (decide (dval ch base (to - (k + 2)) (k + 2) 0 < 2 ^ V))), ?_, Eb.rfl.upI (show 87 ∈ [87] by decide)⟩
      dsimp only
      rw [if_neg (show ¬ b01 true = 0 by decide), upI_at]
      by_cases d : dval ch base (to - (k + 2)) (k + 2) 0 < 2 ^ V
      · rw [decide_eq_true d, if_neg (show ¬ b01 true = 0 by decide), if_pos ⟨c, rfl, d⟩]
      · rw [decide_eq_false d, if_pos (show b01 false = 0 from rfl), if_neg (fun q => d q.2.2)]
theorem nk24_M {N n fr k to : Nat} {ch : Nat → Nat} {s : ms} (h : Src s n ch) (hN : n < N) (hto : to ≤ n) (h1 : fr ≤ k) (h2 : k ≤ to) (hd : ∀ j, fr ≤ j → j < k → cdig (ch j) = true) : ∃ t : ms, bk_M_numberKind_24 N (nI fr) (nI to) (nI k) s = some (nI (nkind ch fr k to), t) ∧ Eb [87] [] s t := by
  have hn := h.2.1
  obtain ⟨v, hr, hv⟩ := read_M (N := N) (base := 10) (w := 16) (fr := fr) (to := k) h (by decide) (by decide) (by decide) h1 (by omega) hN (fun j a b => by
    have := hd j a b
    simp only [cdig, decide_eq_true_eq] at this
    unfold cdv; rw [if_pos this]; omega)
  obtain ⟨V, hV⟩ : ∃ V, V = dval ch 10 (k - fr) fr 0 := ⟨_, rfl⟩
  rw [← hV] at hr hv
  unfold bk_M_numberKind_24 nkind
  rw [← hV, show (10 : Int32) = nI 10 from rfl, show (16 : Int32) = nI 16 from rfl, ex_bind hr]
  obtain ⟨t1, ht1⟩ : ∃ t1, t1 = upI s 87 (fun _ => b01 (decide (V < 2 ^ 16))) := ⟨_, rfl⟩
  rw [← ht1]
  have q87 : t1.1 87 0 = b01 (decide (V < 2 ^ 16)) := by rw [ht1, upI_at]
  have hs1 : Src t1 n ch := h.mono (by rw [ht1]; rfl) (by rw [ht1]; rfl)
  have e1 : Eb [87] [] s t1 := by rw [ht1]; exact Eb.rfl.upI (by decide)
  have lt := h.lt k
  have lt1 := h.lt (k + 1)
  by_cases c : k = to
  · rw [if_pos (by rw [c]), if_pos c]
    refine ⟨t1, ?_, e1⟩
    show (if t1.1 87 0 = 0 then _ else _) = _
    rw [q87]
    by_cases c2 : V < 2 ^ 16
    · rw [decide_eq_true c2, if_neg (show ¬ b01 true = 0 by decide), if_pos c2]; rfl
    · rw [decide_eq_false c2, if_pos (show b01 false = 0 from rfl), if_neg c2]; rfl
  rw [if_neg (fun q => c ((nI_eq (by omega) (by omega)).mp q)), if_neg c]
  show ∃ t : ms, ((fn_M_at N (nI k) t1).bind _) = _ ∧ _
  rw [at_M hs1 (by omega), ex_bind rfl]
  show ∃ t : ms, (if mch (ch k) = 39 then _ else _) = _ ∧ _
  have q39 := (show mch _ = (39 : Int32) ↔ _ = 39 from mch_eq (d := 39) lt (by decide))
  by_cases c1 : ch k = 39
  · rw [if_pos (q39.mpr c1), q87]
    by_cases c2 : V < 2 ^ 16
    · have hv := hv (by omega)
      rw [decide_eq_true c2, if_neg (show ¬ b01 true = 0 by decide), hv]
      dsimp only
      have i1 : (lg_cmp (lN V) 1 < 0) ↔ V < 1 := (lg_cmp_lt _ _).trans (show lN V < lN 1 ↔ V < 1 from lN_lt63 (by omega) (by decide))
      have i64 : (0 < lg_cmp (lN V) 64) ↔ 64 < V := (lg_cmp_gt _ _).trans (show lN 64 < lN V ↔ 64 < V from lN_lt63 (by decide) (by omega))
      by_cases c3 : V < 1
      · rw [if_pos (i1.mpr c3), if_neg (by omega)]
        exact ⟨t1, rfl, e1⟩
      rw [if_neg (fun q => c3 (i1.mp q))]
      by_cases c4 : 64 < V
      · rw [if_pos (i64.mpr c4), if_neg (by omega)]
        exact ⟨t1, rfl, e1⟩
      rw [if_neg (fun q => c4 (i64.mp q)), show (2 : Int32) = nI 2 from rfl, nI_add]
      by_cases c5 : k + 2 < to
      · rw [if_pos (nI_lt c5 (by omega)), nI_1, at_M hs1 (by omega), ex_bind rfl]
        dsimp only
        have tail : ∀ base : Nat, nbase (ch (k + 1)) = base → (base = 2 ∨ base = 8 ∨ base = 10 ∨ base = 16 ∨ base = 0) → ∃ t : ms, bk_M_numberKind_161 N (nI to) (nI k) (lN V) (nI base) t1 = some (nI (if ch k = 39 ∧ V < 2 ^ 16 ∧ 1 ≤ V ∧ V ≤ 64 ∧ k + 2 < to ∧ nbase (ch (k + 1)) ≠ 0 ∧ alld ch (nbase (ch (k + 1))) (to - (k + 2)) (k + 2) = true ∧ dval ch (nbase (ch (k + 1))) (to - (k + 2)) (k + 2) 0 < 2 ^ V then 402 else 404), t) ∧ Eb [87] [] s t := by
          intro base hb hor
          obtain ⟨t, ht, et⟩ := nk161_M (V := V) (k := k) (to := to) hs1 hN hto (by omega) (by omega) hor
          refine ⟨t, ht.trans ?_, e1.trans et⟩
          rw [hb]
          by_cases z : base ≠ 0 ∧ alld ch base (to - (k + 2)) (k + 2) = true ∧ dval ch base (to - (k + 2)) (k + 2) 0 < 2 ^ V
          · rw [if_pos z, if_pos ⟨c1, c2, by omega, by omega, c5, z⟩]; rfl
          · rw [if_neg z, if_neg (fun q => z q.2.2.2.2.2)]; rfl
        have p98 := (show mch _ = (98 : Int32) ↔ _ = 98 from mch_eq (d := 98) lt1 (by decide))
        have p111 := (show mch _ = (111 : Int32) ↔ _ = 111 from mch_eq (d := 111) lt1 (by decide))
        have p100 := (show mch _ = (100 : Int32) ↔ _ = 100 from mch_eq (d := 100) lt1 (by decide))
        have p104 := (show mch _ = (104 : Int32) ↔ _ = 104 from mch_eq (d := 104) lt1 (by decide))
        by_cases d1 : ch (k + 1) = 98
        · rw [if_pos (p98.mpr d1)]
          exact tail 2 (by unfold nbase; rw [if_pos d1]) (by decide)
        rw [if_neg (fun q => d1 (p98.mp q))]
        by_cases d2 : ch (k + 1) = 111
        · rw [if_pos (p111.mpr d2)]
          exact tail 8 (by unfold nbase; rw [if_neg d1, if_pos d2]) (by decide)
        rw [if_neg (fun q => d2 (p111.mp q))]
        by_cases d3 : ch (k + 1) = 100
        · rw [if_pos (p100.mpr d3)]
          exact tail 10 (by unfold nbase; rw [if_neg d1, if_neg d2, if_pos d3]) (by decide)
        rw [if_neg (fun q => d3 (p100.mp q))]
        by_cases d4 : ch (k + 1) = 104
        · rw [if_pos (p104.mpr d4)]
          exact tail 16 (by unfold nbase; rw [if_neg d1, if_neg d2, if_neg d3, if_pos d4]) (by decide)
        rw [if_neg (fun q => d4 (p104.mp q))]
        exact tail 0 (by unfold nbase; rw [if_neg d1, if_neg d2, if_neg d3, if_neg d4]) (by decide)
      · rw [if_neg (nI_nlt (by omega) (by omega)), if_neg (by omega)]
        exact ⟨t1, rfl, e1⟩
    · rw [decide_eq_false c2, if_pos (show b01 false = 0 from rfl), if_neg (by omega)]
      exact ⟨t1, rfl, e1⟩
  · rw [if_neg (fun q => c1 (q39.mp q)), if_neg (fun q => c1 q.1)]
    exact ⟨t1, rfl, e1⟩
theorem nk2_M {N n fr to : Nat} {ch : Nat → Nat} {s : ms} (h : Src s n ch) (hN : n < N) (hto : to ≤ n) : ∀ (m k f : Nat), fr ≤ k → (∀ j, fr ≤ j → j < k → cdig (ch j) = true) → ff (pnd ch) f k ≤ to → pnd ch (ff (pnd ch) f k) = true → f < m → ∃ t : ms, hd_M_numberKind_2 N m (nI fr) (nI to) (nI k) s = some (nI (nkind ch fr (ff (pnd ch) f k) to), t) ∧ Eb [87] [] s t := by
  intro m
  induction m with
  | zero => intro k f a b c d e; omega
  | succ m ih =>
    intro k f a b c d e
    have hn := h.2.1
    have lt := h.lt k
    have ge := ff_ge (pnd ch) f k
    show ∃ t : ms, bd_M_numberKind_2 N (hd_M_numberKind_2 N m) (nI fr) (nI to) (nI k) s = _ ∧ _
    unfold bd_M_numberKind_2
    by_cases c1 : to ≤ k
    · have e1 : ff (pnd ch) f k = k := by omega
      rw [if_pos (nI_le c1 (by omega)), e1]
      exact nk24_M h hN hto a (by omega) b
    · rw [if_neg (nI_ge (by omega) (by omega)), at_M h (by omega), ex_bind rfl]
      show ∃ t : ms, ((fn_M_isDigit N (mch (ch k)) s).bind _) = _ ∧ _
      rw [isDigit_M lt, ex_bind rfl]
      show ∃ t : ms, (if b01 (cdig (ch k)) = 0 then _ else _) = _ ∧ _
      cases g : cdig (ch k)
      · have e1 : ff (pnd ch) f k = k := by
          cases f with
          | zero => rfl
          | succ f => show (if pnd ch k then k else _) = k; rw [if_pos (by simp [pnd, g])]
        rw [if_pos (show b01 false = 0 from rfl), e1]
        exact nk24_M h hN hto a (by omega) b
      · rw [if_neg (show ¬ b01 true = 0 by decide), nI_1]
        cases f with
        | zero =>
          have : pnd ch k = true := d
          simp [pnd, g] at this
        | succ f =>
          have e1 : ff (pnd ch) (f + 1) k = ff (pnd ch) f (k + 1) := by
            show (if pnd ch k then k else _) = _
            rw [if_neg (by simp [pnd, g])]
          rw [e1] at c d ⊢
          exact ih (k + 1) f (by omega) (fun j j1 j2 => by
            by_cases z : j = k
            · rw [z]; exact g
            · exact b j j1 (by omega)) c d (by omega)
theorem numberKind_M {N n fr to : Nat} {ch : Nat → Nat} {s : ms} (h : Src s n ch) (hN : n < N) (hfr : fr ≤ n) (hto : to ≤ n) (h1 : ff (pnd ch) n fr ≤ to) : ∃ t : ms, fn_M_numberKind N (nI fr) (nI to) s = some (nI (nkind ch fr (ff (pnd ch) n fr) to), t) ∧ Eb [87] [] s t :=
  nk2_M h hN hto N fr n (Nat.le_refl _) (fun j a b => by omega) h1 (ff_in h (pnd ch) (fun j q => by rw [pnd, q]; rfl) hfr).2.2 hN
