/-! What the reference's tokens are: numbers, widths, words. -/
def smF (ch : Nat → Nat) (p q : Nat) : Nat → Nat → Bool
  | 0, _ => true
  | k + 1, j => decide (ch (p + j) = ch (q + j)) && smF ch p q k (j + 1)
theorem smF_iff {ch : Nat → Nat} {p q : Nat} : ∀ {k j : Nat}, smF ch p q k j = true ↔ ∀ i, j ≤ i → i < j + k → ch (p + i) = ch (q + i)
  | 0, j => ⟨fun _ i h1 h2 => by omega, fun _ => rfl⟩
  | k + 1, j => by
    unfold smF
    rw [Bool.and_eq_true, decide_eq_true_eq, smF_iff]
    constructor
    · intro ⟨h1, h2⟩ i i1 i2
      by_cases z : i = j
      · rw [z]; exact h1
      · exact h2 i (by omega) (by omega)
    · intro h
      exact ⟨h j (Nat.le_refl _) (by omega), fun i i1 i2 => h i (by omega) (by omega)⟩
theorem kch_at : ∀ a : Fin 256, (kch a.1).toInt = if a.1 < 128 then (a.1 : Int) else (a.1 : Int) - 256 := by decide +kernel
theorem kch_one {a b : Nat} (ha : a < 256) (hb : b < 256) : kch a = kch b ↔ a = b := by
  constructor
  · intro h
    have h1 := kch_at ⟨a, ha⟩
    have h2 := kch_at ⟨b, hb⟩
    dsimp only at h1 h2
    rw [h, h2] at h1
    split at h1 <;> split at h1 <;> omega
  · intro h; rw [h]
section MSD
variable {ch : Nat → Nat} {n N : Nat} {s : ms}
theorem same_L {a b pa pb len : Nat} (hn : n ≤ 12000) (ha : a < 65540) (hb : b < 65540) (h5a : s.1 5 a = nI pa) (h5b : s.1 5 b = nI pb) (h6a : s.1 6 a = nI (pa + len)) (h1 : pa + len ≤ n) (h2 : pb + len ≤ n) (h90 : ∀ k, k < n → ch k < 256 ∧ s.1 90 k = kch (ch k)) : ∀ (m k j : Nat) (r : Bool), j + k = len → k < m → hd_M_sameToken_38 N m (nI a) (nI b) (b01 r) (nI j) s = some (b01 (r && smF ch pa pb k j), s) := by
  intro m
  induction m with
  | zero => intro k j r h h3; omega
  | succ m ih =>
    intro k j r hj hk
    show bd_M_sameToken_38 N (hd_M_sameToken_38 N m) (nI a) (nI b) (b01 r) (nI j) s = _
    unfold bd_M_sameToken_38
    cases r with
    | false =>
      rw [if_pos (show b01 false = 0 by decide), if_neg (by decide)]
      rfl
    | true =>
      rw [if_neg (show ¬ b01 true = 0 by decide), if_neg (nI_in ha (by decide)), if_neg (nI_in ha (by decide)), nI_clamp (show a < 2 ^ 31 by omega), h6a, h5a, nI_sub (by omega), show pa + len - pa = len by omega]
      cases k with
      | zero =>
        rw [if_pos (nI_le (by omega) (by omega)), if_neg (by decide)]
        rfl
      | succ k =>
        obtain ⟨c1, c2⟩ := h90 (pa + j) (by omega)
        obtain ⟨c3, c4⟩ := h90 (pb + j) (by omega)
        rw [if_neg (nI_ge (show j < len by omega) (by omega)), if_neg (nI_in2 ha (by decide)), nI_add, if_neg (nI_in (show pa + j < 65536 by omega) (by decide)), if_neg (nI_in hb (by decide)), nI_clamp (show b < 2 ^ 31 by omega), h5b, nI_add, if_neg (nI_in (show pb + j < 65536 by omega) (by decide)), nI_clamp (show pa + j < 2 ^ 31 by omega), nI_clamp (show pb + j < 2 ^ 31 by omega), c2, c4, nI_1]
        show _ = some (b01 (true && (decide (ch (pa + j) = ch (pb + j)) && smF ch pa pb k (j + 1))), s)
        by_cases z : ch (pa + j) = ch (pb + j)
        · rw [if_pos ((kch_one c1 c3).mpr z), decide_eq_true z]
          exact ih k (j + 1) true (by omega) (by omega)
        · rw [if_neg (fun q => z ((kch_one c1 c3).mp q)), decide_eq_false z]
          exact ih k (j + 1) false (by omega) (by omega)
theorem same_M {a b pa pb la lb : Nat} (hN : 13000 < N) (hn : n ≤ 12000) (ha : a < 65540) (hb : b < 65540) (h5a : s.1 5 a = nI pa) (h5b : s.1 5 b = nI pb) (h6a : s.1 6 a = nI (pa + la)) (h6b : s.1 6 b = nI (pb + lb)) (h1 : pa + la ≤ n) (h2 : pb + lb ≤ n) (h90 : ∀ k, k < n → ch k < 256 ∧ s.1 90 k = kch (ch k)) : fn_M_sameToken N (nI a) (nI b) s = some (b01 (decide (la = lb ∧ ∀ i, i < lb → ch (pa + i) = ch (pb + i))), s) := by
  unfold fn_M_sameToken
  rw [if_neg (nI_in ha (by decide)), if_neg (nI_in ha (by decide)), if_neg (nI_in hb (by decide)), if_neg (nI_in hb (by decide)), nI_clamp (show a < 2 ^ 31 by omega), nI_clamp (show b < 2 ^ 31 by omega), h5a, h5b, h6a, h6b, nI_sub (by omega), nI_sub (by omega), show pa + la - pa = la by omega, show pb + lb - pb = lb by omega]
  by_cases z : la = lb
  · subst z
    rw [if_pos rfl]
    refine (same_L (N := N) hn ha hb h5a h5b h6a h1 h2 h90 N la 0 true (by omega) (by omega)).trans ?_
    congr 3
    rw [Bool.true_and]
    by_cases w : smF ch pa pb la 0 = true
    · rw [w, eq_comm]
      exact decide_eq_true ⟨rfl, fun i hi => smF_iff.mp w i (Nat.zero_le _) (by omega)⟩
    · rw [Bool.eq_false_iff.mpr w, eq_comm]
      exact decide_eq_false (fun q => w (smF_iff.mpr (fun i _ h2 => q.2 i (by omega))))
  · rw [if_neg (fun q => z ((nI_eq (by omega) (by omega)).mp q)), decide_eq_false (fun q => z q.1)]
    obtain ⟨N, rfl⟩ : ∃ N', N = N' + 1 := ⟨N - 1, by omega⟩
    show bd_M_sameToken_38 (N + 1) _ (nI a) (nI b) (b01 false) 0 s = _
    unfold bd_M_sameToken_38
    rw [if_pos (show b01 false = 0 by decide), if_neg (by decide)]
theorem num_L {i p e : Nat} (h : Src s n ch) (hn : n ≤ 12000) (hi : i < 65540) (h5 : s.1 5 i = nI p) (h6 : s.1 6 i = nI e) (he : e ≤ n) : ∀ (m k f : Nat), k + f ≤ n + 1 → ff (pnd ch) f k ≤ n → pnd ch (ff (pnd ch) f k) = true → f < m → hd_M_numberOf_7 N m (nI i) (nI k) s = (if ff (pnd ch) f k = e then fn_M_read_IIIIJ N (nI p) (nI (ff (pnd ch) f k)) 10 16 s else fn_M_read_IIIIJ N (nI (ff (pnd ch) f k + 2)) (nI e) (if mch (ch (ff (pnd ch) f k + 1)) = 98 then 2 else if mch (ch (ff (pnd ch) f k + 1)) = 111 then 8 else if mch (ch (ff (pnd ch) f k + 1)) = 100 then 10 else 16) 64 s) := by
  intro m
  induction m with
  | zero => intro k f _ _ _ h; omega
  | succ m ih =>
    intro k f hk h1 h2 hm
    have lt := h.lt k
    have ge := ff_ge (pnd ch) f k
    have bi : ∀ {o : Option (Int64 × ms)}, o.bind (fun q_1 => some (q_1.1, q_1.2)) = o := fun {o} => by cases o <;> rfl
    show bd_M_numberOf_7 N (hd_M_numberOf_7 N m) (nI i) (nI k) s = _
    unfold bd_M_numberOf_7
    rw [at_M h (by omega), ex_bind rfl]
    dsimp only
    rw [isDigit_M lt, ex_bind rfl]
    dsimp only
    cases g : cdig (ch k) with
    | false =>
      have e1 : ff (pnd ch) f k = k := by
        cases f with
        | zero => rfl
        | succ f => show (if pnd ch k then k else _) = k; rw [if_pos (by simp [pnd, g])]
      rw [if_pos (show b01 false = 0 from rfl), e1, if_neg (nI_in hi (by decide)), nI_clamp (show i < 2 ^ 31 by omega), h6, if_neg (nI_in2 hi (by decide)), h5, bi]
      by_cases z : k = e
      · rw [if_pos (by rw [z]), if_pos z]
      · rw [if_neg (fun q => z ((nI_eq (by omega) (by omega)).mp q)), if_neg z, nI_1, at_M h (by omega), ex_bind rfl]
        dsimp only
        unfold bk_M_numberOf_102
        rw [if_neg (nI_in2 hi (by decide)), h6, show nI k + 2 = nI (k + 2) from nI_add k 2, bi, bi, bi, bi]
        split
        · rfl
        · split
          · rfl
          · split <;> rfl
    | true =>
      rw [if_neg (show ¬ b01 true = 0 by decide), nI_1]
      cases f with
      | zero =>
        have : pnd ch k = true := h2
        simp [pnd, g] at this
      | succ f =>
        have e1 : ff (pnd ch) (f + 1) k = ff (pnd ch) f (k + 1) := by
          show (if pnd ch k then k else _) = _
          rw [if_neg (by simp [pnd, g])]
        rw [e1] at h1 h2 ⊢
        exact ih (k + 1) f (by omega) h1 h2 (by omega)
theorem wid_L (h : Src s n ch) (hn : n ≤ 12000) : ∀ (m k f A : Nat), k + f ≤ n + 1 → pnd ch (ff (pnd ch) f k) = true → f < m → hd_M_widthOfNumber_9 N m (nI k) (nI A) s = some (nI (dval ch 10 (ff (pnd ch) f k - k) k A), s) := by
  intro m
  induction m with
  | zero => intro k f A _ _ h; omega
  | succ m ih =>
    intro k f A hk h2 hm
    have lt := h.lt k
    have ge := ff_ge (pnd ch) f k
    show bd_M_widthOfNumber_9 N (hd_M_widthOfNumber_9 N m) (nI k) (nI A) s = _
    unfold bd_M_widthOfNumber_9
    rw [at_M h (by omega), ex_bind rfl]
    dsimp only
    rw [isDigit_M lt, ex_bind rfl]
    dsimp only
    cases g : cdig (ch k) with
    | false =>
      have e1 : ff (pnd ch) f k = k := by
        cases f with
        | zero => rfl
        | succ f => show (if pnd ch k then k else _) = k; rw [if_pos (by simp [pnd, g])]
      rw [if_pos (show b01 false = 0 from rfl), e1, Nat.sub_self]
      rfl
    | true =>
      have hd : 48 ≤ ch k ∧ ch k ≤ 57 := of_decide_eq_true g
      rw [if_neg (show ¬ b01 true = 0 by decide), at_M h (by omega), ex_bind rfl]
      dsimp only
      cases f with
      | zero =>
        have : pnd ch k = true := h2
        simp [pnd, g] at this
      | succ f =>
        have e1 : ff (pnd ch) (f + 1) k = ff (pnd ch) f (k + 1) := by
          show (if pnd ch k then k else _) = _
          rw [if_neg (by simp [pnd, g])]
        have ge2 := ff_ge (pnd ch) f (k + 1)
        rw [e1] at h2 ⊢
        have mc : mch (ch k) = nI (ch k) := by unfold mch; rw [if_neg (by omega)]
        have dv : cdv (ch k) = ch k - 48 := by unfold cdv; rw [if_pos hd]
        rw [nI_1, mc, show nI A * 10 = nI (A * 10) from nI_mul A 10, nI_add, show nI (A * 10 + ch k) - 48 = nI (A * 10 + ch k - 48) from nI_sub (b := 48) (by omega), ih (k + 1) f _ (by omega) h2 (by omega)]
        congr 3
        rw [show ff (pnd ch) f (k + 1) - k = (ff (pnd ch) f (k + 1) - (k + 1)) + 1 by omega]
        show _ = dval ch 10 _ (k + 1) (A * 10 + cdv (ch k))
        rw [dv, show A * 10 + ch k - 48 = A * 10 + (ch k - 48) by omega]
end MSD
