/-! The reference: sums of a module. -/
section MMOD
variable {tk pl vl wi wd : Nat → Nat} {nt N N0 : Nat} {s0 s s' : ms} {A : ds} {t la nc : Nat}
def sJ (f : Nat → Int64) : Nat → Nat → Int64
  | 0, _ => 0
  | n + 1, a => f a + sJ f n (a + 1)
theorem sJ_lN {f : Nat → Int64} {g : Nat → Nat} : ∀ {n a : Nat}, (∀ d, a ≤ d → d < a + n → f d = lN (g d)) → sJ f n a = lN (sumF g n a)
  | 0, a, _ => rfl
  | n + 1, a, h => by
    unfold sJ sumF
    rw [h a (Nat.le_refl _) (by omega), sJ_lN (fun d d1 d2 => h d (by omega) (by omega)), lN_add]
def mJ (v : Int64) : Int64 := if lg_cmp v 1000000000 ≤ 0 then v else 1000000000
theorem most_M {v : Int64} : fn_M_most N v s = some (mJ v, s) := by
  unfold fn_M_most mJ
  split <;> rfl
theorem mJ_lN {a : Nat} (h : a < 2 ^ 62) : mJ (lN a) = lN (mst a) := by
  unfold mJ mst
  have := lgle (a := a) (b := 1000000000) h (by decide)
  rw [show (1000000000 : Int64) = lN 1000000000 from rfl]
  by_cases c : a ≤ 1000000000
  · rw [if_pos (this.mpr c), if_neg (by omega)]
  · rw [if_neg (fun z => c (this.mp z)), if_pos (by omega)]
theorem mst_le {x : Nat} : mst x ≤ 1000000000 := by unfold mst; split <;> omega
theorem mst_id {x : Nat} (h : x ≤ 1000000000) : mst x = x := by unfold mst; rw [if_neg (by omega)]
theorem mst_add {x y : Nat} : mst (x + mst y) = mst (x + y) := by unfold mst; (repeat' split) <;> omega
theorem mst_add' {x y : Nat} : mst (mst x + y) = mst (x + y) := by unfold mst; (repeat' split) <;> omega
/-- a loop of sums -/
def mS (f : Nat → Nat) : Nat → Nat → Nat → Nat
  | 0, _, x => x
  | n + 1, a, x => mS f n (a + 1) (mst (x + f a))
theorem mS_eq {f g : Nat → Nat} : ∀ {n a x : Nat}, x ≤ 1000000000 → (∀ d, a ≤ d → d < a + n → ∀ y, mst (y + f d) = mst (y + g d)) → mS f n a x = mst (x + sumF g n a)
  | 0, a, x, h, _ => by unfold mS sumF; rw [Nat.add_zero, mst_id h]
  | n + 1, a, x, h, hg => by
    unfold mS sumF
    rw [mS_eq mst_le (fun d d1 d2 => hg d (by omega) (by omega)), mst_add', show x + f a + sumF g n (a + 1) = (x + sumF g n (a + 1)) + f a by omega, hg a (Nat.le_refl _) (by omega) (x + sumF g n (a + 1))]
    congr 1
    omega
theorem sumF_one {g : Nat → Nat} : ∀ {n a : Nat}, sumF (fun i => 1 + g i) n a = n + sumF g n a
  | 0, a => rfl
  | n + 1, a => by unfold sumF; rw [sumF_one]; omega
/-- what a module's end leaves -/
def endS (σ : ms) (m : Nat) (x1 x3 x5 x7 : Int64) : ms := upI (upI (upI (upI (upI (upJ (upJ (upJ (upJ σ 48 (vp_updL (σ.2 48) m x1)) 47 (vp_updL (σ.2 47) m x3)) 46 (vp_updL (σ.2 46) m x5)) 45 (vp_updL (σ.2 45) m (mJ x7))) 12 (fun _ => nI (m + 1))) 14 (upd (σ.1 14) (m + 1) (σ.1 18 0))) 15 (upd (σ.1 15) (m + 1) (σ.1 27 0))) 16 (upd (σ.1 16) (m + 1) (σ.1 35 0))) 17 (upd (σ.1 17) (m + 1) (σ.1 38 0))
theorem h376 {m it : Nat} {M : Nat → Nat} (h12 : s.1 12 0 = nI m) (hm : m < 3500) (h27 : s.1 27 0 = nI it) (hi : it ≤ 11000) : ∀ (j k n : Nat) (x1 x3 x5 x7 : Int64), k + j = it → j < n → (∀ i, k ≤ i → i < it → s.1 28 i = nI (M i) ∧ M i < 3600) → ∃ y1 y3 y5 y7, hd_M_module_376 N n x1 x3 x5 x7 (nI k) s = some ((), endS s m y1 y3 y5 y7) ∧ (∀ (a1 a3 a5 a7 : Nat) (f1 f3 f5 f7 : Nat → Nat), x1 = lN a1 → x3 = lN a3 → x5 = lN a5 → x7 = lN a7 → a1 ≤ 1000000000 → a3 ≤ 1000000000 → a5 ≤ 1000000000 → a7 ≤ 1000000000 → (∀ i, k ≤ i → i < it → s.2 48 (M i) = lN (f1 i) ∧ s.2 47 (M i) = lN (f3 i) ∧ s.2 46 (M i) = lN (f5 i) ∧ s.2 45 (M i) = lN (f7 i) ∧ f1 i ≤ 1000000000 ∧ f3 i ≤ 1000000000 ∧ f5 i ≤ 1000000000 ∧ f7 i ≤ 1000000000) → y1 = lN (mS f1 j k a1) ∧ y3 = lN (mS f3 j k a3) ∧ y5 = lN (mS (fun i => 1 + f5 i) j k a5) ∧ y7 = lN (mS f7 j k a7)) := by
  intro j
  induction j with
  | zero =>
    intro k n x1 x3 x5 x7 hk hn hM
    obtain ⟨n, rfl⟩ : ∃ n', n = n' + 1 := ⟨n - 1, by omega⟩
    refine ⟨x1, x3, x5, x7, ?_, fun a1 a3 a5 a7 f1 f3 f5 f7 e1 e3 e5 e7 _ _ _ _ _ => ⟨e1, e3, e5, e7⟩⟩
    show bd_M_module_376 N (hd_M_module_376 N n) x1 x3 x5 x7 (nI k) s = _
    unfold bd_M_module_376
    rw [h27, if_pos (nI_le (by omega) (by omega)), h12, if_neg (nI_in (show m < 3600 by omega) (by decide)), if_neg (nI_in (show m < 3600 by omega) (by decide)), if_neg (nI_in (show m < 3600 by omega) (by decide)), most_M, obind, nI_clamp (by omega)]
    have q12 : (upJ (upJ (upJ s 48 (vp_updL (s.2 48) m x1)) 47 (vp_updL (s.2 47) m x3)) 46 (vp_updL (s.2 46) m x5)).1 12 0 = nI m := h12
    dsimp only
    rw [q12, nI_1, if_neg (nI_inN (show m < 3600 by omega) (by omega)), if_neg (nI_in (show m + 1 < 3601 by omega) (by decide)), if_neg (nI_in (show m + 1 < 3601 by omega) (by decide)), if_neg (nI_in (show m + 1 < 3601 by omega) (by decide)), if_neg (nI_in (show m + 1 < 3601 by omega) (by decide)), nI_clamp (by omega)]
    unfold endS
    rfl
  | succ j ih =>
    intro k n x1 x3 x5 x7 hk hn hM
    obtain ⟨n, rfl⟩ : ∃ n', n = n' + 1 := ⟨n - 1, by omega⟩
    obtain ⟨m1, m2⟩ := hM k (Nat.le_refl _) (by omega)
    obtain ⟨y1, y3, y5, y7, p1, p2⟩ := ih (k + 1) n (mJ (x1 + s.2 48 (M k))) (mJ (x3 + s.2 47 (M k))) (mJ (x5 + 1 + s.2 46 (M k))) (mJ (x7 + s.2 45 (M k))) (by omega) (by omega) (fun i i1 i2 => hM i (by omega) i2)
    refine ⟨y1, y3, y5, y7, ?_, fun a1 a3 a5 a7 f1 f3 f5 f7 e1 e3 e5 e7 l1 l3 l5 l7 hf => ?_⟩
    · show bd_M_module_376 N (hd_M_module_376 N n) x1 x3 x5 x7 (nI k) s = _
      unfold bd_M_module_376
      rw [h27, if_neg (nI_ge (by omega) (by omega)), if_neg (nI_in (show k < 11000 by omega) (by decide)), nI_clamp (by omega), m1, if_neg (nI_in m2 (by decide)), nI_clamp (by omega), most_M, obind]
      dsimp only
      rw [if_neg (nI_inN m2 (by omega)), most_M, obind]
      dsimp only
      rw [if_neg (nI_inN m2 (by omega)), most_M, obind]
      dsimp only
      rw [if_neg (nI_inN m2 (by omega)), most_M, obind]
      dsimp only
      rw [nI_1]
      exact p1
    · obtain ⟨g1, g3, g5, g7, b1, b3, b5, b7⟩ := hf k (Nat.le_refl _) (by omega)
      have o1 : (1 : Int64) = lN 1 := rfl
      rw [e1, g1, lN_add, mJ_lN (by omega), e3, g3, lN_add, mJ_lN (by omega), e5, g5, o1, lN_add, lN_add, mJ_lN (by omega), e7, g7, lN_add, mJ_lN (by omega)] at p2
      obtain ⟨r1, r3, r5, r7⟩ := p2 _ _ _ _ f1 f3 f5 f7 rfl rfl rfl rfl mst_le mst_le mst_le mst_le (fun i i1 i2 => hf i (by omega) i2)
      refine ⟨r1, r3, ?_, r7⟩
      rw [r5]
      show lN (mS _ j (k + 1) (mst (a5 + 1 + f5 k))) = lN (mS _ j (k + 1) (mst (a5 + (1 + f5 k))))
      rw [Nat.add_assoc]
theorem h299 {m dc : Nat} (h12 : s.1 12 0 = nI m) (hm : m < 3500) (h18 : s.1 18 0 = nI dc) (hd : dc ≤ 11000) : ∀ (j k n : Nat) (x1 : Int64), k + j = dc → j < n → hd_M_module_299 N n x1 (nI k) s = hd_M_module_376 N N (x1 + sJ (fun d => if s.1 21 d = 2 ∨ s.1 21 d = 4 then Int32.toInt64 (s.1 20 d) else 0) j k) (Int32.toInt64 (nI dc - s.1 14 m)) 0 (s.2 45 m) (s.1 15 m) s := by
  intro j
  induction j with
  | zero =>
    intro k n x1 hk hn
    obtain ⟨n, rfl⟩ : ∃ n', n = n' + 1 := ⟨n - 1, by omega⟩
    show bd_M_module_299 N (hd_M_module_299 N n) x1 (nI k) s = _
    unfold bd_M_module_299
    rw [h18, if_pos (nI_le (by omega) (by omega)), h12, if_neg (nI_in (show m < 3601 by omega) (by decide)), if_neg (nI_in (show m < 3600 by omega) (by decide)), if_neg (nI_in (show m < 3601 by omega) (by decide)), nI_clamp (by omega)]
    unfold sJ
    rw [Int64.add_zero]
  | succ j ih =>
    intro k n x1 hk hn
    obtain ⟨n, rfl⟩ : ∃ n', n = n' + 1 := ⟨n - 1, by omega⟩
    show bd_M_module_299 N (hd_M_module_299 N n) x1 (nI k) s = _
    unfold bd_M_module_299 fn_M_isRegister
    have ki := nI_in (show k < 11000 by omega) (show 11000 < 2 ^ 31 by decide)
    rw [h18, if_neg (nI_ge (by omega) (by omega)), if_neg ki, nI_clamp (by omega)]
    unfold sJ
    by_cases c2 : s.1 21 k = 2
    · rw [if_pos c2, obind]
      dsimp only
      rw [if_neg (show ¬ (1 : Int32) = 0 by decide), if_neg (nI_inN (show k < 11000 by omega) (by omega)), nI_1, ih (k + 1) n _ (by omega) (by omega), if_pos (Or.inl c2), Int64.add_assoc]
    · rw [if_neg c2, if_neg (nI_inN (show k < 11000 by omega) (by omega))]
      by_cases c4 : s.1 21 k = 4
      · rw [if_pos c4, obind]
        dsimp only
        rw [if_neg (show ¬ (1 : Int32) = 0 by decide), if_neg (nI_inN (show k < 11000 by omega) (by omega)), nI_1, ih (k + 1) n _ (by omega) (by omega), if_pos (Or.inr c4), Int64.add_assoc]
      · rw [if_neg c4, obind]
        dsimp only
        rw [if_pos rfl, nI_1, ih (k + 1) n _ (by omega) (by omega), if_neg (fun z => by rcases z with z | z; exact c2 z; exact c4 z), Int64.zero_add]
/-- behind a fault: a module's rest -/
def Zm (s0 s' : ms) (f p : Nat) : Prop := DE s0 s' ∧ 0 < f ∧ (f < 100 ∧ Lk s') ∧ s'.1 9 0 = nI f ∧ s'.1 10 0 = nI p
theorem Zd.rest {B f p : Nat} (hN : 13002 < N) (h : Zd B s0 s f p) : ∃ s', bk_M_module_212 N s = some ((), s') ∧ Zm s0 s' f p := by
  obtain ⟨h1, h2, h3, h4, h5, -, m, dc, it, h6, h7, h8, h9, h10, h11, ⟨a, h12, h13⟩, ⟨b, h14, h15⟩, h16⟩ := h
  unfold bk_M_module_212
  rw [h6, if_neg (nI_in (show m < 3601 by omega) (by decide)), nI_clamp (by omega)]
  obtain ⟨N', rfl⟩ : ∃ k, N = k + 1 := ⟨N - 1, by omega⟩
  show ∃ s', bd_M_module_222 (N' + 1) (hd_M_module_222 (N' + 1) N') (s.1 14 m) s = _ ∧ _
  unfold bd_M_module_222
  rw [if_neg (show ¬ s.1 9 0 = 0 by rw [h4]; exact nI_ne0 h2 (by omega)), ite_self]
  unfold bk_M_module_277
  rw [h6, if_neg (nI_in (show m < 3601 by omega) (by decide)), nI_clamp (by omega), h12]
  have q12 : (upI s 8 (fun _ => s.1 8 0 + 1)).1 12 0 = nI m := h6
  have q18 : (upI s 8 (fun _ => s.1 8 0 + 1)).1 18 0 = nI dc := h8
  have q27 : (upI s 8 (fun _ => s.1 8 0 + 1)).1 27 0 = nI it := h10
  have q15 : (upI s 8 (fun _ => s.1 8 0 + 1)).1 15 m = nI b := h14
  rw [h299 q12 h7 q18 (by omega) (dc - a) a (N' + 1) 0 (by omega) (by omega), q15]
  obtain ⟨M, hM⟩ : ∃ M : Nat → Nat, ∀ k, k < it → M k < 3600 ∧ s.1 28 k = nI (M k) := by
    refine ⟨fun k => if hk : k < it then (h16 k hk).choose else 0, fun k hk => ?_⟩
    simp only [hk, dite_true]
    exact (h16 k hk).choose_spec
  obtain ⟨y1, y3, y5, y7, p1, -⟩ := h376 (N := N' + 1) (M := M) q12 h7 q27 (by omega) (it - b) b (N' + 1) (0 + sJ (fun d => if (upI s 8 (fun _ => s.1 8 0 + 1)).1 21 d = 2 ∨ (upI s 8 (fun _ => s.1 8 0 + 1)).1 21 d = 4 then Int32.toInt64 ((upI s 8 (fun _ => s.1 8 0 + 1)).1 20 d) else 0) (dc - a) a) (Int32.toInt64 (nI dc - (upI s 8 (fun _ => s.1 8 0 + 1)).1 14 m)) 0 ((upI s 8 (fun _ => s.1 8 0 + 1)).2 45 m) (by omega) (by omega) (fun i i1 i2 => ⟨(hM i i2).2, (hM i i2).1⟩)
  refine ⟨_, p1, ?_, h2, h3, h4, h5⟩
  unfold endS
  exact (((((((((h1.upI (by decide)).upJ (by decide)).upJ (by decide)).upJ (by decide)).upJ (by decide)).upI (by decide)).upI (by decide)).upI (by decide)).upI (by decide)).upI (by decide)
end MMOD
