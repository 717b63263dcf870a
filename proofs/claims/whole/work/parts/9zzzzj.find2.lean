/-! find, of both sides. -/
/-- names and paths of a circuit -/
def FS (ch : Nat → Nat) (m n n' ns : Nat) (par : Nat → Nat) (it sg : Nat → Nat × Nat) (inst bas' ow : Nat → Nat) : Prop :=
  (m ≤ 12000 ∧ n ≤ 12000 ∧ n' ≤ 257 ∧ ns ≤ 1024 ∧ 0 < n') ∧ (∀ y, 0 < y → y < n' → par y < y ∧ Wd ch n (it y).1 (it y).2) ∧ (∀ x, x < ns → Wd ch n (sg x).1 (sg x).2 ∧ inst x < n') ∧
  (∀ y z, 0 < y → y < n' → 0 < z → z < n' → par y = par z → (it y).2 = (it z).2 → (∀ j, j < (it y).2 → ch ((it y).1 + j) = ch ((it z).1 + j)) → y = z) ∧
  ∀ i, i < n' → bas' i + ow i ≤ ns ∧ ∀ x, x < ns → (inst x = i ↔ bas' i ≤ x ∧ x < bas' i + ow i)
/-- a signal is named -/
def Nmd (T ch : Nat → Nat) (m : Nat) (par : Nat → Nat) (it sg : Nat → Nat × Nat) (inst : Nat → Nat) (x : Nat) : Prop := ∃ a, Pt T ch m par it (inst x) a ∧ a + (sg x).2 = m ∧ mt T ch a (sg x).1 (sg x).2
def FM (T ch : Nat → Nat) (m n n' ns : Nat) (par : Nat → Nat) (it sg : Nat → Nat × Nat) (inst itm tki dd tkx : Nat → Nat) (s : ms) : Prop :=
  s.1 63 0 = nI ns ∧ s.1 88 0 = nI m ∧ (∀ k, k < m → T k < 256 ∧ s.1 1 k = kch (T k)) ∧ (∀ k, k < n → ch k < 256 ∧ s.1 90 k = kch (ch k)) ∧
  (∀ y, 0 < y → y < n' → s.1 59 y = nI (par y) ∧ s.1 60 y = nI (itm y) ∧ itm y < 11000 ∧ s.1 29 (itm y) = nI (tki y) ∧ tki y < 65540 ∧ s.1 5 (tki y) = nI (it y).1 ∧ s.1 6 (tki y) = nI ((it y).1 + (it y).2)) ∧
  ∀ x, x < ns → s.1 65 x = nI (inst x) ∧ s.1 64 x = nI (dd x) ∧ dd x < 11000 ∧ s.1 19 (dd x) = nI (tkx x) ∧ tkx x < 65540 ∧ s.1 5 (tkx x) = nI (sg x).1 ∧ s.1 6 (tkx x) = nI ((sg x).1 + (sg x).2)
def anc (par : Nat → Nat) (i : Nat) : Nat → Nat
  | 0 => i
  | j + 1 => par (anc par i j)
section FINDM
variable {T ch : Nat → Nat} {m n n' ns N : Nat} {par : Nat → Nat} {it sg : Nat → Nat × Nat} {inst bas' ow itm tki dd tkx : Nat → Nat} {c s s' : ms}
theorem FM.keep (h : FM T ch m n n' ns par it sg inst itm tki dd tkx s) (e : Eb [74] [] s s') : FM T ch m n n' ns par it sg inst itm tki dd tkx s' := by
  unfold FM at *
  rw [e.1 63 (by decide), e.1 88 (by decide), e.1 1 (by decide), e.1 90 (by decide), e.1 59 (by decide), e.1 60 (by decide), e.1 29 (by decide), e.1 5 (by decide), e.1 6 (by decide), e.1 65 (by decide), e.1 64 (by decide), e.1 19 (by decide)]
  exact h
theorem Pt.anc {i a0 : Nat} (h : Pt T ch m par it i a0) : ∀ j, (∀ j', j' < j → 0 < anc par i j') → ∃ a, Pt T ch m par it (anc par i j) a
  | 0, _ => ⟨a0, h⟩
  | j + 1, hj => by
    obtain ⟨a, ha⟩ := h.anc j (fun j' h' => hj j' (by omega))
    rcases ha.inv with ⟨z, -⟩ | ⟨-, a', h2, -⟩
    · have := hj j (by omega); omega
    · exact ⟨a', h2⟩
/-- the items that a signal is in, from within -/
theorem up_M (hS : FS ch m n n' ns par it sg inst bas' ow) (hN : 300 < N) {i x : Nat} (hi : i < n') : ∀ (y k F : Nat) (s : ms), FM T ch m n n' ns par it sg inst itm tki dd tkx s → anc par i k = y → y < n' → k + y ≤ 257 → y < F → (∀ j, j < k → 0 < anc par i j ∧ s.1 74 j = nI (itm (anc par i j))) → ∃ K s', hd_M_isNamed_9 N F (nI x) (nI k) (nI y) s = hd_M_isNamed_49 N N (nI x) 0 1 (nI K - 1) s' ∧ Eb [74] [] s s' ∧ K ≤ 257 ∧ anc par i K = 0 ∧ ∀ j, j < K → 0 < anc par i j ∧ s'.1 74 j = nI (itm (anc par i j)) := by
  intro y
  induction y using Nat.strongRecOn with
  | ind y ih =>
    intro k F s hM hk hy hky hF hj
    obtain ⟨F, rfl⟩ : ∃ q, F = q + 1 := ⟨F - 1, by omega⟩
    show ∃ K s', bd_M_isNamed_9 N (hd_M_isNamed_9 N F) (nI x) (nI k) (nI y) s = _ ∧ _
    unfold bd_M_isNamed_9
    by_cases z : y = 0
    · rw [if_pos (show nI y ≤ 0 by rw [z]; decide)]
      exact ⟨k, s, rfl, Eb.rfl, by omega, by omega, hj⟩
    · have n2 := hS.1.2.2.1
      obtain ⟨r59, r60, i1, -⟩ := hM.2.2.2.2.1 y (by omega) hy
      have p := (hS.2.1 y (by omega) hy).1
      rw [if_neg (show ¬ nI y ≤ 0 from nI_ge (a := 0) (by omega) (by omega)), if_neg (nI_in (show y < 260 by omega) (by decide)), if_neg (nI_in (show k < 1100 by omega) (by decide)), nI_clamp (show y < 2 ^ 31 by omega), nI_clamp (show k < 2 ^ 31 by omega), if_neg (nI_in2 (show y < 260 by omega) (by decide)), r59, r60, nI_1]
      have e : Eb [74] [] s (upI s 74 (upd (s.1 74) k (nI (itm y)))) := Eb.rfl.upI (by decide)
      obtain ⟨K, s', a1, a2, a3⟩ := ih (par y) p (k + 1) F (upI s 74 (upd (s.1 74) k (nI (itm y)))) (hM.keep e) (by show par (anc par i k) = _; rw [hk]) (by omega) (by omega) (by omega) (fun j h' => by
        show 0 < anc par i j ∧ upd (s.1 74) k (nI (itm y)) j = _
        by_cases w : j = k
        · rw [w, upd_at, hk]
          exact ⟨by omega, rfl⟩
        · rw [upd_ne w]
          exact hj j (by omega))
      exact ⟨K, s', a1, e.trans a2, a3⟩
theorem nI_s1 {j : Nat} : nI (j + 1) - 1 = nI j := s1_nI
/-- behind a part that is named otherwise -/
theorem off_M (hM : FM T ch m n n' ns par it sg inst itm tki dd tkx s) {x F : Nat} (hx : x < ns) (hns : ns ≤ 1024) {a b : Int32} : hd_M_isNamed_49 N (F + 1) (nI x) a 0 b s = some (0, s) := by
  obtain ⟨-, r64, d1, -⟩ := hM.2.2.2.2.2 x hx
  have e : bk_M_isNamed_145 N (nI x) a 0 s = some (0, s) := by
    unfold bk_M_isNamed_145
    rw [if_neg (nI_in (show x < 1100 by omega) (by decide)), nI_clamp (by omega), r64, if_neg (nI_in d1 (by decide)), if_pos rfl]
  show bd_M_isNamed_49 N (hd_M_isNamed_49 N F) (nI x) a 0 b s = _
  unfold bd_M_isNamed_49
  rw [e, if_pos rfl, ite_self]
theorem chk_M (hS : FS ch m n n' ns par it sg inst bas' ow) (hN : 13000 < N) {x K : Nat} (hx : x < ns) (hM : FM T ch m n n' ns par it sg inst itm tki dd tkx s) (hK : K ≤ 257) (hu : ∀ j, j < K → 0 < anc par (inst x) j ∧ s.1 74 j = nI (itm (anc par (inst x) j))) (hin : ∀ j, j ≤ K → anc par (inst x) j < n') : ∀ (j a F : Nat), j + 1 < F → j ≤ K → a ≤ m → Pt T ch m par it (anc par (inst x) j) a → ∃ r : Int32, hd_M_isNamed_49 N F (nI x) (nI a) 1 (nI j - 1) s = some (r, s) ∧ (r = 0 ∨ r = 1) ∧ (r = 1 ↔ Nmd T ch m par it sg inst x) := by
  obtain ⟨⟨m1, n1, n2, ns1, n0⟩, hS2, hS3, -⟩ := hS
  obtain ⟨q63, q88, qT, q90, qi, qx⟩ := id hM
  intro j
  induction j with
  | zero =>
    intro a F hF hj ha hp
    obtain ⟨F, rfl⟩ : ∃ q, F = q + 1 := ⟨F - 1, by omega⟩
    obtain ⟨-, r64, d1, r19, t1, r5, r6⟩ := qx x hx
    have w := (hS3 x hx).1
    obtain ⟨r, g1, g2, g3⟩ := goes_M (N := N) (T := T) (ch := ch) (n := n) hN t1 r5 r6 w.2.1 n1 ha m1 q88 qT q90
    show ∃ r, bd_M_isNamed_49 N (hd_M_isNamed_49 N F) (nI x) (nI a) 1 (nI 0 - 1) s = _ ∧ _
    unfold bd_M_isNamed_49 bk_M_isNamed_145
    rw [if_pos (show nI 0 - 1 < 0 by decide), if_neg (nI_in (show x < 1100 by omega) (by decide)), nI_clamp (by omega), r64, if_neg (nI_in d1 (by decide)), if_neg (show ¬ (1 : Int32) = 0 by decide), nI_clamp (by omega), r19, g1, obind]
    dsimp only
    have only : ∀ a', Pt T ch m par it (inst x) a' → a' = a := fun a' h => h.uniq hp
    rcases g2 with g2 | g2
    · rw [if_pos g2]
      refine ⟨0, rfl, Or.inl rfl, fun z => absurd z (by decide), fun ⟨a', h1, h2, h3⟩ => ?_⟩
      obtain rfl := only a' h1
      exact absurd (g3.mpr ⟨by omega, h3⟩) (by rw [g2]; decide)
    · obtain ⟨y1, y2⟩ := g3.mp g2
      rw [if_neg (show ¬ r = 0 by rw [g2]; decide), if_neg (nI_in t1 (by decide)), if_neg (nI_in t1 (by decide)), nI_clamp (by omega), r5, r6, q88, nI_add, nI_sub (by omega), show a + ((sg x).1 + (sg x).2) - (sg x).1 = a + (sg x).2 by omega]
      by_cases z : a + (sg x).2 = m
      · rw [if_pos (by rw [z])]
        exact ⟨1, rfl, Or.inr rfl, fun _ => ⟨a, hp, z, y2⟩, fun _ => rfl⟩
      · rw [if_neg (fun q => z ((nI_eq (by omega) (by omega)).mp q))]
        refine ⟨0, rfl, Or.inl rfl, fun z => absurd z (by decide), fun ⟨a', h1, h2, h3⟩ => ?_⟩
        obtain rfl := only a' h1
        exact absurd h2 z
  | succ j ih =>
    intro a F hF hj ha hp
    obtain ⟨F, rfl⟩ : ∃ q, F = q + 1 := ⟨F - 1, by omega⟩
    obtain ⟨F', hF'⟩ : ∃ q, F = q + 1 := ⟨F - 1, by omega⟩
    obtain ⟨u1, u2⟩ := hu j (by omega)
    have yn := hin j (by omega)
    have hp' : Pt T ch m par it (par (anc par (inst x) j)) a := hp
    generalize hy : anc par (inst x) j = y at *
    obtain ⟨-, -, i1, r29, t1, r5, r6⟩ := qi y u1 yn
    have w := (hS2 y u1 yn).2
    obtain ⟨r, g1, g2, g3⟩ := goes_M (N := N) (T := T) (ch := ch) (n := n) hN t1 r5 r6 w.2.1 n1 ha m1 q88 qT q90
    -- if it is named, this part is
    have must : Nmd T ch m par it sg inst x → a + (it y).2 < m ∧ mt T ch a (it y).1 (it y).2 ∧ T (a + (it y).2) = 46 := fun ⟨a0, h1, _⟩ => by
      obtain ⟨a1, h2⟩ := h1.anc j (fun j' h' => (hu j' (by omega)).1)
      rw [hy] at h2
      rcases h2.inv with ⟨z, -⟩ | ⟨-, a', h3, -, h5, h6, h7⟩
      · omega
      · obtain rfl := h3.uniq hp'
        exact ⟨h5, h6, h7⟩
    have no : ¬ Nmd T ch m par it sg inst x → ∀ b : Int32, bk_M_isNamed_133 N (hd_M_isNamed_49 N F) (nI x) b (nI j) s = some (0, s) → ∃ r : Int32, bk_M_isNamed_133 N (hd_M_isNamed_49 N F) (nI x) b (nI j) s = some (r, s) ∧ (r = 0 ∨ r = 1) ∧ (r = 1 ↔ Nmd T ch m par it sg inst x) := fun h b e => ⟨0, e, Or.inl rfl, fun z => absurd z (by decide), fun z => absurd z h⟩
    have of : ∀ b : Int32, bk_M_isNamed_133 N (hd_M_isNamed_49 N F) (nI x) b (nI j) s = some (0, s) := fun b => by
      unfold bk_M_isNamed_133
      rw [hF']
      exact off_M hM hx ns1
    show ∃ r, bd_M_isNamed_49 N (hd_M_isNamed_49 N F) (nI x) (nI a) 1 (nI (j + 1) - 1) s = _ ∧ _
    unfold bd_M_isNamed_49
    rw [nI_s1, if_neg (nI_pos (by omega)), if_neg (show ¬ (1 : Int32) = 0 by decide), if_neg (nI_in (show j < 1100 by omega) (by decide)), nI_clamp (show j < 2 ^ 31 by omega), u2, if_neg (nI_in i1 (by decide)), nI_clamp (show itm y < 2 ^ 31 by omega), r29, g1, obind]
    dsimp only
    rw [if_neg (nI_in t1 (by decide)), if_neg (nI_in t1 (by decide)), nI_clamp (show tki y < 2 ^ 31 by omega), r5, r6, q88, nI_add, nI_sub (show (it y).1 ≤ a + ((it y).1 + (it y).2) by omega), show a + ((it y).1 + (it y).2) - (it y).1 = a + (it y).2 by omega]
    rcases g2 with g2 | g2
    · rw [if_pos g2]
      refine no (fun h => ?_) _ (of _)
      obtain ⟨h1, h2, h3⟩ := must h
      exact absurd (g3.mpr ⟨by omega, h2⟩) (by rw [g2]; decide)
    · obtain ⟨y1, y2⟩ := g3.mp g2
      rw [if_neg (show ¬ r = 0 by rw [g2]; decide)]
      by_cases z : m ≤ a + (it y).2
      · rw [if_pos (nI_le z (by omega))]
        exact no (fun h => by have := (must h).1; omega) _ (of _)
      · obtain ⟨c1, c2⟩ := qT (a + (it y).2) (by omega)
        rw [if_neg (nI_ge (by omega) (by omega)), if_neg (nI_in (show a + (it y).2 < 65536 by omega) (by decide)), nI_clamp (show a + (it y).2 < 2 ^ 31 by omega), c2]
        by_cases v : T (a + (it y).2) = 46
        · rw [if_pos (show kch (T (a + (it y).2)) = 46 by rw [v]; decide), nI_1, ← Int32.sub_eq_add_neg]
          exact ih (a + (it y).2 + 1) F (by omega) (by omega) (by omega) (hp'.step u1 (by omega) y2 v)
        · rw [if_neg (show ¬ kch (T (a + (it y).2)) = 46 from fun q => v ((kq (d := 46) (by omega) (by decide)).mp q))]
          exact no (fun h => v (must h).2.2) _ (of _)
theorem isNamed_M (hS : FS ch m n n' ns par it sg inst bas' ow) (hN : 13000 < N) {x : Nat} (hx : x < ns) (hM : FM T ch m n n' ns par it sg inst itm tki dd tkx s) : ∃ (r : Int32) (s' : ms), fn_M_isNamed N (nI x) s = some (r, s') ∧ Eb [74] [] s s' ∧ (r = 0 ∨ r = 1) ∧ (r = 1 ↔ Nmd T ch m par it sg inst x) := by
  have ns1 := hS.1.2.2.2.1
  have n2 := hS.1.2.2.1
  have hi := (hS.2.2.1 x hx).2
  unfold fn_M_isNamed
  rw [if_neg (nI_in (show x < 1100 by omega) (by decide)), nI_clamp (by omega), (hM.2.2.2.2.2 x hx).1]
  obtain ⟨K, s', a1, a2, a3, a4, a5⟩ := up_M (N := N) (x := x) (i := inst x) hS (by omega) hi (inst x) 0 N s hM rfl hi (by omega) (by omega) (fun j hj => absurd hj (Nat.not_lt_zero _))
  rw [show hd_M_isNamed_9 N N (nI x) 0 (nI (inst x)) s = hd_M_isNamed_9 N N (nI x) (nI 0) (nI (inst x)) s from rfl, a1]
  have z0 : ∀ j, j ≤ K → anc par (inst x) j < n' := fun j => by
    induction j with
    | zero => intro _; exact hi
    | succ j ih =>
      intro hj
      have := ih (by omega)
      have := (hS.2.1 _ (a5 j (by omega)).1 this).1
      show par (anc par (inst x) j) < n'
      omega
  obtain ⟨r, b1, b2, b3⟩ := chk_M hS hN hx (hM.keep a2) a3 a5 z0 K 0 N (by omega) (Nat.le_refl _) (Nat.zero_le _) (by rw [a4]; exact Pt.zero)
  exact ⟨r, s', b1, a2, b2, b3⟩
end FINDM
