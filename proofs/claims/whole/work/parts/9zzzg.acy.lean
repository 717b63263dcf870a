/-! Order: what follows from one; what depends on itself where there is none. -/
section ACY
variable {dp : Nat → List Nat} {ns : Nat} {told rd : Nat → Bool} {ord : List Nat}
/-- whatever one in an order reaches stands before it, or is told by nothing -/
theorem TO.reach (h : TO dp told ord) (hu : ∀ y, told y = false → dp y = []) {a b : List Nat} {v : Nat} (e : ord = a ++ v :: b) : ∀ {k x y : Nat}, (x ∈ a ∨ told x = false) → Rk dp k x y → (y ∈ a ∨ told y = false)
  | 0, x, y, hx, hr => by have hr : x = y := hr; rw [← hr]; exact hx
  | k + 1, x, y, hx, hr => by
    obtain ⟨z, z1, z2⟩ := hr
    rcases hx with hx | hx
    · refine TO.reach h hu e ?_ z2
      cases tz : told z with
      | false => exact Or.inr rfl
      | true =>
        obtain ⟨a1, a2, ea⟩ := List.append_of_mem hx
        have := h a1 x (a2 ++ v :: b) (by rw [e, ea, List.append_assoc]; rfl) z z1 tz
        exact Or.inl (by rw [ea]; exact List.mem_append_left _ this)
    · rw [hu x hx] at z1
      exact absurd z1 List.not_mem_nil
theorem TO.acyc (h : TO dp told ord) (hd : ord.Nodup) (hu : ∀ y, told y = false → dp y = []) (ht : ∀ v, v ∈ ord → told v = true) {v : Nat} (hv : v ∈ ord) : ¬ Cy dp v := by
  rintro ⟨z, z1, k, z2⟩
  obtain ⟨a, b, e⟩ := List.append_of_mem hv
  have hz : z ∈ a ∨ told z = false := by
    cases tz : told z with
    | false => exact Or.inr rfl
    | true => exact Or.inl (h a v b e z z1 tz)
  rcases h.reach hu e hz z2 with q | q
  · rw [e] at hd
    exact (List.nodup_append.mp hd).2.2 v q v List.mem_cons_self rfl
  · rw [ht v hv] at q
    cases q
/-- where everyone of some needs one of them, one depends on itself -/
theorem cyc_of {U : Nat → Prop} (hU : ∀ x, U x → x < ns ∧ ∃ y, y ∈ dp x ∧ U y) {x : Nat} (hx : U x) : ∃ y, U y ∧ Cy dp y := by
  obtain ⟨f, hf⟩ : ∃ f : Nat → Nat, ∀ x, U x → f x ∈ dp x ∧ U (f x) := by
    have h2 : ∀ x, ∃ y, U x → (y ∈ dp x ∧ U y) := fun x => by
      by_cases h : U x
      · obtain ⟨y, hy⟩ := (hU x h).2
        exact ⟨y, fun _ => hy⟩
      · exact ⟨0, fun q => absurd q h⟩
    exact ⟨fun x => Classical.choose (h2 x), fun x h => Classical.choose_spec (h2 x) h⟩
  obtain ⟨g, g0, gs⟩ : ∃ g : Nat → Nat, g 0 = x ∧ ∀ i, g (i + 1) = f (g i) := ⟨fun i => Nat.rec x (fun _ y => f y) i, rfl, fun i => rfl⟩
  have gU : ∀ i, U (g i) := by
    intro i
    induction i with
    | zero => rw [g0]; exact hx
    | succ i ih => rw [gs]; exact (hf _ ih).2
  have gr : ∀ i k, Rk dp k (g i) (g (i + k)) := by
    intro i k
    induction k generalizing i with
    | zero => exact rfl
    | succ k ih =>
      refine ⟨g (i + 1), by rw [gs]; exact (hf _ (gU i)).1, ?_⟩
      have := ih (i + 1)
      rw [show i + 1 + k = i + (k + 1) by omega] at this
      exact this
  -- two of them are the same
  have two : ∃ i j, i < j ∧ g i = g j := by
    refine Classical.byContradiction (fun no => ?_)
    have nd : ((List.range (ns + 1)).map g).Nodup := List.pairwise_map.mpr (List.pairwise_lt_range.imp (fun {a b} hab q => no ⟨a, b, hab, q⟩))
    have := nodup_len (n := ns) nd (fun y hy => by
      obtain ⟨i, -, rfl⟩ := List.mem_map.mp hy
      exact (hU _ (gU i)).1)
    rw [List.length_map, List.length_range] at this
    omega
  obtain ⟨i, j, hij, e⟩ := two
  refine ⟨g i, gU i, g (i + 1), by rw [gs]; exact (hf _ (gU i)).1, j - i - 1, ?_⟩
  have := gr (i + 1) (j - i - 1)
  rw [show i + 1 + (j - i - 1) = j by omega, ← e] at this
  exact this
/-- whether all that a row of ops loads is ready -/
def okL (rd : Nat → Bool) (f : Nat → Option Nat) : Nat → Nat → Bool
  | 0, _ => true
  | m + 1, i => (match f i with
    | some y => rd y
    | none => true) && okL rd f m (i + 1)
theorem okL_iff {f : Nat → Option Nat} : ∀ {m i : Nat}, okL rd f m i = true ↔ ∀ j, i ≤ j → j < i + m → ∀ y, f j = some y → rd y = true
  | 0, i => ⟨fun _ j h1 h2 => by omega, fun _ => rfl⟩
  | m + 1, i => by
    unfold okL
    rw [Bool.and_eq_true, okL_iff]
    constructor
    · rintro ⟨h1, h2⟩ j j1 j2 y hy
      by_cases z : j = i
      · subst z
        rw [hy] at h1
        exact h1
      · exact h2 j (by omega) (by omega) y hy
    · intro h
      refine ⟨?_, fun j j1 j2 => h j (by omega) (by omega)⟩
      cases e : f i with
      | none => rfl
      | some y => exact h i (Nat.le_refl _) (by omega) y e
def canB (rd : Nat → Bool) (len : Nat → Nat) (src : Nat → Option Nat) (ld : Nat → Nat → Option Nat) (x : Nat) : Bool := match src x with
  | some y => rd y
  | none => okL rd (ld x) (len x) 0
theorem canB_iff {len : Nat → Nat} {src : Nat → Option Nat} {ld : Nat → Nat → Option Nat} {x : Nat} : canB rd len src ld x = true ↔ ∀ y, y ∈ dpn len src ld x → rd y = true := by
  unfold canB dpn
  cases src x with
  | some y =>
    dsimp only
    exact ⟨fun h z hz => by rw [List.mem_singleton.mp hz]; exact h, fun h => h y (List.mem_singleton.mpr rfl)⟩
  | none =>
    dsimp only
    rw [okL_iff]
    unfold lsr
    constructor
    · intro h y hy
      obtain ⟨j, j1, j2⟩ := List.mem_filterMap.mp hy
      exact h j (Nat.zero_le _) (by have := List.mem_range.mp j1; omega) y j2
    · intro h j _ j2 y hy
      exact h y (List.mem_filterMap.mpr ⟨j, List.mem_range.mpr (by omega), hy⟩)
end ACY
