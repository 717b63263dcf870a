/-! Frames. -/
def KF {α : Type} (ks js : List Nat) (c : ms) (x : Option (α × ms)) : Prop := ∀ q, x = some q → Eb ks js c q.2
section FRK
variable {α β : Type} {ks js : List Nat} {c : ms}
theorem KF.none : KF (α := α) ks js c none := fun q h => by cases h
theorem KF.ite {p : Prop} [Decidable p] {x y : Option (α × ms)} (h1 : KF ks js c x) (h2 : KF ks js c y) : KF ks js c (if p then x else y) := by
  split
  · exact h1
  · exact h2
theorem KF.bind {x : Option (α × ms)} {k : α × ms → Option (β × ms)} (h1 : KF ks js c x) (h2 : ∀ q, Eb ks js c q.2 → KF ks js c (k q)) : KF ks js c (x.bind k) := by
  intro q hq
  obtain ⟨p, p1, p2⟩ := Option.bind_eq_some_iff.mp hq
  exact h2 p (h1 p p1) q p2
theorem KF.some {a : α} {s : ms} (h : Eb ks js c s) : KF ks js c (some (a, s)) := fun q hq => by cases hq; exact h
end FRK
