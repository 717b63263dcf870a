/-! The mathematics over the pure functions: small helps. -/
theorem upI_at (s : ms) (k : Nat) (g : Nat → Int32) : (upI s k g).1 k = g := by simp [upI]
theorem upI_ne (s : ms) {k j : Nat} (g : Nat → Int32) (h : j ≠ k) : (upI s k g).1 j = s.1 j := by simp [upI, h]
theorem upJ_at (s : ms) (k : Nat) (g : Nat → Int64) : (upJ s k g).2 k = g := by simp [upJ]
theorem upJ_ne (s : ms) {k j : Nat} (g : Nat → Int64) (h : j ≠ k) : (upJ s k g).2 j = s.2 j := by simp [upJ, h]
/-- the same but for the rows of these numbers -/
def Eb (ks js : List Nat) (s t : ms) : Prop := (∀ j, j ∉ ks → t.1 j = s.1 j) ∧ ∀ j, j ∉ js → t.2 j = s.2 j
theorem Eb.rfl {ks js : List Nat} {s : ms} : Eb ks js s s := ⟨fun _ _ => Eq.refl _, fun _ _ => Eq.refl _⟩
theorem Eb.trans {ks js : List Nat} {s t u : ms} (h1 : Eb ks js s t) (h2 : Eb ks js t u) : Eb ks js s u := ⟨fun j h => (h2.1 j h).trans (h1.1 j h), fun j h => (h2.2 j h).trans (h1.2 j h)⟩
theorem Eb.mono {ks js ks' js' : List Nat} {s t : ms} (h : Eb ks js s t) (hk : ∀ j, j ∈ ks → j ∈ ks') (hj : ∀ j, j ∈ js → j ∈ js') : Eb ks' js' s t := ⟨fun j q => h.1 j (fun z => q (hk j z)), fun j q => h.2 j (fun z => q (hj j z))⟩
theorem Eb.upI {ks js : List Nat} {s t : ms} {k : Nat} {g : Nat → Int32} (h : Eb ks js s t) (hk : k ∈ ks) : Eb ks js s (upI t k g) := ⟨fun j q => (upI_ne t g (fun z : j = k => q (by rw [z]; exact hk))).trans (h.1 j q), h.2⟩
theorem Eb.upJ {ks js : List Nat} {s t : ms} {k : Nat} {g : Nat → Int64} (h : Eb ks js s t) (hk : k ∈ js) : Eb ks js s (upJ t k g) := ⟨h.1, fun j q => (upJ_ne t g (fun z : j = k => q (by rw [z]; exact hk))).trans (h.2 j q)⟩
theorem ex_bind {α β : Type} {o : Option α} {y : α} {k : α → Option β} (h : o = some y) : o.bind k = k y := by rw [h]; rfl
