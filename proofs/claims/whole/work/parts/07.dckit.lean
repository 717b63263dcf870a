/-! Decompiled methods: a state is a pair of memories; a method is a pure function; where it has a value, the machine has it, too. -/
abbrev ms : Type := (Nat → Nat → Int32) × (Nat → Nat → Int64)
def upI (s : ms) (k : Nat) (g : Nat → Int32) : ms := (fun j => if j = k then g else s.1 j, s.2)
def upJ (s : ms) (k : Nat) (g : Nat → Int64) : ms := (s.1, fun j => if j = k then g else s.2 j)
def dc_N : Nat := 4294967296
theorem dc_g {α : Type} {c : Prop} [Decidable c] {t : Option α} {y : α} (h : (if c then none else t) = some y) : ¬ c ∧ t = some y := by
  by_cases hc : c
  · rw [if_pos hc] at h; cases h
  · rw [if_neg hc] at h; exact ⟨hc, h⟩
theorem dc_b {α β : Type} {o : Option α} {k : α → Option β} {y : β} (h : o.bind k = some y) : ∃ q, o = some q ∧ k q = some y := Option.bind_eq_some_iff.mp h
theorem dc_inc {x : Int32} {n : Int} {v : Int32} (h : Int32.ofInt n = v) : x + Int32.ofInt n = x + v := by rw [h]
theorem dc_z {v : Int32} (h : vp_nar .boolean v = v) : narrow .boolean (.int v) = .int v := by
  have h2 : narrow .boolean (.int v) = .int (vp_nar .boolean v) := rfl
  rw [h2, h]
theorem dc_out {x lo hi : Int} (h : ∀ k : Int, lo ≤ k → k ≤ hi → ¬ x = k) (h0 : lo ≤ hi) : x < lo ∨ hi < x := by
  rcases Int.lt_or_le x lo with h1 | h1
  · exact Or.inl h1
  · rcases Int.lt_or_le hi x with h2 | h2
    · exact Or.inr h2
    · exact absurd rfl (h x h1 h2)
theorem dc_all (ws : va_W) : (List.range ws.length).map (fun i => ws[i]?) = ws.map some := by
  apply List.ext_getElem?
  intro i
  by_cases h : i < ws.length
  · simp [h]
  · simp [h]
def dcC (p : Program) (l : Launch) (e : Env) (R : Room) (s0 : State) (m : MethodId) (args : Array Value) (below : List Frame) (meth : Method) (c : Code) (Q : State → Prop) (D : va_G) (A : Nat → Prop) (w : va_W) (pc n : Nat) (lv : List (Nat × Value)) (st : List Value) : Prop :=
  ∀ (H : Heap) (locs : List Loc) (ls : Array Slot), va_P D xcl w H → va_D A w → va_S A s0.heap H locs → lv_has ls n lv → W p l e R s0 m args below meth c H locs 0 0 Q (F0 m pc ls st)
section DCK
variable {p : Program} {l : Launch} {e : Env} {R : Room} {s : State} {m : MethodId} {args : Array Value} {below : List Frame} {meth : Method} {c : Code} {H : Heap} {locs : List Loc} {cells slots : Nat} {Q : State → Prop}
variable {pc : Nat} {ls : Array Slot} {rest st0 : List Value} {D : va_G} {cl : List vw_C} {A : Nat → Prop} {tys : List (ClassId × FieldType)} {ws : va_W} {H0 : Heap}
theorem dc_calli {S : Type} {post : Int32 → S → Prop} {w1 : S → va_W} {mc ms : Nat} {a : Array Value} (hr : va_Run p l e R s m args below meth c H locs cells slots mc ms (F0 m pc ls st0) rest (xk_Qi D cl tys post w1 (va_A ws H.size) a) (va_A ws H.size)) (hP : va_P D cl ws H) (hD : va_D A ws) (hS : va_S A H0 H locs) (hA : ∀ q, H0.size ≤ q → A q)
    (kk : ∀ (r : Int32) (u : S) (H1 : Heap) (locs1 : List Loc), post r u → va_P D cl (w1 u) H1 → va_D A (w1 u) → va_S A H0 H1 locs1 → W p l e R s m args below meth c H1 locs1 (cells + mc) (slots + ms) Q (F0 m (pc + 3) ls (.int r :: rest))) : W p l e R s m args below meth c H locs cells slots Q (F0 m pc ls st0) :=
  xk_calli (wr := []) hr hP hD hS hA (List.range ws.length) [] (dc_all ws) rfl rfl (fun _ h => by cases h) (fun r u H1 locs1 h1 h2 h3 h4 => kk r u H1 locs1 h1 h2 h3 h4)
theorem dc_calll {S : Type} {post : Int64 → S → Prop} {w1 : S → va_W} {mc ms : Nat} {a : Array Value} (hr : va_Run p l e R s m args below meth c H locs cells slots mc ms (F0 m pc ls st0) rest (xk_Ql D cl tys post w1 (va_A ws H.size) a) (va_A ws H.size)) (hP : va_P D cl ws H) (hD : va_D A ws) (hS : va_S A H0 H locs) (hA : ∀ q, H0.size ≤ q → A q)
    (kk : ∀ (r : Int64) (u : S) (H1 : Heap) (locs1 : List Loc), post r u → va_P D cl (w1 u) H1 → va_D A (w1 u) → va_S A H0 H1 locs1 → W p l e R s m args below meth c H1 locs1 (cells + mc) (slots + ms) Q (F0 m (pc + 3) ls (.long r :: rest))) : W p l e R s m args below meth c H locs cells slots Q (F0 m pc ls st0) :=
  xk_calll (wr := []) hr hP hD hS hA (List.range ws.length) [] (dc_all ws) rfl rfl (fun _ h => by cases h) (fun r u H1 locs1 h1 h2 h3 h4 => kk r u H1 locs1 h1 h2 h3 h4)
theorem dc_callv {S : Type} {post : S → Prop} {w1 : S → va_W} {mc ms : Nat} {a : Array Value} (hr : va_Run p l e R s m args below meth c H locs cells slots mc ms (F0 m pc ls st0) rest (xk_Qv D cl tys post w1 (va_A ws H.size) a) (va_A ws H.size)) (hP : va_P D cl ws H) (hD : va_D A ws) (hS : va_S A H0 H locs) (hA : ∀ q, H0.size ≤ q → A q)
    (kk : ∀ (u : S) (H1 : Heap) (locs1 : List Loc), post u → va_P D cl (w1 u) H1 → va_D A (w1 u) → va_S A H0 H1 locs1 → W p l e R s m args below meth c H1 locs1 (cells + mc) (slots + ms) Q (F0 m (pc + 3) ls rest)) : W p l e R s m args below meth c H locs cells slots Q (F0 m pc ls st0) :=
  xk_callv (wr := []) hr hP hD hS hA (List.range ws.length) [] (dc_all ws) rfl rfl (fun _ h => by cases h) (fun u H1 locs1 h1 h2 h3 h4 => kk u H1 locs1 h1 h2 h3 h4)
end DCK
