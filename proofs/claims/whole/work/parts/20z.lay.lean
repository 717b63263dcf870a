/-! The reference's rows that grow: lay, keepNumber. By hand. -/
def lay_put (v1 v2 v3 : Int32) (s : ms) : Option (Unit × ms) :=
  if (s.1 42 0 < 0 ∨ (s.1 91 0).toNatClampNeg ≤ Int32.toNatClampNeg (s.1 42 0)) then none else
  if (s.1 42 0 + 1 < 0 ∨ (s.1 91 0).toNatClampNeg ≤ Int32.toNatClampNeg (s.1 42 0 + 1)) then none else
  if (s.1 42 0 + 2 < 0 ∨ (s.1 91 0).toNatClampNeg ≤ Int32.toNatClampNeg (s.1 42 0 + 2)) then none else
  some ((), upI (upI s 41 (upd (upd (upd (s.1 41) (Int32.toNatClampNeg (s.1 42 0)) v1) (Int32.toNatClampNeg (s.1 42 0 + 1)) v2) (Int32.toNatClampNeg (s.1 42 0 + 2)) v3)) 42 (fun _ => s.1 42 0 + 3))
def lay_grow (s : ms) : ms := upI (upI s 41 (fun k => if k < (s.1 42 0).toNatClampNeg then s.1 41 k else 0)) 91 (fun _ => nI (2 * (s.1 91 0).toNatClampNeg))
def fn_M_lay (_ : Nat) (v1 v2 v3 : Int32) (s : ms) : Option (Unit × ms) :=
  if s.1 42 0 + 3 ≤ Int32.ofNat (s.1 91 0).toNatClampNeg then lay_put v1 v2 v3 s else
  if (400000 < (s.1 91 0).toNatClampNeg ∨ s.1 42 0 < 0 ∨ (s.1 91 0).toNatClampNeg < (s.1 42 0).toNatClampNeg) then none else lay_put v1 v2 v3 (lay_grow s)
theorem lay_put_gl {v1 v2 v3 : Int32} {s : ms} {y : Unit × ms} (hf : lay_put v1 v2 v3 s = some y) : gl y.2 = gl s := by
  unfold lay_put at hf
  obtain ⟨_, hf⟩ := dc_g hf
  obtain ⟨_, hf⟩ := dc_g hf
  obtain ⟨_, hf⟩ := dc_g hf
  rw [← Option.some.inj hf]
  rfl
theorem lay_grow_gl {s : ms} (h : ¬ 400000 < (s.1 91 0).toNatClampNeg) : gl (lay_grow s) = gl s + (s.1 91 0).toNatClampNeg := by
  show (nI (2 * (s.1 91 0).toNatClampNeg)).toNatClampNeg + (s.1 92 0).toNatClampNeg = (s.1 91 0).toNatClampNeg + (s.1 92 0).toNatClampNeg + (s.1 91 0).toNatClampNeg
  rw [nI_clamp (by omega)]; omega
theorem mn_M_lay (N : Nat) (v1 v2 v3 : Int32) (s : ms) (y : Unit × ms) (hf : fn_M_lay N v1 v2 v3 s = some y) : gl s ≤ gl y.2 := by
  unfold fn_M_lay at hf
  by_cases h : s.1 42 0 + 3 ≤ Int32.ofNat (s.1 91 0).toNatClampNeg
  · have hf := (if_pos h).symm.trans hf
    exact Nat.le_of_eq (lay_put_gl hf).symm
  · have hf := (if_neg h).symm.trans hf
    obtain ⟨hg, hf⟩ := dc_g hf
    rw [lay_put_gl hf, lay_grow_gl (fun h => hg (Or.inl h))]
    omega
def keep_put (v1 : Int64) (s : ms) : Option (Int32 × ms) :=
  if (s.1 44 0 < 0 ∨ (s.1 92 0).toNatClampNeg ≤ Int32.toNatClampNeg (s.1 44 0)) then none else
  some ((s.1 44 0 + 1) - 1, upI (upJ s 43 (vp_updL (s.2 43) (Int32.toNatClampNeg (s.1 44 0)) v1)) 44 (fun _ => s.1 44 0 + 1))
def keep_grow (s : ms) : ms := upI (upJ s 43 (fun k => if k < (s.1 44 0).toNatClampNeg then s.2 43 k else 0)) 92 (fun _ => nI (2 * (s.1 44 0).toNatClampNeg))
def fn_M_keepNumber (_ : Nat) (v1 : Int64) (s : ms) : Option (Int32 × ms) :=
  if s.1 44 0 = Int32.ofNat (s.1 92 0).toNatClampNeg then
    (if (400000 < (s.1 92 0).toNatClampNeg ∨ s.1 44 0 < 0 ∨ ¬ (s.1 44 0).toNatClampNeg = (s.1 92 0).toNatClampNeg) then none else keep_put v1 (keep_grow s))
  else keep_put v1 s
theorem keep_put_gl {v1 : Int64} {s : ms} {y : Int32 × ms} (hf : keep_put v1 s = some y) : gl y.2 = gl s := by
  unfold keep_put at hf
  obtain ⟨_, hf⟩ := dc_g hf
  rw [← Option.some.inj hf]
  rfl
theorem keep_grow_gl {s : ms} (h : ¬ 400000 < (s.1 92 0).toNatClampNeg) (h2 : (s.1 44 0).toNatClampNeg = (s.1 92 0).toNatClampNeg) : gl (keep_grow s) = gl s + (s.1 92 0).toNatClampNeg := by
  show (s.1 91 0).toNatClampNeg + (nI (2 * (s.1 44 0).toNatClampNeg)).toNatClampNeg = (s.1 91 0).toNatClampNeg + (s.1 92 0).toNatClampNeg + (s.1 92 0).toNatClampNeg
  rw [nI_clamp (by omega)]; omega
theorem mn_M_keepNumber (N : Nat) (v1 : Int64) (s : ms) (y : Int32 × ms) (hf : fn_M_keepNumber N v1 s = some y) : gl s ≤ gl y.2 := by
  unfold fn_M_keepNumber at hf
  by_cases h : s.1 44 0 = Int32.ofNat (s.1 92 0).toNatClampNeg
  · have hf := (if_pos h).symm.trans hf
    obtain ⟨hg, hf⟩ := dc_g hf
    rw [keep_put_gl hf, keep_grow_gl (fun h => hg (Or.inl h)) (Decidable.not_not.mp (fun h => hg (Or.inr (Or.inr h))))]
    omega
  · have hf := (if_neg h).symm.trans hf
    exact Nat.le_of_eq (keep_put_gl hf).symm
theorem ct_M_lay (l : Launch) (dC : Nat → ClassId) (dI : Nat → Nat → Nat) (cI cB cJ cZ cQ : ClassId) (N sz : Nat) (h0 : Nat) (a : Nat → Nat) (v1 v2 v3 : Int32) (s : ms) (y : (Unit × ms)) (hf : fn_M_lay N v1 v2 v3 s = some y) : Met l yn_M_lay (xw yn_M_lay bn_M_lay 6 none) ({ frames := 0, cells := 2 * (gl y.2 - gl s), slots := 2 * (gl y.2 - gl s), locals := 0 }) (dc_P (dC, dI) xcl (xt cI cB cJ cZ cQ) [.ref h0, .int v1, .int v2, .int v3] sz (wM h0 a cI cB cJ cZ s)) (xk_Qv (dC, dI) xcl (xt cI cB cJ cZ cQ) (fun _ : Nat → Nat => True) (fun u : Nat → Nat => (wM h0 u cI cB cJ cZ y.2)) (va_A (wM h0 a cI cB cJ cZ s) sz)) (2 * (gl y.2 - gl s)) (2 * (gl y.2 - gl s)) (va_A (wM h0 a cI cB cJ cZ s) sz) := by
  sorry
theorem ct_M_keepNumber (l : Launch) (dC : Nat → ClassId) (dI : Nat → Nat → Nat) (cI cB cJ cZ cQ : ClassId) (N sz : Nat) (h0 : Nat) (a : Nat → Nat) (v1 : Int64) (s : ms) (y : (Int32 × ms)) (hf : fn_M_keepNumber N v1 s = some y) : Met l yn_M_keepNumber (xw yn_M_keepNumber bn_M_keepNumber 5 (some .int)) ({ frames := 0, cells := 2 * (gl y.2 - gl s), slots := 2 * (gl y.2 - gl s), locals := 0 }) (dc_P (dC, dI) xcl (xt cI cB cJ cZ cQ) [.ref h0, .long v1] sz (wM h0 a cI cB cJ cZ s)) (xk_Qi (dC, dI) xcl (xt cI cB cJ cZ cQ) (fun (r : Int32) (_ : Nat → Nat) => r = y.1) (fun u : Nat → Nat => (wM h0 u cI cB cJ cZ y.2)) (va_A (wM h0 a cI cB cJ cZ s) sz)) (2 * (gl y.2 - gl s)) (2 * (gl y.2 - gl s)) (va_A (wM h0 a cI cB cJ cZ s) sz) := by
  sorry
