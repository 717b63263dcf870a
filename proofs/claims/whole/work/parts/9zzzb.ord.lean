/-! The class: order. -/
def lsr (f : Nat → Option Nat) (n : Nat) : List Nat := (List.range n).filterMap f
theorem lsr_succ {f : Nat → Option Nat} {n : Nat} : lsr f (n + 1) = lsr f n ++ (f n).toList := by
  unfold lsr
  rw [List.range_succ, List.filterMap_append]
  cases h : f n with
  | none => rw [List.filterMap_cons_none h]; rfl
  | some y => rw [List.filterMap_cons_some h]; rfl
theorem lsr_none {f : Nat → Option Nat} {k : Nat} : ∀ {n : Nat}, k ≤ n → (∀ i, k ≤ i → i < n → f i = none) → lsr f n = lsr f k
  | 0, h, _ => by have : k = 0 := by omega
                  subst this; rfl
  | n + 1, h, g => by
    by_cases z : k = n + 1
    · subst z; rfl
    · rw [lsr_succ, g n (by omega) (by omega), lsr_none (n := n) (by omega) (fun i h1 h2 => g i h1 (by omega))]
      exact List.append_nil _
/-- what the class's circuit tells of each signal: where its code is, how much, what it copies, what an op loads -/
def Nt (c : ms) (ns sz : Nat) (a len : Nat → Nat) (src : Nat → Option Nat) (ld : Nat → Nat → Option Nat) : Prop := c.1 293 0 = nI ns ∧ ns ≤ 1024 ∧ c.1 337 0 = nI sz ∧ sz ≤ 16000 ∧ ∀ x, x < ns → c.1 299 x = nI (a x) ∧ c.1 300 x = nI (a x + len x) ∧ a x + len x ≤ sz ∧ (src x = none → c.1 302 x = -1 ∧ ∀ i, i < len x → ∃ op arg : Int32, c.2 336 (a x + i) = crw op arg ∧ (op = 514 ↔ ld x i ≠ none) ∧ ∀ y, ld x i = some y → c.1 301 x + arg = nI y ∧ y < ns) ∧ ∀ y, src x = some y → c.1 302 x = nI y ∧ y < ns ∧ len x = 0
def dpn (len : Nat → Nat) (src : Nat → Option Nat) (ld : Nat → Nat → Option Nat) (x : Nat) : List Nat := match src x with
  | some y => [y]
  | none => lsr (ld x) (len x)
abbrev OE (c c' : ms) : Prop := Eb [277, 278, 279, 280, 281, 282, 283, 284, 285, 303, 304] [] c c'
section ORD
variable {c c' : ms} {N ns sz : Nat} {a len : Nat → Nat} {src : Nat → Option Nat} {ld : Nat → Nat → Option Nat}
theorem Nt.keep (h : Nt c ns sz a len src ld) (e : OE c c') : Nt c' ns sz a len src ld := by
  unfold Nt at *
  rw [e.1 293 (by decide), e.1 337 (by decide), e.1 299 (by decide), e.1 300 (by decide), e.1 301 (by decide), e.1 302 (by decide), e.2 336 (by decide)]
  exact h
theorem next_L (hN : 20000 < N) (h : Nt c ns sz a len src ld) {v : Nat} (hv : v < ns) (h0 : src v = none) : ∀ (m k F : Nat), k + m = len v → m < F → (∃ k' y, k ≤ k' ∧ k' < len v ∧ ld v k' = some y ∧ (∀ i, k ≤ i → i < k' → ld v i = none) ∧ hd_Order_nextNeeded_Or_82 N F (nI v) (nI (a v + len v)) (nI (a v + k)) c = some (nI y, upI c 279 (upd (c.1 279) v (nI (a v + k' + 1))))) ∨ ((∀ i, k ≤ i → i < len v → ld v i = none) ∧ hd_Order_nextNeeded_Or_82 N F (nI v) (nI (a v + len v)) (nI (a v + k)) c = some (-1, c)) := by
  obtain ⟨h1, h2, h3, h4, h5⟩ := h
  obtain ⟨g1, g2, g3, g4, -⟩ := h5 v hv
  obtain ⟨g5, g6⟩ := g4 h0
  intro m
  induction m with
  | zero =>
    intro k F hk hF
    obtain ⟨F, rfl⟩ : ∃ F', F = F' + 1 := ⟨F - 1, by omega⟩
    refine Or.inr ⟨fun i i1 i2 => by omega, ?_⟩
    show bd_Order_nextNeeded_Or_82 N (hd_Order_nextNeeded_Or_82 N F) _ _ _ c = _
    unfold bd_Order_nextNeeded_Or_82
    rw [if_pos (nI_le (by omega) (by omega))]
  | succ m ih =>
    intro k F hk hF
    obtain ⟨F, rfl⟩ : ∃ F', F = F' + 1 := ⟨F - 1, by omega⟩
    obtain ⟨op, arg, e1, e2, e3⟩ := g6 k (by omega)
    have eo : fn_Code_opAt_Ks N (nI (a v + k)) c = some (op, c) := by
      unfold fn_Code_opAt_Ks
      rw [if_neg (nI_pos (by omega)), h3, if_neg (nI_ge (by omega) (by omega)), if_neg (nI_in (show a v + k < 65537 by omega) (by decide)), nI_clamp (by omega), e1, crw_op]
    have body : hd_Order_nextNeeded_Or_82 N (F + 1) (nI v) (nI (a v + len v)) (nI (a v + k)) c = bd_Order_nextNeeded_Or_82 N (hd_Order_nextNeeded_Or_82 N F) (nI v) (nI (a v + len v)) (nI (a v + k)) c := rfl
    unfold bd_Order_nextNeeded_Or_82 at body
    rw [if_neg (nI_ge (by omega) (by omega)), eo, obind] at body
    dsimp only at body
    by_cases z : op = 514
    · obtain ⟨y, hy⟩ := Option.ne_none_iff_exists'.mp (e2.mp z)
      obtain ⟨y1, y2⟩ := e3 y hy
      refine Or.inl ⟨k, y, Nat.le_refl _, by omega, hy, fun i i1 i2 => by omega, ?_⟩
      have ea : fn_Code_argAt_Ks N (nI (a v + k)) (upI c 279 (upd (c.1 279) v (nI (a v + k + 1)))) = some (arg, upI c 279 (upd (c.1 279) v (nI (a v + k + 1)))) := by
        unfold fn_Code_argAt_Ks
        rw [if_neg (nI_pos (by omega)), show (upI c 279 (upd (c.1 279) v (nI (a v + k + 1)))).1 337 0 = nI sz from h3, if_neg (nI_ge (by omega) (by omega)), if_neg (nI_in (show a v + k < 65537 by omega) (by decide)), nI_clamp (by omega), show (upI c 279 (upd (c.1 279) v (nI (a v + k + 1)))).2 336 (a v + k) = crw op arg from e1, crw_arg]
      rw [body, if_pos z, if_neg (nI_in (show v < 1024 by omega) (by decide)), if_neg (nI_in (show v < 1024 by omega) (by decide)), nI_clamp (by omega), nI_1, ea, obind]
      dsimp only
      rw [y1, if_neg (nI_pos (by omega)), show (upI c 279 (upd (c.1 279) v (nI (a v + k + 1)))).1 293 0 = nI ns from h1, if_neg (nI_ge y2 (by omega))]
    · rw [if_neg z, nI_1] at body
      have ln : ld v k = none := by
        cases q : ld v k with
        | none => rfl
        | some y => exact absurd (e2.mpr (by rw [q]; exact fun w => by cases w)) z
      rcases ih (k + 1) F (by omega) (by omega) with ⟨k', y, q1, q2, q3, q4, q5⟩ | ⟨q1, q2⟩
      · refine Or.inl ⟨k', y, by omega, q2, q3, fun i i1 i2 => ?_, by rw [body]; exact q5⟩
        by_cases w : i = k
        · rw [w]; exact ln
        · exact q4 i (by omega) i2
      · refine Or.inr ⟨fun i i1 i2 => ?_, by rw [body]; exact q2⟩
        by_cases w : i = k
        · rw [w]; exact ln
        · exact q1 i (by omega) i2
/-- how far one is: how many of its ops are looked at; 1 of one that copies and is through -/
def Cu (c : ms) (a len : Nat → Nat) (src : Nat → Option Nat) (cu : Nat → Nat) (v : Nat) : Prop := (src v = none → cu v ≤ len v ∧ c.1 279 v = nI (a v + cu v)) ∧ ∀ y, src v = some y → (cu v = 0 ∧ c.1 279 v = nI (a v)) ∨ (cu v = 1 ∧ c.1 279 v = -1)
def pdf (src : Nat → Option Nat) (ld : Nat → Nat → Option Nat) (cu : Nat → Nat) (v z : Nat) : Prop := match src v with
  | some y => cu v = 1 ∧ z = y
  | none => z ∈ lsr (ld v) (cu v)
def lnw (len : Nat → Nat) (src : Nat → Option Nat) (v : Nat) : Nat := match src v with
  | some _ => 1
  | none => len v
/-- the next one that is needed -/
theorem next_C (hN : 20000 < N) (h : Nt c ns sz a len src ld) {v : Nat} {cu : Nat → Nat} (hv : v < ns) (hc : Cu c a len src cu v) : (∃ y k', cu v < k' ∧ k' ≤ lnw len src v ∧ y < ns ∧ y ∈ dpn len src ld v ∧ (∀ z, pdf src ld (updN cu v k') v z ↔ (pdf src ld cu v z ∨ z = y)) ∧ ∃ x, fn_Order_nextNeeded_Or N (nI v) c = some (nI y, upI c 279 (upd (c.1 279) v x)) ∧ Cu (upI c 279 (upd (c.1 279) v x)) a len src (updN cu v k') v) ∨ ((∀ z, z ∈ dpn len src ld v → pdf src ld cu v z) ∧ fn_Order_nextNeeded_Or N (nI v) c = some (-1, c)) := by
  obtain ⟨h1, h2, h3, h4, h5⟩ := id h
  obtain ⟨g1, g2, g3, g4, g4'⟩ := h5 v hv
  have uv : ∀ k, updN cu v k v = k := fun k => by unfold updN; rw [if_pos rfl]
  have iV := nI_in (show v < 1024 by omega) (by decide)
  have iV2 := nI_in2 (show v < 1024 by omega) (by decide)
  cases e : src v with
  | none =>
    obtain ⟨g5, g6⟩ := g4 e
    obtain ⟨c1, c2⟩ := hc.1 e
    have hd : fn_Order_nextNeeded_Or N (nI v) c = hd_Order_nextNeeded_Or_82 N N (nI v) (nI (a v + len v)) (nI (a v + cu v)) c := by
      unfold fn_Order_nextNeeded_Or
      rw [if_neg iV, nI_clamp (by omega), g5, if_pos rfl, if_neg iV2, if_neg iV2, g2, h3, c2, if_neg (show ¬ nI sz < nI (a v + len v) from fun z => by have := nI_le (a := a v + len v) (b := sz) g3 (by omega); exact absurd z (Int32.not_lt.mpr this)), if_neg (nI_pos (by omega))]
    rcases next_L (N := N) hN h hv e (len v - cu v) (cu v) N (by omega) (by omega) with ⟨k', y, q1, q2, q3, q4, q5⟩ | ⟨q1, q2⟩
    · left
      obtain ⟨op, arg, -, -, e3⟩ := g6 k' q2
      have ln : lnw len src v = len v := by unfold lnw; rw [e]
      have ls : lsr (ld v) (k' + 1) = lsr (ld v) (cu v) ++ [y] := by
        rw [lsr_succ, q3, lsr_none q1 q4]
        rfl
      refine ⟨y, k' + 1, by omega, by omega, (e3 y q3).2, ?_, fun z => ?_, _, by rw [hd, q5], ?_⟩
      · unfold dpn
        rw [e]
        show y ∈ lsr (ld v) (len v)
        unfold lsr
        exact List.mem_filterMap.mpr ⟨k', List.mem_range.mpr q2, q3⟩
      · unfold pdf
        rw [e]
        dsimp only
        rw [uv, ls, List.mem_append, List.mem_singleton]
      · refine ⟨fun _ => ⟨by rw [uv]; omega, ?_⟩, fun y2 z => by rw [e] at z; cases z⟩
        rw [uv]
        show upd (c.1 279) v _ v = _
        rw [upd_at]
        rfl
    · right
      refine ⟨fun z hz => ?_, by rw [hd, q2]⟩
      unfold dpn at hz
      unfold pdf
      rw [e] at hz ⊢
      dsimp only at hz ⊢
      rw [lsr_none c1 q1] at hz
      exact hz
  | some y =>
    obtain ⟨g5, g6, g7⟩ := g4' y e
    have y0 : ¬ nI y = -1 := fun z => by
      have : ¬ (nI y : Int32) < 0 := nI_pos (by omega)
      rw [z] at this
      exact this (by decide)
    have ln : lnw len src v = 1 := by unfold lnw; rw [e]
    rcases hc.2 y e with ⟨c1, c2⟩ | ⟨c1, c2⟩
    · left
      refine ⟨y, 1, by omega, by omega, g6, ?_, fun z => ?_, -1, ?_, ?_⟩
      · unfold dpn
        rw [e]
        exact List.mem_singleton.mpr rfl
      · unfold pdf
        rw [e]
        dsimp only
        rw [uv, c1]
        exact ⟨fun q => Or.inr q.2, fun q => ⟨rfl, q.elim (fun w => absurd w.1 (by decide)) id⟩⟩
      · unfold fn_Order_nextNeeded_Or
        have a0 : ¬ nI (a v) = -1 := fun z => by
          have : ¬ (nI (a v) : Int32) < 0 := nI_pos (by omega)
          rw [z] at this
          exact this (by decide)
        rw [if_neg iV, nI_clamp (by omega), g5, if_neg y0, if_neg iV2, c2, if_neg a0, if_neg iV2, if_neg iV2]
      · refine ⟨fun z => (by rw [e] at z; cases z), fun y2 z => Or.inr ⟨uv 1, ?_⟩⟩
        exact upd_at _ _ _
    · right
      refine ⟨fun z hz => ?_, ?_⟩
      · unfold dpn at hz
        unfold pdf
        rw [e] at hz ⊢
        exact ⟨c1, List.mem_singleton.mp hz⟩
      · unfold fn_Order_nextNeeded_Or
        rw [if_neg iV, nI_clamp (by omega), g5, if_neg y0, if_neg iV2, c2, if_pos rfl]
end ORD
