/-! The reference: chains of aims. -/
def chn (code : Nat → Int32) : Int32 → List Nat → Prop
  | x, [] => x = -1
  | x, j :: E => x = nI (3 * j) ∧ (∀ i, i ∈ E → i < j) ∧ chn code (code (3 * j + 1)) E
theorem chn.mono {code code' : Nat → Int32} : ∀ {E : List Nat} {x : Int32}, chn code x E → (∀ j, j ∈ E → code' (3 * j + 1) = code (3 * j + 1)) → chn code' x E
  | [], x, h, _ => h
  | j :: E, x, h, g => ⟨h.1, h.2.1, by rw [g j List.mem_cons_self]; exact chn.mono h.2.2 (fun i hi => g i (List.mem_cons_of_mem _ hi))⟩
section MCHN
variable {tk pl vl wi : Nat → Nat} {nm : Nat → Option (Nat × Nat)} {nt m N N0 : Nat} {rg : Nat → Bool} {an : Nat} {P : pw} {s0 : ms}
theorem patch_M {f t la nc : Nat} : ∀ (E : List Nat) (n : Nat) (x : Int32) (S : ms), Xm S f t la nc 0 0 → chn (S.1 41) x E → (∀ j, j ∈ E → j < la) → E.length < n → ∃ S', hd_M_patch_2 N n x S = some ((), S') ∧ Eb [41] [] S S' ∧ Xm S' f t la nc 0 0 ∧ (∀ j, j ∈ E → S'.1 41 (3 * j + 1) = nI (3 * la)) ∧ (∀ k, (∀ j, j ∈ E → k ≠ 3 * j + 1) → S'.1 41 k = S.1 41 k) := by
  intro E
  induction E with
  | nil =>
    intro n x S hX hc hj hn
    obtain ⟨n, rfl⟩ : ∃ n', n = n' + 1 := ⟨n - 1, by simp at hn; omega⟩
    have hc : x = -1 := hc
    subst hc
    exact ⟨S, rfl, Eb.rfl, hX, fun j hj => by simp at hj, fun _ _ => rfl⟩
  | cons j E ih =>
    intro n x S hX hc hj hn
    obtain ⟨n, rfl⟩ : ∃ n', n = n' + 1 := ⟨n - 1, by simp at hn; omega⟩
    obtain ⟨rfl, c2, c3⟩ := hc
    have jl := hj j List.mem_cons_self
    have ll := hX.2.2.2.2.2.1
    have ix := hX.idx jl
    show ∃ S', bd_M_patch_2 N (hd_M_patch_2 N n) (nI (3 * j)) S = _ ∧ _
    unfold bd_M_patch_2
    rw [if_neg (nI_pos (by omega)), if_neg ix.1, if_neg ix.1, ix.2, hX.2.2.2.2.1]
    have ne : ∀ i, i ∈ E → 3 * i + 1 ≠ 3 * j + 1 := fun i hi => by have := c2 i hi; omega
    have X1 : Xm (upI S 41 (upd (S.1 41) (3 * j + 1) (nI (3 * la)))) f t la nc 0 0 := hX.any ((upd41).mono (by decide) (by decide))
    obtain ⟨S', a1, a2, a3, a4, a5⟩ := ih n (S.1 41 (3 * j + 1)) (upI S 41 (upd (S.1 41) (3 * j + 1) (nI (3 * la)))) X1 (c3.mono (fun i hi => by show upd (S.1 41) _ _ _ = _; rw [upd_ne (ne i hi)])) (fun i hi => hj i (List.mem_cons_of_mem _ hi)) (by simp at hn; omega)
    refine ⟨S', a1, (upd41).trans a2, a3, fun i hi => ?_, fun k hk => ?_⟩
    · rcases List.mem_cons.mp hi with rfl | hi
      · rw [a5 _ (fun i' hi' => (ne i' hi').symm)]; exact upd_at _ _ _
      · exact a4 i hi
    · rw [a5 k (fun i hi => hk i (List.mem_cons_of_mem _ hi))]
      exact upd_ne (hk j List.mem_cons_self)
/-- behind a fault, with the number of ops told -/
def Zl (m : Nat) (s0 s : ms) (la0 nc0 : Nat) (S : ms) (f p t la nc : Nat) : Prop := SE2 s0 S ∧ Lo m s S la0 nc0 0 0 ∧ 0 < f ∧ S.1 10 0 = nI p ∧ Xm S f t la nc 0 0 ∧ la0 ≤ la ∧ nc0 ≤ nc
theorem Zl.zs {s S : ms} {la0 nc0 f p t la nc b : Nat} (h : Zl m s0 s la0 nc0 S f p t la nc) (hb : t ≤ b ∧ la ≤ b ∧ nc ≤ b) : Zs m s0 s la0 nc0 S f p b := by
  obtain ⟨a1, a2, a3, a4, a5, a6, a7⟩ := h
  exact ⟨a1, a2, a3, a4, t, la, nc, a5, hb.1, hb.2.1, hb.2.2, a6, a7⟩
theorem Zs.zl {s S : ms} {la0 nc0 f p b : Nat} (h : Zs m s0 s la0 nc0 S f p b) : ∃ t la nc, Zl m s0 s la0 nc0 S f p t la nc ∧ t ≤ b ∧ la ≤ b ∧ nc ≤ b := by
  obtain ⟨a1, a2, a3, a4, t, la, nc, a5, a6, a7, a8, a9, a10⟩ := h
  exact ⟨t, la, nc, ⟨a1, a2, a3, a4, a5, a9, a10⟩, a6, a7, a8⟩
theorem Zl.lay {s S : ms} {la0 nc0 f p t la nc : Nat} {x y z : Int32} (h : Zl m s0 s la0 nc0 S f p t la nc) (hb : la + 1 < 33000) : ∃ S', fn_M_lay N x y z S = some ((), S') ∧ Zl m s0 s la0 nc0 S' f p t (la + 1) nc ∧ Op1 S S' la x y z ∧ Eb [41, 42, 91] [] S S' := by
  obtain ⟨a1, a2, a3, a4, a5, a6, a7⟩ := h
  obtain ⟨S', z1, z2, z3, z4⟩ := lay_M (N := N) (a := x) (b := y) (c := z) a5 hb
  exact ⟨S', z1, ⟨a1.trans (z4.mono (by decide) (by decide)), a2.trans (Lo.op0 (nc := nc0) z3 z4) a6 (Nat.le_refl _) (Nat.le_refl _) (Nat.le_refl _), a3, by rw [z4.1 10 (by decide)]; exact a4, z2, by omega, a7⟩, z3, z4⟩
theorem Zl.laid {s S : ms} {la0 nc0 f p t la nc : Nat} (h : Zl m s0 s la0 nc0 S f p t la nc) : S.1 42 0 = nI (3 * la) := h.2.2.2.2.1.2.2.2.2.1
theorem Zl.eight {s S : ms} {la0 nc0 f p t la nc : Nat} (h : Zl m s0 s la0 nc0 S f p t la nc) : S.1 8 0 = nI t := h.2.2.2.2.1.2.2.1
theorem Zl.nine {s S : ms} {la0 nc0 f p t la nc : Nat} (h : Zl m s0 s la0 nc0 S f p t la nc) : ¬ S.1 9 0 = 0 := by
  rw [h.2.2.2.2.1.1]; exact nI_ne0 h.2.2.1 (by have := h.2.2.2.2.1.2.1; omega)
theorem Zl.is {s S : ms} {la0 nc0 f p t la nc k : Nat} (h : Zl m s0 s la0 nc0 S f p t la nc) : fn_M_is N (nI k) S = some (0, S) := isZ h.2.2.2.2.1 h.2.2.1
theorem Zl.tset {s S : ms} {la0 nc0 f p t t' la nc : Nat} {x : Int32} (h : Zl m s0 s la0 nc0 S f p t la nc) (hx : x = nI t') (ht : t' < 33000) : Zl m s0 s la0 nc0 (upI S 8 (fun _ => x)) f p t' la nc := by
  obtain ⟨a1, a2, a3, a4, a5, a6, a7⟩ := h
  exact ⟨a1.upI (by decide), a2.trans (la' := la0) (nc' := nc0) (W' := 0) (F' := 0) (Lo.self (ks := [8]) (Eb.rfl.upI (by decide)) (by decide)) (Nat.le_refl _) (Nat.le_refl _) (Nat.le_refl _) (Nat.le_refl _), a3, a4, a5.tset hx ht, a6, a7⟩
theorem Zl.aim {s S : ms} {la0 nc0 f p t la nc j : Nat} {x : Int32} (h : Zl m s0 s la0 nc0 S f p t la nc) (hj : la0 ≤ j) : Zl m s0 s la0 nc0 (upI S 41 (upd (S.1 41) (3 * j + 1) x)) f p t la nc := by
  obtain ⟨a1, a2, a3, a4, a5, a6, a7⟩ := h
  exact ⟨a1.upI (by decide), a2.trans (la' := la0) (nc' := nc0) (W' := 0) (F' := 0) ⟨fun k hk => by show upd (S.1 41) (3 * j + 1) x k = _; rw [upd_ne (by omega)], fun _ _ => rfl, fun _ _ => ⟨rfl, rfl⟩, fun _ _ => rfl, fun _ _ => rfl⟩ (Nat.le_refl _) (Nat.le_refl _) (Nat.le_refl _) (Nat.le_refl _), a3, a4, a5.any ((upd41).mono (by decide) (by decide)), a6, a7⟩
theorem Zl.patch {s S : ms} {la0 nc0 f p t la nc : Nat} {x : Int32} {E : List Nat} (h : Zl m s0 s la0 nc0 S f p t la nc) (hc : chn (S.1 41) x E) (hE : ∀ j, j ∈ E → la0 ≤ j ∧ j < la) (hn : E.length < N) : ∃ S', fn_M_patch N x S = some ((), S') ∧ Zl m s0 s la0 nc0 S' f p t la nc ∧ Eb [41] [] S S' ∧ (∀ k, (∀ j, j ∈ E → k ≠ 3 * j + 1) → S'.1 41 k = S.1 41 k) := by
  obtain ⟨a1, a2, a3, a4, a5, a6, a7⟩ := h
  obtain ⟨S', b1, b2, b3, b4, b5⟩ := patch_M (N := N) E N x S a5 hc (fun j hj => (hE j hj).2) hn
  exact ⟨S', b1, ⟨a1.trans (b2.mono (by decide) (by decide)), a2.trans (la' := la0) (nc' := nc0) (W' := 0) (F' := 0) ⟨fun k hk => b5 k (fun j hj => by have := (hE j hj).1; omega), fun k _ => by rw [b2.2 43 (by decide)], fun k hk => (by omega), fun k hk => (by omega), fun k _ => by rw [b2.2 45 (by decide)]⟩ (Nat.le_refl _) (Nat.le_refl _) (Nat.le_refl _) (Nat.le_refl _), a3, by rw [b2.1 10 (by decide)]; exact a4, b3, a6, a7⟩, b2, b5⟩
theorem Ps.patch {s S : ms} {la0 nc0 C0 t la nc CC : Nat} {x : Int32} {E : List Nat} (h : Ps m s0 s la0 nc0 C0 S t la nc CC) (hc : chn (S.1 41) x E) (hE : ∀ j, j ∈ E → la0 ≤ j ∧ j < la) (hn : E.length < N) : ∃ S', fn_M_patch N x S = some ((), S') ∧ Ps m s0 s la0 nc0 C0 S' t la nc CC ∧ Eb [41] [] S S' ∧ (∀ j, j ∈ E → S'.1 41 (3 * j + 1) = nI (3 * la)) ∧ (∀ k, (∀ j, j ∈ E → k ≠ 3 * j + 1) → S'.1 41 k = S.1 41 k) := by
  obtain ⟨a1, a2, a3, a4, a5, a6⟩ := h
  obtain ⟨S', b1, b2, b3, b4, b5⟩ := patch_M (N := N) E N x S a5 hc (fun j hj => (hE j hj).2) hn
  exact ⟨S', b1, ⟨a1.trans (b2.mono (by decide) (by decide)), a2.trans (la' := la0) (nc' := nc0) (W' := 0) (F' := 0) ⟨fun k hk => b5 k (fun j hj => by have := (hE j hj).1; omega), fun k _ => by rw [b2.2 43 (by decide)], fun k hk => (by omega), fun k hk => (by omega), fun k _ => by rw [b2.2 45 (by decide)]⟩ (Nat.le_refl _) (Nat.le_refl _) (Nat.le_refl _) (Nat.le_refl _), a3, a4, b3, by rw [b2.2 45 (by decide)]; exact a6⟩, b2, b4, b5⟩
/-- behind a fault: the end of a case -/
theorem c27Z {r rc : ms → Option (Unit × ms)} {s S : ms} {la0 nc0 f p t la nc n : Nat} {w x2 : Int32} {E : List Nat} (h : Zl m s0 s la0 nc0 S f p t la nc) (hla : la + 2 < 33000) (ht : t + 2 < 33000) (hc : chn (S.1 41) x2 E) (hE : ∀ j, j ∈ E → la0 ≤ j ∧ j < la) (hn : E.length < N) : ∃ S', hd_M_caseOf_27 N r rc (n + 1) w x2 S = some ((), S') ∧ Zl m s0 s la0 nc0 S' f p (t + 1) (la + 1) nc := by
  show ∃ S', bd_M_caseOf_27 N r rc (hd_M_caseOf_27 N r rc n) w x2 S = _ ∧ _
  unfold bd_M_caseOf_27
  rw [lit_nI 402, h.is, obind]
  dsimp only
  rw [if_pos rfl]
  obtain ⟨S1, a1, a2, a3, a4⟩ := h.lay (N := N) (x := 13) (y := 0) (z := 0) (by omega)
  rw [a1, obind]
  dsimp only
  unfold bk_M_caseOf_222
  rw [lit_nI 316, a2.is, obind]
  dsimp only
  rw [if_pos rfl]
  unfold bk_M_caseOf_246
  obtain ⟨S2, b1, b2, b3, b4⟩ := a2.patch (N := N) (x := x2) (E := E) (hc.mono (fun j hj => by have := (hE j hj).2; rw [a3.1 _ (by omega)])) (fun j hj => by have := hE j hj; omega) hn
  rw [b1, obind]
  exact ⟨_, rfl, b2.tset (by show S2.1 8 0 + 1 = _; rw [b2.eight, nI_1]) (by omega)⟩
/-- behind a fault: an arm's begin, from its labels on -/
theorem c152Z {r rc : ms → Option (Unit × ms)} {s S : ms} {la0 nc0 f p t la nc n : Nat} {w x2 x3 : Int32} {E M : List Nat} (rz : ∀ s : ms, ¬ s.1 9 0 = 0 → r s = some ((), s)) (h : Zl m s0 s la0 nc0 S f p t la nc) (hla : la + 10 < 33000) (ht : t + 2 < 33000) (hc : chn (S.1 41) x2 E) (hE : ∀ j, j ∈ E → la0 ≤ j ∧ j < la) (hn : E.length + 1 < N) (hM : chn (S.1 41) x3 M) (hME : ∀ j, j ∈ M → la0 ≤ j ∧ j < la) (hMn : M.length < N) (hd : ∀ j, j ∈ M → j ∉ E) : ∃ S', bk_M_caseOf_152 N r rc (hd_M_caseOf_27 N r rc (n + 1)) w x2 x3 S = some ((), S') ∧ Zl m s0 s la0 nc0 S' f p (t + 1) (la + 4) nc := by
  unfold bk_M_caseOf_152
  obtain ⟨S1, a1, a2, a3, a4⟩ := h.lay (N := N) (x := 11) (y := 0) (z := 0) (by omega)
  rw [a1, obind, h.laid]
  dsimp only
  unfold bk_M_caseOf_166
  obtain ⟨S2, b1, b2, b3, b4⟩ := a2.patch (N := N) (x := x3) (E := M) (hM.mono (fun j hj => by have := (hME j hj).2; rw [a3.1 _ (by omega)])) (fun j hj => by have := hME j hj; omega) hMn
  rw [b1, obind]
  dsimp only
  obtain ⟨S3, c1, c2, c3, c4⟩ := b2.lay (N := N) (x := 13) (y := 0) (z := 0) (by omega)
  rw [c1, obind]
  dsimp only
  unfold bk_M_caseOf_179
  rw [rz S3 c2.nine, obind]
  dsimp only
  unfold bk_M_caseOf_183
  obtain ⟨S4, d1, d2, d3, d4⟩ := c2.lay (N := N) (x := 11) (y := x2) (z := 0) (by omega)
  rw [d1, obind]
  dsimp only
  unfold bk_M_caseOf_191
  have ix := d2.2.2.2.2.1.idx (j := la) (by omega)
  rw [if_neg ix.1, ix.2, d2.laid, show (3 : Int32) = nI 3 from rfl, nI_sub (by omega), show 3 * (la + 1 + 1 + 1) - 3 = 3 * (la + 2) by omega]
  have d2' := d2.aim (j := la) (x := nI (3 * (la + 1 + 1 + 1))) h.2.2.2.2.2.1
  have hcc : chn ((upI S4 41 (upd (S4.1 41) (3 * la + 1) (nI (3 * (la + 1 + 1 + 1))))).1 41) (nI (3 * (la + 2))) ((la + 2) :: E) := by
    refine ⟨rfl, fun i hi => by have := (hE i hi).2; omega, ?_⟩
    have e : (upI S4 41 (upd (S4.1 41) (3 * la + 1) (nI (3 * (la + 1 + 1 + 1))))).1 41 (3 * (la + 2) + 1) = x2 := by
      show upd (S4.1 41) _ _ _ = _
      rw [upd_ne (by omega)]
      exact d3.2.2.1
    rw [e]
    refine hc.mono (fun j hj => ?_)
    have jl := (hE j hj).2
    show upd (S4.1 41) _ _ _ = _
    rw [upd_ne (by omega), d3.1 _ (by omega), c3.1 _ (by omega), b4 _ (fun i hi z => hd i hi (by rw [show i = j by omega]; exact hj)), a3.1 _ (by omega)]
  have hEE : ∀ j, j ∈ (la + 2) :: E → la0 ≤ j ∧ j < la + 1 + 1 + 1 := fun j hj => by
    rcases List.mem_cons.mp hj with rfl | hj
    · have := h.2.2.2.2.2.1; omega
    · have := hE j hj; omega
  exact c27Z (N := N) (r := r) (rc := rc) (n := n) (w := w) (x2 := nI (3 * (la + 2))) (E := (la + 2) :: E) d2' (by omega) (by omega) hcc hEE (by simpa using hn)
end MCHN
