/-! The class: arms of a case. -/
section CCAS
variable {tk pl vl wi : Nat → Nat} {nm : Nat → Option (Nat × Nat)} {nt : Nat} {ex : Nat → Int32} {N N0 N1 fd lc : Nat} {lit : Nat → Int64} {rg : Nat → Bool} {fz : Nat → Int32} {an dc : Nat} {P : Nat → Prop} {c0 : ms}
/-- the meaning between arms -/
def CasS (rg : Nat → Bool) (fz : Nat → Int32) (dc : Nat) (c : ms) (μ : Option (Nat × Nat)) (sz C w md t : Nat) (S : Nat → Nat) (E : List Nat) : Prop :=
  (∀ fp, μ = some fp → Off c fp.1 fp.2) ∧ (μ = none → (∃ T, Xc c T sz C) ∧ sz + 3 ≤ t ∧ R3 rg fz dc c S ∧ c.1 260 0 = nI (md + 1) ∧ c.1 259 md = nI w ∧ c.1 258 md = -1 ∧ jch (c.2 336) 517 (c.1 257 md) E ∧ (∀ j, j ∈ E → j < sz) ∧ E.length ≤ sz)
/-- and behind them -/
def OutC (rg : Nat → Bool) (fz : Nat → Int32) (dc fd : Nat) (lit : Nat → Int64) (lc : Nat) (P : Nat → Prop) (c c' : ms) (μ : Option (Nat × Nat)) (sz C md B t t2 : Nat) (E : List Nat) (r : cr) : Prop :=
  (∀ fp, μ = some fp → Off c' fp.1 fp.2) ∧ (μ = none → ∃ q, r = some q ∧ (∀ f p, q = .inl (f, p) → Off c' f p) ∧ (∀ t' S' bb F CC, q = .inr (t', S', bb, F, CC) → t' = t2 ∧ ∃ ze, (∃ T, Xc c' T (ze + 1) (C + CC)) ∧ sz ≤ ze ∧ ze + 1 + t ≤ sz + t2 ∧ R3 rg fz dc c' S' ∧ c'.1 260 0 = nI md ∧ (bb = true → c'.1 255 0 = 1) ∧ (bb = false → c'.1 255 0 = c.1 255 0) ∧ c'.2 336 ze = crw 516 0 ∧ (∀ j, j ∈ E → c'.2 336 j = crw 517 (nI ze)) ∧ (∀ k, k < sz → k ∉ E → c'.2 336 k = c.2 336 k) ∧ (∀ k, k < md → c'.1 256 k = c.1 256 k ∧ c'.1 257 k = c.1 257 k ∧ c'.1 258 k = c.1 258 k ∧ c'.1 259 k = c.1 259 k) ∧ (∀ v n st x, st.length ≤ B → Rt (cS (c'.2 336) fd lit lc P v) (sz, x :: st, n) (ze + 1, st, F x v n))))
theorem OutC.off {c c' : ms} {μ : Option (Nat × Nat)} {sz C md B t t2 : Nat} {E : List Nat} {r : cr} {fp : Nat × Nat} (o : Off c' fp.1 fp.2) (h1 : ∀ q, μ = some q → q = fp) (h2 : μ = none → r = some (.inl fp)) : OutC rg fz dc fd lit lc P c c' μ sz C md B t t2 E r := by
  refine ⟨fun q z => (by rw [h1 q z]; exact o), fun z => ⟨.inl fp, h2 z, fun f p y => ?_, fun _ _ _ _ _ y => (by cases y)⟩⟩
  have : fp = (f, p) := by injection y
  rw [this] at o
  exact o
def CasPost (tk pl : Nat → Nat) (nt : Nat) (ex : Nat → Int32) (N : Nat) (rg : Nat → Bool) (fz : Nat → Int32) (dc fd : Nat) (lit : Nat → Int64) (lc : Nat) (P : Nat → Prop) (c : ms) (σ σ' : gs) (kd : Nat) (μ : Option (Nat × Nat)) (sz C md : Nat) (E : List Nat) (r : cr) : Prop :=
  ∃ k c', Rc N k c c' ∧ k + 2 ≤ 3 * (σ'.1 - σ.1) ∧ c'.1 264 0 = 5 ∧ CE2 c c' ∧ CG tk pl nt ex c' σ' ∧ σ'.2.2.1 = 0 ∧ σ'.2.1 + 1 = σ.2.1 ∧ σ.1 < σ'.1 ∧ c'.1 271 0 = nI kd ∧ (∀ j, j < kd → c'.1 270 j = c.1 270 j) ∧ OutC rg fz dc fd lit lc P c c' μ sz C md σ'.2.1 σ.1 σ'.1 E r
theorem gCl_dead {gS : gs → Option gs} {n : Nat} {σ : gs} (h : σ.2.2.1 ≠ 0) (hn : 0 < n) : gCl tk pl N1 gS n σ = some σ := by
  obtain ⟨n, rfl⟩ : ∃ n', n = n' + 1 := ⟨n - 1, by omega⟩
  unfold gCl
  rw [gIs_dead h, gIs_dead h, if_neg (by decide), if_neg (by decide), gShut_dead h]
/-- an arm's begin, in one move -/
theorem armB {c : ms} {σ : gs} {μ : Option (Nat × Nat)} {sz C w md kd n1 : Nat} {S : Nat → Nat} {E : List Nat} (hQ : CQ tk pl vl wi nm nt ex N N0 N1 fd lit lc rg an dc P c0) (hw : w ≤ 64) (h0 : σ.2.2.1 = 0) (e : CE2 c0 c) (hG : CG tk pl nt ex c σ) (h5 : c.1 264 0 = 5) (hkd : c.1 271 0 = nI (kd + 1)) (hx : c.1 270 kd = 142) (hk2 : kd < 60) (hmd : μ = none → md ≤ kd) (hs : CasS rg fz dc c μ sz C w md σ.1 S E) (hk : tk σ.1 = 402) :
    ∃ c' σ', mv N c = some ((), c') ∧ (∀ gS, gCl tk pl N1 gS (n1 + 1) σ = (gS σ').bind (gCl tk pl N1 gS n1)) ∧ CG tk pl nt ex c' σ' ∧ c'.1 264 0 = 4 ∧ c'.1 271 0 = nI (kd + 1) ∧ c'.1 270 = upd (c.1 270) kd 201 ∧ CE2 c c' ∧ σ.1 + 1 ≤ σ'.1 ∧ (σ'.2.2.1 = 0 → σ'.2.1 = σ.2.1 ∧ σ.1 + 1 < σ'.1 ∧ ((∃ fp : Nat × Nat, Off c' fp.1 fp.2 ∧ (∀ q, μ = some q → q = fp) ∧ (μ = none → sLl tk pl vl wi nt w N0 σ.1 [] = some (.inl fp))) ∨ (μ = none ∧ ∃ ls, sLl tk pl vl wi nt w N0 σ.1 [] = some (.inr (σ'.1, ls)) ∧ σ.1 + 2 * ls.length = σ'.1 ∧ ArmS fd lit lc c c' none sz (C + w * ls.length) md ls ∧ R3 rg fz dc c' S ∧ c'.1 260 0 = nI (md + 1) ∧ c'.1 255 0 = c.1 255 0 ∧ c'.1 257 = c.1 257 ∧ c'.1 259 = c.1 259))) := by
  have hQ' := hQ
  obtain ⟨T, hN, hN1, hN0, -⟩ := hQ
  have l1 := T.2.1
  have tn := hG.2.1
  have t1n := T.more tn hk (by decide) (by decide)
  have hm := (ctx6 (N := N) h5 hkd hk2 hx).1 rfl
  unfold fn_Grammar_arm_Gr at hm
  rw [if_pos (show c.1 214 0 = 4 from kpos (k := 402) hG h0 hk)] at hm
  obtain ⟨c1, μ1, a1, a2, a3, a4, a5, a6⟩ := lab1_C (B := sz) (C := C) (md := md) (ls := []) (μ := μ) hQ' e h0 hG hk hw ⟨hs.1, fun z => by
    obtain ⟨x1, x2, x3, x4, x5, x6, x7, x8, x9⟩ := hs.2 z
    have := hmd z
    exact ⟨x1, by show sz + 0 ≤ _; omega, x4, by omega, x5, x6, fun i u hi => by simp at hi⟩⟩
  rw [a1, obind] at hm
  dsimp only at hm
  have hG1 : CG tk pl nt ex c1 σ := hG.mono a2 (fun k _ _ => by simp; omega) (by decide)
  obtain ⟨c2, b1, b2, b3⟩ := ktake (N := N) T hG1 (fun _ => t1n)
  rw [if_pos h0] at b2
  rw [b1, obind] at hm
  dsimp only at hm
  have al2 : c2.1 217 0 = nI 0 := b2.alive h0
  have e12 : Eb [213, 214, 215, 216, 217, 218, 219, 238, 239, 241, 242, 243, 256, 258, 264, 270, 337] [336] c c2 := (a2.mono (by decide) (by decide)).trans (b3.mono (by decide) (by decide))
  obtain ⟨n0, hn0⟩ : ∃ n', N0 = n' + 1 := ⟨N0 - 1, by omega⟩
  obtain ⟨c3, σ3, d1, d2, d3, d4, d5, d6, d7, d8, d9⟩ := labL (w := w) (md := md) (kd := kd) (B := sz) hQ' hw hk2 nt N1 N n0 0 c2 (gInc σ) μ1 (C + w) ([] ++ [vl σ.1]) (by omega) (by omega) (by omega) (by omega) (by omega) (e.trans (e12.mono (by decide) (by decide))) b2 (by rw [e12.1 271 (by decide)]; exact hkd) h0 (a3.mono (t' := σ.1 + 1 + 1) b3 (by decide) al2 (by omega))
  rw [show hd_Grammar_arm_Gr_41 N N 0 c2 = some ((), c3) from d1, obind] at hm
  have d8' : σ.1 + 1 ≤ σ3.1 := d8
  have c2n : ∀ j, j ∈ [256, 270] → c2.1 j = c.1 j := fun j hj => by
    simp only [List.mem_cons, List.not_mem_nil, or_false] at hj
    rcases hj with rfl | rfl <;> rw [b3.1 _ (by decide), a2.1 _ (by decide)]
  refine ⟨c3, σ3, hm, fun gS => ?_, d3, d4, d5, by rw [d6, c2n 270 (by decide)], (e12.trans d7).mono (by decide) (by decide), d8', fun z => ?_⟩
  · conv => lhs; unfold gCl
    rw [gIs_t h0 hk, if_pos rfl]
    exact d2 gS _
  · obtain ⟨v1, v2, v3, v4⟩ := d9 z
    refine ⟨v1, v2, ?_⟩
    have sl : sLl tk pl vl wi nt w N0 σ.1 [] = if wi σ.1 = w then sLk tk pl vl wi nt w n0 (σ.1 + 1) ([] ++ [vl σ.1]) else some (.inl (30, pl σ.1)) := by rw [hn0, sLl_succ t1n hk]
    cases hμ : μ with
    | some fp => exact Or.inl ⟨fp, v3 fp (a4 fp hμ), fun q y => (by cases y; rfl), fun y => (by cases y)⟩
    | none =>
      obtain ⟨p1, p2⟩ := a5 hμ
      by_cases q : wi σ.1 = w
      · rw [if_pos q] at sl
        have μ0 := p2 q
        obtain ⟨r, w1, w2, w3⟩ := v4 μ0
        have w1' : sLk tk pl vl wi nt w n0 (σ.1 + 1) ([] ++ [vl σ.1]) = some r := w1
        rw [sl, w1']
        cases r with
        | inl fp => exact Or.inl ⟨fp, w2 fp.1 fp.2 rfl, fun q y => (by cases y), fun _ => rfl⟩
        | inr q =>
          obtain ⟨t1, ls⟩ := q
          obtain ⟨x1, x2, x3, x4, x5⟩ := w3 t1 ls rfl
          have x3' : σ.1 + 1 + 2 * (ls.length - 1) + 1 = t1 := x3
          have x2' : 1 ≤ ls.length := x2
          obtain ⟨y1, y2, y3, y4, y5, y6, y7, y8⟩ := x5 rfl
          obtain ⟨d6a, d6b⟩ := a6 μ0
          obtain ⟨s1, s2, s3, s4, -⟩ := hs.2 hμ
          have ek : Eb [213, 214, 215, 216, 217, 218, 219, 238, 239, 241, 242, 243, 256, 258, 264, 270, 337] [336] c c3 := e12.trans d7
          refine Or.inr ⟨rfl, ls, by rw [x1], by omega, ⟨fun _ y => (by cases y), fun _ => ⟨?_, y2, y3, y4, by rw [y5, c2n 256 (by decide)], y6, fun k hk => by rw [y7 k hk, b3.1 258 (by decide), d6b k hk], fun k hk => by rw [y8 k hk, b3.2 336 (by decide), d6a k hk]⟩⟩, s3.of (by rw [ek.1 326 (by decide)]), by rw [ek.1 260 (by decide)]; exact s4, by rw [ek.1 255 (by decide)], ek.1 257 (by decide), ek.1 259 (by decide)⟩
          have y1' : ∃ T, Xc c3 T (sz + 2 * ls.length + 1) (C + w + w * (ls.length - 1)) := y1
          rw [show C + w * ls.length = C + w + w * (ls.length - 1) by
            obtain ⟨l, hl⟩ : ∃ l, ls.length = l + 1 := ⟨ls.length - 1, by omega⟩
            rw [hl, Nat.mul_add, Nat.add_sub_cancel]; omega]
          exact y1'
      · rw [if_neg q] at sl
        have o := v3 _ (p1 q)
        exact Or.inl ⟨(30, pl σ.1), o, fun q y => (by cases y), fun _ => sl⟩
end CCAS
