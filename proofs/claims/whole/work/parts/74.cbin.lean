/-! The class's operators between operands. -/
section CBIN
variable {tk pl vl wi : Nat → Nat} {nm : Nat → Option (Nat × Nat)} {nt : Nat} {ex : Nat → Int32} {N N0 N1 fd lc : Nat} {lit : Nat → Int64}
theorem eRed_ex {r : Nat} : ∀ (ops : List (Nat × Nat)) (ws : List Nat) (L : List aop) (C : Nat), ws.length = ops.length + 1 → ∃ q, eRed r ops ws L C = some q := by
  intro ops
  induction ops with
  | nil => intro ws L C h; exact ⟨_, rfl⟩
  | cons o ops ih =>
    intro ws L C h
    obtain ⟨k, p⟩ := o
    unfold eRed
    by_cases z : r ≤ rk k
    · rw [if_pos z]
      match ws, h with
      | [], h => simp at h
      | [w], h => simp at h
      | b :: a :: ws, h =>
        dsimp only
        by_cases g : bAny k = true ∨ a = b
        · rw [if_pos g]; exact ih _ _ _ (by simp at h ⊢; omega)
        · rw [if_neg g]; exact ⟨_, rfl⟩
    · rw [if_neg z]; exact ⟨_, rfl⟩
theorem eBl_fault {eO : Nat → xr} {n r t : Nat} {ops : List (Nat × Nat)} {ws : List Nat} {L : List aop} {C : Nat} {f : Nat × Nat} (ht : t < nt) (hr : (0 < rk (tk t) ∧ r = rk (tk t)) ∨ (rk (tk t) = 0 ∧ r = 1)) (e : eRed r ops ws L C = some (.inl f)) : eBl tk pl nt eO (n + 1) ops ws L C t = some (.inl f) := by
  unfold eBl
  rw [if_neg (by omega)]
  rcases hr with ⟨a, b⟩ | ⟨a, b⟩
  · rw [if_pos a]; rw [b] at e; rw [e]
  · rw [if_neg (by omega)]; rw [b] at e; rw [e]
theorem eBl_op {eO : Nat → xr} {n t : Nat} {ops ops' : List (Nat × Nat)} {ws ws' : List Nat} {L L' : List aop} {C C' : Nat} (ht : t < nt) (hr : 0 < rk (tk t)) (e : eRed (rk (tk t)) ops ws L C = some (.inr (ops', ws', L', C'))) : eBl tk pl nt eO (n + 1) ops ws L C t = xb (eO (t + 1)) (fun w t2 L2 C2 => eBl tk pl nt eO n ((tk t, pl t) :: ops') (w :: ws') (L' ++ L2) (C' + C2) t2) := by
  conv => lhs; unfold eBl
  rw [if_neg (by omega), if_pos hr, e]
theorem eBl_end {eO : Nat → xr} {n t w : Nat} {ops ops' : List (Nat × Nat)} {ws : List Nat} {L L' : List aop} {C C' : Nat} (ht : t < nt) (hr : rk (tk t) = 0) (e : eRed 1 ops ws L C = some (.inr (ops', [w], L', C'))) : eBl tk pl nt eO (n + 1) ops ws L C t = xok w t L' C' := by
  unfold eBl
  rw [if_neg (by omega), if_neg (by omega), e]
/-- what the checker has of an exp whose operators wait -/
def BinS (tk pl : Nat → Nat) (nt fd : Nat) (lit : Nat → Int64) (lc : Nat) (c0 c2 : ms) (μ : Option (Nat × Nat)) (T sz C0 t0 t : Nat) (eO : Nat → xr) (n0 : Nat) (ops : List (Nat × Nat)) (r : xr) : Prop :=
  (∃ fp : Nat × Nat, Off c2 fp.1 fp.2 ∧ (∀ q, μ = some q → q = fp) ∧ (μ = none → r = some (.inl fp))) ∨
  (μ = none ∧ ∃ ws L C, MO fd lit lc c0 T sz C0 c2 ws L C ∧ ws.length = ops.length + 1 ∧ t0 + L.length + ops.length ≤ t ∧ sz ≤ t0 ∧ r = eBl tk pl nt eO n0 ops ws L C t)
theorem BinS.of {c0 c3 c2 : ms} {μ μ3 : Option (Nat × Nat)} {T sz C0 t0 t3 t2 T3 sz3 C3 n0 : Nat} {eO : Nat → xr} {ops : List (Nat × Nat)} {r rr : xr} {ws : List Nat} {L : List aop} {C : Nat}
    (hs : (∃ fp, μ3 = some fp ∧ (∀ q, μ = some q → q = fp) ∧ (μ = none → r = some (.inl fp))) ∨ (μ3 = none ∧ μ = none ∧ MO fd lit lc c0 T sz C0 c3 ws L C ∧ T3 = T + ws.length ∧ sz3 = sz + L.length ∧ C3 = C0 + C ∧ ws.length = ops.length ∧ t0 + L.length + ops.length ≤ t3 ∧ sz ≤ t0 ∧ r = xb rr (fun w t2 L2 C2 => eBl tk pl nt eO n0 ops (w :: ws) (L ++ L2) (C + C2) t2)))
    (o : Outc fd lit lc c3 c2 μ3 T3 sz3 C3 t3 t2 rr) : BinS tk pl nt fd lit lc c0 c2 μ T sz C0 t0 t2 eO n0 ops r := by
  rcases hs with ⟨fp, a1, a2, a3⟩ | ⟨a1, a2, a3, rfl, rfl, rfl, a7, a8, a9, a10⟩
  · exact Or.inl ⟨fp, o.1 fp a1, a2, a3⟩
  · obtain ⟨q, w1, w2, w3⟩ := o.2 a1
    rw [w1] at a10
    match q, w2, w3, a10 with
    | .inl (f, p), w2, _, a10 => exact Or.inl ⟨(f, p), w2 f p rfl, fun q z => (by rw [a2] at z; cases z), fun _ => a10⟩
    | .inr (w, t', L2, C2), _, w3, a10 =>
      obtain ⟨x1, x2, x3, x4, x5⟩ := w3 _ _ _ _ rfl
      subst x1
      exact Or.inr ⟨a2, w :: ws, L ++ L2, C + C2, a3.sub x5, by rw [List.length_cons, a7], by rw [List.length_append]; omega, a9, a10⟩
/-- operators are told -/
theorem BinS.app {c0 c2 : ms} {μ : Option (Nat × Nat)} {T sz C0 t0 t n f h r0 : Nat} {eO : Nat → xr} {ops : List (Nat × Nat)} {r : xr} (hs : BinS tk pl nt fd lit lc c0 c2 μ T sz C0 t0 t eO (n + 1) ops r) (ht : t < nt) (hl : nt ≤ 12001) (hr : (0 < rk (tk t) ∧ r0 = rk (tk t)) ∨ (rk (tk t) = 0 ∧ r0 = 1)) (h1 : c2.1 275 0 = nI (h + ops.length)) (h2 : hoR (c2.1 272) (c2.1 273) h ops) (h3 : Hb c2 h) (h4 : opS ops 11) (h5 : h + ops.length < 1000) (h6 : ops.length < f) : ∃ c', hd_Grammar_apply_Gr_0 N f (nI r0) c2 = some ((), c') ∧ c'.1 275 0 = nI (h + (gRed r0 ops).length) ∧ Eb [275, 238, 239, 241, 242, 243, 337] [336] c2 c' ∧
    ((∃ fp : Nat × Nat, Off c' fp.1 fp.2 ∧ (∀ q, μ = some q → q = fp) ∧ (μ = none → r = some (.inl fp))) ∨
    (μ = none ∧ ∃ ws0 L0 C1 ws L C, MO fd lit lc c0 T sz C0 c' ws L C ∧ ws.length = (gRed r0 ops).length + 1 ∧ t0 + L.length + (gRed r0 ops).length ≤ t ∧ sz ≤ t0 ∧ eRed r0 ops ws0 L0 C1 = some (.inr (gRed r0 ops, ws, L, C)) ∧ r = eBl tk pl nt eO (n + 1) ops ws0 L0 C1 t)) := by
  have rl := rk_lt (tk t)
  rcases hs with ⟨fp, a1, a2, a3⟩ | ⟨a1, ws, L, C, a2, a3, a4, a5, a6⟩
  · obtain ⟨c', b1, b2, b3⟩ := app_off (N := N) (h := h) (r := r0) (by omega) (by omega) ops f 11 c2 a1.off h1 h2 h3 h4 h5 h6
    exact ⟨c', b1, b2, b3.mono (by decide) (by decide), Or.inl ⟨fp, a1.mono b3 (by decide) (by decide), a2, a3⟩⟩
  · obtain ⟨q, e⟩ := eRed_ex (r := r0) ops ws L C a3
    obtain ⟨c', b1, b2, b3, b4, b5⟩ := app_on (N := N) (h := h) (r := r0) (by omega) (by omega) ops ws L C f 11 c2 q a2 a3 h1 h2 h3 h4 h5 h6 (by omega) e
    refine ⟨c', b1, b2, b3, ?_⟩
    cases q with
    | inl fp =>
      left
      refine ⟨fp, b4 fp.1 fp.2 rfl, fun q z => (by rw [a1] at z; cases z), fun _ => ?_⟩
      rw [a6]
      exact eBl_fault ht hr e
    | inr q =>
      obtain ⟨o', ws', L', C'⟩ := q
      obtain ⟨d1, d2, d3, d4⟩ := b5 _ _ _ _ rfl
      subst d1
      exact Or.inr ⟨a1, ws, L, C, ws', L', C', d2, d3, by omega, a5, e, a6⟩
theorem gRed_hoR {a b : Nat → Int32} {h r : Nat} : ∀ {ops : List (Nat × Nat)}, hoR a b h ops → hoR a b h (gRed r ops)
  | [], _ => trivial
  | o :: ops, q => by
    unfold gRed
    split
    · exact gRed_hoR q.2.2.2
    · exact q
theorem Hb.of {c c' : ms} {h : Nat} (g : Hb c h) (e : ∀ k, k < h → c'.1 272 k = c.1 272 k) : Hb c' h := by
  rcases g with z | z
  · exact Or.inl z
  · by_cases q : h = 0
    · exact Or.inl q
    · exact Or.inr (by rw [e _ (by omega)]; exact z)
/-- all operators are told -/
def BinPost (tk pl : Nat → Nat) (nt : Nat) (ex : Nat → Int32) (N fd : Nat) (lit : Nat → Int64) (lc : Nat) (c : ms) (σ σ' : gs) (h : Nat) (μ : Option (Nat × Nat)) (T sz C0 : Nat) (r : xr) : Prop :=
  ∃ k c1 c2, Rc N k c c1 ∧ k + 2 ≤ 3 * (σ'.1 - σ.1) ∧ c1.1 264 0 = 7 ∧ CG tk pl nt ex c1 σ' ∧ fn_Grammar_apply_Gr N 1 c1 = some ((), c2) ∧ c2.1 264 0 = 7 ∧ HoldL c c2 h ∧ CE c c2 ∧ CG tk pl nt ex c2 σ' ∧ σ'.2.2.1 = 0 ∧ σ'.2.1 = σ.2.1 ∧ σ.1 < σ'.1 ∧ rk (tk σ'.1) = 0 ∧ Outc fd lit lc c c2 μ T sz C0 σ.1 σ'.1 r
theorem bin_loop {m : Nat} {c0 : ms} {σ0 : gs} {h T sz C0 D E : Nat} {μ : Option (Nat × Nat)} {r : xr} (Tk : Tv tk pl nt) (hE : ExpC tk pl vl wi nm nt ex N N0 N1 fd lit lc m) (hE1 : ∀ m', m = m' + 1 → ExpC tk pl vl wi nm nt ex N N0 N1 fd lit lc m') (hN : 13000 < N) (hN1 : 12002 < N1) (hN0 : 12002 < N0) (hD : 3 * m + 2 ≤ D) (hE2 : 5 * m ≤ E) (hm : σ0.2.1 + m + 1 = 61) (hS : CS tk pl vl wi nm nt ex N fd lit lc c0) (hh2 : h ≤ 12 * σ0.2.1) (hT : μ = none → T ≤ 12 * σ0.2.1) (hb : Hb c0 h) :
    ∀ (n n0 n1 : Nat) (c1 c2 : ms) (f k : Nat) (σ : gs) (ops : List (Nat × Nat)), nt ≤ σ.1 + n → n < n0 → n < n1 → Rc N k c0 c1 → k + 2 ≤ 3 * (σ.1 - σ0.1) → c1.1 264 0 = 7 → CG tk pl nt ex c1 σ → (∀ x, 1 ≤ x → x ≤ 11 → hd_Grammar_apply_Gr_0 N N (nI x) c1 = hd_Grammar_apply_Gr_0 N f (nI x) c2) → N ≤ f + 1 → c2.1 264 0 = 7 → c2.1 275 0 = nI (h + ops.length) → (∀ j, j < h → c2.1 272 j = c0.1 272 j ∧ c2.1 273 j = c0.1 273 j ∧ c2.1 274 j = c0.1 274 j) → hoR (c2.1 272) (c2.1 273) h ops → opS ops 11 → CE c0 c2 → CG tk pl nt ex c2 σ → σ.2.2.1 = 0 → σ.2.1 = σ0.2.1 → σ0.1 < σ.1 → BinS tk pl nt fd lit lc c0 c2 μ T sz C0 σ0.1 σ.1 (eG tk pl vl wi nm nt N0 (E + 3)).2.2.1 n0 ops r →
    (∃ σ', gXl tk pl (gG tk pl N1 (D + 2)).1 (gG tk pl N1 (D + 2)).2.1 n1 σ = some σ' ∧ DeadP tk pl nt ex N c0 σ0 σ') ∨ (∃ σ', gXl tk pl (gG tk pl N1 (D + 2)).1 (gG tk pl N1 (D + 2)).2.1 n1 σ = gXf tk pl (gG tk pl N1 (D + 2)).1 σ' ∧ BinPost tk pl nt ex N fd lit lc c0 σ0 σ' h μ T sz C0 r) := by
  have l1 := Tk.2.1
  intro n
  induction n with
  | zero => intro n0 n1 c1 c2 f k σ ops i1 i2 i3 i4 i5 i6 i7; have := i7.2.1; omega
  | succ n ih =>
    intro n0 n1 c1 c2 f k σ ops i1 i2 i3 i4 i5 i6 i7 i8 i9 i10 i11 i12 i13 i14 i15 i16 i17 i18 i19 i20
    obtain ⟨n0, rfl⟩ : ∃ n', n0 = n' + 1 := ⟨n0 - 1, by omega⟩
    obtain ⟨n1, rfl⟩ : ∃ n', n1 = n' + 1 := ⟨n1 - 1, by omega⟩
    have tn : σ.1 < nt := i7.2.1
    have kk := (i7.2.2.2.1 i17).2.1
    have v := (Tk.2.2.1 _ tn).1
    have rr := rkI_kap ⟨tk σ.1, vk_lt v⟩ v
    dsimp only at rr
    have rl := rk_lt (tk σ.1)
    have d60 : σ.2.1 ≤ 60 := (i7.2.2.2.1 i17).2.2.2.2.2.2
    have ol : ops.length ≤ 10 := by rcases i14.len with z | z; omega; rw [z]; simp
    have hb2 : Hb c2 h := hb.of (fun j hj => (i12 j hj).1)
    unfold gXl
    by_cases z : 0 < rk (tk σ.1)
    · rw [if_pos ⟨i17, z⟩]
      have sb := isB_of z
      have k3 : tk σ.1 ≠ 403 ∧ tk σ.1 ≠ 404 := by
        constructor <;> (intro q; rw [q] at z; revert z; decide)
      have t1 := Tk.more tn rfl k3.1 k3.2
      obtain ⟨c', b1, b2, b3, b4⟩ := i20.app (N := N) (f := f) (h := h) (r0 := rk (tk σ.1)) tn l1 (Or.inl ⟨z, rfl⟩) i11 i13 hb2 i14 (by omega) (by omega)
      have gl : (gRed (rk (tk σ.1)) ops).length ≤ 9 := by
        rcases (gRed_S (r := rk (tk σ.1)) i14).len with q | q
        · omega
        · rw [q]; simp
      have hG' : CG tk pl nt ex c' σ := i16.mono b3 (fun k _ _ => by simp; omega) (by decide)
      obtain ⟨c3, d1, d2, d3, d4, d5, d6⟩ := hold_C (N := N) (v1 := c'.1 214 0) (v2 := c'.1 215 0) (v3 := 0) b2 (by omega)
      have hG3 : CG tk pl nt ex c3 σ := hG'.mono d6 (fun k _ _ => by simp; omega) (by decide)
      obtain ⟨c4, e1, e2, e3⟩ := ktake (N := N) Tk hG3 (fun _ => t1)
      rw [if_pos i17] at e2
      have hmv : mv N c1 = some ((), upI c4 264 (fun _ => 6)) := by
        rw [mv7 i6]
        unfold fn_Grammar_behindOperand_Gr
        rw [kk, rankI, obind]
        dsimp only
        rw [rr, if_neg (show ¬ nI (rk (tk σ.1)) ≤ 0 from nI_nle z (by omega)), show fn_Grammar_apply_Gr N (nI (rk (tk σ.1))) c1 = some ((), c') from (i8 _ z (by omega)).trans b1, obind]
        dsimp only
        rw [d1, obind]
        dsimp only
        rw [e1, obind]
      have ek : Eb [213, 214, 215, 216, 217, 218, 219, 264, 272, 273, 274, 275] [] c' (upI c4 264 (fun _ => 6)) := ((d6.mono (by decide) (by decide)).trans (e3.mono (by decide) (by decide))).upI (by decide)
      have r1 : Rc N (k + 1) c0 (upI c4 264 (fun _ => 6)) := i4.trans (Rc.one (i7.alive i17) (by rw [i6]; decide) hmv)
      have eC : CE c0 (upI c4 264 (fun _ => 6)) := (i15.trans (b3.mono (by decide) (by decide))).trans (ek.mono (by decide) (by decide))
      have hG5 : CG tk pl nt ex (upI c4 264 (fun _ => 6)) (gInc σ) := e2.upI (by decide)
      have a17 : (upI c4 264 (fun _ => 6)).1 217 0 = nI 0 := hG5.alive i17
      have h75 : (upI c4 264 (fun _ => 6)).1 275 0 = nI (h + (gRed (rk (tk σ.1)) ops).length + 1) := by show c4.1 275 0 = _; rw [e3.1 275 (by decide)]; exact d2
      have k72 : ∀ j, c4.1 272 j = upd (c2.1 272) (h + (gRed (rk (tk σ.1)) ops).length) (nI (kap (tk σ.1))) j := fun j => by
        rw [e3.1 272 (by decide), d3, b3.1 272 (by decide), (hG'.2.2.2.1 i17).2.1]
      have k73 : ∀ j, c4.1 273 j = upd (c2.1 273) (h + (gRed (rk (tk σ.1)) ops).length) (nI (pl σ.1)) j := fun j => by
        rw [e3.1 273 (by decide), d4, b3.1 273 (by decide), (hG'.2.2.2.1 i17).2.2.1]
      have k74 : ∀ j, c4.1 274 j = upd (c2.1 274) (h + (gRed (rk (tk σ.1)) ops).length) 0 j := fun j => by
        rw [e3.1 274 (by decide), d5, b3.1 274 (by decide)]
      have hos : ∀ (c6 : ms), (∀ j, j < h + (gRed (rk (tk σ.1)) ops).length + 1 → c6.1 272 j = c4.1 272 j ∧ c6.1 273 j = c4.1 273 j) → hoR (c6.1 272) (c6.1 273) h ((tk σ.1, pl σ.1) :: gRed (rk (tk σ.1)) ops) := by
        intro c6 w
        refine ⟨by rw [(w _ (by omega)).1, k72, upd_at], by rw [(w _ (by omega)).2, k73, upd_at], sb, (gRed_hoR i13).mono (fun j hj => ⟨?_, ?_⟩)⟩
        · rw [(w _ (by omega)).1, k72, upd_ne (by omega)]
        · rw [(w _ (by omega)).2, k73, upd_ne (by omega)]
      -- with the checker's state, the operand behind
      have go : ∀ (μ3 : Option (Nat × Nat)) (T3 sz3 C3 : Nat) (ws : List Nat) (L : List aop) (C : Nat), T3 ≤ 12 * σ0.2.1 + 11 → Stat (upI c4 264 (fun _ => 6)) μ3 T3 sz3 C3 (12 * σ0.2.1 + 11) (σ.1 + 1) →
          ((∃ fp, μ3 = some fp ∧ (∀ q, μ = some q → q = fp) ∧ (μ = none → r = some (.inl fp))) ∨ (μ3 = none ∧ μ = none ∧ MO fd lit lc c0 T sz C0 (upI c4 264 (fun _ => 6)) ws L C ∧ T3 = T + ws.length ∧ sz3 = sz + L.length ∧ C3 = C0 + C ∧ ws.length = ((tk σ.1, pl σ.1) :: gRed (rk (tk σ.1)) ops).length ∧ σ0.1 + L.length + ((tk σ.1, pl σ.1) :: gRed (rk (tk σ.1)) ops).length ≤ σ.1 + 1 ∧ sz ≤ σ0.1 ∧ r = xb ((eG tk pl vl wi nm nt N0 (E + 3)).2.2.1 (σ.1 + 1)) (fun w t2 L2 C2 => eBl tk pl nt (eG tk pl vl wi nm nt N0 (E + 3)).2.2.1 n0 ((tk σ.1, pl σ.1) :: gRed (rk (tk σ.1)) ops) (w :: ws) (L ++ L2) (C + C2) t2))) →
          (∃ σ', ((gG tk pl N1 (D + 2)).2.1 (gInc σ)).bind (gXl tk pl (gG tk pl N1 (D + 2)).1 (gG tk pl N1 (D + 2)).2.1 n1) = some σ' ∧ DeadP tk pl nt ex N c0 σ0 σ') ∨ (∃ σ', ((gG tk pl N1 (D + 2)).2.1 (gInc σ)).bind (gXl tk pl (gG tk pl N1 (D + 2)).1 (gG tk pl N1 (D + 2)).2.1 n1) = gXf tk pl (gG tk pl N1 (D + 2)).1 σ' ∧ BinPost tk pl nt ex N fd lit lc c0 σ0 σ' h μ T sz C0 r) := by
        intro μ3 T3 sz3 C3 ws L C g1 g2 g3
        obtain ⟨σ', o1, o2⟩ := oper_C (N0 := N0) (N1 := N1) (D := D) (E := E) (c := upI c4 264 (fun _ => 6)) (σ := gInc σ) (h := h + (gRed (rk (tk σ.1)) ops).length + 1) (μ := μ3) (T := T3) (sz := sz3) (C0 := C3) Tk hE hE1 hN hN1 hN0 hD hE2 (by show σ.2.1 + m + 1 = 61; omega) i17 (hS.mono eC) hG5 rfl h75 (by show _ ≤ 12 * σ.2.1 + 10; omega) (by show _ ≤ 12 * σ.2.1 + 11; omega) (by show Stat _ _ _ _ _ (12 * σ.2.1 + 11) (σ.1 + 1); rw [i18]; exact g2)
        rw [o1]
        show (∃ σ'', gXl tk pl _ _ n1 σ' = some σ'' ∧ _) ∨ (∃ σ'', gXl tk pl _ _ n1 σ' = _ ∧ _)
        rcases o2 with dd | pp
        · left
          refine ⟨σ', ?_, dd.after r1 (by show k + 1 ≤ 3 * (σ.1 + 1 - σ0.1); clear g3 b4 i20; omega) (by show σ0.1 ≤ σ.1 + 1; clear g3 b4 i20; omega)⟩
          obtain ⟨n1, rfl⟩ : ∃ n', n1 = n' + 1 := ⟨n1 - 1, by omega⟩
          unfold gXl
          rw [if_neg (fun q => dd.1 q.1)]
          unfold gXf
          rw [gIs_dead dd.1, if_neg (by decide)]
        · obtain ⟨k', c6, c7, f', q1, q2, q3, q4, q5, q6, q7, q8, q9, q10, q11, q12, q13, q14⟩ := pp
          have q2' : k' + 2 ≤ 3 * (σ'.1 - (σ.1 + 1)) := q2
          have q13' : σ.1 + 1 < σ'.1 := q13
          have q12' : σ'.2.1 = σ.2.1 := q12
          have m1 : nt ≤ σ'.1 + n := by clear g3 b4 i20; omega
          have m2 : n < n0 := by clear g3 b4 i20; omega
          have m3 : n < n1 := by clear g3 b4 i20; omega
          have m4 : k + 1 + k' + 2 ≤ 3 * (σ'.1 - σ0.1) := by clear g3 b4 i20; omega
          have m5 : σ'.2.1 = σ0.2.1 := by clear g3 b4 i20; omega
          have m6 : σ0.1 < σ'.1 := by clear g3 b4 i20; omega
          exact ih n0 n1 c6 c7 f' (k + 1 + k') σ' ((tk σ.1, pl σ.1) :: gRed (rk (tk σ.1)) ops) m1 m2 m3 (r1.trans q1) m4 q3 q4 q5 q6 q7 q8.1 (fun j hj => ⟨by rw [(q8.2 j (by clear g3 b4 i20; omega)).1]; show c4.1 272 j = _; rw [k72, upd_ne (by clear g3 b4 i20; omega)]; exact (i12 j hj).1, by rw [(q8.2 j (by clear g3 b4 i20; omega)).2.1]; show c4.1 273 j = _; rw [k73, upd_ne (by clear g3 b4 i20; omega)]; exact (i12 j hj).2.1, by rw [(q8.2 j (by clear g3 b4 i20; omega)).2.2]; show c4.1 274 j = _; rw [k74, upd_ne (by clear g3 b4 i20; omega)]; exact (i12 j hj).2.2⟩) (hos c7 (fun j hj => ⟨(q8.2 j hj).1, (q8.2 j hj).2.1⟩)) ⟨by show rk (tk σ.1) < 11; clear g3 b4 i20; omega, z, gRed_S i14⟩ (eC.trans q9) q10 q11 m5 m6 (BinS.of g3 q14)
      rcases b4 with ⟨fp, s1, s2, s3⟩ | ⟨s1, ws0, L0, C1, ws, L, C, s2, s3, s4, s5, s6, s7⟩
      · exact go (some fp) 0 0 0 [] [] 0 (by omega) ⟨fun q hq => (by cases hq; exact s1.mono ek (by decide) (by decide)), fun hq => (by cases hq)⟩ (Or.inl ⟨fp, rfl, s2, s3⟩)
      · have mo := s2.mono ek (by decide) (by decide) (by decide) a17
        have hT' := hT s1
        refine go none (T + ws.length) (sz + L.length) (C0 + C) ws L C (by omega) ⟨fun q hq => (by cases hq), fun _ => ⟨mo.1, by omega, by omega⟩⟩ (Or.inr ⟨rfl, s1, mo, rfl, rfl, rfl, s3, by rw [List.length_cons]; omega, s5, ?_⟩)
        rw [s7]
        exact eBl_op tn z s6
    · rw [if_neg (fun q => z q.2)]
      right
      refine ⟨σ, rfl, ?_⟩
      obtain ⟨c', b1, b2, b3, b4⟩ := i20.app (N := N) (f := f) (h := h) (r0 := 1) tn l1 (Or.inr ⟨by omega, rfl⟩) i11 i13 hb2 i14 (by omega) (by omega)
      rw [gRed_all i14] at b2 b4
      have hG' : CG tk pl nt ex c' σ := i16.mono b3 (fun k _ _ => by simp; omega) (by decide)
      refine ⟨k, c1, c', i4, i5, i6, i7, (i8 1 (by omega) (by omega)).trans b1, by rw [b3.1 264 (by decide)]; exact i10, ⟨b2, fun j hj => ⟨by rw [b3.1 272 (by decide)]; exact (i12 j hj).1, by rw [b3.1 273 (by decide)]; exact (i12 j hj).2.1, by rw [b3.1 274 (by decide)]; exact (i12 j hj).2.2⟩⟩, i15.trans (b3.mono (by decide) (by decide)), hG', i17, i18, i19, by omega, ?_⟩
      rcases b4 with ⟨fp, s1, s2, s3⟩ | ⟨s1, ws0, L0, C1, ws, L, C, s2, s3, s4, s5, s6, s7⟩
      · exact ⟨fun q hq => (by rw [s2 q hq]; exact s1), fun hq => ⟨.inl fp, s3 hq, fun f p e => (by cases e; exact s1), fun _ _ _ _ e => (by cases e)⟩⟩
      · refine ⟨fun q hq => (by rw [s1] at hq; cases hq), fun _ => ?_⟩
        match ws, s3, s2, s6 with
        | [w], _, s2, s6 =>
          refine ⟨.inr (w, σ.1, L, C), by rw [s7]; exact eBl_end tn (by omega) s6, fun f p e => (by cases e), fun _ _ _ _ e => ?_⟩
          cases e
          have ww := s2.2.1
          exact ⟨rfl, by simpa using s4, ww.2.1, ww.2.2.1, s2⟩
end CBIN
