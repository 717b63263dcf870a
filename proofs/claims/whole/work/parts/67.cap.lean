/-! What the class holds back: signs and operators that wait. -/
section CAP
variable {tk pl : Nat → Nat} {nt : Nat} {ex : Nat → Int32} {fd lc T sz C0 C N : Nat} {lit : Nat → Int64} {c0 c : ms} {ws : List Nat} {L : List aop}
theorem hold_C {h : Nat} {v1 v2 v3 : Int32} (hh : c.1 275 0 = nI h) (hl : h < 1000) : ∃ c', fn_Grammar_hold_Gr N v1 v2 v3 c = some ((), c') ∧ c'.1 275 0 = nI (h + 1) ∧ c'.1 272 = upd (c.1 272) h v1 ∧ c'.1 273 = upd (c.1 273) h v2 ∧ c'.1 274 = upd (c.1 274) h v3 ∧ Eb [272, 273, 274, 275] [] c c' := by
  unfold fn_Grammar_hold_Gr
  simp (disch := omega) only [hh, lit_nI, gdF, gdG, gdH, nltT, nltF, nleT, nleF, neqT, neqF, nm1F, nm1F', m1lt, m1gt, m1le, m1ge, nI_clamp, nI_add, nI_sub, obind, if_true, if_false, reduceIte, ite_true, ite_false]
  exact ⟨_, rfl, rfl, rfl, rfl, rfl, (((Eb.rfl.upI (by decide)).upI (by decide)).upI (by decide)).upI (by decide)⟩
theorem kindAt_C {i : Nat} (h : CT tk pl nt ex c) (hi : i < nt) (hn : nt ≤ 12001) : fn_Tokens_kindAt_Tk N (nI i) c = some (nI (kap (tk i)), c) := by
  unfold fn_Tokens_kindAt_Tk
  have := (h.2 i hi).1
  unfold tkK at this
  simp (disch := omega) only [h.1, lit_nI, gdF, gdG, gdH, nltT, nltF, nleT, nleF, neqT, neqF, nm1F, nm1F', m1lt, m1gt, m1le, m1ge, nI_clamp, nI_add, nI_sub, obind, if_true, if_false, reduceIte, ite_true, ite_false]
  exact congrArg (fun x => some (x, c)) this
theorem unl_step {t0 n f h : Nat} {k0 : Int32 → ms → Option (Unit × ms)} {x1 : Int32} {c1 : ms} (hn : nt ≤ 12001) (hh : h < 1000) (hC : CT tk pl nt ex c) (h1 : c.1 275 0 = nI h) (h2 : c.1 273 h = nI t0) (h3 : t0 + n < nt) (hu : isU (tk (t0 + n)) = true) (e : fn_Checker_unary_Ch N (nI (tk (t0 + n))) c = some ((), c1)) : hd_Grammar_apply_Gr_90 N k0 (f + 1) x1 (nI (n + 1) - 1) c = hd_Grammar_apply_Gr_90 N k0 f x1 (nI n - 1) c1 := by
  show bd_Grammar_apply_Gr_90 N k0 (hd_Grammar_apply_Gr_90 N k0 f) x1 (nI (n + 1) - 1) c = _
  unfold bd_Grammar_apply_Gr_90
  rw [nI_pred, if_neg (nI_pos (by omega)), h1, if_neg (nI_in (show h < 1024 by omega) (by decide)), nI_clamp (by omega), h2, nI_add, kindAt_C hC (by omega) hn, obind]
  dsimp only
  rw [(kap_U hu).1, e, obind, nI_m1]
theorem unl_end {f : Nat} {k0 : Int32 → ms → Option (Unit × ms)} {x1 : Int32} : hd_Grammar_apply_Gr_90 N k0 (f + 1) x1 (nI 0 - 1) c = k0 x1 c := by
  show bd_Grammar_apply_Gr_90 N k0 (hd_Grammar_apply_Gr_90 N k0 f) x1 (nI 0 - 1) c = _
  unfold bd_Grammar_apply_Gr_90
  rw [if_pos (show nI 0 - 1 < 0 by decide)]
/-- signs before an operand are told: the checker off, on -/
theorem unl_off {t0 h : Nat} {k0 : Int32 → ms → Option (Unit × ms)} {x1 : Int32} (hn : nt ≤ 12001) (hh : h < 1000) (hC : CT tk pl nt ex c) (h1 : c.1 275 0 = nI h) (h2 : c.1 273 h = nI t0) (o : OffC c) : ∀ (n f : Nat), t0 + n ≤ nt → n < f → (∀ i, i < n → isU (tk (t0 + i)) = true) → hd_Grammar_apply_Gr_90 N k0 f x1 (nI n - 1) c = k0 x1 c := by
  intro n
  induction n with
  | zero =>
    intro f h3 h4 h5
    obtain ⟨f, rfl⟩ : ∃ f', f = f' + 1 := ⟨f - 1, by omega⟩
    exact unl_end
  | succ n ih =>
    intro f h3 h4 h5
    obtain ⟨f, rfl⟩ : ∃ f', f = f' + 1 := ⟨f - 1, by omega⟩
    rw [unl_step hn hh hC h1 h2 (by omega) (h5 n (by omega)) (off_unary o)]
    exact ih f (by omega) (by omega) (fun i hi => h5 i (by omega))
theorem unl_on {t0 h : Nat} (hn : nt ≤ 12001) (hh : h < 1000) : ∀ (n f : Nat) (c : ms) (w : Nat) (L : List aop) (C : Nat), CT tk pl nt ex c → c.1 275 0 = nI h → c.1 273 h = nI t0 → t0 + n ≤ nt → n < f → (∀ i, i < n → isU (tk (t0 + i)) = true) → MO fd lit lc c0 T sz C0 c (w :: ws) L C → sz + L.length + n < 39000 →
    ∃ c', (∀ (k0 : Int32 → ms → Option (Unit × ms)) (x1 : Int32), hd_Grammar_apply_Gr_90 N k0 f x1 (nI n - 1) c = k0 x1 c') ∧ XE c c' ∧ MO fd lit lc c0 T sz C0 c' ((eUa tk t0 n w L C).1 :: ws) (eUa tk t0 n w L C).2.1 (eUa tk t0 n w L C).2.2 := by
  intro n
  induction n with
  | zero =>
    intro f c w L C hC h1 h2 h3 h4 h5 hM hz
    obtain ⟨f, rfl⟩ : ∃ f', f = f' + 1 := ⟨f - 1, by omega⟩
    exact ⟨c, fun _ _ => unl_end, Eb.rfl, hM⟩
  | succ n ih =>
    intro f c w L C hC h1 h2 h3 h4 h5 hM hz
    obtain ⟨f, rfl⟩ : ∃ f', f = f' + 1 := ⟨f - 1, by omega⟩
    have hu := h5 n (by omega)
    obtain ⟨c1, b1, b2, b3⟩ := hM.un (N := N) (op := tk (t0 + n)) (by omega) hu
    obtain ⟨c', a1, a2, a3⟩ := ih f c1 _ _ _ ⟨by rw [b3.1 212 (by decide)]; exact hC.1, by rw [b3.2 211 (by decide)]; exact hC.2⟩ (by rw [b3.1 275 (by decide)]; exact h1) (by rw [b3.1 273 (by decide)]; exact h2) (by omega) (by omega) (fun i hi => h5 i (by omega)) b2 (by simp; omega)
    exact ⟨c', fun k0 x1 => (by rw [unl_step hn hh hC h1 h2 (by omega) hu b1]; exact a1 k0 x1), b3.trans a2, a3⟩
/-! operators that wait -/
def hoR (r272 r273 : Nat → Int32) (h : Nat) : List (Nat × Nat) → Prop
  | [] => True
  | o :: ops => r272 (h + ops.length) = nI (kap o.1) ∧ r273 (h + ops.length) = nI o.2 ∧ isB o.1 ∧ hoR r272 r273 h ops
theorem hoR.mono {r272 r273 r272' r273' : Nat → Int32} {h : Nat} : ∀ {ops : List (Nat × Nat)}, hoR r272 r273 h ops → (∀ k, k < h + ops.length → r272' k = r272 k ∧ r273' k = r273 k) → hoR r272' r273' h ops
  | [], _, _ => trivial
  | o :: ops, q, g => ⟨by rw [(g _ (by simp)).1]; exact q.1, by rw [(g _ (by simp)).2]; exact q.2.1, q.2.2.1, hoR.mono q.2.2.2 (fun k hk => g k (by simp; omega))⟩
def gRed (r : Nat) : List (Nat × Nat) → List (Nat × Nat)
  | [] => []
  | o :: ops => if r ≤ rk o.1 then gRed r ops else o :: ops
theorem gRed_le (r : Nat) : ∀ ops : List (Nat × Nat), (gRed r ops).length ≤ ops.length
  | [] => Nat.le_refl _
  | o :: ops => by
    unfold gRed
    split
    · have := gRed_le r ops; simp; omega
    · exact Nat.le_refl _
theorem gRed_S {r : Nat} : ∀ {ops : List (Nat × Nat)} {x : Nat}, opS ops x → opS (gRed r ops) r
  | [], _, _ => trivial
  | o :: ops, x, h => by
    unfold gRed
    split
    · exact gRed_S h.2.2
    · exact ⟨by omega, h.2.1, h.2.2⟩
theorem gRed_all : ∀ {ops : List (Nat × Nat)} {x : Nat}, opS ops x → gRed 1 ops = []
  | [], _, _ => rfl
  | o :: ops, x, h => by
    unfold gRed
    rw [if_pos (show 1 ≤ rk o.1 from h.2.1)]
    exact gRed_all h.2.2
/-- below what waits lies nothing that binds -/
def Hb (c : ms) (h : Nat) : Prop := h = 0 ∨ rkI (c.1 272 (h - 1)) = 0
theorem app_step {h q n r : Nat} {o : Nat × Nat} {c1 : ms} (hh : h + q + 1 < 1000) (h1 : c.1 275 0 = nI (h + q + 1)) (h2 : c.1 272 (h + q) = nI (kap o.1)) (h3 : c.1 273 (h + q) = nI o.2) (ho : isB o.1) (hr : r ≤ rk o.1) (e : fn_Checker_binary_Ch N (nI (kap o.1)) (nI o.2) (upI c 275 (fun _ => nI (h + q))) = some ((), c1)) : hd_Grammar_apply_Gr_0 N (n + 1) (nI r) c = hd_Grammar_apply_Gr_0 N n (nI r) c1 := by
  show bd_Grammar_apply_Gr_0 N (hd_Grammar_apply_Gr_0 N n) (nI r) c = _
  unfold bd_Grammar_apply_Gr_0
  have kb := isB_vk ho
  have rl := rk_lt o.1
  have rr := rkI_kap ⟨o.1, vk_lt kb⟩ kb
  have k256 : ¬ nI (kap o.1) = 256 := fun z => by
    have := (nI_eq (b := 256) (by have := kap_lt o.1; omega) (by omega)).mp z
    have k0 : ∀ k : Fin 405, vk k.1 = true → kap k.1 ≠ 256 := by decide +kernel
    exact k0 ⟨o.1, vk_lt kb⟩ kb this
  dsimp only at rr
  rw [h1, if_neg (nI_nle (by omega) (by omega)), nI_pred, if_neg (nI_in (show h + q < 1024 by omega) (by decide)), nI_clamp (by omega), h2, rankI, obind]
  dsimp only
  rw [rr, if_neg (nI_nlt (by omega) (by omega)), h1, nI_pred, if_neg (nI_in (show h + q < 1024 by omega) (by decide)), nI_clamp (by omega), h2, if_neg k256, if_neg (nI_inN (show h + q < 1024 by omega) (by omega)), if_neg (nI_inN (show h + q < 1024 by omega) (by omega)), h3, e, obind]
theorem app_stop {h n r : Nat} (hh : h < 1000) (h1 : c.1 275 0 = nI h) (h2 : h = 0 ∨ rkI (c.1 272 (h - 1)) < nI r) : hd_Grammar_apply_Gr_0 N (n + 1) (nI r) c = some ((), c) := by
  show bd_Grammar_apply_Gr_0 N (hd_Grammar_apply_Gr_0 N n) (nI r) c = _
  unfold bd_Grammar_apply_Gr_0
  rw [h1]
  by_cases z : h = 0
  · rw [z, if_pos (by decide)]
  · obtain ⟨g, rfl⟩ : ∃ g, h = g + 1 := ⟨h - 1, by omega⟩
    rw [if_neg (nI_nle (by omega) (by omega)), nI_pred, if_neg (nI_in (show g < 1024 by omega) (by decide)), nI_clamp (by omega), rankI, obind]
    dsimp only
    rw [if_pos (show rkI (c.1 272 g) < nI r from h2.elim (fun q => absurd q z) (fun q => q))]
/-- operators are told: the checker off -/
theorem app_off {h r : Nat} (hr : 0 < r) (hr2 : r ≤ 11) : ∀ (ops : List (Nat × Nat)) (n x : Nat) (c : ms), OffC c → c.1 275 0 = nI (h + ops.length) → hoR (c.1 272) (c.1 273) h ops → Hb c h → opS ops x → h + ops.length < 1000 → ops.length < n → ∃ c', hd_Grammar_apply_Gr_0 N n (nI r) c = some ((), c') ∧ c'.1 275 0 = nI (h + (gRed r ops).length) ∧ Eb [275] [] c c' := by
  intro ops
  induction ops with
  | nil =>
    intro n x c o h1 h2 h3 h4 h5 h6
    obtain ⟨n, rfl⟩ : ∃ n', n = n' + 1 := ⟨n - 1, by omega⟩
    refine ⟨c, app_stop (h := h) (by simpa using h5) h1 ?_, h1, Eb.rfl⟩
    rcases h3 with z | z
    · exact Or.inl z
    · right; rw [z]; exact nI_lt (a := 0) hr (by omega)
  | cons o ops ih =>
    intro n x c of h1 h2 h3 h4 h5 h6
    obtain ⟨n, rfl⟩ : ∃ n', n = n' + 1 := ⟨n - 1, by omega⟩
    simp only [List.length_cons] at h5 h6
    have h1' : c.1 275 0 = nI (h + ops.length + 1) := h1
    unfold gRed
    by_cases z : r ≤ rk o.1
    · rw [if_pos z]
      have of1 : OffC (upI c 275 (fun _ => nI (h + ops.length))) := of
      rw [app_step (by omega) h1' h2.1 h2.2.1 h2.2.2.1 z (off_binary of1)]
      obtain ⟨c', a1, a2, a3⟩ := ih n (rk o.1) _ of1 rfl h2.2.2.2 h3 h4.2.2 (by omega) (by omega)
      exact ⟨c', a1, a2, (Eb.rfl.upI (by decide)).trans a3⟩
    · rw [if_neg z]
      refine ⟨c, app_stop (h := h + ops.length + 1) (by omega) h1' (Or.inr ?_), h1, Eb.rfl⟩
      have kb := isB_vk h2.2.2.1
      have rr := rkI_kap ⟨o.1, vk_lt kb⟩ kb
      dsimp only at rr
      rw [Nat.add_sub_cancel, h2.1, rr]
      exact nI_lt (by omega) (by omega)
/-- operators are told: the checker on -/
theorem app_on {h r : Nat} (hr : 0 < r) (hr2 : r ≤ 11) : ∀ (ops : List (Nat × Nat)) (ws : List Nat) (L : List aop) (C n x : Nat) (c : ms) (q : Sum (Nat × Nat) (List (Nat × Nat) × List Nat × List aop × Nat)), MO fd lit lc c0 T sz C0 c ws L C → ws.length = ops.length + 1 → c.1 275 0 = nI (h + ops.length) → hoR (c.1 272) (c.1 273) h ops → Hb c h → opS ops x → h + ops.length < 1000 → ops.length < n → sz + L.length + ops.length < 39000 → eRed r ops ws L C = some q →
    ∃ c', hd_Grammar_apply_Gr_0 N n (nI r) c = some ((), c') ∧ c'.1 275 0 = nI (h + (gRed r ops).length) ∧ Eb [275, 238, 239, 241, 242, 243, 337] [336] c c' ∧ (∀ f p, q = .inl (f, p) → Off c' f p) ∧ (∀ ops' ws' L' C', q = .inr (ops', ws', L', C') → ops' = gRed r ops ∧ MO fd lit lc c0 T sz C0 c' ws' L' C' ∧ ws'.length = ops'.length + 1 ∧ L'.length + ops'.length = L.length + ops.length) := by
  intro ops
  induction ops with
  | nil =>
    intro ws L C n x c q hM hw h1 h2 h3 h4 h5 h6 h7 he
    obtain ⟨n, rfl⟩ : ∃ n', n = n' + 1 := ⟨n - 1, by omega⟩
    cases he
    refine ⟨c, app_stop (h := h) (by simpa using h5) h1 ?_, h1, Eb.rfl, fun f p e => (by cases e), fun ops' ws' L' C' e => ?_⟩
    · rcases h3 with z | z
      · exact Or.inl z
      · right; rw [z]; exact nI_lt (a := 0) hr (by omega)
    · cases e
      exact ⟨rfl, hM, hw, rfl⟩
  | cons o ops ih =>
    intro ws L C n x c q hM hw h1 h2 h3 h4 h5 h6 h7 he
    obtain ⟨n, rfl⟩ : ∃ n', n = n' + 1 := ⟨n - 1, by omega⟩
    simp only [List.length_cons] at h5 h6 h7 hw
    obtain ⟨k, p0⟩ := o
    have h1' : c.1 275 0 = nI (h + ops.length + 1) := h1
    obtain ⟨i1, i2, i3, i4⟩ := h2
    dsimp only at i1 i2 i3
    unfold eRed at he
    unfold gRed
    by_cases z : r ≤ rk k
    · rw [if_pos z] at he
      rw [if_pos (show r ≤ rk (k, p0).1 from z)]
      match ws, hw, hM, he with
      | [], hw, _, _ => simp at hw
      | [w], hw, _, _ => simp at hw
      | b :: a :: ws, hw, hM, he =>
        have hM1 : MO fd lit lc c0 T sz C0 (upI c 275 (fun _ => nI (h + ops.length))) (b :: a :: ws) L C := hM.mono (ks := [275]) (js := []) (Eb.rfl.upI (by decide)) (by decide) (by decide) (by decide) hM.1.2.1
        obtain ⟨p1, p2⟩ := hM1.bin (N := N) (p := p0) (by omega) i3
        dsimp only at he
        by_cases g : bAny k = true ∨ a = b
        · rw [if_pos g] at he
          obtain ⟨c1, d1, d2, d3⟩ := p1 g
          rw [app_step (o := (k, p0)) (by omega) h1' i1 i2 i3 z d1]
          obtain ⟨c', a1, a2, a3, a4, a5⟩ := ih (bMade k a :: ws) _ _ n (rk k) c1 q d2 (by simp at hw ⊢; omega) (by rw [d3.1 275 (by decide)]; rfl) (by rw [d3.1 272 (by decide), d3.1 273 (by decide)]; exact i4) (by unfold Hb; rw [d3.1 272 (by decide)]; exact h3) h4.2.2 (by omega) (by omega) (by simp; omega) he
          refine ⟨c', a1, a2, ((Eb.rfl.upI (by decide)).trans (d3.mono (by decide) (by decide))).trans a3, a4, fun ops' ws' L' C' e => ?_⟩
          obtain ⟨q1, q2, q3, q4⟩ := a5 _ _ _ _ e
          exact ⟨q1, q2, q3, by rw [q4]; simp; omega⟩
        · rw [if_neg g] at he
          cases he
          obtain ⟨c1, d1, d2, d3⟩ := p2 g
          rw [app_step (o := (k, p0)) (by omega) h1' i1 i2 i3 z d1]
          obtain ⟨c', a1, a2, a3⟩ := app_off (N := N) (h := h) hr hr2 ops n (rk k) c1 d2.off (by rw [d3.1 275 (by decide)]; rfl) (by rw [d3.1 272 (by decide), d3.1 273 (by decide)]; exact i4) (by unfold Hb; rw [d3.1 272 (by decide)]; exact h3) h4.2.2 (by omega) (by omega)
          refine ⟨c', a1, a2, ((Eb.rfl.upI (by decide)).trans (d3.mono (by decide) (by decide))).trans (a3.mono (by decide) (by decide)), fun f p e => ?_, fun ops' ws' L' C' e => (by cases e)⟩
          cases e
          exact d2.mono a3 (by decide) (by decide)
    · rw [if_neg z] at he
      cases he
      rw [if_neg (show ¬ r ≤ rk (k, p0).1 from z)]
      refine ⟨c, app_stop (h := h + ops.length + 1) (by omega) h1' (Or.inr ?_), h1, Eb.rfl, fun f p e => (by cases e), fun ops' ws' L' C' e => ?_⟩
      · have kb := isB_vk i3
        have rr := rkI_kap ⟨k, vk_lt kb⟩ kb
        dsimp only at rr
        rw [Nat.add_sub_cancel, i1, rr]
        exact nI_lt (by omega) (by omega)
      · cases e
        exact ⟨rfl, hM, by simp; omega, rfl⟩
end CAP
