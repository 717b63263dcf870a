/-! The class's operands: signs and a primary. -/
section COPER
variable {tk pl vl wi : Nat → Nat} {nm : Nat → Option (Nat × Nat)} {nt : Nat} {ex : Nat → Int32} {N N0 N1 fd lc : Nat} {lit : Nat → Int64}
theorem pri_C {m : Nat} {c : ms} {σ : gs} {h T sz C0 D E : Nat} {μ : Option (Nat × Nat)} (Tk : Tv tk pl nt) (hE : ExpC tk pl vl wi nm nt ex N N0 N1 fd lit lc m) (hE1 : ∀ m', m = m' + 1 → ExpC tk pl vl wi nm nt ex N N0 N1 fd lit lc m') (hN : 100 < N) (hN1 : 12002 < N1) (hN0 : 12002 < N0) (hD : 3 * m + 2 ≤ D) (hE2 : 5 * m ≤ E) (hm : σ.2.1 + m + 1 = 61) (h0 : σ.2.2.1 = 0) (hS : CS tk pl vl wi nm nt ex N fd lit lc c) (hG : CG tk pl nt ex c σ) (h6 : c.1 264 0 = 6) (hh : c.1 275 0 = nI h) (hh2 : h ≤ 12 * σ.2.1 + 11) (hT : T ≤ 12 * σ.2.1 + 11) (hs : Stat c μ T sz C0 (12 * σ.2.1 + 11) σ.1) (hu : isU (tk σ.1) = false) : ∃ σ', gPri tk pl (gG tk pl N1 (D + 1)).1 (gG tk pl N1 (D + 1)).2.2 σ = some σ' ∧ (DeadP tk pl nt ex N c σ σ' ∨ PriPost tk pl nt ex N fd lit lc c σ σ' h μ T sz C0 ((eG tk pl vl wi nm nt N0 (E + 2)).2.2.2.1 σ.1)) := by
  show ∃ σ', _ = _ ∧ (_ ∨ PriPost tk pl nt ex N fd lit lc c σ σ' h μ T sz C0 (eP1 tk pl vl wi nm nt (eG tk pl vl wi nm nt N0 (E + 1)).1 (eG tk pl vl wi nm nt N0 (E + 1)).2.2.2.2 σ.1))
  by_cases c400 : tk σ.1 = 400
  · exact pri_name Tk hE hN (by omega) (by omega) (by omega) hm h0 hS hG h6 hh hh2 hs c400
  by_cases c402 : tk σ.1 = 402
  · refine ⟨gInc σ, ?_, Or.inr ?_⟩
    · unfold gPri; rw [gIs_t h0 c402, if_pos rfl]
    · unfold eP1; rw [if_pos c402]; exact pri_lit Tk h0 hS hG h6 hh hs (by have := (hG.2.2.2.1 h0).2.2.2.2.2.2; omega) c402
  by_cases c40 : tk σ.1 = 40
  · have := pri_par (N0 := N0) (N1 := N1) (D := D + 1) (E := E + 1) Tk hE hN (by omega) (by omega) (by omega) hm h0 hS hG h6 hh hh2 hs c40
    unfold gPri eP1
    rw [gIs_f c402, if_neg (by decide), gIs_f c400, if_neg (by decide), gIs_t h0 c40, if_pos rfl, if_neg c402, if_pos c40]
    exact this
  by_cases c123 : tk σ.1 = 123
  · have := pri_br (N0 := N0) (N1 := N1) (D := D) (E := E) Tk hE hE1 hN hN1 hN0 (by omega) (by omega) hm h0 hS hG h6 hh hh2 hT hs c123
    unfold gPri eP1
    rw [gIs_f c402, if_neg (by decide), gIs_f c400, if_neg (by decide), gIs_f c40, if_neg (by decide), gIs_t h0 c123, if_pos rfl, if_neg c402, if_neg c40, if_pos c123]
    exact this
  · obtain ⟨c1, a1, a2, a3⟩ := krefuse (N := N) Tk hG
    simp only [isU, decide_eq_false_iff_not] at hu
    have hmv : mv N c = some ((), c1) := by
      rw [mv6 h6]
      unfold fn_Grammar_operand_Gr
      rw [if_neg (show ¬ c.1 214 0 = 2 from kneg (k := 400) Tk hG (by decide) (fun _ => c400)), if_neg (show ¬ c.1 214 0 = 4 from kneg (k := 402) Tk hG (by decide) (fun _ => c402)), if_neg (show ¬ c.1 214 0 = 33 from kneg (k := 33) Tk hG (by decide) (fun _ => by omega)), if_neg (show ¬ c.1 214 0 = 38 from kneg (k := 38) Tk hG (by decide) (fun _ => by omega)), if_neg (show ¬ c.1 214 0 = 40 from kneg (k := 40) Tk hG (by decide) (fun _ => by omega)), if_neg (show ¬ c.1 214 0 = 45 from kneg (k := 45) Tk hG (by decide) (fun _ => by omega)), if_neg (show ¬ c.1 214 0 = 94 from kneg (k := 94) Tk hG (by decide) (fun _ => by omega)), if_neg (show ¬ c.1 214 0 = 123 from kneg (k := 123) Tk hG (by decide) (fun _ => c123)), if_neg (show ¬ c.1 214 0 = 124 from kneg (k := 124) Tk hG (by decide) (fun _ => by omega)), if_neg (show ¬ c.1 214 0 = 126 from kneg (k := 126) Tk hG (by decide) (fun _ => by omega)), a1, obind]
    have nd : (gNo tk pl σ).2.2.1 ≠ 0 ∧ (gNo tk pl σ).1 = σ.1 := by
      unfold gNo
      rw [if_pos h0]
      constructor
      · dsimp only; split <;> decide
      · rfl
    refine ⟨gNo tk pl σ, ?_, Or.inl (DeadP.one (hG.alive h0) (by rw [h6]; decide) hmv nd.1 (by omega) a2)⟩
    unfold gPri
    rw [gIs_f c402, if_neg (by decide), gIs_f c400, if_neg (by decide), gIs_f c40, if_neg (by decide), gIs_f c123, if_neg (by decide)]
/-- how many signs -/
theorem signs_ex (Tk : Tv tk pl nt) : ∀ (r t : Nat), t + r = nt → t < nt → ∃ u, (∀ i, i < u → isU (tk (t + i)) = true) ∧ isU (tk (t + u)) = false ∧ t + u < nt := by
  intro r
  induction r with
  | zero => intro t h1 h2; omega
  | succ r ih =>
    intro t h1 h2
    cases c : isU (tk t)
    · exact ⟨0, fun i hi => by omega, c, h2⟩
    · have t1 := Tk.more h2 rfl (isU_ne c).1 (isU_ne c).2
      obtain ⟨u, u1, u2, u3⟩ := ih (t + 1) (by omega) t1
      refine ⟨u + 1, fun i hi => ?_, by rw [show t + (u + 1) = t + 1 + u by omega]; exact u2, by omega⟩
      cases i with
      | zero => exact c
      | succ i => rw [show t + (i + 1) = t + 1 + i by omega]; exact u1 i (by omega)
theorem gOl_u {gE gB : gs → Option gs} : ∀ (u n : Nat) (σ : gs), σ.2.2.1 = 0 → (∀ i, i < u → isU (tk (σ.1 + i)) = true) → isU (tk (σ.1 + u)) = false → u < n → gOl tk pl gE gB n σ = gPri tk pl gE gB (σ.1 + u, σ.2) := by
  intro u
  induction u with
  | zero =>
    intro n σ h0 h1 h2 h3
    obtain ⟨n, rfl⟩ : ∃ n', n = n' + 1 := ⟨n - 1, by omega⟩
    unfold gOl
    rw [if_neg (fun z => by rw [Nat.add_zero] at h2; rw [h2] at z; cases z.2)]
    rfl
  | succ u ih =>
    intro n σ h0 h1 h2 h3
    obtain ⟨n, rfl⟩ : ∃ n', n = n' + 1 := ⟨n - 1, by omega⟩
    unfold gOl
    rw [if_pos ⟨h0, h1 0 (by omega)⟩]
    have := ih n (gInc σ) h0 (fun i hi => by show isU (tk (σ.1 + 1 + i)) = true; rw [show σ.1 + 1 + i = σ.1 + (i + 1) by omega]; exact h1 _ (by omega)) (by show isU (tk (σ.1 + 1 + u)) = false; rw [show σ.1 + 1 + u = σ.1 + (u + 1) by omega]; exact h2) (by omega)
    rw [this]
    show gPri tk pl gE gB (σ.1 + 1 + u, σ.2) = _
    rw [show σ.1 + 1 + u = σ.1 + (u + 1) by omega]
theorem eOl_u {eP : Nat → xr} {t0 : Nat} : ∀ (u n t : Nat), (∀ i, i < u → isU (tk (t + i)) = true) → isU (tk (t + u)) = false → t + u < nt → u < n → eOl tk nt eP t0 n t = xb (eP (t + u)) (fun w t2 L C => xok (eUa tk t0 (t + u - t0) w L C).1 t2 (eUa tk t0 (t + u - t0) w L C).2.1 (eUa tk t0 (t + u - t0) w L C).2.2) := by
  intro u
  induction u with
  | zero =>
    intro n t h1 h2 h4 h3
    obtain ⟨n, rfl⟩ : ∃ n', n = n' + 1 := ⟨n - 1, by omega⟩
    unfold eOl
    rw [if_neg (by omega), if_neg (by rw [Nat.add_zero] at h2; rw [h2]; decide)]
    rfl
  | succ u ih =>
    intro n t h1 h2 h4 h3
    obtain ⟨n, rfl⟩ : ∃ n', n = n' + 1 := ⟨n - 1, by omega⟩
    unfold eOl
    rw [if_neg (by omega), if_pos (show isU (tk t) = true from h1 0 (by omega))]
    rw [ih n (t + 1) (fun i hi => by rw [show t + 1 + i = t + (i + 1) by omega]; exact h1 _ (by omega)) (by rw [show t + 1 + u = t + (u + 1) by omega]; exact h2) (by omega) (by omega), show t + 1 + u = t + (u + 1) by omega]
theorem eUa_len (t0 : Nat) : ∀ (n w : Nat) (L : List aop) (C : Nat), 1 ≤ w → w ≤ 64 → (eUa tk t0 n w L C).2.1.length = L.length + n ∧ 1 ≤ (eUa tk t0 n w L C).1 ∧ (eUa tk t0 n w L C).1 ≤ 64
  | 0, w, L, C, a, b => ⟨rfl, a, b⟩
  | n + 1, w, L, C, a, b => by
    have := eUa_len t0 n (if tk (t0 + n) = 126 ∨ tk (t0 + n) = 45 then w else 1) (L ++ [(4, tk (t0 + n), w)]) (C + w) (by split <;> omega) (by split <;> omega)
    refine ⟨?_, this.2⟩
    show (eUa tk t0 n _ _ _).2.1.length = _
    rw [this.1]
    simp; omega
theorem signs_C {x1 : Int32} (Tk : Tv tk pl nt) : ∀ (u n j : Nat) (c : ms) (σ : gs), σ.2.2.1 = 0 → CG tk pl nt ex c σ → (∀ i, i < u → isU (tk (σ.1 + i)) = true) → isU (tk (σ.1 + u)) = false → σ.1 + u < nt → u < n → j + u < nt → ∃ c', hd_Grammar_signsBefore_Gr_10 N n x1 (nI j) c = bk_Grammar_signsBefore_Gr_47 N x1 c' ∧ CG tk pl nt ex c' (σ.1 + u, σ.2) ∧ F7 c c' := by
  intro u
  have l1 := Tk.2.1
  induction u with
  | zero =>
    intro n j c σ h0 hG h1 h2 h3 h4 h5
    obtain ⟨n, rfl⟩ : ∃ n', n = n' + 1 := ⟨n - 1, by omega⟩
    refine ⟨c, ?_, hG, Eb.rfl⟩
    show bd_Grammar_signsBefore_Gr_10 N (hd_Grammar_signsBefore_Gr_10 N n) x1 (nI j) c = _
    unfold bd_Grammar_signsBefore_Gr_10
    have k := (hG.2.2.2.1 h0).2.1
    have v := (Tk.2.2.1 _ hG.2.1).1
    have iu := isU_kap ⟨tk σ.1, vk_lt v⟩ v
    dsimp only at iu
    rw [hG.1.1, if_neg (nI_ge (by omega) (by omega)), isUC, obind]
    dsimp only
    rw [k, iu, show isU (tk σ.1) = false by rw [Nat.add_zero] at h2; exact h2, if_pos (show b01 false = 0 from rfl)]
  | succ u ih =>
    intro n j c σ h0 hG h1 h2 h3 h4 h5
    obtain ⟨n, rfl⟩ : ∃ n', n = n' + 1 := ⟨n - 1, by omega⟩
    have k := (hG.2.2.2.1 h0).2.1
    have v := (Tk.2.2.1 _ hG.2.1).1
    have iu := isU_kap ⟨tk σ.1, vk_lt v⟩ v
    dsimp only at iu
    obtain ⟨c1, a1, a2, a3⟩ := ktake (N := N) Tk hG (fun _ => by omega)
    rw [if_pos h0] at a2
    obtain ⟨c', b1, b2, b3⟩ := ih n (j + 1) c1 (gInc σ) h0 a2 (fun i hi => by show isU (tk (σ.1 + 1 + i)) = true; rw [show σ.1 + 1 + i = σ.1 + (i + 1) by omega]; exact h1 _ (by omega)) (by show isU (tk (σ.1 + 1 + u)) = false; rw [show σ.1 + 1 + u = σ.1 + (u + 1) by omega]; exact h2) (by show σ.1 + 1 + u < nt; omega) (by omega) (by omega)
    refine ⟨c', ?_, by have : (gInc σ).1 + u = σ.1 + (u + 1) := by show σ.1 + 1 + u = _; omega
                       rw [this] at b2; exact b2, a3.trans b3⟩
    show bd_Grammar_signsBefore_Gr_10 N (hd_Grammar_signsBefore_Gr_10 N n) x1 (nI j) c = _
    unfold bd_Grammar_signsBefore_Gr_10
    rw [hG.1.1, if_neg (nI_ge (by omega) (by omega)), isUC, obind]
    dsimp only
    rw [k, iu, show isU (tk σ.1) = true from h1 0 (by omega), if_neg (show ¬ b01 true = 0 by decide), a1, obind]
    dsimp only
    rw [nI_1, b1]
/-- an operand is told; signs before it wait until the next move -/
def OperPost (tk pl : Nat → Nat) (nt : Nat) (ex : Nat → Int32) (N fd : Nat) (lit : Nat → Int64) (lc : Nat) (c : ms) (σ σ' : gs) (h : Nat) (μ : Option (Nat × Nat)) (T sz C0 : Nat) (r : xr) : Prop :=
  ∃ k c1 c2 f, Rc N k c c1 ∧ k + 2 ≤ 3 * (σ'.1 - σ.1) ∧ c1.1 264 0 = 7 ∧ CG tk pl nt ex c1 σ' ∧ (∀ x, 1 ≤ x → x ≤ 11 → hd_Grammar_apply_Gr_0 N N (nI x) c1 = hd_Grammar_apply_Gr_0 N f (nI x) c2) ∧ N ≤ f + 1 ∧ c2.1 264 0 = 7 ∧ HoldL c c2 h ∧ CE c c2 ∧ CG tk pl nt ex c2 σ' ∧ σ'.2.2.1 = 0 ∧ σ'.2.1 = σ.2.1 ∧ σ.1 < σ'.1 ∧ Outc fd lit lc c c2 μ T sz C0 σ.1 σ'.1 r
theorem oper_C {m : Nat} {c : ms} {σ : gs} {h T sz C0 D E : Nat} {μ : Option (Nat × Nat)} (Tk : Tv tk pl nt) (hE : ExpC tk pl vl wi nm nt ex N N0 N1 fd lit lc m) (hE1 : ∀ m', m = m' + 1 → ExpC tk pl vl wi nm nt ex N N0 N1 fd lit lc m') (hN : 13000 < N) (hN1 : 12002 < N1) (hN0 : 12002 < N0) (hD : 3 * m + 2 ≤ D) (hE2 : 5 * m ≤ E) (hm : σ.2.1 + m + 1 = 61) (h0 : σ.2.2.1 = 0) (hS : CS tk pl vl wi nm nt ex N fd lit lc c) (hG : CG tk pl nt ex c σ) (h6 : c.1 264 0 = 6) (hh : c.1 275 0 = nI h) (hh2 : h ≤ 12 * σ.2.1 + 10) (hT : T ≤ 12 * σ.2.1 + 11) (hs : Stat c μ T sz C0 (12 * σ.2.1 + 11) σ.1) : ∃ σ', (gG tk pl N1 (D + 2)).2.1 σ = some σ' ∧ (DeadP tk pl nt ex N c σ σ' ∨ OperPost tk pl nt ex N fd lit lc c σ σ' h μ T sz C0 ((eG tk pl vl wi nm nt N0 (E + 3)).2.2.1 σ.1)) := by
  have l1 := Tk.2.1
  have d60 : σ.2.1 ≤ 60 := (hG.2.2.2.1 h0).2.2.2.2.2.2
  obtain ⟨u, u1, u2, u3⟩ := signs_ex Tk (nt - σ.1) σ.1 (by have := hG.2.1; omega) hG.2.1
  have ge : (gG tk pl N1 (D + 2)).2.1 σ = gPri tk pl (gG tk pl N1 (D + 1)).1 (gG tk pl N1 (D + 1)).2.2 (σ.1 + u, σ.2) := gOl_u u N1 σ h0 u1 u2 (by omega)
  have ee : (eG tk pl vl wi nm nt N0 (E + 3)).2.2.1 σ.1 = xb ((eG tk pl vl wi nm nt N0 (E + 2)).2.2.2.1 (σ.1 + u)) (fun w t2 L C => xok (eUa tk σ.1 u w L C).1 t2 (eUa tk σ.1 u w L C).2.1 (eUa tk σ.1 u w L C).2.2) := by
    have := eOl_u (nt := nt) (eP := (eG tk pl vl wi nm nt N0 (E + 2)).2.2.2.1) (t0 := σ.1) u N0 σ.1 u1 u2 u3 (by omega)
    rw [Nat.add_sub_cancel_left] at this
    exact this
  rw [ge, ee]
  by_cases u0 : u = 0
  · subst u0
    rw [Nat.add_zero] at u2 ⊢
    obtain ⟨σ', g1, g2⟩ := pri_C (N0 := N0) (N1 := N1) (D := D) (E := E) Tk hE hE1 (by omega) hN1 hN0 hD hE2 hm h0 hS hG h6 hh (by omega) hT hs u2
    refine ⟨σ', g1, ?_⟩
    rcases g2 with dd | pp
    · exact Or.inl dd
    · obtain ⟨k, c2, q1, q2, q3, q4, q5, q6, q7, q8, q9, q10⟩ := pp
      refine Or.inr ⟨k, c2, c2, N, q1, q2, q3, q6, fun x _ _ => rfl, by omega, q3, q4, q5, q6, q7, q8, q9, q10.1, fun z => ?_⟩
      obtain ⟨q, w1, w2, w3⟩ := q10.2 z
      have w1' : (eG tk pl vl wi nm nt N0 (E + 2)).2.2.2.1 (σ.1 + 0) = some q := w1
      rw [w1']
      match q, w2, w3 with
      | .inl (f, p), w2, _ => exact ⟨_, rfl, fun f' p' e => (by cases e; exact w2 f p rfl), fun _ _ _ _ e => (by cases e)⟩
      | .inr (w, t', L, C), _, w3 => exact ⟨_, rfl, fun f' p' e => (by cases e), fun _ _ _ _ e => (by cases e; exact w3 _ _ _ _ rfl)⟩
  · -- signs first
    obtain ⟨c1, a1, a2, a3⟩ := signs_C (N := N) (x1 := nI σ.1) Tk u N 0 c σ h0 hG u1 u2 u3 (by omega) (by omega)
    have i13 : c1.1 213 0 = nI (σ.1 + u) := (a2.2.2.2.1 h0).1
    have hh1 : c1.1 275 0 = nI h := by rw [a3.1 275 (by decide)]; exact hh
    obtain ⟨c2, b1, b2, b3, b4, b5, b6⟩ := hold_C (N := N) (v1 := 256) (v2 := nI σ.1) (v3 := nI u) hh1 (by omega)
    have sb : fn_Grammar_signsBefore_Gr N c = some ((), c2) := by
      unfold fn_Grammar_signsBefore_Gr
      rw [(hG.2.2.2.1 h0).1]
      rw [show (0 : Int32) = nI 0 from rfl, a1]
      unfold bk_Grammar_signsBefore_Gr_47
      rw [i13, nI_sub (by omega), Nat.add_sub_cancel_left, b1, obind]
    have uu : isU (tk σ.1) = true := by have := u1 0 (by omega); rw [Nat.add_zero] at this; exact this
    have ku := kap_U uu
    have k14 : c.1 214 0 = nI (tk σ.1) := by rw [(hG.2.2.2.1 h0).2.1, ku.1]
    have hmv : mv N c = some ((), c2) := by
      rw [mv6 h6]
      unfold fn_Grammar_operand_Gr
      simp only [isU, decide_eq_true_eq] at uu
      rw [sb, obind, if_neg (show ¬ c.1 214 0 = 2 from kneg (k := 400) Tk hG (by decide) (fun _ => by omega)), if_neg (show ¬ c.1 214 0 = 4 from kneg (k := 402) Tk hG (by decide) (fun _ => by omega))]
      rw [if_neg (show ¬ c.1 214 0 = 40 from kneg (k := 40) Tk hG (by decide) (fun _ => by omega)), if_neg (show ¬ c.1 214 0 = 123 from kneg (k := 123) Tk hG (by decide) (fun _ => by omega))]
      by_cases z1 : c.1 214 0 = 33
      · rw [if_pos z1]
      rw [if_neg z1]
      by_cases z2 : c.1 214 0 = 38
      · rw [if_pos z2]
      rw [if_neg z2]
      by_cases z3 : c.1 214 0 = 45
      · rw [if_pos z3]
      rw [if_neg z3]
      by_cases z4 : c.1 214 0 = 94
      · rw [if_pos z4]
      rw [if_neg z4]
      by_cases z5 : c.1 214 0 = 124
      · rw [if_pos z5]
      rw [if_neg z5]
      rw [if_pos]
      rw [k14] at z1 z2 z3 z4 z5 ⊢
      have : tk σ.1 = 126 := by
        rcases uu with z | z | z | z | z | z
        · exact z
        · rw [z] at z1; exact absurd rfl z1
        · rw [z] at z3; exact absurd rfl z3
        · rw [z] at z2; exact absurd rfl z2
        · rw [z] at z5; exact absurd rfl z5
        · rw [z] at z4; exact absurd rfl z4
      rw [this]; rfl
    have r1 : Rc N 1 c c2 := Rc.one (hG.alive h0) (by rw [h6]; decide) hmv
    have hG2 : CG tk pl nt ex c2 (σ.1 + u, σ.2) := a2.mono b6 (fun k _ _ => by simp; omega) (by decide)
    have ek2 : Eb [213, 214, 215, 216, 217, 218, 219, 272, 273, 274, 275] [] c c2 := (a3.mono (by decide) (by decide)).trans (b6.mono (by decide) (by decide))
    have e2 : CE c c2 := ek2.mono (by decide) (by decide)
    have hs' : Stat c2 μ T sz C0 (12 * σ.2.1 + 11) (σ.1 + u) := by
      refine ⟨fun fp z => (hs.1 fp z).mono ek2 (by decide) (by decide), fun z => ?_⟩
      obtain ⟨x1, x2, x3⟩ := hs.2 z
      exact ⟨x1.mono ek2 (by decide) (hG2.alive h0), x2, by omega⟩
    obtain ⟨σ', g1, g2⟩ := pri_C (σ := (σ.1 + u, σ.2)) (h := h + 1) (N0 := N0) (N1 := N1) (D := D) (E := E) Tk hE hE1 (by omega) hN1 hN0 hD hE2 hm h0 (hS.mono e2) hG2 (by rw [b6.1 264 (by decide), a3.1 264 (by decide)]; exact h6) b2 (by show h + 1 ≤ 12 * σ.2.1 + 11; omega) hT hs' u2
    refine ⟨σ', g1, ?_⟩
    rcases g2 with dd | pp
    · exact Or.inl (dd.after r1 (by show 1 ≤ 3 * (σ.1 + u - σ.1); omega) (by show σ.1 ≤ σ.1 + u; omega))
    · obtain ⟨k, c3, q1, q2, q3, q4, q5, q6, q7, q8, q9, q10⟩ := pp
      have q2' : k + 2 ≤ 3 * (σ'.1 - (σ.1 + u)) := q2
      have q9' : σ.1 + u < σ'.1 := q9
      right
      have k256 : c3.1 272 h = 256 := by rw [(q4.2 h (by omega)).1, b3, upd_at]
      have k273 : c3.1 273 h = nI σ.1 := by rw [(q4.2 h (by omega)).2.1, b4, upd_at]
      have k274 : c3.1 274 h = nI u := by rw [(q4.2 h (by omega)).2.2, b5, upd_at]
      have step : ∀ x, 1 ≤ x → x ≤ 11 → ∀ f, hd_Grammar_apply_Gr_0 N (f + 1) (nI x) c3 = hd_Grammar_apply_Gr_90 N (hd_Grammar_apply_Gr_0 N f) N (nI x) (nI u - 1) (upI c3 275 (fun _ => nI h)) := by
        intro x x1 x2 f
        show bd_Grammar_apply_Gr_0 N (hd_Grammar_apply_Gr_0 N f) (nI x) c3 = _
        unfold bd_Grammar_apply_Gr_0
        rw [q4.1, if_neg (nI_nle (by omega) (by omega)), nI_pred, if_neg (nI_in (show h < 1024 by omega) (by decide)), nI_clamp (by omega), k256, rankI, obind]
        dsimp only
        rw [if_neg (show ¬ rkI 256 < nI x from fun z => by
          have : rkI 256 = nI 11 := by decide
          rw [this] at z
          exact nI_nlt x2 (by omega) z), q4.1, nI_pred, if_neg (nI_in (show h < 1024 by omega) (by decide)), nI_clamp (by omega), k256, if_pos rfl, if_neg (nI_inN (show h < 1024 by omega) (by omega)), k274]
      have hC3 : CT tk pl nt ex (upI c3 275 (fun _ => nI h)) := q6.1
      obtain ⟨N', hN'⟩ : ∃ N', N = N' + 1 := ⟨N - 1, by omega⟩
      have isu : ∀ i, i < u → isU (tk (σ.1 + i)) = true := u1
      -- the signs are told
      have un : ∃ c4, (∀ x, 1 ≤ x → x ≤ 11 → hd_Grammar_apply_Gr_0 N N (nI x) c3 = hd_Grammar_apply_Gr_0 N N' (nI x) c4) ∧ Eb [275, 238, 239, 241, 242, 243, 337] [336] c3 c4 ∧ c4.1 275 0 = nI h ∧ Outc fd lit lc c c4 μ T sz C0 σ.1 σ'.1 (xb ((eG tk pl vl wi nm nt N0 (E + 2)).2.2.2.1 (σ.1 + u)) (fun w t2 L C => xok (eUa tk σ.1 u w L C).1 t2 (eUa tk σ.1 u w L C).2.1 (eUa tk σ.1 u w L C).2.2)) := by
        have ek3 : Eb [275] [] c3 (upI c3 275 (fun _ => nI h)) := Eb.rfl.upI (by decide)
        have off : ∀ f p, Off c3 f p → ∃ c4, (∀ x, 1 ≤ x → x ≤ 11 → hd_Grammar_apply_Gr_0 N N (nI x) c3 = hd_Grammar_apply_Gr_0 N N' (nI x) c4) ∧ Eb [275, 238, 239, 241, 242, 243, 337] [336] c3 c4 ∧ c4.1 275 0 = nI h ∧ Off c4 f p := by
          intro f p o
          refine ⟨upI c3 275 (fun _ => nI h), fun x x1 x2 => ?_, Eb.rfl.upI (by decide), rfl, o.mono ek3 (by decide) (by decide)⟩
          have := step x x1 x2 N'
          rw [← hN'] at this
          rw [this]
          exact unl_off (N := N) l1 (by omega) hC3 rfl k273 (o.mono ek3 (by decide) (by decide)).off u N (by omega) (by omega) isu
        cases hμ : μ with
        | some fp =>
          obtain ⟨c4, z1, z2, z3, z4⟩ := off _ _ (q10.1 fp hμ)
          exact ⟨c4, z1, z2, z3, fun q z => (by cases z; exact z4), fun z => (by cases z)⟩
        | none =>
          obtain ⟨q, w1, w2, w3⟩ := q10.2 hμ
          have w1' : (eG tk pl vl wi nm nt N0 (E + 2)).2.2.2.1 (σ.1 + u) = some q := w1
          rw [w1']
          match q, w2, w3 with
          | .inl (f, p), w2, _ =>
            obtain ⟨c4, z1, z2, z3, z4⟩ := off _ _ (w2 f p rfl)
            exact ⟨c4, z1, z2, z3, fun q z => (by cases z), fun _ => ⟨_, rfl, fun f p e' => (by cases e'; exact z4), fun _ _ _ _ e' => (by cases e')⟩⟩
          | .inr (w, t', L, C), _, w3 =>
            obtain ⟨x1, x2, x3, x4, x5⟩ := w3 _ _ _ _ rfl
            have x2' : σ.1 + u + L.length ≤ σ'.1 := x2
            obtain ⟨y1', y2', y3', y4', y5'⟩ := x5
            have x5' : MO fd lit lc c T sz C0 c3 [w] L C := ⟨y1', y2', fun k hk => by rw [y3' k hk, ek2.1 238 (by decide)], fun k hk => by rw [y4' k hk, ek2.2 336 (by decide)], y5'⟩
            have x6 := x5'.mono (c' := upI c3 275 (fun _ => nI h)) ek3 (by decide) (by decide) (by decide) (q6.alive q7)
            have xs := (hs.2 hμ).2.2
            have sn := q6.2.1
            obtain ⟨c4, z1, z2, z3⟩ := unl_on (N := N) (t0 := σ.1) (h := h) l1 (by omega) u N (upI c3 275 (fun _ => nI h)) w L C hC3 rfl k273 (by omega) (by omega) isu x6 (by omega)
            refine ⟨c4, fun x x1 x2 => ?_, (Eb.rfl.upI (by decide)).trans (z2.mono (by decide) (by decide)), by rw [z2.1 275 (by decide)]; rfl, fun q z => (by cases z), fun _ => ⟨_, rfl, fun f p e' => (by cases e'), fun w' t'' L' C' e' => ?_⟩⟩
            · have st := step x x1 x2 N'
              rw [← hN'] at st
              rw [st, z1]
            · cases e'
              have le := eUa_len (tk := tk) σ.1 u w L C x3 x4
              exact ⟨x1, by rw [le.1]; omega, le.2.1, le.2.2, z3⟩
      obtain ⟨c4, z1, z2, z3, z4⟩ := un
      have hG4 : CG tk pl nt ex c4 σ' := q6.mono z2 (fun k _ _ => by simp; omega) (by decide)
      refine ⟨1 + k, c3, c4, N', r1.trans q1, by omega, q3, q6, z1, by omega, by rw [z2.1 264 (by decide)]; exact q3, ⟨z3, fun j hj => ⟨?_, ?_, ?_⟩⟩, (e2.trans q5).trans (z2.mono (by decide) (by decide)), hG4, q7, q8, by omega, z4⟩
      · rw [z2.1 272 (by decide), (q4.2 j (by omega)).1, b3, upd_ne (by omega), a3.1 272 (by decide)]
      · rw [z2.1 273 (by decide), (q4.2 j (by omega)).2.1, b4, upd_ne (by omega), a3.1 273 (by decide)]
      · rw [z2.1 274 (by decide), (q4.2 j (by omega)).2.2, b5, upd_ne (by omega), a3.1 274 (by decide)]
end COPER
