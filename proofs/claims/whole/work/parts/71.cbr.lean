/-! The class's braces. -/
section CBR
variable {tk pl vl wi : Nat → Nat} {nm : Nat → Option (Nat × Nat)} {nt : Nat} {ex : Nat → Int32} {N N0 N1 fd lc : Nat} {lit : Nat → Int64}
def nuo : Sum (Nat × Nat) (Nat × List aop × Nat) → Option (Nat × Nat)
  | .inl fp => some fp
  | .inr _ => none
/-- the way through braces with commas: an exp is told, the move at its end goes on with closeBrace -/
theorem br_loop {m : Nat} {c : ms} {σ : gs} {h T sz C0 D E p : Nat} (Tk : Tv tk pl nt) (hE : ExpC tk pl vl wi nm nt ex N N0 N1 fd lit lc m) (hN : 100 < N) (hD : 3 * m + 2 ≤ D) (hE2 : 5 * m ≤ E) (hm : σ.2.1 + m + 1 = 61) (hS : CS tk pl vl wi nm nt ex N fd lit lc c) (hh2 : h ≤ 12 * σ.2.1 + 11) (hT : T ≤ 12 * σ.2.1 + 11) :
    ∀ (n n0 k0 : Nat) (c1 c3 : ms) (σ2 : gs) (ν : Sum (Nat × Nat) (Nat × List aop × Nat)), nt < σ2.1 + n → nt < σ2.1 + n0 → Rc N k0 c c1 → k0 + 1 ≤ 3 * (σ2.1 - σ.1) → c1.1 217 0 = 0 → c1.1 264 0 = 7 → mv N c1 = fn_Grammar_closeBrace_Gr N (nI h) c3 → c3.1 264 0 = 7 → HoldL c c3 h ∨ (c3.1 275 0 = nI (h + 1) ∧ (∀ k, k < h → c3.1 272 k = c.1 272 k ∧ c3.1 273 k = c.1 273 k ∧ c3.1 274 k = c.1 274 k) ∧ c3.1 273 h = nI p) → c3.1 275 0 = nI (h + 1) → CE c c3 → CG tk pl nt ex c3 σ2 → σ2.2.2.1 = 0 → σ2.2.1 = σ.2.1 + 1 → σ.1 < σ2.1 →
      (∀ fp, ν = .inl fp → Off c3 fp.1 fp.2) → (∀ u L C, ν = .inr (u, L, C) → MJ fd lit lc c T sz C0 c3 u [] L C ∧ 1 ≤ u ∧ sz + L.length ≤ σ2.1 ∧ σ.1 + L.length ≤ σ2.1) →
      ∃ σ', gBl tk pl (gG tk pl N1 D).1 n σ2 = some σ' ∧ (DeadP tk pl nt ex N c σ σ' ∨ ∃ k c4, Rc N k c c4 ∧ k + 2 ≤ 3 * (σ'.1 - σ.1) ∧ c4.1 264 0 = 7 ∧ HoldL c c4 h ∧ CE c c4 ∧ CG tk pl nt ex c4 σ' ∧ σ'.2.2.1 = 0 ∧ σ'.2.1 = σ.2.1 ∧ σ.1 < σ'.1 ∧ (∀ fp, ν = .inl fp → Off c4 fp.1 fp.2) ∧ (∀ u L C, ν = .inr (u, L, C) → ∃ q, eJl tk nt (eG tk pl vl wi nm nt N0 E).1 p n0 u σ2.1 L C = some q ∧ (∀ f p, q = .inl (f, p) → Off c4 f p) ∧ (∀ w t' L' C', q = .inr (w, t', L', C') → t' = σ'.1 ∧ σ.1 + L'.length ≤ σ'.1 ∧ 1 ≤ w ∧ w ≤ 64 ∧ MO fd lit lc c T sz C0 c4 [w] L' C'))) := by
  have l1 := Tk.2.1
  intro n
  induction n with
  | zero => intro n0 k0 c1 c3 σ2 ν h1 h2 _ _ _ _ _ _ _ _ _ hG; have := hG.2.1; omega
  | succ n ih =>
    intro n0 k0 c1 c3 σ2 ν h1 h2 r0 hk0 h17 h64 hmv h643 hold h75 e3 hG h0 hd hlt ho hj
    obtain ⟨n0, rfl⟩ : ∃ n', n0 = n' + 1 := ⟨n0 - 1, by have := hG.2.1; omega⟩
    have d60 : σ2.2.1 ≤ 60 := (hG.2.2.2.1 h0).2.2.2.2.2.2
    have holdR : (∀ k, k < h → c3.1 272 k = c.1 272 k ∧ c3.1 273 k = c.1 273 k ∧ c3.1 274 k = c.1 274 k) ∧ c3.1 273 h = nI p := by
      rcases hold with z | z
      · have := z.1; rw [h75] at this; have := (nI_eq (by omega) (by omega)).mp this; omega
      · exact z.2
    show ∃ σ', (if gIs tk 44 σ2 then ((gG tk pl N1 D).1 (gInc σ2)).bind (gBl tk pl (gG tk pl N1 D).1 n) else gShut tk pl 125 σ2) = some σ' ∧ _
    by_cases c44 : tk σ2.1 = 44
    · rw [gIs_t h0 c44, if_pos rfl]
      have t1n := Tk.more hG.2.1 c44 (by decide) (by decide)
      obtain ⟨c4, a1, a2, a3⟩ := ktake (N := N) Tk hG (fun _ => t1n)
      rw [if_pos h0] at a2
      have mvs : mv N c1 = some ((), upI (upI c4 272 (upd (c4.1 272) h 44)) 264 (fun _ => 6)) := by
        rw [hmv]
        unfold fn_Grammar_closeBrace_Gr
        rw [if_pos (show c3.1 214 0 = 44 from kpos (k := 44) hG h0 c44), a1, obind, if_neg (nI_in (show h < 1024 by omega) (by decide)), nI_clamp (by omega)]
      have r1 := r0.trans (Rc.one h17 (by rw [h64]; decide) mvs)
      have ek : Eb [213, 214, 215, 216, 217, 218, 219, 264, 272] [] c3 (upI (upI c4 272 (upd (c4.1 272) h 44)) 264 (fun _ => 6)) := ((a3.mono (by decide) (by decide)).upI (by decide)).upI (by decide)
      have e5 : CE c (upI (upI c4 272 (upd (c4.1 272) h 44)) 264 (fun _ => 6)) := e3.trans (ek.mono (by decide) (by decide))
      have hG5 : CG tk pl nt ex (upI (upI c4 272 (upd (c4.1 272) h 44)) 264 (fun _ => 6)) (gInc σ2) := (a2.upI (by decide)).upI (by decide)
      have k75 : (upI (upI c4 272 (upd (c4.1 272) h 44)) 264 (fun _ => 6)).1 275 0 = nI (h + 1) := by show c4.1 275 0 = _; rw [a3.1 275 (by decide)]; exact h75
      have k44 : (upI (upI c4 272 (upd (c4.1 272) h 44)) 264 (fun _ => 6)).1 272 h = 44 := upd_at _ _ _
      obtain ⟨c5, hc5⟩ : ∃ c5, c5 = upI (upI c4 272 (upd (c4.1 272) h 44)) 264 (fun _ => 6) := ⟨_, rfl⟩
      have lo5 : (∀ k, k < h → c5.1 272 k = c.1 272 k ∧ c5.1 273 k = c.1 273 k ∧ c5.1 274 k = c.1 274 k) ∧ c5.1 273 h = nI p := by
        rw [hc5]
        refine ⟨fun k hk => ⟨?_, ?_, ?_⟩, ?_⟩
        · show upd (c4.1 272) h 44 k = _
          rw [upd_ne (by omega), a3.1 272 (by decide)]; exact (holdR.1 k hk).1
        · show c4.1 273 k = _
          rw [a3.1 273 (by decide)]; exact (holdR.1 k hk).2.1
        · show c4.1 274 k = _
          rw [a3.1 274 (by decide)]; exact (holdR.1 k hk).2.2
        · show c4.1 273 h = _
          rw [a3.1 273 (by decide)]; exact holdR.2
      have h65 : c5.1 264 0 = 6 := by rw [hc5]; rfl
      rw [← hc5] at r1 ek e5 hG5 k75 k44
      clear hc5
      -- the status before the next exp
      obtain ⟨μ', hμ'⟩ : ∃ μ' : Option (Nat × Nat), μ' = nuo ν := ⟨_, rfl⟩
      have C1 : ∃ C1, ∀ u L C, ν = .inr (u, L, C) → C1 = C0 + C := by
        cases ν with
        | inl fp => exact ⟨0, fun u L C z => by cases z⟩
        | inr q => exact ⟨C0 + q.2.2, fun u L C z => by cases z; rfl⟩
      obtain ⟨C1, hC1⟩ := C1
      have S1 : ∃ S1, ∀ u L C, ν = .inr (u, L, C) → S1 = sz + L.length := by
        cases ν with
        | inl fp => exact ⟨0, fun u L C z => by cases z⟩
        | inr q => exact ⟨sz + q.2.1.length, fun u L C z => by cases z; rfl⟩
      obtain ⟨S1, hS1⟩ := S1
      have st : Stat c5 μ' (T + 1) S1 C1 (12 * (gInc σ2).2.1) (gInc σ2).1 := by
        refine ⟨fun fp z => ?_, fun z => ?_⟩
        · cases ν with
          | inl fp' =>
            rw [hμ'] at z; cases z
            exact (ho fp rfl).mono ek (by decide) (by decide)
          | inr q => rw [hμ'] at z; cases z
        · cases ν with
          | inl fp' => rw [hμ'] at z; cases z
          | inr q =>
            obtain ⟨j1, j2, j3, j4⟩ := hj q.1 q.2.1 q.2.2 rfl
            rw [hC1 _ _ _ rfl, hS1 _ _ _ rfl]
            have := j1.mono ek (by decide) (by decide) (by decide) (hG5.alive h0)
            exact ⟨this.1, by show T + 1 ≤ 12 * σ2.2.1; omega, by show sz + q.2.1.length ≤ σ2.1 + 1; omega⟩
      obtain ⟨σ3, g1, g2⟩ := hE D E c5 (gInc σ2) (h + 1) μ' (T + 1) S1 C1 hD hE2 (by show σ2.2.1 + m = 61; omega) h0 (hS.mono e5) hG5 h65 k75 (by show h + 1 ≤ 12 * σ2.2.1; omega) (Or.inr (by rw [Nat.add_sub_cancel, k44]; decide)) st
      rw [g1]
      show ∃ σ', gBl tk pl (gG tk pl N1 D).1 n σ3 = some σ' ∧ _
      rcases g2 with dd | ep
      · refine ⟨σ3, ?_, Or.inl (dd.after r1 (by show k0 + 1 ≤ 3 * (σ2.1 + 1 - σ.1); omega) (by show σ.1 ≤ σ2.1 + 1; omega))⟩
        cases n with
        | zero => have := hG5.2.1; have : σ2.1 + 1 < nt := this; omega
        | succ n =>
          show (if gIs tk 44 σ3 then _ else _) = _
          rw [gIs_dead dd.1, if_neg (by decide)]
          exact gShut_dead dd.1 125
      · obtain ⟨k, c6, c7, f, q1, q2, q3, q4, q5, q6, q7, q8, q9, q10, q11, q12, q13, q14, q15, q16⟩ := ep
        have q2' : k + 2 ≤ 3 * (σ3.1 - (σ2.1 + 1)) := q2
        have q6' : N + σ2.2.1 ≤ f + 61 := q6
        have q12' : σ3.2.1 = σ2.2.1 := q12
        have q13' : σ2.1 + 1 < σ3.1 := q13
        obtain ⟨f, rfl⟩ : ∃ f', f = f' + 1 := ⟨f - 1, by omega⟩
        have k44' : c7.1 272 h = 44 := by rw [(q8.2 h (by omega)).1]; exact k44
        have cl : ∀ c8, fn_Checker_join_Ch N c7 = some ((), c8) → mv N c6 = fn_Grammar_closeBrace_Gr N (nI h) c8 := by
          intro c8 y1
          rw [q5, hd100_stop (h := h) (by omega) q8.1 (by rw [k44']; decide)]
          unfold fn_Grammar_close_Gr
          rw [if_neg (nI_in (show h < 1024 by omega) (by decide)), nI_clamp (by omega), k44', if_neg (by decide), if_pos rfl, y1, obind]
          dsimp only
          cases fn_Grammar_closeBrace_Gr N (nI h) c8 with
          | none => rfl
          | some x => rfl
        have al7 := q10.alive q11
        -- the sum goes on
        have jn : ∃ (c8 : ms) (ν' : Sum (Nat × Nat) (Nat × List aop × Nat)), fn_Checker_join_Ch N c7 = some ((), c8) ∧ XE c7 c8 ∧ (∀ fp, ν' = .inl fp → Off c8 fp.1 fp.2) ∧ (∀ u L C, ν' = .inr (u, L, C) → MJ fd lit lc c T sz C0 c8 u [] L C ∧ 1 ≤ u ∧ sz + L.length ≤ σ3.1 ∧ σ.1 + L.length ≤ σ3.1) ∧ (∀ fp, ν = .inl fp → ν' = .inl fp) ∧ (∀ u L C, ν = .inr (u, L, C) → ∃ q, (eG tk pl vl wi nm nt N0 E).1 (σ2.1 + 1) = some q ∧ (∀ f p, q = .inl (f, p) → ν' = .inl (f, p)) ∧ (∀ w t' L2 C2, q = .inr (w, t', L2, C2) → t' = σ3.1 ∧ ν' = .inr (u + w, L ++ L2 ++ [(7, w, 0)], C + C2))) := by
          have off : ∀ f p, Off c7 f p → ∃ c8, fn_Checker_join_Ch N c7 = some ((), c8) ∧ XE c7 c8 ∧ Off c8 f p := fun f p o => ⟨c7, off_join o.off, Eb.rfl, o⟩
          cases ν with
          | inl fp =>
            obtain ⟨c8, y1, y2, y3⟩ := off _ _ (q16.1 fp hμ')
            exact ⟨c8, .inl fp, y1, y2, fun fp' z => (by cases z; exact y3), fun u L C z => (by cases z), fun fp' z => (by cases z; rfl), fun u L C z => (by cases z)⟩
          | inr uLC =>
            obtain ⟨u, L, C⟩ := uLC
            obtain ⟨q, w1, w2, w3⟩ := q16.2 hμ'
            match q, w1, w2, w3 with
            | .inl (f, p'), w1, w2, _ =>
              obtain ⟨c8, y1, y2, y3⟩ := off _ _ (w2 f p' rfl)
              exact ⟨c8, .inl (f, p'), y1, y2, fun fp' z => (by cases z; exact y3), fun u L C z => (by cases z), fun fp' z => (by cases z), fun u' L' C' z => ⟨_, w1, fun f'' p'' z => (by cases z; rfl), fun _ _ _ _ z => (by cases z)⟩⟩
            | .inr (w, t', L2, C2), w1, _, w3 =>
              obtain ⟨v1, v2, v3, v4, v5⟩ := w3 _ _ _ _ rfl
              obtain ⟨j1, j2, j3, j4⟩ := hj u L C rfl
              have j5 := j1.mono ek (by decide) (by decide) (by decide) (hG5.alive h0)
              rw [hC1 _ _ _ rfl, hS1 _ _ _ rfl] at v5
              have sn := q10.2.1
              have v2' : σ2.1 + 1 + L2.length ≤ σ3.1 := v2
              obtain ⟨c8, y1, y2, y3⟩ := j5.join (N := N) (ws := []) v5 (by omega)
              refine ⟨c8, .inr (u + w, L ++ L2 ++ [(7, w, 0)], C + C2), y1, y3, fun fp' z => (by cases z), fun u' L' C' z => ?_, fun fp' z => (by cases z), fun u' L' C' z => ?_⟩
              · cases z
                exact ⟨y2, by omega, by simp; omega, by simp; omega⟩
              · cases z
                exact ⟨_, w1, fun f'' p'' z => (by cases z), fun _ _ _ _ z => (by cases z; exact ⟨v1, rfl⟩)⟩
        obtain ⟨c8, ν', y1, y2, y3, y4, y5, y6⟩ := jn
        have e8 : CE c c8 := (e5.trans q9).trans (y2.mono (by decide) (by decide))
        have hG8 : CG tk pl nt ex c8 σ3 := q10.mono y2 (fun k _ _ => by simp; omega) (by decide)
        obtain ⟨σ', z1, z2⟩ := ih n0 (k0 + 1 + k) c6 c8 σ3 ν' (by omega) (by omega) (r1.trans q1) (by omega) q3 q4 (cl c8 y1) (by rw [y2.1 264 (by decide)]; exact q7) (Or.inr ⟨by rw [y2.1 275 (by decide)]; exact q8.1, fun k hk => ⟨by rw [y2.1 272 (by decide), (q8.2 k (by omega)).1]; exact (lo5.1 k hk).1, by rw [y2.1 273 (by decide), (q8.2 k (by omega)).2.1]; exact (lo5.1 k hk).2.1, by rw [y2.1 274 (by decide), (q8.2 k (by omega)).2.2]; exact (lo5.1 k hk).2.2⟩, by rw [y2.1 273 (by decide), (q8.2 h (by omega)).2.1]; exact lo5.2⟩) (by rw [y2.1 275 (by decide)]; exact q8.1) e8 hG8 q11 (by omega) (by omega) y3 y4
        refine ⟨σ', z1, ?_⟩
        rcases z2 with z2 | ⟨k', c9, o1, o2, o3, o4, o5, o6, o7, o8, o9, o10, o11⟩
        · exact Or.inl z2
        · refine Or.inr ⟨k', c9, o1, o2, o3, o4, o5, o6, o7, o8, o9, fun fp z => o10 fp (y5 fp z), fun u L C z => ?_⟩
          obtain ⟨q, x1, x2, x3⟩ := y6 u L C z
          unfold eJl
          rw [if_neg (show ¬ nt ≤ σ2.1 by have := hG.2.1; omega), if_pos c44, x1]
          match q, x2, x3 with
          | .inl (f, p'), x2, _ =>
            refine ⟨_, rfl, fun f'' p'' e' => ?_, fun _ _ _ _ e' => (by cases e')⟩
            cases e'
            exact o10 _ (x2 f p' rfl)
          | .inr (w, t', L2, C2), _, x3 =>
            obtain ⟨x4, x5⟩ := x3 _ _ _ _ rfl
            subst x4
            exact o11 _ _ _ x5
    · rw [gIs_f c44, if_neg (by decide)]
      have k273 := holdR.2
      have mvs : ∀ c5 c6, fn_Tokens_shut_Tk N 125 c3 = some ((), c5) → F7 c3 c5 → fn_Checker_braces_Ch N (nI p) c5 = some ((), c6) → mv N c1 = some ((), upI c6 275 (fun _ => c6.1 275 0 - 1)) := by
        intro c5 c6 x1 x2 x3
        rw [hmv]
        unfold fn_Grammar_closeBrace_Gr
        rw [if_neg (show ¬ c3.1 214 0 = 44 from kneg (k := 44) Tk hG (by decide) (fun _ => c44)), x1, obind, if_neg (nI_in (show h < 1024 by omega) (by decide)), nI_clamp (by omega)]
        dsimp only
        rw [x2.1 273 (by decide), k273, x3, obind]
      rcases gShut_cases (tk := tk) (pl := pl) 125 σ2 h0 (by omega) with ⟨u1, u2⟩ | ⟨u1, σ3, u2, u3, u4⟩
      · obtain ⟨c5, t1, t2, t3⟩ := kshut (N := N) Tk 125 (by decide) hG u2
        refine ⟨_, u2, Or.inr ?_⟩
        have al5 := t2.alive (show (σ2.1 + 1, σ2.2.1 - 1, σ2.2.2).2.2.1 = 0 from h0)
        have br : ∃ c6, fn_Checker_braces_Ch N (nI p) c5 = some ((), c6) ∧ XE c5 c6 ∧ (∀ fp, ν = .inl fp → Off c6 fp.1 fp.2) ∧ (∀ u L C, ν = .inr (u, L, C) → (64 < u → Off c6 30 p) ∧ (u ≤ 64 → MO fd lit lc c T sz C0 c6 [u] L C)) := by
          cases ν with
          | inl fp =>
            have o := (ho fp rfl).mono t3 (by decide) (by decide)
            exact ⟨c5, off_braces o.off, Eb.rfl, fun fp' z => (by cases z; exact o), fun u L C z => (by cases z)⟩
          | inr uLC =>
            obtain ⟨u, L, C⟩ := uLC
            obtain ⟨j1, j2, j3, j4⟩ := hj u L C rfl
            have j5 := j1.mono (c' := c5) t3 (by decide) (by decide) (by decide) al5
            obtain ⟨b1, b2⟩ := j5.brace (N := N) (p := p) j2
            by_cases z : u ≤ 64
            · obtain ⟨c6, x1, x2, x3⟩ := b1 z
              exact ⟨c6, x1, x3, fun fp' z => (by cases z), fun u' L' C' e => (by cases e; exact ⟨fun y => by omega, fun _ => x2⟩)⟩
            · obtain ⟨c6, x1, x2, x3⟩ := b2 (by omega)
              exact ⟨c6, x1, x3, fun fp' z => (by cases z), fun u' L' C' e => (by cases e; exact ⟨fun _ => x2, fun y => by omega⟩)⟩
        obtain ⟨c6, x1, x2, x3, x4⟩ := br
        have r2 := r0.trans (Rc.one h17 (by rw [h64]; decide) (mvs c5 c6 t1 t3 x1))
        have hG6 : CG tk pl nt ex c6 (σ2.1 + 1, σ2.2.1 - 1, σ2.2.2) := t2.mono x2 (fun k _ _ => by simp; omega) (by decide)
        have ek6 : Eb [275] [] c6 (upI c6 275 (fun _ => c6.1 275 0 - 1)) := Eb.rfl.upI (by decide)
        refine ⟨k0 + 1, _, r2, by show k0 + 1 + 2 ≤ 3 * (σ2.1 + 1 - σ.1); omega, by show c6.1 264 0 = 7; rw [x2.1 264 (by decide), t3.1 264 (by decide)]; exact h643, ⟨?_, fun j hj => ⟨?_, ?_, ?_⟩⟩, ((e3.trans (t3.mono (by decide) (by decide))).trans (x2.mono (by decide) (by decide))).upI (by decide), hG6.upI (by decide), h0, by show σ2.2.1 - 1 = σ.2.1; omega, by show σ.1 < σ2.1 + 1; omega, fun fp z => (x3 fp z).mono ek6 (by decide) (by decide), fun u L C z => ?_⟩
        · show c6.1 275 0 - 1 = nI h
          rw [x2.1 275 (by decide), t3.1 275 (by decide), h75, nI_pred]
        · show c6.1 272 j = _
          rw [x2.1 272 (by decide), t3.1 272 (by decide)]; exact (holdR.1 j hj).1
        · show c6.1 273 j = _
          rw [x2.1 273 (by decide), t3.1 273 (by decide)]; exact (holdR.1 j hj).2.1
        · show c6.1 274 j = _
          rw [x2.1 274 (by decide), t3.1 274 (by decide)]; exact (holdR.1 j hj).2.2
        · obtain ⟨j1, j2, j3, j4⟩ := hj u L C z
          obtain ⟨y1, y2⟩ := x4 u L C z
          unfold eJl
          rw [if_neg (show ¬ nt ≤ σ2.1 by have := hG.2.1; omega), if_neg c44]
          by_cases w : 64 < u
          · rw [if_pos w]
            refine ⟨_, rfl, fun f p' e' => ?_, fun _ _ _ _ e' => (by cases e')⟩
            cases e'
            exact (y1 w).mono ek6 (by decide) (by decide)
          · rw [if_neg w]
            refine ⟨_, rfl, fun f p' e' => (by cases e'), fun _ _ _ _ e' => ?_⟩
            cases e'
            exact ⟨rfl, by show σ.1 + L.length ≤ σ2.1 + 1; omega, j2, by omega, (y2 (by omega)).mono ek6 (by decide) (by decide) (by decide) (hG6.alive h0)⟩
      · obtain ⟨c5, t1, t2, t3⟩ := kshut (N := N) Tk 125 (by decide) hG u2
        have r2 := r0.trans (Rc.one h17 (by rw [h64]; decide) (mvs c5 c5 t1 t3 (off_braces (Or.inr (t2.dead u3)))))
        exact ⟨σ3, u2, Or.inl ⟨u3, by omega, k0 + 1, _, r2, by omega, t2.upI (by decide)⟩⟩
end CBR
