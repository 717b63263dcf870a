/-! The class: an if up to its condition's end. -/
section CIF
variable {tk pl vl wi : Nat → Nat} {nm : Nat → Option (Nat × Nat)} {nt : Nat} {ex : Nat → Int32} {N N0 N1 fd lc : Nat} {lit : Nat → Int64} {rg : Nat → Bool} {fz : Nat → Int32} {an dc : Nat} {P : Nat → Prop} {c0 : ms}
/-- two opens in a row: both taken, or a fault -/
theorem open2 {σ : gs} {k : Nat} (h0 : σ.2.2.1 = 0) (hk : tk σ.1 = k) (ha : (gOpen tk pl 40 (gOpen tk pl k σ)).2.2.1 = 0) : tk (σ.1 + 1) = 40 ∧ σ.2.1 + 2 ≤ 60 ∧ gOpen tk pl 40 (gOpen tk pl k σ) = (σ.1 + 2, σ.2.1 + 2, σ.2.2) := by
  rw [gOpen_live h0 hk] at ha ⊢
  by_cases o : 60 ≤ σ.2.1
  · rw [if_pos o, gOpen_dead (by simp)] at ha
    simp at ha
  · rw [if_neg o] at ha ⊢
    by_cases k40 : tk (σ.1 + 1) = 40
    · rw [gOpen_live (σ := (σ.1 + 1, σ.2.1 + 1, σ.2.2)) h0 k40] at ha ⊢
      by_cases o2 : 60 ≤ σ.2.1 + 1
      · rw [if_pos (show 60 ≤ ((σ.1 + 1, σ.2.1 + 1, σ.2.2) : gs).2.1 from o2)] at ha; simp at ha
      · rw [if_neg (show ¬ 60 ≤ ((σ.1 + 1, σ.2.1 + 1, σ.2.2) : gs).2.1 from o2)] at ha ⊢
        exact ⟨k40, by omega, rfl⟩
    · exfalso
      unfold gOpen at ha
      rw [gIs_f (σ := (σ.1 + 1, σ.2.1 + 1, σ.2.2)) k40, if_neg (by decide)] at ha
      unfold gNo at ha
      rw [if_pos (show ((σ.1 + 1, σ.2.1 + 1, σ.2.2) : gs).2.2.1 = 0 from h0)] at ha
      revert ha
      dsimp only
      split <;> decide
/-- the condition's begin: in one move -/
theorem headH {k : Nat} {x y : Int32} {c : ms} {σ : gs} {μ : Option (Nat × Nat)} {sz C md : Nat} {S : Nat → Nat} (hQ : CQ tk pl vl wi nm nt ex N N0 N1 fd lit lc rg an dc P c0) (e : CE2 c0 c) (h0 : σ.2.2.1 = 0) (hG : CG tk pl nt ex c σ) (h4 : c.1 264 0 = 4) (hs : StS rg fz dc c μ sz C md σ.1 S) (hk : tk σ.1 = k) (hkv : vk k = true ∧ k ≠ 403 ∧ k ≠ 404) (hx : x = nI (kap k))
    (hmv : ∀ c1 c2 c3, fn_Tokens_open_Tk N x c = some ((), c1) → fn_Tokens_open_Tk N 40 c1 = some ((), c2) → fn_Grammar_expFor_Gr N y c2 = some ((), c3) → mv N c = some ((), c3)) :
    ((gOpen tk pl 40 (gOpen tk pl k σ)).2.2.1 ≠ 0 ∧ DeadP tk pl nt ex N c σ (gOpen tk pl 40 (gOpen tk pl k σ))) ∨
    (gOpen tk pl 40 (gOpen tk pl k σ) = (σ.1 + 2, σ.2.1 + 2, σ.2.2) ∧ σ.2.1 + 2 ≤ 60 ∧ ∃ c3, Rc N 1 c c3 ∧ c3.1 264 0 = 6 ∧ c3.1 275 0 = nI 0 ∧ c3.1 265 0 = y ∧ CG tk pl nt ex c3 (σ.1 + 2, σ.2.1 + 2, σ.2.2) ∧ Eb [213, 214, 215, 216, 217, 218, 219, 239, 240, 264, 265, 268, 269, 275] [] c c3 ∧ (∀ fp, μ = some fp → Off c3 fp.1 fp.2) ∧ (μ = none → Xc c3 0 sz C ∧ sz ≤ σ.1 + 2)) := by
  obtain ⟨T, hN, -⟩ := hQ
  have alv := hG.alive h0
  obtain ⟨c1, a1, a2, a3⟩ := kopen (N := N) T k hkv hG
  obtain ⟨c2, b1, b2, b3⟩ := kopen (N := N) T 40 (by decide) a2
  rw [← hx] at a1
  have a1' : fn_Tokens_open_Tk N 40 c1 = some ((), c2) := b1
  have ek2 : Eb [213, 214, 215, 216, 217, 218, 219] [] c c2 := a3.trans b3
  by_cases z : (gOpen tk pl 40 (gOpen tk pl k σ)).2.2.1 = 0
  · right
    obtain ⟨z1, z2, z3⟩ := open2 (pl := pl) h0 hk z
    rw [z3] at b2
    have a17 : c2.1 217 0 = nI 0 := b2.alive h0
    obtain ⟨c3, f1, f2, f3, f4, f5, f6, f7, f8⟩ := expFor_C (N := N) (x := y) (μ := μ) (sz := sz) (C := C) b2 h0 ⟨fun fp w => (hs.1 fp w).mono ek2 (by decide) (by decide), fun w => by
      obtain ⟨⟨T0, X⟩, x2, -⟩ := hs.2 w
      exact ⟨⟨T0, X.mono ek2 (by decide) a17⟩, by show sz ≤ σ.1 + 2; omega⟩⟩
    exact ⟨z3, z2, c3, Rc.one alv (by rw [h4]; decide) (hmv c1 c2 c3 a1 a1' f1), f2, f3, f4, f5, (ek2.mono (by decide) (by decide)).trans (f6.mono (by decide) (by decide)), f7, f8⟩
  · left
    refine ⟨z, ?_⟩
    have hG4 : CG tk pl nt ex (upI (upI (upI (upI c2 265 (fun _ => y)) 268 (fun _ => c2.1 215 0)) 269 (fun _ => c2.1 213 0)) 275 (fun _ => 0)) (gOpen tk pl 40 (gOpen tk pl k σ)) := (((b2.upI (by decide)).upI (by decide)).upI (by decide)).upI (by decide)
    have ef : fn_Grammar_expFor_Gr N y c2 = some ((), upI (upI (upI (upI (upI c2 265 (fun _ => y)) 268 (fun _ => c2.1 215 0)) 269 (fun _ => c2.1 213 0)) 275 (fun _ => 0)) 264 (fun _ => 6)) := by
      unfold fn_Grammar_expFor_Gr
      rw [off_expBegins (Or.inr (hG4.dead z)), obind]
    have le : σ.1 ≤ (gOpen tk pl 40 (gOpen tk pl k σ)).1 := by
      have m1 : ∀ (j : Nat) (ρ : gs), ρ.1 ≤ (gOpen tk pl j ρ).1 := fun j ρ => by
        unfold gOpen gNo
        split
        · split
          · exact Nat.le_refl _
          · show ρ.1 ≤ ρ.1 + 1; omega
        · split
          · exact Nat.le_refl _
          · exact Nat.le_refl _
      exact Nat.le_trans (m1 k σ) (m1 40 _)
    exact DeadP.one alv (by rw [h4]; decide) (hmv c1 c2 _ a1 a1' ef) z le (hG4.upI (by decide))
/-- a condition is told: the class is before the statement behind it -/
def IfHead (tk pl : Nat → Nat) (nm : Nat → Option (Nat × Nat)) (nt : Nat) (ex : Nat → Int32) (N : Nat) (rg : Nat → Bool) (fz : Nat → Int32) (dc fd : Nat) (lit : Nat → Int64) (lc : Nat) (c : ms) (σ σ2 : gs) (kd : Nat) (μ : Option (Nat × Nat)) (sz C md : Nat) (S : Nat → Nat) (r : xr) : Prop :=
  ∃ k c', Rc N k c c' ∧ k + 3 ≤ 3 * (σ2.1 - σ.1) ∧ c'.1 264 0 = 4 ∧ CE2 c c' ∧ CG tk pl nt ex c' σ2 ∧ σ2.2.2.1 = 0 ∧ σ2.2.1 = σ.2.1 + 1 ∧ σ.1 + 3 < σ2.1 ∧ c'.1 271 0 = nI (kd + 1) ∧ (∀ j, j < kd → c'.1 270 j = c.1 270 j) ∧ c'.1 270 kd = 140 ∧
  (∀ fp, μ = some fp → Off c' fp.1 fp.2) ∧ (μ = none → ∃ q, r = some q ∧ (∀ f p, q = .inl (f, p) → Off c' f p) ∧ (∀ w t1 L C1, q = .inr (w, t1, L, C1) → t1 + 1 = σ2.1 ∧ (∃ T, Xc c' T (sz + L.length + 1) (C + C1 + w)) ∧ R3 rg fz dc c' S ∧ c'.1 260 0 = nI (md + 1) ∧ c'.1 256 md = nI (sz + L.length) ∧ (∀ k, k < md → c'.1 256 k = c.1 256 k ∧ c'.1 257 k = c.1 257 k ∧ c'.1 258 k = c.1 258 k ∧ c'.1 259 k = c.1 259 k) ∧ c'.1 255 0 = c.1 255 0 ∧ (∀ k, k < sz → c'.2 336 k = c.2 336 k) ∧ cEnc (c'.2 336) fd lit lc sz L ∧ c'.2 336 (sz + L.length) = crw 518 (-1) ∧ Hk 900 L 0 1 ∧ Ty nm L [] [w] ∧ 1 ≤ w ∧ w ≤ 64 ∧ σ.1 + 2 + L.length ≤ t1))
theorem ifH {c : ms} {σ : gs} {μ : Option (Nat × Nat)} {sz C md kd : Nat} {S : Nat → Nat} (hQ : CQ tk pl vl wi nm nt ex N N0 N1 fd lit lc rg an dc P c0) (e : CE2 c0 c) (h0 : σ.2.2.1 = 0) (hG : CG tk pl nt ex c σ) (h4 : c.1 264 0 = 4) (hkd : c.1 271 0 = nI kd) (hk2 : kd ≤ σ.2.1) (hmd : μ = none → md ≤ kd) (hs : StS rg fz dc c μ sz C md σ.1 S) (hk : tk σ.1 = 312) :
    ∃ σ2, ((gE tk pl N1 (gOpen tk pl 40 (gOpen tk pl 312 σ))).bind (fun σ => gShut tk pl 41 σ)) = some σ2 ∧ (DeadS 4 tk pl nt ex N c σ σ2 ∨ IfHead tk pl nm nt ex N rg fz dc fd lit lc c σ σ2 kd μ sz C md S (eF tk pl vl wi nm nt N0 (σ.1 + 2))) := by
  have hQ' := hQ
  obtain ⟨T, hN, hN1, hN0, hS, hl, hn, -⟩ := hQ
  have l1 := T.2.1
  rcases headH (x := 140) (y := 140) (k := 312) hQ' e h0 hG h4 hs hk (by decide) rfl (fun c1 c2 c3 m1 m2 m3 => by
    rw [mv4 h4]
    unfold fn_Grammar_statement_Gr
    rw [if_neg (show ¬ c.1 214 0 = 2 from kneg (k := 400) T hG (by decide) (fun _ => by omega)), if_neg (show ¬ c.1 214 0 = 138 from kneg (k := 310) T hG (by decide) (fun _ => by omega)), if_pos (show c.1 214 0 = 140 from kpos (k := 312) hG h0 hk), m1, obind]
    dsimp only
    rw [m2, obind]
    dsimp only
    rw [m3, obind]) with ⟨dd, dp⟩ | ⟨z3, z2, c3, r1, f2, f3, f4, f5, f6, f7, f8⟩
  · rw [show gE tk pl N1 (gOpen tk pl 40 (gOpen tk pl 312 σ)) = some (gOpen tk pl 40 (gOpen tk pl 312 σ)) from gE_dead2 dd (by omega) (by omega), obind]
    exact ⟨_, gShut_dead dd 41, Or.inl (dp.toS (by omega))⟩
  · rw [z3]
    obtain ⟨σ5, g1, g2⟩ := expS (N0 := N0) (N1 := N1) (c := c3) (σ := (σ.1 + 2, σ.2.1 + 2, σ.2.2)) (sz := sz) (C := C) (μ := μ) hQ' (e.trans (f6.mono (by decide) (by decide))) h0 f5 f2 f3 ⟨f7, f8⟩
    rw [g1, obind]
    rcases g2 with dd | ⟨k, c6, q1, q2, q3, q4, q5, q6, q7, q8, q9⟩
    · exact ⟨σ5, gShut_dead dd.1 41, Or.inl ((dd.toS (e := 3) (by omega)).after r1 (by show 1 + 3 ≤ 4 * (σ.1 + 2 - σ.1) + 4; omega) (by show σ.1 ≤ σ.1 + 2; omega))⟩
    · have q2' : k + 1 ≤ 3 * (σ5.1 - (σ.1 + 2)) := q2
      have q8' : σ.1 + 2 < σ5.1 := q8
      have q7' : σ5.2.1 = σ.2.1 + 2 := q7
      have k265 : c6.1 265 0 = 140 := by rw [q4.1 265 (by decide)]; exact f4
      have ek6 : CE2 c c6 := (f6.mono (by decide) (by decide)).trans (CE.toCE2 q4)
      have c6n : ∀ j, j ∈ [253, 255, 256, 257, 258, 259, 260, 270, 271, 326] → c6.1 j = c.1 j := fun j hj => by
        simp only [List.mem_cons, List.not_mem_nil, or_false] at hj
        rcases hj with rfl | rfl | rfl | rfl | rfl | rfl | rfl | rfl | rfl | rfl <;> rw [q4.1 _ (by decide), f6.1 _ (by decide)]
      obtain ⟨σ6, s2, s3⟩ : ∃ σ6, gShut tk pl 41 σ5 = some σ6 ∧ ((σ6.2.2.1 ≠ 0 ∧ σ6.1 = σ5.1) ∨ σ6 = (σ5.1 + 1, σ5.2.1 - 1, σ5.2.2)) := by
        rcases gShut_cases (tk := tk) (pl := pl) 41 σ5 q6 (by omega) with ⟨-, u⟩ | ⟨-, ρ, u1, u2, u3⟩
        · exact ⟨_, u, Or.inr rfl⟩
        · exact ⟨ρ, u1, Or.inl ⟨u2, u3⟩⟩
      obtain ⟨c7, t1, t2, t3⟩ := kshut (N := N) T 41 (by decide) q5 s2
      have t1' : fn_Tokens_shut_Tk N 41 c6 = some ((), c7) := t1
      have c7kd : c7.1 271 0 = nI kd := by rw [t3.1 271 (by decide), c6n 271 (by decide)]; exact hkd
      have mvb : ∀ c8 c9, fn_Meaning_condition_Me N c7 = some ((), c8) → fn_Grammar_enter_Gr N 140 c8 = some ((), c9) → mv N c6 = some ((), upI c9 264 (fun _ => 4)) := fun c8 c9 m1 m2 => by
        rw [mv8 q3]
        unfold fn_Grammar_behindExp_Gr
        rw [k265, if_neg (by decide), if_neg (by decide), if_pos rfl, t1', obind]
        dsimp only
        rw [m1, obind]
        dsimp only
        rw [m2, obind]
      refine ⟨σ6, s2, ?_⟩
      rcases s3 with ⟨dd, s4⟩ | rfl
      · left
        obtain ⟨c9, m2, m3⟩ := enter_any (N := N) (x := 140) c7kd (by omega)
        have hG9 : CG tk pl nt ex (upI c9 264 (fun _ => 4)) σ6 := (t2.mono m3 (fun k _ _ => by simp; omega) (by decide)).upI (by decide)
        have r2 := (r1.trans q1).trans (Rc.one (q5.alive q6) (by rw [q3]; decide) (mvb c7 c9 (off_condition (Or.inr (t2.dead dd))) m2))
        exact ⟨dd, by omega, 1 + k + 1, _, r2, by omega, hG9⟩
      · right
        have h06 : ((σ5.1 + 1, σ5.2.1 - 1, σ5.2.2) : gs).2.2.1 = 0 := q6
        have a7 : c7.1 217 0 = nI 0 := t2.alive h06
        have fin : ∀ c8, fn_Meaning_condition_Me N c7 = some ((), c8) → Eb [238, 239, 241, 242, 243, 256, 260, 337] [336] c7 c8 → ((∀ fp, μ = some fp → Off c8 fp.1 fp.2) ∧ (μ = none → ∃ q, eF tk pl vl wi nm nt N0 (σ.1 + 2) = some q ∧ (∀ f p, q = .inl (f, p) → Off c8 f p) ∧ (∀ w t1 L C1, q = .inr (w, t1, L, C1) → t1 + 1 = σ5.1 + 1 ∧ (∃ T, Xc c8 T (sz + L.length + 1) (C + C1 + w)) ∧ R3 rg fz dc c8 S ∧ c8.1 260 0 = nI (md + 1) ∧ c8.1 256 md = nI (sz + L.length) ∧ (∀ k, k < md → c8.1 256 k = c.1 256 k ∧ c8.1 257 k = c.1 257 k ∧ c8.1 258 k = c.1 258 k ∧ c8.1 259 k = c.1 259 k) ∧ c8.1 255 0 = c.1 255 0 ∧ (∀ k, k < sz → c8.2 336 k = c.2 336 k) ∧ cEnc (c8.2 336) fd lit lc sz L ∧ c8.2 336 (sz + L.length) = crw 518 (-1) ∧ Hk 900 L 0 1 ∧ Ty nm L [] [w] ∧ 1 ≤ w ∧ w ≤ 64 ∧ σ.1 + 2 + L.length ≤ t1))) → IfHead tk pl nm nt ex N rg fz dc fd lit lc c σ (σ5.1 + 1, σ5.2.1 - 1, σ5.2.2) kd μ sz C md S (eF tk pl vl wi nm nt N0 (σ.1 + 2)) := by
          intro c8 m1 m2 m3
          have c8kd : c8.1 271 0 = nI kd := by rw [m2.1 271 (by decide)]; exact c7kd
          obtain ⟨c9, n1, n2, n3, n4⟩ := enter_C (N := N) (x := 140) c8kd (by omega)
          have r2 := (r1.trans q1).trans (Rc.one (q5.alive q6) (by rw [q3]; decide) (mvb c8 c9 m1 n1))
          have ek : Eb [264, 270, 271] [] c8 (upI c9 264 (fun _ => 4)) := (n4.mono (by decide) (by decide)).upI (by decide)
          have hG9 : CG tk pl nt ex (upI c9 264 (fun _ => 4)) (σ5.1 + 1, σ5.2.1 - 1, σ5.2.2) := (t2.mono m2 (fun k _ _ => by simp; omega) (by decide)).mono ek (fun k _ _ => by simp; omega) (by decide)
          refine ⟨1 + k + 1, _, r2, by show _ ≤ 3 * (σ5.1 + 1 - σ.1); omega, rfl, ((ek6.trans (t3.mono (by decide) (by decide))).trans (m2.mono (by decide) (by decide))).trans (ek.mono (by decide) (by decide)), hG9, h06, by show σ5.2.1 - 1 = σ.2.1 + 1; omega, by show σ.1 + 3 < σ5.1 + 1; omega, n2, fun j hj => ?_, by show c9.1 270 kd = 140; rw [n3, upd_at], fun fp z => (m3.1 fp z).mono ek (by decide) (by decide), fun z => ?_⟩
          · show c9.1 270 j = _
            rw [n3, upd_ne (by omega), m2.1 270 (by decide), t3.1 270 (by decide), c6n 270 (by decide)]
          · obtain ⟨q, w1, w2, w3⟩ := m3.2 z
            refine ⟨q, w1, fun f p y => (w2 f p y).mono ek (by decide) (by decide), fun w t1 L C1 y => ?_⟩
            obtain ⟨x1, ⟨T0, x2⟩, x3, x4, x5, x6, x7, x8, x9, x10, x11⟩ := w3 _ _ _ _ y
            exact ⟨x1, ⟨T0, x2.keep ek (by decide)⟩, x3.of (by rw [ek.1 326 (by decide)]), by rw [ek.1 260 (by decide)]; exact x4, by rw [ek.1 256 (by decide)]; exact x5, fun k hk => by rw [ek.1 256 (by decide), ek.1 257 (by decide), ek.1 258 (by decide), ek.1 259 (by decide)]; exact x6 k hk, by rw [ek.1 255 (by decide)]; exact x7, fun k hk => by rw [ek.2 336 (by decide)]; exact x8 k hk, by rw [ek.2 336 (by decide)]; exact x9, by rw [ek.2 336 (by decide)]; exact x10, x11⟩
        cases hμ : μ with
        | some fp =>
          have o := (q9.1 fp hμ).mono t3 (by decide) (by decide)
          have := fin c7 (off_condition o.off) Eb.rfl ⟨fun q z => (by rw [hμ] at z; cases z; exact o), fun z => (by rw [hμ] at z; cases z)⟩
          rw [hμ] at this; exact this
        | none =>
          obtain ⟨q, w1, w2, w3⟩ := q9.2 hμ
          cases q with
          | inl fp =>
            have o := (w2 fp.1 fp.2 rfl).mono t3 (by decide) (by decide)
            have := fin c7 (off_condition o.off) Eb.rfl ⟨fun q z => (by rw [hμ] at z; cases z), fun _ => ⟨.inl fp, w1, fun f p y => (by cases y; exact o), fun _ _ _ _ y => (by cases y)⟩⟩
            rw [hμ] at this; exact this
          | inr q =>
            obtain ⟨w, tt, L, C1⟩ := q
            obtain ⟨x1, x2, x3, x4, x5, x6, x7, x8, x9, x10⟩ := w3 _ _ _ _ rfl
            have x6' : σ.1 + 2 + L.length ≤ σ5.1 := x6
            obtain ⟨⟨T0, X0⟩, y2, y3, y4⟩ := hs.2 hμ
            have X7 : Xc c7 1 (sz + L.length) (C + C1) := x2.mono t3 (by decide) a7
            have md7 : c7.1 260 0 = nI md := by rw [t3.1 260 (by decide), c6n 260 (by decide)]; exact y4
            have mdl := hmd hμ
            have tn := q5.2.1
            obtain ⟨c8, p1, p2, p3, p4, p5, p6⟩ := condition_C (N := N) (w := w) X7 (by omega) (by rw [t3.1 238 (by decide)]; exact x3) x5 md7 (by omega)
            have row : ∀ k, k < sz + L.length → c8.2 336 k = c6.2 336 k := fun k hk => by rw [p3, updL_ne (by omega), t3.2 336 (by decide)]
            have := fin c8 p1 p6 ⟨fun q z => (by rw [hμ] at z; cases z), fun _ => ⟨.inr (w, tt, L, C1), w1, fun f p y => (by cases y), fun _ _ _ _ y => ?_⟩⟩
            · rw [hμ] at this; exact this
            · cases y
              refine ⟨by rw [x1], ⟨0, p2⟩, y3.of (by rw [p6.1 326 (by decide), t3.1 326 (by decide), c6n 326 (by decide)]), p5, by rw [p4, upd_at], fun k hk => ?_, ?_, fun k hk => ?_, x8.mono row, ?_, x9, x10, x4, x5, by rw [x1]; exact x6'⟩
              · rw [p4, upd_ne (by omega), p6.1 257 (by decide), p6.1 258 (by decide), p6.1 259 (by decide), t3.1 256 (by decide), t3.1 257 (by decide), t3.1 258 (by decide), t3.1 259 (by decide), c6n 256 (by decide), c6n 257 (by decide), c6n 258 (by decide), c6n 259 (by decide)]
                exact ⟨rfl, rfl, rfl, rfl⟩
              · rw [p6.1 255 (by decide), t3.1 255 (by decide), c6n 255 (by decide)]
              · rw [row k (by omega), x7 k hk, f6.2 336 (by decide)]
              · rw [p3, updL_at]
end CIF
