/-! The class: a case, and all statements. -/
section CCASE
variable {tk pl vl wi : Nat → Nat} {nm : Nat → Option (Nat × Nat)} {nt : Nat} {ex : Nat → Int32} {N N0 N1 fd lc : Nat} {lit : Nat → Int64} {rg : Nat → Bool} {fz : Nat → Int32} {an dc : Nat} {P : Nat → Prop} {c0 : ms}
theorem case_C {m Dg Ds : Nat} {c : ms} {σ : gs} {μ : Option (Nat × Nat)} {sz C md kd : Nat} {S : Nat → Nat} (hQ : CQ tk pl vl wi nm nt ex N N0 N1 fd lit lc rg an dc P c0) (hI : StmC tk pl vl wi nm nt ex N N0 N1 fd lit lc rg fz an dc P c0 m) (hDg : 2 * m ≤ Dg) (hDs : 2 * m ≤ Ds) (hm : σ.2.1 + m + 1 = 61) (h0 : σ.2.2.1 = 0) (e : CE2 c0 c) (hG : CG tk pl nt ex c σ) (h4 : c.1 264 0 = 4) (hkd : c.1 271 0 = nI kd) (hk2 : kd ≤ σ.2.1) (hmd : μ = none → md ≤ kd) (hs : StS rg fz dc c μ sz C md σ.1 S) (hk : tk σ.1 = 314) :
    ∃ σ', gC1 tk pl N1 (gT tk pl N1 Dg).1 σ = some σ' ∧ (DeadS 4 tk pl nt ex N c σ σ' ∨ StPost tk pl nt ex N rg fz dc fd lit lc P c σ σ' kd μ sz C md (sCa tk pl vl wi nm nt N0 (sT tk pl vl wi nm nt rg N0 an Ds).1 σ.1 S)) := by
  have hQ' := hQ
  obtain ⟨T, hN, hN1, hN0, hS, hl, hn, -⟩ := hQ
  have l1 := T.2.1
  unfold gC1
  rcases headH (x := 142) (y := 142) (k := 314) hQ' e h0 hG h4 hs hk (by decide) rfl (fun c1 c2 c3 m1 m2 m3 => by
    rw [mv4 h4]
    unfold fn_Grammar_statement_Gr
    rw [if_neg (show ¬ c.1 214 0 = 2 from kneg (k := 400) T hG (by decide) (fun _ => by omega)), if_neg (show ¬ c.1 214 0 = 138 from kneg (k := 310) T hG (by decide) (fun _ => by omega)), if_neg (show ¬ c.1 214 0 = 140 from kneg (k := 312) T hG (by decide) (fun _ => by omega)), if_pos (show c.1 214 0 = 142 from kpos (k := 314) hG h0 hk), m1, obind]
    dsimp only
    rw [m2, obind]
    dsimp only
    rw [m3, obind]) with ⟨dd, dp⟩ | ⟨z3, z2, c3, r1, f2, f3, f4, f5, f6, f7, f8⟩
  · rw [show gE tk pl N1 (gOpen tk pl 40 (gOpen tk pl 314 σ)) = some (gOpen tk pl 40 (gOpen tk pl 314 σ)) from gE_dead2 dd (by omega) (by omega), obind, gShut_dead dd 41, obind]
    exact ⟨_, gCl_dead dd (by omega), Or.inl (dp.toS (by omega))⟩
  · rw [z3]
    obtain ⟨σ5, g1, g2⟩ := expS (N0 := N0) (N1 := N1) (c := c3) (σ := (σ.1 + 2, σ.2.1 + 2, σ.2.2)) (sz := sz) (C := C) (μ := μ) hQ' (e.trans (f6.mono (by decide) (by decide))) h0 f5 f2 f3 ⟨f7, f8⟩
    rw [g1, obind]
    rcases g2 with dd | ⟨k, c6, q1, q2, q3, q4, q5, q6, q7, q8, q9⟩
    · rw [gShut_dead dd.1 41, obind]
      exact ⟨σ5, gCl_dead dd.1 (by omega), Or.inl ((dd.toS (e := 3) (by omega)).after r1 (by show 1 + 3 ≤ 4 * (σ.1 + 2 - σ.1) + 4; omega) (by show σ.1 ≤ σ.1 + 2; omega))⟩
    · have q2' : k + 1 ≤ 3 * (σ5.1 - (σ.1 + 2)) := q2
      have q8' : σ.1 + 2 < σ5.1 := q8
      have q7' : σ5.2.1 = σ.2.1 + 2 := q7
      have k265 : c6.1 265 0 = 142 := by rw [q4.1 265 (by decide)]; exact f4
      have ek6 : CE2 c c6 := (f6.mono (by decide) (by decide)).trans (CE.toCE2 q4)
      have c6n : ∀ j, j ∈ [253, 255, 256, 257, 258, 259, 260, 270, 271, 326] → c6.1 j = c.1 j := fun j hj => by
        simp only [List.mem_cons, List.not_mem_nil, or_false] at hj
        rcases hj with rfl | rfl | rfl | rfl | rfl | rfl | rfl | rfl | rfl | rfl <;> rw [q4.1 _ (by decide), f6.1 _ (by decide)]
      obtain ⟨σ6, s2, s3⟩ : ∃ σ6, gShut tk pl 41 σ5 = some σ6 ∧ ((σ6.2.2.1 ≠ 0 ∧ σ6.1 = σ5.1) ∨ σ6 = (σ5.1 + 1, σ5.2.1 - 1, σ5.2.2)) := by
        rcases gShut_cases (tk := tk) (pl := pl) 41 σ5 q6 (by omega) with ⟨-, u⟩ | ⟨-, ρ, u1, u2, u3⟩
        · exact ⟨_, u, Or.inr rfl⟩
        · exact ⟨ρ, u1, Or.inl ⟨u2, u3⟩⟩
      obtain ⟨c7, t1, t2, t3⟩ := kshut (N := N) T 41 (by decide) q5 s2
      have t1' : fn_Tokens_shut_Tk N 41 c6 = some ((), c7) := t1
      have c7kd : c7.1 271 0 = nI kd := by rw [t3.1 271 (by decide), c6n 271 (by decide)]; exact hkd
      have mvb : ∀ c8 c9, fn_Meaning_choice_Me N c7 = some ((), c8) → fn_Grammar_enter_Gr N 142 c8 = some ((), c9) → mv N c6 = some ((), upI c9 264 (fun _ => 5)) := fun c8 c9 m1 m2 => by
        rw [mv8 q3]
        unfold fn_Grammar_behindExp_Gr
        rw [k265, if_neg (by decide), if_neg (by decide), if_neg (by decide), if_pos rfl, t1', obind]
        dsimp only
        rw [m1, obind]
        dsimp only
        rw [m2, obind]
      rw [s2, obind]
      rcases s3 with ⟨dd, s4⟩ | rfl
      · obtain ⟨c9, m2, m3⟩ := enter_any (N := N) (x := 142) c7kd (by omega)
        have hG9 : CG tk pl nt ex (upI c9 264 (fun _ => 5)) σ6 := (t2.mono m3 (fun k _ _ => by simp; omega) (by decide)).upI (by decide)
        have r2 := (r1.trans q1).trans (Rc.one (q5.alive q6) (by rw [q3]; decide) (mvb c7 c9 (off_choice (Or.inr (t2.dead dd))) m2))
        exact ⟨σ6, gCl_dead dd (by omega), Or.inl ⟨dd, by omega, 1 + k + 1, _, r2, by omega, hG9⟩⟩
      · have h06 : ((σ5.1 + 1, σ5.2.1 - 1, σ5.2.2) : gs).2.2.1 = 0 := q6
        have a7 : c7.1 217 0 = nI 0 := t2.alive h06
        have fin : ∀ (c8 : ms) (μ3 : Option (Nat × Nat)) (sz3 C3 w : Nat), fn_Meaning_choice_Me N c7 = some ((), c8) → MB c7 c8 → (μ3 = none → md ≤ kd) → w ≤ 64 → CasS rg fz dc c8 μ3 sz3 C3 w md (σ5.1 + 1) S [] → (∀ (c' : ms) (σ' : gs), OutC rg fz dc fd lit lc P c8 c' μ3 sz3 C3 md σ'.2.1 (σ5.1 + 1) σ'.1 [] (sCl tk pl vl wi nt N0 (sT tk pl vl wi nm nt rg N0 an Ds).1 w N0 (σ5.1 + 1) S) → σ'.2.1 = σ.2.1 → OutS 2 rg fz dc fd lit lc P c c' μ sz C md σ.2.1 σ.1 σ'.1 (sCa tk pl vl wi nm nt N0 (sT tk pl vl wi nm nt rg N0 an Ds).1 σ.1 S)) →
            ∃ σ', gCl tk pl N1 (gT tk pl N1 Dg).1 N1 (σ5.1 + 1, σ5.2.1 - 1, σ5.2.2) = some σ' ∧ (DeadS 4 tk pl nt ex N c σ σ' ∨ StPost tk pl nt ex N rg fz dc fd lit lc P c σ σ' kd μ sz C md (sCa tk pl vl wi nm nt N0 (sT tk pl vl wi nm nt rg N0 an Ds).1 σ.1 S)) := by
          intro c8 μ3 sz3 C3 w m1 m2 m3 m3b m4 m5
          have c8kd : c8.1 271 0 = nI kd := by rw [m2.1 271 (by decide)]; exact c7kd
          obtain ⟨c9, n1, n2, n3, n4⟩ := enter_C (N := N) (x := 142) c8kd (by omega)
          have r2 := (r1.trans q1).trans (Rc.one (q5.alive q6) (by rw [q3]; decide) (mvb c8 c9 m1 n1))
          have ek : Eb [264, 270, 271] [] c8 (upI c9 264 (fun _ => 5)) := (n4.mono (by decide) (by decide)).upI (by decide)
          have hG9 : CG tk pl nt ex (upI c9 264 (fun _ => 5)) (σ5.1 + 1, σ5.2.1 - 1, σ5.2.2) := (t2.mono m2 (fun k _ _ => by simp; omega) (by decide)).mono ek (fun k _ _ => by simp; omega) (by decide)
          have e9 : CE2 c (upI c9 264 (fun _ => 5)) := ((ek6.trans (t3.mono (by decide) (by decide))).trans (m2.mono (by decide) (by decide))).trans (ek.mono (by decide) (by decide))
          have st9 : CasS rg fz dc (upI c9 264 (fun _ => 5)) μ3 sz3 C3 w md (σ5.1 + 1) S [] := by
            refine ⟨fun fp z => (m4.1 fp z).mono ek (by decide) (by decide), fun z => ?_⟩
            obtain ⟨⟨T0, X⟩, x2, x3, x4, x5, x6, x7, x8⟩ := m4.2 z
            exact ⟨⟨T0, X.keep ek (by decide)⟩, x2, x3.of (by rw [ek.1 326 (by decide)]), by rw [ek.1 260 (by decide)]; exact x4, by rw [ek.1 259 (by decide)]; exact x5, by rw [ek.1 258 (by decide)]; exact x6, by rw [ek.2 336 (by decide), ek.1 257 (by decide)]; exact x7, x8⟩
          obtain ⟨σ', h1, h2⟩ := casL (w := w) hQ' hI hDg hDs m3b nt N1 N0 (upI c9 264 (fun _ => 5)) (σ5.1 + 1, σ5.2.1 - 1, σ5.2.2) kd md μ3 sz3 C3 S [] (by omega) (by omega) (by omega) (by show σ5.2.1 - 1 + m = 61; omega) h06 (e.trans e9) hG9 rfl n2 (by show c9.1 270 kd = 142; rw [n3, upd_at]) (by show kd + 1 ≤ σ5.2.1 - 1; omega) m3 st9
          refine ⟨σ', h1, h2.imp (fun z => z.after r2 (by show 1 + k + 1 + 4 ≤ 4 * (σ5.1 + 1 - σ.1) + 4; omega) (by show σ.1 ≤ σ5.1 + 1; omega)) (fun bp => ?_)⟩
          obtain ⟨k2, c4, v1, v2, v3, v4, v5, v6, v7, v8, v9, v10, v11⟩ := bp
          have v2' : k2 + 2 ≤ 3 * (σ'.1 - (σ5.1 + 1)) := v2
          have v7' : σ'.2.1 + 1 = σ5.2.1 - 1 := v7
          have v8' : σ5.1 + 1 < σ'.1 := v8
          refine ⟨1 + k + 1 + k2, c4, r2.trans v1, by omega, v3, e9.trans v4, v5, v6, by omega, by omega, v9, fun j hj => ?_, m5 c4 σ' ?_ (by omega)⟩
          · rw [v10 j hj]
            show c9.1 270 j = _
            rw [n3, upd_ne (by omega), m2.1 270 (by decide), t3.1 270 (by decide), c6n 270 (by decide)]
          · refine ⟨v11.1, fun z => ?_⟩
            obtain ⟨q, w1, w2, w3⟩ := v11.2 z
            refine ⟨q, w1, w2, fun t' S' bb F CC y => ?_⟩
            obtain ⟨x1, ze, x2, x3, x4, x5, x6, x7, x8, x9, x10, x11, x12, x13⟩ := w3 _ _ _ _ _ y
            exact ⟨x1, ze, x2, x3, x4, x5, x6, x7, fun y => by rw [x8 y, ek.1 255 (by decide)], x9, x10, fun k k1 k2 => by rw [x11 k k1 k2, ek.2 336 (by decide)], fun k hk => by rw [ek.1 256 (by decide), ek.1 257 (by decide), ek.1 258 (by decide), ek.1 259 (by decide)] at x12; exact x12 k hk, x13⟩
        cases hμ : μ with
        | some fp =>
          have o := (q9.1 fp hμ).mono t3 (by decide) (by decide)
          have := fin c7 (some fp) 0 0 0 (off_choice o.off) Eb.rfl (fun z => (by cases z)) (by omega) ⟨fun q z => (by cases z; exact o), fun z => (by cases z)⟩ (fun c' σ' oo _ => ⟨fun q z => (by rw [hμ] at z; cases z; exact oo.1 fp rfl), fun z => (by rw [hμ] at z; cases z)⟩)
          rw [hμ] at this; exact this
        | none =>
          obtain ⟨q, w1, w2, w3⟩ := q9.2 hμ
          have w1' : eF tk pl vl wi nm nt N0 (σ.1 + 2) = some q := w1
          cases q with
          | inl fp =>
            have o := (w2 fp.1 fp.2 rfl).mono t3 (by decide) (by decide)
            have := fin c7 (some fp) 0 0 0 (off_choice o.off) Eb.rfl (fun z => (by cases z)) (by omega) ⟨fun q z => (by cases z; exact o), fun z => (by cases z)⟩ (fun c' σ' oo _ => ⟨fun q z => (by rw [hμ] at z; cases z), fun _ => ⟨.inl fp, by unfold sCa; rw [w1']; rfl, fun f p y => (by cases y; exact oo.1 (f, p) rfl), fun _ _ _ _ _ y => (by cases y)⟩⟩)
            rw [hμ] at this; exact this
          | inr q =>
            obtain ⟨w, tt, L, C1⟩ := q
            obtain ⟨x1, x2, x3, x4, x5, x6, x7, x8, x9, x10⟩ := w3 _ _ _ _ rfl
            have x6' : σ.1 + 2 + L.length ≤ σ5.1 := x6
            obtain ⟨⟨T0, X0⟩, y2, y3, y4⟩ := hs.2 hμ
            have X7 : Xc c7 1 (sz + L.length) (C + C1) := x2.mono t3 (by decide) a7
            have md7 : c7.1 260 0 = nI md := by rw [t3.1 260 (by decide), c6n 260 (by decide)]; exact y4
            have mdl := hmd hμ
            have tn := q5.2.1
            obtain ⟨c8, p1, p2, p3, p4, p5, p6, p7, p8, p9⟩ := choice_C (N := N) (w := w) X7 (by rw [t3.1 238 (by decide)]; exact x3) md7 (by omega)
            have row : c8.2 336 = c6.2 336 := by rw [p3, t3.2 336 (by decide)]
            have r326 : c8.1 326 = c.1 326 := by rw [p9.1 326 (by decide), t3.1 326 (by decide), c6n 326 (by decide)]
            have := fin c8 none (sz + L.length) (C + C1) w p1 p9 (fun _ => mdl) x5 ⟨fun q z => (by cases z), fun _ => ⟨⟨0, p2⟩, by omega, y3.of (by rw [r326]), p8, by rw [p7, upd_at], by rw [p6, upd_at], by rw [p5, upd_at]; rfl, fun j hj => by simp at hj, by simp⟩⟩ (fun c' σ' oo hd' => ⟨fun q z => (by rw [hμ] at z; cases z), fun _ => ?_⟩)
            · rw [hμ] at this; exact this
            · obtain ⟨q, u1, u2, u3⟩ := oo.2 rfl
              have es : sCa tk pl vl wi nm nt N0 (sT tk pl vl wi nm nt rg N0 an Ds).1 σ.1 S = match sCl tk pl vl wi nt N0 (sT tk pl vl wi nm nt rg N0 an Ds).1 w N0 (σ5.1 + 1) S with
                  | none => none
                  | some (.inl f) => some (.inl f)
                  | some (.inr (t2, S2, b2, F, C2)) => sok t2 S2 b2 (fun v n => F (xval v L) v n) (C1 + C2) := by
                unfold sCa
                rw [w1', sx_inr, x1]
                rfl
              rw [u1] at es
              cases q with
              | inl fp => exact ⟨.inl fp, es, fun f p y => (by cases y; exact u2 f p rfl), fun _ _ _ _ _ y => (by cases y)⟩
              | inr q =>
                obtain ⟨t3', S3, b3, F, C3⟩ := q
                refine ⟨_, es, fun f p y => (by cases y), fun _ _ _ _ _ y => ?_⟩
                cases y
                obtain ⟨v1, ze, v2, v3, v4, v5, v6, v7, v8, v9, v10, v11, v12, v13⟩ := u3 _ _ _ _ _ rfl
                refine ⟨v1, ze + 1, by rw [← Nat.add_assoc]; exact v2, by omega, by omega, v5, v6, v7, fun y => ?_, fun k hk => ?_, fun k hk => ?_, fun v n st hst => ?_⟩
                · rw [v8 y, p9.1 255 (by decide), t3.1 255 (by decide), c6n 255 (by decide)]
                · rw [v11 k (by omega) (by simp), row, x7 k hk, f6.2 336 (by decide)]
                · obtain ⟨a1, a2, a3, a4⟩ := v12 k hk
                  exact ⟨by rw [a1, p4, upd_ne (by omega), t3.1 256 (by decide), c6n 256 (by decide)], by rw [a2, p5, upd_ne (by omega), t3.1 257 (by decide), c6n 257 (by decide)], by rw [a3, p6, upd_ne (by omega), t3.1 258 (by decide), c6n 258 (by decide)], by rw [a4, p7, upd_ne (by omega), t3.1 259 (by decide), c6n 259 (by decide)]⟩
                · have en : cEnc (c'.2 336) fd lit lc sz L := x8.mono (fun k hk => by rw [v11 k (by omega) (by simp), row])
                  have d60 : σ.2.1 ≤ 60 := (hG.2.2.2.1 h0).2.2.2.2.2.2
                  exact (en.val (P := P) (v := v) (n := n) (st := st) x9 x10.le x10.ob (fun o ho kk => by
                    obtain ⟨i, wq, hi⟩ := x10.ld o ho kk
                    exact (hn i _ hi).2.1) (by omega)).trans (v13 v n st (xval v L) (by omega))
/-- all statements of the class -/
theorem stm_C (hQ : CQ tk pl vl wi nm nt ex N N0 N1 fd lit lc rg an dc P c0) : ∀ m, StmC tk pl vl wi nm nt ex N N0 N1 fd lit lc rg fz an dc P c0 m := by
  intro m
  induction m with
  | zero =>
    intro Dg Ds c σ kd md μ sz C S h1 h2 h3 h4 h5 h6
    have := (h6.2.2.2.1 h4).2.2.2.2.2.2
    omega
  | succ m ih =>
    intro Dg Ds c σ kd md μ sz C S h1 h2 h3 h4 h5 h6 h7 h8 h9 h10 h11
    obtain ⟨Dg, rfl⟩ : ∃ d, Dg = d + 2 := ⟨Dg - 2, by omega⟩
    obtain ⟨Ds, rfl⟩ : ∃ d, Ds = d + 2 := ⟨Ds - 2, by omega⟩
    show ∃ σ', gS1 tk pl N1 (gT tk pl N1 (Dg + 1)).1 (gC1 tk pl N1 (gT tk pl N1 Dg).1) σ = some σ' ∧ (DeadS 4 tk pl nt ex N c σ σ' ∨ StPost tk pl nt ex N rg fz dc fd lit lc P c σ σ' kd μ sz C md (sS1 tk pl vl wi nm nt rg N0 an (sT tk pl vl wi nm nt rg N0 an (Ds + 1)).1 (sCa tk pl vl wi nm nt N0 (sT tk pl vl wi nm nt rg N0 an Ds).1) σ.1 S))
    unfold gS1 sS1
    have tn := h6.2.1
    rw [if_neg (show ¬ nt ≤ σ.1 by omega)]
    by_cases k1 : tk σ.1 = 310
    · rw [gIs_t h4 k1, if_pos rfl, if_pos k1]
      exact beg_C hQ ih (by omega) (by omega) (by omega) h4 h5 h6 h7 h8 h9 h10 h11 k1
    rw [gIs_f k1, if_neg (by decide), if_neg k1]
    by_cases k2 : tk σ.1 = 312
    · rw [gIs_t h4 k2, if_pos rfl, if_pos k2]
      exact if_C hQ ih (by omega) (by omega) (by omega) (by omega) h4 h5 h6 h7 h8 h9 h10 h11 k2
    rw [gIs_f k2, if_neg (by decide), if_neg k2]
    by_cases k3 : tk σ.1 = 314
    · rw [gIs_t h4 k3, if_pos rfl, if_pos k3]
      exact case_C hQ ih (by omega) (by omega) (by omega) h4 h5 h6 h7 h8 h9 h10 h11 k3
    rw [gIs_f k3, if_neg (by decide), if_neg k3]
    obtain ⟨σ', g1, g2⟩ := set_C (μ := μ) (sz := sz) (C := C) (md := md) (kd := kd) (S := S) hQ h5 h4 h6 h7 h8 h11 k1 k2 k3
    exact ⟨σ', g1, g2.imp (fun z => z.toS (by omega)) (fun z => z)⟩
end CCASE
