/-! The class: an if, put together. -/
section CIFF
variable {tk pl vl wi : Nat → Nat} {nm : Nat → Option (Nat × Nat)} {nt : Nat} {ex : Nat → Int32} {N N0 N1 fd lc : Nat} {lit : Nat → Int64} {rg : Nat → Bool} {fz : Nat → Int32} {an dc : Nat} {P : Nat → Prop} {c0 : ms}
theorem sx_inr {w t C : Nat} {L : List aop} {k : Nat → Nat → List aop → Nat → sr} : sx (some (.inr (w, t, L, C))) k = k w t L C := rfl
theorem if_C {m Dg Ds : Nat} {c : ms} {σ : gs} {μ : Option (Nat × Nat)} {sz C md kd : Nat} {S : Nat → Nat} (hQ : CQ tk pl vl wi nm nt ex N N0 N1 fd lit lc rg an dc P c0) (hI : StmC tk pl vl wi nm nt ex N N0 N1 fd lit lc rg fz an dc P c0 m) (hDg : 2 * m ≤ Dg) (hDg0 : 0 < Dg) (hDs : 2 * m ≤ Ds) (hm : σ.2.1 + m + 1 = 61) (h0 : σ.2.2.1 = 0) (e : CE2 c0 c) (hG : CG tk pl nt ex c σ) (h4 : c.1 264 0 = 4) (hkd : c.1 271 0 = nI kd) (hk2 : kd ≤ σ.2.1) (hmd : μ = none → md ≤ kd) (hs : StS rg fz dc c μ sz C md σ.1 S) (hk : tk σ.1 = 312) :
    ∃ σ', ((gE tk pl N1 (gOpen tk pl 40 (gOpen tk pl 312 σ))).bind (fun σ => (gShut tk pl 41 σ).bind (fun σ => ((gT tk pl N1 Dg).1 σ).bind (fun σ => if gIs tk 313 σ then ((gT tk pl N1 Dg).1 (gInc σ)).bind (fun σ => gDn σ) else gDn σ)))) = some σ' ∧ (DeadS 4 tk pl nt ex N c σ σ' ∨ StPost tk pl nt ex N rg fz dc fd lit lc P c σ σ' kd μ sz C md (sIf tk pl vl wi nm nt N0 (sT tk pl vl wi nm nt rg N0 an Ds).1 σ.1 S)) := by
  have hQ' := hQ
  obtain ⟨T, hN, hN1, hN0, hS, hl, hn, -⟩ := hQ
  have d60 : σ.2.1 ≤ 60 := (hG.2.2.2.1 h0).2.2.2.2.2.2
  obtain ⟨σ3, g1, g2⟩ := if_st hQ' hI hDg hDg0 hDs hm h0 e hG h4 hkd hk2 hmd hs hk
  have as : ((gE tk pl N1 (gOpen tk pl 40 (gOpen tk pl 312 σ))).bind (fun σ => (gShut tk pl 41 σ).bind (fun σ => ((gT tk pl N1 Dg).1 σ).bind (fun σ => if gIs tk 313 σ then ((gT tk pl N1 Dg).1 (gInc σ)).bind (fun σ => gDn σ) else gDn σ)))) = ((gE tk pl N1 (gOpen tk pl 40 (gOpen tk pl 312 σ))).bind (fun σ => (gShut tk pl 41 σ).bind (fun σ => (gT tk pl N1 Dg).1 σ))).bind (fun σ => if gIs tk 313 σ then ((gT tk pl N1 Dg).1 (gInc σ)).bind (fun σ => gDn σ) else gDn σ) := by
    cases gE tk pl N1 (gOpen tk pl 40 (gOpen tk pl 312 σ)) with
    | none => rfl
    | some ρ =>
      show (gShut tk pl 41 ρ).bind _ = ((gShut tk pl 41 ρ).bind _).bind _
      cases gShut tk pl 41 ρ <;> rfl
  rw [as, g1, obind]
  rcases g2 with dd | ⟨k, c1, q1, q2, q3, q4, q5, q6, q7, q8, q9, q10, q11, q12⟩
  · rw [gIs_dead dd.1, if_neg (by decide), gDn_dead dd.1]
    exact ⟨_, rfl, Or.inl dd⟩
  have d3 : σ3.2.1 ≤ 60 := (q5.2.2.2.1 q6).2.2.2.2.2.2
  by_cases el : tk σ3.1 = 313
  · rw [gIs_t q6 el, if_pos rfl]
    have t1n := T.more q5.2.1 el (by decide) (by decide)
    have hmv := (ctx5 (N := N) q3 q9 (by omega) q11).1 rfl (show c1.1 214 0 = 141 from kpos (k := 313) q5 q6 el)
    obtain ⟨p1, p2⟩ := elseE (N := N) T q5 q6 t1n q9 (by omega) hmv
    have alv := q5.alive q6
    have go : ∀ (c2 : ms) (μ2 : Option (Nat × Nat)) (sz2 C2 : Nat) (S2 : Nat → Nat), mv N c1 = some ((), c2) → CG tk pl nt ex c2 (gInc σ3) → c2.1 264 0 = 4 → c2.1 271 0 = nI (kd + 1) → CE2 c1 c2 → (μ2 = none → md ≤ kd) → StS rg fz dc c2 μ2 sz2 C2 (md + 1) (σ3.1 + 1) S2 → ∃ σ4, (gT tk pl N1 Dg).1 (gInc σ3) = some σ4 ∧ (DeadS 4 tk pl nt ex N c σ σ4 ∨ StPost tk pl nt ex N rg fz dc fd lit lc P c2 (gInc σ3) σ4 (kd + 1) μ2 sz2 C2 (md + 1) ((sT tk pl vl wi nm nt rg N0 an Ds).1 (σ3.1 + 1) S2)) := by
      intro c2 μ2 sz2 C2 S2 w1 w2 w3 w4 w5 w6 w7
      obtain ⟨σ4, h1, h2⟩ := hI Dg Ds c2 (gInc σ3) (kd + 1) (md + 1) μ2 sz2 C2 S2 hDg hDs (by show σ3.2.1 + m = 61; omega) q6 ((e.trans q4).trans w5) w2 w3 w4 (by show kd + 1 ≤ σ3.2.1; omega) (fun z => by have := w6 z; omega) w7
      exact ⟨σ4, h1, h2.imp (fun z => z.after (q1.trans (Rc.one alv (by rw [q3]; decide) w1)) (by show k + 1 + 4 ≤ 4 * (σ3.1 + 1 - σ.1) + 4; omega) (by show σ.1 ≤ σ3.1 + 1; omega)) (fun z => z)⟩
    rcases q12 with ⟨fp, o1, o2, o3⟩ | ⟨o1, w, t1, L, C1, S2, bb, D2, C2, sz2, cx, y1, y2, ⟨T0, y3⟩, y4, y5, y6, y7, y8, y9, y10, y11, y12, y13, y14, y15, y16, y17, y18⟩
    · obtain ⟨c2, a1, a2, a3, a4, a5, a6⟩ := p1 o1.off
      obtain ⟨σ4, h1, h2⟩ := go c2 (some fp) 0 0 S a1 a2 a3 a5 (a6.mono (by decide) (by decide)) (fun z => (by cases z)) ⟨fun q z => (by cases z; exact o1.mono a6 (by decide) (by decide)), fun z => (by cases z)⟩
      rw [h1, obind]
      rcases h2 with dd | ⟨k1, c3, u1, u2, u3, u4, u5, u6, u7, u8, u9, u10, u11⟩
      · exact ⟨σ4, gDn_dead dd.1, Or.inl dd⟩
      · have u2' : k1 + 3 ≤ 3 * (σ4.1 - (σ3.1 + 1)) := u2
        have u8' : σ3.1 + 1 < σ4.1 := u8
        have u7' : σ4.2.1 = σ.2.1 + 1 := u7.trans q7
        obtain ⟨σ', v1, v2⟩ := ifEndS (rg := rg) (dc := dc) (fd := fd) (lit := lit) (lc := lc) (P := P) (c := c) (c1 := c3) (σ := σ) (σ3 := σ4) (kd := kd) (x := 141) (μ := μ) (sz := sz) (C := C) (md := md) (k := k + 1 + k1) (r := sIf tk pl vl wi nm nt N0 (sT tk pl vl wi nm nt rg N0 an Ds).1 σ.1 S) (by omega) ((q1.trans (Rc.one alv (by rw [q3]; decide) a1)).trans u1) (by omega) u3 ((q4.trans (a6.mono (by decide) (by decide))).trans u4) u5 u6 u7' (by omega) u9 (fun j hj => by rw [u10 j (by omega), a4, upd_ne (by omega)]; exact q10 j hj) (by rw [u10 kd (by omega), a4, upd_at]) (Or.inr rfl) T (Or.inl ⟨fp, u11.1 fp rfl, o2, fun z => o3 z _⟩)
        exact ⟨σ', v1, Or.inr v2⟩
    · have mdl := hmd o1
      have szl := (hs.2 o1).2.1
      have tn := q5.2.1
      have l1 := T.2.1
      obtain ⟨c2, a1, a2, a3, a4, a5, a6, a7, a8, a9⟩ := p2 T0 sz2 (C + C1 + w + C2) md (sz + L.length) 518 (-1) y3 (by omega) y7 (by omega) y8 (by omega) (by rw [y17 _ (by omega)]; exact y14)
      obtain ⟨σ4, h1, h2⟩ := go c2 none (sz2 + 1) (C + C1 + w + C2) S2 a1 a2 a3 a5 (a9.mono (by decide) (by decide)) (fun _ => mdl) ⟨fun q z => (by cases z), fun _ => ⟨⟨T0, a6⟩, by omega, y6.of (by rw [a9.1 326 (by decide)]), by rw [a9.1 260 (by decide)]; exact y7⟩⟩
      rw [h1, obind]
      rcases h2 with dd | ⟨k1, c3, u1, u2, u3, u4, u5, u6, u7, u8, u9, u10, u11⟩
      · exact ⟨σ4, gDn_dead dd.1, Or.inl dd⟩
      · have u2' : k1 + 3 ≤ 3 * (σ4.1 - (σ3.1 + 1)) := u2
        have u8' : σ3.1 + 1 < σ4.1 := u8
        have u7' : σ4.2.1 = σ.2.1 + 1 := u7.trans q7
        have rr : sIf tk pl vl wi nm nt N0 (sT tk pl vl wi nm nt rg N0 an Ds).1 σ.1 S = sb ((sT tk pl vl wi nm nt rg N0 an Ds).1 (σ3.1 + 1) S2) (fun t3 S3 b3 D3 C3 => sok t3 S3 (bb || b3) (fun v n => if xval v L = 0 then D3 v n else D2 v n) (C1 + w + C2 + C3)) := by
          unfold sIf
          rw [y1, sx_inr, y2, sb_inr, if_neg (by omega), if_pos el]
        obtain ⟨σ', v1, v2⟩ := ifEndS (rg := rg) (dc := dc) (fd := fd) (lit := lit) (lc := lc) (P := P) (c := c) (c1 := c3) (σ := σ) (σ3 := σ4) (kd := kd) (x := 141) (μ := μ) (sz := sz) (C := C) (md := md) (k := k + 1 + k1) (r := sIf tk pl vl wi nm nt N0 (sT tk pl vl wi nm nt rg N0 an Ds).1 σ.1 S) (by omega) ((q1.trans (Rc.one alv (by rw [q3]; decide) a1)).trans u1) (by omega) u3 ((q4.trans (a9.mono (by decide) (by decide))).trans u4) u5 u6 u7' (by omega) u9 (fun j hj => by rw [u10 j (by omega), a4, upd_ne (by omega)]; exact q10 j hj) (by rw [u10 kd (by omega), a4, upd_at]) (Or.inr rfl) T (by
          obtain ⟨q, w1, w2, w3⟩ := u11.2 rfl
          have w1' : (sT tk pl vl wi nm nt rg N0 an Ds).1 (σ3.1 + 1) S2 = some q := w1
          cases q with
          | inl fp => exact Or.inl ⟨fp, w2 fp.1 fp.2 rfl, fun q z => (by rw [o1] at z; cases z), fun _ => by rw [rr, w1']; rfl⟩
          | inr q =>
            obtain ⟨t3, S3, b3, D3, C3⟩ := q
            obtain ⟨x1, sz3, ⟨T3, x2⟩, x3, x4, x5, x6, x7, x8, x9, x10, x11⟩ := w3 _ _ _ _ _ rfl
            have x4' : sz3 + 2 + (σ3.1 + 1) ≤ sz2 + 1 + σ4.1 := x4
            have x11' : Cg (c3.2 336) fd lit lc P (σ.2.1 + 1) (sz2 + 1) sz3 D3 := by have z : (gInc σ3).2.1 = σ.2.1 + 1 := q7; rw [z] at x11; exact x11
            right
            refine ⟨o1, S3, bb || b3, fun v n => if xval v L = 0 then D3 v n else D2 v n, C1 + w + C2 + C3, sz3, sz2, 517, -1, by rw [rr, w1', sb_inr, x1]; rfl, ⟨T3, by rw [show C + (C1 + w + C2 + C3) = C + C1 + w + C2 + C3 by omega]; exact x2⟩, by omega, by omega, x5, x6, by omega, by rw [(x10 md (by omega)).1, a8, upd_at], by omega, by omega, by rw [x9 sz2 (by omega), a7, updL_ne (by omega), updL_at], fun k hk => ?_, fun z => ?_, fun z => ?_, fun k hk => ?_, fun c' hc' => if_else (c1 := cx) (c2 := c1) (c3 := c2) (c4 := c3) (c5 := c') (σ := σ) d60 (fun o ho kk => by
              obtain ⟨i, wq, hi⟩ := y16.ld o ho kk
              exact (hn i _ hi).2.1) y13 y15 y16 y17 y18 y4 a7 x9 x11' x3 hc'⟩
            · have a := x10 k (by omega)
              have b := y9 k hk
              exact ⟨by rw [a.1, a8, upd_ne (by omega)]; exact b.1, by rw [a.2.1, a9.1 257 (by decide)]; exact b.2.1, by rw [a.2.2.1, a9.1 258 (by decide)]; exact b.2.2.1, by rw [a.2.2.2, a9.1 259 (by decide)]; exact b.2.2.2⟩
            · cases b3 with
              | true => exact x7 rfl
              | false => rw [x8 rfl, a9.1 255 (by decide)]; exact y10 (by simpa using z)
            · cases b3 with
              | true => simp at z
              | false => rw [x8 rfl, a9.1 255 (by decide)]; exact y11 (by simpa using z)
            · rw [x9 k (by omega), a7, updL_ne (by omega), updL_ne (by omega)]; exact y12 k hk)
        exact ⟨σ', v1, Or.inr v2⟩
  · rw [gIs_f el, if_neg (by decide)]
    obtain ⟨σ', u1, u2⟩ := ifEndS (rg := rg) (dc := dc) (fd := fd) (lit := lit) (lc := lc) (P := P) (c := c) (c1 := c1) (σ := σ) (σ3 := σ3) (kd := kd) (x := 140) (μ := μ) (sz := sz) (C := C) (md := md) (k := k) (r := sIf tk pl vl wi nm nt N0 (sT tk pl vl wi nm nt rg N0 an Ds).1 σ.1 S) (by omega) q1 (by omega) q3 q4 q5 q6 q7 (by omega) q9 q10 q11 (Or.inl ⟨rfl, el⟩) T (by
      rcases q12 with ⟨fp, o1, o2, o3⟩ | ⟨o1, w, t1, L, C1, S2, bb, D2, C2, sz2, cx, y1, y2, y3, y4, y5, y6, y7, y8, y9, y10, y11, y12, y13, y14, y15, y16, y17, y18⟩
      · exact Or.inl ⟨fp, o1, o2, fun z => o3 z _⟩
      · right
        have mdl := hmd o1
        refine ⟨o1, S2, bb, fun v n => if xval v L = 0 then n else D2 v n, C1 + w + C2, sz2, sz + L.length, 518, -1, ?_, by obtain ⟨T0, X⟩ := y3; exact ⟨T0, by rw [show C + (C1 + w + C2) = C + C1 + w + C2 by omega]; exact X⟩, by omega, by omega, y6, y7, by omega, y8, by omega, by omega, by rw [y17 _ (by omega)]; exact y14, y9, y10, y11, y12, fun c' hc' => if_noelse (c := c) (σ := σ) (μ := μ) (C := C) (md := md) (t2 := 0) (S := S) (r1 := none) (r2 := none) (t1 := t1) (C1 := C1) (S2 := S2) (bb := bb) (C2 := C2) d60 (fun o ho kk => by
          obtain ⟨i, wq, hi⟩ := y16.ld o ho kk
          exact (hn i _ hi).2.1) y13 y14 y15 y16 y17 y18 y4 hc'⟩
        unfold sIf
        rw [y1, sx_inr, y2, sb_inr, if_neg (by have := q5.2.1; omega), if_neg el]
        rfl)
    exact ⟨σ', u1, Or.inr u2⟩
end CIFF
