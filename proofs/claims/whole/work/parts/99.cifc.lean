/-! The class: an if, its moves. -/
section CIFC
variable {tk pl vl wi : Nat → Nat} {nm : Nat → Option (Nat × Nat)} {nt : Nat} {ex : Nat → Int32} {N N0 N1 fd lc : Nat} {lit : Nat → Int64} {rg : Nat → Bool} {fz : Nat → Int32} {an dc : Nat} {P : Nat → Prop} {c0 : ms}
/-- the statement behind a condition: the class behind it, with what the meaning has by then -/
theorem if_st {m Dg Ds : Nat} {c : ms} {σ : gs} {μ : Option (Nat × Nat)} {sz C md kd : Nat} {S : Nat → Nat} (hQ : CQ tk pl vl wi nm nt ex N N0 N1 fd lit lc rg an dc P c0) (hI : StmC tk pl vl wi nm nt ex N N0 N1 fd lit lc rg fz an dc P c0 m) (hDg : 2 * m ≤ Dg) (hDg0 : 0 < Dg) (hDs : 2 * m ≤ Ds) (hm : σ.2.1 + m + 1 = 61) (h0 : σ.2.2.1 = 0) (e : CE2 c0 c) (hG : CG tk pl nt ex c σ) (h4 : c.1 264 0 = 4) (hkd : c.1 271 0 = nI kd) (hk2 : kd ≤ σ.2.1) (hmd : μ = none → md ≤ kd) (hs : StS rg fz dc c μ sz C md σ.1 S) (hk : tk σ.1 = 312) :
    ∃ σ3, ((gE tk pl N1 (gOpen tk pl 40 (gOpen tk pl 312 σ))).bind (fun σ => (gShut tk pl 41 σ).bind (fun σ => (gT tk pl N1 Dg).1 σ))) = some σ3 ∧ (DeadS 4 tk pl nt ex N c σ σ3 ∨ (∃ k c', Rc N k c c' ∧ k + 6 ≤ 3 * (σ3.1 - σ.1) ∧ c'.1 264 0 = 5 ∧ CE2 c c' ∧ CG tk pl nt ex c' σ3 ∧ σ3.2.2.1 = 0 ∧ σ3.2.1 = σ.2.1 + 1 ∧ σ.1 + 4 < σ3.1 ∧ c'.1 271 0 = nI (kd + 1) ∧ (∀ j, j < kd → c'.1 270 j = c.1 270 j) ∧ c'.1 270 kd = 140 ∧
      ((∃ fp : Nat × Nat, Off c' fp.1 fp.2 ∧ (∀ q, μ = some q → q = fp) ∧ (μ = none → ∀ K : Nat → Nat → List aop → Nat → Nat → (Nat → Nat) → Bool → DT → Nat → sr, sx (eF tk pl vl wi nm nt N0 (σ.1 + 2)) (fun w t1 L C1 => sb ((sT tk pl vl wi nm nt rg N0 an Ds).1 (t1 + 1) S) (K w t1 L C1)) = some (.inl fp))) ∨
      (μ = none ∧ ∃ (w t1 : Nat) (L : List aop) (C1 : Nat) (S2 : Nat → Nat) (bb : Bool) (D2 : DT) (C2 sz2 : Nat) (c1 : ms), eF tk pl vl wi nm nt N0 (σ.1 + 2) = some (.inr (w, t1, L, C1)) ∧ (sT tk pl vl wi nm nt rg N0 an Ds).1 (t1 + 1) S = some (.inr (σ3.1, S2, bb, D2, C2)) ∧ (∃ T, Xc c' T sz2 (C + C1 + w + C2)) ∧ sz + L.length + 1 ≤ sz2 ∧ sz2 + 4 + σ.1 ≤ sz + σ3.1 ∧ R3 rg fz dc c' S2 ∧ c'.1 260 0 = nI (md + 1) ∧ c'.1 256 md = nI (sz + L.length) ∧ (∀ k, k < md → c'.1 256 k = c.1 256 k ∧ c'.1 257 k = c.1 257 k ∧ c'.1 258 k = c.1 258 k ∧ c'.1 259 k = c.1 259 k) ∧ (bb = true → c'.1 255 0 = 1) ∧ (bb = false → c'.1 255 0 = c.1 255 0) ∧ (∀ k, k < sz → c'.2 336 k = c.2 336 k) ∧ cEnc (c1.2 336) fd lit lc sz L ∧ c1.2 336 (sz + L.length) = crw 518 (-1) ∧ Hk 900 L 0 1 ∧ Ty nm L [] [w] ∧ (∀ k, k < sz + L.length + 1 → c'.2 336 k = c1.2 336 k) ∧ Cg (c'.2 336) fd lit lc P (σ.2.1 + 1) (sz + L.length + 1) sz2 D2)))) := by
  have hQ' := hQ
  obtain ⟨T, hN, hN1, hN0, -⟩ := hQ
  obtain ⟨σ2, g1, g2⟩ := ifH hQ' e h0 hG h4 hkd hk2 hmd hs hk
  have as : ((gE tk pl N1 (gOpen tk pl 40 (gOpen tk pl 312 σ))).bind (fun σ => (gShut tk pl 41 σ).bind (fun σ => (gT tk pl N1 Dg).1 σ))) = ((gE tk pl N1 (gOpen tk pl 40 (gOpen tk pl 312 σ))).bind (fun σ => gShut tk pl 41 σ)).bind (fun σ => (gT tk pl N1 Dg).1 σ) := by
    cases gE tk pl N1 (gOpen tk pl 40 (gOpen tk pl 312 σ)) <;> rfl
  rw [as, g1, obind]
  rcases g2 with dd | ⟨k, c1, q1, q2, q3, q4, q5, q6, q7, q8, q9, q10, q11, q12, q13⟩
  · exact ⟨σ2, gT_dead dd.1 (by omega) hDg0, Or.inl dd⟩
  · have go : ∀ (μ2 : Option (Nat × Nat)) (sz1 C1 : Nat), StS rg fz dc c1 μ2 sz1 C1 (md + 1) σ2.1 S → (μ2 = none → md ≤ kd) → ∃ σ3, (gT tk pl N1 Dg).1 σ2 = some σ3 ∧ (DeadS 4 tk pl nt ex N c σ σ3 ∨ StPost tk pl nt ex N rg fz dc fd lit lc P c1 σ2 σ3 (kd + 1) μ2 sz1 C1 (md + 1) ((sT tk pl vl wi nm nt rg N0 an Ds).1 σ2.1 S)) := by
      intro μ2 sz1 C1 w1 w2
      obtain ⟨σ3, h1, h2⟩ := hI Dg Ds c1 σ2 (kd + 1) (md + 1) μ2 sz1 C1 S hDg hDs (by omega) q6 (e.trans q4) q5 q3 q9 (by omega) (fun z => by have := w2 z; omega) w1
      exact ⟨σ3, h1, h2.imp (fun z => z.after q1 (by omega) (by omega)) (fun z => z)⟩
    cases hμ : μ with
    | some fp =>
      obtain ⟨σ3, h1, h2⟩ := go (some fp) 0 0 ⟨fun q z => (by cases z; exact q12 fp hμ), fun z => (by cases z)⟩ (fun z => (by cases z))
      refine ⟨σ3, h1, h2.imp (fun z => z) (fun sp => ?_)⟩
      obtain ⟨k1, c2, u1, u2, u3, u4, u5, u6, u7, u8, u9, u10, u11⟩ := sp
      exact ⟨k + k1, c2, q1.trans u1, by omega, u3, q4.trans u4, u5, u6, by omega, by omega, u9, fun j hj => (u10 j (by omega)).trans (q10 j hj), by rw [u10 kd (by omega)]; exact q11, Or.inl ⟨fp, u11.1 fp rfl, fun q z => (by cases z; rfl), fun z => (by cases z)⟩⟩
    | none =>
      obtain ⟨q, w1, w2, w3⟩ := q13 hμ
      cases q with
      | inl fp =>
        obtain ⟨σ3, h1, h2⟩ := go (some fp) 0 0 ⟨fun q z => (by cases z; exact w2 fp.1 fp.2 rfl), fun z => (by cases z)⟩ (fun z => (by cases z))
        refine ⟨σ3, h1, h2.imp (fun z => z) (fun sp => ?_)⟩
        obtain ⟨k1, c2, u1, u2, u3, u4, u5, u6, u7, u8, u9, u10, u11⟩ := sp
        exact ⟨k + k1, c2, q1.trans u1, by omega, u3, q4.trans u4, u5, u6, by omega, by omega, u9, fun j hj => (u10 j (by omega)).trans (q10 j hj), by rw [u10 kd (by omega)]; exact q11, Or.inl ⟨fp, u11.1 fp rfl, fun q z => (by cases z), fun _ K => by rw [w1]; rfl⟩⟩
      | inr q =>
        obtain ⟨w, t1, L, C1⟩ := q
        obtain ⟨x1, ⟨T1, x2⟩, x3, x4, x5, x6, x7, x8, x9, x10, x11, x12, x13, x14, x15⟩ := w3 _ _ _ _ rfl
        have sl := (hs.2 hμ).2.1
        obtain ⟨σ3, h1, h2⟩ := go none (sz + L.length + 1) (C + C1 + w) ⟨fun q z => (by cases z), fun _ => ⟨⟨T1, x2⟩, by omega, x3, x4⟩⟩ (fun _ => hmd hμ)
        refine ⟨σ3, h1, h2.imp (fun z => z) (fun sp => ?_)⟩
        obtain ⟨k1, c2, u1, u2, u3, u4, u5, u6, u7, u8, u9, u10, u11⟩ := sp
        refine ⟨k + k1, c2, q1.trans u1, by omega, u3, q4.trans u4, u5, u6, by omega, by omega, u9, fun j hj => (u10 j (by omega)).trans (q10 j hj), by rw [u10 kd (by omega)]; exact q11, ?_⟩
        obtain ⟨q, v1, v2, v3⟩ := u11.2 rfl
        cases q with
        | inl fp => exact Or.inl ⟨fp, v2 fp.1 fp.2 rfl, fun q z => (by cases z), fun _ K => by rw [w1]; show sb ((sT tk pl vl wi nm nt rg N0 an Ds).1 (t1 + 1) S) _ = _; rw [x1, v1]; rfl⟩
        | inr q =>
          obtain ⟨t2, S2, bb, D2, C2⟩ := q
          obtain ⟨y1, sz2, y2, y3, y4, y5, y6, y7, y8, y9, y10, y11⟩ := v3 _ _ _ _ _ rfl
          right
          refine ⟨rfl, w, t1, L, C1, S2, bb, D2, C2, sz2, c1, w1, by rw [x1, v1, y1], y2, y3, by omega, y5, y6, by rw [(y10 md (by omega)).1]; exact x5, fun k hk => ?_, y7, fun z => by rw [y8 z]; exact x7, fun k hk => (y9 k (by omega)).trans (x8 k hk), x9, x10, x11, x12, y9, by rw [q7] at y11; exact y11⟩
          have a := y10 k (by omega)
          have b := x6 k hk
          exact ⟨a.1.trans b.1, a.2.1.trans b.2.1, a.2.2.1.trans b.2.2.1, a.2.2.2.trans b.2.2.2⟩
end CIFC
