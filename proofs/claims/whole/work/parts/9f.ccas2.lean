/-! The class: all arms of a case. -/
section CCAS2
variable {tk pl vl wi : Nat → Nat} {nm : Nat → Option (Nat × Nat)} {nt : Nat} {ex : Nat → Int32} {N N0 N1 fd lc : Nat} {lit : Nat → Int64} {rg : Nat → Bool} {fz : Nat → Int32} {an dc : Nat} {P : Nat → Prop} {c0 : ms}
theorem casL {m Dg Ds w : Nat} (hQ : CQ tk pl vl wi nm nt ex N N0 N1 fd lit lc rg an dc P c0) (hI : StmC tk pl vl wi nm nt ex N N0 N1 fd lit lc rg fz an dc P c0 m) (hDg : 2 * m ≤ Dg) (hDs : 2 * m ≤ Ds) (hw : w ≤ 64) : ∀ (n n1 n0 : Nat) (c : ms) (σ : gs) (kd md : Nat) (μ : Option (Nat × Nat)) (sz C : Nat) (S : Nat → Nat) (E : List Nat), nt ≤ σ.1 + n → n < n1 → n < n0 → σ.2.1 + m = 61 → σ.2.2.1 = 0 → CE2 c0 c → CG tk pl nt ex c σ → c.1 264 0 = 5 → c.1 271 0 = nI (kd + 1) → c.1 270 kd = 142 → kd + 1 ≤ σ.2.1 → (μ = none → md ≤ kd) → CasS rg fz dc c μ sz C w md σ.1 S E →
    ∃ σ', gCl tk pl N1 (gT tk pl N1 Dg).1 n1 σ = some σ' ∧ (DeadS 4 tk pl nt ex N c σ σ' ∨ CasPost tk pl nt ex N rg fz dc fd lit lc P c σ σ' kd μ sz C md E (sCl tk pl vl wi nt N0 (sT tk pl vl wi nm nt rg N0 an Ds).1 w n0 σ.1 S)) := by
  intro n
  induction n with
  | zero => intro n1 n0 c σ kd md μ sz C S E i1 i2 i3 i4 i5 i6 i7; have := i7.2.1; omega
  | succ n ih =>
    intro n1 n0 c σ kd md μ sz C S E i1 i2 i3 i4 i5 i6 i7 i8 i9 i10 i11 i12 i13
    obtain ⟨n1, rfl⟩ : ∃ n', n1 = n' + 1 := ⟨n1 - 1, by omega⟩
    obtain ⟨n0, rfl⟩ : ∃ n', n0 = n' + 1 := ⟨n0 - 1, by omega⟩
    have hQ' := hQ
    obtain ⟨T, hN, hN1, hN0, -⟩ := hQ
    have l1 := T.2.1
    have alv := i7.alive i5
    have tn := i7.2.1
    have d60 : σ.2.1 ≤ 60 := (i7.2.2.2.1 i5).2.2.2.2.2.2
    by_cases k402 : tk σ.1 = 402
    · obtain ⟨c1, σ2, a1, a2, a3, a4, a5, a6, a7, a8, a9⟩ := armB (n1 := n1) (N1 := N1) hQ' hw i5 i6 i7 i8 i9 i10 (by omega) i12 i13 k402
      rw [a2]
      have r1 : Rc N 1 c c1 := Rc.one alv (by rw [i8]; decide) a1
      by_cases d2 : σ2.2.2.1 = 0
      · obtain ⟨b1, b2, b3⟩ := a9 d2
        -- the statement
        have go : ∀ (μ2 : Option (Nat × Nat)) (sz1 C1 : Nat), StS rg fz dc c1 μ2 sz1 C1 (md + 1) σ2.1 S → (μ2 = none → md ≤ kd) → ∃ σ3, (gT tk pl N1 Dg).1 σ2 = some σ3 ∧ (DeadS 4 tk pl nt ex N c σ σ3 ∨ StPost tk pl nt ex N rg fz dc fd lit lc P c1 σ2 σ3 (kd + 1) μ2 sz1 C1 (md + 1) ((sT tk pl vl wi nm nt rg N0 an Ds).1 σ2.1 S)) := by
          intro μ2 sz1 C1 w1 w2
          obtain ⟨σ3, h1, h2⟩ := hI Dg Ds c1 σ2 (kd + 1) (md + 1) μ2 sz1 C1 S hDg hDs (by omega) d2 (i6.trans a7) a3 a4 a5 (by omega) (fun z => by have := w2 z; omega) w1
          exact ⟨σ3, h1, h2.imp (fun z => z.after r1 (by omega) (by omega)) (fun z => z)⟩
        obtain ⟨σ3, g1, g2⟩ : ∃ σ3, (gT tk pl N1 Dg).1 σ2 = some σ3 ∧ (DeadS 4 tk pl nt ex N c σ σ3 ∨ ∃ k c2, Rc N k c1 c2 ∧ k + 3 ≤ 3 * (σ3.1 - σ2.1) ∧ c2.1 264 0 = 5 ∧ CE2 c1 c2 ∧ CG tk pl nt ex c2 σ3 ∧ σ3.2.2.1 = 0 ∧ σ3.2.1 = σ2.2.1 ∧ σ2.1 < σ3.1 ∧ c2.1 271 0 = nI (kd + 1) ∧ (∀ j, j < kd + 1 → c2.1 270 j = c1.1 270 j) ∧
            ((∃ fp : Nat × Nat, Off c2 fp.1 fp.2 ∧ (∀ q, μ = some q → q = fp) ∧ (μ = none → sCl tk pl vl wi nt N0 (sT tk pl vl wi nm nt rg N0 an Ds).1 w (n0 + 1) σ.1 S = some (.inl fp))) ∨
            (μ = none ∧ ∃ (ls : List Nat) (S2 : Nat → Nat) (bb : Bool) (D2 : DT) (C2 sz2 : Nat), sLl tk pl vl wi nt w N0 σ.1 [] = some (.inr (σ2.1, ls)) ∧ (sT tk pl vl wi nm nt rg N0 an Ds).1 σ2.1 S = some (.inr (σ3.1, S2, bb, D2, C2)) ∧ σ.1 + 2 * ls.length = σ2.1 ∧ ArmS fd lit lc c c1 none sz (C + w * ls.length) md ls ∧ c1.1 257 = c.1 257 ∧ c1.1 259 = c.1 259 ∧ (∃ T, Xc c2 T sz2 (C + w * ls.length + C2)) ∧ sz + 2 * ls.length + 1 ≤ sz2 ∧ sz2 + 1 + σ.1 ≤ sz + σ3.1 ∧ R3 rg fz dc c2 S2 ∧ c2.1 260 0 = nI (md + 1) ∧ (bb = true → c2.1 255 0 = 1) ∧ (bb = false → c2.1 255 0 = c.1 255 0) ∧ (∀ k, k < sz + 2 * ls.length + 1 → c2.2 336 k = c1.2 336 k) ∧ (∀ k, k < md + 1 → c2.1 256 k = c1.1 256 k ∧ c2.1 257 k = c1.1 257 k ∧ c2.1 258 k = c1.1 258 k ∧ c2.1 259 k = c1.1 259 k) ∧ Cg (c2.2 336) fd lit lc P σ2.2.1 (sz + 2 * ls.length + 1) sz2 D2))) := by
          rcases b3 with ⟨fp, o1, o2, o3⟩ | ⟨o1, ls, y1, y2, y3, y4, y5, y6, y7, y8⟩
          · obtain ⟨σ3, h1, h2⟩ := go (some fp) 0 0 ⟨fun q z => (by cases z; exact o1), fun z => (by cases z)⟩ (fun z => (by cases z))
            refine ⟨σ3, h1, h2.imp (fun z => z) (fun sp => ?_)⟩
            obtain ⟨k1, c2, u1, u2, u3, u4, u5, u6, u7, u8, u9, u10, u11⟩ := sp
            refine ⟨k1, c2, u1, u2, u3, u4, u5, u6, u7, u8, u9, u10, Or.inl ⟨fp, u11.1 fp rfl, o2, fun z => ?_⟩⟩
            unfold sCl
            rw [if_neg (by omega), if_pos k402, o3 z]
          · obtain ⟨z1, z2, z3, z4, z5, z6, z7, z8⟩ := y3.2 rfl
            obtain ⟨s1, s2, -⟩ := i13.2 o1
            obtain ⟨σ3, h1, h2⟩ := go none (sz + 2 * ls.length + 1) (C + w * ls.length) ⟨fun q z => (by cases z), fun _ => ⟨z1, by omega, y4, y5⟩⟩ (fun _ => i12 o1)
            refine ⟨σ3, h1, h2.imp (fun z => z) (fun sp => ?_)⟩
            obtain ⟨k1, c2, u1, u2, u3, u4, u5, u6, u7, u8, u9, u10, u11⟩ := sp
            refine ⟨k1, c2, u1, u2, u3, u4, u5, u6, u7, u8, u9, u10, ?_⟩
            obtain ⟨q, w1, w2, w3⟩ := u11.2 rfl
            cases q with
            | inl fp =>
              refine Or.inl ⟨fp, w2 fp.1 fp.2 rfl, fun q z => (by rw [o1] at z; cases z), fun z => ?_⟩
              unfold sCl
              rw [if_neg (by omega), if_pos k402, y1]
              dsimp only
              rw [w1]
            | inr q =>
              obtain ⟨t2, S2, bb, D2, C2⟩ := q
              obtain ⟨x1, sz2, x2, x3, x4, x5, x6, x7, x8, x9, x10, x11⟩ := w3 _ _ _ _ _ rfl
              exact Or.inr ⟨o1, ls, S2, bb, D2, C2, sz2, y1, by rw [w1, x1], y2, y3, y7, y8, x2, x3, by omega, x5, x6, x7, fun z => (x8 z).trans y6, x9, x10, x11⟩
        rw [g1, obind]
        rcases g2 with dd | ⟨k, c2, u1, u2, u3, u4, u5, u6, u7, u8, u9, u10, dj⟩
        · exact ⟨σ3, gCl_dead dd.1 (by omega), Or.inl dd⟩
        · -- the end of the arm
          have k201 : c2.1 270 kd = 201 := by rw [u10 kd (by omega), a6, upd_at]
          have al2 := u5.alive u6
          have fin : ∀ (c3 : ms) (μ3 : Option (Nat × Nat)) (sz3 C3 : Nat) (S3 : Nat → Nat) (E3 : List Nat), mv N c2 = some ((), c3) → CG tk pl nt ex c3 σ3 → c3.1 264 0 = 5 → c3.1 271 0 = nI (kd + 1) → c3.1 270 = upd (c2.1 270) kd 142 → CE2 c2 c3 → (μ3 = none → md ≤ kd) → CasS rg fz dc c3 μ3 sz3 C3 w md σ3.1 S3 E3 → (∀ (c' : ms) (σ' : gs), CE2 c3 c' → OutC rg fz dc fd lit lc P c3 c' μ3 sz3 C3 md σ'.2.1 σ3.1 σ'.1 E3 (sCl tk pl vl wi nt N0 (sT tk pl vl wi nm nt rg N0 an Ds).1 w n0 σ3.1 S3) → σ'.2.1 + 1 = σ.2.1 → OutC rg fz dc fd lit lc P c c' μ sz C md σ'.2.1 σ.1 σ'.1 E (sCl tk pl vl wi nt N0 (sT tk pl vl wi nm nt rg N0 an Ds).1 w (n0 + 1) σ.1 S)) →
              ∃ σ', gCl tk pl N1 (gT tk pl N1 Dg).1 n1 σ3 = some σ' ∧ (DeadS 4 tk pl nt ex N c σ σ' ∨ CasPost tk pl nt ex N rg fz dc fd lit lc P c σ σ' kd μ sz C md E (sCl tk pl vl wi nt N0 (sT tk pl vl wi nm nt rg N0 an Ds).1 w (n0 + 1) σ.1 S)) := by
            intro c3 μ3 sz3 C3 S3 E3 m1 m2 m3 m4 m5 m6 m7 m8 m9
            have e3 : CE2 c c3 := (a7.trans u4).trans m6
            have r3 : Rc N (1 + k + 1) c c3 := (r1.trans u1).trans (Rc.one al2 (by rw [u3]; decide) m1)
            obtain ⟨σ', h1, h2⟩ := ih n1 n0 c3 σ3 kd md μ3 sz3 C3 S3 E3 (by omega) (by omega) (by omega) (by omega) u6 (i6.trans e3) m2 m3 m4 (by rw [m5, upd_at]) (by omega) m7 m8
            refine ⟨σ', h1, h2.imp (fun z => z.after r3 (by omega) (by omega)) (fun bp => ?_)⟩
            obtain ⟨k2, c4, v1, v2, v3, v4, v5, v6, v7, v8, v9, v10, v11⟩ := bp
            exact ⟨1 + k + 1 + k2, c4, r3.trans v1, by omega, v3, e3.trans v4, v5, v6, by omega, by omega, v9, fun j hj => by rw [v10 j hj, m5, upd_ne (by omega), u10 j (by omega), a6, upd_ne (by omega)], m9 c4 σ' v4 v11 (by omega)⟩
          rcases dj with ⟨fp, o1, o2, o3⟩ | ⟨o1, ls, S2, bb, D2, C2, sz2, y1, y2, y3, y4, y5, y6, y7, y8, y9, y10, y11, y12, y13, y14, y15, y16⟩
          · obtain ⟨c3, m1, m2, m3, m4, m5, m6, m7, -⟩ := casA (N := N) (μ := some fp) (sz := 0) (C := 0) (md := 0) (j := 0) (op := 0) (g := 0) u5 u3 u9 (by omega) k201 ⟨fun q z => (by cases z; exact o1), fun z => (by cases z)⟩
            exact fin c3 (some fp) 0 0 S [] m1 m2 m3 m4 m5 (m6.mono (by decide) (by decide)) (fun z => (by cases z)) ⟨m7, fun z => (by cases z)⟩ (fun c' σ' _ o _ => OutC.off (o.1 fp rfl) o2 o3)
          · have mdl := i12 o1
            have tn3 := u5.2.1
            obtain ⟨z1, z2, z3, z4, z5, z6, z7, z8⟩ := y4.2 rfl
            obtain ⟨s1, s2, s3, s4, s5, s6, s7, s8, s9⟩ := i13.2 o1
            obtain ⟨c3, m1, m2, m3, m4, m5, m6, -, m8⟩ := casA (N := N) (μ := none) (sz := sz2) (C := C + w * ls.length + C2) (md := md) (j := sz + 2 * ls.length) (op := 517) (g := -1) u5 u3 u9 (by omega) k201 ⟨fun q z => (by cases z), fun _ => ⟨y7, by omega, y11, by omega, by rw [(y15 md (by omega)).1, z5, upd_at], by omega, by rw [y14 _ (by omega)]; exact z4⟩⟩
            obtain ⟨p1, p2, p3, p4⟩ := m8 rfl
            have row3 : ∀ k, k < sz2 → k ≠ sz + 2 * ls.length → c3.2 336 k = c2.2 336 k := fun k hk hk2 => by rw [p2, updL_ne hk2, updL_ne (by omega)]
            have row1 : ∀ k, k < sz → c3.2 336 k = c.2 336 k := fun k hk => by rw [row3 k (by omega) (by omega), y14 k (by omega), z8 k hk]
            have r257 : c2.1 257 md = c.1 257 md := by rw [(y15 md (by omega)).2.1, y5]
            have j3 : jch (c3.2 336) 517 (c3.1 257 md) (sz2 :: E) := by
              rw [p4, upd_at]
              refine ⟨rfl, fun i hi => by have := s8 i hi; omega, c2.1 257 md, by rw [p2, updL_ne (by omega), updL_at], ?_⟩
              rw [r257]
              exact s7.mono (fun j hj => row1 j (s8 j hj))
            have e3 : CE2 c c3 := (a7.trans u4).trans (m6.mono (by decide) (by decide))
            refine fin c3 none (sz2 + 1) (C + w * ls.length + C2) S2 (sz2 :: E) m1 m2 m3 m4 m5 (m6.mono (by decide) (by decide)) (fun _ => mdl) ⟨fun q z => (by cases z), fun _ => ⟨p1, by omega, y10.of (by rw [m6.1 326 (by decide)]), by rw [m6.1 260 (by decide)]; exact y11, by rw [m6.1 259 (by decide), (y15 md (by omega)).2.2.2, y6]; exact s5, by rw [m6.1 258 (by decide), (y15 md (by omega)).2.2.1]; exact z6, j3, fun j hj => ?_, by rw [List.length_cons]; omega⟩⟩ (fun c' σ' ec o hd' => ?_)
            · rcases List.mem_cons.mp hj with rfl | hj
              · omega
              · have := s8 j hj; omega
            · obtain ⟨q, w1, w2, w3⟩ := o.2 rfl
              have es : sCl tk pl vl wi nt N0 (sT tk pl vl wi nm nt rg N0 an Ds).1 w (n0 + 1) σ.1 S = match sCl tk pl vl wi nt N0 (sT tk pl vl wi nm nt rg N0 an Ds).1 w n0 σ3.1 S2 with
                  | none => none
                  | some (.inl f) => some (.inl f)
                  | some (.inr (t3, S3, b3, F, C3)) => some (.inr (t3, S3, bb || b3, fun x v n => if x ∈ ls.map lN then D2 v n else F x v n, w * ls.length + C2 + C3)) := by
                conv => lhs; unfold sCl
                rw [if_neg (by omega), if_pos k402, y1]
                dsimp only
                rw [y2]
                rfl
              rw [w1] at es
              refine ⟨fun q z => (by rw [o1] at z; cases z), fun _ => ?_⟩
              cases q with
              | inl fp => exact ⟨.inl fp, es, fun f p y => (by cases y; exact w2 f p rfl), fun _ _ _ _ _ y => (by cases y)⟩
              | inr q =>
                obtain ⟨t3, S3, b3, F, C3⟩ := q
                refine ⟨_, es, fun f p y => (by cases y), fun _ _ _ _ _ y => ?_⟩
                cases y
                obtain ⟨v1, ze, v2, v3, v4, v5, v6, v7, v8, v9, v10, v11, v12, v13⟩ := w3 _ _ _ _ _ rfl
                have nE : ∀ k, sz ≤ k → k ≠ sz2 → k ∉ sz2 :: E := fun k hk hk2 z => by
                  rcases List.mem_cons.mp z with rfl | z
                  · exact hk2 rfl
                  · have := s8 k z; omega
                have rowc : ∀ k, sz ≤ k → k < sz2 → k ≠ sz + 2 * ls.length → c'.2 336 k = c2.2 336 k := fun k k1 k2 k3 => by rw [v11 k (by omega) (nE k k1 (by omega)), row3 k k2 k3]
                refine ⟨v1, ze, by rw [show C + (w * ls.length + C2 + C3) = C + w * ls.length + C2 + C3 by omega]; exact v2, by omega, by omega, v5, v6, fun y => ?_, fun y => ?_, v9, fun j hj => v10 j (List.mem_cons_of_mem _ hj), fun k hk hk2 => ?_, fun k hk => ?_, fun vv n st x hst => ?_⟩
                · cases b3 with
                  | true => exact v7 rfl
                  | false => rw [v8 rfl, m6.1 255 (by decide)]; exact y12 (by simpa using y)
                · cases b3 with
                  | true => simp at y
                  | false => rw [v8 rfl, m6.1 255 (by decide)]; exact y13 (by simpa using y)
                · rw [v11 k (by omega) (fun z => by
                    rcases List.mem_cons.mp z with rfl | z
                    · omega
                    · exact hk2 z), row1 k hk]
                · obtain ⟨q1, q2, q3, q4⟩ := v12 k hk
                  obtain ⟨q5, q6, q7, q8⟩ := y15 k (by omega)
                  exact ⟨by rw [q1, p3, upd_ne (by omega), q5, z5, upd_ne (by omega)], by rw [q2, p4, upd_ne (by omega), q6, y5], by rw [q3, m6.1 258 (by decide), q7, z7 k (by omega)], by rw [q4, m6.1 259 (by decide), q8, y6]⟩
                · have rl : ∀ k, sz ≤ k → k < sz + 2 * ls.length → c'.2 336 k = c1.2 336 k := fun k k1 k2 => by rw [rowc k k1 (by omega) (by omega), y14 k (by omega)]
                  refine arm_run (B := sz) (sz2 := sz2) (ze := ze) (d := σ'.2.1) (ls := ls) (D2 := D2) (F := F) (fun i u hi => ?_) (fun i hi => ?_) ?_ y8 ?_ (v10 sz2 List.mem_cons_self) (by omega) v9 (by omega) v13 vv n st x hst
                  · have il : i < ls.length := (List.getElem?_eq_some_iff.mp hi).1
                    obtain ⟨g1, g, g2⟩ := z2 i u hi
                    exact ⟨g1.at (rl _ (by omega) (by omega)), g, by rw [rl _ (by omega) (by omega)]; exact g2⟩
                  · rw [rl _ (by omega) (by omega)]; exact z3 i hi
                  · rw [v11 _ (by omega) (nE _ (by omega) (by omega)), p2, updL_at]
                  · have : Cg (c2.2 336) fd lit lc P (σ'.2.1 + 1) (sz + 2 * ls.length + 1) sz2 D2 := by rw [hd', ← b1]; exact y16
                    exact this.mono (fun k k1 k2 => rowc k (by omega) k2 (by omega))
      · have m1 : 0 < m := by omega
        rw [gT_dead d2 (by omega) (by omega), obind]
        exact ⟨σ2, gCl_dead d2 (by omega), Or.inl ⟨d2, by omega, 1, c1, r1, by omega, a3⟩⟩
    · have hm := (ctx6 (N := N) i8 i9 (by omega) i10).1 rfl
      unfold fn_Grammar_arm_Gr at hm
      rw [if_neg (show ¬ c.1 214 0 = 4 from kneg (k := 402) T i7 (by decide) (fun _ => k402))] at hm
      by_cases k316 : tk σ.1 = 316
      · have t1n := T.more tn k316 (by decide) (by decide)
        rw [if_pos (show c.1 214 0 = 144 from kpos (k := 316) i7 i5 k316)] at hm
        obtain ⟨c1, a1, a2, a3⟩ := ktake (N := N) T i7 (fun _ => t1n)
        rw [if_pos i5] at a2
        obtain ⟨c2, b1, b2, b3⟩ := kneed (N := N) T 58 (by decide) a2
        have e2 : F7 c c2 := a3.trans b3
        have k2 : c2.1 271 0 = nI (kd + 1) := by rw [e2.1 271 (by decide)]; exact i9
        rw [a1, obind] at hm
        dsimp only at hm
        rw [show fn_Tokens_need_Tk N 58 c1 = some ((), c2) from b1, obind] at hm
        dsimp only at hm
        rw [goOn_C k2 (show kd < 60 by omega), obind, obind] at hm
        dsimp only at hm
        have gl : gCl tk pl N1 (gT tk pl N1 Dg).1 (n1 + 1) σ = ((gT tk pl N1 Dg).1 (gTake tk pl 58 (gInc σ))).bind (fun σ => gShut tk pl 315 σ) := by
          conv => lhs; unfold gCl
          rw [gIs_f k402, if_neg (by decide), gIs_t i5 k316, if_pos rfl]
        rw [gl]
        have r1 := Rc.one alv (by rw [i8]; decide) hm
        have e3 : Eb [213, 214, 215, 216, 217, 218, 219, 264, 270] [] c (upI (upI c2 270 (upd (c2.1 270) kd 144)) 264 (fun _ => 4)) := ((e2.mono (by decide) (by decide)).upI (by decide)).upI (by decide)
        have hG3 : CG tk pl nt ex (upI (upI c2 270 (upd (c2.1 270) kd 144)) 264 (fun _ => 4)) (gTake tk pl 58 (gInc σ)) := (b2.upI (by decide)).upI (by decide)
        have h3a : (upI (upI c2 270 (upd (c2.1 270) kd 144)) 264 (fun _ => 4)).1 264 0 = 4 := rfl
        have h3b : (upI (upI c2 270 (upd (c2.1 270) kd 144)) 264 (fun _ => 4)).1 271 0 = nI (kd + 1) := k2
        have h3c : (upI (upI c2 270 (upd (c2.1 270) kd 144)) 264 (fun _ => 4)).1 270 = upd (c.1 270) kd 144 := by
          show upd (c2.1 270) kd 144 = _
          rw [e2.1 270 (by decide)]
        generalize upI (upI c2 270 (upd (c2.1 270) kd 144)) 264 (fun _ => 4) = c3 at *
        rcases gTake_cases (tk := tk) (pl := pl) 58 (gInc σ) i5 with ⟨-, y⟩ | ⟨-, -, dd, y⟩
        · rw [y] at hG3 ⊢
          have al3 : c3.1 217 0 = nI 0 := hG3.alive i5
          have st3 : StS rg fz dc c3 μ sz C (md + 1) (σ.1 + 2) S := by
            refine ⟨fun fp z => (i13.1 fp z).mono e3 (by decide) (by decide), fun z => ?_⟩
            obtain ⟨⟨T0, X⟩, x2, x3, x4, -⟩ := i13.2 z
            exact ⟨⟨T0, X.mono e3 (by decide) al3⟩, by omega, x3.of (by rw [e3.1 326 (by decide)]), by rw [e3.1 260 (by decide)]; exact x4⟩
          obtain ⟨σ3, h1, h2⟩ := hI Dg Ds c3 (gInc (gInc σ)) (kd + 1) (md + 1) μ sz C S hDg hDs i4 i5 (i6.trans (e3.mono (by decide) (by decide))) hG3 h3a h3b (by show kd + 1 ≤ σ.2.1; omega) (fun z => by have := i12 z; omega) st3
          rw [h1, obind]
          rcases h2 with dd | ⟨k, c4, u1, u2, u3, u4, u5, u6, u7, u8, u9, u10, u11⟩
          · exact ⟨σ3, gShut_dead dd.1 315, Or.inl (dd.after r1 (by show 1 + 4 ≤ 4 * (σ.1 + 1 + 1 - σ.1) + 4; omega) (by show σ.1 ≤ σ.1 + 1 + 1; omega))⟩
          · have u2' : k + 3 ≤ 3 * (σ3.1 - (σ.1 + 1 + 1)) := u2
            have u7' : σ3.2.1 = σ.2.1 := u7
            have u8' : σ.1 + 1 + 1 < σ3.1 := u8
            have k144 : c4.1 270 kd = 144 := by rw [u10 kd (by omega), h3c, upd_at]
            have hm4 := (ctx6 (N := N) u3 u9 (by omega) k144).2.2 rfl
            have tn3 := u5.2.1
            have r2 := r1.trans u1
            have e4 : CE2 c c4 := (e3.mono (by decide) (by decide)).trans u4
            -- what the statement left
            have dj : (∃ fp : Nat × Nat, Off c4 fp.1 fp.2 ∧ (∀ q, μ = some q → q = fp) ∧ (μ = none → sCl tk pl vl wi nt N0 (sT tk pl vl wi nm nt rg N0 an Ds).1 w (n0 + 1) σ.1 S = some (.inl fp))) ∨ (μ = none ∧ ∃ (S2 : Nat → Nat) (bb : Bool) (D2 : DT) (C2 sz2 : Nat), sCl tk pl vl wi nt N0 (sT tk pl vl wi nm nt rg N0 an Ds).1 w (n0 + 1) σ.1 S = some (.inr (σ3.1 + 1, S2, bb, fun _ => D2, C2)) ∧ (∃ T, Xc c4 T sz2 (C + C2)) ∧ sz ≤ sz2 ∧ sz2 + 4 + σ.1 ≤ sz + σ3.1 ∧ R3 rg fz dc c4 S2 ∧ c4.1 260 0 = nI (md + 1) ∧ (bb = true → c4.1 255 0 = 1) ∧ (bb = false → c4.1 255 0 = c.1 255 0) ∧ (∀ k, k < sz → c4.2 336 k = c.2 336 k) ∧ (∀ k, k < md + 1 → c4.1 256 k = c.1 256 k ∧ c4.1 257 k = c.1 257 k ∧ c4.1 258 k = c.1 258 k ∧ c4.1 259 k = c.1 259 k) ∧ Cg (c4.2 336) fd lit lc P σ.2.1 sz sz2 D2) := by
              cases hμ : μ with
              | some fp => exact Or.inl ⟨fp, u11.1 fp hμ, fun q z => (by cases z; rfl), fun z => (by cases z)⟩
              | none =>
                obtain ⟨q, w1, w2, w3⟩ := u11.2 hμ
                have w1' : (sT tk pl vl wi nm nt rg N0 an Ds).1 (σ.1 + 2) S = some q := w1
                cases q with
                | inl fp =>
                  refine Or.inl ⟨fp, w2 fp.1 fp.2 rfl, fun q z => (by cases z), fun z => ?_⟩
                  unfold sCl
                  rw [if_neg (by omega), if_neg k402, if_pos k316, w1']
                | inr q =>
                  obtain ⟨t2, S2, bb, D2, C2⟩ := q
                  obtain ⟨x1, sz2, x2, x3, x4, x5, x6, x7, x8, x9, x10, x11⟩ := w3 _ _ _ _ _ rfl
                  have x4' : sz2 + 2 + (σ.1 + 1 + 1) ≤ sz + σ3.1 := x4
                  refine Or.inr ⟨rfl, S2, bb, D2, C2, sz2, ?_, x2, x3, by omega, x5, x6, x7, fun z => by rw [x8 z, e3.1 255 (by decide)], fun k hk => by rw [x9 k hk, e3.2 336 (by decide)], fun k hk => ?_, x11⟩
                  · unfold sCl
                    rw [if_neg (by omega), if_neg k402, if_pos k316, w1']
                    dsimp only
                    rw [x1, if_neg (by omega)]
                  · obtain ⟨q1, q2, q3, q4⟩ := x10 k hk
                    exact ⟨by rw [q1, e3.1 256 (by decide)], by rw [q2, e3.1 257 (by decide)], by rw [q3, e3.1 258 (by decide)], by rw [q4, e3.1 259 (by decide)]⟩
            have fin : ∀ (μ3 : Option (Nat × Nat)) (sz3 C3 : Nat) (E3 : List Nat), ((∀ fp, μ3 = some fp → Off c4 fp.1 fp.2) ∧ (μ3 = none → (∃ T, Xc c4 T sz3 C3) ∧ sz3 + 1 < 40000 ∧ c4.1 260 0 = nI (md + 1) ∧ md < 60 ∧ jch (c4.2 336) 517 (c4.1 257 md) E3 ∧ (∀ j, j ∈ E3 → j < sz3) ∧ E3.length ≤ sz3)) → (∀ c', Eb [213, 214, 215, 216, 217, 218, 219, 238, 239, 241, 242, 243, 260, 271, 337] [336] c4 c' → (∀ fp, μ3 = some fp → Off c' fp.1 fp.2) → (μ3 = none → (∃ T, Xc c' T (sz3 + 1) C3) ∧ c'.2 336 sz3 = crw 516 0 ∧ (∀ j, j ∈ E3 → c'.2 336 j = crw 517 (nI sz3)) ∧ (∀ k, k ∉ E3 → k ≠ sz3 → c'.2 336 k = c4.2 336 k) ∧ c'.1 260 0 = nI md) → OutC rg fz dc fd lit lc P c c' μ sz C md (σ3.2.1 - 1) σ.1 (σ3.1 + 1) E (sCl tk pl vl wi nt N0 (sT tk pl vl wi nm nt rg N0 an Ds).1 w (n0 + 1) σ.1 S)) → ∃ σ', gShut tk pl 315 σ3 = some σ' ∧ (DeadS 4 tk pl nt ex N c σ σ' ∨ CasPost tk pl nt ex N rg fz dc fd lit lc P c σ σ' kd μ sz C md E (sCl tk pl vl wi nt N0 (sT tk pl vl wi nm nt rg N0 an Ds).1 w (n0 + 1) σ.1 S)) := by
              intro μ3 sz3 C3 E3 q1 q2
              obtain ⟨σ', v1, v2⟩ := casE (N := N) (kd := kd) T hN u5 u6 (by omega) u3 u9 hm4 q1
              refine ⟨σ', v1, ?_⟩
              rcases v2 with ⟨dd, v3, c5, v4, v5⟩ | ⟨rfl, c5, v4, v5, v6, v7, v8, v9, v10⟩
              · exact Or.inl ⟨dd, by omega, 1 + k + 1, c5, r2.trans (Rc.one (u5.alive u6) (by rw [u3]; decide) v4), by omega, v5⟩
              · exact Or.inr ⟨1 + k + 1, c5, r2.trans (Rc.one (u5.alive u6) (by rw [u3]; decide) v4), by show _ ≤ 3 * (σ3.1 + 1 - σ.1); omega, v6, e4.trans (v8.mono (by decide) (by decide)), v5, u6, by show σ3.2.1 - 1 + 1 = σ.2.1; omega, by show σ.1 < σ3.1 + 1; omega, v7, fun j hj => by rw [v8.1 270 (by decide), u10 j (by omega), h3c, upd_ne (by omega)], q2 c5 v8 v9 v10⟩
            rcases dj with ⟨fp, o1, o2, o3⟩ | ⟨o1, S2, bb, D2, C2, sz2, y1, y2, y3, y4, y5, y6, y7, y8, y9, y10, y11⟩
            · exact fin (some fp) 0 0 [] ⟨fun q z => (by cases z; exact o1), fun z => (by cases z)⟩ (fun c' _ o _ => OutC.off (o fp rfl) o2 o3)
            · obtain ⟨s1, s2, s3, s4, s5, s6, s7, s8, s9⟩ := i13.2 o1
              have mdl := i12 o1
              refine fin none sz2 (C + C2) E ⟨fun q z => (by cases z), fun _ => ⟨y2, by omega, y6, by omega, by rw [(y10 md (by omega)).2.1]; exact s7.mono (fun j hj => y9 j (s8 j hj)), fun j hj => by have := s8 j hj; omega, by omega⟩⟩ (fun c' ec _ o => ⟨fun q z => (by rw [o1] at z; cases z), fun _ => ⟨_, y1, fun f p y => (by cases y), fun _ _ _ _ _ y => ?_⟩⟩)
              cases y
              obtain ⟨p1, p2, p3, p4, p5⟩ := o rfl
              refine ⟨rfl, sz2, p1, y3, by omega, y5.of (by rw [ec.1 326 (by decide)]), p5, fun y => by rw [ec.1 255 (by decide)]; exact y7 y, fun y => by rw [ec.1 255 (by decide)]; exact y8 y, p2, p3, fun k k1 k2 => by rw [p4 k k2 (by omega), y9 k k1], fun k hk => ?_, fun v n st x hst => ?_⟩
              · obtain ⟨q1, q2, q3, q4⟩ := y10 k (by omega)
                exact ⟨by rw [ec.1 256 (by decide)]; exact q1, by rw [ec.1 257 (by decide)]; exact q2, by rw [ec.1 258 (by decide)]; exact q3, by rw [ec.1 259 (by decide)]; exact q4⟩
              · have f1 : Cg (c'.2 336) fd lit lc P σ.2.1 sz sz2 D2 := y11.mono (fun k k1 k2 => p4 k (fun z => by have := s8 k z; omega) (by omega))
                exact (f1 v n (x :: st) (by simp; omega)).trans (Rt.one ⟨by show sz2 < sz2 + 1; omega, by show st.length ≤ 960; omega, Or.inr (Or.inr (Or.inr (Or.inr (Or.inr ⟨x, 0, p2, rfl, rfl, rfl⟩))))⟩)
        · have m1 : 0 < m := by omega
          rw [gT_dead dd (by omega) (by omega), obind]
          exact ⟨_, gShut_dead dd 315, Or.inl ⟨dd, by rw [y]; show σ.1 ≤ σ.1 + 1; omega, 1, c3, r1, by omega, hG3⟩⟩
      · rw [if_neg (show ¬ c.1 214 0 = 144 from kneg (k := 316) T i7 (by decide) (fun _ => k316))] at hm
        have hm' : mv N c = (fn_Grammar_caseEnd_Gr N c).bind (fun q_2 => some ((), q_2.2)) := by
          rw [hm]
          cases fn_Grammar_caseEnd_Gr N c <;> rfl
        have gl : gCl tk pl N1 (gT tk pl N1 Dg).1 (n1 + 1) σ = gShut tk pl 315 σ := by
          conv => lhs; unfold gCl
          rw [gIs_f k402, if_neg (by decide), gIs_f k316, if_neg (by decide)]
        rw [gl]
        have es : sCl tk pl vl wi nt N0 (sT tk pl vl wi nm nt rg N0 an Ds).1 w (n0 + 1) σ.1 S = some (.inr (σ.1 + 1, S, false, fun _ _ n => n, 0)) := by
          conv => lhs; unfold sCl
          rw [if_neg (by omega), if_neg k402, if_neg k316]
        obtain ⟨σ', v1, v2⟩ := casE (N := N) (kd := kd) (md := md) (sz := sz) (C := C) (E := E) (μ := μ) T hN i7 i5 (by omega) i8 i9 hm' ⟨i13.1, fun z => by
          obtain ⟨s1, s2, s3, s4, s5, s6, s7, s8, s9⟩ := i13.2 z
          have := i12 z
          exact ⟨s1, by omega, s4, by omega, s7, s8, s9⟩⟩
        refine ⟨σ', v1, ?_⟩
        rcases v2 with ⟨dd, v3, c5, v4, v5⟩ | ⟨rfl, c5, v4, v5, v6, v7, v8, v9, v10⟩
        · exact Or.inl ⟨dd, by omega, 1, c5, Rc.one alv (by rw [i8]; decide) v4, by omega, v5⟩
        · refine Or.inr ⟨1, c5, Rc.one alv (by rw [i8]; decide) v4, by show _ ≤ 3 * (σ.1 + 1 - σ.1); omega, v6, v8.mono (by decide) (by decide), v5, i5, by show σ.2.1 - 1 + 1 = σ.2.1; omega, by show σ.1 < σ.1 + 1; omega, v7, fun j hj => by rw [v8.1 270 (by decide)], v9, fun z => ⟨_, es, fun f p y => (by cases y), fun _ _ _ _ _ y => ?_⟩⟩
          cases y
          obtain ⟨p1, p2, p3, p4, p5⟩ := v10 z
          obtain ⟨s1, s2, s3, s4, s5, s6, s7, s8, s9⟩ := i13.2 z
          exact ⟨rfl, sz, p1, Nat.le_refl _, by show sz + 1 + σ.1 ≤ sz + (σ.1 + 1); omega, s3.of (by rw [v8.1 326 (by decide)]), p5, fun y => (by cases y), fun _ => by rw [v8.1 255 (by decide)], p2, p3, fun k k1 k2 => p4 k k2 (by omega), fun k _ => ⟨by rw [v8.1 256 (by decide)], by rw [v8.1 257 (by decide)], by rw [v8.1 258 (by decide)], by rw [v8.1 259 (by decide)]⟩, fun v n st x hst => Rt.one ⟨by show sz < sz + 1; omega, by have : st.length ≤ σ.2.1 - 1 := hst; show st.length ≤ 960; omega, Or.inr (Or.inr (Or.inr (Or.inr (Or.inr ⟨x, 0, p2, rfl, rfl, rfl⟩))))⟩⟩
end CCAS2
