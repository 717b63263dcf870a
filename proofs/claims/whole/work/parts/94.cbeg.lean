/-! The class: statements between begin and end. -/
section CBEG
variable {tk pl vl wi : Nat → Nat} {nm : Nat → Option (Nat × Nat)} {nt : Nat} {ex : Nat → Int32} {N N0 N1 fd lc : Nat} {lit : Nat → Int64} {rg : Nat → Bool} {fz : Nat → Int32} {an dc : Nat} {P : Nat → Prop} {c0 : ms}
/-- the grammar has a fault, met within statements -/
def DeadS (e : Nat) (tk pl : Nat → Nat) (nt : Nat) (ex : Nat → Int32) (N : Nat) (c : ms) (σ σ' : gs) : Prop := σ'.2.2.1 ≠ 0 ∧ σ.1 ≤ σ'.1 ∧ ∃ k c', Rc N k c c' ∧ k ≤ 4 * (σ'.1 - σ.1) + e ∧ CG tk pl nt ex c' σ'
theorem DeadP.toS {c : ms} {σ σ' : gs} {e : Nat} (h : DeadP tk pl nt ex N c σ σ') (he : 3 ≤ e) : DeadS e tk pl nt ex N c σ σ' := by
  obtain ⟨a1, a2, k, c', a3, a4, a5⟩ := h
  exact ⟨a1, a2, k, c', a3, by omega, a5⟩
theorem DeadS.after {c c1 : ms} {σ σ1 σ' : gs} {k e e2 : Nat} (h : DeadS e tk pl nt ex N c1 σ1 σ') (r : Rc N k c c1) (hk : k + e ≤ 4 * (σ1.1 - σ.1) + e2) (hl : σ.1 ≤ σ1.1) : DeadS e2 tk pl nt ex N c σ σ' := by
  obtain ⟨a1, a2, j, c', a3, a4, a5⟩ := h
  exact ⟨a1, by omega, k + j, c', r.trans a3, by omega, a5⟩
/-- all statements with m opens left -/
def StmC (tk pl vl wi : Nat → Nat) (nm : Nat → Option (Nat × Nat)) (nt : Nat) (ex : Nat → Int32) (N N0 N1 fd : Nat) (lit : Nat → Int64) (lc : Nat) (rg : Nat → Bool) (fz : Nat → Int32) (an dc : Nat) (P : Nat → Prop) (c0 : ms) (m : Nat) : Prop :=
  ∀ Dg Ds c σ kd md μ sz C S, 2 * m ≤ Dg → 2 * m ≤ Ds → σ.2.1 + m = 61 → σ.2.2.1 = 0 → CE2 c0 c → CG tk pl nt ex c σ → c.1 264 0 = 4 → c.1 271 0 = nI kd → kd ≤ σ.2.1 → (μ = none → md ≤ kd) → StS rg fz dc c μ sz C md σ.1 S →
    ∃ σ', (gT tk pl N1 Dg).1 σ = some σ' ∧ (DeadS 4 tk pl nt ex N c σ σ' ∨ StPost tk pl nt ex N rg fz dc fd lit lc P c σ σ' kd μ sz C md ((sT tk pl vl wi nm nt rg N0 an Ds).1 σ.1 S))
theorem sb_inr {t C : Nat} {S : Nat → Nat} {b : Bool} {D : DT} {k : Nat → (Nat → Nat) → Bool → DT → Nat → sr} : sb (some (.inr (t, S, b, D, C))) k = k t S b D C := rfl
theorem Cg.le {row : Nat → Int64} {B B' a b : Nat} {D : DT} (h : Cg row fd lit lc P B a b D) (hB : B' ≤ B) : Cg row fd lit lc P B' a b D := fun v n st hs => h v n st (by omega)
def BegPost (tk pl : Nat → Nat) (nt : Nat) (ex : Nat → Int32) (N : Nat) (rg : Nat → Bool) (fz : Nat → Int32) (dc fd : Nat) (lit : Nat → Int64) (lc : Nat) (P : Nat → Prop) (c : ms) (σ σ' : gs) (kd : Nat) (μ : Option (Nat × Nat)) (sz C md : Nat) (r : sr) : Prop :=
  ∃ k c', Rc N k c c' ∧ k + 2 ≤ 3 * (σ'.1 - σ.1) ∧ c'.1 264 0 = 5 ∧ CE2 c c' ∧ CG tk pl nt ex c' σ' ∧ σ'.2.2.1 = 0 ∧ σ'.2.1 + 1 = σ.2.1 ∧ σ.1 < σ'.1 ∧ c'.1 271 0 = nI kd ∧ (∀ j, j < kd → c'.1 270 j = c.1 270 j) ∧ OutS 1 rg fz dc fd lit lc P c c' μ sz C md σ'.2.1 σ.1 σ'.1 r
theorem begL {m Dg Ds : Nat} (hQ : CQ tk pl vl wi nm nt ex N N0 N1 fd lit lc rg an dc P c0) (hI : StmC tk pl vl wi nm nt ex N N0 N1 fd lit lc rg fz an dc P c0 m) (hDg : 2 * m ≤ Dg) (hDs : 2 * m ≤ Ds) : ∀ (n n1 n0 : Nat) (c : ms) (σ : gs) (kd md : Nat) (μ : Option (Nat × Nat)) (sz C : Nat) (S : Nat → Nat), nt ≤ σ.1 + n → n < n1 → n < n0 → σ.2.1 + m = 61 → σ.2.2.1 = 0 → CE2 c0 c → CG tk pl nt ex c σ → c.1 264 0 = 5 → c.1 271 0 = nI (kd + 1) → c.1 270 kd = 138 → kd + 1 ≤ σ.2.1 → (μ = none → md ≤ kd) → StS rg fz dc c μ sz C md σ.1 S →
    ∃ σ', gSl tk pl (gT tk pl N1 Dg).1 n1 σ = some σ' ∧ (DeadS 5 tk pl nt ex N c σ σ' ∨ BegPost tk pl nt ex N rg fz dc fd lit lc P c σ σ' kd μ sz C md (sBl tk nt (sT tk pl vl wi nm nt rg N0 an Ds).1 n0 σ.1 S)) := by
  intro n
  induction n with
  | zero => intro n1 n0 c σ kd md μ sz C S i1 i2 i3 i4 i5 i6 i7; have := i7.2.1; omega
  | succ n ih =>
    intro n1 n0 c σ kd md μ sz C S i1 i2 i3 i4 i5 i6 i7 i8 i9 i10 i11 i12 i13
    obtain ⟨n1, rfl⟩ : ∃ n', n1 = n' + 1 := ⟨n1 - 1, by omega⟩
    obtain ⟨n0, rfl⟩ : ∃ n', n0 = n' + 1 := ⟨n0 - 1, by omega⟩
    have hQ' := hQ
    obtain ⟨T, hN, -⟩ := hQ
    have alv := i7.alive i5
    have tn := i7.2.1
    have d60 : σ.2.1 ≤ 60 := (i7.2.2.2.1 i5).2.2.2.2.2.2
    have mvh : mv N c = if (c.1 214 0) = 139 then ((fn_Tokens_shut_Tk N 139 c).bind (fun q_2 => some ((), upI q_2.2 271 (fun _ => ((q_2.2.1 271 0) - 1))))) else (some ((), upI c 264 (fun _ => 4))) := by
      rw [mv5 i8]
      unfold fn_Grammar_behindStatement_Gr
      rw [i9, if_neg (nI_ne0 (by omega) (by omega)), nI_pred, if_neg (nI_in (show kd < 60 by omega) (by decide)), nI_clamp (by omega), i10, if_pos rfl]
    unfold gSl sBl
    rw [if_neg (show ¬ nt ≤ σ.1 by omega)]
    by_cases k : tk σ.1 = 311
    · rw [if_neg (fun z => z.2 k), if_pos k]
      rcases gShut_cases (pl := pl) 311 σ i5 (by omega) with ⟨-, s2⟩ | ⟨s1, -⟩
      · obtain ⟨c1, a1, a2, a3⟩ := kshut (N := N) T 311 (by decide) i7 s2
        rw [if_pos (show c.1 214 0 = 139 from kpos (k := 311) i7 i5 k), show fn_Tokens_shut_Tk N 139 c = some ((), c1) from a1, obind] at mvh
        dsimp only at mvh
        have e1 : c1.1 271 0 = nI (kd + 1) := by rw [a3.1 271 (by decide)]; exact i9
        rw [e1, nI_pred] at mvh
        have ek : Eb [213, 214, 215, 216, 217, 218, 219, 271] [] c (upI c1 271 (fun _ => nI kd)) := (a3.mono (by decide) (by decide)).upI (by decide)
        have hG1 : CG tk pl nt ex (upI c1 271 (fun _ => nI kd)) (σ.1 + 1, σ.2.1 - 1, σ.2.2) := a2.upI (by decide)
        refine ⟨_, s2, Or.inr ⟨1, _, Rc.one alv (by rw [i8]; decide) mvh, by show 3 ≤ 3 * (σ.1 + 1 - σ.1); omega, by rw [ek.1 264 (by decide)]; exact i8, ek.mono (by decide) (by decide), hG1, i5, by show σ.2.1 - 1 + 1 = σ.2.1; omega, by show σ.1 < σ.1 + 1; omega, rfl, fun j _ => by rw [ek.1 270 (by decide)], fun fp z => (i13.1 fp z).mono ek (by decide) (by decide), fun z => ?_⟩⟩
        obtain ⟨⟨T0, X⟩, y2, y3, y4⟩ := i13.2 z
        refine ⟨_, rfl, fun f p y => (by cases y), fun t' S' bb D CC y => ?_⟩
        cases y
        exact ⟨rfl, sz, ⟨T0, X.mono ek (by decide) (hG1.alive i5)⟩, Nat.le_refl _, by show sz + 1 + σ.1 ≤ sz + (σ.1 + 1); omega, y3.of (by rw [ek.1 326 (by decide)]), by rw [ek.1 260 (by decide)]; exact y4, fun y => (by cases y), fun _ => by rw [ek.1 255 (by decide)], fun k _ => by rw [ek.2 336 (by decide)], fun k _ => ⟨by rw [ek.1 256 (by decide)], by rw [ek.1 257 (by decide)], by rw [ek.1 258 (by decide)], by rw [ek.1 259 (by decide)]⟩, fun v n st hst => Rt.refl⟩
      · exact absurd k s1
    · rw [if_pos ⟨i5, k⟩, if_neg k]
      rw [if_neg (show ¬ c.1 214 0 = 139 from kneg (k := 311) T i7 (by decide) (fun _ => k))] at mvh
      have ek : Eb [264] [] c (upI c 264 (fun _ => 4)) := Eb.rfl.upI (by decide)
      have r1 : Rc N 1 c (upI c 264 (fun _ => 4)) := Rc.one alv (by rw [i8]; decide) mvh
      have st1 : StS rg fz dc (upI c 264 (fun _ => 4)) μ sz C md σ.1 S := i13
      obtain ⟨σ1, g1, g2⟩ := hI Dg Ds (upI c 264 (fun _ => 4)) σ (kd + 1) md μ sz C S hDg hDs i4 i5 (i6.trans (ek.mono (by decide) (by decide))) (i7.upI (by decide)) rfl i9 i11 (fun z => by have := i12 z; omega) st1
      rw [g1]
      show ∃ σ', gSl tk pl (gT tk pl N1 Dg).1 n1 σ1 = some σ' ∧ _
      have dead : ∀ σ2 : gs, σ2.2.2.1 ≠ 0 → 0 < n1 → gSl tk pl (gT tk pl N1 Dg).1 n1 σ2 = some σ2 := fun σ2 z zn => by
        obtain ⟨n1, rfl⟩ : ∃ n', n1 = n' + 1 := ⟨n1 - 1, by omega⟩
        unfold gSl
        rw [if_neg (fun y => z y.1), gShut_dead z]
      rcases g2 with dd | sp
      · exact ⟨σ1, dead σ1 dd.1 (by omega), Or.inl (dd.after r1 (by omega) (Nat.le_refl _))⟩
      · obtain ⟨k1, c1, q1, q2, q3, q4, q5, q6, q7, q8, q9, q10, q11⟩ := sp
        have e1 : CE2 c c1 := (ek.mono (by decide) (by decide)).trans q4
        have r2 := r1.trans q1
        have k138 : c1.1 270 kd = 138 := by rw [q10 kd (by omega)]; exact i10
        have go : ∀ (μ1 : Option (Nat × Nat)) (sz1 C1 : Nat) (S1 : Nat → Nat), StS rg fz dc c1 μ1 sz1 C1 md σ1.1 S1 → (μ1 = none → md ≤ kd) → (∀ (c' : ms) (σ' : gs), CE2 c1 c' → OutS 1 rg fz dc fd lit lc P c1 c' μ1 sz1 C1 md σ'.2.1 σ1.1 σ'.1 (sBl tk nt (sT tk pl vl wi nm nt rg N0 an Ds).1 n0 σ1.1 S1) → σ'.2.1 + 1 = σ.2.1 → OutS 1 rg fz dc fd lit lc P c c' μ sz C md σ'.2.1 σ.1 σ'.1 (sb ((sT tk pl vl wi nm nt rg N0 an Ds).1 σ.1 S) (fun t1 S1 b1 D1 C1 => sb (sBl tk nt (sT tk pl vl wi nm nt rg N0 an Ds).1 n0 t1 S1) (fun t2 S2 b2 D2 C2 => sok t2 S2 (b1 || b2) (fun v n => D2 v (D1 v n)) (C1 + C2))))) →
            ∃ σ', gSl tk pl (gT tk pl N1 Dg).1 n1 σ1 = some σ' ∧ (DeadS 5 tk pl nt ex N c σ σ' ∨ BegPost tk pl nt ex N rg fz dc fd lit lc P c σ σ' kd μ sz C md (sb ((sT tk pl vl wi nm nt rg N0 an Ds).1 σ.1 S) (fun t1 S1 b1 D1 C1 => sb (sBl tk nt (sT tk pl vl wi nm nt rg N0 an Ds).1 n0 t1 S1) (fun t2 S2 b2 D2 C2 => sok t2 S2 (b1 || b2) (fun v n => D2 v (D1 v n)) (C1 + C2))))) := by
          intro μ1 sz1 C1 S1 w1 w2 w3
          obtain ⟨σ', h1, h2⟩ := ih n1 n0 c1 σ1 kd md μ1 sz1 C1 S1 (by omega) (by omega) (by omega) (by omega) q6 (i6.trans e1) q5 q3 q9 k138 (by omega) w2 w1
          refine ⟨σ', h1, h2.imp (fun z => z.after r2 (by omega) (by omega)) (fun bp => ?_)⟩
          obtain ⟨k2, c2, u1, u2, u3, u4, u5, u6, u7, u8, u9, u10, u11⟩ := bp
          exact ⟨1 + k1 + k2, c2, r2.trans u1, by omega, u3, e1.trans u4, u5, u6, by omega, by omega, u9, fun j hj => (u10 j hj).trans (q10 j (by omega)), w3 c2 σ' u4 u11 (by omega)⟩
        cases hμ : μ with
        | some fp =>
          have := go (some fp) 0 0 S ⟨fun q z => (by cases z; exact q11.1 fp hμ), fun z => (by cases z)⟩ (fun z => (by cases z)) (fun c' σ' _ o _ => ⟨fun q z => (by rw [hμ] at z; cases z; exact o.1 fp rfl), fun z => (by rw [hμ] at z; cases z)⟩)
          rw [hμ] at this; exact this
        | none =>
          obtain ⟨q, w1, w2, w3⟩ := q11.2 hμ
          cases q with
          | inl fp =>
            have := go (some fp) 0 0 S ⟨fun q z => (by cases z; exact w2 fp.1 fp.2 rfl), fun z => (by cases z)⟩ (fun z => (by cases z)) (fun c' σ' _ o _ => ⟨fun q z => (by rw [hμ] at z; cases z), fun _ => ⟨.inl fp, by rw [w1]; rfl, fun f p y => (by cases y; exact o.1 (f, p) rfl), fun _ _ _ _ _ y => (by cases y)⟩⟩)
            rw [hμ] at this; exact this
          | inr q =>
            obtain ⟨t1, S1, b1, D1, C1⟩ := q
            obtain ⟨x1, sz1, ⟨T1, x2⟩, x3, x4, x5, x6, x7, x8, x9, x10, x11⟩ := w3 _ _ _ _ _ rfl
            have st13 := i13.2 hμ
            have := go none sz1 (C + C1) S1 ⟨fun q z => (by cases z), fun _ => ⟨⟨T1, x2⟩, by omega, x5, x6⟩⟩ (fun _ => i12 hμ) (fun c' σ' ec o hd' => ⟨fun q z => (by rw [hμ] at z; cases z), fun _ => ?_⟩)
            · rw [hμ] at this; exact this
            · obtain ⟨q, y1, y2, y3⟩ := o.2 rfl
              rw [w1, x1]
              cases q with
              | inl fp => exact ⟨.inl fp, by rw [sb_inr, y1]; rfl, fun f p y => (by cases y; exact y2 f p rfl), fun _ _ _ _ _ y => (by cases y)⟩
              | inr q =>
                obtain ⟨t2, S2, b2, D2, C2⟩ := q
                refine ⟨.inr (t2, S2, b1 || b2, fun v n => D2 v (D1 v n), C1 + C2), by rw [sb_inr, y1]; rfl, fun f p y => (by cases y), fun _ _ _ _ _ y => ?_⟩
                cases y
                obtain ⟨z1, sz2, ⟨T2, z2⟩, z3, z4, z5, z6, z7, z8, z9, z10, z11⟩ := y3 _ _ _ _ _ rfl
                refine ⟨z1, sz2, ⟨T2, by rw [← Nat.add_assoc]; exact z2⟩, by omega, by omega, z5, z6, fun y => ?_, fun y => ?_, fun k hk => (z9 k (by omega)).trans (x9 k hk), fun k hk => ⟨(z10 k hk).1.trans (x10 k hk).1, (z10 k hk).2.1.trans (x10 k hk).2.1, (z10 k hk).2.2.1.trans (x10 k hk).2.2.1, (z10 k hk).2.2.2.trans (x10 k hk).2.2.2⟩, fun v n st hst => ?_⟩
                · cases b2 with
                  | true => exact z7 rfl
                  | false => rw [z8 rfl]; exact x7 (by simpa using y)
                · cases b2 with
                  | true => simp at y
                  | false => rw [z8 rfl]; exact x8 (by simpa using y)
                · have f1 : Cg (c'.2 336) fd lit lc P σ.2.1 sz sz1 D1 := x11.mono (fun k k1 k2 => z9 k k2)
                  exact (f1 v n st (by omega)).trans (z11 v (D1 v n) st hst)
end CBEG
