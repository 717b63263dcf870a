/-! The reference: arms of a case. -/
section MCAS
variable {tk pl vl wi : Nat → Nat} {nm : Nat → Option (Nat × Nat)} {nt m N N0 : Nat} {rg : Nat → Bool} {an : Nat} {P : pw} {s0 : ms}
/-- labels that are aimed: a run over them -/
theorem lab_run {code : Nat → Int32} {nums : Nat → Int64} {nc B A : Nat} {ls : List Nat} {v n : Nat → Int64} {st : List Int64} {x : Int64} (h : Lab code nums nc B ls) (ha : ∀ i, i < ls.length → code (3 * (B + i) + 1) = nI (3 * A)) (hA : B + ls.length < A) (hs : st.length ≤ 60) : ∀ (d i : Nat), i + d = ls.length → (x ∈ (ls.drop i).map lN → Rt (rS code nums nc P v) (B + i, x :: st, n) (A, x :: st, n)) ∧ (¬ x ∈ (ls.drop i).map lN → Rt (rS code nums nc P v) (B + i, x :: st, n) (B + ls.length, x :: st, n)) := by
  intro d
  induction d with
  | zero =>
    intro i hi
    rw [show i = ls.length by omega, List.drop_length]
    exact ⟨fun z => by simp at z, fun _ => Rt.refl⟩
  | succ d ih =>
    intro i hi
    have il : i < ls.length := by omega
    obtain ⟨u1, u2⟩ := ih (i + 1) (by omega)
    obtain ⟨o1, k, o2, o3, o4⟩ := h i ls[i] (List.getElem?_eq_getElem il)
    rw [List.drop_eq_getElem_cons il, List.map_cons]
    have sl : (x :: st).length ≤ 960 := by simp; omega
    by_cases z : x = lN ls[i]
    · refine ⟨fun _ => Rt.one ⟨by show B + i < A; omega, sl, Or.inr (Or.inr (Or.inr (Or.inr (Or.inl ⟨x, k, ls[i], st, o1, o3, o2, o4, rfl, rfl, Or.inl ⟨z, ha i il⟩⟩))))⟩, fun y => absurd (by rw [z]; exact List.mem_cons_self) y⟩
    · have s1 : Rt (rS code nums nc P v) (B + i, x :: st, n) (B + (i + 1), x :: st, n) := Rt.one ⟨by show B + i < B + (i + 1); omega, sl, Or.inr (Or.inr (Or.inr (Or.inr (Or.inl ⟨x, k, ls[i], st, o1, o3, o2, o4, rfl, rfl, Or.inr ⟨z, rfl⟩⟩))))⟩
      refine ⟨fun y => s1.trans (u1 ?_), fun y => s1.trans (u2 (fun q => y (List.mem_cons_of_mem _ q)))⟩
      rcases List.mem_cons.mp y with y | y
      · exact absurd y z
      · exact y
/-- behind a fault: an arm's end -/
theorem c183Z {r rc : ms → Option (Unit × ms)} {s S : ms} {la0 nc0 f p t la nc n j : Nat} {w x2 : Int32} {E : List Nat} (h : Zl m s0 s la0 nc0 S f p t la nc) (hla : la + 10 < 33000) (ht : t + 2 < 33000) (hj : la0 ≤ j ∧ j < la) (hjE : ∀ i, i ∈ E → i < j) (hc : chn (S.1 41) x2 E) (hE : ∀ j, j ∈ E → la0 ≤ j ∧ j < la) (hn : E.length + 1 < N) : ∃ S', bk_M_caseOf_183 N r rc (hd_M_caseOf_27 N r rc (n + 1)) w x2 (nI (3 * j)) S = some ((), S') ∧ Zl m s0 s la0 nc0 S' f p (t + 1) (la + 2) nc := by
  unfold bk_M_caseOf_183
  obtain ⟨S4, d1, d2, d3, d4⟩ := h.lay (N := N) (x := 11) (y := x2) (z := 0) (by omega)
  rw [d1, obind]
  dsimp only
  unfold bk_M_caseOf_191
  have ix := d2.2.2.2.2.1.idx (j := j) (by omega)
  rw [if_neg ix.1, ix.2, d2.laid, show (3 : Int32) = nI 3 from rfl, nI_sub (by omega), show 3 * (la + 1) - 3 = 3 * la by omega]
  have d2' := d2.aim (j := j) (x := nI (3 * (la + 1))) hj.1
  have hcc : chn ((upI S4 41 (upd (S4.1 41) (3 * j + 1) (nI (3 * (la + 1))))).1 41) (nI (3 * la)) (la :: E) := by
    refine ⟨rfl, fun i hi => (hE i hi).2, ?_⟩
    have e : (upI S4 41 (upd (S4.1 41) (3 * j + 1) (nI (3 * (la + 1))))).1 41 (3 * la + 1) = x2 := by
      show upd (S4.1 41) _ _ _ = _
      rw [upd_ne (by omega)]
      exact d3.2.2.1
    rw [e]
    refine hc.mono (fun i hi => ?_)
    have il := (hE i hi).2
    have ij := hjE i hi
    show upd (S4.1 41) _ _ _ = _
    rw [upd_ne (by omega), d3.1 _ (by omega)]
  have hEE : ∀ i, i ∈ la :: E → la0 ≤ i ∧ i < la + 1 := fun i hi => by
    rcases List.mem_cons.mp hi with rfl | hi
    · omega
    · have := hE i hi; omega
  exact c27Z (N := N) (r := r) (rc := rc) (n := n) (w := w) (x2 := nI (3 * la)) (E := la :: E) d2' (by omega) (by omega) hcc hEE (by simpa using hn)
/-- where arms end -/
def Cp (b m nt : Nat) (P : pw) (s0 s : ms) (la0 nc0 C0 : Nat) (S : ms) (t la nc CC : Nat) (E : List Nat) (s' : ms) (q : Sum (Nat × Nat) (Nat × (Nat → Nat) × Bool × (Int64 → DT) × Nat)) : Prop :=
  (∀ f p, q = .inl (f, p) → Zs m s0 s la0 nc0 s' f p b) ∧ (∀ t' S' bb F C2, q = .inr (t', S', bb, F, C2) → ∃ la' nc', Ps m s0 s la0 nc0 C0 s' t' la' nc' (CC + C2) ∧ la < la' ∧ la' + t ≤ la + t' ∧ nc ≤ nc' ∧ nc' + t ≤ nc + t' ∧ t' ≤ nt ∧ C2 + 5000 * t ≤ 5000 * t' ∧ R26 P s' S' ∧ (∀ j, j ∈ E → s'.1 41 (3 * j + 1) = nI (3 * la')) ∧ (∀ k, k < 3 * la → (∀ j, j ∈ E → k ≠ 3 * j + 1) → s'.1 41 k = S.1 41 k) ∧ (∀ k, k < nc → s'.2 43 k = S.2 43 k) ∧ (∀ v n st x, VT P v → st.length ≤ 60 → Rt (rS (s'.1 41) (s'.2 43) nc' P v) (la, x :: st, n) (la', st, F x v n)))
theorem cas_M {r rc : ms → Option (Unit × ms)} {sS : Nat → (Nat → Nat) → sr} {b : Nat} {s : ms} {la0 nc0 C0 w : Nat} (hM : MC tk pl vl wi nm nt m N N0 rg an P s0) (hI : StI tk pl vl wi nm nt m P s0 b r sS) (hb : b + 40 < 30000) (hb2 : 21000 ≤ b) (hw : w ≤ 64) : ∀ (n : Nat) (S : ms) (t la nc CC : Nat) (E : List Nat) (x2 : Int32) (S26 : Nat → Nat), Ps m s0 s la0 nc0 C0 S t la nc CC → Bd nt t la nc (C0 + CC) → R26 P S S26 → chn (S.1 41) x2 E → (∀ j, j ∈ E → la0 ≤ j ∧ j < la) → E.length ≤ t → la + 2 ≤ t → ∀ q, sCl tk pl vl wi nt N0 sS w n t S26 = some q → ∃ s', hd_M_caseOf_27 N r rc (n + 1) (nI w) x2 S = some ((), s') ∧ Cp (b + 8) m nt P s0 s la0 nc0 C0 S t la nc CC E s' q := by
  intro n
  induction n with
  | zero => intro S t la nc CC E x2 S26 _ _ _ _ _ _ _ q hq; cases hq
  | succ n ih =>
    intro S t la nc CC E x2 S26 hp hB hR hc hE hEt hlt q hq
    have hM' := hM
    obtain ⟨hT, hS, hN, hN0, hl, hn, -⟩ := hM
    obtain ⟨j1, j2, j3, j4, j5⟩ := id hB
    unfold sCl at hq
    by_cases tn : nt ≤ t
    · rw [if_pos tn] at hq; cases hq
    rw [if_neg tn] at hq
    have kl : tk t < 405 := hT.lt (by omega)
    have lal : la0 ≤ la := hp.2.2.1
    show ∃ s', bd_M_caseOf_27 N r rc (hd_M_caseOf_27 N r rc (n + 1)) (nI w) x2 S = _ ∧ _
    unfold bd_M_caseOf_27
    rw [lit_nI 402, hp.is hM' (by omega) (by omega), obind]
    dsimp only
    by_cases k402 : tk t = 402
    · rw [if_pos k402] at hq
      rw [show decide (tk t = 402) = true from decide_eq_true k402, if_neg (show ¬ b01 true = 0 by decide), show hd_M_caseOf_42 N r rc (hd_M_caseOf_27 N r rc (n + 1)) N = hd_M_caseOf_42 N r rc (hd_M_caseOf_27 N r rc (n + 1)) (N0 + 1) by rw [hN0]]
      match el : sLl tk pl vl wi nt w N0 t [], hq with
      | none, hq => cases hq
      | some (.inl (f, p)), hq =>
        cases hq
        obtain ⟨u1, -⟩ := lab_M (r := r) (rc := rc) (n2 := n) (B := la) hM' hI.2 hw lal hE (by omega) N0 S t la nc CC [] (-1) hp hB rfl (fun i u hi => by simp at hi) rfl hc _ el
        obtain ⟨s', v1, v2⟩ := u1 f p rfl
        exact ⟨s', v1, fun _ _ z => (by cases z; exact v2.mono (by omega)), fun _ _ _ _ _ z => (by cases z)⟩
      | some (.inr (t1, ls)), hq =>
        obtain ⟨-, u2⟩ := lab_M (r := r) (rc := rc) (n2 := n) (B := la) hM' hI.2 hw lal hE (by omega) N0 S t la nc CC [] (-1) hp hB rfl (fun i u hi => by simp at hi) rfl hc _ el
        obtain ⟨S1, nc1, x3, v1, v2, v3, v4, v5, v6, v7, v8, v9, v10, v11⟩ := u2 t1 ls rfl
        rw [v1]
        simp only [List.length_nil, Nat.sub_zero] at v2 v3 v9 v10
        unfold bk_M_caseOf_152
        obtain ⟨S2, a1, a2, a3, a4⟩ := v3.lay (N := N) (a := 11) (b := 0) (c := 0) (by omega)
        rw [a1, obind, v3.laid]
        dsimp only
        unfold bk_M_caseOf_166
        obtain ⟨S3, b1, b2, b3, b4, b5⟩ := a2.patch (N := N) (x := x3) (E := mL la ls.length) (v5.mono (fun j hj => by have := (mL_mem.mp hj).2; rw [a3.1 _ (by omega)])) (fun j hj => by have := mL_mem.mp hj; omega) (by rw [mL_len]; omega)
        rw [b1, obind]
        dsimp only
        obtain ⟨S4, c1, c2, c3, c4⟩ := b2.lay (N := N) (a := 13) (b := 0) (c := 0) (by omega)
        rw [c1, obind]
        dsimp only
        unfold bk_M_caseOf_179
        -- what lies in the code by now
        have k4 : ∀ k, k < 3 * la → S4.1 41 k = S.1 41 k := fun k hk => by
          rw [c3.1 k (by omega), b5 k (fun j hj => by have := (mL_mem.mp hj).1; omega), a3.1 k (by omega), v6 k hk]
        have lab4 : Lab (S4.1 41) (S4.2 43) nc1 la ls := v4.mono (fun k k1 k2 k3 => by
          rw [c3.1 k (by omega), b5 k (fun j hj => by omega), a3.1 k (by omega)]) (fun k _ => by rw [c4.2 43 (by decide), b3.2 43 (by decide), a4.2 43 (by decide)]) (Nat.le_refl _)
        have aim4 : ∀ i, i < ls.length → S4.1 41 (3 * (la + i) + 1) = nI (3 * (la + ls.length + 1)) := fun i hi => by
          rw [c3.1 _ (by omega)]; exact b4 (la + i) (mL_mem.mpr (by omega))
        have o11 : S4.1 41 (3 * (la + ls.length)) = nI 11 := by
          rw [c3.1 _ (by omega), b5 _ (fun j hj => by omega)]; exact a3.2.1
        have o13 : S4.1 41 (3 * (la + ls.length + 1)) = nI 13 := c3.2.1
        have n4 : ∀ k, k < nc → S4.2 43 k = S.2 43 k := fun k hk => by
          rw [c4.2 43 (by decide), b3.2 43 (by decide), a4.2 43 (by decide)]; exact v7 k hk
        have r4 : R26 P S4 S26 := hR.mono (by rw [c4.1 26 (by decide), b3.1 26 (by decide), a4.1 26 (by decide)]; exact v8)
        have cE : chn (S4.1 41) x2 E := hc.mono (fun j hj => by have := (hE j hj).2; exact k4 _ (by omega))
        have wl : w * ls.length ≤ 64 * ls.length := Nat.mul_le_mul_right _ hw
        have hB4 : Bd nt t1 (la + ls.length + 1 + 1) nc1 (C0 + (CC + w * ls.length)) := ⟨by omega, j2, by omega, by omega, by omega⟩
        dsimp only at hq
        match es : sS t1 S26 with
        | none => rw [es] at hq; cases hq
        | some (.inl (f, p)) =>
          rw [es] at hq
          cases hq
          obtain ⟨s5, d1, d2⟩ := hI.1 S4 t1 _ nc1 _ S26 c2.1 c2.2.2.2.2.1 c2.2.2.2.2.2 hB4 r4 _ es
          rw [d1, obind]
          dsimp only
          have zs := d2.1 f p rfl
          have lo := zs.2.1
          obtain ⟨tz, lz, nz, zl, z1, z2, z3⟩ := (c2.zub zs).zl
          have lz2 : la + ls.length + 2 ≤ lz := by
            obtain ⟨q1, q2, q3, q4, tq, lq, nq, q5, q6, q7, q8, q9, q10⟩ := zs
            have e1 : s5.1 42 0 = nI (3 * lq) := q5.2.2.2.2.1
            rw [zl.laid] at e1
            have := (nI_eq (by omega) (by omega)).mp e1
            omega
          obtain ⟨S6, f1, f2⟩ := c183Z (N := N) (r := r) (rc := rc) (n := n) (w := nI w) (x2 := x2) (j := la + ls.length) (E := E) zl (by omega) (by omega) ⟨by omega, by omega⟩ (fun i hi => by have := (hE i hi).2; omega) (cE.mono (fun j hj => by have := (hE j hj).2; rw [lo.1 _ (by omega)])) (fun j hj => by have := hE j hj; omega) (by omega)
          exact ⟨S6, f1, fun _ _ z => (by cases z; exact f2.zs ⟨by omega, by omega, by omega⟩), fun _ _ _ _ _ z => (by cases z)⟩
        | some (.inr (t2, S2', b2b, D2, C2)) =>
          rw [es] at hq
          dsimp only at hq
          obtain ⟨s5, d1, d2⟩ := hI.1 S4 t1 _ nc1 _ S26 c2.1 c2.2.2.2.2.1 c2.2.2.2.2.2 hB4 r4 _ es
          obtain ⟨la2, nc2, y1, y2, y3, y4, y5, y6, y7⟩ := d2.2 _ _ _ _ _ rfl
          have p5 := c2.sub y1
          have g2 := y1.2.2.1
          have g3 := y1.2.2.2.1
          rw [d1, obind]
          dsimp only
          unfold bk_M_caseOf_183
          obtain ⟨S6, e1, e2, e3, e4⟩ := p5.lay (N := N) (a := 11) (b := x2) (c := 0) (by omega)
          rw [e1, obind]
          dsimp only
          unfold bk_M_caseOf_191
          have ix := e2.idx (j := la + ls.length) (by omega)
          rw [if_neg ix.1, ix.2, e2.laid, show (3 : Int32) = nI 3 from rfl, nI_sub (by omega), show 3 * (la2 + 1) - 3 = 3 * la2 by omega]
          have p7 := e2.aim (j := la + ls.length) (x := nI (3 * (la2 + 1))) (by omega)
          generalize hS7 : upI S6 41 (upd (S6.1 41) (3 * (la + ls.length) + 1) (nI (3 * (la2 + 1)))) = S7 at *
          have k7 : ∀ k, k < 3 * la2 → k ≠ 3 * (la + ls.length) + 1 → S7.1 41 k = s5.1 41 k := fun k hk hk2 => by
            rw [← hS7]; show upd (S6.1 41) _ _ k = _; rw [upd_ne hk2, e3.1 k hk]
          have k7a : S7.1 41 (3 * (la + ls.length) + 1) = nI (3 * (la2 + 1)) := by rw [← hS7]; exact upd_at _ _ _
          have k7b : S7.1 41 (3 * la2) = nI 11 := by rw [← hS7]; show upd (S6.1 41) _ _ _ = _; rw [upd_ne (by omega)]; exact e3.2.1
          have k7c : S7.1 41 (3 * la2 + 1) = x2 := by rw [← hS7]; show upd (S6.1 41) _ _ _ = _; rw [upd_ne (by omega)]; exact e3.2.2.1
          have k5 : ∀ k, k < 3 * (la + ls.length + 2) → s5.1 41 k = S4.1 41 k := fun k hk => y1.2.1.1 k (by omega)
          have n7 : S7.2 43 = s5.2 43 := by rw [← hS7]; show S6.2 43 = _; rw [e4.2 43 (by decide)]
          have r7 : R26 P S7 S2' := y6.mono (by rw [← hS7]; show S6.1 26 = _; rw [e4.1 26 (by decide)])
          have c7 : chn (S7.1 41) (nI (3 * la2)) (la2 :: E) := ⟨rfl, fun i hi => by have := (hE i hi).2; omega, by
            rw [k7c]
            exact cE.mono (fun j hj => by have := (hE j hj).2; rw [k7 _ (by omega) (by omega), k5 _ (by omega)])⟩
          have hE7 : ∀ j, j ∈ la2 :: E → la0 ≤ j ∧ j < la2 + 1 := fun j hj => by
            rcases List.mem_cons.mp hj with rfl | hj
            · omega
            · have := hE j hj; omega
          have hB7 : Bd nt t2 (la2 + 1) nc2 (C0 + (CC + w * ls.length + C2)) := ⟨by omega, j2, by omega, by omega, by omega⟩
          match ec : sCl tk pl vl wi nt N0 sS w n t2 S2' with
          | none => rw [ec] at hq; cases hq
          | some (.inl (f, p)) =>
            rw [ec] at hq
            cases hq
            obtain ⟨s8, f1, f2⟩ := ih S7 t2 (la2 + 1) nc2 _ (la2 :: E) (nI (3 * la2)) S2' p7 hB7 r7 c7 hE7 (by rw [List.length_cons]; omega) (by omega) _ ec
            exact ⟨s8, f1, fun _ _ z => (by cases z; exact f2.1 f p rfl), fun _ _ _ _ _ z => (by cases z)⟩
          | some (.inr (t3, S3', b3b, F, C3)) =>
            rw [ec] at hq
            cases hq
            obtain ⟨s8, f1, f2⟩ := ih S7 t2 (la2 + 1) nc2 _ (la2 :: E) (nI (3 * la2)) S2' p7 hB7 r7 c7 hE7 (by rw [List.length_cons]; omega) (by omega) _ ec
            obtain ⟨la3, nc3, h1, h2, h3, h4, h5, h6, h7, h8, h9, h10, h11, h12⟩ := f2.2 _ _ _ _ _ rfl
            refine ⟨s8, f1, fun _ _ z => (by cases z), fun t' S' bb F' CC' z => ?_⟩
            cases z
            have k8 : ∀ k, k < 3 * (la2 + 1) → k ≠ 3 * la2 + 1 → (∀ j, j ∈ E → k ≠ 3 * j + 1) → s8.1 41 k = S7.1 41 k := fun k hk hk2 hk3 => h10 k hk (fun j hj => by
              rcases List.mem_cons.mp hj with rfl | hj
              · exact hk2
              · exact hk3 j hj)
            have nE : ∀ k, 3 * la ≤ k → ∀ j, j ∈ E → k ≠ 3 * j + 1 := fun k hk j hj => by have := (hE j hj).2; omega
            have m8 : ∀ k, k < nc1 → s8.2 43 k = S4.2 43 k := fun k hk => by rw [h11 k (by omega), n7, y1.2.1.2.1 k hk]
            refine ⟨la3, nc3, by rw [show CC + (w * ls.length + C2 + C3) = CC + w * ls.length + C2 + C3 by omega]; exact h1, by omega, by omega, by omega, by omega, h6, by omega, h8, fun j hj => h9 j (List.mem_cons_of_mem _ hj), fun k hk hk2 => ?_, fun k hk => ?_, fun vv n st x hv hs => ?_⟩
            · rw [k8 k (by omega) (by omega) hk2, k7 k (by omega) (by omega), k5 k (by omega), k4 k hk]
            · rw [m8 k (by omega), n4 k hk]
            · have lab8 : Lab (s8.1 41) (s8.2 43) nc3 la ls := lab4.mono (fun k q1 q2 q3 => by rw [k8 k (by omega) (by omega) (nE k q1), k7 k (by omega) (by omega), k5 k (by omega)]) m8 (by omega)
              have aim8 : ∀ i, i < ls.length → s8.1 41 (3 * (la + i) + 1) = nI (3 * (la + ls.length + 1)) := fun i hi => by
                rw [k8 _ (by omega) (by omega) (nE _ (by omega)), k7 _ (by omega) (by omega), k5 _ (by omega)]; exact aim4 i hi
              have lr := lab_run (P := P) (v := vv) (n := n) (st := st) (x := x) lab8 aim8 (by omega) (by omega) ls.length 0 (by omega)
              rw [List.drop_zero, Nat.add_zero] at lr
              have p13 : s8.1 41 (3 * (la + ls.length + 1)) = nI 13 := by rw [k8 _ (by omega) (by omega) (nE _ (by omega)), k7 _ (by omega) (by omega), k5 _ (by omega)]; exact o13
              have p11 : s8.1 41 (3 * (la + ls.length)) = nI 11 := by rw [k8 _ (by omega) (by omega) (nE _ (by omega)), k7 _ (by omega) (by omega), k5 _ (by omega)]; exact o11
              have p11a : s8.1 41 (3 * (la + ls.length) + 1) = nI (3 * (la2 + 1)) := by rw [k8 _ (by omega) (by omega) (nE _ (by omega))]; exact k7a
              have q11 : s8.1 41 (3 * la2) = nI 11 := by rw [k8 _ (by omega) (by omega) (nE _ (by omega))]; exact k7b
              have q11a : s8.1 41 (3 * la2 + 1) = nI (3 * la3) := h9 la2 List.mem_cons_self
              have d2r : Rg (s8.1 41) (s8.2 43) nc3 P (la + ls.length + 1 + 1) la2 D2 := y7.mono (fun k q1 q2 => by rw [k8 k (by omega) (by omega) (nE k (by omega)), k7 k (by omega) (by omega)]) (fun k hk => by rw [h11 k hk, n7]) h4
              have sl : (x :: st).length ≤ 960 := by simp; omega
              dsimp only
              by_cases xin : x ∈ ls.map lN
              · rw [if_pos xin]
                refine (lr.1 xin).trans ((Rt.one (b := (la + ls.length + 1 + 1, st, n)) ⟨by show la + ls.length + 1 < la + ls.length + 1 + 1; omega, by show st.length ≤ 960; omega, Or.inr (Or.inr (Or.inr (Or.inr (Or.inr ⟨x, p13, rfl, rfl, rfl⟩))))⟩).trans ((d2r vv n st hv (by omega)).trans (Rt.one (b := (la3, st, D2 vv n)) ⟨by show la2 < la3; omega, by show st.length ≤ 960; omega, Or.inr (Or.inr (Or.inr (Or.inl ⟨q11, q11a, rfl⟩)))⟩)))
              · rw [if_neg xin]
                exact (lr.2 xin).trans ((Rt.one (b := (la2 + 1, x :: st, n)) ⟨by show la + ls.length < la2 + 1; omega, sl, Or.inr (Or.inr (Or.inr (Or.inl ⟨p11, p11a, rfl⟩)))⟩).trans (h12 vv n st x hv hs))
    · rw [if_neg k402] at hq
      rw [show decide (tk t = 402) = false from decide_eq_false k402, if_pos (show b01 false = 0 from rfl)]
      obtain ⟨S1, a1, a2, a3, a4⟩ := hp.lay (N := N) (a := 13) (b := 0) (c := 0) (by omega)
      rw [a1, obind]
      dsimp only
      unfold bk_M_caseOf_222
      rw [lit_nI 316, a2.is hM' (by omega) (by omega), obind]
      dsimp only
      have cE : chn (S1.1 41) x2 E := hc.mono (fun j hj => by have := (hE j hj).2; rw [a3.1 _ (by omega)])
      by_cases k316 : tk t = 316
      · rw [if_pos k316] at hq
        rw [show decide (tk t = 316) = true from decide_eq_true k316, if_neg (show ¬ b01 true = 0 by decide)]
        have p2 := a2.tset (x := S1.1 8 0 + 2) (t' := t + 2) (by rw [a2.eight, lit_nI 2, nI_add]) (by omega)
        generalize hS2 : upI S1 8 (fun _ => S1.1 8 0 + 2) = S2 at *
        have e12 : Eb [8] [] S1 S2 := by rw [← hS2]; exact Eb.rfl.upI (by decide)
        have r2 : R26 P S2 S26 := hR.mono (by rw [e12.1 26 (by decide), a4.1 26 (by decide)])
        have hB2 : Bd nt (t + 2) (la + 1) nc (C0 + CC) := ⟨by omega, j2, by omega, by omega, by omega⟩
        match es : sS (t + 2) S26, hq with
        | none, hq => cases hq
        | some (.inl (f, p)), hq =>
          cases hq
          obtain ⟨s3, b1, b2⟩ := hI.1 S2 (t + 2) (la + 1) nc (C0 + CC) S26 p2.1 p2.2.2.2.2.1 p2.2.2.2.2.2 hB2 r2 _ es
          rw [b1, obind]
          dsimp only
          have zs := b2.1 f p rfl
          have lo := zs.2.1
          obtain ⟨tz, lz, nz, zl, z1, z2, z3⟩ := (p2.zub zs).zl
          unfold bk_M_caseOf_246
          have lz2 : la + 1 ≤ lz := by
            obtain ⟨q1, q2, q3, q4, tq, lq, nq, q5, q6, q7, q8, q9, q10⟩ := zs
            have e1 : s3.1 42 0 = nI (3 * lq) := q5.2.2.2.2.1
            rw [zl.laid] at e1
            have := (nI_eq (by omega) (by omega)).mp e1
            omega
          obtain ⟨S4, c1, c2, c3, c4⟩ := zl.patch (N := N) (x := x2) (E := E) (cE.mono (fun j hj => by have := (hE j hj).2; rw [lo.1 _ (by omega), e12.1 41 (by decide)])) (fun j hj => by have := hE j hj; omega) (by omega)
          rw [c1, obind]
          have c5 := c2.tset (x := S4.1 8 0 + 1) (t' := tz + 1) (by rw [c2.eight, nI_1]) (by omega)
          exact ⟨_, rfl, fun _ _ z => (by cases z; exact c5.zs ⟨by omega, by omega, by omega⟩), fun _ _ _ _ _ z => (by cases z)⟩
        | some (.inr (t2, S2', b2b, D2, C2)), hq =>
          dsimp only at hq
          by_cases tn2 : nt ≤ t2
          · rw [if_pos tn2] at hq; cases hq
          rw [if_neg tn2] at hq
          cases hq
          obtain ⟨s3, b1, b2⟩ := hI.1 S2 (t + 2) (la + 1) nc (C0 + CC) S26 p2.1 p2.2.2.2.2.1 p2.2.2.2.2.2 hB2 r2 _ es
          obtain ⟨la2, nc2, y1, y2, y3, y4, y5, y6, y7⟩ := b2.2 _ _ _ _ _ rfl
          rw [b1, obind]
          dsimp only
          have p3 := p2.sub y1
          have g2 := y1.2.2.1
          have g3 := y1.2.2.2.1
          unfold bk_M_caseOf_246
          obtain ⟨S4, c1, c2, c3, c4, c5⟩ := p3.patch (N := N) (x := x2) (E := E) (cE.mono (fun j hj => by have := (hE j hj).2; rw [y1.2.1.1 _ (by omega), e12.1 41 (by decide)])) (fun j hj => by have := hE j hj; omega) (by omega)
          rw [c1, obind]
          have p5 := c2.tset (x := S4.1 8 0 + 1) (t' := t2 + 1) (by rw [c2.eight, nI_1]) (by omega)
          refine ⟨_, rfl, fun _ _ z => (by cases z), fun t' S' bb F CC' z => ?_⟩
          cases z
          have n4 : S4.2 43 = s3.2 43 := c3.2 43 (by decide)
          refine ⟨la2, nc2, p5, by omega, by omega, by omega, by omega, by omega, by omega, y6.mono (c3.1 26 (by decide)), fun j hj => c4 j hj, fun k hk hk2 => ?_, fun k hk => ?_, fun vv n st x hv hs => ?_⟩
          · show S4.1 41 k = _
            rw [c5 k hk2, y1.2.1.1 k (by omega), e12.1 41 (by decide), a3.1 k hk]
          · show S4.2 43 k = _
            rw [n4, y1.2.1.2.1 k hk, e12.2 43 (by decide), a4.2 43 (by decide)]
          · have o13 : S4.1 41 (3 * la) = nI 13 := by
              rw [c5 _ (fun j hj => by omega), y1.2.1.1 _ (by omega), e12.1 41 (by decide)]; exact a3.2.1
            have d2 : Rg (S4.1 41) (S4.2 43) nc2 P (la + 1) la2 D2 := y7.mono (fun k k1 k2 => c5 k (fun j hj => by have := (hE j hj).2; omega)) (fun k _ => by rw [n4]) (Nat.le_refl _)
            exact (Rt.one (b := (la + 1, st, n)) ⟨by show la < la + 1; omega, by show st.length ≤ 960; omega, Or.inr (Or.inr (Or.inr (Or.inr (Or.inr ⟨x, o13, rfl, rfl, rfl⟩))))⟩).trans (d2 vv n st hv (by omega))
      · rw [if_neg k316] at hq
        cases hq
        rw [show decide (tk t = 316) = false from decide_eq_false k316, if_pos (show b01 false = 0 from rfl)]
        unfold bk_M_caseOf_246
        obtain ⟨S4, c1, c2, c3, c4, c5⟩ := a2.patch (N := N) (x := x2) (E := E) cE (fun j hj => by have := hE j hj; omega) (by omega)
        rw [c1, obind]
        have p5 := c2.tset (x := S4.1 8 0 + 1) (t' := t + 1) (by rw [c2.eight, nI_1]) (by omega)
        refine ⟨_, rfl, fun _ _ z => (by cases z), fun t' S' bb F CC' z => ?_⟩
        cases z
        have n4 : S4.2 43 = S1.2 43 := c3.2 43 (by decide)
        refine ⟨la + 1, nc, p5, by omega, by omega, by omega, by omega, by omega, by omega, hR.mono (by show S4.1 26 = _; rw [c3.1 26 (by decide), a4.1 26 (by decide)]), fun j hj => c4 j hj, fun k hk hk2 => ?_, fun k hk => ?_, fun vv n st x hv hs => ?_⟩
        · show S4.1 41 k = _
          rw [c5 k hk2, a3.1 k hk]
        · show S4.2 43 k = _
          rw [n4, a4.2 43 (by decide)]
        · have o13 : S4.1 41 (3 * la) = nI 13 := by
            rw [c5 _ (fun j hj => by omega)]; exact a3.2.1
          exact Rt.one (b := (la + 1, st, n)) ⟨by show la < la + 1; omega, by show st.length ≤ 960; omega, Or.inr (Or.inr (Or.inr (Or.inr (Or.inr ⟨x, o13, rfl, rfl, rfl⟩))))⟩
end MCAS
