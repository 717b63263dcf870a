/-! The class: a circuit is built. -/
/-- what tells a signal, in the class; ok: whether the instance that drives it stands by now -/
def Cr1 (A : ds) (L : Nat → ly) (lit : Nat → Int64) (lc sz : Nat) (c : ms) (x : Nat) (R : rul) (ok : Prop) : Prop :=
  (R.1 = 0 → c.1 302 x = -1 ∧ ∃ a, a ≤ sz ∧ c.1 299 x = nI a ∧ c.1 300 x = nI a) ∧ (R.1 = 1 → c.1 302 x = -1 ∧ CLr c sz (A.1 21 (L R.2.1).1) lit lc 299 300 x R.2.2.1 ∧ c.1 301 x = nI (L R.2.1).2.1) ∧ (R.1 = 2 → (∃ a, a ≤ sz ∧ c.1 299 x = nI a ∧ c.1 300 x = nI a) ∧ (ok → c.1 302 x = nI R.2.2.2) ∧ (¬ ok → c.1 302 x = -1))
def kidOf (A : ds) (L : Nat → ly) (i q : Nat) : Nat := i + 1 + ofI A (L i).1 (A.1 6 (A.1 21 (L i).1 + q) - A.1 22 (L i).1)
def Bi (A : ds) (L : Nat → ly) (lit : Nat → Int64) (lc sz n i : Nat) (c : ms) : Prop := Ri A L n i c ∧ ∀ x, x < i → ∀ q, q < own A (L x).1 → c.1 298 ((L x).2.1 + q) = nI (A.1 21 (L x).1 + q) ∧ Cr1 A L lit lc sz c ((L x).2.1 + q) (Ru A L x q) (kidOf A L x q < i)
section CBW
variable {tk pl : Nat → Nat} {nt t : Nat} {A : ds} {c c' c0 : ms} {N m sz lc : Nat} {lit : Nat → Int64} {L : Nat → ly} {n ns : Nat}
theorem Ri.keep {i : Nat} (h : Ri A L n i c) (e : Eb [298, 299, 300, 301, 302] [] c c') : Ri A L n i c' := by
  unfold Ri at *
  rw [e.1 294 (by decide), e.1 295 (by decide), e.1 296 (by decide), e.1 297 (by decide)]
  exact h
theorem Ru_le {i q : Nat} : (Ru A L i q).1 ≤ 2 := by
  unfold Ru
  split
  · split <;> (show _ ≤ 2; omega)
  · split
    · split <;> (show _ ≤ 2; omega)
    · show 0 ≤ 2; omega
theorem Cr1.keep {x : Nat} {R : rul} {ok ok' : Prop} (h : Cr1 A L lit lc sz c x R ok) (e : CB c c') (h1 : c'.1 299 x = c.1 299 x) (h2 : c'.1 300 x = c.1 300 x) (h3 : c'.1 301 x = c.1 301 x) (h4 : c'.1 302 x = c.1 302 x) (ho : ok ↔ ok') : Cr1 A L lit lc sz c' x R ok' := by
  unfold Cr1 CLr at *
  rw [h1, h2, h3, h4, e.2 336 (by decide), ← ho]
  exact h
/-- a signal of an instance as it is laid first -/
theorem Sg0.cr {i q : Nat} (hJ : JB A) (hL : Ly A L n ns) (hi : i < n) (hq : q < own A (L i).1) (hWF : WF tk nt A t) (hT : CTb pl lit lc A sz c0) (e : Eb [298, 299, 300, 301, 302] [] c0 c) (h : Sg0 A c0 c (L i).2.1 (L i).1 q) (hk : ¬ (A.1 2 (A.1 21 (L i).1 + q) = 0 ∧ 0 < i)) {ok : Prop} (hok : ¬ ok) : Cr1 A L lit lc sz c ((L i).2.1 + q) (Ru A L i q) ok := by
  obtain ⟨s1, s2, s3, s4, s5⟩ := h
  have hl := hL.2.2.2 i hi
  obtain ⟨n1, n2⟩ := hJ.name hl.1 hq
  have k2 := (hWF.2.1 _ n2).2.2.2.2.1
  obtain ⟨a1, a2, a3, a4, a5, a6, a7, a8, a9⟩ := hJ.1.1.1 _ n2
  unfold Ru
  by_cases y0 : A.1 2 (A.1 21 (L i).1 + q) = 0
  · have i0 : i = 0 := by
      by_cases z : i = 0
      · exact z
      · exact absurd ⟨y0, by omega⟩ hk
    rw [if_pos y0, if_pos i0]
    obtain ⟨z1, z2⟩ := s5 (by rw [y0]; decide)
    exact ⟨fun _ => ⟨s3, 0, Nat.zero_le _, z1, z2⟩, fun z => (by cases z), fun z => (by cases z)⟩
  · rw [if_neg y0]
    by_cases yd : A.1 2 (A.1 21 (L i).1 + q) = 1 ∨ A.1 2 (A.1 21 (L i).1 + q) = 3
    · rw [if_pos yd]
      have sr : srt (A.1 2 (A.1 21 (L i).1 + q)) = 1 := by unfold srt; rw [if_neg y0, if_pos yd]
      obtain ⟨z1, z2⟩ := s4 sr
      have nz := a7 (by rw [n1]; exact hl.1) yd
      obtain ⟨-, d1, d2, -⟩ := (hT.2.2.1 _ n2).1 (decide_eq_true yd)
      by_cases y4 : A.1 4 (A.1 21 (L i).1 + q) = 1
      · rw [if_pos y4]
        obtain ⟨a, g1, g2, g3, g4⟩ := d1 y4
        refine ⟨fun z => (by cases z), fun _ => ⟨s3, ⟨a, by rw [z1]; exact g1, by rw [z2]; exact g2, g3, ?_⟩, s2⟩, fun z => (by cases z)⟩
        rw [e.2 336 (by decide)]
        rw [a2, n1] at g4
        exact g4
      · rw [if_neg y4]
        obtain ⟨a, g1, g2, g3⟩ := d2 (by omega)
        exact ⟨fun z => (by cases z), fun z => (by cases z), fun _ => ⟨⟨a, g1, by rw [z1]; exact g2, by rw [z2]; exact g3⟩, fun z => absurd z hok, fun _ => s3⟩⟩
    · rw [if_neg yd]
      have sr : srt (A.1 2 (A.1 21 (L i).1 + q)) ≠ 1 := by unfold srt; rw [if_neg y0, if_neg yd]; decide
      obtain ⟨z1, z2⟩ := s5 sr
      exact ⟨fun _ => ⟨s3, 0, Nat.zero_le _, z1, z2⟩, fun z => (by cases z), fun z => (by cases z)⟩
/-- an item's place: what it is in, which module it is -/
theorem Ly.up (hL : Ly A L n ns) (hJ : JB A) {i : Nat} (hi : i < n) (i0 : 0 < i) : (L i).2.2.1 < i ∧ (L i).2.2.2 < A.1 41 0 ∧ A.1 9 (L i).2.2.2 = (L (L i).2.2.1).1 ∧ A.1 10 (L i).2.2.2 = (L i).1 ∧ ∃ j, j < itn A (L (L i).2.2.1).1 ∧ i = (L i).2.2.1 + 1 + ofI A (L (L i).2.2.1).1 j ∧ (L i).2.2.2 = A.1 22 (L (L i).2.2.1).1 + j := by
  obtain ⟨p1, j, p2, p3, p4⟩ := (hL.2.2.2 i hi).2.2.2.2.1 i0
  have lp := hL.2.2.2 (L i).2.2.1 (by omega)
  obtain ⟨i1, i2, i3⟩ := hJ.item lp.1 p2
  have e10 : A.1 10 (L i).2.2.2 = (L i).1 := by
    have := lp.2.2.2.1 j p2
    rw [← p3] at this
    rw [p4, this]
  exact ⟨p1, by rw [p4]; exact i3, by rw [p4]; exact i1, e10, j, p2, p3, p4⟩
theorem kid_eq {i p q : Nat} (hL : Ly A L n ns) (hJ : JB A) (hi : i < n) (i0 : 0 < i) (hp : p < n) (hq : q < own A (L p).1) (h4 : A.1 4 (A.1 21 (L p).1 + q) = 2) : kidOf A L p q = i ↔ (p = (L i).2.2.1 ∧ A.1 6 (A.1 21 (L p).1 + q) = (L i).2.2.2) := by
  obtain ⟨u1, u2, u3, u4, j, u5, u6, u7⟩ := hL.up hJ hi i0
  have lp := hL.2.2.2 p hp
  obtain ⟨j', k, d1, d2, -⟩ := hJ.drv2 lp.1 hq h4
  have c := lp.2.2.2.1 j' d1
  have e : kidOf A L p q = p + 1 + ofI A (L p).1 j' := by
    unfold kidOf
    rw [d2, show A.1 22 (L p).1 + j' - A.1 22 (L p).1 = j' by omega]
  rw [e]
  constructor
  · intro z
    rw [z] at c
    rw [c]
    exact ⟨rfl, d2⟩
  · intro ⟨z1, z2⟩
    subst z1
    have : j' = j := by omega
    subst this
    exact u6.symm
theorem build_S {i F : Nat} (hN : 13002 < N) (hJ : JB A) (hB : Bn A) (hWF : WF tk nt A t) (hL : Ly A L n ns) (hn : n ≤ 257) (hns : ns ≤ 1024) (hi : i < n) (hT : CTb pl lit lc A sz c) (h292 : c.1 292 0 = nI n) (h293 : c.1 293 0 = nI ns) (hI : Bi A L lit lc sz n i c) : ∃ c', hd_Circuit_build_Cs_80 N (F + 1) (nI i) c = hd_Circuit_build_Cs_80 N F (nI (i + 1)) c' ∧ Eb [294, 295, 296, 297, 298, 299, 300, 301, 302] [] c c' ∧ Bi A L lit lc sz n (i + 1) c' := by
  have bb := hB.2
  have hl := hL.2.2.2 i hi
  have sm := hJ.sums hl.1
  obtain ⟨hR, hS⟩ := hI
  obtain ⟨c1, y1, y2, y3⟩ := lkids_C (N := N) hN hJ hB hL hn hns hi hT hR
  have T1 : CTb pl lit lc A sz c1 := hT.keep (y2.mono (by decide) (by decide))
  have pl' : ∀ x, x < n → 0 < x → (L x).2.2.1 < x := fun x hx h0 => ((hL.2.2.2 x hx).2.2.2.2.1 h0).1
  have ri := y3 i hi (by
    by_cases z : i = 0
    · exact Or.inl z
    · exact Or.inr (by have := pl' i hi (by omega); omega))
  obtain ⟨c2, z1, z2, z3, z4⟩ := sigs_C (N := N) hN hJ hB hL hn hns hi T1 (by rw [y2.1 293 (by decide)]; exact h293) ⟨ri.1, ri.2.1⟩
  have T2 : CTb pl lit lc A sz c2 := T1.keep (z2.mono (by decide) (by decide))
  have R2 : Ri A L n (i + 1) c2 := y3.keep z2
  have E2 : Eb [294, 295, 296, 297, 298, 299, 300, 301, 302] [] c c2 := (y2.mono (by decide) (by decide)).trans (z2.mono (by decide) (by decide))
  -- earlier signals stay
  have old : ∀ x, x < i → ∀ q, q < own A (L x).1 → c2.1 298 ((L x).2.1 + q) = c.1 298 ((L x).2.1 + q) ∧ c2.1 299 ((L x).2.1 + q) = c.1 299 ((L x).2.1 + q) ∧ c2.1 300 ((L x).2.1 + q) = c.1 300 ((L x).2.1 + q) ∧ c2.1 301 ((L x).2.1 + q) = c.1 301 ((L x).2.1 + q) ∧ c2.1 302 ((L x).2.1 + q) = c.1 302 ((L x).2.1 + q) := fun x hx q hq => by
    have := hL.base hx hi
    have g := z3 ((L x).2.1 + q) (by omega)
    rw [y2.1 298 (by decide), y2.1 299 (by decide), y2.1 300 (by decide), y2.1 301 (by decide), y2.1 302 (by decide)] at g
    exact g
  have kd : ∀ x q, x < kidOf A L x q := fun x q => by unfold kidOf; omega
  show ∃ c', bd_Circuit_build_Cs_80 N (hd_Circuit_build_Cs_80 N F) (nI i) c = _ ∧ _
  unfold bd_Circuit_build_Cs_80
  rw [h292, if_neg (nI_ge hi (by omega)), y1, obind]
  dsimp only
  rw [z1, obind]
  dsimp only
  rw [nI_1]
  by_cases i0 : i = 0
  · rw [if_pos (show nI i ≤ 0 by rw [i0]; decide)]
    refine ⟨c2, rfl, E2, R2, fun x hx q hq => ?_⟩
    have : x = i := by omega
    subst this
    refine ⟨(z4 q hq).1, (z4 q hq).cr hJ hL hi hq hWF T1 z2 (fun z => by omega) (fun z => by have := kd x q; omega)⟩
  · have i1 : 0 < i := by omega
    obtain ⟨u1, u2, u3, u4, j, u5, u6, u7⟩ := hL.up hJ hi i1
    rw [if_neg (show ¬ nI i ≤ 0 from nI_ge (a := 0) (b := i) (by omega) (by omega))]
    have rI := R2 i hi (Or.inr (by omega))
    obtain ⟨r1, r2⟩ := rI.2.2 i1
    have rP := R2 (L i).2.2.1 (by omega) (by
      by_cases z : (L i).2.2.1 = 0
      · exact Or.inl z
      · exact Or.inr (by have := pl' (L i).2.2.1 (by omega) (by omega); omega))
    have l42 := hJ.lk42 u2
    have lpp := hL.2.2.2 (L i).2.2.1 (by omega)
    have smp := hJ.sums lpp.1
    have le' : fn_Parts_linksEnd_Ps N (nI (L i).2.2.2) c2 = some (nI (A.1 12 ((L i).2.2.2 + 1)), c2) := by
      unfold fn_Parts_linksEnd_Ps
      rw [nI_1, T2.1.2.1]
      by_cases z : (L i).2.2.2 + 1 < A.1 41 0
      · rw [if_neg (nI_ge z (by omega)), if_neg (nI_in (show (L i).2.2.2 + 1 < 10923 by omega) (by decide)), nI_clamp (by omega), (T2.2.2.2.1 _ z).2.2]
      · have z2 : (L i).2.2.2 + 1 = A.1 41 0 := by omega
        rw [if_pos (nI_le (by omega) (by omega)), T2.1.2.2.1, z2, hJ.1.2]
    obtain ⟨c3, w1, w2, w3, w4, w5⟩ := links_L (N := N) (pl := pl) (lit := lit) (lc := lc) (sz := sz) (b := (L i).2.1) (o := (L (L i).2.2.1).2.1) (e := (L i).2.2.2) hJ hB u2 (by rw [u4]; omega) (by rw [u3]; omega) hns (A.1 12 ((L i).2.2.2 + 1) - A.1 12 (L i).2.2.2) (A.1 12 (L i).2.2.2) N c2 (by omega) (Nat.le_refl _) (by omega) T2 (by rw [z2.1 293 (by decide), y2.1 293 (by decide)]; exact h293) (fun r hr => by rw [u4] at hr ⊢; exact (z4 r hr).1)
    have lk : fn_Circuit_layLinks_Cs N (nI i) c2 = some ((), c3) := by
      unfold fn_Circuit_layLinks_Cs
      rw [if_neg (nI_in (show i < 257 by omega) (by decide)), if_neg (nI_in (show i < 257 by omega) (by decide)), nI_clamp (by omega), r1, if_neg (nI_in (show (L i).2.2.1 < 257 by omega) (by decide)), if_neg (nI_in2 (show i < 257 by omega) (by decide)), r2, le', obind]
      dsimp only
      rw [if_neg (nI_in2 (show i < 257 by omega) (by decide)), r2, if_neg (nI_in (show (L i).2.2.2 < 10923 by omega) (by decide)), nI_clamp (show (L i).2.2.1 < 2 ^ 31 by omega), nI_clamp (show (L i).2.2.2 < 2 ^ 31 by omega), rI.2.1, rP.2.1, (T2.2.2.2.1 _ u2).2.2]
      exact w1
    rw [lk, obind]
    dsimp only
    have E3 : Eb [294, 295, 296, 297, 298, 299, 300, 301, 302] [] c c3 := E2.trans (w2.mono (by decide) (by decide))
    have E23 : CB c2 c3 := w2.mono (by decide) (by decide)
    -- links' ends
    have hLv := hJ.1.1.2.2.1
    have lkI : ∀ k, A.1 12 (L i).2.2.2 ≤ k → k < A.1 12 ((L i).2.2.2 + 1) → A.1 37 k = A.1 21 (L i).1 ∧ A.1 21 (L i).1 ≤ A.1 13 k ∧ A.1 13 k - A.1 21 (L i).1 < own A (L i).1 ∧ A.1 18 k = (L i).2.2.2 ∧ (A.1 14 k = 0 ↔ A.1 2 (A.1 13 k) = 0) := fun k h1 h2 => by
      have e18 := (hJ.lnk u2 (show k < A.1 42 0 by omega)).mpr ⟨h1, h2⟩
      obtain ⟨-, -, -, -, -, -, b7, b8, b9, -, -, b12, -⟩ := hLv k (by omega)
      rw [e18, u4] at b7 b9
      have r := hJ.r21 hl.1
      exact ⟨b7, by omega, by omega, e18, b12⟩
    have lkO : ∀ k, A.1 12 (L i).2.2.2 ≤ k → k < A.1 12 ((L i).2.2.2 + 1) → ∀ s', A.1 14 k = s' + 1 → A.1 36 k = A.1 21 (L (L i).2.2.1).1 ∧ A.1 21 (L (L i).2.2.1).1 ≤ s' ∧ s' - A.1 21 (L (L i).2.2.1).1 < own A (L (L i).2.2.1).1 ∧ A.1 4 s' = 2 ∧ A.1 6 s' = (L i).2.2.2 ∧ A.1 7 s' = A.1 13 k := fun k h1 h2 s' hs => by
      have e18 := (hJ.lnk u2 (show k < A.1 42 0 by omega)).mpr ⟨h1, h2⟩
      obtain ⟨-, -, -, -, -, b6, -, -, -, -, -, -, -, b14, -⟩ := hLv k (by omega)
      rw [e18, u3] at b6 b14
      obtain ⟨g1, g2, g3, g4, g5⟩ := b14 s' hs
      obtain ⟨n1, n2, n3, n4, -⟩ := hJ.1.1.1 s' g1
      rw [g2] at n3 n4
      unfold en at n4
      rw [if_pos lpp.1] at n4
      have r := hJ.r21 lpp.1
      exact ⟨b6, n3, by omega, g3, g4, g5.1⟩
    refine ⟨c3, rfl, E3, R2.keep (w2.mono (by decide) (by decide)), fun x hx q hq => ?_⟩
    by_cases xi : x = i
    · subst xi
      have g := z4 q hq
      obtain ⟨n1, n2⟩ := hJ.name hl.1 hq
      refine ⟨by rw [w2.1 298 (by decide)]; exact g.1, ?_⟩
      -- its own source isn't written
      have s302 : c3.1 302 ((L x).2.1 + q) = c2.1 302 ((L x).2.1 + q) := w5 _ (fun k h1 h2 h3 z => by
        obtain ⟨s', hs⟩ : ∃ s', A.1 14 k = s' + 1 := ⟨A.1 14 k - 1, by omega⟩
        obtain ⟨o1, o2, o3, -⟩ := lkO k h1 h2 s' hs
        unfold lko at z
        rw [hs, o1, Nat.add_sub_cancel] at z
        have := (hL.uniq hi (show (L x).2.2.1 < n by omega) hq o3 z).1
        omega)
      by_cases y0 : A.1 2 (A.1 21 (L x).1 + q) = 0
      · obtain ⟨k1, k2, k3, k4⟩ := hJ.port (e := (L x).2.2.2) (d := A.1 21 (L x).1 + q) u2 (by rw [u4]; omega) (by rw [u4]; have := hJ.r21 hl.1; omega) (by omega)
        have kr := (hJ.lnk u2 k1).mp k2
        obtain ⟨q1, q2, q3, q4, q5⟩ := lkI _ kr.1 kr.2
        have k14 : A.1 14 (lkOf A (L x).2.2.2 (A.1 21 (L x).1 + q)) = 0 := q5.mpr (by rw [k3]; exact y0)
        obtain ⟨v1, v2, v3⟩ := (w3 _ kr.1 kr.2).1 k14
        have ll : lki A (L x).2.1 (lkOf A (L x).2.2.2 (A.1 21 (L x).1 + q)) = (L x).2.1 + q := by
          unfold lki
          rw [k3, q1]
          omega
        rw [ll] at v1 v2 v3
        obtain ⟨a, g1, g2, g3, g4⟩ := (T2.2.2.2.2.1 _ k1).2.1 k14
        unfold Ru
        rw [if_pos y0, if_neg i0]
        refine ⟨fun z => (by cases z), fun _ => ⟨by rw [s302]; exact g.2.2.1, ⟨a, by rw [v1]; exact g1, by rw [v2]; exact g2, g3, ?_⟩, v3⟩, fun z => (by cases z)⟩
        rw [w2.2 336 (by decide)]
        have b6 := (hLv _ k1).2.2.2.2.2.1
        rw [k2, u3] at b6
        rw [b6] at g4
        exact g4
      · have st := w4 ((L x).2.1 + q) (fun k h1 h2 h3 z => by
          obtain ⟨q1, q2, q3, q4, q5⟩ := lkI k h1 h2
          unfold lki at z
          rw [q1] at z
          have : A.1 13 k = A.1 21 (L x).1 + q := by omega
          exact y0 (by rw [← this]; exact q5.mp h3))
        exact (g.cr hJ hL hi hq hWF T1 z2 (fun z => y0 z.1) (ok := kidOf A L x q < x + 1) (fun z => by have := kd x q; omega)).keep E23 st.1 st.2.1 st.2.2 s302 Iff.rfl
    · have hx' : x < i := by omega
      obtain ⟨g1, g2⟩ := hS x hx' q hq
      obtain ⟨o1, o2, o3, o4, o5⟩ := old x hx' q hq
      refine ⟨by rw [w2.1 298 (by decide), o1]; exact g1, ?_⟩
      have st := w4 ((L x).2.1 + q) (fun k h1 h2 h3 z => by
        obtain ⟨q1, q2, q3, q4, q5⟩ := lkI k h1 h2
        unfold lki at z
        rw [q1] at z
        have := (hL.uniq (show x < n by omega) hi hq q3 z).1
        omega)
      have CBc : CB c c3 := E3.mono (by decide) (by decide)
      have hxl := hL.2.2.2 x (by omega)
      by_cases r2 : (Ru A L x q).1 = 2
      · -- told by a signal
        have f4 : A.1 4 (A.1 21 (L x).1 + q) = 2 ∧ (Ru A L x q).2.2.2 = (L (kidOf A L x q)).2.1 + (A.1 7 (A.1 21 (L x).1 + q) - A.1 21 (A.1 10 (A.1 6 (A.1 21 (L x).1 + q)))) := by
          obtain ⟨n1, n2⟩ := hJ.name hxl.1 hq
          obtain ⟨-, -, -, -, b5, -, b7, -⟩ := hJ.1.1.1 _ n2
          unfold Ru at r2 ⊢
          split at r2
          · split at r2 <;> cases r2
          · rename_i h0
            split at r2
            · rename_i h1
              split at r2
              · cases r2
              · rename_i h2
                rw [if_neg h0, if_pos h1, if_neg h2]
                have := b7 (by rw [n1]; exact hxl.1) h1
                exact ⟨by omega, rfl⟩
            · cases r2
        obtain ⟨-, -, g3⟩ := g2
        obtain ⟨ga, gb, gc⟩ := g3 r2
        have ke := kid_eq hL hJ hi i1 (show x < n by omega) hq f4.1
        by_cases zk : kidOf A L x q = i
        · -- its instance is this one
          obtain ⟨e1, e2⟩ := ke.mp zk
          obtain ⟨j', k, d1, d2, d3, d4, d5, d6, d7, d8, d9⟩ := hJ.drv2 hxl.1 hq f4.1
          have e18 : A.1 18 k = (L i).2.2.2 := by rw [d4, ← d2, e2]
          have kr := (hJ.lnk u2 d3).mp e18
          have v := (w3 k kr.1 kr.2).2 (by omega)
          obtain ⟨q1, q2, q3, q4, q5⟩ := lkI k kr.1 kr.2
          obtain ⟨p1, p2, p3, -⟩ := lkO k kr.1 kr.2 _ d6
          have lo : lko A (L (L i).2.2.1).2.1 k = (L x).2.1 + q := by
            unfold lko
            rw [d6, p1, e1]
            omega
          rw [lo] at v
          refine ⟨fun z => by omega, fun z => by omega, fun _ => ⟨?_, fun _ => ?_, fun z => absurd (by omega) z⟩⟩
          · obtain ⟨a, h1, h2, h3⟩ := ga
            exact ⟨a, h1, by rw [st.1, o2]; exact h2, by rw [st.2.1, o3]; exact h3⟩
          · rw [v, f4.2, zk, e2, u4]
            unfold lki
            rw [q1, d5]
        · have s302 : c3.1 302 ((L x).2.1 + q) = c2.1 302 ((L x).2.1 + q) := w5 _ (fun k h1 h2 h3 z => by
            obtain ⟨s', hs⟩ : ∃ s', A.1 14 k = s' + 1 := ⟨A.1 14 k - 1, by omega⟩
            obtain ⟨p1, p2, p3, p4, p5, p6⟩ := lkO k h1 h2 s' hs
            unfold lko at z
            rw [hs, p1, Nat.add_sub_cancel] at z
            obtain ⟨y1, y2⟩ := hL.uniq (show x < n by omega) (show (L i).2.2.1 < n by omega) hq p3 z
            refine zk (ke.mpr ⟨y1, ?_⟩)
            have : A.1 21 (L x).1 + q = s' := by rw [y1]; omega
            rw [this]
            exact p5)
          refine ⟨fun z => by omega, fun z => by omega, fun _ => ⟨?_, fun z => ?_, fun z => ?_⟩⟩
          · obtain ⟨a, h1, h2, h3⟩ := ga
            exact ⟨a, h1, by rw [st.1, o2]; exact h2, by rw [st.2.1, o3]; exact h3⟩
          · rw [s302, o5]; exact gb (by omega)
          · rw [s302, o5]; exact gc (by omega)
      · have s302 : c3.1 302 ((L x).2.1 + q) = c2.1 302 ((L x).2.1 + q) := w5 _ (fun k h1 h2 h3 z => by
          obtain ⟨s', hs⟩ : ∃ s', A.1 14 k = s' + 1 := ⟨A.1 14 k - 1, by omega⟩
          obtain ⟨p1, p2, p3, p4, p5, p6⟩ := lkO k h1 h2 s' hs
          unfold lko at z
          rw [hs, p1, Nat.add_sub_cancel] at z
          obtain ⟨y1, y2⟩ := hL.uniq (show x < n by omega) (show (L i).2.2.1 < n by omega) hq p3 z
          have e : A.1 21 (L x).1 + q = s' := by rw [y1]; omega
          obtain ⟨n1, n2⟩ := hJ.name hxl.1 hq
          have b6 := (hJ.1.1.1 _ n2).2.2.2.2.2.1 (by rw [e, p4]; decide)
          refine r2 ?_
          unfold Ru
          rw [if_neg (by omega), if_pos b6, if_neg (by rw [e, p4]; decide)])
        have hk' := g2.keep (ok' := kidOf A L x q < i) CBc (by rw [st.1, o2]) (by rw [st.2.1, o3]) (by rw [st.2.2, o4]) (by rw [s302, o5]) Iff.rfl
        exact ⟨hk'.1, hk'.2.1, fun z => absurd z r2⟩
theorem build_L (hN : 13002 < N) (hJ : JB A) (hB : Bn A) (hWF : WF tk nt A t) (hL : Ly A L n ns) (hn : n ≤ 257) (hns : ns ≤ 1024) : ∀ (k i F : Nat) (c : ms), i + k = n → k < F → CTb pl lit lc A sz c → c.1 292 0 = nI n → c.1 293 0 = nI ns → Bi A L lit lc sz n i c → ∃ c', hd_Circuit_build_Cs_80 N F (nI i) c = some ((), c') ∧ Eb [294, 295, 296, 297, 298, 299, 300, 301, 302] [] c c' ∧ Bi A L lit lc sz n n c' := by
  intro k
  induction k with
  | zero =>
    intro i F c hk hF hT h2 h3 hI
    obtain ⟨F, rfl⟩ : ∃ F', F = F' + 1 := ⟨F - 1, by omega⟩
    show ∃ c', bd_Circuit_build_Cs_80 N (hd_Circuit_build_Cs_80 N F) (nI i) c = _ ∧ _
    unfold bd_Circuit_build_Cs_80
    rw [h2, if_pos (nI_le (by omega) (by omega))]
    have : i = n := by omega
    subst this
    exact ⟨c, rfl, Eb.rfl, hI⟩
  | succ k ih =>
    intro i F c hk hF hT h2 h3 hI
    obtain ⟨F, rfl⟩ : ∃ F', F = F' + 1 := ⟨F - 1, by omega⟩
    obtain ⟨c1, y1, y2, y3⟩ := build_S (F := F) (N := N) hN hJ hB hWF hL hn hns (show i < n by omega) hT h2 h3 hI
    obtain ⟨c', z1, z2, z3⟩ := ih (i + 1) F c1 (by omega) (by omega) (hT.keep (y2.mono (by decide) (by decide))) (by rw [y2.1 292 (by decide)]; exact h2) (by rw [y2.1 293 (by decide)]; exact h3) y3
    exact ⟨c', by rw [y1]; exact z1, y2.trans z2, z3⟩
/-- a circuit is built -/
theorem build_C (hN : 13002 < N) (hJ : JB A) (hB : Bn A) (hWF : WF tk nt A t) (hL : Ly A L n ns) (hn : n ≤ 257) (hns : ns ≤ 1024) (hT : CTb pl lit lc A sz c) : ∃ c', fn_Circuit_build_Cs N c = some ((), c') ∧ CB c c' ∧ c'.1 292 0 = nI n ∧ c'.1 293 0 = nI ns ∧ CTb pl lit lc A sz c' ∧ Bi A L lit lc sz n n c' := by
  obtain ⟨b0, b1, b2, b3, -⟩ := id hB
  obtain ⟨l0, l1, l2, l3⟩ := id hL
  obtain ⟨M, hM⟩ : ∃ M, A.1 46 0 = M + 1 := ⟨A.1 46 0 - 1, by omega⟩
  have lM : (L 0).1 = M := by omega
  rw [lM] at l1
  have T309 : c.1 309 0 - 1 = nI M := by rw [hT.1.2.2.2.2, hM, s1_nI]
  have c30 : cap28 (A.1 30 M + 1) = n := by unfold cap28; omega
  have c29 : cap28 (A.1 29 M) = ns := by unfold cap28; omega
  obtain ⟨s1, s2, -⟩ := sumOf_C (N := N) (m := M) hB hT (by omega)
  have e1 : CB c (upI c 292 (fun _ => nI n)) := Eb.rfl.upI (by decide)
  obtain ⟨-, t2, -⟩ := sumOf_C (N := N) (m := M) hB (hT.keep e1) (by omega)
  unfold fn_Circuit_build_Cs fn_Design_sumOfTop_Ds
  rw [T309, s1, obind, obind]
  dsimp only
  rw [c30, if_neg (show ¬ (257 : Int32) < nI n from fun z => by have := nI_le (a := n) (b := 257) (by omega) (by omega); exact absurd z (Int32.not_lt.mpr this)), show (upI c 292 (fun _ => nI n)).1 309 0 - 1 = nI M from T309, t2, obind, obind]
  dsimp only
  rw [c29, if_neg (show ¬ (1024 : Int32) < nI ns from fun z => by have := nI_le (a := ns) (b := 1024) (by omega) (by omega); exact absurd z (Int32.not_lt.mpr this))]
  have e2 : CB c (upI (upI (upI (upI (upI (upI c 292 (fun _ => nI n)) 293 (fun _ => nI ns)) 294 (upd ((upI c 292 (fun _ => nI n)).1 294) 0 0)) 295 (upd ((upI c 292 (fun _ => nI n)).1 295) 0 (nI M))) 296 (upd ((upI c 292 (fun _ => nI n)).1 296) 0 (-1))) 297 (upd ((upI c 292 (fun _ => nI n)).1 297) 0 (-1))) := (((((Eb.rfl.upI (by decide)).upI (by decide)).upI (by decide)).upI (by decide)).upI (by decide)).upI (by decide)
  obtain ⟨c', z1, z2, z3⟩ := build_L (N := N) (pl := pl) (lit := lit) (lc := lc) (sz := sz) hN hJ hB hWF hL hn hns n 0 N (upI (upI (upI (upI (upI (upI c 292 (fun _ => nI n)) 293 (fun _ => nI ns)) 294 (upd ((upI c 292 (fun _ => nI n)).1 294) 0 0)) 295 (upd ((upI c 292 (fun _ => nI n)).1 295) 0 (nI M))) 296 (upd ((upI c 292 (fun _ => nI n)).1 296) 0 (-1))) 297 (upd ((upI c 292 (fun _ => nI n)).1 297) 0 (-1))) (by omega) (by omega) (hT.keep e2) rfl rfl ⟨fun x hx hp => by
    have : x = 0 := by omega
    subst this
    rw [lM, l2]
    exact ⟨by show upd (c.1 295) 0 (nI M) 0 = _; rw [upd_at], by show upd (c.1 294) 0 0 0 = _; rw [upd_at]; rfl, fun z => by omega⟩, fun x hx => by omega⟩
  have e3 : CB c c' := e2.trans (z2.mono (by decide) (by decide))
  exact ⟨c', z1, e3, by rw [z2.1 292 (by decide)]; rfl, by rw [z2.1 293 (by decide)]; rfl, hT.keep e3, z3⟩
end CBW
