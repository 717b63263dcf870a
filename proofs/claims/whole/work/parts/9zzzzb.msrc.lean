/-! The reference reads its source. -/
abbrev SRE (s s' : ms) : Prop := Eb [4, 5, 6, 7, 8, 9, 10, 11, 12, 13, 14, 15, 16, 17, 18, 19, 20, 21, 23, 24, 25, 26, 27, 28, 29, 30, 31, 32, 33, 34, 35, 36, 37, 38, 39, 40, 41, 42, 44, 49, 50, 51, 52, 53, 56, 57, 58, 59, 60, 61, 62, 63, 64, 65, 66, 67, 68, 69, 70, 71, 72, 73, 74, 87, 91, 92] [22, 43, 45, 46, 47, 48] s s'
section MSRC
variable {ch : Nat → Nat} {n N0 : Nat} {wd : Nat → Nat} {s : ms} {σ : gs}
theorem Tks.keep {s' : ms} {T : Nat} {l : List (Nat × Nat × Nat)} {ks js : List Nat} (h : Tks s T l) (e : Eb ks js s s') (hk : 4 ∉ ks ∧ 5 ∉ ks ∧ 6 ∉ ks ∧ 7 ∉ ks) : Tks s' T l := by
  unfold Tks at *
  rw [e.1 7 hk.2.2.2, e.1 4 hk.1, e.1 5 hk.2.1, e.1 6 hk.2.2.1]
  exact h
theorem src_M (hN : 70000 < N0) (hn : n ≤ 12000) (h : Src s n ch) (h90 : ∀ k, k < n → ch k < 256 ∧ s.1 90 k = kch (ch k)) (h4 : ∀ i, 13000 ≤ i → s.1 4 i = 0) (hL : Lk s) (hwd : HW ch n wd) (hg : gDl (TK ch n) (PL ch n) (N0 + 1) N0 (0, 0, 0, 0) = some σ) (hd : σ.2.2.1 = 0 → ∃ q, dDesign (TK ch n) (PL ch n) (VL ch n) (WI ch n) wd (NT ch n) N0 N0 0 dA0 = some q) :
    ∃ s', fn_M_readSource (N0 + 1) s = some ((), s') ∧ SRE s s' ∧ (∀ i, 13000 ≤ i → s'.1 4 i = 0) ∧ Lk s' ∧ Tks s' 0 (tks ch n (n + 1) 0) ∧ ((∃ f p, OutF ch n wd N0 f p ∧ 0 < f ∧ f < 100 ∧ s'.1 9 0 = nI f ∧ s'.1 10 0 = nI p) ∨ ∃ t A la nc cl nl ord, OutG ch n wd N0 t A ∧ s'.1 9 0 = 0 ∧ Od A (topL A) (topN A) (topS A) ord ∧ MMs A (topL A) (topN A) (topS A) la nc cl nl ord s') := by
  have T := toks_T h hn
  have hV := toks_V h
  have e0 : Eb [9, 10] [] s (upI (upI s 9 (fun _ => 0)) 10 (fun _ => (-1))) := (Eb.rfl.upI (by decide)).upI (by decide)
  have h09 : (upI (upI s 9 (fun _ => 0)) 10 (fun _ => (-1))).1 9 0 = 0 := rfl
  unfold fn_M_readSource
  generalize upI (upI s 9 (fun _ => 0)) 10 (fun _ => (-1)) = s0 at *
  obtain ⟨s1, a1, a2, a3, a4⟩ := cutTokens_M (N := N0 + 1) (h.mono (e0.1 2 (by decide)) (e0.1 90 (by decide))) (by omega)
  rw [a1, obind]
  dsimp only
  have M4 : MT (TK ch n) (PL ch n) (NT ch n) s1 := fun i hi => by
    have e1 := List.getElem?_eq_getElem hi
    have := a2.2 i _ e1
    rw [Nat.zero_add] at this
    unfold TK PL tkL plL
    rw [e1]
    exact ⟨this.1, this.2.1⟩
  unfold fn_M_designGrammar
  have e1 : Eb [8, 11] [] s1 (upI (upI s1 8 (fun _ => 0)) 11 (fun _ => 0)) := (Eb.rfl.upI (by decide)).upI (by decide)
  have hM1 : M1 (TK ch n) (PL ch n) (NT ch n) (upI (upI s1 8 (fun _ => 0)) 11 (fun _ => 0)) (0, 0, 0, 0) := ⟨M4, rfl, T.1, (by rw [e1.1 9 (by decide), a3.1 9 (by decide)]; exact h09), (by show 0 < 4; decide), fun _ => ⟨rfl, (by show 0 ≤ 60; decide)⟩, fun z => absurd rfl z⟩
  generalize upI (upI s1 8 (fun _ => 0)) 11 (fun _ => 0) = s1' at *
  obtain ⟨s2, b1, b2, b3⟩ := design_1 (N := N0 + 1) T N0 s1' (0, 0, 0, 0) hM1 σ hg
  rw [b1, obind]
  dsimp only
  have E2 : Eb [4, 5, 6, 7, 8, 9, 10, 11, 87] [] s s2 := (((e0.mono (by decide) (by decide)).trans (a3.mono (by decide) (by decide))).trans (e1.mono (by decide) (by decide))).trans (b3.mono (by decide) (by decide))
  have L2 : Lk s2 := hL.keep E2 (by decide) (by decide)
  have R4 : ∀ i, 13000 ≤ i → s2.1 4 i = 0 := fun i hi => by
    rw [b3.1 4 (by decide), e1.1 4 (by decide), a4 i (by omega), e0.1 4 (by decide)]
    exact h4 i hi
  have n9 : s2.1 9 0 = nI σ.2.2.1 := b2.2.2.2.1
  have dead : ∀ s' : ms, ¬ s'.1 9 0 = 0 → bk_M_readSource_29 (N0 + 1) s' = some ((), s') := fun s' z => by
    unfold bk_M_readSource_29 bk_M_readSource_40
    rw [if_neg z, if_neg z]
  have K2 : Tks s2 0 (tks ch n (n + 1) 0) := (a2.keep e1 (by decide)).keep b3 (by decide)
  by_cases c : σ.2.2.1 = 0
  · obtain ⟨q, hq⟩ := hd c
    rw [c] at n9
    have n9 : s2.1 9 0 = 0 := n9
    rw [if_pos n9]
    have S2 : Src s2 n ch := h.mono (E2.1 2 (by decide)) (E2.1 90 (by decide))
    have SD2 := SD_of (N := N0 + 1) (wd := wd) (by omega) hn S2 (fun k hk => by rw [E2.1 90 (by decide)]; exact h90 k hk) K2 R4 hwd
    obtain ⟨la0, nc0, cl0, nl0, l1, l2, l3, -, l5, l6, l7, -⟩ := id L2
    obtain ⟨s3, d1, d2, d3⟩ := design_M (N := N0 + 1) (N0 := N0) (by omega) rfl T SD2 hV n9 ⟨cl0, nl0, l1, l2, l3, l5, l6, l7⟩ q hq
    rw [d1, obind]
    dsimp only
    match q, hq, d2, d3 with
    | .inl (f, p), hq, d2, _ =>
      obtain ⟨z1, z2, ⟨z3, z4⟩, z5, z6⟩ := d2 f p rfl
      rw [dead s3 (by rw [z5]; exact nI_ne0 z2 (by omega))]
      exact ⟨s3, rfl, (E2.mono (by decide) (by decide)).trans (z1.mono (by decide) (by decide)), fun i hi => by rw [z1.1 4 (by decide)]; exact R4 i hi, z4, K2.keep z1 (by decide), Or.inl ⟨f, p, ⟨σ, hg, Or.inr ⟨c, Or.inl hq⟩⟩, z2, z3, z5, z6⟩⟩
    | .inr (t, A), hq, _, d3 =>
      obtain ⟨⟨la, nc, dn⟩, wf⟩ := d3 t A rfl
      obtain ⟨hJ, hWF, hB, ht, hLy⟩ := des_ok T hV hg c hq
      obtain ⟨g1, g2, ⟨g3, g4, g5⟩, g6, g7, g8, g9⟩ := dn
      have g29 : s3.1 9 0 = 0 := g2.1
      have hT : MTb A la nc s3 := ⟨g6, g8, fun m hm => g9 m hm hB.1⟩
      have h5 : ∀ i, i < NT ch n → s3.1 5 i = nI (PL ch n i) := fun i hi => by
        rw [g1.1 5 (by decide), b3.1 5 (by decide), e1.1 5 (by decide)]
        exact (M4 i hi).2
      have E3 : SRE s s3 := (E2.mono (by decide) (by decide)).trans (g1.mono (by decide) (by decide))
      have K3 : Tks s3 0 (tks ch n (n + 1) 0) := K2.keep g1 (by decide)
      have R3 : ∀ i, 13000 ≤ i → s3.1 4 i = 0 := fun i hi => by rw [g1.1 4 (by decide)]; exact R4 i hi
      obtain ⟨s4, m1, m2, m3⟩ := limits_M (N := N0 + 1) (by omega) hB hJ hWF T.2.1 hT h5 g2.1
      unfold bk_M_readSource_29
      rw [if_pos g29, m1, obind]
      dsimp only
      by_cases cl : lim A = 0
      · rw [m2 cl]
        unfold bk_M_readSource_40
        rw [if_pos g29]
        obtain ⟨x1, x2⟩ := lim0 cl
        obtain ⟨s5, w1, w2, w3, w4, w5, w6, w7⟩ := writeOut_M (N := N0 + 1) (by omega) hJ hB hWF (by omega) T.2.1 hLy x1 x2 hT
        rw [w1, obind]
        dsimp only
        obtain ⟨len, nlen, l1, l2, l3, l4, l5, l6, l7, l8⟩ := g2.2.2.2.2.2.2.2.2.2.2.2.2
        have r1 : ∀ x, x < topS A → Mr1 la nc s5 x (RS A (topL A) (topN A) x) := fun x hx => by
          obtain ⟨i, q, hi, hq, rfl⟩ := hLy.sig hx
          rw [(RS_at hLy hi hq).1]
          exact w7 i q hi hq
        obtain ⟨a, hMt⟩ := Mt_of (N := N0 + 1) hJ hB hWF hLy x1 x2 w4 (by rw [w2.1 91 (by decide)]; exact l1) l3 l4 w6 w5 r1
        have hP := Pls_of (pl := PL ch n) hJ hB hWF T.2.1 hLy w6 w5 (fun i hi => by rw [w2.1 5 (by decide)]; exact h5 i hi)
        obtain ⟨s6, o1, o2, o3⟩ := putInOrder_M (N := N0 + 1) (by omega) hMt hP (by rw [w2.1 9 (by decide)]; exact g2.1)
        rw [o1, obind]
        have E6 : Eb [9, 10, 56, 57, 58, 59, 60, 61, 62, 63, 64, 65, 66, 67, 68, 69, 70, 71, 72, 73, 74] [] s3 s6 := (w2.mono (by decide) (by decide)).trans (o2.mono (by decide) (by decide))
        refine ⟨s6, rfl, E3.trans (E6.mono (by decide) (by decide)), fun i hi => by rw [E6.1 4 (by decide)]; exact R3 i hi, g2.lk.keep E6 (by decide) (by decide), K3.keep E6 (by decide), ?_⟩
        rcases o3 with ⟨v1, v2, ord, v3, v4, v5, v6, v7⟩ | ⟨lp, v1, v2, v3, v4, v5⟩
        · rw [dpn_dl] at v1
          refine Or.inr ⟨t, A, la, nc, len, nlen, ord, ⟨σ, hg, c, hq, cl, v1⟩, v2, Od_of hJ hWF hLy v5 v6 v7, ⟨by rw [E6.1 91 (by decide)]; exact l1, l3, l4, by rw [E6.1 92 (by decide)]; exact l5, l8, by omega⟩, ⟨by rw [o2.1 63 (by decide)]; exact w4, x2, by rw [o2.1 56 (by decide)]; exact w3, x1⟩, ⟨v3, v4⟩, w6.keep o2 (by decide) (by decide), ?_, ?_⟩
          · unfold Wi at *
            rw [o2.1 57 (by decide), o2.1 58 (by decide), o2.1 59 (by decide), o2.1 60 (by decide), o2.1 64 (by decide), o2.1 65 (by decide)]
            exact w5
          · unfold Mr1 RL at *
            rw [o2.1 66 (by decide), o2.1 67 (by decide), o2.1 68 (by decide), o2.1 69 (by decide), o2.1 41 (by decide), o2.2 43 (by decide)]
            exact r1
        · rw [dpn_dl] at v2 v3
          exact Or.inl ⟨45, _, ⟨σ, hg, Or.inr ⟨c, Or.inr ⟨t, A, hq, Or.inr ⟨cl, lp, ⟨v1, v2, v3⟩, rfl, rfl⟩⟩⟩⟩, by decide, by decide, v4, v5⟩
      · rw [m3 cl]
        unfold bk_M_readSource_40
        have ll : lim A < 100 := by unfold lim; repeat' split <;> try decide
        have l0 : 0 < lim A := Nat.pos_of_ne_zero cl
        rw [if_neg (show ¬ (upI (upI s3 9 (fun _ => nI (lim A))) 10 (fun _ => nI (PL ch n (A.1 20 (A.1 46 0 - 1))))).1 9 0 = 0 from nI_ne0 l0 (by omega))]
        have E4 : Eb [9, 10] [] s3 (upI (upI s3 9 (fun _ => nI (lim A))) 10 (fun _ => nI (PL ch n (A.1 20 (A.1 46 0 - 1))))) := (Eb.rfl.upI (by decide)).upI (by decide)
        exact ⟨_, rfl, E3.trans (E4.mono (by decide) (by decide)), R3, g2.lk.keep E4 (by decide) (by decide), K3.keep E4 (by decide), Or.inl ⟨lim A, PL ch n (A.1 20 (A.1 46 0 - 1)), ⟨σ, hg, Or.inr ⟨c, Or.inr ⟨t, A, hq, Or.inl ⟨cl, rfl, rfl⟩⟩⟩⟩, l0, ll, rfl, rfl⟩⟩
  · have c4 := b2.2.2.2.2.1
    have n9' : ¬ s2.1 9 0 = 0 := by rw [n9]; exact nI_ne0 (Nat.pos_of_ne_zero c) (by omega)
    rw [if_neg n9', dead s2 n9']
    exact ⟨s2, rfl, E2.mono (by decide) (by decide), R4, L2, K2, Or.inl ⟨σ.2.2.1, σ.2.2.2, ⟨σ, hg, Or.inl ⟨c, rfl, rfl⟩⟩, Nat.pos_of_ne_zero c, by omega, n9, b2.2.2.2.2.2.2 c⟩⟩
end MSRC
