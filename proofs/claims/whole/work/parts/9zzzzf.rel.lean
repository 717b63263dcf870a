/-! Class and reference between calls; the call that reads. -/
/-- the tapes -/
def Tpe (m : Nat) (c s : ms) : Prop := ∃ n, n ≤ m ∧ c.1 200 0 = nI n ∧ s.1 88 0 = nI n ∧ ∀ k, k < n → ∃ b, b < 256 ∧ c.1 307 k = kch b ∧ s.1 1 k = kch b
def StP (N0 n : Nat) (ch wd : Nat → Nat) (t : Nat) (A : ds) (lit : Nat → Int64) (lc sz la nc cl nl : Nat) (od or : List Nat) (c s : ms) : Prop :=
  (n ≤ 12000 ∧ (∀ k, k < n → ch k < 256) ∧ ∀ k, n ≤ k → ch k = 256) ∧ HW ch n wd ∧ OutG ch n wd N0 t A ∧ Stn (TK ch n) (PL ch n) (NT ch n) t lit lc A sz (topL A) (topN A) (topS A) la nc cl nl od or c s ∧ Rst A (topL A) (topN A) (topS A) c s ∧
  (c.1 358 0 = nI n ∧ (∀ k, k < n → c.1 357 k = kch (ch k)) ∧ c.1 360 0 = nI (inb A)) ∧ (s.1 89 0 = nI n ∧ (∀ k, k < n → s.1 55 k = kch (ch k) ∧ s.1 90 k = kch (ch k)) ∧ Tks s 0 (tks ch n (n + 1) 0) ∧ Cnt A s)
def Std (N0 : Nat) (c s : ms) : Prop := ∃ n ch wd t A lit lc sz la nc cl nl od or, StP N0 n ch wd t A lit lc sz la nc cl nl od or c s
def Rl (N0 i : Nat) (c s : ms) : Prop := Tpe (20 * i) c s ∧ c.1 201 0 = s.1 3 0 ∧ ((∀ j, 13000 ≤ j → s.1 4 j = 0) ∧ Lk s ∧ s.1 85 0 = nI 0) ∧ ((c.1 208 0 = 0 ∧ s.1 54 0 = 0) ∨ (c.1 208 0 = 1 ∧ s.1 54 0 = 1 ∧ Std N0 c s))
section REL
variable {N0 i : Nat} {c c' s s' : ms}
theorem Tpe.txt {m : Nat} (h : Tpe m c s) : ∃ (n : Nat) (ch : Nat → Nat), n ≤ m ∧ c.1 200 0 = nI n ∧ s.1 88 0 = nI n ∧ (∀ k, k < n → ch k < 256 ∧ c.1 307 k = kch (ch k) ∧ s.1 1 k = kch (ch k)) ∧ ∀ k, n ≤ k → ch k = 256 := by
  obtain ⟨n, h1, h2, h3, h4⟩ := h
  refine ⟨n, fun k => if hk : k < n then (h4 k hk).choose else 256, h1, h2, h3, fun k hk => ?_, fun k hk => ?_⟩
  · simp only [hk, dite_true]
    exact (h4 k hk).choose_spec
  · exact dif_neg (by omega)
theorem Rst.keep {A : ds} {L : Nat → ly} {n ns : Nat} (h : Rst A L n ns c s) (hc : c'.1 289 = c.1 289 ∧ c'.1 290 = c.1 290 ∧ c'.2 286 = c.2 286) (hs : s'.1 85 = s.1 85 ∧ s'.1 86 = s.1 86 ∧ s'.2 80 = s.2 80 ∧ s'.2 82 = s.2 82 ∧ s'.2 83 = s.2 83) : Rst A L n ns c' s' := by
  have e : bas A L n s' = bas A L n s := by
    funext x
    unfold bas
    rw [hs.2.2.2.1, hs.2.2.2.2]
  unfold Rst at *
  rw [e, hs.1, hs.2.1, hs.2.2.1, hs.2.2.2.1, hc.1, hc.2.1, hc.2.2]
  exact h
theorem gl_le (h : Lk s) : gl s ≤ 300000 := by
  obtain ⟨la, nc, len, nlen, l1, l2, l3, l4, l5, l6, l7, l8⟩ := h
  unfold gl
  rw [l1, l5, nI_clamp (by omega), nI_clamp (by omega)]
  omega
/-- the call that reads -/
theorem read_R (hN : 20000000 < N0) (hi : i < 512) (h : Rl N0 i c s) : ∃ (r : Int32) (c2 s2 : ms), fn_C_read_C (N0 + 1) c = some (r, c2) ∧ fn_M_read_I (N0 + 1) s = some (r, s2) ∧ gl s2 ≤ 300000 ∧ Rl N0 (i + 1) c2 s2 := by
  obtain ⟨tp, hf, ⟨h4, hLk, h85⟩, hst⟩ := h
  obtain ⟨n, ch, n1, n2, n3, n4, n5⟩ := tp.txt
  have hn : n ≤ 12000 := by omega
  obtain ⟨s1, a1, a2, a3⟩ := cp7 (N := N0 + 1) (ch := ch) hn (fun k hk => (n4 k hk).1) n 0 (N0 + 1) (upI s 0 (fun _ => 0)) (by omega) (by omega) n3 (fun k hk => (n4 k hk).2.2) (fun k hk => absurd hk (Nat.not_lt_zero _))
  unfold fn_M_read_I
  rw [show hd_M_read_I_7 (N0 + 1) (N0 + 1) 0 (upI s 0 (fun _ => 0)) = hd_M_read_I_7 (N0 + 1) (N0 + 1) (nI 0) (upI s 0 (fun _ => 0)) from rfl, a1]
  have E2 : Eb [0, 2, 88, 90] [] s (upI (upI s1 2 (fun _ => s1.1 88 0)) 88 (fun _ => 0)) := (((Eb.rfl.upI (by decide)).trans (a2.mono (by decide) (by decide))).upI (by decide)).upI (by decide)
  have r2 : (upI (upI s1 2 (fun _ => s1.1 88 0)) 88 (fun _ => 0)).1 2 0 = nI n := by
    show s1.1 88 0 = _
    rw [a2.1 88 (by decide)]
    exact n3
  have r88 : (upI (upI s1 2 (fun _ => s1.1 88 0)) 88 (fun _ => 0)).1 88 0 = nI 0 := rfl
  have r90 : ∀ k, k < n → (upI (upI s1 2 (fun _ => s1.1 88 0)) 88 (fun _ => 0)).1 90 k = kch (ch k) := a3
  generalize upI (upI s1 2 (fun _ => s1.1 88 0)) 88 (fun _ => 0) = s2 at *
  have S2 : Src s2 n ch := ⟨r2, by omega, fun k hk => ⟨(n4 k hk).1, by rw [r90 k hk]; exact kand ⟨ch k, (n4 k hk).1⟩⟩, n5⟩
  obtain ⟨wd, hw, ⟨σ, hg, hd⟩, oc⟩ := read_C (c := c) hN hn S2 n2 (fun k hk => ⟨(n4 k hk).1, (n4 k hk).2.1⟩)
  obtain ⟨s3, b1, b2, b3, b4, b5, om⟩ := src_M (by omega) hn S2 (fun k hk => ⟨(n4 k hk).1, r90 k hk⟩) (fun j hj => by rw [E2.1 4 (by decide)]; exact h4 j hj) (hLk.keep E2 (by decide) (by decide)) hw hg hd
  rw [b1, obind]
  dsimp only
  unfold bk_M_read_I_50
  rcases oc with ⟨f, p, c', o1, o2, o3, o4, o5⟩ | ⟨t, A, lit, lc, sz, od, c0, c1, o1, o2, o3, o4, o5, o6, o7, o8, o9, o10⟩
  · obtain ⟨f', p', p1, p2, p3, p4, p5⟩ : ∃ f' p', OutF ch n wd N0 f' p' ∧ 0 < f' ∧ f' < 100 ∧ s3.1 9 0 = nI f' ∧ s3.1 10 0 = nI p' := by
      rcases om with om | ⟨t, A, la, nc, cl, nl, or, g1, -⟩
      · exact om
      · exact absurd (o1.not g1) id
    obtain ⟨rfl, rfl⟩ := o1.uniq p1
    rw [if_neg (show ¬ s3.1 9 0 = 0 by rw [p4]; exact nI_ne0 p2 (by omega))]
    have E4 : Eb [3] [] s3 (upI s3 3 (fun _ => s3.1 9 0)) := Eb.rfl.upI (by decide)
    have q3 : (upI s3 3 (fun _ => s3.1 9 0)).1 3 0 = nI f := p4
    have q54 : s3.1 54 0 = s.1 54 0 := by rw [b2.1 54 (by decide), E2.1 54 (by decide)]
    generalize upI s3 3 (fun _ => s3.1 9 0) = s4 at *
    have T5 : ∀ s5 : ms, s5.1 88 0 = nI 0 → Tpe (20 * (i + 1)) c' s5 := fun s5 z => ⟨0, Nat.zero_le _, o4, z, fun k hk => absurd hk (Nat.not_lt_zero _)⟩
    rcases hst with ⟨x1, x2⟩ | ⟨x1, x2, n0, ch0, wd0, t0, A, lit, lc, sz, la, nc, cl, nl, od, or, ⟨w1, w2, w3⟩, w4, w5, w6, w7, ⟨w8, w9, w10⟩, w11, w12, w13, w14⟩
    · rw [if_pos (show s3.1 54 0 = 0 by rw [q54]; exact x2)]
      refine ⟨nI p, c', s4, o2, by unfold bk_M_read_I_117; rw [p5], gl_le (b4.keep E4 (by decide) (by decide)), T5 s4 (by rw [E4.1 88 (by decide), b2.1 88 (by decide)]; exact r88), by rw [o3, q3], ⟨fun j hj => by rw [E4.1 4 (by decide)]; exact b3 j hj, b4.keep E4 (by decide) (by decide), by rw [E4.1 85 (by decide), b2.1 85 (by decide), E2.1 85 (by decide)]; exact h85⟩, Or.inl ⟨by rw [o5.1 208 (by decide)]; exact x1, by rw [E4.1 54 (by decide), q54]; exact x2⟩⟩
    · rw [if_neg (show ¬ s3.1 54 0 = 0 by rw [q54, x2]; decide)]
      have E24 : Eb [3, 4, 5, 6, 7, 8, 9, 10, 11, 12, 13, 14, 15, 16, 17, 18, 19, 20, 21, 23, 24, 25, 26, 27, 28, 29, 30, 31, 32, 33, 34, 35, 36, 37, 38, 39, 40, 41, 42, 44, 49, 50, 51, 52, 53, 56, 57, 58, 59, 60, 61, 62, 63, 64, 65, 66, 67, 68, 69, 70, 71, 72, 73, 74, 87, 91, 92] [22, 43, 45, 46, 47, 48] s2 s4 := (b2.mono (by decide) (by decide)).trans (E4.mono (by decide) (by decide))
      obtain ⟨s5, y1, y2, y3⟩ := cp79 (N := N0 + 1) (x1 := s3.1 10 0) (ch := ch0) w1 w2 n0 0 (N0 + 1) s4 (by omega) (by omega) (by rw [E24.1 89 (by decide), E2.1 89 (by decide)]; exact w11) (fun k hk => by rw [E24.1 55 (by decide), E2.1 55 (by decide)]; exact (w12 k hk).1) (fun k hk => absurd hk (Nat.not_lt_zero _))
      rw [show hd_M_read_I_79 (N0 + 1) (N0 + 1) (s3.1 10 0) 0 s4 = hd_M_read_I_79 (N0 + 1) (N0 + 1) (s3.1 10 0) (nI 0) s4 from rfl, y1]
      have E6 : Eb [2, 90] [] s4 (upI s5 2 (fun _ => s5.1 89 0)) := (y2.mono (by decide) (by decide)).upI (by decide)
      have z2 : (upI s5 2 (fun _ => s5.1 89 0)).1 2 0 = nI n0 := by
        show s5.1 89 0 = _
        rw [y2.1 89 (by decide), E24.1 89 (by decide), E2.1 89 (by decide)]
        exact w11
      have z90 : ∀ k, k < n0 → (upI s5 2 (fun _ => s5.1 89 0)).1 90 k = kch (ch0 k) := y3
      generalize upI s5 2 (fun _ => s5.1 89 0) = s6 at *
      have S6 : Src s6 n0 ch0 := ⟨z2, by omega, fun k hk => ⟨w2 k hk, by rw [z90 k hk]; exact kand ⟨ch0 k, w2 k hk⟩⟩, w3⟩
      obtain ⟨σ0, g1, g2, g3, -⟩ := id w5
      obtain ⟨s7, v1, v2, v3, v4, v5, v6⟩ := src_M (wd := wd0) (by omega) w1 S6 (fun k hk => ⟨w2 k hk, z90 k hk⟩) (fun j hj => by rw [E6.1 4 (by decide), E4.1 4 (by decide)]; exact b3 j hj) ((b4.keep E4 (by decide) (by decide)).keep E6 (by decide) (by decide)) w4 g1 (fun _ => ⟨_, g3⟩)
      rw [v1, obind]
      obtain ⟨t', A', la', nc', cl', nl', or', u1, u2, u3, u4⟩ : ∃ t' A' la nc cl nl or, OutG ch0 n0 wd0 N0 t' A' ∧ s7.1 9 0 = 0 ∧ Od A' (topL A') (topN A') (topS A') or ∧ MMs A' (topL A') (topN A') (topS A') la nc cl nl or s7 := by
        rcases v6 with ⟨f', p', g, -⟩ | v6
        · exact absurd (g.not w5) id
        · exact v6
      obtain ⟨rfl, rfl⟩ := w5.uniq u1
      have E7 : Eb [0, 2, 3, 4, 5, 6, 7, 8, 9, 10, 11, 12, 13, 14, 15, 16, 17, 18, 19, 20, 21, 23, 24, 25, 26, 27, 28, 29, 30, 31, 32, 33, 34, 35, 36, 37, 38, 39, 40, 41, 42, 44, 49, 50, 51, 52, 53, 56, 57, 58, 59, 60, 61, 62, 63, 64, 65, 66, 67, 68, 69, 70, 71, 72, 73, 74, 87, 88, 90, 91, 92] [22, 43, 45, 46, 47, 48] s s7 := (((E2.mono (by decide) (by decide)).trans (E24.mono (by decide) (by decide))).trans (E6.mono (by decide) (by decide))).trans (v2.mono (by decide) (by decide))
      obtain ⟨k1, k2, k3, k4, k5, k6, k7, k8⟩ := w6
      refine ⟨nI p, c', s7, o2, by unfold bk_M_read_I_117; rw [p5], gl_le v4, T5 s7 (by rw [v2.1 88 (by decide), E6.1 88 (by decide), E24.1 88 (by decide)]; exact r88), by rw [o3, v2.1 3 (by decide), E6.1 3 (by decide), q3], ⟨v3, v4, by rw [E7.1 85 (by decide)]; exact h85⟩, Or.inr ⟨by rw [o5.1 208 (by decide)]; exact x1, by rw [E7.1 54 (by decide)]; exact x2, n0, ch0, wd0, t0, A, lit, lc, sz, la', nc', cl', nl', od, or', ⟨w1, w2, w3⟩, w4, w5, ⟨k1, k2, k3, k4, k5, u3, k7.keepS (StE.of o5 (by decide)), u4⟩, ?_, ⟨?_, ?_, ?_⟩, ?_, ?_, v5, ?_⟩⟩
      · exact w7.keep ⟨o5.1 289 (by decide), o5.1 290 (by decide), o5.2 286 (by decide)⟩ ⟨E7.1 85 (by decide), E7.1 86 (by decide), E7.2 80 (by decide), E7.2 82 (by decide), E7.2 83 (by decide)⟩
      · rw [o5.1 358 (by decide)]; exact w8
      · rw [o5.1 357 (by decide)]; exact w9
      · rw [o5.1 360 (by decide)]; exact w10
      · rw [E7.1 89 (by decide)]; exact w11
      · exact fun k hk => ⟨by rw [E7.1 55 (by decide)]; exact (w12 k hk).1, by rw [v2.1 90 (by decide)]; exact z90 k hk⟩
      · unfold Cnt at *
        rw [E7.1 75 (by decide), E7.1 76 (by decide), E7.1 77 (by decide), E7.1 78 (by decide), E7.2 79 (by decide)]
        exact w14
  · obtain ⟨t', A', la, nc, cl, nl, or, u1, u2, u3, u4⟩ : ∃ t' A' la nc cl nl or, OutG ch n wd N0 t' A' ∧ s3.1 9 0 = 0 ∧ Od A' (topL A') (topN A') (topS A') or ∧ MMs A' (topL A') (topN A') (topS A') la nc cl nl or s3 := by
      rcases om with ⟨f', p', g, -⟩ | om
      · exact absurd (g.not o1) id
      · exact om
    obtain ⟨rfl, rfl⟩ := o1.uniq u1
    rw [if_pos u2]
    have E4 : Eb [3] [] s3 (upI s3 3 (fun _ => s3.1 9 0)) := Eb.rfl.upI (by decide)
    have q3 : (upI s3 3 (fun _ => s3.1 9 0)).1 3 0 = nI 0 := u2
    generalize upI s3 3 (fun _ => s3.1 9 0) = s4 at *
    obtain ⟨s5, y1, y2, y3⟩ := cp121 (N := N0 + 1) (ch := ch) hn (fun k hk => (n4 k hk).1) n 0 (N0 + 1) s4 (by omega) (by omega) (by rw [E4.1 2 (by decide), b2.1 2 (by decide)]; exact r2) (fun k hk => by rw [E4.1 90 (by decide), b2.1 90 (by decide)]; exact r90 k hk) (fun k hk => absurd hk (Nat.not_lt_zero _))
    rw [show hd_M_read_I_121 (N0 + 1) (N0 + 1) 0 s4 = hd_M_read_I_121 (N0 + 1) (N0 + 1) (nI 0) s4 from rfl, y1]
    have E6 : Eb [54, 55, 89] [] s4 (upI (upI s5 89 (fun _ => s5.1 2 0)) 54 (fun _ => 1)) := ((y2.mono (by decide) (by decide)).upI (by decide)).upI (by decide)
    have q54 : (upI (upI s5 89 (fun _ => s5.1 2 0)) 54 (fun _ => 1)).1 54 0 = 1 := rfl
    have q89 : (upI (upI s5 89 (fun _ => s5.1 2 0)) 54 (fun _ => 1)).1 89 0 = nI n := by
      show s5.1 2 0 = _
      rw [y2.1 2 (by decide), E4.1 2 (by decide), b2.1 2 (by decide)]
      exact r2
    have q55 : ∀ k, k < n → (upI (upI s5 89 (fun _ => s5.1 2 0)) 54 (fun _ => 1)).1 55 k = kch (ch k) := y3
    generalize upI (upI s5 89 (fun _ => s5.1 2 0)) 54 (fun _ => 1) = s6 at *
    obtain ⟨σ0, g1, g2, g3, g4, g5⟩ := id o1
    obtain ⟨hJ, hWF, hB, ht, hLy⟩ := des_ok (toks_T S2 hn) (toks_V S2) g1 g2 g3
    have E36 : Eb [3, 54, 55, 89] [] s3 s6 := (E4.mono (by decide) (by decide)).trans (E6.mono (by decide) (by decide))
    obtain ⟨s7, v1, v2, v3⟩ := sumUp_M (N := N0 + 1) (by omega) hJ hB hWF hLy (u4.keep E36 (by decide) (by decide)) g4
    rw [v1, obind]
    dsimp only
    have E37 : Eb [3, 54, 55, 75, 76, 77, 78, 89] [79] s3 s7 := (E36.mono (by decide) (by decide)).trans (v2.mono (by decide) (by decide))
    obtain ⟨s8, x1, x2⟩ := cp166 (N := N0 + 1) (ns := topS A) (lim0 g4).2 (topS A) 0 (N0 + 1) s7 (by omega) (by have := (lim0 g4).2; omega) (by rw [E37.1 63 (by decide)]; exact u4.2.1.1)
    rw [show hd_M_read_I_166 (N0 + 1) (N0 + 1) 0 s7 = hd_M_read_I_166 (N0 + 1) (N0 + 1) (nI 0) s7 from rfl, x1]
    have E38 : Eb [3, 54, 55, 75, 76, 77, 78, 89] [79, 83] s3 s8 := (E37.mono (by decide) (by decide)).trans (x2.mono (by decide) (by decide))
    have st : Stn (TK ch n) (PL ch n) (NT ch n) t lit lc A sz (topL A) (topN A) (topS A) la nc cl nl od or c1 s8 := ⟨hJ, hB, hWF, hLy, o6, u3, o5, u4.keep E38 (by decide) (by decide)⟩
    obtain ⟨c2, s9, j1, j2, j3, j4, j5, j6⟩ := reset_R (N := N0 + 1) (by omega) st (by rw [E38.1 85 (by decide), b2.1 85 (by decide), E2.1 85 (by decide)]; exact h85)
    rw [j2, obind, o2, j1, obind]
    have E39 : Eb [3, 54, 55, 75, 76, 77, 78, 85, 86, 89] [79, 80, 81, 82, 83, 84] s3 s9 := (E38.mono (by decide) (by decide)).trans (j4.mono (by decide) (by decide))
    have E89 : Eb [85, 86] [80, 81, 82, 83, 84] s7 s9 := (x2.mono (by decide) (by decide)).trans (j4.mono (by decide) (by decide))
    have k : ∀ k, k ∈ [200, 201] → c1.1 k = c0.1 k := fun k hk => by
      rw [o4]
      simp only [List.mem_cons, List.not_mem_nil, or_false] at hk
      rcases hk with rfl | rfl <;> rfl
    have k358 : c1.1 358 = c0.1 308 := by rw [o4]; rfl
    have k357 : c1.1 357 = c0.1 307 := by rw [o4]; rfl
    have k360 : c1.1 360 = c0.1 310 := by rw [o4]; rfl
    have k208 : c1.1 208 0 = 1 := by rw [o4]; rfl
    have L9 : Lk s9 := b4.keep E39 (by decide) (by decide)
    refine ⟨-1, c2, s9, rfl, rfl, gl_le L9, ⟨0, Nat.zero_le _, by rw [j3.1 200 (by decide), k 200 (by decide)]; exact o7, by rw [E39.1 88 (by decide), b2.1 88 (by decide)]; exact r88, fun k hk => absurd hk (Nat.not_lt_zero _)⟩, ?_, ⟨fun j hj => by rw [E39.1 4 (by decide)]; exact b3 j hj, L9, j6.1⟩, Or.inr ⟨by rw [j3.1 208 (by decide)]; exact k208, ?_, n, ch, wd, t, A, lit, lc, sz, la, nc, cl, nl, od, or, ⟨hn, fun k hk => (n4 k hk).1, n5⟩, hw, o1, j5, j6, ⟨?_, fun k hk => ?_, ?_⟩, ?_, fun k hk => ⟨?_, ?_⟩, b5.keep E39 (by decide), ?_⟩⟩
    · rw [j3.1 201 (by decide), k 201 (by decide), o8, j4.1 3 (by decide), x2.1 3 (by decide), v2.1 3 (by decide), E6.1 3 (by decide), q3]
    · rw [E89.1 54 (by decide), v2.1 54 (by decide)]; exact q54
    · rw [j3.1 358 (by decide), k358]; exact o9
    · rw [j3.1 357 (by decide), k357, o3.1 307 (by decide)]; exact (n4 k hk).2.1
    · rw [j3.1 360 (by decide), k360]; exact o10
    · rw [E89.1 89 (by decide), v2.1 89 (by decide)]; exact q89
    · rw [E89.1 55 (by decide), v2.1 55 (by decide)]; exact q55 k hk
    · rw [E39.1 90 (by decide), b2.1 90 (by decide)]; exact r90 k hk
    · unfold Cnt at *
      rw [E89.1 75 (by decide), E89.1 76 (by decide), E89.1 77 (by decide), E89.1 78 (by decide), E89.2 79 (by decide)]
      exact v3
end REL
