/-! The class: a register is set, from the sign on. -/
section CSET2
variable {tk pl vl wi : Nat → Nat} {nm : Nat → Option (Nat × Nat)} {nt : Nat} {ex : Nat → Int32} {N N0 N1 fd lc : Nat} {lit : Nat → Int64} {rg : Nat → Bool} {fz : Nat → Int32} {an dc : Nat} {P : Nat → Prop} {c0 : ms}
theorem stGo {c c3 : ms} {σ σ3 : gs} {μ : Option (Nat × Nat)} {sz C md kd : Nat} {S : Nat → Nat} {r : sr} (hQ : CQ tk pl vl wi nm nt ex N N0 N1 fd lit lc rg an dc P c0) (e : CE2 c0 c) (h0 : σ.2.2.1 = 0) (hG : CG tk pl nt ex c σ) (h4 : c.1 264 0 = 4) (hkd : c.1 271 0 = nI kd) (hsz : μ = none → sz ≤ σ.1)
    (hmv : mv N c = (bk_Grammar_store_Gr_69 N c3).bind (fun q_1 => some ((), q_1.2))) (h03 : σ3.2.2.1 = 0) (hG3 : CG tk pl nt ex c3 σ3) (hl3 : σ.1 < σ3.1) (hd3 : σ3.2.1 = σ.2.1) (e3 : Eb [213, 214, 215, 216, 217, 218, 219, 238, 239, 241, 242, 243, 249, 250, 251, 326, 337] [336] c c3)
    (hs : (∃ fp : Nat × Nat, Off c3 fp.1 fp.2 ∧ (∀ q, μ = some q → q = fp) ∧ (μ = none → r = some (.inl fp))) ∨ (μ = none ∧ ∃ d h l, r = sSe tk pl vl wi nm nt N0 an d h l σ3.1 S ∧ (∃ T, Xc c3 T sz C) ∧ R3 rg fz dc c3 (updN S d an) ∧ c3.1 249 0 = nI d ∧ c3.1 250 0 = nI l ∧ c3.1 251 0 = nI (h - l + 1) ∧ l ≤ h ∧ h < 64 ∧ fd ≤ d ∧ d < dc ∧ P d ∧ c3.1 260 0 = nI md ∧ c3.2 336 = c.2 336)) :
    ∃ σ', gSet tk pl N1 σ3 = some σ' ∧ (DeadP tk pl nt ex N c σ σ' ∨ StPost tk pl nt ex N rg fz dc fd lit lc P c σ σ' kd μ sz C md r) := by
  have hQ' := hQ
  obtain ⟨T, hN, hN1, hN0, hS, hl, hn, h321, hdc, -⟩ := hQ
  have d60 : σ.2.1 ≤ 60 := (hG.2.2.2.1 h0).2.2.2.2.2.2
  have p15 : c3.1 215 0 = nI (pl σ3.1) := (hG3.2.2.2.1 h03).2.2.1
  have hG3' : CG tk pl nt ex (upI c3 266 (fun _ => nI (pl σ3.1))) σ3 := hG3.upI (by decide)
  obtain ⟨c4, b1, b2, b3⟩ := kneed (N := N) T 260 (by decide) hG3'
  unfold bk_Grammar_store_Gr_69 at hmv
  rw [p15, show fn_Tokens_need_Tk N 9 (upI c3 266 (fun _ => nI (pl σ3.1))) = some ((), c4) from b1, obind] at hmv
  dsimp only at hmv
  have alv : c.1 217 0 = 0 := hG.alive h0
  unfold gSet
  rcases gTake_cases (pl := pl) 260 σ3 h03 with ⟨s1, s2⟩ | ⟨s1, s2, s3, s4⟩
  · rw [s2] at b2 ⊢
    -- the exp's begin
    have ek4 : Eb [213, 214, 215, 216, 217, 218, 219, 266] [] c3 c4 := (Eb.rfl.upI (by decide)).trans (b3.mono (by decide) (by decide))
    have a17 : c4.1 217 0 = nI 0 := b2.alive h03
    obtain ⟨μ4, hμ4, hs4⟩ : ∃ μ4 : Option (Nat × Nat), ((∃ fp : Nat × Nat, μ4 = some fp ∧ (∀ q, μ = some q → q = fp) ∧ (μ = none → r = some (.inl fp))) ∨ (μ4 = none ∧ μ = none ∧ ∃ d h l, r = sSe tk pl vl wi nm nt N0 an d h l σ3.1 S ∧ R3 rg fz dc c4 (updN S d an) ∧ c4.1 249 0 = nI d ∧ c4.1 250 0 = nI l ∧ c4.1 251 0 = nI (h - l + 1) ∧ l ≤ h ∧ h < 64 ∧ fd ≤ d ∧ d < dc ∧ P d ∧ c4.1 260 0 = nI md ∧ c4.2 336 = c.2 336)) ∧ ((∀ fp, μ4 = some fp → Off c4 fp.1 fp.2) ∧ (μ4 = none → (∃ T, Xc c4 T sz C) ∧ sz ≤ (gInc σ3).1)) := by
      rcases hs with ⟨fp, o1, o2, o3⟩ | ⟨o1, d, h, l, o2, ⟨T0, o3⟩, o4, o5, o6, o7, o8, o9, o10, o11, o12, o13, o14⟩
      · exact ⟨some fp, Or.inl ⟨fp, rfl, o2, o3⟩, fun q z => (by cases z; exact o1.mono ek4 (by decide) (by decide)), fun z => (by cases z)⟩
      · have hz := hsz o1
        refine ⟨none, Or.inr ⟨rfl, o1, d, h, l, o2, o4.of (by rw [ek4.1 326 (by decide)]), by rw [ek4.1 249 (by decide)]; exact o5, by rw [ek4.1 250 (by decide)]; exact o6, by rw [ek4.1 251 (by decide)]; exact o7, o8, o9, o10, o11, o12, by rw [ek4.1 260 (by decide)]; exact o13, by rw [ek4.2 336 (by decide)]; exact o14⟩, fun q z => (by cases z), fun _ => ⟨⟨T0, o3.mono ek4 (by decide) a17⟩, by show sz ≤ σ3.1 + 1; omega⟩⟩
    obtain ⟨c5, f1, f2, f3, f4, f5, f6, f7, f8⟩ := expFor_C (N := N) (x := 9) (μ := μ4) (sz := sz) (C := C) b2 h03 hs4
    rw [f1, obind, obind] at hmv
    have r1 : Rc N 1 c c5 := Rc.one alv (by rw [h4]; decide) hmv
    have e5 : CE2 c c5 := ((e3.mono (by decide) (by decide)).trans (ek4.mono (by decide) (by decide))).trans (f6.mono (by decide) (by decide))
    have e266 : c5.1 266 0 = nI (pl σ3.1) := by rw [f6.1 266 (by decide), b3.1 266 (by decide)]; rfl
    obtain ⟨σ5, g1, g2⟩ := expS (N0 := N0) (N1 := N1) (c := c5) (σ := gInc σ3) (sz := sz) (C := C) (μ := μ4) hQ' (e.trans e5) h03 f5 f2 f3 ⟨f7, f8⟩
    rw [g1]
    show ∃ σ', some (gTake tk pl 59 σ5) = some σ' ∧ _
    refine ⟨_, rfl, ?_⟩
    rcases g2 with dd | ⟨k, c6, q1, q2, q3, q4, q5, q6, q7, q8, q9⟩
    · left
      rw [gTake_dead dd.1]
      exact dd.after r1 (by show 1 ≤ 3 * (σ3.1 + 1 - σ.1); omega) (by show σ.1 ≤ σ3.1 + 1; omega)
    · have q2' : k + 1 ≤ 3 * (σ5.1 - (σ3.1 + 1)) := q2
      have q8' : σ3.1 + 1 < σ5.1 := q8
      have q7' : σ5.2.1 = σ.2.1 := q7.trans hd3
      have k265 : c6.1 265 0 = 9 := by rw [q4.1 265 (by decide)]; exact f4
      have k266 : c6.1 266 0 = nI (pl σ3.1) := by rw [q4.1 266 (by decide)]; exact e266
      have c6n : ∀ j, j ∈ [249, 250, 251, 253, 255, 256, 257, 258, 259, 260, 270, 271, 326] → c6.1 j = c4.1 j := fun j hj => by
        simp only [List.mem_cons, List.not_mem_nil, or_false] at hj
        rcases hj with rfl | rfl | rfl | rfl | rfl | rfl | rfl | rfl | rfl | rfl | rfl | rfl | rfl <;> rw [q4.1 _ (by decide), f6.1 _ (by decide)]
      have c4n : ∀ j, j ∈ [253, 255, 256, 257, 258, 259, 260, 270, 271] → c4.1 j = c.1 j := fun j hj => by
        simp only [List.mem_cons, List.not_mem_nil, or_false] at hj
        rcases hj with rfl | rfl | rfl | rfl | rfl | rfl | rfl | rfl | rfl <;> rw [ek4.1 _ (by decide), e3.1 _ (by decide)]
      -- it is told
      have st : ∃ c7, fn_Meaning_stored_Me N (nI (pl σ3.1)) c6 = some ((), c7) ∧ Eb [238, 239, 241, 242, 243, 255, 337] [336] c6 c7 ∧ ((∀ fp, μ = some fp → Off c7 fp.1 fp.2) ∧ (μ = none → ∃ q, r = some q ∧ (∀ f p, q = .inl (f, p) → Off c7 f p) ∧ (∀ t' S' bb D CC, q = .inr (t', S', bb, D, CC) → t' = σ5.1 + 1 ∧ bb = true ∧ c7.1 255 0 = 1 ∧ R3 rg fz dc c7 S' ∧ c7.1 260 0 = nI md ∧ ∃ sz', (∃ T, Xc c7 T sz' (C + CC)) ∧ sz ≤ sz' ∧ sz' + 2 + σ.1 ≤ sz + (σ5.1 + 1) ∧ (∀ k, k < sz → c7.2 336 k = c.2 336 k) ∧ Cg (c7.2 336) fd lit lc P σ.2.1 sz sz' D))) := by
        rcases hμ4 with ⟨fp, o1, o2, o3⟩ | ⟨o1, o2, d, h, l, o3, o4, o5, o6, o7, o8, o9, o10, o11, o12, o13, o14⟩
        · have o := q9.1 fp o1
          exact ⟨c6, off_stored o.off, Eb.rfl, fun q z => (by rw [o2 q z]; exact o), fun z => ⟨.inl fp, o3 z, fun f p y => (by cases y; exact o), fun _ _ _ _ _ y => (by cases y)⟩⟩
        · obtain ⟨q, w1, w2, w3⟩ := q9.2 o1
          have tl : ¬ nt ≤ σ3.1 := by have := hG3.2.1; omega
          have w1' : eF tk pl vl wi nm nt N0 (σ3.1 + 1) = some q := w1
          match q, w1', w2, w3 with
          | .inl (f, p), w1', w2, _ =>
            have o := w2 f p rfl
            refine ⟨c6, off_stored o.off, Eb.rfl, fun q z => (by rw [o2] at z; cases z), fun _ => ⟨.inl (f, p), ?_, fun f' p' y => (by cases y; exact o), fun _ _ _ _ _ y => (by cases y)⟩⟩
            rw [o3]; unfold sSe; rw [if_neg tl, w1']; rfl
          | .inr (w, t', L, C2), w1', _, w3 =>
            obtain ⟨x1, x2, x3, x4, x5, x6, x7, x8, x9, x10⟩ := w3 _ _ _ _ rfl
            have x6' : σ3.1 + 1 + L.length ≤ σ5.1 := x6
            have fdc : c6.1 233 0 = nI fd := (hS c6 ((e.trans e5).trans (CE.toCE2 q4))).2.2.2.1
            obtain ⟨p1, p2⟩ := stored_C (N := N) (d := d) (fd := fd) (l := l) (tw := h - l + 1) (w := w) (p := pl σ3.1) x2 (by have := q5.2.1; have := T.2.1; have := hsz o2; omega) x3 (by rw [c6n 249 (by decide)]; exact o5) (by rw [c6n 250 (by decide)]; exact o6) (by rw [c6n 251 (by decide)]; exact o7) fdc ⟨o10, by omega⟩ (by omega) (by omega) x5
            have rr : r = (if w = h - l + 1 then sok (t' + 1) (updN S d an) true (fun v n => vp_updL n d (aSt h l (n d) (xval v L))) (C2 + w) else sno 30 (pl σ3.1)) := by
              rw [o3]; unfold sSe; rw [if_neg tl, w1']; rfl
            by_cases ww : w = h - l + 1
            · obtain ⟨c7, y1, y2, y3, y4, y5⟩ := p1 ww
              rw [if_pos ww] at rr
              refine ⟨c7, y1, y5, fun q z => (by rw [o2] at z; cases z), fun _ => ⟨_, rr, fun f p y => (by cases y), fun t2 S2 bb D CC y => ?_⟩⟩
              cases y
              have row : ∀ k, k < sz + L.length → c7.2 336 k = c6.2 336 k := fun k hk => by rw [y3, updL_ne (by omega)]
              refine ⟨by rw [x1], rfl, y4, o4.of (by rw [y5.1 326 (by decide), c6n 326 (by decide)]), by rw [y5.1 260 (by decide), c6n 260 (by decide)]; exact o13, sz + L.length + 1, ⟨0, by rw [← Nat.add_assoc, ww]; exact y2⟩, by omega, by omega, fun k hk => ?_, fun vv n st hst => ?_⟩
              · rw [row k (by omega), x7 k hk, f6.2 336 (by decide), o14]
              · have en : cEnc (c7.2 336) fd lit lc sz L := x8.mono row
                refine (en.val (P := P) (v := vv) (n := n) (st := st) x9 x10.le x10.ob (fun o ho kk => by
                  obtain ⟨i, wq, hi⟩ := x10.ld o ho kk
                  exact (hn i _ hi).2.1) (by omega)).trans (Rt.one ⟨by show sz + L.length < sz + L.length + 1; omega, by show st.length ≤ 960; omega, Or.inr (Or.inl ⟨d, h, l, xval vv L, ?_, o8, o9, o10, by omega, o12, rfl, rfl, rfl⟩)⟩)
                show c7.2 336 (sz + L.length) = _
                rw [y3, updL_at]
            · obtain ⟨c7, y1, y2, y3⟩ := p2 ww
              rw [if_neg ww] at rr
              exact ⟨c7, y1, y3, fun q z => (by rw [o2] at z; cases z), fun _ => ⟨_, rr, fun f p y => (by cases y; exact y2), fun _ _ _ _ _ y => (by cases y)⟩⟩
      obtain ⟨c7, t1, t2, t3, t4⟩ := st
      have hG7 : CG tk pl nt ex c7 σ5 := q5.mono t2 (fun k _ _ => by simp; omega) (by decide)
      obtain ⟨c8, u1, u2, u3⟩ := kneed (N := N) T 59 (by decide) hG7
      have mv6' : mv N c6 = some ((), upI c8 264 (fun _ => 5)) := by
        rw [mv8 q3]
        unfold fn_Grammar_behindExp_Gr
        rw [if_pos k265, k266, t1, obind]
        dsimp only
        rw [show fn_Tokens_need_Tk N 59 c7 = some ((), c8) from u1, obind]
      have r2 := (r1.trans q1).trans (Rc.one (q5.alive q6) (by rw [q3]; decide) mv6')
      have hG8 : CG tk pl nt ex (upI c8 264 (fun _ => 5)) (gTake tk pl 59 σ5) := u2.upI (by decide)
      have ek8 : Eb [213, 214, 215, 216, 217, 218, 219, 264] [] c7 (upI c8 264 (fun _ => 5)) := (u3.mono (by decide) (by decide)).upI (by decide)
      rcases gTake_cases (pl := pl) 59 σ5 q6 with ⟨v1, v2⟩ | ⟨v1, v2, v3, v4⟩
      · right
        rw [v2] at hG8 ⊢
        have a8 : (upI c8 264 (fun _ => 5)).1 217 0 = nI 0 := hG8.alive q6
        refine ⟨1 + k + 1, _, r2, by show _ ≤ 3 * (σ5.1 + 1 - σ.1); omega, rfl, ((e5.trans (CE.toCE2 q4)).trans (t2.mono (by decide) (by decide))).trans (ek8.mono (by decide) (by decide)), hG8, q6, q7', by show σ.1 < σ5.1 + 1; omega, ?_, fun j hj => ?_, fun fp z => (t3 fp z).mono ek8 (by decide) (by decide), fun z => ?_⟩
        · rw [ek8.1 271 (by decide), t2.1 271 (by decide), c6n 271 (by decide), c4n 271 (by decide)]; exact hkd
        · rw [ek8.1 270 (by decide), t2.1 270 (by decide), c6n 270 (by decide), c4n 270 (by decide)]
        · obtain ⟨q, w1, w2, w3⟩ := t4 z
          refine ⟨q, w1, fun f p y => (w2 f p y).mono ek8 (by decide) (by decide), fun t' S' bb D CC y => ?_⟩
          obtain ⟨x1, x2, x3, x4, x5, sz', ⟨T0, x6⟩, x7, x8, x9, x10⟩ := w3 _ _ _ _ _ y
          refine ⟨x1, sz', ⟨T0, x6.mono ek8 (by decide) a8⟩, x7, x8, x4.of (by rw [ek8.1 326 (by decide)]), by rw [ek8.1 260 (by decide)]; exact x5, fun _ => by rw [ek8.1 255 (by decide)]; exact x3, fun y => (by rw [x2] at y; cases y), fun k hk => by rw [ek8.2 336 (by decide)]; exact x9 k hk, fun k _ => ⟨?_, ?_, ?_, ?_⟩, by rw [ek8.2 336 (by decide)]; exact x10⟩
          · rw [ek8.1 256 (by decide), t2.1 256 (by decide), c6n 256 (by decide), c4n 256 (by decide)]
          · rw [ek8.1 257 (by decide), t2.1 257 (by decide), c6n 257 (by decide), c4n 257 (by decide)]
          · rw [ek8.1 258 (by decide), t2.1 258 (by decide), c6n 258 (by decide), c4n 258 (by decide)]
          · rw [ek8.1 259 (by decide), t2.1 259 (by decide), c6n 259 (by decide), c4n 259 (by decide)]
      · exact Or.inl ⟨v3, by omega, 1 + k + 1, _, r2, by omega, hG8⟩
  · -- no sign
    have dd := s3
    rw [show gE tk pl N1 (gTake tk pl 260 σ3) = some (gTake tk pl 260 σ3) from gE_dead2 dd (by omega) (by omega)]
    show ∃ σ', some (gTake tk pl 59 (gTake tk pl 260 σ3)) = some σ' ∧ _
    refine ⟨_, rfl, Or.inl ?_⟩
    rw [gTake_dead dd]
    unfold fn_Grammar_expFor_Gr at hmv
    have hG4 : CG tk pl nt ex (upI (upI (upI (upI c4 265 (fun _ => (9 : Int32))) 268 (fun _ => c4.1 215 0)) 269 (fun _ => c4.1 213 0)) 275 (fun _ => 0)) (gTake tk pl 260 σ3) := (((b2.upI (by decide)).upI (by decide)).upI (by decide)).upI (by decide)
    rw [off_expBegins (Or.inr (hG4.dead dd)), obind, obind, obind] at hmv
    exact DeadP.one alv (by rw [h4]; decide) hmv dd (by omega) (hG4.upI (by decide))
end CSET2
