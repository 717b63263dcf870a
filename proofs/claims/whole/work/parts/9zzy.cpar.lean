/-! The class: its parse. -/
section CPAR
variable {tk pl vl wi wd : Nat → Nat} {nt nw N N0 N1 lc : Nat} {ex : Nat → Int32} {lit : Nat → Int64} {c c' c0 : ms} {A A' : ds} {m t sz C I K : Nat} {σ σ' : gs} {μ : Option (Nat × Nat)}
theorem take0 (T' : Tv tk pl nt) (hC : CT tk pl nt ex c) (h1 : c.1 217 0 = 0) (h2 : c.1 213 0 = -1) : fn_Tokens_take_Tk N c = some ((), upI (upI (upI (upI c 213 (fun _ => nI 0)) 214 (fun _ => nI (kap (tk 0)))) 215 (fun _ => nI (pl 0))) 216 (fun _ => ex 0)) := by
  have n0 := T'.1
  have l1 := T'.2.1
  have e0 : ((-1 : Int32) + 1) = nI 0 := by decide
  have k1 : CT tk pl nt ex (upI c 213 (fun _ => nI 0)) := hC
  have k2 : CT tk pl nt ex (upI (upI (upI c 213 (fun _ => nI 0)) 214 (fun _ => nI (kap (tk 0)))) 215 (fun _ => nI (pl 0))) := hC
  have b2 := (hC.2 0 n0).2.1
  unfold tkP at b2
  have e1 := kindAt_C (N := N) k1 n0 l1
  have e2 := extraAt_C (N := N) k2 n0 l1
  unfold fn_Tokens_take_Tk
  rw [if_pos h1, h2, e0, hC.1, if_pos (nI_lt n0 (by omega)), e1, obind]
  dsimp only
  rw [show (upI c 213 (fun _ => nI 0)).1 213 0 = nI 0 from rfl, if_neg (nI_in (show 0 < 65537 by omega) (by decide)), nI_clamp (by omega), show (upI c 213 (fun _ => nI 0)).2 211 0 = c.2 211 0 from rfl, b2, e2, obind]
theorem start_T (T' : Tv tk pl nt) (hC : CT tk pl nt ex c) : ∃ c', fn_Tokens_start_Tk N c = some ((), c') ∧ CG tk pl nt ex c' (0, 0, 0, 0) ∧ F7 c c' := by
  have n0 := T'.1
  have l1 := T'.2.1
  have k1 : CT tk pl nt ex (upI (upI (upI (upI c 213 (fun _ => (-1))) 219 (fun _ => 0)) 217 (fun _ => 0)) 218 (fun _ => (-1))) := hC
  have e1 := take0 (N := N) T' k1 rfl rfl
  unfold fn_Tokens_start_Tk
  rw [e1, obind]
  refine ⟨_, rfl, ⟨hC, n0, (by show 0 < 4; omega), fun _ => ⟨rfl, rfl, rfl, rfl, rfl, rfl, (by show 0 ≤ 60; omega)⟩, fun z => absurd rfl z⟩, ?_⟩
  exact ((((((((Eb.rfl.upI (by decide)).upI (by decide)).upI (by decide)).upI (by decide)).upI (by decide)).upI (by decide)).upI (by decide)).upI (by decide))
theorem start_L {W : Nat} (hW : W ≤ 19830) : ∀ (n x : Nat) (s : ms), x ≤ W → W - x < n → ∃ s', hd_Checker_start_Ch_Ds_18 N n (nI W) (nI x) s = some ((), s') ∧ Eb [232, 234, 236, 239, 242, 243] [] s s' ∧ s'.1 232 0 = -1 ∧ s'.1 242 0 = nI 0 ∧ s'.1 239 0 = nI 0 ∧ (∀ w, x ≤ w → w < W → s'.1 234 w = -1 ∧ s'.1 236 w = -1) ∧ (∀ w, w < x → s'.1 234 w = s.1 234 w ∧ s'.1 236 w = s.1 236 w) := by
  intro n
  induction n with
  | zero => intro x s _ h; omega
  | succ n ih =>
    intro x s hx hn
    show ∃ s', bd_Checker_start_Ch_Ds_18 N (hd_Checker_start_Ch_Ds_18 N n) (nI W) (nI x) s = some ((), s') ∧ _
    unfold bd_Checker_start_Ch_Ds_18
    by_cases z : W ≤ x
    · rw [if_pos (nI_le z (by omega))]
      unfold bk_Checker_start_Ch_Ds_50
      exact ⟨_, rfl, (((Eb.rfl.upI (by decide)).upI (by decide)).upI (by decide)).upI (by decide), rfl, rfl, rfl, fun w h1 h2 => by omega, fun w h1 => ⟨rfl, rfl⟩⟩
    · have i := nI_in (show x < 19830 by omega) (show 19830 < 2 ^ 31 by decide)
      rw [if_neg (nI_ge (by omega) (by omega)), if_neg (show ¬ (19830 : Int32) ≤ nI x from nI_ge (b := 19830) (by omega) (by omega)), if_neg i, if_neg i, nI_clamp (by omega), nI_1]
      obtain ⟨s', y1, y2, y3, y4, y5, y6, y7⟩ := ih (x + 1) (upI (upI s 234 (upd (s.1 234) x (-1))) 236 (upd (s.1 236) x (-1))) (by omega) (by omega)
      have ek : Eb [232, 234, 236, 239, 242, 243] [] s (upI (upI s 234 (upd (s.1 234) x (-1))) 236 (upd (s.1 236) x (-1))) := (Eb.rfl.upI (by decide)).upI (by decide)
      refine ⟨s', y1, ek.trans y2, y3, y4, y5, fun w h1 h2 => ?_, fun w h1 => ?_⟩
      · by_cases q : w = x
        · subst q
          obtain ⟨p1, p2⟩ := y7 w (by omega)
          rw [p1, p2]
          exact ⟨upd_at _ _ _, upd_at _ _ _⟩
        · exact y6 w (by omega) h2
      · obtain ⟨p1, p2⟩ := y7 w (by omega)
        rw [p1, p2]
        exact ⟨upd_ne (by omega), upd_ne (by omega)⟩
theorem parse_C {n1 : Nat} (T' : Tv tk pl nt) (hV : Vb tk vl wi) (hN : 200000 < N) (hN1 : 12002 < N1) (hn1 : 12002 < n1) (hN0 : 12002 < N0) (hK : KS tk pl vl wi wd nt ex nw lit lc c) (hc : c.1 337 0 = nI 0 ∧ c.1 321 0 = nI 0 ∧ c.1 328 0 = nI 0 ∧ c.1 332 0 = nI 0 ∧ c.1 317 0 = nI 0 ∧ c.1 309 0 = nI 0) :
    ∃ c' σ', fn_Grammar_parse_Gr_Ds N (nI nw) c = some ((), c') ∧ KP c c' ∧ gDl tk pl N1 n1 (0, 0, 0, 0) = some σ' ∧ CG tk pl nt ex c' σ' ∧ (σ'.2.2.1 = 0 → ∃ sz, MrB tk pl wd nt nw lit lc none (dDesign tk pl vl wi wd nt N0 N0 0 dA0) σ'.1 sz c') := by
  have hnt := T'.2.1
  obtain ⟨c1, a1, a2, a3⟩ := start_T (N := N) T' hK.1
  obtain ⟨c2, b1, b2, b3, b4, b5, b6, -⟩ := start_L (N := N) (W := nw) hK.2.2.2.2.2.2.2 N 0 c1 (Nat.zero_le _) (by have := hK.2.2.2.2.2.2.2; omega)
  have ek : Eb [248, 253, 260, 264, 271, 275] [] c2 (upI (upI (upI (upI (upI (upI c2 248 (fun _ => 1)) 253 (fun _ => 0)) 260 (fun _ => 0)) 275 (fun _ => 0)) 271 (fun _ => 0)) 264 (fun _ => 0)) := (((((Eb.rfl.upI (by decide)).upI (by decide)).upI (by decide)).upI (by decide)).upI (by decide)).upI (by decide)
  have r248 : (upI (upI (upI (upI (upI (upI c2 248 (fun _ => 1)) 253 (fun _ => 0)) 260 (fun _ => 0)) 275 (fun _ => 0)) 271 (fun _ => 0)) 264 (fun _ => 0)).1 248 0 = nI 1 := rfl
  have r253 : (upI (upI (upI (upI (upI (upI c2 248 (fun _ => 1)) 253 (fun _ => 0)) 260 (fun _ => 0)) 275 (fun _ => 0)) 271 (fun _ => 0)) 264 (fun _ => 0)).1 253 0 = nI 0 := rfl
  have r260 : (upI (upI (upI (upI (upI (upI c2 248 (fun _ => 1)) 253 (fun _ => 0)) 260 (fun _ => 0)) 275 (fun _ => 0)) 271 (fun _ => 0)) 264 (fun _ => 0)).1 260 0 = nI 0 := rfl
  have r264 : (upI (upI (upI (upI (upI (upI c2 248 (fun _ => 1)) 253 (fun _ => 0)) 260 (fun _ => 0)) 275 (fun _ => 0)) 271 (fun _ => 0)) 264 (fun _ => 0)).1 264 0 = 0 := rfl
  have r271 : (upI (upI (upI (upI (upI (upI c2 248 (fun _ => 1)) 253 (fun _ => 0)) 260 (fun _ => 0)) 275 (fun _ => 0)) 271 (fun _ => 0)) 264 (fun _ => 0)).1 271 0 = nI 0 := rfl
  have hp : fn_Grammar_parse_Gr_Ds N (nI nw) c = hd_Grammar_parse_Gr_Ds_56 N N (nI (8 * nt + 8)) (nI 0) (upI (upI (upI (upI (upI (upI c2 248 (fun _ => 1)) 253 (fun _ => 0)) 260 (fun _ => 0)) 275 (fun _ => 0)) 271 (fun _ => 0)) 264 (fun _ => 0)) := by
    have r212 : c2.1 212 0 = nI nt := by rw [b2.1 212 (by decide), a3.1 212 (by decide)]; exact hK.1.1
    unfold fn_Grammar_parse_Gr_Ds fn_Checker_start_Ch_Ds fn_Meaning_start_Me_Ds
    rw [a1, obind]
    dsimp only
    rw [show hd_Checker_start_Ch_Ds_18 N N (nI nw) 0 c1 = some ((), c2) from b1, obind]
    dsimp only
    rw [obind]
    dsimp only
    rw [show (upI (upI (upI c2 248 (fun _ => 1)) 253 (fun _ => 0)) 260 (fun _ => 0)).1 212 0 = nI nt from r212, show (8 : Int32) * nI nt + 8 = nI (8 * nt + 8) by rw [show (8 : Int32) = nI 8 from rfl, nI_mul, nI_add]]
    rfl
  generalize upI (upI (upI (upI (upI (upI c2 248 (fun _ => 1)) 253 (fun _ => 0)) 260 (fun _ => 0)) 275 (fun _ => 0)) 271 (fun _ => 0)) 264 (fun _ => 0) = c3 at *
  have e13 : Eb [232, 234, 236, 239, 242, 243, 248, 253, 260, 264, 271, 275] [] c1 c3 := (b2.mono (by decide) (by decide)).trans (ek.mono (by decide) (by decide))
  have e03 : KP c c3 := (F7.toKP a3).trans (e13.mono (by decide) (by decide))
  have ec : Eb [213, 214, 215, 216, 217, 218, 219, 232, 234, 236, 239, 242, 243, 248, 253, 260, 264, 271, 275] [] c c3 := (a3.mono (by decide) (by decide)).trans (e13.mono (by decide) (by decide))
  have K3 : KS tk pl vl wi wd nt ex nw lit lc c3 := hK.keep e03 (by decide) (by decide)
  have G3 : CG tk pl nt ex c3 (0, 0, 0, 0) := a2.mono e13 (fun k _ _ => by simp; omega) (by decide)
  have al3 : c3.1 217 0 = nI 0 := G3.alive rfl
  have B3 : OnB tk pl wd nt nw lit lc dA0 0 0 c3 := by
    refine ⟨⟨0, by rw [ek.1 242 (by decide)]; exact b4, al3, by rw [ek.1 239 (by decide)]; exact b5, by omega, by rw [ec.1 337 (by decide)]; exact hc.1, by omega⟩, ⟨⟨by rw [ec.1 321 (by decide)]; exact hc.2.1, by rw [ec.1 328 (by decide)]; exact hc.2.2.1, by rw [ec.1 332 (by decide)]; exact hc.2.2.2.1, by rw [ec.1 317 (by decide)]; exact hc.2.2.2.2.1, by rw [ec.1 309 (by decide)]; exact hc.2.2.2.2.2, ?_⟩, fun d hd => ?_, fun d hd => ?_, fun d hd => ?_, fun d hd => ?_, fun d hd => ?_, fun d hd => ?_, fun w hw => Or.inr ?_, fun d hd => ?_, fun w hw => Or.inl ?_⟩, r248, r253, fun d => Nat.zero_le _, Nat.le_refl _, r260, wfA0, fun z => ?_⟩
    · rw [ek.1 232 (by decide), b3]
      decide
    · exact absurd hd (Nat.not_lt_zero _)
    · exact absurd hd (Nat.not_lt_zero _)
    · exact absurd hd (Nat.not_lt_zero _)
    · exact absurd hd (Nat.not_lt_zero _)
    · exact absurd hd (Nat.not_lt_zero _)
    · exact absurd hd (Nat.not_lt_zero _)
    · rw [ek.1 236 (by decide)]
      exact (b6 w (Nat.zero_le _) hw).2
    · exact absurd hd (Nat.not_lt_zero _)
    · rw [ek.1 234 (by decide)]
      exact (b6 w (Nat.zero_le _) hw).1
    · exact absurd z (Nat.not_lt_zero _)
  have P3 : PB dA0 := ⟨fun m hm => absurd hm (Nat.not_lt_zero _), fun z => absurd z (Nat.not_lt_zero _), fun m hm => absurd hm (Nat.not_lt_zero _)⟩
  obtain ⟨n', rfl⟩ : ∃ q, N0 = q + 1 := ⟨N0 - 1, by omega⟩
  obtain ⟨σ', g1, g2⟩ := design_C (N := N) (N0 := n' + 1) (N1 := N1) T' hV (by omega) hN1 hN0 nt c3 (0, 0, 0, 0) dA0 0 n1 n' none (by show nt - 0 ≤ nt; omega) (by omega) (by omega) K3 rfl r264 r271 G3 ⟨fun q z => (by cases z), fun _ => B3⟩ (fun _ => P3)
  rw [hp]
  rcases g2 with ⟨d1, d2, k, c4, d3, d4, d5⟩ | ⟨k, c4, sz', q1, q2, q3, q4, q5, q6, q7, q8, q9⟩
  · have s1 := d5.2.1
    have d4' : k ≤ 4 * (σ'.1 - 0) + 4 := d4
    have run := parse_run (N := N) (B := 8 * nt + 8) (by omega) k N 0 c3 c4 d3 (Or.inl (d5.dead d1)) (by omega) (by omega)
    have fr : KP c c4 := fp_fn_Grammar_parse_Gr_Ds (N := N) (v2 := nI nw) (c := c) Eb.rfl _ (hp.trans run)
    exact ⟨c4, σ', run, fr, g1, d5, fun z => absurd z d1⟩
  · have s1 := q5.2.1
    have q2' : k ≤ 4 * (σ'.1 - 0) := q2
    have q7' : 0 < σ'.1 := q7
    have run := parse_run (N := N) (B := 8 * nt + 8) (by omega) k N 0 c3 c4 q1 (Or.inr q3) (by omega) (by omega)
    refine ⟨c4, σ', run, e03.trans q4, g1, q5, fun _ => ⟨sz', ?_⟩⟩
    have k0 : ¬ tk 0 = 403 := fun y => (T'.2.2.2.2 0 (by omega)).1 y
    have : dDesign tk pl vl wi wd nt (n' + 1) (n' + 1) 0 dA0 = (if nt ≤ 0 then none else db (dModule tk pl vl wi wd nt (n' + 1) 0 dA0) (fun t1 A1 => dDesign tk pl vl wi wd nt (n' + 1) n' t1 A1)) := by
      conv => lhs; unfold dDesign
      rw [if_neg (show ¬ nt ≤ 0 by omega), if_neg k0, if_neg (show ¬ nt ≤ 0 by omega)]
    rw [this]
    exact q9
end CPAR
