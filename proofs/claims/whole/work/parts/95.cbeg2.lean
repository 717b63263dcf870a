/-! The class: begin. -/
section CBEG2
variable {tk pl vl wi : Nat → Nat} {nm : Nat → Option (Nat × Nat)} {nt : Nat} {ex : Nat → Int32} {N N0 N1 fd lc : Nat} {lit : Nat → Int64} {rg : Nat → Bool} {fz : Nat → Int32} {an dc : Nat} {P : Nat → Prop} {c0 : ms}
theorem enter_any {c : ms} {x : Int32} {kd : Nat} (h : c.1 271 0 = nI kd) (hk : kd ≤ 60) : ∃ c', fn_Grammar_enter_Gr N x c = some ((), c') ∧ Eb [270, 271] [] c c' := by
  by_cases z : kd < 60
  · obtain ⟨c', a1, -, -, a4⟩ := enter_C (N := N) (x := x) h z
    exact ⟨c', a1, a4⟩
  · unfold fn_Grammar_enter_Gr
    rw [h, if_neg (show ¬ nI kd < 60 from nI_nlt (b := 60) (by omega) (by omega))]
    exact ⟨c, rfl, Eb.rfl⟩
theorem beg_C {m Dg Ds : Nat} {c : ms} {σ : gs} {μ : Option (Nat × Nat)} {sz C md kd : Nat} {S : Nat → Nat} (hQ : CQ tk pl vl wi nm nt ex N N0 N1 fd lit lc rg an dc P c0) (hI : StmC tk pl vl wi nm nt ex N N0 N1 fd lit lc rg fz an dc P c0 m) (hDg : 2 * m ≤ Dg) (hDs : 2 * m ≤ Ds) (hm : σ.2.1 + m + 1 = 61) (h0 : σ.2.2.1 = 0) (e : CE2 c0 c) (hG : CG tk pl nt ex c σ) (h4 : c.1 264 0 = 4) (hkd : c.1 271 0 = nI kd) (hk2 : kd ≤ σ.2.1) (hmd : μ = none → md ≤ kd) (hs : StS rg fz dc c μ sz C md σ.1 S) (hk : tk σ.1 = 310) :
    ∃ σ', gSl tk pl (gT tk pl N1 Dg).1 N1 (gOpen tk pl 310 σ) = some σ' ∧ (DeadS 4 tk pl nt ex N c σ σ' ∨ StPost tk pl nt ex N rg fz dc fd lit lc P c σ σ' kd μ sz C md (sBl tk nt (sT tk pl vl wi nm nt rg N0 an Ds).1 N0 (σ.1 + 1) S)) := by
  have hQ' := hQ
  obtain ⟨T, hN, hN1, hN0, -⟩ := hQ
  have l1 := T.2.1
  have alv := hG.alive h0
  have d60 : σ.2.1 ≤ 60 := (hG.2.2.2.1 h0).2.2.2.2.2.2
  obtain ⟨c1, a1, a2, a3⟩ := kopen (N := N) T 310 (by decide) hG
  have k1 : c1.1 271 0 = nI kd := by rw [a3.1 271 (by decide)]; exact hkd
  obtain ⟨c2, b1, b2⟩ := enter_any (N := N) (x := 138) k1 (by omega)
  have hmv : mv N c = some ((), upI c2 264 (fun _ => 5)) := by
    rw [mv4 h4]
    unfold fn_Grammar_statement_Gr
    rw [if_neg (show ¬ c.1 214 0 = 2 from kneg (k := 400) T hG (by decide) (fun _ => by omega)), if_pos (show c.1 214 0 = 138 from kpos (k := 310) hG h0 hk), show fn_Tokens_open_Tk N 138 c = some ((), c1) from a1, obind]
    dsimp only
    rw [b1, obind]
  have r1 : Rc N 1 c (upI c2 264 (fun _ => 5)) := Rc.one alv (by rw [h4]; decide) hmv
  have ek : Eb [213, 214, 215, 216, 217, 218, 219, 264, 270, 271] [] c (upI c2 264 (fun _ => 5)) := ((a3.mono (by decide) (by decide)).trans (b2.mono (by decide) (by decide))).upI (by decide)
  have hG3 : CG tk pl nt ex (upI c2 264 (fun _ => 5)) (gOpen tk pl 310 σ) := (a2.mono b2 (fun k _ _ => by simp; omega) (by decide)).upI (by decide)
  rw [gOpen_live h0 hk] at hG3 ⊢
  by_cases o : 60 ≤ σ.2.1
  · rw [if_pos o] at hG3 ⊢
    have dd : ((σ.1, σ.2.1, 3, pl σ.1) : gs).2.2.1 ≠ 0 := by simp
    refine ⟨_, ?_, Or.inl ⟨dd, Nat.le_refl _, 1, _, r1, by omega, hG3⟩⟩
    obtain ⟨n1, rfl⟩ : ∃ n', N1 = n' + 1 := ⟨N1 - 1, by omega⟩
    unfold gSl
    rw [if_neg (fun y => dd y.1), gShut_dead dd]
  · rw [if_neg o] at hG3 ⊢
    obtain ⟨c2', g1, g2, g3, g4⟩ := enter_C (N := N) (x := 138) k1 (by omega)
    rw [b1] at g1
    cases g1
    have a17 : (upI c2 264 (fun _ => 5)).1 217 0 = nI 0 := hG3.alive h0
    have st3 : StS rg fz dc (upI c2 264 (fun _ => 5)) μ sz C md (σ.1 + 1) S := by
      refine ⟨fun fp z => (hs.1 fp z).mono ek (by decide) (by decide), fun z => ?_⟩
      obtain ⟨⟨T0, X⟩, x2, x3, x4⟩ := hs.2 z
      exact ⟨⟨T0, X.mono ek (by decide) a17⟩, by omega, x3.of (by rw [ek.1 326 (by decide)]), by rw [ek.1 260 (by decide)]; exact x4⟩
    obtain ⟨σ', h1, h2⟩ := begL hQ' hI hDg hDs nt N1 N0 (upI c2 264 (fun _ => 5)) (σ.1 + 1, σ.2.1 + 1, σ.2.2) kd md μ sz C S (by show nt ≤ σ.1 + 1 + nt; omega) (by omega) (by omega) (by show σ.2.1 + 1 + m = 61; omega) h0 (e.trans (ek.mono (by decide) (by decide))) hG3 rfl g2 (by show c2.1 270 kd = 138; rw [g3, upd_at]) (by show kd + 1 ≤ σ.2.1 + 1; omega) hmd st3
    refine ⟨σ', h1, h2.imp (fun z => z.after r1 (by show 1 + 5 ≤ 4 * (σ.1 + 1 - σ.1) + 4; omega) (by show σ.1 ≤ σ.1 + 1; omega)) (fun bp => ?_)⟩
    obtain ⟨k, c3, u1, u2, u3, u4, u5, u6, u7, u8, u9, u10, u11⟩ := bp
    have u2' : k + 2 ≤ 3 * (σ'.1 - (σ.1 + 1)) := u2
    have u7' : σ'.2.1 + 1 = σ.2.1 + 1 := u7
    have u8' : σ.1 + 1 < σ'.1 := u8
    have u7'' : σ'.2.1 = σ.2.1 := by omega
    refine ⟨1 + k, c3, r1.trans u1, by omega, u3, (ek.mono (by decide) (by decide)).trans u4, u5, u6, u7'', by omega, u9, fun j hj => ?_, u11.1, fun z => ?_⟩
    · rw [u10 j hj]
      show c2.1 270 j = _
      rw [g3, upd_ne (by omega), a3.1 270 (by decide)]
    · obtain ⟨q, w1, w2, w3⟩ := u11.2 z
      refine ⟨q, w1, w2, fun t' S' bb D CC y => ?_⟩
      obtain ⟨x1, sz', x2, x3, x4, x5, x6, x7, x8, x9, x10, x11⟩ := w3 _ _ _ _ _ y
      have x4' : sz' + 1 + (σ.1 + 1) ≤ sz + σ'.1 := x4
      exact ⟨x1, sz', x2, x3, by omega, x5, x6, x7, fun y => by rw [x8 y, ek.1 255 (by decide)], fun k hk => by rw [x9 k hk, ek.2 336 (by decide)], fun k hk => ⟨by rw [(x10 k hk).1, ek.1 256 (by decide)], by rw [(x10 k hk).2.1, ek.1 257 (by decide)], by rw [(x10 k hk).2.2.1, ek.1 258 (by decide)], by rw [(x10 k hk).2.2.2, ek.1 259 (by decide)]⟩, by rw [u7''] at x11; exact x11⟩
end CBEG2
