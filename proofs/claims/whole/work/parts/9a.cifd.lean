/-! The class: an if without else, its last move. -/
section CIFD
variable {tk pl vl wi : Nat → Nat} {nm : Nat → Option (Nat × Nat)} {nt : Nat} {ex : Nat → Int32} {N N0 N1 fd lc : Nat} {lit : Nat → Int64} {rg : Nat → Bool} {fz : Nat → Int32} {an dc : Nat} {P : Nat → Prop} {c0 : ms}
theorem ifEndS {c c1 : ms} {σ σ3 : gs} {kd : Nat} {x : Int32} {μ : Option (Nat × Nat)} {sz C md k : Nat} {r : sr} (hd60 : kd < 60) (q1 : Rc N k c c1) (q2 : k + 4 ≤ 3 * (σ3.1 - σ.1)) (q3 : c1.1 264 0 = 5) (q4 : CE2 c c1) (q5 : CG tk pl nt ex c1 σ3) (q6 : σ3.2.2.1 = 0) (q7 : σ3.2.1 = σ.2.1 + 1) (q8 : σ.1 < σ3.1) (q9 : c1.1 271 0 = nI (kd + 1)) (q10 : ∀ j, j < kd → c1.1 270 j = c.1 270 j) (hx : c1.1 270 kd = x) (hx2 : (x = 140 ∧ tk σ3.1 ≠ 313) ∨ x = 141) (T : Tv tk pl nt)
    (st : (∃ fp : Nat × Nat, Off c1 fp.1 fp.2 ∧ (∀ q, μ = some q → q = fp) ∧ (μ = none → r = some (.inl fp))) ∨ (μ = none ∧ ∃ (S2 : Nat → Nat) (bb : Bool) (D : DT) (CC sz2 j : Nat) (op g : Int32), r = some (.inr (σ3.1, S2, bb, D, CC)) ∧ (∃ T, Xc c1 T sz2 (C + CC)) ∧ sz ≤ sz2 ∧ sz2 + 2 + σ.1 ≤ sz + σ3.1 ∧ R3 rg fz dc c1 S2 ∧ c1.1 260 0 = nI (md + 1) ∧ md < 60 ∧ c1.1 256 md = nI j ∧ sz ≤ j ∧ j < sz2 ∧ c1.2 336 j = crw op g ∧ (∀ k, k < md → c1.1 256 k = c.1 256 k ∧ c1.1 257 k = c.1 257 k ∧ c1.1 258 k = c.1 258 k ∧ c1.1 259 k = c.1 259 k) ∧ (bb = true → c1.1 255 0 = 1) ∧ (bb = false → c1.1 255 0 = c.1 255 0) ∧ (∀ k, k < sz → c1.2 336 k = c.2 336 k) ∧ (∀ c' : ms, c'.2 336 = vp_updL (c1.2 336) j (crw op (nI sz2)) → Cg (c'.2 336) fd lit lc P σ.2.1 sz sz2 D))) :
    ∃ σ', gDn σ3 = some σ' ∧ StPost tk pl nt ex N rg fz dc fd lit lc P c σ σ' kd μ sz C md r := by
  have gd : gDn σ3 = some (σ3.1, σ3.2.1 - 1, σ3.2.2) := by unfold gDn; rw [if_pos q6, if_neg (by omega)]
  refine ⟨_, gd, ?_⟩
  have hm : mv N c1 = (fn_Grammar_ifEnd_Gr N c1).bind (fun q_2 => some ((), q_2.2)) := by
    rcases hx2 with ⟨a, b⟩ | a
    · exact (ctx5 (N := N) q3 q9 hd60 hx).2.1 a (show ¬ c1.1 214 0 = 141 from kneg (k := 313) T q5 (by decide) (fun _ => b))
    · exact (ctx5 (N := N) q3 q9 hd60 hx).2.2 a
  obtain ⟨p1, p2⟩ := ifE (N := N) q5 gd q9 hm
  have alv := q5.alive q6
  rcases st with ⟨fp, o1, o2, o3⟩ | ⟨o1, S2, bb, D, CC, sz2, j, op, g, o2, ⟨T0, o3⟩, o4, o5, o6, o7, o8, o9, o10, o11, o12, o13, o14, o15, o16, o17⟩
  · obtain ⟨c2, a1, a2, a3, a4⟩ := p1 o1.off
    have of := o1.mono a4 (by decide) (by decide)
    refine ⟨k + 1, c2, q1.trans (Rc.one alv (by rw [q3]; decide) a1), by show _ ≤ 3 * (σ3.1 - σ.1); omega, by rw [a4.1 264 (by decide)]; exact q3, q4.trans (a4.mono (by decide) (by decide)), a2, q6, by show σ3.2.1 - 1 = σ.2.1; omega, q8, a3, fun j hj => by rw [a4.1 270 (by decide)]; exact q10 j hj, fun q z => by rw [o2 q z]; exact of, fun z => ⟨.inl fp, o3 z, fun f p y => (by cases y; exact of), fun _ _ _ _ _ y => (by cases y)⟩⟩
  · obtain ⟨c2, a1, a2, a3, a4, a5, a6, a7⟩ := p2 T0 sz2 (C + CC) md j op g o3 o7 o8 o9 o11 o12
    refine ⟨k + 1, c2, q1.trans (Rc.one alv (by rw [q3]; decide) a1), by show _ ≤ 3 * (σ3.1 - σ.1); omega, by rw [a7.1 264 (by decide)]; exact q3, q4.trans (a7.mono (by decide) (by decide)), a2, q6, by show σ3.2.1 - 1 = σ.2.1; omega, q8, a3, fun j hj => by rw [a7.1 270 (by decide)]; exact q10 j hj, fun q z => (by rw [o1] at z; cases z), fun _ => ⟨_, o2, fun f p y => (by cases y), fun t' S' bb' D' CC' y => ?_⟩⟩
    cases y
    exact ⟨rfl, sz2, ⟨T0, a4⟩, o4, o5, o6.of (by rw [a7.1 326 (by decide)]), a6, fun y => by rw [a7.1 255 (by decide)]; exact o14 y, fun y => by rw [a7.1 255 (by decide)]; exact o15 y, fun k hk => by rw [a5, updL_ne (by omega)]; exact o16 k hk, fun k hk => by rw [a7.1 256 (by decide), a7.1 257 (by decide), a7.1 258 (by decide), a7.1 259 (by decide)]; exact o13 k hk, o17 c2 a5⟩
end CIFD
