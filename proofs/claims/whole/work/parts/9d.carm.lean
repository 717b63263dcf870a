/-! The class: the end of an arm and of a case; runs over labels. -/
section CARM
variable {tk pl vl wi : Nat → Nat} {nm : Nat → Option (Nat × Nat)} {nt : Nat} {ex : Nat → Int32} {N N0 N1 fd lc : Nat} {lit : Nat → Int64} {rg : Nat → Bool} {fz : Nat → Int32} {an dc : Nat} {P : Nat → Prop} {c0 : ms}
theorem ctx6 {c : ms} {kd : Nat} {x : Int32} (h5 : c.1 264 0 = 5) (hk : c.1 271 0 = nI (kd + 1)) (hk2 : kd < 60) (hx : c.1 270 kd = x) :
    (x = 142 → mv N c = (fn_Grammar_arm_Gr N c).bind (fun q_2 => some ((), q_2.2))) ∧ (x = 201 → mv N c = (fn_Meaning_armEnd_Me N c).bind (fun q_2 => (fn_Grammar_goOnIn_Gr N 142 q_2.2).bind (fun q_4 => some ((), q_4.2)))) ∧ (x = 144 → mv N c = (fn_Grammar_caseEnd_Gr N c).bind (fun q_2 => some ((), q_2.2))) := by
  have e : mv N c = fn_Grammar_behindStatement_Gr N c := mv5 h5
  unfold fn_Grammar_behindStatement_Gr at e
  rw [hk, if_neg (nI_ne0 (by omega) (by omega)), nI_pred, if_neg (nI_in hk2 (by decide)), nI_clamp (by omega), hx] at e
  refine ⟨fun a => ?_, fun a => ?_, fun a => ?_⟩
  · rw [a, if_neg (by decide), if_neg (by decide), if_neg (by decide), if_pos rfl] at e; exact e
  · rw [a, if_neg (by decide), if_neg (by decide), if_neg (by decide), if_neg (by decide), if_pos rfl] at e; exact e
  · rw [a, if_neg (by decide), if_neg (by decide), if_neg (by decide), if_neg (by decide), if_neg (by decide)] at e; exact e
/-- the end of a case -/
theorem casE {c : ms} {σ : gs} {μ : Option (Nat × Nat)} {sz C md kd : Nat} {E : List Nat} (T : Tv tk pl nt) (hN : 40000 < N) (hG : CG tk pl nt ex c σ) (h0 : σ.2.2.1 = 0) (hd : 0 < σ.2.1) (h5 : c.1 264 0 = 5) (hk : c.1 271 0 = nI (kd + 1)) (hm : mv N c = (fn_Grammar_caseEnd_Gr N c).bind (fun q_2 => some ((), q_2.2)))
    (hs : (∀ fp, μ = some fp → Off c fp.1 fp.2) ∧ (μ = none → (∃ T, Xc c T sz C) ∧ sz + 1 < 40000 ∧ c.1 260 0 = nI (md + 1) ∧ md < 60 ∧ jch (c.2 336) 517 (c.1 257 md) E ∧ (∀ j, j ∈ E → j < sz) ∧ E.length ≤ sz)) :
    ∃ σ', gShut tk pl 315 σ = some σ' ∧ ((σ'.2.2.1 ≠ 0 ∧ σ'.1 = σ.1 ∧ ∃ c', mv N c = some ((), c') ∧ CG tk pl nt ex c' σ') ∨ (σ' = (σ.1 + 1, σ.2.1 - 1, σ.2.2) ∧ ∃ c', mv N c = some ((), c') ∧ CG tk pl nt ex c' σ' ∧ c'.1 264 0 = 5 ∧ c'.1 271 0 = nI kd ∧ Eb [213, 214, 215, 216, 217, 218, 219, 238, 239, 241, 242, 243, 260, 271, 337] [336] c c' ∧ (∀ fp, μ = some fp → Off c' fp.1 fp.2) ∧ (μ = none → (∃ T, Xc c' T (sz + 1) C) ∧ c'.2 336 sz = crw 516 0 ∧ (∀ j, j ∈ E → c'.2 336 j = crw 517 (nI sz)) ∧ (∀ k, k ∉ E → k ≠ sz → c'.2 336 k = c.2 336 k) ∧ c'.1 260 0 = nI md))) := by
  obtain ⟨σ6, s2, s3⟩ : ∃ σ6, gShut tk pl 315 σ = some σ6 ∧ ((σ6.2.2.1 ≠ 0 ∧ σ6.1 = σ.1) ∨ σ6 = (σ.1 + 1, σ.2.1 - 1, σ.2.2)) := by
    rcases gShut_cases (tk := tk) (pl := pl) 315 σ h0 hd with ⟨-, u⟩ | ⟨-, ρ, u1, u2, u3⟩
    · exact ⟨_, u, Or.inr rfl⟩
    · exact ⟨ρ, u1, Or.inl ⟨u2, u3⟩⟩
  obtain ⟨c1, a1, a2, a3⟩ := kshut (N := N) T 315 (by decide) hG s2
  have k1 : c1.1 271 0 = nI (kd + 1) := by rw [a3.1 271 (by decide)]; exact hk
  unfold fn_Grammar_caseEnd_Gr at hm
  rw [show fn_Tokens_shut_Tk N 143 c = some ((), c1) from a1, obind] at hm
  dsimp only at hm
  refine ⟨σ6, s2, ?_⟩
  have fin : ∀ c2, fn_Meaning_caseEnd_Me N c1 = some ((), c2) → Eb [238, 239, 241, 242, 243, 260, 337] [336] c1 c2 → mv N c = some ((), upI c2 271 (fun _ => nI kd)) := fun c2 m1 m2 => by
    rw [m1, obind, obind] at hm
    dsimp only at hm
    rw [hm, m2.1 271 (by decide), k1, nI_pred]
  rcases s3 with ⟨dd, s4⟩ | rfl
  · exact Or.inl ⟨dd, s4, _, fin c1 (off_caseEnd (Or.inr (a2.dead dd))) Eb.rfl, a2.upI (by decide)⟩
  · right
    have h06 : ((σ.1 + 1, σ.2.1 - 1, σ.2.2) : gs).2.2.1 = 0 := h0
    have al : c1.1 217 0 = nI 0 := a2.alive h06
    have ek : ∀ c2, Eb [238, 239, 241, 242, 243, 260, 337] [336] c1 c2 → Eb [213, 214, 215, 216, 217, 218, 219, 238, 239, 241, 242, 243, 260, 271, 337] [336] c (upI c2 271 (fun _ => nI kd)) := fun c2 m2 => ((a3.mono (by decide) (by decide)).trans (m2.mono (by decide) (by decide))).upI (by decide)
    have cg : ∀ c2, Eb [238, 239, 241, 242, 243, 260, 337] [336] c1 c2 → CG tk pl nt ex (upI c2 271 (fun _ => nI kd)) (σ.1 + 1, σ.2.1 - 1, σ.2.2) := fun c2 m2 => (a2.mono m2 (fun k _ _ => by simp; omega) (by decide)).upI (by decide)
    refine ⟨rfl, ?_⟩
    cases hμ : μ with
    | some fp =>
      have o := (hs.1 fp hμ).mono a3 (by decide) (by decide)
      exact ⟨_, fin c1 (off_caseEnd o.off) Eb.rfl, cg c1 Eb.rfl, by rw [(ek c1 Eb.rfl).1 264 (by decide)]; exact h5, rfl, ek c1 Eb.rfl, fun q z => (by cases z; exact o), fun z => (by cases z)⟩
    | none =>
      obtain ⟨⟨T0, X⟩, x2, x3, x4, x5, x6, x7⟩ := hs.2 hμ
      have X1 : Xc c1 T0 sz C := X.mono a3 (by decide) al
      obtain ⟨c2, b1, b2, b3, b4, b5, b6, b7⟩ := caseEnd_C (N := N) (E := E) X1 x2 hN (by rw [a3.1 260 (by decide)]; exact x3) x4 (by rw [a3.2 336 (by decide), a3.1 257 (by decide)]; exact x5) x6 x7
      refine ⟨_, fin c2 b1 b7, cg c2 b7, by rw [(ek c2 b7).1 264 (by decide)]; exact h5, rfl, ek c2 b7, fun q z => (by cases z), fun _ => ⟨⟨T0, b2⟩, b3, b4, fun k k1 k2 => ?_, b6⟩⟩
      show c2.2 336 k = _
      rw [b5 k k1 k2, a3.2 336 (by decide)]
/-- the end of an arm -/
theorem casA {c : ms} {σ : gs} {μ : Option (Nat × Nat)} {sz C md kd j : Nat} {op g : Int32} (hG : CG tk pl nt ex c σ) (h5 : c.1 264 0 = 5) (hk : c.1 271 0 = nI (kd + 1)) (hk2 : kd < 60) (hx : c.1 270 kd = 201)
    (hs : (∀ fp, μ = some fp → Off c fp.1 fp.2) ∧ (μ = none → (∃ T, Xc c T sz C) ∧ sz + 1 < 40000 ∧ c.1 260 0 = nI (md + 1) ∧ md < 60 ∧ c.1 256 md = nI j ∧ j < sz ∧ c.2 336 j = crw op g)) :
    ∃ c', mv N c = some ((), c') ∧ CG tk pl nt ex c' σ ∧ c'.1 264 0 = 5 ∧ c'.1 271 0 = nI (kd + 1) ∧ c'.1 270 = upd (c.1 270) kd 142 ∧ Eb [238, 239, 241, 242, 243, 256, 257, 270, 337] [336] c c' ∧ (∀ fp, μ = some fp → Off c' fp.1 fp.2) ∧ (μ = none → (∃ T, Xc c' T (sz + 1) C) ∧ c'.2 336 = vp_updL (vp_updL (c.2 336) sz (crw 517 (c.1 257 md))) j (crw op (nI (sz + 1))) ∧ c'.1 256 = upd (c.1 256) md (-1) ∧ c'.1 257 = upd (c.1 257) md (nI sz)) := by
  have hm := (ctx6 (N := N) h5 hk hk2 hx).2.1 rfl
  have fin : ∀ c2, fn_Meaning_armEnd_Me N c = some ((), c2) → Eb [238, 239, 241, 242, 243, 256, 257, 337] [336] c c2 → mv N c = some ((), upI c2 270 (upd (c.1 270) kd 142)) := fun c2 m1 m2 => by
    rw [m1, obind] at hm
    dsimp only at hm
    (rw [hm, goOn_C (kd := kd) (by rw [m2.1 271 (by decide)]; exact hk) hk2, obind, m2.1 270 (by decide)]) <;> rfl
  have ek : ∀ c2, Eb [238, 239, 241, 242, 243, 256, 257, 337] [336] c c2 → Eb [238, 239, 241, 242, 243, 256, 257, 270, 337] [336] c (upI c2 270 (upd (c.1 270) kd 142)) := fun c2 m2 => (m2.mono (by decide) (by decide)).upI (by decide)
  cases hμ : μ with
  | some fp =>
    have o := hs.1 fp hμ
    exact ⟨_, fin c (off_armEnd o.off) Eb.rfl, hG.upI (by decide), h5, hk, rfl, ek c Eb.rfl, fun q z => (by cases z; exact o), fun z => (by cases z)⟩
  | none =>
    obtain ⟨⟨T0, X⟩, x2, x3, x4, x5, x6, x7⟩ := hs.2 hμ
    obtain ⟨c2, b1, b2, b3, b4, b5, b6⟩ := armEnd_C (N := N) X x2 x3 x4 x5 x6 x7
    exact ⟨_, fin c2 b1 b6, (hG.mono b6 (fun k _ _ => by simp; omega) (by decide)).upI (by decide), by rw [(ek c2 b6).1 264 (by decide)]; exact h5, by rw [(ek c2 b6).1 271 (by decide)]; exact hk, rfl, ek c2 b6, fun q z => (by cases z), fun _ => ⟨⟨T0, b2⟩, b3, b4, b5⟩⟩
/-- a run over labels -/
theorem labC_run {row : Nat → Int64} {B A : Nat} {ls : List Nat} {v n : Nat → Int64} {st : List Int64} {x : Int64} (h : CLab row fd lit lc B ls) (ha : ∀ i, i < ls.length → row (B + 2 * i + 1) = crw 519 (nI A)) (hA : B + 2 * ls.length < A) (hs : st.length ≤ 60) : ∀ (d i : Nat), i + d = ls.length → (x ∈ (ls.drop i).map lN → Rt (cS row fd lit lc P v) (B + 2 * i, x :: st, n) (A, x :: st, n)) ∧ (¬ x ∈ (ls.drop i).map lN → Rt (cS row fd lit lc P v) (B + 2 * i, x :: st, n) (B + 2 * ls.length, x :: st, n)) := by
  intro d
  induction d with
  | zero =>
    intro i hi
    rw [show i = ls.length by omega, List.drop_length]
    exact ⟨fun z => by simp at z, fun _ => Rt.refl⟩
  | succ d ih =>
    intro i hi
    have il : i < ls.length := by omega
    obtain ⟨u1, u2⟩ := ih (i + 1) (by omega)
    obtain ⟨o1, -⟩ := h i ls[i] (List.getElem?_eq_getElem il)
    rw [List.drop_eq_getElem_cons il, List.map_cons]
    have sl : (x :: st).length ≤ 960 := by simp; omega
    have sl2 : (lN ls[i] :: x :: st).length ≤ 960 := by simp; omega
    have s0 : Rt (cS row fd lit lc P v) (B + 2 * i, x :: st, n) (B + 2 * i + 1, lN ls[i] :: x :: st, n) := Rt.one ⟨by show B + 2 * i < B + 2 * i + 1; omega, sl2, Or.inl ⟨(0, ls[i], 0), o1, by show 0 ≤ 8; omega, fun z => absurd z (by simp), ob0, rfl, rfl, rfl⟩⟩
    by_cases z : x = lN ls[i]
    · refine ⟨fun _ => s0.trans (Rt.one ⟨by show B + 2 * i + 1 < A; omega, sl, Or.inr (Or.inr (Or.inr (Or.inr (Or.inl ⟨x, lN ls[i], st, rfl, rfl, rfl, Or.inl ⟨z, ha i il⟩⟩))))⟩), fun y => absurd (by rw [z]; exact List.mem_cons_self) y⟩
    · have s1 : Rt (cS row fd lit lc P v) (B + 2 * i, x :: st, n) (B + 2 * (i + 1), x :: st, n) := s0.trans (Rt.one ⟨by show B + 2 * i + 1 < B + 2 * (i + 1); omega, sl, Or.inr (Or.inr (Or.inr (Or.inr (Or.inl ⟨x, lN ls[i], st, rfl, rfl, rfl, Or.inr ⟨z, ⟨_, ha i il⟩, by show B + 2 * (i + 1) = B + 2 * i + 1 + 1; omega⟩⟩))))⟩)
      refine ⟨fun y => s1.trans (u1 ?_), fun y => s1.trans (u2 (fun q => y (List.mem_cons_of_mem _ q)))⟩
      rcases List.mem_cons.mp y with y | y
      · exact absurd y z
      · exact y
/-- a run over an arm, and what is behind it -/
theorem arm_run {row : Nat → Int64} {B sz2 ze d : Nat} {ls : List Nat} {D2 : DT} {F : Int64 → DT} (hL : CLab row fd lit lc B ls) (ha : ∀ i, i < ls.length → row (B + 2 * i + 1) = crw 519 (nI (B + 2 * ls.length + 1))) (hj : row (B + 2 * ls.length) = crw 517 (nI (sz2 + 1))) (h2 : B + 2 * ls.length + 1 ≤ sz2) (hD : Cg row fd lit lc P (d + 1) (B + 2 * ls.length + 1) sz2 D2) (hx : row sz2 = crw 517 (nI ze)) (hze : sz2 < ze) (hdr : row ze = crw 516 0) (hd : d ≤ 60) (hF : ∀ v n st x, st.length ≤ d → Rt (cS row fd lit lc P v) (sz2 + 1, x :: st, n) (ze + 1, st, F x v n)) (v n : Nat → Int64) (st : List Int64) (x : Int64) (hst : st.length ≤ d) : Rt (cS row fd lit lc P v) (B, x :: st, n) (ze + 1, st, if x ∈ ls.map lN then D2 v n else F x v n) := by
  have lr := labC_run (P := P) (v := v) (n := n) (st := st) (x := x) hL ha (by omega) (by omega) ls.length 0 (by omega)
  rw [List.drop_zero, Nat.mul_zero, Nat.add_zero] at lr
  have sl : (x :: st).length ≤ 960 := by simp; omega
  by_cases xin : x ∈ ls.map lN
  · rw [if_pos xin]
    refine (lr.1 xin).trans ((hD v n (x :: st) (by simp; omega)).trans ((Rt.one (b := (ze, x :: st, D2 v n)) ⟨hze, sl, Or.inr (Or.inr (Or.inr (Or.inl ⟨hx, rfl⟩)))⟩).trans (Rt.one ⟨by show ze < ze + 1; omega, by show st.length ≤ 960; omega, Or.inr (Or.inr (Or.inr (Or.inr (Or.inr ⟨x, 0, hdr, rfl, rfl, rfl⟩))))⟩)))
  · rw [if_neg xin]
    exact (lr.2 xin).trans ((Rt.one (b := (sz2 + 1, x :: st, n)) ⟨by show B + 2 * ls.length < sz2 + 1; omega, sl, Or.inr (Or.inr (Or.inr (Or.inl ⟨hj, rfl⟩)))⟩).trans (hF v n st x hst))
end CARM
