/-! The class: an exp within an item; asserts. -/
section CAST
variable {tk pl vl wi wd : Nat → Nat} {nt nw N N0 N1 lc : Nat} {ex : Nat → Int32} {lit : Nat → Int64} {c c' c0 : ms} {A : ds} {t sz C I K : Nat} {σ σ' : gs} {μ : Option (Nat × Nat)}
/-- what an exp of an item leaves -/
def ExpO (tk pl vl wi wd : Nat → Nat) (nt nw N0 : Nat) (lit : Nat → Int64) (lc : Nat) (A : ds) (I K sz C : Nat) (ρ σ' : gs) (μ : Option (Nat × Nat)) (c c' : ms) : Prop :=
  (∀ fp, μ = some fp → OffN nw c' fp.1 fp.2) ∧ (μ = none → ∃ q, (σ'.1 + 1 < nt → dX tk pl vl wi wd nt N0 A ρ.1 = some q) ∧ (∀ f p, q = .inl (f, p) → OffN nw c' f p) ∧ (∀ w t' L C2, q = .inr (w, t', L, C2) → t' = σ'.1 ∧ Xc c' 1 (sz + L.length) (C + C2) ∧ c'.1 238 0 = nI w ∧ 1 ≤ w ∧ w ≤ 64 ∧ ρ.1 + L.length ≤ σ'.1 ∧ (∀ k, k < sz → c'.2 336 k = c.2 336 k) ∧ cEnc (c'.2 336) (A.1 21 (A.1 46 0)) lit lc sz L ∧ DC pl wd nw lit lc A I K sz c' ∧ c'.1 240 0 = nI sz))
theorem expFor_240 {x : Int32} {T : Nat} (X : Xc c T sz C) (h : fn_Grammar_expFor_Gr N x c = some ((), c')) : c'.1 240 0 = nI sz := by
  have X1 : Xc (upI (upI (upI (upI c 265 (fun _ => x)) 268 (fun _ => c.1 215 0)) 269 (fun _ => c.1 213 0)) 275 (fun _ => 0)) T sz C := X
  unfold fn_Grammar_expFor_Gr fn_Checker_expBegins_Ch at h
  rw [on_go X1] at h
  dsimp only at h
  rw [if_pos rfl, obind] at h
  cases h
  exact X.2.2.2.2.1
theorem expFor_268 {x : Int32} (hG : CG tk pl nt ex c σ) (h0 : σ.2.2.1 = 0) (h : fn_Grammar_expFor_Gr N x c = some ((), c')) : c'.1 268 0 = nI (pl σ.1) ∧ c'.1 269 0 = nI σ.1 := by
  have g := hG.2.2.2.1 h0
  unfold fn_Grammar_expFor_Gr at h
  have ek : ∀ d c2 : ms, fn_Checker_expBegins_Ch N d = some ((), c2) → c2.1 268 = d.1 268 ∧ c2.1 269 = d.1 269 := by
    intro d c2 h
    unfold fn_Checker_expBegins_Ch at h
    by_cases o : OffC d
    · rw [offC o, obind, if_neg (show ¬ (1 : Int32) = 0 by decide)] at h
      cases h
      exact ⟨rfl, rfl⟩
    · have on : fn_Checker_isOff_Ch N d = some (0, d) := by
        unfold OffC at o
        have o1 : d.1 242 0 = 0 := Classical.not_not.mp (fun z => o (Or.inl z))
        have o2 : d.1 217 0 = 0 := Classical.not_not.mp (fun z => o (Or.inr z))
        unfold fn_Checker_isOff_Ch
        rw [if_pos o1, if_pos o2]
      rw [on, obind, if_pos rfl] at h
      cases h
      exact ⟨rfl, rfl⟩
  obtain ⟨q, q1, q2⟩ := Option.bind_eq_some_iff.mp h
  obtain ⟨e1, e2⟩ := ek _ q.2 q1
  cases q2
  refine ⟨?_, ?_⟩
  · show q.2.1 268 0 = _
    rw [e1]; exact g.2.2.1
  · show q.2.1 269 0 = _
    rw [e2]; exact g.1
theorem expI {x : Int32} (T' : Tv tk pl nt) (hV : Vb tk vl wi) (hN : 40000 < N) (hN1 : 12002 < N1) (hN0 : 12002 < N0) (hK : KS tk pl vl wi wd nt ex nw lit lc c) (h0 : σ.2.2.1 = 0) (hG : CG tk pl nt ex c σ) (hs : (∀ fp, μ = some fp → OffN nw c fp.1 fp.2) ∧ (μ = none → (∃ T, Xc c T sz C) ∧ sz ≤ σ.1 ∧ DC pl wd nw lit lc A I K sz c ∧ WF tk nt A σ.1)) :
    ∃ c1, fn_Grammar_expFor_Gr N x c = some ((), c1) ∧ Eb [239, 240, 264, 265, 268, 269, 275] [] c c1 ∧ ∃ σ', gE tk pl N1 σ = some σ' ∧ (DeadP tk pl nt ex N c1 σ σ' ∨ (∃ k c', Rc N k c1 c' ∧ k + 1 ≤ 3 * (σ'.1 - σ.1) ∧ c'.1 264 0 = 8 ∧ CE c1 c' ∧ CG tk pl nt ex c' σ' ∧ σ'.2.2.1 = 0 ∧ σ'.2.1 = σ.2.1 ∧ σ.1 < σ'.1 ∧ c'.1 265 0 = x ∧ c'.1 268 0 = nI (pl σ.1) ∧ c'.1 269 0 = nI σ.1 ∧ ExpO tk pl vl wi wd nt nw N0 lit lc A I K sz C σ σ' μ c c')) := by
  obtain ⟨c1, j1, j2, j3, j4, j5, j6, j7, j8⟩ := expFor_C (N := N) (x := x) (μ := μ) (sz := sz) (C := C) hG h0 ⟨fun fp z => (hs.1 fp z).1, fun z => ⟨(hs.2 z).1, (hs.2 z).2.1⟩⟩
  refine ⟨c1, j1, j6, ?_⟩
  obtain ⟨A3, w1, w3⟩ : ∃ A3, WF tk nt A3 σ.1 ∧ (μ = none → A3 = A) := by
    cases h3 : μ with
    | some fp => exact ⟨dA0, wfA0.later (Nat.zero_le _), fun z => (by cases z)⟩
    | none => exact ⟨A, (hs.2 h3).2.2.2, fun _ => rfl⟩
  obtain ⟨σ5, g1, g2⟩ := expM (N0 := N0) (N1 := N1) (A := A3) (t := σ.1) (I := I) (K := K) (C := C) (sz := sz) (μ := μ) (σ := σ) T' hV hN hN1 hN0 (hK.keep j6 (by decide) (by decide)) h0 j5 j2 j3 w1 (Nat.le_refl _) ⟨fun fp z => (hs.1 fp z).mono j6 (by decide), fun z => by
    rw [w3 z]
    exact ⟨(j8 z).1, (j8 z).2, (hs.2 z).2.2.1.keep j6 (by decide) (by decide) (fun k _ => by rw [j6.2 336 (by decide)]) (Nat.le_refl _)⟩⟩
  refine ⟨σ5, g1, g2.imp (fun z => z) (fun ⟨k, c7, q1, q2, q3, q4, q5, q6, q7, q8, q9, q10⟩ => ?_)⟩
  obtain ⟨p1, p2⟩ := expFor_268 hG h0 j1
  refine ⟨k, c7, q1, q2, q3, q4, q5, q6, q7, q8, by rw [q4.1 265 (by decide)]; exact j4, by rw [q4.1 268 (by decide)]; exact p1, by rw [q4.1 269 (by decide)]; exact p2, q9, fun z => ?_⟩
  obtain ⟨q, v1, v2, v3⟩ := q10 z
  rw [w3 z] at v1
  refine ⟨q, v1, v2, fun w t' L C2 y => ?_⟩
  obtain ⟨x1, x2, x4, x5, x6, x7, x8, x9, x10⟩ := v3 w t' L C2 y
  rw [w3 z] at x9 x10
  obtain ⟨T, X⟩ := (hs.2 z).1
  exact ⟨x1, x2, x4, x5, x6, x7, fun k hk => by rw [x8 k hk, j6.2 336 (by decide)], x9, x10, by rw [q4.1 240 (by decide)]; exact expFor_240 X j1⟩
theorem addPiece_C {v a n : Nat} (hv : v = 0 ∨ v = 1) (h : c.1 317 0 = nI n) (hn : n < 6554) : fn_Design_addPiece_Ds N (nI v) (nI a) c = some ((), upI (upI (upI (upI c 318 (upd (c.1 318) n (nI a))) 319 (upd (c.1 319) n (c.1 337 0))) 320 (upd (c.1 320) n (nI v))) 317 (fun _ => nI (n + 1))) := by
  have i := nI_in hn (show 6554 < 2 ^ 31 by decide)
  have k : ∀ d : ms, d.1 317 0 = nI n → bk_Design_addPiece_Ds_54 N (nI v) (nI n) d = some ((), upI (upI d 320 (upd (d.1 320) n (nI v))) 317 (fun _ => nI (n + 1))) := fun d hd => by
    unfold bk_Design_addPiece_Ds_54
    rw [if_neg i, nI_clamp (by omega), hd, nI_1]
  unfold fn_Design_addPiece_Ds
  rw [h, if_pos (show nI n < 6554 from nI_lt (b := 6554) hn (by decide)), if_neg i, if_neg i, nI_clamp (by omega)]
  rcases hv with rfl | rfl
  · rw [if_pos (show nI 0 = 0 from rfl)]
    exact k _ h
  · rw [if_neg (show ¬ nI 1 = 0 by decide)]
    exact k _ h
theorem off_asserted (h : OffC c) : fn_Meaning_asserted_Me N c = some ((), c) := by unfold fn_Meaning_asserted_Me; rw [off_go h]; rfl
theorem asserted_C {w sz' C' n a : Nat} (X : Xc c 1 sz' C') (h238 : c.1 238 0 = nI w) (hw : w ≤ 64) (h240 : c.1 240 0 = nI a) (h317 : c.1 317 0 = nI n) (hn : n < 6554) : ∃ c', fn_Meaning_asserted_Me N c = some ((), c') ∧ Xc c' 0 sz' (C' + w) ∧ c'.2 336 = c.2 336 ∧ c'.1 318 = upd (c.1 318) n (nI a) ∧ c'.1 319 = upd (c.1 319) n (nI sz') ∧ c'.1 320 = upd (c.1 320) n (nI 1) ∧ c'.1 317 0 = nI (n + 1) ∧ Eb [238, 239, 241, 242, 243, 317, 318, 319, 320, 337] [336] c c' := by
  obtain ⟨c1, a1, a2, a3, a4, a5⟩ := pop_C (N := N) (T := 0) X
  obtain ⟨c2, b1, b2, b3, b4, b5⟩ := spend_C (N := N) (n := w) a2 (by omega)
  have e : XE c c2 := a5.trans b5
  have f1 : c2.1 240 0 = nI a := by rw [e.1 240 (by decide)]; exact h240
  have f2 : c2.1 317 0 = nI n := by rw [e.1 317 (by decide)]; exact h317
  have f3 : c2.1 337 0 = nI sz' := b2.2.2.2.2.1
  unfold fn_Meaning_asserted_Me fn_Checker_expWidth_Ch
  rw [on_go X]
  dsimp only
  rw [if_pos rfl, a1, obind, obind]
  dsimp only
  rw [h238, b1, obind]
  dsimp only
  rw [f1, show fn_Design_addPiece_Ds N 1 (nI a) c2 = _ from addPiece_C (v := 1) (Or.inr rfl) f2 hn, obind]
  refine ⟨_, rfl, b2, by show c2.2 336 = _; rw [b4, a4], by show upd (c2.1 318) n (nI a) = _; rw [e.1 318 (by decide)], ?_, by show upd (c2.1 320) n (nI 1) = _; rw [e.1 320 (by decide)], rfl, ((((e.mono (by decide) (by decide)).upI (by decide)).upI (by decide)).upI (by decide)).upI (by decide)⟩
  show upd (c2.1 319) n (c2.1 337 0) = _
  rw [f3, e.1 319 (by decide)]
/-- a piece more -/
theorem DC.asr {C2 : Nat} {L : List aop} (H : DC pl wd nw lit lc A I K sz c) (hE : cEnc (c'.2 336) (A.1 21 (A.1 46 0)) lit lc sz L) (e : Eb [238, 239, 241, 242, 243, 317, 318, 319, 320, 337] [336] c c') (hr : c'.2 336 = c.2 336) (h318 : c'.1 318 = upd (c.1 318) (A.1 45 0) (nI sz)) (h319 : c'.1 319 = upd (c.1 319) (A.1 45 0) (nI (sz + L.length))) (h320 : c'.1 320 = upd (c.1 320) (A.1 45 0) (nI 1)) (h317 : c'.1 317 0 = nI (A.1 45 0 + 1)) : DC pl wd nw lit lc (dAss A L C2) I K (sz + L.length) c' := by
  obtain ⟨g1, g2, g3, g4, g5, g6, g7, g8, g9⟩ := H
  have hr' : ∀ k, k < sz → c'.2 336 k = c.2 336 k := fun k _ => by rw [hr]
  have k2 := g2.keep (c' := c') e (by decide) (by decide)
  have k3 := g3.keep (c' := c') (sz' := sz + L.length) e (by decide) hr' (by omega)
  have k4 := g4.keep (c' := c') e (by decide)
  have k5 := g5.keep (c' := c') (sz' := sz + L.length) e (by decide) hr' (by omega)
  have k7 := g7.keep (c' := c') e (by decide)
  have k8 := g8.keep (c' := c') e (by decide)
  have k9 := g9.keep (c' := c') e (by decide)
  unfold dAss
  refine ⟨?_, ?_, ?_, ?_, ?_, fun p hp => ?_, ?_, ?_, ?_⟩
  · unfold Ck at *
    rw [e.1 321 (by decide), e.1 328 (by decide), e.1 332 (by decide), e.1 233 (by decide), e.1 309 (by decide), h317]
    simp only [tu1, tu2, uu1, uu2, uu3, vu1, vu2, vu3, su1, su2, Nat.reduceEqDiff, false_and, true_and, reduceIte, Bool.false_eq_true, if_true, if_false]
    exact ⟨g1.1, g1.2.1, g1.2.2.1, g1.2.2.2.2⟩
  · unfold Cnm at *
    simp only [tu1, tu2, uu1, uu2, uu3, vu1, vu2, vu3, su1, su2, Nat.reduceEqDiff, false_and, true_and, reduceIte, Bool.false_eq_true, if_true, if_false]
    exact k2
  · unfold Cdr dDrv dRg at *
    simp only [tu1, tu2, uu1, uu2, uu3, vu1, vu2, vu3, su1, su2, Nat.reduceEqDiff, false_and, true_and, reduceIte, Bool.false_eq_true, if_true, if_false]
    exact k3
  · unfold Cit at *
    simp only [tu1, tu2, uu1, uu2, uu3, vu1, vu2, vu3, su1, su2, Nat.reduceEqDiff, false_and, true_and, reduceIte, Bool.false_eq_true, if_true, if_false]
    exact k4
  · unfold Clk at *
    simp only [tu1, tu2, uu1, uu2, uu3, vu1, vu2, vu3, su1, su2, Nat.reduceEqDiff, false_and, true_and, reduceIte, Bool.false_eq_true, if_true, if_false]
    exact k5
  · simp only [tu1, tu2, uu1, uu2, uu3, vu1, vu2, vu3, su1, su2, Nat.reduceEqDiff, false_and, true_and, reduceIte, Bool.false_eq_true, if_true, if_false] at hp
    rw [h318, h319, h320, hr]
    rw [hr] at hE
    by_cases z : p = A.1 45 0
    · subst z
      simp only [tu1, tu2, uu1, uu2, uu3, vu1, vu2, vu3, su1, su2, Nat.reduceEqDiff, false_and, true_and, reduceIte, Bool.false_eq_true, if_true, if_false]
      rw [upd_at, upd_at, upd_at]
      exact ⟨rfl, Nat.le_refl _, sz, sz + L.length, rfl, rfl, by omega, Nat.le_refl _, fun _ => ⟨rfl, hE, by omega⟩, fun y => nomatch y⟩
    · obtain ⟨h1, h2, a, b, h3, h4, h5, h6, h7, h8⟩ := g6 p (by omega)
      simp only [z, tu1, tu2, uu1, uu2, uu3, vu1, vu2, vu3, su1, su2, Nat.reduceEqDiff, false_and, true_and, reduceIte, Bool.false_eq_true, if_true, if_false]
      rw [upd_ne z, upd_ne z, upd_ne z]
      refine ⟨h1, h2, a, b, h3, h4, h5, by omega, fun y => ?_, h8⟩
      obtain ⟨i1, i2, i3⟩ := h7 y
      have ne : ¬ A.1 16 p = A.1 43 0 := by omega
      simp only [ne, reduceIte]
      exact ⟨i1, i2, by omega⟩
  · unfold Cmo at *
    simp only [tu1, tu2, uu1, uu2, uu3, vu1, vu2, vu3, su1, su2, Nat.reduceEqDiff, false_and, true_and, reduceIte, Bool.false_eq_true, if_true, if_false]
    exact k7
  · unfold Wr at *
    simp only [tu1, tu2, uu1, uu2, uu3, vu1, vu2, vu3, su1, su2, Nat.reduceEqDiff, false_and, true_and, reduceIte, Bool.false_eq_true, if_true, if_false]
    exact k8
  · unfold Wm at *
    simp only [tu1, tu2, uu1, uu2, uu3, vu1, vu2, vu3, su1, su2, Nat.reduceEqDiff, false_and, true_and, reduceIte, Bool.false_eq_true, if_true, if_false]
    exact k9
theorem it_assert (T' : Tv tk pl nt) (hV : Vb tk vl wi) (hN : 40000 < N) (hN1 : 12002 < N1) (hN0 : 12002 < N0) (hK : KS tk pl vl wi wd nt ex nw lit lc c) (h0 : σ.2.2.1 = 0) (h2 : c.1 264 0 = 2) (h271 : c.1 271 0 = nI 0) (hG : CG tk pl nt ex c σ) (hkk : tk σ.1 = 317) (hs : Md tk pl wd nt nw lit lc A σ.1 sz c μ) :
    ∃ σ', ((gE tk pl N1 (gOpen tk pl 40 (gInc σ))).bind (fun σ => (gShut tk pl 41 σ).bind (fun σ => some (gTake tk pl 59 σ)))) = some σ' ∧ (DeadS 4 tk pl nt ex N c σ σ' ∨ ItPost tk pl wd nt nw ex N lit lc c σ σ' μ (dAssert tk pl vl wi wd nt N0 σ.1 A)) := by
  have hnt := T'.2.1
  have t1n := T'.more hG.2.1 hkk (by omega) (by omega)
  obtain ⟨c1, a1, a2, a3⟩ := ktake (N := N) T' hG (fun _ => t1n)
  rw [if_pos h0] at a2
  obtain ⟨c2, b1, b2, b3⟩ := kopen (N := N) T' 40 (by decide) a2
  have e12 : F7 c c2 := a3.trans b3
  have hmv : mv N c = (fn_Grammar_expFor_Gr N 145 c2).bind (fun q_5 => some ((), q_5.2)) := by
    rw [mv2 h2]
    unfold fn_Grammar_item_Gr
    rw [if_neg (show ¬ c.1 214 0 = 2 from kneg (k := 400) T' hG (by decide) (fun _ => by omega)), if_neg (show ¬ c.1 214 0 = 129 from kneg (k := 301) T' hG (by decide) (fun _ => by omega)), if_neg (show ¬ c.1 214 0 = 132 from kneg (k := 304) T' hG (by decide) (fun _ => by omega)), if_neg (show ¬ c.1 214 0 = 133 from kneg (k := 305) T' hG (by decide) (fun _ => by omega)), if_neg (show ¬ c.1 214 0 = 134 from kneg (k := 306) T' hG (by decide) (fun _ => by omega)), if_neg (show ¬ c.1 214 0 = 135 from kneg (k := 307) T' hG (by decide) (fun _ => by omega)), if_pos (show c.1 214 0 = 145 from kpos (k := 317) hG h0 hkk), a1, obind]
    dsimp only
    rw [show fn_Tokens_open_Tk N 40 c1 = some ((), c2) from b1, obind]
  have le40 := gOpen_le (tk := tk) (pl := pl) (k := 40) (σ := gInc σ)
  have le40' : σ.1 + 1 ≤ (gOpen tk pl 40 (gInc σ)).1 := le40
  by_cases al : (gOpen tk pl 40 (gInc σ)).2.2.1 = 0
  · obtain ⟨-, k40, d60, x3⟩ := gOpen_al al
    have al2 : c2.1 217 0 = nI 0 := b2.alive al
    rw [x3] at b2 ⊢
    have t2n : σ.1 + 1 + 1 < nt := b2.2.1
    have K2 : KS tk pl vl wi wd nt ex nw lit lc c2 := hK.keep e12 (by decide) (by decide)
    have hs2 := hs.keep (t' := σ.1 + 1 + 1) e12 (by decide) (by decide) (by decide) al2 (by omega)
    obtain ⟨c3, j1, j2, σ5, g1, g2⟩ := expI (N0 := N0) (N1 := N1) (x := 145) (σ := (σ.1 + 1 + 1, σ.2.1 + 1, σ.2.2)) (μ := μ) (sz := sz) (C := A.1 47 0) (A := A) (I := A.1 41 0) (K := A.1 42 0) T' hV hN hN1 hN0 K2 h0 b2 ⟨fun fp z => hs2.1 fp z, fun z => ⟨(hs2.2 z).1, (hs2.2 z).2.2.2.2.2.1, (hs2.2 z).2.1, (hs2.2 z).p1⟩⟩
    rw [j1, obind] at hmv
    have r1 : Rc N 1 c c3 := Rc.one (hG.alive h0) (by rw [h2]; decide) hmv
    have gs1 : ((gInc σ).1 + 1, (gInc σ).2.1 + 1, (gInc σ).2.2) = (σ.1 + 1 + 1, σ.2.1 + 1, σ.2.2) := rfl
    rw [gs1, g1, obind]
    rcases g2 with dd | ⟨k, c7, q1, q2, q3, q4, q5, q6, q7, q8, q9, -, -, qO⟩
    · rw [gShut_dead dd.1, obind, gTake_dead dd.1]
      exact ⟨σ5, rfl, Or.inl ((dd.toS (e := 3) (by omega)).after r1 (by show 1 + 3 ≤ 4 * (σ.1 + 1 + 1 - σ.1) + 4; omega) (by show σ.1 ≤ σ.1 + 1 + 1; omega))⟩
    · have q2' : k + 1 ≤ 3 * (σ5.1 - (σ.1 + 1 + 1)) := q2
      have q8' : σ.1 + 1 + 1 < σ5.1 := q8
      have q7' : σ5.2.1 = σ.2.1 + 1 := q7
      have r2 := r1.trans q1
      have eP7 : KP c c7 := ((F7.toKP e12).trans (j2.mono (by decide) (by decide))).trans (q4.mono (by decide) (by decide))
      obtain ⟨σ6, s1⟩ := gShut_ex (tk := tk) (pl := pl) (k := 41) (σ := σ5) (fun _ => by omega)
      obtain ⟨c8, s2, s3, s4⟩ := kshut (N := N) T' 41 (by decide) q5 s1
      obtain ⟨c9, s5, s6, s7⟩ := kneed (N := N) T' 59 (by decide) s3
      rw [s1, obind]
      have le1 := gShut_le s1
      have le2 := gTake_le (tk := tk) (pl := pl) (k := 59) (σ := σ6)
      have e79 : F7 c7 c9 := s4.trans s7
      have fin : ∀ c10 sz', fn_Meaning_asserted_Me N c9 = some ((), c10) → Eb [238, 239, 241, 242, 243, 317, 318, 319, 320, 337] [336] c9 c10 → ((gTake tk pl 59 σ6).2.2.1 = 0 → (gTake tk pl 59 σ6).1 = σ5.1 + 2 → σ5.1 + 2 < nt → Mr tk pl wd nt nw lit lc μ (dAssert tk pl vl wi wd nt N0 σ.1 A) (σ5.1 + 2) sz' (upI c10 264 (fun _ => 2))) → ∃ σ', some (gTake tk pl 59 σ6) = some σ' ∧ (DeadS 4 tk pl nt ex N c σ σ' ∨ ItPost tk pl wd nt nw ex N lit lc c σ σ' μ (dAssert tk pl vl wi wd nt N0 σ.1 A)) := by
        intro c10 sz' n1 n2 n3
        have hm2 : mv N c7 = some ((), upI c10 264 (fun _ => 2)) := by
          rw [mv8 q3]
          unfold fn_Grammar_behindExp_Gr
          rw [q9, if_neg (by decide), if_neg (by decide), if_neg (by decide), if_neg (by decide), if_pos rfl]
          rw [show fn_Tokens_shut_Tk N 41 c7 = some ((), c8) from s2, obind]
          dsimp only
          rw [show fn_Tokens_need_Tk N 59 c8 = some ((), c9) from s5, obind]
          dsimp only
          rw [n1, obind]
        have r3 := r2.trans (Rc.one (q5.alive q6) (by rw [q3]; decide) hm2)
        have G10 : CG tk pl nt ex (upI c10 264 (fun _ => 2)) (gTake tk pl 59 σ6) := (s6.mono n2 (fun k _ _ => by simp; omega) (by decide)).upI (by decide)
        refine ⟨_, rfl, ?_⟩
        by_cases al9 : (gTake tk pl 59 σ6).2.2.1 = 0
        · right
          obtain ⟨v1, v2, v3⟩ := gTake_al al9
          obtain ⟨w1, w2, w3, w4⟩ := gShut_al s1 v1
          have u : (gTake tk pl 59 σ6).1 = σ5.1 + 2 := by rw [v3, w4]; rfl
          have tn9 := s6.2.1
          rw [u] at tn9
          have e9 : KP c (upI c10 264 (fun _ => 2)) := ((eP7.trans (F7.toKP e79)).trans (n2.mono (by decide) (by decide))).upI (by decide)
          refine ⟨1 + k + 1, _, sz', r3, by omega, rfl, e9, G10, al9, by rw [v3, w4]; show σ5.2.1 - 1 = σ.2.1; omega, by omega, ?_, by rw [u]; exact n3 al9 u tn9⟩
          show c10.1 271 0 = nI 0
          rw [n2.1 271 (by decide), e79.1 271 (by decide), q4.1 271 (by decide), j2.1 271 (by decide), e12.1 271 (by decide)]
          exact h271
        · exact Or.inl ⟨al9, by omega, 1 + k + 1, _, r3, by omega, G10⟩
      have up : ∀ {f p : Nat}, OffN nw c7 f p → OffN nw (upI c9 264 (fun _ => 2)) f p := fun o => (o.mono e79 (by decide)).mono (ks := [264]) (js := []) (Eb.rfl.upI (by decide)) (by decide)
      by_cases al9 : (gTake tk pl 59 σ6).2.2.1 ≠ 0
      · exact fin c9 0 (off_asserted (Or.inr (s6.dead al9))) Eb.rfl (fun z => absurd z al9)
      · have al9 := Classical.not_not.mp al9
        cases h3 : μ with
        | some fp =>
          subst h3
          have o := qO.1 fp rfl
          exact fin c9 0 (off_asserted (o.mono e79 (by decide)).off) Eb.rfl (fun _ _ _ => Mr.off (fp := fp) (up o) (fun q z => (by cases z; rfl)) (fun z => (by cases z)))
        | none =>
          subst h3
          obtain ⟨q, v1, v2, v3⟩ := qO.2 rfl
          have un : σ.1 + 2 < nt → dAssert tk pl vl wi wd nt N0 σ.1 A = match dX tk pl vl wi wd nt N0 A (σ.1 + 2) with
              | none => none
              | some (.inl f) => some (.inl f)
              | some (.inr (w, t1, L, C)) => dok (t1 + 2) (dAss A L (C + w)) := fun tn => by
            unfold dAssert
            rw [if_neg (by omega)]
            rfl
          cases q with
          | inl fp =>
            have o := v2 fp.1 fp.2 rfl
            exact fin c9 0 (off_asserted (o.mono e79 (by decide)).off) Eb.rfl (fun _ _ tn => Mr.off (fp := fp) (up o) (fun q z => (by cases z)) (fun _ => by rw [un (by omega), show dX tk pl vl wi wd nt N0 A (σ.1 + 2) = some (.inl fp) from v1 (by omega)]))
          | inr q =>
            obtain ⟨w, t', L, C2⟩ := q
            obtain ⟨x1, x2, x4, x5, x6, x7, x8, x9, x10, x11⟩ := v3 _ _ _ _ rfl
            have ho := hs.2 rfl
            have cnt := ho.p1.1
            have tn0 := hG.2.1
            have X9 := x2.mono e79 (by decide) (s6.alive al9)
            have D9 := x10.keep (c' := c9) (sz' := sz) e79 (by decide) (by decide) (fun k _ => by rw [e79.2 336 (by decide)]) (Nat.le_refl _)
            obtain ⟨c10, n1, n2, n3, n4, n5, n6, n7, n8⟩ := asserted_C (N := N) (n := A.1 45 0) (a := sz) X9 (by rw [e79.1 238 (by decide)]; exact x4) x6 (by rw [e79.1 240 (by decide)]; exact x11) D9.1.2.2.2.1 (by omega)
            refine fin c10 (sz + L.length) n1 n8 (fun _ u tn => ?_)
            have dx : dX tk pl vl wi wd nt N0 A (σ.1 + 2) = some (.inr (w, t', L, C2)) := v1 (by omega)
            have un' := un (by omega)
            rw [dx] at un'
            dsimp only at un'
            have x9' : cEnc (c10.2 336) (A.1 21 (A.1 46 0)) lit lc sz L := by rw [n3, e79.2 336 (by decide)]; exact x9
            have D10 := DC.asr (C2 := C2 + w) D9 x9' n8 n3 n4 n5 n6 n7
            have wo := dAssert_wo (N := N0) (pl := pl) (vl := vl) (wi := wi) (wd := wd) ho.p1 (t' + 2) (dAss A L (C2 + w)) un'
            have c7n : ∀ j, j ∈ [248, 253, 260] → (upI c10 264 (fun _ => 2)).1 j = c.1 j := fun j hj => by
              simp only [List.mem_cons, List.not_mem_nil, or_false] at hj
              rcases hj with rfl | rfl | rfl
              · show c10.1 248 = _
                rw [n8.1 _ (by decide), e79.1 _ (by decide), q4.1 _ (by decide), j2.1 _ (by decide), e12.1 _ (by decide)]
              · show c10.1 253 = _
                rw [n8.1 _ (by decide), e79.1 _ (by decide), q4.1 _ (by decide), j2.1 _ (by decide), e12.1 _ (by decide)]
              · show c10.1 260 = _
                rw [n8.1 _ (by decide), e79.1 _ (by decide), q4.1 _ (by decide), j2.1 _ (by decide), e12.1 _ (by decide)]
            have x7' : σ.1 + 1 + 1 + L.length ≤ σ5.1 := x7
            have o6 := ho.2.2.2.2.2.1
            have k47 : (dAss A L (C2 + w)).1 47 0 = A.1 47 0 + (C2 + w) := by unfold dAss; simp only [tu1, tu2, uu1, uu2, uu3, vu1, vu2, vu3, su1, su2, Nat.reduceEqDiff, false_and, true_and, reduceIte, Bool.false_eq_true, if_true, if_false]
            have k41 : (dAss A L (C2 + w)).1 41 0 = A.1 41 0 := by unfold dAss; simp only [tu1, tu2, uu1, uu2, uu3, vu1, vu2, vu3, su1, su2, Nat.reduceEqDiff, false_and, true_and, reduceIte, Bool.false_eq_true, if_true, if_false]
            have k42 : (dAss A L (C2 + w)).1 42 0 = A.1 42 0 := by unfold dAss; simp only [tu1, tu2, uu1, uu2, uu3, vu1, vu2, vu3, su1, su2, Nat.reduceEqDiff, false_and, true_and, reduceIte, Bool.false_eq_true, if_true, if_false]
            have k44 : (dAss A L (C2 + w)).1 44 0 = A.1 44 0 := by unfold dAss; simp only [tu1, tu2, uu1, uu2, uu3, vu1, vu2, vu3, su1, su2, Nat.reduceEqDiff, false_and, true_and, reduceIte, Bool.false_eq_true, if_true, if_false]
            have k5 : ∀ d, (dAss A L (C2 + w)).1 5 d = A.1 5 d := fun d => by unfold dAss; simp only [tu1, tu2, uu1, uu2, uu3, vu1, vu2, vu3, su1, su2, Nat.reduceEqDiff, false_and, true_and, reduceIte, Bool.false_eq_true, if_true, if_false]
            refine ⟨fun q y => (by cases y), fun _ => ⟨.inr (t' + 2, dAss A L (C2 + w)), un', fun _ _ y => (by cases y), fun t2 A2 y => ?_⟩⟩
            cases y
            have ek : Eb [264] [] c10 (upI c10 264 (fun _ => 2)) := Eb.rfl.upI (by decide)
            refine ⟨by rw [x1], ⟨0, ?_⟩, ?_, by rw [c7n 248 (by decide)]; exact ho.2.2.1, by rw [c7n 253 (by decide), k44]; exact ho.2.2.2.1, fun d => by rw [k5]; exact ho.2.2.2.2.1 d, by omega, by rw [c7n 260 (by decide)]; exact ho.2.2.2.2.2.2.1, wo.1⟩
            · rw [k47, ← Nat.add_assoc]
              exact n2
            · rw [k41, k42]
              exact D10.keep (sz' := sz + L.length) ek (by decide) (by decide) (fun _ _ => rfl) (Nat.le_refl _)
  · obtain ⟨c6, j1, j2, j3⟩ := expFor_dead (N := N) (x := 145) b2 al
    rw [j1, obind] at hmv
    rw [show gE tk pl N1 (gOpen tk pl 40 (gInc σ)) = some _ from gE_dead2 al (by omega) (by omega), obind, gShut_dead al, obind, gTake_dead al]
    exact ⟨_, rfl, Or.inl ⟨al, by omega, 1, c6, Rc.one (hG.alive h0) (by rw [h2]; decide) hmv, by omega, j2⟩⟩
end CAST
