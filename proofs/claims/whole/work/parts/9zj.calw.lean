/-! The class: always. -/
section CALW
variable {tk pl vl wi wd : Nat → Nat} {nt nw N N0 N1 lc : Nat} {ex : Nat → Int32} {lit : Nat → Int64} {c c' c0 : ms} {A : ds} {t sz C I K : Nat} {σ σ' : gs} {μ : Option (Nat × Nat)}
theorem off_always (h : OffC c) : fn_Meaning_always_Me N c = some ((), c) := by unfold fn_Meaning_always_Me; rw [off_go h]; rfl
theorem off_alwaysEnd (h : OffC c) : fn_Meaning_alwaysEnd_Me N c = some ((), c) := by unfold fn_Meaning_alwaysEnd_Me; rw [off_go h]; rfl
theorem always_C {T n : Nat} (X : Xc c T sz C) (h : c.1 253 0 = nI n) : ∃ c', fn_Meaning_always_Me N c = some ((), c') ∧ c'.1 253 0 = nI (n + 1) ∧ c'.1 254 0 = nI sz ∧ c'.1 255 0 = 0 ∧ Eb [253, 254, 255] [] c c' := by
  unfold fn_Meaning_always_Me
  rw [on_go X]
  dsimp only
  rw [if_pos rfl, h, nI_1, X.2.2.2.2.1]
  exact ⟨_, rfl, rfl, rfl, rfl, ((Eb.rfl.upI (by decide)).upI (by decide)).upI (by decide)⟩
theorem alwaysEnd_C {T n a sz' C' : Nat} {b : Bool} (X : Xc c T sz' C') (h254 : c.1 254 0 = nI a) (ha : a ≤ sz') (h255 : c.1 255 0 = if b = true then 1 else 0) (h317 : c.1 317 0 = nI n) (hn : n < 6554) : ∃ c', fn_Meaning_alwaysEnd_Me N c = some ((), c') ∧ Eb [317, 318, 319, 320, 337] [] c c' ∧ Xc c' T (if b = true then sz' else a) C' ∧ (b = true → c'.1 318 = upd (c.1 318) n (nI a) ∧ c'.1 319 = upd (c.1 319) n (nI sz') ∧ c'.1 320 = upd (c.1 320) n (nI 0) ∧ c'.1 317 0 = nI (n + 1)) ∧ (b = false → c'.1 318 = c.1 318 ∧ c'.1 319 = c.1 319 ∧ c'.1 320 = c.1 320 ∧ c'.1 317 0 = c.1 317 0) := by
  unfold fn_Meaning_alwaysEnd_Me
  rw [on_go X]
  dsimp only
  rw [if_pos rfl, h255, h254]
  cases b with
  | true =>
    rw [if_neg (show ¬ (if true = true then (1 : Int32) else 0) = 0 by decide), show fn_Design_addPiece_Ds N 0 (nI a) c = _ from addPiece_C (v := 0) (Or.inl rfl) h317 hn, obind]
    refine ⟨_, rfl, (((Eb.rfl.upI (by decide)).upI (by decide)).upI (by decide)).upI (by decide), X, fun _ => ⟨rfl, ?_, rfl, rfl⟩, fun z => (by cases z)⟩
    show upd (c.1 319) n (c.1 337 0) = _
    rw [X.2.2.2.2.1]
  | false =>
    rw [if_pos (show (if false = true then (1 : Int32) else 0) = 0 from rfl)]
    obtain ⟨x1, x2, x3, x4, x5, x6, x7⟩ := X
    refine ⟨_, rfl, Eb.rfl.upI (by decide), ⟨x1, x2, x3, x4, rfl, ?_, x7⟩, fun z => (by cases z), fun _ => ⟨rfl, rfl, rfl, rfl⟩⟩
    show a < 40000
    omega
theorem DC.alw {S' : Nat → Nat} {D : DT} {CC sz' : Nat} {b : Bool} (H : DC pl wd nw lit lc A I K sz c) (e : Eb [213, 214, 215, 216, 217, 218, 219, 238, 239, 240, 241, 242, 243, 249, 250, 251, 255, 256, 257, 258, 259, 260, 264, 265, 266, 268, 269, 270, 271, 272, 273, 274, 275, 317, 318, 319, 320, 326, 337] [336] c c') (hr : ∀ k, k < sz → c'.2 336 k = c.2 336 k) (g1 : ∀ d, d < A.1 40 0 → dRg A d = true → c'.1 326 d = if S' d = 0 then -1 else nI (S' d)) (g2 : ∀ d, d < A.1 40 0 → dDrv A d = true → c'.1 326 d = c.1 326 d) (hs : sz ≤ sz') (hE : Cg (c'.2 336) (A.1 21 (A.1 46 0)) lit lc (fun d => A.1 21 (A.1 46 0) ≤ d ∧ d < A.1 40 0) 0 sz sz' D)
    (y1 : b = true → c'.1 318 = upd (c.1 318) (A.1 45 0) (nI sz) ∧ c'.1 319 = upd (c.1 319) (A.1 45 0) (nI sz') ∧ c'.1 320 = upd (c.1 320) (A.1 45 0) (nI 0) ∧ c'.1 317 0 = nI (A.1 45 0 + 1)) (y2 : b = false → c'.1 318 = c.1 318 ∧ c'.1 319 = c.1 319 ∧ c'.1 320 = c.1 320 ∧ c'.1 317 0 = c.1 317 0) : DC pl wd nw lit lc (dAlw A S' b D CC) I K (if b = true then sz' else sz) c' := by
  obtain ⟨u1, u2, u3, u4, u5, u6, u7, u8, u9⟩ := H
  have le : sz ≤ if b = true then sz' else sz := by split <;> omega
  have k2 := u2.keep (c' := c') e (by decide) (by decide)
  have k4 := u4.keep (c' := c') e (by decide)
  have k5 := u5.keep (c' := c') e (by decide) hr le
  have k7 := u7.keep (c' := c') e (by decide)
  have k8 := u8.keep (c' := c') e (by decide)
  have k9 := u9.keep (c' := c') e (by decide)
  have k3 : ∀ d, d < A.1 40 0 → (dDrv A d = true → (A.1 4 d = 0 → c'.1 326 d = -1) ∧ (A.1 4 d = 1 → CLr c' (if b = true then sz' else sz) (A.1 35 d) lit lc 326 327 d (A.2.1 0 d)) ∧ (A.1 4 d = 2 → ∃ a, a ≤ (if b = true then sz' else sz) ∧ c'.1 326 d = nI a ∧ c'.1 327 d = nI a) ∧ (A.1 4 d = 3 → ∃ a, a ≤ (if b = true then sz' else sz) ∧ c'.1 326 d = nI a)) ∧ (dRg A d = true → c'.1 326 d = if S' d = 0 then -1 else nI (S' d)) := fun d hd => by
    obtain ⟨h1, h2⟩ := u3 d hd
    refine ⟨fun z => ?_, g1 d hd⟩
    obtain ⟨x1, x2, x3, x4⟩ := h1 z
    have f := g2 d hd z
    refine ⟨fun y => by rw [f]; exact x1 y, fun y => (x2 y).keep f (by rw [e.1 327 (by decide)]) hr le, fun y => ?_, fun y => ?_⟩
    · obtain ⟨a, a1, a2, a3⟩ := x3 y
      exact ⟨a, by omega, by rw [f]; exact a2, by rw [e.1 327 (by decide)]; exact a3⟩
    · obtain ⟨a, a1, a2⟩ := x4 y
      exact ⟨a, by omega, by rw [f]; exact a2⟩
  have old : ∀ p, p < A.1 45 0 → c.1 320 p = nI (A.1 15 p) ∧ A.1 15 p ≤ 1 ∧ ∃ a b, c.1 318 p = nI a ∧ c.1 319 p = nI b ∧ a ≤ b ∧ b ≤ sz ∧ (A.1 15 p = 1 → b = a + (A.2.1 2 (A.1 16 p)).length ∧ cEnc (c'.2 336) (A.1 38 (A.1 16 p)) lit lc a (A.2.1 2 (A.1 16 p)) ∧ A.1 16 p < A.1 43 0) ∧ (A.1 15 p = 0 → Cg (c'.2 336) (A.1 34 (A.1 16 p)) lit lc (fun d => A.1 34 (A.1 16 p) ≤ d ∧ d < A.1 33 (A.1 16 p)) 0 a b (A.2.2 (A.1 16 p)) ∧ A.1 16 p < A.1 44 0) := fun p hp => by
    obtain ⟨h1, h2, a, b, h3, h4, h5, h6, h7, h8⟩ := u6 p hp
    exact ⟨h1, h2, a, b, h3, h4, h5, h6, fun z => ⟨(h7 z).1, (h7 z).2.1.mono (fun k hk => hr k (by have := (h7 z).1; omega)), (h7 z).2.2⟩, fun z => ⟨(h8 z).1.mono (fun k k1 k2 => hr k (by omega)), (h8 z).2⟩⟩
  cases b with
  | true =>
    obtain ⟨v1, v2, v3, v4⟩ := y1 rfl
    unfold dAlw
    rw [if_pos rfl, if_pos rfl]
    rw [if_pos rfl] at k5
    simp only [if_true] at k3
    refine ⟨?_, ?_, ?_, ?_, ?_, fun p hp => ?_, ?_, ?_, ?_⟩
    · unfold Ck at *
      rw [e.1 321 (by decide), e.1 328 (by decide), e.1 332 (by decide), e.1 233 (by decide), e.1 309 (by decide), v4]
      simp only [tu1, tu2, uu1, uu2, uu3, vu1, vu2, vu3, su1, su2, Nat.reduceEqDiff, false_and, true_and, reduceIte, Bool.false_eq_true, if_true, if_false]
      exact ⟨u1.1, u1.2.1, u1.2.2.1, u1.2.2.2.2⟩
    · unfold Cnm at *
      simp only [tu1, tu2, uu1, uu2, uu3, vu1, vu2, vu3, su1, su2, Nat.reduceEqDiff, false_and, true_and, reduceIte, Bool.false_eq_true, if_true, if_false]
      exact k2
    · unfold Cdr dDrv dRg at *
      simp only [tu1, tu2, uu1, uu2, uu3, vu1, vu2, vu3, su1, su2, Nat.reduceEqDiff, false_and, true_and, reduceIte, Bool.false_eq_true, if_true, if_false]
      exact k3
    · unfold Cit at *
      simp only [tu1, tu2, uu1, uu2, uu3, vu1, vu2, vu3, su1, su2, Nat.reduceEqDiff, false_and, true_and, reduceIte, Bool.false_eq_true, if_true, if_false]
      exact k4
    · unfold Clk at *
      simp only [tu1, tu2, uu1, uu2, uu3, vu1, vu2, vu3, su1, su2, Nat.reduceEqDiff, false_and, true_and, reduceIte, Bool.false_eq_true, if_true, if_false]
      exact k5
    · simp only [tu1, tu2, uu1, uu2, uu3, vu1, vu2, vu3, su1, su2, Nat.reduceEqDiff, false_and, true_and, reduceIte, Bool.false_eq_true, if_true, if_false] at hp
      rw [v1, v2, v3]
      by_cases z : p = A.1 45 0
      · subst z
        simp only [tu1, tu2, uu1, uu2, uu3, vu1, vu2, vu3, su1, su2, Nat.reduceEqDiff, false_and, true_and, reduceIte, Bool.false_eq_true, if_true, if_false]
        rw [upd_at, upd_at, upd_at]
        exact ⟨rfl, Nat.zero_le _, sz, sz', rfl, rfl, hs, Nat.le_refl _, fun y => (nomatch y), fun _ => ⟨hE, by omega⟩⟩
      · obtain ⟨h1, h2, a, b, h3, h4, h5, h6, h7, h8⟩ := old p (by omega)
        simp only [z, tu1, tu2, uu1, uu2, uu3, vu1, vu2, vu3, su1, su2, Nat.reduceEqDiff, false_and, true_and, reduceIte, Bool.false_eq_true, if_true, if_false]
        rw [upd_ne z, upd_ne z, upd_ne z]
        refine ⟨h1, h2, a, b, h3, h4, h5, by omega, h7, fun y => ?_⟩
        obtain ⟨i1, i2⟩ := h8 y
        have ne : ¬ A.1 16 p = A.1 44 0 := by omega
        simp only [ne, reduceIte]
        exact ⟨i1, by omega⟩
    · unfold Cmo at *
      simp only [tu1, tu2, uu1, uu2, uu3, vu1, vu2, vu3, su1, su2, Nat.reduceEqDiff, false_and, true_and, reduceIte, Bool.false_eq_true, if_true, if_false]
      exact k7
    · unfold Wr at *
      simp only [tu1, tu2, uu1, uu2, uu3, vu1, vu2, vu3, su1, su2, Nat.reduceEqDiff, false_and, true_and, reduceIte, Bool.false_eq_true, if_true, if_false]
      exact k8
    · unfold Wm at *
      simp only [tu1, tu2, uu1, uu2, uu3, vu1, vu2, vu3, su1, su2, Nat.reduceEqDiff, false_and, true_and, reduceIte, Bool.false_eq_true, if_true, if_false]
      exact k9
  | false =>
    obtain ⟨v1, v2, v3, v4⟩ := y2 rfl
    unfold dAlw
    rw [if_neg (by decide), if_neg (by decide)]
    rw [if_neg (by decide)] at k5
    simp only [if_false, Bool.false_eq_true] at k3
    refine ⟨?_, ?_, ?_, ?_, ?_, fun p hp => ?_, ?_, ?_, ?_⟩
    · unfold Ck at *
      rw [e.1 321 (by decide), e.1 328 (by decide), e.1 332 (by decide), e.1 233 (by decide), e.1 309 (by decide), v4]
      simp only [tu1, tu2, uu1, uu2, uu3, vu1, vu2, vu3, su1, su2, Nat.reduceEqDiff, false_and, true_and, reduceIte, Bool.false_eq_true, if_true, if_false]
      exact u1
    · unfold Cnm at *
      simp only [tu1, tu2, uu1, uu2, uu3, vu1, vu2, vu3, su1, su2, Nat.reduceEqDiff, false_and, true_and, reduceIte, Bool.false_eq_true, if_true, if_false]
      exact k2
    · unfold Cdr dDrv dRg at *
      simp only [tu1, tu2, uu1, uu2, uu3, vu1, vu2, vu3, su1, su2, Nat.reduceEqDiff, false_and, true_and, reduceIte, Bool.false_eq_true, if_true, if_false]
      exact k3
    · unfold Cit at *
      simp only [tu1, tu2, uu1, uu2, uu3, vu1, vu2, vu3, su1, su2, Nat.reduceEqDiff, false_and, true_and, reduceIte, Bool.false_eq_true, if_true, if_false]
      exact k4
    · unfold Clk at *
      simp only [tu1, tu2, uu1, uu2, uu3, vu1, vu2, vu3, su1, su2, Nat.reduceEqDiff, false_and, true_and, reduceIte, Bool.false_eq_true, if_true, if_false]
      exact k5
    · simp only [tu1, tu2, uu1, uu2, uu3, vu1, vu2, vu3, su1, su2, Nat.reduceEqDiff, false_and, true_and, reduceIte, Bool.false_eq_true, if_true, if_false] at hp
      rw [v1, v2, v3]
      obtain ⟨h1, h2, a, b, h3, h4, h5, h6, h7, h8⟩ := old p hp
      simp only [tu1, tu2, uu1, uu2, uu3, vu1, vu2, vu3, su1, su2, Nat.reduceEqDiff, false_and, true_and, reduceIte, Bool.false_eq_true, if_true, if_false]
      refine ⟨h1, h2, a, b, h3, h4, h5, h6, h7, fun y => ?_⟩
      obtain ⟨i1, i2⟩ := h8 y
      have ne : ¬ A.1 16 p = A.1 44 0 := by omega
      simp only [ne, reduceIte]
      exact ⟨i1, by omega⟩
    · unfold Cmo at *
      simp only [tu1, tu2, uu1, uu2, uu3, vu1, vu2, vu3, su1, su2, Nat.reduceEqDiff, false_and, true_and, reduceIte, Bool.false_eq_true, if_true, if_false]
      exact k7
    · unfold Wr at *
      simp only [tu1, tu2, uu1, uu2, uu3, vu1, vu2, vu3, su1, su2, Nat.reduceEqDiff, false_and, true_and, reduceIte, Bool.false_eq_true, if_true, if_false]
      exact k8
    · unfold Wm at *
      simp only [tu1, tu2, uu1, uu2, uu3, vu1, vu2, vu3, su1, su2, Nat.reduceEqDiff, false_and, true_and, reduceIte, Bool.false_eq_true, if_true, if_false]
      exact k9
theorem it_always (T' : Tv tk pl nt) (hV : Vb tk vl wi) (hN : 40000 < N) (hN1 : 12002 < N1) (hN0 : 12002 < N0) (hK : KS tk pl vl wi wd nt ex nw lit lc c) (h0 : σ.2.2.1 = 0) (h2 : c.1 264 0 = 2) (h271 : c.1 271 0 = nI 0) (hG : CG tk pl nt ex c σ) (hkk : tk σ.1 = 307) (hs : Md tk pl wd nt nw lit lc A σ.1 sz c μ) :
    ∃ σ', ((gShut tk pl 41 (gTake tk pl 309 (gTake tk pl 308 (gOpen tk pl 40 (gTake tk pl 64 (gInc σ)))))).bind (gS tk pl N1)) = some σ' ∧ (DeadS 4 tk pl nt ex N c σ σ' ∨ ItPost tk pl wd nt nw ex N lit lc c σ σ' μ (dAlways tk pl vl wi wd nt N0 σ.1 A)) := by
  have hnt := T'.2.1
  have t1n := T'.more hG.2.1 hkk (by omega) (by omega)
  have d60 : σ.2.1 ≤ 60 := (hG.2.2.2.1 h0).2.2.2.2.2.2
  obtain ⟨c1, a1, a2, a3⟩ := ktake (N := N) T' hG (fun _ => t1n)
  rw [if_pos h0] at a2
  obtain ⟨c2, b1, b2, b3⟩ := kneed (N := N) T' 64 (by decide) a2
  obtain ⟨c3, d1, d2, d3⟩ := kopen (N := N) T' 40 (by decide) b2
  obtain ⟨c4, f1, f2, f3⟩ := kneed (N := N) T' 308 (by decide) d2
  obtain ⟨c5, i1, i2, i3⟩ := kneed (N := N) T' 309 (by decide) f2
  have alv : (gTake tk pl 309 (gTake tk pl 308 (gOpen tk pl 40 (gTake tk pl 64 (gInc σ))))).2.2.1 = 0 → gTake tk pl 309 (gTake tk pl 308 (gOpen tk pl 40 (gTake tk pl 64 (gInc σ)))) = (σ.1 + 5, σ.2.1 + 1, σ.2.2) := by
    intro z
    obtain ⟨x1, -, x3⟩ := gTake_al z
    obtain ⟨y1, -, y3⟩ := gTake_al x1
    obtain ⟨z1, -, -, z3⟩ := gOpen_al y1
    obtain ⟨-, -, w3⟩ := gTake_al z1
    rw [x3, y3, z3, w3]
    rfl
  have le : σ.1 + 1 ≤ (gTake tk pl 309 (gTake tk pl 308 (gOpen tk pl 40 (gTake tk pl 64 (gInc σ))))).1 := by
    have l1 := gTake_le (tk := tk) (pl := pl) (k := 64) (σ := gInc σ)
    have l2 := gOpen_le (tk := tk) (pl := pl) (k := 40) (σ := gTake tk pl 64 (gInc σ))
    have l3 := gTake_le (tk := tk) (pl := pl) (k := 308) (σ := gOpen tk pl 40 (gTake tk pl 64 (gInc σ)))
    have l4 := gTake_le (tk := tk) (pl := pl) (k := 309) (σ := gTake tk pl 308 (gOpen tk pl 40 (gTake tk pl 64 (gInc σ))))
    have l0 : (gInc σ).1 = σ.1 + 1 := rfl
    omega
  generalize gTake tk pl 309 (gTake tk pl 308 (gOpen tk pl 40 (gTake tk pl 64 (gInc σ)))) = ρ at *
  obtain ⟨ρ', s1⟩ := gShut_ex (tk := tk) (pl := pl) (k := 41) (σ := ρ) (fun z => by rw [alv z]; show 0 < σ.2.1 + 1; omega)
  obtain ⟨c6, s2, s3, s4⟩ := kshut (N := N) T' 41 (by decide) i2 s1
  have e6 : F7 c c6 := ((((a3.trans b3).trans d3).trans f3).trans i3).trans s4
  have le' := gShut_le s1
  rw [s1, obind]
  have hmv : mv N c = (fn_Meaning_always_Me N c6).bind (fun q_13 => some ((), upI q_13.2 264 (fun _ => 4))) := by
    rw [mv2 h2]
    unfold fn_Grammar_item_Gr fn_Grammar_always_Gr
    rw [if_neg (show ¬ c.1 214 0 = 2 from kneg (k := 400) T' hG (by decide) (fun _ => by omega)), if_neg (show ¬ c.1 214 0 = 129 from kneg (k := 301) T' hG (by decide) (fun _ => by omega)), if_neg (show ¬ c.1 214 0 = 132 from kneg (k := 304) T' hG (by decide) (fun _ => by omega)), if_neg (show ¬ c.1 214 0 = 133 from kneg (k := 305) T' hG (by decide) (fun _ => by omega)), if_neg (show ¬ c.1 214 0 = 134 from kneg (k := 306) T' hG (by decide) (fun _ => by omega)), if_pos (show c.1 214 0 = 135 from kpos (k := 307) hG h0 hkk), a1, obind]
    dsimp only
    rw [show fn_Tokens_need_Tk N 64 c1 = some ((), c2) from b1, obind]
    dsimp only
    rw [show fn_Tokens_open_Tk N 40 c2 = some ((), c3) from d1, obind]
    dsimp only
    rw [show fn_Tokens_need_Tk N 136 c3 = some ((), c4) from f1, obind]
    dsimp only
    rw [show fn_Tokens_need_Tk N 137 c4 = some ((), c5) from i1, obind]
    dsimp only
    rw [show fn_Tokens_shut_Tk N 41 c5 = some ((), c6) from s2, obind]
    dsimp only
    cases fn_Meaning_always_Me N c6 <;> rfl
  by_cases al : ρ'.2.2.1 ≠ 0
  · rw [off_always (Or.inr (s3.dead al)), obind] at hmv
    have G7 : CG tk pl nt ex (upI c6 264 (fun _ => 4)) ρ' := s3.upI (by decide)
    exact ⟨ρ', gT_dead al (by omega) (by decide), Or.inl ⟨al, by omega, 1, _, Rc.one (hG.alive h0) (by rw [h2]; decide) hmv, by omega, G7⟩⟩
  · have al := Classical.not_not.mp al
    obtain ⟨g1, -, -, g4⟩ := gShut_al s1 al
    rw [alv g1] at g4
    have g4' : ρ' = (σ.1 + 6, σ.2.1, σ.2.2) := g4
    subst g4'
    have t6n : σ.1 + 6 < nt := s3.2.1
    have al6 : c6.1 217 0 = nI 0 := s3.alive h0
    have K6 : KS tk pl vl wi wd nt ex nw lit lc c6 := hK.keep e6 (by decide) (by decide)
    have hs6 := hs.keep (t' := σ.1 + 6) e6 (by decide) (by decide) (by decide) al6 (by omega)
    have h271' : c6.1 271 0 = nI 0 := by rw [e6.1 271 (by decide)]; exact h271
    -- the last move, behind the statement
    have fin : ∀ (σ' : gs) (c7 c8 : ms) k, Rc N k c c7 → k + 2 ≤ 3 * (σ'.1 - σ.1) → c7.1 264 0 = 5 → KP c c7 → CG tk pl nt ex c7 σ' → σ'.2.2.1 = 0 → σ'.2.1 = σ.2.1 → σ.1 + 6 < σ'.1 → c7.1 271 0 = nI 0 → fn_Meaning_alwaysEnd_Me N c7 = some ((), c8) → Eb [317, 318, 319, 320, 337] [] c7 c8 → (∃ sz', Mr tk pl wd nt nw lit lc μ (dAlways tk pl vl wi wd nt N0 σ.1 A) σ'.1 sz' (upI c8 264 (fun _ => 2))) → ItPost tk pl wd nt nw ex N lit lc c σ σ' μ (dAlways tk pl vl wi wd nt N0 σ.1 A) := by
      intro σ' c7 c8 k r1 r2 r3 r4 r5 r6 r7 r8 r9 r10 r11 ⟨sz', r12⟩
      have hm : mv N c7 = some ((), upI c8 264 (fun _ => 2)) := by
        rw [mv5 r3]
        unfold fn_Grammar_behindStatement_Gr
        rw [if_pos (show c7.1 271 0 = 0 from r9), r10, obind]
      refine ⟨k + 1, _, sz', r1.trans (Rc.one (r5.alive r6) (by rw [r3]; decide) hm), by omega, rfl, (r4.trans (r11.mono (by decide) (by decide))).upI (by decide), (r5.mono r11 (fun k _ _ => by simp; omega) (by decide)).upI (by decide), r6, r7, by omega, ?_, r12⟩
      show c8.1 271 0 = nI 0
      rw [r11.1 271 (by decide)]
      exact r9
    have up : ∀ {f p : Nat} {c7 : ms}, OffN nw c7 f p → OffN nw (upI c7 264 (fun _ => 2)) f p := fun o => o.mono (ks := [264]) (js := []) (Eb.rfl.upI (by decide)) (by decide)
    have ss : ∀ (rg : Nat → Bool) (nm : Nat → Option (Nat × Nat)) (fd an dc : Nat) (P : Nat → Prop) (c7 : ms) (S : Nat → Nat), CG tk pl nt ex c7 (σ.1 + 6, σ.2.1, σ.2.2) → Rc N 1 c c7 → c7.1 264 0 = 4 → c7.1 271 0 = nI 0 → CQ tk pl vl wi nm nt ex N N0 N1 fd lit lc rg an dc P c7 → StS rg (c7.1 326) dc c7 μ sz (A.1 47 0) 0 (σ.1 + 6) S → (∀ σ' k c8, Rc N (k + 1) c c8 → k + 3 ≤ 3 * (σ'.1 - (σ.1 + 6)) → c8.1 264 0 = 5 → CE2 c7 c8 → CG tk pl nt ex c8 σ' → σ'.2.2.1 = 0 → σ'.2.1 = σ.2.1 → σ.1 + 6 < σ'.1 → c8.1 271 0 = nI 0 → OutS 2 rg (c7.1 326) dc fd lit lc P c7 c8 μ sz (A.1 47 0) 0 σ.2.1 (σ.1 + 6) σ'.1 ((sT tk pl vl wi nm nt rg N0 an 399).1 (σ.1 + 6) S) → ItPost tk pl wd nt nw ex N lit lc c σ σ' μ (dAlways tk pl vl wi wd nt N0 σ.1 A)) → ∃ σ', gS tk pl N1 (σ.1 + 6, σ.2.1, σ.2.2) = some σ' ∧ (DeadS 4 tk pl nt ex N c σ σ' ∨ ItPost tk pl wd nt nw ex N lit lc c σ σ' μ (dAlways tk pl vl wi wd nt N0 σ.1 A)) := by
      intro rg nm fd an dc P c7 S m1 m2 m3 m4 m5 m6 m7
      obtain ⟨σ', n1, n2⟩ := stm_C (fz := c7.1 326) m5 (61 - σ.2.1) 400 399 c7 (σ.1 + 6, σ.2.1, σ.2.2) 0 0 μ sz (A.1 47 0) S (by omega) (by omega) (by show σ.2.1 + (61 - σ.2.1) = 61; omega) h0 Eb.rfl m1 m3 m4 (Nat.zero_le _) (fun _ => Nat.le_refl _) m6
      refine ⟨σ', n1, n2.imp (fun z => z.after m2 (by show 1 + 4 ≤ 4 * (σ.1 + 6 - σ.1) + 4; omega) (by show σ.1 ≤ σ.1 + 6; omega)) (fun ⟨k, c8, q1, q2, q3, q4, q5, q6, q7, q8, q9, q10, q11⟩ => ?_)⟩
      exact m7 σ' k c8 (by rw [Nat.add_comm]; exact m2.trans q1) q2 q3 q4 q5 q6 q7 q8 q9 q11
    cases h3 : μ with
    | some fp =>
      subst h3
      have o := hs6.1 fp rfl
      rw [off_always o.off, obind] at hmv
      have ek : Eb [264] [] c6 (upI c6 264 (fun _ => 4)) := Eb.rfl.upI (by decide)
      have K7 : KS tk pl vl wi wd nt ex nw lit lc (upI c6 264 (fun _ => 4)) := K6.keep ek (by decide) (by decide)
      have o7 : OffN nw (upI c6 264 (fun _ => 4)) fp.1 fp.2 := o.mono ek (by decide)
      have G7 : CG tk pl nt ex (upI c6 264 (fun _ => 4)) (σ.1 + 6, σ.2.1, σ.2.2) := s3.upI (by decide)
      have e7 : KP c (upI c6 264 (fun _ => 4)) := (F7.toKP e6).upI (by decide)
      have h7 : (upI c6 264 (fun _ => 4)).1 264 0 = 4 := rfl
      have h271'' : (upI c6 264 (fun _ => 4)).1 271 0 = nI 0 := h271'
      generalize upI c6 264 (fun _ => 4) = c7 at *
      have r1 : Rc N 1 c c7 := Rc.one (hG.alive h0) (by rw [h2]; decide) hmv
      obtain ⟨nm, fd, dc, u1, u2, u3, u4, u5⟩ := CS_no (N := N) K7 o7.2
      refine ss (fun d => decide (d ≠ 99999 ∧ c7.1 324 d = 2)) nm fd 0 dc (fun _ => True) c7 (fun _ => 0) G7 r1 h7 h271'' ⟨T', hN, hN1, hN0, u5, fun i hi => (hV i).2 hi, fun i q hq => ⟨(u4 i q hq).1, trivial, (u4 i q hq).2.1, (u4 i q hq).2.2, ?_⟩, u2, u3, fun z => ?_⟩ ⟨fun q z => (by cases z; exact o7.1), fun z => (by cases z)⟩ (fun σ' k c8 p1 p2 p3 p4 p5 p6 p7 p8 p9 p10 => ?_)
      · rw [decide_eq_true_iff]
        exact ⟨fun z => z.2, fun z => ⟨by have := (u4 i q hq).1; omega, z⟩⟩
      · rw [decide_eq_true_iff] at z
        exact absurd rfl z.1
      · have o8 : OffN nw c8 fp.1 fp.2 := ⟨p10.1 fp rfl, o7.2.keep p4 (by decide)⟩
        exact fin σ' c8 c8 (k + 1) p1 (by omega) p3 (e7.trans (p4.mono (by decide) (by decide))) p5 p6 p7 p8 p9 (off_alwaysEnd o8.off) Eb.rfl ⟨0, Mr.off (fp := fp) (up o8) (fun q z => (by cases z; rfl)) (fun z => (by cases z))⟩
    | none =>
      subst h3
      obtain ⟨⟨T, X⟩, o2, o3, o4, o5, o6, o7, o8⟩ := hs6.2 rfl
      have cnt := o8.1
      obtain ⟨c9, m1, m2, m3, m4, m5⟩ := always_C (N := N) X o4
      rw [m1, obind] at hmv
      have ek : Eb [253, 254, 255, 264] [] c6 (upI c9 264 (fun _ => 4)) := (m5.mono (by decide) (by decide)).upI (by decide)
      have K7 : KS tk pl vl wi wd nt ex nw lit lc (upI c9 264 (fun _ => 4)) := K6.keep ek (by decide) (by decide)
      have D7 : DC pl wd nw lit lc A (A.1 41 0) (A.1 42 0) sz (upI c9 264 (fun _ => 4)) := o2.keep ek (by decide) (by decide) (fun k _ => by rw [ek.2 336 (by decide)]) (Nat.le_refl _)
      have X7 : Xc (upI c9 264 (fun _ => 4)) T sz (A.1 47 0) := X.mono ek (by decide) (by rw [ek.1 217 (by decide)]; exact al6)
      have G7 : CG tk pl nt ex (upI c9 264 (fun _ => 4)) (σ.1 + 6, σ.2.1, σ.2.2) := s3.mono ek (fun k _ _ => by simp; omega) (by decide)
      have e7 : KP c (upI c9 264 (fun _ => 4)) := (F7.toKP e6).trans (ek.mono (by decide) (by decide))
      have h7 : (upI c9 264 (fun _ => 4)).1 264 0 = 4 := rfl
      have h271'' : (upI c9 264 (fun _ => 4)).1 271 0 = nI 0 := by rw [ek.1 271 (by decide)]; exact h271'
      have m2' : (upI c9 264 (fun _ => 4)).1 253 0 = nI (A.1 44 0 + 1) := m2
      have m3' : (upI c9 264 (fun _ => 4)).1 254 0 = nI sz := m3
      have m4' : (upI c9 264 (fun _ => 4)).1 255 0 = 0 := m4
      have f260 : (upI c9 264 (fun _ => 4)).1 260 0 = nI 0 := by rw [ek.1 260 (by decide)]; exact o7
      have f248 : (upI c9 264 (fun _ => 4)).1 248 0 = nI 1 := by rw [ek.1 248 (by decide)]; exact o3
      generalize upI c9 264 (fun _ => 4) = c7 at *
      have r1 : Rc N 1 c c7 := Rc.one (hG.alive h0) (by rw [h2]; decide) hmv
      have nf : ∀ d, d < A.1 40 0 → dRf A d = dRg A d := fun d hd => by
        have : ¬ d = 99999 := by omega
        unfold dRf
        simp only [this, decide_false, Bool.or_false]
      have nd : ∀ d, dDrv A d = true → dRg A d = false := fun d hd => by
        unfold dDrv at hd
        unfold dRg
        have := of_decide_eq_true hd
        exact decide_eq_false (by omega)
      refine ss (dRf A) (dNm wd A) (A.1 21 (A.1 46 0)) (A.1 44 0 + 1) (A.1 40 0) (fun d => A.1 21 (A.1 46 0) ≤ d ∧ d < A.1 40 0) c7 (A.1 5) G7 r1 h7 h271'' (CQ_of hN hN1 hN0 T' hV K7 o8 (by omega) D7 m2' (by omega) (by omega)) ⟨fun q z => (by cases z), fun _ => ⟨⟨T, X7⟩, o6, ⟨fun d hd hr => (D7.2.2.1 d hd).2 (by rw [← nf d hd]; exact hr), o5, ?_, fun _ _ _ => rfl⟩, f260⟩⟩ (fun σ' k c8 p1 p2 p3 p4 p5 p6 p7 p8 p9 p10 => ?_)
      · unfold dRf
        rw [decide_eq_true rfl, Bool.or_true]
      · have un : dAlways tk pl vl wi wd nt N0 σ.1 A = match (sT tk pl vl wi (dNm wd A) nt (dRf A) N0 (A.1 44 0 + 1) 399).1 (σ.1 + 6) (A.1 5) with
            | none => none
            | some (.inl f) => some (.inl f)
            | some (.inr (t1, S, b, D, C)) => if nt ≤ t1 ∨ t1 ≤ σ.1 + 6 then none else dok t1 (dAlw A S b D C) := by
          unfold dAlways
          rw [if_neg (by omega)]
          rfl
        obtain ⟨q, v1, v2, v3⟩ := p10.2 rfl
        have no8 : NO nw c8 := (D7.no hnt o8 (by omega)).keep p4 (by decide)
        have e8 := e7.trans (p4.mono (by decide) (by decide))
        cases q with
        | inl fp =>
          have o := v2 fp.1 fp.2 rfl
          rw [v1] at un
          exact fin σ' c8 c8 (k + 1) p1 (by omega) p3 e8 p5 p6 p7 p8 p9 (off_alwaysEnd o.off) Eb.rfl ⟨0, Mr.off (fp := fp) (up ⟨o, no8⟩) (fun q z => (by cases z)) (fun _ => un)⟩
        | inr q =>
          obtain ⟨t', S', b, D, CC⟩ := q
          obtain ⟨x1, sz', ⟨T8, x2⟩, x3, x4, x5, x6, x7, x8, x9, x10, x11⟩ := v3 _ _ _ _ _ rfl
          subst x1
          have tn := p5.2.1
          rw [v1] at un
          dsimp only at un
          rw [if_neg (by omega)] at un
          have r255 : c8.1 255 0 = if b = true then 1 else 0 := by
            cases b with
            | true => exact x7 rfl
            | false => rw [x8 rfl]; exact m4'
          have D8' := D7.1.2.2.2.1
          have r317 : c8.1 317 0 = nI (A.1 45 0) := by rw [p4.1 317 (by decide)]; exact D8'
          obtain ⟨c10, w1, w2, w3, w4, w5⟩ := alwaysEnd_C (N := N) (b := b) (a := sz) (n := A.1 45 0) x2 (by rw [p4.1 254 (by decide)]; exact m3') x3 r255 r317 (by omega)
          refine fin σ' c8 c10 (k + 1) p1 (by omega) p3 e8 p5 p6 p7 p8 p9 w1 w2 ⟨if b = true then sz' else sz, fun q z => (by cases z), fun _ => ⟨.inr (σ'.1, dAlw A S' b D CC), un, fun _ _ y => (by cases y), fun t2 A2 y => ?_⟩⟩
          cases y
          have e10 : Eb [213, 214, 215, 216, 217, 218, 219, 238, 239, 240, 241, 242, 243, 249, 250, 251, 255, 256, 257, 258, 259, 260, 264, 265, 266, 268, 269, 270, 271, 272, 273, 274, 275, 317, 318, 319, 320, 326, 337] [336] c7 c10 := (p4.mono (by decide) (by decide)).trans (w2.mono (by decide) (by decide))
          have D10 : DC pl wd nw lit lc (dAlw A S' b D CC) (A.1 41 0) (A.1 42 0) (if b = true then sz' else sz) c10 := by
            refine DC.alw D7 e10 (fun k hk => by rw [w2.2 336 (by decide)]; exact x9 k hk) (fun d hd hr => by rw [w2.1 326 (by decide)]; exact x5.1 d hd (by rw [nf d hd]; exact hr)) (fun d hd hr => by rw [w2.1 326 (by decide)]; exact x5.2.2.2 d hd (by rw [nf d hd]; exact nd d hr)) x3 ?_ ?_ ?_
            · rw [w2.2 336 (by decide)]
              exact x11.le (Nat.zero_le _)
            · intro z
              obtain ⟨y1, y2, y3, y4⟩ := w4 z
              rw [y1, y2, y3, y4, p4.1 318 (by decide), p4.1 319 (by decide), p4.1 320 (by decide)]
              exact ⟨rfl, rfl, rfl, rfl⟩
            · intro z
              obtain ⟨y1, y2, y3, y4⟩ := w5 z
              rw [y1, y2, y3, y4, p4.1 318 (by decide), p4.1 319 (by decide), p4.1 320 (by decide), p4.1 317 (by decide)]
              exact ⟨rfl, rfl, rfl, rfl⟩
          have wo := dAlways_wo (N := N0) (pl := pl) (vl := vl) (wi := wi) (wd := wd) (hs.2 rfl).p1 σ'.1 (dAlw A S' b D CC) un
          have k47 : (dAlw A S' b D CC).1 47 0 = A.1 47 0 + CC := by unfold dAlw; cases b <;> simp only [tu1, tu2, uu1, uu2, uu3, vu1, vu2, vu3, su1, su2, Nat.reduceEqDiff, false_and, true_and, reduceIte, Bool.false_eq_true, if_true, if_false]
          have k41 : (dAlw A S' b D CC).1 41 0 = A.1 41 0 := by unfold dAlw; cases b <;> simp only [tu1, tu2, uu1, uu2, uu3, vu1, vu2, vu3, su1, su2, Nat.reduceEqDiff, false_and, true_and, reduceIte, Bool.false_eq_true, if_true, if_false]
          have k42 : (dAlw A S' b D CC).1 42 0 = A.1 42 0 := by unfold dAlw; cases b <;> simp only [tu1, tu2, uu1, uu2, uu3, vu1, vu2, vu3, su1, su2, Nat.reduceEqDiff, false_and, true_and, reduceIte, Bool.false_eq_true, if_true, if_false]
          have k44 : (dAlw A S' b D CC).1 44 0 = A.1 44 0 + 1 := by unfold dAlw; cases b <;> simp only [tu1, tu2, uu1, uu2, uu3, vu1, vu2, vu3, su1, su2, Nat.reduceEqDiff, false_and, true_and, reduceIte, Bool.false_eq_true, if_true, if_false]
          have k5 : ∀ d, (dAlw A S' b D CC).1 5 d = S' d := fun d => by unfold dAlw; cases b <;> simp only [tu1, tu2, uu1, uu2, uu3, vu1, vu2, vu3, su1, su2, Nat.reduceEqDiff, false_and, true_and, reduceIte, Bool.false_eq_true, if_true, if_false]
          have el : Eb [264] [] c10 (upI c10 264 (fun _ => 2)) := Eb.rfl.upI (by decide)
          refine ⟨rfl, ⟨T8, ?_⟩, ?_, ?_, ?_, fun d => by rw [k5]; exact x5.2.1 d, ?_, ?_, wo.1⟩
          · rw [k47]
            exact w3
          · rw [k41, k42]
            exact D10.keep el (by decide) (by decide) (fun _ _ => rfl) (Nat.le_refl _)
          · show c10.1 248 0 = _
            rw [w2.1 248 (by decide), p4.1 248 (by decide)]
            exact f248
          · show c10.1 253 0 = _
            rw [w2.1 253 (by decide), p4.1 253 (by decide), k44]
            exact m2'
          · split <;> omega
          · show c10.1 260 0 = _
            rw [w2.1 260 (by decide)]
            exact x6
end CALW
