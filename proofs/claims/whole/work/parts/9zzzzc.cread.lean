/-! The class reads its tape. -/
abbrev CRE (c c' : ms) : Prop := Eb [200, 201, 212, 213, 214, 215, 216, 217, 218, 219, 222, 224, 225, 226, 227, 228, 232, 233, 234, 235, 236, 237, 238, 239, 240, 241, 242, 243, 248, 249, 250, 251, 252, 253, 254, 255, 256, 257, 258, 259, 260, 264, 265, 266, 267, 268, 269, 270, 271, 272, 273, 274, 275, 277, 278, 279, 280, 281, 282, 283, 284, 285, 292, 293, 294, 295, 296, 297, 298, 299, 300, 301, 302, 303, 304, 308, 309, 310, 311, 312, 313, 314, 315, 317, 318, 319, 320, 321, 322, 323, 324, 326, 327, 328, 329, 330, 331, 332, 333, 334, 335, 337, 338, 340, 600, 601, 602, 603, 604] [211, 325, 336, 339] c c'
/-- one side's tables -/
def SdE (c c' : ms) : Prop := ∀ k, (291 ≤ k ∧ k ≤ 340) ∨ (600 ≤ k ∧ k ≤ 604) → c'.1 k = c.1 k ∧ c'.2 k = c.2 k
/-- the side that stands -/
def StE (c c' : ms) : Prop := ∀ k, (341 ≤ k ∧ k ≤ 390) ∨ (610 ≤ k ∧ k ≤ 614) → c'.1 k = c.1 k ∧ c'.2 k = c.2 k
section CREAD
variable {tk pl : Nat → Nat} {nt t : Nat} {lit : Nat → Int64} {A : ds} {L : Nat → ly} {n ns N lc sz : Nat} {ord : List Nat} {c c' : ms}
theorem swN_a {k : Nat} (h : (291 ≤ k ∧ k ≤ 340) ∨ (600 ≤ k ∧ k ≤ 604)) : (341 ≤ swN k ∧ swN k ≤ 390) ∨ (610 ≤ swN k ∧ swN k ≤ 614) := by
  unfold swN
  simp only [Bool.cond_eq_ite, Bool.and_eq_true, Nat.ble_eq]
  by_cases h1 : 291 ≤ k ∧ k ≤ 340
  · rw [if_pos h1]; omega
  rw [if_neg h1, if_neg (by omega), if_neg (by omega), if_neg (by omega), if_pos (by omega)]; omega
theorem StE.sd (e : StE c c') : SdE (swS c) (swS c') := fun k h => e (swN k) (swN_a h)
theorem CTb.sd (h : CTb pl lit lc A sz c) (e : SdE c c') : CTb pl lit lc A sz c' := by
  unfold CTb Cdr Cit Clk Cpc CLr at *
  rw [(e 321 (by decide)).1, (e 328 (by decide)).1, (e 332 (by decide)).1, (e 317 (by decide)).1, (e 309 (by decide)).1, (e 322 (by decide)).1, (e 323 (by decide)).1, (e 324 (by decide)).1, (e 325 (by decide)).2, (e 326 (by decide)).1, (e 327 (by decide)).1, (e 336 (by decide)).2, (e 329 (by decide)).1, (e 330 (by decide)).1, (e 331 (by decide)).1, (e 333 (by decide)).1, (e 334 (by decide)).1, (e 335 (by decide)).1, (e 318 (by decide)).1, (e 319 (by decide)).1, (e 320 (by decide)).1, (e 311 (by decide)).1, (e 312 (by decide)).1, (e 313 (by decide)).1, (e 314 (by decide)).1, (e 315 (by decide)).1, (e 600 (by decide)).1, (e 601 (by decide)).1, (e 602 (by decide)).1, (e 603 (by decide)).1, (e 604 (by decide)).1]
  exact h
theorem Bi.sd {i : Nat} (h : Bi A L lit lc sz n i c) (e : SdE c c') : Bi A L lit lc sz n i c' := by
  unfold Bi Ri Cr1 CLr at *
  rw [(e 294 (by decide)).1, (e 295 (by decide)).1, (e 296 (by decide)).1, (e 297 (by decide)).1, (e 298 (by decide)).1, (e 299 (by decide)).1, (e 300 (by decide)).1, (e 301 (by decide)).1, (e 302 (by decide)).1, (e 336 (by decide)).2]
  exact h
theorem CSt.keepS (h : CSt pl lit lc A sz L n ns ord c) (e : StE c c') : CSt pl lit lc A sz L n ns ord c' := by
  obtain ⟨h1, h2, h3, h4, h5⟩ := h
  refine ⟨h1.sd e.sd, h2.sd e.sd, ?_, ?_, ?_⟩
  · rw [(e 342 (by decide)).1, (e 343 (by decide)).1]; exact h3
  · rw [(e 387 (by decide)).1, (e 390 (by decide)).1, (e 389 (by decide)).2]; exact h4
  · rw [(e 354 (by decide)).1, (e 353 (by decide)).1]; exact h5
theorem StE.of {ks js : List Nat} (e : Eb ks js c c') (hk : (ks ++ js).all (fun k => !(decide ((341 ≤ k ∧ k ≤ 390) ∨ (610 ≤ k ∧ k ≤ 614)))) = true) : StE c c' := by
  rw [List.all_eq_true] at hk
  have no : ∀ k, (341 ≤ k ∧ k ≤ 390) ∨ (610 ≤ k ∧ k ≤ 614) → k ∉ ks ++ js := fun k h z => by
    have := hk k z
    rw [decide_eq_true h] at this
    cases this
  exact fun k h => ⟨e.1 k (fun z => no k h (List.mem_append_left _ z)), e.2 k (fun z => no k h (List.mem_append_right _ z))⟩
theorem SdE.of {ks js : List Nat} (e : Eb ks js c c') (hk : (ks ++ js).all (fun k => !(decide ((291 ≤ k ∧ k ≤ 340) ∨ (600 ≤ k ∧ k ≤ 604)))) = true) : SdE c c' := by
  rw [List.all_eq_true] at hk
  have no : ∀ k, (291 ≤ k ∧ k ≤ 340) ∨ (600 ≤ k ∧ k ≤ 604) → k ∉ ks ++ js := fun k h z => by
    have := hk k z
    rw [decide_eq_true h] at this
    cases this
  exact fun k h => ⟨e.1 k (fun z => no k h (List.mem_append_left _ z)), e.2 k (fun z => no k h (List.mem_append_right _ z))⟩
/-- the sides exchanged -/
theorem SdE.swap {g : Nat → Int32} : SdE c (swS (upI (swS c) 208 g)) := fun k h => by
  have n8 : swN k ≠ 208 := fun z => by
    have := swN_inv k
    rw [z, show swN 208 = 208 by decide] at this
    omega
  refine ⟨?_, ?_⟩
  · show (if swN k = 208 then g else (swS c).1 (swN k)) = _
    rw [if_neg n8]
    show c.1 (swN (swN k)) = _
    rw [swN_inv]
  · show c.2 (swN (swN k)) = _
    rw [swN_inv]
theorem placeOf_Cs (hJ : JB A) (hB : Bn A) (hWF : WF tk nt A t) (hL : Ly A L n ns) (hns : ns ≤ 1024) (h293 : c.1 293 0 = nI ns) (hT : CTb pl lit lc A sz c) (hBi : Bi A L lit lc sz n n c) {x : Nat} (hx : x < ns) : fn_Circuit_placeOf_Cs N (nI x) c = some (nI (pl (A.1 0 (snm A L n x))), c) := by
  have b := hB.2
  have d := (rule_ok hJ hWF hL hx).2.2.2
  have r298 : c.1 298 x = nI (snm A L n x) := by
    obtain ⟨i, q, hi, hq, rfl⟩ := hL.sig hx
    rw [(RS_at hL hi hq).2]
    exact (hBi.2 i hi q hq).1
  unfold fn_Circuit_placeOf_Cs fn_Circuit_isSignal_Cs
  rw [h293, if_neg (nI_pos (by omega)), if_neg (nI_ge hx (by omega)), obind]
  dsimp only
  rw [if_neg (show ¬ (1 : Int32) = 0 by decide), if_neg (nI_in (show x < 1024 by omega) (by decide)), nI_clamp (by omega), r298, if_neg (nI_in (show snm A L n x < 10923 by omega) (by decide)), nI_clamp (by omega), (hT.2.1 _ d).1]
theorem placeOf_no : fn_Circuit_placeOf_Cs N (-1) c = some (-1, c) := by
  unfold fn_Circuit_placeOf_Cs fn_Circuit_isSignal_Cs
  rw [if_pos (show (-1 : Int32) < 0 by decide), obind]
  rfl
theorem topPlace_C (hB : Bn A) (hT : CTb pl lit lc A sz c) : fn_Design_topPlace_Ds N c = some (nI (pl (A.1 20 (A.1 46 0 - 1))), c) := by
  have b := hB.2
  have b0 := hB.1
  obtain ⟨M, hM⟩ : ∃ M, A.1 46 0 = M + 1 := ⟨A.1 46 0 - 1, by omega⟩
  unfold fn_Design_topPlace_Ds
  rw [hT.1.2.2.2.2, hM, if_neg (show ¬ nI (M + 1) ≤ 0 from nI_ge (a := 0) (by omega) (by omega)), s1_nI, if_neg (nI_in (show M < 3277 by omega) (by decide)), nI_clamp (by omega), show M + 1 - 1 = M by omega, (hT.2.2.2.2.2.2 M (by omega)).1.1]
theorem nI_nm1 {k : Nat} (h : k < 2 ^ 31) : ¬ nI k = -1 := fun z => of_eq_false (nm1F h) z
/-- the class reads: a fault, or a circuit that stands -/
theorem read_C {ch : Nat → Nat} {N0 : Nat} {s : ms} (hN : 20000000 < N0) (hn : n ≤ 12000) (hs : Src s n ch) (h200 : c.1 200 0 = nI n) (h307 : ∀ k, k < n → ch k < 256 ∧ c.1 307 k = kch (ch k)) :
    ∃ wd, HW ch n wd ∧ (∃ σ, gDl (TK ch n) (PL ch n) (N0 + 1) N0 (0, 0, 0, 0) = some σ ∧ (σ.2.2.1 = 0 → ∃ q, dDesign (TK ch n) (PL ch n) (VL ch n) (WI ch n) wd (NT ch n) N0 N0 0 dA0 = some q)) ∧
      ((∃ f p c', OutF ch n wd N0 f p ∧ fn_C_read_C (N0 + 1) c = some (nI p, c') ∧ c'.1 201 0 = nI f ∧ c'.1 200 0 = nI 0 ∧ CRE c c') ∨
      ∃ t A lit lc sz ord c0 c1, OutG ch n wd N0 t A ∧ fn_C_read_C (N0 + 1) c = (fn_Machine_restart_Ma_Cc (N0 + 1) c1).bind (fun q_1 => some ((-1), q_1.2)) ∧ CRE c c0 ∧ c1 = upI (swS c0) 208 (fun _ => 1) ∧ CSt (PL ch n) lit lc A sz (topL A) (topN A) (topS A) ord c1 ∧ Od A (topL A) (topN A) (topS A) ord ∧ c0.1 200 0 = nI 0 ∧ c0.1 201 0 = nI 0 ∧ c0.1 308 0 = nI n ∧ c0.1 310 0 = nI (inb A)) := by
  have T := toks_T hs hn
  have hV := toks_V hs
  unfold fn_C_read_C fn_Design_clear_Ds fn_Parts_clear_Ps fn_Code_clear_Ks
  rw [obind]
  dsimp only
  rw [obind]
  dsimp only
  rw [obind]
  dsimp only
  rw [h200, if_neg (show ¬ (65536 : Int32) < nI n from of_eq_false (nltF (a := 65536) (by omega) (by omega)))]
  have e1 : Eb [200, 308, 309, 310, 317, 321, 328, 332, 337, 340] [] c (upI (upI (upI (upI (upI (upI (upI (upI (upI (upI c 308 (fun _ => nI n)) 309 (fun _ => 0)) 317 (fun _ => 0)) 310 (fun _ => 0)) 321 (fun _ => 0)) 328 (fun _ => 0)) 332 (fun _ => 0)) 337 (fun _ => 0)) 340 (fun _ => 0)) 200 (fun _ => 0)) := (((((((((Eb.rfl.upI (by decide)).upI (by decide)).upI (by decide)).upI (by decide)).upI (by decide)).upI (by decide)).upI (by decide)).upI (by decide)).upI (by decide)).upI (by decide)
  have r1 : (upI (upI (upI (upI (upI (upI (upI (upI (upI (upI c 308 (fun _ => nI n)) 309 (fun _ => 0)) 317 (fun _ => 0)) 310 (fun _ => 0)) 321 (fun _ => 0)) 328 (fun _ => 0)) 332 (fun _ => 0)) 337 (fun _ => 0)) 340 (fun _ => 0)) 200 (fun _ => 0)).1 308 0 = nI n := rfl
  have r2 : ∀ k, k ∈ [337, 321, 328, 332, 317, 309, 340, 200] → (upI (upI (upI (upI (upI (upI (upI (upI (upI (upI c 308 (fun _ => nI n)) 309 (fun _ => 0)) 317 (fun _ => 0)) 310 (fun _ => 0)) 321 (fun _ => 0)) 328 (fun _ => 0)) 332 (fun _ => 0)) 337 (fun _ => 0)) 340 (fun _ => 0)) 200 (fun _ => 0)).1 k 0 = nI 0 := fun k hk => by
    simp only [List.mem_cons, List.not_mem_nil, or_false] at hk
    rcases hk with rfl | rfl | rfl | rfl | rfl | rfl | rfl | rfl <;> rfl
  generalize upI (upI (upI (upI (upI (upI (upI (upI (upI (upI c 308 (fun _ => nI n)) 309 (fun _ => 0)) 317 (fun _ => 0)) 310 (fun _ => 0)) 321 (fun _ => 0)) 328 (fun _ => 0)) 332 (fun _ => 0)) 337 (fun _ => 0)) 340 (fun _ => 0)) 200 (fun _ => 0) = c1 at *
  obtain ⟨c2, ws, ls, a1, a2, a3, a4, a5, a6, a7, a8⟩ := scan_C (N := N0 + 1) (ch := ch) (by omega) hn r1 (fun k hk => by rw [e1.1 307 (by decide)]; exact h307 k hk) hs.2.2.2 (r2 340 (by decide))
  rw [a1, obind]
  dsimp only
  obtain ⟨k1, k2⟩ := toks_K hs hn a2 a4 a5 a6
  have hw : HW ch n (fun i => Int32.toNatClampNeg (tkX (c2.2 211 i))) := fun a b ha hb ka kb => by
    obtain ⟨x1, x2⟩ := k2 a ha ka
    obtain ⟨y1, y2⟩ := k2 b hb kb
    refine ⟨fun z => ?_, fun z => ?_⟩
    · dsimp only at z
      rw [z] at x1
      exact x1.symm.trans y1
    · exact a3.2.2.1 _ _ x2 y2 ((x1.trans z).trans y1.symm)
  generalize hwd : (fun i => Int32.toNatClampNeg (tkX (c2.2 211 i))) = wd at *
  generalize (fun i => tkX (c2.2 211 i)) = ex at *
  generalize c2.2 339 = lit at *
  have z2 : ∀ k, k ∈ [337, 321, 328, 332, 317, 309, 200] → c2.1 k 0 = nI 0 := fun k hk => by
    rw [a8.1 k (by revert k; decide)]
    exact r2 k (by revert k; decide)
  obtain ⟨c3, σ, p1, p2, p3, p4, p5⟩ := parse_C (N := N0 + 1) (N0 := N0) (N1 := N0 + 1) (n1 := N0) T hV (by omega) (by omega) (by omega) (by omega) k1 ⟨z2 337 (by decide), z2 321 (by decide), z2 328 (by decide), z2 332 (by decide), z2 317 (by decide), z2 309 (by decide)⟩
  rw [a3.1, p1, obind]
  dsimp only
  have E3 : CRE c c3 := ((e1.mono (by decide) (by decide)).trans (a8.mono (by decide) (by decide))).trans (p2.mono (by decide) (by decide))
  have t308 : c3.1 308 0 = nI n := by rw [p2.1 308 (by decide), a8.1 308 (by decide)]; exact r1
  have t200 : c3.1 200 0 = nI 0 := by rw [p2.1 200 (by decide)]; exact z2 200 (by decide)
  refine ⟨wd, hw, ⟨σ, p3, fun z => ?_⟩, ?_⟩
  · obtain ⟨sz, -, m2⟩ := p5 z
    obtain ⟨q, hq, -⟩ := m2 rfl
    exact ⟨q, hq⟩
  -- what is left of a read behind a fault
  have dead : ∀ (x : Int32) (c' : ms), ¬ c'.1 201 0 = 0 → bk_C_read_C_89 (N0 + 1) x c' = some (x, c') := fun x c' z => by
    unfold bk_C_read_C_89 bk_C_read_C_109 bk_C_read_C_159
    rw [if_neg z, if_neg z, if_neg z]
  obtain ⟨-, g2, g3, g4, g5⟩ := id p4
  by_cases al : σ.2.2.1 = 0
  · obtain ⟨-, -, -, -, y5, -⟩ := g4 al
    rw [if_pos (show c3.1 217 0 = 0 from y5)]
    have E4 : Eb [201] [] c3 (upI (upI c3 201 (fun _ => c3.1 217 0)) 201 (fun _ => c3.1 242 0)) := (Eb.rfl.upI (by decide)).upI (by decide)
    have r201 : (upI (upI c3 201 (fun _ => c3.1 217 0)) 201 (fun _ => c3.1 242 0)).1 201 0 = c3.1 242 0 := rfl
    generalize upI (upI c3 201 (fun _ => c3.1 217 0)) 201 (fun _ => c3.1 242 0) = c4 at *
    obtain ⟨sz, -, m2⟩ := p5 al
    obtain ⟨q, hq, q1, q2⟩ := m2 rfl
    match q, hq, q1, q2 with
    | .inl (f, p), hq, q1, _ =>
      obtain ⟨⟨o1, o2, o3, o4⟩, -⟩ := q1 f p rfl
      rw [dead _ c4 (by rw [r201, o1]; exact nI_ne0 o2 (by omega)), o4]
      exact Or.inl ⟨f, p, c4, ⟨σ, p3, Or.inr ⟨al, Or.inl hq⟩⟩, rfl, by rw [r201]; exact o1, by rw [E4.1 200 (by decide)]; exact t200, E3.trans (E4.mono (by decide) (by decide))⟩
    | .inr (t, A), hq, _, q2 =>
      obtain ⟨u1, ⟨X, ⟨o1, -, -, -, o5, -⟩⟩, o2, -, -, -, o6, -⟩ := q2 t A rfl
      obtain ⟨hJ, hWF, hB, ht, hLy⟩ := des_ok T hV p3 al hq
      have hT : CTb (PL ch n) lit ls.length A sz c4 := o2.tb.sd (SdE.of E4 (by decide))
      obtain ⟨c5, x1, x2, x3, x4⟩ := excess_C (N := N0 + 1) (by omega) hB hJ hWF hT
      unfold bk_C_read_C_89
      rw [if_pos (show c4.1 201 0 = 0 by rw [r201]; exact o1), x1, obind]
      dsimp only
      have E6 : Eb [201] [] c5 (upI c5 201 (fun _ => nI (lim A))) := Eb.rfl.upI (by decide)
      have r6 : (upI c5 201 (fun _ => nI (lim A))).1 201 0 = nI (lim A) := rfl
      generalize upI c5 201 (fun _ => nI (lim A)) = c6 at *
      have T6 : CTb (PL ch n) lit ls.length A sz c6 := x3.sd (SdE.of E6 (by decide))
      rw [topPlace_C hB T6, obind]
      dsimp only
      have F6 : Eb [201, 310] [] c3 c6 := ((E4.mono (by decide) (by decide)).trans (x2.mono (by decide) (by decide))).trans (E6.mono (by decide) (by decide))
      have G6 : CRE c c6 := E3.trans (F6.mono (by decide) (by decide))
      unfold bk_C_read_C_109
      by_cases cl : lim A = 0
      · rw [cl] at r6
        have r6 : c6.1 201 0 = 0 := r6
        rw [if_pos r6]
        obtain ⟨w1, w2⟩ := lim0 cl
        obtain ⟨c7, b1, b2, b3, b4, b5, b6⟩ := build_C (N := N0 + 1) (by omega) hJ hB hWF hLy w1 w2 T6
        rw [b1, obind]
        dsimp only
        have s7 : c7.1 337 0 = nI sz := by rw [b2.1 337 (by decide), F6.1 337 (by decide)]; exact o5
        obtain ⟨a, hNt⟩ := Nt_of hJ hWF hLy w2 b4 s7 (by have := T.2.1; omega) b6
        obtain ⟨c8, r, d1, d2, d3⟩ := arrange_C (N := N0 + 1) (by omega) hNt (fun v y hv hy => by rw [dpn_dl] at hy; exact dl_lt hJ hWF hLy hv hy)
        rw [d1, obind]
        dsimp only
        have G8 : CRE c c8 := (G6.trans (b2.mono (by decide) (by decide))).trans (d2.mono (by decide) (by decide))
        have H8 : Eb [201, 277, 278, 279, 280, 281, 282, 283, 284, 285, 292, 293, 294, 295, 296, 297, 298, 299, 300, 301, 302, 303, 304, 310] [] c3 c8 := ((F6.mono (by decide) (by decide)).trans (b2.mono (by decide) (by decide))).trans (d2.mono (by decide) (by decide))
        have T8 : ∀ g, CTb (PL ch n) lit ls.length A sz (upI c8 201 g) := fun g => by
          have e : Eb [201, 277, 278, 279, 280, 281, 282, 283, 284, 285, 303, 304] [] c7 (upI c8 201 g) := (d2.mono (by decide) (by decide)).upI (by decide)
          unfold CTb Cdr Cit Clk Cpc CLr at *
          rw [e.1 321 (by decide), e.1 328 (by decide), e.1 332 (by decide), e.1 317 (by decide), e.1 309 (by decide), e.1 322 (by decide), e.1 323 (by decide), e.1 324 (by decide), e.2 325 (by decide), e.1 326 (by decide), e.1 327 (by decide), e.2 336 (by decide), e.1 329 (by decide), e.1 330 (by decide), e.1 331 (by decide), e.1 333 (by decide), e.1 334 (by decide), e.1 335 (by decide), e.1 318 (by decide), e.1 319 (by decide), e.1 320 (by decide), e.1 311 (by decide), e.1 312 (by decide), e.1 313 (by decide), e.1 314 (by decide), e.1 315 (by decide), e.1 600 (by decide), e.1 601 (by decide), e.1 602 (by decide), e.1 603 (by decide), e.1 604 (by decide)]
          exact b5
        have B8 : ∀ g, Bi A (topL A) lit ls.length sz (topN A) (topN A) (upI c8 201 g) := fun g => by
          have e : Eb [201, 277, 278, 279, 280, 281, 282, 283, 284, 285, 303, 304] [] c7 (upI c8 201 g) := (d2.mono (by decide) (by decide)).upI (by decide)
          unfold Bi Ri Cr1 CLr at *
          rw [e.1 294 (by decide), e.1 295 (by decide), e.1 296 (by decide), e.1 297 (by decide), e.1 298 (by decide), e.1 299 (by decide), e.1 300 (by decide), e.1 301 (by decide), e.1 302 (by decide), e.2 336 (by decide)]
          exact b6
        have s8 : c8.1 293 0 = nI (topS A) := by rw [d2.1 293 (by decide)]; exact b4
        have n8 : c8.1 292 0 = nI (topN A) := by rw [d2.1 292 (by decide)]; exact b3
        have t8 : c8.1 200 0 = nI 0 := by rw [H8.1 200 (by decide)]; exact t200
        rcases d3 with ⟨rfl, v1, ord, v2, v3, v4, v5, v6⟩ | ⟨lp, rfl, v1, v2, v3⟩
        · rw [if_pos rfl]
          unfold bk_C_read_C_147
          rw [placeOf_no, obind]
          dsimp only
          unfold bk_C_read_C_159
          rw [if_pos (show (upI c8 201 (fun _ => 0)).1 201 0 = 0 from rfl)]
          rw [dpn_dl] at v1
          refine Or.inr ⟨t, A, lit, ls.length, sz, ord, upI c8 201 (fun _ => 0), _, ⟨σ, p3, al, hq, cl, v1⟩, rfl, G8.upI (by decide), rfl, ⟨(T8 _).sd SdE.swap, (B8 _).sd SdE.swap, ⟨n8, w1, s8, w2⟩, ⟨?_, by have := T.2.1; omega, ?_, k1.2.2.1, ?_⟩, ?_⟩, Od_of hJ hWF hLy v4 v5 v6, t8, rfl, ?_, ?_⟩
          · show c8.1 337 0 = _
            rw [d2.1 337 (by decide)]
            exact s7
          · show c8.1 340 0 = _
            rw [H8.1 340 (by decide), p2.1 340 (by decide)]
            exact k1.2.1
          · show c8.2 339 = _
            rw [H8.2 339 (by decide), p2.2 339 (by decide)]
            exact k1.2.2.2.1
          · exact ⟨v2, v3⟩
          · show c8.1 308 0 = _
            rw [H8.1 308 (by decide)]
            exact t308
          · show c8.1 310 0 = _
            rw [d2.1 310 (by decide), b2.1 310 (by decide), E6.1 310 (by decide)]
            exact x4
        · rw [if_neg (nI_nm1 (by omega))]
          unfold bk_C_read_C_147
          rw [placeOf_Cs hJ hB hWF hLy w2 (show (upI c8 201 (fun _ => 45)).1 293 0 = _ from s8) (T8 _) (B8 _) v1, obind]
          dsimp only
          unfold bk_C_read_C_159
          rw [if_neg (show ¬ (upI c8 201 (fun _ => 45)).1 201 0 = 0 from show ¬ (45 : Int32) = 0 by decide)]
          rw [dpn_dl] at v2 v3
          exact Or.inl ⟨45, _, _, ⟨σ, p3, Or.inr ⟨al, Or.inr ⟨t, A, hq, Or.inr ⟨cl, lp, ⟨v1, v2, v3⟩, rfl, rfl⟩⟩⟩⟩, rfl, rfl, t8, G8.upI (by decide)⟩
      · have ll : lim A < 100 := by unfold lim; repeat' split <;> try decide
        have l6 : ¬ c6.1 201 0 = 0 := by rw [r6]; exact nI_ne0 (Nat.pos_of_ne_zero cl) (by omega)
        rw [if_neg l6]
        unfold bk_C_read_C_159
        rw [if_neg l6]
        exact Or.inl ⟨lim A, _, c6, ⟨σ, p3, Or.inr ⟨al, Or.inr ⟨t, A, hq, Or.inl ⟨cl, rfl, rfl⟩⟩⟩⟩, rfl, r6, by rw [F6.1 200 (by decide)]; exact t200, G6⟩
  · obtain ⟨y1, y2, -⟩ := g5 al
    have n3 : ¬ c3.1 217 0 = 0 := by rw [y1]; exact nI_ne0 (Nat.pos_of_ne_zero al) (by omega)
    rw [if_neg n3, dead _ (upI c3 201 (fun _ => c3.1 217 0)) n3, y2]
    exact Or.inl ⟨σ.2.2.1, σ.2.2.2, _, ⟨σ, p3, Or.inl ⟨al, rfl, rfl⟩⟩, rfl, y1, t200, E3.upI (by decide)⟩
end CREAD
