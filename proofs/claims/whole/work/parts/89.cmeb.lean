/-! What the class's meaning does for if and case. -/
section CMEB
variable {N T sz C md : Nat} {c : ms}
abbrev MB (c c' : ms) : Prop := Eb [238, 239, 241, 242, 243, 256, 257, 258, 259, 260, 337] [336] c c'
theorem XE.toMB {c c' : ms} (h : XE c c') : MB c c' := h.mono (by decide) (by decide)
theorem refuse_E {w p : Nat} (h : Xc c T sz C) (hw : 0 < w ∧ w < 100) : ∃ c', fn_Checker_refuse_Ch N (nI w) (nI p) c = some ((), c') ∧ Off c' w p ∧ Eb [242, 243] [] c c' := by
  unfold fn_Checker_refuse_Ch
  rw [h.1, if_pos (show nI 0 = 0 from rfl)]
  exact ⟨_, rfl, ⟨rfl, hw.1, hw.2, rfl⟩, (Eb.rfl.upI (by decide)).upI (by decide)⟩
theorem Xc.keep {c c' : ms} {js : List Nat} {ks : List Nat} (h : Xc c T sz C) (e : Eb ks js c c') (hk : 242 ∉ ks ∧ 239 ∉ ks ∧ 337 ∉ ks ∧ 241 ∉ ks ∧ 217 ∉ ks) : Xc c' T sz C := by
  obtain ⟨h1, h2, h3, h4, h5, h6, h7⟩ := h
  exact ⟨by rw [e.1 242 hk.1]; exact h1, by rw [e.1 217 hk.2.2.2.2]; exact h2, by rw [e.1 239 hk.2.1]; exact h3, h4, by rw [e.1 337 hk.2.2.1]; exact h5, h6, by rw [e.1 241 hk.2.2.2.1]; exact h7⟩
theorem condition_C {w : Nat} (X : Xc c 1 sz C) (hz : sz + 1 < 40000) (h0 : c.1 238 0 = nI w) (hw : w ≤ 64) (hd : c.1 260 0 = nI md) (hm : md < 60) : ∃ c', fn_Meaning_condition_Me N c = some ((), c') ∧ Xc c' 0 (sz + 1) (C + w) ∧ c'.2 336 = vp_updL (c.2 336) sz (crw 518 (-1)) ∧ c'.1 256 = upd (c.1 256) md (nI sz) ∧ c'.1 260 0 = nI (md + 1) ∧ Eb [238, 239, 241, 242, 243, 256, 260, 337] [336] c c' := by
  obtain ⟨c1, a1, a2, a3, a4, a5⟩ := pop_C (N := N) (T := 0) X
  obtain ⟨c2, b1, b2, b3, b4, b5⟩ := spend_C (N := N) (n := w) a2 (by omega)
  obtain ⟨c3, d1, d2, d3, d4, d5⟩ := emit_C (N := N) (op := 518) (arg := -1) b2 hz
  have e2 : c2.1 260 0 = nI md := by rw [b5.1 260 (by decide), a5.1 260 (by decide)]; exact hd
  have e3 : c3.1 260 0 = nI md := by rw [d5.1 260 (by decide)]; exact e2
  unfold fn_Meaning_condition_Me fn_Checker_expWidth_Ch
  rw [on_go X]
  dsimp only
  rw [if_pos rfl, hd, if_pos (show nI md < 60 from nI_lt (b := 60) hm (by decide)), a1, obind, obind]
  dsimp only
  rw [h0, b1, obind]
  dsimp only
  rw [d1, obind]
  dsimp only
  rw [e2, if_neg (nI_in (show md < 60 by omega) (by decide)), nI_clamp (by omega), e3, nI_1]
  exact ⟨_, rfl, d2, by show c3.2 336 = _; rw [d4, b4, a4], by show upd (c3.1 256) md (nI sz) = _; rw [d5.1 256 (by decide), b5.1 256 (by decide), a5.1 256 (by decide)], rfl, ((((a5.trans b5).trans d5).mono (by decide) (by decide)).upI (by decide)).upI (by decide)⟩
theorem otherwise_C {j : Nat} {op g : Int32} (X : Xc c T sz C) (hz : sz + 1 < 40000) (hd : c.1 260 0 = nI (md + 1)) (hm : md < 60) (hj : c.1 256 md = nI j) (hjs : j < sz) (hr : c.2 336 j = crw op g) : ∃ c', fn_Meaning_otherwise_Me N c = some ((), c') ∧ Xc c' T (sz + 1) C ∧ c'.2 336 = vp_updL (vp_updL (c.2 336) sz (crw 517 (-1))) j (crw op (nI (sz + 1))) ∧ c'.1 256 = upd (c.1 256) md (nI sz) ∧ Eb [238, 239, 241, 242, 243, 256, 337] [336] c c' := by
  obtain ⟨c1, a1, a2, a3, a4, a5⟩ := emit_C (N := N) (op := 517) (arg := -1) X hz
  have e1 : c1.1 260 0 = nI (md + 1) := by rw [a5.1 260 (by decide)]; exact hd
  obtain ⟨c2, b1, b2, b3⟩ := aim_C (N := N) (j := j) (op := op) (g := g) a2 (by omega) (by rw [a4, updL_ne (by omega)]; exact hr)
  have e2 : c2.1 260 0 = nI (md + 1) := by rw [b3.1 260 (by decide)]; exact e1
  unfold fn_Meaning_otherwise_Me
  rw [on_go X]
  dsimp only
  rw [if_pos rfl, hd, if_neg (nI_ne0 (by omega) (by omega)), a1, obind]
  dsimp only
  rw [e1, nI_pred, if_neg (nI_in (show md < 60 by omega) (by decide)), nI_clamp (by omega), a5.1 256 (by decide), hj, b1, obind]
  dsimp only
  rw [e2, nI_pred, if_neg (nI_in (show md < 60 by omega) (by decide)), nI_clamp (by omega)]
  have X3 : Xc c2 T (sz + 1) C := a2.keep b3 (by decide)
  exact ⟨_, rfl, X3, by show c2.2 336 = _; rw [b2, a4], by show upd (c2.1 256) md (nI sz) = _; rw [b3.1 256 (by decide), a5.1 256 (by decide)], ((a5.mono (by decide) (by decide)).trans (b3.mono (by decide) (by decide))).upI (by decide)⟩
theorem ifEnd_C {j : Nat} {op g : Int32} (X : Xc c T sz C) (hd : c.1 260 0 = nI (md + 1)) (hm : md < 60) (hj : c.1 256 md = nI j) (hjs : j < sz) (hr : c.2 336 j = crw op g) : ∃ c', fn_Meaning_ifEnd_Me N c = some ((), c') ∧ Xc c' T sz C ∧ c'.2 336 = vp_updL (c.2 336) j (crw op (nI sz)) ∧ c'.1 260 0 = nI md ∧ Eb [260] [336] c c' := by
  have X1 : Xc (upI c 260 (fun _ => nI md)) T sz C := X
  obtain ⟨c2, b1, b2, b3⟩ := aim_C (N := N) (j := j) (op := op) (g := g) X1 hjs hr
  unfold fn_Meaning_ifEnd_Me
  rw [on_go X]
  dsimp only
  rw [if_pos rfl, hd, if_neg (nI_ne0 (by omega) (by omega)), nI_pred, if_neg (nI_in (show md < 60 by omega) (by decide)), nI_clamp (by omega), hj, b1, obind]
  exact ⟨c2, rfl, X1.keep b3 (by decide), b2, by rw [b3.1 260 (by decide)]; rfl, (Eb.rfl.upI (by decide)).trans (b3.mono (by decide) (by decide))⟩
theorem choice_C {w : Nat} (X : Xc c 1 sz C) (h0 : c.1 238 0 = nI w) (hd : c.1 260 0 = nI md) (hm : md < 60) : ∃ c', fn_Meaning_choice_Me N c = some ((), c') ∧ Xc c' 0 sz C ∧ c'.2 336 = c.2 336 ∧ c'.1 256 = upd (c.1 256) md (-1) ∧ c'.1 257 = upd (c.1 257) md (-1) ∧ c'.1 258 = upd (c.1 258) md (-1) ∧ c'.1 259 = upd (c.1 259) md (nI w) ∧ c'.1 260 0 = nI (md + 1) ∧ MB c c' := by
  obtain ⟨c1, a1, a2, a3, a4, a5⟩ := pop_C (N := N) (T := 0) X
  have e1 : c1.1 260 0 = nI md := by rw [a5.1 260 (by decide)]; exact hd
  unfold fn_Meaning_choice_Me fn_Checker_expWidth_Ch
  rw [on_go X]
  dsimp only
  rw [if_pos rfl, hd, if_pos (show nI md < 60 from nI_lt (b := 60) hm (by decide)), a1, obind, obind]
  dsimp only
  rw [if_neg (nI_in (show md < 60 by omega) (by decide)), e1, if_neg (nI_in (show md < 60 by omega) (by decide)), if_neg (nI_in (show md < 60 by omega) (by decide)), if_neg (nI_in (show md < 60 by omega) (by decide)), nI_clamp (by omega), nI_1, h0]
  refine ⟨_, rfl, a2, a4, ?_, ?_, ?_, ?_, rfl, (((((a5.mono (by decide) (by decide)).upI (by decide)).upI (by decide)).upI (by decide)).upI (by decide)).upI (by decide)⟩
  · show upd (c1.1 256) md (-1) = _
    rw [a5.1 256 (by decide)]
  · show upd (c1.1 257) md (-1) = _
    rw [a5.1 257 (by decide)]
  · show upd (c1.1 258) md (-1) = _
    rw [a5.1 258 (by decide)]
  · show upd (c1.1 259) md (nI w) = _
    rw [a5.1 259 (by decide)]
theorem label_C {li lc w w' p : Nat} (X : Xc c T sz C) (hz : sz + 2 < 40000) (hd : c.1 260 0 = nI (md + 1)) (hm : md < 60) (hw : c.1 259 md = nI w) (hw2 : w ≤ 64) (hli : li < lc) (hlc : lc < 13000) (h340 : c.1 340 0 = nI lc) (h338 : c.1 338 li = nI w') (hw3 : w' ≤ 64) :
    (w' = w → ∃ c', fn_Meaning_label_Me N (nI li) (nI p) c = some ((), c') ∧ Xc c' T (sz + 2) (C + w) ∧ c'.2 336 = vp_updL (vp_updL (c.2 336) sz (crw 513 (nI li))) (sz + 1) (crw 519 (c.1 258 md)) ∧ c'.1 258 = upd (c.1 258) md (nI (sz + 1)) ∧ Eb [238, 239, 241, 242, 243, 258, 337] [336] c c') ∧
    (w' ≠ w → ∃ c', fn_Meaning_label_Me N (nI li) (nI p) c = some ((), c') ∧ Off c' 30 p ∧ Eb [238, 239, 241, 242, 243, 258, 337] [336] c c') := by
  have wo : fn_Code_widthOf_Ks N (nI li) c = some (nI w', c) := by
    unfold fn_Code_widthOf_Ks
    rw [h340, if_neg (nI_pos (by omega)), if_neg (nI_ge hli (by omega)), if_neg (nI_in (show li < 13108 by omega) (by decide)), nI_clamp (by omega), h338]
  unfold fn_Meaning_label_Me
  rw [on_go X]
  dsimp only
  rw [if_pos rfl, hd, if_neg (nI_ne0 (by omega) (by omega)), nI_pred, if_neg (nI_in (show md < 60 by omega) (by decide)), nI_clamp (by omega), wo, obind]
  dsimp only
  rw [hw]
  constructor
  · intro q
    rw [if_pos (by rw [q])]
    unfold bk_Meaning_label_Me_52
    obtain ⟨c1, a1, a2, a3, a4, a5⟩ := spend_C (N := N) (n := w) X (by omega)
    rw [a1, obind]
    dsimp only
    obtain ⟨c2, b1, b2, b3, b4, b5⟩ := emit_C (N := N) (op := 513) (arg := nI li) a2 (by omega)
    rw [b1, obind]
    dsimp only
    have e2 : c2.1 260 0 = nI (md + 1) := by rw [b5.1 260 (by decide), a5.1 260 (by decide)]; exact hd
    have e258 : c2.1 258 = c.1 258 := by rw [b5.1 258 (by decide), a5.1 258 (by decide)]
    rw [e2, nI_pred, if_neg (nI_in (show md < 60 by omega) (by decide)), nI_clamp (by omega), e258]
    obtain ⟨c3, d1, d2, d3, d4, d5⟩ := emit_C (N := N) (op := 519) (arg := c.1 258 md) b2 (by omega)
    rw [d1, obind]
    dsimp only
    rw [if_neg (nI_inN (show md < 60 by omega) (by omega))]
    refine ⟨_, rfl, d2, ?_, ?_, (((a5.trans b5).trans d5).mono (by decide) (by decide)).upI (by decide)⟩
    · show c3.2 336 = _
      rw [d4, b4, a4]
    · show upd (c3.1 258) md (nI (sz + 1)) = _
      rw [d5.1 258 (by decide), e258]
  · intro q
    rw [if_neg (fun z => q ((nI_eq (by omega) (by omega)).mp z))]
    obtain ⟨c0, r1, r2, r3⟩ := refuse_E (N := N) (w := 30) (p := p) X (by decide)
    rw [show fn_Checker_refuse_Ch N 30 (nI p) c = some ((), c0) from r1, obind]
    dsimp only
    unfold bk_Meaning_label_Me_52
    obtain ⟨x1, x2, x3, x4, x5, x6, x7⟩ := X
    obtain ⟨c1, a1, a2⟩ := spend2 (N := N) (n := w) (K := cap28 C) (c := c0) (by rw [r3.1 241 (by decide)]; exact x7) (by unfold cap28; omega) (by omega)
    rw [a1, obind]
    dsimp only
    obtain ⟨c2, b1, b2, z2⟩ := emit2 (N := N) (z := sz) (op := 513) (arg := nI li) (c := c1) (by rw [a2.1 337 (by decide), r3.1 337 (by decide)]; exact x5) (by omega)
    rw [b1, obind]
    dsimp only
    have e2 : c2.1 260 0 = nI (md + 1) := by rw [b2.1 260 (by decide), a2.1 260 (by decide), r3.1 260 (by decide)]; exact hd
    rw [e2, nI_pred, if_neg (nI_in (show md < 60 by omega) (by decide)), nI_clamp (by omega)]
    obtain ⟨c3, d1, d2, -⟩ := emit2 (N := N) (z := sz + 1) (op := 519) (arg := c2.1 258 md) (c := c2) z2 (by omega)
    rw [d1, obind]
    dsimp only
    rw [if_neg (nI_inN (show md < 60 by omega) (by omega))]
    have o := ((r2.mono a2 (by decide) (by decide)).mono b2 (by decide) (by decide)).mono d2 (by decide) (by decide)
    exact ⟨_, rfl, o.mono (ks := [258]) (js := []) (Eb.rfl.upI (by decide)) (by decide) (by decide), ((((r3.mono (by decide) (by decide)).trans (a2.mono (by decide) (by decide))).trans (b2.mono (by decide) (by decide))).trans (d2.mono (by decide) (by decide))).upI (by decide)⟩
theorem labelsEnd_C {M : List Nat} (X : Xc c T sz C) (hz : sz + 1 < 40000) (hN : 40000 < N) (hd : c.1 260 0 = nI (md + 1)) (hm : md < 60) (hM : jch (c.2 336) 519 (c.1 258 md) M) (hMs : ∀ j, j ∈ M → j < sz) (hMl : M.length ≤ sz) : ∃ c', fn_Meaning_labelsEnd_Me N c = some ((), c') ∧ Xc c' T (sz + 1) C ∧ c'.2 336 sz = crw 517 (-1) ∧ (∀ j, j ∈ M → c'.2 336 j = crw 519 (nI (sz + 1))) ∧ (∀ k, k ∉ M → k ≠ sz → c'.2 336 k = c.2 336 k) ∧ c'.1 256 = upd (c.1 256) md (nI sz) ∧ c'.1 258 = upd (c.1 258) md (-1) ∧ Eb [238, 239, 241, 242, 243, 256, 258, 337] [336] c c' := by
  obtain ⟨c1, a1, a2, a3, a4, a5⟩ := emit_C (N := N) (op := 517) (arg := -1) X hz
  have e1 : c1.1 260 0 = nI (md + 1) := by rw [a5.1 260 (by decide)]; exact hd
  have X2 : Xc (upI c1 256 (upd (c1.1 256) md (nI sz))) T (sz + 1) C := a2
  obtain ⟨c2, b1, b2, b3, b4⟩ := aimAll_C (N := N) (op := 519) M N 0 (c.1 258 md) (upI c1 256 (upd (c1.1 256) md (nI sz))) X2 (hM.mono (fun j hj => by show c1.2 336 j = _; have := hMs j hj; rw [a4, updL_ne (by omega)])) (fun j hj => by have := hMs j hj; omega) (by omega) (by have := X.2.2.2.2.2.1; omega)
  have e2 : c2.1 260 0 = nI (md + 1) := by rw [b2.1 260 (by decide)]; exact e1
  unfold fn_Meaning_labelsEnd_Me
  rw [on_go X]
  dsimp only
  rw [if_pos rfl, hd, if_neg (nI_ne0 (by omega) (by omega)), a1, obind]
  dsimp only
  rw [nI_pred, if_neg (nI_in (show md < 60 by omega) (by decide)), e1, nI_pred, if_neg (nI_in (show md < 60 by omega) (by decide)), nI_clamp (by omega), a5.1 258 (by decide)]
  have b1' : fn_Code_aimAll_Ks N (c.1 258 md) (upI c1 256 (upd (c1.1 256) md (nI sz))) = some ((), c2) := b1
  rw [b1', obind]
  dsimp only
  rw [e2, nI_pred, if_neg (nI_in (show md < 60 by omega) (by decide)), nI_clamp (by omega)]
  have sM : sz ∉ M := fun z => by have := hMs sz z; omega
  have X3 : Xc c2 T (sz + 1) C := X2.keep b2 (by decide)
  refine ⟨_, rfl, X3, ?_, fun j hj => b3 j hj, fun k hk hk2 => ?_, ?_, ?_, (((a5.mono (by decide) (by decide)).upI (by decide)).trans (b2.mono (by decide) (by decide))).upI (by decide)⟩
  · show c2.2 336 sz = _
    rw [b4 sz sM]; show c1.2 336 sz = _; rw [a4, updL_at]
  · show c2.2 336 k = _
    rw [b4 k hk]; show c1.2 336 k = _; rw [a4, updL_ne hk2]
  · show c2.1 256 = _
    rw [b2.1 256 (by decide)]; show upd (c1.1 256) md (nI sz) = _; rw [a5.1 256 (by decide)]
  · show upd (c2.1 258) md (-1) = _
    rw [b2.1 258 (by decide)]; show upd (c1.1 258) md (-1) = _; rw [a5.1 258 (by decide)]
theorem armEnd_C {j : Nat} {op g : Int32} (X : Xc c T sz C) (hz : sz + 1 < 40000) (hd : c.1 260 0 = nI (md + 1)) (hm : md < 60) (hj : c.1 256 md = nI j) (hjs : j < sz) (hr : c.2 336 j = crw op g) : ∃ c', fn_Meaning_armEnd_Me N c = some ((), c') ∧ Xc c' T (sz + 1) C ∧ c'.2 336 = vp_updL (vp_updL (c.2 336) sz (crw 517 (c.1 257 md))) j (crw op (nI (sz + 1))) ∧ c'.1 256 = upd (c.1 256) md (-1) ∧ c'.1 257 = upd (c.1 257) md (nI sz) ∧ Eb [238, 239, 241, 242, 243, 256, 257, 337] [336] c c' := by
  obtain ⟨c1, a1, a2, a3, a4, a5⟩ := emit_C (N := N) (op := 517) (arg := c.1 257 md) X hz
  have e1 : c1.1 260 0 = nI (md + 1) := by rw [a5.1 260 (by decide)]; exact hd
  have X2 : Xc (upI c1 257 (upd (c1.1 257) md (nI sz))) T (sz + 1) C := a2
  obtain ⟨c2, b1, b2, b3⟩ := aim_C (N := N) (j := j) (op := op) (g := g) X2 (by omega) (by show c1.2 336 j = _; rw [a4, updL_ne (by omega)]; exact hr)
  have e2 : c2.1 260 0 = nI (md + 1) := by rw [b3.1 260 (by decide)]; exact e1
  unfold fn_Meaning_armEnd_Me
  rw [on_go X]
  dsimp only
  rw [if_pos rfl, hd, if_neg (nI_ne0 (by omega) (by omega)), nI_pred, if_neg (nI_in (show md < 60 by omega) (by decide)), nI_clamp (by omega), a1, obind]
  dsimp only
  rw [if_neg (nI_inN (show md < 60 by omega) (by omega)), e1, nI_pred, if_neg (nI_in (show md < 60 by omega) (by decide)), nI_clamp (by omega), a5.1 256 (by decide), hj, b1, obind]
  dsimp only
  rw [e2, nI_pred, if_neg (nI_in (show md < 60 by omega) (by decide)), nI_clamp (by omega)]
  have X3 : Xc c2 T (sz + 1) C := X2.keep b3 (by decide)
  refine ⟨_, rfl, X3, ?_, ?_, ?_, (((a5.mono (by decide) (by decide)).upI (by decide)).trans (b3.mono (by decide) (by decide))).upI (by decide)⟩
  · show c2.2 336 = _
    rw [b2]; show vp_updL (c1.2 336) j _ = _; rw [a4]
  · show upd (c2.1 256) md (-1) = _
    rw [b3.1 256 (by decide)]; show upd (c1.1 256) md (-1) = _; rw [a5.1 256 (by decide)]
  · show c2.1 257 = _
    rw [b3.1 257 (by decide)]; show upd (c1.1 257) md (nI sz) = _; rw [a5.1 257 (by decide)]
theorem caseEnd_C {E : List Nat} (X : Xc c T sz C) (hz : sz + 1 < 40000) (hN : 40000 < N) (hd : c.1 260 0 = nI (md + 1)) (hm : md < 60) (hE : jch (c.2 336) 517 (c.1 257 md) E) (hEs : ∀ j, j ∈ E → j < sz) (hEl : E.length ≤ sz) : ∃ c', fn_Meaning_caseEnd_Me N c = some ((), c') ∧ Xc c' T (sz + 1) C ∧ c'.2 336 sz = crw 516 0 ∧ (∀ j, j ∈ E → c'.2 336 j = crw 517 (nI sz)) ∧ (∀ k, k ∉ E → k ≠ sz → c'.2 336 k = c.2 336 k) ∧ c'.1 260 0 = nI md ∧ Eb [238, 239, 241, 242, 243, 260, 337] [336] c c' := by
  have X1 : Xc (upI c 260 (fun _ => nI md)) T sz C := X
  obtain ⟨c1, a1, a2, a3, a4⟩ := aimAll_C (N := N) (op := 517) E N 0 (c.1 257 md) (upI c 260 (fun _ => nI md)) X1 hE hEs (by omega) (by have := X.2.2.2.2.2.1; omega)
  have X2 := X1.keep a2 (by decide)
  obtain ⟨c2, b1, b2, b3, b4, b5⟩ := emit_C (N := N) (op := 516) (arg := 0) X2 hz
  unfold fn_Meaning_caseEnd_Me
  rw [on_go X]
  dsimp only
  have a1' : fn_Code_aimAll_Ks N (c.1 257 md) (upI c 260 (fun _ => nI md)) = some ((), c1) := a1
  rw [if_pos rfl, hd, if_neg (nI_ne0 (by omega) (by omega)), nI_pred, if_neg (nI_in (show md < 60 by omega) (by decide)), nI_clamp (by omega), a1', obind]
  dsimp only
  rw [b1, obind]
  refine ⟨c2, rfl, b2, by rw [b4, updL_at], fun j hj => ?_, fun k hk hk2 => ?_, ?_, ((Eb.rfl.upI (by decide)).trans (a2.mono (by decide) (by decide))).trans (b5.mono (by decide) (by decide))⟩
  · have := hEs j hj
    rw [b4, updL_ne (by omega)]; exact a3 j hj
  · rw [b4, updL_ne hk2]; exact a4 k hk
  · rw [b5.1 260 (by decide), a2.1 260 (by decide)]; rfl
end CMEB
