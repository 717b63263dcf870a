/-! What the class's meaning does for statements. -/
section CMEA
variable {N T sz C : Nat} {c : ms}
theorem off_go {α : Type} {k : Int32 × ms → Option (α × ms)} (h : OffC c) : (fn_Checker_isOff_Ch N c).bind k = k (1, c) := by rw [offC h]; rfl
theorem on_go {α : Type} {k : Int32 × ms → Option (α × ms)} (h : Xc c T sz C) : (fn_Checker_isOff_Ch N c).bind k = k (0, c) := by rw [off_on h]; rfl
theorem off_storeTo {x y : Int32} (h : OffC c) : fn_Meaning_storeTo_Me N x y c = some ((), c) := by unfold fn_Meaning_storeTo_Me; rw [off_go h]; rfl
theorem off_storePart {x y : Int32} (h : OffC c) : fn_Meaning_storePart_Me N x y c = some ((), c) := by unfold fn_Meaning_storePart_Me; rw [off_go h]; rfl
theorem off_stored {x : Int32} (h : OffC c) : fn_Meaning_stored_Me N x c = some ((), c) := by unfold fn_Meaning_stored_Me; rw [off_go h]; rfl
theorem off_condition (h : OffC c) : fn_Meaning_condition_Me N c = some ((), c) := by unfold fn_Meaning_condition_Me; rw [off_go h]; rfl
theorem off_otherwise (h : OffC c) : fn_Meaning_otherwise_Me N c = some ((), c) := by unfold fn_Meaning_otherwise_Me; rw [off_go h]; rfl
theorem off_ifEnd (h : OffC c) : fn_Meaning_ifEnd_Me N c = some ((), c) := by unfold fn_Meaning_ifEnd_Me; rw [off_go h]; rfl
theorem off_choice (h : OffC c) : fn_Meaning_choice_Me N c = some ((), c) := by unfold fn_Meaning_choice_Me; rw [off_go h]; rfl
theorem off_label {x y : Int32} (h : OffC c) : fn_Meaning_label_Me N x y c = some ((), c) := by unfold fn_Meaning_label_Me; rw [off_go h]; rfl
theorem off_labelsEnd (h : OffC c) : fn_Meaning_labelsEnd_Me N c = some ((), c) := by unfold fn_Meaning_labelsEnd_Me; rw [off_go h]; rfl
theorem off_armEnd (h : OffC c) : fn_Meaning_armEnd_Me N c = some ((), c) := by unfold fn_Meaning_armEnd_Me; rw [off_go h]; rfl
theorem off_caseEnd (h : OffC c) : fn_Meaning_caseEnd_Me N c = some ((), c) := by unfold fn_Meaning_caseEnd_Me; rw [off_go h]; rfl
theorem off_expBegins (h : OffC c) : fn_Checker_expBegins_Ch N c = some ((), c) := by unfold fn_Checker_expBegins_Ch; rw [off_go h]; rfl
theorem refuse_O {w p : Nat} (h : Xc c T sz C) (hw : 0 < w ∧ w < 100) : ∃ c', fn_Checker_refuse_Ch N (nI w) (nI p) c = some ((), c') ∧ Off c' w p ∧ XE c c' := by
  obtain ⟨c', a1, a2, a3, a4⟩ := refuse_C (N := N) (w := w) (x := nI p) h
  exact ⟨c', a1, ⟨a2, hw.1, hw.2, a3⟩, a4⟩
/-- a register's name -/
theorem storeTo_no {wd p : Nat} {y : Int32} (h : Xc c T sz C) (hm : fn_Checker_meantBy_Ch N (nI wd) c = some (y, c)) (hy : fn_Checker_sortOf_Ch N y c = some (-1, c)) : ∃ c', fn_Meaning_storeTo_Me N (nI wd) (nI p) c = some ((), c') ∧ Off c' 22 p ∧ XE c c' := by
  obtain ⟨c', a1, a2, a3⟩ := refuse_O (N := N) (w := 22) (p := p) h (by decide)
  refine ⟨c', ?_, a2, a3⟩
  unfold fn_Meaning_storeTo_Me
  rw [on_go h]
  dsimp only
  rw [if_pos rfl, hm, obind]
  dsimp only
  rw [hy, obind]
  dsimp only
  rw [if_neg (by decide), show fn_Checker_refuse_Ch N 22 (nI p) c = some ((), c') from a1, obind]
theorem storeTo_C {wd p d dc : Nat} (h : Xc c T sz C) (hm : fn_Checker_meantBy_Ch N (nI wd) c = some (nI d, c)) (hd : d < dc) (hdc : dc < 10923) (h321 : c.1 321 0 = nI dc) :
    (c.1 324 d ≠ 2 → ∃ c', fn_Meaning_storeTo_Me N (nI wd) (nI p) c = some ((), c') ∧ Off c' 22 p ∧ XE c c') ∧
    (c.1 324 d = 2 → (c.1 326 d = -1 ∨ c.1 326 d = c.1 253 0) → ∃ c', fn_Meaning_storeTo_Me N (nI wd) (nI p) c = some ((), c') ∧ c'.1 326 = upd (c.1 326) d (c.1 253 0) ∧ c'.1 249 0 = nI d ∧ c'.1 250 0 = 0 ∧ c'.1 251 0 = c.1 323 d ∧ Eb [249, 250, 251, 326] [] c c') ∧
    (c.1 324 d = 2 → ¬ (c.1 326 d = -1 ∨ c.1 326 d = c.1 253 0) → ∃ c', fn_Meaning_storeTo_Me N (nI wd) (nI p) c = some ((), c') ∧ Off c' 32 p ∧ XE c c') := by
  have so : fn_Checker_sortOf_Ch N (nI d) c = some (c.1 324 d, c) := by
    unfold fn_Checker_sortOf_Ch
    rw [h321, if_neg (nI_pos (by omega)), if_neg (nI_ge hd (by omega)), if_neg (nI_in (show d < 10923 by omega) (by decide)), nI_clamp (by omega)]
  have sta : c.1 326 d = -1 ∨ c.1 326 d = c.1 253 0 → True := fun _ => trivial
  refine ⟨fun q => ?_, fun q1 q2 => ?_, fun q1 q2 => ?_⟩
  · obtain ⟨c', a1, a2, a3⟩ := refuse_O (N := N) (w := 22) (p := p) h (by decide)
    refine ⟨c', ?_, a2, a3⟩
    unfold fn_Meaning_storeTo_Me
    rw [on_go h]
    dsimp only
    rw [if_pos rfl, hm, obind]
    dsimp only
    rw [so, obind]
    dsimp only
    rw [if_neg q, show fn_Checker_refuse_Ch N 22 (nI p) c = some ((), c') from a1, obind]
  · unfold fn_Meaning_storeTo_Me bk_Meaning_storeTo_Me_87
    rw [on_go h]
    dsimp only
    rw [if_pos rfl, hm, obind]
    dsimp only
    rw [so, obind]
    dsimp only
    rw [if_pos q1, if_neg (nI_in (show d < 10923 by omega) (by decide)), if_neg (nI_in (show d < 10923 by omega) (by decide)), nI_clamp (by omega)]
    have e : (if c.1 326 d = -1 then (some ((), upI (upI (upI (upI c 326 (upd (c.1 326) d (c.1 253 0))) 249 (fun _ => nI d)) 250 (fun _ => 0)) 251 (fun _ => c.1 323 d)) : Option (Unit × ms)) else if c.1 326 d = c.1 253 0 then some ((), upI (upI (upI (upI c 326 (upd (c.1 326) d (c.1 253 0))) 249 (fun _ => nI d)) 250 (fun _ => 0)) 251 (fun _ => c.1 323 d)) else (fn_Checker_refuse_Ch N 32 (nI p) c).bind (fun q_12 => some ((), q_12.2))) = some ((), upI (upI (upI (upI c 326 (upd (c.1 326) d (c.1 253 0))) 249 (fun _ => nI d)) 250 (fun _ => 0)) 251 (fun _ => c.1 323 d)) := by
      by_cases z : c.1 326 d = -1
      · rw [if_pos z]
      · rw [if_neg z, if_pos (q2.resolve_left z)]
    refine ⟨_, Eq.trans ?_ e, rfl, rfl, rfl, rfl, (((Eb.rfl.upI (by decide)).upI (by decide)).upI (by decide)).upI (by decide)⟩
    simp only [if_neg (nI_inN (show d < 10923 by omega) (show d < 2 ^ 31 by omega))]
  · obtain ⟨c', a1, a2, a3⟩ := refuse_O (N := N) (w := 32) (p := p) h (by decide)
    refine ⟨c', ?_, a2, a3⟩
    unfold fn_Meaning_storeTo_Me
    rw [on_go h]
    dsimp only
    rw [if_pos rfl, hm, obind]
    dsimp only
    rw [so, obind]
    dsimp only
    rw [if_pos q1, if_neg (nI_in (show d < 10923 by omega) (by decide)), nI_clamp (by omega), if_neg (fun z => q2 (Or.inl z)), if_neg (nI_inN (show d < 10923 by omega) (by omega)), if_neg (fun z => q2 (Or.inr z)), show fn_Checker_refuse_Ch N 32 (nI p) c = some ((), c') from a1, obind]
/-- a part of it -/
theorem storePart_C {h l w p : Nat} (X : Xc c T sz C) (hh : h < 65536) (hl : l < 65536) (hw : w ≤ 64) (hT : c.1 251 0 = nI w) :
    (¬ (h < l ∨ w ≤ h) → ∃ c', fn_Meaning_storePart_Me N (prt h l) (nI p) c = some ((), c') ∧ c'.1 250 0 = nI l ∧ c'.1 251 0 = nI (h - l + 1) ∧ Eb [250, 251] [] c c') ∧
    ((h < l ∨ w ≤ h) → ∃ c', fn_Meaning_storePart_Me N (prt h l) (nI p) c = some ((), c') ∧ Off c' 30 p ∧ Eb [238, 239, 241, 242, 243, 250, 251, 337] [336] c c') := by
  unfold fn_Meaning_storePart_Me fn_Checker_lowOf
  rw [on_go X]
  dsimp only
  rw [if_pos rfl, hT, partWidth_C hh hl hw, obind]
  dsimp only
  rw [obind, prt_lo hh hl]
  dsimp only
  constructor
  · intro q
    rw [if_neg q]
    have e : (upI c 251 (fun _ => nI (h - l + 1))).1 251 0 = nI (h - l + 1) := rfl
    rw [e, if_neg (show ¬ nI (h - l + 1) = (-1 : Int32) from of_eq_false (nm1F (by omega)))]
    exact ⟨_, rfl, rfl, rfl, (Eb.rfl.upI (by decide)).upI (by decide)⟩
  · intro q
    rw [if_pos q]
    have e : (upI c 251 (fun _ => (-1 : Int32))).1 251 0 = -1 := rfl
    rw [e, if_pos rfl]
    have X' : Xc (upI (upI c 251 (fun _ => (-1 : Int32))) 250 (fun _ => nI l)) T sz C := X
    obtain ⟨c', a1, a2, a3⟩ := refuse_O (N := N) (w := 30) (p := p) X' (by decide)
    rw [show fn_Checker_refuse_Ch N 30 (nI p) (upI (upI c 251 (fun _ => (-1 : Int32))) 250 (fun _ => nI l)) = some ((), c') from a1, obind]
    exact ⟨c', rfl, a2, ((Eb.rfl.upI (by decide)).upI (by decide)).trans (a3.mono (by decide) (by decide))⟩
/-- cost and an op, whether the checker is on or not -/
theorem spend2 {n K : Nat} {c : ms} (h : c.1 241 0 = nI K) (hK : K ≤ 268435456) (hn : n < 268435456) : ∃ c', fn_Checker_spend_Ch N (nI n) c = some ((), c') ∧ Eb [241] [] c c' := by
  unfold fn_Checker_spend_Ch
  rw [h, capped_C hn hK, obind]
  exact ⟨_, rfl, Eb.rfl.upI (by decide)⟩
theorem emit2 {z : Nat} {op arg : Int32} {c : ms} (h : c.1 337 0 = nI z) (hz : z + 1 < 40000) : ∃ c', fn_Code_emit_Ks N op arg c = some (nI z, c') ∧ Eb [337] [336] c c' ∧ c'.1 337 0 = nI (z + 1) := by
  unfold fn_Code_emit_Ks
  rw [h, if_pos (show nI z < 65537 from nI_lt (b := 65537) (by omega) (by decide)), if_neg (nI_in (show z < 65537 by omega) (by decide)), nI_clamp (by omega), nI_1, nI_pred]
  exact ⟨_, rfl, (Eb.rfl.upJ (by decide)).upI (by decide), rfl⟩
theorem sto_arg {a l w : Nat} (ha : a < 10923) (hl : l < 64) (hw : w ≤ 64) : ((((nI a) : Int32) <<< (14 &&& 31)) ||| ((nI l : Int32) <<< (7 &&& 31))) ||| nI w = nI (a * 16384 + l * 128 + w) := by
  apply i32_inj
  show (((BitVec.ofNat 32 a) <<< (14#32 : BitVec 32)) ||| ((BitVec.ofNat 32 l) <<< (7#32 : BitVec 32))) ||| BitVec.ofNat 32 w = BitVec.ofNat 32 (a * 16384 + l * 128 + w)
  apply BitVec.eq_of_toNat_eq
  have e1 : (BitVec.ofNat 32 a <<< (14#32 : BitVec 32)).toNat = a * 16384 := by
    show (BitVec.ofNat 32 a <<< (14#32 : BitVec 32).toNat).toNat = _
    rw [BitVec.toNat_shiftLeft, BitVec.toNat_ofNat, Nat.shiftLeft_eq, Nat.mod_eq_of_lt (show a < 2 ^ 32 by omega), Nat.mod_eq_of_lt (by show a * 2 ^ 14 < 2 ^ 32; omega)]
    rfl
  have e2 : (BitVec.ofNat 32 l <<< (7#32 : BitVec 32)).toNat = l * 128 := by
    show (BitVec.ofNat 32 l <<< (7#32 : BitVec 32).toNat).toNat = _
    rw [BitVec.toNat_shiftLeft, BitVec.toNat_ofNat, Nat.shiftLeft_eq, Nat.mod_eq_of_lt (show l < 2 ^ 32 by omega), Nat.mod_eq_of_lt (by show l * 2 ^ 7 < 2 ^ 32; omega)]
    rfl
  rw [BitVec.toNat_or, BitVec.toNat_or, e1, e2, BitVec.toNat_ofNat, BitVec.toNat_ofNat, Nat.mod_eq_of_lt (show w < 2 ^ 32 by omega), Nat.mod_eq_of_lt (show a * 16384 + l * 128 + w < 2 ^ 32 by omega)]
  have f1 : a * 16384 ||| l * 128 = a * 16384 + l * 128 := by
    have := Nat.shiftLeft_add_eq_or_of_lt (i := 14) (b := l * 128) (show l * 128 < 2 ^ 14 by omega) a
    rw [Nat.shiftLeft_eq] at this; exact this.symm
  rw [f1, show a * 16384 + l * 128 = (a * 128 + l) * 128 by omega]
  have := Nat.shiftLeft_add_eq_or_of_lt (i := 7) (b := w) (show w < 2 ^ 7 by omega) (a * 128 + l)
  rw [Nat.shiftLeft_eq] at this
  exact this.symm
/-- it is set -/
theorem stored_C {d fd l tw w p : Nat} (X : Xc c 1 sz C) (hz : sz + 1 < 40000) (h0 : c.1 238 0 = nI w) (h1 : c.1 249 0 = nI d) (h2 : c.1 250 0 = nI l) (h3 : c.1 251 0 = nI tw) (h4 : c.1 233 0 = nI fd) (hd : fd ≤ d ∧ d < 10923) (hl : l < 64) (htw : tw ≤ 64) (hw : w ≤ 64) :
    (w = tw → ∃ c', fn_Meaning_stored_Me N (nI p) c = some ((), c') ∧ Xc c' 0 (sz + 1) (C + tw) ∧ c'.2 336 = vp_updL (c.2 336) sz (crw 515 (nI ((d - fd) * 16384 + l * 128 + tw))) ∧ c'.1 255 0 = 1 ∧ Eb [238, 239, 241, 242, 243, 255, 337] [336] c c') ∧
    (w ≠ tw → ∃ c', fn_Meaning_stored_Me N (nI p) c = some ((), c') ∧ Off c' 30 p ∧ Eb [238, 239, 241, 242, 243, 255, 337] [336] c c') := by
  obtain ⟨c1, a1, a2, a3, a4, a5⟩ := pop_C (N := N) (T := 0) X
  have e251 : c1.1 251 0 = nI tw := by rw [a5.1 251 (by decide)]; exact h3
  unfold fn_Meaning_stored_Me fn_Checker_expWidth_Ch
  rw [on_go X]
  dsimp only
  rw [if_pos rfl, a1, obind, obind]
  dsimp only
  rw [h0, e251]
  constructor
  · intro q
    rw [if_pos (by rw [q])]
    unfold bk_Meaning_stored_Me_35 fn_Checker_localOf_Ch
    obtain ⟨c2, b1, b2, b3, b4, b5⟩ := spend_C (N := N) (n := tw) a2 (by omega)
    rw [e251, b1, obind]
    dsimp only
    have ek : Eb [238, 239, 241, 242, 243, 337] [336] c c2 := a5.trans b5
    rw [obind]
    dsimp only
    rw [ek.1 249 (by decide), ek.1 233 (by decide), ek.1 250 (by decide), ek.1 251 (by decide), h1, h2, h3, h4, nI_sub hd.1, sto_arg (by omega) hl htw]
    obtain ⟨c3, d1, d2, d3, d4, d5⟩ := emit_C (N := N) (op := 515) (arg := nI ((d - fd) * 16384 + l * 128 + tw)) b2 hz
    rw [d1, obind]
    exact ⟨_, rfl, d2, by show c3.2 336 = _; rw [d4, b4, a4], rfl, ((ek.mono (by decide) (by decide)).trans (d5.mono (by decide) (by decide))).upI (by decide)⟩
  · intro q
    rw [if_neg (fun z => q ((nI_eq (by omega) (by omega)).mp z))]
    obtain ⟨c2, b1, b2, b3⟩ := refuse_O (N := N) (w := 30) (p := p) a2 (by decide)
    rw [show fn_Checker_refuse_Ch N 30 (nI p) c1 = some ((), c2) from b1, obind]
    dsimp only
    unfold bk_Meaning_stored_Me_35 fn_Checker_localOf_Ch
    obtain ⟨c3, d1, d2⟩ := spend2 (N := N) (n := tw) (K := cap28 C) (c := c2) (by
      have := b1
      unfold fn_Checker_refuse_Ch at this
      obtain ⟨g1, g2, g3, g4, g5, g6, g7⟩ := a2
      rw [g1, if_pos (show nI 0 = 0 from rfl)] at this
      cases this
      exact g7) (by unfold cap28; omega) (by omega)
    have e2 : c2.1 251 0 = nI tw := by rw [b3.1 251 (by decide)]; exact e251
    rw [e2, d1, obind]
    dsimp only
    rw [obind]
    dsimp only
    have z2 : c3.1 337 0 = nI sz := by
      rw [d2.1 337 (by decide)]
      have := b1
      unfold fn_Checker_refuse_Ch at this
      obtain ⟨g1, g2, g3, g4, g5, g6, g7⟩ := a2
      rw [g1, if_pos (show nI 0 = 0 from rfl)] at this
      cases this
      exact g5
    obtain ⟨c4, f1, f2, -⟩ := emit2 (N := N) (op := 515) (arg := ((((c3.1 249 0 - c3.1 233 0) : Int32) <<< (14 &&& 31)) ||| ((c3.1 250 0 : Int32) <<< (7 &&& 31))) ||| c3.1 251 0) z2 hz
    rw [f1, obind]
    have o3 := b2.mono d2 (by decide) (by decide)
    refine ⟨_, rfl, ?_, (((a5.mono (by decide) (by decide)).trans (b3.mono (by decide) (by decide))).trans ((d2.mono (by decide) (by decide)).trans (f2.mono (by decide) (by decide)))).upI (by decide)⟩
    exact (o3.mono f2 (by decide) (by decide)).mono (ks := [255]) (js := []) (Eb.rfl.upI (by decide)) (by decide) (by decide)
end CMEA
