/-! The class: items: declarations. -/
abbrev KP (c c' : ms) : Prop := Eb [213, 214, 215, 216, 217, 218, 219, 232, 233, 234, 235, 236, 237, 238, 239, 240, 241, 242, 243, 248, 249, 250, 251, 252, 253, 254, 255, 256, 257, 258, 259, 260, 264, 265, 266, 267, 268, 269, 270, 271, 272, 273, 274, 275, 309, 311, 312, 313, 314, 315, 317, 318, 319, 320, 321, 322, 323, 324, 326, 327, 328, 329, 330, 331, 332, 333, 334, 335, 337, 600, 601, 602, 603, 604] [325, 336] c c'
section CITM
variable {tk pl vl wi wd : Nat → Nat} {nt nw N N0 N1 lc : Nat} {ex : Nat → Int32} {lit : Nat → Int64} {c c' c0 : ms} {A : ds} {t sz C I K : Nat} {σ σ' : gs} {μ : Option (Nat × Nat)}
/-- an item is told -/
def ItPost (tk pl wd : Nat → Nat) (nt nw : Nat) (ex : Nat → Int32) (N : Nat) (lit : Nat → Int64) (lc : Nat) (c : ms) (σ σ' : gs) (μ : Option (Nat × Nat)) (r : dr) : Prop :=
  ∃ k c' sz', Rc N k c c' ∧ k + 1 ≤ 4 * (σ'.1 - σ.1) ∧ c'.1 264 0 = 2 ∧ KP c c' ∧ CG tk pl nt ex c' σ' ∧ σ'.2.2.1 = 0 ∧ σ'.2.1 = σ.2.1 ∧ σ.1 < σ'.1 ∧ c'.1 271 0 = nI 0 ∧ Mr tk pl wd nt nw lit lc μ r σ'.1 sz' c'
theorem KD.toKP (h : KD c c') : KP c c' := h.mono (by decide) (by decide)
theorem F7.toKP (h : F7 c c') : KP c c' := h.mono (by decide) (by decide)
theorem On.p1 (h : On tk pl wd nt nw lit lc A t sz c) : WF tk nt A t := h.2.2.2.2.2.2.2
/-- one token more, and the meaning stands still -/
theorem Mr.tick {r : dr} {u : Nat} {ks : List Nat} (h : Mr tk pl wd nt nw lit lc μ r u sz c) (e : Eb ks [] c c') (hk : dcL.all (fun k => !ks.contains k) = true) (hk2 : (242 ∉ ks ∧ 239 ∉ ks ∧ 337 ∉ ks ∧ 241 ∉ ks) ∧ 248 ∉ ks ∧ 253 ∉ ks ∧ 260 ∉ ks) (hk3 : 243 ∉ ks) (h2 : c'.1 217 0 = nI 0) (hu : u < nt) : Mr tk pl wd nt nw lit lc μ (db r (fun t1 A1 => if nt ≤ t1 then none else dok (t1 + 1) A1)) (u + 1) sz c' := by
  refine ⟨fun fp z => (h.1 fp z).keepD e hk hk2.1.1 hk3, fun z => ?_⟩
  obtain ⟨q, q1, q2, q3⟩ := h.2 z
  cases q with
  | inl fp => exact ⟨.inl fp, by rw [q1]; rfl, fun f p y => (by cases y; exact (q2 f p rfl).keepD e hk hk2.1.1 hk3), fun _ _ y => (by cases y)⟩
  | inr q =>
    obtain ⟨t1, A1⟩ := q
    obtain ⟨z1, z2⟩ := q3 t1 A1 rfl
    subst z1
    refine ⟨.inr (t1 + 1, A1), by rw [q1, db_inr, if_neg (by omega)]; rfl, fun _ _ y => (by cases y), fun t' A' y => ?_⟩
    cases y
    exact ⟨rfl, z2.keep e hk hk2 h2 (by omega)⟩
theorem it_decl {k kk : Nat} {r : Bool} (T' : Tv tk pl nt) (hV : Vb tk vl wi) (hk : (kk = 304 ∧ k = 3 ∧ r = false) ∨ (kk = 305 ∧ k = 4 ∧ r = true)) (hK : KS tk pl vl wi wd nt ex nw lit lc c) (h0 : σ.2.2.1 = 0) (h2 : c.1 264 0 = 2) (h271 : c.1 271 0 = nI 0) (hG : CG tk pl nt ex c σ) (hkk : tk σ.1 = kk) (hW0 : WF tk nt A t) (ht : t ≤ σ.1) (hs : Md tk pl wd nt nw lit lc A t sz c μ) :
    ∃ σ', ((gDcl tk pl r (gInc σ)).bind (fun σ => some (gTake tk pl 59 σ))) = some σ' ∧ (DeadS 4 tk pl nt ex N c σ σ' ∨ ItPost tk pl wd nt nw ex N lit lc c σ σ' μ (db (dDecl tk pl vl wi wd nt k (σ.1 + 1) A) (fun t1 A1 => if nt ≤ t1 then none else dok (t1 + 1) A1))) := by
  have hnt := T'.2.1
  have t1n := T'.more hG.2.1 hkk (by omega) (by omega)
  obtain ⟨c1, a1, a2, a3⟩ := ktake (N := N) T' hG (fun _ => t1n)
  rw [if_pos h0] at a2
  have h4 : k ≤ 4 := by omega
  have hr : r = decide (srt k = 2) := by
    rcases hk with ⟨-, rfl, rfl⟩ | ⟨-, rfl, rfl⟩ <;> decide
  obtain ⟨c2, σ2, b1, b2, b3, b4, b5, b6⟩ := declO (N := N) (k := k) (r := r) (t := t) (A := A) (μ := μ) (sz := sz) T' hV h4 hr (hK.keep a3 (by decide) (by decide)) (by show t < σ.1 + 1; omega) a2 hW0 (fun _ => hs.keep a3 (by decide) (by decide) (by decide) (a2.alive h0) (Nat.le_refl _))
  obtain ⟨c3, d1, d2, d3⟩ := kneed (N := N) T' 59 (by decide) b3
  rw [b1, obind]
  have hmv : mv N c = some ((), c3) := by
    rw [mv2 h2]
    unfold fn_Grammar_item_Gr
    rw [if_neg (show ¬ c.1 214 0 = 2 from kneg (k := 400) T' hG (by decide) (fun _ => by omega)), if_neg (show ¬ c.1 214 0 = 129 from kneg (k := 301) T' hG (by decide) (fun _ => by omega))]
    rcases hk with ⟨rfl, rfl, rfl⟩ | ⟨rfl, rfl, rfl⟩
    · rw [if_pos (show c.1 214 0 = 132 from kpos (k := 304) hG h0 hkk), a1, obind]
      dsimp only
      rw [if_neg (show ¬ c.1 214 0 = 133 from kneg (k := 305) T' hG (by decide) (fun _ => by omega))]
      unfold bk_Grammar_item_Gr_96
      rw [show fn_Grammar_declaration_Gr N 1 c1 = some ((), c2) from b2, obind]
      dsimp only
      rw [show fn_Tokens_need_Tk N 59 c2 = some ((), c3) from d1, obind]
    · rw [if_neg (show ¬ c.1 214 0 = 132 from kneg (k := 304) T' hG (by decide) (fun _ => by omega)), if_pos (show c.1 214 0 = 133 from kpos (k := 305) hG h0 hkk), a1, obind]
      dsimp only
      rw [if_pos (show c.1 214 0 = 133 from kpos (k := 305) hG h0 hkk)]
      unfold bk_Grammar_item_Gr_96
      rw [show fn_Grammar_declaration_Gr N 2 c1 = some ((), c2) from b2, obind]
      dsimp only
      rw [show fn_Tokens_need_Tk N 59 c2 = some ((), c3) from d1, obind]
  have r1 : Rc N 1 c c3 := Rc.one (hG.alive h0) (by rw [h2]; decide) hmv
  have b5' : σ.1 + 1 ≤ σ2.1 := b5
  have le := gTake_le (tk := tk) (pl := pl) (k := 59) (σ := σ2)
  have e3 : KD c c3 := ((a3.mono (by decide) (by decide)).trans b4).trans (d3.mono (by decide) (by decide))
  refine ⟨gTake tk pl 59 σ2, rfl, ?_⟩
  by_cases al : (gTake tk pl 59 σ2).2.2.1 = 0
  · right
    obtain ⟨x1, x2, x3⟩ := gTake_al al
    obtain ⟨y1, y2, y3, y4⟩ := b6 x1
    have y2' : σ2.2.1 = σ.2.1 := y2
    have y3' : σ.1 + 1 < σ2.1 := y3
    have u : (gTake tk pl 59 σ2).1 = σ2.1 + 1 := by rw [x3]; rfl
    refine ⟨1, c3, sz, r1, by omega, by rw [e3.1 264 (by decide)]; exact h2, e3.toKP, d2, al, by rw [x3]; exact y2', by omega, by rw [e3.1 271 (by decide)]; exact h271, ?_⟩
    rw [u]
    exact (y4 (fun _ => by omega)).tick d3 (by decide) (by decide) (by decide) (d2.alive al) b3.2.1
  · exact Or.inl ⟨al, by omega, 1, c3, r1, by omega, d2⟩
end CITM
