/-! The class: the end of an if, and its else. -/
section CIFE
variable {tk pl : Nat → Nat} {nt : Nat} {ex : Nat → Int32} {N : Nat}
theorem ctx5 {c : ms} {kd : Nat} {x : Int32} (h5 : c.1 264 0 = 5) (hk : c.1 271 0 = nI (kd + 1)) (hk2 : kd < 60) (hx : c.1 270 kd = x) :
    (x = 140 → c.1 214 0 = 141 → mv N c = (fn_Grammar_otherwise_Gr N c).bind (fun q_2 => some ((), q_2.2))) ∧ (x = 140 → ¬ c.1 214 0 = 141 → mv N c = (fn_Grammar_ifEnd_Gr N c).bind (fun q_2 => some ((), q_2.2))) ∧ (x = 141 → mv N c = (fn_Grammar_ifEnd_Gr N c).bind (fun q_2 => some ((), q_2.2))) := by
  have e : mv N c = fn_Grammar_behindStatement_Gr N c := mv5 h5
  unfold fn_Grammar_behindStatement_Gr at e
  rw [hk, if_neg (nI_ne0 (by omega) (by omega)), nI_pred, if_neg (nI_in hk2 (by decide)), nI_clamp (by omega), hx] at e
  refine ⟨fun a b => ?_, fun a b => ?_, fun a => ?_⟩
  · rw [a, if_neg (by decide), if_pos rfl, if_pos b] at e; exact e
  · rw [a, if_neg (by decide), if_pos rfl, if_neg b] at e; exact e
  · rw [a, if_neg (by decide), if_neg (by decide), if_pos rfl] at e; exact e
/-- the end of an if -/
theorem ifE {c : ms} {σ σ' : gs} {kd : Nat} (hG : CG tk pl nt ex c σ) (hd : gDn σ = some σ') (hk : c.1 271 0 = nI (kd + 1)) (hm : mv N c = (fn_Grammar_ifEnd_Gr N c).bind (fun q_2 => some ((), q_2.2))) :
    (OffC c → ∃ c', mv N c = some ((), c') ∧ CG tk pl nt ex c' σ' ∧ c'.1 271 0 = nI kd ∧ Eb [219, 271] [] c c') ∧
    (∀ T sz C md j op g, Xc c T sz C → c.1 260 0 = nI (md + 1) → md < 60 → c.1 256 md = nI j → j < sz → c.2 336 j = crw op g → ∃ c', mv N c = some ((), c') ∧ CG tk pl nt ex c' σ' ∧ c'.1 271 0 = nI kd ∧ Xc c' T sz C ∧ c'.2 336 = vp_updL (c.2 336) j (crw op (nI sz)) ∧ c'.1 260 0 = nI md ∧ Eb [219, 260, 271] [336] c c') := by
  have hG1 : CG tk pl nt ex (upI c 219 (fun _ => c.1 219 0 - 1)) σ' := kdn hG hd
  have ek1 : Eb [219] [] c (upI c 219 (fun _ => c.1 219 0 - 1)) := Eb.rfl.upI (by decide)
  unfold fn_Grammar_ifEnd_Gr fn_Tokens_shutQuietly_Tk at hm
  rw [obind] at hm
  dsimp only at hm
  constructor
  · intro o
    have o1 : OffC (upI c 219 (fun _ => c.1 219 0 - 1)) := o
    rw [off_ifEnd o1, obind, obind] at hm
    dsimp only at hm
    refine ⟨_, hm, hG1.upI (by decide), ?_, ek1.mono (by decide) (by decide) |>.upI (by decide)⟩
    show c.1 271 0 - 1 = nI kd
    rw [hk, nI_pred]
  · intro T sz C md j op g X h260 hmd h256 hj hr
    have X1 : Xc (upI c 219 (fun _ => c.1 219 0 - 1)) T sz C := X
    obtain ⟨c2, a1, a2, a3, a4, a5⟩ := ifEnd_C (N := N) (md := md) (j := j) (op := op) (g := g) X1 h260 hmd h256 hj hr
    rw [a1, obind, obind] at hm
    dsimp only at hm
    refine ⟨_, hm, (hG1.mono a5 (fun k _ _ => by simp; omega) (by decide)).upI (by decide), ?_, a2, a3, a4, ((ek1.mono (by decide) (by decide)).trans (a5.mono (by decide) (by decide))).upI (by decide)⟩
    show c2.1 271 0 - 1 = nI kd
    rw [a5.1 271 (by decide)]
    show c.1 271 0 - 1 = nI kd
    rw [hk, nI_pred]
/-- else -/
theorem elseE {c : ms} {σ : gs} {kd : Nat} (T : Tv tk pl nt) (hG : CG tk pl nt ex c σ) (h0 : σ.2.2.1 = 0) (hl : σ.1 + 1 < nt) (hk : c.1 271 0 = nI (kd + 1)) (hk2 : kd < 60) (hm : mv N c = (fn_Grammar_otherwise_Gr N c).bind (fun q_2 => some ((), q_2.2))) :
    (OffC c → ∃ c', mv N c = some ((), c') ∧ CG tk pl nt ex c' (gInc σ) ∧ c'.1 264 0 = 4 ∧ c'.1 270 = upd (c.1 270) kd 141 ∧ c'.1 271 0 = nI (kd + 1) ∧ Eb [213, 214, 215, 216, 217, 218, 219, 264, 270] [] c c') ∧
    (∀ T0 sz C md j op g, Xc c T0 sz C → sz + 1 < 40000 → c.1 260 0 = nI (md + 1) → md < 60 → c.1 256 md = nI j → j < sz → c.2 336 j = crw op g → ∃ c', mv N c = some ((), c') ∧ CG tk pl nt ex c' (gInc σ) ∧ c'.1 264 0 = 4 ∧ c'.1 270 = upd (c.1 270) kd 141 ∧ c'.1 271 0 = nI (kd + 1) ∧ Xc c' T0 (sz + 1) C ∧ c'.2 336 = vp_updL (vp_updL (c.2 336) sz (crw 517 (-1))) j (crw op (nI (sz + 1))) ∧ c'.1 256 = upd (c.1 256) md (nI sz) ∧ Eb [213, 214, 215, 216, 217, 218, 219, 238, 239, 241, 242, 243, 256, 264, 270, 337] [336] c c') := by
  obtain ⟨c1, b1, b2, b3⟩ := ktake (N := N) T hG (fun _ => hl)
  rw [if_pos h0] at b2
  have k1 : c1.1 271 0 = nI (kd + 1) := by rw [b3.1 271 (by decide)]; exact hk
  unfold fn_Grammar_otherwise_Gr at hm
  rw [b1, obind] at hm
  dsimp only at hm
  have al1 : c1.1 217 0 = nI 0 := b2.alive h0
  constructor
  · intro o
    have o1 : OffC c1 := by
      rcases o with o | o
      · exact Or.inl (by rw [b3.1 242 (by decide)]; exact o)
      · exact absurd (hG.alive h0) o
    rw [off_otherwise o1, obind] at hm
    dsimp only at hm
    rw [goOn_C k1 hk2, obind, obind] at hm
    dsimp only at hm
    exact ⟨_, hm, (b2.upI (by decide)).upI (by decide), rfl, by show upd (c1.1 270) kd 141 = _; rw [b3.1 270 (by decide)], k1, ((b3.mono (by decide) (by decide)).upI (by decide)).upI (by decide)⟩
  · intro T0 sz C md j op g X hz h260 hmd h256 hj hr
    have X1 : Xc c1 T0 sz C := X.mono b3 (by decide) al1
    obtain ⟨c2, a1, a2, a3, a4, a5⟩ := otherwise_C (N := N) (md := md) (j := j) (op := op) (g := g) X1 hz (by rw [b3.1 260 (by decide)]; exact h260) hmd (by rw [b3.1 256 (by decide)]; exact h256) hj (by rw [b3.2 336 (by decide)]; exact hr)
    rw [a1, obind] at hm
    dsimp only at hm
    have k2 : c2.1 271 0 = nI (kd + 1) := by rw [a5.1 271 (by decide)]; exact k1
    rw [goOn_C k2 hk2, obind, obind] at hm
    dsimp only at hm
    refine ⟨_, hm, ((b2.mono a5 (fun k _ _ => by simp; omega) (by decide)).upI (by decide)).upI (by decide), rfl, ?_, k2, a2, ?_, ?_, (((b3.mono (by decide) (by decide)).trans (a5.mono (by decide) (by decide))).upI (by decide)).upI (by decide)⟩
    · show upd (c2.1 270) kd 141 = _
      rw [a5.1 270 (by decide), b3.1 270 (by decide)]
    · show c2.2 336 = _
      rw [a3, b3.2 336 (by decide)]
    · show c2.1 256 = _
      rw [a4, b3.1 256 (by decide)]
end CIFE
