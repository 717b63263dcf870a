/-! The class: ports. -/
section CPORT
variable {tk pl vl wi wd : Nat → Nat} {nt nw N N0 N1 lc : Nat} {ex : Nat → Int32} {lit : Nat → Int64} {c c' c0 : ms} {A : ds} {t sz : Nat} {σ σ' : gs} {μ : Option (Nat × Nat)}
/-- between items: the meaning stands at token t -/
def On (tk pl wd : Nat → Nat) (nt nw : Nat) (lit : Nat → Int64) (lc : Nat) (A : ds) (t sz : Nat) (c : ms) : Prop :=
  (∃ T, Xc c T sz (A.1 47 0)) ∧ DC pl wd nw lit lc A (A.1 41 0) (A.1 42 0) sz c ∧ c.1 248 0 = nI 1 ∧ c.1 253 0 = nI (A.1 44 0) ∧ (∀ d, A.1 5 d ≤ 20000) ∧ sz ≤ t ∧ c.1 260 0 = nI 0 ∧ WF tk nt A t
theorem On.keep {ks : List Nat} {t' : Nat} (h : On tk pl wd nt nw lit lc A t sz c) (e : Eb ks [] c c') (hk : dcL.all (fun k => !ks.contains k) = true) (hk2 : (242 ∉ ks ∧ 239 ∉ ks ∧ 337 ∉ ks ∧ 241 ∉ ks) ∧ 248 ∉ ks ∧ 253 ∉ ks ∧ 260 ∉ ks) (h2 : c'.1 217 0 = nI 0) (ht : t ≤ t') : On tk pl wd nt nw lit lc A t' sz c' := by
  obtain ⟨⟨T, X⟩, h2', h3, h4, h5, h6, h7, h8⟩ := h
  exact ⟨⟨T, X.mono e hk2.1 h2⟩, h2'.keep e hk (by decide) (fun k _ => by rw [e.2 336 (by decide)]) (Nat.le_refl _), by rw [e.1 248 hk2.2.1]; exact h3, by rw [e.1 253 hk2.2.2.1]; exact h4, h5, by omega, by rw [e.1 260 hk2.2.2.2]; exact h7, h8.later ht⟩
theorem OffN.keepD {f p : Nat} {ks js : List Nat} (h : OffN nw c f p) (e : Eb ks js c c') (hk : dcL.all (fun k => !ks.contains k) = true) (h2 : 242 ∉ ks) (h3 : 243 ∉ ks) : OffN nw c' f p := by
  refine ⟨h.1.mono e h2 h3, h.2.keep e ?_⟩
  rw [List.all_eq_true] at hk ⊢
  intro k hk2
  apply hk
  revert hk2
  simp only [List.mem_cons, List.not_mem_nil, or_false]
  rintro (rfl | rfl | rfl | rfl | rfl | rfl) <;> decide
/-- the class stands, or has a fault -/
def Md (tk pl wd : Nat → Nat) (nt nw : Nat) (lit : Nat → Int64) (lc : Nat) (A : ds) (t sz : Nat) (c : ms) (μ : Option (Nat × Nat)) : Prop := (∀ fp, μ = some fp → OffN nw c fp.1 fp.2) ∧ (μ = none → On tk pl wd nt nw lit lc A t sz c)
theorem Md.keep {ks : List Nat} {t' : Nat} (h : Md tk pl wd nt nw lit lc A t sz c μ) (e : Eb ks [] c c') (hk : dcL.all (fun k => !ks.contains k) = true) (hk2 : (242 ∉ ks ∧ 239 ∉ ks ∧ 337 ∉ ks ∧ 241 ∉ ks) ∧ 248 ∉ ks ∧ 253 ∉ ks ∧ 260 ∉ ks) (hk3 : 243 ∉ ks) (h2 : c'.1 217 0 = nI 0) (ht : t ≤ t') : Md tk pl wd nt nw lit lc A t' sz c' μ :=
  ⟨fun fp z => (h.1 fp z).keepD e hk hk2.1.1 hk3, fun z => (h.2 z).keep e hk hk2 h2 ht⟩
/-- what the spec's result says of the class -/
def Mr (tk pl wd : Nat → Nat) (nt nw : Nat) (lit : Nat → Int64) (lc : Nat) (μ : Option (Nat × Nat)) (r : dr) (u sz : Nat) (c : ms) : Prop := (∀ fp, μ = some fp → OffN nw c fp.1 fp.2) ∧ (μ = none → ∃ q, r = some q ∧ (∀ f p, q = .inl (f, p) → OffN nw c f p) ∧ (∀ t' A', q = .inr (t', A') → t' = u ∧ On tk pl wd nt nw lit lc A' t' sz c))
theorem declO {k : Nat} {r : Bool} (T' : Tv tk pl nt) (hV : Vb tk vl wi) (h4 : k ≤ 4) (hr : r = decide (srt k = 2)) (hK : KS tk pl vl wi wd nt ex nw lit lc c) (ht : t < σ.1) (hG : CG tk pl nt ex c σ) (hW0 : WF tk nt A t) (hs : σ.2.2.1 = 0 → Md tk pl wd nt nw lit lc A t sz c μ) :
    ∃ c' σ', gDcl tk pl r σ = some σ' ∧ fn_Grammar_declaration_Gr N (nI (srt k)) c = some ((), c') ∧ CG tk pl nt ex c' σ' ∧ KD c c' ∧ σ.1 ≤ σ'.1 ∧ (σ'.2.2.1 = 0 → σ.2.2.1 = 0 ∧ σ'.2.1 = σ.2.1 ∧ σ.1 < σ'.1 ∧ ((r = false → tk σ'.1 ≠ 61) → Mr tk pl wd nt nw lit lc μ (dDecl tk pl vl wi wd nt k σ.1 A) σ'.1 sz c')) := by
  have X0 : ∃ T, σ.2.2.1 = 0 → μ = none → Xc c T sz (A.1 47 0) := by
    by_cases al : σ.2.2.1 = 0
    · cases hμ : μ with
      | some fp => exact ⟨0, fun _ z => (by cases z)⟩
      | none => obtain ⟨⟨T, X⟩, -⟩ := (hs al).2 hμ; exact ⟨T, fun _ _ => X⟩
    · exact ⟨0, fun z => absurd z al⟩
  obtain ⟨T, X0⟩ := X0
  obtain ⟨c', σ', g1, g2, g3, g4, g5, g6⟩ := decl_C (N := N) (k := k) (r := r) (μ := μ) (T := T) (C := A.1 47 0) (K := A.1 42 0) (sz := sz) T' hV h4 hr hK hW0 ht hG (fun al => ⟨(hs al).1, fun z => ⟨X0 al z, ((hs al).2 z).2.1, ((hs al).2 z).2.2.1⟩⟩)
  refine ⟨c', σ', g1, g2, g3, g4, g5, fun z => ?_⟩
  obtain ⟨x1, x2, x3, x4, x5⟩ := g6 z
  refine ⟨x1, x2, x3, fun ne => ⟨x4, fun y => ?_⟩⟩
  obtain ⟨q, y1, y2, y3⟩ := x5 y ne
  refine ⟨q, y1, y2, fun t' A' e => ?_⟩
  obtain ⟨z1, z2, z3, z4, z5, z6, z7, z8, z9⟩ := y3 t' A' e
  obtain ⟨-, o2, o3, o4, o5, o6, o7, o8⟩ := (hs x1).2 y
  have wo := dDecl_wo (pl := pl) (wd := wd) hV hW0 ht h4 t' A' (by rw [← e]; exact y1)
  refine ⟨z1, ⟨T, by rw [z7]; exact z2⟩, by rw [z4, z5]; exact z3, z9, by rw [g4.1 253 (by decide), z6]; exact o4, fun d => ?_, by omega, by rw [g4.1 260 (by decide)]; exact o7, wo.1⟩
  rw [z8 d]
  split
  · omega
  · exact o5 d
theorem Mr.off {r : dr} {u : Nat} {fp : Nat × Nat} (o : OffN nw c fp.1 fp.2) (h1 : ∀ q, μ = some q → q = fp) (h2 : μ = none → r = some (.inl fp)) : Mr tk pl wd nt nw lit lc μ r u sz c :=
  ⟨fun q z => (by rw [h1 q z]; exact o), fun z => ⟨.inl fp, h2 z, fun f p y => (by cases y; exact o), fun _ _ y => (by cases y)⟩⟩
theorem Mr.keep {r : dr} {u : Nat} {ks : List Nat} (h : Mr tk pl wd nt nw lit lc μ r u sz c) (e : Eb ks [] c c') (hk : dcL.all (fun k => !ks.contains k) = true) (hk2 : (242 ∉ ks ∧ 239 ∉ ks ∧ 337 ∉ ks ∧ 241 ∉ ks) ∧ 248 ∉ ks ∧ 253 ∉ ks ∧ 260 ∉ ks) (hk3 : 243 ∉ ks) (h2 : c'.1 217 0 = nI 0) : Mr tk pl wd nt nw lit lc μ r u sz c' := by
  refine ⟨fun fp z => (h.1 fp z).keepD e hk hk2.1.1 hk3, fun z => ?_⟩
  obtain ⟨q, q1, q2, q3⟩ := h.2 z
  exact ⟨q, q1, fun f p y => (q2 f p y).keepD e hk hk2.1.1 hk3, fun t' A' y => ⟨(q3 t' A' y).1, (q3 t' A' y).2.keep e hk hk2 h2 (Nat.le_refl _)⟩⟩
/-- a port -/
theorem port_C (T' : Tv tk pl nt) (hV : Vb tk vl wi) (hK : KS tk pl vl wi wd nt ex nw lit lc c) (ht : σ.2.2.1 = 0 → t ≤ σ.1) (hG : CG tk pl nt ex c σ) (hW0 : WF tk nt A t) (hs : σ.2.2.1 = 0 → Md tk pl wd nt nw lit lc A t sz c μ) :
    ∃ c' σ', gPort tk pl σ = some σ' ∧ fn_Grammar_port_Gr N c = some ((), c') ∧ CG tk pl nt ex c' σ' ∧ KD c c' ∧ σ.1 ≤ σ'.1 ∧ (σ'.2.2.1 = 0 → σ.2.2.1 = 0 ∧ σ'.2.1 = σ.2.1 ∧ σ.1 < σ'.1 ∧ (tk σ.1 = 302 ∨ tk σ.1 = 303) ∧ (tk σ'.1 ≠ 61 → Mr tk pl wd nt nw lit lc μ (dPort tk pl vl wi wd nt σ.1 A) σ'.1 sz c')) := by
  unfold gPort fn_Grammar_port_Gr
  have kd : ∀ {a b : ms}, F7 a b → KD a b := fun h => h.mono (by decide) (by decide)
  by_cases g : gIs tk 302 σ = true
  · have g' := g
    simp only [gIs, decide_eq_true_eq] at g'
    obtain ⟨al, k302⟩ := g'
    have t1n := T'.more hG.2.1 k302 (by decide) (by decide)
    rw [if_pos g, if_pos (show c.1 214 0 = 130 from kpos (k := 302) hG al k302)]
    obtain ⟨c1, a1, a2, a3⟩ := ktake (N := N) T' hG (fun _ => t1n)
    rw [if_pos al] at a2
    obtain ⟨c', σ', b1, b2, b3, b4, b5, b6⟩ := declO (N := N) (k := 0) (r := false) (t := t) (A := A) (μ := μ) (sz := sz) T' hV (by omega) (by decide) (hK.keep a3 (by decide) (by decide)) (by have := ht al; show t < σ.1 + 1; omega) a2 hW0 (fun _ => (hs al).keep a3 (by decide) (by decide) (by decide) (a2.alive al) (Nat.le_refl _))
    rw [a1, obind]
    dsimp only
    rw [show fn_Grammar_declaration_Gr N 0 c1 = some ((), c') from b2, obind]
    have b5' : σ.1 + 1 ≤ σ'.1 := b5
    refine ⟨c', σ', b1, rfl, b3, (kd a3).trans b4, by omega, fun z => ?_⟩
    obtain ⟨x1, x2, x3, x4⟩ := b6 z
    have x3' : σ.1 + 1 < σ'.1 := x3
    refine ⟨al, x2, by omega, Or.inl k302, fun ne => ?_⟩
    have dp : dPort tk pl vl wi wd nt σ.1 A = dDecl tk pl vl wi wd nt 0 (σ.1 + 1) A := by
      unfold dPort
      rw [if_neg (by omega), if_pos k302]
    rw [dp]
    exact x4 (fun _ => ne)
  · have gf : gIs tk 302 σ = false := Bool.eq_false_iff.mpr g
    rw [if_neg g, if_neg (show ¬ c.1 214 0 = 130 from kneg (k := 302) T' hG (by decide) (fun z y => g (gIs_t z y)))]
    obtain ⟨c1, a1, a2, a3⟩ := kneed (N := N) T' 303 (by decide) hG
    rw [show fn_Tokens_need_Tk N 131 c = some ((), c1) from a1, obind]
    dsimp only
    have le := gTake_le (tk := tk) (pl := pl) (k := 303) (σ := σ)
    have md1 : (gTake tk pl 303 σ).2.2.1 = 0 → Md tk pl wd nt nw lit lc A t sz c1 μ := fun z => (hs (gTake_al z).1).keep a3 (by decide) (by decide) (by decide) (a2.alive z) (Nat.le_refl _)
    by_cases g5 : gIs tk 305 (gTake tk pl 303 σ) = true
    · have g' := g5
      simp only [gIs, decide_eq_true_eq] at g'
      obtain ⟨al1, k305⟩ := g'
      obtain ⟨al, k303, e3⟩ := gTake_al al1
      rw [e3] at a2 k305 md1 ⊢
      have k305' : tk (σ.1 + 1) = 305 := k305
      have t1n := T'.more a2.2.1 k305 (by decide) (by decide)
      have t1n' : σ.1 + 1 + 1 < nt := t1n
      have gg : gIs tk 305 (gInc σ) = true := gIs_t (σ := gInc σ) al k305'
      rw [gg, if_pos rfl, if_pos (show c1.1 214 0 = 133 from kpos (k := 305) a2 al k305')]
      obtain ⟨c2, b1, b2, b3⟩ := ktake (N := N) T' a2 (fun _ => t1n)
      rw [if_pos (show (gInc σ).2.2.1 = 0 from al)] at b2
      obtain ⟨c', σ', d1, d2, d3, d4, d5, d6⟩ := declO (N := N) (k := 2) (r := true) (t := t) (A := A) (μ := μ) (sz := sz) T' hV (by omega) (by decide) ((hK.keep a3 (by decide) (by decide)).keep b3 (by decide) (by decide)) (by have := ht al; show t < σ.1 + 1 + 1; omega) b2 hW0 (fun _ => (md1 al).keep b3 (by decide) (by decide) (by decide) (b2.alive al) (Nat.le_refl _))
      rw [b1, obind]
      dsimp only
      rw [show fn_Grammar_declaration_Gr N 2 c2 = some ((), c') from d2, obind]
      have d5' : σ.1 + 1 + 1 ≤ σ'.1 := d5
      refine ⟨c', σ', d1, rfl, d3, ((kd a3).trans (kd b3)).trans d4, by omega, fun z => ?_⟩
      obtain ⟨x1, x2, x3, x4⟩ := d6 z
      have x3' : σ.1 + 1 + 1 < σ'.1 := x3
      refine ⟨al, x2, by omega, Or.inr k303, fun ne => ?_⟩
      have dp : dPort tk pl vl wi wd nt σ.1 A = dDecl tk pl vl wi wd nt 2 (σ.1 + 2) A := by
        unfold dPort
        rw [if_neg (by omega), if_neg (fun z => g (gIs_t al z)), if_pos k305']
      rw [dp]
      exact x4 (fun q => (by cases q))
    · rw [if_neg g5, if_neg (show ¬ c1.1 214 0 = 133 from kneg (k := 305) T' a2 (by decide) (fun z y => g5 (gIs_t z y)))]
      by_cases al1 : (gTake tk pl 303 σ).2.2.1 = 0
      · obtain ⟨al, k303, e3⟩ := gTake_al al1
        rw [e3] at a2 g5 md1 ⊢
        have n305 : tk (σ.1 + 1) ≠ 305 := fun z => g5 (gIs_t (σ := gInc σ) al z)
        obtain ⟨c', σ', d1, d2, d3, d4, d5, d6⟩ := declO (N := N) (k := 1) (r := false) (t := t) (A := A) (μ := μ) (sz := sz) T' hV (by omega) (by decide) (hK.keep a3 (by decide) (by decide)) (by have := ht al; show t < σ.1 + 1; omega) a2 hW0 md1
        rw [show fn_Grammar_declaration_Gr N 1 c1 = some ((), c') from d2, obind]
        have d5' : σ.1 + 1 ≤ σ'.1 := d5
        refine ⟨c', σ', d1, rfl, d3, (kd a3).trans d4, by omega, fun z => ?_⟩
        obtain ⟨x1, x2, x3, x4⟩ := d6 z
        have x3' : σ.1 + 1 < σ'.1 := x3
        refine ⟨al, x2, by omega, Or.inr k303, fun ne => ?_⟩
        have dp : dPort tk pl vl wi wd nt σ.1 A = dDecl tk pl vl wi wd nt 1 (σ.1 + 1) A := by
          unfold dPort
          rw [if_neg (by have := a2.2.1; have : σ.1 + 1 < nt := this; omega), if_neg (fun z => g (gIs_t al z)), if_neg n305]
        rw [dp]
        exact x4 (fun _ => ne)
      · -- behind a fault
        obtain ⟨σ2, r1⟩ : ∃ σ2, gRange tk pl (gTake tk pl 303 σ) = some σ2 ∧ σ2 = gTake tk pl 303 σ := ⟨_, by unfold gRange; rw [gIs_dead al1, if_neg (by decide)], rfl⟩
        obtain ⟨r1, rfl⟩ := r1
        rw [r1, obind, gTake_dead al1]
        unfold fn_Grammar_declaration_Gr bk_Grammar_declaration_Gr_91
        rw [if_neg (show ¬ c1.1 214 0 = 91 from kneg (k := 91) T' a2 (by decide) (fun z => absurd z al1))]
        obtain ⟨c2, d1, d2, d3, d4⟩ := kdue (N := N) T' 400 (by decide) a2
        rw [show fn_Tokens_due_Tk N 2 c1 = some (b01 (gIs tk 400 (gTake tk pl 303 σ)), c2) from d1, obind]
        dsimp only
        rw [gIs_dead al1, if_pos (show b01 false = 0 from rfl)]
        rw [gIs_dead al1, if_neg (by decide), gNo_dead al1] at d2
        obtain ⟨c3, m1, m2, m3⟩ := d124Z (N := N) (x := 1) T' d2 al1
        rw [m1, obind]
        exact ⟨c3, _, rfl, rfl, m2, ((kd a3).trans (kd d3)).trans (kd m3), le, fun z => absurd z al1⟩
end CPORT
